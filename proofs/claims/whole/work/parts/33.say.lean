/-! sayings as data: word, number, X, Y, turned, fact -/
abbrev Sd : Type := Nat × Nat × Nat × Nat × Bool × Int32
def sdW (d : Sd) : Nat := d.1
def sdN (d : Sd) : Nat := d.2.1
def sdX (d : Sd) : Nat := d.2.2.1
def sdY (d : Sd) : Nat := d.2.2.2.1
def sdT (d : Sd) : Bool := d.2.2.2.2.1
def sdF (d : Sd) : Int32 := d.2.2.2.2.2
/-- the class's saying at the object q -/
def SX (τ : Tau) (q : Nat) (d : Sd) : Prop := tI τ q 0 = nI (sdW d) ∧ tI τ q 1 = nI (sdN d) ∧ tI τ q 2 = nI (sdX d) ∧ tI τ q 3 = nI (sdY d) ∧ tI τ q 5 = bI (sdT d) ∧ tI τ q 4 = sdF d
/-- the reference's saying i -/
def SM (τ : Tau) (i : Nat) (d : Sd) : Prop := tA τ 3 (6 * i) = nI (sdW d) ∧ tA τ 3 (6 * i + 1) = nI (sdX d) ∧ tA τ 3 (6 * i + 2) = nI (sdY d) ∧ tA τ 3 (6 * i + 3) = nI (sdN d) ∧ tA τ 3 (6 * i + 4) = bI (sdT d) ∧ tA τ 3 (6 * i + 5) = sdF d
def FactOk (K : Nat) (f : Int32) : Prop := f = -9 ∨ ∃ n : Nat, n < 64 ∧ f = nI n ∧ n / 4 % 4 < K ∧ n % 4 < K
def Sok (K : Nat) (d : Sd) : Prop := sdW d < 8 ∧ sdN d ≤ 6 ∧ sdX d < 2 ^ (2 ^ K) ∧ sdY d < 2 ^ (2 ^ K) ∧ FactOk K (sdF d)
def truU (w n x y b : Nat) : Bool := if w = 0 then decide (b = x) else if w = 1 then decide (0 < b) else if w = 2 then decide (b = 0) else if w = 3 then decide (x < 2 * b) else if w = 4 then decide (n ≤ b) else if w = 5 then decide (b = n) else if w = 6 then decide (y < x) else decide (x = y)
def tru (d : Sd) (x y b : Nat) : Bool := sdT d != truU (sdW d) (sdN d) x y b
/-- how many things are of the sorts of a set -/
def cnt (X : Nat) (c : Nat → Nat) : Nat := sumTo (fun s => if X.testBit s then c s else 0) 16
def hold (d : Sd) (c : Nat → Nat) : Bool := tru d (cnt (sdX d) c) (cnt (sdY d) c) (cnt (sdX d &&& sdY d) c)
def wgt (d : Sd) (s : Nat) : Nat := (if (sdX d).testBit s then 1 else 0) + (if (sdY d).testBit s then 16 else 0) + (if (sdX d &&& sdY d).testBit s then 256 else 0)
theorem wgt_le (d : Sd) (s : Nat) : wgt d s ≤ 273 := by
  unfold wgt
  split <;> split <;> split <;> omega
theorem pow2K {K : Nat} (h : K ≤ 4) : 2 ^ (2 ^ K) ≤ 65536 := by
  have : K = 0 ∨ K = 1 ∨ K = 2 ∨ K = 3 ∨ K = 4 := by omega
  rcases this with rfl | rfl | rfl | rfl | rfl <;> decide
theorem x_weight {τ : Tau} {q : Nat} {d : Sd} (h : SX τ q d) (hX : sdX d < 65536) (hY : sdY d < 65536) {s : Nat} (hs : s < 16) : fX3_weight q τ (nI s) = nI (wgt d s) := by
  obtain ⟨h0, h1, h2, h3, h4, h5⟩ := h
  unfold fX3_weight
  rw [h2, h3]
  simp only [nm]
  rw [nI_bit (by omega) (by omega), nI_bit (by omega) (by omega)]
  unfold wgt
  rw [Nat.testBit_and]
  cases (sdX d).testBit s <;> cases (sdY d).testBit s <;> decide +kernel
theorem nib {x y b : Nat} (hx : x < 16) (hy : y < 16) (hb : b < 16) : (nI (x + 16 * y + 256 * b) &&& 15 = nI x) ∧ ((nI (x + 16 * y + 256 * b) >>> ((4 : Int32) &&& 31)) &&& 15 = nI y) ∧ ((nI (x + 16 * y + 256 * b) >>> ((8 : Int32) &&& 31)) &&& 15 = nI b) := by
  have e4 : (4 : Int32) = nI 4 := rfl
  have e8 : (8 : Int32) = nI 8 := rfl
  refine ⟨?_, ?_, ?_⟩
  · rw [pk_andN (k := 4) (by omega) rfl]
    congr 1
    omega
  · rw [e4, nI_shr (by omega) (by omega), pk_andN (k := 4) (by omega) rfl]
    congr 1
    omega
  · rw [e8, nI_shr (by omega) (by omega), pk_andN (k := 4) (by omega) rfl]
    congr 1
    omega
theorem ite_b {c : Prop} [Decidable c] : (if c then true else false) = decide c := by
  by_cases h : c <;> simp [h]
theorem ite_nb {c : Prop} [Decidable c] : (if c then false else true) = decide (¬ c) := by
  by_cases h : c <;> simp [h]
theorem x_unturned {τ : Tau} {q : Nat} {d : Sd} (h : SX τ q d) (hw : sdW d < 8) (hn : sdN d ≤ 6) {x y b : Nat} (hx : x < 16) (hy : y < 16) (hb : b < 16) : fX3_isTrueUnturned q τ (nI x) (nI y) (nI b) = truU (sdW d) (sdN d) x y b := by
  obtain ⟨h0, h1, h2, h3, h4, h5⟩ := h
  unfold fX3_isTrueUnturned truU
  rw [h0, h1]
  have e2 : (2 : Int32) * nI b = nI (2 * b) := by rw [i2, pk_mul]
  simp only [e2, i0, i1, i3, i4, i5, i6]
  simp only [i2, pk_mul]
  have hw' : sdW d < 2 ^ 31 := by omega
  simp only [nI_eq hw' (show (0 : Nat) < 2 ^ 31 by decide), nI_eq hw' (show (1 : Nat) < 2 ^ 31 by decide), nI_eq hw' (show (2 : Nat) < 2 ^ 31 by decide), nI_eq hw' (show (3 : Nat) < 2 ^ 31 by decide), nI_eq hw' (show (4 : Nat) < 2 ^ 31 by decide), nI_eq hw' (show (5 : Nat) < 2 ^ 31 by decide), nI_eq hw' (show (6 : Nat) < 2 ^ 31 by decide)]
  simp only [nI_eq (show b < 2 ^ 31 by omega) (show x < 2 ^ 31 by omega), nI_eq (show b < 2 ^ 31 by omega) (show 0 < 2 ^ 31 by omega), nI_eq (show x < 2 ^ 31 by omega) (show y < 2 ^ 31 by omega), nI_eq (show b < 2 ^ 31 by omega) (show sdN d < 2 ^ 31 by omega),
    nI_leI (show b < 2 ^ 31 by omega) (show 0 < 2 ^ 31 by omega), nI_leI (show 2 * b < 2 ^ 31 by omega) (show x < 2 ^ 31 by omega), nI_leI (show x < 2 ^ 31 by omega) (show y < 2 ^ 31 by omega), nI_ltI (show b < 2 ^ 31 by omega) (show sdN d < 2 ^ 31 by omega)]
  have k1 : (if b ≤ 0 then false else true) = decide (0 < b) := by by_cases h : b = 0 <;> simp [h] <;> omega
  have k2 : (if b = 0 then true else false) = decide (b = 0) := by by_cases h : b = 0 <;> simp [h]
  have k3 : (if 2 * b ≤ x then false else true) = decide (x < 2 * b) := by by_cases h : 2 * b ≤ x <;> simp [h] <;> omega
  simp only [ite_b, ite_nb, Nat.not_le, Nat.not_lt]
theorem x_isTrue {τ : Tau} {q : Nat} {d : Sd} (h : SX τ q d) (hw : sdW d < 8) (hn : sdN d ≤ 6) {x y b : Nat} (hx : x < 16) (hy : y < 16) (hb : b < 16) : fX3_isTrue q τ (nI (x + 16 * y + 256 * b)) = tru d x y b := by
  unfold fX3_isTrue
  obtain ⟨e1, e2, e3⟩ := nib hx hy hb
  rw [e1, e2, e3, x_unturned h hw hn hx hy hb]
  simp only [nm]
  rw [h.2.2.2.2.1]
  unfold tru
  cases sdT d <;> cases truU (sdW d) (sdN d) x y b <;> decide
/-- the sum of all weights, and the three counts in it -/
theorem wsum (d : Sd) (c : Nat → Nat) (n : Nat) : sumTo (fun s => c s * wgt d s) n = sumTo (fun s => if (sdX d).testBit s then c s else 0) n + 16 * sumTo (fun s => if (sdY d).testBit s then c s else 0) n + 256 * sumTo (fun s => if (sdX d &&& sdY d).testBit s then c s else 0) n := by
  induction n with
  | zero => rfl
  | succ n ih =>
    simp only [sumTo, ih]
    unfold wgt
    have : ∀ b : Bool, c n * (if b = true then 1 else 0) = if b = true then c n else 0 := by intro b; cases b <;> simp
    rw [Nat.mul_add, Nat.mul_add]
    split <;> split <;> split <;> omega
theorem cnt_le (X : Nat) (c : Nat → Nat) : cnt X c ≤ sumTo c 16 := sumTo_mono (fun i _ => by split <;> omega)
