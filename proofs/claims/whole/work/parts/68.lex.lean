/-! reading a text: bytes, words, numbers; the class's side -/
def cB (len : Nat) (tx : Nat → Nat) (p : Nat) : Int32 := if p < len then nI (tx p) else -1
def LX (τ : Tau) (len : Nat) (tx : Nat → Nat) : Prop := tI τ 14 1 = nI len ∧ len ≤ 80 ∧ ∀ j, j < len → tA τ 15 j = nI (tx j) ∧ tx j < 256
def LM (τ : Tau) (len : Nat) (tx : Nat → Nat) : Prop := tI τ 0 6 = nI len ∧ len ≤ 80 ∧ (∀ j, j < len → tA τ 2 j = nI (tx j)) ∧ ∀ j, j < len → tx j < 256
section LE
variable {len : Nat} {tx : Nat → Nat}
theorem x_byteAt {τ : Tau} {p : Nat} (h : LX τ len tx) (hp : p < 2 ^ 31) : fX4_byteAt τ (nI p) = some (cB len tx p) := by
  obtain ⟨h1, h2, h3⟩ := h
  unfold fX4_byteAt cB
  rw [if_neg (nI_pos hp), h1]
  by_cases q : p < len
  · rw [if_neg (nI_ge q (by omega)), i80, if_neg (nI_ge (show p < 80 by omega) (by omega)), if_neg (nI_in (show p < 80 by omega) (by decide)), nI_clamp (by omega), (h3 p q).1, if_pos q]
  · rw [if_pos (nI_le (by omega) hp), if_neg q]
theorem m_byteAt {τ : Tau} {p : Nat} (h : LM τ len tx) (hp : p < 2 ^ 31) : fX7_byteAt τ (nI p) = some (cB len tx p) := by
  obtain ⟨h1, h2, h3, _⟩ := h
  unfold fX7_byteAt cB
  rw [h1]
  by_cases q : p < len
  · rw [if_neg (nI_ge q (by omega)), if_neg (nI_in (show p < 80 by omega) (by decide)), nI_clamp (by omega), h3 p q, if_pos q]
  · rw [if_pos (nI_le (by omega) hp), if_neg q]
theorem LX.fr {τ τ' : Tau} {F : List (Nat × Nat)} {A : List Nat} (h : LX τ len tx) (hF : Fr F A τ τ') (h1 : (14, 1) ∉ F) (h2 : 15 ∉ A) : LX τ' len tx :=
  ⟨by rw [(hF.1 14 1 h1).1]; exact h.1, h.2.1, fun j hj => by rw [(hF.2 15 h2 j).1]; exact h.2.2 j hj⟩
theorem LM.fr {τ τ' : Tau} {F : List (Nat × Nat)} {A : List Nat} (h : LM τ len tx) (hF : Fr F A τ τ') (h1 : (0, 6) ∉ F) (h2 : 2 ∉ A) : LM τ' len tx :=
  ⟨by rw [(hF.1 0 6 h1).1]; exact h.1, h.2.1, fun j hj => by rw [(hF.2 2 h2 j).1]; exact h.2.2.1 j hj, h.2.2.2⟩
/-- how far a run of bytes of a sort goes -/
def ends (P : Nat → Bool) (len : Nat) (tx : Nat → Nat) : Nat → Nat → Nat
  | 0, p => p
  | n + 1, p => if p < len ∧ P (tx p) = true then ends P len tx n (p + 1) else p
theorem ends_le (P : Nat → Bool) (len : Nat) (tx : Nat → Nat) : ∀ n p, p ≤ ends P len tx n p ∧ ends P len tx n p ≤ p + n
  | 0, p => ⟨Nat.le_refl _, Nat.le_refl _⟩
  | n + 1, p => by
    rw [ends]
    split
    · have := ends_le P len tx n (p + 1)
      omega
    · omega
theorem ends_len (P : Nat → Bool) (len : Nat) (tx : Nat → Nat) : ∀ n p, p ≤ len → ends P len tx n p ≤ len
  | 0, p, h => h
  | n + 1, p, h => by
    rw [ends]
    split
    · rename_i q
      exact ends_len P len tx n (p + 1) (by omega)
    · exact h
def isLow (c : Nat) : Bool := decide (97 ≤ c ∧ c ≤ 122)
def isFig (c : Nat) : Bool := decide (48 ≤ c ∧ c ≤ 57)
theorem x_letter : ∀ c, c < 256 → fX4_isLetter (nI c) = isLow c := by decide +kernel
theorem x_figure : ∀ c, c < 256 → fX4_isFigure (nI c) = isFig c := by decide +kernel
theorem m_low : ∀ c, c < 256 → fX7_in (nI c) (97 : Int32) (122 : Int32) = isLow c := by decide +kernel
theorem m_fig : ∀ c, c < 256 → fX7_in (nI c) (48 : Int32) (57 : Int32) = isFig c := by decide +kernel
/-- the letters of a word, packed -/
def pack (tx : Nat → Nat) (p : Nat) : Nat → Nat
  | 0 => 0
  | n + 1 => 256 * pack tx p n + tx (p + n)
theorem qN_mod {a b : Nat} (h : a % 2 ^ 64 = b % 2 ^ 64) : qN a = qN b := by
  apply Int64.toBitVec_inj.mp
  rw [qN_bv, qN_bv]
  apply BitVec.eq_of_toNat_eq
  rw [BitVec.toNat_ofNat, BitVec.toNat_ofNat, h]
theorem qN_inj {a b : Nat} (h : qN a = qN b) : a % 2 ^ 64 = b % 2 ^ 64 := by
  have := congrArg (fun x => (Int64.toBitVec x).toNat) h
  rw [qN_bv, qN_bv, BitVec.toNat_ofNat, BitVec.toNat_ofNat] at this
  exact this
theorem qN_lbM {n i : Nat} (hi : i < 64) : lb (qN n) i = n.testBit i := by
  unfold lb
  rw [qN_bv, BitVec.getLsbD_ofNat]
  simp [hi]
theorem i64_nI {c : Nat} (h : c < 2 ^ 31) : (nI c).toInt64 = qN c := by
  apply Int64.toInt_inj.mp
  rw [Int32.toInt_toInt64, nI_toInt h]
  unfold qN
  rw [lg_ofNat_toInt (by omega)]
theorem x_packStep {n c : Nat} (hc : c < 256) : (qN n <<< ((8 : Int32).toInt64 &&& 63)) ||| (nI c).toInt64 = qN (256 * n + c) := by
  rw [i64_nI (by omega), show (8 : Int32) = nI 8 from rfl]
  apply lb_ext
  intro i hi
  rw [lb_or, lb_shl _ (by omega) hi, qN_lbM hi, qN_lbM hi, show 256 * n + c = 2 ^ 8 * n + c from rfl, Nat.testBit_two_pow_mul_add n (show c < 2 ^ 8 by omega)]
  by_cases q : i < 8
  · rw [if_pos q, decide_eq_false (by omega), Bool.false_and, Bool.false_or]
  · rw [if_neg q, decide_eq_true (by omega), Bool.true_and, qN_lbM (by omega)]
    have : 2 ^ 8 ≤ 2 ^ i := Nat.pow_le_pow_right (by omega) (by omega)
    rw [Nat.testBit_lt_two_pow (show c < 2 ^ i by omega), Bool.or_false]
theorem m_packStep {n c : Nat} (hc : c < 256) (h0 : c ≠ 0) : fX7_add (qN n) (nI c) = qN (256 * n + c) := by
  unfold fX7_add
  rw [if_neg (nI_n0 (by omega) h0), i64_nI (by omega), show (256 : Int64) = qN 256 from rfl]
  show Int64.ofNat 256 * Int64.ofNat n + Int64.ofNat c = Int64.ofNat (256 * n + c)
  rw [← Int64.ofNat_mul, ← Int64.ofNat_add]
/-- the nine words, packed -/
def vw (k : Nat) : Nat := [6384748, 1936682341, 28271, 1836020596, 465557353332, 1786082164, 1836020325, 1702258030, 7237492].getD k 0
theorem vw_ok : ∀ k, k < 9 → vWORDS k = qN (vw k) ∧ 0 < vw k ∧ vw k < 2 ^ 39 := by decide
theorem vw_one : ∀ k, k < 9 → ∀ j, j < 9 → vw k = vw j → k = j := by decide
def wdK (n : Nat) : Option Nat := srch (fun k => decide (vw k = n)) 9 0
theorem pack_lt {p : Nat} : ∀ c, (∀ j, j < p + c → tx j < 256) → pack tx p c < 256 ^ c
  | 0, _ => by simp [pack]
  | c + 1, h => by
    have ih := pack_lt c (p := p) (fun j hj => h j (by omega))
    have := h (p + c) (by omega)
    rw [pack, Nat.pow_succ]
    omega
theorem pack_div {p : Nat} (c : Nat) : ∀ i, (∀ j, j < p + (c + i) → tx j < 256) → pack tx p (c + i) / 256 ^ i = pack tx p c
  | 0, _ => by simp
  | i + 1, h => by
    have ih := pack_div c i (p := p) (fun j hj => h j (by omega))
    have hb := h (p + (c + i)) (by omega)
    rw [← Nat.add_assoc, pack, Nat.pow_succ, Nat.mul_comm (256 ^ i) 256, ← Nat.div_div_eq_div_mul, show (256 * pack tx p (c + i) + tx (p + (c + i))) / 256 = pack tx p (c + i) by omega, ih]
/-- a long word is none of the nine -/
theorem pack_long {p c k : Nat} (hc : 6 ≤ c) (h : ∀ j, j < p + c → tx j < 256) (hl : ∀ j, p ≤ j → j < p + c → 97 ≤ tx j) (hk : k < 9) : vw k % 2 ^ 64 ≠ pack tx p c % 2 ^ 64 := by
  intro e
  have hv := (vw_ok k hk).2.2
  have hd := pack_div (tx := tx) (p := p) (c - 5) 5 (by rw [show c - 5 + 5 = c by omega]; exact h)
  rw [show c - 5 + 5 = c by omega] at hd
  obtain ⟨c', hc'⟩ : ∃ c', c - 5 = c' + 1 := ⟨c - 6, by omega⟩
  rw [hc', pack] at hd
  have h1 := hl (p + c') (by omega) (by omega)
  have h2 := h (p + c') (by omega)
  have e5 : (256 : Nat) ^ 5 = 2 ^ 40 := by decide
  rw [e5] at hd
  generalize pack tx p c = n at *
  generalize pack tx p c' = m at *
  generalize tx (p + c') = b at *
  omega
end LE
