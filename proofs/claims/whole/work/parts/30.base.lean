/-! plain facts for the pure side: small numbers as Int32, sums, frames of the typed memory -/
theorem i0 : (0 : Int32) = nI 0 := rfl
theorem i1 : (1 : Int32) = nI 1 := rfl
theorem i2 : (2 : Int32) = nI 2 := rfl
theorem i3 : (3 : Int32) = nI 3 := rfl
theorem i4 : (4 : Int32) = nI 4 := rfl
theorem i5 : (5 : Int32) = nI 5 := rfl
theorem i6 : (6 : Int32) = nI 6 := rfl
theorem i7 : (7 : Int32) = nI 7 := rfl
theorem i8 : (8 : Int32) = nI 8 := rfl
theorem i9 : (9 : Int32) = nI 9 := rfl
theorem i10 : (10 : Int32) = nI 10 := rfl
theorem i15 : (15 : Int32) = nI 15 := rfl
theorem i16 : (16 : Int32) = nI 16 := rfl
theorem i64 : (64 : Int32) = nI 64 := rfl
theorem i80 : (80 : Int32) = nI 80 := rfl
theorem i1023 : (1023 : Int32) = nI 1023 := rfl
theorem i1024 : (1024 : Int32) = nI 1024 := rfl
/-- the natural number that a number not below 0 is -/
abbrev cl (x : Int32) : Nat := x.toNatClampNeg
theorem cl_lt (x : Int32) : cl x < 2 ^ 31 := by
  show x.toNatClampNeg < 2 ^ 31
  rw [← Int32.toNat_toInt]
  have h := x.toInt_lt
  omega
theorem cl_of {x : Int32} (h : ¬ x < 0) : x = nI (cl x) := by
  obtain ⟨j, hj, e⟩ := nI_of h
  subst e
  show nI j = nI (nI j).toNatClampNeg
  rw [nI_clamp hj]
theorem cl_nI {n : Nat} (h : n < 2 ^ 31) : cl (nI n) = n := nI_clamp h
theorem nI_inj {a b : Nat} (ha : a < 2 ^ 31) (hb : b < 2 ^ 31) (h : nI a = nI b) : a = b := (nI_eq ha hb).mp h
theorem nI_or (a b : Nat) : nI a ||| nI b = nI (a ||| b) := by
  apply Int32.toBitVec_inj.mp
  rw [Int32.toBitVec_or]
  show BitVec.ofNat 32 a ||| BitVec.ofNat 32 b = BitVec.ofNat 32 (a ||| b)
  apply BitVec.eq_of_getLsbD_eq
  intro i hi
  simp [BitVec.getLsbD_or, BitVec.getLsbD_ofNat, hi]
theorem nI_and (a b : Nat) : nI a &&& nI b = nI (a &&& b) := by
  apply Int32.toBitVec_inj.mp
  rw [Int32.toBitVec_and]
  show BitVec.ofNat 32 a &&& BitVec.ofNat 32 b = BitVec.ofNat 32 (a &&& b)
  apply BitVec.eq_of_getLsbD_eq
  intro i hi
  simp [BitVec.getLsbD_and, BitVec.getLsbD_ofNat, hi]
theorem i32_sm : ∀ i, i < 31 → ((nI i &&& 31).toBitVec.smod 32).toNat = i := by decide +kernel
theorem nI_shl {a i : Nat} (hi : i < 31) (h : a * 2 ^ i < 2 ^ 32) : nI a <<< (nI i &&& 31) = nI (a * 2 ^ i) := pk_shlN _ i (i32_sm i hi) h
theorem nI_shr {a i : Nat} (ha : a < 2 ^ 31) (hi : i < 31) : nI a >>> (nI i &&& 31) = nI (a / 2 ^ i) := pk_shrN ha _ i (i32_sm i hi)
theorem nI_one {i : Nat} (hi : i < 31) : (1 : Int32) <<< (nI i &&& 31) = nI (2 ^ i) := by
  have h : 1 * 2 ^ i < 2 ^ 32 := by
    have := Nat.pow_lt_pow_right (a := 2) (by omega) (show i < 32 by omega)
    omega
  have := nI_shl (a := 1) hi h
  rw [Nat.one_mul] at this
  exact this
theorem nI_bit {a i : Nat} (ha : a < 2 ^ 31) (hi : i < 31) : (nI a >>> (nI i &&& 31)) &&& 1 = nI (if a.testBit i then 1 else 0) := by
  rw [nI_shr ha hi, i1, nI_and, Nat.and_one_is_mod, Nat.testBit_eq_decide_div_mod_eq]
  rcases Nat.mod_two_eq_zero_or_one (a / 2 ^ i) with h | h <;> simp [h]
/-- a mask taken away -/
theorem nI_not {a b : Nat} (ha : a < 2 ^ 31) (hb : b < 2 ^ 31) : nI a &&& (nI b ^^^ (-1)) = nI (a &&& (b ^^^ (2 ^ 31 - 1))) := by
  apply Int32.toBitVec_inj.mp
  rw [Int32.toBitVec_and, Int32.toBitVec_xor]
  show BitVec.ofNat 32 a &&& (BitVec.ofNat 32 b ^^^ BitVec.ofInt 32 (-1)) = BitVec.ofNat 32 (a &&& (b ^^^ (2 ^ 31 - 1)))
  apply BitVec.eq_of_getLsbD_eq
  intro i hi
  have h1 : (BitVec.ofInt 32 (-1)).getLsbD i = true := by
    have : BitVec.ofInt 32 (-1) = BitVec.allOnes 32 := by decide
    rw [this, BitVec.getLsbD_allOnes]; exact decide_eq_true hi
  have h2 : (2147483647 : Nat).testBit i = decide (i < 31) := by
    rw [show (2147483647 : Nat) = 2 ^ 31 - 1 by decide]
    exact Nat.testBit_two_pow_sub_one 31 i
  simp only [BitVec.getLsbD_and, BitVec.getLsbD_xor, BitVec.getLsbD_ofNat, hi, h1, Nat.testBit_and, Nat.testBit_xor, decide_true, Bool.true_and, show (2 ^ 31 - 1 : Nat) = 2147483647 by decide, h2]
  by_cases h31 : i < 31
  · simp [h31]
  · have : i = 31 := by omega
    subst this
    rw [Nat.testBit_lt_two_pow ha]
    simp
theorem bI_0 {b : Bool} : bI b = 0 ↔ b = false := by cases b <;> simp [bI]
theorem bI_n0 {b : Bool} : ¬ bI b = 0 ↔ b = true := by cases b <;> simp [bI]
theorem bI_1 {b : Bool} : bI b = 1 ↔ b = true := by cases b <;> simp [bI]
theorem nm_i {α β : Type} (x : α) (f : α → β) : nm x f = f x := rfl
-- sums over the first n numbers
def sumTo (f : Nat → Nat) : Nat → Nat
  | 0 => 0
  | n + 1 => sumTo f n + f n
theorem sumTo_congr {f g : Nat → Nat} : ∀ {n : Nat}, (∀ i, i < n → f i = g i) → sumTo f n = sumTo g n
  | 0, _ => rfl
  | n + 1, h => by rw [sumTo, sumTo, sumTo_congr (fun i hi => h i (by omega)), h n (by omega)]
theorem sumTo_mono {f g : Nat → Nat} : ∀ {n : Nat}, (∀ i, i < n → f i ≤ g i) → sumTo f n ≤ sumTo g n
  | 0, _ => Nat.le_refl _
  | n + 1, h => Nat.add_le_add (sumTo_mono (fun i hi => h i (by omega))) (h n (by omega))
theorem sumTo_le {f : Nat → Nat} {n m : Nat} (h : n ≤ m) : sumTo f n ≤ sumTo f m := by
  induction m with
  | zero => have : n = 0 := by omega
            subst this; exact Nat.le_refl _
  | succ m ih =>
    by_cases e : n = m + 1
    · subst e; exact Nat.le_refl _
    · exact Nat.le_trans (ih (by omega)) (Nat.le_add_right _ _)
theorem sumTo_one {f : Nat → Nat} {n i : Nat} (h : i < n) : f i ≤ sumTo f n := by
  have h1 := sumTo_le (f := f) (show i + 1 ≤ n from h)
  rw [sumTo] at h1
  omega
theorem sumTo_add {f g : Nat → Nat} : ∀ (n : Nat), sumTo (fun i => f i + g i) n = sumTo f n + sumTo g n
  | 0 => rfl
  | n + 1 => by rw [sumTo, sumTo, sumTo, sumTo_add n]; omega
theorem sumTo_zero {f : Nat → Nat} : ∀ {n : Nat}, (∀ i, i < n → f i = 0) → sumTo f n = 0
  | 0, _ => rfl
  | n + 1, h => by rw [sumTo, sumTo_zero (fun i hi => h i (by omega)), h n (by omega)]
theorem sumTo_ext {f : Nat → Nat} {n m : Nat} (h : n ≤ m) (h0 : ∀ i, n ≤ i → i < m → f i = 0) : sumTo f m = sumTo f n := by
  induction m with
  | zero => have : n = 0 := by omega
            subst this; rfl
  | succ m ih =>
    by_cases e : n = m + 1
    · subst e; rfl
    · rw [sumTo, h0 m (by omega) (by omega), ih (by omega) (fun i h1 h2 => h0 i h1 (by omega))]; rfl
theorem sumTo_up {f : Nat → Nat} {n k v : Nat} (h : k < n) : sumTo (fun i => if i = k then v else f i) n + f k = sumTo f n + v := by
  induction n with
  | zero => omega
  | succ n ih =>
    rw [sumTo, sumTo]
    by_cases e : k = n
    · subst e
      rw [if_pos rfl, sumTo_congr (g := f) (fun i hi => if_neg (by omega))]
      omega
    · have := ih (by omega)
      rw [if_neg (show ¬ n = k from fun z => e z.symm)]
      omega
-- frames
def Fr (F : List (Nat × Nat)) (S : List Nat) (τ τ' : Tau) : Prop :=
  (∀ k j, (k, j) ∉ F → tI τ' k j = tI τ k j ∧ tL τ' k j = tL τ k j) ∧ (∀ k, k ∉ S → ∀ j, tA τ' k j = tA τ k j ∧ tB τ' k j = tB τ k j)
theorem Fr.rf {F : List (Nat × Nat)} {S : List Nat} {τ : Tau} : Fr F S τ τ := ⟨fun _ _ _ => ⟨rfl, rfl⟩, fun _ _ _ => ⟨rfl, rfl⟩⟩
theorem Fr.tr {F : List (Nat × Nat)} {S : List Nat} {τ τ1 τ2 : Tau} (h : Fr F S τ τ1) (h2 : Fr F S τ1 τ2) : Fr F S τ τ2 :=
  ⟨fun k j hk => ⟨(h2.1 k j hk).1.trans (h.1 k j hk).1, (h2.1 k j hk).2.trans (h.1 k j hk).2⟩, fun k hk j => ⟨(h2.2 k hk j).1.trans (h.2 k hk j).1, (h2.2 k hk j).2.trans (h.2 k hk j).2⟩⟩
theorem Fr.wk {F F' : List (Nat × Nat)} {S S' : List Nat} {τ τ' : Tau} (h : Fr F S τ τ') (h1 : ∀ q ∈ F, q ∈ F') (h2 : ∀ q ∈ S, q ∈ S') : Fr F' S' τ τ' :=
  ⟨fun k j hk => h.1 k j (fun z => hk (h1 _ z)), fun k hk => h.2 k (fun z => hk (h2 _ z))⟩
theorem Fr.sI {F : List (Nat × Nat)} {S : List Nat} {τ : Tau} {k j : Nat} {v : Int32} (h : (k, j) ∈ F) : Fr F S τ (sI τ k j v) :=
  ⟨fun a b hab => ⟨by rw [tI_sI]; exact if_neg (fun z => hab (by rw [z.1, z.2]; exact h)), rfl⟩, fun _ _ _ => ⟨rfl, rfl⟩⟩
theorem Fr.sL {F : List (Nat × Nat)} {S : List Nat} {τ : Tau} {k j : Nat} {v : Int64} (h : (k, j) ∈ F) : Fr F S τ (sL τ k j v) :=
  ⟨fun a b hab => ⟨rfl, by rw [tL_sL]; exact if_neg (fun z => hab (by rw [z.1, z.2]; exact h))⟩, fun _ _ _ => ⟨rfl, rfl⟩⟩
theorem Fr.sA {F : List (Nat × Nat)} {S : List Nat} {τ : Tau} {k j : Nat} {v : Int32} (h : k ∈ S) : Fr F S τ (sA τ k j v) :=
  ⟨fun _ _ _ => ⟨rfl, rfl⟩, fun a ha b => ⟨by rw [tA_sA]; exact if_neg (fun z => ha (by rw [z.1]; exact h)), rfl⟩⟩
theorem Fr.sB {F : List (Nat × Nat)} {S : List Nat} {τ : Tau} {k j : Nat} {v : Int64} (h : k ∈ S) : Fr F S τ (sB τ k j v) :=
  ⟨fun _ _ _ => ⟨rfl, rfl⟩, fun a ha b => ⟨rfl, by rw [tB_sB]; exact if_neg (fun z => ha (by rw [z.1]; exact h))⟩⟩
theorem Fr.sN {F : List (Nat × Nat)} {S : List Nat} {τ : Tau} {v : Int32} (h : (26, 0) ∈ F) (h2 : 26 ∈ S) : Fr F S τ (sN τ v) :=
  ⟨fun a b hab => ⟨by rw [tI_sN]; exact if_neg (fun z => hab (by rw [z.1, z.2]; exact h)), rfl⟩, fun a ha b => ⟨by rw [tA_sN]; exact if_neg (fun z => ha (by rw [z]; exact h2)), rfl⟩⟩
