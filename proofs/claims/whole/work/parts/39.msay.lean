/-! the reference: sayings in worlds -/
/-- the row q holds so many things of each sort, none beyond the sorts of K kinds -/
def RowIs (τ : Tau) (K q : Nat) (c : Nat → Nat) : Prop := (∀ s, s < 16 → tA τ q s = nI (c s)) ∧ (∀ s, 2 ^ K ≤ s → c s = 0) ∧ sumTo c 16 ≤ 6
theorem RowIs.fr {τ τ' : Tau} {K q : Nat} {c : Nat → Nat} {F : List (Nat × Nat)} {A : List Nat} (h : RowIs τ K q c) (hF : Fr F A τ τ') (hq : q ∉ A) : RowIs τ' K q c :=
  ⟨fun s hs => by rw [(hF.2 q hq s).1]; exact h.1 s hs, h.2⟩
theorem SM.fr {τ τ' : Tau} {i : Nat} {d : Sd} {F : List (Nat × Nat)} {A : List Nat} (h : SM τ i d) (hF : Fr F A τ τ') (hq : 3 ∉ A) : SM τ' i d := by
  obtain ⟨h0, h1, h2, h3, h4, h5⟩ := h
  refine ⟨?_, ?_, ?_, ?_, ?_, ?_⟩ <;> rw [(hF.2 3 hq _).1] <;> assumption
theorem pow2_16 {K : Nat} (h : K ≤ 4) : 2 ^ K ≤ 16 := by
  have : K = 0 ∨ K = 1 ∨ K = 2 ∨ K = 3 ∨ K = 4 := by omega
  rcases this with rfl | rfl | rfl | rfl | rfl <;> decide
theorem m_sorts {τ : Tau} {K : Nat} (h : tI τ 0 1 = nI K) (hK : K ≤ 4) : fX7_sorts τ = nI (2 ^ K) := by
  unfold fX7_sorts
  rw [h, nI_one (by omega)]
theorem bit1 (b : Bool) : (nI (if b then 1 else 0) = 1) ↔ b = true := by cases b <;> decide
theorem m_sizeOf {τ : Tau} {K q X : Nat} {c : Nat → Nat} (hk : tI τ 0 1 = nI K) (hK : K ≤ 4) (hc : RowIs τ K q c) (hX : X < 65536) : fX7_sizeOf q τ (nI X) = some (nI (cnt X c)) := by
  have hS := pow2_16 hK
  have e : cnt X c = sumTo (fun s => if X.testBit s then c s else 0) (2 ^ K) := sumTo_ext hS (fun s h1 _ => by rw [hc.2.1 s h1]; simp)
  rw [e]
  have key : ∀ N i, i ≤ 2 ^ K → 2 ^ K - i < N → fX7_sizeOf_5 q τ (nI X) N (nI (sumTo (fun s => if X.testBit s then c s else 0) i)) (nI i) = some (nI (sumTo (fun s => if X.testBit s then c s else 0) (2 ^ K))) := by
    intro N
    induction N with
    | zero => intro i _ h; omega
    | succ N ih =>
      intro i hi hN
      rw [fX7_sizeOf_5, nm_i, m_sorts hk hK]
      by_cases hlt : i < 2 ^ K
      · rw [if_neg (nI_ge hlt (by omega)), nI_bit (by omega) (by omega)]
        have e1 := ih (i + 1) (by omega) (by omega)
        cases hb : X.testBit i with
        | true =>
          rw [if_pos ((bit1 true).mpr rfl), if_neg (nI_in (show i < 16 by omega) (by decide)), nI_clamp (by omega), hc.1 i (by omega), fX7_sizeOf_33, nm_i, nm_i, nI_add, i1, nI_add]
          rw [sumTo, if_pos hb] at e1
          exact e1
        | false =>
          rw [if_neg (fun z => by have := (bit1 false).mp z; cases this), i0, fX7_sizeOf_33, nm_i, nm_i, nI_add, i1, nI_add]
          rw [sumTo, hb, if_neg (by decide)] at e1
          exact e1
      · have : i = 2 ^ K := by omega
        subst this
        rw [if_pos (nI_le (Nat.le_refl _) (by omega))]
  unfold fX7_sizeOf
  rw [i0]
  exact key FU 0 (Nat.zero_le _) (by unfold FU; omega)
theorem m_turn {τ : Tau} {q i : Nat} {d : Sd} (hd : SM τ i d) (hi : i < 10) (b : Bool) : fX7_isSo_249 q τ (nI i) (bI b) = some (sdT d != b) := by
  obtain ⟨h0, h1, h2, h3, h4, h5⟩ := hd
  unfold fX7_isSo_249 fX7_isSo_271
  rw [i6, pk_mul, i4, nI_add, if_neg (nI_in (show 6 * i + 4 < 60 by omega) (by decide)), nI_clamp (by omega), h4]
  cases sdT d <;> cases b <;> decide
theorem ite_1 {c : Prop} [Decidable c] {α : Type} (f : Int32 → α) : (if c then f (1 : Int32) else f (0 : Int32)) = f (bI (decide c)) := by
  by_cases h : c <;> simp [h, bI]
theorem ite_0 {c : Prop} [Decidable c] {α : Type} (f : Int32 → α) : (if c then f (0 : Int32) else f (1 : Int32)) = f (bI (decide (¬ c))) := by
  by_cases h : c <;> simp [h, bI]
theorem m_isSo {τ : Tau} {K q i : Nat} {d : Sd} {c : Nat → Nat} (hk : tI τ 0 1 = nI K) (hK : K ≤ 4) (hc : RowIs τ K q c) (hd : SM τ i d) (hi : i < 10) (hl : SdLt d) : fX7_isSo q τ (nI i) = some (hold d c) := by
  obtain ⟨h0, h1, h2, h3, h4, h5⟩ := id hd
  obtain ⟨l0, l1, l2, l3⟩ := hl
  have b1 := cnt_le (sdX d) c
  have b2 := cnt_le (sdY d) c
  have b3 := cnt_le (sdX d &&& sdY d) c
  have hs := hc.2.2
  have hXY : sdX d &&& sdY d < 65536 := Nat.lt_of_le_of_lt Nat.and_le_left l2
  unfold fX7_isSo
  simp only [nm_i]
  rw [i6, pk_mul]
  rw [show nI (6 * i) + (1 : Int32) = nI (6 * i + 1) by rw [i1, nI_add], if_neg (nI_in (show 6 * i + 1 < 60 by omega) (by decide))]
  rw [show nI (6 * i) + (2 : Int32) = nI (6 * i + 2) by rw [i2, nI_add], if_neg (nI_in (show 6 * i + 2 < 60 by omega) (by decide))]
  rw [nI_clamp (show 6 * i + 1 < 2 ^ 31 by omega), nI_clamp (show 6 * i + 2 < 2 ^ 31 by omega), h1, h2, nI_and, m_sizeOf hk hK hc hXY, Option.bind_some, m_sizeOf hk hK hc l2, Option.bind_some]
  rw [show nI (6 * i) + (3 : Int32) = nI (6 * i + 3) by rw [i3, nI_add], if_neg (nI_in (show 6 * i + 3 < 60 by omega) (by decide)), if_neg (nI_in (show 6 * i < 60 by omega) (by decide)), nI_clamp (show 6 * i + 3 < 2 ^ 31 by omega), nI_clamp (show 6 * i < 2 ^ 31 by omega), h0, h3, m_sizeOf hk hK hc l3]
  simp only [Option.bind_some, fX7_isSo_120, fX7_isSo_135, fX7_isSo_150, fX7_isSo_169, fX7_isSo_186, fX7_isSo_203, fX7_isSo_225, fX7_isSo_247, ite_1, ite_0, m_turn hd hi]
  unfold hold tru truU
  generalize cnt (sdX d) c = x at *
  generalize cnt (sdY d) c = y at *
  generalize cnt (sdX d &&& sdY d) c = b at *
  generalize sdW d = w at *
  generalize sdN d = n at *
  have e : ∀ k, k < 8 → ((nI w = nI k) ↔ w = k) := fun k hk => nI_eq (by omega) (by omega)
  have t1 : (nI b = nI x) ↔ b = x := nI_eq (by omega) (by omega)
  have t2 : (nI b ≤ (0 : Int32)) ↔ ¬ 0 < b := by rw [i0, nI_leI (by omega) (by omega)]; omega
  have t3 : (nI b = (0 : Int32)) ↔ b = 0 := by rw [i0]; exact nI_eq (by omega) (by omega)
  have t4 : ((2 : Int32) * nI b ≤ nI x) ↔ ¬ x < 2 * b := by rw [i2, pk_mul, nI_leI (by omega) (by omega)]; omega
  have t5 : (nI b < nI n) ↔ ¬ n ≤ b := by rw [nI_ltI (by omega) (by omega)]; omega
  have t6 : (nI b = nI n) ↔ b = n := nI_eq (by omega) (by omega)
  have t7 : (nI x ≤ nI y) ↔ ¬ y < x := by rw [nI_leI (by omega) (by omega)]; omega
  have t8 : (nI x = nI y) ↔ x = y := nI_eq (by omega) (by omega)
  rw [show (0 : Int32) = nI 0 from rfl, show (1 : Int32) = nI 1 from rfl, show (2 : Int32) = nI 2 from rfl, show (3 : Int32) = nI 3 from rfl, show (4 : Int32) = nI 4 from rfl, show (5 : Int32) = nI 5 from rfl]
  have t4' : (nI 2 * nI b ≤ nI x) ↔ ¬ x < 2 * b := t4
  have t2' : (nI b ≤ nI 0) ↔ ¬ 0 < b := t2
  have t3' : (nI b = nI 0) ↔ b = 0 := t3
  by_cases w0 : w = 0
  · rw [if_pos ((e 0 (by omega)).mpr w0), if_pos w0]; simp only [t1]
  rw [if_neg (fun z => w0 ((e 0 (by omega)).mp z)), if_neg w0]
  by_cases w1 : w = 1
  · rw [if_pos ((e 1 (by omega)).mpr w1), if_pos w1]; simp only [t2', Decidable.not_not]
  rw [if_neg (fun z => w1 ((e 1 (by omega)).mp z)), if_neg w1]
  by_cases w2 : w = 2
  · rw [if_pos ((e 2 (by omega)).mpr w2), if_pos w2]; simp only [t3']
  rw [if_neg (fun z => w2 ((e 2 (by omega)).mp z)), if_neg w2]
  by_cases w3 : w = 3
  · rw [if_pos ((e 3 (by omega)).mpr w3), if_pos w3]; simp only [t4', Decidable.not_not]
  rw [if_neg (fun z => w3 ((e 3 (by omega)).mp z)), if_neg w3]
  by_cases w4 : w = 4
  · rw [if_pos ((e 4 (by omega)).mpr w4), if_pos w4]; simp only [t5, Decidable.not_not]
  rw [if_neg (fun z => w4 ((e 4 (by omega)).mp z)), if_neg w4]
  by_cases w5 : w = 5
  · rw [if_pos ((e 5 (by omega)).mpr w5), if_pos w5]; simp only [t6]
  rw [if_neg (fun z => w5 ((e 5 (by omega)).mp z)), if_neg w5]
  by_cases w6 : w = 6
  · rw [if_pos ((e 6 (by omega)).mpr w6), if_pos w6]; simp only [t7, Decidable.not_not]
  rw [if_neg (fun z => w6 ((e 6 (by omega)).mp z)), if_neg w6]
  simp only [t8]
