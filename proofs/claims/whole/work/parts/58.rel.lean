/-! the two sides beside each other -/
def BaseX (τ : Tau) (K N md : Nat) (d : Nat → Sd) (cw : Nat → Nat) (len : Nat) (tx : Nat → Nat) : Prop :=
  tI τ 0 5 = nI K ∧ tI τ 0 6 = nI N ∧ tI τ 0 7 = nI md ∧ (∀ i, i < 10 → SX τ (i + 2) (d i)) ∧ RowIs τ K 12 cw ∧ tI τ 14 1 = nI len ∧ (∀ j, j < len → tA τ 15 j = nI (tx j) ∧ tx j < 256) ∧ WI τ
def BaseM (τ : Tau) (K N md : Nat) (d : Nat → Sd) (cw : Nat → Nat) (len : Nat) (tx : Nat → Nat) : Prop :=
  tI τ 0 1 = nI K ∧ tI τ 0 2 = nI N ∧ tI τ 0 3 = nI md ∧ (∀ i, i < 10 → SM τ i (d i)) ∧ RowIs τ K 1 cw ∧ tI τ 0 6 = nI len ∧ (∀ j, j < len → tA τ 2 j = nI (tx j))
def Okk (K N md : Nat) (d : Nat → Sd) (len : Nat) : Prop := 1 ≤ K ∧ K ≤ 4 ∧ 1 ≤ N ∧ N ≤ 6 ∧ md < 512 ∧ (∀ i, i < 10 → Sok K (d i)) ∧ len ≤ 80
def Hp (τ : Tau) (K N ml : Nat) (d : Nat → Sd) : Prop := ∃ st mk, HInv τ (2 ^ K) N d st ml mk ∧ (st = 0 → HTab τ (2 ^ K) N d)
def Rel (τx τm : Tau) (K N md ml : Nat) (d : Nat → Sd) (cw : Nat → Nat) (len : Nat) (tx : Nat → Nat) : Prop :=
  Okk K N md d len ∧ BaseX τx K N md d cw len tx ∧ Hp τx K N ml d ∧ BaseM τm K N md d cw len tx ∧ MInv τm K N d
theorem BaseX.fr {τ τ' : Tau} {K N md : Nat} {d : Nat → Sd} {cw : Nat → Nat} {len : Nat} {tx : Nat → Nat} {F : List (Nat × Nat)} {A : List Nat} (h : BaseX τ K N md d cw len tx) (hF : Fr F A τ τ')
    (h1 : ∀ q ∈ F, ¬ ((2 ≤ q.1 ∧ q.1 < 12) ∨ q = (0, 5) ∨ q = (0, 6) ∨ q = (0, 7) ∨ q = (14, 1))) (h12 : 12 ∉ A) (h15 : 15 ∉ A) (h25 : 25 ∉ A) : BaseX τ' K N md d cw len tx := by
  obtain ⟨a1, a2, a3, a4, a5, a6, a7, a8⟩ := h
  refine ⟨?_, ?_, ?_, fun i hi => (a4 i hi).fr hF (fun j hm => h1 _ hm (Or.inl (by show 2 ≤ i + 2 ∧ i + 2 < 12; omega))), a5.fr hF h12, ?_, fun j hj => ?_, fun s f hs hf => ?_⟩
  · rw [(hF.1 0 5 (fun hm => h1 _ hm (by simp))).1, a1]
  · rw [(hF.1 0 6 (fun hm => h1 _ hm (by simp))).1, a2]
  · rw [(hF.1 0 7 (fun hm => h1 _ hm (by simp))).1, a3]
  · rw [(hF.1 14 1 (fun hm => h1 _ hm (by simp))).1, a6]
  · rw [(hF.2 15 h15 j).1]; exact a7 j hj
  · rw [(hF.2 25 h25 s).2]; exact a8 s f hs hf
theorem BaseM.fr {τ τ' : Tau} {K N md : Nat} {d : Nat → Sd} {cw : Nat → Nat} {len : Nat} {tx : Nat → Nat} {F : List (Nat × Nat)} {A : List Nat} (h : BaseM τ K N md d cw len tx) (hF : Fr F A τ τ')
    (h1 : ∀ q ∈ F, ¬ (q = (0, 1) ∨ q = (0, 2) ∨ q = (0, 3) ∨ q = (0, 6))) (h2 : 1 ∉ A) (h3 : 2 ∉ A) (h4 : 3 ∉ A) : BaseM τ' K N md d cw len tx := by
  obtain ⟨a1, a2, a3, a4, a5, a6, a7⟩ := h
  refine ⟨?_, ?_, ?_, fun i hi => (a4 i hi).fr hF h4, a5.fr hF h2, ?_, fun j hj => ?_⟩
  · rw [(hF.1 0 1 (fun hm => h1 _ hm (by simp))).1, a1]
  · rw [(hF.1 0 2 (fun hm => h1 _ hm (by simp))).1, a2]
  · rw [(hF.1 0 3 (fun hm => h1 _ hm (by simp))).1, a3]
  · rw [(hF.1 0 6 (fun hm => h1 _ hm (by simp))).1, a6]
  · rw [(hF.2 2 h3 j).1]; exact a7 j hj
theorem MInv.fr {τ τ' : Tau} {K n : Nat} {d : Nat → Sd} {F : List (Nat × Nat)} {A : List Nat} (h : MInv τ K n d) (hF : Fr F A τ τ') (h0 : (0, 17) ∉ F) (h1 : (0, 18) ∉ F) (h7 : 7 ∉ A) (h8 : 8 ∉ A) (h9 : 9 ∉ A) (h10 : 10 ∉ A) : MInv τ' K n d := by
  rcases h with a | ⟨a, b⟩
  · exact Or.inl (by rw [(hF.1 0 17 h0).1, a])
  · exact Or.inr ⟨by rw [(hF.1 0 17 h0).1, a], b.fr hF h1 h7 h8 h9 h10⟩
theorem Hp.fr {τ τ' : Tau} {K N ml : Nat} {d : Nat → Sd} {F : List (Nat × Nat)} {A : List Nat} (h : Hp τ K N ml d) (hF : Fr F A τ τ') (h1 : ∀ q ∈ F, ¬ ((2 ≤ q.1 ∧ q.1 < 12) ∨ q = (17, 6) ∨ q = (17, 7) ∨ q = (17, 8) ∨ q = (17, 9) ∨ q = (26, 0))) (h2 : 21 ∉ A) (h3 : 26 ∉ A) (h4 : 22 ∉ A) (h5 : 23 ∉ A) (h6 : 24 ∉ A) : Hp τ' K N ml d := by
  obtain ⟨st, mk, a, b⟩ := h
  exact ⟨st, mk, a.fr hF h1 h2 h3, fun z => (b z).fr hF h4 h5 h6⟩
-- arguments
theorem i32_lt {a b : Int32} : a < b ↔ a.toInt < b.toInt := Int32.lt_iff_toInt_lt
theorem i32_le {a b : Int32} : a ≤ b ↔ a.toInt ≤ b.toInt := Int32.le_iff_toInt_le
theorem in_iff {x a b : Int32} : fX7_in x a b = decide (a.toInt ≤ x.toInt ∧ x.toInt ≤ b.toInt) := by
  unfold fX7_in
  by_cases h1 : x < a
  · rw [if_pos h1, decide_eq_false]
    have := i32_lt.mp h1
    omega
  · rw [if_neg h1]
    have h1 : ¬ x.toInt < a.toInt := fun z => h1 (i32_lt.mpr z)
    by_cases h2 : b < x
    · rw [if_pos h2, decide_eq_false]
      have := i32_lt.mp h2
      omega
    · rw [if_neg h2]
      have h2 : ¬ b.toInt < x.toInt := fun z => h2 (i32_lt.mpr z)
      rw [decide_eq_true]
      omega
theorem is_set (p : Int32) : (fX6_isSet p = fX7_isSet p) ∧ (fX6_isSet p = true → ∃ q, q < 1024 ∧ p = nI q) := by
  unfold fX6_isSet fX7_isSet
  rw [nm_i, in_iff]
  have e0 : (0 : Int32).toInt = 0 := rfl
  have e1 : (1023 : Int32).toInt = 1023 := rfl
  by_cases h1 : p < 0
  · rw [if_pos h1, decide_eq_false]
    · exact ⟨rfl, fun z => by cases z⟩
    · have := i32_lt.mp h1
      omega
  · rw [if_neg h1]
    have hp := cl_of h1
    have hc := cl_lt p
    have ht : p.toInt = cl p := by conv => lhs; rw [hp]
                                   exact nI_toInt hc
    by_cases h2 : (1024 : Int32) ≤ p
    · have := i32_le.mp h2
      have e2 : (1024 : Int32).toInt = 1024 := rfl
      rw [if_pos h2, decide_eq_false (by omega)]
      exact ⟨rfl, fun z => by cases z⟩
    · have h2 : ¬ (1024 : Int32).toInt ≤ p.toInt := fun z => h2 (i32_le.mpr z)
      have e2 : (1024 : Int32).toInt = 1024 := rfl
      rw [if_neg (fun z => h2 (i32_le.mp z)), decide_eq_true (by omega)]
      exact ⟨rfl, fun _ => ⟨cl p, by omega, hp⟩⟩
theorem is_say (p : Int32) : ((p < 0 ∨ 10 ≤ p.toNatClampNeg) ↔ fX7_isSaying p = false) ∧ (fX7_isSaying p = true → ∃ q, q < 10 ∧ p = nI q) := by
  unfold fX7_isSaying
  rw [nm_i, in_iff]
  have e0 : (0 : Int32).toInt = 0 := rfl
  have e1 : (9 : Int32).toInt = 9 := rfl
  by_cases h1 : p < 0
  · rw [decide_eq_false]
    · exact ⟨⟨fun _ => rfl, fun _ => Or.inl h1⟩, fun z => by cases z⟩
    · have := i32_lt.mp h1
      omega
  · have hp := cl_of h1
    have hc := cl_lt p
    have ht : p.toInt = cl p := by conv => lhs; rw [hp]
                                   exact nI_toInt hc
    by_cases h2 : 10 ≤ p.toNatClampNeg
    · rw [decide_eq_false (by have : 10 ≤ cl p := h2; omega)]
      exact ⟨⟨fun _ => rfl, fun _ => Or.inr h2⟩, fun z => by cases z⟩
    · have h3 : cl p < 10 := Nat.lt_of_not_le h2
      rw [decide_eq_true (by omega)]
      exact ⟨⟨fun z => absurd z (fun y => y.elim h1 h2), fun z => by cases z⟩, fun _ => ⟨cl p, h3, hp⟩⟩
theorem sub1 {n : Nat} (h : 1 ≤ n) : nI n - 1 = nI (n - 1) := by rw [i1, pk_sub h]
theorem x_sorts {τ : Tau} {K : Nat} (h : tI τ 0 5 = nI K) (hK : K ≤ 4) : fX6_sortCount τ = nI (2 ^ K) := by
  unfold fX6_sortCount
  rw [h, nI_one (by omega)]
theorem x_isSort {τ : Tau} {K : Nat} (hx : tI τ 0 5 = nI K) (hK : K ≤ 4) (p : Int32) : fX6_isSort τ p = decide (0 ≤ p.toInt ∧ p.toInt < ((2 ^ K : Nat) : Int)) := by
  have hS := pow2_16 hK
  unfold fX6_isSort
  rw [nm_i, x_sorts hx hK]
  have e0 : (0 : Int32).toInt = 0 := rfl
  have e16 : (16 : Int32).toInt = 16 := rfl
  by_cases h1 : p < 0
  · have := i32_lt.mp h1
    rw [if_pos h1, decide_eq_false (by omega)]
  · have h1' : ¬ p.toInt < (0 : Int32).toInt := fun z => h1 (i32_lt.mpr z)
    rw [if_neg h1]
    by_cases h2 : nI (2 ^ K) ≤ p
    · have := i32_le.mp h2
      rw [nI_toInt (by omega)] at this
      rw [if_pos h2, decide_eq_false (by omega)]
    · have h2' : ¬ (nI (2 ^ K)).toInt ≤ p.toInt := fun z => h2 (i32_le.mpr z)
      rw [nI_toInt (by omega)] at h2'
      rw [if_neg h2, if_neg (fun z => by have := i32_le.mp z; omega), decide_eq_true (by omega)]
theorem is_sort {τx τm : Tau} {K : Nat} (hx : tI τx 0 5 = nI K) (hm : tI τm 0 1 = nI K) (hK : K ≤ 4) (p : Int32) :
    fX6_isSortOrEvery τx p = fX7_in p (-1) (fX7_sorts τm - 1) ∧ (fX6_isSortOrEvery τx p = true → p = -1 ∨ ∃ s, s < 2 ^ K ∧ p = nI s) := by
  have hS := pow2_16 hK
  have hS1 : 1 ≤ 2 ^ K := Nat.one_le_two_pow
  rw [m_sorts hm hK, sub1 hS1, in_iff, nI_toInt (by omega)]
  unfold fX6_isSortOrEvery
  rw [nm_i, x_isSort hx hK]
  have e1 : (-1 : Int32).toInt = -1 := rfl
  by_cases h : p = -1
  · subst h
    rw [if_pos rfl, decide_eq_true (by omega)]
    exact ⟨rfl, fun _ => Or.inl rfl⟩
  · rw [if_neg h]
    have hne : p.toInt ≠ -1 := fun z => h (Int32.toInt_inj.mp z)
    by_cases h1 : 0 ≤ p.toInt ∧ p.toInt < ((2 ^ K : Nat) : Int)
    · have hp0 : ¬ p < 0 := fun z => by have := i32_lt.mp z; have e0 : (0 : Int32).toInt = 0 := rfl; omega
      have hp := cl_of hp0
      have hc := cl_lt p
      have ht : p.toInt = cl p := by conv => lhs; rw [hp]
                                     exact nI_toInt hc
      rw [decide_eq_true h1, decide_eq_true (by omega)]
      exact ⟨rfl, fun _ => Or.inr ⟨cl p, by omega, hp⟩⟩
    · rw [decide_eq_false h1, decide_eq_false (by omega)]
      exact ⟨rfl, fun z => by cases z⟩
