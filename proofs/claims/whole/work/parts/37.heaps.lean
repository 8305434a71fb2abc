/-! heaps: how many worlds are in each, the first of them, and in how many all of a set hold -/
theorem cf_le (f : Nat → Nat) (s : Nat) : ∀ t, cf f t s ≤ t
  | 0 => Nat.le_refl _
  | t + 1 => by
    have := cf_le f s t
    unfold cf at this ⊢
    rw [sumTo]
    split <;> omega
theorem cf_zero {f : Nat → Nat} {t s : Nat} (h : cf f t s = 0) : ∀ i, i < t → f i ≠ s := by
  intro i hi e
  have := sumTo_one (f := fun i => if f i = s then 1 else 0) hi
  unfold cf at h
  rw [h] at this
  simp [e] at this
theorem cf_pos {f : Nat → Nat} {t s i : Nat} (hi : i < t) (e : f i = s) : 0 < cf f t s := by
  rcases Nat.eq_zero_or_pos (cf f t s) with h | h
  · exact absurd e (cf_zero h i hi)
  · exact h
/-- w0 is the first of the first t that is h -/
def IsFst (mk : Nat → Nat) (t h w0 : Nat) : Prop := w0 < t ∧ mk w0 = h ∧ ∀ v, v < w0 → mk v ≠ h
theorem x_zeroMany (T : Nat) : ∀ N i (τ0 τ : Tau), i ≤ 1024 → 1024 - i < N → Fr [] [22, 23] τ0 τ → (∀ h, h < i → tA τ 22 h = nI 0) →
    ∃ τ1, fX0_fillHeaps_2 N τ (nI i) = fX0_fillHeaps_26 FU τ1 (nI 0) ∧ Fr [] [22, 23] τ0 τ1 ∧ ∀ h, h < 1024 → tA τ1 22 h = nI 0 := by
  intro N
  induction N with
  | zero => intro i _ _ _ h; omega
  | succ N ih =>
    intro i τ0 τ hi hN hF hz
    rw [fX0_fillHeaps_2]
    by_cases hlt : i < 1024
    · rw [i1024, if_neg (nI_ge hlt (by omega)), if_neg (nI_in hlt (by decide)), nm_i, nm_i, nI_clamp (by omega), i1, nI_add]
      refine ih (i + 1) τ0 _ (by omega) (by omega) (hF.tr (Fr.sA (by decide))) (fun h hh => ?_)
      rw [tA_sA]
      by_cases e : h = i
      · rw [if_pos ⟨rfl, e⟩]; rfl
      · rw [if_neg (fun z => e z.2)]; exact hz h (by omega)
    · have : i = 1024 := by omega
      subst this
      rw [i1024, if_pos (nI_le (Nat.le_refl _) (by omega)), i0]
      exact ⟨τ, rfl, hF, hz⟩
theorem x_fillHeaps {τ : Tau} {T ml : Nat} {mk : Nat → Nat} (hT : T < 100000) (h8 : tI τ 17 8 = nI T) (hml : tI τ 26 0 = nI ml) (hml2 : ml < 100000) (hle : T ≤ ml) (hmk : ∀ w, w < T → tA τ 26 w = nI (mk w) ∧ mk w < 1024) :
    ∃ τ', fX0_fillHeaps τ = some τ' ∧ Fr [] [22, 23] τ τ' ∧ (∀ h, h < 1024 → tA τ' 22 h = nI (cf mk T h)) ∧ ∀ h w0, h < 1024 → IsFst mk T h w0 → tA τ' 23 h = nI w0 := by
  obtain ⟨τ1, e1, hF1, hz⟩ := x_zeroMany T FU 0 τ τ (by omega) (by unfold FU; omega) Fr.rf (fun h hh => by omega)
  unfold fX0_fillHeaps
  rw [i0, e1]
  have key : ∀ N w τ2, w ≤ T → T - w < N → Fr [] [22, 23] τ τ2 → (∀ h, h < 1024 → tA τ2 22 h = nI (cf mk w h)) → (∀ h w0, h < 1024 → IsFst mk w h w0 → tA τ2 23 h = nI w0) →
      ∃ τ', fX0_fillHeaps_26 N τ2 (nI w) = some τ' ∧ Fr [] [22, 23] τ τ' ∧ (∀ h, h < 1024 → tA τ' 22 h = nI (cf mk T h)) ∧ ∀ h w0, h < 1024 → IsFst mk T h w0 → tA τ' 23 h = nI w0 := by
    intro N
    induction N with
    | zero => intro w _ _ h; omega
    | succ N ih =>
      intro w τ2 hw hN hF hm hf
      rw [fX0_fillHeaps_26, (hF.1 17 8 (by decide)).1, h8, (hF.1 26 0 (by decide)).1, hml]
      by_cases hlt : w < T
      · obtain ⟨m1, m2⟩ := hmk w hlt
        rw [nI_clamp (by omega), if_neg (nI_ge hlt (by omega)), if_neg (nI_ge (show w < ml by omega) (by omega)), if_neg (nI_in (show w < ml by omega) (by omega)), nm_i, nI_clamp (by omega), (hF.2 26 (by decide) w).1, m1]
        rw [i1024, if_neg (nI_ge m2 (by omega)), if_neg (nI_ge m2 (by omega)), if_neg (nI_in m2 (by decide)), nI_clamp (by omega), hm _ m2]
        have hcl := cf_le mk (mk w) w
        have fin : ∀ τ3, Fr [] [22, 23] τ τ3 → (∀ h, h < 1024 → tA τ3 22 h = nI (cf mk w h)) → (∀ h w0, h < 1024 → IsFst mk (w + 1) h w0 → tA τ3 23 h = nI w0) → ∃ τ', fX0_fillHeaps_84 (fX0_fillHeaps_26 N) τ3 (nI w) (nI (mk w)) = some τ' ∧ Fr [] [22, 23] τ τ' ∧ (∀ h, h < 1024 → tA τ' 22 h = nI (cf mk T h)) ∧ ∀ h w0, h < 1024 → IsFst mk T h w0 → tA τ' 23 h = nI w0 := by
          intro τ3 hF3 hm3 hf3
          rw [fX0_fillHeaps_84, if_neg (nI_in m2 (by decide)), if_neg (nI_in m2 (by decide)), nm_i, fX0_fillHeaps_94, nm_i, nI_clamp (by omega), hm3 _ m2, i1, nI_add, nI_add]
          refine ih (w + 1) _ (by omega) (by omega) (hF3.tr (Fr.sA (by decide))) (fun h hh => ?_) (fun h w0 hh hi => ?_)
          · rw [tA_sA]
            show _ = nI (cf mk w h + if mk w = h then 1 else 0)
            by_cases e : h = mk w
            · rw [if_pos ⟨rfl, e⟩, e, if_pos rfl]
            · rw [if_neg (fun z => e z.2), if_neg (fun z => e z.symm), hm3 h hh]; rfl
          · rw [tA_sA, if_neg (by omega)]
            exact hf3 h w0 hh hi
        by_cases hz0 : cf mk w (mk w) = 0
        · rw [hz0, i0, if_pos rfl, if_neg (show ¬ (nI (mk w) < nI 0 ∨ 1024 ≤ mk w) from fun z => z.elim (nI_pos (by omega)) (fun z => by omega)), nm_i]
          refine fin _ (hF.tr (Fr.sA (by decide))) (fun h hh => by rw [tA_sA, if_neg (by omega)]; exact hm h hh) (fun h w0 hh hi => ?_)
          rw [tA_sA]
          by_cases e : h = mk w
          · rw [if_pos ⟨rfl, e⟩]
            have : w0 = w := by
              rcases Nat.lt_trichotomy w0 w with g | g | g
              · exact absurd (hi.2.1.trans e) (cf_zero hz0 w0 g)
              · exact g
              · exact absurd hi.1 (by omega)
            rw [this]
          · rw [if_neg (fun z => e z.2)]
            refine hf h w0 hh ⟨?_, hi.2⟩
            rcases Nat.lt_or_ge w0 w with g | g
            · exact g
            · have : w0 = w := by have := hi.1; omega
              subst this
              exact absurd hi.2.1.symm e
        · rw [i0, if_neg (fun z => hz0 (nI_inj (by omega) (by omega) z))]
          refine fin τ2 hF hm (fun h w0 hh hi => hf h w0 hh ⟨?_, hi.2⟩)
          rcases Nat.lt_or_ge w0 w with g | g
          · exact g
          · have e : w0 = w := by have := hi.1; omega
            subst e
            exfalso
            apply hz0
            have := hi.2.2
            unfold cf
            exact sumTo_zero (fun v hv => if_neg (by rw [hi.2.1]; exact this v hv))
      · have : w = T := by omega
        subst this
        rw [if_pos (nI_le (Nat.le_refl _) (by omega))]
        exact ⟨τ2, rfl, hF, hm, hf⟩
  exact key FU 0 τ1 (by omega) (by unfold FU; omega) hF1 hz (fun h w0 _ hi => absurd hi.1 (by omega))
/-- m has the bits of s, the first k of them or more -/
def Pk (k m s : Nat) : Prop := ∀ i, i < 10 → (m.testBit i = s.testBit i ∨ (i < k ∧ m.testBit i = true))
theorem Pk_dec (k m s : Nat) : Pk k m s ∨ ¬ Pk k m s := Classical.em _
noncomputable def pk (k m s : Nat) : Nat := @ite _ (Pk k m s) (Classical.propDecidable _) 1 0
theorem pk_pos {k m s : Nat} (h : Pk k m s) : pk k m s = 1 := by unfold pk; rw [if_pos h]
theorem pk_neg {k m s : Nat} (h : ¬ Pk k m s) : pk k m s = 0 := by unfold pk; rw [if_neg h]
theorem pk_step1 {k m s : Nat} (h : s.testBit k = true) : pk (k + 1) m s = pk k m s := by
  have e : Pk (k + 1) m s ↔ Pk k m s := by
    constructor
    · intro g i hi
      rcases g i hi with a | ⟨a, b⟩
      · exact Or.inl a
      · by_cases z : i = k
        · subst z; exact Or.inl (by rw [b, h])
        · exact Or.inr ⟨by omega, b⟩
    · intro g i hi
      rcases g i hi with a | ⟨a, b⟩
      · exact Or.inl a
      · exact Or.inr ⟨by omega, b⟩
  by_cases g : Pk k m s
  · rw [pk_pos g, pk_pos (e.mpr g)]
  · rw [pk_neg g, pk_neg (fun z => g (e.mp z))]
theorem or_bit (s k i : Nat) : (s ||| 2 ^ k).testBit i = (s.testBit i || decide (k = i)) := by
  rw [Nat.testBit_or, Nat.testBit_two_pow]
theorem pk_step0 {k m s : Nat} (hk : k < 10) (h : s.testBit k = false) : pk (k + 1) m s = pk k m s + pk k m (s ||| 2 ^ k) := by
  by_cases hm : m.testBit k = true
  · have n1 : ¬ Pk k m s := by
      intro g
      rcases g k hk with a | ⟨a, _⟩
      · rw [hm, h] at a; cases a
      · omega
    have e : Pk (k + 1) m s ↔ Pk k m (s ||| 2 ^ k) := by
      constructor
      · intro g i hi
        rw [or_bit]
        by_cases z : i = k
        · subst z; left; rw [hm]; simp
        · rcases g i hi with a | ⟨a, b⟩
          · left; rw [a]; simp [Ne.symm z]
          · exact Or.inr ⟨by omega, b⟩
      · intro g i hi
        by_cases z : i = k
        · subst z; exact Or.inr ⟨by omega, hm⟩
        · rcases g i hi with a | ⟨a, b⟩
          · rw [or_bit] at a
            left; rw [a]; simp [Ne.symm z]
          · exact Or.inr ⟨by omega, b⟩
    rw [pk_neg n1, Nat.zero_add]
    by_cases g : Pk k m (s ||| 2 ^ k)
    · rw [pk_pos g, pk_pos (e.mpr g)]
    · rw [pk_neg g, pk_neg (fun z => g (e.mp z))]
  · have hm : m.testBit k = false := by cases hh : m.testBit k <;> simp_all
    have n1 : ¬ Pk k m (s ||| 2 ^ k) := by
      intro g
      rcases g k hk with a | ⟨a, _⟩
      · rw [or_bit, hm] at a; simp at a
      · omega
    have e : Pk (k + 1) m s ↔ Pk k m s := by
      constructor
      · intro g i hi
        rcases g i hi with a | ⟨a, b⟩
        · exact Or.inl a
        · by_cases z : i = k
          · subst z; rw [hm] at b; cases b
          · exact Or.inr ⟨by omega, b⟩
      · intro g i hi
        rcases g i hi with a | ⟨a, b⟩
        · exact Or.inl a
        · exact Or.inr ⟨by omega, b⟩
    rw [pk_neg n1, Nat.add_zero]
    by_cases g : Pk k m s
    · rw [pk_pos g, pk_pos (e.mpr g)]
    · rw [pk_neg g, pk_neg (fun z => g (e.mp z))]
theorem bits_eq {m s : Nat} (hm : m < 1024) (hs : s < 1024) (h : ∀ i, i < 10 → m.testBit i = s.testBit i) : m = s := by
  apply Nat.eq_of_testBit_eq
  intro i
  by_cases hi : i < 10
  · exact h i hi
  · have : 2 ^ 10 ≤ 2 ^ i := Nat.pow_le_pow_right (by omega) (by omega)
    rw [Nat.testBit_lt_two_pow (by omega), Nat.testBit_lt_two_pow (by omega)]
theorem pk_0 {m s : Nat} (hm : m < 1024) (hs : s < 1024) : pk 0 m s = if m = s then 1 else 0 := by
  by_cases h : m = s
  · rw [if_pos h, pk_pos (fun i _ => Or.inl (by rw [h]))]
  · rw [if_neg h, pk_neg (fun g => h (bits_eq hm hs (fun i hi => (g i hi).elim id (fun z => absurd z.1 (by omega)))))]
theorem sub_iff {m s : Nat} (hs : s < 1024) : m &&& s = s ↔ ∀ i, i < 10 → s.testBit i = true → m.testBit i = true := by
  constructor
  · intro h i _ hi
    rw [← h, Nat.testBit_and] at hi
    simp only [Bool.and_eq_true] at hi
    exact hi.1
  · intro h
    apply Nat.eq_of_testBit_eq
    intro i
    rw [Nat.testBit_and]
    by_cases hi : i < 10
    · cases hsi : s.testBit i with
      | false => simp
      | true => rw [h i hi hsi]; rfl
    · have : 2 ^ 10 ≤ 2 ^ i := Nat.pow_le_pow_right (by omega) (by omega)
      rw [Nat.testBit_lt_two_pow (show s < 2 ^ i by omega)]
      simp
theorem pk_10 {m s : Nat} (hs : s < 1024) : pk 10 m s = if m &&& s = s then 1 else 0 := by
  have e : Pk 10 m s ↔ m &&& s = s := by
    rw [sub_iff hs]
    constructor
    · intro g i hi h1
      rcases g i hi with a | ⟨_, b⟩
      · rw [a, h1]
      · exact b
    · intro g i hi
      cases h1 : s.testBit i with
      | true => exact Or.inl (g i hi h1)
      | false =>
        cases h2 : m.testBit i with
        | true => exact Or.inr ⟨hi, rfl⟩
        | false => exact Or.inl rfl
  by_cases h : m &&& s = s
  · rw [if_pos h, pk_pos (e.mpr h)]
  · rw [if_neg h, pk_neg (fun z => h (e.mp z))]
/-- in how many of the first T all of s are -/
def cov (mk : Nat → Nat) (T s : Nat) : Nat := sumTo (fun w => if mk w &&& s = s then 1 else 0) T
noncomputable def covk (mk : Nat → Nat) (T k s : Nat) : Nat := sumTo (fun w => pk k (mk w) s) T
theorem covk_le (mk : Nat → Nat) (k s : Nat) : ∀ T, covk mk T k s ≤ T
  | 0 => Nat.le_refl _
  | T + 1 => by
    have := covk_le mk k s T
    unfold covk at this ⊢
    rw [sumTo]
    have : pk k (mk T) s ≤ 1 := by unfold pk; split <;> omega
    omega
theorem cov_le (mk : Nat → Nat) (s : Nat) : ∀ T, cov mk T s ≤ T
  | 0 => Nat.le_refl _
  | T + 1 => by
    have := cov_le mk s T
    unfold cov at this ⊢
    rw [sumTo]
    split <;> omega
theorem or_pow_lt {s k : Nat} (hs : s < 1024) (hk : k < 10) : s ||| 2 ^ k < 1024 := Nat.or_lt_two_pow (n := 10) hs (Nat.pow_lt_pow_right (by omega) hk)
theorem or_pow_eq {s k : Nat} (h : s.testBit k = true) : s ||| 2 ^ k = s := by
  apply Nat.eq_of_testBit_eq
  intro i
  rw [or_bit]
  by_cases z : k = i
  · subst z; simp [h]
  · simp [z]
theorem or_pow_ne {s k : Nat} (h : s.testBit k = false) : s < s ||| 2 ^ k := by
  have h1 : s ≤ s ||| 2 ^ k := Nat.left_le_or
  rcases Nat.lt_or_ge s (s ||| 2 ^ k) with g | g
  · exact g
  · have e : s ||| 2 ^ k = s := by omega
    have := or_bit s k k
    rw [e, h] at this
    simp at this
theorem x_together {τ : Tau} {T : Nat} {mk : Nat → Nat} (hT : T < 100000) (hmk : ∀ w, w < T → mk w < 1024) (hm : ∀ h, h < 1024 → tA τ 22 h = nI (cf mk T h)) :
    ∃ τ', fX0_addTogether τ = some τ' ∧ Fr [] [24] τ τ' ∧ ∀ s, s < 1024 → tA τ' 24 s = nI (cov mk T s) := by
  -- the inner loop: one bit
  have inner : ∀ (N : Nat) (K : Tau → Int32 → Option Tau) (k i : Nat) (τ1 : Tau), k < 10 → i ≤ 1024 → 1024 - i < N → Fr [] [24] τ τ1 → (∀ s, s < i → tA τ1 24 s = nI (covk mk T (k + 1) s)) → (∀ s, i ≤ s → s < 1024 → tA τ1 24 s = nI (covk mk T k s)) →
      ∃ τ2, fX0_addTogether_49 K N τ1 (nI (2 ^ k)) (nI i) = K τ2 (nI (2 ^ (k + 1))) ∧ Fr [] [24] τ τ2 ∧ ∀ s, s < 1024 → tA τ2 24 s = nI (covk mk T (k + 1) s) := by
    intro N
    induction N with
    | zero => intro K k i _ _ _ h; omega
    | succ N ih =>
      intro K k i τ1 hk hi hN hF h1 h2
      have hpw : 2 ^ k < 1024 := Nat.pow_lt_pow_right (a := 2) (by omega) hk
      rw [fX0_addTogether_49]
      by_cases hlt : i < 1024
      · rw [i1024, if_neg (nI_ge hlt (by omega)), nm_i, nI_or]
        have hor := or_pow_lt hlt hk
        cases hb : i.testBit k with
        | true =>
          rw [or_pow_eq hb, if_pos rfl, fX0_addTogether_91, nm_i, i1, nI_add]
          refine ih K k (i + 1) τ1 hk (by omega) (by omega) hF (fun s hs => ?_) (fun s g1 g2 => h2 s (by omega) g2)
          by_cases e : s = i
          · rw [e, h2 i (Nat.le_refl _) hlt]
            congr 1
            exact sumTo_congr (fun w _ => (pk_step1 hb).symm)
          · exact h1 s (by omega)
        | false =>
          have hgt := or_pow_ne hb
          rw [if_neg (fun z => by have := nI_inj (by omega) (by omega) z; omega), if_neg (nI_ge hor (by omega)), if_neg (nI_in hlt (by decide)), if_neg (nI_in hor (by decide)), if_neg (nI_in hlt (by decide)), nm_i, fX0_addTogether_91, nm_i, i1, nI_add, nI_clamp (by omega), nI_clamp (by omega), h2 i (Nat.le_refl _) hlt, h2 _ (by omega) hor, nI_add]
          refine ih K k (i + 1) _ hk (by omega) (by omega) (hF.tr (Fr.sA (by decide))) (fun s hs => ?_) (fun s g1 g2 => ?_)
          · rw [tA_sA]
            by_cases e : s = i
            · rw [if_pos ⟨rfl, e⟩, e]
              congr 1
              unfold covk
              rw [← sumTo_add]
              exact sumTo_congr (fun w _ => (pk_step0 hk hb).symm)
            · rw [if_neg (fun z => e z.2)]; exact h1 s (by omega)
          · rw [tA_sA, if_neg (by omega)]
            exact h2 s (by omega) g2
      · have : i = 1024 := by omega
        subst this
        rw [i1024, if_pos (nI_le (Nat.le_refl _) (by omega)), nm_i, i1, nI_shl (by omega) (by omega)]
        refine ⟨τ1, by rw [← Nat.pow_add], hF, h1⟩
  have outer : ∀ (N k : Nat) (τ1 : Tau), k ≤ 10 → 10 - k < N → Fr [] [24] τ τ1 → (∀ s, s < 1024 → tA τ1 24 s = nI (covk mk T k s)) →
      ∃ τ', fX0_addTogether_40 N τ1 (nI (2 ^ k)) = some τ' ∧ Fr [] [24] τ τ' ∧ ∀ s, s < 1024 → tA τ' 24 s = nI (cov mk T s) := by
    intro N
    induction N with
    | zero => intro k _ _ h; omega
    | succ N ih =>
      intro k τ1 hk hN hF h1
      rw [fX0_addTogether_40]
      by_cases hlt : k < 10
      · have hpw : 2 ^ k < 1024 := Nat.pow_lt_pow_right (a := 2) (by omega) hlt
        rw [i1024, if_neg (nI_ge hpw (by omega)), i0]
        obtain ⟨τ2, e, hF2, h2⟩ := inner FU (fX0_addTogether_40 N) k 0 τ1 hlt (by omega) (by unfold FU; omega) hF (fun s hs => by omega) (fun s _ g => h1 s g)
        rw [e]
        exact ih (k + 1) τ2 hlt (by omega) hF2 h2
      · have : k = 10 := by omega
        subst this
        rw [i1024, if_pos (nI_le (by decide) (by decide))]
        refine ⟨τ1, rfl, hF, fun s hs => ?_⟩
        rw [h1 s hs]
        congr 1
        exact sumTo_congr (fun w _ => pk_10 hs)
  have first : ∀ (N i : Nat) (τ1 : Tau), i ≤ 1024 → 1024 - i < N → Fr [] [24] τ τ1 → (∀ s, s < i → tA τ1 24 s = nI (cf mk T s)) →
      ∃ τ', fX0_addTogether_2 N τ1 (nI i) = some τ' ∧ Fr [] [24] τ τ' ∧ ∀ s, s < 1024 → tA τ' 24 s = nI (cov mk T s) := by
    intro N
    induction N with
    | zero => intro i _ _ h; omega
    | succ N ih =>
      intro i τ1 hi hN hF h1
      rw [fX0_addTogether_2]
      by_cases hlt : i < 1024
      · rw [i1024, if_neg (nI_ge hlt (by omega)), if_neg (nI_ge hlt (by omega)), if_neg (nI_in hlt (by decide)), if_neg (nI_in hlt (by decide)), nm_i, nm_i, nI_clamp (by omega), (hF.2 22 (by decide) i).1, hm i hlt, i1, nI_add]
        refine ih (i + 1) _ (by omega) (by omega) (hF.tr (Fr.sA (by decide))) (fun s hs => ?_)
        rw [tA_sA]
        by_cases e : s = i
        · rw [if_pos ⟨rfl, e⟩, e]
        · rw [if_neg (fun z => e z.2)]; exact h1 s (by omega)
      · have : i = 1024 := by omega
        subst this
        rw [i1024, if_pos (nI_le (Nat.le_refl _) (by omega)), fX0_addTogether_38, i1]
        refine outer FU 0 τ1 (by omega) (by unfold FU; omega) hF (fun s hs => ?_)
        rw [h1 s hs]
        congr 1
        exact sumTo_congr (fun w hw => (pk_0 (hmk w hw) hs).symm)
  unfold fX0_addTogether
  rw [i0]
  exact first FU 0 τ (by omega) (by unfold FU; omega) Fr.rf (fun s hs => by omega)
