/-! twins and clashes -/
theorem nI_n0 {a : Nat} (ha : a < 2 ^ 31) (h : a ≠ 0) : ¬ nI a = 0 := fun z => h (nI_inj ha (by omega) z)
section QC
variable {mk : Nat → Nat} {T : Nat}
def twB (mk : Nat → Nat) (T p x : Nat) : Bool := fol mk T (2 ^ p) x && fol mk T (2 ^ x) p
theorem sub_pow {p h : Nat} (hp : p < 10) : sub (2 ^ p) h = h.testBit p := by
  have hpw := pow_lt1024 hp
  by_cases e : h &&& 2 ^ p = 2 ^ p
  · have := (sub_iff hpw).mp e p hp (by rw [Nat.testBit_two_pow]; simp)
    rw [this]
    exact decide_eq_true e
  · have : h.testBit p = false := by
      cases hb : h.testBit p with
      | false => rfl
      | true =>
        exfalso
        apply e
        apply (sub_iff hpw).mpr
        intro i _ h1
        rw [Nat.testBit_two_pow] at h1
        rw [← of_decide_eq_true h1]
        exact hb
    rw [this]
    exact decide_eq_false e
theorem tw_iff {p x : Nat} (hp : p < 10) (hx : x < 10) : twB mk T p x = true ↔ ∀ w, w < T → (mk w).testBit p = (mk w).testBit x := by
  unfold twB
  rw [Bool.and_eq_true_iff, fol_iff (pow_lt1024 hp) hx, fol_iff (pow_lt1024 hx) hp]
  constructor
  · rintro ⟨h1, h2⟩ w hw
    have a := h1 w hw
    have b := h2 w hw
    rw [sub_pow hp] at a
    rw [sub_pow hx] at b
    cases u : (mk w).testBit p <;> cases v : (mk w).testBit x <;> simp_all
  · intro h
    refine ⟨fun w hw hs => ?_, fun w hw hs => ?_⟩
    · rw [sub_pow hp] at hs; rw [← h w hw]; exact hs
    · rw [sub_pow hx] at hs; rw [h w hw]; exact hs
/-- the first twin, from i on -/
def twS (mk : Nat → Nat) (T p : Nat) : Nat → Nat → Int32
  | 0, _ => -9
  | N + 1, i => if i ≠ p ∧ twB mk T p i = true then nI i else twS mk T p N (i + 1)
theorem x_twin17 {τ : Tau} {p : Nat} (hT : T < 100000) (h24 : ∀ s, s < 1024 → tA τ 24 s = nI (cov mk T s)) (hp : p < 10) : fX6_twin_17 (nI p) FU τ (0 : Int32) = some (twS mk T p 10 0, τ) := by
  have key : ∀ M N i, i + M = 10 → M < N → fX6_twin_17 (nI p) N τ (nI i) = some (twS mk T p M i, τ) := by
    intro M
    induction M with
    | zero =>
      intro N i hi hN
      obtain ⟨N', rfl⟩ : ∃ N', N = N' + 1 := ⟨N - 1, by omega⟩
      rw [fX6_twin_17, i10, if_pos (nI_le (by omega) (by omega))]
      rfl
    | succ M ih =>
      intro N i hi hN
      obtain ⟨N', rfl⟩ : ∃ N', N = N' + 1 := ⟨N - 1, by omega⟩
      have e := ih N' (i + 1) (by omega) (by omega)
      rw [fX6_twin_17, i10, if_neg (nI_ge (by omega) (by omega)), twS]
      by_cases hip : i = p
      · rw [if_pos (by rw [hip]), if_neg (fun z => z.1 hip), fX6_twin_52, nm_i, i1, nI_add]
        exact e
      · rw [if_neg (fun z => hip (nI_inj (by omega) (by omega) z)), nI_one (by omega), nI_one (by omega), x_isFollowing hT h24 (pow_lt1024 hp) (by omega), Option.bind_some]
        cases h1 : fol mk T (2 ^ p) i with
        | false =>
          rw [if_pos (by decide), if_neg (fun z => by have := z.2; unfold twB at this; rw [h1] at this; cases this), fX6_twin_52, nm_i, i1, nI_add]
          exact e
        | true =>
          rw [if_neg (by decide), x_isFollowing hT h24 (pow_lt1024 (by omega)) hp, Option.bind_some]
          cases h2 : fol mk T (2 ^ i) p with
          | false =>
            rw [if_pos (by decide), if_neg (fun z => by have := z.2; unfold twB at this; rw [h2] at this; simp at this), fX6_twin_52, nm_i, i1, nI_add]
            exact e
          | true =>
            rw [if_neg (by decide), if_pos ⟨hip, by unfold twB; rw [h1, h2]; rfl⟩]
  rw [i0]
  exact key 10 FU 0 (by omega) (by unfold FU; omega)
theorem m_twin40 {τ : Tau} {p x : Nat} (k20 : Tau → Int32 → Option (Int32 × Tau)) (hT : T < 100000) (hmk : ∀ w, w < T → mk w < 1024) (h7 : ∀ h, h < 1024 → tA τ 7 h = nI (cf mk T h)) (hp : p < 10) (hx : x < 10) (b : Bool) :
    fX7_twin_40 (nI p) k20 FU τ (nI x) (bI b) 0 = if b = true ∧ twB mk T p x = true then some (nI x, τ) else k20 τ (nI (x + 1)) := by
  have fin : ∀ (c : Bool), (c = true ↔ b = true ∧ twB mk T p x = true) → fX7_twin_89 (nI p) k20 τ (nI x) (bI c) = if b = true ∧ twB mk T p x = true then some (nI x, τ) else k20 τ (nI (x + 1)) := by
    intro c hc
    rw [fX7_twin_89]
    cases c with
    | true => rw [if_neg (by decide), if_pos (hc.mp rfl)]
    | false => rw [if_pos (by decide), if_neg (fun z => by have := hc.mpr z; cases this), nm_i, i1, nI_add]
  have key : ∀ N i (c : Bool), i ≤ 1024 → 1024 - i < N → (c = true ↔ b = true ∧ ∀ w, w < T → mk w < i → (mk w).testBit p = (mk w).testBit x) → fX7_twin_40 (nI p) k20 N τ (nI x) (bI c) (nI i) = if b = true ∧ twB mk T p x = true then some (nI x, τ) else k20 τ (nI (x + 1)) := by
    intro N
    induction N with
    | zero => intro i _ _ h; omega
    | succ N ih =>
      intro i c hi hN hc
      rw [fX7_twin_40]
      by_cases hlt : i < 1024
      · rw [i1024, if_neg (nI_ge hlt (by omega))]
        cases c with
        | false =>
          rw [if_pos (by decide)]
          apply fin
          rw [tw_iff hp hx]
          constructor
          · intro z; cases z
          · intro z; exact hc.mpr ⟨z.1, fun w hw _ => z.2 w hw⟩
        | true =>
          have hcl := cf_le mk i T
          have hc1 := hc.mp rfl
          rw [if_neg (by decide), if_neg (nI_in hlt (by decide)), nI_clamp (by omega), h7 i hlt]
          have skip : (cf mk T i = 0 ∨ i.testBit p = i.testBit x) → fX7_twin_77 (nI p) k20 (fX7_twin_40 (nI p) k20 N) τ (nI x) (nI i) = if b = true ∧ twB mk T p x = true then some (nI x, τ) else k20 τ (nI (x + 1)) := by
            intro hz
            rw [fX7_twin_77, fX7_twin_82, nm_i]
            rw [show nI i + 1 = nI (i + 1) from nI_add i 1]
            refine ih (i + 1) true (by omega) (by omega) ⟨fun _ => ⟨hc1.1, fun w hw hwi => ?_⟩, fun _ => rfl⟩
            by_cases e : mk w = i
            · rcases hz with z | z
              · exact absurd e (cf_zero z w hw)
              · rw [e]; exact z
            · exact hc1.2 w hw (by omega)
          by_cases h0 : cf mk T i = 0
          · rw [if_pos (by rw [h0]; rfl)]
            exact skip (Or.inl h0)
          · rw [if_neg (nI_n0 (by omega) h0), nI_bit (by omega) (by omega), nI_bit (by omega) (by omega)]
            by_cases hb : i.testBit p = i.testBit x
            · rw [if_pos (by rw [hb])]
              exact skip (Or.inr hb)
            · rw [if_neg (fun z => hb (by cases u : i.testBit p <;> cases v : i.testBit x <;> rw [u, v] at z <;> first | rfl | exact absurd z (by decide))), fX7_twin_82, nm_i]
              rw [show nI i + 1 = nI (i + 1) from nI_add i 1]
              refine ih (i + 1) false (by omega) (by omega) ⟨fun z => (by cases z), fun z => ?_⟩
              exfalso
              obtain ⟨w0, hw0⟩ := isFst_ex h0
              apply hb
              have := z.2 w0 hw0.1 (by rw [hw0.2.1]; omega)
              rw [hw0.2.1] at this
              exact this
      · have : i = 1024 := by omega
        subst this
        rw [i1024, if_pos (nI_le (Nat.le_refl _) (by omega))]
        apply fin
        rw [tw_iff hp hx, hc]
        exact ⟨fun z => ⟨z.1, fun w hw => z.2 w hw (hmk w hw)⟩, fun z => ⟨z.1, fun w hw _ => z.2 w hw⟩⟩
  rw [i0]
  refine key FU 0 b (by omega) (by unfold FU; omega) ⟨fun h => ⟨h, fun w _ h => absurd h (by omega)⟩, fun h => h.1⟩
theorem m_twin20 {τ : Tau} {p : Nat} (hT : T < 100000) (hmk : ∀ w, w < T → mk w < 1024) (h7 : ∀ h, h < 1024 → tA τ 7 h = nI (cf mk T h)) (hp : p < 10) : fX7_twin_20 (nI p) FU τ (0 : Int32) = some (twS mk T p 10 0, τ) := by
  have key : ∀ M N i, i + M = 10 → M < N → fX7_twin_20 (nI p) N τ (nI i) = some (twS mk T p M i, τ) := by
    intro M
    induction M with
    | zero =>
      intro N i hi hN
      obtain ⟨N', rfl⟩ : ∃ N', N = N' + 1 := ⟨N - 1, by omega⟩
      rw [fX7_twin_20, i10, if_pos (nI_le (by omega) (by omega))]
      rfl
    | succ M ih =>
      intro N i hi hN
      obtain ⟨N', rfl⟩ : ∃ N', N = N' + 1 := ⟨N - 1, by omega⟩
      have e := ih N' (i + 1) (by omega) (by omega)
      rw [fX7_twin_20, i10, if_neg (nI_ge (by omega) (by omega)), twS]
      by_cases hip : i = p
      · rw [if_pos (by rw [hip]), if_neg (fun z => z.1 hip), fX7_twin_36]
        have := m_twin40 (x := i) (fX7_twin_20 (nI p) N') hT hmk h7 hp (by omega) false
        rw [if_neg (fun z => by cases z.1)] at this
        rw [← e]
        exact this
      · rw [if_neg (fun z => hip (nI_inj (by omega) (by omega) z)), fX7_twin_36]
        have := m_twin40 (x := i) (fX7_twin_20 (nI p) N') hT hmk h7 hp (by omega) true
        rw [e] at this
        refine this.trans ?_
        by_cases hb : twB mk T p i = true
        · rw [if_pos ⟨rfl, hb⟩, if_pos ⟨hip, hb⟩]
        · rw [if_neg (fun z => hb z.2), if_neg (fun z => hb z.2)]
  rw [i0]
  exact key 10 FU 0 (by omega) (by unfold FU; omega)
-- clashes
def pc (h : Nat) : Nat := sumTo (fun i => if h.testBit i then 1 else 0) 10
theorem x_bitCount : ∀ h, h < 1024 → fJ6_bitCount_0f7a4 (nI h) = nI (pc h) := by decide +kernel
theorem pc_le : ∀ h, h < 1024 → pc h ≤ 10 := by decide +kernel
theorem m_ones {h : Nat} (hh : h < 1024) : fX7_ones (nI h) = some (nI (pc h)) := by
  have key : ∀ N i, i ≤ 10 → 10 - i < N → fX7_ones_4 (nI h) N (nI (sumTo (fun i => if h.testBit i then 1 else 0) i)) (nI i) = some (nI (pc h)) := by
    intro N
    induction N with
    | zero => intro i _ h; omega
    | succ N ih =>
      intro i hi hN
      rw [fX7_ones_4]
      by_cases hlt : i < 10
      · rw [i10, if_neg (nI_ge hlt (by omega)), nI_bit (by omega) (by omega), nm_i, nm_i, i1, nI_add, nI_add]
        exact ih (i + 1) (by omega) (by omega)
      · have : i = 10 := by omega
        subst this
        rw [i10, if_pos (nI_le (Nat.le_refl _) (by omega))]
        rfl
  unfold fX7_ones
  rw [i0]
  exact key FU 0 (by omega) (by unfold FU; omega)
def Cla (mk : Nat → Nat) (T p c : Nat) : Prop := c < 1024 ∧ p &&& c = c ∧ cov mk T c = 0
def Bet (c c' : Nat) : Prop := pc c < pc c' ∨ (pc c = pc c' ∧ c ≤ c')
def Best (mk : Nat → Nat) (T p c : Nat) : Prop := Cla mk T p c ∧ ∀ c', Cla mk T p c' → Bet c c'
theorem Best.one {p c c' : Nat} (h : Best mk T p c) (h' : Best mk T p c') : c = c' := by
  have a := h.2 c' h'.1
  have b := h'.2 c h.1
  unfold Bet at a b
  omega
theorem cov_sub {p c : Nat} (hp : p < 1024) (hc : p &&& c = c) : cov mk T p ≤ cov mk T c := by
  apply sumTo_mono
  intro w hw
  have hcl : c < 1024 := by rw [← hc]; exact Nat.lt_of_le_of_lt Nat.and_le_left hp
  by_cases e : mk w &&& p = p
  · rw [if_pos e, if_pos]
    · exact Nat.le_refl _
    · apply (sub_iff hcl).mpr
      intro i hi h1
      exact (sub_iff hp).mp e i hi ((sub_iff hcl).mp hc i hi h1)
  · rw [if_neg e]; exact Nat.zero_le _
def encC : Option Nat → Int32
  | none => -9
  | some c => nI c
theorem x_fewest {τ : Tau} {p : Nat} (hT : T < 100000) (h24 : ∀ s, s < 1024 → tA τ 24 s = nI (cov mk T s)) (hp : p < 1024) :
    ∃ r, fX0_fewestClashing τ (nI p) = some (encC r) ∧ (r = none → ∀ c, ¬ Cla mk T p c) ∧ ∀ c, r = some c → Best mk T p c := by
  have key : ∀ N i r, i ≤ 1024 → 1024 - i < N → (r = none → ∀ c, c < i → ¬ Cla mk T p c) → (∀ c, r = some c → (Cla mk T p c ∧ c < i) ∧ ∀ c', c' < i → Cla mk T p c' → Bet c c') →
      ∃ r', fX0_fewestClashing_5 τ (nI p) N (encC r) (nI i) = some (encC r') ∧ (r' = none → ∀ c, ¬ Cla mk T p c) ∧ ∀ c, r' = some c → Best mk T p c := by
    intro N
    induction N with
    | zero => intro i _ _ h; omega
    | succ N ih =>
      intro i r hi hN h1 h2
      rw [fX0_fewestClashing_5]
      by_cases hlt : i < 1024
      · have stay : ¬ Cla mk T p i → ∃ r', fX0_fewestClashing_34 τ (nI p) (fX0_fewestClashing_5 τ (nI p) N) (encC r) (nI i) = some (encC r') ∧ (r' = none → ∀ c, ¬ Cla mk T p c) ∧ ∀ c, r' = some c → Best mk T p c := by
          intro hz
          rw [fX0_fewestClashing_34, fX0_fewestClashing_35, if_pos rfl, fX0_fewestClashing_61, nm_i, i1, nI_add]
          refine ih (i + 1) r (by omega) (by omega) (fun e c hc => ?_) (fun c e => ⟨⟨(h2 c e).1.1, by have := (h2 c e).1.2; omega⟩, fun c' hc' hcl => ?_⟩)
          · by_cases q : c = i
            · rw [q]; exact hz
            · exact h1 e c (by omega)
          · by_cases q : c' = i
            · rw [q] at hcl; exact absurd hcl hz
            · exact (h2 c e).2 c' (by omega) hcl
        have hcl := cov_le mk i T
        have l1 : i &&& p < 1024 := and_lt hp
        rw [i1024, if_neg (nI_ge hlt (by omega)), nI_and]
        by_cases e1 : i &&& p = i
        · have e1' : p &&& i = i := by rw [Nat.and_comm]; exact e1
          rw [if_pos (by rw [e1]), if_neg (nI_in hlt (by decide)), nI_clamp (by omega), h24 i hlt]
          by_cases e2 : cov mk T i = 0
          · rw [if_pos (by rw [e2]; rfl), fX0_fewestClashing_35, if_neg (by decide)]
            have hi2 : Cla mk T p i := ⟨hlt, e1', e2⟩
            have take : (∀ c, r = some c → pc i < pc c) → ∃ r', fX0_fewestClashing_59 τ (nI p) (fX0_fewestClashing_5 τ (nI p) N) (nI i) = some (encC r') ∧ (r' = none → ∀ c, ¬ Cla mk T p c) ∧ ∀ c, r' = some c → Best mk T p c := by
              intro hr
              rw [fX0_fewestClashing_59, fX0_fewestClashing_61, nm_i, i1, nI_add]
              refine ih (i + 1) (some i) (by omega) (by omega) (fun z => by cases z) (fun c e => ?_)
              cases e
              refine ⟨⟨hi2, by omega⟩, fun c' hc' hcl' => ?_⟩
              by_cases q : c' = i
              · rw [q]; exact Or.inr ⟨rfl, Nat.le_refl _⟩
              · cases r with
                | none => exact absurd hcl' (h1 rfl c' (by omega))
                | some c =>
                  have a := (h2 c rfl).2 c' (by omega) hcl'
                  have b := hr c rfl
                  unfold Bet at a ⊢
                  omega
            cases r with
            | none =>
              rw [if_pos (show encC none = -9 from rfl)]
              exact take (fun c e => by cases e)
            | some c =>
              obtain ⟨⟨g1, g3⟩, g2⟩ := h2 c rfl
              have gb := pc_le c g1.1
              have gi := pc_le i hlt
              rw [if_neg (show ¬ encC (some c) = -9 from nI_ne9 (by have := g1.1; omega)), nm_i, nm_i, x_bitCount i hlt, show fJ6_bitCount_0f7a4 (encC (some c)) = nI (pc c) from x_bitCount c g1.1]
              by_cases hle : pc c ≤ pc i
              · rw [if_pos (nI_le hle (by omega)), fX0_fewestClashing_61, nm_i, i1, nI_add]
                refine ih (i + 1) (some c) (by omega) (by omega) (fun z => by cases z) (fun c0 e => ?_)
                cases e
                refine ⟨⟨g1, by omega⟩, fun c' hc' hcl' => ?_⟩
                by_cases q : c' = i
                · rw [q]
                  unfold Bet
                  omega
                · exact g2 c' (by omega) hcl'
              · rw [if_neg (nI_ge (by omega) (by omega))]
                exact take (fun c' e => by cases e; omega)
          · rw [if_neg (nI_n0 (by omega) e2)]
            exact stay (fun z => e2 z.2.2)
        · rw [if_neg (fun z => e1 (nI_inj (by omega) (by omega) z))]
          exact stay (fun z => e1 (by rw [Nat.and_comm]; exact z.2.1))
      · have : i = 1024 := by omega
        subst this
        rw [i1024, if_pos (nI_le (Nat.le_refl _) (by omega))]
        exact ⟨r, rfl, fun e c hc => h1 e c hc.1 hc, fun c e => ⟨(h2 c e).1.1, fun c' hc' => (h2 c e).2 c' hc'.1 hc'⟩⟩
  unfold fX0_fewestClashing
  rw [i0]
  exact key FU 0 none (by omega) (by unfold FU; omega) (fun _ c hc => absurd hc (by omega)) (fun c e => by cases e)
end QC
section QD
variable {mk : Nat → Nat} {T : Nat}
theorem m_noWorld {τ : Tau} {c : Nat} (hT : T < 100000) (hmk : ∀ w, w < T → mk w < 1024) (h7 : ∀ h, h < 1024 → tA τ 7 h = nI (cf mk T h)) (h8 : ∀ h w0, h < 1024 → IsFst mk T h w0 → tA τ 8 h = nI w0) (hc : c < 1024) :
    ∃ x, fX7_firstOf τ (nI c) (-1) = some x ∧ (x = -9 ↔ cov mk T c = 0) := by
  obtain ⟨r, e, h⟩ := m_firstOf (gs := fun _ => true) (s := -1) hT hmk h7 h8 hc (Or.inl ⟨rfl, fun _ => rfl⟩)
  refine ⟨_, e, (encH_none hmk h).trans ?_⟩
  constructor
  · intro z
    subst z
    apply sumTo_zero
    intro w hw
    apply if_neg
    intro q
    have := h w hw
    dsimp only at this
    rw [show sub c (mk w) = true from decide_eq_true q] at this
    cases this
  · intro z
    cases r with
    | none => rfl
    | some w =>
      exfalso
      have h1 := h.2.1
      dsimp only at h1
      rw [Bool.and_true] at h1
      have := sumTo_one (f := fun w => if mk w &&& c = c then 1 else 0) h.1
      unfold cov at z
      rw [z] at this
      simp only [of_decide_eq_true h1, if_true] at this
      omega
theorem m_clash43 {τ : Tau} {p : Nat} {p2 : Int32} (hT : T < 100000) (hmk : ∀ w, w < T → mk w < 1024) (h7 : ∀ h, h < 1024 → tA τ 7 h = nI (cf mk T h)) (h8 : ∀ h w0, h < 1024 → IsFst mk T h w0 → tA τ 8 h = nI w0) (hp : p < 1024) (hz : cov mk T p = 0) :
    ∃ c, Best mk T p c ∧ fX7_clash_43 (nI p) p2 FU τ (nI p) (nI p) = if p2 = 0 then some (nI (pc c), τ) else some (nI c, τ) := by
  have pp : Cla mk T p p := ⟨hp, Nat.and_self p, hz⟩
  have key : ∀ N i c (x4 : Int32), i < N → i ≤ p + 1 → ((0 < i ∧ x4 = nI (i - 1)) ∨ (i = 0 ∧ x4 = -1)) → Cla mk T p c → (∀ c', i ≤ c' → Cla mk T p c' → Bet c c') →
      ∃ c', Best mk T p c' ∧ fX7_clash_43 (nI p) p2 N τ (nI c) x4 = if p2 = 0 then some (nI (pc c'), τ) else some (nI c', τ) := by
    intro N
    induction N with
    | zero => intro i _ _ h; omega
    | succ N ih =>
      intro i c x4 hN hi hx hc hb
      rw [fX7_clash_43]
      have cb := pc_le c hc.1
      rcases hx with ⟨h0, rfl⟩ | ⟨h0, rfl⟩
      · have hlt : i - 1 < 1024 := by omega
        have down : nI (i - 1) + -1 = nI (i - 1 - 1) ∧ 0 < i - 1 ∨ nI (i - 1) + -1 = -1 ∧ i - 1 = 0 := by
          by_cases q : 0 < i - 1
          · exact Or.inl ⟨nI_dec q, q⟩
          · right
            have : i - 1 = 0 := by omega
            exact ⟨by rw [this]; rfl, this⟩
        have hx' : (0 < i - 1 ∧ nI (i - 1) + -1 = nI (i - 1 - 1)) ∨ (i - 1 = 0 ∧ nI (i - 1) + -1 = -1) := by
          rcases down with ⟨a, b⟩ | ⟨a, b⟩
          · exact Or.inl ⟨b, a⟩
          · exact Or.inr ⟨b, a⟩
        have stay : (Cla mk T p (i - 1) → Bet c (i - 1)) → ∃ c', Best mk T p c' ∧ fX7_clash_86 (nI p) p2 (fX7_clash_43 (nI p) p2 N) τ (nI c) (nI (i - 1)) = if p2 = 0 then some (nI (pc c'), τ) else some (nI c', τ) := by
          intro hz2
          rw [fX7_clash_86, fX7_clash_87, nm_i]
          refine ih (i - 1) c _ (by omega) (by omega) hx' hc (fun c' hc' hcl => ?_)
          by_cases q : c' = i - 1
          · rw [q] at hcl ⊢; exact hz2 hcl
          · exact hb c' (by omega) hcl
        rw [if_neg (nI_pos (by omega)), nm_i, m_isIn hlt hp]
        cases e1 : sub (i - 1) p with
        | false =>
          rw [if_pos (by decide)]
          exact stay (fun z => by have := decide_eq_true z.2.1; rw [show decide (p &&& (i - 1) = i - 1) = sub (i - 1) p from rfl, e1] at this; cases this)
        | true =>
          have ib := pc_le (i - 1) hlt
          rw [if_neg (by decide), m_ones hlt, Option.bind_some, m_ones hc.1, Option.bind_some]
          by_cases hle : pc c < pc (i - 1)
          · rw [if_pos (nI_lt hle (by omega))]
            exact stay (fun _ => Or.inl hle)
          · rw [if_neg (fun z => hle ((nI_ltI (by omega) (by omega)).mp z))]
            obtain ⟨x, ex, hx2⟩ := m_noWorld hT hmk h7 h8 hlt
            rw [ex, Option.bind_some]
            by_cases e9 : x = -9
            · rw [if_pos e9, fX7_clash_87, nm_i]
              have hc2 : Cla mk T p (i - 1) := ⟨hlt, of_decide_eq_true e1, hx2.mp e9⟩
              refine ih (i - 1) (i - 1) _ (by omega) (by omega) hx' hc2 (fun c' hc' hcl => ?_)
              by_cases q : c' = i - 1
              · rw [q]; exact Or.inr ⟨rfl, Nat.le_refl _⟩
              · have := hb c' (by omega) hcl
                unfold Bet at this ⊢
                omega
            · rw [if_neg e9]
              exact stay (fun z => absurd (hx2.mpr z.2.2) e9)
      · subst h0
        rw [if_pos (by decide)]
        refine ⟨c, ⟨hc, fun c' h => hb c' (Nat.zero_le _) h⟩, ?_⟩
        by_cases q : p2 = 0
        · rw [if_pos q, if_pos q, m_ones hc.1, Option.bind_some]
        · rw [if_neg q, if_neg q]
  refine key FU (p + 1) p (nI p) (by unfold FU; omega) (by omega) (Or.inl ⟨by omega, rfl⟩) pp (fun c' hc' hcl => ?_)
  have h1 : c' ≤ p := by rw [← hcl.2.1]; exact Nat.and_le_left
  omega
end QD
