/-! rounds of the class's side -/
theorem nI_in2 {c N : Nat} (h : c < N) (hN : N < 2 ^ 31) : ¬ (nI c < 0 ∨ N ≤ c) := fun z => z.elim (nI_pos (by omega)) (fun y => by omega)
def ahd (R : Nat → Option Nat) (p f : Nat) : Bool := match R f with
  | some k => decide (k < p)
  | none => false
def okF (K f : Nat) : Bool := decide (f / 4 % 4 < K ∧ f % 4 < K)
def lst (K : Nat) (A : Nat → Bool) (md f m : Nat) : Bool := md.testBit m && decide (SH m = f / 16) && (shw K A m (f / 4 % 4) (f % 4)).isSome
def newF (K md : Nat) (R : Nat → Option Nat) (p f : Nat) : Bool := (R f).isNone && okF K f && (srch (lst K (ahd R p) md f) 9 0).isSome
def pass (K md : Nat) (R : Nat → Option Nat) (p f : Nat) : Option Nat := if newF K md R p f = true then some p else R f
def anyF (K md : Nat) (R : Nat → Option Nat) (p : Nat) : Bool := (srch (newF K md R p) 64 0).isSome
def run (K md : Nat) : Nat → (Nat → Option Nat) → Nat → (Nat → Option Nat) × Nat
  | 0, R, p => (R, p - 1)
  | N + 1, R, p => if anyF K md R p = true then run K md N (pass K md R p) (p + 1) else (R, p - 1)
def R0 (K md : Nat) (tld : Nat → Bool) (f : Nat) : Option Nat := if ((md.testBit 7 && decide (f / 16 = 0) && okF K f && decide (f / 4 % 4 = f % 4)) || tld f) = true then some 0 else none
def In7 (K md : Nat) (R : Nat → Option Nat) : Prop := md.testBit 7 = true → ∀ f, f < 64 → f / 16 = 0 → okF K f = true → f / 4 % 4 = f % 4 → R f ≠ none
def RB (R : Nat → Option Nat) (p : Nat) : Prop := ∀ f k, f < 64 → R f = some k → k < p
theorem srch_isSome {P : Nat → Bool} {N : Nat} : (srch P N 0).isSome = true ↔ ∃ j, j < N ∧ P j = true := by
  cases h : srch P N 0 with
  | none =>
    constructor
    · intro z; cases z
    · rintro ⟨j, h1, h2⟩
      have := srch_none h j (Nat.zero_le _) (by omega)
      rw [h2] at this
      cases this
  | some k =>
    obtain ⟨_, b, c, _⟩ := srch_some h
    exact ⟨fun _ => ⟨k, by omega, c⟩, fun _ => rfl⟩
theorem lst_same {K md f : Nat} {R : Nat → Option Nat} {A : Nat → Bool} (h7 : In7 K md R) (hf : f < 64) (hk : okF K f = true) (hR : R f = none) (m : Nat) : lstX K A md f m = lst K A md f m := by
  unfold lstX lst shwX
  by_cases e : m = 7
  · subst e
    rw [if_pos rfl]
    have e1 : shw K A 7 (f / 4 % 4) (f % 4) = none := by unfold shw; rw [if_neg (by omega), if_neg (by omega), if_pos rfl]
    rw [e1]
    by_cases hb : md.testBit 7 = true
    · by_cases h0 : f / 16 = 0
      · by_cases hx : f / 4 % 4 = f % 4
        · exact absurd hR (h7 hb f hf h0 hk hx)
        · rw [if_neg hx]
      · rw [show decide (SH 7 = f / 16) = false from decide_eq_false (fun z => h0 z.symm)]; simp
    · simp at hb
      rw [hb]; rfl
  · rw [if_neg e]
def RX (τ : Tau) (R : Nat → Option Nat) : Prop := ∀ f, f < 64 → tA τ 28 f = encW (R f)
theorem encW9 {r : Option Nat} (h : ∀ k, r = some k → k < 2 ^ 31) : encW r = -9 ↔ r = none := by
  cases r with
  | none => exact ⟨fun _ => rfl, fun _ => rfl⟩
  | some k => exact ⟨fun z => absurd z (nI_ne9 (h k rfl)), fun z => by cases z⟩
section XR
variable {K md : Nat}
theorem x_ahead {τ : Tau} {R : Nat → Option Nat} {p : Nat} (hR : RX τ R) (hB : RB R 1000) (hp : p < 1000) : ∃ L, fX1_factsAhead τ (nI p) = some L ∧ ∀ f, f < 64 → lb L f = ahd R p f := by
  have key : ∀ N i L, i ≤ 64 → 64 - i < N → (∀ f, f < 64 → lb L f = (decide (f < i) && ahd R p f)) → ∃ L', fX1_factsAhead_5 τ (nI p) N L (nI i) = some L' ∧ ∀ f, f < 64 → lb L' f = ahd R p f := by
    intro N
    induction N with
    | zero => intro i _ _ h; omega
    | succ N ih =>
      intro i L hi hN hL
      rw [fX1_factsAhead_5]
      by_cases hlt : i < 64
      · have next : ∀ L2, (∀ f, f < 64 → lb L2 f = (decide (f < i + 1) && ahd R p f)) → ∃ L', fX1_factsAhead_45 τ (nI p) (fX1_factsAhead_5 τ (nI p) N) L2 (nI i) = some L' ∧ ∀ f, f < 64 → lb L' f = ahd R p f := by
          intro L2 h2
          rw [fX1_factsAhead_45, nm_i, i1, nI_add]
          exact ih (i + 1) L2 (by omega) (by omega) h2
        have same : ahd R p i = false → ∀ f, f < 64 → lb L f = (decide (f < i + 1) && ahd R p f) := by
          intro h0 f hf
          rw [hL f hf]
          by_cases e : f = i
          · rw [e, h0]; simp
          · have : (f < i + 1) ↔ (f < i) := by omega
            simp [this]
        have e9 := encW9 (r := R i) (fun k hk => by have := hB i k hlt hk; omega)
        rw [i64, if_neg (nI_ge hlt (by omega)), if_neg (nI_in hlt (by decide)), nI_clamp (by omega), hR i hlt]
        cases hr : R i with
        | none =>
          rw [if_pos (show encW none = -9 from rfl)]
          exact next L (same (by unfold ahd; rw [hr]))
        | some k =>
          have hk := hB i k hlt hr
          rw [if_neg (show ¬ encW (some k) = -9 from nI_ne9 (by omega)), if_neg (nI_in2 hlt (by decide))]
          by_cases hle : p ≤ k
          · rw [if_pos (show nI p ≤ encW (some k) from nI_le hle (by omega))]
            refine next L (same ?_)
            unfold ahd
            rw [hr]
            exact decide_eq_false (by omega)
          · rw [if_neg (show ¬ nI p ≤ encW (some k) from nI_ge (by omega) (by omega)), nm_i]
            refine next _ (fun f hf => ?_)
            rw [lb_or, hL f hf, lb_pow hlt hf]
            by_cases e : f = i
            · subst e
              have : ahd R p f = true := by unfold ahd; rw [hr]; exact decide_eq_true (by omega)
              rw [this]; simp
            · have : (f < i + 1) ↔ (f < i) := by omega
              have e2 : ¬ i = f := fun z => e z.symm
              simp [this, e2]
      · have : i = 64 := by omega
        subst this
        rw [i64, if_pos (nI_le (Nat.le_refl _) (by omega))]
        exact ⟨L, rfl, fun f hf => by rw [hL f hf]; simp [hf]⟩
  unfold fX1_factsAhead
  rw [i0]
  exact key FU 0 0 (by omega) (by unfold FU; omega) (fun f _ => by rw [lb_0]; simp)
theorem x_okF {τ : Tau} {f : Nat} (h4 : tI τ 27 4 = nI K) (hK : K ≤ 4) (hf : f < 64) : fX1_isOfKinds τ (nI f) = okF K f := by
  unfold fX1_isOfKinds okF
  have h1 : f / 4 % 4 < 4 := Nat.mod_lt _ (by omega)
  have h2 : f % 4 < 4 := Nat.mod_lt _ (by omega)
  rw [x_f2 f hf, x_f0 f hf, h4]
  by_cases a : f / 4 % 4 < K
  · rw [if_neg (nI_ge a (by omega))]
    by_cases b : f % 4 < K
    · rw [if_neg (nI_ge b (by omega))]; simp [a, b]
    · rw [if_pos (nI_le (by omega) (by omega))]; simp [b]
  · rw [if_pos (nI_le (by omega) (by omega))]; simp [a]
theorem x_isAny {τ0 : Tau} {R : Nat → Option Nat} {p : Nat} (hK : K ≤ 4) (hmd : md < 512) (hR : RX τ0 R) (hB : RB R 1000) (hp : p < 1000) (h7 : In7 K md R) (h3 : tI τ0 27 3 = nI md) (h4 : tI τ0 27 4 = nI K) (hA : ∀ f, f < 64 → lb (tL τ0 27 2) f = ahd R p f) :
    ∃ τ', fX1_isAnyComing τ0 (nI p) = some (anyF K md R p, τ') ∧ RX τ' (pass K md R p) ∧ Fr [(27, 5), (27, 6)] [28] τ0 τ' := by
  have key : ∀ N i τ (c : Bool), i ≤ 64 → 64 - i < N → Fr [(27, 5), (27, 6)] [28] τ0 τ → (∀ f, f < 64 → tA τ 28 f = encW (if f < i then pass K md R p f else R f)) → (c = true ↔ ∃ j, j < i ∧ newF K md R p j = true) →
      ∃ τ', fX1_isAnyComing_4 (nI p) N τ (bI c) (nI i) = some (anyF K md R p, τ') ∧ RX τ' (pass K md R p) ∧ Fr [(27, 5), (27, 6)] [28] τ0 τ' := by
    intro N
    induction N with
    | zero => intro i _ _ _ h; omega
    | succ N ih =>
      intro i τ c hi hN hF hT hc
      rw [fX1_isAnyComing_4]
      by_cases hlt : i < 64
      · have g4 : tI τ 27 4 = nI K := by rw [(hF.1 27 4 (by decide)).1, h4]
        have g3 : tI τ 27 3 = nI md := by rw [(hF.1 27 3 (by decide)).1, h3]
        have gA : ∀ f, f < 64 → lb (tL τ 27 2) f = ahd R p f := fun f hf => by rw [(hF.1 27 2 (by decide)).2]; exact hA f hf
        have stay : newF K md R p i = false → ∀ τ2, Fr [(27, 5), (27, 6)] [28] τ0 τ2 → (∀ f, f < 64 → tA τ2 28 f = tA τ 28 f) → ∃ τ', fX1_isAnyComing_51 (nI p) (fX1_isAnyComing_4 (nI p) N) τ2 (bI c) (nI i) = some (anyF K md R p, τ') ∧ RX τ' (pass K md R p) ∧ Fr [(27, 5), (27, 6)] [28] τ0 τ' := by
          intro hz τ2 hF2 hs
          rw [fX1_isAnyComing_51, nm_i, i1, nI_add]
          refine ih (i + 1) τ2 c (by omega) (by omega) hF2 (fun f hf => ?_) (hc.trans ⟨fun ⟨j, a, b⟩ => ⟨j, by omega, b⟩, fun ⟨j, a, b⟩ => ⟨j, ?_, b⟩⟩)
          · rw [hs f hf, hT f hf]
            by_cases e : f = i
            · rw [e, if_neg (by omega), if_pos (by omega)]
              unfold pass
              rw [if_neg (by rw [hz]; decide)]
            · have : (f < i + 1) ↔ (f < i) := by omega
              simp only [this]
          · by_cases e : j = i
            · rw [e, hz] at b; cases b
            · omega
        rw [i64, if_neg (nI_ge hlt (by omega)), nm_i, x_okF g4 hK hlt]
        cases hk : okF K i with
        | false =>
          rw [if_pos (by decide)]
          exact stay (by unfold newF; rw [hk]; simp) τ hF (fun _ _ => rfl)
        | true =>
          have ti := hT i hlt
          rw [if_neg (by omega)] at ti
          rw [if_neg (by decide), if_neg (nI_in hlt (by decide)), nI_clamp (by omega), ti]
          have e9 := encW9 (r := R i) (fun k hk => by have := hB i k hlt hk; omega)
          by_cases hr : R i = none
          · rw [if_pos (e9.mpr hr)]
            obtain ⟨τ2, e2, f2, n2, s2⟩ := x_leastMood hK g4 gA g3 hmd hlt
            have sc : srch (lstX K (ahd R p) md i) 9 0 = srch (lst K (ahd R p) md i) 9 0 := srch_congr (fun m _ _ => lst_same h7 hlt hk hr m)
            rw [e2, Option.bind_some]
            have hF2 := hF.tr (f2.wk (S' := [28]) (by decide) (by decide))
            have hs2 : ∀ f, f < 64 → tA τ2 28 f = tA τ 28 f := fun f _ => (f2.2 28 (by decide) f).1
            cases hm : srch (lstX K (ahd R p) md i) 9 0 with
            | none =>
              dsimp only
              rw [if_pos (show encC none = -9 from rfl)]
              refine stay ?_ τ2 hF2 hs2
              unfold newF
              rw [← sc, hm]; simp
            | some m =>
              have hml := (srch_some hm).2.1
              have hnew : newF K md R p i = true := by
                unfold newF
                rw [← sc, hm, hk, hr]; rfl
              dsimp only
              rw [if_neg (show ¬ encC (some m) = -9 from nI_ne9 (by omega)), if_neg (nI_in2 hlt (by decide)), nm_i, fX1_isAnyComing_51, nm_i, i1, nI_add]
              refine ih (i + 1) _ true (by omega) (by omega) (hF2.tr (Fr.sA (by decide))) (fun f hf => ?_) ⟨fun _ => ⟨i, by omega, hnew⟩, fun _ => rfl⟩
              rw [tA_sA]
              by_cases e : f = i
              · subst e
                rw [if_pos ⟨rfl, rfl⟩, if_pos (by omega)]
                unfold pass
                rw [if_pos hnew]
                rfl
              · rw [if_neg (fun z => e z.2), hs2 f hf, hT f hf]
                have : (f < i + 1) ↔ (f < i) := by omega
                simp only [this]
          · rw [if_neg (fun z => hr (e9.mp z))]
            refine stay ?_ τ hF (fun _ _ => rfl)
            unfold newF
            cases hq : R i with
            | none => exact absurd hq hr
            | some k => rfl
      · have : i = 64 := by omega
        subst this
        have ec : c = anyF K md R p := by
          have : c = true ↔ anyF K md R p = true := by unfold anyF; rw [srch_isSome]; exact hc
          cases c <;> cases h : anyF K md R p <;> simp_all
        rw [i64, if_pos (nI_le (Nat.le_refl _) (by omega)), if_pos (show bI c = 0 ∨ bI c = 1 by cases c <;> decide)]
        refine ⟨τ, ?_, fun f hf => by rw [hT f hf, if_pos hf], hF⟩
        rw [← ec]
        cases c <;> rfl
  unfold fX1_isAnyComing
  rw [i0]
  refine key FU 0 τ0 false (by omega) (by unfold FU; omega) Fr.rf (fun f hf => by rw [if_neg (by omega)]; exact hR f hf) ⟨fun z => (by cases z), fun ⟨j, a, _⟩ => absurd a (by omega)⟩
end XR
theorem In7.up {K md p : Nat} {R : Nat → Option Nat} (h : In7 K md R) : In7 K md (pass K md R p) := by
  intro hb f hf h0 hk hx z
  unfold pass at z
  by_cases e : newF K md R p f = true
  · rw [if_pos e] at z; cases z
  · rw [if_neg e] at z; exact h hb f hf h0 hk hx z
theorem RB.up {K md p : Nat} {R : Nat → Option Nat} (h : RB R p) : RB (pass K md R p) (p + 1) := by
  intro f k hf z
  unfold pass at z
  by_cases e : newF K md R p f = true
  · rw [if_pos e] at z; cases z; omega
  · rw [if_neg e] at z
    have := h f k hf z
    omega
theorem RB.wk {p q : Nat} {R : Nat → Option Nat} (h : RB R p) (hq : p ≤ q) : RB R q := fun f k hf z => by have := h f k hf z; omega
theorem pass_same {K md p : Nat} {R : Nat → Option Nat} (h : anyF K md R p = false) : ∀ f, f < 64 → pass K md R p f = R f := by
  intro f hf
  unfold pass
  apply if_neg
  intro z
  have : anyF K md R p = true := srch_isSome.mpr ⟨f, hf, z⟩
  rw [h] at this
  cases this
abbrev wkF : List (Nat × Nat) := [(27, 1), (27, 2), (27, 3), (27, 4), (27, 5), (27, 6), (27, 7)]
section XW
variable {K md : Nat}
theorem x_work101 {τ0 : Tau} {q1 : Int64} {q2 q3 : Int32} (hK : K ≤ 4) (hmd : md < 512) (h3 : tI τ0 27 3 = nI md) (h4 : tI τ0 27 4 = nI K) :
    ∀ M N p R τ, p + M = 65 → 1 ≤ p → M < N → RX τ R → RB R p → In7 K md R → Fr [(27, 2), (27, 5), (27, 6), (27, 7)] [28] τ0 τ → tI τ 27 7 = nI (p - 1) →
      ∃ τ', fX1_work_101 q1 q2 q3 N τ (1 : Int32) (nI p) = some τ' ∧ RX τ' (run K md M R p).1 ∧ tI τ' 27 7 = nI (run K md M R p).2 ∧ Fr [(27, 2), (27, 5), (27, 6), (27, 7)] [28] τ0 τ' := by
  intro M
  induction M with
  | zero =>
    intro N p R τ hp hp1 hN hR hB h7 hF hl
    obtain ⟨N', rfl⟩ : ∃ N', N = N' + 1 := ⟨N - 1, by omega⟩
    rw [fX1_work_101, i64, if_pos (nI_lt (by omega) (by omega))]
    exact ⟨τ, rfl, hR, hl, hF⟩
  | succ M ih =>
    intro N p R τ hp hp1 hN hR hB h7 hF hl
    obtain ⟨N', rfl⟩ : ∃ N', N = N' + 1 := ⟨N - 1, by omega⟩
    obtain ⟨L, eL, hL⟩ := x_ahead hR (hB.wk (by omega)) (show p < 1000 by omega)
    have f1 : Fr [(27, 2)] [] τ (sL τ 27 2 L) := Fr.sL (by decide)
    obtain ⟨τ2, e2, r2, f2⟩ := x_isAny (τ0 := sL τ 27 2 L) hK hmd (fun f hf => by rw [(f1.2 28 (by decide) f).1]; exact hR f hf) (hB.wk (by omega)) (show p < 1000 by omega) h7 (by rw [(f1.1 27 3 (by decide)).1, (hF.1 27 3 (by decide)).1, h3]) (by rw [(f1.1 27 4 (by decide)).1, (hF.1 27 4 (by decide)).1, h4]) (fun f hf => by rw [tL_sL, if_pos ⟨rfl, rfl⟩]; exact hL f hf)
    have hF2 : Fr [(27, 2), (27, 5), (27, 6), (27, 7)] [28] τ0 τ2 := (hF.tr (f1.wk (by decide) (by decide))).tr (f2.wk (by decide) (by decide))
    have hl2 : tI τ2 27 7 = nI (p - 1) := by rw [(f2.1 27 7 (by decide)).1, (f1.1 27 7 (by decide)).1, hl]
    rw [fX1_work_101, i64, if_neg (fun z => by have := (nI_ltI (by omega) (by omega)).mp z; omega), if_neg (by decide), eL, Option.bind_some, nm_i, e2, Option.bind_some, nm_i, run]
    dsimp only
    cases ha : anyF K md R p with
    | true =>
      rw [if_neg (show ¬ bI true = 0 by decide), nm_i, fX1_work_142, nm_i, if_pos rfl]
      have e3 := ih N' (p + 1) (pass K md R p) (sI τ2 27 7 (nI p)) (by omega) (by omega) (by omega) (fun f hf => by rw [tA_sI]; exact r2 f hf) hB.up h7.up (hF2.tr (Fr.sI (by decide))) (by rw [tI_sI, if_pos ⟨rfl, rfl⟩]; rfl)
      rw [show nI p + 1 = nI (p + 1) from nI_add p 1]
      exact e3
    | false =>
      rw [if_pos (show bI false = 0 by decide), fX1_work_142, nm_i, if_neg (by decide)]
      obtain ⟨N2, rfl⟩ : ∃ N2, N' = N2 + 1 := ⟨N' - 1, by omega⟩
      have done : fX1_work_101 q1 q2 q3 (N2 + 1) τ2 (bI false) (nI p + 1) = some τ2 := by
        rw [fX1_work_101]
        by_cases z : (64 : Int32) < nI p + 1
        · rw [if_pos z]
        · rw [if_neg z, if_pos (by decide)]
      refine ⟨τ2, done, fun f hf => ?_, hl2, hF2⟩
      rw [r2 f hf, pass_same ha f hf]
end XW
