/-! moods on the reference's side -/
def RM (τ : Tau) (R : Nat → Option Nat) : Prop := ∀ f, f < 64 → tA τ 11 f = encW (R f)
def BY (τ : Tau) (A : Nat → Bool) (p : Nat) : Prop := ∀ f, f < 64 → fX7_isBy τ (nI f) (nI p) = some (A f)
theorem BY.fr {τ τ' : Tau} {A : Nat → Bool} {p : Nat} {F : List (Nat × Nat)} {S : List Nat} (h : BY τ A p) (hF : Fr F S τ τ') (hS : 11 ∉ S) : BY τ' A p := by
  intro f hf
  rw [← h f hf]
  unfold fX7_isBy
  rw [(hF.2 11 hS _).1]
theorem m_isBy {τ : Tau} {R : Nat → Option Nat} {p f : Nat} (hR : tA τ 11 f = encW (R f)) (hB : ∀ k, R f = some k → k < 1000) (hp : p < 1000) (hf : f < 64) : fX7_isBy τ (nI f) (nI p) = some (ahd R p f) := by
  unfold fX7_isBy ahd
  rw [if_neg (nI_in hf (by decide)), nI_clamp (by omega), hR]
  cases hr : R f with
  | none => rw [if_pos (show encW none = -9 from rfl)]
  | some k =>
    have := hB k hr
    rw [if_neg (show ¬ encW (some k) = -9 from nI_ne9 (by omega)), if_neg (nI_in2 hf (by decide))]
    by_cases h : p ≤ k
    · rw [if_pos (show nI p ≤ encW (some k) from nI_le h (by omega))]
      show some false = some (decide (k < p))
      rw [decide_eq_false (by omega)]
    · rw [if_neg (show ¬ nI p ≤ encW (some k) from nI_ge (by omega) (by omega))]
      show some true = some (decide (k < p))
      rw [decide_eq_true (by omega)]
section MM
theorem m_no {τ : Tau} {p1 p2 p3 p4 p5 : Int32} : fX7_isShown_160 p1 p2 p3 p4 p5 τ = some (false, τ) := by
  unfold fX7_isShown_160 fX7_isShown_161
  rw [show FU = 999999 + 1 from rfl, fX7_isShown_166]
  by_cases h : tI τ 0 1 ≤ 0
  · rw [if_pos h]
  · rw [if_neg h, if_pos rfl]
def mLp (m : Nat) : Bool := decide (m ≠ 4 ∧ m ≠ 5 ∧ m ≠ 7 ∧ m ≠ 8)
theorem m_83n {τ : Tau} {p3 p4 p5 : Int32} {m w : Nat} (hm : m < 9) (hw : w < 4) : fX7_isShown_83 (nI m) (nI w) p3 p4 p5 τ (-9) = if mLp m = true ∧ SH m = w then fX7_isShown_156 (nI m) (nI w) p3 p4 p5 τ else fX7_isShown_160 (nI m) (nI w) p3 p4 p5 τ := by
  rcases (show m = 0 ∨ m = 1 ∨ m = 2 ∨ m = 3 ∨ m = 4 ∨ m = 5 ∨ m = 6 ∨ m = 7 ∨ m = 8 by omega) with rfl | rfl | rfl | rfl | rfl | rfl | rfl | rfl | rfl <;>
    rcases (show w = 0 ∨ w = 1 ∨ w = 2 ∨ w = 3 by omega) with rfl | rfl | rfl | rfl <;> rfl
abbrev t3 (τ : Tau) (m : Nat) : Tau := sI (sI (sI τ 0 26 (nI m)) 0 27 (-9)) 0 28 (-9)
theorem m_top {τ : Tau} {p3 p4 p5 : Int32} {m w : Nat} (hm : m < 9) (hw : w < 4) : fX7_isShown τ (nI m) (nI w) p3 p4 p5 =
    if (m = 4 ∨ m = 5) ∧ SH m = w then fX7_isShown_83 (nI m) (nI w) p3 p4 p5 (t3 τ m) (((16 : Int32) * nI (F1 m) + (4 : Int32) * p4) + p3)
    else if m = 8 ∧ SH m = w then fX7_isShown_83 (nI m) (nI w) p3 p4 p5 (t3 τ m) ((4 : Int32) * p3 + p4) else fX7_isShown_83 (nI m) (nI w) p3 p4 p5 (t3 τ m) (-9) := by
  rcases (show m = 0 ∨ m = 1 ∨ m = 2 ∨ m = 3 ∨ m = 4 ∨ m = 5 ∨ m = 6 ∨ m = 7 ∨ m = 8 by omega) with rfl | rfl | rfl | rfl | rfl | rfl | rfl | rfl | rfl <;>
    rcases (show w = 0 ∨ w = 1 ∨ w = 2 ∨ w = 3 by omega) with rfl | rfl | rfl | rfl <;> rfl
theorem m_step {τ : Tau} {p2 p3 p4 p5 x8 : Int32} {m N : Nat} (hm : m < 9) (hl : mLp m = true) : fX7_isShown_166 (nI m) p2 p3 p4 p5 (N + 1) τ 1 x8 =
    if tI τ 0 1 ≤ x8 then some (false, τ) else fX7_isShown_253 (nI m) p2 p3 p4 p5 (fX7_isShown_166 (nI m) p2 p3 p4 p5 N) τ 1 x8 (((16 : Int32) * nI (F1 m) + (4 : Int32) * p3) + x8)
      (if m = 6 then (4 : Int32) * p4 + x8 else ((16 : Int32) * nI (F2 m) + (4 : Int32) * x8) + p4) := by
  rcases (show m = 0 ∨ m = 1 ∨ m = 2 ∨ m = 3 ∨ m = 4 ∨ m = 5 ∨ m = 6 ∨ m = 7 ∨ m = 8 by omega) with rfl | rfl | rfl | rfl | rfl | rfl | rfl | rfl | rfl <;>
    first
    | exact absurd hl (by decide)
    | rfl
end MM
section MN
variable {K : Nat} {A : Nat → Bool} {p : Nat}
abbrev shF : List (Nat × Nat) := [(0, 26), (0, 27), (0, 28)]
def MRes (m : Nat) (τ : Tau) (r : Option (Int32 × Int32)) (R : Option (Bool × Tau)) : Prop :=
  ∃ τ', R = some (r.isSome, τ') ∧ Fr shF [] τ τ' ∧ ∀ a b, r = some (a, b) → tI τ' 0 26 = nI m ∧ tI τ' 0 27 = a ∧ tI τ' 0 28 = b
theorem m_mloop {τ : Tau} (hK : K ≤ 4) (hk : tI τ 0 1 = nI K) (hA : BY τ A p) {m x y : Nat} {p2 : Int32} (hm : m < 9) (hl : mLp m = true) (hx : x < 4) (hy : y < 4) (h26 : tI τ 0 26 = nI m) :
    MRes m τ ((srch (fun z => A (g1 m x z) && A (g2 m y z)) K 0).map (fun z => (nI (g1 m x z), nI (g2 m y z)))) (fX7_isShown_156 (nI m) p2 (nI x) (nI y) (nI p) τ) := by
  have key : ∀ M N i, i + M = K → M < N → MRes m τ ((srch (fun z => A (g1 m x z) && A (g2 m y z)) M i).map (fun z => (nI (g1 m x z), nI (g2 m y z)))) (fX7_isShown_166 (nI m) p2 (nI x) (nI y) (nI p) N τ 1 (nI i)) := by
    intro M
    induction M with
    | zero =>
      intro N i hi hN
      obtain ⟨N', rfl⟩ : ∃ N', N = N' + 1 := ⟨N - 1, by omega⟩
      rw [m_step hm hl, hk, if_pos (nI_le (by omega) (by omega))]
      exact ⟨τ, rfl, Fr.rf, fun a b e => by cases e⟩
    | succ M ih =>
      intro N i hi hN
      obtain ⟨N', rfl⟩ : ∃ N', N = N' + 1 := ⟨N - 1, by omega⟩
      have e := ih N' (i + 1) (by omega) (by omega)
      have b1 := g1_lt (m := m) hx (show i < 4 by omega)
      have b2 := g2_lt (m := m) hy (show i < 4 by omega)
      have e1 : ((16 : Int32) * nI (F1 m) + (4 : Int32) * nI x) + nI i = nI (g1 m x i) := by
        rw [i16, i4, pk_mul, pk_mul, nI_add, nI_add]; rfl
      have e2 : (if m = 6 then (4 : Int32) * nI y + nI i else ((16 : Int32) * nI (F2 m) + (4 : Int32) * nI i) + nI y) = nI (g2 m y i) := by
        unfold g2
        by_cases h6 : m = 6
        · rw [if_pos h6, if_pos h6, i4, pk_mul, nI_add]
        · rw [if_neg h6, if_neg h6, i16, i4, pk_mul, pk_mul, nI_add, nI_add]
      have stay : (A (g1 m x i) && A (g2 m y i)) = false → MRes m τ ((srch (fun z => A (g1 m x z) && A (g2 m y z)) (M + 1) i).map (fun z => (nI (g1 m x z), nI (g2 m y z)))) (fX7_isShown_291 (nI m) p2 (nI x) (nI y) (nI p) (fX7_isShown_166 (nI m) p2 (nI x) (nI y) (nI p) N') τ 1 (nI i)) := by
        intro hz
        have es : srch (fun z => A (g1 m x z) && A (g2 m y z)) (M + 1) i = srch (fun z => A (g1 m x z) && A (g2 m y z)) M (i + 1) := by rw [srch, if_neg (by rw [hz]; decide)]
        rw [es, fX7_isShown_291, nm_i, show nI i + 1 = nI (i + 1) from nI_add i 1]
        exact e
      rw [m_step hm hl, hk, if_neg (nI_ge (by omega) (by omega)), e1, e2, fX7_isShown_253, hA _ b1, Option.bind_some]
      cases ha : A (g1 m x i) with
      | false =>
        rw [if_pos (by decide)]
        exact stay (by rw [ha]; rfl)
      | true =>
        rw [if_neg (by decide), hA _ b2, Option.bind_some]
        cases hb : A (g2 m y i) with
        | false =>
          rw [if_pos (by decide)]
          exact stay (by rw [ha, hb]; rfl)
        | true =>
          have es : srch (fun z => A (g1 m x z) && A (g2 m y z)) (M + 1) i = some i := by rw [srch, if_pos (by rw [ha, hb]; rfl)]
          rw [if_neg (by decide), es, nm_i, nm_i]
          refine ⟨_, rfl, (Fr.sI (by decide)).tr (Fr.sI (by decide)), fun a b e => ?_⟩
          cases e
          refine ⟨?_, ?_, ?_⟩
          · rw [tI_sI, if_neg (by omega), tI_sI, if_neg (by omega), h26]
          · rw [tI_sI, if_neg (by omega), tI_sI, if_pos ⟨rfl, rfl⟩]
          · rw [tI_sI, if_pos ⟨rfl, rfl⟩]
  have := key K FU 0 (by omega) (by unfold FU; omega)
  unfold fX7_isShown_156 fX7_isShown_161
  exact this
theorem MRes.fr {m : Nat} {τ τ1 : Tau} {r : Option (Int32 × Int32)} {R : Option (Bool × Tau)} (h : MRes m τ1 r R) (hF : Fr shF [] τ τ1) : MRes m τ r R := by
  obtain ⟨τ', a, b, c⟩ := h
  exact ⟨τ', a, hF.tr b, c⟩
theorem m_isShown {τ : Tau} (hK : K ≤ 4) (hk : tI τ 0 1 = nI K) (hA : BY τ A p) {m w x y : Nat} (hm : m < 9) (hw : w < 4) (hx : x < 4) (hy : y < 4) :
    MRes m τ (if SH m = w then shw K A m x y else none) (fX7_isShown τ (nI m) (nI w) (nI x) (nI y) (nI p)) := by
  have f3 : Fr shF [] τ (t3 τ m) := ((Fr.sI (by decide)).tr (Fr.sI (by decide))).tr (Fr.sI (by decide))
  have hA3 := hA.fr f3 (by decide)
  have h26 : tI (t3 τ m) 0 26 = nI m := by rw [tI_sI, if_neg (by omega), tI_sI, if_neg (by omega), tI_sI, if_pos ⟨rfl, rfl⟩]
  have h28 : tI (t3 τ m) 0 28 = -9 := by rw [tI_sI, if_pos ⟨rfl, rfl⟩]
  have one : ∀ f, f < 64 → MRes m τ (if A f = true then some (nI f, -9) else none) (fX7_isShown_83 (nI m) (nI w) (nI x) (nI y) (nI p) (t3 τ m) (nI f)) := by
    intro f hf
    have f4 : Fr shF [] (t3 τ m) (sI (t3 τ m) 0 27 (nI f)) := Fr.sI (by decide)
    unfold fX7_isShown_83
    rw [if_neg (nI_ne9 (by omega)), nm_i, (hA3.fr f4 (by decide)) f hf, Option.bind_some]
    refine ⟨_, ?_, f3.tr f4, fun a b e => ?_⟩
    · cases A f <;> rfl
    · cases ha : A f with
      | false => rw [ha, if_neg (by decide)] at e; cases e
      | true =>
        rw [ha, if_pos rfl] at e
        cases e
        refine ⟨?_, ?_, ?_⟩
        · rw [tI_sI, if_neg (by omega)]; exact h26
        · rw [tI_sI, if_pos ⟨rfl, rfl⟩]
        · rw [tI_sI, if_neg (by omega)]; exact h28
  have no : MRes m τ none (fX7_isShown_160 (nI m) (nI w) (nI x) (nI y) (nI p) (t3 τ m)) := by
    rw [m_no]
    exact ⟨_, rfl, f3, fun a b e => by cases e⟩
  have hF1 := F1_lt m
  rw [m_top hm hw]
  by_cases hs : SH m = w
  · rw [if_pos hs]
    by_cases h45 : m = 4 ∨ m = 5
    · rw [if_pos ⟨h45, hs⟩, show ((16 : Int32) * nI (F1 m) + (4 : Int32) * nI y) + nI x = nI (16 * F1 m + 4 * y + x) by rw [i16, i4, pk_mul, pk_mul, nI_add, nI_add]]
      have e : shw K A m x y = if A (16 * F1 m + 4 * y + x) = true then some (nI (16 * F1 m + 4 * y + x), -9) else none := by unfold shw; rw [if_pos h45]
      rw [e]
      exact one _ (by omega)
    · rw [if_neg (fun z => h45 z.1)]
      by_cases h8 : m = 8
      · rw [if_pos ⟨h8, hs⟩, show (4 : Int32) * nI x + nI y = nI (4 * x + y) by rw [i4, pk_mul, nI_add]]
        have e : shw K A m x y = if A (4 * x + y) = true then some (nI (4 * x + y), -9) else none := by unfold shw; rw [if_neg h45, if_pos h8]
        rw [e]
        exact one _ (by omega)
      · rw [if_neg (fun z => h8 z.1), m_83n hm hw]
        by_cases h7 : m = 7
        · rw [if_neg (fun z => by have := z.1; rw [h7] at this; exact absurd this (by decide))]
          have e : shw K A m x y = none := by unfold shw; rw [if_neg h45, if_neg h8, if_pos h7]
          rw [e]
          exact no
        · rw [if_pos ⟨decide_eq_true (by omega), hs⟩]
          have e : shw K A m x y = (srch (fun z => A (g1 m x z) && A (g2 m y z)) K 0).map (fun z => (nI (g1 m x z), nI (g2 m y z))) := by unfold shw; rw [if_neg h45, if_neg h8, if_neg h7]
          rw [e]
          exact (m_mloop hK (by rw [(f3.1 0 1 (by decide)).1, hk]) hA3 hm (decide_eq_true (by omega)) hx hy h26).fr f3
  · rw [if_neg hs, if_neg (fun z => hs z.2), if_neg (fun z => hs z.2), m_83n hm hw, if_neg (fun z => hs z.2)]
    exact no
end MN
