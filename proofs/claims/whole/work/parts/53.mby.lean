/-! which mood shows a fact: the reference's side -/
section MB
variable {K md : Nat}
theorem m_by97 {τ0 : Tau} {A : Nat → Bool} {k w x y : Nat} {p1 q : Int32} (hK : K ≤ 4) (hmd : md < 512) (hw : w < 4) (hx : x < 4) (hy : y < 4) (hk : tI τ0 0 1 = nI K) (h3 : tI τ0 0 3 = nI md) (hA : BY τ0 A k) :
    ∃ τ', fX7_by_97 p1 (nI w) (nI x) (nI y) q FU τ0 (nI k) (0 : Int32) = some ((match srch (lst K A md (16 * w + 4 * x + y)) 9 0 with
      | none => -9
      | some m => if q = 0 then nI m else match shw K A m x y with
        | none => -9
        | some ab => if q = 1 then ab.1 else ab.2), τ') ∧ Fr shF [] τ0 τ' := by
  have key : ∀ M N i τ, i + M = 9 → M < N → Fr shF [] τ0 τ → ∃ τ', fX7_by_97 p1 (nI w) (nI x) (nI y) q N τ (nI k) (nI i) = some ((match srch (lst K A md (16 * w + 4 * x + y)) M i with
      | none => -9
      | some m => if q = 0 then nI m else match shw K A m x y with
        | none => -9
        | some ab => if q = 1 then ab.1 else ab.2), τ') ∧ Fr shF [] τ0 τ' := by
    intro M
    induction M with
    | zero =>
      intro N i τ hi hN hF
      obtain ⟨N', rfl⟩ : ∃ N', N = N' + 1 := ⟨N - 1, by omega⟩
      rw [fX7_by_97, i9, if_pos (nI_le (by omega) (by omega))]
      exact ⟨τ, rfl, hF⟩
    | succ M ih =>
      intro N i τ hi hN hF
      obtain ⟨N', rfl⟩ : ∃ N', N = N' + 1 := ⟨N - 1, by omega⟩
      have him : i < 9 := by omega
      have gk : tI τ 0 1 = nI K := by rw [(hF.1 0 1 (by decide)).1, hk]
      have g3 : tI τ 0 3 = nI md := by rw [(hF.1 0 3 (by decide)).1, h3]
      have stay : lst K A md (16 * w + 4 * x + y) i = false → ∀ τ2, Fr shF [] τ τ2 → ∃ τ', fX7_by_162 p1 (nI w) (nI x) (nI y) q (fX7_by_97 p1 (nI w) (nI x) (nI y) q N') τ2 (nI k) (nI i) = some ((match srch (lst K A md (16 * w + 4 * x + y)) (M + 1) i with
          | none => -9
          | some m => if q = 0 then nI m else match shw K A m x y with
            | none => -9
            | some ab => if q = 1 then ab.1 else ab.2), τ') ∧ Fr shF [] τ0 τ' := by
        intro hz τ2 hF2
        rw [fX7_by_162, nm_i, show nI i + 1 = nI (i + 1) from nI_add i 1, srch, if_neg (by rw [hz]; decide)]
        exact ih N' (i + 1) τ2 (by omega) (by omega) (hF.tr hF2)
      rw [fX7_by_97, i9, if_neg (nI_ge him (by omega)), g3, nI_bit (by omega) (by omega)]
      cases hb : md.testBit i with
      | false =>
        rw [if_neg (by decide)]
        exact stay (by unfold lst; rw [hb]; rfl) τ Fr.rf
      | true =>
        obtain ⟨τ2, e2, f2, s2⟩ := m_isShown (m := i) (w := w) (x := x) (y := y) hK gk (hA.fr hF (by decide)) him hw hx hy
        have el : lst K A md (16 * w + 4 * x + y) i = (if SH i = w then shw K A i x y else none).isSome := by
          unfold lst
          rw [hb, show (16 * w + 4 * x + y) / 16 = w by omega, show (16 * w + 4 * x + y) / 4 % 4 = x by omega, show (16 * w + 4 * x + y) % 4 = y by omega]
          by_cases q : SH i = w
          · rw [if_pos q]; simp [q]
          · rw [if_neg q]; simp [q]
        rw [if_pos (by decide), e2, Option.bind_some, ← el]
        dsimp only
        cases hl : lst K A md (16 * w + 4 * x + y) i with
        | false =>
          rw [if_pos (by decide)]
          exact stay hl τ2 f2
        | true =>
          rw [if_neg (by decide), srch, if_pos hl]
          dsimp only
          rw [hl] at el
          by_cases hs : SH i = w
          · rw [if_pos hs] at el s2
            cases hsh : shw K A i x y with
            | none => rw [hsh] at el; cases el
            | some ab =>
              obtain ⟨s26, s27, s28⟩ := s2 ab.1 ab.2 hsh
              refine ⟨τ2, ?_, hF.tr f2⟩
              rw [s26, s27, s28]
              dsimp only
              by_cases q0 : q = 0
              · rw [if_pos q0, if_pos q0]
              · rw [if_neg q0, if_neg q0]
                split <;> rfl
          · rw [if_neg hs] at el; cases el
  exact key 9 FU 0 τ0 (by omega) (by unfold FU; omega) Fr.rf
theorem m_BY {τ : Tau} {R : Nat → Option Nat} {k : Nat} (hR : RM τ R) (hB : RB R 900) (hk : k < 900) : BY τ (ahd R k) k := fun f hf => m_isBy (hR f hf) (fun j z => by have := hB f j hf z; omega) (by omega) hf
end MB
/-! how many facts are shown: both sides -/
def cntR (R : Nat → Option Nat) (n : Nat) : Nat := sumTo (fun f => if (R f).isSome then 1 else 0) n
def cntB (P : Nat → Bool) (n : Nat) : Nat := sumTo (fun f => if P f then 1 else 0) n
theorem cntB_le (P : Nat → Bool) : ∀ n, cntB P n ≤ n
  | 0 => Nat.le_refl _
  | n + 1 => by
    have := cntB_le P n
    unfold cntB at this ⊢
    rw [sumTo]
    split <;> omega
theorem m_shown135 {τ : Tau} {R : Nat → Option Nat} {p1 p2 : Int32} (hR : RM τ R) (hB : RB R 900) : fX7_shown_135 p1 p2 FU τ (0 : Int32) (0 : Int32) = some (nI (cntB (fun f => (R f).isSome) 64), τ) := by
  have key : ∀ N i, i ≤ 64 → 64 - i < N → fX7_shown_135 p1 p2 N τ (nI (cntB (fun f => (R f).isSome) i)) (nI i) = some (nI (cntB (fun f => (R f).isSome) 64), τ) := by
    intro N
    induction N with
    | zero => intro i _ h; omega
    | succ N ih =>
      intro i hi hN
      rw [fX7_shown_135]
      by_cases hlt : i < 64
      · have e := ih (i + 1) (by omega) (by omega)
        rw [show cntB (fun f => (R f).isSome) (i + 1) = cntB (fun f => (R f).isSome) i + (if (R i).isSome then 1 else 0) from rfl] at e
        rw [i64, if_neg (nI_ge hlt (by omega)), if_neg (nI_in hlt (by decide)), nI_clamp (by omega), hR i hlt]
        cases hr : R i with
        | none =>
          rw [if_pos (show encW none = -9 from rfl), fX7_shown_160, nm_i, nm_i, i1, i0, nI_add, nI_add]
          rw [hr] at e
          exact e
        | some k =>
          have := hB i k hlt hr
          rw [if_neg (show ¬ encW (some k) = -9 from nI_ne9 (by omega)), fX7_shown_160, nm_i, nm_i, i1, nI_add, nI_add]
          rw [hr] at e
          exact e
      · have : i = 64 := by omega
        subst this
        rw [i64, if_pos (nI_le (Nat.le_refl _) (by omega))]
  rw [i0]
  exact key FU 0 (by omega) (by unfold FU; omega)
/-- a quarrel: all are and some are not, or some are and none is -/
def qrl (R : Nat → Option Nat) : Bool := (srch (fun f => ((R f).isSome && (R (48 + f)).isSome) || ((R (16 + f)).isSome && (R (32 + f)).isSome)) 16 0).isSome
theorem m_shown48 {τ : Tau} {R : Nat → Option Nat} {p1 p2 : Int32} (hR : RM τ R) (hB : RB R 900) : fX7_shown_48 p1 p2 FU τ (0 : Int32) (0 : Int32) = some (bI (qrl R), τ) := by
  let P : Nat → Bool := fun f => ((R f).isSome && (R (48 + f)).isSome) || ((R (16 + f)).isSome && (R (32 + f)).isSome)
  have e9 : ∀ f, f < 64 → (encW (R f) = -9 ↔ (R f).isSome = false) := by
    intro f hf
    rw [encW9 (fun k hk => by have := hB f k hf hk; omega)]
    cases R f <;> simp
  have key : ∀ N i (c : Bool), i ≤ 16 → 16 - i < N → (c = true ↔ ∃ j, j < i ∧ P j = true) → fX7_shown_48 p1 p2 N τ (bI c) (nI i) = some (bI (qrl R), τ) := by
    intro N
    induction N with
    | zero => intro i _ _ h; omega
    | succ N ih =>
      intro i c hi hN hc
      rw [fX7_shown_48]
      by_cases hlt : i < 16
      · have fin0 : P i = false → fX7_shown_117 p1 p2 (fX7_shown_48 p1 p2 N) τ (nI i) (bI c) = some (bI (qrl R), τ) := by
          intro hz
          rw [fX7_shown_117, fX7_shown_118, nm_i, nm_i, show bI c ||| 0 = bI c by cases c <;> decide, show nI i + 1 = nI (i + 1) from nI_add i 1]
          refine ih (i + 1) c (by omega) (by omega) (hc.trans ⟨fun ⟨j, a, b⟩ => ⟨j, by omega, b⟩, fun ⟨j, a, b⟩ => ⟨j, ?_, b⟩⟩)
          by_cases e : j = i
          · rw [e, hz] at b; cases b
          · omega
        have fin1 : P i = true → fX7_shown_113 p1 p2 (fX7_shown_48 p1 p2 N) τ (nI i) (bI c) = some (bI (qrl R), τ) := by
          intro hz
          rw [fX7_shown_113, fX7_shown_118, nm_i, nm_i, show bI c ||| 1 = bI true by cases c <;> decide, show nI i + 1 = nI (i + 1) from nI_add i 1]
          exact ih (i + 1) true (by omega) (by omega) ⟨fun _ => ⟨i, by omega, hz⟩, fun _ => rfl⟩
        have sec : ((R i).isSome && (R (48 + i)).isSome) = false → fX7_shown_83 p1 p2 (fX7_shown_48 p1 p2 N) τ (nI i) (bI c) = some (bI (qrl R), τ) := by
          intro h0
          have hP : P i = ((R (16 + i)).isSome && (R (32 + i)).isSome) := by show (((R i).isSome && (R (48 + i)).isSome) || _) = _; rw [h0]; rfl
          rw [fX7_shown_83, show (16 : Int32) + nI i = nI (16 + i) by rw [i16, nI_add], show (32 : Int32) + nI i = nI (32 + i) from nI_add 32 i, if_neg (nI_in (show 16 + i < 64 by omega) (by decide)), nI_clamp (by omega), hR _ (by omega)]
          cases h1 : (R (16 + i)).isSome with
          | false =>
            rw [if_pos ((e9 _ (by omega)).mpr h1)]
            exact fin0 (by rw [hP, h1]; rfl)
          | true =>
            rw [if_neg (fun z => by have := (e9 _ (by omega)).mp z; rw [h1] at this; cases this), if_neg (nI_in (show 32 + i < 64 by omega) (by decide)), nI_clamp (by omega), hR _ (by omega)]
            cases h2 : (R (32 + i)).isSome with
            | false =>
              rw [if_pos ((e9 _ (by omega)).mpr h2)]
              exact fin0 (by rw [hP, h2]; simp)
            | true =>
              rw [if_neg (fun z => by have := (e9 _ (by omega)).mp z; rw [h2] at this; cases this)]
              exact fin1 (by rw [hP, h1, h2]; rfl)
        rw [if_neg (show ¬ (16 : Int32) ≤ nI i by rw [i16]; exact nI_ge hlt (by omega)), if_neg (nI_in (show i < 64 by omega) (by decide)), nI_clamp (by omega), hR i (by omega), show (48 : Int32) + nI i = nI (48 + i) from nI_add 48 i]
        cases h1 : (R i).isSome with
        | false =>
          rw [if_pos ((e9 _ (by omega)).mpr h1)]
          exact sec (by rw [h1]; rfl)
        | true =>
          rw [if_neg (fun z => by have := (e9 _ (by omega)).mp z; rw [h1] at this; cases this), if_neg (nI_in (show 48 + i < 64 by omega) (by decide)), nI_clamp (by omega), hR _ (by omega)]
          cases h2 : (R (48 + i)).isSome with
          | false =>
            rw [if_pos ((e9 _ (by omega)).mpr h2)]
            exact sec (by rw [h2]; simp)
          | true =>
            rw [if_neg (fun z => by have := (e9 _ (by omega)).mp z; rw [h2] at this; cases this)]
            exact fin1 (by show (((R i).isSome && (R (48 + i)).isSome) || _) = true; rw [h1, h2]; rfl)
      · have : i = 16 := by omega
        subst this
        rw [i16, if_pos (nI_le (Nat.le_refl _) (by omega))]
        have : c = qrl R := by
          have : c = true ↔ qrl R = true := by unfold qrl; rw [srch_isSome]; exact hc
          cases c <;> cases h : qrl R <;> simp_all
        rw [this]
  exact key FU 0 false (by omega) (by unfold FU; omega) ⟨fun z => (by cases z), fun ⟨j, a, _⟩ => absurd a (by omega)⟩
