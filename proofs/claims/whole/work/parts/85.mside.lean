/-! the reference's side, to its end -/
section MT
variable {K len : Nat} {tx : Nat → Nat}
theorem red_op {τ : Tau} {s : PSt} {vs os : List Nat} {o tk : Nat} (hR : RD K len tx τ s) (hn : s.2.2 = none) (n : Nat) :
    LQ (n + 1) τ (s, false, vs, os, o) tk = if psSg len tx s 38 = true ∨ psSg len tx s 124 = true then fX7_side_225 (fX7_side_21 n) FU τ (nI vs.length) (nI os.length) (nI o) 1 (nI tk)
      else if psSg len tx s 41 = true then Option.bind (fX7_hasOpen τ (nI os.length)) (fun r12 => if bI r12 = 0 then fX7_side_416 (fX7_side_21 n) τ (nI vs.length) (nI os.length) (nI o) 0 (nI tk) else fX7_side_350 (fX7_side_21 n) FU τ (nI vs.length) (nI os.length) (nI o) 0 1 (nI tk))
      else fX7_side_416 (fX7_side_21 n) τ (nI vs.length) (nI os.length) (nI o) 0 (nI tk) := by
  unfold LQ
  show fX7_side_21 (n + 1) τ (nI vs.length) (nI os.length) (nI o) 0 1 (nI tk) = _
  rw [fX7_side_21, if_neg (by decide), nm_i, m_well hR, decide_eq_true hn, ifT, if_pos rfl, nm_i, show (38 : Int32) = nI 38 from rfl, m_sign hR hn (by decide)]
  cases h38 : psSg len tx s 38 with
  | true => rw [ifT, if_pos (Or.inl rfl)]
  | false =>
    rw [ifF, nm_i, show (124 : Int32) = nI 124 from rfl, m_sign hR hn (by decide)]
    cases h124 : psSg len tx s 124 with
    | true => rw [ifT, if_pos (Or.inr rfl)]
    | false =>
      rw [ifF, nm_i, show (41 : Int32) = nI 41 from rfl, m_sign hR hn (by decide), if_neg (show ¬ (false = true ∨ false = true) by decide)]
      cases psSg len tx s 41 with
      | true => rw [ifT, if_pos rfl]
      | false => rw [ifF, if_neg (by decide)]
theorem m_step_op (hK : K ≤ 4) {τ : Tau} {s : PSt} {vs os : List Nat} {o tk q0 : Nat} {M' : MSt} (hR : RD K len tx τ s) (h4 : Stk τ 4 vs) (h5 : Stk τ 5 os) (hW : Wf false s.2.1 (vs, os, o)) (hJ : JL len tx τ q0 (s, false, vs, os, o) tk) (hn : s.2.2 = none) (st : mstep K len tx (s, false, vs, os, o) = some M') (n : Nat) :
    ∃ τ' tk', RMS K len tx τ' M' ∧ JL len tx τ' q0 M' tk' ∧ Fr smF [4, 5] τ τ' ∧ LQ (n + 1) τ (s, false, vs, os, o) tk = LQ n τ' M' tk' := by
  obtain ⟨g, hv, ho, ho8, hvp, hp24, hvb⟩ := hW
  have g : gF false os := g
  have hv : vs.length = nb os + 1 := hv
  have ho : o = no os := ho
  have ho8 : o ≤ 8 := ho8
  have hvp : vs.length ≤ s.2.1 := hvp
  have hvb : ∀ v ∈ vs, v < 65536 := hvb
  have hlen := gF_len g
  have hb := hR.hb
  have jt : tk ≤ s.2.1 := hJ.1
  rw [red_op hR hn]
  unfold mstep at st
  rw [if_pos (show (s, false, vs, os, o).1.2.2 = none from hn), if_neg (show ¬ (s, false, vs, os, o).2.1 = true from Bool.false_ne_true)] at st
  by_cases hop : psSg len tx s 38 = true ∨ psSg len tx s 124 = true
  · rw [if_pos hop]
    rw [if_pos (show psSg len tx (s, false, vs, os, o).1 38 = true ∨ psSg len tx (s, false, vs, os, o).1 124 = true from hop)] at st
    cases st
    have hk : (psT len tx s).1 = 5 ∧ ((psT len tx s).2.1 = 38 ∨ (psT len tx s).2.1 = 124) := by
      rcases hop with z | z
      · have := of_decide_eq_true z; exact ⟨this.1, Or.inl this.2⟩
      · have := of_decide_eq_true z; exact ⟨this.1, Or.inr this.2⟩
    have e10 : tI τ 0 10 = nI (psT len tx s).2.1 := (hR.2.1.2.2.2.2.2.2.2 hk.1).2
    have hpos : s.1 < nx len tx s.1 := nx_lt hb (by have := hk.1; unfold psT at this; omega)
    show ∃ τ' tk', RMS K len tx τ' (psAdv len tx s, true, (popJ (opP (psT len tx s).2.1) os vs).2, (psT len tx s).2.1 :: (popJ (opP (psT len tx s).2.1) os vs).1, o) ∧ JL len tx τ' q0 (psAdv len tx s, true, (popJ (opP (psT len tx s).2.1) os vs).2, (psT len tx s).2.1 :: (popJ (opP (psT len tx s).2.1) os vs).1, o) tk' ∧ Fr smF [4, 5] τ τ' ∧ _ = LQ n τ' (psAdv len tx s, true, (popJ (opP (psT len tx s).2.1) os vs).2, (psT len tx s).2.1 :: (popJ (opP (psT len tx s).2.1) os vs).1, o) tk'
    have hk2 := hk.2
    generalize (psT len tx s).2.1 = c at *
    obtain ⟨τ1, e1, S4, S5, f1⟩ := m_225 (fX7_side_21 n) hk2 (nI o) 1 (nI tk) os vs τ FU (by unfold FU; omega) e10 h4 h5 g hv (by omega) (by omega)
    obtain ⟨w1, w2, w3, w4, w5, w6⟩ := popJ_wf (P := opP c) (decide_eq_false (by omega)) os vs g hv hvb
    rw [e1]
    have R1 := hR.fr4 f1
    have e10' : tI τ1 0 10 = nI c := by rw [(f1.1 0 10 (by decide)).1, e10]
    generalize popJ (opP c) os vs = r at *
    obtain ⟨os', vs'⟩ := r
    have S4 : Stk τ1 4 vs' := S4
    have S5 : Stk τ1 5 os' := S5
    have w1 : gF false os' := w1
    have w2 : vs'.length = nb os' + 1 := w2
    have w3 : no os' = no os := w3
    have w4 : vs'.length ≤ vs.length := w4
    have w6 : os'.length ≤ os.length := w6
    unfold fX7_side_304
    show ∃ τ' tk', RMS K len tx τ' (psAdv len tx s, true, vs', c :: os', o) ∧ JL len tx τ' q0 (psAdv len tx s, true, vs', c :: os', o) tk' ∧ Fr smF [4, 5] τ τ' ∧ (if nI os'.length < 0 ∨ 60 ≤ (nI os'.length).toNatClampNeg then none else nm (sA τ1 5 (nI os'.length).toNatClampNeg (tI τ1 0 10)) (fun t80 => nm (nI os'.length + (1 : Int32)) (fun x81 => nm (sI t80 0 16 (-9 : Int32)) (fun t82 => Option.bind (fX7_advances t82) (fun r83 => fX7_side_419 (fX7_side_21 n) FU r83 (nI vs'.length) x81 (nI o) (1 : Int32) 1 (nI tk)))))) = LQ n τ' (psAdv len tx s, true, vs', c :: os', o) tk'
    rw [if_neg (nI_in (show os'.length < 60 by omega) (by decide)), nm_i, nm_i, nm_i, nI_clamp (by omega), e10']
    have f2 : Fr [(0, 16)] [5] τ1 (sI (sA τ1 5 os'.length (nI c)) 0 16 (-9)) := (Fr.sA (by decide)).tr (Fr.sI (by decide))
    have R2 := R1.fr f2 (fun j hj => by simp; omega) (by decide)
    have T5 : Stk (sI (sA τ1 5 os'.length (nI c)) 0 16 (-9)) 5 (c :: os') := Stk.fr (τ := sA τ1 5 os'.length (nI c)) (τ' := sI (sA τ1 5 os'.length (nI c)) 0 16 (-9)) (fun _ => rfl) (Stk.push S5)
    have T4 : Stk (sI (sA τ1 5 os'.length (nI c)) 0 16 (-9)) 4 vs' := S4.fr (fun j => (f2.2 4 (by decide) j).1)
    have e16 : tI (sI (sA τ1 5 os'.length (nI c)) 0 16 (-9)) 0 16 = -9 := by rw [tI_sI, if_pos ⟨rfl, rfl⟩]
    generalize sI (sA τ1 5 os'.length (nI c)) 0 16 (-9) = τ2 at *
    obtain ⟨τ4, e4, R4, f4⟩ := R2.adv
    have e16' : tI τ4 0 16 = -9 := by rw [(f4.1 0 16 (by decide)).1, e16]
    refine ⟨τ4, tk, ⟨R4, T4.fr (fun j => (f4.2 4 (by decide) j).1), T5.fr (fun j => (f4.2 5 (by decide) j).1), ?_, ?_, ?_, ho8, ?_, hp24, w5⟩, hJ.on rfl hpos jt (fun z => z) (fun _ _ z => by cases z) (fun _ _ _ => e16'), ((f1.wk (by decide) (by decide)).tr (f2.wk (by decide) (by decide))).tr (f4.wk (by decide) (by decide)), ?_⟩
    · show gF true (c :: os')
      exact Or.inr (Or.inr ⟨hk2, w1⟩)
    · show vs'.length = nb (c :: os') + 0
      rw [nb, if_pos hk2]; omega
    · show o = no (c :: os')
      rw [no, if_neg (by omega)]; omega
    · show vs'.length ≤ s.2.1; omega
    · rw [e4, Option.bind_some, m_419w, i1, nI_add]
      rfl
  · rw [if_neg hop]
    rw [if_neg (show ¬ (psSg len tx (s, false, vs, os, o).1 38 = true ∨ psSg len tx (s, false, vs, os, o).1 124 = true) from hop)] at st
    by_cases h41 : psSg len tx s 41 = true ∧ 40 ∈ os
    · rw [if_pos h41.1, m_hasOpen h5 (by omega) (gF_256 g), Option.bind_some, decide_eq_true h41.2, ifT]
      rw [if_pos (show psSg len tx (s, false, vs, os, o).1 41 = true ∧ 40 ∈ (s, false, vs, os, o).2.2.2.1 from h41)] at st
      cases st
      show ∃ τ' tk', RMS K len tx τ' (psAdv len tx s, false, popB K (popJ noP os vs).1.tail (popJ noP os vs).2 (o - 1)) ∧ JL len tx τ' q0 (psAdv len tx s, false, popB K (popJ noP os vs).1.tail (popJ noP os vs).2 (o - 1)) tk' ∧ Fr smF [4, 5] τ τ' ∧ _ = LQ n τ' (psAdv len tx s, false, popB K (popJ noP os vs).1.tail (popJ noP os vs).2 (o - 1)) tk'
      have hpos : s.1 < nx len tx s.1 := nx_lt hb (psSg_0 h41.1)
      obtain ⟨τ1, os', eo, e1, S4, S5, f1⟩ := m_350 (fX7_side_21 n) (nI o) 0 1 (nI tk) os vs τ FU (by unfold FU; omega) h41.2 h4 h5 g hv (by omega) (by omega)
      obtain ⟨w1, w2, w3, w4, w5, w6⟩ := popJ_wf (P := noP) (by decide) os vs g hv hvb
      rw [eo] at w1 w2 w3 w6 ⊢
      rw [e1, List.tail_cons]
      have g' : gF true os' := by
        rcases w1 with ⟨z, _⟩ | ⟨_, z⟩ | ⟨z, _⟩
        · omega
        · exact z
        · omega
      rw [nb, if_neg (by omega)] at w2
      rw [no, if_pos (by omega)] at w3
      rw [List.length_cons] at w6
      generalize (popJ noP os vs).2 = vs' at *
      have R1 := hR.fr4 f1
      obtain ⟨τ4, e4, R4, f4⟩ := R1.adv
      have T4 : Stk τ4 4 vs' := S4.fr (fun j => (f4.2 4 (by decide) j).1)
      have T5 : Stk τ4 5 os' := S5.fr (fun j => (f4.2 5 (by decide) j).1)
      have wf := popB_wf hK (pt := s.2.1) hp24 os' vs' (o - 1) g' (by omega) (by omega) (by omega) (by omega) w5
      obtain ⟨τ5, e5, R5, P4, P5, f5⟩ := m_419 hK (fX7_side_21 n) os' vs' (o - 1) τ4 (psAdv len tx s) FU 1 (nI tk) (by unfold FU; omega) R4 T4 T5 g' (by omega) (by omega) (by omega) (by omega) w5
      have e16 : tI τ5 0 16 = tI τ 0 16 := by rw [(f5.1 0 16 (by decide)).1, (f4.1 0 16 (by decide)).1, (f1.1 0 16 (by decide)).1]
      refine ⟨τ5, tk, ⟨R5, P4, P5, wf⟩, hJ.on rfl hpos jt (fun z => z) (fun _ _ z => by cases z) (fun _ _ c => ?_), ((f1.wk (by decide) (by decide)).tr (f4.wk (by decide) (by decide))).tr (f5.wk (by decide) (by decide)), ?_⟩
      · rcases c with c | c
        · rw [e16, c]
        · have c : os = [] := c.2
          rw [c] at h41
          cases h41.2
      · rw [e4, Option.bind_some, nI_dec (by omega)]
        exact e5
    · rw [if_neg (show ¬ (psSg len tx (s, false, vs, os, o).1 41 = true ∧ 40 ∈ (s, false, vs, os, o).2.2.2.1) from h41)] at st
      cases st
theorem m_stepA (hK : K ≤ 4) {τ : Tau} {M M' : MSt} {tk q0 : Nat} (h : RMS K len tx τ M) (hJ : JL len tx τ q0 M tk) (st : mstep K len tx M = some M') (n : Nat) :
    ∃ τ' tk', RMS K len tx τ' M' ∧ JL len tx τ' q0 M' tk' ∧ Fr smF [4, 5] τ τ' ∧ LQ (n + 1) τ M tk = LQ n τ' M' tk' := by
  obtain ⟨s, w, vs, os, o⟩ := M
  obtain ⟨hR, h4, h5, hW⟩ := h
  have hn : s.2.2 = none := by
    by_cases c : s.2.2 = none
    · exact c
    · unfold mstep at st
      rw [if_neg (show ¬ (s, w, vs, os, o).1.2.2 = none from c)] at st
      cases st
  cases w with
  | true => exact m_step_want hK hR h4 h5 hW hJ hn st n
  | false => exact m_step_op hK hR h4 h5 hW hJ hn st n
theorem m_stuck {τ : Tau} {M : MSt} {tk : Nat} (h : RMS K len tx τ M) (st : mstep K len tx M = none) (n : Nat) : LQ (n + 2) τ M tk = fX7_side_473 τ (nI M.2.2.1.length) (nI M.2.2.2.1.length) := by
  obtain ⟨s, w, vs, os, o⟩ := M
  obtain ⟨hR, h4, h5, g, hv, ho, ho8, hvp, hp24, hvb⟩ := h
  show LQ (n + 2) τ (s, w, vs, os, o) tk = fX7_side_473 τ (nI vs.length) (nI os.length)
  have g : gF w os := g
  have hv : vs.length = nb os + (if w = true then 0 else 1) := hv
  have ho : o = no os := ho
  have ho8 : o ≤ 8 := ho8
  have hvp : vs.length ≤ s.2.1 := hvp
  have hp24 : s.2.1 ≤ 24 := hp24
  have hlen := gF_len g
  by_cases hn : s.2.2 = none
  · unfold mstep at st
    rw [if_pos (show (s, w, vs, os, o).1.2.2 = none from hn)] at st
    cases w with
    | true =>
      rw [if_pos rfl] at st
      split at st
      · split at st <;> cases st
      · cases st
    | false =>
      rw [if_neg (show ¬ (s, false, vs, os, o).2.1 = true from Bool.false_ne_true)] at st
      have hl50 : os.length < 50 := by
        rw [if_neg (show ¬ false = true by decide)] at hv
        omega
      have fin : fX7_side_416 (fX7_side_21 (n + 1)) τ (nI vs.length) (nI os.length) (nI o) 0 (nI tk) = fX7_side_473 τ (nI vs.length) (nI os.length) := by
        unfold fX7_side_416
        rw [m_419s _ h5 g (show os.length < 60 by omega), fX7_side_21, if_pos rfl]
      rw [red_op hR hn]
      by_cases hop : psSg len tx s 38 = true ∨ psSg len tx s 124 = true
      · rw [if_pos (show psSg len tx (s, false, vs, os, o).1 38 = true ∨ psSg len tx (s, false, vs, os, o).1 124 = true from hop)] at st
        cases st
      · rw [if_neg (show ¬ (psSg len tx (s, false, vs, os, o).1 38 = true ∨ psSg len tx (s, false, vs, os, o).1 124 = true) from hop)] at st
        rw [if_neg hop]
        by_cases h41 : psSg len tx s 41 = true
        · have h40 : ¬ 40 ∈ os := fun z => by
            rw [if_pos (show psSg len tx (s, false, vs, os, o).1 41 = true ∧ 40 ∈ (s, false, vs, os, o).2.2.2.1 from ⟨h41, z⟩)] at st
            cases st
          rw [if_pos h41, m_hasOpen h5 (show os.length < 60 by omega) (gF_256 g), Option.bind_some, decide_eq_false h40, ifF]
          exact fin
        · rw [if_neg h41]
          exact fin
  · unfold LQ
    show fX7_side_21 (n + 2) τ (nI vs.length) (nI os.length) (nI o) (bI w) 1 (nI tk) = _
    rw [fX7_side_21, if_neg (by decide), nm_i, m_well hR, decide_eq_false hn, ifF]
/-- a step leaves less before it -/
theorem mstep_dec (hb : ∀ j, j < len → tx j < 256) {M M' : MSt} (st : mstep K len tx M = some M') : M.1.1 < M'.1.1 ∨ (M'.1.1 = M.1.1 ∧ M.1.2.2 = none ∧ M'.1.2.2 ≠ none) := by
  obtain ⟨s, w, vs, os, o⟩ := M
  unfold mstep at st
  by_cases hn : s.2.2 = none
  · rw [if_pos (show (s, w, vs, os, o).1.2.2 = none from hn)] at st
    cases w with
    | true =>
      rw [if_pos rfl] at st
      by_cases hpt : isPt K len tx s o = true
      · rw [if_pos hpt] at st
        have hpos := nx_lt hb (isPt_0 hb hpt)
        split at st
        · cases st; exact Or.inl hpos
        · cases st; exact Or.inl hpos
      · rw [if_neg hpt] at st
        cases st
        exact Or.inr ⟨psFail_1 s, hn, psFail_n s⟩
    | false =>
      rw [if_neg (show ¬ (s, false, vs, os, o).2.1 = true from Bool.false_ne_true)] at st
      by_cases hop : psSg len tx s 38 = true ∨ psSg len tx s 124 = true
      · rw [if_pos (show psSg len tx (s, false, vs, os, o).1 38 = true ∨ psSg len tx (s, false, vs, os, o).1 124 = true from hop)] at st
        cases st
        exact Or.inl (hop.elim (fun z => nx_lt hb (psSg_0 z)) (fun z => nx_lt hb (psSg_0 z)))
      · rw [if_neg (show ¬ (psSg len tx (s, false, vs, os, o).1 38 = true ∨ psSg len tx (s, false, vs, os, o).1 124 = true) from hop)] at st
        by_cases h41 : psSg len tx s 41 = true ∧ 40 ∈ os
        · rw [if_pos (show psSg len tx (s, false, vs, os, o).1 41 = true ∧ 40 ∈ (s, false, vs, os, o).2.2.2.1 from h41)] at st
          cases st
          exact Or.inl (nx_lt hb (psSg_0 h41.1))
        · rw [if_neg (show ¬ (psSg len tx (s, false, vs, os, o).1 41 = true ∧ 40 ∈ (s, false, vs, os, o).2.2.2.1) from h41)] at st
          cases st
  · rw [if_neg (show ¬ (s, w, vs, os, o).1.2.2 = none from hn)] at st
    cases st
def msz (len : Nat) (M : MSt) : Nat := 2 * (len - M.1.1) + (if M.1.2.2 = none then 1 else 0)
theorem m_run (hK : K ≤ 4) {q0 : Nat} : ∀ m M τ tk n, msz len M ≤ m → m + 2 ≤ n → RMS K len tx τ M → JL len tx τ q0 M tk →
    ∃ F τ' tk', Rch K len tx M F ∧ mstep K len tx F = none ∧ RMS K len tx τ' F ∧ JL len tx τ' q0 F tk' ∧ Fr smF [4, 5] τ τ' ∧ LQ n τ M tk = fX7_side_473 τ' (nI F.2.2.1.length) (nI F.2.2.2.1.length) := by
  intro m
  induction m with
  | zero =>
    intro M τ tk n hm hn h hJ
    cases st : mstep K len tx M with
    | none =>
      obtain ⟨n', rfl⟩ : ∃ n', n = n' + 2 := ⟨n - 2, by omega⟩
      exact ⟨M, τ, tk, Rch.rf, st, h, hJ, Fr.rf, m_stuck h st n'⟩
    | some M' =>
      exfalso
      obtain ⟨τ', tk', h', _⟩ := m_stepA hK h hJ st 0
      have hp' := h'.1.2.2.2.2.2.1
      unfold msz at hm
      rcases mstep_dec h.1.hb st with z | ⟨_, z, _⟩
      · omega
      · rw [if_pos z] at hm; omega
  | succ m ih =>
    intro M τ tk n hm hn h hJ
    cases st : mstep K len tx M with
    | none =>
      obtain ⟨n', rfl⟩ : ∃ n', n = n' + 2 := ⟨n - 2, by omega⟩
      exact ⟨M, τ, tk, Rch.rf, st, h, hJ, Fr.rf, m_stuck h st n'⟩
    | some M' =>
      obtain ⟨n', rfl⟩ : ∃ n', n = n' + 1 := ⟨n - 1, by omega⟩
      obtain ⟨τ1, tk1, h1, j1, f1, e1⟩ := m_stepA hK h hJ st n'
      have hp' := h1.1.2.2.2.2.2.1
      have hlt : msz len M' ≤ m := by
        unfold msz at hm ⊢
        rcases mstep_dec h.1.hb st with z | ⟨z1, z2, z3⟩
        · split <;> split at hm <;> omega
        · rw [if_neg z3, z1]
          rw [if_pos z2] at hm
          omega
      obtain ⟨F, τ2, tk2, a1, a2, a3, a4, a5, a6⟩ := ih M' τ1 tk1 n' hlt (by omega) h1 j1
      exact ⟨F, τ2, tk2, (Rch.one st).tr a1, a2, a3, a4, f1.tr a5, e1.trans a6⟩
theorem mitr_stuck {F : MSt} (st : mstep K len tx F = none) : ∀ k G, mitr K len tx k F = some G → F = G
  | 0, G, h => by rw [mitr] at h; cases h; rfl
  | k + 1, G, h => by rw [mitr, st] at h; cases h
theorem Rch.det {A F G : MSt} (h : Rch K len tx A F) (g : Rch K len tx A G) (sf : mstep K len tx F = none) (sg : mstep K len tx G = none) : F = G := by
  obtain ⟨n, h⟩ := h
  obtain ⟨m, g⟩ := g
  by_cases c : n ≤ m
  · have e := mitr_add n (m - n) A F h
    rw [show n + (m - n) = m by omega, g] at e
    exact mitr_stuck sf _ _ e.symm
  · have e := mitr_add m (n - m) A G g
    rw [show m + (n - m) = n by omega, h] at e
    exact (mitr_stuck sg _ _ e.symm).symm
theorem m_543 (τ : Tau) : fX7_side_543 τ = some (tA τ 4 0, τ) := by
  unfold fX7_side_543
  rw [if_neg (by decide)]
  rfl
theorem m_473f {τ : Tau} {F : MSt} (h : RMS K len tx τ F) {f : Nat} (hf : mfin F = some f) :
    ∃ x τ' s', fX7_side_473 τ (nI F.2.2.1.length) (nI F.2.2.2.1.length) = some (x, τ') ∧ RD K len tx τ' s' ∧ s'.2.2 = some f ∧ Fr smF [4, 5] τ τ' := by
  obtain ⟨s, w, vs, os, o⟩ := F
  obtain ⟨hR, h4, h5, g, hv, ho, ho8, hvp, hp24, hvb⟩ := h
  show ∃ x τ' s', fX7_side_473 τ (nI vs.length) (nI os.length) = some (x, τ') ∧ _
  have g : gF w os := g
  have hv : vs.length = nb os + (if w = true then 0 else 1) := hv
  have ho : o = no os := ho
  have ho8 : o ≤ 8 := ho8
  have hvp : vs.length ≤ s.2.1 := hvp
  have hp24 : s.2.1 ≤ 24 := hp24
  have hlen := gF_len g
  have e492 : ∀ {τ1 : Tau} {s1 : PSt}, RD K len tx τ1 s1 → s1.2.2 ≠ none → fX7_side_492 FU τ1 (nI vs.length) (nI os.length) = some (tA τ1 4 0, τ1) := by
    intro τ1 s1 r1 hne
    obtain ⟨m, hm⟩ : ∃ m, FU = m + 1 := ⟨999999, rfl⟩
    rw [hm, fX7_side_492, nm_i, m_well r1, decide_eq_false hne, ifF, m_543]
  unfold mfin at hf
  unfold fX7_side_473
  rw [nm_i, m_well hR]
  cases hs : s.2.2 with
  | some f' =>
    have hf : (match s.2.2 with | some f => some f | none => if 40 ∈ os then some s.1 else none) = some f := hf
    rw [hs] at hf
    have hf : some f' = some f := hf
    rw [decide_eq_false (by simp), ifF, e492 hR (by rw [hs]; simp)]
    exact ⟨_, _, s, rfl, hR, by rw [hs, hf], Fr.rf⟩
  | none =>
    have hf : (match s.2.2 with | some f => some f | none => if 40 ∈ os then some s.1 else none) = some f := hf
    rw [hs] at hf
    have hf : (if 40 ∈ os then some s.1 else none) = some f := hf
    by_cases h40 : 40 ∈ os
    · rw [if_pos h40] at hf
      cases hf
      obtain ⟨r1, f1⟩ := m_fails hR
      have hl : os.length < 60 := by
        have : nb os ≤ vs.length := by rw [hv]; exact Nat.le_add_right _ _
        omega
      rw [decide_eq_true rfl, ifT, m_hasOpen h5 hl (gF_256 g), Option.bind_some, decide_eq_true h40, ifT, nm_i, e492 r1 (psFail_n s)]
      exact ⟨_, _, psFail s, rfl, r1, by rw [psFail_f hs], f1.wk (by decide) (by decide)⟩
    · rw [if_neg h40] at hf
      cases hf
theorem m_473g {τ : Tau} {F : MSt} (h : RMS K len tx τ F) (hf : mfin F = none) (hw : F.2.1 = false) {v : Nat} (hp : popJ (fun _ => true) F.2.2.2.1 F.2.2.1 = ([], [v])) :
    ∃ τ', fX7_side_473 τ (nI F.2.2.1.length) (nI F.2.2.2.1.length) = some (nI v, τ') ∧ RD K len tx τ' F.1 ∧ Fr [] [4] τ τ' := by
  obtain ⟨s, w, vs, os, o⟩ := F
  have hw : w = false := hw
  subst hw
  obtain ⟨hR, h4, h5, g, hv, ho, ho8, hvp, hp24, hvb⟩ := h
  show ∃ τ', fX7_side_473 τ (nI vs.length) (nI os.length) = some (nI v, τ') ∧ RD K len tx τ' s ∧ _
  have g : gF false os := g
  have hv : vs.length = nb os + 1 := hv
  have ho : o = no os := ho
  have ho8 : o ≤ 8 := ho8
  have hvp : vs.length ≤ s.2.1 := hvp
  have hp24 : s.2.1 ≤ 24 := hp24
  have hlen := gF_len g
  have hp : popJ (fun _ => true) os vs = ([], [v]) := hp
  unfold mfin at hf
  have hf : (match s.2.2 with | some f => some f | none => if 40 ∈ os then some s.1 else none) = none := hf
  cases hs : s.2.2 with
  | some f' => rw [hs] at hf; cases hf
  | none =>
    rw [hs] at hf
    have hf : (if 40 ∈ os then some s.1 else none) = none := hf
    have h40 : ¬ 40 ∈ os := fun z => by rw [if_pos z] at hf; cases hf
    unfold fX7_side_473
    rw [nm_i, m_well hR, hs, decide_eq_true rfl, ifT, m_hasOpen h5 (show os.length < 60 by omega) (gF_256 g), Option.bind_some, decide_eq_false h40, ifF]
    obtain ⟨τ', e, R', S4, f⟩ := m_492 os vs τ s FU (by unfold FU; omega) hR hs h40 h4 h5 g hv (by omega) (by omega)
    rw [hp] at S4
    have S4 : tA τ' 4 0 = nI v := S4.1
    rw [e, m_543, S4]
    exact ⟨τ', rfl, R', f⟩
theorem m_side (hK : K ≤ 4) {τ : Tau} {s : PSt} (h : RD K len tx τ s) (hn : s.2.2 = none) :
    ∃ x τ', fX7_side τ = some (x, τ') ∧ Fr smF [4, 5] τ τ' ∧
      ((pUnion len tx (pPart K len tx 12) s 0).2.2.2 = none → x = nI (pUnion len tx (pPart K len tx 12) s 0).1 ∧ RD K len tx τ' (pUnion len tx (pPart K len tx 12) s 0).2 ∧ tI τ' 0 16 = pLone len tx s (pUnion len tx (pPart K len tx 12) s 0).2) ∧
      ∀ f, (pUnion len tx (pPart K len tx 12) s 0).2.2.2 = some f → ∃ s', RD K len tx τ' s' ∧ s'.2.2 = some f := by
  have h24 := h.2.2.2.2.2.2.1
  have hl := h.l80
  have f0 : Fr smF [4, 5] τ (sI τ 0 16 (-9)) := Fr.sI (by decide)
  have R0 : RD K len tx (sI τ 0 16 (-9)) s := h.fr (F := [(0, 16)]) (A := []) (Fr.sI (by decide)) (fun j hj => by simp; omega) (by decide)
  have e0 : tI (sI τ 0 16 (-9)) 0 16 = -9 := by rw [tI_sI, if_pos ⟨rfl, rfl⟩]
  unfold fX7_side
  rw [nm_i]
  generalize sI τ 0 16 (-9) = τ1 at *
  have M0 : RMS K len tx τ1 (s, true, [], [], 0) := ⟨R0, trivial, trivial, trivial, rfl, rfl, Nat.zero_le _, Nat.zero_le _, h24, fun v hv => by cases hv⟩
  have J0 : JL len tx τ1 s.1 (s, true, [], [], 0) 0 := ⟨Nat.zero_le _, Or.inl ⟨rfl, rfl, rfl, rfl, e0⟩⟩
  obtain ⟨F, τ2, tk2, a1, a2, a3, a4, a5, a6⟩ := m_run hK (msz len (s, true, [], [], 0)) (s, true, [], [], 0) τ1 0 FU (Nat.le_refl _) (by
    unfold msz FU
    split <;> omega) M0 J0
  have a6 : fX7_side_21 FU τ1 (0 : Int32) (0 : Int32) (0 : Int32) (1 : Int32) (1 : Int32) (0 : Int32) = _ := a6
  rw [a6]
  obtain ⟨G, b1, b2, b3, b4⟩ := d_side (len := len) (tx := tx) hK s hn h24
  have : F = G := a1.det b1 a2 b2
  subst this
  generalize hr : pUnion len tx (pPart K len tx 12) s 0 = r at *
  cases hf : r.2.2.2 with
  | none =>
    obtain ⟨c1, c2, c3, c4⟩ := b3 hf
    obtain ⟨τ3, e3, R3, f3⟩ := m_473g a3 c1 c3 c4
    refine ⟨_, τ3, e3, (f0.tr a5).tr (f3.wk (by decide) (by decide)), fun _ => ⟨rfl, by rw [← c2]; exact R3, ?_⟩, fun f z => by cases z⟩
    rw [(f3.1 0 16 (by decide)).1]
    unfold pLone
    rw [← c2]
    rcases a4.2 with ⟨_, _, z, _⟩ | ⟨z1, _, ⟨_, _, z2⟩ | ⟨z2, _⟩⟩ | ⟨z1, _, z2⟩
    · rw [c3] at z; cases z
    · rw [if_pos z1, z2]
    · rw [c3] at z2; cases z2
    · rw [if_neg (by omega), z2]
  | some f =>
    obtain ⟨x, τ3, s', e3, R3, hs', f3⟩ := m_473f a3 (b4 f hf)
    refine ⟨x, τ3, e3, (f0.tr a5).tr f3, fun z => (by cases z), fun f' z => ?_⟩
    cases z
    exact ⟨s', R3, hs'⟩
end MT
