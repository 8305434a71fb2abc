/-! the reference reads a whole text -/
section MZ
variable {K len : Nat} {tx : Nat → Nat}
theorem m_side_f (hK : K ≤ 4) {τ : Tau} {s : PSt} {f : Nat} (h : RD K len tx τ s) (hs : s.2.2 = some f) :
    ∃ x τ' s', fX7_side τ = some (x, τ') ∧ RD K len tx τ' s' ∧ s'.2.2 = some f ∧ Fr smF [4, 5] τ τ' := by
  have h24 := h.2.2.2.2.2.2.1
  have hl := h.l80
  have f0 : Fr smF [4, 5] τ (sI τ 0 16 (-9)) := Fr.sI (by decide)
  have R0 : RD K len tx (sI τ 0 16 (-9)) s := h.fr (F := [(0, 16)]) (A := []) (Fr.sI (by decide)) (fun j hj => by simp; omega) (by decide)
  unfold fX7_side
  rw [nm_i]
  generalize sI τ 0 16 (-9) = τ1 at *
  have M0 : RMS K len tx τ1 (s, true, [], [], 0) := ⟨R0, trivial, trivial, trivial, rfl, rfl, Nat.zero_le _, Nat.zero_le _, h24, fun v hv => by cases hv⟩
  have st : mstep K len tx (s, true, [], [], 0) = none := by
    unfold mstep
    rw [if_neg (show ¬ (s, true, ([] : List Nat), ([] : List Nat), 0).1.2.2 = none from fun z => by have z : s.2.2 = none := z; rw [hs] at z; cases z)]
  have a6 : fX7_side_21 FU τ1 (0 : Int32) (0 : Int32) (0 : Int32) (1 : Int32) (1 : Int32) (0 : Int32) = _ := m_stuck (tk := 0) M0 st 999998
  rw [a6]
  obtain ⟨x, τ', s', e, R', hs', f1⟩ := m_473f M0 (f := f) (by
    unfold mfin
    show (match s.2.2 with | some f => some f | none => _) = some f
    rw [hs])
  exact ⟨x, τ', s', e, R', hs', f0.tr f1⟩
theorem m_signf {τ : Tau} {s : PSt} (h : RD K len tx τ s) (hs : s.2.2 ≠ none) (p : Int32) : fX7_isSign τ p = false := by
  unfold fX7_isSign
  rw [nm_i, m_well h, decide_eq_false hs, ifF]
theorem m_219f {τ : Tau} {s : PSt} {f : Nat} (h : RD K len tx τ s) (hs : s.2.2 = some f) (p1 x2 x3 x4 x5 x6 x7 x8 : Int32) : fX7_read_219 p1 τ x2 x3 x4 x5 x6 x7 x8 = some (-10 - nI f, τ) := by
  unfold fX7_read_219
  rw [nm_i, m_well h, decide_eq_false (by rw [hs]; simp), ifF, h.2.2.2.2.1, hs]
  rfl
theorem m_200f {τ : Tau} {s : PSt} {f : Nat} (h : RD K len tx τ s) (hs : s.2.2 = some f) (p1 x2 x3 x4 x5 x6 z0 : Int32) : ∃ τ', fX7_read_200 p1 τ x2 x3 x4 x5 x6 z0 = some (-10 - nI f, τ') ∧ Fr smF [4, 5] τ τ' := by
  unfold fX7_read_200
  rw [nm_i]
  by_cases c : tI τ 0 8 = 0
  · rw [if_pos c, m_219f h hs]
    exact ⟨τ, rfl, Fr.rf⟩
  · rw [if_neg c, nm_i]
    obtain ⟨r, f1⟩ := m_fails h
    rw [psFail_id (by rw [hs]; simp)] at r
    rw [m_219f r hs]
    exact ⟨_, rfl, f1.wk (by decide) (by decide)⟩
theorem m_185f {τ : Tau} {s : PSt} {f : Nat} (h : RD K len tx τ s) (hs : s.2.2 = some f) (p1 x2 x3 x4 x5 x6 : Int32) : ∃ τ', fX7_read_185 p1 τ x2 x3 x4 x5 x6 = some (-10 - nI f, τ') ∧ Fr smF [4, 5] τ τ' := by
  unfold fX7_read_185
  rw [nm_i, m_well h, decide_eq_false (by rw [hs]; simp), ifF]
  exact m_200f h hs _ _ _ _ _ _ _
/-- behind the first side, a fault told -/
theorem m_colf {τ : Tau} {s : PSt} {f : Nat} (h : RD K len tx τ s) (hs : s.2.2 = some f) (p1 x2 x3 x4 x5 : Int32) :
    ∃ τ', (nm (tI τ 0 16) (fun x26 => nm (fX7_isSign τ (58 : Int32)) (fun r27 => if bI r27 = 0 then nm (fX7_fails τ) (fun r29 => fX7_read_185 p1 r29 x2 x3 x4 x5 x26) else Option.bind (fX7_advances τ) (fun r30 => fX7_read_185 p1 r30 x2 x3 x4 x5 x26)))) = some (-10 - nI f, τ') ∧ Fr smF [4, 5] τ τ' := by
  rw [nm_i, nm_i, m_signf h (by rw [hs]; simp), ifF, nm_i]
  obtain ⟨r, f1⟩ := m_fails h
  rw [psFail_id (by rw [hs]; simp)] at r
  obtain ⟨τ', e, f2⟩ := m_185f r hs p1 x2 x3 x4 x5 (tI τ 0 16)
  exact ⟨τ', e, (f1.wk (by decide) (by decide)).tr f2⟩
theorem m_153f (hK : K ≤ 4) {τ : Tau} {s : PSt} {f : Nat} (h : RD K len tx τ s) (hs : s.2.2 = some f) (p1 x2 x3 x4 : Int32) : ∃ τ', fX7_read_153 p1 τ x2 x3 x4 = some (-10 - nI f, τ') ∧ Fr smF [4, 5] τ τ' := by
  obtain ⟨x, τ1, s', e, R1, hs', f1⟩ := m_side_f hK h hs
  unfold fX7_read_153
  rw [e, Option.bind_some]
  obtain ⟨τ2, e2, f2⟩ := m_colf R1 hs' p1 x2 x3 x4 x
  exact ⟨τ2, e2, f1.tr f2⟩
/-- from the first side on -/
theorem m_153 (hK : K ≤ 4) {τ : Tau} (h : RD K len tx τ (h3 len tx)) (p1 x2 x3 x4 : Int32) :
    (∀ f, (h5 K len tx).2.2 = some f → ∃ τ', fX7_read_153 p1 τ x2 x3 x4 = some (-10 - nI f, τ') ∧ Fr smF [4, 5] τ τ') ∧
    ((h5 K len tx).2.2 = none → ∃ τ', fX7_read_153 p1 τ x2 x3 x4 = fX7_read_219 p1 τ' x2 x3 x4 (nI (s1 K len tx).1) (l1 K len tx) (nI (s2 K len tx).1) (l2 K len tx) ∧ fX7_isWell τ' = true ∧ Fr smF [4, 5] τ τ') := by
  cases g3 : (h3 len tx).2.2 with
  | some f0 =>
    have e1 : (s1 K len tx).2 = h3 len tx := pUnion_f (by rw [g3]; simp) 12 0
    have e4 : h4 K len tx = h3 len tx := by
      show psB len tx (psSg len tx (s1 K len tx).2 58) (s1 K len tx).2 = h3 len tx
      rw [e1, psB_f (by rw [g3]; simp)]
    have e2 : (s2 K len tx).2 = h3 len tx := by
      have : (s2 K len tx).2 = h4 K len tx := pUnion_f (by rw [e4, g3]; simp) 12 0
      rw [this, e4]
    have e5 : h5 K len tx = h3 len tx := by
      unfold h5
      rw [e2, psFail_id (by rw [g3]; simp)]
      split <;> rfl
    rw [e5, g3]
    refine ⟨fun f hf => ?_, fun z => by cases z⟩
    cases hf
    exact m_153f hK h g3 p1 x2 x3 x4
  | none =>
    obtain ⟨x, τ1, e, f1, gd, bd⟩ := m_side hK h g3
    have gd : (s1 K len tx).2.2.2 = none → x = nI (s1 K len tx).1 ∧ RD K len tx τ1 (s1 K len tx).2 ∧ tI τ1 0 16 = l1 K len tx := gd
    have bd : ∀ f, (s1 K len tx).2.2.2 = some f → ∃ s', RD K len tx τ1 s' ∧ s'.2.2 = some f := bd
    unfold fX7_read_153
    rw [e, Option.bind_some]
    show (∀ f, (h5 K len tx).2.2 = some f → ∃ τ', (nm (tI τ1 0 16) (fun x26 => nm (fX7_isSign τ1 (58 : Int32)) (fun r27 => if bI r27 = 0 then nm (fX7_fails τ1) (fun r29 => fX7_read_185 p1 r29 x2 x3 x4 x x26) else Option.bind (fX7_advances τ1) (fun r30 => fX7_read_185 p1 r30 x2 x3 x4 x x26)))) = some (-10 - nI f, τ') ∧ Fr smF [4, 5] τ τ') ∧
      ((h5 K len tx).2.2 = none → ∃ τ', (nm (tI τ1 0 16) (fun x26 => nm (fX7_isSign τ1 (58 : Int32)) (fun r27 => if bI r27 = 0 then nm (fX7_fails τ1) (fun r29 => fX7_read_185 p1 r29 x2 x3 x4 x x26) else Option.bind (fX7_advances τ1) (fun r30 => fX7_read_185 p1 r30 x2 x3 x4 x x26)))) = fX7_read_219 p1 τ' x2 x3 x4 (nI (s1 K len tx).1) (l1 K len tx) (nI (s2 K len tx).1) (l2 K len tx) ∧ fX7_isWell τ' = true ∧ Fr smF [4, 5] τ τ')
    cases g1 : (s1 K len tx).2.2.2 with
    | some f0 =>
      have ne : (s1 K len tx).2.2.2 ≠ none := by rw [g1]; simp
      have e4 : h4 K len tx = (s1 K len tx).2 := psB_f ne
      have e2 : (s2 K len tx).2 = (s1 K len tx).2 := by
        have : (s2 K len tx).2 = h4 K len tx := pUnion_f (by rw [e4]; exact ne) 12 0
        rw [this, e4]
      have e5 : h5 K len tx = (s1 K len tx).2 := by
        unfold h5
        rw [e2, psFail_id ne]
        split <;> rfl
      rw [e5, g1]
      refine ⟨fun f hf => ?_, fun z => by cases z⟩
      cases hf
      obtain ⟨s', R', hs'⟩ := bd _ g1
      obtain ⟨τ2, e2, f2⟩ := m_colf R' hs' p1 x2 x3 x4 x
      exact ⟨τ2, e2, f1.tr f2⟩
    | none =>
      obtain ⟨hx, R1, j1⟩ := gd g1
      rw [hx, nm_i, nm_i, j1, show (58 : Int32) = nI 58 from rfl, m_sign R1 g1 (by decide)]
      cases hc : psSg len tx (s1 K len tx).2 58 with
      | false =>
        have e4 : h4 K len tx = psFail (s1 K len tx).2 := by
          show psB len tx (psSg len tx (s1 K len tx).2 58) (s1 K len tx).2 = _
          unfold psB
          rw [hc, if_neg (by decide)]
        have ne : (h4 K len tx).2.2 ≠ none := by rw [e4]; exact psFail_n _
        have e2 : (s2 K len tx).2 = h4 K len tx := pUnion_f ne 12 0
        have e5 : h5 K len tx = h4 K len tx := by
          unfold h5
          rw [e2, psFail_id ne]
          split <;> rfl
        rw [ifF, nm_i, e5]
        refine ⟨fun f hf => ?_, fun z => absurd z ne⟩
        obtain ⟨r, f2⟩ := m_fails R1
        rw [← e4] at r
        obtain ⟨τ3, e3, f3⟩ := m_185f r hf p1 x2 x3 x4 (nI (s1 K len tx).1) (l1 K len tx)
        exact ⟨τ3, e3, (f1.tr (f2.wk (by decide) (by decide))).tr f3⟩
      | true =>
        have e4 : h4 K len tx = psAdv len tx (s1 K len tx).2 := by
          show psB len tx (psSg len tx (s1 K len tx).2 58) (s1 K len tx).2 = _
          unfold psB
          rw [hc, if_pos rfl, if_pos g1]
        obtain ⟨τ2, e2, R2, f2⟩ := R1.adv
        rw [← e4] at R2
        have n4 : (h4 K len tx).2.2 = none := by rw [e4]; exact g1
        rw [ifT, e2, Option.bind_some]
        unfold fX7_read_185
        rw [nm_i, m_well R2, decide_eq_true n4, ifT]
        obtain ⟨y, τ3, e3, f3, gd2, bd2⟩ := m_side hK R2 n4
        have gd2 : (s2 K len tx).2.2.2 = none → y = nI (s2 K len tx).1 ∧ RD K len tx τ3 (s2 K len tx).2 ∧ tI τ3 0 16 = l2 K len tx := gd2
        have bd2 : ∀ f, (s2 K len tx).2.2.2 = some f → ∃ s', RD K len tx τ3 s' ∧ s'.2.2 = some f := bd2
        rw [e3, Option.bind_some]
        have f123 : Fr smF [4, 5] τ τ3 := (f1.tr (f2.wk (by decide) (by decide))).tr f3
        cases g2 : (s2 K len tx).2.2.2 with
        | some f0 =>
          have ne : (s2 K len tx).2.2.2 ≠ none := by rw [g2]; simp
          have e5 : h5 K len tx = (s2 K len tx).2 := by
            unfold h5
            rw [psFail_id ne]
            split <;> rfl
          rw [e5, g2]
          refine ⟨fun f hf => ?_, fun z => by cases z⟩
          cases hf
          obtain ⟨s', R', hs'⟩ := bd2 _ g2
          obtain ⟨τ4, e4', f4⟩ := m_200f R' hs' p1 x2 x3 x4 (nI (s1 K len tx).1) (l1 K len tx) y
          exact ⟨τ4, e4', f123.tr f4⟩
        | none =>
          obtain ⟨hy, R3, j2⟩ := gd2 g2
          unfold fX7_read_200
          show (∀ f, (h5 K len tx).2.2 = some f → ∃ τ', nm (tI τ3 0 16) _ = some (-10 - nI f, τ') ∧ _) ∧ ((h5 K len tx).2.2 = none → ∃ τ', nm (tI τ3 0 16) _ = _ ∧ _)
          rw [nm_i, j2, hy]
          by_cases c : (psT len tx (s2 K len tx).2).1 = 0
          · have e5 : h5 K len tx = (s2 K len tx).2 := by
              unfold h5 hE
              rw [decide_eq_true c, if_pos rfl]
            rw [if_pos (show tI τ3 0 8 = 0 from (m_cd R3).2.1.mpr c), e5, g2]
            refine ⟨fun f hf => (by cases hf), fun _ => ⟨τ3, rfl, ?_, f123⟩⟩
            rw [m_well R3, g2, decide_eq_true rfl]
          · have e5 : h5 K len tx = psFail (s2 K len tx).2 := by
              unfold h5 hE
              rw [decide_eq_false c, if_neg (by decide)]
            rw [if_neg (show ¬ tI τ3 0 8 = 0 from fun z => c ((m_cd R3).2.1.mp z)), nm_i]
            obtain ⟨r, f4⟩ := m_fails R3
            rw [← e5] at r
            refine ⟨fun f hf => ⟨_, m_219f r hf _ _ _ _ _ _ _ _, f123.tr (f4.wk (by decide) (by decide))⟩, fun z => ?_⟩
            rw [e5] at z
            exact absurd z (psFail_n _)
/-- the head -/
theorem m_val2 {τ : Tau} {s : PSt} (h : RD K len tx τ s) (e : (psT len tx s).1 = 2) : tI τ 0 10 = nI (psT len tx s).2.1 ∧ (psT len tx s).2.1 < 9 := by
  obtain ⟨_, _, _, _, t2, _⟩ := h.2.1
  refine ⟨(t2 e).2, ?_⟩
  have e : (tok len tx s.1).1 = 2 := e
  show (tok len tx s.1).2.1 < 9
  rcases tok_inf h.hb s.1 with ⟨z, _⟩ | ⟨_, _, z | ⟨_, z⟩ | z | ⟨z, _⟩ | ⟨z, _⟩⟩ <;> omega
theorem m_head64 {τ : Tau} (h : RD K len tx τ (h1 len tx)) (p1 x2 : Int32) :
    ∃ τ' x3 x4, fX7_read_64 p1 τ x2 = fX7_read_153 p1 τ' x2 x3 x4 ∧ RD K len tx τ' (h3 len tx) ∧ Fr smF [4, 5] τ τ' ∧ ((h3 len tx).2.2 = none → x3 = nI (wd len tx) ∧ x4 = nI (hnum len tx)) := by
  have hn := h1_n (len := len) (tx := tx)
  have bad : hW len tx = false → fX7_read_64 p1 τ x2 = fX7_read_81 p1 τ x2 8 → ∃ τ' x3 x4, fX7_read_64 p1 τ x2 = fX7_read_153 p1 τ' x2 x3 x4 ∧ RD K len tx τ' (h3 len tx) ∧ Fr smF [4, 5] τ τ' ∧ ((h3 len tx).2.2 = none → x3 = nI (wd len tx) ∧ x4 = nI (hnum len tx)) := by
    intro hw e
    have e3 : h3 len tx = psFail (h1 len tx) := by
      unfold h3 hN h2
      rw [hw, Bool.false_and, if_neg (by decide), if_neg (by decide)]
    obtain ⟨r, f1⟩ := m_fails h
    rw [e, e3]
    unfold fX7_read_81 fX7_read_102
    rw [if_pos rfl, nm_i, nm_i, m_well r, decide_eq_false (psFail_n _), ifF]
    exact ⟨_, _, _, rfl, r, f1.wk (by decide) (by decide), fun z => absurd z (psFail_n _)⟩
  by_cases k2 : (psT len tx (h1 len tx)).1 = 2
  · obtain ⟨w1, w2⟩ := m_val2 h k2
    have e64 : fX7_read_64 p1 τ x2 = fX7_read_81 p1 τ x2 (nI (psT len tx (h1 len tx)).2.1) := by
      unfold fX7_read_64
      rw [if_pos (show tI τ 0 8 = (1 : Int32) from (m_cd h).2.2.1.mpr k2), w1]
    by_cases k8 : (psT len tx (h1 len tx)).2.1 = 8
    · exact bad (decide_eq_false (fun z => z.2 k8)) (by rw [e64, k8]; rfl)
    · have hw : hW len tx = true := decide_eq_true ⟨k2, k8⟩
      have e2 : h2 len tx = psAdv len tx (h1 len tx) := by
        unfold h2
        rw [hw, if_pos rfl]
      have n2 : (h2 len tx).2.2 = none := by rw [e2]; exact hn
      obtain ⟨τ1, e1, R1, f1⟩ := h.adv
      rw [← e2] at R1
      rw [e64]
      unfold fX7_read_81
      rw [if_neg (show ¬ nI (psT len tx (h1 len tx)).2.1 = (8 : Int32) from fun z => k8 (nI_inj (b := 8) (by omega) (by omega) z)), e1, Option.bind_some]
      show ∃ τ' x3 x4, fX7_read_102 p1 τ1 x2 (nI (wd len tx)) 0 = _ ∧ _
      have w2 : wd len tx < 9 := w2
      unfold fX7_read_102
      rw [nm_i, m_well R1, decide_eq_true n2, ifT]
      have num : (wd len tx = 4 ∨ wd len tx = 5) → ∃ τ' x3 x4, fX7_read_119 p1 τ1 x2 (nI (wd len tx)) 0 = fX7_read_153 p1 τ' x2 x3 x4 ∧ RD K len tx τ' (h3 len tx) ∧ Fr smF [4, 5] τ τ' ∧ ((h3 len tx).2.2 = none → x3 = nI (wd len tx) ∧ x4 = nI (hnum len tx)) := by
        intro h45
        have hN' : hN len tx = true := by
          unfold hN
          rw [hw, Bool.true_and, decide_eq_true h45]
        have fl : hO len tx = false → ∃ τ' x3 x4, fX7_read_149 p1 τ1 x2 (nI (wd len tx)) 0 = fX7_read_153 p1 τ' x2 x3 x4 ∧ RD K len tx τ' (h3 len tx) ∧ Fr smF [4, 5] τ τ' ∧ ((h3 len tx).2.2 = none → x3 = nI (wd len tx) ∧ x4 = nI (hnum len tx)) := by
          intro ho
          have e3 : h3 len tx = psFail (h2 len tx) := by
            unfold h3
            rw [hN', if_pos rfl, ho, if_neg (by decide)]
          obtain ⟨r, f2⟩ := m_fails R1
          unfold fX7_read_149
          rw [nm_i, e3]
          exact ⟨_, _, _, rfl, r, (f1.wk (by decide) (by decide)).tr (f2.wk (by decide) (by decide)), fun z => absurd z (psFail_n _)⟩
        unfold fX7_read_119
        by_cases k3 : (psT len tx (h2 len tx)).1 = 3
        · obtain ⟨m, em, hm⟩ := (R1.2.1.2.2.2.2.2.1 k3).2
          have hm : (m = (psT len tx (h2 len tx)).2.1 ∨ (100 ≤ m ∧ 100 ≤ (psT len tx (h2 len tx)).2.1)) ∧ m ≤ 999 := hm
          rw [if_pos (show tI τ1 0 8 = (2 : Int32) from (m_cd R1).2.2.2.mpr k3), em]
          by_cases k6 : (psT len tx (h2 len tx)).2.1 ≤ 6
          · have ho : hO len tx = true := decide_eq_true ⟨k3, k6⟩
            have e3 : h3 len tx = psAdv len tx (h2 len tx) := by
              unfold h3
              rw [hN', if_pos rfl, ho, if_pos rfl]
            obtain ⟨τ3, e3', R3, f3⟩ := R1.adv
            rw [← e3] at R3
            rw [if_neg (show ¬ (7 : Int32) ≤ nI m from nI_ge (b := 7) (by omega) (by omega)), nm_i, e3', Option.bind_some]
            refine ⟨τ3, _, _, rfl, R3, (f1.wk (by decide) (by decide)).tr (f3.wk (by decide) (by decide)), fun _ => ⟨rfl, ?_⟩⟩
            unfold hnum
            rw [hN', if_pos rfl]
            congr 1
            omega
          · rw [if_pos (show (7 : Int32) ≤ nI m from nI_le (a := 7) (by omega) (by omega))]
            exact fl (decide_eq_false (fun z => k6 z.2))
        · rw [if_neg (show ¬ tI τ1 0 8 = (2 : Int32) from fun z => k3 ((m_cd R1).2.2.2.mp z))]
          exact fl (decide_eq_false (fun z => k3 z.1))
      by_cases w4 : wd len tx = 4
      · rw [if_pos (show nI (wd len tx) = (4 : Int32) by rw [w4]; rfl)]
        exact num (Or.inl w4)
      · rw [if_neg (show ¬ nI (wd len tx) = (4 : Int32) from fun z => w4 (nI_inj (b := 4) (by omega) (by omega) z))]
        by_cases w5 : wd len tx = 5
        · rw [if_pos (show nI (wd len tx) = (5 : Int32) by rw [w5]; rfl)]
          exact num (Or.inr w5)
        · rw [if_neg (show ¬ nI (wd len tx) = (5 : Int32) from fun z => w5 (nI_inj (b := 5) (by omega) (by omega) z))]
          have hN' : hN len tx = false := by
            unfold hN
            rw [hw, Bool.true_and, decide_eq_false (by omega)]
          have e3 : h3 len tx = h2 len tx := by
            unfold h3
            rw [hN', if_neg (by decide)]
          refine ⟨τ1, _, _, rfl, by rw [e3]; exact R1, f1.wk (by decide) (by decide), fun _ => ⟨rfl, ?_⟩⟩
          unfold hnum
          rw [hN', if_neg (by decide)]
          rfl
  · refine bad (decide_eq_false (fun z => k2 z.1)) ?_
    unfold fX7_read_64
    rw [if_neg (show ¬ tI τ 0 8 = (1 : Int32) from fun z => k2 ((m_cd h).2.2.1.mp z))]
theorem m_head {τ : Tau} (h : RD K len tx τ (h0 len tx)) (p1 : Int32) :
    ∃ τ' x3 x4, (if tI τ 0 8 = (1 : Int32) then if tI τ 0 10 = (8 : Int32) then fX7_read_55 p1 τ (1 : Int32) else fX7_read_54 p1 τ else fX7_read_54 p1 τ) = fX7_read_153 p1 τ' (bI (hT len tx)) x3 x4 ∧ RD K len tx τ' (h3 len tx) ∧ Fr smF [4, 5] τ τ' ∧ ((h3 len tx).2.2 = none → x3 = nI (wd len tx) ∧ x4 = nI (hnum len tx)) := by
  have fl : hT len tx = false → ∃ τ' x3 x4, fX7_read_54 p1 τ = fX7_read_153 p1 τ' (bI (hT len tx)) x3 x4 ∧ RD K len tx τ' (h3 len tx) ∧ Fr smF [4, 5] τ τ' ∧ ((h3 len tx).2.2 = none → x3 = nI (wd len tx) ∧ x4 = nI (hnum len tx)) := by
    intro ht
    have e1 : h1 len tx = h0 len tx := by unfold h1; rw [ht, if_neg (by decide)]
    rw [← e1] at h
    unfold fX7_read_54 fX7_read_55
    rw [if_pos rfl, ht]
    exact m_head64 h p1 0
  by_cases k2 : (psT len tx (h0 len tx)).1 = 2
  · obtain ⟨w1, w2⟩ := m_val2 h k2
    rw [if_pos (show tI τ 0 8 = (1 : Int32) from (m_cd h).2.2.1.mpr k2), w1]
    by_cases k8 : (psT len tx (h0 len tx)).2.1 = 8
    · have ht : hT len tx = true := decide_eq_true ⟨k2, k8⟩
      have e1 : h1 len tx = psAdv len tx (h0 len tx) := by unfold h1; rw [ht, if_pos rfl]
      obtain ⟨τ1, e1', R1, f1⟩ := h.adv
      rw [← e1] at R1
      rw [if_pos (show nI (psT len tx (h0 len tx)).2.1 = (8 : Int32) by rw [k8]; rfl)]
      unfold fX7_read_55
      rw [if_neg (by decide), e1', Option.bind_some, ht]
      obtain ⟨τ2, x3, x4, a, b, c, d⟩ := m_head64 R1 p1 1
      exact ⟨τ2, x3, x4, a, b, (f1.wk (by decide) (by decide)).tr c, d⟩
    · rw [if_neg (show ¬ nI (psT len tx (h0 len tx)).2.1 = (8 : Int32) from fun z => k8 (nI_inj (b := 8) (by omega) (by omega) z))]
      exact fl (decide_eq_false (fun z => k8 z.2))
  · rw [if_neg (show ¬ tI τ 0 8 = (1 : Int32) from fun z => k2 ((m_cd h).2.2.1.mp z))]
    exact fl (decide_eq_false (fun z => k2 z.1))
end MZ
