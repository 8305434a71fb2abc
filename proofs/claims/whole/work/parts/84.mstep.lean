/-! the reference's side goes as the reader with two stacks -/
section MS
variable {K len : Nat} {tx : Nat → Nat}
def LQ (n : Nat) (τ : Tau) (M : MSt) (tk : Nat) : Option (Int32 × Tau) := fX7_side_21 n τ (nI M.2.2.1.length) (nI M.2.2.2.1.length) (nI M.2.2.2.2) (bI M.2.1) 1 (nI tk)
def RMS (K len : Nat) (tx : Nat → Nat) (τ : Tau) (M : MSt) : Prop := RD K len tx τ M.1 ∧ Stk τ 4 M.2.2.1 ∧ Stk τ 5 M.2.2.2.1 ∧ Wf M.2.1 M.1.2.1 M.2.2
/-- the lone kind, as far as it was read -/
def JL (len : Nat) (tx : Nat → Nat) (τ : Tau) (q0 : Nat) (M : MSt) (tk : Nat) : Prop :=
  tk ≤ M.1.2.1 ∧ ((M.1.1 = q0 ∧ tk = 0 ∧ M.2.1 = true ∧ M.2.2.2.1 = [] ∧ tI τ 0 16 = -9) ∨
    (M.1.1 = nx len tx q0 ∧ 1 ≤ tk ∧ ((M.2.1 = false ∧ M.2.2.2.1 = [] ∧ tI τ 0 16 = nI (tok len tx q0).2.1) ∨ (M.2.1 = true ∧ tI τ 0 16 = -9))) ∨
    (nx len tx q0 < M.1.1 ∧ 1 ≤ tk ∧ tI τ 0 16 = -9))
abbrev smF : List (Nat × Nat) := [(0, 7), (0, 8), (0, 9), (0, 10), (0, 11), (0, 12), (0, 16)]
theorem m_419w (k21 : Tau → Int32 → Int32 → Int32 → Int32 → Int32 → Int32 → Option (Int32 × Tau)) {τ : Tau} {x1 x2 x3 x5 x6 : Int32} : fX7_side_419 k21 FU τ x1 x2 x3 1 x5 x6 = k21 τ x1 x2 x3 1 x5 x6 := by
  obtain ⟨m, hm⟩ : ∃ m, FU = m + 1 := ⟨999999, rfl⟩
  rw [hm, fX7_side_419, if_neg (by decide)]
theorem m_419s (k21 : Tau → Int32 → Int32 → Int32 → Int32 → Int32 → Int32 → Option (Int32 × Tau)) {τ : Tau} {os : List Nat} {x1 x3 x5 x6 : Int32} (h5 : Stk τ 5 os) (g : gF false os) (hl : os.length < 60) : fX7_side_419 k21 FU τ x1 (nI os.length) x3 0 x5 x6 = k21 τ x1 (nI os.length) x3 0 x5 x6 := by
  obtain ⟨m, hm⟩ : ∃ m, FU = m + 1 := ⟨999999, rfl⟩
  rw [hm, fX7_side_419, if_pos rfl]
  cases os with
  | nil => rw [if_pos (show nI ([] : List Nat).length ≤ 0 by decide)]
  | cons t os =>
    have ht := gF_256 g t List.mem_cons_self
    have hne : t ≠ 33 := by
      rcases g with ⟨_, z, _⟩ | ⟨z, _⟩ | ⟨z, _⟩
      · cases z
      · omega
      · omega
    rw [List.length_cons] at hl ⊢
    rw [if_neg (show ¬ nI (os.length + 1) ≤ 0 from nI_ge (a := 0) (by omega) (by omega)), sub1 (by omega), Nat.add_sub_cancel, if_neg (nI_in (show os.length < 60 by omega) (by decide)), nI_clamp (by omega), h5.1, if_neg (show ¬ nI t = (33 : Int32) from fun z => hne (nI_inj (b := 33) (by omega) (by omega) z))]
theorem m_61 (hK : K ≤ 4) (k21 : Tau → Int32 → Int32 → Int32 → Int32 → Int32 → Int32 → Option (Int32 × Tau)) {τ : Tau} {s : PSt} (h : RD K len tx τ s) (hn : s.2.2 = none) {o : Nat} (ho : o ≤ 8) {x1 x2 x4 x5 x6 : Int32} :
    fX7_side_61 k21 τ x1 x2 (nI o) x4 x5 x6 (bI (psSg len tx s 33 || psSg len tx s 40)) = if isPt K len tx s o = true then fX7_side_102 k21 τ x1 x2 (nI o) x4 x5 x6 (bI (psSg len tx s 33 || psSg len tx s 40)) else fX7_side_95 k21 τ x1 x2 (nI o) x4 x5 x6 := by
  have h12 := h.2.2.2.1
  have h24 := h.2.2.2.2.2.2.1
  have e75 : ∀ z, (psSg len tx s 33 || psSg len tx s 40) = z → fX7_side_75 k21 τ x1 x2 (nI o) x4 x5 x6 (bI z) = if s.2.1 = 24 then fX7_side_95 k21 τ x1 x2 (nI o) x4 x5 x6 else if z = true ∧ o = 8 then fX7_side_95 k21 τ x1 x2 (nI o) x4 x5 x6 else fX7_side_102 k21 τ x1 x2 (nI o) x4 x5 x6 (bI z) := by
    intro z _
    unfold fX7_side_75
    rw [h12]
    by_cases e : s.2.1 = 24
    · rw [if_pos (show nI s.2.1 = (24 : Int32) by rw [e]; rfl), if_pos e]
    · rw [if_neg (show ¬ nI s.2.1 = (24 : Int32) from fun y => e (nI_inj (b := 24) (by omega) (by omega) y)), if_neg e]
      cases z with
      | false => rw [ifF, if_neg (show ¬ (false = true ∧ o = 8) from fun y => by cases y.1)]
      | true =>
        rw [ifT]
        by_cases e8 : o = 8
        · rw [if_pos (show nI o = (8 : Int32) by rw [e8]; rfl), if_pos ⟨rfl, e8⟩]
        · rw [if_neg (show ¬ nI o = (8 : Int32) from fun y => e8 (nI_inj (b := 8) (by omega) (by omega) y)), if_neg (fun y => e8 y.2)]
  unfold fX7_side_61 isPt
  generalize hz : (psSg len tx s 33 || psSg len tx s 40) = z at *
  cases z with
  | false =>
    rw [ifF, nm_i, m_kind h hn hK, e75 false rfl, Bool.false_and, Bool.or_false]
    by_cases k : (psT len tx s).1 = 4 ∧ (psT len tx s).2.1 < K
    · rw [decide_eq_true k, ifT, Bool.and_true]
      by_cases e : s.2.1 = 24
      · rw [if_pos e, if_neg (fun y => by have := of_decide_eq_true y; omega)]
      · rw [if_neg e, if_neg (show ¬ (false = true ∧ o = 8) from fun y => by cases y.1), if_pos (decide_eq_true (by omega))]
    · rw [decide_eq_false k, ifF, Bool.and_false, if_neg (by decide)]
  | true =>
    rw [ifT, e75 true rfl, Bool.true_and]
    have nk : decide ((psT len tx s).1 = 4 ∧ (psT len tx s).2.1 < K) = false := by
      refine decide_eq_false (fun y => ?_)
      rcases Bool.or_eq_true_iff.mp hz with z | z
      · have := (of_decide_eq_true z).1; omega
      · have := (of_decide_eq_true z).1; omega
    rw [nk, Bool.false_or]
    by_cases e : s.2.1 = 24
    · rw [if_pos e, if_neg (fun y => by have := of_decide_eq_true (Bool.and_eq_true_iff.mp y).1; omega)]
    · rw [if_neg e, decide_eq_true (show s.2.1 < 24 by omega), Bool.true_and]
      by_cases e8 : o = 8
      · rw [if_pos ⟨rfl, e8⟩, if_neg (fun y => by have := of_decide_eq_true y; omega)]
      · rw [if_neg (fun y => e8 y.2), if_pos (decide_eq_true (by omega))]
theorem RD.inc {τ : Tau} {s : PSt} (h : RD K len tx τ s) (h24 : s.2.1 < 24) : RD K len tx (sI τ 0 12 (tI τ 0 12 + 1)) (s.1, s.2.1 + 1, s.2.2) := by
  have f : Fr [(0, 12)] [] τ (sI τ 0 12 (tI τ 0 12 + 1)) := Fr.sI (by decide)
  obtain ⟨a1, a2, a3, a4, a5, a6, a7, a8⟩ := h
  refine ⟨a1.fr f (by decide) (by decide), a2.fr f (by decide) (by decide) (by decide) (by decide), ?_, ?_, ?_, a6, ?_, a8⟩
  · rw [tI_sI, if_neg (by omega), a3]
  · rw [tI_sI, if_pos ⟨rfl, rfl⟩, a4]; exact nI_add _ 1
  · rw [tI_sI, if_neg (by omega), a5]
  · show s.2.1 + 1 ≤ 24; omega
theorem tok_v4 (hb : ∀ j, j < len → tx j < 256) {q : Nat} (h : (tok len tx q).1 = 4) : (tok len tx q).2.1 < 4 := by
  rcases tok_inf hb q with ⟨z, _⟩ | ⟨_, _, z | ⟨z, _⟩ | z | ⟨_, z⟩ | ⟨z, _⟩⟩
  · omega
  · omega
  · omega
  · omega
  · exact z
  · omega
theorem JL.on {τ τ' : Tau} {q0 : Nat} {s s' : PSt} {w w' : Bool} {r r' : List Nat × List Nat × Nat} {tk tk' : Nat} (h : JL len tx τ q0 (s, w, r) tk) (hp : nx len tx s.1 = s'.1) (hlt : s.1 < s'.1) (ht : tk' ≤ s'.2.1) (h1 : 1 ≤ tk → 1 ≤ tk')
    (first : s.1 = q0 → tk = 0 → w = true → r.2.1 = [] → 1 ≤ tk' ∧ ((w' = false ∧ r'.2.1 = [] ∧ tI τ' 0 16 = nI (tok len tx q0).2.1) ∨ (w' = true ∧ tI τ' 0 16 = -9)))
    (more : 1 ≤ tk → ((s.1 = nx len tx q0 ∧ ((w = false ∧ r.2.1 = []) ∨ w = true)) ∨ nx len tx q0 < s.1) → (tI τ 0 16 = -9 ∨ (w = false ∧ r.2.1 = [])) → tI τ' 0 16 = -9) : JL len tx τ' q0 (s', w', r') tk' := by
  obtain ⟨_, h⟩ := h
  refine ⟨ht, ?_⟩
  rcases h with ⟨a, b, c, d, e⟩ | ⟨a, b, c⟩ | ⟨a, b, c⟩
  · have a : s.1 = q0 := a
    obtain ⟨f1, f2⟩ := first a b c d
    refine Or.inr (Or.inl ⟨?_, f1, f2⟩)
    show s'.1 = nx len tx q0
    rw [← hp, a]
  · have a : s.1 = nx len tx q0 := a
    refine Or.inr (Or.inr ⟨by show nx len tx q0 < s'.1; omega, h1 b, ?_⟩)
    rcases c with ⟨c1, c2, c3⟩ | ⟨c1, c2⟩
    · exact more b (Or.inl ⟨a, Or.inl ⟨c1, c2⟩⟩) (Or.inr ⟨c1, c2⟩)
    · exact more b (Or.inl ⟨a, Or.inr c1⟩) (Or.inl c2)
  · have a : nx len tx q0 < s.1 := a
    exact Or.inr (Or.inr ⟨by show nx len tx q0 < s'.1; omega, h1 b, more b (Or.inr a) (Or.inl c)⟩)
theorem m_161 (hK : K ≤ 4) {τ : Tau} {s : PSt} {vs os : List Nat} {o tk : Nat} (hR : RD K len tx τ s) (h4 : Stk τ 4 vs) (h5 : Stk τ 5 os) (hW : Wf true s.2.1 (vs, os, o)) (hp24 : s.2.1 < 24) (k4 : (psT len tx s).1 = 4) (z0 : Int32) (n : Nat) :
    ∃ τ', tI τ' 0 16 = z0 ∧ Fr smF [4, 5] τ τ' ∧ RMS K len tx τ' (psAdv len tx (s.1, s.2.1 + 1, s.2.2), false, popB K os (bitsTo (fun j => j.testBit (psT len tx s).2.1) (2 ^ K) :: vs) o) ∧
      fX7_side_161 (fX7_side_21 n) τ (nI vs.length) (nI os.length) (nI o) 1 (nI tk) z0 = LQ n τ' (psAdv len tx (s.1, s.2.1 + 1, s.2.2), false, popB K os (bitsTo (fun j => j.testBit (psT len tx s).2.1) (2 ^ K) :: vs) o) (tk + 1) := by
  obtain ⟨g, hv, ho, ho8, hvp, _, hvb⟩ := hW
  have g : gF true os := g
  have hv : vs.length = nb os := hv
  have ho : o = no os := ho
  have ho8 : o ≤ 8 := ho8
  have hvp : vs.length ≤ s.2.1 := hvp
  have hvb : ∀ v ∈ vs, v < 65536 := hvb
  have hlen := gF_len g
  have hb := hR.hb
  have k4' : (tok len tx s.1).1 = 4 := k4
  have e10 : tI τ 0 10 = nI (65 + (tok len tx s.1).2.1) := (hR.2.1.2.2.2.2.2.2.1 k4').2
  have v4 := tok_v4 hb k4'
  have e65 : nI (65 + (tok len tx s.1).2.1) - (65 : Int32) = nI (tok len tx s.1).2.1 := by
    rw [show (65 : Int32) = nI 65 from rfl, pk_sub (by omega), Nat.add_sub_cancel_left]
  show ∃ τ', tI τ' 0 16 = z0 ∧ Fr smF [4, 5] τ τ' ∧ RMS K len tx τ' (psAdv len tx (s.1, s.2.1 + 1, s.2.2), false, popB K os (bitsTo (fun j => j.testBit (tok len tx s.1).2.1) (2 ^ K) :: vs) o) ∧
      fX7_side_161 (fX7_side_21 n) τ (nI vs.length) (nI os.length) (nI o) 1 (nI tk) z0 = LQ n τ' (psAdv len tx (s.1, s.2.1 + 1, s.2.2), false, popB K os (bitsTo (fun j => j.testBit (tok len tx s.1).2.1) (2 ^ K) :: vs) o) (tk + 1)
  have f1 : Fr smF [4, 5] τ (sI τ 0 16 z0) := Fr.sI (by decide)
  have R1 : RD K len tx (sI τ 0 16 z0) s := hR.fr (F := [(0, 16)]) (A := []) (Fr.sI (by decide)) (fun j hj => by simp; omega) (by decide)
  have eof : fX7_of (sI τ 0 16 z0) (tI (sI τ 0 16 z0) 0 10 - (65 : Int32)) = some (nI (bitsTo (fun j => j.testBit (tok len tx s.1).2.1) (2 ^ K))) := by
    rw [tI_sI, if_neg (by omega), e10, e65]
    exact kindM R1.2.2.1 hK v4
  unfold fX7_side_161
  rw [nm_i, eof, Option.bind_some, if_neg (nI_in (show vs.length < 60 by omega) (by decide)), nm_i, nm_i, nm_i, nm_i, nI_clamp (by omega)]
  have hbits : bitsTo (fun j => j.testBit (tok len tx s.1).2.1) (2 ^ K) < 65536 := Nat.lt_of_lt_of_le (bitsTo_lt _ _) (pow2_31 hK)
  generalize bitsTo (fun j => j.testBit (tok len tx s.1).2.1) (2 ^ K) = bits at *
  have R2 := R1.fr4 (fr4 (j := vs.length) (x := nI bits))
  have S4 : Stk (sA (sI τ 0 16 z0) 4 vs.length (nI bits)) 4 (bits :: vs) := Stk.push (Stk.fr (τ := τ) (τ' := sI τ 0 16 z0) (fun _ => rfl) h4)
  have S5 : Stk (sA (sI τ 0 16 z0) 4 vs.length (nI bits)) 5 os := Stk.fr5 (τ := sI τ 0 16 z0) (Stk.fr (τ := τ) (τ' := sI τ 0 16 z0) (fun _ => rfl) h5) fr4
  have e16 : tI (sA (sI τ 0 16 z0) 4 vs.length (nI bits)) 0 16 = z0 := by rw [tI_sA, tI_sI, if_pos ⟨rfl, rfl⟩]
  have fr2 : Fr smF [4, 5] τ (sA (sI τ 0 16 z0) 4 vs.length (nI bits)) := f1.tr (fr4.wk (by decide) (by decide))
  generalize sA (sI τ 0 16 z0) 4 vs.length (nI bits) = τ2 at *
  have R3 := R2.inc hp24
  have f3 : Fr [(0, 12)] [] τ2 (sI τ2 0 12 (tI τ2 0 12 + 1)) := Fr.sI (by decide)
  obtain ⟨τ4, e4, R4, f4⟩ := R3.adv
  have f34 : Fr ((0, 12) :: tmF) [] τ2 τ4 := (f3.wk (by decide) (by decide)).tr (f4.wk (by decide) (by decide))
  have S4' : Stk τ4 4 (bits :: vs) := S4.fr (fun j => (f34.2 4 (by decide) j).1)
  have S5' : Stk τ4 5 os := S5.fr (fun j => (f34.2 5 (by decide) j).1)
  have hvb' : ∀ v ∈ bits :: vs, v < 65536 := fun w hw => by
    rcases List.mem_cons.mp hw with rfl | hm
    · exact hbits
    · exact hvb w hm
  have hl1 : (bits :: vs).length = vs.length + 1 := List.length_cons
  have wf := popB_wf hK (pt := s.2.1 + 1) (by omega) os (bits :: vs) o g (by rw [hl1]; omega) ho ho8 (by rw [hl1]; omega) hvb'
  obtain ⟨τ5, e5, R5, P4, P5, f5⟩ := m_419 hK (fX7_side_21 n) os (bits :: vs) o τ4 (psAdv len tx (s.1, s.2.1 + 1, s.2.2)) FU 1 (nI (tk + 1)) (by unfold FU; omega) R4 S4' S5' g (by rw [hl1]; omega) ho ho8 (by rw [hl1]; omega) hvb'
  refine ⟨τ5, ?_, (fr2.tr (f34.wk (by decide) (by decide))).tr (f5.wk (by decide) (by decide)), ⟨R5, P4, P5, wf⟩, ?_⟩
  · rw [(f5.1 0 16 (by decide)).1, (f34.1 0 16 (by decide)).1, e16]
  · rw [e4, Option.bind_some]
    unfold fX7_side_204
    rw [i1, nI_add, nI_add]
    rw [hl1] at e5
    exact e5
theorem m_102 {τ : Tau} {s : PSt} {vs os : List Nat} {o tk : Nat} (hR : RD K len tx τ s) (h4 : Stk τ 4 vs) (h5 : Stk τ 5 os) (hW : Wf true s.2.1 (vs, os, o)) (hp24 : s.2.1 < 24) (k5 : (psT len tx s).1 = 5) (hs : (psT len tx s).2.1 = 33 ∨ (psT len tx s).2.1 = 40) (ho8 : o < 8) (n : Nat) :
    ∃ τ', tI τ' 0 16 = tI τ 0 16 ∧ Fr smF [4, 5] τ τ' ∧ RMS K len tx τ' (psAdv len tx (s.1, s.2.1 + 1, s.2.2), true, vs, (psT len tx s).2.1 :: os, o + 1) ∧
      fX7_side_102 (fX7_side_21 n) τ (nI vs.length) (nI os.length) (nI o) 1 1 (nI tk) (bI true) = LQ n τ' (psAdv len tx (s.1, s.2.1 + 1, s.2.2), true, vs, (psT len tx s).2.1 :: os, o + 1) (tk + 1) := by
  obtain ⟨g, hv, ho, _, hvp, _, hvb⟩ := hW
  have g : gF true os := g
  have hv : vs.length = nb os := hv
  have ho : o = no os := ho
  have hvp : vs.length ≤ s.2.1 := hvp
  have hlen := gF_len g
  have e10 : tI τ 0 10 = nI (psT len tx s).2.1 := (hR.2.1.2.2.2.2.2.2.2 k5).2
  generalize (psT len tx s).2.1 = c at *
  unfold fX7_side_102
  rw [ifT, if_neg (nI_in (show os.length < 60 by omega) (by decide)), nm_i, nm_i, nm_i, nm_i, nm_i, nI_clamp (by omega), e10]
  have f1 : Fr [] [5] τ (sA τ 5 os.length (nI c)) := Fr.sA (by decide)
  have R2 := hR.fr f1 (fun j _ => by simp) (by decide)
  have S5 : Stk (sA τ 5 os.length (nI c)) 5 (c :: os) := Stk.push h5
  have S4 : Stk (sA τ 5 os.length (nI c)) 4 vs := h4.fr (fun j => (f1.2 4 (by decide) j).1)
  have e16 : tI (sA τ 5 os.length (nI c)) 0 16 = tI τ 0 16 := rfl
  generalize sA τ 5 os.length (nI c) = τ2 at *
  have R3 := R2.inc hp24
  have f3 : Fr [(0, 12)] [] τ2 (sI τ2 0 12 (tI τ2 0 12 + 1)) := Fr.sI (by decide)
  obtain ⟨τ4, e4, R4, f4⟩ := R3.adv
  have f34 : Fr ((0, 12) :: tmF) [] τ2 τ4 := (f3.wk (by decide) (by decide)).tr (f4.wk (by decide) (by decide))
  refine ⟨τ4, ?_, (f1.wk (by decide) (by decide)).tr (f34.wk (by decide) (by decide)), ⟨R4, S4.fr (fun j => (f34.2 4 (by decide) j).1), S5.fr (fun j => (f34.2 5 (by decide) j).1), ?_, ?_, ?_, ?_, ?_, ?_, hvb⟩, ?_⟩
  · rw [(f34.1 0 16 (by decide)).1, e16]
  · show gF true (c :: os)
    rcases hs with z | z
    · exact Or.inl ⟨z, rfl, g⟩
    · exact Or.inr (Or.inl ⟨z, g⟩)
  · show vs.length = nb (c :: os) + 0
    rw [nb, if_neg (by omega)]; omega
  · show o + 1 = no (c :: os)
    rw [no, if_pos (by omega)]; omega
  · show o + 1 ≤ 8; omega
  · show vs.length ≤ s.2.1 + 1; omega
  · show s.2.1 + 1 ≤ 24; omega
  · rw [e4, Option.bind_some]
    unfold fX7_side_204
    rw [m_419w, i1, nI_add, nI_add, nI_add]
    rfl
theorem m_step_want (hK : K ≤ 4) {τ : Tau} {s : PSt} {vs os : List Nat} {o tk q0 : Nat} {M' : MSt} (hR : RD K len tx τ s) (h4 : Stk τ 4 vs) (h5 : Stk τ 5 os) (hW : Wf true s.2.1 (vs, os, o)) (hJ : JL len tx τ q0 (s, true, vs, os, o) tk) (hn : s.2.2 = none) (st : mstep K len tx (s, true, vs, os, o) = some M') (n : Nat) :
    ∃ τ' tk', RMS K len tx τ' M' ∧ JL len tx τ' q0 M' tk' ∧ Fr smF [4, 5] τ τ' ∧ LQ (n + 1) τ (s, true, vs, os, o) tk = LQ n τ' M' tk' := by
  have ho8 : o ≤ 8 := hW.2.2.2.1
  have hb := hR.hb
  have jt : tk ≤ s.2.1 := hJ.1
  have red : LQ (n + 1) τ (s, true, vs, os, o) tk = if isPt K len tx s o = true then fX7_side_102 (fX7_side_21 n) τ (nI vs.length) (nI os.length) (nI o) 1 1 (nI tk) (bI (psSg len tx s 33 || psSg len tx s 40)) else fX7_side_95 (fX7_side_21 n) τ (nI vs.length) (nI os.length) (nI o) 1 1 (nI tk) := by
    rw [← m_61 hK (fX7_side_21 n) hR hn ho8]
    unfold LQ
    show fX7_side_21 (n + 1) τ (nI vs.length) (nI os.length) (nI o) 1 1 (nI tk) = _
    rw [fX7_side_21, if_neg (by decide), nm_i, m_well hR, decide_eq_true hn, ifT, if_neg (by decide), nm_i, show (33 : Int32) = nI 33 from rfl, m_sign hR hn (by decide)]
    cases psSg len tx s 33 with
    | true => rw [ifT, Bool.true_or]; rfl
    | false =>
      rw [ifF, nm_i, show (40 : Int32) = nI 40 from rfl, m_sign hR hn (by decide), Bool.false_or]
      cases psSg len tx s 40 with
      | true => rw [ifT]; rfl
      | false => rw [ifF]; rfl
  rw [red]
  unfold mstep at st
  rw [if_pos (show (s, true, vs, os, o).1.2.2 = none from hn), if_pos rfl] at st
  by_cases hpt : isPt K len tx s o = true
  · rw [if_pos hpt]
    rw [if_pos hpt] at st
    have hp24 : s.2.1 < 24 := by
      unfold isPt at hpt
      exact of_decide_eq_true (Bool.and_eq_true_iff.mp hpt).1
    have hpos := nx_lt hb (isPt_0 hb hpt)
    by_cases k4 : (psT len tx s).1 = 4
    · rw [if_pos (show (psT len tx (s, true, vs, os, o).1).1 = 4 from k4)] at st
      cases st
      have z1 : psSg len tx s 33 = false := decide_eq_false (fun z => by have := z.1; omega)
      have z2 : psSg len tx s 40 = false := decide_eq_false (fun z => by have := z.1; omega)
      rw [z1, z2, Bool.or_self]
      unfold fX7_side_102
      rw [ifF]
      have k4' : (tok len tx s.1).1 = 4 := k4
      have v4 := tok_v4 hb k4'
      have e10 : tI τ 0 10 = nI (65 + (tok len tx s.1).2.1) := (hR.2.1.2.2.2.2.2.2.1 k4').2
      have e65 : nI (65 + (tok len tx s.1).2.1) - (65 : Int32) = nI (tok len tx s.1).2.1 := by
        rw [show (65 : Int32) = nI 65 from rfl, pk_sub (by omega), Nat.add_sub_cancel_left]
      by_cases t0 : tk = 0
      · rw [if_pos (show nI tk = 0 by rw [t0]; rfl), e10, e65]
        obtain ⟨τ', a1, a2, a3, a4⟩ := m_161 hK (tk := tk) hR h4 h5 hW hp24 k4 (nI (tok len tx s.1).2.1) n
        refine ⟨τ', tk + 1, a3, hJ.on rfl hpos (by show tk + 1 ≤ s.2.1 + 1; omega) (by omega) (fun b1 b2 b3 b4 => ⟨by omega, Or.inl ⟨rfl, ?_, ?_⟩⟩) (fun b1 => by omega), a2, a4⟩
        · show (popB K os _ o).2.1 = []
          have b4 : os = [] := b4
          subst b4
          rfl
        · rw [a1, ← b1]
      · rw [if_neg (show ¬ nI tk = 0 from nI_n0 (by omega) t0)]
        obtain ⟨τ', a1, a2, a3, a4⟩ := m_161 hK (tk := tk) hR h4 h5 hW hp24 k4 (-9) n
        exact ⟨τ', tk + 1, a3, hJ.on rfl hpos (by show tk + 1 ≤ s.2.1 + 1; omega) (by omega) (fun _ b2 => absurd b2 t0) (fun _ _ _ => a1), a2, a4⟩
    · rw [if_neg (show ¬ (psT len tx (s, true, vs, os, o).1).1 = 4 from k4)] at st
      cases st
      have hor : (psSg len tx s 33 || psSg len tx s 40) = true ∧ o < 8 := by
        unfold isPt at hpt
        have := (Bool.and_eq_true_iff.mp hpt).2
        rw [decide_eq_false (fun z => k4 z.1), Bool.false_or] at this
        obtain ⟨a, b⟩ := Bool.and_eq_true_iff.mp this
        exact ⟨a, of_decide_eq_true b⟩
      have hk : (psT len tx s).1 = 5 ∧ ((psT len tx s).2.1 = 33 ∨ (psT len tx s).2.1 = 40) := by
        rcases Bool.or_eq_true_iff.mp hor.1 with z | z
        · have := of_decide_eq_true z; exact ⟨this.1, Or.inl this.2⟩
        · have := of_decide_eq_true z; exact ⟨this.1, Or.inr this.2⟩
      rw [hor.1]
      obtain ⟨τ', a1, a2, a3, a4⟩ := m_102 (tk := tk) hR h4 h5 hW hp24 hk.1 hk.2 hor.2 n
      refine ⟨τ', tk + 1, a3, hJ.on rfl hpos (by show tk + 1 ≤ s.2.1 + 1; omega) (by omega) (fun b1 b2 b3 b4 => ⟨by omega, Or.inr ⟨rfl, ?_⟩⟩) (fun _ _ c => ?_), a2, a4⟩
      · rw [a1]
        rcases hJ.2 with h | h | h
        · exact h.2.2.2.2
        · omega
        · omega
      · rcases c with c | c
        · rw [a1, c]
        · cases c.1
  · rw [if_neg hpt]
    rw [if_neg hpt] at st
    cases st
    unfold fX7_side_95 fX7_side_204
    rw [nm_i, m_419w]
    obtain ⟨r1, f1⟩ := m_fails hR
    refine ⟨fX7_fails τ, tk, ⟨r1, h4.fr (fun j => (f1.2 4 (by decide) j).1), h5.fr (fun j => (f1.2 5 (by decide) j).1), ?_⟩, ?_, f1.wk (by decide) (by decide), rfl⟩
    · show Wf true (psFail s).2.1 (vs, os, o)
      rw [psFail_2]
      exact hW
    · obtain ⟨j1, j2⟩ := hJ
      refine ⟨?_, ?_⟩
      · show tk ≤ (psFail s).2.1
        rw [psFail_2]; exact j1
      · show ((psFail s).1 = q0 ∧ _) ∨ ((psFail s).1 = nx len tx q0 ∧ _) ∨ (nx len tx q0 < (psFail s).1 ∧ _)
        rw [psFail_1, (f1.1 0 16 (by decide)).1]
        exact j2
end MS
