/-! the class reads a whole text -/
section XZ
variable {K len : Nat} {tx : Nat → Nat}
theorem good5 (h : (h5 K len tx).2.2 = none) : hE K len tx = true ∧ (s2 K len tx).2.2.2 = none ∧ psSg len tx (s1 K len tx).2 58 = true ∧ (h4 K len tx).2.2 = none ∧ (s1 K len tx).2.2.2 = none ∧ (h3 len tx).2.2 = none := by
  have e : hE K len tx = true ∧ (s2 K len tx).2.2.2 = none := by
    unfold h5 at h
    cases hc : hE K len tx with
    | true => rw [hc, if_pos rfl] at h; exact ⟨rfl, h⟩
    | false => rw [hc, if_neg (by decide)] at h; exact absurd h (psFail_n _)
  have e4 : (h4 K len tx).2.2 = none := by
    by_cases c : (h4 K len tx).2.2 = none
    · exact c
    · have : (s2 K len tx).2 = h4 K len tx := pUnion_f c 12 0
      rw [this] at e
      exact e.2
  have e1 : psSg len tx (s1 K len tx).2 58 = true ∧ (s1 K len tx).2.2.2 = none := by
    have : (psB len tx (psSg len tx (s1 K len tx).2 58) (s1 K len tx).2).2.2 = none := e4
    exact psB_n this
  refine ⟨e.1, e.2, e1.1, e4, e1.2, ?_⟩
  by_cases c : (h3 len tx).2.2 = none
  · exact c
  · have : (s1 K len tx).2 = h3 len tx := pUnion_f c 12 0
    rw [this] at e1
    exact e1.2
theorem x_fact {τ : Tau} {w : Nat} {T : Bool} {x y : Int32} (g0 : tI τ 16 0 = nI w) (hw : w < 9) (g5 : tI τ 16 5 = bI T) : fX2_factTold τ x y = factOf w T x y := by
  unfold fX2_factTold factOf fX2_factTold_105 fX2_factTold_84 fX2_factTold_63
  rw [g0, g5]
  by_cases hx : x = -9
  · rw [if_pos hx, if_pos hx]
  rw [if_neg hx, if_neg hx]
  by_cases hy : y = -9
  · rw [if_pos hy, if_pos hy]
  rw [if_neg hy, if_neg hy]
  by_cases w0 : w = 0
  · rw [if_pos (show nI w = (0 : Int32) by rw [w0]; rfl), if_pos w0]
    cases T <;> rfl
  rw [if_neg (show ¬ nI w = (0 : Int32) from fun z => w0 (nI_inj (b := 0) (by omega) (by omega) z)), if_neg w0]
  by_cases w1 : w = 1
  · rw [if_pos (show nI w = (1 : Int32) by rw [w1]; rfl), if_pos w1]
    cases T <;> rfl
  rw [if_neg (show ¬ nI w = (1 : Int32) from fun z => w1 (nI_inj (b := 1) (by omega) (by omega) z)), if_neg w1]
  by_cases w2 : w = 2
  · rw [if_pos (show nI w = (2 : Int32) by rw [w2]; rfl), if_pos w2]
    cases T <;> rfl
  rw [if_neg (show ¬ nI w = (2 : Int32) from fun z => w2 (nI_inj (b := 2) (by omega) (by omega) z)), if_neg w2]
theorem wd_lt (hb : ∀ j, j < len → tx j < 256) (h : hW len tx = true) : wd len tx < 8 := by
  have h := of_decide_eq_true h
  have e : (tok len tx (h1 len tx).1).1 = 2 := h.1
  have n8 : (tok len tx (h1 len tx).1).2.1 ≠ 8 := h.2
  show (tok len tx (h1 len tx).1).2.1 < 8
  rcases tok_inf hb (h1 len tx).1 with ⟨z, _⟩ | ⟨_, _, z | ⟨_, z⟩ | z | ⟨z, _⟩ | ⟨z, _⟩⟩ <;> omega
theorem x_rdBegin {τ : Tau} (hL : LX τ len tx) :
    ∃ τ', fX4_begin (sI (sI (sI τ 13 2 (nI K)) 13 3 0) 13 4 (-1)) = some τ' ∧ RS K len tx τ' (h0 len tx) ∧ Fr drF [] τ τ' := by
  have f1 : Fr drF [] τ (sI (sI (sI (sI (sI τ 13 2 (nI K)) 13 3 0) 13 4 (-1)) 14 6 0) 14 5 (-1)) := ((((Fr.sI (by decide)).tr (Fr.sI (by decide))).tr (Fr.sI (by decide))).tr (Fr.sI (by decide))).tr (Fr.sI (by decide))
  have g : ∀ τ1 : Tau, τ1 = sI (sI (sI (sI (sI τ 13 2 (nI K)) 13 3 0) 13 4 (-1)) 14 6 0) 14 5 (-1) → tI τ1 13 2 = nI K ∧ tI τ1 13 3 = nI 0 ∧ tI τ1 13 4 = -1 ∧ tI τ1 14 6 = nI 0 ∧ tI τ1 14 5 = -1 := by
    intro τ1 e
    subst e
    simp only [tI_sI]
    refine ⟨?_, ?_, ?_, ?_, ?_⟩ <;> simp <;> rfl
  unfold fX4_begin
  rw [nm_i, nm_i]
  have hL1 := hL.fr f1 (by decide) (by decide)
  obtain ⟨g2, g3, g4, g6, g5⟩ := g _ rfl
  generalize sI (sI (sI (sI (sI τ 13 2 (nI K)) 13 3 0) 13 4 (-1)) 14 6 0) 14 5 (-1) = τ1 at *
  obtain ⟨τ2, e, t, _, hL2, f2⟩ := x_advance4 hL1 g6 (Nat.zero_le _) g5
  rw [e, Option.bind_some]
  exact ⟨τ2, rfl, ⟨hL2, t, by rw [(f2.1 13 2 (by decide)).1, g2], by rw [(f2.1 13 3 (by decide)).1, g3]; rfl, by rw [(f2.1 13 4 (by decide)).1, g4]; rfl, ends_len (fun c => decide (c = 32)) len tx 80 0 (Nat.zero_le _), Nat.zero_le _, fun f hf => by cases hf⟩, f1.tr (f2.wk (by decide) (by decide))⟩
theorem x_passE {τ : Tau} {s : PSt} (h : RS K len tx τ s) : ∃ τ', fX2_pass τ 0 = some τ' ∧ tI τ' 13 4 = encF (if decide ((psT len tx s).1 = 0) = true then s else psFail s).2.2 ∧ Fr rdF [] τ τ' := by
  unfold fX2_pass
  by_cases k : (psT len tx s).1 = 0
  · rw [if_pos (show tI τ 14 2 = (0 : Int32) from (x_kd h (k := 0) (by omega)).mpr k), decide_eq_true k, if_pos rfl]
    unfold fX2_pass_15
    by_cases e : s.2.2 = none
    · obtain ⟨τ', ea, r, _, f⟩ := x_adv2 h
      rw [if_pos (h.wl.mpr e), ea, Option.bind_some]
      exact ⟨τ', rfl, r.2.2.2.2.1, f.wk (by decide) (by decide)⟩
    · rw [if_neg (fun z => e (h.wl.mp z))]
      exact ⟨τ, rfl, h.2.2.2.2.1, Fr.rf⟩
  · have x := xs_fail h
    rw [if_neg (show ¬ tI τ 14 2 = (0 : Int32) from fun z => k ((x_kd h (k := 0) (by omega)).mp z)), decide_eq_false k, if_neg (by decide), nm_i]
    unfold fX2_pass_15
    rw [if_neg (fun z => psFail_n s (x.1.wl.mp z))]
    exact ⟨_, rfl, x.1.2.2.2.2.1, x.2.1⟩
theorem fault_le {τ : Tau} {s : PSt} (h : RS K len tx τ s) (b : Bool) {f : Nat} (hf : (if b = true then s else psFail s).2.2 = some f) : f ≤ len := by
  cases b with
  | true => rw [if_pos rfl] at hf; exact h.2.2.2.2.2.2.2 f hf
  | false =>
    rw [if_neg (by decide)] at hf
    exact (xs_fail h).1.2.2.2.2.2.2.2 f hf
theorem x_draft (hK : K ≤ 4) {τ : Tau} (hL : LX τ len tx) :
    ∃ τ', fX2_readDraft τ (nI K) = some (encF (h5 K len tx).2.2, τ') ∧ Fr drF [] τ τ' ∧ (∀ f, (h5 K len tx).2.2 = some f → f ≤ len) ∧ ((h5 K len tx).2.2 = none → SX τ' 16 (dn K len tx)) := by
  have hb : ∀ j, j < len → tx j < 256 := fun j hj => (hL.2.2 j hj).2
  obtain ⟨τ1, e1, R1, f1⟩ := x_rdBegin (K := K) hL
  obtain ⟨τ2, e2, R2, f2, g2, g5⟩ := x_head R1
  obtain ⟨τ3, e3, R3, f3, g3⟩ := x_side hK R2
  have e3 : fX2_readSide τ2 = some (nI (s1 K len tx).1, τ3) := e3
  have R3 : RS K len tx τ3 (s1 K len tx).2 := R3
  have q3 : Fr [(16, 2)] [] τ3 (sI τ3 16 2 (nI (s1 K len tx).1)) := Fr.sI (by decide)
  have R3' := R3.fr q3 (fun j _ => by simp) (fun j _ => by simp) (by decide)
  have v32 : tI (sI τ3 16 2 (nI (s1 K len tx).1)) 16 2 = nI (s1 K len tx).1 := by rw [tI_sI, if_pos ⟨rfl, rfl⟩]
  have v35 : tI (sI τ3 16 2 (nI (s1 K len tx).1)) 13 5 = tI τ3 13 5 := (q3.1 13 5 (by decide)).1
  unfold fX2_readDraft
  rw [nm_i, nm_i, nm_i, e1, Option.bind_some, e2, Option.bind_some, e3, Option.bind_some, nm_i, nm_i]
  show ∃ τ', Option.bind (fX2_pass (sI τ3 16 2 (nI (s1 K len tx).1)) (58 : Int32)) _ = _ ∧ _
  generalize sI τ3 16 2 (nI (s1 K len tx).1) = τ4 at *
  obtain ⟨τ5, e5, x5⟩ := xs_passSg R3' (c := 58) (by omega) (by omega)
  have R5 : RS K len tx τ5 (h4 K len tx) := x5.1
  have f5 := x5.2.1
  obtain ⟨τ6, e6, R6, f6, g6⟩ := x_side hK R5
  have e6 : fX2_readSide τ5 = some (nI (s2 K len tx).1, τ6) := e6
  have R6 : RS K len tx τ6 (s2 K len tx).2 := R6
  have q6 : Fr [(16, 3)] [] τ6 (sI τ6 16 3 (nI (s2 K len tx).1)) := Fr.sI (by decide)
  have R6' := R6.fr q6 (fun j _ => by simp) (fun j _ => by simp) (by decide)
  have v63 : tI (sI τ6 16 3 (nI (s2 K len tx).1)) 16 3 = nI (s2 K len tx).1 := by rw [tI_sI, if_pos ⟨rfl, rfl⟩]
  have v65 : tI (sI τ6 16 3 (nI (s2 K len tx).1)) 13 5 = tI τ6 13 5 := (q6.1 13 5 (by decide)).1
  rw [show (58 : Int32) = nI 58 from rfl, e5, Option.bind_some, e6, Option.bind_some, nm_i, nm_i]
  show ∃ τ', Option.bind (fX2_pass (sI τ6 16 3 (nI (s2 K len tx).1)) (0 : Int32)) _ = _ ∧ _
  generalize sI τ6 16 3 (nI (s2 K len tx).1) = τ7 at *
  obtain ⟨τ8, e8, v8, f8⟩ := x_passE R6'
  have v8 : tI τ8 13 4 = encF (h5 K len tx).2.2 := v8
  have q8 : ∀ v, Fr [(16, 4)] [] τ8 (sI τ8 16 4 v) := fun v => Fr.sI (by decide)
  rw [e8, Option.bind_some, nm_i, nm_i]
  have ff : Fr drF [] τ τ8 := (((((f1.tr (f2.wk (by decide) (by decide))).tr (f3.wk (by decide) (by decide))).tr (q3.wk (by decide) (by decide))).tr (f5.wk (by decide) (by decide))).tr (f6.wk (by decide) (by decide))).tr ((q6.wk (by decide) (by decide)).tr (f8.wk (by decide) (by decide)))
  refine ⟨sI τ8 16 4 (fX2_factTold τ8 (tI τ4 13 5) (tI τ7 13 5)), ?_, ff.tr ((q8 _).wk (by decide) (by decide)), fun f hf => fault_le R6' (hE K len tx) hf, fun hn => ?_⟩
  · show some (tI (sI τ8 16 4 (fX2_factTold τ8 (tI τ4 13 5) (tI τ7 13 5))) 13 4, sI τ8 16 4 (fX2_factTold τ8 (tI τ4 13 5) (tI τ7 13 5))) = _
    rw [((q8 _).1 13 4 (by decide)).1, v8]
  · obtain ⟨n1, n2, n3, n4, n5, n6⟩ := good5 hn
    obtain ⟨a0, a1, a5, aw⟩ := g2 n6
    have hw8 := wd_lt hb aw
    have k16 : ∀ j, j = 0 ∨ j = 1 ∨ j = 5 → tI τ8 16 j = tI τ2 16 j := by
      intro j hj
      rw [(f8.1 16 j (by simp)).1, (q6.1 16 j (by simp; omega)).1, (f6.1 16 j (by simp)).1, (f5.1 16 j (by simp)).1, (q3.1 16 j (by simp; omega)).1, (f3.1 16 j (by simp)).1]
    have c0 : tI τ8 16 0 = nI (wd len tx) := by rw [k16 0 (by omega), a0]
    have c1 : tI τ8 16 1 = nI (hnum len tx) := by rw [k16 1 (by omega), a1]
    have c5 : tI τ8 16 5 = bI (hT len tx) := by rw [k16 5 (by omega), a5]
    have c2 : tI τ8 16 2 = nI (s1 K len tx).1 := by
      rw [(f8.1 16 2 (by decide)).1, (q6.1 16 2 (by decide)).1, (f6.1 16 2 (by decide)).1, (f5.1 16 2 (by decide)).1, v32]
    have c3 : tI τ8 16 3 = nI (s2 K len tx).1 := by
      rw [(f8.1 16 3 (by decide)).1, v63]
    have d1 : tI τ4 13 5 = l1 K len tx := by rw [v35]; exact g3 n5
    have d2 : tI τ7 13 5 = l2 K len tx := by rw [v65]; exact g6 n2
    have kq : ∀ v j, j ≠ 4 → tI (sI τ8 16 4 v) 16 j = tI τ8 16 j := fun v j hj => by rw [tI_sI, if_neg (by omega)]
    refine ⟨?_, ?_, ?_, ?_, ?_, ?_⟩
    · rw [kq _ 0 (by omega), c0]; rfl
    · rw [kq _ 1 (by omega), c1]; rfl
    · rw [kq _ 2 (by omega), c2]; rfl
    · rw [kq _ 3 (by omega), c3]; rfl
    · rw [kq _ 5 (by omega), c5]; rfl
    · rw [tI_sI, if_pos ⟨rfl, rfl⟩, d1, d2, x_fact c0 (by omega) c5]; rfl
theorem fact_ok {w : Nat} {T : Bool} {x y : Int32} (hx : x = -9 ∨ ∃ k, k < K ∧ x = nI k) (hy : y = -9 ∨ ∃ k, k < K ∧ y = nI k) (hK : K ≤ 4) : FactOk K (factOf w T x y) := by
  unfold factOf
  by_cases ex : x = -9
  · rw [if_pos ex]; exact Or.inl rfl
  rw [if_neg ex]
  by_cases ey : y = -9
  · rw [if_pos ey]; exact Or.inl rfl
  rw [if_neg ey]
  obtain ⟨a, ha, rfl⟩ := hx.resolve_left ex
  obtain ⟨b, hb, rfl⟩ := hy.resolve_left ey
  have one : ∀ z : Nat, z < 4 → FactOk K (fX6_factNumber (nI z) (nI a) (nI b)) := by
    intro z hz
    refine Or.inr ⟨16 * z + 4 * a + b, by omega, ?_, by omega, by omega⟩
    unfold fX6_factNumber
    rw [show (16 : Int32) = nI 16 from rfl, show (4 : Int32) = nI 4 from rfl, pk_mul, pk_mul, nI_add, nI_add]
  by_cases w0 : w = 0
  · rw [if_pos w0]
    cases T
    · exact one 0 (by omega)
    · exact one 3 (by omega)
  rw [if_neg w0]
  by_cases w1 : w = 1
  · rw [if_pos w1]
    cases T
    · exact one 1 (by omega)
    · exact one 2 (by omega)
  rw [if_neg w1]
  by_cases w2 : w = 2
  · rw [if_pos w2]
    cases T
    · exact one 2 (by omega)
    · exact one 1 (by omega)
  rw [if_neg w2]
  exact Or.inl rfl
theorem lone_ok (hb : ∀ j, j < len → tx j < 256) {s : PSt} (h : (pUnion len tx (pPart K len tx 12) s 0).2.2.2 = none) : pLone len tx s (pUnion len tx (pPart K len tx 12) s 0).2 = -9 ∨ ∃ k, k < K ∧ pLone len tx s (pUnion len tx (pPart K len tx 12) s 0).2 = nI k := by
  obtain ⟨_, _, _, g⟩ := union_1 hb (part_1 (K := K) hb 12 0) s h
  unfold pLone
  split
  · rename_i c
    exact Or.inr ⟨_, (g c).2, rfl⟩
  · exact Or.inl rfl
theorem dn_ok (hK : K ≤ 4) (hb : ∀ j, j < len → tx j < 256) (hn : (h5 K len tx).2.2 = none) (hw : hW len tx = true) : Sok K (dn K len tx) := by
  obtain ⟨n1, n2, n3, n4, n5, n6⟩ := good5 hn
  refine ⟨wd_lt hb hw, ?_, union_v (part_v 12) _ _, union_v (part_v 12) _ _, fact_ok (lone_ok hb n5) (lone_ok hb n2) hK⟩
  show hnum len tx ≤ 6
  unfold hnum
  cases hc : hN len tx with
  | false => rw [if_neg (by decide)]; omega
  | true =>
    rw [if_pos rfl]
    unfold h3 at n6
    rw [hc, if_pos rfl] at n6
    cases ho : hO len tx with
    | false => rw [ho, if_neg (by decide)] at n6; exact absurd n6 (psFail_n _)
    | true => exact (of_decide_eq_true ho).2
theorem h3_w (hn : (h3 len tx).2.2 = none) : hW len tx = true := by
  cases hc : hW len tx with
  | true => rfl
  | false =>
    unfold h3 hN h2 at hn
    rw [hc, Bool.false_and, if_neg (by decide), if_neg (by decide)] at hn
    exact absurd hn (psFail_n _)
end XZ
