/-! what holds, sizes, putting things -/
section ST6
variable {τx τm : Tau} {K N md ml len : Nat} {d : Nat → Sd} {cw : Nat → Nat} {tx : Nat → Nat}
theorem x_sumAt {τ : Tau} {q : Nat} {e : Sd} {c : Nat → Nat} (hq : SX τ q e) (hX : sdX e < 65536) (hY : sdY e < 65536) (hc : RowIs τ K 12 c) :
    fX6_sumAtHand q τ = some (nI (cnt (sdX e) c + 16 * cnt (sdY e) c + 256 * cnt (sdX e &&& sdY e) c)) := by
  have key : ∀ N i, i ≤ 16 → 16 - i < N → fX6_sumAtHand_4 q τ N (nI (sumTo (fun s => c s * wgt e s) i)) (nI i) = some (nI (sumTo (fun s => c s * wgt e s) 16)) := by
    intro N
    induction N with
    | zero => intro i _ h; omega
    | succ N ih =>
      intro i hi hN
      rw [fX6_sumAtHand_4]
      by_cases hlt : i < 16
      · rw [i16, if_neg (nI_ge hlt (by omega)), if_neg (nI_in hlt (by decide)), nm_i, nm_i, nm_i, nI_clamp (by omega), hc.1 i hlt, x_weight hq hX hY hlt, pk_mul, i1, nI_add, nI_add]
        exact ih (i + 1) (by omega) (by omega)
      · have : i = 16 := by omega
        subst this
        rw [i16, if_pos (nI_le (Nat.le_refl _) (by omega))]
  unfold fX6_sumAtHand
  rw [i0]
  have := key FU 0 (by omega) (by unfold FU; omega)
  rw [wsum e c 16] at this
  exact this
theorem st_holds (h : Rel τx τm K N md ml d cw len tx) (p1 : Int32) : ∃ a τm', fX6_holds τx p1 = some a ∧ fX7_holds τm p1 = some (a, τm') ∧ Rel τx τm' K N md ml d cw len tx := by
  obtain ⟨hsay, hqs⟩ := is_say p1
  have hz := h.zero
  have hK := h.1.2.1
  unfold fX6_holds fX7_holds
  simp only [nm_i]
  cases hb1 : fX7_isSaying p1 with
  | false => rw [if_pos (hsay.mpr hb1), ifF]; exact ⟨_, _, rfl, rfl, hz⟩
  | true =>
    obtain ⟨i, hi, rfl⟩ := hqs hb1
    have hl := (h.1.2.2.2.2.2.1 i hi).lt hK
    have hc := h.2.1.2.2.2.2.1
    have hx := h.2.1.2.2.2.1 i hi
    have b1 := cnt_le (sdX (d i)) cw
    have b2 := cnt_le (sdY (d i)) cw
    have b3 := cnt_le (sdX (d i) &&& sdY (d i)) cw
    have b4 := hc.2.2
    rw [if_neg (show ¬ (nI i < 0 ∨ 10 ≤ (nI i).toNatClampNeg) from fun z => by rw [hsay.mp z] at hb1; cases hb1), ifT, nI_clamp (by omega), x_sumAt hx hl.2.2.1 hl.2.2.2 hc, Option.bind_some, x_isTrue hx hl.1 hl.2.1 (by omega) (by omega) (by omega), x_bit, m_isSo hz.2.2.2.1.1 hK hz.2.2.2.1.2.2.2.2.1 (hz.2.2.2.1.2.2.2.1 i hi) hi hl, Option.bind_some]
    refine ⟨bI (hold (d i) cw), sI τm 0 0 0, rfl, ?_, hz⟩
    cases hold (d i) cw with
    | true => rw [ifT]; rfl
    | false => rw [ifF]; rfl
theorem st_size (h : Rel τx τm K N md ml d cw len tx) (p1 p2 : Int32) : ∃ a τm', fX6_size τx p1 p2 = some a ∧ fX7_size τm p1 p2 = some (a, τm') ∧ Rel τx τm' K N md ml d cw len tx := by
  obtain ⟨hsay, hqs⟩ := is_say p1
  have hz := h.zero
  have hK := h.1.2.1
  have e0 : (0 : Int32).toInt = 0 := rfl
  have e2 : (2 : Int32).toInt = 2 := rfl
  unfold fX6_size fX7_size
  simp only [nm_i]
  cases hb1 : fX7_isSaying p1 with
  | false => rw [if_pos (hsay.mpr hb1), ifF]; exact ⟨_, _, rfl, rfl, hz⟩
  | true =>
    obtain ⟨i, hi, rfl⟩ := hqs hb1
    rw [if_neg (show ¬ (nI i < 0 ∨ 10 ≤ (nI i).toNatClampNeg) from fun z => by rw [hsay.mp z] at hb1; cases hb1), ifT, in_iff]
    by_cases h0 : p2 < 0
    · have := i32_lt.mp h0
      rw [if_pos h0, decide_eq_false (by omega), ifF]
      exact ⟨_, _, rfl, rfl, hz⟩
    · have h0' : ¬ p2.toInt < (0 : Int32).toInt := fun z => h0 (i32_lt.mpr z)
      rw [if_neg h0]
      by_cases h1 : p2 ≤ 2
      · have h1' := i32_le.mp h1
        have hl := (h.1.2.2.2.2.2.1 i hi).lt hK
        have hc := h.2.1.2.2.2.2.1
        have hx := h.2.1.2.2.2.1 i hi
        have b1 := cnt_le (sdX (d i)) cw
        have b2 := cnt_le (sdY (d i)) cw
        have b3 := cnt_le (sdX (d i) &&& sdY (d i)) cw
        have b4 := hc.2.2
        obtain ⟨n1, n2, n3⟩ := nib (x := cnt (sdX (d i)) cw) (y := cnt (sdY (d i)) cw) (b := cnt (sdX (d i) &&& sdY (d i)) cw) (by omega) (by omega) (by omega)
        obtain ⟨m0, m1, m2, m3, m4, m5⟩ := hz.2.2.2.1.2.2.2.1 i hi
        have mk := hz.2.2.2.1.1
        have mc := hz.2.2.2.1.2.2.2.2.1
        have hxy : sdX (d i) &&& sdY (d i) < 65536 := Nat.lt_of_le_of_lt Nat.and_le_left hl.2.2.1
        rw [if_pos h1, decide_eq_true (by omega), ifT, nI_clamp (by omega), x_sumAt hx hl.2.2.1 hl.2.2.2 hc, Option.bind_some,
          show (6 : Int32) * nI i + (1 : Int32) = nI (6 * i + 1) by rw [i6, i1, pk_mul, nI_add], show (6 : Int32) * nI i + (2 : Int32) = nI (6 * i + 2) by rw [i6, i2, pk_mul, nI_add],
          if_neg (nI_in (show 6 * i + 1 < 60 by omega) (by decide)), if_neg (nI_in (show 6 * i + 2 < 60 by omega) (by decide)), nI_clamp (show 6 * i + 1 < 2 ^ 31 by omega), nI_clamp (show 6 * i + 2 < 2 ^ 31 by omega), m1, m2, nI_and]
        unfold fX7_size_71
        rw [m_sizeOf mk hK mc hl.2.2.1, m_sizeOf mk hK mc hl.2.2.2, m_sizeOf mk hK mc hxy, Option.bind_some, Option.bind_some, Option.bind_some]
        obtain ⟨ep, tp⟩ := nat_of (p := p2) (by omega)
        have h3 : cl p2 = 0 ∨ cl p2 = 1 ∨ cl p2 = 2 := by omega
        rcases h3 with z | z | z <;> rw [z] at ep <;> subst ep
        · rw [if_pos (show nI 0 = 0 from rfl)]
          have sh : nI (cnt (sdX (d i)) cw + 16 * cnt (sdY (d i)) cw + 256 * cnt (sdX (d i) &&& sdY (d i)) cw) >>> ((4 * nI 0) &&& 31) = nI (cnt (sdX (d i)) cw + 16 * cnt (sdY (d i)) cw + 256 * cnt (sdX (d i) &&& sdY (d i)) cw) := by
            rw [show (4 : Int32) * nI 0 = nI 0 from rfl, nI_shr (by omega) (by omega), Nat.pow_zero, Nat.div_one]
          rw [sh]
          refine ⟨_, _, rfl, ?_, hz⟩
          rw [← n1]
        · rw [if_neg (show ¬ nI 1 = 0 by decide), if_pos (show nI 1 = 1 from rfl)]
          refine ⟨_, _, rfl, ?_, hz⟩
          rw [← n2]
          rfl
        · rw [if_neg (show ¬ nI 2 = 0 by decide), if_neg (show ¬ nI 2 = 1 by decide)]
          refine ⟨_, _, rfl, ?_, hz⟩
          rw [← n3]
          rfl
      · have h1' : ¬ p2.toInt ≤ (2 : Int32).toInt := fun z => h1 (i32_le.mpr z)
        rw [if_neg h1, decide_eq_false (by omega), ifF]
        exact ⟨_, _, rfl, rfl, hz⟩
theorem st_put (h : Rel τx τm K N md ml d cw len tx) (p1 p2 : Int32) : ∃ a τx' τm' cw', fX6_put τx p1 p2 = some (a, τx') ∧ fX7_put τm p1 p2 = some (a, τm') ∧ Rel τx' τm' K N md ml d cw' len tx := by
  have hz := h.zero
  have hK := h.1.2.1
  have hS := pow2_16 hK
  have hS1 : 1 ≤ 2 ^ K := Nat.one_le_two_pow
  have e0 : (0 : Int32).toInt = 0 := rfl
  have e6 : (6 : Int32).toInt = 6 := rfl
  have mk := hz.2.2.2.1.1
  unfold fX6_put fX7_put
  simp only [nm_i]
  rw [x_isSort h.2.1.1 hK, m_sorts mk hK, sub1 hS1, in_iff, in_iff, nI_toInt (by omega), e0, e6]
  by_cases h1 : 0 ≤ p1.toInt ∧ p1.toInt < ((2 ^ K : Nat) : Int)
  · rw [decide_eq_true h1, decide_eq_true (show 0 ≤ p1.toInt ∧ p1.toInt ≤ ((2 ^ K - 1 : Nat) : Int) by omega), ifT, ifT]
    by_cases h2 : p2 < 0
    · have := i32_lt.mp h2
      rw [if_pos h2, decide_eq_false (by omega), ifF]
      exact ⟨_, _, _, _, rfl, rfl, hz⟩
    · have h2' : ¬ p2.toInt < (0 : Int32).toInt := fun z => h2 (i32_lt.mpr z)
      rw [if_neg h2]
      by_cases h3 : p2 ≤ 6
      · have h3' := i32_le.mp h3
        obtain ⟨ep, tp⟩ := nat_of h1.1
        obtain ⟨ep2, tp2⟩ := nat_of (p := p2) (by omega)
        have hq : cl p1 < 2 ^ K := by omega
        have hv : cl p2 ≤ 6 := by omega
        generalize cl p1 = q at *
        generalize cl p2 = v at *
        subst ep ep2
        have hcx := h.2.1.2.2.2.2.1
        have hcm := hz.2.2.2.1.2.2.2.2.1
        have hle := sumTo_one (f := cw) (show q < 16 by omega)
        have hs6 := hcx.2.2
        have hup := sumTo_up (f := cw) (n := 16) (k := q) (v := v) (by omega)
        rw [if_pos h3, decide_eq_true (by omega), ifT, if_neg (nI_in (show q < 16 by omega) (by decide)), nI_clamp (by omega), row_all hcx, row_allM mk hK hcm, hcx.1 q (by omega), hcm.1 q (by omega), Option.bind_some, Option.bind_some, pk_sub hle, nI_add]
        have qi : ¬ (nI q < 0 ∨ 16 ≤ q) := nI_in2 (by omega) (by decide)
        simp only [if_neg qi]
        by_cases h4 : sumTo cw 16 - cw q + v ≤ 6
        · rw [if_pos (show nI (sumTo cw 16 - cw q + v) ≤ (6 : Int32) by rw [i6]; exact nI_le h4 (by omega)), if_pos (show nI (sumTo cw 16 - cw q + v) ≤ (6 : Int32) by rw [i6]; exact nI_le h4 (by omega))]
          obtain ⟨o, ⟨a1, a2, a3, a4, a5, a6, a7, a8⟩, hh, ⟨b1, b2, b3, b4, b5, b6, b7⟩, hm⟩ := hz
          have fx : Fr [] [12] τx (sA τx 12 q (nI v)) := Fr.sA (by decide)
          have fm : Fr [] [1] (sI τm 0 0 0) (sA (sI τm 0 0 0) 1 q (nI v)) := Fr.sA (by decide)
          have row : ∀ (τ : Tau) (o : Nat), RowIs τ K o cw → RowIs (sA τ o q (nI v)) K o (fun s => if s = q then v else cw s) := by
            intro τ o hr
            refine ⟨fun s hs => ?_, fun s hs => ?_, by omega⟩
            · rw [tA_sA]
              by_cases e : s = q
              · rw [if_pos ⟨rfl, e⟩]
                show nI v = nI (if s = q then v else cw s)
                rw [if_pos e]
              · rw [if_neg (fun z => e z.2)]
                show tA τ o s = nI (if s = q then v else cw s)
                rw [if_neg e]; exact hr.1 s hs
            · show (if s = q then v else cw s) = 0
              rw [if_neg (by omega)]; exact hr.2.1 s hs
          refine ⟨_, _, _, fun s => if s = q then v else cw s, rfl, rfl, o, ⟨?_, ?_, ?_, fun i hi => (a4 i hi).fr fx (fun j hm => by simp at hm), row _ _ a5, ?_, fun j hj => ?_, fun s f hs hf => ?_⟩, hh.fr fx (by decide) (by decide) (by decide) (by decide) (by decide) (by decide), ⟨?_, ?_, ?_, fun i hi => (b4 i hi).fr fm (by decide), row _ _ b5, ?_, fun j hj => ?_⟩, hm.fr fm (by decide) (by decide) (by decide) (by decide) (by decide) (by decide)⟩
          · rw [(fx.1 0 5 (by decide)).1, a1]
          · rw [(fx.1 0 6 (by decide)).1, a2]
          · rw [(fx.1 0 7 (by decide)).1, a3]
          · rw [(fx.1 14 1 (by decide)).1, a6]
          · rw [(fx.2 15 (by decide) j).1]; exact a7 j hj
          · rw [(fx.2 25 (by decide) s).2]; exact a8 s f hs hf
          · rw [(fm.1 0 1 (by decide)).1, b1]
          · rw [(fm.1 0 2 (by decide)).1, b2]
          · rw [(fm.1 0 3 (by decide)).1, b3]
          · rw [(fm.1 0 6 (by decide)).1, b6]
          · rw [(fm.2 2 (by decide) j).1]; exact b7 j hj
        · rw [if_neg (show ¬ nI (sumTo cw 16 - cw q + v) ≤ (6 : Int32) by rw [i6]; exact nI_ge (by omega) (by omega)), if_neg (show ¬ nI (sumTo cw 16 - cw q + v) ≤ (6 : Int32) by rw [i6]; exact nI_ge (by omega) (by omega))]
          exact ⟨_, _, _, _, rfl, rfl, hz⟩
      · have h3' : ¬ p2.toInt ≤ (6 : Int32).toInt := fun z => h3 (i32_le.mpr z)
        rw [if_neg h3, decide_eq_false (by omega), ifF]
        exact ⟨_, _, _, _, rfl, rfl, hz⟩
  · rw [decide_eq_false h1, decide_eq_false (show ¬ (0 ≤ p1.toInt ∧ p1.toInt ≤ ((2 ^ K - 1 : Nat) : Int)) by omega), ifF, ifF]
    exact ⟨_, _, _, _, rfl, rfl, hz⟩
end ST6
