/-! the plain calls: both sides answer the same -/
section ST5
variable {τx τm : Tau} {K N md ml len : Nat} {d : Nat → Sd} {cw : Nat → Nat} {tx : Nat → Nat}
theorem row_all {τ : Tau} {c : Nat → Nat} (hc : RowIs τ K 12 c) : fX6_thingsAtHand τ = some (nI (sumTo c 16)) := by
  have key : ∀ N i, i ≤ 16 → 16 - i < N → fX6_thingsAtHand_4 τ N (nI (sumTo c i)) (nI i) = some (nI (sumTo c 16)) := by
    intro N
    induction N with
    | zero => intro i _ h; omega
    | succ N ih =>
      intro i hi hN
      rw [fX6_thingsAtHand_4]
      by_cases hlt : i < 16
      · rw [i16, if_neg (nI_ge hlt (by omega)), if_neg (nI_in hlt (by decide)), nm_i, nm_i, nI_clamp (by omega), hc.1 i hlt, i1, nI_add, nI_add]
        exact ih (i + 1) (by omega) (by omega)
      · have : i = 16 := by omega
        subst this
        rw [i16, if_pos (nI_le (Nat.le_refl _) (by omega))]
  unfold fX6_thingsAtHand
  rw [i0]
  exact key FU 0 (by omega) (by unfold FU; omega)
theorem row_allM {τ : Tau} {q : Nat} {c : Nat → Nat} (hk : tI τ 0 1 = nI K) (hK : K ≤ 4) (hc : RowIs τ K q c) : fX7_all q τ = some (nI (sumTo c 16)) := by
  have hS := pow2_16 hK
  have e : sumTo c 16 = sumTo c (2 ^ K) := sumTo_ext hS (fun s h1 _ => hc.2.1 s h1)
  have key : ∀ N i, i ≤ 2 ^ K → 2 ^ K - i < N → fX7_all_4 q τ N (nI (sumTo c i)) (nI i) = some (nI (sumTo c (2 ^ K))) := by
    intro N
    induction N with
    | zero => intro i _ h; omega
    | succ N ih =>
      intro i hi hN
      rw [fX7_all_4, nm_i, m_sorts hk hK]
      by_cases hlt : i < 2 ^ K
      · rw [if_neg (nI_ge hlt (by omega)), if_neg (nI_in (show i < 16 by omega) (by decide)), nm_i, nm_i, nI_clamp (by omega), hc.1 i (by omega), i1, nI_add, nI_add]
        exact ih (i + 1) (by omega) (by omega)
      · have : i = 2 ^ K := by omega
        subst this
        rw [if_pos (nI_le (Nat.le_refl _) (by omega))]
  unfold fX7_all
  rw [i0, e]
  exact key FU 0 (Nat.zero_le _) (by unfold FU; omega)
theorem st_clear (h : Rel τx τm K N md ml d cw len tx) : ∃ a τx' τm', fX6_clear τx = (a, τx') ∧ fX7_clear τm = (a, τm') ∧ Rel τx' τm' K N md ml d cw 0 tx := by
  obtain ⟨⟨o1, o2, o3, o4, o5, o6, o7⟩, ⟨a1, a2, a3, a4, a5, a6, a7, a8⟩, hh, ⟨b1, b2, b3, b4, b5, b6, b7⟩, hm⟩ := h.zero
  unfold fX6_clear fX7_clear
  simp only [nm_i]
  rw [a6, b6]
  have fx : Fr [(14, 1)] [] τx (sI τx 14 1 0) := Fr.sI (by decide)
  have fm : Fr [(0, 6)] [] (sI τm 0 0 0) (sI (sI τm 0 0 0) 0 6 0) := Fr.sI (by decide)
  refine ⟨_, _, _, rfl, rfl, ⟨o1, o2, o3, o4, o5, o6, by omega⟩, ⟨?_, ?_, ?_, fun i hi => (a4 i hi).fr fx (fun j hm => by simp at hm; omega), a5.fr fx (by decide), ?_, fun j hj => absurd hj (by omega), fun s f hs hf => ?_⟩, hh.fr fx (by decide) (by decide) (by decide) (by decide) (by decide) (by decide), ⟨?_, ?_, ?_, fun i hi => (b4 i hi).fr fm (by decide), b5.fr fm (by decide), ?_, fun j hj => absurd hj (by omega)⟩, hm.fr fm (by decide) (by decide) (by decide) (by decide) (by decide) (by decide)⟩
  · rw [(fx.1 0 5 (by decide)).1, a1]
  · rw [(fx.1 0 6 (by decide)).1, a2]
  · rw [(fx.1 0 7 (by decide)).1, a3]
  · rw [tI_sI, if_pos ⟨rfl, rfl⟩]; rfl
  · rw [(fx.2 25 (by decide) s).2]; exact a8 s f hs hf
  · rw [(fm.1 0 1 (by decide)).1, b1]
  · rw [(fm.1 0 2 (by decide)).1, b2]
  · rw [(fm.1 0 3 (by decide)).1, b3]
  · rw [tI_sI, if_pos ⟨rfl, rfl⟩]; rfl
theorem st_about (h : Rel τx τm K N md ml d cw len tx) (p1 p2 : Int32) : ∃ τm', fX7_about τm p1 p2 = some (fX6_about τx p1 p2, τm') ∧ Rel τx τm' K N md ml d cw len tx := by
  obtain ⟨hsay, hqs⟩ := is_say p1
  have hz := h.zero
  have e0 : (0 : Int32).toInt = 0 := rfl
  have e5 : (5 : Int32).toInt = 5 := rfl
  unfold fX6_about fX7_about
  simp only [nm_i]
  cases hb1 : fX7_isSaying p1 with
  | false => rw [if_pos (hsay.mpr hb1), ifF]; exact ⟨_, rfl, hz⟩
  | true =>
    obtain ⟨i, hi, rfl⟩ := hqs hb1
    obtain ⟨m0, m1, m2, m3, m4, m5⟩ := hz.2.2.2.1.2.2.2.1 i hi
    obtain ⟨x0, x1, x2, x3, x5, x4⟩ := h.2.1.2.2.2.1 i hi
    rw [ifT, if_neg (show ¬ (nI i < 0 ∨ 10 ≤ (nI i).toNatClampNeg) from fun z => by rw [hsay.mp z] at hb1; cases hb1), in_iff, nI_clamp (by omega), x0, x1, x2, x3, x4, x5, x_bit]
    have idx : ∀ j, j < 6 → (6 : Int32) * nI i + nI j = nI (6 * i + j) := fun j _ => by rw [i6, pk_mul, nI_add]
    have inb : ∀ j, j < 6 → ¬ (nI (6 * i + j) < 0 ∨ 60 ≤ (nI (6 * i + j)).toNatClampNeg) := fun j hj => nI_in (show 6 * i + j < 60 by omega) (by decide)
    have cl6 : ∀ j, j < 6 → (nI (6 * i + j)).toNatClampNeg = 6 * i + j := fun j hj => nI_clamp (by omega)
    by_cases h0 : p2 = 0
    · subst h0
      have q0 : (6 : Int32) * nI i + 0 = nI (6 * i) := idx 0 (by omega)
      have q1 : ¬ (nI (6 * i) < 0 ∨ 60 ≤ (nI (6 * i)).toNatClampNeg) := inb 0 (by omega)
      have q2 : (nI (6 * i)).toNatClampNeg = 6 * i := cl6 0 (by omega)
      rw [if_pos rfl, decide_eq_true (by decide), ifT, q0, if_neg q1, q2]
      exact ⟨_, by rw [← m0], hz⟩
    rw [if_neg h0]
    by_cases h1 : p2 = 1
    · subst h1
      rw [if_pos rfl, decide_eq_true (by decide), ifT, show (1 : Int32) = nI 1 from rfl, idx 1 (by omega), if_neg (inb 1 (by omega)), cl6 1 (by omega)]
      exact ⟨_, by rw [← m1], hz⟩
    rw [if_neg h1]
    by_cases h2 : p2 = 2
    · subst h2
      rw [if_pos rfl, decide_eq_true (by decide), ifT, show (2 : Int32) = nI 2 from rfl, idx 2 (by omega), if_neg (inb 2 (by omega)), cl6 2 (by omega)]
      exact ⟨_, by rw [← m2], hz⟩
    rw [if_neg h2]
    by_cases h3 : p2 = 3
    · subst h3
      rw [if_pos rfl, decide_eq_true (by decide), ifT, show (3 : Int32) = nI 3 from rfl, idx 3 (by omega), if_neg (inb 3 (by omega)), cl6 3 (by omega)]
      exact ⟨_, by rw [← m3], hz⟩
    rw [if_neg h3]
    by_cases h4 : p2 = 4
    · subst h4
      rw [if_pos rfl, decide_eq_true (by decide), ifT, show (4 : Int32) = nI 4 from rfl, idx 4 (by omega), if_neg (inb 4 (by omega)), cl6 4 (by omega)]
      exact ⟨_, by rw [← m4], hz⟩
    rw [if_neg h4]
    by_cases h5 : p2 = 5
    · subst h5
      rw [if_pos rfl, decide_eq_true (by decide), ifT, show (5 : Int32) = nI 5 from rfl, idx 5 (by omega), if_neg (inb 5 (by omega)), cl6 5 (by omega)]
      exact ⟨_, by rw [← m5], hz⟩
    rw [if_neg h5, decide_eq_false, ifF]
    · exact ⟨_, rfl, hz⟩
    · rw [e0, e5]
      rintro ⟨y1, y2⟩
      obtain ⟨y3, y4⟩ := nat_of y1
      have : cl p2 = 0 ∨ cl p2 = 1 ∨ cl p2 = 2 ∨ cl p2 = 3 ∨ cl p2 = 4 ∨ cl p2 = 5 := by omega
      rcases this with z | z | z | z | z | z <;> rw [z] at y3
      · exact h0 y3
      · exact h1 y3
      · exact h2 y3
      · exact h3 y3
      · exact h4 y3
      · exact h5 y3
/-- which sayings are plain -/
def plB (d : Nat → Sd) (i : Nat) : Bool := decide (sdF (d i) ≠ -9)
theorem x_plain {τ : Tau} (hX : ∀ i, i < 10 → SX τ (i + 2) (d i)) : fX6_plainSayings τ = some (nI (bitsTo (plB d) 10)) := by
  have key : ∀ N i, i ≤ 10 → 10 - i < N → fX6_plainSayings_4 τ N (nI (bitsTo (plB d) i)) (nI i) = some (nI (bitsTo (plB d) 10)) := by
    intro N
    induction N with
    | zero => intro i _ h; omega
    | succ N ih =>
      intro i hi hN
      rw [fX6_plainSayings_4]
      by_cases hlt : i < 10
      · have e := ih (i + 1) (by omega) (by omega)
        rw [bitsTo] at e
        rw [i10, if_neg (nI_ge hlt (by omega)), if_neg (nI_in hlt (by decide)), nI_clamp (by omega), (hX i hlt).2.2.2.2.2]
        by_cases q : sdF (d i) = -9
        · rw [if_pos q, fX6_plainSayings_39, nm_i, i1, nI_add]
          rw [if_neg (by unfold plB; simp [q])] at e
          exact e
        · rw [if_neg q, nm_i, fX6_plainSayings_39, nm_i, nI_one (by omega), nI_or, i1, nI_add]
          rw [if_pos (by unfold plB; simp [q])] at e
          exact e
      · have : i = 10 := by omega
        subst this
        rw [i10, if_pos (nI_le (Nat.le_refl _) (by omega))]
  unfold fX6_plainSayings
  rw [i0]
  exact key FU 0 (by omega) (by unfold FU; omega)
theorem st_count (h : Rel τx τm K N md ml d cw len tx) (p1 : Int32) : ∃ a τm', fX6_count τx p1 = some a ∧ fX7_count τm p1 = some (a, τm') ∧ Rel τx τm' K N md ml d cw len tx := by
  have hz := h.zero
  have hK := h.1.2.1
  obtain ⟨b1, b2, b3, b4, b5, b6, b7⟩ := id hz.2.2.2.1
  obtain ⟨a1, a2, a3, a4, a5, a6, a7, a8⟩ := id h.2.1
  have key : ∀ M i, i ≤ 10 → 10 - i < M → fX7_count_9 p1 M (sI τm 0 0 0) (nI (bitsTo (plB d) i)) (nI i) = fX7_count_9 p1 1 (sI τm 0 0 0) (nI (bitsTo (plB d) 10)) (nI 10) := by
    intro M
    induction M with
    | zero => intro i _ h; omega
    | succ M ih =>
      intro i hi hN
      by_cases hlt : i < 10
      · have e := ih (i + 1) (by omega) (by omega)
        rw [bitsTo] at e
        rw [fX7_count_9, i10, if_neg (nI_ge hlt (by omega)), show (6 : Int32) * nI i + (5 : Int32) = nI (6 * i + 5) by rw [i6, i5, pk_mul, nI_add], if_neg (nI_in (show 6 * i + 5 < 60 by omega) (by decide)), nI_clamp (by omega), (b4 i hlt).2.2.2.2.2]
        by_cases q : sdF (d i) = -9
        · rw [if_pos q, fX7_count_39, nm_i, nm_i, i0, nI_or, Nat.or_zero, i1, nI_add]
          rw [if_neg (by unfold plB; simp [q])] at e
          exact e
        · rw [if_neg q, fX7_count_39, nm_i, nm_i, nI_one (by omega), nI_or, i1, nI_add]
          rw [if_pos (by unfold plB; simp [q])] at e
          exact e
      · have : i = 10 := by omega
        subst this
        rw [fX7_count_9, fX7_count_9, i10, if_pos (nI_le (Nat.le_refl _) (by omega)), if_pos (nI_le (Nat.le_refl _) (by omega))]
  have k0 : fX7_count_9 p1 FU (sI τm 0 0 0) 0 0 = fX7_count_9 p1 1 (sI τm 0 0 0) (nI (bitsTo (plB d) 10)) (nI 10) := key FU 0 (by omega) (by unfold FU; omega)
  unfold fX6_count fX7_count
  rw [nm_i, k0, fX7_count_9, i10, if_pos (nI_le (Nat.le_refl _) (by omega)), b1, b2, b6, row_allM b1 hK b5, a1, a2, a6, row_all a5, x_plain a4, Option.bind_some, Option.bind_some, Option.bind_some]
  by_cases h0 : p1 = 0
  · rw [if_pos h0, if_pos h0]; exact ⟨_, _, rfl, rfl, hz⟩
  rw [if_neg h0, if_neg h0]
  by_cases h1 : p1 = 1
  · rw [if_pos h1, if_pos h1]; exact ⟨_, _, rfl, rfl, hz⟩
  rw [if_neg h1, if_neg h1]
  by_cases h2 : p1 = 2
  · rw [if_pos h2, if_pos h2]; exact ⟨_, _, rfl, rfl, hz⟩
  rw [if_neg h2, if_neg h2]
  by_cases h3 : p1 = 3
  · rw [if_pos h3, if_pos h3]; exact ⟨_, _, rfl, rfl, hz⟩
  rw [if_neg h3, if_neg h3]
  by_cases h4 : p1 = 4
  · rw [if_pos h4, if_pos h4]; exact ⟨_, _, rfl, rfl, hz⟩
  rw [if_neg h4, if_neg h4]; exact ⟨_, _, rfl, rfl, hz⟩
end ST5
