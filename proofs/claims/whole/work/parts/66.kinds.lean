/-! how many kinds: everything begins anew -/
section KI
variable {τx τm : Tau} {K N md ml len : Nat} {d : Nat → Sd} {cw : Nat → Nat} {tx : Nat → Nat}
theorem soF_mem {i j : Nat} (hi : i < 10) (hj : j < 6) : (i + 2, j) ∈ soF := by
  rw [List.mem_flatMap]
  refine ⟨i, List.mem_range.mpr hi, ?_⟩
  have : j = 0 ∨ j = 1 ∨ j = 2 ∨ j = 3 ∨ j = 4 ∨ j = 5 := by omega
  rcases this with rfl | rfl | rfl | rfl | rfl | rfl <;> simp
theorem x_startOver {τ0 : Tau} {st S n : Nat} {mk : Nat → Nat} (hK1 : 1 ≤ K) (hK : K ≤ 4) (hN : N ≤ 6) (h5 : tI τ0 0 5 = nI K) (h6 : tI τ0 0 6 = nI N) (h : HInv τ0 S n d st ml mk) :
    ∃ τ', fX6_startOver τ0 = some τ' ∧ Hp τ' K N ml (fun _ => fstD K) ∧ (∀ i, i < 10 → SX τ' (i + 2) (fstD K)) ∧ RowIs τ' K 12 (fun _ => 0) ∧ Fr (soF ++ [(17, 6), (17, 7), (17, 8), (17, 9)]) [12] τ0 τ' := by
  have world : ∀ M i τ, i ≤ 16 → 16 - i < M → Fr soF [12] τ0 τ → (∀ j, j < 10 → SX τ (j + 2) (fstD K)) → (∀ s, s < i → tA τ 12 s = nI 0) →
      ∃ τ', fX6_startOver_38 M τ (nI i) = some τ' ∧ Hp τ' K N ml (fun _ => fstD K) ∧ (∀ i, i < 10 → SX τ' (i + 2) (fstD K)) ∧ RowIs τ' K 12 (fun _ => 0) ∧ Fr (soF ++ [(17, 6), (17, 7), (17, 8), (17, 9)]) [12] τ0 τ' := by
    intro M
    induction M with
    | zero => intro i _ _ h; omega
    | succ M ih =>
      intro i τ hi hM hF hX h0
      rw [fX6_startOver_38]
      by_cases hlt : i < 16
      · rw [i16, if_neg (nI_ge hlt (by omega)), if_neg (nI_in hlt (by decide)), nm_i, nm_i, nI_clamp (by omega), i1, nI_add]
        have f1 : Fr [] [12] τ (sA τ 12 i 0) := Fr.sA (by decide)
        refine ih (i + 1) _ (by omega) (by omega) (hF.tr (f1.wk (by simp) (by decide))) (fun j hj => (hX j hj).fr f1 (by simp)) (fun s hs => ?_)
        rw [tA_sA]
        by_cases e : s = i
        · rw [if_pos ⟨rfl, e⟩]; rfl
        · rw [if_neg (fun z => e z.2)]; exact h0 s (by omega)
      · have : i = 16 := by omega
        subst this
        have sc : fX6_sortCount τ = nI (2 ^ K) := x_sorts (by rw [(hF.1 0 5 (by decide)).1, h5]) hK
        rw [i16, if_pos (nI_le (Nat.le_refl _) (by omega)), nm_i, sc, (hF.1 0 6 (by decide)).1, h6]
        obtain ⟨_, _, _, _, a5, a6, _, _, a9, a10, _⟩ := id h
        obtain ⟨τ', es, hh', fs⟩ := x_shape (τ := τ) (d' := fun _ => fstD K) (N := N) (mk := mk) (ml := ml) hK hN (by rw [(hF.1 26 0 (by decide)).1, a5]) (by rw [(hF.2 21 (by decide) 0).1, a6]) a9 (fun w hw => by rw [(hF.2 26 (by decide) w).1]; exact a10 w hw) hX
        rw [es, Option.bind_some]
        refine ⟨τ', rfl, hh', fun j hj => (hX j hj).fr fs (fun q hm => by simp at hm; omega), ⟨fun s hs => by rw [(fs.2 12 (by decide) s).1]; exact h0 s hs, fun s _ => rfl, by rw [sumTo_zero (fun i _ => rfl)]; omega⟩, (hF.wk (fun q hq => List.mem_append_left _ hq) (by decide)).tr (fs.wk (fun q hq => List.mem_append_right _ hq) (by decide))⟩
  have key : ∀ M i τ, i ≤ 10 → 10 - i < M → Fr soF [12] τ0 τ → (∀ j, j < i → SX τ (j + 2) (fstD K)) →
      ∃ τ', fX6_startOver_2 M τ (nI i) = some τ' ∧ Hp τ' K N ml (fun _ => fstD K) ∧ (∀ i, i < 10 → SX τ' (i + 2) (fstD K)) ∧ RowIs τ' K 12 (fun _ => 0) ∧ Fr (soF ++ [(17, 6), (17, 7), (17, 8), (17, 9)]) [12] τ0 τ' := by
    intro M
    induction M with
    | zero => intro i _ _ h; omega
    | succ M ih =>
      intro i τ hi hM hF hX
      rw [fX6_startOver_2]
      by_cases hlt : i < 10
      · obtain ⟨τ1, e1, s1, f1⟩ := x_becomeFirst (τ := τ) (q := i + 2) hK
        rw [i10, if_neg (nI_ge hlt (by omega)), if_neg (nI_in hlt (by decide)), nI_clamp (by omega), (hF.1 0 5 (by decide)).1, h5, e1, Option.bind_some, fX6_startOver_30, nm_i, i1, nI_add]
        have f2 : Fr soF [12] τ τ1 := f1.wk (fun q hq => by
          simp only [List.mem_cons, List.not_mem_nil, or_false] at hq
          rcases hq with rfl | rfl | rfl | rfl | rfl | rfl <;> exact soF_mem hlt (by omega)) (by simp)
        refine ih (i + 1) τ1 (by omega) (by omega) (hF.tr f2) (fun j hj => ?_)
        by_cases e : j = i
        · rw [e]; exact s1
        · exact (hX j (by omega)).fr f1 (fun q hm => by simp at hm; omega)
      · have : i = 10 := by omega
        subst this
        rw [i10, if_pos (nI_le (Nat.le_refl _) (by omega)), i0]
        exact world FU 0 τ (by omega) (by unfold FU; omega) hF hX (fun s hs => absurd hs (by omega))
  unfold fX6_startOver
  rw [i0]
  exact key FU 0 τ0 (by omega) (by unfold FU; omega) Fr.rf (fun j hj => absurd hj (by omega))
theorem m_begins {τ0 : Tau} (hK : K ≤ 4) (hk : tI τ0 0 1 = nI K) :
    ∃ τ', fX7_begins τ0 = some τ' ∧ tI τ' 0 17 = 0 ∧ (∀ i, i < 10 → SM τ' i (fstD K)) ∧ RowIs τ' K 1 (fun _ => 0) ∧ Fr [(0, 17)] [1, 3] τ0 τ' := by
  have world : ∀ M i τ, i ≤ 16 → 16 - i < M → Fr [] [1, 3] τ0 τ → (∀ j, j < 10 → SM τ j (fstD K)) → (∀ s, s < i → tA τ 1 s = nI 0) →
      ∃ τ', fX7_begins_94 M τ (nI i) = some τ' ∧ tI τ' 0 17 = 0 ∧ (∀ i, i < 10 → SM τ' i (fstD K)) ∧ RowIs τ' K 1 (fun _ => 0) ∧ Fr [(0, 17)] [1, 3] τ0 τ' := by
    intro M
    induction M with
    | zero => intro i _ _ h; omega
    | succ M ih =>
      intro i τ hi hM hF hX h0
      rw [fX7_begins_94]
      by_cases hlt : i < 16
      · rw [i16, if_neg (nI_ge hlt (by omega)), if_neg (nI_in hlt (by decide)), nm_i, nm_i, nI_clamp (by omega), i1, nI_add]
        have f1 : Fr [] [1] τ (sA τ 1 i 0) := Fr.sA (by decide)
        refine ih (i + 1) _ (by omega) (by omega) (hF.tr (f1.wk (by simp) (by decide))) (fun j hj => (hX j hj).fr f1 (by decide)) (fun s hs => ?_)
        rw [tA_sA]
        by_cases e : s = i
        · rw [if_pos ⟨rfl, e⟩]; rfl
        · rw [if_neg (fun z => e z.2)]; exact h0 s (by omega)
      · have : i = 16 := by omega
        subst this
        rw [i16, if_pos (nI_le (Nat.le_refl _) (by omega)), nm_i]
        have f1 : Fr [(0, 17)] [] τ (sI τ 0 17 0) := Fr.sI (by decide)
        refine ⟨_, rfl, by rw [tI_sI, if_pos ⟨rfl, rfl⟩], fun j hj => (hX j hj).fr f1 (by decide), ⟨fun s hs => by rw [(f1.2 1 (by decide) s).1]; exact h0 s hs, fun s _ => rfl, by rw [sumTo_zero (fun i _ => rfl)]; omega⟩, (hF.wk (by decide) (by decide)).tr (f1.wk (by decide) (by decide))⟩
  have key : ∀ M i τ, i ≤ 10 → 10 - i < M → Fr [] [1, 3] τ0 τ → (∀ j, j < i → SM τ j (fstD K)) →
      ∃ τ', fX7_begins_2 M τ (nI i) = some τ' ∧ tI τ' 0 17 = 0 ∧ (∀ i, i < 10 → SM τ' i (fstD K)) ∧ RowIs τ' K 1 (fun _ => 0) ∧ Fr [(0, 17)] [1, 3] τ0 τ' := by
    intro M
    induction M with
    | zero => intro i _ _ h; omega
    | succ M ih =>
      intro i τ hi hM hF hX
      rw [fX7_begins_2]
      by_cases hlt : i < 10
      · have gk : tI τ 0 1 = nI K := by rw [(hF.1 0 1 (by decide)).1, hk]
        have kM : ∀ τ', tI τ' 0 1 = nI K → fX7_of τ' 0 = some (nI (k0 K)) := fun τ' h => kindM (k := 0) h hK (by omega)
        have e0 : (6 : Int32) * nI i = nI (6 * i) := by rw [i6, pk_mul]
        have ej : ∀ j, nI (6 * i) + nI j = nI (6 * i + j) := fun j => nI_add _ _
        have ij : ∀ j, j < 6 → ¬ (nI (6 * i + j) < 0 ∨ 60 ≤ (nI (6 * i + j)).toNatClampNeg) := fun j hj => nI_in (show 6 * i + j < 60 by omega) (by decide)
        have i00 : ¬ (nI (6 * i) < 0 ∨ 60 ≤ (nI (6 * i)).toNatClampNeg) := ij 0 (by omega)
        have cj : ∀ j, j < 6 → (nI (6 * i + j)).toNatClampNeg = 6 * i + j := fun j hj => nI_clamp (by omega)
        have c00 : (nI (6 * i)).toNatClampNeg = 6 * i := cj 0 (by omega)
        rw [i10, if_neg (nI_ge hlt (by omega)), e0, show nI (6 * i) + (1 : Int32) = nI (6 * i + 1) from ej 1, show nI (6 * i) + (2 : Int32) = nI (6 * i + 2) from ej 2, show nI (6 * i) + (3 : Int32) = nI (6 * i + 3) from ej 3, show nI (6 * i) + (4 : Int32) = nI (6 * i + 4) from ej 4, show nI (6 * i) + (5 : Int32) = nI (6 * i + 5) from ej 5, if_neg i00, nm_i, kM _ (by rw [tI_sA]; exact gk), Option.bind_some, if_neg (ij 1 (by omega)), nm_i, kM _ (by rw [tI_sA, tI_sA]; exact gk), Option.bind_some, if_neg (ij 2 (by omega)), nm_i, if_neg (ij 3 (by omega)), nm_i, if_neg (ij 4 (by omega)), nm_i, if_neg (ij 5 (by omega)), nm_i, nm_i, c00, cj 1 (by omega), cj 2 (by omega), cj 3 (by omega), cj 4 (by omega), cj 5 (by omega), show nI i + 1 = nI (i + 1) from nI_add i 1]
        have fA : ∀ (τ : Tau) (j : Nat) (v : Int32), Fr [] [1, 3] τ (sA τ 3 j v) := fun τ j v => Fr.sA (by decide)
        refine ih (i + 1) _ (by omega) (by omega) ((((((hF.tr (fA _ _ _)).tr (fA _ _ _)).tr (fA _ _ _)).tr (fA _ _ _)).tr (fA _ _ _)).tr (fA _ _ _)) (fun j hj => ?_)
        by_cases e : j = i
        · subst e
          refine ⟨?_, ?_, ?_, ?_, ?_, ?_⟩
          · simp [tA_sA, fstD, sdW]; rfl
          · simp [tA_sA, fstD, sdX]
          · simp [tA_sA, fstD, sdY]
          · simp [tA_sA, fstD, sdN]; rfl
          · simp [tA_sA, fstD, sdT, bI]
          · simp [tA_sA, fstD, sdF]
        · obtain ⟨s0, s1, s2, s3, s4, s5⟩ := hX j (by omega)
          refine ⟨?_, ?_, ?_, ?_, ?_, ?_⟩ <;> (rw [tA_sA, if_neg (by omega), tA_sA, if_neg (by omega), tA_sA, if_neg (by omega), tA_sA, if_neg (by omega), tA_sA, if_neg (by omega), tA_sA, if_neg (by omega)]; assumption)
      · have : i = 10 := by omega
        subst this
        rw [i10, if_pos (nI_le (Nat.le_refl _) (by omega)), i0]
        exact world FU 0 τ (by omega) (by unfold FU; omega) hF hX (fun s hs => absurd hs (by omega))
  unfold fX7_begins
  rw [i0]
  exact key FU 0 τ0 (by omega) (by unfold FU; omega) Fr.rf (fun j hj => absurd hj (by omega))
end KI

section KJ
variable {τx τm : Tau} {K N md ml len : Nat} {d : Nat → Sd} {cw : Nat → Nat} {tx : Nat → Nat}
theorem st_kinds (h : Rel τx τm K N md ml d cw len tx) (p1 : Int32) : ∃ a τx' τm' K' d' cw', fX6_kinds τx p1 = some (a, τx') ∧ fX7_kinds τm p1 = some (a, τm') ∧ Rel τx' τm' K' N md ml d' cw' len tx := by
  have hz := h.zero
  have e1 : (1 : Int32).toInt = 1 := rfl
  have e4 : (4 : Int32).toInt = 4 := rfl
  unfold fX6_kinds fX7_kinds
  simp only [nm_i]
  rw [in_iff]
  by_cases h1 : p1 < 1
  · have := i32_lt.mp h1
    rw [if_pos h1, decide_eq_false (by omega), ifF]
    exact ⟨_, _, _, _, _, _, rfl, rfl, hz⟩
  · have h1' : ¬ p1.toInt < (1 : Int32).toInt := fun z => h1 (i32_lt.mpr z)
    rw [if_neg h1]
    by_cases h2 : p1 ≤ 4
    · have h2' := i32_le.mp h2
      obtain ⟨ep, tp⟩ := nat_of (p := p1) (by omega)
      have hv : 1 ≤ cl p1 ∧ cl p1 ≤ 4 := by omega
      generalize cl p1 = v at *
      subst ep
      rw [if_pos h2, decide_eq_true (by omega), ifT]
      obtain ⟨⟨o1, o2, o3, o4, o5, o6, o7⟩, ⟨a1, a2, a3, a4, a5, a6, a7, a8⟩, ⟨st, mk, hI, _⟩, ⟨b1, b2, b3, b4, b5, b6, b7⟩, hm⟩ := hz
      have fx : Fr [(0, 5)] [] τx (sI τx 0 5 (nI v)) := Fr.sI (by decide)
      have fm : Fr [(0, 1)] [] (sI τm 0 0 0) (sI (sI τm 0 0 0) 0 1 (nI v)) := Fr.sI (by decide)
      obtain ⟨τ', es, hh', hX', hr', fs⟩ := x_startOver (τ0 := sI τx 0 5 (nI v)) (K := v) (N := N) (d := d) hv.1 hv.2 o4 (by rw [tI_sI, if_pos ⟨rfl, rfl⟩]) (by rw [(fx.1 0 6 (by decide)).1, a2]) (hI.fr fx (by decide) (by decide) (by decide))
      obtain ⟨τn, en, l17, hS', hr2, fn⟩ := m_begins (τ0 := sI (sI τm 0 0 0) 0 1 (nI v)) (K := v) hv.2 (by rw [tI_sI, if_pos ⟨rfl, rfl⟩])
      rw [es, en, Option.bind_some, Option.bind_some, a1, b1]
      refine ⟨_, _, _, v, fun _ => fstD v, fun _ => 0, rfl, rfl, ⟨hv.1, hv.2, o3, o4, o5, fun i _ => fstD_ok hv.1, o7⟩, ⟨?_, ?_, ?_, hX', hr', ?_, fun j hj => ?_, fun s f hs hf => ?_⟩, hh', ⟨?_, ?_, ?_, hS', hr2, ?_, fun j hj => ?_⟩, Or.inl l17⟩
      · rw [(fs.1 0 5 (by decide)).1, tI_sI, if_pos ⟨rfl, rfl⟩]
      · rw [(fs.1 0 6 (by decide)).1, (fx.1 0 6 (by decide)).1, a2]
      · rw [(fs.1 0 7 (by decide)).1, (fx.1 0 7 (by decide)).1, a3]
      · rw [(fs.1 14 1 (by decide)).1, (fx.1 14 1 (by decide)).1, a6]
      · rw [(fs.2 15 (by decide) j).1, (fx.2 15 (by decide) j).1]; exact a7 j hj
      · rw [(fs.2 25 (by decide) s).2, (fx.2 25 (by decide) s).2]; exact a8 s f hs hf
      · rw [(fn.1 0 1 (by decide)).1, tI_sI, if_pos ⟨rfl, rfl⟩]
      · rw [(fn.1 0 2 (by decide)).1, (fm.1 0 2 (by decide)).1, b2]
      · rw [(fn.1 0 3 (by decide)).1, (fm.1 0 3 (by decide)).1, b3]
      · rw [(fn.1 0 6 (by decide)).1, (fm.1 0 6 (by decide)).1, b6]
      · rw [(fn.2 2 (by decide) j).1, (fm.2 2 (by decide) j).1]; exact b7 j hj
    · have h2' : ¬ p1.toInt ≤ (4 : Int32).toInt := fun z => h2 (i32_le.mpr z)
      rw [if_neg h2, decide_eq_false (by omega), ifF]
      exact ⟨_, _, _, _, _, _, rfl, rfl, hz⟩
end KJ
