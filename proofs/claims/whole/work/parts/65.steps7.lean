/-! kinds and most: everything begins anew, or the worlds do -/
theorem evy : ∀ K, K < 5 → fX6_everySort (nI K) = nI (2 ^ (2 ^ K) - 1) := by decide +kernel
theorem kindX : ∀ k, k < 4 → ∀ K, K < 5 → fX6_sortsOfKind (nI k) (nI K) = some (nI (bitsTo (fun s => s.testBit k) (2 ^ K))) := by decide +kernel
theorem kindM {τ : Tau} {K k : Nat} (hk : tI τ 0 1 = nI K) (hK : K ≤ 4) (hk4 : k < 4) : fX7_of τ (nI k) = some (nI (bitsTo (fun s => s.testBit k) (2 ^ K))) := by
  have hS := pow2_16 hK
  have key : ∀ N i, i ≤ 2 ^ K → 2 ^ K - i < N → fX7_of_4 τ (nI k) N (nI (bitsTo (fun s => s.testBit k) i)) (nI i) = some (nI (bitsTo (fun s => s.testBit k) (2 ^ K))) := by
    intro N
    induction N with
    | zero => intro i _ h; omega
    | succ N ih =>
      intro i hi hN
      rw [fX7_of_4, nm_i, m_sorts hk hK]
      by_cases hlt : i < 2 ^ K
      · have e := ih (i + 1) (by omega) (by omega)
        rw [bitsTo] at e
        have hp : 2 ^ i < 2 ^ 17 := Nat.pow_lt_pow_right (by omega) (by omega)
        rw [if_neg (nI_ge hlt (by omega)), nm_i, nm_i, nI_bit (by omega) (by omega)]
        cases hb : i.testBit k with
        | true =>
          rw [if_pos rfl, nI_shl (by omega) (by omega), Nat.one_mul, nI_or, i1, nI_add]
          rw [if_pos hb] at e
          exact e
        | false =>
          rw [if_neg (by decide), nI_shl (by omega) (by omega), Nat.zero_mul, nI_or, Nat.or_zero, i1, nI_add]
          rw [if_neg (by rw [hb]; decide)] at e
          exact e
      · have : i = 2 ^ K := by omega
        subst this
        rw [if_pos (nI_le (Nat.le_refl _) (by omega))]
  unfold fX7_of
  rw [i0]
  exact key FU 0 (Nat.zero_le _) (by unfold FU; omega)
def k0 (K : Nat) : Nat := bitsTo (fun s => s.testBit 0) (2 ^ K)
def fstD (K : Nat) : Sd := (0, 0, k0 K, k0 K, false, 0)
theorem fstD_ok {K : Nat} (h1 : 1 ≤ K) : Sok K (fstD K) := by
  refine ⟨by show 0 < 8; omega, Nat.zero_le _, bitsTo_lt _ _, bitsTo_lt _ _, Or.inr ⟨0, by omega, rfl, ?_⟩⟩
  omega
theorem x_becomeFirst {τ : Tau} {q K : Nat} (hK : K ≤ 4) : ∃ τ', fX3_becomeFirst q τ (nI K) = some τ' ∧ SX τ' q (fstD K) ∧ Fr [(q, 0), (q, 1), (q, 2), (q, 3), (q, 4), (q, 5)] [] τ τ' := by
  unfold fX3_becomeFirst
  rw [show (0 : Int32) = nI 0 from rfl, kindX 0 (by omega) K (by omega)]
  simp only [nm_i, Option.bind_some]
  refine ⟨_, rfl, ⟨?_, ?_, ?_, ?_, ?_, ?_⟩, ?_⟩
  · simp [tI_sI, fstD, sdW]
  · simp [tI_sI, fstD, sdN]
  · simp [tI_sI, fstD, sdX, k0]
  · simp [tI_sI, fstD, sdY, k0]
  · simp [tI_sI, fstD, sdT, bI]
    rfl
  · simp [tI_sI, fstD, sdF]
    decide
  · exact (((((Fr.sI (by simp)).tr (Fr.sI (by simp))).tr (Fr.sI (by simp))).tr (Fr.sI (by simp))).tr (Fr.sI (by simp))).tr (Fr.sI (by simp))
section SH
variable {K N ml : Nat} {d : Nat → Sd}
/-- the walk gets its shape: all marks are stale -/
theorem x_shape {τ : Tau} {ml : Nat} {mk : Nat → Nat} {d' : Nat → Sd} (hK : K ≤ 4) (hN : N ≤ 6) (a5 : tI τ 26 0 = nI ml) (a6 : tA τ 21 0 = nI 0) (a9 : ml < 100000) (a10 : ∀ w, w < ml → tA τ 26 w = nI (mk w) ∧ mk w < 1024) (hX : ∀ i, i < 10 → SX τ (i + 2) (d' i)) :
    ∃ τ', fX0_shape τ (nI (2 ^ K)) (nI N) = some τ' ∧ Hp τ' K N ml d' ∧ Fr [(17, 6), (17, 7), (17, 8), (17, 9)] [] τ τ' := by
  have hS := pow2_16 hK
  unfold fX0_shape
  simp only [nm_i]
  have e1 : tI (sI (sI τ 17 6 (nI (2 ^ K))) 17 7 (nI N)) 17 6 = nI (2 ^ K) := by simp [tI_sI]
  have e2 : tI (sI (sI τ 17 6 (nI (2 ^ K))) 17 7 (nI N)) 17 7 = nI N := by simp [tI_sI]
  rw [e1, e2, nI_add, choose_ok (2 ^ K) (by omega) N (by omega), Option.bind_some]
  have f : Fr [(17, 6), (17, 7), (17, 8), (17, 9)] [] τ (sI (sI (sI (sI τ 17 6 (nI (2 ^ K))) 17 7 (nI N)) 17 8 (nI (rows (2 ^ K + 1) N))) 17 9 1023) := (((Fr.sI (by decide)).tr (Fr.sI (by decide))).tr (Fr.sI (by decide))).tr (Fr.sI (by decide))
  refine ⟨_, rfl, ⟨1023, mk, ⟨?_, ?_, ?_, ?_, ?_, ?_, fun i hi => (hX i hi).fr f (fun j hm => by simp at hm; omega), by omega, a9, fun w hw => ?_, fun i hi hb => ?_⟩, fun z => absurd z (by decide)⟩, f⟩
  · simp [tI_sI]
  · simp [tI_sI]
  · simp [tI_sI, tot]
  · simp [tI_sI]; rfl
  · rw [(f.1 26 0 (by decide)).1, a5]
  · rw [(f.2 21 (by decide) 0).1, a6]
  · rw [(f.2 26 (by decide) w).1]; exact a10 w hw
  · exfalso
    have : (1023 : Nat).testBit i = true := by
      have e : (1023 : Nat) = 2 ^ 10 - 1 := rfl
      rw [e, Nat.testBit_two_pow_sub_one]
      exact decide_eq_true hi
    rw [this] at hb; cases hb
end SH
section SK
variable {τx τm : Tau} {K N md ml len : Nat} {d : Nat → Sd} {cw : Nat → Nat} {tx : Nat → Nat}
abbrev soF : List (Nat × Nat) := (List.range 10).flatMap (fun i => [(i + 2, 0), (i + 2, 1), (i + 2, 2), (i + 2, 3), (i + 2, 4), (i + 2, 5)])
theorem st_most (h : Rel τx τm K N md ml d cw len tx) (p1 : Int32) : ∃ a τx' τm' N', fX6_most τx p1 = some (a, τx') ∧ fX7_most τm p1 = some (a, τm') ∧ Rel τx' τm' K N' md ml d cw len tx := by
  have hz := h.zero
  have hK := h.1.2.1
  have e1 : (1 : Int32).toInt = 1 := rfl
  have e6 : (6 : Int32).toInt = 6 := rfl
  unfold fX6_most fX7_most
  simp only [nm_i]
  rw [in_iff]
  by_cases h1 : p1 < 1
  · have := i32_lt.mp h1
    rw [if_pos h1, decide_eq_false (by omega), ifF]
    exact ⟨_, _, _, _, rfl, rfl, hz⟩
  · have h1' : ¬ p1.toInt < (1 : Int32).toInt := fun z => h1 (i32_lt.mpr z)
    rw [if_neg h1]
    by_cases h2 : p1 ≤ 6
    · have h2' := i32_le.mp h2
      obtain ⟨ep, tp⟩ := nat_of (p := p1) (by omega)
      have hv : 1 ≤ cl p1 ∧ cl p1 ≤ 6 := by omega
      generalize cl p1 = v at *
      subst ep
      rw [if_pos h2, decide_eq_true (by omega), ifT]
      obtain ⟨⟨o1, o2, o3, o4, o5, o6, o7⟩, ⟨a1, a2, a3, a4, a5, a6, a7, a8⟩, ⟨st, mk, hI, _⟩, ⟨b1, b2, b3, b4, b5, b6, b7⟩, hm⟩ := hz
      have fx : Fr [(0, 6)] [] τx (sI τx 0 6 (nI v)) := Fr.sI (by decide)
      have sc : fX6_sortCount (sI τx 0 6 (nI v)) = nI (2 ^ K) := x_sorts (by rw [(fx.1 0 5 (by decide)).1, a1]) hK
      have n6 : tI (sI τx 0 6 (nI v)) 0 6 = nI v := by rw [tI_sI, if_pos ⟨rfl, rfl⟩]
      obtain ⟨_, _, _, _, j5, j6, _, _, j9, j10, _⟩ := hI.fr fx (by decide) (by decide) (by decide)
      obtain ⟨τ', es, hh', fs⟩ := x_shape (τ := sI τx 0 6 (nI v)) (d' := d) (N := v) hK hv.2 j5 j6 j9 j10 (fun i hi => (a4 i hi).fr fx (fun j hm => by simp at hm))
      rw [sc, n6, es, Option.bind_some, a2, b2]
      have fx2 : Fr [(0, 6), (17, 6), (17, 7), (17, 8), (17, 9)] [] τx τ' := (fx.wk (by decide) (by decide)).tr (fs.wk (by decide) (by decide))
      have fm : Fr [(0, 2), (0, 17)] [] (sI τm 0 0 0) (sI (sI (sI τm 0 0 0) 0 2 (nI v)) 0 17 0) := (Fr.sI (by decide)).tr (Fr.sI (by decide))
      refine ⟨_, _, _, v, rfl, rfl, ⟨o1, o2, hv.1, hv.2, o5, o6, o7⟩, ⟨?_, ?_, ?_, fun i hi => (a4 i hi).fr fx2 (fun j hm => by simp at hm; omega), a5.fr fx2 (by decide), ?_, fun j hj => ?_, fun s f hs hf => ?_⟩, hh', ⟨?_, ?_, ?_, fun i hi => (b4 i hi).fr fm (by decide), b5.fr fm (by decide), ?_, fun j hj => ?_⟩, Or.inl (by rw [tI_sI, if_pos ⟨rfl, rfl⟩])⟩
      · rw [(fx2.1 0 5 (by decide)).1, a1]
      · rw [(fs.1 0 6 (by decide)).1, n6]
      · rw [(fx2.1 0 7 (by decide)).1, a3]
      · rw [(fx2.1 14 1 (by decide)).1, a6]
      · rw [(fx2.2 15 (by decide) j).1]; exact a7 j hj
      · rw [(fx2.2 25 (by decide) s).2]; exact a8 s f hs hf
      · rw [(fm.1 0 1 (by decide)).1, b1]
      · rw [tI_sI, if_neg (by omega), tI_sI, if_pos ⟨rfl, rfl⟩]
      · rw [(fm.1 0 3 (by decide)).1, b3]
      · rw [(fm.1 0 6 (by decide)).1, b6]
      · rw [(fm.2 2 (by decide) j).1]; exact b7 j hj
    · have h2' : ¬ p1.toInt ≤ (6 : Int32).toInt := fun z => h2 (i32_le.mpr z)
      rw [if_neg h2, decide_eq_false (by omega), ifF]
      exact ⟨_, _, _, _, rfl, rfl, hz⟩
end SK
