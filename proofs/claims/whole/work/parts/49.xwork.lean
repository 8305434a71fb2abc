/-! the class's side works its moods out -/
theorem l_sh : ∀ f, f < 64 → ((nI f).toInt64.toUInt64 &&& Int64.toUInt64 63).toBitVec % 64 = BitVec.ofNat 64 f := by decide +kernel
theorem lb_ushr (L : Int64) {f : Nat} (hf : f < 64) (i : Nat) : lb ((L.toUInt64 >>> ((nI f).toInt64.toUInt64 &&& Int64.toUInt64 63)).toInt64) i = lb L (f + i) := by
  unfold lb
  show ((L.toUInt64 >>> ((nI f).toInt64.toUInt64 &&& Int64.toUInt64 63)).toBitVec).getLsbD i = _
  rw [UInt64.toBitVec_shiftRight, l_sh f hf, BitVec.ushiftRight_eq', BitVec.getLsbD_ushiftRight, BitVec.toNat_ofNat, Nat.mod_eq_of_lt (by omega)]
  rfl
theorem lb_1 (f : Nat) : lb 1 f = decide (f = 0) := by
  unfold lb
  rw [show (1 : Int64).toBitVec = BitVec.ofNat 64 1 by decide, BitVec.getLsbD_ofNat]
  by_cases h : f = 0
  · subst h; rfl
  · have : Nat.testBit 1 f = false := by
      cases f with
      | zero => exact absurd rfl h
      | succ f => simp [Nat.testBit_succ]
    rw [this]; simp [h]
theorem l_and1 (L : Int64) : L &&& 1 = 0 ↔ lb L 0 = false := by
  constructor
  · intro h
    have : lb (L &&& 1) 0 = false := by rw [h, lb_0]
    rw [lb_and, lb_1] at this
    simpa using this
  · intro h
    apply lb_ext
    intro f _
    rw [lb_and, lb_1, lb_0]
    by_cases e : f = 0
    · rw [e, h]; rfl
    · simp [e]
theorem x_isTold {τ : Tau} {f : Nat} (hf : f < 64) : fX1_isTold τ (nI f) = lb (tL τ 27 1) f := by
  unfold fX1_isTold
  have e := lb_ushr (tL τ 27 1) hf 0
  rw [Nat.add_zero] at e
  cases h : lb (tL τ 27 1) f with
  | false => rw [if_pos ((lg_cmp_eq _ _).mpr ((l_and1 _).mpr (e.trans h)))]
  | true =>
    rw [if_neg]
    intro z
    have := (l_and1 _).mp ((lg_cmp_eq _ _).mp z)
    rw [e, h] at this
    cases this
section XT
variable {K md : Nat}
theorem x_isSame {τ : Tau} {f : Nat} (h4 : tI τ 27 4 = nI K) (hK : K ≤ 4) (hf : f < 64) : fX1_isSame τ (nI f) = (decide (f / 16 = 0) && okF K f && decide (f / 4 % 4 = f % 4)) := by
  unfold fX1_isSame
  have h1 : f / 4 % 4 < 4 := Nat.mod_lt _ (by omega)
  have h2 : f % 4 < 4 := Nat.mod_lt _ (by omega)
  rw [x_f4 f hf, nm_i, x_okF h4 hK hf, x_f2 f hf, x_f0 f hf]
  by_cases a : f / 16 = 0
  · rw [if_pos (by rw [a]; rfl)]
    cases b : okF K f with
    | false => rw [if_pos (by decide)]; simp
    | true =>
      rw [if_neg (by decide)]
      by_cases c : f / 4 % 4 = f % 4
      · rw [if_pos (by rw [c])]; simp [a, c]
      · rw [if_neg (fun z => c (nI_inj (by omega) (by omega) z))]; simp [c]
  · rw [if_neg (nI_n0 (by omega) a)]; simp [a]
theorem x_work24 {τ0 : Tau} {q1 : Int64} {q2 q3 : Int32} {tld : Nat → Bool} (hK : K ≤ 4) (hmd : md < 512) (h1 : ∀ f, f < 64 → lb (tL τ0 27 1) f = tld f) (h3 : tI τ0 27 3 = nI md) (h4 : tI τ0 27 4 = nI K) (h7 : tI τ0 27 7 = nI 0) :
    ∃ τ', fX1_work_24 q1 q2 q3 FU τ0 (0 : Int32) = some τ' ∧ RX τ' (run K md 64 (R0 K md tld) 1).1 ∧ tI τ' 27 7 = nI (run K md 64 (R0 K md tld) 1).2 ∧ Fr [(27, 2), (27, 5), (27, 6), (27, 7)] [28] τ0 τ' := by
  have key : ∀ N i τ, i ≤ 64 → 64 - i < N → Fr [] [28] τ0 τ → (∀ f, f < i → tA τ 28 f = encW (R0 K md tld f)) →
      ∃ τ', fX1_work_24 q1 q2 q3 N τ (nI i) = some τ' ∧ RX τ' (run K md 64 (R0 K md tld) 1).1 ∧ tI τ' 27 7 = nI (run K md 64 (R0 K md tld) 1).2 ∧ Fr [(27, 2), (27, 5), (27, 6), (27, 7)] [28] τ0 τ' := by
    intro N
    induction N with
    | zero => intro i _ _ h; omega
    | succ N ih =>
      intro i τ hi hN hF hT
      rw [fX1_work_24]
      by_cases hlt : i < 64
      · have put : ∀ v, v = encW (R0 K md tld i) → ∃ τ', fX1_work_88 q1 q2 q3 (fX1_work_24 q1 q2 q3 N) τ (nI i) v (nI i) = some τ' ∧ RX τ' (run K md 64 (R0 K md tld) 1).1 ∧ tI τ' 27 7 = nI (run K md 64 (R0 K md tld) 1).2 ∧ Fr [(27, 2), (27, 5), (27, 6), (27, 7)] [28] τ0 τ' := by
          intro v hv
          rw [fX1_work_88, if_neg (nI_in hlt (by decide)), nm_i, nm_i, nI_clamp (by omega), i1, nI_add]
          refine ih (i + 1) _ (by omega) (by omega) (hF.tr (Fr.sA (by decide))) (fun f hf => ?_)
          rw [tA_sA]
          by_cases e : f = i
          · rw [if_pos ⟨rfl, e⟩, hv, e]
          · rw [if_neg (fun z => e z.2)]; exact hT f (by omega)
        have g3 : tI τ 27 3 = nI md := by rw [(hF.1 27 3 (by decide)).1, h3]
        have g4 : tI τ 27 4 = nI K := by rw [(hF.1 27 4 (by decide)).1, h4]
        have g1 : lb (tL τ 27 1) i = tld i := by rw [(hF.1 27 1 (by decide)).2]; exact h1 i hlt
        have told : (md.testBit 7 && decide (i / 16 = 0) && okF K i && decide (i / 4 % 4 = i % 4)) = false → ∃ τ', fX1_work_59 q1 q2 q3 (fX1_work_24 q1 q2 q3 N) τ (nI i) = some τ' ∧ RX τ' (run K md 64 (R0 K md tld) 1).1 ∧ tI τ' 27 7 = nI (run K md 64 (R0 K md tld) 1).2 ∧ Fr [(27, 2), (27, 5), (27, 6), (27, 7)] [28] τ0 τ' := by
          intro hs
          rw [fX1_work_59, fX1_work_60, if_pos rfl, nm_i, x_isTold hlt, g1]
          cases ht : tld i with
          | false =>
            rw [if_pos (by decide)]
            refine put _ ?_
            unfold R0
            rw [hs, ht]; rfl
          | true =>
            rw [if_neg (by decide), fX1_work_82]
            refine put _ ?_
            unfold R0
            rw [hs, ht]; rfl
        rw [i64, if_neg (nI_ge hlt (by omega)), nm_i, g3, i7, x_has (by omega) (by omega)]
        cases hb : md.testBit 7 with
        | false =>
          rw [if_pos (by decide)]
          exact told (by rw [hb]; rfl)
        | true =>
          rw [if_neg (by decide), nm_i, x_isSame g4 hK hlt]
          cases hs : decide (i / 16 = 0) && okF K i && decide (i / 4 % 4 = i % 4) with
          | false =>
            rw [if_pos (by decide)]
            exact told (by rw [hb, Bool.true_and, hs])
          | true =>
            rw [if_neg (by decide), fX1_work_60, if_neg (by decide), fX1_work_82]
            refine put _ ?_
            unfold R0
            rw [hb, Bool.true_and, hs]; rfl
      · have : i = 64 := by omega
        subst this
        rw [i64, if_pos (nI_le (Nat.le_refl _) (by omega)), i1]
        obtain ⟨τ', e, r, l, f⟩ := x_work101 (τ0 := τ) (q1 := q1) (q2 := q2) (q3 := q3) hK hmd (by rw [(hF.1 27 3 (by decide)).1, h3]) (by rw [(hF.1 27 4 (by decide)).1, h4]) 64 FU 1 (R0 K md tld) τ (by omega) (by omega) (by unfold FU; omega) (fun f hf => hT f hf) (fun f k _ z => by
            unfold R0 at z
            split at z
            · cases z; omega
            · cases z) (fun hb f hf h0 hk hx z => by
            unfold R0 at z
            rw [if_pos (by rw [hb, hk, decide_eq_true h0, decide_eq_true hx]; rfl)] at z
            cases z) Fr.rf (by rw [(hF.1 27 7 (by decide)).1, h7])
        exact ⟨τ', e, r, l, (hF.wk (by decide) (by decide)).tr f⟩
  rw [i0]
  exact key FU 0 τ0 (by omega) (by unfold FU; omega) Fr.rf (fun f hf => absurd hf (by omega))
/-- which facts the sayings of a set tell -/
def tld (d : Nat → Sd) (p f : Nat) : Bool := (srch (fun j => p.testBit j && decide (sdF (d j) = nI f)) 10 0).isSome
theorem tld_iff {d : Nat → Sd} {p f : Nat} : tld d p f = true ↔ ∃ j, j < 10 ∧ p.testBit j = true ∧ sdF (d j) = nI f := by
  unfold tld
  rw [srch_isSome]
  constructor
  · rintro ⟨j, h, e⟩
    obtain ⟨a, b⟩ := Bool.and_eq_true_iff.mp e
    exact ⟨j, h, a, of_decide_eq_true b⟩
  · rintro ⟨j, h, a, b⟩
    exact ⟨j, h, by rw [a, decide_eq_true b]; rfl⟩
def rnd (K md : Nat) (d : Nat → Sd) (p : Nat) : (Nat → Option Nat) × Nat := run K md 64 (R0 K md (tld d p)) 1
theorem x_work {τ0 : Tau} {d : Nat → Sd} {p : Nat} (hK : K ≤ 4) (hmd : md < 512) (hp : p < 1024) (hX : ∀ i, i < 10 → SX τ0 (i + 2) (d i)) (hF : ∀ i, i < 10 → FactOk K (sdF (d i))) (h7 : tI τ0 0 7 = nI md) (h5 : tI τ0 0 5 = nI K) :
    ∃ τ', fX6_work τ0 (nI p) = some τ' ∧ RX τ' (rnd K md d p).1 ∧ tI τ' 27 7 = nI (rnd K md d p).2 ∧ (∀ f, f < 64 → lb (tL τ' 27 1) f = tld d p f) ∧ tI τ' 27 3 = nI md ∧ tI τ' 27 4 = nI K ∧ Fr wkF [28] τ0 τ' := by
  have key : ∀ N i L, i ≤ 10 → 10 - i < N → (∀ f, f < 64 → (lb L f = true ↔ ∃ j, j < i ∧ p.testBit j = true ∧ sdF (d j) = nI f)) →
      ∃ τ', fX6_work_5 (nI p) N τ0 L (nI i) = some τ' ∧ RX τ' (rnd K md d p).1 ∧ tI τ' 27 7 = nI (rnd K md d p).2 ∧ (∀ f, f < 64 → lb (tL τ' 27 1) f = tld d p f) ∧ tI τ' 27 3 = nI md ∧ tI τ' 27 4 = nI K ∧ Fr wkF [28] τ0 τ' := by
    intro N
    induction N with
    | zero => intro i _ _ h; omega
    | succ N ih =>
      intro i L hi hN hL
      rw [fX6_work_5]
      by_cases hlt : i < 10
      · have next : ∀ L2, (∀ f, f < 64 → (lb L2 f = true ↔ ∃ j, j < i + 1 ∧ p.testBit j = true ∧ sdF (d j) = nI f)) → ∃ τ', fX6_work_58 (nI p) (fX6_work_5 (nI p) N) τ0 L2 (nI i) = some τ' ∧ RX τ' (rnd K md d p).1 ∧ tI τ' 27 7 = nI (rnd K md d p).2 ∧ (∀ f, f < 64 → lb (tL τ' 27 1) f = tld d p f) ∧ tI τ' 27 3 = nI md ∧ tI τ' 27 4 = nI K ∧ Fr wkF [28] τ0 τ' := by
          intro L2 h2
          rw [fX6_work_58, nm_i, i1, nI_add]
          exact ih (i + 1) L2 (by omega) (by omega) h2
        have same : (∀ f, f < 64 → ¬ (p.testBit i = true ∧ sdF (d i) = nI f)) → ∀ f, f < 64 → (lb L f = true ↔ ∃ j, j < i + 1 ∧ p.testBit j = true ∧ sdF (d j) = nI f) := by
          intro hn f hf
          rw [hL f hf]
          constructor
          · rintro ⟨j, a, b⟩; exact ⟨j, by omega, b⟩
          · rintro ⟨j, a, b⟩
            by_cases e : j = i
            · rw [e] at b; exact absurd b (hn f hf)
            · exact ⟨j, by omega, b⟩
        have es : tI τ0 (i + 2) 4 = sdF (d i) := (hX i hlt).2.2.2.2.2
        rw [i10, if_neg (nI_ge hlt (by omega)), if_neg (nI_in hlt (by decide)), nm_i, x_has (by omega) (by omega), nI_clamp (by omega), es]
        cases hb : p.testBit i with
        | false =>
          rw [if_pos (by decide)]
          exact next L (same (fun f _ z => by rw [hb] at z; cases z.1))
        | true =>
          rw [if_neg (by decide)]
          rcases hF i hlt with h9 | ⟨n, hn, hs, _⟩
          · rw [if_pos h9]
            exact next L (same (fun f hf z => nI_ne9 (by omega) (z.2.symm.trans h9)))
          · rw [hs, if_neg (nI_ne9 (by omega)), nm_i]
            refine next _ (fun f hf => ?_)
            rw [lb_or, lb_pow hn hf, Bool.or_eq_true_iff, hL f hf, decide_eq_true_iff]
            constructor
            · rintro (⟨j, a, b⟩ | e)
              · exact ⟨j, by omega, b⟩
              · exact ⟨i, by omega, hb, by rw [hs, e]⟩
            · rintro ⟨j, a, b⟩
              by_cases e : j = i
              · right
                rw [e, hs] at b
                exact nI_inj (by omega) (by omega) b.2
              · exact Or.inl ⟨j, by omega, b⟩
      · have : i = 10 := by omega
        subst this
        rw [i10, if_pos (nI_le (Nat.le_refl _) (by omega)), h7, h5]
        unfold fX1_work
        rw [nm_i, nm_i, nm_i, nm_i]
        have ft : Fr wkF [28] τ0 (sI (sI (sI (sL τ0 27 1 L) 27 3 (nI md)) 27 4 (nI K)) 27 7 0) := (((Fr.sL (by decide)).tr (Fr.sI (by decide))).tr (Fr.sI (by decide))).tr (Fr.sI (by decide))
        have hl : ∀ f, f < 64 → lb L f = tld d p f := by
          intro f hf
          have a := hL f hf
          rw [← tld_iff] at a
          cases h1 : lb L f <;> cases h2 : tld d p f <;> simp_all
        obtain ⟨τ', e, r, l, f⟩ := x_work24 (τ0 := sI (sI (sI (sL τ0 27 1 L) 27 3 (nI md)) 27 4 (nI K)) 27 7 0) (q1 := L) (q2 := nI md) (q3 := nI K) (tld := tld d p) hK hmd (fun f hf => by rw [tL_sI, tL_sI, tL_sI, tL_sL, if_pos ⟨rfl, rfl⟩]; exact hl f hf) (by rw [tI_sI, if_neg (by omega), tI_sI, if_neg (by omega), tI_sI, if_pos ⟨rfl, rfl⟩]) (by rw [tI_sI, if_neg (by omega), tI_sI, if_pos ⟨rfl, rfl⟩]) (by rw [tI_sI, if_pos ⟨rfl, rfl⟩]; rfl)
        rw [e, Option.bind_some]
        refine ⟨τ', rfl, r, l, fun g hg => ?_, ?_, ?_, ft.tr (f.wk (by decide) (by decide))⟩
        · rw [(f.1 27 1 (by decide)).2, tL_sI, tL_sI, tL_sI, tL_sL, if_pos ⟨rfl, rfl⟩]; exact hl g hg
        · rw [(f.1 27 3 (by decide)).1, tI_sI, if_neg (by omega), tI_sI, if_neg (by omega), tI_sI, if_pos ⟨rfl, rfl⟩]
        · rw [(f.1 27 4 (by decide)).1, tI_sI, if_neg (by omega), tI_sI, if_pos ⟨rfl, rfl⟩]
  unfold fX6_work
  rw [i0]
  exact key FU 0 0 (by omega) (by unfold FU; omega) (fun f hf => ⟨fun z => (by rw [lb_0] at z; cases z), fun ⟨j, a, _⟩ => absurd a (by omega)⟩)
end XT
