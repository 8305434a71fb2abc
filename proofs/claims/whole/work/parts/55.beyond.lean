/-! quarrels, and the facts of all worlds of a set: the class's side -/
theorem l_shl : ∀ f, f < 64 → ((nI f).toInt64 &&& 63).toBitVec.smod 64 = BitVec.ofNat 64 f := by decide +kernel
theorem lb_shl (V : Int64) {f i : Nat} (hf : f < 64) (hi : i < 64) : lb (V <<< ((nI f).toInt64 &&& 63)) i = (decide (f ≤ i) && lb V (i - f)) := by
  unfold lb
  rw [Int64.toBitVec_shiftLeft, l_shl f hf, BitVec.shiftLeft_eq', BitVec.getLsbD_shiftLeft, BitVec.toNat_ofNat, Nat.mod_eq_of_lt (by omega)]
  by_cases h : f ≤ i
  · have : ¬ i < f := by omega
    simp [hi, h, this]
  · have : i < f := by omega
    simp [this]
    intro z
    exact absurd z h
theorem lb_far (V : Int64) {i : Nat} (h : 64 ≤ i) : lb V i = false := by
  unfold lb
  exact BitVec.getLsbD_of_ge _ _ h
theorem l_65535 : ∀ i, i < 64 → lb 65535 i = decide (i < 16) := by decide +kernel
theorem l_some : ∀ i, i < 64 → lb 4294901760 i = decide (16 ≤ i ∧ i < 32) := by decide +kernel
theorem l_not : ∀ i, i < 64 → lb (-281474976710656) i = decide (48 ≤ i) := by decide +kernel
theorem l_both : ∀ i, i < 64 → lb (-281470681808896) i = decide ((16 ≤ i ∧ i < 32) ∨ 48 ≤ i) := by decide +kernel
theorem l_zero {x : Int64} : x = 0 ↔ ∀ i, i < 64 → lb x i = false := by
  constructor
  · intro h i _; rw [h, lb_0]
  · intro h
    apply lb_ext
    intro i hi
    rw [h i hi, lb_0]
theorem x_isQuarrel {L : Int64} {R : Nat → Option Nat} (hL : ∀ f, f < 64 → lb L f = (R f).isSome) : fX6_isQuarrel L = qrl R := by
  unfold fX6_isQuarrel
  rw [nm_i, nm_i, nm_i, nm_i]
  rw [show (16 : Int32) = nI 16 from rfl, show (32 : Int32) = nI 32 from rfl, show (48 : Int32) = nI 48 from rfl]
  have u : ∀ f i, f < 64 → lb ((L.toUInt64 >>> ((nI f).toInt64.toUInt64 &&& Int64.toUInt64 63)).toInt64) i = lb L (f + i) := fun f i hf => lb_ushr L hf i
  have e1 : ((L &&& (65535 : Int64)) &&& ((L.toUInt64 >>> ((nI 48).toInt64.toUInt64 &&& Int64.toUInt64 63)).toInt64)) = 0 ↔ ∀ i, i < 16 → ((R i).isSome && (R (48 + i)).isSome) = false := by
    rw [l_zero]
    constructor
    · intro h i hi
      have := h i (by omega)
      rw [lb_and, lb_and, l_65535 i (by omega), u 48 i (by omega), hL i (by omega), hL (48 + i) (by omega), decide_eq_true hi, Bool.and_true] at this
      exact this
    · intro h i hi
      rw [lb_and, lb_and, l_65535 i hi, u 48 i (by omega)]
      by_cases q : i < 16
      · rw [hL i hi, hL (48 + i) (by omega), decide_eq_true q, Bool.and_true]
        exact h i q
      · rw [decide_eq_false q]; simp
  have e2 : (((L.toUInt64 >>> ((nI 16).toInt64.toUInt64 &&& Int64.toUInt64 63)).toInt64 &&& (65535 : Int64)) &&& ((L.toUInt64 >>> ((nI 32).toInt64.toUInt64 &&& Int64.toUInt64 63)).toInt64 &&& (65535 : Int64))) = 0 ↔ ∀ i, i < 16 → ((R (16 + i)).isSome && (R (32 + i)).isSome) = false := by
    rw [l_zero]
    constructor
    · intro h i hi
      have := h i (by omega)
      rw [lb_and, lb_and, lb_and, l_65535 i (by omega), u 16 i (by omega), u 32 i (by omega), hL _ (by omega), hL _ (by omega), decide_eq_true hi, Bool.and_true, Bool.and_true] at this
      exact this
    · intro h i hi
      rw [lb_and, lb_and, lb_and, l_65535 i hi, u 16 i (by omega), u 32 i (by omega)]
      by_cases q : i < 16
      · rw [hL _ (by omega), hL _ (by omega), decide_eq_true q, Bool.and_true, Bool.and_true]
        exact h i q
      · rw [decide_eq_false q]; simp
  have hq : qrl R = false ↔ (∀ i, i < 16 → ((R i).isSome && (R (48 + i)).isSome) = false) ∧ ∀ i, i < 16 → ((R (16 + i)).isSome && (R (32 + i)).isSome) = false := by
    constructor
    · intro h
      have : ∀ i, i < 16 → (((R i).isSome && (R (48 + i)).isSome) || ((R (16 + i)).isSome && (R (32 + i)).isSome)) = false := by
        intro i hi
        cases hc : (((R i).isSome && (R (48 + i)).isSome) || ((R (16 + i)).isSome && (R (32 + i)).isSome)) with
        | false => rfl
        | true =>
          have : qrl R = true := srch_isSome.mpr ⟨i, hi, hc⟩
          rw [h] at this; cases this
      exact ⟨fun i hi => (Bool.or_eq_false_iff.mp (this i hi)).1, fun i hi => (Bool.or_eq_false_iff.mp (this i hi)).2⟩
    · rintro ⟨h1, h2⟩
      cases hc : qrl R with
      | false => rfl
      | true =>
        obtain ⟨i, hi, z⟩ := srch_isSome.mp hc
        rw [h1 i hi, h2 i hi] at z
        cases z
  by_cases a : ∀ i, i < 16 → ((R i).isSome && (R (48 + i)).isSome) = false
  · rw [if_pos ((lg_cmp_eq _ _).mpr (e1.mpr a))]
    by_cases b : ∀ i, i < 16 → ((R (16 + i)).isSome && (R (32 + i)).isSome) = false
    · rw [if_pos ((lg_cmp_eq _ _).mpr (e2.mpr b)), hq.mpr ⟨a, b⟩]
    · rw [if_neg (fun z => b (e2.mp ((lg_cmp_eq _ _).mp z)))]
      cases hc : qrl R with
      | true => rfl
      | false => exact absurd (hq.mp hc).2 b
  · rw [if_neg (fun z => a (e1.mp ((lg_cmp_eq _ _).mp z)))]
    cases hc : qrl R with
    | true => rfl
    | false => exact absurd (hq.mp hc).1 a
/-- what one thing of a sort bears witness of -/
def wit (s f : Nat) : Bool := if f / 16 = 1 then s.testBit (f / 4 % 4) && s.testBit (f % 4) else if f / 16 = 3 then s.testBit (f / 4 % 4) && !s.testBit (f % 4) else false
def WI (τ : Tau) : Prop := ∀ s f, s < 16 → f < 64 → lb (tB τ 25 s) f = wit s f
def wb (c : Nat → Nat) (f : Nat) : Bool := (srch (fun s => decide (0 < c s) && wit s f) 16 0).isSome
theorem wb_1 {c : Nat → Nat} {f : Nat} (h : f / 16 = 1) : wb c f = isF 1 (f / 4 % 4) (f % 4) c := by
  have : wb c f = true ↔ isF 1 (f / 4 % 4) (f % 4) c = true := by
    unfold wb isF
    rw [srch_isSome, if_neg (by decide), if_pos rfl, decide_eq_true_iff, sumTo_pos]
    constructor
    · rintro ⟨s, hs, z⟩
      obtain ⟨a, b⟩ := Bool.and_eq_true_iff.mp z
      unfold wit at b
      rw [if_pos h] at b
      obtain ⟨b1, b2⟩ := Bool.and_eq_true_iff.mp b
      refine ⟨s, hs, ?_⟩
      unfold fb
      rw [if_pos ⟨of_decide_eq_true a, b1⟩, if_pos b2]
      omega
    · rintro ⟨s, hs, z⟩
      unfold fb at z
      by_cases q : 0 < c s ∧ s.testBit (f / 4 % 4) = true
      · rw [if_pos q] at z
        by_cases r : s.testBit (f % 4) = true
        · refine ⟨s, hs, ?_⟩
          unfold wit
          rw [if_pos h, decide_eq_true q.1, q.2, r]; rfl
        · rw [if_neg r] at z; omega
      · rw [if_neg q] at z; omega
  cases a : wb c f <;> cases b : isF 1 (f / 4 % 4) (f % 4) c <;> simp_all
theorem wb_3 {c : Nat → Nat} {f : Nat} (h : f / 16 = 3) : wb c f = isF 3 (f / 4 % 4) (f % 4) c := by
  have : wb c f = true ↔ isF 3 (f / 4 % 4) (f % 4) c = true := by
    unfold wb isF
    rw [srch_isSome, if_neg (by decide), if_neg (by decide), if_neg (by decide), decide_eq_true_iff, sumTo_pos]
    constructor
    · rintro ⟨s, hs, z⟩
      obtain ⟨a, b⟩ := Bool.and_eq_true_iff.mp z
      unfold wit at b
      rw [if_neg (by omega), if_pos h] at b
      obtain ⟨b1, b2⟩ := Bool.and_eq_true_iff.mp b
      refine ⟨s, hs, ?_⟩
      unfold fo
      rw [if_pos ⟨of_decide_eq_true a, b1⟩, if_neg (by simpa using b2)]
      omega
    · rintro ⟨s, hs, z⟩
      unfold fo at z
      by_cases q : 0 < c s ∧ s.testBit (f / 4 % 4) = true
      · rw [if_pos q] at z
        by_cases r : s.testBit (f % 4) = true
        · rw [if_pos r] at z; omega
        · refine ⟨s, hs, ?_⟩
          unfold wit
          simp at r
          rw [if_neg (by omega), if_pos h, decide_eq_true q.1, q.2, r]; rfl
      · rw [if_neg q] at z; omega
  cases a : wb c f <;> cases b : isF 3 (f / 4 % 4) (f % 4) c <;> simp_all
theorem isF_0 (x y : Nat) (c : Nat → Nat) : isF 0 x y c = !isF 3 x y c := by
  unfold isF
  rw [if_pos rfl, if_neg (by decide), if_neg (by decide), if_neg (by decide)]
  by_cases h : sumTo (fo c x y) 16 = 0
  · simp [h]
  · have : 0 < sumTo (fo c x y) 16 := by omega
    simp [h, this]
theorem isF_2 (x y : Nat) (c : Nat → Nat) : isF 2 x y c = !isF 1 x y c := by
  unfold isF
  rw [if_neg (by decide), if_neg (by decide), if_pos rfl, if_neg (by decide), if_pos rfl]
  by_cases h : sumTo (fb c x y) 16 = 0
  · simp [h]
  · have : 0 < sumTo (fb c x y) 16 := by omega
    simp [h, this]
theorem x_witnessed {S n : Nat} {g : Nat → Nat} {l : List Nat} {τ : Tau} (hn : n ≤ 6) (hS : S ≤ 16) (h : WkAt S n g l τ) (hW : WI τ) :
    ∃ r, fX5_witnessed τ = some r ∧ ∀ f, f < 64 → lb r f = wb (lc l) f := by
  obtain ⟨h3, h4, hg, t, fi, h5, hrow, h19, h21⟩ := h
  have htn := hrow.1
  have key : ∀ N i L, i ≤ t → t - i < N → (∀ f, f < 64 → (lb L f = true ↔ ∃ j, j < i ∧ wit (fi j) f = true)) → ∃ r, fX5_witnessed_5 τ N L (nI i) = some r ∧ ∀ f, f < 64 → lb r f = wb (lc l) f := by
    intro N
    induction N with
    | zero => intro i _ _ h; omega
    | succ N ih =>
      intro i L hi hN hL
      rw [fX5_witnessed_5, h5]
      by_cases hlt : i < t
      · have hfi := hrow.2.1 i hlt
        rw [if_neg (nI_ge hlt (by omega)), i6, if_neg (nI_ge (show i < 6 by omega) (by omega)), if_neg (nI_in (show i < 6 by omega) (by decide)), nm_i, nI_clamp (by omega), h19 i hlt, if_neg (nI_pos (by omega)), i16, if_neg (nI_ge (show fi i < 16 by omega) (by omega)), if_neg (nI_in (show fi i < 16 by omega) (by decide)), nm_i, nI_clamp (by omega), fX5_witnessed_52, nm_i, i1, nI_add]
        refine ih (i + 1) _ (by omega) (by omega) (fun f hf => ?_)
        rw [lb_or, Bool.or_eq_true_iff, hL f hf, hW (fi i) f (by omega) hf]
        constructor
        · rintro (⟨j, a, b⟩ | e)
          · exact ⟨j, by omega, b⟩
          · exact ⟨i, by omega, e⟩
        · rintro ⟨j, a, b⟩
          by_cases e : j = i
          · rw [e] at b; exact Or.inr b
          · exact Or.inl ⟨j, by omega, b⟩
      · have : i = t := by omega
        subst this
        rw [if_pos (nI_le (Nat.le_refl _) (by omega))]
        refine ⟨L, rfl, fun f hf => ?_⟩
        have e : lb L f = true ↔ wb (lc l) f = true := by
          rw [hL f hf]
          unfold wb
          rw [srch_isSome]
          constructor
          · rintro ⟨j, a, b⟩
            have hfi := hrow.2.1 j a
            refine ⟨fi j, by omega, ?_⟩
            rw [row_lc hrow, decide_eq_true (cf_pos a rfl), b]; rfl
          · rintro ⟨s, hs, z⟩
            obtain ⟨a, b⟩ := Bool.and_eq_true_iff.mp z
            have a := of_decide_eq_true a
            rw [row_lc hrow] at a
            unfold cf at a
            obtain ⟨j, hj, hp⟩ := sumTo_pos.mp a
            refine ⟨j, hj, ?_⟩
            by_cases q : fi j = s
            · rw [q]; exact b
            · rw [if_neg q] at hp; omega
        cases a : lb L f <;> cases b : wb (lc l) f <;> simp_all
  unfold fX5_witnessed
  rw [i0]
  exact key FU 0 0 (by omega) (by unfold FU; omega) (fun f _ => ⟨fun z => (by rw [lb_0] at z; cases z), fun ⟨j, a, _⟩ => absurd a (by omega)⟩)
