/-! the reference takes a world: heaps, the first of each, the facts of each -/
def lb (x : Int64) (f : Nat) : Bool := x.toBitVec.getLsbD f
theorem lb_and (x y : Int64) (f : Nat) : lb (x &&& y) f = (lb x f && lb y f) := by unfold lb; rw [Int64.toBitVec_and, BitVec.getLsbD_and]
theorem lb_or (x y : Int64) (f : Nat) : lb (x ||| y) f = (lb x f || lb y f) := by unfold lb; rw [Int64.toBitVec_or, BitVec.getLsbD_or]
theorem lb_m1 {f : Nat} (h : f < 64) : lb (-1) f = true := by
  unfold lb
  rw [show (-1 : Int64).toBitVec = BitVec.allOnes 64 by decide, BitVec.getLsbD_allOnes]
  exact decide_eq_true h
theorem lb_0 (f : Nat) : lb 0 f = false := by
  unfold lb
  rw [show (0 : Int64).toBitVec = 0#64 by decide, BitVec.getLsbD_zero]
theorem lb_not (x : Int64) {f : Nat} (h : f < 64) : lb (x ^^^ (-1)) f = !lb x f := by
  unfold lb
  rw [Int64.toBitVec_xor, BitVec.getLsbD_xor, show (-1 : Int64).toBitVec = BitVec.allOnes 64 by decide, BitVec.getLsbD_allOnes]
  simp [h]
theorem l_pow : ∀ f, f < 64 → ((1 : Int64) <<< ((nI f).toInt64 &&& 63)).toBitVec = BitVec.twoPow 64 f := by decide +kernel
theorem lb_pow {f i : Nat} (h : f < 64) (hi : i < 64) : lb ((1 : Int64) <<< ((nI f).toInt64 &&& 63)) i = decide (f = i) := by
  unfold lb
  rw [l_pow f h, BitVec.getLsbD_twoPow]
  simp [h]
theorem lb_ext {x y : Int64} (h : ∀ f, f < 64 → lb x f = lb y f) : x = y := by
  apply Int64.toBitVec_inj.mp
  exact BitVec.eq_of_getLsbD_eq h
theorem sumTo_pos {f : Nat → Nat} : ∀ {n : Nat}, 0 < sumTo f n ↔ ∃ i, i < n ∧ 0 < f i
  | 0 => ⟨fun h => absurd h (by simp [sumTo]), fun ⟨i, h, _⟩ => absurd h (by omega)⟩
  | n + 1 => by
    rw [sumTo]
    constructor
    · intro h
      rcases Nat.eq_zero_or_pos (f n) with g | g
      · obtain ⟨i, h1, h2⟩ := sumTo_pos.mp (show 0 < sumTo f n by omega)
        exact ⟨i, by omega, h2⟩
      · exact ⟨n, by omega, g⟩
    · rintro ⟨i, h1, h2⟩
      by_cases e : i = n
      · subst e; omega
      · have := sumTo_pos.mpr ⟨i, show i < n by omega, h2⟩
        omega
/-- sorts at hand that are of x, and of y, or not of y -/
def fb (c : Nat → Nat) (x y s : Nat) : Nat := if 0 < c s ∧ s.testBit x = true then (if s.testBit y then 1 else 0) else 0
def fo (c : Nat → Nat) (x y s : Nat) : Nat := if 0 < c s ∧ s.testBit x = true then (if s.testBit y then 0 else 1) else 0
def isF (w x y : Nat) (c : Nat → Nat) : Bool := if w = 0 then decide (sumTo (fo c x y) 16 = 0) else if w = 1 then decide (0 < sumTo (fb c x y) 16) else if w = 2 then decide (sumTo (fb c x y) 16 = 0) else decide (0 < sumTo (fo c x y) 16)
theorem fbo_le (c : Nat → Nat) (x y : Nat) : ∀ n, sumTo (fb c x y) n ≤ n ∧ sumTo (fo c x y) n ≤ n
  | 0 => ⟨Nat.le_refl _, Nat.le_refl _⟩
  | n + 1 => by
    have := fbo_le c x y n
    have h1 : fb c x y n ≤ 1 := by unfold fb; split; split <;> omega; omega
    have h2 : fo c x y n ≤ 1 := by unfold fo; split; split <;> omega; omega
    rw [sumTo, sumTo]
    omega
theorem m_isFact {τ : Tau} {K w x y : Nat} {c : Nat → Nat} (hk : tI τ 0 1 = nI K) (hK : K ≤ 4) (hc : RowIs τ K 6 c) (hw : w < 4) (hx : x < 4) (hy : y < 4) : fX7_isFact τ (nI w) (nI x) (nI y) = some (isF w x y c) := by
  have hS := pow2_16 hK
  have e1 : sumTo (fb c x y) 16 = sumTo (fb c x y) (2 ^ K) := sumTo_ext hS (fun s h1 _ => by unfold fb; rw [hc.2.1 s h1]; simp)
  have e2 : sumTo (fo c x y) 16 = sumTo (fo c x y) (2 ^ K) := sumTo_ext hS (fun s h1 _ => by unfold fo; rw [hc.2.1 s h1]; simp)
  have key : ∀ N i, i ≤ 2 ^ K → 2 ^ K - i < N → fX7_isFact_9 τ (nI w) (nI x) (nI y) N (nI (sumTo (fb c x y) i)) (nI (sumTo (fo c x y) i)) (nI i) = some (isF w x y c) := by
    intro N
    induction N with
    | zero => intro i _ h; omega
    | succ N ih =>
      intro i hi hN
      have hbo := fbo_le c x y i
      rw [fX7_isFact_9, nm_i, m_sorts hk hK]
      by_cases hlt : i < 2 ^ K
      · rw [if_neg (nI_ge hlt (by omega)), if_neg (nI_in (show i < 16 by omega) (by decide)), nI_clamp (by omega), hc.1 i (by omega), nI_bit (by omega) (by omega), nI_bit (by omega) (by omega)]
        have hcs : c i ≤ 6 := Nat.le_trans (sumTo_one (show i < 16 by omega)) hc.2.2
        have e3 := ih (i + 1) (by omega) (by omega)
        rw [sumTo, sumTo] at e3
        by_cases hp : 0 < c i
        · rw [i0, if_neg (nI_ge hp (by omega))]
          cases hb : i.testBit x with
          | true =>
            rw [if_pos ((bit1 true).mpr rfl), nm_i, nm_i, fX7_isFact_62, nm_i, i1, nI_add, pk_sub (by split <;> omega), nI_add, nI_add]
            have f1 : fb c x y i = if i.testBit y then 1 else 0 := by unfold fb; rw [if_pos ⟨hp, hb⟩]
            have f2 : fo c x y i = 1 - (if i.testBit y then 1 else 0) := by unfold fo; rw [if_pos ⟨hp, hb⟩]; cases i.testBit y <;> rfl
            rw [f1, f2] at e3
            exact e3
          | false =>
            rw [if_neg (fun z => by have := (bit1 false).mp z; cases this), fX7_isFact_62, nm_i, i1, nI_add]
            have f1 : fb c x y i = 0 := by unfold fb; rw [if_neg (fun z => by rw [hb] at z; cases z.2)]
            have f2 : fo c x y i = 0 := by unfold fo; rw [if_neg (fun z => by rw [hb] at z; cases z.2)]
            rw [f1, f2] at e3
            exact e3
        · rw [i0, if_pos (nI_le (by omega) (by omega)), fX7_isFact_62, nm_i, i1, nI_add]
          have f1 : fb c x y i = 0 := by unfold fb; rw [if_neg (fun z => hp z.1)]
          have f2 : fo c x y i = 0 := by unfold fo; rw [if_neg (fun z => hp z.1)]
          rw [f1, f2] at e3
          exact e3
      · have : i = 2 ^ K := by omega
        subst this
        rw [if_pos (nI_le (Nat.le_refl _) (by omega)), ← e1, ← e2]
        rw [← e1, ← e2] at hbo
        unfold isF
        rw [i0, i1, i2]
        generalize sumTo (fb c x y) 16 = b at *
        generalize sumTo (fo c x y) 16 = o at *
        have q : ∀ k, k < 4 → ((nI w = nI k) ↔ w = k) := fun k hk => nI_eq (by omega) (by omega)
        by_cases w0 : w = 0
        · rw [if_pos ((q 0 (by omega)).mpr w0), if_pos w0]
          by_cases h : o = 0
          · rw [if_pos (by rw [h]), h]; simp
          · rw [if_neg (fun z => h (nI_inj (by omega) (by omega) z))]; simp [h]
        rw [if_neg (fun z => w0 ((q 0 (by omega)).mp z)), if_neg w0]
        by_cases w1 : w = 1
        · rw [if_pos ((q 1 (by omega)).mpr w1), if_pos w1]
          by_cases h : 0 < b
          · rw [if_neg (nI_ge h (by omega))]; simp [h]
          · rw [if_pos (nI_le (by omega) (by omega))]; simp [h]
        rw [if_neg (fun z => w1 ((q 1 (by omega)).mp z)), if_neg w1]
        by_cases w2 : w = 2
        · rw [if_pos ((q 2 (by omega)).mpr w2), if_pos w2]
          by_cases h : b = 0
          · rw [if_pos (by rw [h]), h]; simp
          · rw [if_neg (fun z => h (nI_inj (by omega) (by omega) z))]; simp [h]
        rw [if_neg (fun z => w2 ((q 2 (by omega)).mp z)), if_neg w2]
        by_cases h : 0 < o
        · rw [if_neg (nI_ge h (by omega))]; simp [h]
        · rw [if_pos (nI_le (by omega) (by omega))]; simp [h]
  unfold fX7_isFact
  rw [i0]
  exact key FU 0 (Nat.zero_le _) (by unfold FU; omega)
/-- a fact of the kinds that there are, of a world -/
def factHere (K f : Nat) (c : Nat → Nat) : Bool := if f / 4 % 4 < K ∧ f % 4 < K then isF (f / 16) (f / 4 % 4) (f % 4) c else true
section FL
variable {K h : Nat} {c : Nat → Nat} {τ0 : Tau}
/-- the facts of one heap, those already asked left out -/
def FStep (K h : Nat) (c : Nat → Nat) (P : Nat → Prop) (τ0 τ : Tau) : Prop := Fr [] [10] τ0 τ ∧ (∀ g, g ≠ h → tB τ 10 g = tB τ0 10 g) ∧ (∀ f, f < 64 → P f → lb (tB τ 10 h) f = (lb (tB τ0 10 h) f && factHere K f c)) ∧ (∀ f, f < 64 → ¬ P f → lb (tB τ 10 h) f = lb (tB τ0 10 h) f)
theorem FStep.to {P P' : Nat → Prop} {τ : Tau} (H : FStep K h c P τ0 τ) (h1 : ∀ f, f < 64 → P f → P' f) (h2 : ∀ f, f < 64 → P' f → ¬ P f → factHere K f c = true) : FStep K h c P' τ0 τ := by
  refine ⟨H.1, H.2.1, fun f hf hp => ?_, fun f hf hp => H.2.2.2 f hf (fun z => hp (h1 f hf z))⟩
  by_cases g : P f
  · exact H.2.2.1 f hf g
  · rw [H.2.2.2 f hf g, h2 f hf hp g]; simp
theorem m_facts3 (hK : K ≤ 4) (hh : h < 1024) (hk : tI τ0 0 1 = nI K) (hc : RowIs τ0 K 6 c) (k119 : Tau → Int32 → Int32 → Option Tau) (k126 : Tau → Int32 → Int32 → Int32 → Option Tau) {w x : Nat} (hw : w < 4) (hx : x < K) :
    ∀ N y τ, y ≤ K → K - y < N → FStep K h c (fun f => f / 16 < w ∨ (f / 16 = w ∧ (f / 4 % 4 < x ∨ (f / 4 % 4 = x ∧ f % 4 < y)))) τ0 τ →
      ∃ τ', fX7_takes_137 k119 k126 N τ (nI h) (nI w) (nI x) (nI y) = k126 τ' (nI h) (nI w) (nI (x + 1)) ∧ FStep K h c (fun f => f / 16 < w ∨ (f / 16 = w ∧ f / 4 % 4 < x + 1)) τ0 τ' := by
  intro N
  induction N with
  | zero => intro y _ _ h; omega
  | succ N ih =>
    intro y τ hy hN H
    have hF := H.1
    rw [fX7_takes_137, (hF.1 0 1 (by decide)).1, hk]
    by_cases hlt : y < K
    · rw [if_neg (nI_ge hlt (by omega)), if_neg (nI_in hh (by decide)), m_isFact (by rw [(hF.1 0 1 (by decide)).1, hk]) hK (hc.fr hF (by decide)) hw (by omega) (by omega), Option.bind_some, nI_clamp (by omega)]
      have hf64 : 16 * w + 4 * x + y < 64 := by omega
      have d1 : (16 * w + 4 * x + y) / 16 = w := by omega
      have d2 : (16 * w + 4 * x + y) / 4 % 4 = x := by omega
      have d3 : (16 * w + 4 * x + y) % 4 = y := by omega
      have hfh : factHere K (16 * w + 4 * x + y) c = isF w x y c := by unfold factHere; rw [d1, d2, d3, if_pos ⟨hx, hlt⟩]
      have fin : ∀ v : Int64, (∀ f, f < 64 → lb v f = if f = 16 * w + 4 * x + y then isF w x y c else true) → ∃ τ', fX7_takes_187 k119 k126 (fX7_takes_137 k119 k126 N) τ (nI h) (nI w) (nI x) (nI y) v (tB τ 10 h) (nI h) = k126 τ' (nI h) (nI w) (nI (x + 1)) ∧ FStep K h c (fun f => f / 16 < w ∨ (f / 16 = w ∧ f / 4 % 4 < x + 1)) τ0 τ' := by
        intro v hv
        rw [fX7_takes_187, if_neg (nI_in hh (by decide)), nm_i, nm_i, nI_clamp (by omega), i1, nI_add]
        refine ih (y + 1) _ (by omega) (by omega) ⟨hF.tr (Fr.sB (by decide)), fun g hg => by rw [tB_sB, if_neg (fun z => hg z.2)]; exact H.2.1 g hg, fun f hf hp => ?_, fun f hf hp => ?_⟩
        · rw [tB_sB, if_pos ⟨rfl, rfl⟩, lb_and, hv f hf]
          by_cases e : f = 16 * w + 4 * x + y
          · rw [if_pos e, H.2.2.2 f hf (by omega), e, hfh]
          · rw [if_neg e, H.2.2.1 f hf (by omega)]; simp
        · rw [tB_sB, if_pos ⟨rfl, rfl⟩, lb_and, hv f hf, if_neg (by omega), H.2.2.2 f hf (by omega)]; simp
      cases hb : isF w x y c with
      | true =>
        rw [if_neg (by decide)]
        exact fin _ (fun f hf => by rw [lb_m1 hf, hb]; simp)
      | false =>
        rw [if_pos (by decide), show (((16 : Int32) * nI w + (4 : Int32) * nI x) + nI y) = nI (16 * w + 4 * x + y) by rw [i16, i4, pk_mul, pk_mul, nI_add, nI_add]]
        exact fin _ (fun f hf => by
          rw [lb_not _ hf, lb_pow hf64 hf, hb]
          by_cases e : f = 16 * w + 4 * x + y
          · rw [if_pos e]; simp [e]
          · rw [if_neg e]; simp [Ne.symm e])
    · have : y = K := by omega
      subst this
      rw [if_pos (nI_le (Nat.le_refl _) (by omega)), nm_i, i1, nI_add]
      refine ⟨τ, rfl, H.to (fun f hf hp => by omega) (fun f hf hp hn => ?_)⟩
      unfold factHere
      rw [if_neg (by omega)]
theorem m_facts2 (hK : K ≤ 4) (hh : h < 1024) (hk : tI τ0 0 1 = nI K) (hc : RowIs τ0 K 6 c) (k119 : Tau → Int32 → Int32 → Option Tau) {w : Nat} (hw : w < 4) :
    ∀ N x τ, x ≤ K → K - x < N → FStep K h c (fun f => f / 16 < w ∨ (f / 16 = w ∧ f / 4 % 4 < x)) τ0 τ →
      ∃ τ', fX7_takes_126 k119 N τ (nI h) (nI w) (nI x) = k119 τ' (nI h) (nI (w + 1)) ∧ FStep K h c (fun f => f / 16 < w + 1) τ0 τ' := by
  intro N
  induction N with
  | zero => intro x _ _ h; omega
  | succ N ih =>
    intro x τ hx hN H
    rw [fX7_takes_126, (H.1.1 0 1 (by decide)).1, hk]
    by_cases hlt : x < K
    · rw [if_neg (nI_ge hlt (by omega)), i0]
      obtain ⟨τ', e, H'⟩ := m_facts3 hK hh hk hc k119 (fX7_takes_126 k119 N) hw hlt FU 0 τ (by omega) (by unfold FU; omega) (H.to (fun f hf hp => by omega) (fun f hf hp hn => by omega))
      rw [e]
      exact ih (x + 1) τ' (by omega) (by omega) H'
    · have : x = K := by omega
      subst this
      rw [if_pos (nI_le (Nat.le_refl _) (by omega)), nm_i, i1, nI_add]
      refine ⟨τ, rfl, H.to (fun f hf hp => by omega) (fun f hf hp hn => ?_)⟩
      unfold factHere
      rw [if_neg (by omega)]
theorem m_facts1 (hK : K ≤ 4) (hh : h < 1024) (hk : tI τ0 0 1 = nI K) (hc : RowIs τ0 K 6 c) :
    ∀ N w τ, w ≤ 4 → 4 - w < N → FStep K h c (fun f => f / 16 < w) τ0 τ → ∃ τ', fX7_takes_119 N τ (nI h) (nI w) = some τ' ∧ FStep K h c (fun _ => True) τ0 τ' := by
  intro N
  induction N with
  | zero => intro w _ _ h; omega
  | succ N ih =>
    intro w τ hw hN H
    rw [fX7_takes_119]
    by_cases hlt : w < 4
    · rw [i4, if_neg (nI_ge hlt (by omega)), i0]
      obtain ⟨τ', e, H'⟩ := m_facts2 hK hh hk hc (fX7_takes_119 N) hlt FU 0 τ (by omega) (by unfold FU; omega) (H.to (fun f hf hp => by omega) (fun f hf hp hn => by omega))
      rw [e]
      exact ih (w + 1) τ' (by omega) (by omega) H'
    · have : w = 4 := by omega
      subst this
      rw [i4, if_pos (nI_le (Nat.le_refl _) (by omega))]
      exact ⟨τ, rfl, H.to (fun f hf hp => trivial) (fun f hf hp hn => by omega)⟩
end FL
