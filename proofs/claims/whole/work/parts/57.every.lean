/-! every fact; what a set of sayings brings beyond what is shown -/
section EF
variable {K : Nat}
def DoneF (w x y f : Nat) : Prop := f / 16 < w ∨ (f / 16 = w ∧ (f / 4 % 4 < x ∨ (f / 4 % 4 = x ∧ f % 4 < y)))
theorem x_ev24 {τ : Tau} (h5 : tI τ 0 5 = nI K) (hK : K ≤ 4) (k4 : Int64 → Int32 → Option Int64) (k12 : Int64 → Int32 → Int32 → Option Int64) {w x : Nat} (hw : w < 4) (hx : x < K) :
    ∀ N y L, y ≤ K → K - y < N → (∀ f, f < 64 → (lb L f = true ↔ okF K f = true ∧ DoneF w x y f)) → ∃ L', fX6_everyFact_24 τ k4 k12 N L (nI w) (nI x) (nI y) = k12 L' (nI w) (nI (x + 1)) ∧ ∀ f, f < 64 → (lb L' f = true ↔ okF K f = true ∧ DoneF w (x + 1) 0 f) := by
  intro N
  induction N with
  | zero => intro y _ _ h; omega
  | succ N ih =>
    intro y L hy hN hL
    rw [fX6_everyFact_24, h5]
    by_cases hlt : y < K
    · rw [if_neg (nI_ge hlt (by omega)), nm_i, nm_i, nm_i, x_num, i1, nI_add]
      refine ih (y + 1) _ (by omega) (by omega) (fun f hf => ?_)
      rw [lb_or, Bool.or_eq_true_iff, hL f hf, lb_pow (show 16 * w + 4 * x + y < 64 by omega) hf]
      unfold okF DoneF
      rw [decide_eq_true_iff, decide_eq_true_iff]
      omega
    · have : y = K := by omega
      subst this
      rw [if_pos (nI_le (Nat.le_refl _) (by omega)), nm_i, i1, nI_add]
      refine ⟨L, rfl, fun f hf => ?_⟩
      rw [hL f hf]
      unfold okF DoneF
      rw [decide_eq_true_iff]
      omega
theorem x_ev12 {τ : Tau} (h5 : tI τ 0 5 = nI K) (hK : K ≤ 4) (k4 : Int64 → Int32 → Option Int64) {w : Nat} (hw : w < 4) :
    ∀ N x L, x ≤ K → K - x < N → (∀ f, f < 64 → (lb L f = true ↔ okF K f = true ∧ DoneF w x 0 f)) → ∃ L', fX6_everyFact_12 τ k4 N L (nI w) (nI x) = k4 L' (nI (w + 1)) ∧ ∀ f, f < 64 → (lb L' f = true ↔ okF K f = true ∧ DoneF (w + 1) 0 0 f) := by
  intro N
  induction N with
  | zero => intro x _ _ h; omega
  | succ N ih =>
    intro x L hx hN hL
    rw [fX6_everyFact_12, h5]
    by_cases hlt : x < K
    · obtain ⟨L', e, hL'⟩ := x_ev24 h5 hK k4 (fX6_everyFact_12 τ k4 N) hw hlt FU 0 L (by omega) (by unfold FU; omega) hL
      rw [if_neg (nI_ge hlt (by omega)), i0, e]
      exact ih (x + 1) L' (by omega) (by omega) hL'
    · have : x = K := by omega
      subst this
      rw [if_pos (nI_le (Nat.le_refl _) (by omega)), nm_i, i1, nI_add]
      refine ⟨L, rfl, fun f hf => ?_⟩
      rw [hL f hf]
      unfold okF DoneF
      rw [decide_eq_true_iff]
      omega
theorem x_everyFact {τ : Tau} (h5 : tI τ 0 5 = nI K) (hK : K ≤ 4) : ∃ L, fX6_everyFact τ = some L ∧ ∀ f, f < 64 → lb L f = okF K f := by
  have key : ∀ N w L, w ≤ 4 → 4 - w < N → (∀ f, f < 64 → (lb L f = true ↔ okF K f = true ∧ DoneF w 0 0 f)) → ∃ L', fX6_everyFact_4 τ N L (nI w) = some L' ∧ ∀ f, f < 64 → lb L' f = okF K f := by
    intro N
    induction N with
    | zero => intro w _ _ h; omega
    | succ N ih =>
      intro w L hw hN hL
      rw [fX6_everyFact_4]
      by_cases hlt : w < 4
      · obtain ⟨L', e, hL'⟩ := x_ev12 h5 hK (fX6_everyFact_4 τ N) hlt FU 0 L (by omega) (by unfold FU; omega) hL
        rw [if_neg (fun z => by have := (nI_ltI (show 3 < 2 ^ 31 by omega) (by omega)).mp z; omega), i0, e]
        exact ih (w + 1) L' (by omega) (by omega) hL'
      · have : w = 4 := by omega
        subst this
        rw [if_pos (by decide)]
        refine ⟨L, rfl, fun f hf => ?_⟩
        have := hL f hf
        have hd : DoneF 4 0 0 f := by unfold DoneF; omega
        cases a : lb L f <;> cases b : okF K f <;> simp_all
  unfold fX6_everyFact
  rw [i0]
  exact key FU 0 0 (by omega) (by unfold FU; omega) (fun f _ => ⟨fun z => (by rw [lb_0] at z; cases z), fun ⟨_, z⟩ => absurd z (by unfold DoneF; omega)⟩)
theorem cntB_congr {P Q : Nat → Bool} : ∀ {n : Nat}, (∀ f, f < n → P f = Q f) → cntB P n = cntB Q n := by
  intro n h
  unfold cntB
  exact sumTo_congr (fun i hi => by rw [h i hi])
end EF
section MB2
variable {K T p : Nat} {mk : Nat → Nat} {cw : Nat → Nat → Nat} {R : Nat → Option Nat}
/-- a fact of every world of the set, as the reference has it -/
def allM (K T : Nat) (mk : Nat → Nat) (cw : Nat → Nat → Nat) (p f : Nat) : Prop := ∀ v, v < T → sub p (mk v) = true → factHere K f (cw v) = true
theorem l_bit1 : ∀ f, f < 64 → ((nI f).toInt64 &&& 63).toBitVec.smod 64 = BitVec.ofNat 64 f := l_shl
theorem lb_sshr (L : Int64) {f : Nat} (hf : f < 64) : lb (L >>> ((nI f).toInt64 &&& 63)) 0 = lb L f := by
  unfold lb
  rw [Int64.toBitVec_shiftRight, l_shl f hf, BitVec.sshiftRight_eq', BitVec.getLsbD_sshiftRight, BitVec.toNat_ofNat, Nat.mod_eq_of_lt (by omega)]
  simp [hf]
theorem l_and1t (L : Int64) : L &&& 1 = 1 ↔ lb L 0 = true := by
  constructor
  · intro h
    have : lb (L &&& 1) 0 = true := by rw [h, lb_1]; rfl
    rw [lb_and, lb_1] at this
    simpa using this
  · intro h
    apply lb_ext
    intro f _
    rw [lb_and, lb_1]
    by_cases e : f = 0
    · rw [e, h]; rfl
    · simp [e]
theorem m_shown236 {τ : Tau} {x4 : Int64} {p1 p2 : Int32} (hK : K ≤ 4) (hk : tI τ 0 1 = nI K) (hR : RM τ R) (hB : RB R 900) :
    fX7_shown_236 p1 p2 FU τ (0 : Int32) x4 (0 : Int32) = some (nI (cntB (fun f => okF K f && (lb x4 f && (R f).isNone)) 64), τ) := by
  let B : Nat → Bool := fun f => okF K f && (lb x4 f && (R f).isNone)
  have key : ∀ N i, i ≤ 64 → 64 - i < N → fX7_shown_236 p1 p2 N τ (nI (cntB B i)) x4 (nI i) = some (nI (cntB B 64), τ) := by
    intro N
    induction N with
    | zero => intro i _ h; omega
    | succ N ih =>
      intro i hi hN
      rw [fX7_shown_236]
      by_cases hlt : i < 64
      · have e := ih (i + 1) (by omega) (by omega)
        rw [show cntB B (i + 1) = cntB B i + (if B i = true then 1 else 0) from rfl] at e
        have stay : B i = false → fX7_shown_296 p1 p2 (fX7_shown_236 p1 p2 N) τ x4 (nI i) (nI (cntB B i)) = some (nI (cntB B 64), τ) := by
          intro hz
          rw [fX7_shown_296, fX7_shown_297, nm_i, nm_i, i1, i0, nI_add, nI_add]
          rw [hz, if_neg (by decide)] at e
          exact e
        have h1 : i / 4 % 4 < 4 := Nat.mod_lt _ (by omega)
        have h2 : i % 4 < 4 := Nat.mod_lt _ (by omega)
        rw [i64, if_neg (nI_ge hlt (by omega)), m_f4 i hlt, m_f0 i hlt, hk]
        by_cases a : i / 4 % 4 < K
        · rw [if_neg (nI_ge a (by omega))]
          by_cases b : i % 4 < K
          · have hok : okF K i = true := decide_eq_true ⟨a, b⟩
            rw [if_neg (nI_ge b (by omega))]
            cases hb : lb x4 i with
            | true =>
              have hsh : (x4 >>> ((nI i).toInt64 &&& 63)) &&& (1 : Int64) = 1 := (l_and1t _).mpr (by rw [lb_sshr _ hlt, hb])
              rw [if_pos ((lg_cmp_eq _ _).mpr hsh), if_neg (nI_in hlt (by decide)), nI_clamp (by omega), hR i hlt]
              cases hr : R i with
              | none =>
                rw [if_pos (show encW none = -9 from rfl), fX7_shown_297, nm_i, nm_i, i1, nI_add, nI_add]
                rw [show B i = true by show (okF K i && (lb x4 i && (R i).isNone)) = true; rw [hok, hb, hr]; rfl, if_pos rfl] at e
                exact e
              | some k =>
                have := hB i k hlt hr
                rw [if_neg (show ¬ encW (some k) = -9 from nI_ne9 (by omega))]
                exact stay (by show (okF K i && (lb x4 i && (R i).isNone)) = false; rw [hr]; simp)
            | false =>
              rw [if_neg (fun z => by
                have := (l_and1t _).mp ((lg_cmp_eq _ _).mp z)
                rw [lb_sshr _ hlt, hb] at this
                cases this)]
              exact stay (by show (okF K i && (lb x4 i && (R i).isNone)) = false; rw [hb]; simp)
          · rw [if_pos (nI_le (by omega) (by omega))]
            exact stay (by show (okF K i && (lb x4 i && (R i).isNone)) = false; unfold okF; simp [b])
        · rw [if_pos (nI_le (by omega) (by omega))]
          exact stay (by show (okF K i && (lb x4 i && (R i).isNone)) = false; unfold okF; simp [a])
      · have : i = 64 := by omega
        subst this
        rw [i64, if_pos (nI_le (Nat.le_refl _) (by omega))]
  rw [i0]
  exact key FU 0 (by omega) (by unfold FU; omega)
theorem m_shown182 {τ : Tau} {p2 : Int32} (hT : T < 100000) (hmk : ∀ w, w < T → mk w < 1024) (hM : MTab τ K mk cw T) (hp : p < 1024) (hK : K ≤ 4) (hk : tI τ 0 1 = nI K) (hR : RM τ R) (hB : RB R 900) :
    ∃ B : Nat → Bool, fX7_shown_182 (nI p) p2 FU τ (0 : Int32) (-1 : Int64) (0 : Int32) = some (nI (cntB B 64), τ) ∧ ∀ f, f < 64 → (B f = true ↔ okF K f = true ∧ allM K T mk cw p f ∧ R f = none) := by
  obtain ⟨_, h7, _, h10⟩ := hM
  have key : ∀ N i x4, i ≤ 1024 → 1024 - i < N → (∀ f, f < 64 → (lb x4 f = true ↔ ∀ v, v < T → mk v < i → sub p (mk v) = true → factHere K f (cw v) = true)) →
      ∃ B : Nat → Bool, fX7_shown_182 (nI p) p2 N τ (0 : Int32) x4 (nI i) = some (nI (cntB B 64), τ) ∧ ∀ f, f < 64 → (B f = true ↔ okF K f = true ∧ allM K T mk cw p f ∧ R f = none) := by
    intro N
    induction N with
    | zero => intro i _ _ h; omega
    | succ N ih =>
      intro i x4 hi hN hx
      rw [fX7_shown_182]
      by_cases hlt : i < 1024
      · have hcl := cf_le mk i T
        have next : ∀ y, (∀ f, f < 64 → (lb (x4 &&& y) f = true ↔ ∀ v, v < T → mk v < i + 1 → sub p (mk v) = true → factHere K f (cw v) = true)) → ∃ B : Nat → Bool, fX7_shown_224 (nI p) p2 (fX7_shown_182 (nI p) p2 N) τ 0 (nI i) y x4 = some (nI (cntB B 64), τ) ∧ ∀ f, f < 64 → (B f = true ↔ okF K f = true ∧ allM K T mk cw p f ∧ R f = none) := by
          intro y hy
          rw [fX7_shown_224, nm_i, nm_i, show nI i + 1 = nI (i + 1) from nI_add i 1]
          exact ih (i + 1) _ (by omega) (by omega) hy
        have stay : (cf mk T i = 0 ∨ sub p i = false) → ∃ B : Nat → Bool, fX7_shown_221 (nI p) p2 (fX7_shown_182 (nI p) p2 N) τ 0 (nI i) x4 = some (nI (cntB B 64), τ) ∧ ∀ f, f < 64 → (B f = true ↔ okF K f = true ∧ allM K T mk cw p f ∧ R f = none) := by
          intro hz
          rw [fX7_shown_221]
          refine next _ (fun f hf => ?_)
          rw [lb_and, lb_m1 hf, Bool.and_true, hx f hf]
          constructor
          · intro a v hv hv2 hs
            by_cases e : mk v = i
            · rcases hz with z | z
              · exact absurd e (cf_zero z v hv)
              · rw [e, z] at hs; cases hs
            · exact a v hv (by omega) hs
          · intro a v hv hv2; exact a v hv (by omega)
        rw [i1024, if_neg (nI_ge hlt (by omega)), if_neg (nI_in hlt (by decide)), nI_clamp (by omega), h7 i hlt]
        by_cases hc : cf mk T i = 0
        · rw [if_pos (show nI (cf mk T i) ≤ 0 by rw [hc]; decide)]
          exact stay (Or.inl hc)
        · rw [if_neg (show ¬ nI (cf mk T i) ≤ 0 from nI_ge (show 0 < cf mk T i by omega) (by omega)), nm_i, m_isIn hp hlt]
          cases hs : sub p i with
          | false =>
            rw [if_pos (by decide)]
            exact stay (Or.inr hs)
          | true =>
            rw [if_neg (by decide), if_neg (nI_in2 hlt (by decide))]
            refine next _ (fun f hf => ?_)
            rw [lb_and, Bool.and_eq_true_iff, hx f hf, h10 i f hlt hf (by omega)]
            constructor
            · rintro ⟨a, b⟩ v hv hv2 hs2
              by_cases e : mk v = i
              · exact b v hv e
              · exact a v hv (by omega) hs2
            · intro a
              exact ⟨fun v hv hv2 => a v hv (by omega), fun v hv e => a v hv (by omega) (by rw [e]; exact hs)⟩
      · have : i = 1024 := by omega
        subst this
        rw [i1024, if_pos (nI_le (Nat.le_refl _) (by omega)), m_shown236 hK hk hR hB]
        refine ⟨_, rfl, fun f hf => ?_⟩
        rw [Bool.and_eq_true_iff, Bool.and_eq_true_iff, hx f hf, Option.isNone_iff_eq_none]
        unfold allM
        constructor
        · rintro ⟨a, b, c⟩
          exact ⟨a, fun v hv => b v hv (hmk v hv), c⟩
        · rintro ⟨a, b, c⟩
          exact ⟨a, fun v hv _ => b v hv, c⟩
  have e := key FU 0 (-1) (by omega) (by unfold FU; omega) (fun f hf => by rw [lb_m1 hf]; exact ⟨fun _ v _ h => absurd h (by omega), fun _ => rfl⟩)
  exact e
end MB2
