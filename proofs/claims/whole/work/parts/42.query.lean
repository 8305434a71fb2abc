/-! what is asked of the heap tables: in how many worlds, does it follow, which world is the first -/
abbrev sub (p h : Nat) : Bool := decide (h &&& p = p)
theorem unbit_0 {a b : Nat} (ha : a < 1024) : unbit a b = 0 ↔ b &&& a = a := by
  rw [sub_iff ha]
  constructor
  · intro h i hi h1
    have h2 : (unbit a b).testBit i = false := by rw [h]; simp
    rw [unbit_bit (by omega), h1] at h2
    simpa using h2
  · intro h
    apply bits_eq (unbit_lt ha) (by omega)
    intro i hi
    rw [unbit_bit (by omega)]
    cases h1 : a.testBit i with
    | false => simp
    | true => rw [h i hi h1]; simp
theorem m_isIn {p h : Nat} (hp : p < 1024) (hh : h < 1024) : fX7_isIn (nI p) (nI h) = sub p h := by
  unfold fX7_isIn
  rw [nI_not (by omega) (by omega)]
  show (if nI (unbit p h) = 0 then true else false) = _
  have hu := unbit_lt (B := h) hp
  by_cases e : h &&& p = p
  · rw [(unbit_0 hp).mpr e, i0, if_pos rfl]; simp [sub, e]
  · rw [i0, if_neg (fun z => e ((unbit_0 hp).mp (nI_inj (by omega) (by omega) z)))]; simp [sub, e]
theorem cov_heaps {mk : Nat → Nat} {T : Nat} (hmk : ∀ w, w < T → mk w < 1024) (p : Nat) : cov mk T p = sumTo (fun h => if sub p h then cf mk T h else 0) 1024 := by
  unfold cov
  rw [cf_sum mk (fun h => if h &&& p = p then 1 else 0) 1024 T hmk]
  apply sumTo_congr
  intro h _
  by_cases e : h &&& p = p <;> simp [sub, e]
theorem m_canBe {τ : Tau} {mk : Nat → Nat} {T p : Nat} (hT : T < 100000) (hmk : ∀ w, w < T → mk w < 1024) (h7 : ∀ h, h < 1024 → tA τ 7 h = nI (cf mk T h)) (hp : p < 1024) :
    fX7_canBe τ (nI p) = some (nI (cov mk T p)) := by
  rw [cov_heaps hmk]
  have key : ∀ N i, i ≤ 1024 → 1024 - i < N → fX7_canBe_4 τ (nI p) N (nI (sumTo (fun h => if sub p h then cf mk T h else 0) i)) (nI i) = some (nI (sumTo (fun h => if sub p h then cf mk T h else 0) 1024)) := by
    intro N
    induction N with
    | zero => intro i _ h; omega
    | succ N ih =>
      intro i hi hN
      rw [fX7_canBe_4]
      by_cases hlt : i < 1024
      · rw [i1024, if_neg (nI_ge hlt (by omega)), nm_i, m_isIn hp hlt]
        have e1 := ih (i + 1) (by omega) (by omega)
        rw [sumTo] at e1
        cases hb : sub p i with
        | true =>
          rw [if_neg (by decide), if_neg (nI_in hlt (by decide)), fX7_canBe_30, nm_i, nm_i, nI_clamp (by omega), h7 i hlt, i1, nI_add, nI_add]
          rw [hb, if_pos rfl] at e1
          exact e1
        | false =>
          rw [if_pos (by decide), fX7_canBe_30, nm_i, nm_i, i1, i0, nI_add, nI_add]
          rw [hb, if_neg (by decide)] at e1
          exact e1
      · have : i = 1024 := by omega
        subst this
        rw [i1024, if_pos (nI_le (Nat.le_refl _) (by omega))]
  unfold fX7_canBe
  rw [i0]
  exact key FU 0 (by omega) (by unfold FU; omega)
theorem x_worldsOf {τ : Tau} {mk : Nat → Nat} {T p : Nat} (h24 : ∀ s, s < 1024 → tA τ 24 s = nI (cov mk T s)) (hp : p < 1024) : fX0_worldsOf τ (nI p) = some (nI (cov mk T p)) := by
  unfold fX0_worldsOf
  rw [i1024, if_neg (nI_pos (by omega)), if_neg (nI_ge hp (by omega)), if_neg (nI_in hp (by decide)), nI_clamp (by omega), h24 p hp]
/-- every world of p is one of the saying i -/
def fol (mk : Nat → Nat) (T p i : Nat) : Bool := decide (cov mk T p = cov mk T (p ||| 2 ^ i))
theorem x_isFollowing {τ : Tau} {mk : Nat → Nat} {T p i : Nat} (hT : T < 100000) (h24 : ∀ s, s < 1024 → tA τ 24 s = nI (cov mk T s)) (hp : p < 1024) (hi : i < 10) : fX0_isFollowing τ (nI p) (nI i) = some (fol mk T p i) := by
  unfold fX0_isFollowing
  have c1 := cov_le mk p T
  have c2 := cov_le mk (p ||| 2 ^ i) T
  rw [nI_one (by omega), nI_or, x_worldsOf h24 hp, x_worldsOf h24 (or_pow_lt hp hi), Option.bind_some, Option.bind_some]
  unfold fol
  by_cases e : cov mk T p = cov mk T (p ||| 2 ^ i)
  · rw [if_pos (by rw [e])]; simp [e]
  · rw [if_neg (fun z => e (nI_inj (by omega) (by omega) z))]; simp [e]
theorem sub_or {p i h : Nat} (hp : p < 1024) (hi : i < 10) : sub (p ||| 2 ^ i) h = (sub p h && h.testBit i) := by
  have hpp := or_pow_lt hp hi
  by_cases e : h &&& (p ||| 2 ^ i) = p ||| 2 ^ i
  · have e2 := (sub_iff hpp).mp e
    have e3 : h &&& p = p := (sub_iff hp).mpr (fun j hj h1 => e2 j hj (by rw [or_bit, h1]; rfl))
    have e4 : h.testBit i = true := e2 i hi (by rw [or_bit]; simp)
    simp [sub, e, e3, e4]
  · by_cases e3 : h &&& p = p
    · have : h.testBit i = false := by
        cases h1 : h.testBit i with
        | false => rfl
        | true =>
          exfalso
          apply e
          apply (sub_iff hpp).mpr
          intro j hj h2
          rw [or_bit] at h2
          rcases Bool.or_eq_true_iff.mp h2 with a | a
          · exact (sub_iff hp).mp e3 j hj a
          · rw [← of_decide_eq_true a]; exact h1
      simp [sub, e, this]
    · simp [sub, e, e3]
theorem sumTo_eqmono {f g : Nat → Nat} : ∀ {n : Nat}, (∀ i, i < n → f i ≤ g i) → sumTo f n = sumTo g n → ∀ i, i < n → f i = g i
  | 0, _, _, i, hi => absurd hi (by omega)
  | n + 1, h, e, i, hi => by
    have h1 := sumTo_mono (n := n) (fun j hj => h j (by omega))
    have h2 := h n (by omega)
    rw [sumTo, sumTo] at e
    by_cases z : i = n
    · subst z; omega
    · exact sumTo_eqmono (n := n) (fun j hj => h j (by omega)) (by omega) i (by omega)
theorem fol_iff {mk : Nat → Nat} {T p i : Nat} (hp : p < 1024) (hi : i < 10) : fol mk T p i = true ↔ ∀ w, w < T → sub p (mk w) = true → (mk w).testBit i = true := by
  have le : ∀ w, w < T → (if mk w &&& (p ||| 2 ^ i) = p ||| 2 ^ i then 1 else 0) ≤ (if mk w &&& p = p then 1 else 0 : Nat) := by
    intro w _
    have := sub_or (h := mk w) hp hi
    by_cases e : mk w &&& (p ||| 2 ^ i) = p ||| 2 ^ i
    · rw [show sub (p ||| 2 ^ i) (mk w) = true from decide_eq_true e] at this
      have t := (Bool.and_eq_true_iff.mp this.symm).1
      rw [if_pos e, if_pos (of_decide_eq_true t)]
      exact Nat.le_refl _
    · rw [if_neg e]; exact Nat.zero_le _
  unfold fol
  rw [decide_eq_true_iff]
  constructor
  · intro h w hw hs
    have := sumTo_eqmono le h.symm w hw
    rw [if_pos (of_decide_eq_true hs)] at this
    have e : mk w &&& (p ||| 2 ^ i) = p ||| 2 ^ i := by
      by_cases e : mk w &&& (p ||| 2 ^ i) = p ||| 2 ^ i
      · exact e
      · rw [if_neg e] at this; omega
    have t := sub_or (h := mk w) hp hi
    rw [show sub (p ||| 2 ^ i) (mk w) = true from decide_eq_true e] at t
    exact (Bool.and_eq_true_iff.mp t.symm).2
  · intro h
    unfold cov
    apply sumTo_congr
    intro w hw
    by_cases e : mk w &&& p = p
    · have t := sub_or (h := mk w) hp hi
      rw [show sub p (mk w) = true from decide_eq_true e, h w hw (decide_eq_true e)] at t
      rw [if_pos e, if_pos (of_decide_eq_true t)]
    · have t := sub_or (h := mk w) hp hi
      rw [show sub p (mk w) = false from decide_eq_false e] at t
      rw [if_neg e, if_neg (of_decide_eq_false t)]
/-- the first world that is g -/
def First (g : Nat → Bool) (mk : Nat → Nat) (T : Nat) : Option Nat → Prop
  | none => ∀ w, w < T → g (mk w) = false
  | some w => w < T ∧ g (mk w) = true ∧ ∀ v, v < w → g (mk v) = false
theorem First.one {g : Nat → Bool} {mk : Nat → Nat} {T : Nat} {r s : Option Nat} (h : First g mk T r) (h2 : First g mk T s) : r = s := by
  cases r with
  | none =>
    cases s with
    | none => rfl
    | some w => have := h w h2.1; rw [h2.2.1] at this; cases this
  | some v =>
    cases s with
    | none => have := h2 v h.1; rw [h.2.1] at this; cases this
    | some w =>
      rcases Nat.lt_trichotomy v w with q | q | q
      · have := h2.2.2 v q; rw [h.2.1] at this; cases this
      · rw [q]
      · have := h.2.2 w q; rw [h2.2.1] at this; cases this
theorem First.ex (g : Nat → Bool) (mk : Nat → Nat) : ∀ T, ∃ r, First g mk T r
  | 0 => ⟨none, fun w h => absurd h (by omega)⟩
  | T + 1 => by
    obtain ⟨r, h⟩ := First.ex g mk T
    cases r with
    | some w => exact ⟨some w, Nat.lt_succ_of_lt h.1, h.2⟩
    | none =>
      cases hg : g (mk T) with
      | true => exact ⟨some T, Nat.lt_succ_self T, hg, h⟩
      | false =>
        refine ⟨none, fun w hw => ?_⟩
        by_cases e : w = T
        · subst e; exact hg
        · exact h w (by omega)
def upTo (g : Nat → Bool) (i h : Nat) : Bool := g h && decide (h < i)
theorem First.stay {g : Nat → Bool} {mk : Nat → Nat} {T i : Nat} {r : Option Nat} (h : First (upTo g i) mk T r) (hz : g i = false ∨ cf mk T i = 0) : First (upTo g (i + 1)) mk T r := by
  have e : ∀ w, w < T → upTo g (i + 1) (mk w) = upTo g i (mk w) := by
    intro w hw
    unfold upTo
    by_cases q : mk w = i
    · rcases hz with z | z
      · rw [q, z]; simp
      · exact absurd q (cf_zero z w hw)
    · have : (mk w < i + 1) ↔ (mk w < i) := by omega
      simp [this]
  cases r with
  | none => exact fun w hw => (e w hw).trans (h w hw)
  | some w => exact ⟨h.1, (e w h.1).trans h.2.1, fun v hv => (e v (by have := h.1; omega)).trans (h.2.2 v hv)⟩
theorem isFst_ex {mk : Nat → Nat} {T i : Nat} (h : cf mk T i ≠ 0) : ∃ w0, IsFst mk T i w0 := by
  obtain ⟨r, hr⟩ := First.ex (fun q => decide (q = i)) mk T
  cases r with
  | none =>
    exfalso
    apply h
    exact cf_none (fun w hw => of_decide_eq_false (hr w hw))
  | some w => exact ⟨w, hr.1, of_decide_eq_true hr.2.1, fun v hv => of_decide_eq_false (hr.2.2 v hv)⟩
theorem First.new {g : Nat → Bool} {mk : Nat → Nat} {T i w0 : Nat} {r : Option Nat} (h : First (upTo g i) mk T r) (hg : g i = true) (h0 : IsFst mk T i w0) (hr : ∀ w, r = some w → w0 < w) : First (upTo g (i + 1)) mk T (some w0) := by
  refine ⟨h0.1, by unfold upTo; rw [h0.2.1, hg]; simp, fun v hv => ?_⟩
  have hn := h0.2.2 v hv
  have hvi : upTo g i (mk v) = false := by
    cases r with
    | none => exact h v (by have := h0.1; omega)
    | some w => exact h.2.2 v (by have := hr w rfl; omega)
  unfold upTo at hvi ⊢
  have : (mk v < i + 1) ↔ (mk v < i) := by omega
  simp only [this]
  exact hvi
theorem First.keep {g : Nat → Bool} {mk : Nat → Nat} {T i w0 w : Nat} (h : First (upTo g i) mk T (some w)) (h0 : IsFst mk T i w0) (hr : w ≤ w0) : First (upTo g (i + 1)) mk T (some w) := by
  obtain ⟨a, b, c⟩ := h
  unfold upTo at b
  obtain ⟨b1, b2⟩ := Bool.and_eq_true_iff.mp b
  have b3 := of_decide_eq_true b2
  refine ⟨a, by unfold upTo; rw [b1]; simp; omega, fun v hv => ?_⟩
  have hn := h0.2.2 v (by omega)
  have := c v hv
  unfold upTo at this ⊢
  have e : (mk v < i + 1) ↔ (mk v < i) := by omega
  simp only [e]
  exact this
theorem First.all {g : Nat → Bool} {mk : Nat → Nat} {T : Nat} {r : Option Nat} (hmk : ∀ w, w < T → mk w < 1024) (h : First (upTo g 1024) mk T r) : First g mk T r := by
  have e : ∀ w, w < T → upTo g 1024 (mk w) = g (mk w) := by
    intro w hw
    unfold upTo
    simp [hmk w hw]
  cases r with
  | none => exact fun w hw => (e w hw).symm.trans (h w hw)
  | some w => exact ⟨h.1, (e w h.1).symm.trans h.2.1, fun v hv => (e v (by have := h.1; omega)).symm.trans (h.2.2 v hv)⟩
def encW : Option Nat → Int32
  | none => -9
  | some w => nI w
def encH (mk : Nat → Nat) : Option Nat → Int32
  | none => -9
  | some w => nI (mk w)
theorem nI_ne9 {w : Nat} (h : w < 2 ^ 31) : nI w ≠ -9 := by
  intro z
  have := nI_pos h
  rw [z] at this
  exact this (by decide)
