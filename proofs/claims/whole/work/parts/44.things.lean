/-! the number of a world says what is in it -/
theorem rows_ok : ∀ S, S < 18 → ∀ t, t < 7 → fX0_rowsOf (nI S) (nI t) = some (nI (rows S t)) := by decide +kernel
theorem rows_lt : ∀ S, S < 18 → ∀ t, t < 7 → rows S t < 100000 := by decide +kernel
theorem choose_ok : ∀ S, S < 17 → ∀ t, t < 7 → fX0_choose (nI (S + t)) (nI t) = some (nI (rows (S + 1) t)) := by decide +kernel
theorem nI_dec {m : Nat} (h : 0 < m) : nI m + (-1 : Int32) = nI (m - 1) := by
  have : nI m = nI (m - 1) + nI 1 := by rw [nI_add]; congr 1; omega
  rw [this, Int32.add_assoc]
  show nI (m - 1) + (1 + -1) = _
  rw [show (1 : Int32) + -1 = 0 by decide, Int32.add_zero]
theorem nI_dec1 {m : Nat} (h : 0 < m) : nI m + -nI 1 = nI (m - 1) := nI_dec h
theorem x_th84 {τ : Tau} {S x a r : Nat} {l3 : List Nat} {p1 p2 : Int32} (h6 : tI τ 17 6 = nI S) (hS : S ≤ 16) (hx : l3.length + x + 1 = S) (hr : l3.sum = r) (har : a + r ≤ 6) (k65 : Int32 → Int32 → Int32 → Int32 → Option Int32) :
    ∀ N k v, k ≤ r → r - k < N → v + sumTo (rows l3.length) k = sumTo (rows l3.length) r + rank l3 → v < 100000 →
      fX0_thingsIn_84 τ p1 p2 k65 N (nI v) (nI (a + r)) (nI (a + r - k)) (nI x) = k65 (nI (rank l3)) (nI r) (nI a) (nI (x + 1)) := by
  have hrk := rank_lt l3
  rw [hr] at hrk
  have stop : ∀ k v, k = r → v + sumTo (rows l3.length) k = sumTo (rows l3.length) r + rank l3 → fX0_thingsIn_136 τ p1 p2 k65 (nI v) (nI (a + r)) (nI (a + r - k)) (nI x) = k65 (nI (rank l3)) (nI r) (nI a) (nI (x + 1)) := by
    intro k v hk hv
    subst hk
    rw [fX0_thingsIn_136, nm_i, nm_i, pk_sub (by omega), i1, nI_add, show v = rank l3 by omega, show a + k - (a + k - k) = k by omega, show a + k - k = a by omega]
  intro N
  induction N with
  | zero => intro k v _ h; omega
  | succ N ih =>
    intro k v hk hN hv hvb
    rw [fX0_thingsIn_84]
    by_cases h0 : a + r - k = 0
    · rw [if_pos (show nI (a + r - k) ≤ 0 by rw [h0]; decide)]
      exact stop k v (by omega) hv
    · rw [i0, if_neg (nI_ge (show 0 < a + r - k by omega) (by omega)), h6, pk_sub (show x ≤ S by omega), i1, pk_sub (show 1 ≤ S - x by omega), pk_sub (show a + r - k ≤ a + r by omega), show S - x - 1 = l3.length by omega, show a + r - (a + r - k) = k by omega, rows_ok l3.length (by omega) k (by omega), Option.bind_some]
      have hl := rows_lt l3.length (by omega) k (by omega)
      by_cases hlt : k < r
      · have hm := sumTo_le (f := rows l3.length) (show k + 1 ≤ r by omega)
        rw [sumTo] at hm
        rw [if_neg (fun z => by have := (nI_ltI (by omega) (by omega)).mp z; omega), Option.bind_some, nm_i, nm_i, pk_sub (by omega), nI_dec1 (by omega), show a + r - k - 1 = a + r - (k + 1) by omega]
        exact ih (k + 1) (v - rows l3.length k) (by omega) (by omega) (by rw [sumTo]; omega) (by omega)
      · have hkr : k = r := by omega
        rw [if_pos (nI_lt (show v < rows l3.length k by rw [hkr] at hv ⊢; omega) (by omega))]
        exact stop k v hkr hv
theorem x_th65 {τ : Tau} {S s : Nat} {p1 : Int32} (h6 : tI τ 17 6 = nI S) (hS : S ≤ 16) (hs : s < S) :
    ∀ N (lx : List Nat) (x : Nat) (x5 : Int32), x ≤ s → s - x + 1 < N → lx.length + x = S → lx.sum ≤ 6 →
      fX0_thingsIn_65 τ p1 (nI s) N (nI (rank lx)) (nI lx.sum) x5 (nI x) = some (nI (lx.getD (s - x) 0)) := by
  intro N
  induction N with
  | zero => intro _ _ _ _ h; omega
  | succ N ih =>
    intro lx x x5 hx hN hl h6s
    cases lx with
    | nil => simp at hl; omega
    | cons a l3 =>
      rw [List.sum_cons] at h6s
      have hlen : l3.length + x + 1 = S := by rw [List.length_cons] at hl; omega
      have hrk := rank_lt (a :: l3)
      have hrl := rows_lt (a :: l3).length (by rw [List.length_cons]; omega) (a :: l3).sum (by rw [List.sum_cons]; omega)
      rw [fX0_thingsIn_65, if_neg (fun z => by have := (nI_ltI (by omega) (by omega)).mp z; omega), h6, if_neg (nI_ge (by omega) (by omega)), List.sum_cons]
      have e := x_th84 (p1 := p1) (p2 := nI s) (a := a) h6 hS hlen rfl h6s (fX0_thingsIn_65 τ p1 (nI s) N) FU 0 (rank (a :: l3)) (by omega) (by unfold FU; omega) (by rw [rank, sumTo]; omega) (by omega)
      rw [Nat.sub_zero] at e
      rw [e]
      by_cases hxs : x = s
      · subst hxs
        obtain ⟨N', rfl⟩ : ∃ N', N = N' + 1 := ⟨N - 1, by omega⟩
        rw [fX0_thingsIn_65, if_pos (nI_lt (by omega) (by omega)), Nat.sub_self]
        rfl
      · rw [ih l3 (x + 1) (nI a) (by omega) (by omega) (by omega) (by omega), show s - x = (s - (x + 1)) + 1 by omega]
        rfl
theorem x_thingsIn {τ : Tau} {S n w : Nat} {p2 : Int32} (h6 : tI τ 17 6 = nI S) (h7 : tI τ 17 7 = nI n) (hS : S ≤ 16) (hS1 : 1 ≤ S) (hn : n ≤ 6) (hw : w < tot S n) :
    (p2 = -1 → fX0_thingsIn τ (nI w) p2 = some (nI (wsz S n w))) ∧ ∀ s, s < S → p2 = nI s → fX0_thingsIn τ (nI w) p2 = some (nI (lc (wv S n w) s)) := by
  obtain ⟨a1, a2, a3⟩ := wv_ok w hw
  have hwb := rows_lt (S + 1) (by omega) n (by omega)
  have hwb2 : w < 100000 := by unfold tot at hw; omega
  unfold wsz
  cases hl : wv S n w with
  | nil => rw [hl] at a1; simp at a1
  | cons a0 l =>
    rw [hl] at a1 a2 a3
    rw [List.length_cons] at a1
    rw [List.sum_cons] at a2
    rw [rank] at a3
    have hlen : l.length = S := by omega
    have hrk := rank_lt l
    rw [hlen] at a3 hrk
    obtain ⟨t, ht⟩ : ∃ t, t = l.sum := ⟨_, rfl⟩
    rw [← ht] at a2 a3 hrk
    have key : ∀ N j v, j ≤ t → t - j < N → v + sumTo (rows S) j = sumTo (rows S) t + rank l → v < 100000 → fX0_thingsIn_12 τ (nI w) p2 N (nI v) (nI j) = fX0_thingsIn_52 τ (nI w) p2 (nI (rank l)) (nI t) := by
      intro N
      induction N with
      | zero => intro j v _ h; omega
      | succ N ih =>
        intro j v hj hN hv hvb
        rw [fX0_thingsIn_12, h7, h6]
        by_cases hjn : n ≤ j
        · have : j = t := by omega
          subst this
          rw [if_pos (nI_le hjn (by omega)), show v = rank l by omega]
        · have hl2 := rows_lt S (by omega) j (by omega)
          rw [if_neg (nI_ge (by omega) (by omega)), rows_ok S (by omega) j (by omega), Option.bind_some]
          by_cases hlt : j < t
          · have hm := sumTo_le (f := rows S) (show j + 1 ≤ t by omega)
            rw [sumTo] at hm
            rw [if_neg (fun z => by have := (nI_ltI (by omega) (by omega)).mp z; omega), Option.bind_some, nm_i, nm_i, pk_sub (by omega), i1, nI_add]
            exact ih (j + 1) (v - rows S j) (by omega) (by omega) (by rw [sumTo]; omega) (by omega)
          · have : j = t := by omega
            subst this
            rw [if_pos (nI_lt (by omega) (by omega)), show v = rank l by omega]
    have e := key FU 0 w (by omega) (by unfold FU; omega) (by rw [sumTo]; omega) hwb2
    refine ⟨fun hp => ?_, fun s hs hp => ?_⟩
    · rw [fX0_thingsIn, if_pos (nI_pos' (by omega)), i0, e, fX0_thingsIn_52, if_neg (by rw [hp]; decide)]
      show _ = some (nI (n - a0))
      rw [show n - a0 = t by omega]
    · rw [fX0_thingsIn, if_pos (nI_pos' (by omega)), i0, e, fX0_thingsIn_52, hp, if_pos (nI_pos' (by omega)), ht, i0, x_th65 h6 hS hs FU l 0 (nI 0) (by omega) (by unfold FU; omega) (by omega) (by omega)]
      rfl
theorem x_thingsNo {τ : Tau} {p2 : Int32} : fX0_thingsIn τ (-9) p2 = some (-9) := by
  rw [fX0_thingsIn, if_neg (by decide)]
/-- the other side reads its rows -/
theorem m_told {τ : Tau} {h : Nat} {c : Nat → Nat} {p2 : Int32} (hh : h < 1024) (hc : ∀ s, s < 16 → tA τ 9 (16 * h + s) = nI (c s)) :
    (p2 = -1 → fX7_told τ (nI h) p2 = some (nI (sumTo c 16))) ∧ ∀ s, s < 16 → p2 = nI s → fX7_told τ (nI h) p2 = some (nI (c s)) := by
  have at32 : ∀ k14 i z, i < 16 → fX7_told_32 τ (nI h) p2 k14 (nI i) z = k14 (z + nI (c i)) (nI (i + 1)) := by
    intro k14 i z hi
    rw [fX7_told_32, i16, pk_mul, nI_add, if_neg (nI_in (show 16 * h + i < 16384 by omega) (by decide)), nI_clamp (by omega), hc i hi, fX7_told_48, nm_i, nm_i, i1, nI_add]
  have h9 : ¬ nI h = -9 := nI_ne9 (by omega)
  refine ⟨fun hp => ?_, fun s hs hp => ?_⟩
  · have key : ∀ N i, i ≤ 16 → 16 - i < N → fX7_told_14 τ (nI h) p2 N (nI (sumTo c i)) (nI i) = some (nI (sumTo c 16)) := by
      intro N
      induction N with
      | zero => intro i _ h; omega
      | succ N ih =>
        intro i hi hN
        rw [fX7_told_14]
        by_cases hlt : i < 16
        · rw [i16, if_neg (nI_ge hlt (by omega)), if_pos (by rw [hp]; decide), at32 _ i _ hlt, nI_add]
          exact ih (i + 1) (by omega) (by omega)
        · have : i = 16 := by omega
          subst this
          rw [i16, if_pos (nI_le (Nat.le_refl _) (by omega))]
    rw [fX7_told, if_neg h9, i0]
    exact key FU 0 (by omega) (by unfold FU; omega)
  · have key : ∀ N i, i ≤ 16 → 16 - i < N → fX7_told_14 τ (nI h) p2 N (nI (if s < i then c s else 0)) (nI i) = some (nI (c s)) := by
      intro N
      induction N with
      | zero => intro i _ h; omega
      | succ N ih =>
        intro i hi hN
        rw [fX7_told_14]
        by_cases hlt : i < 16
        · rw [i16, if_neg (nI_ge hlt (by omega)), if_neg (by rw [hp]; exact nI_pos (by omega)), hp]
          have e := ih (i + 1) (by omega) (by omega)
          rw [← hp]
          by_cases e1 : i = s
          · rw [if_pos (by rw [hp, e1]), at32 _ i _ hlt, nI_add]
            rw [e1, if_pos (by omega)] at e
            rw [e1, if_neg (by omega), Nat.zero_add]
            exact e
          · rw [if_neg (fun z => e1 (nI_inj (by omega) (by omega) (z.trans hp))), fX7_told_48, nm_i, nm_i, i1, nI_add, i0, nI_add, Nat.add_zero]
            have q : (s < i + 1) ↔ (s < i) := by omega
            simp only [q] at e
            exact e
        · have : i = 16 := by omega
          subst this
          rw [i16, if_pos (nI_le (Nat.le_refl _) (by omega)), if_pos hs]
    rw [fX7_told, if_neg h9, i0]
    have e := key FU 0 (by omega) (by unfold FU; omega)
    rw [if_neg (by omega)] at e
    exact e
theorem m_toldNo {τ : Tau} {p2 : Int32} : fX7_told τ (-9) p2 = some (-9) := by
  rw [fX7_told, if_pos rfl]
