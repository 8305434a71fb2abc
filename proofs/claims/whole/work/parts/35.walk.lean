/-! the class's walk through the worlds is the walk through the lists -/
/-- how often s stands among the first t -/
def cf (f : Nat → Nat) (t s : Nat) : Nat := sumTo (fun i => if f i = s then 1 else 0) t
theorem sumTo_split (g : Nat → Nat) (p m : Nat) : sumTo g (p + m) = sumTo g p + sumTo (fun i => g (p + i)) m := by
  induction m with
  | zero => rfl
  | succ m ih => rw [← Nat.add_assoc, sumTo, sumTo, ih]; omega
theorem cf_split (f : Nat → Nat) (p m s : Nat) : cf f (p + m) s = cf f p s + cf (fun i => f (p + i)) m s := sumTo_split _ p m
theorem cf_const {f : Nat → Nat} {v : Nat} : ∀ {m : Nat}, (∀ i, i < m → f i = v) → ∀ s, cf f m s = if s = v then m else 0
  | 0, _, s => by simp [cf, sumTo]
  | m + 1, h, s => by
    have ih := cf_const (f := f) (v := v) (m := m) (fun i hi => h i (by omega)) s
    unfold cf at ih ⊢
    rw [sumTo, ih, h m (by omega)]
    by_cases e : s = v
    · simp [e]
    · rw [if_neg e, if_neg e, if_neg (fun z => e z.symm)]
theorem cf_none {f : Nat → Nat} {m s : Nat} (h : ∀ i, i < m → f i ≠ s) : cf f m s = 0 := sumTo_zero (fun i hi => if_neg (h i hi))
theorem cf_congr {f g : Nat → Nat} {m s : Nat} (h : ∀ i, i < m → f i = g i) : cf f m s = cf g m s := sumTo_congr (fun i hi => by rw [h i hi])
/-- sums by the row and by the counts -/
theorem cf_sum (f g : Nat → Nat) (N : Nat) : ∀ t, (∀ i, i < t → f i < N) → sumTo (fun i => g (f i)) t = sumTo (fun s => cf f t s * g s) N
  | 0, _ => by
    rw [sumTo_zero (n := N) (fun s _ => by simp [cf, sumTo])]; rfl
  | t + 1, h => by
    rw [sumTo, cf_sum f g N t (fun i hi => h i (by omega))]
    have e : ∀ s, cf f (t + 1) s * g s = cf f t s * g s + (if s = f t then g s else 0) := by
      intro s
      unfold cf
      rw [sumTo, Nat.add_mul]
      by_cases hs : f t = s
      · simp [hs]
      · rw [if_neg hs, if_neg (fun z => hs z.symm)]; simp
    rw [sumTo_congr (g := fun s => cf f t s * g s + (if s = f t then g s else 0)) (fun s _ => e s), sumTo_add]
    congr 1
    have hf := h t (by omega)
    clear e h
    induction N with
    | zero => omega
    | succ N ih =>
      rw [sumTo]
      by_cases e : f t = N
      · rw [if_pos e.symm, sumTo_zero (fun s hs => if_neg (by omega)), e]; omega
      · rw [if_neg (fun z => e z.symm), ← ih (by omega)]; rfl
theorem cf_total (f : Nat → Nat) (N t : Nat) (h : ∀ i, i < t → f i < N) : sumTo (cf f t) N = t := by
  have e := cf_sum f (fun _ => 1) N t h
  have : ∀ t, sumTo (fun _ => 1) t = t := by
    intro t
    induction t with
    | zero => rfl
    | succ t ih => rw [sumTo, ih]
  rw [this] at e
  refine Eq.trans (sumTo_congr (fun s _ => ?_)) e.symm
  simp
/-- the row of sorts f is the world l of n things at most -/
def RowOf (S n t : Nat) (f : Nat → Nat) (l : List Nat) : Prop := t ≤ n ∧ (∀ i, i < t → f i < S) ∧ (∀ i j, i ≤ j → j < t → f i ≤ f j) ∧ l = (n - t) :: toL (cf f t) 0 S
theorem row_zero (S n : Nat) (f : Nat → Nat) : RowOf S n 0 f (firstW (S + 1) n) := by
  refine ⟨by omega, fun i h => by omega, fun i j _ h => by omega, ?_⟩
  rw [firstW, toL_zero (c := cf f 0) (fun s _ _ => rfl)]
  rfl
/-- the last that is not the last sort goes up, and all behind it with it -/
theorem row_up {S n t p : Nat} {f : Nat → Nat} {l : List Nat} (h : RowOf S n t f l) (hp : p < t) (hv : f p + 1 < S) (hr : ∀ i, p < i → i < t → f i = S - 1) :
    ∃ l', nxt l = some l' ∧ RowOf S n t (fun i => if i < p then f i else f p + 1) l' := by
  obtain ⟨htn, hlt, hso, hl⟩ := h
  obtain ⟨m, rfl⟩ : ∃ m, t = p + 1 + m := ⟨t - p - 1, by omega⟩
  have hc : ∀ s, cf f (p + 1 + m) s = cf f p s + (if f p = s then 1 else 0) + (if s = S - 1 then m else 0) := by
    intro s
    rw [cf_split, cf_const (v := S - 1) (fun i hi => hr (p + 1 + i) (by omega) (by omega)) s]
    rfl
  have hlow : ∀ s, f p < s → cf f p s = 0 := fun s hs => cf_none (fun i hi => by have := hso i p (by omega) (by omega); omega)
  have hin : nxt (toL (cf f (p + 1 + m)) 0 S) = some (toL (stepC (cf f (p + 1 + m)) (0 + S - 1) (f p)) 0 S) := by
    refine nxt_step (f p) 0 S (Nat.zero_le _) (by omega) ?_ ?_
    · rw [hc, if_pos rfl]; omega
    · intro s h1 h2
      rw [hc, hlow s h1, if_neg (by omega), if_neg (by omega)]
  refine ⟨(n - (p + 1 + m)) :: toL (stepC (cf f (p + 1 + m)) (0 + S - 1) (f p)) 0 S, ?_, htn, ?_, ?_, ?_⟩
  · rw [hl, nxt, hin]
  · intro i hi
    show (if i < p then f i else f p + 1) < S
    split
    · exact hlt i hi
    · exact hv
  · intro i j hij hj
    show (if i < p then f i else f p + 1) ≤ (if j < p then f j else f p + 1)
    by_cases h1 : j < p
    · rw [if_pos h1, if_pos (by omega)]; exact hso i j hij hj
    · rw [if_neg h1]
      split
      · have := hso i p (by omega) (by omega); omega
      · exact Nat.le_refl _
  · congr 1
    apply toL_congr
    intro s _ hs
    have e1 : cf (fun i => if i < p then f i else f p + 1) (p + 1 + m) s = cf f p s + (if s = f p + 1 then m + 1 else 0) := by
      rw [show p + 1 + m = p + (m + 1) by omega, cf_split]
      congr 1
      · exact cf_congr (fun i hi => if_pos hi)
      · exact cf_const (v := f p + 1) (fun i hi => if_neg (by omega)) s
    rw [e1]
    unfold stepC
    simp only [hc]
    rw [show 0 + S - 1 = S - 1 by omega]
    by_cases g1 : s = f p + 1
    · rw [if_pos g1, if_pos g1, hlow s (by omega), if_pos rfl, hlow (S - 1) (by omega), if_neg (by omega)]
      omega
    · rw [if_neg g1, if_neg g1]
      by_cases g2 : s = f p
      · rw [if_pos g2, g2, if_neg (show ¬ f p = S - 1 by omega)]
        simp
      · rw [if_neg g2]
        by_cases g3 : s = S - 1
        · rw [if_pos g3, hlow s (by omega)]
        · rw [if_neg g3, if_neg (fun z => g2 z.symm), if_neg g3]
/-- all are of the last sort: one thing more, all of the first sort; or the end -/
theorem row_more {S n t : Nat} {f : Nat → Nat} {l : List Nat} (h : RowOf S n t f l) (hS : 1 < S) (hr : ∀ i, i < t → f i = S - 1) :
    (t < n → ∃ l', nxt l = some l' ∧ RowOf S n (t + 1) (fun _ => 0) l') ∧ (t = n → nxt l = none) := by
  obtain ⟨htn, hlt, hso, hl⟩ := h
  have hc := cf_const (v := S - 1) hr
  obtain ⟨hn, hs⟩ := nxt_only_last (c := cf f t) S 0 (fun s _ h2 => by rw [hc, if_neg (by omega)])
  have hsum : (toL (cf f t) 0 S).sum = t := by rw [toL_sum, cf_total f S t hlt]
  have hne : toL (cf f t) 0 S ≠ [] := fun z => by
    have := toL_len (cf f t) 0 S
    rw [z] at this
    simp at this
    omega
  refine ⟨fun hlt2 => ⟨(n - t - 1) :: firstW S (t + 1), ?_, by omega, fun i hi => by show 0 < S; omega, fun i j _ _ => Nat.le_refl _, ?_⟩, fun e => ?_⟩
  · rw [hl, nxt, hn]
    simp only
    rw [if_neg (fun z => z.elim (fun z => by omega) hne), toL_len, hsum]
  · congr 1
    obtain ⟨S', rfl⟩ : ∃ S', S = S' + 1 := ⟨S - 1, by omega⟩
    rw [firstW, toL_succ]
    have h0 := cf_const (f := fun _ => 0) (v := 0) (m := t + 1) (fun _ _ => rfl)
    rw [h0 0, if_pos rfl, toL_zero (fun s h1 _ => by rw [h0 s, if_neg (by omega)])]
  · rw [hl, nxt, hn]
    simp only
    rw [if_pos (Or.inl (by omega))]
/-- the walk stands at a world -/
def WkAt (S n : Nat) (g : Nat → Nat) (l : List Nat) (τ : Tau) : Prop :=
  tI τ 18 3 = nI S ∧ tI τ 18 4 = nI n ∧ (∀ s, s < 16 → tA τ 20 s = nI (g s)) ∧ ∃ (t : Nat) (f : Nat → Nat), tI τ 18 5 = nI t ∧ RowOf S n t f l ∧ (∀ i, i < t → tA τ 19 i = nI (f i)) ∧ (∀ i, i ≤ t → tA τ 21 i = nI (sumTo (fun j => g (f j)) i))
theorem x_fill_loop {t v b w : Nat} (p1 p2 : Int32) (ht : t ≤ 6) (p : Nat) : ∀ (n i : Nat) (τ : Tau), p ≤ i → i ≤ t → t - i < n → tI τ 18 5 = nI t → p2 = nI v → (tA τ 21 i = nI (b + (i - p) * w)) →
    ∃ τ', fX5_fillFrom_27 p1 p2 n τ (nI w) (nI i) = some τ' ∧ Fr [] [19, 21] τ τ' ∧ (∀ j, tA τ' 19 j = if i ≤ j ∧ j < t then nI v else tA τ 19 j) ∧ (∀ j, tA τ' 21 j = if i < j ∧ j ≤ t then nI (b + (j - p) * w) else tA τ 21 j) := by
  intro n
  induction n with
  | zero => intro i τ _ _ h; omega
  | succ n ih =>
    intro i τ hpi hit hn h5 hp2 hb
    rw [fX5_fillFrom_27, if_neg (nI_pos (by omega)), h5]
    by_cases hlt : i < t
    · rw [if_neg (nI_ge hlt (by omega)), i6, if_neg (nI_ge (show i < 6 by omega) (by omega)), i1, nI_add, i7, if_neg (nI_ge (show i + 1 < 7 by omega) (by omega)), if_neg (nI_in (show i < 6 by omega) (by decide)), nm_i, if_neg (nI_in (show i < 7 by omega) (by decide)), if_neg (nI_in (show i + 1 < 7 by omega) (by decide)), nm_i, nm_i]
      simp only [nI_clamp (show i < 2 ^ 31 by omega), nI_clamp (show i + 1 < 2 ^ 31 by omega)]
      rw [show tA (sA τ 19 i p2) 21 i = nI (b + (i - p) * w) from (by rw [tA_sA, if_neg (by omega)]; exact hb), nI_add]
      obtain ⟨τ', e, hF, h19, h21⟩ := ih (i + 1) (sA (sA τ 19 i p2) 21 (i + 1) (nI (b + (i - p) * w + w))) (by omega) hlt (by omega) h5 hp2 (by
        rw [tA_sA, if_pos ⟨rfl, rfl⟩]
        congr 1
        rw [show i + 1 - p = (i - p) + 1 by omega, Nat.add_mul]
        omega)
      refine ⟨τ', e, ((Fr.sA (by decide)).tr (Fr.sA (by decide))).tr hF, fun j => ?_, fun j => ?_⟩
      · rw [h19 j, tA_sA, if_neg (show ¬ (19 = 21 ∧ _) by omega), tA_sA, hp2]
        by_cases g1 : i + 1 ≤ j ∧ j < t
        · rw [if_pos g1, if_pos (by omega)]
        · rw [if_neg g1]
          by_cases g2 : j = i
          · rw [if_pos ⟨rfl, g2⟩, if_pos (by omega)]
          · rw [if_neg (fun z => g2 z.2), if_neg (by omega)]
      · rw [h21 j, tA_sA, tA_sA]
        by_cases g1 : i + 1 < j ∧ j ≤ t
        · rw [if_pos g1, if_pos (by omega)]
        · rw [if_neg g1]
          by_cases g2 : j = i + 1
          · rw [if_pos ⟨rfl, g2⟩, if_pos (by omega), g2]
            congr 1
            rw [show i + 1 - p = (i - p) + 1 by omega, Nat.add_mul]
            omega
          · rw [if_neg (fun z => g2 z.2), if_neg (show ¬ (21 = 19 ∧ _) by omega), if_neg (by omega)]
    · have : i = t := by omega
      subst this
      rw [if_pos (nI_le (Nat.le_refl _) (by omega))]
      refine ⟨τ, rfl, Fr.rf, fun j => by rw [if_neg (by omega)], fun j => by rw [if_neg (by omega)]⟩
theorem x_fill {τ : Tau} {g : Nat → Nat} {t p v b : Nat} (ht : t ≤ 6) (hp : p ≤ t) (hv : v < 16) (h5 : tI τ 18 5 = nI t) (hg : ∀ s, s < 16 → tA τ 20 s = nI (g s)) (hb : tA τ 21 p = nI b) :
    ∃ τ', fX5_fillFrom τ (nI p) (nI v) = some τ' ∧ Fr [] [19, 21] τ τ' ∧ (∀ j, tA τ' 19 j = if p ≤ j ∧ j < t then nI v else tA τ 19 j) ∧ (∀ j, tA τ' 21 j = if p < j ∧ j ≤ t then nI (b + (j - p) * g v) else tA τ 21 j) := by
  unfold fX5_fillFrom fX5_fillFrom_23
  rw [if_neg (nI_pos (by omega)), i16, if_neg (nI_ge hv (by omega)), if_neg (nI_in hv (by decide)), nI_clamp (by omega), hg v hv]
  exact x_fill_loop _ _ ht p FU p τ (Nat.le_refl _) hp (by unfold FU; omega) h5 rfl (by rw [hb, Nat.sub_self, Nat.zero_mul, Nat.add_zero])
/-- the next world; or none -/
theorem x_adv69 {S n : Nat} {g : Nat → Nat} {l : List Nat} {τ : Tau} (hn : n ≤ 6) (hS : 1 < S) (hS16 : S ≤ 16) (h : WkAt S n g l τ) (hr : ∀ t f, tI τ 18 5 = nI t → RowOf S n t f l → (∀ i, i < t → tA τ 19 i = nI (f i)) → ∀ i, i < t → f i = S - 1) :
    (∃ l' τ', nxt l = some l' ∧ fX5_advance_69 τ = some (true, τ') ∧ WkAt S n g l' τ' ∧ Fr [(18, 5)] [19, 21] τ τ' ∧ tA τ' 21 0 = tA τ 21 0) ∨ (nxt l = none ∧ fX5_advance_69 τ = some (false, τ)) := by
  obtain ⟨h3, h4, hg, t, f, h5, hrow, h19, h21⟩ := id h
  have hr := hr t f h5 hrow h19
  obtain ⟨m1, m2⟩ := row_more hrow hS hr
  have htn := hrow.1
  unfold fX5_advance_69
  rw [h5, h4]
  by_cases hlt : t < n
  · rw [if_pos (nI_lt hlt (by omega)), nm_i, i1, nI_add, i0]
    obtain ⟨l', e1, e2⟩ := m1 hlt
    obtain ⟨τ', q1, q2, q3, q4⟩ := x_fill (τ := sI τ 18 5 (nI (t + 1))) (g := g) (t := t + 1) (p := 0) (v := 0) (b := 0) (by omega) (by omega) (by omega) (by rw [tI_sI]; simp) (fun s hs => hg s hs) (by rw [tA_sI, h21 0 (by omega)]; rfl)
    left
    refine ⟨l', τ', e1, ?_, ?_, ?_, ?_⟩
    · rw [q1]; rfl
    · have qI := q2.1
      refine ⟨?_, ?_, fun s hs => ?_, t + 1, fun _ => 0, ?_, e2, fun i hi => ?_, fun i hi => ?_⟩
      · rw [(qI 18 3 (by decide)).1, tI_sI]; simp [h3]
      · rw [(qI 18 4 (by decide)).1, tI_sI]; simp [h4]
      · rw [(q2.2 20 (by decide) s).1]; exact hg s hs
      · rw [(qI 18 5 (by decide)).1, tI_sI]; simp
      · rw [q3 i, if_pos ⟨by omega, hi⟩]
      · rw [q4 i]
        by_cases hi0 : 0 < i
        · rw [if_pos ⟨hi0, hi⟩]
          congr 1
          have : ∀ m, sumTo (fun _ => g 0) m = m * g 0 := by
            intro m
            induction m with
            | zero => simp [sumTo]
            | succ m ih => rw [sumTo, ih, Nat.add_mul]; omega
          rw [this, Nat.sub_zero, Nat.zero_add]
        · have : i = 0 := by omega
          subst this
          rw [if_neg (by omega), tA_sI, h21 0 (by omega)]
          rfl
    · exact (Fr.sI (by decide)).tr (q2.wk (by decide) (by decide))
    · rw [q4 0, if_neg (by omega)]; rfl
  · rw [if_neg (nI_nlt (by omega) (by omega))]
    exact Or.inr ⟨m2 (by omega), rfl⟩
theorem x_adv41 {S n : Nat} {g : Nat → Nat} {l : List Nat} {τ : Tau} (hn : n ≤ 6) (hS16 : S ≤ 16) (h : WkAt S n g l τ) {p t : Nat} {f : Nat → Nat} (h5 : tI τ 18 5 = nI t) (hrow : RowOf S n t f l) (h19 : ∀ i, i < t → tA τ 19 i = nI (f i)) (h21 : ∀ i, i ≤ t → tA τ 21 i = nI (sumTo (fun j => g (f j)) i)) (hp : p < t) (hv : f p + 1 < S) (hr : ∀ i, p < i → i < t → f i = S - 1) :
    ∃ l' τ', nxt l = some l' ∧ fX5_advance_41 τ (nI p) = some (true, τ') ∧ WkAt S n g l' τ' ∧ Fr [(18, 5)] [19, 21] τ τ' ∧ tA τ' 21 0 = tA τ 21 0 := by
  obtain ⟨h3, h4, hg, -⟩ := id h
  have htn := hrow.1
  obtain ⟨l', e1, e2⟩ := row_up hrow hp hv hr
  unfold fX5_advance_41
  rw [if_neg (nI_pos (by omega)), i6, if_neg (nI_ge (show p < 6 by omega) (by omega)), if_neg (nI_in (show p < 6 by omega) (by decide)), nI_clamp (by omega), h19 p hp, i1, nI_add]
  obtain ⟨τ', q1, q2, q3, q4⟩ := x_fill (g := g) (p := p) (v := f p + 1) (by omega) (by omega) (by omega) h5 hg (h21 p (by omega))
  have qI := q2.1
  refine ⟨l', τ', e1, by rw [q1]; rfl, ⟨?_, ?_, fun s hs => ?_, t, _, ?_, e2, fun i hi => ?_, fun i hi => ?_⟩, q2.wk (by decide) (by decide), ?_⟩
  · rw [(qI 18 3 (by decide)).1, h3]
  · rw [(qI 18 4 (by decide)).1, h4]
  · rw [(q2.2 20 (by decide) s).1]; exact hg s hs
  · rw [(qI 18 5 (by decide)).1, h5]
  · rw [q3 i]
    by_cases hi2 : p ≤ i
    · rw [if_pos ⟨hi2, hi⟩, if_neg (by omega)]
    · rw [if_neg (fun z => hi2 z.1), if_pos (by omega)]; exact h19 i hi
  · rw [q4 i]
    by_cases hi2 : p < i
    · rw [if_pos ⟨hi2, hi⟩]
      congr 1
      obtain ⟨m, rfl⟩ : ∃ m, i = p + m := ⟨i - p, by omega⟩
      rw [sumTo_split]
      congr 1
      · exact sumTo_congr (fun j hj => by rw [if_pos hj])
      · rw [show p + m - p = m by omega]
        have : ∀ m, sumTo (fun j => g (if p + j < p then f (p + j) else f p + 1)) m = m * g (f p + 1) := by
          intro m
          induction m with
          | zero => simp [sumTo]
          | succ m ih => rw [sumTo, ih, if_neg (by omega), Nat.add_mul]; omega
        rw [this]
    · rw [if_neg (fun z => hi2 z.1), h21 i hi]
      congr 1
      exact sumTo_congr (fun j hj => by rw [if_pos (by omega)])
  · rw [q4 0, if_neg (by omega)]
theorem x_advance {S n : Nat} {g : Nat → Nat} {l : List Nat} {τ : Tau} (hn : n ≤ 6) (hS : 1 < S) (hS16 : S ≤ 16) (h : WkAt S n g l τ) :
    (∃ l' τ', nxt l = some l' ∧ fX5_advance τ = some (true, τ') ∧ WkAt S n g l' τ' ∧ Fr [(18, 5)] [19, 21] τ τ' ∧ tA τ' 21 0 = tA τ 21 0) ∨ (nxt l = none ∧ fX5_advance τ = some (false, τ)) := by
  obtain ⟨h3, h4, hg, t, f, h5, hrow, h19, h21⟩ := id h
  have htn := hrow.1
  have key : ∀ N k, k ≤ t → k < N → (∀ i, k ≤ i → i < t → f i = S - 1) →
      (∃ l' τ', nxt l = some l' ∧ fX5_advance_7 N τ (nI k - 1) = some (true, τ') ∧ WkAt S n g l' τ' ∧ Fr [(18, 5)] [19, 21] τ τ' ∧ tA τ' 21 0 = tA τ 21 0) ∨ (nxt l = none ∧ fX5_advance_7 N τ (nI k - 1) = some (false, τ)) := by
    intro N
    induction N with
    | zero => intro k _ h; omega
    | succ N ih =>
      intro k hk hN hr
      rw [fX5_advance_7]
      cases k with
      | zero =>
        rw [if_pos (by decide), fX5_advance_41, if_pos (by decide)]
        refine x_adv69 hn hS hS16 h (fun t' f' h5' hrow' h19' i hi => ?_)
        have ht' : t' = t := nI_inj (by have := hrow'.1; omega) (by omega) (h5'.symm.trans h5)
        subst ht'
        have := nI_inj (by have := hrow'.2.1 i hi; omega) (by have := hrow.2.1 i hi; omega) ((h19' i hi).symm.trans (h19 i hi))
        rw [this]
        exact hr i (by omega) hi
      | succ k =>
        rw [nI_pred, if_neg (nI_pos (by omega)), i6, if_neg (nI_ge (show k < 6 by omega) (by omega)), if_neg (nI_in (show k < 6 by omega) (by decide)), nI_clamp (by omega), h19 k (by omega), h3, i1, pk_sub (by omega)]
        have hfk := hrow.2.1 k (by omega)
        by_cases hlt : f k < S - 1
        · rw [if_pos (nI_lt hlt (by omega))]
          exact Or.inl (x_adv41 hn hS16 h h5 hrow h19 h21 (by omega) (by omega) (fun i h1 h2 => hr i (by omega) h2))
        · rw [if_neg (nI_nlt (by omega) (by omega)), nm_i]
          have e : nI k + (-nI 1) = nI k - 1 := by
            apply Int32.toBitVec_inj.mp
            rw [Int32.toBitVec_add, Int32.toBitVec_sub, Int32.toBitVec_neg]
            exact (BitVec.sub_eq_add_neg _ _).symm
          rw [e]
          refine ih k (by omega) (by omega) (fun i h1 h2 => ?_)
          by_cases hik : i = k
          · subst hik; omega
          · exact hr i (by omega) h2
  unfold fX5_advance
  rw [nm_i, h5]
  exact key FU t (Nat.le_refl _) (by unfold FU; omega) (fun i h1 h2 => by omega)
