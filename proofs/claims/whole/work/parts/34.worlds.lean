/-! worlds as lists: what is left of most things, then how many things of each sort; their order and their numbers -/
def rows : Nat → Nat → Nat
  | 0, 0 => 1
  | 0, _ + 1 => 0
  | S + 1, t => sumTo (rows S) (t + 1)
def firstW (S t : Nat) : List Nat := match S with
  | 0 => []
  | S + 1 => t :: List.replicate S 0
def nxt : List Nat → Option (List Nat)
  | [] => none
  | a :: l => match nxt l with
    | some l' => some (a :: l')
    | none => if a = 0 ∨ l = [] then none else some ((a - 1) :: firstW l.length (l.sum + 1))
def rank : List Nat → Nat
  | [] => 0
  | _ :: l => sumTo (rows l.length) l.sum + rank l
theorem firstW_len (S t : Nat) : (firstW S t).length = S := by cases S <;> simp [firstW]
theorem sum_rep0 (n : Nat) : (List.replicate n 0).sum = 0 := by
  induction n with
  | zero => rfl
  | succ n ih => rw [List.replicate_succ, List.sum_cons, ih]
theorem firstW_sum {S : Nat} (h : S ≠ 0) (t : Nat) : (firstW S t).sum = t := by
  cases S with
  | zero => exact absurd rfl h
  | succ S => simp [firstW, sum_rep0]
theorem rank_rep0 (n : Nat) : rank (List.replicate n 0) = 0 := by
  induction n with
  | zero => rfl
  | succ n ih => rw [List.replicate_succ, rank, sum_rep0, ih]; rfl
theorem rank_firstW (S t : Nat) : rank (firstW S t) = 0 := by
  cases S with
  | zero => rfl
  | succ S => rw [firstW, rank, sum_rep0, rank_rep0]; rfl
theorem rows0 (a : Nat) : sumTo (rows 0) (a + 1) = 1 := by
  induction a with
  | zero => rfl
  | succ a ih => rw [sumTo, ih, rows]
theorem rank_lt : ∀ l : List Nat, rank l < rows l.length l.sum
  | [] => by decide
  | a :: l => by
    have h := rank_lt l
    rw [rank, List.length_cons, List.sum_cons, rows]
    have h2 := sumTo_le (f := rows l.length) (show l.sum + 1 ≤ a + l.sum + 1 by omega)
    rw [sumTo] at h2
    omega
theorem rank_last : ∀ l : List Nat, l ≠ [] → nxt l = none → rank l + 1 = rows l.length l.sum
  | [], h, _ => absurd rfl h
  | a :: l, _, h => by
    rw [nxt] at h
    cases hn : nxt l with
    | some l' => rw [hn] at h; cases h
    | none =>
      rw [hn] at h
      simp only [ite_eq_left_iff, reduceCtorEq, imp_false, Decidable.not_not] at h
      rw [rank, List.length_cons, List.sum_cons, rows]
      by_cases hl : l = []
      · subst hl
        rw [List.sum_nil, List.length_nil, Nat.add_zero, rows0]
        rfl
      · have ha : a = 0 := h.resolve_right hl
        subst ha
        have := rank_last l hl hn
        rw [Nat.zero_add, sumTo]
        omega
theorem nxt_some : ∀ l l' : List Nat, nxt l = some l' → rank l' = rank l + 1 ∧ l'.length = l.length ∧ l'.sum = l.sum
  | [], l', h => by cases h
  | a :: l, l', h => by
    rw [nxt] at h
    cases hn : nxt l with
    | some l2 =>
      rw [hn] at h
      cases h
      obtain ⟨h1, h2, h3⟩ := nxt_some l l2 hn
      rw [rank, rank, h1, h2, h3, List.length_cons, List.length_cons, List.sum_cons, List.sum_cons, h2, h3]
      exact ⟨by omega, rfl, rfl⟩
    | none =>
      rw [hn] at h
      by_cases hc : a = 0 ∨ l = []
      · rw [if_pos hc] at h; cases h
      · rw [if_neg hc] at h
        cases h
        have hl : l ≠ [] := fun z => hc (Or.inr z)
        have h0 : l.length ≠ 0 := fun z => hl (List.length_eq_zero_iff.mp z)
        have hb := rank_last l hl hn
        rw [rank, rank, rank_firstW, firstW_len, firstW_sum h0, sumTo, List.length_cons, List.length_cons, firstW_len, List.sum_cons, List.sum_cons, firstW_sum h0]
        refine ⟨by omega, rfl, ?_⟩
        have : a ≠ 0 := fun z => hc (Or.inl z)
        omega
theorem nxt_none_iff {l : List Nat} (h : l ≠ []) : nxt l = none ↔ rank l + 1 = rows l.length l.sum := by
  refine ⟨rank_last l h, fun e => ?_⟩
  cases hn : nxt l with
  | none => rfl
  | some l' =>
    obtain ⟨h1, h2, h3⟩ := nxt_some l l' hn
    have := rank_lt l'
    rw [h1, h2, h3] at this
    omega
/-- the world number w: of S sorts, n things at most -/
def wv (S n : Nat) : Nat → List Nat
  | 0 => firstW (S + 1) n
  | w + 1 => (nxt (wv S n w)).getD []
theorem wv_ok {S n : Nat} : ∀ w, w < rows (S + 1) n → (wv S n w).length = S + 1 ∧ (wv S n w).sum = n ∧ rank (wv S n w) = w
  | 0, _ => ⟨firstW_len _ _, firstW_sum (by omega) _, rank_firstW _ _⟩
  | w + 1, h => by
    obtain ⟨h1, h2, h3⟩ := wv_ok (S := S) (n := n) w (by omega)
    have hne : wv S n w ≠ [] := fun z => by rw [z] at h1; simp at h1
    cases hn : nxt (wv S n w) with
    | none =>
      have := (nxt_none_iff hne).mp hn
      rw [h1, h2, h3] at this
      omega
    | some l' =>
      obtain ⟨g1, g2, g3⟩ := nxt_some _ _ hn
      rw [wv, hn]
      exact ⟨g2.trans h1, g3.trans h2, by show rank l' = w + 1; rw [g1, h3]⟩
theorem wv_next {S n w : Nat} (h : w + 1 < rows (S + 1) n) : nxt (wv S n w) = some (wv S n (w + 1)) := by
  obtain ⟨h1, h2, h3⟩ := wv_ok w (show w < rows (S + 1) n by omega)
  have hne : wv S n w ≠ [] := fun z => by rw [z] at h1; simp at h1
  cases hn : nxt (wv S n w) with
  | none =>
    have := (nxt_none_iff hne).mp hn
    rw [h1, h2, h3] at this
    omega
  | some l' => rw [wv, hn]; rfl
theorem wv_end {S n w : Nat} (h : w < rows (S + 1) n) (hn : nxt (wv S n w) = none) : w + 1 = rows (S + 1) n := by
  obtain ⟨h1, h2, h3⟩ := wv_ok w h
  have hne : wv S n w ≠ [] := fun z => by rw [z] at h1; simp at h1
  have := (nxt_none_iff hne).mp hn
  rw [h1, h2, h3] at this
  exact this
/-- how many things of a sort, how many in all -/
def wc (S n w s : Nat) : Nat := (wv S n w).getD (s + 1) 0
def wsz (S n w : Nat) : Nat := n - (wv S n w).getD 0 0
/-- how many worlds -/
def tot (S n : Nat) : Nat := rows (S + 1) n
-- lists by functions
def toL (c : Nat → Nat) (i S : Nat) : List Nat := (List.range' i S).map c
theorem toL_succ (c : Nat → Nat) (i S : Nat) : toL c i (S + 1) = c i :: toL c (i + 1) S := by simp [toL, List.range'_succ]
theorem toL_len (c : Nat → Nat) (i S : Nat) : (toL c i S).length = S := by simp [toL]
theorem toL_congr {c d : Nat → Nat} {i S : Nat} (h : ∀ s, i ≤ s → s < i + S → c s = d s) : toL c i S = toL d i S := by
  unfold toL
  apply List.map_congr_left
  intro s hs
  rw [List.mem_range'_1] at hs
  exact h s hs.1 hs.2
theorem toL_get {c : Nat → Nat} {i S k : Nat} (h : k < S) : (toL c i S).getD k 0 = c (i + k) := by
  simp [toL, List.getD, h]
theorem toL_zero {c : Nat → Nat} {i S : Nat} (h : ∀ s, i ≤ s → s < i + S → c s = 0) : toL c i S = List.replicate S 0 := by
  induction S generalizing i with
  | zero => rfl
  | succ S ih => rw [toL_succ, List.replicate_succ, h i (by omega) (by omega), ih (fun s h1 h2 => h s (by omega) (by omega))]
/-- only the last is not 0: there is no next -/
theorem nxt_only_last {c : Nat → Nat} : ∀ (S i : Nat), (∀ s, i ≤ s → s + 1 < i + S → c s = 0) → nxt (toL c i S) = none ∧ (0 < S → (toL c i S).sum = c (i + S - 1))
  | 0, i, _ => ⟨rfl, fun h => absurd h (by omega)⟩
  | 1, i, _ => by
    rw [toL_succ]
    refine ⟨?_, fun _ => ?_⟩
    · simp [nxt, toL]
    · simp [toL]
  | S + 2, i, h => by
    have ih := nxt_only_last (c := c) (S + 1) (i + 1) (fun s h1 h2 => h s (by omega) (by omega))
    rw [toL_succ]
    refine ⟨?_, fun _ => ?_⟩
    · rw [nxt, ih.1]
      simp [h i (by omega) (by omega)]
    · rw [List.sum_cons, ih.2 (by omega), h i (by omega) (by omega), Nat.zero_add]
      congr 1
      omega
/-- the step that both programs take -/
def stepC (c : Nat → Nat) (last v : Nat) : Nat → Nat := fun s => if s = v + 1 then c last + 1 else if s = v then c v - 1 else if s = last then 0 else c s
theorem nxt_step {c : Nat → Nat} : ∀ (v i S : Nat), i ≤ v → v + 1 < i + S → c v ≠ 0 → (∀ s, v < s → s + 1 < i + S → c s = 0) → nxt (toL c i S) = some (toL (stepC c (i + S - 1) v) i S) := by
  intro v i S
  induction S generalizing i with
  | zero => intro h1 h2; omega
  | succ S ih =>
    intro h1 h2 h3 h4
    rw [toL_succ, toL_succ, nxt]
    by_cases e : i = v
    · subst e
      obtain ⟨hn, hs⟩ := nxt_only_last (c := c) S (i + 1) (fun s a b => h4 s (by omega) (by omega))
      have hS : 0 < S := by omega
      rw [hn]
      have hne : ¬ (c i = 0 ∨ toL c (i + 1) S = []) := by
        intro z
        rcases z with z | z
        · exact h3 z
        · have := toL_len c (i + 1) S
          rw [z] at this
          simp at this
          omega
      rw [if_neg hne, toL_len, hs hS]
      simp only
      congr 2
      · simp [stepC]
      · obtain ⟨S', rfl⟩ : ∃ S', S = S' + 1 := ⟨S - 1, by omega⟩
        rw [toL_succ, firstW]
        congr 1
        · simp only [stepC, if_true]
          congr 2
          omega
        · rw [toL_zero]
          intro s a b
          simp only [stepC]
          rw [if_neg (by omega), if_neg (by omega)]
          by_cases hl : s = i + (S' + 1 + 1) - 1
          · rw [if_pos hl]
          · rw [if_neg hl]
            exact h4 s (by omega) (by omega)
    · rw [ih (i + 1) (by omega) (by omega) h3 (fun s a b => h4 s a (by omega))]
      simp only
      congr 2
      · simp only [stepC]
        rw [if_neg (by omega), if_neg (by omega), if_neg (by omega)]
      · congr 1
        funext s
        rw [show i + 1 + S - 1 = i + (S + 1) - 1 by omega]
theorem toL_sum (c : Nat → Nat) : ∀ S, (toL c 0 S).sum = sumTo c S := by
  have key : ∀ S i, (toL c i S).sum = sumTo (fun s => c (i + s)) S := by
    intro S
    induction S with
    | zero => intro i; rfl
    | succ S ih =>
      intro i
      rw [toL_succ, List.sum_cons, ih (i + 1)]
      clear ih
      induction S with
      | zero => simp [sumTo]
      | succ S ih2 =>
        rw [sumTo, sumTo, ← Nat.add_assoc, ih2]
        congr 2
        omega
  intro S
  rw [key S 0]
  apply sumTo_congr
  intro s _
  rw [Nat.zero_add]
