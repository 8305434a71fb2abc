/-! the class's walk begins, tells its sums, marks the worlds -/
/-- how many things of a sort a world has -/
def lc (l : List Nat) (s : Nat) : Nat := l.getD (s + 1) 0
theorem row_lc {S n t : Nat} {f : Nat → Nat} {l : List Nat} (h : RowOf S n t f l) (s : Nat) : lc l s = cf f t s := by
  obtain ⟨h1, h2, h3, rfl⟩ := h
  unfold lc
  rw [List.getD_cons_succ]
  by_cases hs : s < S
  · rw [toL_get hs, Nat.zero_add]
  · rw [cf_none (fun i hi => by have := h2 i hi; omega)]
    simp [List.getD, toL, hs]
theorem row_tot {S n t : Nat} {f : Nat → Nat} {l : List Nat} (h : RowOf S n t f l) (hS : S ≤ 16) : sumTo (lc l) 16 = t := by
  rw [sumTo_congr (g := cf f t) (fun s _ => row_lc h s)]
  exact cf_total f 16 t (fun i hi => by have := h.2.1 i hi; omega)
theorem row_head {S n t : Nat} {f : Nat → Nat} {l : List Nat} (h : RowOf S n t f l) : l.getD 0 0 = n - t := by
  rw [h.2.2.2]; rfl
theorem x_sum {S n : Nat} {d : Sd} {l : List Nat} {τ : Tau} (hn : n ≤ 6) (hS16 : S ≤ 16) (h : WkAt S n (wgt d) l τ) :
    fX5_sum τ = some (nI (cnt (sdX d) (lc l) + 16 * cnt (sdY d) (lc l) + 256 * cnt (sdX d &&& sdY d) (lc l))) ∧ sumTo (lc l) 16 ≤ 6 := by
  obtain ⟨h3, h4, hg, t, f, h5, hrow, h19, h21⟩ := h
  have htn := hrow.1
  refine ⟨?_, by rw [row_tot hrow hS16]; omega⟩
  unfold fX5_sum
  rw [h5, if_neg (nI_pos (by omega)), i7, if_neg (nI_ge (show t < 7 by omega) (by omega)), if_neg (nI_in (show t < 7 by omega) (by decide)), nI_clamp (by omega), h21 t (Nat.le_refl _)]
  rw [cf_sum f (wgt d) 16 t (fun i hi => by have := hrow.2.1 i hi; omega)]
  have e : ∀ s, cf f t s = lc l s := fun s => (row_lc hrow s).symm
  simp only [e]
  rw [wsum d (lc l) 16]
  rfl
theorem x_true {S n : Nat} {d : Sd} {l : List Nat} {τ : Tau} {q : Nat} (hn : n ≤ 6) (hS16 : S ≤ 16) (hq : SX τ q d) (hw : sdW d < 8) (hd : sdN d ≤ 6) (h : WkAt S n (wgt d) l τ) :
    ∃ r, fX5_sum τ = some r ∧ fX3_isTrue q τ r = hold d (lc l) := by
  obtain ⟨e1, e2⟩ := x_sum hn hS16 h
  refine ⟨_, e1, ?_⟩
  have b1 := cnt_le (sdX d) (lc l)
  have b2 := cnt_le (sdY d) (lc l)
  have b3 := cnt_le (sdX d &&& sdY d) (lc l)
  exact x_isTrue hq hw hd (by omega) (by omega) (by omega)
theorem SX.fr {τ τ' : Tau} {q : Nat} {d : Sd} {F : List (Nat × Nat)} {A : List Nat} (h : SX τ q d) (hF : Fr F A τ τ') (hq : ∀ j, (q, j) ∉ F) : SX τ' q d := by
  obtain ⟨h0, h1, h2, h3, h4, h5⟩ := h
  exact ⟨by rw [(hF.1 q 0 (hq 0)).1, h0], by rw [(hF.1 q 1 (hq 1)).1, h1], by rw [(hF.1 q 2 (hq 2)).1, h2], by rw [(hF.1 q 3 (hq 3)).1, h3], by rw [(hF.1 q 5 (hq 5)).1, h4], by rw [(hF.1 q 4 (hq 4)).1, h5]⟩
theorem x_begin {τ : Tau} {q : Nat} {d : Sd} {S n : Nat} (h : SX τ q d) (hX : sdX d < 65536) (hY : sdY d < 65536) (hS : S ≤ 16) (hn : n ≤ 6) (h21 : tA τ 21 0 = nI 0) :
    ∃ τ', fX5_begin q τ (nI S) (nI n) = some τ' ∧ WkAt S n (wgt d) (firstW (S + 1) n) τ' ∧ Fr [(18, 3), (18, 4), (18, 5)] [20] τ τ' := by
  have key : ∀ N i τ1, i ≤ 16 → 16 - i < N → SX τ1 q d → tA τ1 21 0 = nI 0 → (∀ s, s < i → tA τ1 20 s = nI (wgt d s)) → Fr [(18, 3), (18, 4), (18, 5)] [20] τ τ1 →
      ∃ τ', fX5_begin_3 q (nI S) (nI n) N τ1 (nI i) = some τ' ∧ WkAt S n (wgt d) (firstW (S + 1) n) τ' ∧ Fr [(18, 3), (18, 4), (18, 5)] [20] τ τ' := by
    intro N
    induction N with
    | zero => intro i _ _ h; omega
    | succ N ih =>
      intro i τ1 hi hN hq h0 hg hF
      rw [fX5_begin_3]
      by_cases hlt : i < 16
      · rw [i16, if_neg (nI_ge hlt (by omega)), nm_i, x_weight hq hX hY hlt, fX5_begin_33, if_neg (nI_in hlt (by decide)), nm_i, nm_i, nI_clamp (by omega), i1, nI_add]
        refine ih (i + 1) (sA τ1 20 i (nI (wgt d i))) (by omega) (by omega) hq (by rw [tA_sA]; exact h0) (fun s hs => ?_) (hF.tr (Fr.sA (by decide)))
        rw [tA_sA]
        by_cases e : s = i
        · rw [if_pos ⟨rfl, e⟩, e]
        · rw [if_neg (fun z => e z.2)]; exact hg s (by omega)
      · have : i = 16 := by omega
        subst this
        rw [i16, if_pos (nI_le (Nat.le_refl _) (by omega)), nm_i, nm_i, nm_i]
        rw [if_neg (nI_nlt hS (by omega)), i6, if_neg (nI_nlt hn (by omega)), i0]
        refine ⟨_, rfl, ⟨?_, ?_, fun s hs => ?_, 0, fun _ => 0, ?_, row_zero S n _, fun i hi => by omega, fun i hi => ?_⟩, ?_⟩
        · simp [tI_sI]
        · simp [tI_sI]
        · rw [tA_sI, tA_sI, tA_sI]; exact hg s hs
        · simp [tI_sI]
        · have : i = 0 := by omega
          subst this
          rw [tA_sI, tA_sI, tA_sI, h0]; rfl
        · exact ((hF.tr (Fr.sI (by decide))).tr (Fr.sI (by decide))).tr (Fr.sI (by decide))
  unfold fX5_begin
  rw [i0]
  exact key FU 0 τ (by omega) (by unfold FU; omega) h h21 (fun s hs => by omega) Fr.rf
theorem nar_char {q : Nat} (h : q < 65536) : vp_nar .char (((nI q).toUInt32 % 65536).toInt32) = nI q := by
  rw [pk_char, pk_tn (by omega), Nat.mod_eq_of_lt h]
  unfold vp_nar
  rw [(pk_charN h).1]
def unbit (m B : Nat) : Nat := m &&& (B ^^^ (2 ^ 31 - 1))
theorem unbit_lt {m B : Nat} (h : m < 1024) : unbit m B < 1024 := Nat.lt_of_le_of_lt Nat.and_le_left h
theorem or_lt1024 {a b : Nat} (ha : a < 1024) (hb : b < 1024) : a ||| b < 1024 := Nat.or_lt_two_pow (n := 10) ha hb
/-- what a mark becomes: the sayings B all alike d -/
def newMark (m B : Nat) (b : Bool) : Nat := if b then unbit m B ||| B else unbit m B
theorem newMark_lt {m B : Nat} {b : Bool} (h : m < 1024) (hB : B < 1024) : newMark m B b < 1024 := by
  unfold newMark
  split
  · exact or_lt1024 (unbit_lt h) hB
  · exact unbit_lt h
theorem x_mark {τ : Tau} {q : Nat} {d : Sd} {S n B ml : Nat} {mk : Nat → Nat} (hq : SX τ q d) (hqs : isSay q) (hw : sdW d < 8) (hd : sdN d ≤ 6) (hX : sdX d < 65536) (hY : sdY d < 65536) (hS1 : 1 < S) (hS : S ≤ 16) (hn : n ≤ 6) (hT : tot S n < 100000)
    (h6 : tI τ 17 6 = nI S) (h7 : tI τ 17 7 = nI n) (h8 : tI τ 17 8 = nI (tot S n)) (hml : tI τ 26 0 = nI ml) (hml2 : ml < 100000) (hle : tot S n ≤ ml) (h21 : tA τ 21 0 = nI 0) (hmk : ∀ w, w < tot S n → tA τ 26 w = nI (mk w) ∧ mk w < 1024) (hB : B < 1024) :
    ∃ τ', fX0_mark q τ (nI B) = some τ' ∧ Fr [(18, 3), (18, 4), (18, 5)] [19, 20, 21, 26] τ τ' ∧ tA τ' 21 0 = nI 0 ∧ ∀ w, tA τ' 26 w = if w < tot S n then nI (newMark (mk w) B (hold d (lc (wv S n w)))) else tA τ 26 w := by
  obtain ⟨τ1, e1, hwk, hF1⟩ := x_begin (S := S) (n := n) hq hX hY hS hn h21
  have hq18 : ∀ j, (q, j) ∉ ([(18, 3), (18, 4), (18, 5)] : List (Nat × Nat)) := by
    intro j hm
    rcases hqs with hz | hz <;> simp at hm <;> omega
  have hpos : 0 < tot S n := by
    have := rank_lt (firstW (S + 1) n)
    rw [firstW_len, firstW_sum (by omega)] at this
    exact Nat.lt_of_le_of_lt (Nat.zero_le _) this
  have key : ∀ N w τ2, w < tot S n → tot S n - w < N → WkAt S n (wgt d) (wv S n w) τ2 → Fr [(18, 3), (18, 4), (18, 5)] [19, 20, 21, 26] τ τ2 → tA τ2 21 0 = nI 0 →
      (∀ v, tA τ2 26 v = if v < w then nI (newMark (mk v) B (hold d (lc (wv S n v)))) else tA τ 26 v) →
      ∃ τ', fX0_mark_21 q (nI B) N τ2 (nI 1) (nI w) = some τ' ∧ Fr [(18, 3), (18, 4), (18, 5)] [19, 20, 21, 26] τ τ' ∧ tA τ' 21 0 = nI 0 ∧ ∀ v, tA τ' 26 v = if v < tot S n then nI (newMark (mk v) B (hold d (lc (wv S n v)))) else tA τ 26 v := by
    intro N
    induction N with
    | zero => intro w _ _ h; omega
    | succ N ih =>
      intro w τ2 hw1 hN hwk2 hF h0 hm
      have k8 : tI τ2 17 8 = nI (tot S n) := by rw [(hF.1 17 8 (by decide)).1, h8]
      have kml : tI τ2 26 0 = nI ml := by rw [(hF.1 26 0 (by decide)).1, hml]
      have kq : SX τ2 q d := hq.fr hF hq18
      obtain ⟨r, s1, s2⟩ := x_true hn hS kq hw hd hwk2
      have ow : tA τ2 26 w = nI (mk w) := by rw [hm w, if_neg (by omega)]; exact (hmk w hw1).1
      have lw := (hmk w hw1).2
      rw [fX0_mark_21, k8, kml, nI_clamp (by omega), if_neg (nI_ge hw1 (by omega)), if_neg (nI_ge (show w < ml by omega) (by omega)), i0, if_neg (by decide), ← i0, if_neg (nI_in (show w < ml by omega) (by omega)), nm_i, nI_clamp (by omega), ow, s1, Option.bind_some, nm_i, s2, nI_not (by omega) (by omega)]
      have fin : ∀ v, v = newMark (mk w) B (hold d (lc (wv S n w))) → ∃ τ', fX0_mark_86 q (nI B) (fX0_mark_21 q (nI B) N) τ2 (nI w) (nI v) (nI w) = some τ' ∧ Fr [(18, 3), (18, 4), (18, 5)] [19, 20, 21, 26] τ τ' ∧ tA τ' 21 0 = nI 0 ∧ ∀ v, tA τ' 26 v = if v < tot S n then nI (newMark (mk v) B (hold d (lc (wv S n v)))) else tA τ 26 v := by
        intro v hv
        have hv1 : v < 1024 := by rw [hv]; exact newMark_lt lw hB
        rw [fX0_mark_86, kml, nI_clamp (by omega), if_neg (nI_in (show w < ml by omega) (by omega)), nm_i, nI_clamp (by omega), nar_char (by omega)]
        have hwk3 : WkAt S n (wgt d) (wv S n w) (sA τ2 26 w (nI v)) := by
          obtain ⟨a1, a2, a3, t, f, a4, a5, a6, a7⟩ := hwk2
          exact ⟨a1, a2, fun s hs => by rw [tA_sA, if_neg (by omega)]; exact a3 s hs, t, f, a4, a5, fun i hi => by rw [tA_sA, if_neg (by omega)]; exact a6 i hi, fun i hi => by rw [tA_sA, if_neg (by omega)]; exact a7 i hi⟩
        have hmv : ∀ u, tA (sA τ2 26 w (nI v)) 26 u = if u < w + 1 then nI (newMark (mk u) B (hold d (lc (wv S n u)))) else tA τ 26 u := by
          intro u
          rw [tA_sA]
          by_cases e : u = w
          · rw [if_pos ⟨rfl, e⟩, e, if_pos (by omega), hv]
          · rw [if_neg (fun z => e z.2), hm u]
            by_cases hu : u < w
            · rw [if_pos hu, if_pos (by omega)]
            · rw [if_neg hu, if_neg (by omega)]
        rcases x_advance hn hS1 hS hwk3 with ⟨l', τ3, g1, g2, g3, g4, g5⟩ | ⟨g1, g2⟩
        · rw [g2, Option.bind_some, nm_i, nm_i, i1, nI_add]
          have hw2 : w + 1 < tot S n := by
            rcases Nat.lt_or_ge (w + 1) (tot S n) with z | z
            · exact z
            · have hb := wv_ok (S := S) (n := n) w hw1
              have hne : wv S n w ≠ [] := fun y => by rw [y] at hb; simp at hb
              have := (nxt_none_iff hne).mpr (by rw [hb.1, hb.2.1, hb.2.2]; unfold tot at z hw1; omega)
              rw [this] at g1
              cases g1
          have el : l' = wv S n (w + 1) := by
            have := wv_next (S := S) (n := n) (w := w) hw2
            rw [g1] at this
            exact Option.some.inj this
          subst el
          refine ih (w + 1) τ3 hw2 (by omega) g3 ((hF.tr (Fr.sA (by decide))).tr (g4.wk (by decide) (by decide))) (by rw [g5, tA_sA, if_neg (by omega)]; exact h0) (fun u => ?_)
          rw [(g4.2 26 (by decide) u).1]
          exact hmv u
        · rw [g2, Option.bind_some, nm_i, nm_i, i1, nI_add]
          have hw2 := wv_end hw1 g1
          have hw2 : w + 1 = tot S n := hw2
          have hN2 : N ≠ 0 := by omega
          obtain ⟨N', rfl⟩ : ∃ N', N = N' + 1 := ⟨N - 1, by omega⟩
          rw [fX0_mark_21, show tI (sA τ2 26 w (nI v)) 17 8 = nI (tot S n) from k8, if_pos (nI_le (by omega) (by omega))]
          exact ⟨_, rfl, hF.tr (Fr.sA (by decide)), by rw [tA_sA, if_neg (by omega)]; exact h0, fun u => by rw [hmv u, hw2]⟩
      by_cases hb : hold d (lc (wv S n w)) = true
      · rw [hb, if_neg (by decide), nI_or]
        exact fin _ (by unfold newMark; rw [hb]; rfl)
      · have hb : hold d (lc (wv S n w)) = false := by cases hh : hold d (lc (wv S n w)) <;> simp_all
        rw [hb, if_pos (by decide)]
        exact fin _ (by unfold newMark; rw [hb]; rfl)
  unfold fX0_mark
  rw [h6, h7, e1, Option.bind_some, i1, i0]
  exact key FU 0 τ1 hpos (by unfold FU; omega) hwk (hF1.wk (by decide) (by decide)) (by rw [(hF1.2 21 (by decide) 0).1, h21]) (fun v => by rw [if_neg (by omega), (hF1.2 26 (by decide) v).1])
