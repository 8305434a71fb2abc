/-! the class's reader reads parts, meets and unions as the descent does -/
section XD
variable {K len : Nat} {tx : Nat → Nat}
/-- what a reader of parts keeps -/
def PQ (pp : PSt → Nat → Nat × PSt) (p : Nat) : Prop := ∀ s : PSt, s.2.1 ≤ 24 → (pp s p).1 < 65536 ∧ (pp s p).2.2.1 ≤ 24 ∧ ((pp s p).2.2.2 = none → s.2.2 = none ∧ s.2.1 < (pp s p).2.2.1)
theorem meetL_q {pp : PSt → Nat → Nat × PSt} {p : Nat} (h : PQ pp p) : ∀ n s v, v < 65536 → s.2.1 ≤ 24 → (pMeetL len tx pp p n s v).1 < 65536 ∧ (pMeetL len tx pp p n s v).2.2.1 ≤ 24 ∧ ((pMeetL len tx pp p n s v).2.2.2 = none → s.2.2 = none ∧ s.2.1 ≤ (pMeetL len tx pp p n s v).2.2.1) := by
  intro n
  induction n with
  | zero => intro s v hv hs; exact ⟨hv, hs, fun z => ⟨z, Nat.le_refl _⟩⟩
  | succ n ih =>
    intro s v hv hs
    rw [pMeetL]
    by_cases c : s.2.2 = none ∧ psSg len tx s 38 = true
    · rw [if_pos c]
      obtain ⟨a1, a2, a3⟩ := h (psAdv len tx s) hs
      obtain ⟨b1, b2, b3⟩ := ih (pp (psAdv len tx s) p).2 (v &&& (pp (psAdv len tx s) p).1) (Nat.lt_of_le_of_lt Nat.and_le_left hv) a2
      refine ⟨b1, b2, fun z => ⟨c.1, ?_⟩⟩
      obtain ⟨c1, c2⟩ := b3 z
      obtain ⟨_, d2⟩ := a3 c1
      have d2 : s.2.1 < (pp (psAdv len tx s) p).2.2.1 := d2
      exact Nat.le_trans (Nat.le_of_lt d2) c2
    · rw [if_neg c]
      exact ⟨hv, hs, fun z => ⟨z, Nat.le_refl _⟩⟩
theorem meet_q {pp : PSt → Nat → Nat × PSt} {p : Nat} (h : PQ pp p) : PQ (pMeet len tx pp) p := by
  intro s hs
  obtain ⟨a1, a2, a3⟩ := h s hs
  obtain ⟨b1, b2, b3⟩ := meetL_q (len := len) (tx := tx) h 80 (pp s p).2 (pp s p).1 a1 a2
  refine ⟨b1, b2, fun z => ?_⟩
  obtain ⟨c1, c2⟩ := b3 z
  obtain ⟨d1, d2⟩ := a3 c1
  exact ⟨d1, Nat.lt_of_lt_of_le d2 c2⟩
theorem unionL_q {pp : PSt → Nat → Nat × PSt} {p : Nat} (h : PQ pp p) : ∀ n s v, v < 65536 → s.2.1 ≤ 24 → (pUnionL len tx pp p n s v).1 < 65536 ∧ (pUnionL len tx pp p n s v).2.2.1 ≤ 24 ∧ ((pUnionL len tx pp p n s v).2.2.2 = none → s.2.2 = none ∧ s.2.1 ≤ (pUnionL len tx pp p n s v).2.2.1) := by
  intro n
  induction n with
  | zero => intro s v hv hs; exact ⟨hv, hs, fun z => ⟨z, Nat.le_refl _⟩⟩
  | succ n ih =>
    intro s v hv hs
    rw [pUnionL]
    by_cases c : s.2.2 = none ∧ psSg len tx s 124 = true
    · rw [if_pos c]
      obtain ⟨a1, a2, a3⟩ := meet_q (len := len) (tx := tx) h (psAdv len tx s) hs
      obtain ⟨b1, b2, b3⟩ := ih (pMeet len tx pp (psAdv len tx s) p).2 (v ||| (pMeet len tx pp (psAdv len tx s) p).1) (Nat.or_lt_two_pow (n := 16) hv a1) a2
      refine ⟨b1, b2, fun z => ⟨c.1, ?_⟩⟩
      obtain ⟨c1, c2⟩ := b3 z
      obtain ⟨_, d2⟩ := a3 c1
      have d2 : s.2.1 < (pMeet len tx pp (psAdv len tx s) p).2.2.1 := d2
      exact Nat.le_trans (Nat.le_of_lt d2) c2
    · rw [if_neg c]
      exact ⟨hv, hs, fun z => ⟨z, Nat.le_refl _⟩⟩
theorem union_q {pp : PSt → Nat → Nat × PSt} {p : Nat} (h : PQ pp p) : PQ (pUnion len tx pp) p := by
  intro s hs
  obtain ⟨a1, a2, a3⟩ := meet_q (len := len) (tx := tx) h s hs
  obtain ⟨b1, b2, b3⟩ := unionL_q (len := len) (tx := tx) h 80 (pMeet len tx pp s p).2 (pMeet len tx pp s p).1 a1 a2
  refine ⟨b1, b2, fun z => ?_⟩
  obtain ⟨c1, c2⟩ := b3 z
  obtain ⟨d1, d2⟩ := a3 c1
  exact ⟨d1, Nat.lt_of_lt_of_le d2 c2⟩
theorem psB_2 (b : Bool) (s : PSt) : (psB len tx b s).2.1 = s.2.1 := by
  unfold psB
  split
  · split <;> rfl
  · exact psFail_2 s
theorem psB_n {b : Bool} {s : PSt} (h : (psB len tx b s).2.2 = none) : b = true ∧ s.2.2 = none := by
  unfold psB at h
  cases b with
  | true =>
    rw [if_pos rfl] at h
    by_cases e : s.2.2 = none
    · exact ⟨rfl, e⟩
    · rw [if_neg e] at h; exact absurd h e
  | false =>
    rw [if_neg (by decide)] at h
    exact absurd h (psFail_n s)
theorem pow2_31 : ∀ {K : Nat}, K ≤ 4 → 2 ^ (2 ^ K) ≤ 65536 := by
  intro K h
  have : 2 ^ K ≤ 16 := pow2_16 h
  exact Nat.le_trans (Nat.pow_le_pow_right (by omega) this) (Nat.le_refl _)
theorem part_q (hK : K ≤ 4) : ∀ n p, p ≤ 8 → 9 ≤ n + p → PQ (pPart K len tx n) p := by
  intro n
  induction n with
  | zero => intro p h1 h2; omega
  | succ n ih =>
    intro p h1 h2 s hs
    have h16 := pow2_31 hK
    rw [pPart]
    cases hpt : isPt K len tx s p with
    | false =>
      rw [if_neg (show ¬ false = true by decide), if_neg (psFail_n s)]
      exact ⟨by show 0 < 65536; omega, by show (psFail s).2.1 ≤ 24; rw [psFail_2]; exact hs, fun z => absurd z (psFail_n s)⟩
    | true =>
      rw [if_pos rfl]
      by_cases e : s.2.2 = none
      · rw [if_pos e]
        have hp24 : s.2.1 < 24 := by
          unfold isPt at hpt
          exact of_decide_eq_true (Bool.and_eq_true_iff.mp hpt).1
        by_cases k4 : (psT len tx s).1 = 4
        · rw [if_pos k4]
          exact ⟨Nat.lt_of_lt_of_le (bitsTo_lt _ _) h16, by show s.2.1 + 1 ≤ 24; omega, fun _ => ⟨e, by show s.2.1 < s.2.1 + 1; omega⟩⟩
        · rw [if_neg k4]
          have hp8 : p < 8 := by
            unfold isPt at hpt
            have := (Bool.and_eq_true_iff.mp hpt).2
            rw [decide_eq_false (fun z => k4 z.1), Bool.false_or] at this
            exact of_decide_eq_true (Bool.and_eq_true_iff.mp this).2
          have hq := ih (p + 1) (by omega) (by omega)
          by_cases k33 : psSg len tx s 33 = true
          · rw [if_pos k33]
            obtain ⟨a1, a2, a3⟩ := hq (psAdv len tx (s.1, s.2.1 + 1, s.2.2)) (by show s.2.1 + 1 ≤ 24; omega)
            refine ⟨?_, a2, fun z => ?_⟩
            · have : (2 ^ 2 ^ K - 1) &&& ((pPart K len tx n (psAdv len tx (s.1, s.2.1 + 1, s.2.2)) (p + 1)).1 ^^^ (2 ^ 31 - 1)) ≤ 2 ^ 2 ^ K - 1 := Nat.and_le_left
              have h0 : 0 < 2 ^ 2 ^ K := Nat.two_pow_pos _
              exact Nat.lt_of_le_of_lt this (by omega)
            · obtain ⟨d1, d2⟩ := a3 z
              have d2 : s.2.1 + 1 < (pPart K len tx n (psAdv len tx (s.1, s.2.1 + 1, s.2.2)) (p + 1)).2.2.1 := d2
              refine ⟨e, ?_⟩
              show s.2.1 < (pPart K len tx n (psAdv len tx (s.1, s.2.1 + 1, s.2.2)) (p + 1)).2.2.1
              omega
          · rw [if_neg k33]
            obtain ⟨a1, a2, a3⟩ := union_q (len := len) (tx := tx) hq (psAdv len tx (s.1, s.2.1 + 1, s.2.2)) (by show s.2.1 + 1 ≤ 24; omega)
            refine ⟨a1, ?_, fun z => ?_⟩
            · show (psB len tx (psSg len tx (pUnion len tx (pPart K len tx n) (psAdv len tx (s.1, s.2.1 + 1, s.2.2)) (p + 1)).2 41) (pUnion len tx (pPart K len tx n) (psAdv len tx (s.1, s.2.1 + 1, s.2.2)) (p + 1)).2).2.1 ≤ 24
              rw [psB_2]; exact a2
            · have z : (psB len tx (psSg len tx (pUnion len tx (pPart K len tx n) (psAdv len tx (s.1, s.2.1 + 1, s.2.2)) (p + 1)).2 41) (pUnion len tx (pPart K len tx n) (psAdv len tx (s.1, s.2.1 + 1, s.2.2)) (p + 1)).2).2.2 = none := z
              obtain ⟨_, z⟩ := psB_n z
              obtain ⟨d1, d2⟩ := a3 z
              have d2 : s.2.1 + 1 < (pUnion len tx (pPart K len tx n) (psAdv len tx (s.1, s.2.1 + 1, s.2.2)) (p + 1)).2.2.1 := d2
              refine ⟨e, ?_⟩
              show s.2.1 < (psB len tx (psSg len tx (pUnion len tx (pPart K len tx n) (psAdv len tx (s.1, s.2.1 + 1, s.2.2)) (p + 1)).2 41) (pUnion len tx (pPart K len tx n) (psAdv len tx (s.1, s.2.1 + 1, s.2.2)) (p + 1)).2).2.1
              rw [psB_2]
              omega
      · rw [if_neg e]
        exact ⟨by show 0 < 65536; omega, hs, fun z => absurd z e⟩
/-- the class's reader of parts beside the descent -/
def PX (K len : Nat) (tx : Nat → Nat) (part : Tau → Int32 → Option (Int32 × Tau)) (pp : PSt → Nat → Nat × PSt) (p : Nat) : Prop :=
  ∀ τ s, RS K len tx τ s → ∃ τ', part τ (nI p) = some (nI (pp s p).1, τ') ∧ XS K len tx τ τ' s (pp s p).2
theorem x_meetL {part : Tau → Int32 → Option (Int32 × Tau)} {pp : PSt → Nat → Nat × PSt} {p : Nat} (hp : PX K len tx part pp p) :
    ∀ n i M τ s v, i + n = 80 → n < M → RS K len tx τ s → ∃ τ', fX2_readMeet_8 part (nI p) M τ (nI v) (nI i) = some (nI (pMeetL len tx pp p n s v).1, τ') ∧ XS K len tx τ τ' s (pMeetL len tx pp p n s v).2 := by
  intro n
  induction n with
  | zero =>
    intro i M τ s v hi hM h
    obtain ⟨M, rfl⟩ : ∃ m, M = m + 1 := ⟨M - 1, by omega⟩
    have : i = 80 := by omega
    subst this
    rw [fX2_readMeet_8, i80, if_pos (nI_le (Nat.le_refl _) (by omega)), pMeetL]
    exact ⟨τ, rfl, XS.rf h⟩
  | succ n ih =>
    intro i M τ s v hi hM h
    obtain ⟨M, rfl⟩ : ∃ m, M = m + 1 := ⟨M - 1, by omega⟩
    rw [fX2_readMeet_8, i80, if_neg (nI_ge (show i < 80 by omega) (by omega)), pMeetL]
    by_cases h1 : s.2.2 = none
    · rw [if_pos (h.wl.mpr h1)]
      by_cases h2 : psSg len tx s 38 = true
      · rw [if_pos (show tI τ 14 2 = (38 : Int32) from (x_sg h (c := 38) (by omega) (by omega)).mpr h2), if_pos ⟨h1, h2⟩]
        obtain ⟨τ1, e1, x1⟩ := xs_adv h (psSg_0 h2)
        obtain ⟨τ2, e2, x2⟩ := hp τ1 (psAdv len tx s) x1.1
        obtain ⟨τ3, e3, x3⟩ := ih (i + 1) M τ2 (pp (psAdv len tx s) p).2 (v &&& (pp (psAdv len tx s) p).1) (by omega) (by omega) x2.1
        rw [e1, Option.bind_some, e2, Option.bind_some, nm_i, nm_i]
        refine ⟨τ3, ?_, (x1.tr x2).tr x3⟩
        rw [← nI_and, ← nI_add] at e3
        exact e3
      · rw [if_neg (show ¬ tI τ 14 2 = (38 : Int32) from fun z => h2 ((x_sg h (c := 38) (by omega) (by omega)).mp z)), if_neg (fun z => h2 z.2)]
        exact ⟨τ, rfl, XS.rf h⟩
    · rw [if_neg (fun z => h1 (h.wl.mp z)), if_neg (fun z => h1 z.1)]
      exact ⟨τ, rfl, XS.rf h⟩
theorem x_meet {part : Tau → Int32 → Option (Int32 × Tau)} {pp : PSt → Nat → Nat × PSt} {p : Nat} (hp : PX K len tx part pp p) : PX K len tx (fX2_readMeet part) (pMeet len tx pp) p := by
  intro τ s h
  obtain ⟨τ1, e1, x1⟩ := hp τ s h
  obtain ⟨τ2, e2, x2⟩ := x_meetL hp 80 0 FU τ1 (pp s p).2 (pp s p).1 (by omega) (by unfold FU; omega) x1.1
  unfold fX2_readMeet
  rw [e1, Option.bind_some]
  exact ⟨τ2, e2, x1.tr x2⟩
theorem x_unionL {part : Tau → Int32 → Option (Int32 × Tau)} {pp : PSt → Nat → Nat × PSt} {p : Nat} (hp : PX K len tx part pp p) :
    ∀ n i M τ s v, i + n = 80 → n < M → RS K len tx τ s → ∃ τ', fX2_readUnion_8 part (nI p) M τ (nI v) (nI i) = some (nI (pUnionL len tx pp p n s v).1, τ') ∧ XS K len tx τ τ' s (pUnionL len tx pp p n s v).2 := by
  intro n
  induction n with
  | zero =>
    intro i M τ s v hi hM h
    obtain ⟨M, rfl⟩ : ∃ m, M = m + 1 := ⟨M - 1, by omega⟩
    have : i = 80 := by omega
    subst this
    rw [fX2_readUnion_8, i80, if_pos (nI_le (Nat.le_refl _) (by omega)), pUnionL]
    exact ⟨τ, rfl, XS.rf h⟩
  | succ n ih =>
    intro i M τ s v hi hM h
    obtain ⟨M, rfl⟩ : ∃ m, M = m + 1 := ⟨M - 1, by omega⟩
    rw [fX2_readUnion_8, i80, if_neg (nI_ge (show i < 80 by omega) (by omega)), pUnionL]
    by_cases h1 : s.2.2 = none
    · rw [if_pos (h.wl.mpr h1)]
      by_cases h2 : psSg len tx s 124 = true
      · rw [if_pos (show tI τ 14 2 = (124 : Int32) from (x_sg h (c := 124) (by omega) (by omega)).mpr h2), if_pos ⟨h1, h2⟩]
        obtain ⟨τ1, e1, x1⟩ := xs_adv h (psSg_0 h2)
        obtain ⟨τ2, e2, x2⟩ := x_meet hp τ1 (psAdv len tx s) x1.1
        obtain ⟨τ3, e3, x3⟩ := ih (i + 1) M τ2 (pMeet len tx pp (psAdv len tx s) p).2 (v ||| (pMeet len tx pp (psAdv len tx s) p).1) (by omega) (by omega) x2.1
        rw [e1, Option.bind_some, e2, Option.bind_some, nm_i, nm_i]
        refine ⟨τ3, ?_, (x1.tr x2).tr x3⟩
        rw [← nI_or, ← nI_add] at e3
        exact e3
      · rw [if_neg (show ¬ tI τ 14 2 = (124 : Int32) from fun z => h2 ((x_sg h (c := 124) (by omega) (by omega)).mp z)), if_neg (fun z => h2 z.2)]
        exact ⟨τ, rfl, XS.rf h⟩
    · rw [if_neg (fun z => h1 (h.wl.mp z)), if_neg (fun z => h1 z.1)]
      exact ⟨τ, rfl, XS.rf h⟩
theorem x_union {part : Tau → Int32 → Option (Int32 × Tau)} {pp : PSt → Nat → Nat × PSt} {p : Nat} (hp : PX K len tx part pp p) : PX K len tx (fX2_readUnion part) (pUnion len tx pp) p := by
  intro τ s h
  obtain ⟨τ1, e1, x1⟩ := x_meet hp τ s h
  obtain ⟨τ2, e2, x2⟩ := x_unionL hp 80 0 FU τ1 (pMeet len tx pp s p).2 (pMeet len tx pp s p).1 (by omega) (by unfold FU; omega) x1.1
  unfold fX2_readUnion
  rw [e1, Option.bind_some]
  exact ⟨τ2, e2, x1.tr x2⟩
theorem x_val4 {τ : Tau} {s : PSt} (h : RS K len tx τ s) (e : (psT len tx s).1 = 4) : tI τ 14 3 = nI (psT len tx s).2.1 ∧ (psT len tx s).2.1 < 4 := by
  obtain ⟨_, _, _, _, _, _, t4, _⟩ := h.2.1
  refine ⟨(t4 e).2, ?_⟩
  have e : (tok len tx s.1).1 = 4 := e
  show (tok len tx s.1).2.1 < 4
  rcases tok_inf h.hb s.1 with ⟨z, _⟩ | ⟨_, _, z | ⟨z, _⟩ | z | ⟨_, z⟩ | ⟨z, _⟩⟩
  · omega
  · omega
  · omega
  · omega
  · exact z
  · omega
theorem x_isPart2 {τ : Tau} {s : PSt} {p : Nat} (h : RS K len tx τ s) (hK : K ≤ 4) (hp : p ≤ 8) : fX2_isPart τ (tI τ 14 2) (tI τ 14 3) (nI p) = isPt K len tx s p := by
  have h3 := h.2.2.2.1
  have h6 := h.2.2.2.2.2.2.1
  have h8 : fX2_isPart_42 τ (tI τ 14 2) (tI τ 14 3) (nI p) = decide (p < 8) := by
    unfold fX2_isPart_42
    by_cases c : p < 8
    · rw [if_neg (show ¬ (8 : Int32) ≤ nI p from nI_ge (b := 8) c (by omega)), decide_eq_true c]
    · rw [if_pos (show (8 : Int32) ≤ nI p from nI_le (a := 8) (by omega) (by omega)), decide_eq_false c]
  unfold fX2_isPart isPt
  rw [h3, h8]
  by_cases c : s.2.1 < 24
  · rw [if_pos (show nI s.2.1 < (24 : Int32) from nI_lt (b := 24) c (by omega)), decide_eq_true c, Bool.true_and]
    by_cases k4 : (psT len tx s).1 = 4
    · obtain ⟨v1, v2⟩ := x_val4 h k4
      have n33 : psSg len tx s 33 = false := decide_eq_false (fun z => by have := z.1; omega)
      have n40 : psSg len tx s 40 = false := decide_eq_false (fun z => by have := z.1; omega)
      rw [if_pos (show tI τ 14 2 = (4 : Int32) from (x_kd h (k := 4) (by omega)).mpr k4), h.2.2.1, v1, n33, n40, Bool.or_self, Bool.false_and, Bool.or_false]
      by_cases kk : (psT len tx s).2.1 < K
      · rw [if_neg (nI_ge kk (by omega)), decide_eq_true ⟨k4, kk⟩]
      · rw [if_pos (nI_le (by omega) (by omega)), decide_eq_false (fun z => kk z.2)]
    · rw [if_neg (show ¬ tI τ 14 2 = (4 : Int32) from fun z => k4 ((x_kd h (k := 4) (by omega)).mp z)), decide_eq_false (show ¬ ((psT len tx s).1 = 4 ∧ (psT len tx s).2.1 < K) from fun z => k4 z.1), Bool.false_or]
      by_cases k33 : psSg len tx s 33 = true
      · rw [if_pos (show tI τ 14 2 = (33 : Int32) from (x_sg h (c := 33) (by omega) (by omega)).mpr k33), k33, Bool.true_or, Bool.true_and]
      · rw [if_neg (show ¬ tI τ 14 2 = (33 : Int32) from fun z => k33 ((x_sg h (c := 33) (by omega) (by omega)).mp z)), Bool.eq_false_iff.mpr k33, Bool.false_or]
        by_cases k40 : psSg len tx s 40 = true
        · rw [if_pos (show tI τ 14 2 = (40 : Int32) from (x_sg h (c := 40) (by omega) (by omega)).mpr k40), k40, Bool.true_and]
        · rw [if_neg (show ¬ tI τ 14 2 = (40 : Int32) from fun z => k40 ((x_sg h (c := 40) (by omega) (by omega)).mp z)), Bool.eq_false_iff.mpr k40, Bool.false_and]
  · rw [if_neg (show ¬ nI s.2.1 < (24 : Int32) from fun z => c ((nI_ltI (b := 24) (by omega) (by omega)).mp z)), decide_eq_false c, Bool.false_and]
theorem isPt_0 (hb : ∀ j, j < len → tx j < 256) {s : PSt} {p : Nat} (h : isPt K len tx s p = true) : (tok len tx s.1).1 ≠ 0 := by
  unfold isPt at h
  have := (Bool.and_eq_true_iff.mp h).2
  rcases Bool.or_eq_true_iff.mp this with z | z
  · have := (of_decide_eq_true z).1
    unfold psT at this
    omega
  · rcases Bool.or_eq_true_iff.mp (Bool.and_eq_true_iff.mp z).1 with y | y
    · exact psSg_0 y
    · exact psSg_0 y
theorem xs_inc {τ : Tau} {s : PSt} (h : RS K len tx τ s) (h24 : s.2.1 < 24) : XS K len tx τ (sI τ 13 3 (tI τ 13 3 + 1)) s (s.1, s.2.1 + 1, s.2.2) := by
  have f : Fr [(13, 3)] [] τ (sI τ 13 3 (tI τ 13 3 + 1)) := Fr.sI (by decide)
  obtain ⟨hL, hT, h2, h3, h4, h5, h6, h7⟩ := h
  have e : ∀ j, tI (sI τ 13 3 (tI τ 13 3 + 1)) 14 j = tI τ 14 j := fun j => by rw [tI_sI, if_neg (by omega)]
  refine ⟨⟨hL.fr f (by decide) (by decide), ?_, ?_, ?_, ?_, h5, ?_, h7⟩, f.wk (by decide) (by decide), 0, Cn.rf, ?_⟩
  · obtain ⟨t1, t2, t3, t4, t5, t6, t7, t8⟩ := hT
    unfold TX
    rw [e, e, e, e]
    exact ⟨t1, t2, t3, t4, t5, t6, t7, t8⟩
  · rw [tI_sI, if_neg (by omega)]; exact h2
  · rw [tI_sI, if_pos ⟨rfl, rfl⟩, h3]; exact nI_add _ 1
  · rw [tI_sI, if_neg (by omega)]; exact h4
  · show s.2.1 + 1 ≤ 24; omega
  · rw [e, show nI 0 = (0 : Int32) from rfl, Int32.add_zero]
theorem x_part (hK : K ≤ 4) : ∀ n p, p ≤ 8 → 9 ≤ n + p → PX K len tx (fX2_part n) (pPart K len tx n) p := by
  intro n
  induction n with
  | zero => intro p h1 h2; omega
  | succ n ih =>
    intro p h1 h2 τ s h
    have h16 := pow2_31 hK
    show ∃ τ', fX2_readPart (fX2_part n) τ (nI p) = _ ∧ _
    unfold fX2_readPart
    rw [nm_i, nm_i, nm_i, x_isPart2 h hK h1, pPart]
    cases hpt : isPt K len tx s p with
    | false =>
      have x := xs_fail h
      rw [ifF, nm_i, if_neg (show ¬ false = true by decide), if_neg (psFail_n s)]
      unfold fX2_readPart_30
      rw [if_neg (fun z => psFail_n s (x.1.wl.mp z))]
      exact ⟨_, rfl, x⟩
    | true =>
      rw [ifT, if_pos rfl]
      unfold fX2_readPart_30
      by_cases e : s.2.2 = none
      · rw [if_pos (h.wl.mpr e), if_pos e, nm_i]
        have hp24 : s.2.1 < 24 := by
          unfold isPt at hpt
          exact of_decide_eq_true (Bool.and_eq_true_iff.mp hpt).1
        have x1 := xs_inc h hp24
        obtain ⟨τ2, e2, x2⟩ := xs_adv x1.1 (show (tok len tx s.1).1 ≠ 0 from isPt_0 h.hb hpt)
        have x12 := x1.tr x2
        rw [e2, Option.bind_some, x2.1.2.2.1]
        by_cases k4 : (psT len tx s).1 = 4
        · obtain ⟨v1, v2⟩ := x_val4 h k4
          rw [if_pos (show tI τ 14 2 = (4 : Int32) from (x_kd h (k := 4) (by omega)).mpr k4), if_pos k4, v1, kindX _ v2 K (by omega), Option.bind_some]
          exact ⟨_, rfl, x12⟩
        · rw [if_neg (show ¬ tI τ 14 2 = (4 : Int32) from fun z => k4 ((x_kd h (k := 4) (by omega)).mp z)), if_neg k4]
          have hp8 : p < 8 := by
            unfold isPt at hpt
            have := (Bool.and_eq_true_iff.mp hpt).2
            rw [decide_eq_false (fun z => k4 z.1), Bool.false_or] at this
            exact of_decide_eq_true (Bool.and_eq_true_iff.mp this).2
          have hx := ih (p + 1) (by omega) (by omega)
          have ep : nI p + (1 : Int32) = nI (p + 1) := nI_add p 1
          by_cases k33 : psSg len tx s 33 = true
          · rw [if_pos (show tI τ 14 2 = (33 : Int32) from (x_sg h (c := 33) (by omega) (by omega)).mpr k33), if_pos k33, nm_i, evy K (by omega), ep]
            obtain ⟨τ3, e3, x3⟩ := hx τ2 _ x2.1
            have hv := (part_q (len := len) (tx := tx) hK n (p + 1) (by omega) (by omega) (psAdv len tx (s.1, s.2.1 + 1, s.2.2)) (by show s.2.1 + 1 ≤ 24; omega)).1
            rw [e3, Option.bind_some]
            refine ⟨τ3, ?_, x12.tr x3⟩
            rw [← nI_not (by omega) (by omega)]
          · rw [if_neg (show ¬ tI τ 14 2 = (33 : Int32) from fun z => k33 ((x_sg h (c := 33) (by omega) (by omega)).mp z)), if_neg k33, ep]
            obtain ⟨τ3, e3, x3⟩ := x_union hx τ2 _ x2.1
            obtain ⟨τ4, e4, x4⟩ := xs_passSg x3.1 (c := 41) (by omega) (by omega)
            rw [e3, Option.bind_some]
            refine ⟨τ4, ?_, (x12.tr x3).tr x4⟩
            rw [show (41 : Int32) = nI 41 from rfl, e4, Option.bind_some]
      · rw [if_neg (fun z => e (h.wl.mp z)), if_neg e]
        exact ⟨τ, rfl, XS.rf h⟩
/-- a side: its set, and the kind that it is if one letter tells it -/
def pLone (len : Nat) (tx : Nat → Nat) (s s' : PSt) : Int32 := if s'.1 = nx len tx s.1 then nI (tok len tx s.1).2.1 else -9
/-- where a good reader of parts ends -/
def P1 (K len : Nat) (tx : Nat → Nat) (pp : PSt → Nat → Nat × PSt) (p : Nat) : Prop :=
  ∀ s : PSt, (pp s p).2.2.2 = none → s.2.2 = none ∧ s.1 < (pp s p).2.1 ∧ nx len tx s.1 ≤ (pp s p).2.1 ∧ ((pp s p).2.1 = nx len tx s.1 → (tok len tx s.1).1 = 4 ∧ (tok len tx s.1).2.1 < K)
theorem meetL_1 (hb : ∀ j, j < len → tx j < 256) {pp : PSt → Nat → Nat × PSt} {p : Nat} (h : P1 K len tx pp p) : ∀ n s v, (pMeetL len tx pp p n s v).2.2.2 = none → s.2.2 = none ∧ s.1 ≤ (pMeetL len tx pp p n s v).2.1 := by
  intro n
  induction n with
  | zero => intro s v hs; exact ⟨hs, Nat.le_refl _⟩
  | succ n ih =>
    intro s v
    rw [pMeetL]
    by_cases c : s.2.2 = none ∧ psSg len tx s 38 = true
    · rw [if_pos c]
      intro z
      obtain ⟨a1, a2⟩ := ih (pp (psAdv len tx s) p).2 (v &&& (pp (psAdv len tx s) p).1) z
      obtain ⟨_, b2, _⟩ := h (psAdv len tx s) a1
      have b2 : nx len tx s.1 < (pp (psAdv len tx s) p).2.1 := b2
      have b3 := nx_lt hb (psSg_0 c.2)
      exact ⟨c.1, Nat.le_trans (by omega) a2⟩
    · rw [if_neg c]
      exact fun z => ⟨z, Nat.le_refl _⟩
theorem meet_1 (hb : ∀ j, j < len → tx j < 256) {pp : PSt → Nat → Nat × PSt} {p : Nat} (h : P1 K len tx pp p) : P1 K len tx (pMeet len tx pp) p := by
  intro s hs
  obtain ⟨a1, a2⟩ := meetL_1 hb h 80 (pp s p).2 (pp s p).1 hs
  obtain ⟨b1, b2, b3, b4⟩ := h s a1
  have a2 : (pp s p).2.1 ≤ (pMeet len tx pp s p).2.1 := a2
  exact ⟨b1, by omega, by omega, fun z => b4 (by omega)⟩
theorem unionL_1 (hb : ∀ j, j < len → tx j < 256) {pp : PSt → Nat → Nat × PSt} {p : Nat} (h : P1 K len tx pp p) : ∀ n s v, (pUnionL len tx pp p n s v).2.2.2 = none → s.2.2 = none ∧ s.1 ≤ (pUnionL len tx pp p n s v).2.1 := by
  intro n
  induction n with
  | zero => intro s v hs; exact ⟨hs, Nat.le_refl _⟩
  | succ n ih =>
    intro s v
    rw [pUnionL]
    by_cases c : s.2.2 = none ∧ psSg len tx s 124 = true
    · rw [if_pos c]
      intro z
      obtain ⟨a1, a2⟩ := ih (pMeet len tx pp (psAdv len tx s) p).2 (v ||| (pMeet len tx pp (psAdv len tx s) p).1) z
      obtain ⟨_, b2, _⟩ := meet_1 hb h (psAdv len tx s) a1
      have b2 : nx len tx s.1 < (pMeet len tx pp (psAdv len tx s) p).2.1 := b2
      have b3 := nx_lt hb (psSg_0 c.2)
      exact ⟨c.1, Nat.le_trans (by omega) a2⟩
    · rw [if_neg c]
      exact fun z => ⟨z, Nat.le_refl _⟩
theorem union_1 (hb : ∀ j, j < len → tx j < 256) {pp : PSt → Nat → Nat × PSt} {p : Nat} (h : P1 K len tx pp p) : P1 K len tx (pUnion len tx pp) p := by
  intro s hs
  obtain ⟨a1, a2⟩ := unionL_1 hb h 80 (pMeet len tx pp s p).2 (pMeet len tx pp s p).1 hs
  obtain ⟨b1, b2, b3, b4⟩ := meet_1 hb h s a1
  have a2 : (pMeet len tx pp s p).2.1 ≤ (pUnion len tx pp s p).2.1 := a2
  exact ⟨b1, by omega, by omega, fun z => b4 (by omega)⟩
theorem part_1 (hb : ∀ j, j < len → tx j < 256) : ∀ n p, P1 K len tx (pPart K len tx n) p := by
  intro n
  induction n with
  | zero => intro p s hs; exact absurd hs (psFail_n s)
  | succ n ih =>
    intro p s
    rw [pPart]
    cases hpt : isPt K len tx s p with
    | false =>
      rw [if_neg (show ¬ false = true by decide), if_neg (psFail_n s)]
      exact fun z => absurd z (psFail_n s)
    | true =>
      rw [if_pos rfl]
      have h0 := nx_lt hb (isPt_0 hb hpt)
      by_cases e : s.2.2 = none
      · rw [if_pos e]
        by_cases k4 : (psT len tx s).1 = 4
        · rw [if_pos k4]
          intro _
          refine ⟨e, h0, Nat.le_refl _, fun _ => ⟨k4, ?_⟩⟩
          unfold isPt at hpt
          have n33 : psSg len tx s 33 = false := decide_eq_false (fun z => by have := z.1; omega)
          have n40 : psSg len tx s 40 = false := decide_eq_false (fun z => by have := z.1; omega)
          have := (Bool.and_eq_true_iff.mp hpt).2
          rw [n33, n40, Bool.or_self, Bool.false_and, Bool.or_false] at this
          exact (of_decide_eq_true this).2
        · rw [if_neg k4]
          by_cases k33 : psSg len tx s 33 = true
          · rw [if_pos k33]
            intro z
            obtain ⟨_, b2, _⟩ := ih (p + 1) (psAdv len tx (s.1, s.2.1 + 1, s.2.2)) z
            have b2 : nx len tx s.1 < (pPart K len tx n (psAdv len tx (s.1, s.2.1 + 1, s.2.2)) (p + 1)).2.1 := b2
            exact ⟨e, by show s.1 < (pPart K len tx n (psAdv len tx (s.1, s.2.1 + 1, s.2.2)) (p + 1)).2.1; omega, Nat.le_of_lt b2, fun y => absurd y (Nat.ne_of_gt b2)⟩
          · rw [if_neg k33]
            intro z
            have eb : ∀ u, psPass len tx u 41 = psB len tx (psSg len tx u 41) u := fun _ => rfl
            have z : (psPass len tx (pUnion len tx (pPart K len tx n) (psAdv len tx (s.1, s.2.1 + 1, s.2.2)) (p + 1)).2 41).2.2 = none := z
            rw [eb] at z
            obtain ⟨z1, z2⟩ := psB_n z
            obtain ⟨_, b2, _⟩ := union_1 hb (ih (p + 1)) (psAdv len tx (s.1, s.2.1 + 1, s.2.2)) z2
            have b2 : nx len tx s.1 < (pUnion len tx (pPart K len tx n) (psAdv len tx (s.1, s.2.1 + 1, s.2.2)) (p + 1)).2.1 := b2
            have b3 := nx_lt hb (psSg_0 z1)
            have b4 : (psPass len tx (pUnion len tx (pPart K len tx n) (psAdv len tx (s.1, s.2.1 + 1, s.2.2)) (p + 1)).2 41).1 = nx len tx (pUnion len tx (pPart K len tx n) (psAdv len tx (s.1, s.2.1 + 1, s.2.2)) (p + 1)).2.1 := by
              rw [eb]
              unfold psB
              rw [if_pos z1, if_pos z2]
              rfl
            refine ⟨e, ?_, ?_, fun y => ?_⟩
            · show s.1 < (psPass len tx _ 41).1
              omega
            · show nx len tx s.1 ≤ (psPass len tx _ 41).1
              omega
            · have y : (psPass len tx (pUnion len tx (pPart K len tx n) (psAdv len tx (s.1, s.2.1 + 1, s.2.2)) (p + 1)).2 41).1 = nx len tx s.1 := y
              omega
      · rw [if_neg e]
        exact fun z => absurd z e
theorem x_side {τ : Tau} {s : PSt} (hK : K ≤ 4) (h : RS K len tx τ s) :
    ∃ τ', fX2_readSide τ = some (nI (pUnion len tx (pPart K len tx 12) s 0).1, τ') ∧ RS K len tx τ' (pUnion len tx (pPart K len tx 12) s 0).2 ∧ Fr ((13, 5) :: rdF) [] τ τ' ∧
      ((pUnion len tx (pPart K len tx 12) s 0).2.2.2 = none → tI τ' 13 5 = pLone len tx s (pUnion len tx (pPart K len tx 12) s 0).2) := by
  obtain ⟨τ1, e1, r1, f1, c, h1, h2⟩ := x_union (x_part (K := K) (len := len) (tx := tx) hK 12 0 (by omega) (by omega)) τ s h
  have hg := union_1 h.hb (part_1 (K := K) h.hb 12 0) s
  generalize hr : pUnion len tx (pPart K len tx 12) s 0 = r at *
  have hl := h.1.2.1
  have hp := r1.2.2.2.2.2.1
  have ec : tI τ1 14 5 - tI τ 14 5 = nI c := by rw [h2, Int32.add_comm, Int32.add_sub_cancel]
  have fx : ∀ v, RS K len tx (sI τ1 13 5 v) r.2 := by
    intro v
    have f : Fr [(13, 5)] [] τ1 (sI τ1 13 5 v) := Fr.sI (by decide)
    obtain ⟨hL, hT, a2, a3, a4, a5, a6, a7⟩ := r1
    have e : ∀ j, tI (sI τ1 13 5 v) 14 j = tI τ1 14 j := fun j => by rw [tI_sI, if_neg (by omega)]
    refine ⟨hL.fr f (by decide) (by decide), ?_, ?_, ?_, ?_, a5, a6, a7⟩
    · obtain ⟨t1, t2, t3, t4, t5, t6, t7, t8⟩ := hT
      unfold TX
      rw [e, e, e, e]
      exact ⟨t1, t2, t3, t4, t5, t6, t7, t8⟩
    · rw [tI_sI, if_neg (by omega)]; exact a2
    · rw [tI_sI, if_neg (by omega)]; exact a3
    · rw [tI_sI, if_neg (by omega)]; exact a4
  have ff : ∀ v, Fr ((13, 5) :: rdF) [] τ (sI τ1 13 5 v) := fun v => (f1.wk (by decide) (by decide)).tr (Fr.sI (by decide))
  have hcl : c < 2 ^ 31 := by have := h1.1; omega
  unfold fX2_readSide
  rw [nm_i, nm_i, show fX2_readUnion (fX2_part 12) τ (0 : Int32) = some (nI r.1, τ1) from e1, Option.bind_some]
  show ∃ τ', (if tI τ1 14 5 - tI τ 14 5 = (1 : Int32) then _ else _) = _ ∧ _
  rw [ec]
  by_cases c1 : c = 1
  · rw [if_pos (show nI c = (1 : Int32) by rw [c1]; rfl)]
    refine ⟨_, rfl, fx _, ff _, fun hn => ?_⟩
    obtain ⟨_, _, _, g4⟩ := hg hn
    have hpos := h1.2.2.1 c1
    obtain ⟨k4, _⟩ := g4 hpos
    unfold pLone
    rw [tI_sI, if_pos ⟨rfl, rfl⟩, if_pos hpos]
    exact (x_val4 h k4).1
  · rw [if_neg (show ¬ nI c = (1 : Int32) from fun z => c1 (nI_inj (b := 1) hcl (by omega) z))]
    refine ⟨_, rfl, fx _, ff _, fun hn => ?_⟩
    obtain ⟨_, g2, g3, _⟩ := hg hn
    unfold pLone
    rw [tI_sI, if_pos ⟨rfl, rfl⟩, if_neg]
    intro hpos
    by_cases c0 : c = 0
    · have := h1.2.1 c0
      omega
    · have := h1.2.2.2 (by omega)
      omega
end XD
