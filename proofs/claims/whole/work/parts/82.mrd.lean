/-! the reference's reader at the descent's state -/
section RD
variable {K len : Nat} {tx : Nat → Nat}
def RD (K len : Nat) (tx : Nat → Nat) (τ : Tau) (s : PSt) : Prop :=
  LM τ len tx ∧ TM τ s.1 (tok len tx s.1) ∧ tI τ 0 1 = nI K ∧ tI τ 0 12 = nI s.2.1 ∧ tI τ 0 11 = encF s.2.2 ∧ s.1 ≤ len ∧ s.2.1 ≤ 24 ∧ ∀ f, s.2.2 = some f → f ≤ len
theorem RD.hb {τ : Tau} {s : PSt} (h : RD K len tx τ s) : ∀ j, j < len → tx j < 256 := h.1.2.2.2
theorem RD.l80 {τ : Tau} {s : PSt} (h : RD K len tx τ s) : len ≤ 80 := h.1.2.1
theorem TM.fr {τ τ' : Tau} {q : Nat} {t : Nat × Nat × Nat} {F : List (Nat × Nat)} {A : List Nat} (h : TM τ q t) (hF : Fr F A τ τ') (h7 : (0, 7) ∉ F) (h8 : (0, 8) ∉ F) (h9 : (0, 9) ∉ F) (h10 : (0, 10) ∉ F) : TM τ' q t := by
  unfold TM
  rw [(hF.1 0 7 h7).1, (hF.1 0 8 h8).1, (hF.1 0 9 h9).1, (hF.1 0 10 h10).1]
  exact h
theorem RD.fr {τ τ' : Tau} {s : PSt} {F : List (Nat × Nat)} {A : List Nat} (h : RD K len tx τ s) (hF : Fr F A τ τ') (hd : ∀ j, j = 1 ∨ (6 ≤ j ∧ j ≤ 12) → (0, j) ∉ F) (h2 : 2 ∉ A) : RD K len tx τ' s := by
  obtain ⟨a1, a2, a3, a4, a5, a6, a7, a8⟩ := h
  exact ⟨a1.fr hF (hd 6 (by omega)) h2, a2.fr hF (hd 7 (by omega)) (hd 8 (by omega)) (hd 9 (by omega)) (hd 10 (by omega)), by rw [(hF.1 0 1 (hd 1 (by omega))).1, a3], by rw [(hF.1 0 12 (hd 12 (by omega))).1, a4], by rw [(hF.1 0 11 (hd 11 (by omega))).1, a5], a6, a7, a8⟩
theorem RD.adv {τ : Tau} {s : PSt} (h : RD K len tx τ s) : ∃ τ', fX7_advances τ = some τ' ∧ RD K len tx τ' (psAdv len tx s) ∧ Fr tmF [] τ τ' := by
  obtain ⟨a1, a2, a3, a4, a5, a6, a7, a8⟩ := h
  have hn := tok_next (tx := tx) a1.2.1 a6
  obtain ⟨τ', e, t, l, f⟩ := m_adv a1 a2.2.1 hn
  exact ⟨τ', e, ⟨l, t, by rw [(f.1 0 1 (by decide)).1, a3], by rw [(f.1 0 12 (by decide)).1, a4]; rfl, by rw [(f.1 0 11 (by decide)).1, a5]; rfl, (show skp len tx (tok len tx s.1).2.2 ≤ len from ends_len (fun c => decide (c = 32)) len tx 80 _ hn), a7, a8⟩, f⟩
theorem m_well {τ : Tau} {s : PSt} (h : RD K len tx τ s) : fX7_isWell τ = decide (s.2.2 = none) := by
  obtain ⟨a1, a2, a3, a4, a5, a6, a7, a8⟩ := h
  unfold fX7_isWell
  rw [a5]
  cases hs : s.2.2 with
  | none => rw [if_neg (show ¬ 0 ≤ encF none by decide), decide_eq_true rfl]
  | some f =>
    have := a8 f hs
    have := a1.2.1
    rw [if_pos (show 0 ≤ encF (some f) from nI_pos' (by omega)), decide_eq_false (by simp)]
theorem m_fails {τ : Tau} {s : PSt} (h : RD K len tx τ s) : RD K len tx (fX7_fails τ) (psFail s) ∧ Fr [(0, 11)] [] τ (fX7_fails τ) := by
  obtain ⟨a1, a2, a3, a4, a5, a6, a7, a8⟩ := h
  have hl := a1.2.1
  unfold fX7_fails
  rw [a5]
  cases hs : s.2.2 with
  | none =>
    rw [if_neg (show ¬ 0 ≤ encF none by decide), nm_i, a2.1, psFail_f hs]
    have f : Fr [(0, 11)] [] τ (sI τ 0 11 (nI s.1)) := Fr.sI (by decide)
    refine ⟨⟨a1.fr f (by decide) (by decide), a2.fr f (by decide) (by decide) (by decide) (by decide), ?_, ?_, ?_, a6, a7, fun g hg => by cases hg; exact a6⟩, f⟩
    · rw [tI_sI, if_neg (by omega), a3]
    · rw [tI_sI, if_neg (by omega), a4]
    · rw [tI_sI, if_pos ⟨rfl, rfl⟩]; rfl
  | some g =>
    have := a8 g hs
    have e : psFail s = s := by unfold psFail; rw [hs]
    rw [if_pos (show 0 ≤ encF (some g) from nI_pos' (by omega)), nm_i, e]
    have f : Fr [(0, 11)] [] τ (sI τ 0 11 (encF (some g))) := Fr.sI (by decide)
    refine ⟨⟨a1.fr f (by decide) (by decide), a2.fr f (by decide) (by decide) (by decide) (by decide), ?_, ?_, ?_, a6, a7, a8⟩, f⟩
    · rw [tI_sI, if_neg (by omega), a3]
    · rw [tI_sI, if_neg (by omega), a4]
    · rw [tI_sI, if_pos ⟨rfl, rfl⟩, hs]
/-- the code and the value on the reference's side -/
theorem m_cd {τ : Tau} {s : PSt} (h : RD K len tx τ s) : (tI τ 0 8 = (3 : Int32) ↔ ((tok len tx s.1).1 = 4 ∨ (tok len tx s.1).1 = 5)) ∧ (tI τ 0 8 = (0 : Int32) ↔ (tok len tx s.1).1 = 0) ∧ (tI τ 0 8 = (1 : Int32) ↔ (tok len tx s.1).1 = 2) ∧ (tI τ 0 8 = (2 : Int32) ↔ (tok len tx s.1).1 = 3) := by
  obtain ⟨_, _, t0, t1, t2, t3, t4, t5⟩ := h.2.1
  rcases tok_inf h.hb s.1 with ⟨e, _⟩ | ⟨_, _, e | ⟨e, _⟩ | e | ⟨e, _⟩ | ⟨e, g⟩⟩
  · rw [t0 e, e]; decide
  · rw [t1 e, e]; decide
  · rw [(t2 e).1, e]; decide
  · rw [(t3 e).1, e]; decide
  · rw [(t4 e).1, e]; decide
  · rw [(t5 e).1, e]; decide
theorem m_sign {τ : Tau} {s : PSt} (h : RD K len tx τ s) (hn : s.2.2 = none) {c : Nat} (hc : isSg c = true) : fX7_isSign τ (nI c) = psSg len tx s c := by
  obtain ⟨c3, _⟩ := m_cd h
  obtain ⟨_, _, t0, t1, t2, t3, t4, t5⟩ := h.2.1
  have hc2 := isSg_b hc
  unfold fX7_isSign
  rw [nm_i, m_well h, decide_eq_true hn, ifT]
  unfold psSg psT
  by_cases k5 : (tok len tx s.1).1 = 5
  · rw [if_pos (c3.mpr (Or.inr k5)), (t5 k5).2]
    have hb : (tok len tx s.1).2.1 < 256 := by
      rcases tok_inf h.hb s.1 with ⟨e, _⟩ | ⟨_, _, e | ⟨e, _⟩ | e | ⟨e, _⟩ | ⟨e, g⟩⟩ <;> try omega
      have := isSg_b g
      omega
    by_cases e : (tok len tx s.1).2.1 = c
    · rw [if_pos (by rw [e]), decide_eq_true ⟨k5, e⟩]
    · rw [if_neg (fun z => e (nI_inj (by omega) (by omega) z)), decide_eq_false (fun z => e z.2)]
  · rw [decide_eq_false (fun z => k5 z.1)]
    by_cases k4 : (tok len tx s.1).1 = 4
    · have hb : (tok len tx s.1).2.1 < 4 := by
        rcases tok_inf h.hb s.1 with ⟨e, _⟩ | ⟨_, _, e | ⟨e, _⟩ | e | ⟨e, g⟩ | ⟨e, _⟩⟩ <;> omega
      rw [if_pos (c3.mpr (Or.inl k4)), (t4 k4).2, if_neg]
      intro z
      have := nI_inj (by omega) (by omega) z
      have := of_decide_eq_true hc
      omega
    · rw [if_neg (fun z => (c3.mp z).elim k4 k5)]
theorem m_kind {τ : Tau} {s : PSt} (h : RD K len tx τ s) (hn : s.2.2 = none) (hK : K ≤ 4) : fX7_isKindSign τ = decide ((psT len tx s).1 = 4 ∧ (psT len tx s).2.1 < K) := by
  obtain ⟨c3, _⟩ := m_cd h
  obtain ⟨_, _, t0, t1, t2, t3, t4, t5⟩ := h.2.1
  unfold fX7_isKindSign
  rw [nm_i, m_well h, decide_eq_true hn, ifT, h.2.2.1]
  have e65 : ((65 : Int32) + nI K) - (1 : Int32) = nI (65 + K - 1) := by
    rw [show (65 : Int32) = nI 65 from rfl, nI_add, sub1 (by omega)]
  rw [e65]
  have iff : ∀ v, v < 256 → fX7_in (nI v) (65 : Int32) (nI (65 + K - 1)) = decide (65 ≤ v ∧ v < 65 + K) := by
    intro v hv
    rw [in_iff, show (65 : Int32) = nI 65 from rfl, nI_toInt (by omega), nI_toInt (by omega), nI_toInt (by omega)]
    apply decide_eq_decide.mpr
    omega
  unfold psT
  by_cases k4 : (tok len tx s.1).1 = 4
  · have hb : (tok len tx s.1).2.1 < 4 := by
      rcases tok_inf h.hb s.1 with ⟨e, _⟩ | ⟨_, _, e | ⟨e, _⟩ | e | ⟨e, g⟩ | ⟨e, _⟩⟩ <;> omega
    rw [if_pos (c3.mpr (Or.inl k4)), nm_i, (t4 k4).2, iff _ (by omega)]
    by_cases kk : (tok len tx s.1).2.1 < K
    · rw [decide_eq_true (show 65 ≤ 65 + (tok len tx s.1).2.1 ∧ 65 + (tok len tx s.1).2.1 < 65 + K by omega), ifT, decide_eq_true ⟨k4, kk⟩]
    · rw [decide_eq_false (show ¬ (65 ≤ 65 + (tok len tx s.1).2.1 ∧ 65 + (tok len tx s.1).2.1 < 65 + K) by omega), ifF, decide_eq_false (fun z => kk z.2)]
  · rw [decide_eq_false (fun z => k4 z.1)]
    by_cases k5 : (tok len tx s.1).1 = 5
    · have hg : isSg (tok len tx s.1).2.1 = true := by
        rcases tok_inf h.hb s.1 with ⟨e, _⟩ | ⟨_, _, e | ⟨e, _⟩ | e | ⟨e, _⟩ | ⟨e, g⟩⟩ <;> first | exact g | omega
      have hb := isSg_b hg
      have hs := of_decide_eq_true hg
      rw [if_pos (c3.mpr (Or.inr k5)), nm_i, (t5 k5).2, iff _ (by omega), decide_eq_false (by omega), ifF]
    · rw [if_neg (fun z => (c3.mp z).elim k4 k5)]
/-- a stack in a row of numbers, its top first -/
def Stk (τ : Tau) (q : Nat) : List Nat → Prop
  | [] => True
  | v :: vs => tA τ q vs.length = nI v ∧ Stk τ q vs
theorem Stk.fr {τ τ' : Tau} {q : Nat} (h : ∀ j, tA τ' q j = tA τ q j) : ∀ {vs}, Stk τ q vs → Stk τ' q vs
  | [], _ => trivial
  | v :: vs, hs => ⟨by rw [h]; exact hs.1, Stk.fr h hs.2⟩
theorem Stk.up {τ : Tau} {q j : Nat} {x : Int32} : ∀ {vs}, Stk τ q vs → vs.length ≤ j → Stk (sA τ q j x) q vs
  | [], _, _ => trivial
  | v :: vs, hs, hj => by
    rw [List.length_cons] at hj
    exact ⟨by rw [tA_sA, if_neg (by omega)]; exact hs.1, Stk.up hs.2 (by omega)⟩
theorem Stk.push {τ : Tau} {q v : Nat} {vs : List Nat} (h : Stk τ q vs) : Stk (sA τ q vs.length (nI v)) q (v :: vs) :=
  ⟨by rw [tA_sA, if_pos ⟨rfl, rfl⟩], h.up (Nat.le_refl _)⟩
theorem m_hasOpen {τ : Tau} {os : List Nat} (h : Stk τ 5 os) (hl : os.length < 60) (hv : ∀ c ∈ os, c < 256) : fX7_hasOpen τ (nI os.length) = some (decide (40 ∈ os)) := by
  have hg : ∀ (os : List Nat), Stk τ 5 os → ∀ i, i < os.length → ∃ c, os[os.length - 1 - i]? = some c ∧ tA τ 5 i = nI c := by
    intro os
    induction os with
    | nil => intro _ i hi; simp at hi
    | cons c os ih =>
      intro hs i hi
      rw [List.length_cons] at hi
      by_cases e : i = os.length
      · subst e
        exact ⟨c, by simp, hs.1⟩
      · obtain ⟨c', a, b⟩ := ih hs.2 i (by omega)
        refine ⟨c', ?_, b⟩
        rw [List.length_cons, show os.length + 1 - 1 - i = (os.length - 1 - i) + 1 by omega, List.getElem?_cons_succ]
        exact a
  have key : ∀ M i (b : Bool), i ≤ os.length → os.length - i < M → (b = true ↔ ∃ j, j < i ∧ tA τ 5 j = (40 : Int32)) → fX7_hasOpen_4 τ (nI os.length) M (bI b) (nI i) = some (decide (40 ∈ os)) := by
    intro M
    induction M with
    | zero => intro i b _ h; omega
    | succ M ih =>
      intro i b hi hM hb
      rw [fX7_hasOpen_4]
      by_cases hlt : i < os.length
      · rw [if_neg (nI_ge hlt (by omega)), if_neg (nI_in (show i < 60 by omega) (by decide)), nI_clamp (by omega)]
        have st : ∀ z : Bool, (z = true ↔ tA τ 5 i = (40 : Int32)) → fX7_hasOpen_26 τ (nI os.length) (fX7_hasOpen_4 τ (nI os.length) M) (nI i) (bI z) (bI b) = some (decide (40 ∈ os)) := by
          intro z hz
          unfold fX7_hasOpen_26
          rw [nm_i, nm_i, i1, nI_add, show bI b ||| bI z = bI (b || z) by cases b <;> cases z <;> rfl]
          refine ih (i + 1) (b || z) (by omega) (by omega) ?_
          rw [Bool.or_eq_true_iff, hb, hz]
          constructor
          · rintro (⟨j, a, c⟩ | c)
            · exact ⟨j, by omega, c⟩
            · exact ⟨i, by omega, c⟩
          · rintro ⟨j, a, c⟩
            by_cases e : j = i
            · subst e; exact Or.inr c
            · exact Or.inl ⟨j, by omega, c⟩
        by_cases e : tA τ 5 i = (40 : Int32)
        · rw [if_pos e]
          exact st true (by simp [e])
        · rw [if_neg e]
          exact st false (by simp [e])
      · have hi : i = os.length := by omega
        subst hi
        rw [if_pos (nI_le (Nat.le_refl _) (by omega)), if_pos (show bI b = 0 ∨ bI b = 1 by cases b <;> decide)]
        congr 1
        apply decide_eq_decide.mpr
        rw [bI_1, hb]
        constructor
        · rintro ⟨j, a, c⟩
          obtain ⟨c', p, q⟩ := hg os h j a
          have hm : c' ∈ os := List.mem_of_getElem? p
          have hv' := hv c' hm
          have : c' = 40 := nI_inj (b := 40) (by omega) (by omega) (q.symm.trans c)
          rw [this] at hm; exact hm
        · intro hm
          obtain ⟨j, hj, e⟩ := List.mem_iff_getElem.mp hm
          obtain ⟨c', p, q⟩ := hg os h (os.length - 1 - j) (by omega)
          rw [show os.length - 1 - (os.length - 1 - j) = j by omega, List.getElem?_eq_getElem hj, e] at p
          cases p
          exact ⟨os.length - 1 - j, by omega, q⟩
  unfold fX7_hasOpen
  exact key FU 0 false (Nat.zero_le _) (by unfold FU; omega) (by simp)
end RD
