/-! the reference's small loops over its two stacks -/
section ML
variable {K len : Nat} {tx : Nat → Nat}
def gF : Bool → List Nat → Prop
  | _, [] => True
  | b, c :: os => (c = 33 ∧ b = true ∧ gF true os) ∨ (c = 40 ∧ gF true os) ∨ ((c = 38 ∨ c = 124) ∧ gF false os)
def nb : List Nat → Nat
  | [] => 0
  | c :: os => (if c = 38 ∨ c = 124 then 1 else 0) + nb os
def no : List Nat → Nat
  | [] => 0
  | c :: os => (if c = 33 ∨ c = 40 then 1 else 0) + no os
theorem gF.up : ∀ {os : List Nat}, gF false os → gF true os
  | [], _ => trivial
  | c :: os, h => by
    rcases h with ⟨_, z, _⟩ | h | h
    · cases z
    · exact Or.inr (Or.inl h)
    · exact Or.inr (Or.inr h)
theorem gF_len : ∀ {os : List Nat} {b : Bool}, gF b os → os.length = nb os + no os
  | [], _, _ => rfl
  | c :: os, b, h => by
    rw [List.length_cons, nb, no]
    rcases h with ⟨e, _, g⟩ | ⟨e, g⟩ | ⟨e, g⟩
    · rw [gF_len g, if_neg (by omega), if_pos (by omega)]; omega
    · rw [gF_len g, if_neg (by omega), if_pos (by omega)]; omega
    · rw [gF_len g, if_pos (by omega), if_neg (by omega)]; omega
theorem gF_256 : ∀ {os : List Nat} {b : Bool}, gF b os → ∀ c ∈ os, c < 256
  | [], _, _, c, hc => by simp at hc
  | c :: os, b, h, c', hc => by
    rcases List.mem_cons.mp hc with rfl | hm
    · rcases h with ⟨e, _⟩ | ⟨e, _⟩ | ⟨e, _⟩ <;> omega
    · rcases h with ⟨_, _, g⟩ | ⟨_, g⟩ | ⟨_, g⟩ <;> exact gF_256 g c' hm
def Wf (w : Bool) (pt : Nat) (r : List Nat × List Nat × Nat) : Prop :=
  gF w r.2.1 ∧ r.1.length = nb r.2.1 + (if w = true then 0 else 1) ∧ r.2.2 = no r.2.1 ∧ r.2.2 ≤ 8 ∧ r.1.length ≤ pt ∧ pt ≤ 24 ∧ ∀ v ∈ r.1, v < 65536
theorem ngv_lt (hK : K ≤ 4) (v : Nat) : ngv K v < 65536 := by
  have h16 := pow2_31 hK
  have h0 : 0 < 2 ^ 2 ^ K := Nat.two_pow_pos _
  have : ngv K v ≤ 2 ^ 2 ^ K - 1 := Nat.and_le_left
  omega
theorem jnv_lt {t a b : Nat} (ha : a < 65536) (hb : b < 65536) : jnv t a b < 65536 := by
  unfold jnv
  split
  · exact Nat.lt_of_le_of_lt Nat.and_le_left ha
  · exact Nat.or_lt_two_pow (n := 16) ha hb
theorem popB_wf (hK : K ≤ 4) {pt : Nat} (hp : pt ≤ 24) : ∀ os vs o, gF true os → vs.length = nb os + 1 → o = no os → o ≤ 8 → vs.length ≤ pt → (∀ v ∈ vs, v < 65536) → Wf false pt (popB K os vs o)
  | [], vs, o, h1, h2, h3, h4, h5, h6 => ⟨trivial, h2, h3, h4, h5, hp, h6⟩
  | c :: os, vs, o, h1, h2, h3, h4, h5, h6 => by
    rw [popB]
    by_cases e : c = 33
    · subst e
      rw [if_pos rfl]
      rw [nb, if_neg (by omega)] at h2
      rw [no, if_pos (by omega)] at h3
      have g : gF true os := by
        rcases h1 with ⟨_, _, g⟩ | ⟨z, _⟩ | ⟨z, _⟩
        · exact g
        · omega
        · omega
      cases vs with
      | nil => rw [List.length_nil] at h2; omega
      | cons v vs =>
        rw [ngTop]
        refine popB_wf hK hp os (ngv K v :: vs) (o - 1) g ?_ (by omega) (by omega) ?_ (fun w hw => ?_)
        · rw [List.length_cons] at h2 ⊢; omega
        · rw [List.length_cons] at h5 ⊢; exact h5
        · rcases List.mem_cons.mp hw with rfl | hm
          · exact ngv_lt hK v
          · exact h6 w (List.mem_cons_of_mem _ hm)
    · rw [if_neg e]
      refine ⟨?_, h2, h3, h4, h5, hp, h6⟩
      rcases h1 with ⟨z, _⟩ | g | g
      · exact absurd z e
      · exact Or.inr (Or.inl g)
      · exact Or.inr (Or.inr g)
theorem jn_cons (t b a : Nat) (vs : List Nat) : jn t (b :: a :: vs) = jnv t a b :: vs := rfl
theorem popJ_wf {P : Nat → Bool} (h40 : P 40 = false) : ∀ os vs, gF false os → vs.length = nb os + 1 → (∀ v ∈ vs, v < 65536) →
    gF false (popJ P os vs).1 ∧ (popJ P os vs).2.length = nb (popJ P os vs).1 + 1 ∧ no (popJ P os vs).1 = no os ∧ (popJ P os vs).2.length ≤ vs.length ∧ (∀ v ∈ (popJ P os vs).2, v < 65536) ∧ (popJ P os vs).1.length ≤ os.length
  | [], vs, h1, h2, h3 => ⟨trivial, h2, rfl, Nat.le_refl _, h3, Nat.le_refl _⟩
  | c :: os, vs, h1, h2, h3 => by
    rw [popJ]
    by_cases e : P c = true
    · rw [if_pos e]
      have g : (c = 38 ∨ c = 124) ∧ gF false os := by
        rcases h1 with ⟨_, z, _⟩ | ⟨z, _⟩ | g
        · cases z
        · rw [z, h40] at e; cases e
        · exact g
      rw [nb, if_pos g.1] at h2
      match vs, h2, h3 with
      | b :: a :: vs, h2, h3 =>
        rw [jn_cons]
        rw [List.length_cons, List.length_cons] at h2
        obtain ⟨k1, k2, k3, k4, k5, k6⟩ := popJ_wf h40 os (jnv c a b :: vs) g.2 (by rw [List.length_cons]; omega) (fun w hw => by
          rcases List.mem_cons.mp hw with rfl | hm
          · exact jnv_lt (h3 a (by simp)) (h3 b (by simp))
          · exact h3 w (List.mem_cons_of_mem _ (List.mem_cons_of_mem _ hm)))
        rw [List.length_cons] at k4
        refine ⟨k1, k2, ?_, ?_, k5, ?_⟩
        · rw [k3, no, if_neg (by omega), Nat.zero_add]
        · rw [List.length_cons, List.length_cons]; omega
        · rw [List.length_cons]; omega
      | [b], h2, _ => rw [List.length_cons, List.length_nil] at h2; omega
      | [], h2, _ => rw [List.length_nil] at h2; omega
    · rw [if_neg e]
      exact ⟨h1, h2, rfl, Nat.le_refl _, h3, Nat.le_refl _⟩
theorem m_every {τ : Tau} {s : PSt} (h : RD K len tx τ s) (hK : K ≤ 4) : fX7_every τ = nI (2 ^ 2 ^ K - 1) := by
  have hS := pow2_16 hK
  have h16 := pow2_31 hK
  have h0 : 0 < 2 ^ 2 ^ K := Nat.two_pow_pos _
  unfold fX7_every
  rw [nm_i, m_sorts h.2.2.1 hK, nI_one (by omega), sub1 (by omega)]
theorem fr4 {τ : Tau} {j : Nat} {x : Int32} : Fr [] [4] τ (sA τ 4 j x) := Fr.sA (by decide)
theorem RD.fr4 {τ τ' : Tau} {s : PSt} (h : RD K len tx τ s) (f : Fr [] [4] τ τ') : RD K len tx τ' s := h.fr f (fun j _ => by simp) (by decide)
theorem Stk.fr5 {τ τ' : Tau} {os : List Nat} (h : Stk τ 5 os) (f : Fr [] [4] τ τ') : Stk τ' 5 os := h.fr (fun j => (f.2 5 (by decide) j).1)
theorem m_419 (hK : K ≤ 4) (k21 : Tau → Int32 → Int32 → Int32 → Int32 → Int32 → Int32 → Option (Int32 × Tau)) : ∀ os vs o τ s M x5 x6, os.length < M → RD K len tx τ s → Stk τ 4 vs → Stk τ 5 os → gF true os → vs.length = nb os + 1 → o = no os → o ≤ 8 → vs.length ≤ 24 → (∀ v ∈ vs, v < 65536) →
    ∃ τ', fX7_side_419 k21 M τ (nI vs.length) (nI os.length) (nI o) 0 x5 x6 = k21 τ' (nI (popB K os vs o).1.length) (nI (popB K os vs o).2.1.length) (nI (popB K os vs o).2.2) 0 x5 x6 ∧ RD K len tx τ' s ∧ Stk τ' 4 (popB K os vs o).1 ∧ Stk τ' 5 (popB K os vs o).2.1 ∧ Fr [] [4] τ τ'
  | [], vs, o, τ, s, M, x5, x6, h0, hR, h4, h5, h1, h2, h3, h6, h7, h8 => by
    obtain ⟨M, rfl⟩ : ∃ m, M = m + 1 := ⟨M - 1, by omega⟩
    rw [fX7_side_419, if_pos rfl, if_pos (show nI ([] : List Nat).length ≤ 0 by decide), popB]
    exact ⟨τ, rfl, hR, h4, h5, Fr.rf⟩
  | c :: os, vs, o, τ, s, M, x5, x6, h0, hR, h4, h5, h1, h2, h3, h6, h7, h8 => by
    obtain ⟨M, rfl⟩ : ∃ m, M = m + 1 := ⟨M - 1, by omega⟩
    have hl := gF_len h1
    rw [List.length_cons] at hl h0
    have h16 := pow2_31 hK
    rw [fX7_side_419, if_pos rfl, List.length_cons, if_neg (show ¬ nI (os.length + 1) ≤ 0 from nI_ge (a := 0) (by omega) (by omega)), sub1 (by omega), Nat.add_sub_cancel, if_neg (nI_in (show os.length < 60 by omega) (by decide)), nI_clamp (by omega), h5.1, popB]
    have hc := gF_256 h1 c List.mem_cons_self
    by_cases e : c = 33
    · subst e
      rw [nb, if_neg (by omega)] at h2
      rw [no, if_pos (by omega)] at h3
      have g : gF true os := by
        rcases h1 with ⟨_, _, g⟩ | ⟨z, _⟩ | ⟨z, _⟩
        · exact g
        · omega
        · omega
      cases vs with
      | nil => rw [List.length_nil] at h2; omega
      | cons v vs =>
        rw [List.length_cons] at h2 h7
        have hv := h8 v List.mem_cons_self
        rw [if_pos (show nI 33 = (33 : Int32) from rfl), if_pos rfl, nm_i, nm_i, nm_i, nI_dec (by omega), Nat.add_sub_cancel, nI_dec (by omega), List.length_cons, sub1 (by omega), Nat.add_sub_cancel, if_neg (nI_in (show vs.length < 60 by omega) (by decide)), if_neg (nI_in (show vs.length < 60 by omega) (by decide)), nm_i, nI_clamp (by omega), h4.1, m_every hR hK, nI_not (by omega) (by omega), ngTop]
        have e1 : (2 ^ 2 ^ K - 1) &&& (v ^^^ (2 ^ 31 - 1)) = ngv K v := rfl
        rw [e1]
        obtain ⟨τ', a1, a2, a3, a4, a5⟩ := m_419 hK k21 os (ngv K v :: vs) (o - 1) (sA τ 4 vs.length (nI (ngv K v))) s M x5 x6 (by omega) (hR.fr4 fr4) h4.2.push (Stk.fr5 h5.2 fr4) g (by rw [List.length_cons]; omega) (by omega) (by omega) (by rw [List.length_cons]; omega) (fun w hw => by
          rcases List.mem_cons.mp hw with rfl | hm
          · exact ngv_lt hK v
          · exact h8 w (List.mem_cons_of_mem _ hm))
        exact ⟨τ', a1, a2, a3, a4, fr4.tr a5⟩
    · rw [if_neg (show ¬ nI c = (33 : Int32) from fun z => e (nI_inj (b := 33) (by omega) (by omega) z)), if_neg e]
      exact ⟨τ, by rw [List.length_cons], hR, h4, h5, Fr.rf⟩
theorem m_joins {t a b : Nat} (ht : t < 256) : fX7_joins (nI t) (nI a) (nI b) = nI (jnv t a b) := by
  unfold fX7_joins jnv
  by_cases e : t = 38
  · rw [if_pos (show nI t = (38 : Int32) by rw [e]; rfl), if_pos e, nI_and]
  · rw [if_neg (show ¬ nI t = (38 : Int32) from fun z => e (nI_inj (b := 38) (by omega) (by omega) z)), if_neg e, nI_or]
theorem m_264 (k21 : Tau → Int32 → Int32 → Int32 → Int32 → Int32 → Int32 → Option (Int32 × Tau)) (k225 : Tau → Int32 → Int32 → Int32 → Int32 → Int32 → Option (Int32 × Tau)) {τ : Tau} {t a b : Nat} {os vs : List Nat} {x3 x5 x6 : Int32} (ht : t < 256) (hv : vs.length < 50) (ho : os.length < 50) (h4 : Stk τ 4 (b :: a :: vs)) (h5 : Stk τ 5 (t :: os)) :
    fX7_side_264 k21 k225 τ (nI (b :: a :: vs).length) (nI (t :: os).length) x3 x5 x6 = k225 (sA τ 4 vs.length (nI (jnv t a b))) (nI (jnv t a b :: vs).length) (nI os.length) x3 x5 x6 := by
  obtain ⟨b1, a1, _⟩ := h4
  rw [List.length_cons] at b1
  unfold fX7_side_264
  rw [nm_i, nm_i, List.length_cons, List.length_cons, List.length_cons, nI_dec (by omega), nI_dec (by omega), Nat.add_sub_cancel, Nat.add_sub_cancel, if_neg (nI_in (show os.length < 60 by omega) (by decide)), sub1 (by omega), Nat.add_sub_cancel, if_neg (nI_in (show vs.length < 60 by omega) (by decide)), if_neg (nI_in (show vs.length + 1 < 60 by omega) (by decide)), nm_i, if_neg (nI_in (show vs.length < 60 by omega) (by decide)), nm_i, nI_clamp (by omega), nI_clamp (by omega), nI_clamp (by omega), h5.1, b1, a1, m_joins ht]
  rfl
theorem m_225 (k21 : Tau → Int32 → Int32 → Int32 → Int32 → Int32 → Int32 → Option (Int32 × Tau)) {c : Nat} (hc : c = 38 ∨ c = 124) (x3 x5 x6 : Int32) : ∀ os vs τ M, os.length < M → tI τ 0 10 = nI c → Stk τ 4 vs → Stk τ 5 os → gF false os → vs.length = nb os + 1 → vs.length ≤ 24 → os.length < 50 →
    ∃ τ', fX7_side_225 k21 M τ (nI vs.length) (nI os.length) x3 x5 x6 = fX7_side_304 k21 τ' (nI (popJ (opP c) os vs).2.length) (nI (popJ (opP c) os vs).1.length) x3 x5 x6 ∧ Stk τ' 4 (popJ (opP c) os vs).2 ∧ Stk τ' 5 (popJ (opP c) os vs).1 ∧ Fr [] [4] τ τ'
  | [], vs, τ, M, h0, hv, h4, h5, h1, h2, h3, h6 => by
    obtain ⟨M, rfl⟩ : ∃ m, M = m + 1 := ⟨M - 1, by omega⟩
    rw [fX7_side_225, if_pos (show nI ([] : List Nat).length ≤ 0 by decide), popJ]
    exact ⟨τ, rfl, h4, h5, Fr.rf⟩
  | t :: os, vs, τ, M, h0, hv, h4, h5, h1, h2, h3, h6 => by
    obtain ⟨M, rfl⟩ : ∃ m, M = m + 1 := ⟨M - 1, by omega⟩
    have ht := gF_256 h1 t List.mem_cons_self
    have hl : (t :: os).length = os.length + 1 := List.length_cons
    have pos : opP c t = true → ∃ τ', fX7_side_264 k21 (fX7_side_225 k21 M) τ (nI vs.length) (nI (t :: os).length) x3 x5 x6 = fX7_side_304 k21 τ' (nI (popJ (opP c) (t :: os) vs).2.length) (nI (popJ (opP c) (t :: os) vs).1.length) x3 x5 x6 ∧ Stk τ' 4 (popJ (opP c) (t :: os) vs).2 ∧ Stk τ' 5 (popJ (opP c) (t :: os) vs).1 ∧ Fr [] [4] τ τ' := by
      intro hp
      rw [popJ, if_pos hp]
      have ht2 := of_decide_eq_true hp
      have g : gF false os := by
        rcases h1 with ⟨_, z, _⟩ | ⟨z, _⟩ | g
        · cases z
        · omega
        · exact g.2
      rw [nb, if_pos (by omega)] at h2
      match vs, h2, h3, h4 with
      | b :: a :: vs, h2, h3, h4 =>
        rw [List.length_cons, List.length_cons] at h2 h3
        rw [m_264 k21 _ ht (by omega) (by omega) h4 h5, jn_cons]
        obtain ⟨τ', a1, a2, a3, a4⟩ := m_225 k21 hc x3 x5 x6 os (jnv t a b :: vs) (sA τ 4 vs.length (nI (jnv t a b))) M (by omega) hv h4.2.2.push (Stk.fr5 h5.2 fr4) g (by rw [List.length_cons]; omega) (by rw [List.length_cons]; omega) (by omega)
        exact ⟨τ', a1, a2, a3, fr4.tr a4⟩
      | [b], h2, _, _ => rw [List.length_cons, List.length_nil] at h2; omega
      | [], h2, _, _ => rw [List.length_nil] at h2; omega
    have neg : opP c t = false → ∃ τ', fX7_side_304 k21 τ (nI vs.length) (nI (t :: os).length) x3 x5 x6 = fX7_side_304 k21 τ' (nI (popJ (opP c) (t :: os) vs).2.length) (nI (popJ (opP c) (t :: os) vs).1.length) x3 x5 x6 ∧ Stk τ' 4 (popJ (opP c) (t :: os) vs).2 ∧ Stk τ' 5 (popJ (opP c) (t :: os) vs).1 ∧ Fr [] [4] τ τ' := by
      intro hp
      rw [popJ, hp, if_neg (by decide)]
      exact ⟨τ, rfl, h4, h5, Fr.rf⟩
    rw [fX7_side_225, hl, if_neg (show ¬ nI (os.length + 1) ≤ 0 from nI_ge (a := 0) (by omega) (by omega)), sub1 (by omega), Nat.add_sub_cancel, if_neg (nI_in (show os.length < 60 by omega) (by decide)), if_neg (nI_in (show os.length < 60 by omega) (by decide)), nI_clamp (by omega), h5.1, hv, ← hl]
    by_cases e38 : t = 38
    · rw [if_pos (show nI t = (38 : Int32) by rw [e38]; rfl)]
      exact pos (decide_eq_true (Or.inl e38))
    · rw [if_neg (show ¬ nI t = (38 : Int32) from fun z => e38 (nI_inj (b := 38) (by omega) (by omega) z))]
      by_cases ec : c = 124
      · rw [if_pos (show nI c = (124 : Int32) by rw [ec]; rfl)]
        by_cases e124 : t = 124
        · rw [if_pos (show nI t = (124 : Int32) by rw [e124]; rfl)]
          exact pos (decide_eq_true (Or.inr ⟨ec, e124⟩))
        · rw [if_neg (show ¬ nI t = (124 : Int32) from fun z => e124 (nI_inj (b := 124) (by omega) (by omega) z))]
          exact neg (decide_eq_false (by omega))
      · rw [if_neg (show ¬ nI c = (124 : Int32) from fun z => ec (nI_inj (b := 124) (by omega) (by omega) z))]
        exact neg (decide_eq_false (by omega))
theorem m_350 (k21 : Tau → Int32 → Int32 → Int32 → Int32 → Int32 → Int32 → Option (Int32 × Tau)) (x3 x4 x5 x6 : Int32) : ∀ os vs τ M, os.length < M → 40 ∈ os → Stk τ 4 vs → Stk τ 5 os → gF false os → vs.length = nb os + 1 → vs.length ≤ 24 → os.length < 50 →
    ∃ τ' os', (popJ noP os vs).1 = 40 :: os' ∧ fX7_side_350 k21 M τ (nI vs.length) (nI os.length) x3 x4 x5 x6 = Option.bind (fX7_advances τ') (fun r56 => fX7_side_419 k21 FU r56 (nI (popJ noP os vs).2.length) (nI os'.length) (x3 + (-1 : Int32)) x4 x5 x6) ∧ Stk τ' 4 (popJ noP os vs).2 ∧ Stk τ' 5 os' ∧ Fr [] [4] τ τ'
  | [], vs, τ, M, h0, hm, h4, h5, h1, h2, h3, h6 => by simp at hm
  | t :: os, vs, τ, M, h0, hm, h4, h5, h1, h2, h3, h6 => by
    obtain ⟨M, rfl⟩ : ∃ m, M = m + 1 := ⟨M - 1, by omega⟩
    have ht := gF_256 h1 t List.mem_cons_self
    rw [List.length_cons] at h0 h6
    rw [fX7_side_350, List.length_cons, sub1 (by omega), Nat.add_sub_cancel, if_neg (nI_in (show os.length < 60 by omega) (by decide)), nI_clamp (by omega), h5.1, popJ]
    by_cases e : t = 40
    · subst e
      rw [if_pos (show nI 40 = (40 : Int32) from rfl), if_neg (show ¬ noP 40 = true by decide), nm_i, nm_i, nI_dec (by omega), Nat.add_sub_cancel]
      exact ⟨τ, os, rfl, rfl, h4, h5.2, Fr.rf⟩
    · have hp : noP t = true := decide_eq_true e
      have g : (t = 38 ∨ t = 124) ∧ gF false os := by
        rcases h1 with ⟨_, z, _⟩ | ⟨z, _⟩ | g
        · cases z
        · omega
        · exact g
      rw [if_neg (show ¬ nI t = (40 : Int32) from fun z => e (nI_inj (b := 40) (by omega) (by omega) z)), if_pos hp]
      rw [nb, if_pos g.1] at h2
      match vs, h2, h3, h4 with
      | b :: a :: vs, h2, h3, h4 =>
        obtain ⟨b1, a1, h4'⟩ := h4
        rw [List.length_cons] at b1
        rw [List.length_cons, List.length_cons] at h2 h3
        rw [nm_i, nm_i, List.length_cons, List.length_cons, nI_dec (by omega), nI_dec (by omega), Nat.add_sub_cancel, Nat.add_sub_cancel, if_neg (nI_in (show os.length < 60 by omega) (by decide)), sub1 (by omega), Nat.add_sub_cancel, if_neg (nI_in (show vs.length < 60 by omega) (by decide)), if_neg (nI_in (show vs.length + 1 < 60 by omega) (by decide)), nm_i, if_neg (nI_in (show vs.length < 60 by omega) (by decide)), nm_i, nI_clamp (by omega), nI_clamp (by omega), nI_clamp (by omega), h5.1, b1, a1, m_joins ht, jn_cons]
        obtain ⟨τ', os', a0, a1, a2, a3, a4⟩ := m_350 k21 x3 x4 x5 x6 os (jnv t a b :: vs) (sA τ 4 vs.length (nI (jnv t a b))) M (by omega) (by
          rcases List.mem_cons.mp hm with z | z
          · exact absurd z.symm e
          · exact z) h4'.push (Stk.fr5 h5.2 fr4) g.2 (by rw [List.length_cons]; omega) (by rw [List.length_cons]; omega) (by omega)
        exact ⟨τ', os', a0, a1, a2, a3, fr4.tr a4⟩
      | [b], h2, _, _ => rw [List.length_cons, List.length_nil] at h2; omega
      | [], h2, _, _ => rw [List.length_nil] at h2; omega
theorem m_492 : ∀ os vs τ s M, os.length < M → RD K len tx τ s → s.2.2 = none → ¬ 40 ∈ os → Stk τ 4 vs → Stk τ 5 os → gF false os → vs.length = nb os + 1 → vs.length ≤ 24 → os.length < 50 →
    ∃ τ', fX7_side_492 M τ (nI vs.length) (nI os.length) = fX7_side_543 τ' ∧ RD K len tx τ' s ∧ Stk τ' 4 (popJ (fun _ => true) os vs).2 ∧ Fr [] [4] τ τ'
  | [], vs, τ, s, M, h0, hR, hn, hm, h4, h5, h1, h2, h3, h6 => by
    obtain ⟨M, rfl⟩ : ∃ m, M = m + 1 := ⟨M - 1, by omega⟩
    rw [fX7_side_492, nm_i, m_well hR, decide_eq_true hn, ifT, if_pos (show nI ([] : List Nat).length ≤ 0 by decide), popJ]
    exact ⟨τ, rfl, hR, h4, Fr.rf⟩
  | t :: os, vs, τ, s, M, h0, hR, hn, hm, h4, h5, h1, h2, h3, h6 => by
    obtain ⟨M, rfl⟩ : ∃ m, M = m + 1 := ⟨M - 1, by omega⟩
    have ht := gF_256 h1 t List.mem_cons_self
    rw [List.length_cons] at h0 h6
    have g : (t = 38 ∨ t = 124) ∧ gF false os := by
      rcases h1 with ⟨_, z, _⟩ | ⟨z, _⟩ | g
      · cases z
      · exact absurd (by rw [z]; exact List.mem_cons_self) hm
      · exact g
    rw [nb, if_pos g.1] at h2
    rw [fX7_side_492, nm_i, m_well hR, decide_eq_true hn, ifT, List.length_cons, if_neg (show ¬ nI (os.length + 1) ≤ 0 from nI_ge (a := 0) (by omega) (by omega)), popJ, if_pos rfl]
    match vs, h2, h3, h4 with
    | b :: a :: vs, h2, h3, h4 =>
      obtain ⟨b1, a1, h4'⟩ := h4
      rw [List.length_cons] at b1
      rw [List.length_cons, List.length_cons] at h2 h3
      rw [nm_i, nm_i, List.length_cons, List.length_cons, nI_dec (by omega), nI_dec (by omega), Nat.add_sub_cancel, Nat.add_sub_cancel, if_neg (nI_in (show os.length < 60 by omega) (by decide)), sub1 (by omega), Nat.add_sub_cancel, if_neg (nI_in (show vs.length < 60 by omega) (by decide)), if_neg (nI_in (show vs.length + 1 < 60 by omega) (by decide)), nm_i, if_neg (nI_in (show vs.length < 60 by omega) (by decide)), nm_i, nI_clamp (by omega), nI_clamp (by omega), nI_clamp (by omega), h5.1, b1, a1, m_joins ht, jn_cons]
      obtain ⟨τ', a1, a2, a3, a4⟩ := m_492 os (jnv t a b :: vs) (sA τ 4 vs.length (nI (jnv t a b))) s M (by omega) (hR.fr4 fr4) hn (fun z => hm (List.mem_cons_of_mem _ z)) h4'.push (Stk.fr5 h5.2 fr4) g.2 (by rw [List.length_cons]; omega) (by rw [List.length_cons]; omega) (by omega)
      exact ⟨τ', a1, a2, a3, fr4.tr a4⟩
    | [b], h2, _, _ => rw [List.length_cons, List.length_nil] at h2; omega
    | [], h2, _, _ => rw [List.length_nil] at h2; omega
end ML
