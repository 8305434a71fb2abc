/-! the class's reader passes tokens, counts them -/
section XR
variable {K len : Nat} {tx : Nat → Nat}
theorem tok_inf (hb : ∀ j, j < len → tx j < 256) (q : Nat) :
    ((tok len tx q).1 = 0 ∧ ¬ q < len) ∨ (q < len ∧ q < (tok len tx q).2.2 ∧ ((tok len tx q).1 = 1 ∨ ((tok len tx q).1 = 2 ∧ (tok len tx q).2.1 < 9) ∨ (tok len tx q).1 = 3 ∨ ((tok len tx q).1 = 4 ∧ (tok len tx q).2.1 < 4) ∨ ((tok len tx q).1 = 5 ∧ isSg (tok len tx q).2.1 = true))) := by
  unfold tok
  by_cases h : q < len
  · rw [if_neg (not_not_intro h)]
    refine Or.inr ⟨h, ?_⟩
    by_cases h1 : isLow (tx q) = true
    · rw [if_pos h1]
      have e : q < ends isLow len tx 80 q := by
        rw [ends_step h h1 79]
        have := (ends_le isLow len tx 79 (q + 1)).1
        omega
      cases hs : wdK (pack tx q (ends isLow len tx 80 q - q)) with
      | none => exact ⟨e, Or.inl rfl⟩
      | some k =>
        obtain ⟨_, k9, kt, _⟩ := srch_some hs
        exact ⟨e, Or.inr (Or.inl ⟨rfl, by show k < 9; omega⟩)⟩
    · rw [if_neg h1]
      by_cases h2 : isFig (tx q) = true
      · rw [if_pos h2]
        have e : q < ends isFig len tx 80 q := by
          rw [ends_step h h2 79]
          have := (ends_le isFig len tx 79 (q + 1)).1
          omega
        split
        · exact ⟨e, Or.inl rfl⟩
        · exact ⟨e, Or.inr (Or.inr (Or.inl rfl))⟩
      · rw [if_neg h2]
        by_cases h3 : 65 ≤ tx q ∧ tx q ≤ 68
        · rw [if_pos h3]
          exact ⟨Nat.lt_succ_self q, Or.inr (Or.inr (Or.inr (Or.inl ⟨rfl, by show tx q - 65 < 4; omega⟩)))⟩
        · rw [if_neg h3]
          by_cases h4 : isSg (tx q) = true
          · rw [if_pos h4]
            exact ⟨Nat.lt_succ_self q, Or.inr (Or.inr (Or.inr (Or.inr ⟨rfl, h4⟩)))⟩
          · rw [if_neg h4]
            exact ⟨Nat.lt_succ_self q, Or.inl rfl⟩
  · rw [if_pos h]
    exact Or.inl ⟨rfl, h⟩
theorem isSg_b {c : Nat} (h : isSg c = true) : 33 ≤ c ∧ c ≤ 124 := by
  have := of_decide_eq_true h
  omega
/-- where the token after this one begins -/
def nx (len : Nat) (tx : Nat → Nat) (q : Nat) : Nat := skp len tx (tok len tx q).2.2
theorem psAdv_1 (s : PSt) : (psAdv len tx s).1 = nx len tx s.1 := rfl
theorem nx_lt (hb : ∀ j, j < len → tx j < 256) {q : Nat} (h : (tok len tx q).1 ≠ 0) : q < nx len tx q := by
  rcases tok_inf hb q with ⟨z, _⟩ | ⟨_, e, _⟩
  · exact absurd z h
  · have := (ends_le (fun c => decide (c = 32)) len tx 80 (tok len tx q).2.2).1
    unfold nx skp
    omega
/-- the token's code on the class's side -/
def cdX (t : Nat × Nat × Nat) : Nat := if t.1 = 5 then t.2.1 else t.1
theorem RS.cd {τ : Tau} {s : PSt} (h : RS K len tx τ s) : tI τ 14 2 = nI (cdX (tok len tx s.1)) ∧ cdX (tok len tx s.1) < 256 := by
  obtain ⟨_, _, t0, t1, t2, t3, t4, t5⟩ := h.2.1
  have hb : ∀ j, j < len → tx j < 256 := fun j hj => (h.1.2.2 j hj).2
  unfold cdX
  rcases tok_inf hb s.1 with ⟨e, _⟩ | ⟨_, _, e | ⟨e, _⟩ | e | ⟨e, _⟩ | ⟨e, g⟩⟩
  · rw [if_neg (by omega), e]; exact ⟨t0 e, by omega⟩
  · rw [if_neg (by omega), e]; exact ⟨t1 e, by omega⟩
  · rw [if_neg (by omega), e]; exact ⟨(t2 e).1, by omega⟩
  · rw [if_neg (by omega), e]; exact ⟨(t3 e).1, by omega⟩
  · rw [if_neg (by omega), e]; exact ⟨(t4 e).1, by omega⟩
  · rw [if_pos e]
    have := isSg_b g
    exact ⟨t5 e, by omega⟩
theorem cd_kd (hb : ∀ j, j < len → tx j < 256) {q k : Nat} (hk : k < 5) : cdX (tok len tx q) = k ↔ (tok len tx q).1 = k := by
  unfold cdX
  rcases tok_inf hb q with ⟨e, _⟩ | ⟨_, _, e | ⟨e, _⟩ | e | ⟨e, _⟩ | ⟨e, g⟩⟩
  · rw [if_neg (by omega)]
  · rw [if_neg (by omega)]
  · rw [if_neg (by omega)]
  · rw [if_neg (by omega)]
  · rw [if_neg (by omega)]
  · rw [if_pos e]
    have := isSg_b g
    omega
theorem cd_sg (hb : ∀ j, j < len → tx j < 256) {s : PSt} {c : Nat} (hc : 6 ≤ c) : cdX (tok len tx s.1) = c ↔ psSg len tx s c = true := by
  unfold cdX psSg psT
  rw [decide_eq_true_iff]
  rcases tok_inf hb s.1 with ⟨e, _⟩ | ⟨_, _, e | ⟨e, _⟩ | e | ⟨e, _⟩ | ⟨e, g⟩⟩
  · rw [if_neg (by omega)]; omega
  · rw [if_neg (by omega)]; omega
  · rw [if_neg (by omega)]; omega
  · rw [if_neg (by omega)]; omega
  · rw [if_neg (by omega)]; omega
  · rw [if_pos e]; omega
theorem RS.hb {τ : Tau} {s : PSt} (h : RS K len tx τ s) : ∀ j, j < len → tx j < 256 := fun j hj => (h.1.2.2 j hj).2
theorem x_kd {τ : Tau} {s : PSt} (h : RS K len tx τ s) {k : Nat} (hk : k < 5) : (tI τ 14 2 = nI k) ↔ (psT len tx s).1 = k := by
  obtain ⟨a, b⟩ := h.cd
  rw [a, nI_eq (by omega) (by omega)]
  exact cd_kd h.hb hk
theorem x_sg {τ : Tau} {s : PSt} (h : RS K len tx τ s) {c : Nat} (hc : 6 ≤ c) (hc2 : c < 256) : (tI τ 14 2 = nI c) ↔ psSg len tx s c = true := by
  obtain ⟨a, b⟩ := h.cd
  rw [a, nI_eq (by omega) (by omega)]
  exact cd_sg h.hb hc
theorem RS.wl {τ : Tau} {s : PSt} (h : RS K len tx τ s) : tI τ 13 4 = -1 ↔ s.2.2 = none := by
  rw [h.2.2.2.2.1]
  exact encF_none (fun f hf => by have := h.2.2.2.2.2.2.2 f hf; have := h.1.2.1; omega)
/-- so many tokens lie between two places, told as far as the first -/
def Cn (len : Nat) (tx : Nat → Nat) (q q' c : Nat) : Prop := q + c ≤ q' ∧ (c = 0 → q' = q) ∧ (c = 1 → q' = nx len tx q) ∧ (2 ≤ c → nx len tx q < q')
theorem Cn.rf {q : Nat} : Cn len tx q q 0 := ⟨Nat.le_refl _, fun _ => rfl, fun z => by omega, fun z => by omega⟩
theorem Cn.tr {q q1 q2 a b : Nat} (h : Cn len tx q q1 a) (g : Cn len tx q1 q2 b) : Cn len tx q q2 (a + b) := by
  obtain ⟨h1, h2, h3, h4⟩ := h
  obtain ⟨g1, g2, g3, g4⟩ := g
  by_cases e : a = 0
  · have := h2 e
    subst this
    subst e
    rw [Nat.zero_add]
    exact ⟨g1, g2, g3, g4⟩
  by_cases e1 : a = 1
  · have z := h3 e1
    subst e1
    refine ⟨by omega, fun y => by omega, fun y => ?_, fun y => by omega⟩
    rw [g2 (by omega), z]
  · have z := h4 (by omega)
    exact ⟨by omega, fun y => by omega, fun y => by omega, fun y => by omega⟩
theorem Cn.one (hb : ∀ j, j < len → tx j < 256) {q : Nat} (h : (tok len tx q).1 ≠ 0) : Cn len tx q (nx len tx q) 1 := by
  have := nx_lt hb h
  exact ⟨by omega, fun y => by omega, fun _ => rfl, fun y => by omega⟩
abbrev rdF : List (Nat × Nat) := [(13, 3), (13, 4), (14, 2), (14, 3), (14, 4), (14, 5), (14, 6)]
/-- the class's reader has gone from one state to another -/
def XS (K len : Nat) (tx : Nat → Nat) (τ τ' : Tau) (s s' : PSt) : Prop :=
  RS K len tx τ' s' ∧ Fr rdF [] τ τ' ∧ ∃ c, Cn len tx s.1 s'.1 c ∧ tI τ' 14 5 = tI τ 14 5 + nI c
theorem XS.rf {τ : Tau} {s : PSt} (h : RS K len tx τ s) : XS K len tx τ τ s s := ⟨h, Fr.rf, 0, Cn.rf, by rw [show nI 0 = (0 : Int32) from rfl, Int32.add_zero]⟩
theorem XS.tr {τ τ1 τ2 : Tau} {s s1 s2 : PSt} (h : XS K len tx τ τ1 s s1) (g : XS K len tx τ1 τ2 s1 s2) : XS K len tx τ τ2 s s2 := by
  obtain ⟨_, h2, c, h3, h4⟩ := h
  obtain ⟨g1, g2, b, g3, g4⟩ := g
  exact ⟨g1, h2.tr g2, c + b, h3.tr g3, by rw [g4, h4, Int32.add_assoc, nI_add]⟩
theorem psFail_1 (s : PSt) : (psFail s).1 = s.1 := by
  unfold psFail; split <;> rfl
theorem psFail_2 (s : PSt) : (psFail s).2.1 = s.2.1 := by
  unfold psFail; split <;> rfl
theorem psFail_n (s : PSt) : (psFail s).2.2 ≠ none := by
  unfold psFail
  split
  · intro z; cases z
  · rename_i f h; rw [h]; intro z; cases z
theorem xs_fail {τ : Tau} {s : PSt} (h : RS K len tx τ s) : XS K len tx τ (fX2_fail τ) s (psFail s) := by
  obtain ⟨a, f⟩ := x_fail2 h
  refine ⟨a, f.wk (by decide) (by decide), 0, by rw [psFail_1]; exact Cn.rf, ?_⟩
  rw [(f.1 14 5 (by decide)).1, show nI 0 = (0 : Int32) from rfl, Int32.add_zero]
theorem xs_adv {τ : Tau} {s : PSt} (h : RS K len tx τ s) (h0 : (tok len tx s.1).1 ≠ 0) : ∃ τ', fX4_advance τ = some τ' ∧ XS K len tx τ τ' s (psAdv len tx s) := by
  obtain ⟨τ', e, r, p, f⟩ := x_adv2 h
  exact ⟨τ', e, r, f.wk (by decide) (by decide), 1, Cn.one h.hb h0, p⟩
/-- what must come: passed, or a fault -/
def psB (len : Nat) (tx : Nat → Nat) (b : Bool) (s : PSt) : PSt := if b = true then (if s.2.2 = none then psAdv len tx s else s) else psFail s
theorem xs_pass {τ : Tau} {s : PSt} {p : Int32} {b : Bool} (h : RS K len tx τ s) (hp : tI τ 14 2 = p ↔ b = true) (h0 : b = true → (tok len tx s.1).1 ≠ 0) : ∃ τ', fX2_pass τ p = some τ' ∧ XS K len tx τ τ' s (psB len tx b s) := by
  unfold fX2_pass psB
  cases b with
  | true =>
    rw [if_pos (hp.mpr rfl), if_pos rfl]
    unfold fX2_pass_15
    by_cases e : s.2.2 = none
    · obtain ⟨τ', ea, x⟩ := xs_adv h (h0 rfl)
      rw [if_pos (h.wl.mpr e), if_pos e, ea, Option.bind_some]
      exact ⟨τ', rfl, x⟩
    · rw [if_neg (fun z => e (h.wl.mp z)), if_neg e]
      exact ⟨τ, rfl, XS.rf h⟩
  | false =>
    have x := xs_fail h
    rw [if_neg (fun z => by cases hp.mp z), if_neg (by decide), nm_i]
    unfold fX2_pass_15
    rw [if_neg (fun z => psFail_n s (x.1.wl.mp z))]
    exact ⟨_, rfl, x⟩
theorem psSg_0 {s : PSt} {c : Nat} (h : psSg len tx s c = true) : (tok len tx s.1).1 ≠ 0 := by
  have := (of_decide_eq_true h).1
  unfold psT at this
  omega
theorem xs_passSg {τ : Tau} {s : PSt} {c : Nat} (h : RS K len tx τ s) (hc : 6 ≤ c) (hc2 : c < 256) : ∃ τ', fX2_pass τ (nI c) = some τ' ∧ XS K len tx τ τ' s (psPass len tx s c) :=
  xs_pass h (x_sg h hc hc2) (fun z => psSg_0 z)
end XR
