/-! the class's reader beside the descent -/
section XP
variable {K len : Nat} {tx : Nat → Nat}
def encF : Option Nat → Int32
  | none => -1
  | some f => nI f
def RS (K len : Nat) (tx : Nat → Nat) (τ : Tau) (s : PSt) : Prop :=
  LX τ len tx ∧ TX τ s.1 (tok len tx s.1) ∧ tI τ 13 2 = nI K ∧ tI τ 13 3 = nI s.2.1 ∧ tI τ 13 4 = encF s.2.2 ∧ s.1 ≤ len ∧ s.2.1 ≤ 24 ∧ ∀ f, s.2.2 = some f → f ≤ len
theorem encF_none {o : Option Nat} (h : ∀ f, o = some f → f ≤ 80) : encF o = -1 ↔ o = none := by
  cases o with
  | none => exact ⟨fun _ => rfl, fun _ => rfl⟩
  | some f =>
    have := h f rfl
    refine ⟨fun z => ?_, fun z => by cases z⟩
    exfalso
    have hp := nI_pos (n := f) (by omega)
    rw [show nI f = -1 from z] at hp
    exact hp (by decide)
theorem x_fail2 {τ : Tau} {s : PSt} (h : RS K len tx τ s) : RS K len tx (fX2_fail τ) (psFail s) ∧ Fr [(13, 4)] [] τ (fX2_fail τ) := by
  obtain ⟨q, n, o⟩ := s
  obtain ⟨hL, hT, h2, h3, h4, h5, h6, h7⟩ := h
  have hl := hL.2.1
  have he := encF_none (o := o) (fun f hf => by have := h7 f hf; omega)
  unfold fX2_fail
  rw [h4]
  cases o with
  | none =>
    rw [if_pos (show encF (q, n, (none : Option Nat)).2.2 = -1 from rfl), nm_i, hT.1]
    have f : Fr [(13, 4)] [] τ (sI τ 13 4 (nI q)) := Fr.sI (by decide)
    refine ⟨⟨hL.fr f (by decide) (by decide), ?_, ?_, ?_, ?_, h5, h6, fun g hg => by cases hg; exact h5⟩, f⟩
    · obtain ⟨t1, t2, t3, t4, t5, t6, t7, t8⟩ := hT
      have e : ∀ j, tI (sI τ 13 4 (nI q)) 14 j = tI τ 14 j := fun j => by rw [tI_sI, if_neg (by omega)]
      unfold TX
      rw [e, e, e, e]
      exact ⟨t1, t2, t3, t4, t5, t6, t7, t8⟩
    · rw [tI_sI, if_neg (by omega)]; exact h2
    · rw [tI_sI, if_neg (by omega)]; exact h3
    · rw [tI_sI, if_pos ⟨rfl, rfl⟩]; rfl
  | some g =>
    rw [if_neg (show ¬ encF (q, n, some g).2.2 = -1 from fun z => by cases he.mp z)]
    exact ⟨⟨hL, hT, h2, h3, h4, h5, h6, h7⟩, Fr.rf⟩
theorem RS.tk {τ τ' : Tau} {s : PSt} {q : Nat} {o : Option Nat} (h : RS K len tx τ s) (hT : TX τ' q (tok len tx q)) (hL : LX τ' len tx) (hq : q ≤ len) {F : List (Nat × Nat)} {A : List Nat} (hF : Fr F A τ τ') (h1 : (13, 2) ∉ F) (h2 : (13, 3) ∉ F) (h3 : (13, 4) ∉ F) : RS K len tx τ' (q, s.2) :=
  ⟨hL, hT, by rw [(hF.1 13 2 h1).1]; exact h.2.2.1, by rw [(hF.1 13 3 h2).1]; exact h.2.2.2.1, by rw [(hF.1 13 4 h3).1]; exact h.2.2.2.2.1, hq, h.2.2.2.2.2.2.1, h.2.2.2.2.2.2.2⟩
theorem tok_next {q : Nat} (hl : len ≤ 80) (hq : q ≤ len) : (tok len tx q).2.2 ≤ len := by
  unfold tok
  by_cases h : q < len
  · rw [if_neg (not_not_intro h)]
    have e1 := ends_len isLow len tx 80 q hq
    have e2 := ends_len isFig len tx 80 q hq
    split
    · split <;> exact e1
    · split
      · split <;> exact e2
      · split
        · show q + 1 ≤ len; omega
        · split <;> (show q + 1 ≤ len; omega)
  · rw [if_pos h]; exact hq
theorem x_adv2 {τ : Tau} {s : PSt} (h : RS K len tx τ s) : ∃ τ', fX4_advance τ = some τ' ∧ RS K len tx τ' (psAdv len tx s) ∧ tI τ' 14 5 = tI τ 14 5 + 1 ∧ Fr ((14, 5) :: tkF) [] τ τ' := by
  have hn := tok_next (tx := tx) h.1.2.1 h.2.2.2.2.2.1
  obtain ⟨τ', e, t, p5, hL, f⟩ := x_advance4 h.1 h.2.1.2.1 hn rfl
  exact ⟨τ', e, RS.tk (o := none) h t hL (ends_len _ len tx 80 _ hn) f (by decide) (by decide) (by decide), p5, f⟩
/-- the class looks for a sign (or the end, c = 0 is not asked here) -/
theorem x_isSg {τ : Tau} {q c : Nat} (hT : TX τ q (tok len tx q)) (hc : c = 33 ∨ c = 38 ∨ c = 40 ∨ c = 41 ∨ c = 58 ∨ c = 124) (hb : (tok len tx q).2.1 < 2 ^ 31 ∨ (tok len tx q).1 ≠ 5) : (tI τ 14 2 = nI c) ↔ ((tok len tx q).1 = 5 ∧ (tok len tx q).2.1 = c) := by
  obtain ⟨_, _, t0, t1, t2, t3, t4, t5⟩ := hT
  have h6 : (tok len tx q).1 = 0 ∨ (tok len tx q).1 = 1 ∨ (tok len tx q).1 = 2 ∨ (tok len tx q).1 = 3 ∨ (tok len tx q).1 = 4 ∨ (tok len tx q).1 = 5 := by
    unfold tok
    split
    · left; rfl
    · split
      · split
        · right; right; left; rfl
        · right; left; rfl
      · split
        · split
          · right; left; rfl
          · right; right; right; left; rfl
        · split
          · right; right; right; right; left; rfl
          · split
            · right; right; right; right; right; rfl
            · right; left; rfl
  have ne : ∀ k : Nat, k < 5 → tI τ 14 2 = nI k → ¬ tI τ 14 2 = nI c := fun k hk e z => by
    have := nI_inj (by omega) (by omega) (e.symm.trans z)
    omega
  rcases h6 with e | e | e | e | e | e
  · exact ⟨fun z => absurd z (ne 0 (by omega) (t0 e)), fun z => by omega⟩
  · exact ⟨fun z => absurd z (ne 1 (by omega) (t1 e)), fun z => by omega⟩
  · exact ⟨fun z => absurd z (ne 2 (by omega) (t2 e).1), fun z => by omega⟩
  · exact ⟨fun z => absurd z (ne 3 (by omega) (t3 e).1), fun z => by omega⟩
  · exact ⟨fun z => absurd z (ne 4 (by omega) (t4 e).1), fun z => by omega⟩
  · have hv := hb.resolve_right (by omega)
    rw [t5 e]
    exact ⟨fun z => ⟨e, nI_inj hv (by omega) z⟩, fun z => by rw [z.2]⟩
end XP
