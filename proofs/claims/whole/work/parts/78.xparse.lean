/-! the class's reader beside the descent -/
section XP
variable {K len : Nat} {tx : Nat → Nat}
def encF : Option Nat → Int32
  | none => -1
  | some f => nI f
def RS (K len : Nat) (tx : Nat → Nat) (τ : Tau) (s : PSt) : Prop :=
  LX τ len tx ∧ TX τ s.1 (tok len tx s.1) ∧ tI τ 13 2 = nI K ∧ tI τ 13 3 = nI s.2.1 ∧ tI τ 13 4 = encF s.2.2 ∧ s.1 ≤ len ∧ s.2.1 ≤ 24 ∧ ∀ f, s.2.2 = some f → f ≤ len
theorem encF_none {o : Option Nat} (h : ∀ f, o = some f → f ≤ 80) : encF o = -1 ↔ o = none := by
  cases o with
  | none => exact ⟨fun _ => rfl, fun _ => rfl⟩
  | some f =>
    have := h f rfl
    refine ⟨fun z => ?_, fun z => by cases z⟩
    exfalso
    have hp := nI_pos (n := f) (by omega)
    rw [show nI f = -1 from z] at hp
    exact hp (by decide)
theorem x_fail2 {τ : Tau} {s : PSt} (h : RS K len tx τ s) : RS K len tx (fX2_fail τ) (psFail s) ∧ Fr [(13, 4)] [] τ (fX2_fail τ) := by
  obtain ⟨q, n, o⟩ := s
  obtain ⟨hL, hT, h2, h3, h4, h5, h6, h7⟩ := h
  have hl := hL.2.1
  have he := encF_none (o := o) (fun f hf => by have := h7 f hf; omega)
  unfold fX2_fail
  rw [h4]
  cases o with
  | none =>
    rw [if_pos (show encF (q, n, (none : Option Nat)).2.2 = -1 from rfl), nm_i, hT.1]
    have f : Fr [(13, 4)] [] τ (sI τ 13 4 (nI q)) := Fr.sI (by decide)
    refine ⟨⟨hL.fr f (by decide) (by decide), ?_, ?_, ?_, ?_, h5, h6, fun g hg => by cases hg; exact h5⟩, f⟩
    · obtain ⟨t1, t2, t3, t4, t5, t6, t7, t8⟩ := hT
      have e : ∀ j, tI (sI τ 13 4 (nI q)) 14 j = tI τ 14 j := fun j => by rw [tI_sI, if_neg (by omega)]
      unfold TX
      rw [e, e, e, e]
      exact ⟨t1, t2, t3, t4, t5, t6, t7, t8⟩
    · rw [tI_sI, if_neg (by omega)]; exact h2
    · rw [tI_sI, if_neg (by omega)]; exact h3
    · rw [tI_sI, if_pos ⟨rfl, rfl⟩]; rfl
  | some g =>
    rw [if_neg (show ¬ encF (q, n, some g).2.2 = -1 from fun z => by cases he.mp z)]
    exact ⟨⟨hL, hT, h2, h3, h4, h5, h6, h7⟩, Fr.rf⟩
end XP
