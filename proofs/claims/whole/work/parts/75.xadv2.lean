/-! the class passes a token, blanks before it -/
section XB
variable {len : Nat} {tx : Nat → Nat}
theorem x_adv10 {τ0 : Tau} {p : Nat} (h : LX τ0 len tx) (h6 : tI τ0 14 6 = nI p) (hp : p ≤ len) :
    ∃ τ', fX4_advance_10 FU τ0 = some τ' ∧ TX τ' (skp len tx p) (tok len tx (skp len tx p)) ∧ Fr tkF [] τ0 τ' := by
  have hl := h.2.1
  have key : ∀ M c τ, p + c ≤ len → len - (p + c) < M → LX τ len tx → tI τ 14 6 = nI (p + c) → Fr tkF [] τ0 τ → skp len tx p = ends (fun c => decide (c = 32)) len tx (80 - c) (p + c) →
      ∃ τ', fX4_advance_10 M τ = some τ' ∧ TX τ' (skp len tx p) (tok len tx (skp len tx p)) ∧ Fr tkF [] τ0 τ' := by
    intro M
    induction M with
    | zero => intro c _ _ h; omega
    | succ M ih =>
      intro c τ hc hM hL h6 hF he
      have stop : ¬ (p + c < len ∧ decide (tx (p + c) = 32) = true) → ∃ τ', fX4_advance_47 τ = some τ' ∧ TX τ' (skp len tx p) (tok len tx (skp len tx p)) ∧ Fr tkF [] τ0 τ' := by
        intro hn
        rw [ends_stop (P := fun c => decide (c = 32)) hn] at he
        rw [he]
        obtain ⟨τ', e, t, f⟩ := x_adv47 hL h6 hc
        exact ⟨τ', e, t, hF.tr f⟩
      rw [fX4_advance_10, hL.1, h6]
      by_cases hlt : p + c < len
      · obtain ⟨b1, b2⟩ := hL.2.2 (p + c) hlt
        rw [if_neg (nI_ge hlt (by omega)), x_byteAt hL (by omega), Option.bind_some]
        unfold cB
        rw [if_pos hlt]
        by_cases hb : tx (p + c) = 32
        · rw [if_pos (show nI (tx (p + c)) = 32 by rw [hb]; rfl), nm_i, show nI (p + c) + 1 = nI (p + c + 1) from nI_add _ 1]
          have f1 : Fr tkF [] τ (sI τ 14 6 (nI (p + c + 1))) := Fr.sI (by decide)
          exact ih (c + 1) (sI τ 14 6 (nI (p + c + 1))) (by omega) (by omega) (hL.fr f1 (by decide) (by decide)) (by rw [tI_sI, if_pos ⟨rfl, rfl⟩]; rfl) (hF.tr f1) (by
            rw [he, show 80 - c = (80 - (c + 1)) + 1 by omega, ends_step (P := fun c => decide (c = 32)) hlt (decide_eq_true hb)]
            rfl)
        · rw [if_neg (show ¬ nI (tx (p + c)) = 32 from fun z => hb (nI_inj (b := 32) (by omega) (by omega) z))]
          exact stop (fun z => hb (of_decide_eq_true z.2))
      · rw [if_pos (nI_le (by omega) (by omega))]
        exact stop (fun z => hlt z.1)
  exact key FU 0 τ0 (by omega) (by unfold FU; omega) h h6 Fr.rf rfl
/-- the token after p, its place, where the next begins -/
theorem x_advance4 {τ0 : Tau} {p : Nat} {k : Int32} (h : LX τ0 len tx) (h6 : tI τ0 14 6 = nI p) (hp : p ≤ len) (h5 : tI τ0 14 5 = k) :
    ∃ τ', fX4_advance τ0 = some τ' ∧ TX τ' (skp len tx p) (tok len tx (skp len tx p)) ∧ tI τ' 14 5 = k + 1 ∧ LX τ' len tx ∧ Fr ((14, 5) :: tkF) [] τ0 τ' := by
  have f0 : Fr [(14, 5)] [] τ0 (sI τ0 14 5 (tI τ0 14 5 + 1)) := Fr.sI (by decide)
  have h0 := h.fr f0 (by decide) (by decide)
  obtain ⟨τ', e, t, f⟩ := x_adv10 h0 (by rw [tI_sI, if_neg (by omega), h6]) hp
  unfold fX4_advance
  rw [nm_i, e]
  refine ⟨τ', rfl, t, ?_, h0.fr f (by decide) (by decide), (f0.wk (by decide) (by decide)).tr (f.wk (by decide) (by decide))⟩
  rw [(f.1 14 5 (by decide)).1, tI_sI, if_pos ⟨rfl, rfl⟩, h5]
end XB
