/-! the class takes a number -/
section XN
variable {len : Nat} {tx : Nat → Nat}
def val (tx : Nat → Nat) (p : Nat) : Nat → Nat
  | 0 => 0
  | n + 1 => 10 * val tx p n + (tx (p + n) - 48)
theorem x_takeNumber {τ0 : Tau} {p : Nat} (h : LX τ0 len tx) (h6 : tI τ0 14 6 = nI p) (h4 : tI τ0 14 4 = nI p) (h3 : tI τ0 14 3 = nI 0) (hp : p < len) (hf : isFig (tx p) = true) :
    ∃ τ' c, fX4_takeNumber τ0 = some τ' ∧ c = ends isFig len tx 80 p - p ∧ tI τ' 14 6 = nI (p + c) ∧ tI τ' 14 3 = nI (min 1000 (val tx p c)) ∧ tI τ' 14 2 = (if tx p = 48 ∧ 2 ≤ c then nI 1 else nI 3) ∧ Fr [(14, 2), (14, 3), (14, 6)] [] τ0 τ' := by
  have hl := h.2.1
  have key : ∀ M c τ, p + c ≤ len → len - (p + c) < M → LX τ len tx → tI τ 14 6 = nI (p + c) → tI τ 14 3 = nI (min 1000 (val tx p c)) → Fr [(14, 2), (14, 3), (14, 6)] [] τ0 τ → ends isFig len tx 80 p = ends isFig len tx (80 - c) (p + c) →
      ∃ τ' c', fX4_takeNumber_0 M τ = some τ' ∧ c' = ends isFig len tx 80 p - p ∧ tI τ' 14 6 = nI (p + c') ∧ tI τ' 14 3 = nI (min 1000 (val tx p c')) ∧ tI τ' 14 2 = (if tx p = 48 ∧ 2 ≤ c' then nI 1 else nI 3) ∧ Fr [(14, 2), (14, 3), (14, 6)] [] τ0 τ' := by
    intro M
    induction M with
    | zero => intro c _ _ h; omega
    | succ M ih =>
      intro c τ hc hM hL h6 h3 hF he
      have g4 : tI τ 14 4 = nI p := by rw [(hF.1 14 4 (by decide)).1, h4]
      have stop : ¬ (p + c < len ∧ isFig (tx (p + c)) = true) → ∃ τ' c', fX4_takeNumber_67 τ = some τ' ∧ c' = ends isFig len tx 80 p - p ∧ tI τ' 14 6 = nI (p + c') ∧ tI τ' 14 3 = nI (min 1000 (val tx p c')) ∧ tI τ' 14 2 = (if tx p = 48 ∧ 2 ≤ c' then nI 1 else nI 3) ∧ Fr [(14, 2), (14, 3), (14, 6)] [] τ0 τ' := by
        intro hn
        rw [ends_stop hn] at he
        obtain ⟨b1, b2⟩ := hL.2.2 p hp
        have fin : ∀ (w : Int32), tI (sI τ 14 2 w) 14 6 = nI (p + c) ∧ tI (sI τ 14 2 w) 14 3 = nI (min 1000 (val tx p c)) ∧ tI (sI τ 14 2 w) 14 2 = w ∧ Fr [(14, 2), (14, 3), (14, 6)] [] τ0 (sI τ 14 2 w) := fun w =>
          ⟨by rw [tI_sI, if_neg (by omega), h6], by rw [tI_sI, if_neg (by omega), h3], by rw [tI_sI, if_pos ⟨rfl, rfl⟩], hF.tr (Fr.sI (by decide))⟩
        have good : ¬ (tx p = 48 ∧ 2 ≤ c) → ∃ τ' c', fX4_takeNumber_97 τ = some τ' ∧ c' = ends isFig len tx 80 p - p ∧ tI τ' 14 6 = nI (p + c') ∧ tI τ' 14 3 = nI (min 1000 (val tx p c')) ∧ tI τ' 14 2 = (if tx p = 48 ∧ 2 ≤ c' then nI 1 else nI 3) ∧ Fr [(14, 2), (14, 3), (14, 6)] [] τ0 τ' := by
          intro hg
          obtain ⟨q1, q2, q3, q4⟩ := fin 3
          refine ⟨sI τ 14 2 3, c, ?_, by omega, q1, q2, ?_, q4⟩
          · rw [fX4_takeNumber_97, fX4_takeNumber_98, if_pos rfl, nm_i]
          · rw [q3, if_neg hg]; rfl
        rw [fX4_takeNumber_67, g4, x_byteAt hL (by omega), Option.bind_some, h6]
        unfold cB
        rw [if_pos hp, pk_sub (by omega), show p + c - p = c by omega]
        by_cases e : tx p = 48
        · rw [if_pos (show nI (tx p) = 48 by rw [e]; rfl)]
          by_cases e2 : 2 ≤ c
          · rw [if_neg (show ¬ nI c ≤ (1 : Int32) by rw [i1]; exact nI_ge (by omega) (by omega)), fX4_takeNumber_98, if_neg (by decide), nm_i]
            obtain ⟨q1, q2, q3, q4⟩ := fin 1
            exact ⟨sI τ 14 2 1, c, rfl, by omega, q1, q2, by rw [q3, if_pos ⟨e, e2⟩]; rfl, q4⟩
          · rw [if_pos (show nI c ≤ (1 : Int32) by rw [i1]; exact nI_le (by omega) (by omega))]
            exact good (fun z => e2 z.2)
        · rw [if_neg (show ¬ nI (tx p) = 48 from fun z => e (nI_inj (b := 48) (by omega) (by omega) z))]
          exact good (fun z => e z.1)
      rw [fX4_takeNumber_0, hL.1, h6]
      by_cases hlt : p + c < len
      · obtain ⟨b1, b2⟩ := hL.2.2 (p + c) hlt
        rw [if_neg (nI_ge hlt (by omega)), x_byteAt hL (by omega), Option.bind_some, nm_i]
        unfold cB
        rw [if_pos hlt, x_figure _ b2]
        cases hb : isFig (tx (p + c)) with
        | false =>
          rw [ifF]
          exact stop (fun z => by rw [hb] at z; cases z.2)
        | true =>
          have hlo := of_decide_eq_true hb
          rw [ifT, Option.bind_some, nm_i, nm_i, h3, show ((10 : Int32) * nI (min 1000 (val tx p c)) + nI (tx (p + c))) - 48 = nI (10 * min 1000 (val tx p c) + (tx (p + c) - 48)) by
            rw [i10, pk_mul, nI_add, show (48 : Int32) = nI 48 from rfl, pk_sub (by omega)]
            congr 1
            omega]
          have ev : (if (1000 : Int32) < nI (10 * min 1000 (val tx p c) + (tx (p + c) - 48)) then (1000 : Int32) else nI (10 * min 1000 (val tx p c) + (tx (p + c) - 48))) = nI (min 1000 (val tx p (c + 1))) := by
            rw [val, show (1000 : Int32) = nI 1000 from rfl]
            by_cases q : 1000 < 10 * min 1000 (val tx p c) + (tx (p + c) - 48)
            · rw [if_pos (nI_lt q (by omega))]
              congr 1
              omega
            · rw [if_neg (fun z => q ((nI_ltI (by omega) (by omega)).mp z))]
              congr 1
              omega
          rw [ev, tI_sI, if_neg (by omega), h6, i1, nI_add]
          have f1 : Fr [(14, 3), (14, 6)] [] τ (sI (sI τ 14 3 (nI (min 1000 (val tx p (c + 1))))) 14 6 (nI (p + c + 1))) := (Fr.sI (by decide)).tr (Fr.sI (by decide))
          have e2 := ih (c + 1) (sI (sI τ 14 3 (nI (min 1000 (val tx p (c + 1))))) 14 6 (nI (p + c + 1))) (by omega) (by omega) (hL.fr f1 (by decide) (by decide)) (by rw [tI_sI, if_pos ⟨rfl, rfl⟩]; rfl) (by rw [tI_sI, if_neg (by omega), tI_sI, if_pos ⟨rfl, rfl⟩]) (hF.tr (f1.wk (by decide) (by decide))) (by
            rw [he, show 80 - c = (80 - (c + 1)) + 1 by omega, ends_step hlt hb]
            rfl)
          exact e2
      · rw [if_pos (nI_le (by omega) (by omega))]
        exact stop (fun z => hlt z.1)
  unfold fX4_takeNumber
  exact key FU 0 τ0 (by omega) (by unfold FU; omega) h h6 (by rw [h3]; rfl) Fr.rf rfl
end XN
