/-! the reference takes a number -/
section MNU
variable {len : Nat} {tx : Nat → Nat}
def Nm (m v : Nat) : Prop := (m = v ∨ (100 ≤ m ∧ 100 ≤ v)) ∧ m ≤ 999
theorem m_num187 {τ0 : Tau} {p : Nat} (h : LM τ0 len tx) (h7 : tI τ0 0 7 = nI p) (h10 : tI τ0 0 10 = nI 0) (hp : p < len) (hf : isFig (tx p) = true) :
    ∃ τ' c m, fX7_advances_187 FU τ0 (nI (tx p)) (0 : Int32) = some τ' ∧ c = ends isFig len tx 80 p - p ∧ tI τ' 0 7 = nI (p + c) ∧ tI τ' 0 10 = nI m ∧ Nm m (val tx p c) ∧ tI τ' 0 8 = (if tx p = 48 ∧ 2 ≤ c then nI 4 else nI 2) ∧ Fr [(0, 7), (0, 8), (0, 10)] [] τ0 τ' := by
  have hl := h.2.1
  have key : ∀ M c m τ, p + c ≤ len → len - (p + c) < M → LM τ len tx → tI τ 0 7 = nI (p + c) → tI τ 0 10 = nI m → Nm m (val tx p c) → Fr [(0, 7), (0, 8), (0, 10)] [] τ0 τ → ends isFig len tx 80 p = ends isFig len tx (80 - c) (p + c) →
      ∃ τ' c' m', fX7_advances_187 M τ (nI (tx p)) (nI c) = some τ' ∧ c' = ends isFig len tx 80 p - p ∧ tI τ' 0 7 = nI (p + c') ∧ tI τ' 0 10 = nI m' ∧ Nm m' (val tx p c') ∧ tI τ' 0 8 = (if tx p = 48 ∧ 2 ≤ c' then nI 4 else nI 2) ∧ Fr [(0, 7), (0, 8), (0, 10)] [] τ0 τ' := by
    intro M
    induction M with
    | zero => intro c _ _ _ h; omega
    | succ M ih =>
      intro c m τ hc hM hL h7 h10 hm hF he
      have bp := hL.2.2.2 p hp
      have fin : ∀ (w : Int32), tI (sI τ 0 8 w) 0 7 = nI (p + c) ∧ tI (sI τ 0 8 w) 0 10 = nI m ∧ tI (sI τ 0 8 w) 0 8 = w ∧ Fr [(0, 7), (0, 8), (0, 10)] [] τ0 (sI τ 0 8 w) := fun w =>
        ⟨by rw [tI_sI, if_neg (by omega), h7], by rw [tI_sI, if_neg (by omega), h10], by rw [tI_sI, if_pos ⟨rfl, rfl⟩], hF.tr (Fr.sI (by decide))⟩
      have stop : ¬ (p + c < len ∧ isFig (tx (p + c)) = true) → ∃ τ' c' m', (if nI (tx p) = (48 : Int32) then (if nI c ≤ (1 : Int32) then nm (sI τ 0 8 (2 : Int32)) (fun t43 => some t43) else nm (sI τ 0 8 (4 : Int32)) (fun t44 => some t44)) else nm (sI τ 0 8 (2 : Int32)) (fun t41 => some t41)) = some τ' ∧ c' = ends isFig len tx 80 p - p ∧ tI τ' 0 7 = nI (p + c') ∧ tI τ' 0 10 = nI m' ∧ Nm m' (val tx p c') ∧ tI τ' 0 8 = (if tx p = 48 ∧ 2 ≤ c' then nI 4 else nI 2) ∧ Fr [(0, 7), (0, 8), (0, 10)] [] τ0 τ' := by
        intro hn
        rw [ends_stop hn] at he
        obtain ⟨q1, q2, q3, q4⟩ := fin 2
        obtain ⟨r1, r2, r3, r4⟩ := fin 4
        by_cases e : tx p = 48
        · rw [if_pos (show nI (tx p) = 48 by rw [e]; rfl)]
          by_cases e2 : 2 ≤ c
          · rw [if_neg (show ¬ nI c ≤ (1 : Int32) by rw [i1]; exact nI_ge (by omega) (by omega)), nm_i]
            exact ⟨sI τ 0 8 4, c, m, rfl, by omega, r1, r2, hm, by rw [r3, if_pos ⟨e, e2⟩]; rfl, r4⟩
          · rw [if_pos (show nI c ≤ (1 : Int32) by rw [i1]; exact nI_le (by omega) (by omega)), nm_i]
            exact ⟨sI τ 0 8 2, c, m, rfl, by omega, q1, q2, hm, by rw [q3, if_neg (fun z => e2 z.2)]; rfl, q4⟩
        · rw [if_neg (show ¬ nI (tx p) = 48 from fun z => e (nI_inj (b := 48) (by omega) (by omega) z)), nm_i]
          exact ⟨sI τ 0 8 2, c, m, rfl, by omega, q1, q2, hm, by rw [q3, if_neg (fun z => e z.1)]; rfl, q4⟩
      rw [fX7_advances_187, h7, m_byteAt hL (by omega), Option.bind_some, nm_i]
      unfold cB
      by_cases hlt : p + c < len
      · have b2 := hL.2.2.2 (p + c) hlt
        rw [if_pos hlt, m_fig _ b2]
        cases hb : isFig (tx (p + c)) with
        | false =>
          rw [ifF]
          exact stop (fun z => by rw [hb] at z; cases z.2)
        | true =>
          have hlo := of_decide_eq_true hb
          rw [ifT]
          have go : ∀ mm, Nm mm (val tx p (c + 1)) → ∃ τ' c' m', fX7_advances_241 (fX7_advances_187 M) τ (nI (tx p)) (nI c) (nI mm) = some τ' ∧ c' = ends isFig len tx 80 p - p ∧ tI τ' 0 7 = nI (p + c') ∧ tI τ' 0 10 = nI m' ∧ Nm m' (val tx p c') ∧ tI τ' 0 8 = (if tx p = 48 ∧ 2 ≤ c' then nI 4 else nI 2) ∧ Fr [(0, 7), (0, 8), (0, 10)] [] τ0 τ' := by
            intro mm hm'
            have f1 : Fr [(0, 7), (0, 10)] [] τ (sI (sI τ 0 10 (nI mm)) 0 7 (nI (p + c + 1))) := (Fr.sI (by decide)).tr (Fr.sI (by decide))
            rw [fX7_advances_241, nm_i, nm_i, nm_i, tI_sI, if_neg (by omega), h7, i1, nI_add, nI_add]
            exact ih (c + 1) mm (sI (sI τ 0 10 (nI mm)) 0 7 (nI (p + c + 1))) (by omega) (by omega) (hL.fr f1 (by decide) (by decide)) (by rw [tI_sI, if_pos ⟨rfl, rfl⟩]; rfl) (by rw [tI_sI, if_neg (by omega), tI_sI, if_pos ⟨rfl, rfl⟩]) hm' (hF.tr (f1.wk (by decide) (by decide))) (by
              rw [he, show 80 - c = (80 - (c + 1)) + 1 by omega, ends_step hlt hb]
              rfl)
          obtain ⟨hm1, hm2⟩ := hm
          rw [h10]
          by_cases h99 : m ≤ 99
          · rw [if_pos (show nI m ≤ (99 : Int32) from nI_le (b := 99) h99 (by omega)), Option.bind_some, show ((10 : Int32) * nI m + nI (tx (p + c))) - 48 = nI (10 * m + (tx (p + c) - 48)) by
              rw [i10, pk_mul, nI_add, show (48 : Int32) = nI 48 from rfl, pk_sub (by omega)]
              congr 1
              omega]
            refine go _ ⟨?_, by omega⟩
            rw [val]
            omega
          · rw [if_neg (show ¬ nI m ≤ (99 : Int32) from nI_ge (a := 99) (by omega) (by omega))]
            refine go _ ⟨?_, hm2⟩
            rw [val]
            omega
      · rw [if_neg hlt, show fX7_in (-1) (48 : Int32) (57 : Int32) = false by decide, ifF]
        exact stop (fun z => hlt z.1)
  have e := key FU 0 0 τ0 (by omega) (by unfold FU; omega) h h7 h10 ⟨Or.inl rfl, by omega⟩ Fr.rf rfl
  exact e
end MNU
