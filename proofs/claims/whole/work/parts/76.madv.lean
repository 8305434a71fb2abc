/-! the reference passes a token -/
section MA
variable {len : Nat} {tx : Nat → Nat}
abbrev tmF : List (Nat × Nat) := [(0, 7), (0, 8), (0, 9), (0, 10)]
theorem m_let : ∀ c, c < 256 → fX7_in (nI c) (65 : Int32) (68 : Int32) = decide (65 ≤ c ∧ c ≤ 68) := by decide +kernel
theorem m_adv {τ0 : Tau} {p : Nat} (h : LM τ0 len tx) (h7 : tI τ0 0 7 = nI p) (hp : p ≤ len) :
    ∃ τ', fX7_advances τ0 = some τ' ∧ TM τ' (skp len tx p) (tok len tx (skp len tx p)) ∧ LM τ' len tx ∧ Fr tmF [] τ0 τ' := by
  have hl := h.2.1
  have key : ∀ M c τ, p + c ≤ len → len - (p + c) < M → LM τ len tx → tI τ 0 7 = nI (p + c) → Fr tmF [] τ0 τ → skp len tx p = ends (fun c => decide (c = 32)) len tx (80 - c) (p + c) →
      ∃ τ', fX7_advances_0 M τ = some τ' ∧ TM τ' (skp len tx p) (tok len tx (skp len tx p)) ∧ Fr tmF [] τ0 τ' := by
    intro M
    induction M with
    | zero => intro c _ _ h; omega
    | succ M ih =>
      intro c τ hc hM hL h7 hF he
      rw [fX7_advances_0, h7, m_byteAt hL (by omega), Option.bind_some]
      by_cases hb : p + c < len ∧ tx (p + c) = 32
      · rw [show cB len tx (p + c) = 32 by unfold cB; rw [if_pos hb.1, hb.2]; rfl, if_pos rfl, nm_i, show nI (p + c) + 1 = nI (p + c + 1) from nI_add _ 1]
        have f1 : Fr tmF [] τ (sI τ 0 7 (nI (p + c + 1))) := Fr.sI (by decide)
        exact ih (c + 1) (sI τ 0 7 (nI (p + c + 1))) (by omega) (by omega) (hL.fr f1 (by decide) (by decide)) (by rw [tI_sI, if_pos ⟨rfl, rfl⟩]; rfl) (hF.tr f1) (by
          rw [he, show 80 - c = (80 - (c + 1)) + 1 by omega, ends_step (P := fun c => decide (c = 32)) hb.1 (decide_eq_true hb.2)]
          rfl)
      · rw [ends_stop (P := fun c => decide (c = 32)) (fun z => hb ⟨z.1, of_decide_eq_true z.2⟩)] at he
        rw [he]
        have n32 : ¬ cB len tx (p + c) = 32 := by
          unfold cB
          by_cases q : p + c < len
          · rw [if_pos q]
            have b2 := hL.2.2.2 _ q
            exact fun z => hb ⟨q, nI_inj (b := 32) (by omega) (by omega) z⟩
          · rw [if_neg q]; decide
        generalize hq : p + c = q at *
        rw [if_neg n32]
        simp only [nm_i]
        have f0 : Fr tmF [] τ (sI τ 0 9 (nI q)) := Fr.sI (by decide)
        have h0 := hL.fr f0 (by decide) (by decide)
        have g9 : tI (sI τ 0 9 (nI q)) 0 9 = nI q := by rw [tI_sI, if_pos ⟨rfl, rfl⟩]
        have g7 : tI (sI τ 0 9 (nI q)) 0 7 = nI q := by rw [tI_sI, if_neg (by omega), h7]
        generalize sI τ 0 9 (nI q) = τ1 at *
        have fr0 : Fr tmF [] τ0 τ1 := hF.tr f0
        rw [g7, m_byteAt h0 (by omega), Option.bind_some]
        unfold cB tok
        by_cases hlt : q < len
        · have b2 := h0.2.2.2 q hlt
          rw [if_pos hlt, if_pos (nI_pos' (by omega)), m_low _ b2, if_neg (not_not_intro hlt)]
          cases hlo : isLow (tx q) with
          | true =>
            rw [ifT, if_pos rfl]
            obtain ⟨τ', c', e, hc', e7, w1, w2, f1⟩ := m_word71 h0 g7 (by omega)
            have hle := (ends_le isLow len tx 80 q).1
            have p9 : tI τ' 0 9 = nI q := by rw [(f1.1 0 9 (by decide)).1, g9]
            have p7 : tI τ' 0 7 = nI (ends isLow len tx 80 q) := by rw [e7]; congr 1; omega
            refine ⟨τ', e, ?_, fr0.tr (f1.wk (by decide) (by decide))⟩
            rw [← hc']
            cases hs : wdK (pack tx q c') with
            | none =>
              have hno : ∀ k, k < 9 → vw k ≠ pack tx q c' := fun k hk => of_decide_eq_false (srch_none hs k (Nat.zero_le _) (by omega))
              exact ⟨p9, p7, fun z => (by cases z), fun _ => w2 hno, fun z => (by cases z), fun z => (by cases z), fun z => (by cases z), fun z => (by cases z)⟩
            | some k =>
              obtain ⟨_, k9, kt, _⟩ := srch_some hs
              exact ⟨p9, p7, fun z => (by cases z), fun z => (by cases z), fun _ => w1 k (by omega) (of_decide_eq_true kt), fun z => (by cases z), fun z => (by cases z), fun z => (by cases z)⟩
          | false =>
            rw [ifF, if_neg (show ¬ (false = true) by decide), m_fig _ b2]
            cases hfi : isFig (tx q) with
            | true =>
              rw [ifT, if_pos rfl]
              have f1 : Fr tmF [] τ1 (sI τ1 0 10 0) := Fr.sI (by decide)
              obtain ⟨τ', c', m, e, hc', e7, e10, hm, e8, f2⟩ := m_num187 (h0.fr f1 (by decide) (by decide)) (by rw [tI_sI, if_neg (by omega), g7]) (by rw [tI_sI, if_pos ⟨rfl, rfl⟩]; rfl) hlt hfi
              have hle := (ends_le isFig len tx 80 q).1
              have p9 : tI τ' 0 9 = nI q := by rw [(f2.1 0 9 (by decide)).1, tI_sI, if_neg (by omega), g9]
              have p7 : tI τ' 0 7 = nI (ends isFig len tx 80 q) := by rw [e7]; congr 1; omega
              refine ⟨τ', e, ?_, (fr0.tr f1).tr (f2.wk (by decide) (by decide))⟩
              rw [← hc']
              by_cases hz : tx q = 48 ∧ 2 ≤ c'
              · rw [if_pos hz] at e8
                rw [if_pos hz]
                exact ⟨p9, p7, fun z => (by cases z), fun _ => e8, fun z => (by cases z), fun z => (by cases z), fun z => (by cases z), fun z => (by cases z)⟩
              · rw [if_neg hz] at e8
                rw [if_neg hz]
                exact ⟨p9, p7, fun z => (by cases z), fun z => (by cases z), fun z => (by cases z), fun _ => ⟨e8, m, e10, hm⟩, fun z => (by cases z), fun z => (by cases z)⟩
            | false =>
              rw [ifF, if_neg (show ¬ (false = true) by decide), m_let _ b2]
              have e11 : tI (sI τ1 0 10 (nI (tx q))) 0 7 + 1 = nI (q + 1) := by rw [tI_sI, if_neg (by omega), g7]; exact nI_add q 1
              rw [e11]
              have f1 : Fr tmF [] τ0 (sI (sI τ1 0 10 (nI (tx q))) 0 7 (nI (q + 1))) := (fr0.tr (Fr.sI (by decide))).tr (Fr.sI (by decide))
              have u9 : tI (sI (sI τ1 0 10 (nI (tx q))) 0 7 (nI (q + 1))) 0 9 = nI q := by rw [tI_sI, if_neg (by omega), tI_sI, if_neg (by omega), g9]
              have u7 : tI (sI (sI τ1 0 10 (nI (tx q))) 0 7 (nI (q + 1))) 0 7 = nI (q + 1) := by rw [tI_sI, if_pos ⟨rfl, rfl⟩]
              have u10 : tI (sI (sI τ1 0 10 (nI (tx q))) 0 7 (nI (q + 1))) 0 10 = nI (tx q) := by rw [tI_sI, if_neg (by omega), tI_sI, if_pos ⟨rfl, rfl⟩]
              generalize sI (sI τ1 0 10 (nI (tx q))) 0 7 (nI (q + 1)) = τ2 at *
              have r345 : fX7_advances_345 τ2 = some (sI τ2 0 8 3) := by
                rw [fX7_advances_345, fX7_advances_350, if_neg (by decide), nm_i]
              have r350 : fX7_advances_350 τ2 0 = some (sI τ2 0 8 4) := by
                rw [fX7_advances_350, if_pos rfl, nm_i]
              have v9 : ∀ w, tI (sI τ2 0 8 w) 0 9 = nI q := fun w => by rw [tI_sI, if_neg (by omega), u9]
              have v7 : ∀ w, tI (sI τ2 0 8 w) 0 7 = nI (q + 1) := fun w => by rw [tI_sI, if_neg (by omega), u7]
              have v10 : ∀ w, tI (sI τ2 0 8 w) 0 10 = nI (tx q) := fun w => by rw [tI_sI, if_neg (by omega), u10]
              have v8 : ∀ w, tI (sI τ2 0 8 w) 0 8 = w := fun w => by rw [tI_sI, if_pos ⟨rfl, rfl⟩]
              by_cases hk : 65 ≤ tx q ∧ tx q ≤ 68
              · rw [decide_eq_true hk, ifT, if_pos hk, r345]
                refine ⟨_, rfl, ⟨v9 _, v7 _, fun z => (by cases z), fun z => (by cases z), fun z => (by cases z), fun z => (by cases z), fun _ => ⟨v8 _, ?_⟩, fun z => (by cases z)⟩, f1.tr (Fr.sI (by decide))⟩
                rw [v10]
                congr 1
                show tx q = 65 + (tx q - 65)
                omega
              · rw [decide_eq_false hk, ifF, if_neg hk]
                have sgn : (if nI (tx q) = (58 : Int32) then fX7_advances_345 τ2 else if nI (tx q) = (124 : Int32) then fX7_advances_345 τ2 else if nI (tx q) = (38 : Int32) then fX7_advances_345 τ2 else if nI (tx q) = (33 : Int32) then fX7_advances_345 τ2 else if nI (tx q) = (40 : Int32) then fX7_advances_345 τ2 else if nI (tx q) = (41 : Int32) then fX7_advances_345 τ2 else fX7_advances_350 τ2 (0 : Int32)) = if isSg (tx q) = true then some (sI τ2 0 8 3) else some (sI τ2 0 8 4) := by
                  rw [r345, r350]
                  unfold isSg
                  have w : ∀ k : Nat, k < 256 → ((nI (tx q) = nI k) ↔ tx q = k) := fun k hk => nI_eq (by omega) (by omega)
                  rw [show (58 : Int32) = nI 58 from rfl, show (124 : Int32) = nI 124 from rfl, show (38 : Int32) = nI 38 from rfl, show (33 : Int32) = nI 33 from rfl, show (40 : Int32) = nI 40 from rfl, show (41 : Int32) = nI 41 from rfl]
                  simp only [w 58 (by omega), w 124 (by omega), w 38 (by omega), w 33 (by omega), w 40 (by omega), w 41 (by omega)]
                  by_cases h1 : tx q = 58 <;> by_cases h2 : tx q = 124 <;> by_cases h3 : tx q = 38 <;> by_cases h4 : tx q = 33 <;> by_cases h5 : tx q = 40 <;> by_cases h6 : tx q = 41 <;> simp [h1, h2, h3, h4, h5, h6]
                rw [sgn]
                cases hsg : isSg (tx q) with
                | true =>
                  rw [if_pos rfl, if_pos rfl]
                  exact ⟨_, rfl, ⟨v9 _, v7 _, fun z => (by cases z), fun z => (by cases z), fun z => (by cases z), fun z => (by cases z), fun z => (by cases z), fun _ => ⟨v8 _, v10 _⟩⟩, f1.tr (Fr.sI (by decide))⟩
                | false =>
                  rw [if_neg (by decide), if_neg (by decide)]
                  exact ⟨_, rfl, ⟨v9 _, v7 _, fun z => (by cases z), fun _ => v8 _, fun z => (by cases z), fun z => (by cases z), fun z => (by cases z), fun z => (by cases z)⟩, f1.tr (Fr.sI (by decide))⟩
        · rw [if_neg hlt, if_neg (show ¬ (0 : Int32) ≤ -1 by decide), if_pos hlt]
          refine ⟨_, rfl, ⟨?_, ?_, fun _ => ?_, fun z => (by cases z), fun z => (by cases z), fun z => (by cases z), fun z => (by cases z), fun z => (by cases z)⟩, fr0.tr (Fr.sI (by decide))⟩
          · rw [tI_sI, if_neg (by omega), g9]
          · rw [tI_sI, if_neg (by omega), g7]
          · rw [tI_sI, if_pos ⟨rfl, rfl⟩]; rfl
  obtain ⟨τ', e, t, f⟩ := key FU 0 τ0 (by omega) (by unfold FU; omega) h h7 Fr.rf rfl
  exact ⟨τ', e, t, h.fr f (by decide) (by decide), f⟩
end MA
