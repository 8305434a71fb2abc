/-! the class passes a token -/
section XA
variable {len : Nat} {tx : Nat → Nat}
abbrev tkF : List (Nat × Nat) := [(14, 2), (14, 3), (14, 4), (14, 6)]
theorem x_adv47 {τ0 : Tau} {q : Nat} (h : LX τ0 len tx) (h6 : tI τ0 14 6 = nI q) (hq : q ≤ len) :
    ∃ τ', fX4_advance_47 τ0 = some τ' ∧ TX τ' q (tok len tx q) ∧ Fr tkF [] τ0 τ' := by
  have hl := h.2.1
  unfold fX4_advance_47
  simp only [nm_i]
  have f0 : Fr tkF [] τ0 (sI (sI τ0 14 4 (tI τ0 14 6)) 14 3 0) := (Fr.sI (by decide)).tr (Fr.sI (by decide))
  have h0 := h.fr f0 (by decide) (by decide)
  have g4 : tI (sI (sI τ0 14 4 (tI τ0 14 6)) 14 3 0) 14 4 = nI q := by rw [tI_sI, if_neg (by omega), tI_sI, if_pos ⟨rfl, rfl⟩, h6]
  have g6 : tI (sI (sI τ0 14 4 (tI τ0 14 6)) 14 3 0) 14 6 = nI q := by rw [tI_sI, if_neg (by omega), tI_sI, if_neg (by omega), h6]
  have g3 : tI (sI (sI τ0 14 4 (tI τ0 14 6)) 14 3 0) 14 3 = nI 0 := by rw [tI_sI, if_pos ⟨rfl, rfl⟩]; rfl
  generalize sI (sI τ0 14 4 (tI τ0 14 6)) 14 3 0 = τ at *
  rw [g4, x_byteAt h0 (by omega), Option.bind_some]
  unfold cB tok
  by_cases hlt : q < len
  · obtain ⟨b1, b2⟩ := h0.2.2 q hlt
    rw [if_pos hlt, if_pos (nI_pos' (by omega)), x_letter _ b2, if_neg (not_not_intro hlt)]
    cases hlo : isLow (tx q) with
    | true =>
      rw [ifT, if_pos rfl]
      obtain ⟨τ', c, e, hc, e6, w1, w2, f1⟩ := x_takeWord h0 g6 hq
      have hle := (ends_le isLow len tx 80 q).1
      rw [e, Option.bind_some]
      refine ⟨τ', rfl, ?_, f0.tr (f1.wk (by decide) (by decide))⟩
      have p4 : tI τ' 14 4 = nI q := by rw [(f1.1 14 4 (by decide)).1, g4]
      have p6 : tI τ' 14 6 = nI (ends isLow len tx 80 q) := by rw [e6]; congr 1; omega
      rw [← hc]
      cases hs : wdK (pack tx q c) with
      | none =>
        have hno : ∀ k, k < 9 → vw k ≠ pack tx q c := fun k hk => of_decide_eq_false (srch_none hs k (Nat.zero_le _) (by omega))
        exact ⟨p4, p6, fun z => (by cases z), fun _ => (w2 hno).1, fun z => (by cases z), fun z => (by cases z), fun z => (by cases z), fun z => (by cases z)⟩
      | some k =>
        obtain ⟨_, k9, kt, _⟩ := srch_some hs
        exact ⟨p4, p6, fun z => (by cases z), fun z => (by cases z), fun _ => w1 k (by omega) (of_decide_eq_true kt), fun z => (by cases z), fun z => (by cases z), fun z => (by cases z)⟩
    | false =>
      rw [ifF, if_neg (show ¬ (false = true) by decide), x_figure _ b2]
      cases hfi : isFig (tx q) with
      | true =>
        rw [ifT, if_pos rfl]
        obtain ⟨τ', c, e, hc, e6, e3, e2, f1⟩ := x_takeNumber h0 g6 g4 g3 hlt hfi
        have hle := (ends_le isFig len tx 80 q).1
        rw [e, Option.bind_some]
        refine ⟨τ', rfl, ?_, f0.tr (f1.wk (by decide) (by decide))⟩
        have p4 : tI τ' 14 4 = nI q := by rw [(f1.1 14 4 (by decide)).1, g4]
        have p6 : tI τ' 14 6 = nI (ends isFig len tx 80 q) := by rw [e6]; congr 1; omega
        rw [← hc]
        by_cases hz : tx q = 48 ∧ 2 ≤ c
        · rw [if_pos hz] at e2
          rw [if_pos hz]
          exact ⟨p4, p6, fun z => (by cases z), fun _ => e2, fun z => (by cases z), fun z => (by cases z), fun z => (by cases z), fun z => (by cases z)⟩
        · rw [if_neg hz] at e2
          rw [if_neg hz]
          exact ⟨p4, p6, fun z => (by cases z), fun z => (by cases z), fun z => (by cases z), fun _ => ⟨e2, e3⟩, fun z => (by cases z), fun z => (by cases z)⟩
      | false =>
        rw [ifF, if_neg (show ¬ (false = true) by decide)]
        unfold fX4_takeSign
        simp only [nm_i]
        rw [g6, show nI q + 1 = nI (q + 1) from nI_add q 1]
        have f1 : Fr tkF [] τ (sI τ 14 6 (nI (q + 1))) := Fr.sI (by decide)
        have sg : ∃ τ', some (fX4_takeSign_38 (nI (tx q)) (sI τ 14 6 (nI (q + 1)))) = some τ' ∧ TX τ' q (if isSg (tx q) = true then (5, tx q, q + 1) else (1, 0, q + 1)) ∧ Fr tkF [] τ0 τ' := by
          rw [x_sign _ b2]
          cases hsg : isSg (tx q) with
          | true =>
            rw [if_pos rfl, if_pos rfl]
            refine ⟨_, rfl, ⟨?_, ?_, fun z => (by cases z), fun z => (by cases z), fun z => (by cases z), fun z => (by cases z), fun z => (by cases z), fun _ => ?_⟩, (f0.tr f1).tr (Fr.sI (by decide))⟩
            · rw [tI_sI, if_neg (by omega), tI_sI, if_neg (by omega), g4]
            · rw [tI_sI, if_neg (by omega), tI_sI, if_pos ⟨rfl, rfl⟩]
            · rw [tI_sI, if_pos ⟨rfl, rfl⟩]
          | false =>
            rw [if_neg (by decide), if_neg (by decide)]
            refine ⟨_, rfl, ⟨?_, ?_, fun z => (by cases z), fun _ => ?_, fun z => (by cases z), fun z => (by cases z), fun z => (by cases z), fun z => (by cases z)⟩, (f0.tr f1).tr (Fr.sI (by decide))⟩
            · rw [tI_sI, if_neg (by omega), tI_sI, if_neg (by omega), g4]
            · rw [tI_sI, if_neg (by omega), tI_sI, if_pos ⟨rfl, rfl⟩]
            · rw [tI_sI, if_pos ⟨rfl, rfl⟩]; rfl
        by_cases c1 : tx q < 65
        · rw [if_pos (show nI (tx q) < (65 : Int32) from nI_lt (b := 65) c1 (by omega)), if_neg (by omega)]
          exact sg
        · rw [if_neg (show ¬ nI (tx q) < (65 : Int32) from fun z => c1 ((nI_ltI (b := 65) (by omega) (by omega)).mp z))]
          by_cases c2 : 69 ≤ tx q
          · rw [if_pos (show (69 : Int32) ≤ nI (tx q) from nI_le (a := 69) c2 (by omega)), if_neg (by omega)]
            exact sg
          · rw [if_neg (show ¬ (69 : Int32) ≤ nI (tx q) from nI_ge (b := 69) (by omega) (by omega)), if_pos (by omega), show nI (tx q) - 65 = nI (tx q - 65) from pk_sub (a := tx q) (b := 65) (by omega)]
            refine ⟨_, rfl, ⟨?_, ?_, fun z => (by cases z), fun z => (by cases z), fun z => (by cases z), fun z => (by cases z), fun _ => ⟨?_, ?_⟩, fun z => (by cases z)⟩, ((f0.tr f1).tr (Fr.sI (by decide))).tr (Fr.sI (by decide))⟩
            · rw [tI_sI, if_neg (by omega), tI_sI, if_neg (by omega), tI_sI, if_neg (by omega), g4]
            · rw [tI_sI, if_neg (by omega), tI_sI, if_neg (by omega), tI_sI, if_pos ⟨rfl, rfl⟩]
            · rw [tI_sI, if_neg (by omega), tI_sI, if_pos ⟨rfl, rfl⟩]; rfl
            · rw [tI_sI, if_pos ⟨rfl, rfl⟩]
  · rw [if_neg hlt, if_neg (show ¬ (0 : Int32) ≤ -1 by decide), if_pos hlt]
    refine ⟨_, rfl, ⟨?_, ?_, fun _ => ?_, fun z => (by cases z), fun z => (by cases z), fun z => (by cases z), fun z => (by cases z), fun z => (by cases z)⟩, f0.tr (Fr.sI (by decide))⟩
    · rw [tI_sI, if_neg (by omega), g4]
    · rw [tI_sI, if_neg (by omega), g6]
    · rw [tI_sI, if_pos ⟨rfl, rfl⟩]; rfl
end XA
