/-! the reference takes a word, a number -/
section ML
variable {len : Nat} {tx : Nat → Nat}
theorem m_wordOf {n : Nat} (hn : n < 2 ^ 40) : (∀ k, k < 9 → vw k = n → fX7_wordOf (qN n) = nI k) ∧ ((∀ k, k < 9 → vw k ≠ n) → fX7_wordOf (qN n) = -9) := by
  have q : ∀ k, k < 9 → (lg_cmp (qN n) (qN (vw k)) = 0 ↔ n = vw k) := by
    intro k hk
    have hv := (vw_ok k hk).2.2
    rw [lg_cmp_eq]
    constructor
    · intro z
      have := qN_inj z
      rw [Nat.mod_eq_of_lt (by omega), Nat.mod_eq_of_lt (by omega)] at this
      exact this
    · intro z; rw [z]
  have w0 : fX7_word (97 : Int32) (108 : Int32) (108 : Int32) (0 : Int32) (0 : Int32) = qN (vw 0) := by decide
  have w1 : fX7_word (115 : Int32) (111 : Int32) (109 : Int32) (101 : Int32) (0 : Int32) = qN (vw 1) := by decide
  have w2 : fX7_word (110 : Int32) (111 : Int32) (0 : Int32) (0 : Int32) (0 : Int32) = qN (vw 2) := by decide
  have w3 : fX7_word (109 : Int32) (111 : Int32) (115 : Int32) (116 : Int32) (0 : Int32) = qN (vw 3) := by decide
  have w4 : fX7_word (108 : Int32) (101 : Int32) (97 : Int32) (115 : Int32) (116 : Int32) = qN (vw 4) := by decide
  have w5 : fX7_word (106 : Int32) (117 : Int32) (115 : Int32) (116 : Int32) (0 : Int32) = qN (vw 5) := by decide
  have w6 : fX7_word (109 : Int32) (111 : Int32) (114 : Int32) (101 : Int32) (0 : Int32) = qN (vw 6) := by decide
  have w7 : fX7_word (101 : Int32) (118 : Int32) (101 : Int32) (110 : Int32) (0 : Int32) = qN (vw 7) := by decide
  have w8 : fX7_word (110 : Int32) (111 : Int32) (116 : Int32) (0 : Int32) (0 : Int32) = qN (vw 8) := by decide
  have hit : ∀ j, j < 9 → n = vw j → (∀ k, k < 9 → vw k = n → nI j = nI k) ∧ ((∀ k, k < 9 → vw k ≠ n) → nI j = -9) := by
    intro j hj e
    refine ⟨fun k hk h => by rw [vw_one k hk j hj (h.trans e)], fun h => absurd e.symm (h j hj)⟩
  unfold fX7_wordOf
  simp only [nm_i]
  rw [w0, w1, w2, w3, w4, w5, w6, w7, w8]
  by_cases e0 : n = vw 0
  · rw [if_pos ((q 0 (by omega)).mpr e0)]
    exact hit 0 (by omega) e0
  rw [if_neg (fun z => e0 ((q 0 (by omega)).mp z))]
  by_cases e1 : n = vw 1
  · rw [if_pos ((q 1 (by omega)).mpr e1)]
    exact hit 1 (by omega) e1
  rw [if_neg (fun z => e1 ((q 1 (by omega)).mp z))]
  by_cases e2 : n = vw 2
  · rw [if_pos ((q 2 (by omega)).mpr e2)]
    exact hit 2 (by omega) e2
  rw [if_neg (fun z => e2 ((q 2 (by omega)).mp z))]
  by_cases e3 : n = vw 3
  · rw [if_pos ((q 3 (by omega)).mpr e3)]
    exact hit 3 (by omega) e3
  rw [if_neg (fun z => e3 ((q 3 (by omega)).mp z))]
  by_cases e4 : n = vw 4
  · rw [if_pos ((q 4 (by omega)).mpr e4)]
    exact hit 4 (by omega) e4
  rw [if_neg (fun z => e4 ((q 4 (by omega)).mp z))]
  by_cases e5 : n = vw 5
  · rw [if_pos ((q 5 (by omega)).mpr e5)]
    exact hit 5 (by omega) e5
  rw [if_neg (fun z => e5 ((q 5 (by omega)).mp z))]
  by_cases e6 : n = vw 6
  · rw [if_pos ((q 6 (by omega)).mpr e6)]
    exact hit 6 (by omega) e6
  rw [if_neg (fun z => e6 ((q 6 (by omega)).mp z))]
  by_cases e7 : n = vw 7
  · rw [if_pos ((q 7 (by omega)).mpr e7)]
    exact hit 7 (by omega) e7
  rw [if_neg (fun z => e7 ((q 7 (by omega)).mp z))]
  by_cases e8 : n = vw 8
  · rw [if_pos ((q 8 (by omega)).mpr e8)]
    exact hit 8 (by omega) e8
  rw [if_neg (fun z => e8 ((q 8 (by omega)).mp z))]
  refine ⟨fun k hk h => ?_, fun _ => rfl⟩
  exfalso
  have : k = 0 ∨ k = 1 ∨ k = 2 ∨ k = 3 ∨ k = 4 ∨ k = 5 ∨ k = 6 ∨ k = 7 ∨ k = 8 := by omega
  rcases this with rfl | rfl | rfl | rfl | rfl | rfl | rfl | rfl | rfl
  · exact e0 h.symm
  · exact e1 h.symm
  · exact e2 h.symm
  · exact e3 h.symm
  · exact e4 h.symm
  · exact e5 h.symm
  · exact e6 h.symm
  · exact e7 h.symm
  · exact e8 h.symm
theorem m_word71 {τ0 : Tau} {p : Nat} (h : LM τ0 len tx) (h7 : tI τ0 0 7 = nI p) (hp : p ≤ len) :
    ∃ τ' c, fX7_advances_71 FU τ0 (0 : Int64) (0 : Int32) = some τ' ∧ c = ends isLow len tx 80 p - p ∧ tI τ' 0 7 = nI (p + c) ∧ (∀ k, k < 9 → vw k = pack tx p c → tI τ' 0 8 = nI 1 ∧ tI τ' 0 10 = nI k) ∧ ((∀ k, k < 9 → vw k ≠ pack tx p c) → tI τ' 0 8 = nI 4) ∧ Fr [(0, 7), (0, 8), (0, 10)] [] τ0 τ' := by
  have hl := h.2.1
  have key : ∀ M c τ, p + c ≤ len → len - (p + c) < M → LM τ len tx → tI τ 0 7 = nI (p + c) → Fr [(0, 7), (0, 8), (0, 10)] [] τ0 τ → (∀ j, p ≤ j → j < p + c → 97 ≤ tx j) → ends isLow len tx 80 p = ends isLow len tx (80 - c) (p + c) →
      ∃ τ' c', fX7_advances_71 M τ (qN (pack tx p (min c 5))) (nI c) = some τ' ∧ c' = ends isLow len tx 80 p - p ∧ tI τ' 0 7 = nI (p + c') ∧ (∀ k, k < 9 → vw k = pack tx p c' → tI τ' 0 8 = nI 1 ∧ tI τ' 0 10 = nI k) ∧ ((∀ k, k < 9 → vw k ≠ pack tx p c') → tI τ' 0 8 = nI 4) ∧ Fr [(0, 7), (0, 8), (0, 10)] [] τ0 τ' := by
    intro M
    induction M with
    | zero => intro c _ _ h; omega
    | succ M ih =>
      intro c τ hc hM hL h7 hF hlow he
      have bytes : ∀ j, j < p + c → tx j < 256 := fun j hj => hL.2.2.2 j (by omega)
      have bad : tI (sI (sI τ 0 10 (-9)) 0 8 4) 0 7 = nI (p + c) ∧ tI (sI (sI τ 0 10 (-9)) 0 8 4) 0 8 = nI 4 ∧ Fr [(0, 7), (0, 8), (0, 10)] [] τ0 (sI (sI τ 0 10 (-9)) 0 8 4) :=
        ⟨by rw [tI_sI, if_neg (by omega), tI_sI, if_neg (by omega), h7], by rw [tI_sI, if_pos ⟨rfl, rfl⟩]; rfl, (hF.tr (Fr.sI (by decide))).tr (Fr.sI (by decide))⟩
      have e10 : ∀ v, tI (sI τ 0 10 v) 0 10 = v := fun v => by rw [tI_sI, if_pos ⟨rfl, rfl⟩]
      have b145 : fX7_advances_145 τ (-9) = some (sI (sI τ 0 10 (-9)) 0 8 4) := by
        rw [fX7_advances_145, nm_i, e10, if_pos rfl, nm_i]
      have stop : ¬ (p + c < len ∧ isLow (tx (p + c)) = true) → ∃ τ' c', (if (6 : Int32) ≤ nI c then fX7_advances_145 τ (-9 : Int32) else nm (fX7_wordOf (qN (pack tx p (min c 5)))) (fun r27 => fX7_advances_145 τ r27)) = some τ' ∧ c' = ends isLow len tx 80 p - p ∧ tI τ' 0 7 = nI (p + c') ∧ (∀ k, k < 9 → vw k = pack tx p c' → tI τ' 0 8 = nI 1 ∧ tI τ' 0 10 = nI k) ∧ ((∀ k, k < 9 → vw k ≠ pack tx p c') → tI τ' 0 8 = nI 4) ∧ Fr [(0, 7), (0, 8), (0, 10)] [] τ0 τ' := by
        intro hn
        rw [ends_stop hn] at he
        by_cases h6 : 6 ≤ c
        · rw [if_pos (show (6 : Int32) ≤ nI c by rw [i6]; exact nI_le h6 (by omega)), b145]
          refine ⟨_, c, rfl, by omega, bad.1, fun k hk e => ?_, fun _ => bad.2.1, bad.2.2⟩
          exact absurd (by rw [e]) (pack_long (tx := tx) (p := p) (c := c) h6 bytes hlow hk)
        · rw [if_neg (show ¬ (6 : Int32) ≤ nI c by rw [i6]; exact nI_ge (by omega) (by omega)), nm_i, show min c 5 = c by omega]
          have hb := pack_lt (tx := tx) (p := p) c bytes
          have hb2 : (256 : Nat) ^ c ≤ 256 ^ 5 := Nat.pow_le_pow_right (by omega) (by omega)
          have e5 : (256 : Nat) ^ 5 = 2 ^ 40 := by decide
          obtain ⟨g1, g2⟩ := m_wordOf (n := pack tx p c) (by omega)
          cases hs : srch (fun k => decide (vw k = pack tx p c)) 9 0 with
          | none =>
            have hno : ∀ k, k < 9 → vw k ≠ pack tx p c := fun k hk => of_decide_eq_false (srch_none hs k (Nat.zero_le _) (by omega))
            rw [g2 hno, b145]
            exact ⟨_, c, rfl, by omega, bad.1, fun k hk e => absurd e (hno k hk), fun _ => bad.2.1, bad.2.2⟩
          | some k =>
            obtain ⟨_, k9, kt, _⟩ := srch_some hs
            have kt := of_decide_eq_true kt
            rw [g1 k (by omega) kt, fX7_advances_145, nm_i, e10, if_neg (nI_ne9 (by omega)), nm_i]
            refine ⟨_, c, rfl, by omega, ?_, fun k' hk' e => ?_, fun hno => absurd kt (hno k (by omega)), (hF.tr (Fr.sI (by decide))).tr (Fr.sI (by decide))⟩
            · rw [tI_sI, if_neg (by omega), tI_sI, if_neg (by omega), h7]
            · have : k' = k := vw_one k' hk' k (by omega) (e.trans kt.symm)
              subst this
              rw [tI_sI, if_pos ⟨rfl, rfl⟩, tI_sI, if_neg (by omega), tI_sI, if_pos ⟨rfl, rfl⟩]
              exact ⟨rfl, rfl⟩
      rw [fX7_advances_71, h7, m_byteAt hL (by omega), Option.bind_some, nm_i]
      unfold cB
      by_cases hlt : p + c < len
      · have b2 := hL.2.2.2 (p + c) hlt
        rw [if_pos hlt, m_low _ b2]
        cases hb : isLow (tx (p + c)) with
        | false =>
          rw [ifF]
          exact stop (fun z => by rw [hb] at z; cases z.2)
        | true =>
          have hlo := of_decide_eq_true hb
          rw [ifT]
          have go : ∀ w, w = qN (pack tx p (min (c + 1) 5)) → ∃ τ' c', fX7_advances_111 (fX7_advances_71 M) τ (nI c) w = some τ' ∧ c' = ends isLow len tx 80 p - p ∧ tI τ' 0 7 = nI (p + c') ∧ (∀ k, k < 9 → vw k = pack tx p c' → tI τ' 0 8 = nI 1 ∧ tI τ' 0 10 = nI k) ∧ ((∀ k, k < 9 → vw k ≠ pack tx p c') → tI τ' 0 8 = nI 4) ∧ Fr [(0, 7), (0, 8), (0, 10)] [] τ0 τ' := by
            intro w hw
            rw [fX7_advances_111, nm_i, nm_i, h7, i1, nI_add, nI_add, hw]
            have f1 : Fr [(0, 7)] [] τ (sI τ 0 7 (nI (p + c + 1))) := Fr.sI (by decide)
            exact ih (c + 1) (sI τ 0 7 (nI (p + c + 1))) (by omega) (by omega) (hL.fr f1 (by decide) (by decide)) (by rw [tI_sI, if_pos ⟨rfl, rfl⟩]; rfl) (hF.tr (f1.wk (by decide) (by decide))) (fun j hj1 hj2 => by
              by_cases q : j = p + c
              · rw [q]; exact hlo.1
              · exact hlow j hj1 (by omega)) (by
              rw [he, show 80 - c = (80 - (c + 1)) + 1 by omega, ends_step hlt hb]
              rfl)
          by_cases h5 : 5 ≤ c
          · rw [if_pos (show (5 : Int32) ≤ nI c by rw [i5]; exact nI_le h5 (by omega))]
            exact go _ (by rw [show min c 5 = 5 by omega, show min (c + 1) 5 = 5 by omega])
          · rw [if_neg (show ¬ (5 : Int32) ≤ nI c by rw [i5]; exact nI_ge (by omega) (by omega)), Option.bind_some, nm_i]
            refine go _ ?_
            rw [show min c 5 = c by omega, show min (c + 1) 5 = c + 1 by omega, m_packStep b2 (by omega), pack]
      · rw [if_neg hlt, show fX7_in (-1) (97 : Int32) (122 : Int32) = false by decide, ifF]
        exact stop (fun z => hlt z.1)
  have e := key FU 0 τ0 (by omega) (by unfold FU; omega) h h7 Fr.rf (fun j h1 h2 => absurd h1 (by omega)) rfl
  exact e
end ML
