/-! the class takes a word, a number -/
section XL
variable {len : Nat} {tx : Nat → Nat}
theorem ends_step {P : Nat → Bool} {p : Nat} (h : p < len) (hP : P (tx p) = true) (n : Nat) : ends P len tx (n + 1) p = ends P len tx n (p + 1) := by
  rw [ends, if_pos ⟨h, hP⟩]
theorem ends_stop {P : Nat → Bool} {p : Nat} (h : ¬ (p < len ∧ P (tx p) = true)) (n : Nat) : ends P len tx n p = p := by
  cases n with
  | zero => rfl
  | succ n => rw [ends, if_neg h]
theorem x_word62 {τ0 : Tau} {n : Nat} (hlong : ∀ k, k < 9 → (vw k % 2 ^ 64 = n % 2 ^ 64 ↔ vw k = n)) :
    ∀ M i τ, i ≤ 9 → 9 - i < M → Fr [(14, 2), (14, 3)] [] τ0 τ → (∀ k, k < i → vw k = n → tI τ 14 2 = nI 2 ∧ tI τ 14 3 = nI k) → ((∀ k, k < i → vw k ≠ n) → tI τ 14 2 = nI 1 ∧ tI τ 14 3 = tI τ0 14 3) →
      ∃ τ', fX4_takeWord_62 M τ (qN n) (nI i) = some τ' ∧ Fr [(14, 2), (14, 3)] [] τ0 τ' ∧ (∀ k, k < 9 → vw k = n → tI τ' 14 2 = nI 2 ∧ tI τ' 14 3 = nI k) ∧ ((∀ k, k < 9 → vw k ≠ n) → tI τ' 14 2 = nI 1 ∧ tI τ' 14 3 = tI τ0 14 3) := by
  intro M
  induction M with
  | zero => intro i _ _ h; omega
  | succ M ih =>
    intro i τ hi hM hF h1 h2
    rw [fX4_takeWord_62]
    by_cases hlt : i < 9
    · rw [i9, if_neg (nI_ge hlt (by omega)), if_neg (nI_in hlt (by decide)), nI_clamp (by omega), (vw_ok i hlt).1]
      by_cases e : vw i = n
      · rw [if_pos ((lg_cmp_eq _ _).mpr (by rw [e])), nm_i, nm_i, fX4_takeWord_90, nm_i, i1, nI_add]
        refine ih (i + 1) _ (by omega) (by omega) (hF.tr ((Fr.sI (by decide)).tr (Fr.sI (by decide)))) (fun k hk he => ?_) (fun hn => absurd e (hn i (by omega)))
        have : k = i := vw_one k (by omega) i hlt (he.trans e.symm)
        subst this
        rw [tI_sI, if_neg (by omega), tI_sI, if_pos ⟨rfl, rfl⟩, tI_sI, if_pos ⟨rfl, rfl⟩]
        exact ⟨rfl, rfl⟩
      · rw [if_neg (fun z => e ((hlong i hlt).mp (qN_inj ((lg_cmp_eq _ _).mp z)))), fX4_takeWord_90, nm_i, i1, nI_add]
        refine ih (i + 1) _ (by omega) (by omega) hF (fun k hk he => ?_) (fun hn => h2 (fun k hk => hn k (by omega)))
        by_cases q : k = i
        · rw [q] at he; exact absurd he e
        · exact h1 k (by omega) he
    · have : i = 9 := by omega
      subst this
      rw [i9, if_pos (nI_le (Nat.le_refl _) (by omega))]
      exact ⟨τ, rfl, hF, h1, h2⟩
theorem x_takeWord {τ0 : Tau} {p : Nat} (h : LX τ0 len tx) (h6 : tI τ0 14 6 = nI p) (hp : p ≤ len) :
    ∃ τ' c, fX4_takeWord τ0 = some τ' ∧ c = ends isLow len tx 80 p - p ∧ tI τ' 14 6 = nI (p + c) ∧ (∀ k, k < 9 → vw k = pack tx p c → tI τ' 14 2 = nI 2 ∧ tI τ' 14 3 = nI k) ∧ ((∀ k, k < 9 → vw k ≠ pack tx p c) → tI τ' 14 2 = nI 1 ∧ tI τ' 14 3 = tI τ0 14 3) ∧ Fr [(14, 2), (14, 3), (14, 6)] [] τ0 τ' := by
  have hl := h.2.1
  have key : ∀ M c τ, p + c ≤ len → len - (p + c) < M → LX τ len tx → tI τ 14 6 = nI (p + c) → tI τ 14 3 = tI τ0 14 3 → Fr [(14, 2), (14, 3), (14, 6)] [] τ0 τ → (∀ j, p ≤ j → j < p + c → 97 ≤ tx j) → ends isLow len tx 80 p = ends isLow len tx (80 - c) (p + c) →
      ∃ τ' c', fX4_takeWord_2 M τ (qN (pack tx p c)) = some τ' ∧ c' = ends isLow len tx 80 p - p ∧ tI τ' 14 6 = nI (p + c') ∧ (∀ k, k < 9 → vw k = pack tx p c' → tI τ' 14 2 = nI 2 ∧ tI τ' 14 3 = nI k) ∧ ((∀ k, k < 9 → vw k ≠ pack tx p c') → tI τ' 14 2 = nI 1 ∧ tI τ' 14 3 = tI τ0 14 3) ∧ Fr [(14, 2), (14, 3), (14, 6)] [] τ0 τ' := by
    intro M
    induction M with
    | zero => intro c _ _ h; omega
    | succ M ih =>
      intro c τ hc hM hL h6 h3 hF hlow he
      have stop : ¬ (p + c < len ∧ isLow (tx (p + c)) = true) → ∃ τ' c', fX4_takeWord_55 τ (qN (pack tx p c)) = some τ' ∧ c' = ends isLow len tx 80 p - p ∧ tI τ' 14 6 = nI (p + c') ∧ (∀ k, k < 9 → vw k = pack tx p c' → tI τ' 14 2 = nI 2 ∧ tI τ' 14 3 = nI k) ∧ ((∀ k, k < 9 → vw k ≠ pack tx p c') → tI τ' 14 2 = nI 1 ∧ tI τ' 14 3 = tI τ0 14 3) ∧ Fr [(14, 2), (14, 3), (14, 6)] [] τ0 τ' := by
        intro hn
        rw [ends_stop hn] at he
        have f0 : Fr [(14, 2), (14, 3)] [] τ (sI τ 14 2 1) := Fr.sI (by decide)
        have hlong : ∀ k, k < 9 → (vw k % 2 ^ 64 = pack tx p c % 2 ^ 64 ↔ vw k = pack tx p c) := by
          intro k hk
          by_cases h5 : 6 ≤ c
          · have := pack_long (tx := tx) (p := p) (c := c) h5 (fun j hj => (hL.2.2 j (by omega)).2) hlow hk
            exact ⟨fun z => absurd z this, fun z => by rw [z]⟩
          · have hb := pack_lt (tx := tx) (p := p) c (fun j hj => (hL.2.2 j (by omega)).2)
            have hb2 : (256 : Nat) ^ c ≤ 256 ^ 5 := Nat.pow_le_pow_right (by omega) (by omega)
            have e5 : (256 : Nat) ^ 5 = 2 ^ 40 := by decide
            have hv := (vw_ok k hk).2.2
            rw [Nat.mod_eq_of_lt (by omega), Nat.mod_eq_of_lt (by omega)]
        obtain ⟨τ', e, f, g1, g2⟩ := x_word62 (τ0 := sI τ 14 2 1) (n := pack tx p c) hlong FU 0 (sI τ 14 2 1) (by omega) (by unfold FU; omega) Fr.rf (fun k hk => absurd hk (by omega)) (fun _ => ⟨by rw [tI_sI, if_pos ⟨rfl, rfl⟩]; rfl, rfl⟩)
        rw [fX4_takeWord_55, nm_i, i0, e]
        refine ⟨τ', c, rfl, by omega, ?_, g1, fun hn2 => ⟨(g2 hn2).1, ?_⟩, (hF.tr (f0.wk (by decide) (by decide))).tr (f.wk (by decide) (by decide))⟩
        · rw [(f.1 14 6 (by decide)).1, (f0.1 14 6 (by decide)).1, h6]
        · rw [(g2 hn2).2, tI_sI, if_neg (by omega), h3]
      rw [fX4_takeWord_2, hL.1, h6]
      by_cases hlt : p + c < len
      · obtain ⟨b1, b2⟩ := hL.2.2 (p + c) hlt
        rw [if_neg (nI_ge hlt (by omega)), x_byteAt hL (by omega), Option.bind_some, nm_i]
        unfold cB
        rw [if_pos hlt, x_letter _ b2]
        cases hb : isLow (tx (p + c)) with
        | false =>
          rw [ifF]
          exact stop (fun z => by rw [hb] at z; cases z.2)
        | true =>
          have hlo := of_decide_eq_true hb
          rw [ifT, Option.bind_some, nm_i, nm_i, x_packStep b2, i1, nI_add]
          have f1 : Fr [(14, 6)] [] τ (sI τ 14 6 (nI (p + c + 1))) := Fr.sI (by decide)
          have e2 := ih (c + 1) (sI τ 14 6 (nI (p + c + 1))) (by omega) (by omega) (hL.fr f1 (by decide) (by decide)) (by rw [tI_sI, if_pos ⟨rfl, rfl⟩]; rfl) (by rw [tI_sI, if_neg (by omega), h3]) (hF.tr (f1.wk (by decide) (by decide))) (fun j hj1 hj2 => by
            by_cases q : j = p + c
            · rw [q]; exact hlo.1
            · exact hlow j hj1 (by omega)) (by
            rw [he, show 80 - c = (80 - (c + 1)) + 1 by omega, ends_step hlt hb]
            rfl)
          exact e2
      · rw [if_pos (nI_le (by omega) (by omega))]
        exact stop (fun z => hlt z.1)
  unfold fX4_takeWord
  have e := key FU 0 τ0 (by omega) (by unfold FU; omega) h h6 rfl Fr.rf (fun j h1 h2 => absurd h1 (by omega)) rfl
  exact e
end XL
