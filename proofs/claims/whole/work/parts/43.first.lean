/-! the first world of a set, on both sides -/
section FI
variable {mk : Nat → Nat} {T : Nat}
theorem and_lt {a b : Nat} (h : b < 1024) : a &&& b < 1024 := Nat.lt_of_le_of_lt Nat.and_le_right h
theorem x_firstWorld {τ : Tau} {p q : Nat} (hT : T < 100000) (hmk : ∀ w, w < T → mk w < 1024) (h22 : ∀ h, h < 1024 → tA τ 22 h = nI (cf mk T h)) (h23 : ∀ h w0, h < 1024 → IsFst mk T h w0 → tA τ 23 h = nI w0) (hp : p < 1024) (hq : q < 1024) :
    ∃ r, fX0_firstWorld τ (nI p) (nI q) = some (encW r) ∧ First (fun h => sub p h && decide (h &&& q = 0)) mk T r := by
  let g : Nat → Bool := fun h => sub p h && decide (h &&& q = 0)
  have key : ∀ N i r, i ≤ 1024 → 1024 - i < N → First (upTo g i) mk T r → ∃ r', fX0_firstWorld_6 τ (nI p) (nI q) N (encW r) (nI i) = some (encW r') ∧ First g mk T r' := by
    intro N
    induction N with
    | zero => intro i _ _ h; omega
    | succ N ih =>
      intro i r hi hN hF
      rw [fX0_firstWorld_6]
      by_cases hlt : i < 1024
      · have stay : (g i = false ∨ cf mk T i = 0) → ∃ r', fX0_firstWorld_88 τ (nI p) (nI q) (fX0_firstWorld_6 τ (nI p) (nI q) N) (encW r) (nI i) = some (encW r') ∧ First g mk T r' := by
          intro hz
          rw [fX0_firstWorld_88, nm_i, i1, nI_add]
          exact ih (i + 1) r (by omega) (by omega) (hF.stay hz)
        have hcl := cf_le mk i T
        rw [i1024, if_neg (nI_ge hlt (by omega)), if_neg (nI_ge hlt (by omega)), if_neg (nI_in hlt (by decide)), nI_clamp (by omega), h22 i hlt]
        by_cases hc : cf mk T i = 0
        · rw [if_pos (show nI (cf mk T i) ≤ 0 by rw [hc]; decide), fX0_firstWorld_55, fX0_firstWorld_56, if_pos rfl]
          exact stay (Or.inr hc)
        · rw [i0, if_neg (nI_ge (show 0 < cf mk T i by omega) (by omega)), nI_and, nI_and]
          have l1 := and_lt (a := i) hp
          have l2 := and_lt (a := i) hq
          by_cases e1 : i &&& p = p
          · rw [if_pos (by rw [e1])]
            by_cases e2 : i &&& q = 0
            · rw [if_pos (by rw [e2])]
              have hg : g i = true := by show (sub p i && decide (i &&& q = 0)) = true; simp [sub, e1, e2]
              obtain ⟨w0, hw0⟩ := isFst_ex hc
              have a23 := h23 i w0 hlt hw0
              rw [fX0_firstWorld_56, if_neg (by decide)]
              have take : (∀ w, r = some w → w0 < w) → ∃ r', fX0_firstWorld_80 τ (nI p) (nI q) (fX0_firstWorld_6 τ (nI p) (nI q) N) (nI i) = some (encW r') ∧ First g mk T r' := by
                intro hr
                rw [fX0_firstWorld_80, if_neg (nI_in hlt (by decide)), nm_i, nI_clamp (by omega), a23, fX0_firstWorld_88, nm_i, i1, nI_add]
                exact ih (i + 1) (some w0) (by omega) (by omega) (hF.new hg hw0 hr)
              cases r with
              | none =>
                rw [if_pos (show encW none = -9 from rfl)]
                exact take (fun w h => by cases h)
              | some w =>
                have hwT := hF.1
                have hw0T := hw0.1
                rw [if_neg (show ¬ encW (some w) = -9 from nI_ne9 (by omega)), if_neg (nI_in hlt (by decide)), nI_clamp (by omega), a23]
                by_cases hle : w ≤ w0
                · rw [if_pos (show encW (some w) ≤ nI w0 from nI_le hle (by omega)), fX0_firstWorld_88, nm_i, i1, nI_add]
                  exact ih (i + 1) (some w) (by omega) (by omega) (hF.keep hw0 hle)
                · rw [if_neg (show ¬ encW (some w) ≤ nI w0 from nI_ge (by omega) (by omega))]
                  exact take (fun w' h => by cases h; omega)
            · rw [if_neg (fun z => e2 (nI_inj (by omega) (by omega) z)), fX0_firstWorld_55, fX0_firstWorld_56, if_pos rfl]
              exact stay (Or.inl (by show (sub p i && decide (i &&& q = 0)) = false; simp [e2]))
          · rw [if_neg (fun z => e1 (nI_inj (by omega) (by omega) z)), fX0_firstWorld_55, fX0_firstWorld_56, if_pos rfl]
            exact stay (Or.inl (by show (sub p i && decide (i &&& q = 0)) = false; simp [sub, e1]))
      · have : i = 1024 := by omega
        subst this
        rw [i1024, if_pos (nI_le (Nat.le_refl _) (by omega))]
        exact ⟨r, rfl, hF.all hmk⟩
  unfold fX0_firstWorld
  rw [i0]
  exact key FU 0 none (by omega) (by unfold FU; omega) (fun w hw => by unfold upTo; simp)
/-- the other side keeps the heap of the first world -/
theorem m_firstOf {τ : Tau} {p : Nat} {s : Int32} {gs : Nat → Bool} (hT : T < 100000) (hmk : ∀ w, w < T → mk w < 1024) (h7 : ∀ h, h < 1024 → tA τ 7 h = nI (cf mk T h)) (h8 : ∀ h w0, h < 1024 → IsFst mk T h w0 → tA τ 8 h = nI w0) (hp : p < 1024)
    (hs : (s = -1 ∧ ∀ h, gs h = true) ∨ ∃ i, i < 10 ∧ s = nI i ∧ ∀ h, gs h = !h.testBit i) :
    ∃ r, fX7_firstOf τ (nI p) s = some (encH mk r) ∧ First (fun h => sub p h && gs h) mk T r := by
  let g : Nat → Bool := fun h => sub p h && gs h
  have key : ∀ N i r, i ≤ 1024 → 1024 - i < N → First (upTo g i) mk T r → ∃ r', fX7_firstOf_6 τ (nI p) s N (encH mk r) (nI i) = some (encH mk r') ∧ First g mk T r' := by
    intro N
    induction N with
    | zero => intro i _ _ h; omega
    | succ N ih =>
      intro i r hi hN hF
      rw [fX7_firstOf_6]
      by_cases hlt : i < 1024
      · have stay : (g i = false ∨ cf mk T i = 0) → ∃ r', fX7_firstOf_50 τ (nI p) s (fX7_firstOf_6 τ (nI p) s N) (encH mk r) (nI i) = some (encH mk r') ∧ First g mk T r' := by
          intro hz
          rw [fX7_firstOf_50, fX7_firstOf_51, if_pos rfl, fX7_firstOf_85, fX7_firstOf_86, nm_i, i1, nI_add]
          exact ih (i + 1) r (by omega) (by omega) (hF.stay hz)
        have hcl := cf_le mk i T
        rw [i1024, if_neg (nI_ge hlt (by omega)), if_neg (nI_in hlt (by decide)), nI_clamp (by omega), h7 i hlt]
        by_cases hc : cf mk T i = 0
        · rw [if_pos (show nI (cf mk T i) ≤ 0 by rw [hc]; decide)]
          exact stay (Or.inr hc)
        · rw [i0, if_neg (nI_ge (show 0 < cf mk T i by omega) (by omega)), nm_i, m_isIn hp hlt, ← i0]
          cases e1 : sub p i with
          | false =>
            rw [if_pos (by decide)]
            exact stay (Or.inl (by show (sub p i && gs i) = false; rw [e1]; rfl))
          | true =>
            rw [if_neg (by decide)]
            have go : gs i = true → ∃ r', fX7_firstOf_46 τ (nI p) s (fX7_firstOf_6 τ (nI p) s N) (encH mk r) (nI i) = some (encH mk r') ∧ First g mk T r' := by
              intro hgs
              have hg : g i = true := by show (sub p i && gs i) = true; rw [e1, hgs]; rfl
              obtain ⟨w0, hw0⟩ := isFst_ex hc
              have a8 := h8 i w0 hlt hw0
              rw [fX7_firstOf_46, fX7_firstOf_51, if_neg (by decide)]
              have take : (∀ w, r = some w → w0 < w) → ∃ r', fX7_firstOf_80 τ (nI p) s (fX7_firstOf_6 τ (nI p) s N) (nI i) = some (encH mk r') ∧ First g mk T r' := by
                intro hr
                rw [fX7_firstOf_80, fX7_firstOf_86, nm_i, i1, nI_add]
                have := ih (i + 1) (some w0) (by omega) (by omega) (hF.new hg hw0 hr)
                rw [show encH mk (some w0) = nI i from congrArg nI hw0.2.1] at this
                exact this
              cases r with
              | none =>
                rw [if_pos (show encH mk none = -9 from rfl)]
                exact take (fun w h => by cases h)
              | some w =>
                have hwT := hF.1
                have hw0T := hw0.1
                have hm := hmk w hwT
                have hfw : IsFst mk T (mk w) w := ⟨hwT, rfl, fun v hv e => by
                  have := hF.2.2 v hv
                  rw [e, hF.2.1] at this
                  cases this⟩
                rw [if_neg (show ¬ encH mk (some w) = -9 from nI_ne9 (by omega)), if_neg (nI_in hlt (by decide)), if_neg (show ¬ (encH mk (some w) < 0 ∨ 1024 ≤ (encH mk (some w)).toNatClampNeg) from nI_in hm (by decide)), nI_clamp (by omega), a8, show (encH mk (some w)).toNatClampNeg = mk w from nI_clamp (by omega), h8 (mk w) w hm hfw]
                by_cases hle : w ≤ w0
                · rw [if_pos (nI_le hle (by omega)), fX7_firstOf_85, fX7_firstOf_86, nm_i, i1, nI_add]
                  exact ih (i + 1) (some w) (by omega) (by omega) (hF.keep hw0 hle)
                · rw [if_neg (nI_ge (by omega) (by omega))]
                  exact take (fun w' h => by cases h; omega)
            rcases hs with ⟨rfl, hg1⟩ | ⟨j, hj, rfl, hg2⟩
            · rw [if_pos (by decide)]
              exact go (hg1 i)
            · rw [if_neg (nI_pos (by omega)), nI_bit (by omega) (by omega)]
              cases hb : i.testBit j with
              | false =>
                rw [if_pos (by decide)]
                exact go (by rw [hg2, hb]; rfl)
              | true =>
                rw [if_pos rfl, if_neg (by decide)]
                exact stay (Or.inl (by show (sub p i && gs i) = false; rw [hg2, hb]; simp))
      · have : i = 1024 := by omega
        subst this
        rw [i1024, if_pos (nI_le (Nat.le_refl _) (by omega))]
        exact ⟨r, rfl, hF.all hmk⟩
  unfold fX7_firstOf
  rw [i0]
  exact key FU 0 none (by omega) (by unfold FU; omega) (fun w hw => by unfold upTo; simp)
end FI
