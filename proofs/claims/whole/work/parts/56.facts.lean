/-! the facts of all worlds of a set: the class's side, to the end -/
theorem x_begin0 {τ : Tau} {S n : Nat} (hS : S ≤ 16) (hn : n ≤ 6) (h21 : tA τ 21 0 = nI 0) :
    ∃ τ', fX5_begin0 τ (nI S) (nI n) = some τ' ∧ WkAt S n (fun _ => 0) (firstW (S + 1) n) τ' ∧ Fr [(18, 3), (18, 4), (18, 5)] [20] τ τ' := by
  have key : ∀ N i τ1, i ≤ 16 → 16 - i < N → tA τ1 21 0 = nI 0 → (∀ s, s < i → tA τ1 20 s = nI 0) → Fr [(18, 3), (18, 4), (18, 5)] [20] τ τ1 →
      ∃ τ', fX5_begin0_3 (nI S) (nI n) N τ1 (nI i) = some τ' ∧ WkAt S n (fun _ => 0) (firstW (S + 1) n) τ' ∧ Fr [(18, 3), (18, 4), (18, 5)] [20] τ τ' := by
    intro N
    induction N with
    | zero => intro i _ _ h; omega
    | succ N ih =>
      intro i τ1 hi hN h0 hg hF
      rw [fX5_begin0_3]
      by_cases hlt : i < 16
      · rw [i16, if_neg (nI_ge hlt (by omega)), fX5_begin0_33, if_neg (nI_in hlt (by decide)), nm_i, nm_i, nI_clamp (by omega), i1, nI_add]
        refine ih (i + 1) (sA τ1 20 i 0) (by omega) (by omega) (by rw [tA_sA, if_neg (by omega)]; exact h0) (fun s hs => ?_) (hF.tr (Fr.sA (by decide)))
        rw [tA_sA]
        by_cases e : s = i
        · rw [if_pos ⟨rfl, e⟩]; rfl
        · rw [if_neg (fun z => e z.2)]; exact hg s (by omega)
      · have : i = 16 := by omega
        subst this
        rw [i16, if_pos (nI_le (Nat.le_refl _) (by omega)), nm_i, nm_i, nm_i]
        rw [if_neg (nI_nlt hS (by omega)), i6, if_neg (nI_nlt hn (by omega)), i0]
        refine ⟨_, rfl, ⟨?_, ?_, fun s hs => ?_, 0, fun _ => 0, ?_, row_zero S n _, fun i hi => by omega, fun i hi => ?_⟩, ?_⟩
        · simp [tI_sI]
        · simp [tI_sI]
        · rw [tA_sI, tA_sI, tA_sI]; exact hg s hs
        · simp [tI_sI]
        · have : i = 0 := by omega
          subst this
          rw [tA_sI, tA_sI, tA_sI, h0]; rfl
        · exact ((hF.tr (Fr.sI (by decide))).tr (Fr.sI (by decide))).tr (Fr.sI (by decide))
  unfold fX5_begin0
  rw [i0]
  exact key FU 0 τ (by omega) (by unfold FU; omega) h21 (fun s hs => by omega) Fr.rf
section FC
variable {S n : Nat} {d : Nat → Sd}
/-- a fact of every world of the set -/
def allW (S n : Nat) (d : Nat → Sd) (p f : Nat) : Prop := ∀ v, v < tot S n → sub p (mkS d S n v) = true → isF (f / 16) (f / 4 % 4) (f % 4) (lc (wv S n v)) = true
abbrev foF : List (Nat × Nat) := [(18, 3), (18, 4), (18, 5)]
abbrev foA : List Nat := [19, 20, 21]
theorem x_factsEnd {S n p : Nat} {d : Nat → Sd} {τ : Tau} {p1 : Int32} {x2 x4 : Int64} (h2 : ∀ f, f < 64 → (lb x2 f = true ↔ ∀ v, v < tot S n → sub p (mkS d S n v) = true → wb (lc (wv S n v)) f = true)) (h4 : ∀ f, f < 64 → (lb x4 f = true ↔ ∃ v, v < tot S n ∧ sub p (mkS d S n v) = true ∧ wb (lc (wv S n v)) f = true)) :
    ∃ r, fX0_factsOf_106 p1 τ x2 x4 = some (r, τ) ∧ ∀ f, f < 64 → (lb r f = true ↔ allW S n d p f) := by
  unfold fX0_factsOf_106
  rw [nm_i, nm_i]
  rw [show (16 : Int32) = nI 16 from rfl, show (48 : Int32) = nI 48 from rfl]
  refine ⟨_, rfl, fun f hf => ?_⟩
  have b13 : lb (((x4 ^^^ (-1 : Int64)) &&& (4294901760 : Int64)) <<< ((nI 16).toInt64 &&& 63)) f = (decide (f / 16 = 2) && !lb x4 (f - 16)) := by
    rw [lb_shl _ (by omega) hf]
    by_cases q : 16 ≤ f
    · rw [decide_eq_true q, Bool.true_and, lb_and, lb_not _ (show f - 16 < 64 by omega), l_some _ (show f - 16 < 64 by omega)]
      by_cases r : f / 16 = 2
      · rw [decide_eq_true r, decide_eq_true (show 16 ≤ f - 16 ∧ f - 16 < 32 by omega)]; simp
      · rw [decide_eq_false r, decide_eq_false (show ¬ (16 ≤ f - 16 ∧ f - 16 < 32) by omega)]; simp
    · rw [decide_eq_false q, decide_eq_false (show ¬ f / 16 = 2 by omega)]; rfl
  have b14 : lb ((((x4 ^^^ (-1 : Int64)) &&& (-281474976710656 : Int64)).toUInt64 >>> ((nI 48).toInt64.toUInt64 &&& Int64.toUInt64 63)).toInt64) f = (decide (f / 16 = 0) && !lb x4 (48 + f)) := by
    rw [lb_ushr _ (by omega)]
    by_cases q : f / 16 = 0
    · rw [decide_eq_true q, Bool.true_and, lb_and, lb_not _ (show 48 + f < 64 by omega), l_not _ (show 48 + f < 64 by omega), decide_eq_true (show 48 ≤ 48 + f by omega)]; simp
    · rw [decide_eq_false q, lb_far _ (by omega)]; rfl
  rw [lb_or, lb_or, lb_and, l_both f hf, b13, b14]
  unfold allW
  have hc : f / 16 = 0 ∨ f / 16 = 1 ∨ f / 16 = 2 ∨ f / 16 = 3 := by omega
  rcases hc with c | c | c | c
  · rw [decide_eq_false (show ¬ ((16 ≤ f ∧ f < 32) ∨ 48 ≤ f) by omega), decide_eq_false (show ¬ f / 16 = 2 by omega), decide_eq_true c]
    simp only [Bool.and_false, Bool.false_and, Bool.false_or, Bool.true_and, Bool.not_eq_true']
    rw [c]
    have e := h4 (48 + f) (by omega)
    have w3 : ∀ v, wb (lc (wv S n v)) (48 + f) = isF 3 (f / 4 % 4) (f % 4) (lc (wv S n v)) := fun v => by
      rw [wb_3 (show (48 + f) / 16 = 3 by omega), show (48 + f) / 4 % 4 = f / 4 % 4 by omega, show (48 + f) % 4 = f % 4 by omega]
    constructor
    · intro z v hv hs
      rw [isF_0]
      cases q : isF 3 (f / 4 % 4) (f % 4) (lc (wv S n v)) with
      | false => rfl
      | true =>
        have := e.mpr ⟨v, hv, hs, by rw [w3 v, q]⟩
        rw [z] at this; cases this
    · intro z
      cases q : lb x4 (48 + f) with
      | false => rfl
      | true =>
        obtain ⟨v, hv, hs, y⟩ := e.mp q
        have := z v hv hs
        rw [isF_0, ← w3 v, y] at this
        cases this
  · rw [decide_eq_true (show ((16 ≤ f ∧ f < 32) ∨ 48 ≤ f) by omega), decide_eq_false (show ¬ f / 16 = 2 by omega), decide_eq_false (show ¬ f / 16 = 0 by omega)]
    simp only [Bool.and_true, Bool.false_and, Bool.or_false]
    rw [h2 f hf, c]
    constructor
    · intro z v hv hs; rw [← wb_1 c]; exact z v hv hs
    · intro z v hv hs; rw [wb_1 c]; exact z v hv hs
  · rw [decide_eq_false (show ¬ ((16 ≤ f ∧ f < 32) ∨ 48 ≤ f) by omega), decide_eq_true c, decide_eq_false (show ¬ f / 16 = 0 by omega)]
    simp only [Bool.and_false, Bool.false_and, Bool.false_or, Bool.true_and, Bool.or_false, Bool.not_eq_true']
    rw [c]
    have e := h4 (f - 16) (by omega)
    have w1 : ∀ v, wb (lc (wv S n v)) (f - 16) = isF 1 (f / 4 % 4) (f % 4) (lc (wv S n v)) := fun v => by
      rw [wb_1 (show (f - 16) / 16 = 1 by omega), show (f - 16) / 4 % 4 = f / 4 % 4 by omega, show (f - 16) % 4 = f % 4 by omega]
    constructor
    · intro z v hv hs
      rw [isF_2]
      cases q : isF 1 (f / 4 % 4) (f % 4) (lc (wv S n v)) with
      | false => rfl
      | true =>
        have := e.mpr ⟨v, hv, hs, by rw [w1 v, q]⟩
        rw [z] at this; cases this
    · intro z
      cases q : lb x4 (f - 16) with
      | false => rfl
      | true =>
        obtain ⟨v, hv, hs, y⟩ := e.mp q
        have := z v hv hs
        rw [isF_2, ← w1 v, y] at this
        cases this
  · rw [decide_eq_true (show ((16 ≤ f ∧ f < 32) ∨ 48 ≤ f) by omega), decide_eq_false (show ¬ f / 16 = 2 by omega), decide_eq_false (show ¬ f / 16 = 0 by omega)]
    simp only [Bool.and_true, Bool.false_and, Bool.or_false]
    rw [h2 f hf, c]
    constructor
    · intro z v hv hs; rw [← wb_3 c]; exact z v hv hs
    · intro z v hv hs; rw [wb_3 c]; exact z v hv hs
theorem tot_pos (S n : Nat) : 0 < tot S n := by
  have := rank_lt (firstW (S + 1) n)
  rw [firstW_len, firstW_sum (by omega)] at this
  unfold tot
  omega
theorem x_factsOf {τ : Tau} {ml p : Nat} (hT : tot S n < 100000) (hS1 : 1 < S) (hS : S ≤ 16) (hn : n ≤ 6) (hp : p < 1024) (h6 : tI τ 17 6 = nI S) (h7 : tI τ 17 7 = nI n) (h8 : tI τ 17 8 = nI (tot S n)) (hml : tI τ 26 0 = nI ml) (hml2 : ml < 100000) (hle : tot S n ≤ ml) (hmk : ∀ w, w < tot S n → tA τ 26 w = nI (mkS d S n w)) (h21 : tA τ 21 0 = nI 0) (hW : WI τ) :
    ∃ r τ', fX0_factsOf τ (nI p) = some (r, τ') ∧ (∀ f, f < 64 → (lb r f = true ↔ allW S n d p f)) ∧ Fr foF foA τ τ' ∧ tA τ' 21 0 = nI 0 := by
  obtain ⟨τ1, e1, w1, f1⟩ := x_begin0 (τ := τ) hS hn h21
  have F1 : Fr foF foA τ τ1 := f1.wk (by decide) (by decide)
  unfold fX0_factsOf
  rw [h6, h7, e1, Option.bind_some]
  have key : ∀ N w τ2 x2 x4 (x6 : Int32), w ≤ tot S n → tot S n - w < N → Fr foF foA τ τ2 → tA τ2 21 0 = nI 0 → (w < tot S n → x6 = 1 ∧ WkAt S n (fun _ => 0) (wv S n w) τ2) →
      (∀ f, f < 64 → (lb x2 f = true ↔ ∀ v, v < w → sub p (mkS d S n v) = true → wb (lc (wv S n v)) f = true)) → (∀ f, f < 64 → (lb x4 f = true ↔ ∃ v, v < w ∧ sub p (mkS d S n v) = true ∧ wb (lc (wv S n v)) f = true)) →
      ∃ r τ', fX0_factsOf_29 (nI p) N τ2 x2 x4 x6 (nI w) = some (r, τ') ∧ (∀ f, f < 64 → (lb r f = true ↔ allW S n d p f)) ∧ Fr foF foA τ τ' ∧ tA τ' 21 0 = nI 0 := by
    intro N
    induction N with
    | zero => intro w _ _ _ _ _ h; omega
    | succ N ih =>
      intro w τ2 x2 x4 x6 hw hN hF h0 hk h2 h4
      rw [fX0_factsOf_29, (hF.1 17 8 (by decide)).1, h8, (hF.1 26 0 (by decide)).1, hml]
      by_cases hlt : w < tot S n
      · obtain ⟨hx6, hwk⟩ := hk hlt
        have hml3 := mkS_lt d S n w
        rw [nI_clamp (by omega), if_neg (nI_ge hlt (by omega)), if_neg (nI_ge (show w < ml by omega) (by omega)), hx6, if_neg (by decide), if_neg (nI_in (show w < ml by omega) (by omega)), nI_clamp (by omega), (hF.2 26 (by decide) w).1, hmk w hlt, nI_and]
        have l1 : mkS d S n w &&& p < 1024 := and_lt hp
        have go : ∀ y2 y4, (∀ f, f < 64 → (lb y2 f = true ↔ ∀ v, v < w + 1 → sub p (mkS d S n v) = true → wb (lc (wv S n v)) f = true)) → (∀ f, f < 64 → (lb y4 f = true ↔ ∃ v, v < w + 1 ∧ sub p (mkS d S n v) = true ∧ wb (lc (wv S n v)) f = true)) →
            ∃ r τ', fX0_factsOf_91 (nI p) (fX0_factsOf_29 (nI p) N) τ2 y2 y4 (nI w) = some (r, τ') ∧ (∀ f, f < 64 → (lb r f = true ↔ allW S n d p f)) ∧ Fr foF foA τ τ' ∧ tA τ' 21 0 = nI 0 := by
          intro y2 y4 g2 g4
          rw [fX0_factsOf_91]
          rcases x_advance hn hS1 hS hwk with ⟨l', τ3, hnx, e3, w3, f3, h3⟩ | ⟨hnx, e3⟩
          · rw [e3, Option.bind_some, nm_i, nm_i, i1, nI_add]
            refine ih (w + 1) τ3 y2 y4 _ (by omega) (by omega) (hF.tr (f3.wk (by decide) (by decide))) (h3.trans h0) (fun hlt2 => ⟨rfl, ?_⟩) g2 g4
            have := wv_next hlt2
            rw [hnx] at this
            rw [← Option.some.inj this]
            exact w3
          · have hend := wv_end hlt hnx
            rw [e3, Option.bind_some, nm_i, nm_i, i1, nI_add]
            exact ih (w + 1) τ2 y2 y4 _ (by omega) (by omega) hF h0 (fun hlt2 => absurd hlt2 (by unfold tot; omega)) g2 g4
        by_cases hs : mkS d S n w &&& p = p
        · have hsub : sub p (mkS d S n w) = true := decide_eq_true hs
          have hW2 : WI τ2 := fun s f hs hf => by rw [(hF.2 25 (by decide) s).2]; exact hW s f hs hf
          obtain ⟨r, er, hr⟩ := x_witnessed hn hS hwk hW2
          rw [if_pos (by rw [hs]), er, Option.bind_some, nm_i, nm_i]
          refine go _ _ (fun f hf => ?_) (fun f hf => ?_)
          · rw [lb_and, Bool.and_eq_true_iff, h2 f hf, hr f hf]
            constructor
            · rintro ⟨a, b⟩ v hv hv2
              by_cases e : v = w
              · rw [e]; exact b
              · exact a v (by omega) hv2
            · intro a
              exact ⟨fun v hv => a v (by omega), a w (by omega) hsub⟩
          · rw [lb_or, Bool.or_eq_true_iff, h4 f hf, hr f hf]
            constructor
            · rintro (⟨v, a, b⟩ | b)
              · exact ⟨v, by omega, b⟩
              · exact ⟨w, by omega, hsub, b⟩
            · rintro ⟨v, a, b, c⟩
              by_cases e : v = w
              · rw [e] at c; exact Or.inr c
              · exact Or.inl ⟨v, by omega, b, c⟩
        · have hsub : sub p (mkS d S n w) = false := decide_eq_false hs
          rw [if_neg (fun z => hs (nI_inj (by omega) (by omega) z))]
          refine go _ _ (fun f hf => ?_) (fun f hf => ?_)
          · rw [h2 f hf]
            constructor
            · intro a v hv hv2
              by_cases e : v = w
              · rw [e, hsub] at hv2; cases hv2
              · exact a v (by omega) hv2
            · intro a v hv; exact a v (by omega)
          · rw [h4 f hf]
            constructor
            · rintro ⟨v, a, b⟩; exact ⟨v, by omega, b⟩
            · rintro ⟨v, a, b, c⟩
              by_cases e : v = w
              · rw [e, hsub] at b; cases b
              · exact ⟨v, by omega, b, c⟩
      · have : w = tot S n := by omega
        subst this
        obtain ⟨r, er, hr⟩ := x_factsEnd (τ := τ2) (p1 := nI p) h2 h4
        rw [if_pos (nI_le (Nat.le_refl _) (by omega))]
        exact ⟨r, τ2, er, hr, hF, h0⟩
  have e := key FU 0 τ1 (-1) 0 1 (by omega) (by unfold FU; omega) F1 (by rw [(f1.2 21 (by decide) 0).1, h21]) (fun _ => ⟨rfl, w1⟩) (fun f hf => by rw [lb_m1 hf]; exact ⟨fun _ v hv => absurd hv (by omega), fun _ => rfl⟩) (fun f _ => ⟨fun z => (by rw [lb_0] at z; cases z), fun ⟨v, a, _⟩ => absurd a (by omega)⟩)
  exact e
end FC
