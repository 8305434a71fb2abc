/-! the reference goes through all worlds -/
def MTab (τ : Tau) (K : Nat) (mk : Nat → Nat) (cw : Nat → Nat → Nat) (w : Nat) : Prop :=
  tI τ 0 18 = nI w ∧ (∀ h, h < 1024 → tA τ 7 h = nI (cf mk w h)) ∧ (∀ h w0, h < 1024 → IsFst mk w h w0 → tA τ 8 h = nI w0 ∧ ∀ s, s < 16 → tA τ 9 (16 * h + s) = nI (cw w0 s)) ∧
  (∀ h f, h < 1024 → f < 64 → 0 < cf mk w h → (lb (tB τ 10 h) f = true ↔ ∀ v, v < w → mk v = h → factHere K f (cw v) = true))
theorem MTab.fr {τ τ' : Tau} {K : Nat} {mk : Nat → Nat} {cw : Nat → Nat → Nat} {w : Nat} {F : List (Nat × Nat)} {A : List Nat} (h : MTab τ K mk cw w) (hF : Fr F A τ τ') (h1 : (0, 18) ∉ F) (h7 : 7 ∉ A) (h8 : 8 ∉ A) (h9 : 9 ∉ A) (h10 : 10 ∉ A) : MTab τ' K mk cw w := by
  obtain ⟨a, b, c, d⟩ := h
  refine ⟨by rw [(hF.1 0 18 h1).1]; exact a, fun q hq => by rw [(hF.2 7 h7 q).1]; exact b q hq, fun q w0 hq hw => ⟨by rw [(hF.2 8 h8 q).1]; exact (c q w0 hq hw).1, fun s hs => by rw [(hF.2 9 h9 _).1]; exact (c q w0 hq hw).2 s hs⟩, fun q f hq hf hp => by rw [(hF.2 10 h10 q).2]; exact d q f hq hf hp⟩
section TK
variable {K w : Nat} {mk : Nat → Nat} {cw : Nat → Nat → Nat}
/-- behind the first look at a heap -/
def TakeA (mk : Nat → Nat) (cw : Nat → Nat → Nat) (w h : Nat) (τ τ1 : Tau) : Prop :=
  Fr [] [8, 9, 10] τ τ1 ∧ (∀ g, g ≠ h → tA τ1 8 g = tA τ 8 g ∧ (∀ s, s < 16 → tA τ1 9 (16 * g + s) = tA τ 9 (16 * g + s)) ∧ tB τ1 10 g = tB τ 10 g) ∧
  (cf mk w h = 0 → tA τ1 8 h = nI w ∧ (∀ s, s < 16 → tA τ1 9 (16 * h + s) = nI (cw w s)) ∧ tB τ1 10 h = -1) ∧
  (cf mk w h ≠ 0 → tA τ1 8 h = tA τ 8 h ∧ (∀ s, s < 16 → tA τ1 9 (16 * h + s) = tA τ 9 (16 * h + s)) ∧ tB τ1 10 h = tB τ 10 h)
theorem m_take97 {τ τ1 : Tau} {h : Nat} (hk : tI τ 0 1 = nI K) (hK : K ≤ 4) (hc : RowIs τ K 6 (cw w)) (hw : w < 100000) (hh : h < 1024) (hmk : mk w = h) (H : MTab τ K mk cw w) (HA : TakeA mk cw w h τ τ1) :
    ∃ τ', fX7_takes_97 τ1 (nI h) = some τ' ∧ MTab τ' K mk cw (w + 1) ∧ Fr [(0, 18)] [7, 8, 9, 10] τ τ' := by
  obtain ⟨a, b, c, d⟩ := H
  obtain ⟨A1, A2, A3, A4⟩ := HA
  have hcl := cf_le mk h w
  unfold fX7_takes_97
  rw [if_neg (nI_in hh (by decide)), if_neg (nI_in hh (by decide)), nm_i, nm_i, nI_clamp (by omega), (A1.2 7 (by decide) h).1, b h hh, i1, nI_add, tI_sA, (A1.1 0 18 (by decide)).1, a, nI_add, i0]
  have F2 : Fr [(0, 18)] [7] τ1 (sI (sA τ1 7 h (nI (cf mk w h + 1))) 0 18 (nI (w + 1))) := (Fr.sA (by decide)).tr (Fr.sI (by decide))
  obtain ⟨τ', e, G1, G2, G3, G4⟩ := m_facts1 (τ0 := sI (sA τ1 7 h (nI (cf mk w h + 1))) 0 18 (nI (w + 1))) (h := h) (c := cw w) (K := K) hK hh (by rw [(F2.1 0 1 (by decide)).1, (A1.1 0 1 (by decide)).1, hk]) ((hc.fr A1 (by decide)).fr F2 (by decide)) FU 0 _ (by omega) (by unfold FU; omega) ⟨Fr.rf, fun _ _ => rfl, fun f hf hp => by omega, fun f hf hp => rfl⟩
  refine ⟨τ', e, ⟨?_, fun g hg => ?_, fun g w0 hg hi => ?_, fun g f hg hf hp => ?_⟩, ((A1.wk (by decide) (by decide)).tr (F2.wk (by decide) (by decide))).tr (G1.wk (by decide) (by decide))⟩
  · rw [(G1.1 0 18 (by decide)).1, tI_sI, if_pos ⟨rfl, rfl⟩]
  · rw [(G1.2 7 (by decide) g).1, tA_sI, tA_sA]
    show _ = nI (cf mk w g + if mk w = g then 1 else 0)
    rw [hmk]
    by_cases eg : g = h
    · rw [if_pos ⟨rfl, eg⟩, if_pos eg.symm, eg]
    · rw [if_neg (fun z => eg z.2), if_neg (fun z => eg z.symm), (A1.2 7 (by decide) g).1, b g hg]; rfl
  · rw [(G1.2 8 (by decide) g).1, (F2.2 8 (by decide) g).1]
    have e9 : ∀ s, tA τ' 9 (16 * g + s) = tA τ1 9 (16 * g + s) := fun s => by rw [(G1.2 9 (by decide) _).1, (F2.2 9 (by decide) _).1]
    simp only [e9]
    by_cases hlt : w0 < w
    · have hi2 : IsFst mk w g w0 := ⟨hlt, hi.2⟩
      by_cases eg : g = h
      · subst eg
        have hne : cf mk w g ≠ 0 := by have := cf_pos (f := mk) hlt hi.2.1; omega
        rw [(A4 hne).1]
        exact ⟨(c g w0 hg hi2).1, fun s hs => by rw [(A4 hne).2.1 s hs]; exact (c g w0 hg hi2).2 s hs⟩
      · rw [(A2 g eg).1]
        exact ⟨(c g w0 hg hi2).1, fun s hs => by rw [(A2 g eg).2.1 s hs]; exact (c g w0 hg hi2).2 s hs⟩
    · have ew : w0 = w := by have := hi.1; omega
      subst ew
      have eg : g = h := hi.2.1.symm.trans hmk
      subst eg
      have hz : cf mk w0 g = 0 := by
        unfold cf
        exact sumTo_zero (fun v hv => if_neg (hi.2.2 v hv))
      exact ⟨(A3 hz).1, (A3 hz).2.1⟩
  · by_cases eg : g = h
    · subst eg
      rw [G3 f hf trivial, (F2.2 10 (by decide) g).2, Bool.and_eq_true]
      by_cases hz : cf mk w g = 0
      · rw [(A3 hz).2.2, lb_m1 hf]
        constructor
        · rintro ⟨_, h2⟩ v hv hm
          by_cases ev : v = w
          · subst ev; exact h2
          · exact absurd hm (cf_zero hz v (by omega))
        · exact fun q => ⟨rfl, q w (by omega) hmk⟩
      · rw [(A4 hz).2.2, d g f hg hf (by omega)]
        constructor
        · rintro ⟨h1, h2⟩ v hv hm
          by_cases ev : v = w
          · subst ev; exact h2
          · exact h1 v (by omega) hm
        · exact fun q => ⟨fun v hv hm => q v (by omega) hm, q w (by omega) hmk⟩
    · rw [G2 g eg, (F2.2 10 (by decide) g).2, (A2 g eg).2.2]
      have hp' : 0 < cf mk w g := by
        have hp : 0 < cf mk w g + if mk w = g then 1 else 0 := hp
        rw [hmk, if_neg (fun z => eg z.symm)] at hp
        omega
      rw [d g f hg hf hp']
      constructor
      · intro q v hv hm
        by_cases ev : v = w
        · subst ev; exact absurd (hm.symm.trans hmk) eg
        · exact q v (by omega) hm
      · exact fun q v hv hm => q v (by omega) hm
theorem m_takes {τ : Tau} {d : Nat → Sd} (hk : tI τ 0 1 = nI K) (hK : K ≤ 4) (hc : RowIs τ K 6 (cw w)) (hs : ∀ i, i < 10 → SM τ i (d i)) (hd : ∀ i, i < 10 → SdLt (d i)) (hw : w < 100000) (hmk : mk w = bitsTo (fun i => hold (d i) (cw w)) 10) (H : MTab τ K mk cw w) :
    ∃ τ', fX7_takes τ = some τ' ∧ MTab τ' K mk cw (w + 1) ∧ Fr [(0, 18)] [7, 8, 9, 10] τ τ' := by
  have hh : mk w < 1024 := by rw [hmk]; exact bitsTo_lt _ 10
  have hcl := cf_le mk (mk w) w
  have fill : ∀ N s τ1, s ≤ 16 → 16 - s < N → Fr [] [8, 9] τ τ1 → (∀ g, g ≠ mk w → tA τ1 8 g = tA τ 8 g ∧ (∀ s, s < 16 → tA τ1 9 (16 * g + s) = tA τ 9 (16 * g + s))) → tA τ1 8 (mk w) = nI w → (∀ j, j < s → tA τ1 9 (16 * mk w + j) = nI (cw w j)) → cf mk w (mk w) = 0 →
      ∃ τ', fX7_takes_59 N τ1 (nI (mk w)) (nI s) = some τ' ∧ MTab τ' K mk cw (w + 1) ∧ Fr [(0, 18)] [7, 8, 9, 10] τ τ' := by
    intro N
    induction N with
    | zero => intro s _ _ h; omega
    | succ N ih =>
      intro s τ1 hs1 hN hF ho h8 h9 hz
      rw [fX7_takes_59]
      by_cases hlt : s < 16
      · rw [i16, if_neg (nI_ge hlt (by omega)), if_neg (nI_in hlt (by decide)), pk_mul, nI_add, if_neg (nI_in (show 16 * mk w + s < 16384 by omega) (by decide)), nm_i, nm_i, nI_clamp (by omega), nI_clamp (by omega), i1, nI_add, (hF.2 6 (by decide) s).1, hc.1 s hlt]
        refine ih (s + 1) _ (by omega) (by omega) (hF.tr (Fr.sA (by decide))) (fun g hg => ⟨by rw [tA_sA, if_neg (by omega)]; exact (ho g hg).1, fun j hj => ?_⟩) (by rw [tA_sA, if_neg (by omega)]; exact h8) (fun j hj => ?_) hz
        · rw [tA_sA, if_neg (by omega)]; exact (ho g hg).2 j hj
        · rw [tA_sA]
          by_cases e : j = s
          · rw [if_pos ⟨rfl, by omega⟩, e]
          · rw [if_neg (by omega)]; exact h9 j (by omega)
      · have : s = 16 := by omega
        subst this
        rw [i16, if_pos (nI_le (Nat.le_refl _) (by omega)), if_neg (nI_in hh (by decide)), nm_i, nI_clamp (by omega)]
        exact m_take97 hk hK hc hw hh rfl H ⟨(hF.wk (by decide) (by decide)).tr (Fr.sB (by decide)), fun g hg => ⟨(ho g hg).1, (ho g hg).2, by rw [tB_sB, if_neg (fun z => hg z.2), (hF.2 10 (by decide) g).2]⟩, fun _ => ⟨h8, h9, by rw [tB_sB, if_pos ⟨rfl, rfl⟩]⟩, fun z => absurd hz z⟩
  have key : ∀ N i, i ≤ 10 → 10 - i < N → ∃ τ', fX7_takes_4 N τ (nI (bitsTo (fun i => hold (d i) (cw w)) i)) (nI i) = some τ' ∧ MTab τ' K mk cw (w + 1) ∧ Fr [(0, 18)] [7, 8, 9, 10] τ τ' := by
    intro N
    induction N with
    | zero => intro i _ h; omega
    | succ N ih =>
      intro i hi hN
      rw [fX7_takes_4]
      by_cases hlt : i < 10
      · rw [i10, if_neg (nI_ge hlt (by omega)), m_isSo hk hK hc (hs i hlt) hlt (hd i hlt), Option.bind_some]
        have e1 := ih (i + 1) (by omega) (by omega)
        rw [bitsTo] at e1
        cases hb : hold (d i) (cw w) with
        | true =>
          rw [if_neg (by decide), fX7_takes_30, nm_i, nm_i, nI_one (by omega), nI_or, i1, nI_add]
          rw [if_pos hb] at e1
          exact e1
        | false =>
          rw [if_pos (by decide), fX7_takes_30, nm_i, nm_i, i0, nI_or, Nat.or_zero, i1, nI_add]
          rw [if_neg (by rw [hb]; decide)] at e1
          exact e1
      · have : i = 10 := by omega
        subst this
        rw [i10, if_pos (nI_le (Nat.le_refl _) (by omega)), ← hmk, if_neg (nI_in hh (by decide)), nI_clamp (by omega), H.2.1 _ hh]
        by_cases hz : cf mk w (mk w) = 0
        · rw [hz, i0, if_pos rfl, if_neg (show ¬ (nI (mk w) < nI 0 ∨ 1024 ≤ mk w) from fun z => z.elim (nI_pos (by omega)) (fun z => by omega)), nm_i, H.1]
          exact fill FU 0 _ (by omega) (by unfold FU; omega) (Fr.sA (by decide)) (fun g hg => ⟨by rw [tA_sA, if_neg (fun z => hg z.2)], fun s hs => by rw [tA_sA, if_neg (by omega)]⟩) (by rw [tA_sA, if_pos ⟨rfl, rfl⟩]) (fun j hj => by omega) hz
        · rw [i0, if_neg (fun z => hz (nI_inj (by omega) (by omega) z))]
          exact m_take97 hk hK hc hw hh rfl H ⟨Fr.rf, fun _ _ => ⟨rfl, fun _ _ => rfl, rfl⟩, fun z => absurd z hz, fun _ => ⟨rfl, fun _ _ => rfl, rfl⟩⟩
  unfold fX7_takes
  rw [i0]
  exact key FU 0 (by omega) (by unfold FU; omega)
end TK
theorem nxt_more {S n t : Nat} {c : Nat → Nat} (hS : 0 < S) (ht : t ≤ n) (hz : ∀ s, s + 1 < S → c s = 0) (hs : (toL c 0 S).sum = t) :
    (t < n → nxt ((n - t) :: toL c 0 S) = some ((n - t - 1) :: firstW S (t + 1))) ∧ (t = n → nxt ((n - t) :: toL c 0 S) = none) := by
  obtain ⟨hn, -⟩ := nxt_only_last (c := c) S 0 (fun s _ h2 => hz s (by omega))
  have hne : toL c 0 S ≠ [] := fun z => by
    have := toL_len c 0 S
    rw [z] at this
    simp at this
    omega
  refine ⟨fun hlt => ?_, fun e => ?_⟩
  · rw [nxt, hn]
    simp only
    rw [if_neg (fun z => z.elim (fun z => by omega) hne), toL_len, hs]
  · rw [nxt, hn]
    simp only
    rw [if_pos (Or.inl (by omega))]
/-- the row at hand and the list -/
def MAt (S n t : Nat) (c : Nat → Nat) (l : List Nat) : Prop := t ≤ n ∧ l = (n - t) :: toL c 0 S ∧ (∀ s, S ≤ s → c s = 0) ∧ sumTo c 16 = t
theorem MAt.cts {S n t : Nat} {c : Nat → Nat} {l : List Nat} (h : MAt S n t c l) (s : Nat) : lc l s = c s := by
  obtain ⟨h1, rfl, h3, h4⟩ := h
  unfold lc
  rw [List.getD_cons_succ]
  by_cases hs : s < S
  · rw [toL_get hs, Nat.zero_add]
  · rw [h3 s (by omega)]
    simp [List.getD, toL, hs]
section LD
variable {K n : Nat} {d : Nat → Sd}
abbrev ldF : List (Nat × Nat) := [(0, 17), (0, 18)]
abbrev ldA : List Nat := [6, 7, 8, 9, 10]
theorem m_loop (hK1 : 1 ≤ K) (hK : K ≤ 4) (hn : n ≤ 6) (hT : tot (2 ^ K) n < 100000) (hd : ∀ i, i < 10 → SdLt (d i)) {τ0 : Tau} (hk : tI τ0 0 1 = nI K) (hn0 : tI τ0 0 2 = nI n) (hs : ∀ i, i < 10 → SM τ0 i (d i)) :
    ∀ (m w : Nat), w < tot (2 ^ K) n → tot (2 ^ K) n - w ≤ m → ∀ (N M t : Nat) (c : Nat → Nat) (τ : Tau), tot (2 ^ K) n - w + 1 < N → n - t < M → Fr ldF ldA τ0 τ → MTab τ K (mkS d (2 ^ K) n) (fun v => lc (wv (2 ^ K) n v)) w → MAt (2 ^ K) n t c (wv (2 ^ K) n w) → (∀ s, s < 16 → tA τ 6 s = nI (c s)) →
      ∃ τ', fX7_loads_88 (fX7_loads_49 M) N τ (nI (2 ^ K - 1)) (nI t) (nI 1) = some τ' ∧ MTab τ' K (mkS d (2 ^ K) n) (fun v => lc (wv (2 ^ K) n v)) (tot (2 ^ K) n) ∧ Fr ldF ldA τ0 τ' ∧ tI τ' 0 17 = tI τ 0 17 := by
  have hS := pow2_16 hK
  have hS2 : 2 ≤ 2 ^ K := by
    have := Nat.pow_le_pow_right (n := 2) (by omega) hK1
    omega
  intro m
  induction m with
  | zero => intro w h1 h2; omega
  | succ m ihm =>
    intro w hw hm N M t c τ hN hM hF HT hat hrow
    obtain ⟨htn, hl, hz, hsum⟩ := id hat
    obtain ⟨N, rfl⟩ : ∃ N', N = N' + 1 := ⟨N - 1, by omega⟩
    have hlc : ∀ s, lc (wv (2 ^ K) n w) s = c s := hat.cts
    have hrw : RowIs τ K 6 (lc (wv (2 ^ K) n w)) := ⟨fun s h => by rw [hlc]; exact hrow s h, fun s h => by rw [hlc]; exact hz s h, by rw [sumTo_congr (g := c) (fun s _ => hlc s), hsum]; omega⟩
    have hlist : (toL c 0 (2 ^ K)).sum = t := by rw [toL_sum, ← hsum]; exact (sumTo_ext hS (fun s h1 _ => hz s h1)).symm
    obtain ⟨τ1, e1, HT1, F1⟩ := m_takes (cw := fun v => lc (wv (2 ^ K) n v)) (mk := mkS d (2 ^ K) n) (K := K) (w := w) (d := d) (by rw [(hF.1 0 1 (by decide)).1, hk]) hK hrw (fun i hi => (hs i hi).fr hF (by decide)) hd (by omega) rfl HT
    rw [fX7_loads_88, i0, if_neg (by decide), e1, Option.bind_some, ← i0, if_neg (nI_in (show 2 ^ K - 1 < 16 by omega) (by decide)), nm_i, if_neg (nI_in (show 2 ^ K - 1 < 16 by omega) (by decide)), nm_i, nm_i, nI_clamp (by omega), (F1.2 6 (by decide) _).1, hrow _ (by omega)]
    have hrow2 : ∀ s, s < 16 → tA (sA τ1 6 (2 ^ K - 1) (0 : Int32)) 6 s = nI (if s = 2 ^ K - 1 then 0 else c s) := by
      intro s h
      rw [tA_sA]
      by_cases e : s = 2 ^ K - 1
      · rw [if_pos ⟨rfl, e⟩, if_pos e]; rfl
      · rw [if_neg (fun z => e z.2), if_neg e, (F1.2 6 (by decide) s).1, hrow s h]
    have hF2 : Fr ldF ldA τ0 (sA τ1 6 (2 ^ K - 1) (0 : Int32)) := (hF.tr (F1.wk (by decide) (by decide))).tr (Fr.sA (by decide))
    have HT2 : MTab (sA τ1 6 (2 ^ K - 1) (0 : Int32)) K (mkS d (2 ^ K) n) (fun v => lc (wv (2 ^ K) n v)) (w + 1) := HT1.fr (F := []) (A := [6]) (Fr.sA (by decide)) (by decide) (by decide) (by decide) (by decide) (by decide)
    have h17 : tI (sA τ1 6 (2 ^ K - 1) (0 : Int32)) 0 17 = tI τ 0 17 := by rw [tI_sA, (F1.1 0 17 (by decide)).1]
    generalize sA τ1 6 (2 ^ K - 1) (0 : Int32) = τ2 at hrow2 hF2 HT2 h17 ⊢
    -- the search
    have search : ∀ (G k : Nat), k ≤ 2 ^ K - 1 → k < G → (∀ s, k ≤ s → s + 1 < 2 ^ K → c s = 0) →
        ∃ τ', fX7_loads_116 (fX7_loads_49 M) (fX7_loads_88 (fX7_loads_49 M) N) G τ2 (nI (2 ^ K - 1)) (nI t) (nI (c (2 ^ K - 1))) (nI k - 1) = some τ' ∧ MTab τ' K (mkS d (2 ^ K) n) (fun v => lc (wv (2 ^ K) n v)) (tot (2 ^ K) n) ∧ Fr ldF ldA τ0 τ' ∧ tI τ' 0 17 = tI τ 0 17 := by
      intro G
      induction G with
      | zero => intro k _ h; omega
      | succ G ihG =>
        intro k hk1 hG hzero
        rw [fX7_loads_116]
        cases k with
        | zero =>
          rw [if_pos (by decide), fX7_loads_137, if_pos (by decide), fX7_loads_147, if_pos (by decide), fX7_loads_176]
          obtain ⟨N, rfl⟩ : ∃ N', N = N' + 1 := ⟨N - 1, by omega⟩
          rw [fX7_loads_88, if_pos rfl, nm_i, i1, nI_add]
          obtain ⟨M, rfl⟩ : ∃ M', M = M' + 1 := ⟨M - 1, by omega⟩
          rw [fX7_loads_49, (hF2.1 0 2 (by decide)).1, hn0]
          obtain ⟨q1, q2⟩ := nxt_more (S := 2 ^ K) (n := n) (t := t) (c := c) (by omega) htn (fun s h => hzero s (by omega) h) hlist
          rw [← hl] at q1 q2
          by_cases hlt : t < n
          · rw [if_neg (nI_nlt (by omega) (by omega))]
            have hw2 : w + 1 < tot (2 ^ K) n := by
              rcases Nat.lt_or_ge (w + 1) (tot (2 ^ K) n) with z | z
              · exact z
              · have hb := wv_ok (S := 2 ^ K) (n := n) w hw
                have hne : wv (2 ^ K) n w ≠ [] := fun y => by rw [y] at hb; simp at hb
                have := (nxt_none_iff hne).mpr (by rw [hb.1, hb.2.1, hb.2.2]; unfold tot at z hw; omega)
                rw [this] at q1
                cases q1 hlt
            have hnx : wv (2 ^ K) n (w + 1) = (n - t - 1) :: firstW (2 ^ K) (t + 1) := by
              have := wv_next (S := 2 ^ K) (n := n) (w := w) hw2
              rw [q1 hlt] at this
              exact (Option.some.inj this).symm
            have fill : ∀ (G s : Nat) (τ3 : Tau), s ≤ 16 → 16 - s < G → Fr [] [6] τ2 τ3 → (∀ j, j < s → tA τ3 6 j = nI (if j = 0 then t + 1 else 0)) →
                ∃ τ4, fX7_loads_59 (fX7_loads_49 M) G τ3 (nI (2 ^ K - 1)) (nI (t + 1)) (nI s) = fX7_loads_88 (fX7_loads_49 M) FU τ4 (nI (2 ^ K - 1)) (nI (t + 1)) (nI 1) ∧ Fr [] [6] τ2 τ4 ∧ (∀ j, j < 16 → tA τ4 6 j = nI (if j = 0 then t + 1 else 0)) := by
              intro G
              induction G with
              | zero => intro s _ _ h; omega
              | succ G ihf =>
                intro s τ3 hs1 hG2 hf3 h3
                rw [fX7_loads_59]
                by_cases hlt2 : s < 16
                · rw [i16, if_neg (nI_ge hlt2 (by omega))]
                  have fin : ∀ v, v = (if s = 0 then t + 1 else 0) → ∃ τ4, fX7_loads_79 (fX7_loads_49 M) (fX7_loads_59 (fX7_loads_49 M) G) τ3 (nI (2 ^ K - 1)) (nI (t + 1)) (nI s) (nI v) (nI s) = fX7_loads_88 (fX7_loads_49 M) FU τ4 (nI (2 ^ K - 1)) (nI (t + 1)) (nI 1) ∧ Fr [] [6] τ2 τ4 ∧ (∀ j, j < 16 → tA τ4 6 j = nI (if j = 0 then t + 1 else 0)) := by
                    intro v hv
                    rw [fX7_loads_79, if_neg (nI_in hlt2 (by decide)), nm_i, nm_i, nI_clamp (by omega), i1, nI_add]
                    refine ihf (s + 1) _ (by omega) (by omega) (hf3.tr (Fr.sA (by decide))) (fun j hj => ?_)
                    rw [tA_sA]
                    by_cases e : j = s
                    · rw [if_pos ⟨rfl, e⟩, e, hv]
                    · rw [if_neg (fun z => e z.2)]; exact h3 j (by omega)
                  by_cases hs0 : s = 0
                  · subst hs0
                    rw [i0, if_pos rfl]
                    exact fin (t + 1) (by simp)
                  · rw [i0, if_neg (fun z => hs0 (nI_inj (by omega) (by omega) z))]
                    exact fin 0 (by rw [if_neg hs0])
                · have : s = 16 := by omega
                  subst this
                  rw [i16, if_pos (nI_le (Nat.le_refl _) (by omega)), i1]
                  exact ⟨τ3, rfl, hf3, h3⟩
            obtain ⟨τ4, e4, f4, r4⟩ := fill FU 0 τ2 (by omega) (by unfold FU; omega) Fr.rf (fun j hj => by omega)
            rw [i0, e4]
            obtain ⟨τ', z1, z2, z3, z4⟩ := ihm (w + 1) hw2 (by omega) FU M (t + 1) (fun j => if j = 0 then t + 1 else 0) τ4 (by unfold FU; omega) (by omega) (hF2.tr (f4.wk (by decide) (by decide))) (HT2.fr f4 (by decide) (by decide) (by decide) (by decide) (by decide)) ⟨by omega, by
              rw [hnx]
              congr 1
              obtain ⟨S', e⟩ : ∃ S', 2 ^ K = S' + 1 := ⟨2 ^ K - 1, by omega⟩
              rw [e, firstW, toL_succ, toL_zero (fun s h1 _ => by rw [if_neg (by omega)])]
              rfl, fun s h => if_neg (by omega), by
              have : sumTo (fun j => if j = 0 then t + 1 else 0) 16 = sumTo (fun j => if j = 0 then t + 1 else 0) 1 := sumTo_ext (by omega) (fun i h1 _ => if_neg (by omega))
              rw [this]; simp [sumTo]⟩ r4
            exact ⟨τ', z1, z2, z3, by rw [z4, (f4.1 0 17 (by decide)).1, h17]⟩
          · rw [if_pos (nI_lt (by omega) (by omega))]
            have := wv_end hw (q2 (by omega))
            have : w + 1 = tot (2 ^ K) n := this
            rw [← this]
            exact ⟨τ2, rfl, HT2, hF2, h17⟩
        | succ k =>
          rw [nI_pred, if_neg (nI_pos (by omega)), if_neg (nI_in (show k < 16 by omega) (by decide)), nI_clamp (by omega), hrow2 k (by omega), if_neg (show ¬ k = 2 ^ K - 1 by omega)]
          have hck : c k ≤ t := by rw [← hsum]; exact sumTo_one (show k < 16 by omega)
          have hcl : c (2 ^ K - 1) ≤ t := by rw [← hsum]; exact sumTo_one (show 2 ^ K - 1 < 16 by omega)
          by_cases hk0 : c k = 0
          · rw [hk0, i0, if_pos rfl, nm_i]
            have e : nI k + (-1 : Int32) = nI k - 1 := by
              apply Int32.toBitVec_inj.mp
              rw [Int32.toBitVec_add, Int32.toBitVec_sub]
              show _ + BitVec.ofInt 32 (-1) = _ - BitVec.ofNat 32 1
              rw [BitVec.sub_eq_add_neg]
              rfl
            rw [e]
            refine ihG k (by omega) (by omega) (fun s h1 h2 => ?_)
            by_cases e : s = k
            · rw [e]; exact hk0
            · exact hzero s (by omega) h2
          · rw [i0, if_neg (fun z => hk0 (nI_inj (by omega) (by omega) z)), fX7_loads_137, if_neg (nI_pos (by omega)), fX7_loads_147, if_neg (by decide), if_neg (nI_in (show k < 16 by omega) (by decide)), if_neg (nI_in (show k < 16 by omega) (by decide)), nm_i, i1, nI_add, if_neg (nI_in (show k + 1 < 16 by omega) (by decide)), nm_i, nI_add, nI_clamp (by omega), nI_clamp (by omega), hrow2 k (by omega), if_neg (show ¬ k = 2 ^ K - 1 by omega), pk_sub (by omega), fX7_loads_176]
            have hst := nxt_step (c := c) k 0 (2 ^ K) (by omega) (by omega) hk0 (fun s h1 h2 => hzero s (by omega) (by omega))
            rw [Nat.zero_add] at hst
            have hnl : nxt (wv (2 ^ K) n w) = some ((n - t) :: toL (stepC c (2 ^ K - 1) k) 0 (2 ^ K)) := by rw [hl, nxt, hst]
            have hw2 : w + 1 < tot (2 ^ K) n := by
              rcases Nat.lt_or_ge (w + 1) (tot (2 ^ K) n) with z | z
              · exact z
              · have hb := wv_ok (S := 2 ^ K) (n := n) w hw
                have hne : wv (2 ^ K) n w ≠ [] := fun y => by rw [y] at hb; simp at hb
                have := (nxt_none_iff hne).mpr (by rw [hb.1, hb.2.1, hb.2.2]; unfold tot at z hw; omega)
                rw [this] at hnl
                cases hnl
            have hnx : wv (2 ^ K) n (w + 1) = (n - t) :: toL (stepC c (2 ^ K - 1) k) 0 (2 ^ K) := by
              have := wv_next (S := 2 ^ K) (n := n) (w := w) hw2
              rw [hnl] at this
              exact (Option.some.inj this).symm
            have hz' : ∀ s, 2 ^ K ≤ s → stepC c (2 ^ K - 1) k s = 0 := by
              intro s h
              unfold stepC
              rw [if_neg (by omega), if_neg (by omega), if_neg (by omega)]
              exact hz s h
            have hsum' : sumTo (stepC c (2 ^ K - 1) k) 16 = t := by
              have hb := (wv_ok (S := 2 ^ K) (n := n) (w + 1) hw2).2.1
              rw [hnx, List.sum_cons, toL_sum] at hb
              rw [sumTo_ext hS (fun s h1 _ => hz' s h1)]
              omega
            obtain ⟨τ', z1, z2, z3, z4⟩ := ihm (w + 1) hw2 (by omega) N M t (stepC c (2 ^ K - 1) k) (sA (sA τ2 6 k (nI (c k - 1))) 6 (k + 1) (nI (c (2 ^ K - 1) + 1))) (by omega) hM ((hF2.tr (Fr.sA (by decide))).tr (Fr.sA (by decide))) ((HT2.fr (F := []) (A := [6]) (Fr.sA (by decide)) (by decide) (by decide) (by decide) (by decide) (by decide)).fr (F := []) (A := [6]) (Fr.sA (by decide)) (by decide) (by decide) (by decide) (by decide) (by decide)) ⟨htn, hnx, hz', hsum'⟩ (fun s h => by
              rw [tA_sA, tA_sA]
              unfold stepC
              by_cases e1 : s = k + 1
              · rw [if_pos ⟨rfl, e1⟩, if_pos e1]
              · rw [if_neg (fun z => e1 z.2), if_neg e1]
                by_cases e2 : s = k
                · rw [if_pos ⟨rfl, e2⟩, if_pos e2]
                · rw [if_neg (fun z => e2 z.2), if_neg e2]
                  exact hrow2 s h)
            exact ⟨τ', z1, z2, z3, by rw [z4, tI_sA, tI_sA, h17]⟩
    have e : nI (2 ^ K - 1) - (1 : Int32) = nI (2 ^ K - 1) - 1 := rfl
    exact search FU (2 ^ K - 1) (Nat.le_refl _) (by unfold FU; omega) (fun s h1 h2 => by omega)
/-- the reference's tables: not told yet, or of all worlds -/
def MInv (τ : Tau) (K n : Nat) (d : Nat → Sd) : Prop := tI τ 0 17 = 0 ∨ (tI τ 0 17 = 1 ∧ MTab τ K (mkS d (2 ^ K) n) (fun v => lc (wv (2 ^ K) n v)) (tot (2 ^ K) n))
theorem m_loads (hK1 : 1 ≤ K) (hK : K ≤ 4) (hn : n ≤ 6) (hT : tot (2 ^ K) n < 100000) (hd : ∀ i, i < 10 → SdLt (d i)) {τ : Tau} (hk : tI τ 0 1 = nI K) (hn0 : tI τ 0 2 = nI n) (hs : ∀ i, i < 10 → SM τ i (d i)) (h : MInv τ K n d) :
    ∃ τ', fX7_loads τ = some τ' ∧ tI τ' 0 17 = 1 ∧ MTab τ' K (mkS d (2 ^ K) n) (fun v => lc (wv (2 ^ K) n v)) (tot (2 ^ K) n) ∧ Fr ldF ldA τ τ' := by
  have hS := pow2_16 hK
  have hS2 : 2 ≤ 2 ^ K := by
    have := Nat.pow_le_pow_right (n := 2) (by omega) hK1
    omega
  unfold fX7_loads
  rcases h with h | ⟨h, ht⟩
  · rw [h, if_pos rfl, nm_i, nm_i]
    have F0 : Fr ldF ldA τ (sI (sI τ 0 17 (1 : Int32)) 0 18 (0 : Int32)) := (Fr.sI (by decide)).tr (Fr.sI (by decide))
    have h17 : tI (sI (sI τ 0 17 (1 : Int32)) 0 18 (0 : Int32)) 0 17 = 1 := by rw [tI_sI, if_neg (by omega), tI_sI, if_pos ⟨rfl, rfl⟩]
    have h18 : tI (sI (sI τ 0 17 (1 : Int32)) 0 18 (0 : Int32)) 0 18 = nI 0 := by rw [tI_sI, if_pos ⟨rfl, rfl⟩]; rfl
    generalize sI (sI τ 0 17 (1 : Int32)) 0 18 (0 : Int32) = τ1 at F0 h17 h18 ⊢
    have zero : ∀ (G i : Nat) (τ2 : Tau), i ≤ 1024 → 1024 - i < G → Fr [] [7] τ1 τ2 → (∀ g, g < i → tA τ2 7 g = nI 0) →
        ∃ τ3, fX7_loads_20 G τ2 (nI i) = fX7_loads_49 FU τ3 (nI (2 ^ K - 1)) (nI 0) ∧ Fr [] [7] τ1 τ3 ∧ ∀ g, g < 1024 → tA τ3 7 g = nI 0 := by
      intro G
      induction G with
      | zero => intro i _ _ h; omega
      | succ G ih =>
        intro i τ2 hi hG hF hz
        rw [fX7_loads_20]
        by_cases hlt : i < 1024
        · rw [i1024, if_neg (nI_ge hlt (by omega)), if_neg (nI_in hlt (by decide)), nm_i, nm_i, nI_clamp (by omega), i1, nI_add]
          refine ih (i + 1) _ (by omega) (by omega) (hF.tr (Fr.sA (by decide))) (fun g hg => ?_)
          rw [tA_sA]
          by_cases e : g = i
          · rw [if_pos ⟨rfl, e⟩]; rfl
          · rw [if_neg (fun z => e z.2)]; exact hz g (by omega)
        · have : i = 1024 := by omega
          subst this
          rw [i1024, if_pos (nI_le (Nat.le_refl _) (by omega)), nm_i, nm_i, m_sorts (by rw [(hF.1 0 1 (by decide)).1, (F0.1 0 1 (by decide)).1, hk]) hK, i1, pk_sub (by omega), i0]
          exact ⟨τ2, rfl, hF, hz⟩
    obtain ⟨τ3, e3, F3, z3⟩ := zero FU 0 τ1 (by omega) (by unfold FU; omega) Fr.rf (fun g hg => by omega)
    rw [i0, e3]
    have F03 : Fr ldF ldA τ τ3 := F0.tr (F3.wk (by decide) (by decide))
    show ∃ τ', fX7_loads_49 (999999 + 1) τ3 (nI (2 ^ K - 1)) (nI 0) = some τ' ∧ _
    rw [fX7_loads_49, (F03.1 0 2 (by decide)).1, hn0, if_neg (nI_nlt (by omega) (by omega))]
    have fill : ∀ (G s : Nat) (τ4 : Tau), s ≤ 16 → 16 - s < G → Fr [] [6] τ3 τ4 → (∀ j, j < s → tA τ4 6 j = nI 0) →
        ∃ τ5, fX7_loads_59 (fX7_loads_49 999999) G τ4 (nI (2 ^ K - 1)) (nI 0) (nI s) = fX7_loads_88 (fX7_loads_49 999999) FU τ5 (nI (2 ^ K - 1)) (nI 0) (nI 1) ∧ Fr [] [6] τ3 τ5 ∧ (∀ j, j < 16 → tA τ5 6 j = nI 0) := by
      intro G
      induction G with
      | zero => intro s _ _ h; omega
      | succ G ihf =>
        intro s τ4 hs1 hG2 hf3 h3
        rw [fX7_loads_59]
        by_cases hlt2 : s < 16
        · rw [i16, if_neg (nI_ge hlt2 (by omega))]
          have fin : ∃ τ5, fX7_loads_79 (fX7_loads_49 999999) (fX7_loads_59 (fX7_loads_49 999999) G) τ4 (nI (2 ^ K - 1)) (nI 0) (nI s) (nI 0) (nI s) = fX7_loads_88 (fX7_loads_49 999999) FU τ5 (nI (2 ^ K - 1)) (nI 0) (nI 1) ∧ Fr [] [6] τ3 τ5 ∧ (∀ j, j < 16 → tA τ5 6 j = nI 0) := by
            rw [fX7_loads_79, if_neg (nI_in hlt2 (by decide)), nm_i, nm_i, nI_clamp (by omega), i1, nI_add]
            refine ihf (s + 1) _ (by omega) (by omega) (hf3.tr (Fr.sA (by decide))) (fun j hj => ?_)
            rw [tA_sA]
            by_cases e : j = s
            · rw [if_pos ⟨rfl, e⟩]
            · rw [if_neg (fun z => e z.2)]; exact h3 j (by omega)
          by_cases hs0 : s = 0
          · subst hs0
            rw [i0, if_pos rfl]
            exact fin
          · rw [i0, if_neg (fun z => hs0 (nI_inj (by omega) (by omega) z))]
            exact fin
        · have : s = 16 := by omega
          subst this
          rw [i16, if_pos (nI_le (Nat.le_refl _) (by omega)), i1]
          exact ⟨τ4, rfl, hf3, h3⟩
    obtain ⟨τ5, e5, F5, r5⟩ := fill FU 0 τ3 (by omega) (by unfold FU; omega) Fr.rf (fun j hj => by omega)
    rw [i0, e5]
    have hpos : 0 < tot (2 ^ K) n := by
      have := rank_lt (firstW (2 ^ K + 1) n)
      rw [firstW_len, firstW_sum (by omega)] at this
      exact Nat.lt_of_le_of_lt (Nat.zero_le _) this
    have HT : MTab τ5 K (mkS d (2 ^ K) n) (fun v => lc (wv (2 ^ K) n v)) 0 := by
      refine ⟨?_, fun g hg => ?_, fun g w0 hg hi => absurd hi.1 (by omega), fun g f hg hf hp => absurd hp (by simp [cf, sumTo])⟩
      · rw [(F5.1 0 18 (by decide)).1, (F3.1 0 18 (by decide)).1, h18]
      · rw [(F5.2 7 (by decide) g).1, z3 g hg]; rfl
    obtain ⟨τ', e, q1, q2, q3⟩ := m_loop hK1 hK hn hT hd (τ0 := τ) hk hn0 hs (tot (2 ^ K) n) 0 hpos (by omega) FU 999999 0 (fun _ => 0) τ5 (by unfold FU; omega) (by omega) (F03.tr (F5.wk (by decide) (by decide))) HT ⟨by omega, by
      show firstW (2 ^ K + 1) n = _
      rw [firstW, toL_zero (fun s _ _ => rfl)]; rfl, fun _ _ => rfl, sumTo_zero (fun _ _ => rfl)⟩ r5
    exact ⟨τ', e, by rw [q3, (F5.1 0 17 (by decide)).1, (F3.1 0 17 (by decide)).1, h17], q1, q2⟩
  · rw [h, if_neg (by decide)]
    exact ⟨τ, rfl, h, ht, Fr.rf⟩
end LD
