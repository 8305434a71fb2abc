/-! both sides at the start; the room that the marks take (begun by wip/tools/law1.py) -/
section S0
variable {τx τm : Tau} {K N md ml len : Nat} {d : Nat → Sd} {cw : Nat → Nat} {tx : Nat → Nat}
theorem x_startOver0 {τ0 : Tau} {mk : Nat → Nat} (hK1 : 1 ≤ K) (hK : K ≤ 4) (hN : N ≤ 6) (h5 : tI τ0 0 5 = nI K) (h6 : tI τ0 0 6 = nI N) (a5 : tI τ0 26 0 = nI ml) (a6 : tA τ0 21 0 = nI 0) (a9 : ml < 100000) (a10 : ∀ w, w < ml → tA τ0 26 w = nI (mk w) ∧ mk w < 1024) :
    ∃ τ', fX6_startOver τ0 = some τ' ∧ Hp τ' K N ml (fun _ => fstD K) ∧ (∀ i, i < 10 → SX τ' (i + 2) (fstD K)) ∧ RowIs τ' K 12 (fun _ => 0) ∧ Fr (soF ++ [(17, 6), (17, 7), (17, 8), (17, 9)]) [12] τ0 τ' := by
  have world : ∀ M i τ, i ≤ 16 → 16 - i < M → Fr soF [12] τ0 τ → (∀ j, j < 10 → SX τ (j + 2) (fstD K)) → (∀ s, s < i → tA τ 12 s = nI 0) →
      ∃ τ', fX6_startOver_38 M τ (nI i) = some τ' ∧ Hp τ' K N ml (fun _ => fstD K) ∧ (∀ i, i < 10 → SX τ' (i + 2) (fstD K)) ∧ RowIs τ' K 12 (fun _ => 0) ∧ Fr (soF ++ [(17, 6), (17, 7), (17, 8), (17, 9)]) [12] τ0 τ' := by
    intro M
    induction M with
    | zero => intro i _ _ h; omega
    | succ M ih =>
      intro i τ hi hM hF hX h0
      rw [fX6_startOver_38]
      by_cases hlt : i < 16
      · rw [i16, if_neg (nI_ge hlt (by omega)), if_neg (nI_in hlt (by decide)), nm_i, nm_i, nI_clamp (by omega), i1, nI_add]
        have f1 : Fr [] [12] τ (sA τ 12 i 0) := Fr.sA (by decide)
        refine ih (i + 1) _ (by omega) (by omega) (hF.tr (f1.wk (by simp) (by decide))) (fun j hj => (hX j hj).fr f1 (by simp)) (fun s hs => ?_)
        rw [tA_sA]
        by_cases e : s = i
        · rw [if_pos ⟨rfl, e⟩]; rfl
        · rw [if_neg (fun z => e z.2)]; exact h0 s (by omega)
      · have : i = 16 := by omega
        subst this
        have sc : fX6_sortCount τ = nI (2 ^ K) := x_sorts (by rw [(hF.1 0 5 (by decide)).1, h5]) hK
        rw [i16, if_pos (nI_le (Nat.le_refl _) (by omega)), nm_i, sc, (hF.1 0 6 (by decide)).1, h6]
        obtain ⟨τ', es, hh', fs⟩ := x_shape (τ := τ) (d' := fun _ => fstD K) (N := N) (mk := mk) (ml := ml) hK hN (by rw [(hF.1 26 0 (by decide)).1, a5]) (by rw [(hF.2 21 (by decide) 0).1, a6]) a9 (fun w hw => by rw [(hF.2 26 (by decide) w).1]; exact a10 w hw) hX
        rw [es, Option.bind_some]
        refine ⟨τ', rfl, hh', fun j hj => (hX j hj).fr fs (fun q hm => by simp at hm; omega), ⟨fun s hs => by rw [(fs.2 12 (by decide) s).1]; exact h0 s hs, fun s _ => rfl, by rw [sumTo_zero (fun i _ => rfl)]; omega⟩, (hF.wk (fun q hq => List.mem_append_left _ hq) (by decide)).tr (fs.wk (fun q hq => List.mem_append_right _ hq) (by decide))⟩
  have key : ∀ M i τ, i ≤ 10 → 10 - i < M → Fr soF [12] τ0 τ → (∀ j, j < i → SX τ (j + 2) (fstD K)) →
      ∃ τ', fX6_startOver_2 M τ (nI i) = some τ' ∧ Hp τ' K N ml (fun _ => fstD K) ∧ (∀ i, i < 10 → SX τ' (i + 2) (fstD K)) ∧ RowIs τ' K 12 (fun _ => 0) ∧ Fr (soF ++ [(17, 6), (17, 7), (17, 8), (17, 9)]) [12] τ0 τ' := by
    intro M
    induction M with
    | zero => intro i _ _ h; omega
    | succ M ih =>
      intro i τ hi hM hF hX
      rw [fX6_startOver_2]
      by_cases hlt : i < 10
      · obtain ⟨τ1, e1, s1, f1⟩ := x_becomeFirst (τ := τ) (q := i + 2) hK
        rw [i10, if_neg (nI_ge hlt (by omega)), if_neg (nI_in hlt (by decide)), nI_clamp (by omega), (hF.1 0 5 (by decide)).1, h5, e1, Option.bind_some, fX6_startOver_30, nm_i, i1, nI_add]
        have f2 : Fr soF [12] τ τ1 := f1.wk (fun q hq => by
          simp only [List.mem_cons, List.not_mem_nil, or_false] at hq
          rcases hq with rfl | rfl | rfl | rfl | rfl | rfl <;> exact soF_mem hlt (by omega)) (by simp)
        refine ih (i + 1) τ1 (by omega) (by omega) (hF.tr f2) (fun j hj => ?_)
        by_cases e : j = i
        · rw [e]; exact s1
        · exact (hX j (by omega)).fr f1 (fun q hm => by simp at hm; omega)
      · have : i = 10 := by omega
        subst this
        rw [i10, if_pos (nI_le (Nat.le_refl _) (by omega)), i0]
        exact world FU 0 τ (by omega) (by unfold FU; omega) hF hX (fun s hs => absurd hs (by omega))
  unfold fX6_startOver
  rw [i0]
  exact key FU 0 τ0 (by omega) (by unfold FU; omega) Fr.rf (fun j hj => absurd hj (by omega))
end S0
theorem wiv_bit : ∀ s, s < 16 → ∀ f, f < 64 → lb (wiv s) f = wit s f := by decide +kernel
theorem start_rel : ∃ Rx Rm, fX6_startOver t0X = some Rx ∧ fX7_begins t0M = some Rm ∧ Rel Rx Rm 3 4 255 0 (fun _ => fstD 3) (fun _ => 0) 0 (fun _ => 0) := by
  obtain ⟨Rx, ex, hh, hs, hr, fx⟩ := x_startOver0 (K := 3) (N := 4) (ml := 0) (mk := fun _ => 0) (τ0 := t0X) (by omega) (by omega) (by omega) rfl rfl rfl rfl (by omega) (fun w hw => absurd hw (by omega))
  obtain ⟨Rm, em, l17, hS', hr2, fm⟩ := m_begins (τ0 := t0M) (K := 3) (by omega) rfl
  refine ⟨Rx, Rm, ex, em, ⟨by omega, by omega, by omega, by omega, by omega, fun i hi => fstD_ok (by omega), by omega⟩, ⟨?_, ?_, ?_, hs, hr, ?_, fun j hj => absurd hj (by omega), fun s f hs hf => ?_⟩, hh, ⟨?_, ?_, ?_, hS', hr2, ?_, fun j hj => absurd hj (by omega)⟩, Or.inl l17⟩
  · rw [(fx.1 0 5 (by decide)).1]; rfl
  · rw [(fx.1 0 6 (by decide)).1]; rfl
  · rw [(fx.1 0 7 (by decide)).1]; rfl
  · rw [(fx.1 14 1 (by decide)).1]; rfl
  · rw [(fx.2 25 (by decide) s).2]
    have e : tB t0X 25 s = wiv s := by
      show (if s < 16 then wiv s else 0) = wiv s
      rw [if_pos hs]
    rw [e]
    exact wiv_bit s hs f hf
  · rw [(fm.1 0 1 (by decide)).1]; rfl
  · rw [(fm.1 0 2 (by decide)).1]; rfl
  · rw [(fm.1 0 3 (by decide)).1]; rfl
  · rw [(fm.1 0 6 (by decide)).1]; rfl
-- how many places all rows of marks have that were made while the longest has m
def totL : List Nat := (List.range 4).flatMap fun k => (List.range 6).map fun n => tot (2 ^ (k + 1)) (n + 1)
def Fl (L : List Nat) (m : Nat) : Nat := (L.map fun t => if t ≤ m then t else 0).sum
def Fs (m : Nat) : Nat := Fl totL m
theorem Fl_mono {m m' : Nat} (h : m ≤ m') : ∀ L : List Nat, Fl L m ≤ Fl L m'
  | [] => Nat.le_refl _
  | t :: L => by
    have ih := Fl_mono h L
    unfold Fl at *
    rw [List.map_cons, List.map_cons, List.sum_cons, List.sum_cons]
    have : (if t ≤ m then t else 0) ≤ (if t ≤ m' then t else 0) := by
      split
      · rw [if_pos (by omega)]; exact Nat.le_refl _
      · exact Nat.zero_le _
    omega
theorem Fl_in {m t : Nat} (h : m < t) : ∀ L : List Nat, t ∈ L → Fl L m + t ≤ Fl L t
  | [], hm => by cases hm
  | u :: L, hm => by
    have mo := Fl_mono (Nat.le_of_lt h) L
    unfold Fl at *
    rw [List.map_cons, List.map_cons, List.sum_cons, List.sum_cons]
    by_cases e : u = t
    · subst e
      rw [if_neg (by omega), if_pos (Nat.le_refl _)]
      omega
    · have hm' : t ∈ L := by
        rcases List.mem_cons.mp hm with z | z
        · exact absurd z.symm e
        · exact z
      have ih := Fl_in h L hm'
      unfold Fl at ih
      have : (if u ≤ m then u else 0) ≤ (if u ≤ t then u else 0) := by
        split
        · rw [if_pos (by omega)]; exact Nat.le_refl _
        · exact Nat.zero_le _
      omega
theorem Fl_sum : ∀ (L : List Nat) (m : Nat), Fl L m ≤ L.sum
  | [], _ => Nat.le_refl _
  | t :: L, m => by
    have ih := Fl_sum L m
    unfold Fl at *
    rw [List.map_cons, List.sum_cons, List.sum_cons]
    have : (if t ≤ m then t else 0) ≤ t := by split <;> omega
    omega
theorem Fs_mono {m m' : Nat} (h : m ≤ m') : Fs m ≤ Fs m' := Fl_mono h totL
theorem Fs_max (m : Nat) : Fs m ≤ 1000000 := Nat.le_trans (Fl_sum totL m) (by decide +kernel)
theorem Fs_step {K N m : Nat} (h1 : 1 ≤ K) (h2 : K ≤ 4) (h3 : 1 ≤ N) (h4 : N ≤ 6) (h : m < tot (2 ^ K) N) : Fs m + tot (2 ^ K) N ≤ Fs (tot (2 ^ K) N) := by
  refine Fl_in h totL ?_
  unfold totL
  rw [List.mem_flatMap]
  refine ⟨K - 1, List.mem_range.mpr (by omega), ?_⟩
  rw [List.mem_map]
  refine ⟨N - 1, List.mem_range.mpr (by omega), ?_⟩
  rw [show K - 1 + 1 = K by omega, show N - 1 + 1 = N by omega]
theorem Mv.le {K N ml ml' : Nat} (h : Mv K N ml ml') : ml ≤ ml' := by
  rcases h with h | ⟨_, h⟩ <;> omega
/-- the room that one call may take -/
theorem room_step {τx τm τx' τm' : Tau} {K N md ml ml' len md' len' : Nat} {d d' : Nat → Sd} {cw cw' : Nat → Nat} {tx tx' : Nat → Nat} (h : Rel τx τm K N md ml d cw len tx) (h' : Rel τx' τm' K N md' ml' d' cw' len' tx') (mv : Mv K N ml ml') :
    ∃ Sn, (tI τx' 26 0 ≠ tI τx 26 0 → mkNeed τx ≤ Sn) ∧ Sn + Fs ml ≤ Fs ml' := by
  obtain ⟨⟨o1, o2, o3, o4, _⟩, _, ⟨st, mk, ⟨_, _, a8, _, a5, _⟩, _⟩, _⟩ := h
  obtain ⟨_, _, ⟨st', mk', ⟨_, _, _, _, b5, _⟩, _⟩, _⟩ := h'
  rcases mv with rfl | ⟨rfl, hlt⟩
  · exact ⟨0, fun z => absurd (b5.trans a5.symm) z, by omega⟩
  · refine ⟨tot (2 ^ K) N, fun _ => ?_, ?_⟩
    · have ht := tot_lt (N := N) o2 o4
      unfold mkNeed
      split
      · exact Nat.zero_le _
      · rw [a8, nI_clamp (by omega)]
        exact Nat.le_refl _
    · have := Fs_step o1 o2 o3 o4 hlt
      omega
