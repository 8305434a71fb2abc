/-! heaps, what goes without saying, what to ask, twins -/
section QM
variable {mk : Nat → Nat} {T : Nat}
theorem m_folNone {p i : Nat} {gs : Nat → Bool} {r : Option Nat} (hp : p < 1024) (hi : i < 10) (hgs : ∀ h, gs h = !h.testBit i) (h : First (fun h => sub p h && gs h) mk T r) : r = none ↔ fol mk T p i = true := by
  rw [fol_iff hp hi]
  constructor
  · intro e w hw hs
    subst e
    have := h w hw
    dsimp only at this
    rw [hs, hgs] at this
    simpa using this
  · intro hf
    cases r with
    | none => rfl
    | some w =>
      have := h.2.1
      dsimp only at this
      obtain ⟨h1, h2⟩ := Bool.and_eq_true_iff.mp this
      rw [hgs, hf w h.1 h1] at h2
      cases h2
theorem encH_none {r : Option Nat} (hmk : ∀ w, w < T → mk w < 1024) {g : Nat → Bool} (h : First g mk T r) : encH mk r = -9 ↔ r = none := by
  cases r with
  | none => exact ⟨fun _ => rfl, fun _ => rfl⟩
  | some w =>
    have := hmk w h.1
    exact ⟨fun z => absurd z (nI_ne9 (by omega)), fun z => by cases z⟩
theorem m_follows {τ : Tau} {p i : Nat} (hT : T < 100000) (hmk : ∀ w, w < T → mk w < 1024) (h7 : ∀ h, h < 1024 → tA τ 7 h = nI (cf mk T h)) (h8 : ∀ h w0, h < 1024 → IsFst mk T h w0 → tA τ 8 h = nI w0) (hp : p < 1024) (hi : i < 10) :
    ∃ x, fX7_firstOf τ (nI p) (nI i) = some x ∧ (x = -9 ↔ fol mk T p i = true) := by
  obtain ⟨r, e, h⟩ := m_firstOf (gs := fun h => !h.testBit i) (s := nI i) hT hmk h7 h8 hp (Or.inr ⟨i, hi, rfl, fun _ => rfl⟩)
  exact ⟨_, e, (encH_none hmk h).trans (m_folNone hp hi (fun _ => rfl) h)⟩
-- heaps
def hps (mk : Nat → Nat) (T p n : Nat) : Nat := sumTo (fun h => if 0 < cf mk T h ∧ sub p h = true then 1 else 0) n
theorem hps_le (mk : Nat → Nat) (T p : Nat) : ∀ n, hps mk T p n ≤ n
  | 0 => Nat.le_refl _
  | n + 1 => by
    have := hps_le mk T p n
    unfold hps at this ⊢
    rw [sumTo]
    split <;> omega
theorem x_heapsOf {τ : Tau} {p : Nat} (hT : T < 100000) (h22 : ∀ h, h < 1024 → tA τ 22 h = nI (cf mk T h)) (hp : p < 1024) : fX0_heapsOf τ (nI p) = some (nI (hps mk T p 1024)) := by
  have key : ∀ N i, i ≤ 1024 → 1024 - i < N → fX0_heapsOf_4 τ (nI p) N (nI (hps mk T p i)) (nI i) = some (nI (hps mk T p 1024)) := by
    intro N
    induction N with
    | zero => intro i _ h; omega
    | succ N ih =>
      intro i hi hN
      rw [fX0_heapsOf_4]
      by_cases hlt : i < 1024
      · have e := ih (i + 1) (by omega) (by omega)
        have hcl := cf_le mk i T
        have l1 := and_lt (a := i) hp
        unfold hps at e ⊢
        rw [sumTo] at e
        rw [i1024, if_neg (nI_ge hlt (by omega)), if_neg (nI_in hlt (by decide)), nI_clamp (by omega), h22 i hlt]
        by_cases hc : cf mk T i = 0
        · rw [if_pos (show nI (cf mk T i) ≤ 0 by rw [hc]; decide), fX0_heapsOf_32, nm_i, i1, nI_add]
          rw [if_neg (by omega)] at e
          exact e
        · rw [i0, if_neg (nI_ge (show 0 < cf mk T i by omega) (by omega)), nI_and]
          by_cases e1 : i &&& p = p
          · rw [if_pos (by rw [e1]), nm_i, fX0_heapsOf_32, nm_i, i1, nI_add, nI_add]
            rw [if_pos ⟨by omega, decide_eq_true e1⟩] at e
            exact e
          · rw [if_neg (fun z => e1 (nI_inj (by omega) (by omega) z)), fX0_heapsOf_32, nm_i, i1, nI_add]
            rw [if_neg (fun z => e1 (of_decide_eq_true z.2))] at e
            exact e
      · have : i = 1024 := by omega
        subst this
        rw [i1024, if_pos (nI_le (Nat.le_refl _) (by omega))]
  unfold fX0_heapsOf
  rw [i0]
  exact key FU 0 (by omega) (by unfold FU; omega)
theorem m_heaps22 {τ : Tau} {p : Nat} (hT : T < 100000) (h7 : ∀ h, h < 1024 → tA τ 7 h = nI (cf mk T h)) (hp : p < 1024) : fX7_heaps_22 (nI p) FU τ (0 : Int32) (0 : Int32) = some (nI (hps mk T p 1024), τ) := by
  have key : ∀ N i, i ≤ 1024 → 1024 - i < N → fX7_heaps_22 (nI p) N τ (nI (hps mk T p i)) (nI i) = some (nI (hps mk T p 1024), τ) := by
    intro N
    induction N with
    | zero => intro i _ h; omega
    | succ N ih =>
      intro i hi hN
      rw [fX7_heaps_22]
      by_cases hlt : i < 1024
      · have e := ih (i + 1) (by omega) (by omega)
        have hcl := cf_le mk i T
        unfold hps at e ⊢
        rw [sumTo] at e
        rw [i1024, if_neg (nI_ge hlt (by omega)), if_neg (nI_in hlt (by decide)), nI_clamp (by omega), h7 i hlt]
        by_cases hc : cf mk T i = 0
        · rw [if_pos (show nI (cf mk T i) ≤ 0 by rw [hc]; decide), fX7_heaps_51, fX7_heaps_52, nm_i, nm_i, i1, i0, nI_add, nI_add]
          rw [if_neg (by omega)] at e
          exact e
        · rw [i0, if_neg (nI_ge (show 0 < cf mk T i by omega) (by omega)), nm_i, m_isIn hp hlt, ← i0]
          cases e1 : sub p i with
          | true =>
            rw [if_neg (by decide), fX7_heaps_52, nm_i, nm_i, i1, nI_add, nI_add]
            rw [if_pos ⟨by omega, e1⟩] at e
            exact e
          | false =>
            rw [if_pos (by decide), fX7_heaps_51, fX7_heaps_52, nm_i, nm_i, i1, i0, nI_add, nI_add]
            rw [if_neg (fun z => by rw [e1] at z; cases z.2)] at e
            exact e
      · have : i = 1024 := by omega
        subst this
        rw [i1024, if_pos (nI_le (Nat.le_refl _) (by omega))]
  rw [i0]
  exact key FU 0 (by omega) (by unfold FU; omega)
-- what goes without saying
def unsB (mk : Nat → Nat) (T p j : Nat) : Bool := p.testBit j && fol mk T (unbit p (2 ^ j)) j
theorem pow_lt1024 {i : Nat} (h : i < 10) : 2 ^ i < 1024 := Nat.pow_lt_pow_right (a := 2) (n := 10) (by omega) h
theorem x_unsaid19 {τ : Tau} {p : Nat} (hT : T < 100000) (h24 : ∀ s, s < 1024 → tA τ 24 s = nI (cov mk T s)) (hp : p < 1024) : fX6_unsaid_19 (nI p) FU τ (0 : Int32) (0 : Int32) = some (nI (bitsTo (unsB mk T p) 10), τ) := by
  have key : ∀ N i, i ≤ 10 → 10 - i < N → fX6_unsaid_19 (nI p) N τ (nI (bitsTo (unsB mk T p) i)) (nI i) = some (nI (bitsTo (unsB mk T p) 10), τ) := by
    intro N
    induction N with
    | zero => intro i _ h; omega
    | succ N ih =>
      intro i hi hN
      rw [fX6_unsaid_19]
      by_cases hlt : i < 10
      · have e := ih (i + 1) (by omega) (by omega)
        have hpw := pow_lt1024 hlt
        rw [bitsTo] at e
        rw [i10, if_neg (nI_ge hlt (by omega)), nm_i, x_has (by omega) (by omega)]
        cases hb : p.testBit i with
        | false =>
          rw [if_pos (by decide), fX6_unsaid_59, nm_i, i1, nI_add]
          rw [if_neg (by unfold unsB; rw [hb]; simp)] at e
          exact e
        | true =>
          rw [if_neg (by decide), nI_one (by omega), nI_not (by omega) (by omega)]
          rw [show p &&& (2 ^ i ^^^ (2 ^ 31 - 1)) = unbit p (2 ^ i) from rfl, x_isFollowing hT h24 (unbit_lt hp) hlt, Option.bind_some]
          cases hf : fol mk T (unbit p (2 ^ i)) i with
          | false =>
            rw [if_pos (by decide), fX6_unsaid_59, nm_i, i1, nI_add]
            rw [if_neg (by unfold unsB; rw [hf]; simp)] at e
            exact e
          | true =>
            rw [if_neg (by decide), nm_i, fX6_unsaid_59, nm_i, i1, nI_add, nI_or]
            rw [if_pos (by unfold unsB; rw [hb, hf]; rfl)] at e
            exact e
      · have : i = 10 := by omega
        subst this
        rw [i10, if_pos (nI_le (Nat.le_refl _) (by omega))]
  rw [i0]
  exact key FU 0 (by omega) (by unfold FU; omega)
theorem m_unsaid22 {τ : Tau} {p : Nat} (hT : T < 100000) (hmk : ∀ w, w < T → mk w < 1024) (h7 : ∀ h, h < 1024 → tA τ 7 h = nI (cf mk T h)) (h8 : ∀ h w0, h < 1024 → IsFst mk T h w0 → tA τ 8 h = nI w0) (hp : p < 1024) : fX7_unsaid_22 (nI p) FU τ (0 : Int32) (0 : Int32) = some (nI (bitsTo (unsB mk T p) 10), τ) := by
  have key : ∀ N i, i ≤ 10 → 10 - i < N → fX7_unsaid_22 (nI p) N τ (nI (bitsTo (unsB mk T p) i)) (nI i) = some (nI (bitsTo (unsB mk T p) 10), τ) := by
    intro N
    induction N with
    | zero => intro i _ h; omega
    | succ N ih =>
      intro i hi hN
      rw [fX7_unsaid_22]
      by_cases hlt : i < 10
      · have e := ih (i + 1) (by omega) (by omega)
        have hpw := pow_lt1024 hlt
        rw [bitsTo] at e
        rw [i10, if_neg (nI_ge hlt (by omega)), nI_bit (by omega) (by omega)]
        cases hb : p.testBit i with
        | false =>
          rw [if_neg (by decide), fX7_unsaid_61, fX7_unsaid_62, nm_i, nm_i, i1, i0, nI_add, nI_or, Nat.or_zero]
          rw [if_neg (by unfold unsB; rw [hb]; simp)] at e
          exact e
        | true =>
          rw [if_pos (by decide), nI_one (by omega), nI_not (by omega) (by omega)]
          rw [show p &&& (2 ^ i ^^^ (2 ^ 31 - 1)) = unbit p (2 ^ i) from rfl]
          obtain ⟨x, ex, hx⟩ := m_follows hT hmk h7 h8 (unbit_lt (B := 2 ^ i) hp) hlt
          rw [ex, Option.bind_some]
          cases hf : fol mk T (unbit p (2 ^ i)) i with
          | false =>
            rw [if_neg (fun z => by rw [hx.mp z] at hf; cases hf), fX7_unsaid_61, fX7_unsaid_62, nm_i, nm_i, i1, i0, nI_add, nI_or, Nat.or_zero]
            rw [if_neg (by unfold unsB; rw [hf]; simp)] at e
            exact e
          | true =>
            rw [if_pos (hx.mpr hf), fX7_unsaid_62, nm_i, nm_i, i1, nI_add, nI_or]
            rw [if_pos (by unfold unsB; rw [hb, hf]; rfl)] at e
            exact e
      · have : i = 10 := by omega
        subst this
        rw [i10, if_pos (nI_le (Nat.le_refl _) (by omega))]
  rw [i0]
  exact key FU 0 (by omega) (by unfold FU; omega)
-- what to ask
def askM (mk : Nat → Nat) (T p i : Nat) : Nat := max (cov mk T (p ||| 2 ^ i)) (cov mk T p - cov mk T (p ||| 2 ^ i))
def askS (mk : Nat → Nat) (T p : Nat) : Nat → Nat × Nat
  | 0 => (0, cov mk T p + 1)
  | i + 1 => if (askS mk T p i).2 ≤ askM mk T p i then askS mk T p i else (i, askM mk T p i)
theorem cov_or_le {p i : Nat} (hp : p < 1024) (hi : i < 10) : cov mk T (p ||| 2 ^ i) ≤ cov mk T p := by
  apply sumTo_mono
  intro w hw
  have t := sub_or (h := mk w) hp hi
  by_cases e : mk w &&& (p ||| 2 ^ i) = p ||| 2 ^ i
  · rw [show sub (p ||| 2 ^ i) (mk w) = true from decide_eq_true e] at t
    rw [if_pos e, if_pos (of_decide_eq_true (Bool.and_eq_true_iff.mp t.symm).1)]
    exact Nat.le_refl _
  · rw [if_neg e]; exact Nat.zero_le _
theorem askM_le {p i : Nat} (hp : p < 1024) (hi : i < 10) : askM mk T p i ≤ cov mk T p := by
  have := cov_or_le (mk := mk) (T := T) hp hi
  unfold askM
  omega
theorem askS_lt {p : Nat} (hp : p < 1024) (i : Nat) : i ≤ 10 → (askS mk T p i).1 < 10 ∧ (askS mk T p i).2 ≤ cov mk T p + 1 := by
  induction i with
  | zero => exact fun _ => ⟨show 0 < 10 by omega, Nat.le_refl _⟩
  | succ i ih =>
    intro h
    have ih := ih (by omega)
    have := askM_le (mk := mk) (T := T) hp (show i < 10 by omega)
    rw [askS]
    split
    · exact ih
    · exact ⟨by show i < 10; omega, by show askM mk T p i ≤ _; omega⟩
theorem x_ask38 {τ : Tau} {p : Nat} (hT : T < 100000) (h24 : ∀ s, s < 1024 → tA τ 24 s = nI (cov mk T s)) (hp : p < 1024) : fX6_ask_38 (nI p) FU τ (nI (cov mk T p)) (0 : Int32) (nI (cov mk T p) + 1) (0 : Int32) = some (nI (askS mk T p 10).1, τ) := by
  have hc := cov_le mk p T
  have key : ∀ N i, i ≤ 10 → 10 - i < N → fX6_ask_38 (nI p) N τ (nI (cov mk T p)) (nI (askS mk T p i).1) (nI (askS mk T p i).2) (nI i) = some (nI (askS mk T p 10).1, τ) := by
    intro N
    induction N with
    | zero => intro i _ h; omega
    | succ N ih =>
      intro i hi hN
      rw [fX6_ask_38]
      by_cases hlt : i < 10
      · have e := ih (i + 1) (by omega) (by omega)
        have hb := askS_lt (mk := mk) (T := T) hp i hi
        have hm := askM_le (mk := mk) (T := T) hp hlt
        have hco := cov_or_le (mk := mk) (T := T) hp hlt
        have e2 : (if nI (cov mk T (p ||| 2 ^ i)) < nI (cov mk T p - cov mk T (p ||| 2 ^ i)) then nI (cov mk T p - cov mk T (p ||| 2 ^ i)) else nI (cov mk T (p ||| 2 ^ i))) = nI (askM mk T p i) := by
          unfold askM
          by_cases z : cov mk T (p ||| 2 ^ i) < cov mk T p - cov mk T (p ||| 2 ^ i)
          · rw [if_pos (nI_lt z (by omega))]; congr 1; omega
          · rw [if_neg (fun y => z ((nI_ltI (by omega) (by omega)).mp y))]; congr 1; omega
        rw [i10, if_neg (nI_ge hlt (by omega)), nI_one (by omega), nI_or, x_worldsOf h24 (or_pow_lt hp hlt), Option.bind_some, nm_i, pk_sub hco, e2]
        rw [askS] at e
        by_cases z : (askS mk T p i).2 ≤ askM mk T p i
        · rw [if_pos (nI_le z (by omega)), fX6_ask_83, nm_i, i1, nI_add]
          rw [if_pos z] at e
          exact e
        · rw [if_neg (nI_ge (by omega) (by omega)), fX6_ask_83, nm_i, i1, nI_add]
          rw [if_neg z] at e
          exact e
      · have : i = 10 := by omega
        subst this
        rw [i10, if_pos (nI_le (Nat.le_refl _) (by omega))]
  rw [i0, i1, nI_add]
  exact key FU 0 (by omega) (by unfold FU; omega)
theorem m_ask40 {τ : Tau} {p : Nat} (hT : T < 100000) (hmk : ∀ w, w < T → mk w < 1024) (h7 : ∀ h, h < 1024 → tA τ 7 h = nI (cf mk T h)) (hp : p < 1024) : fX7_ask_40 (nI p) FU τ (nI (cov mk T p)) (-9 : Int32) (0 : Int32) (0 : Int32) = some (nI (askS mk T p 10).1, τ) := by
  have hc := cov_le mk p T
  have key : ∀ N i x3 x4, i ≤ 10 → 10 - i < N → ((i = 0 ∧ x3 = -9) ∨ (0 < i ∧ x3 = nI (askS mk T p i).1 ∧ x4 = nI (askS mk T p i).2)) → fX7_ask_40 (nI p) N τ (nI (cov mk T p)) x3 x4 (nI i) = some (nI (askS mk T p 10).1, τ) := by
    intro N
    induction N with
    | zero => intro i _ _ _ h; omega
    | succ N ih =>
      intro i x3 x4 hi hN hx
      rw [fX7_ask_40]
      by_cases hlt : i < 10
      · have hb := askS_lt (mk := mk) (T := T) hp i hi
        have hm := askM_le (mk := mk) (T := T) hp hlt
        have hco := cov_or_le (mk := mk) (T := T) hp hlt
        have e2 : (if nI (cov mk T (p ||| 2 ^ i)) ≤ nI (cov mk T p - cov mk T (p ||| 2 ^ i)) then fX7_ask_77 (nI p) (fX7_ask_40 (nI p) N) τ (nI (cov mk T p)) x3 x4 (nI i) (nI (cov mk T p - cov mk T (p ||| 2 ^ i))) else fX7_ask_77 (nI p) (fX7_ask_40 (nI p) N) τ (nI (cov mk T p)) x3 x4 (nI i) (nI (cov mk T (p ||| 2 ^ i)))) = fX7_ask_77 (nI p) (fX7_ask_40 (nI p) N) τ (nI (cov mk T p)) x3 x4 (nI i) (nI (askM mk T p i)) := by
          unfold askM
          by_cases z : cov mk T (p ||| 2 ^ i) ≤ cov mk T p - cov mk T (p ||| 2 ^ i)
          · rw [if_pos (nI_le z (by omega))]; congr 2; omega
          · rw [if_neg (nI_ge (by omega) (by omega))]; congr 2; omega
        rw [i10, if_neg (nI_ge hlt (by omega)), nI_one (by omega), nI_or, m_canBe hT hmk h7 (or_pow_lt hp hlt), Option.bind_some, pk_sub hco, e2, fX7_ask_77]
        have take : ¬ (askS mk T p i).2 ≤ askM mk T p i → fX7_ask_92 (nI p) (fX7_ask_40 (nI p) N) τ (nI (cov mk T p)) (nI i) (nI (askM mk T p i)) = some (nI (askS mk T p 10).1, τ) := by
          intro z
          rw [fX7_ask_92, fX7_ask_99, nm_i, i1, nI_add]
          refine ih (i + 1) _ _ (by omega) (by omega) (Or.inr ⟨by omega, ?_, ?_⟩)
          · rw [askS, if_neg z]
          · rw [askS, if_neg z]
        rcases hx with ⟨h0, rfl⟩ | ⟨h0, rfl, rfl⟩
        · rw [if_pos rfl]
          apply take
          subst h0
          show ¬ cov mk T p + 1 ≤ _
          omega
        · rw [if_neg (nI_ne9 (by omega))]
          by_cases z : (askS mk T p i).2 ≤ askM mk T p i
          · rw [if_pos (nI_le z (by omega)), fX7_ask_99, nm_i, i1, nI_add]
            refine ih (i + 1) _ _ (by omega) (by omega) (Or.inr ⟨by omega, ?_, ?_⟩)
            · rw [askS, if_pos z]
            · rw [askS, if_pos z]
          · rw [if_neg (nI_ge (by omega) (by omega))]
            exact take z
      · have : i = 10 := by omega
        subst this
        rcases hx with ⟨h0, _⟩ | ⟨_, rfl, _⟩
        · omega
        · rw [i10, if_pos (nI_le (Nat.le_refl _) (by omega))]
  rw [i0]
  exact key FU 0 _ _ (by omega) (by unfold FU; omega) (Or.inl ⟨rfl, rfl⟩)
end QM
