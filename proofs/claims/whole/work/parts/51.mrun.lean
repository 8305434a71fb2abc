/-! rounds of the reference's side -/
theorem m_f16 : ∀ f, f < 64 → nI f / (16 : Int32) = nI (f / 16) := by decide +kernel
theorem m_f4 : ∀ f, f < 64 → ((nI f / (4 : Int32)) - (nI f / (4 : Int32)) / (4 : Int32) * (4 : Int32)) = nI (f / 4 % 4) := by decide +kernel
theorem m_f0 : ∀ f, f < 64 → (nI f - nI f / (4 : Int32) * (4 : Int32)) = nI (f % 4) := by decide +kernel
theorem m_fq : ∀ f, f < 64 → nI f / (4 : Int32) = nI (f / 4) := by decide +kernel
def unset (R : Nat → Option Nat) (n : Nat) : Nat := sumTo (fun f => if (R f).isNone then 1 else 0) n
theorem unset_le (R : Nat → Option Nat) : ∀ n, unset R n ≤ n
  | 0 => Nat.le_refl _
  | n + 1 => by
    have := unset_le R n
    unfold unset at this ⊢
    rw [sumTo]
    split <;> omega
theorem sumTo_lt {f g : Nat → Nat} : ∀ {n i : Nat}, (∀ j, j < n → f j ≤ g j) → i < n → f i < g i → sumTo f n < sumTo g n
  | 0, i, _, h, _ => absurd h (by omega)
  | n + 1, i, h, hi, hl => by
    rw [sumTo, sumTo]
    have hn := h n (by omega)
    by_cases e : i = n
    · have := sumTo_mono (n := n) (fun j hj => h j (by omega))
      rw [e] at hl
      omega
    · have := sumTo_lt (n := n) (i := i) (fun j hj => h j (by omega)) (by omega) hl
      omega
theorem unset_pass {K md p : Nat} {R : Nat → Option Nat} (h : anyF K md R p = true) : unset (pass K md R p) 64 < unset R 64 := by
  obtain ⟨f, hf, hn⟩ := srch_isSome.mp h
  refine sumTo_lt (i := f) (fun j hj => ?_) hf ?_
  · unfold pass
    by_cases e : newF K md R p j = true
    · rw [if_pos e]; exact Nat.zero_le _
    · rw [if_neg e]; exact Nat.le_refl _
  · unfold pass
    rw [if_pos hn]
    have : (R f).isNone = true := by
      unfold newF at hn
      exact (Bool.and_eq_true_iff.mp (Bool.and_eq_true_iff.mp hn).1).1
    rw [this]
    show 0 < 1
    omega
section MR
variable {K md : Nat}
theorem m_isTold {τ : Tau} {d : Nat → Sd} {p f : Nat} (hp : p < 1024) (hf : f < 64) (hs : ∀ i, i < 10 → SM τ i (d i)) : fX7_isTold τ (nI p) (nI f) = some (tld d p f) := by
  have key : ∀ N i (c : Bool), i ≤ 10 → 10 - i < N → (c = true ↔ ∃ j, j < i ∧ p.testBit j = true ∧ sdF (d j) = nI f) → fX7_isTold_5 τ (nI p) (nI f) N (bI c) (nI i) = some (tld d p f) := by
    intro N
    induction N with
    | zero => intro i _ _ h; omega
    | succ N ih =>
      intro i c hi hN hc
      rw [fX7_isTold_5]
      by_cases hlt : i < 10
      · have stay : ¬ (p.testBit i = true ∧ sdF (d i) = nI f) → fX7_isTold_43 τ (nI p) (nI f) (fX7_isTold_5 τ (nI p) (nI f) N) (nI i) (bI c) = some (tld d p f) := by
          intro hn
          rw [fX7_isTold_43, fX7_isTold_44, nm_i, nm_i, show bI c ||| 0 = bI c by cases c <;> decide, i1, nI_add]
          refine ih (i + 1) c (by omega) (by omega) (hc.trans ⟨fun ⟨j, a, b⟩ => ⟨j, by omega, b⟩, fun ⟨j, a, b⟩ => ⟨j, ?_, b⟩⟩)
          by_cases e : j = i
          · rw [e] at b; exact absurd b hn
          · omega
        rw [i10, if_neg (nI_ge hlt (by omega)), nI_bit (by omega) (by omega)]
        cases hb : p.testBit i with
        | false =>
          rw [if_neg (by decide)]
          exact stay (fun z => by rw [hb] at z; cases z.1)
        | true =>
          rw [if_pos (by decide), show (6 : Int32) * nI i + (5 : Int32) = nI (6 * i + 5) by rw [i6, i5, pk_mul, nI_add], if_neg (nI_in (show 6 * i + 5 < 60 by omega) (by decide)), nI_clamp (by omega), (hs i hlt).2.2.2.2.2]
          by_cases hq : sdF (d i) = nI f
          · rw [if_pos hq, fX7_isTold_44, nm_i, nm_i, show bI c ||| 1 = bI true by cases c <;> decide, i1, nI_add]
            exact ih (i + 1) true (by omega) (by omega) ⟨fun _ => ⟨i, by omega, hb, hq⟩, fun _ => rfl⟩
          · rw [if_neg hq]
            exact stay (fun z => hq z.2)
      · have : i = 10 := by omega
        subst this
        rw [i10, if_pos (nI_le (Nat.le_refl _) (by omega)), if_pos (show bI c = 0 ∨ bI c = 1 by cases c <;> decide)]
        rw [← tld_iff] at hc
        cases c <;> cases h : tld d p f <;> simp_all <;> decide
  unfold fX7_isTold
  rw [i0]
  exact key FU 0 false (by omega) (by unfold FU; omega) ⟨fun z => (by cases z), fun ⟨j, a, _⟩ => absurd a (by omega)⟩
theorem m_150 {τ0 : Tau} {A : Nat → Bool} {p f : Nat} {p1 x2 : Int32} (k90 : Tau → Int32 → Option Tau) (k98 : Tau → Int32 → Int32 → Option Tau) (hK : K ≤ 4) (hmd : md < 512) (hf : f < 64) :
    ∀ M N i τ, i + M = 9 → M + 1 < N → Fr shF [] τ0 τ → tI τ 0 1 = nI K → tI τ 0 3 = nI md → tI τ 0 25 + 1 = nI p → BY τ A p →
      ∃ τ', fX7_shows_150 p1 k90 k98 N τ x2 (nI f) 1 0 (nI i) = fX7_shows_220 p1 k90 k98 τ' x2 (nI f) (bI (srch (lst K A md f) M i).isSome) ∧ Fr shF [] τ0 τ' := by
  intro M
  induction M with
  | zero =>
    intro N i τ hi hN hF hk h3 h25 hA
    obtain ⟨N', rfl⟩ : ∃ N', N = N' + 1 := ⟨N - 1, by omega⟩
    rw [fX7_shows_150, i9, if_pos (nI_le (by omega) (by omega))]
    exact ⟨τ, rfl, hF⟩
  | succ M ih =>
    intro N i τ hi hN hF hk h3 h25 hA
    obtain ⟨N', rfl⟩ : ∃ N', N = N' + 1 := ⟨N - 1, by omega⟩
    have stay : lst K A md f i = false → ∀ τ2, Fr shF [] τ τ2 → ∃ τ', fX7_shows_211 p1 k90 k98 (fX7_shows_150 p1 k90 k98 N') τ2 x2 (nI f) 1 (nI i) = fX7_shows_220 p1 k90 k98 τ' x2 (nI f) (bI (srch (lst K A md f) (M + 1) i).isSome) ∧ Fr shF [] τ0 τ' := by
      intro hz τ2 hF2
      rw [fX7_shows_211, fX7_shows_212, nm_i, show nI i + 1 = nI (i + 1) from nI_add i 1, srch, if_neg (by rw [hz]; decide)]
      exact ih N' (i + 1) τ2 (by omega) (by omega) (hF.tr hF2) (by rw [(hF2.1 0 1 (by decide)).1, hk]) (by rw [(hF2.1 0 3 (by decide)).1, h3]) (by rw [(hF2.1 0 25 (by decide)).1, h25]) (hA.fr hF2 (by decide))
    have him : i < 9 := by omega
    rw [fX7_shows_150, i9, if_neg (nI_ge him (by omega)), if_neg (by decide), if_pos rfl, h3, nI_bit (by omega) (by omega)]
    cases hb : md.testBit i with
    | false =>
      rw [if_neg (by decide)]
      exact stay (by unfold lst; rw [hb]; rfl) τ Fr.rf
    | true =>
      obtain ⟨τ2, e2, f2, _⟩ := m_isShown (m := i) (w := f / 16) (x := f / 4 % 4) (y := f % 4) hK hk hA him (by omega) (Nat.mod_lt _ (by omega)) (Nat.mod_lt _ (by omega))
      rw [if_pos (by decide), m_f16 f hf, m_f4 f hf, m_f0 f hf, h25, e2, Option.bind_some]
      dsimp only
      have el : lst K A md f i = (if SH i = f / 16 then shw K A i (f / 4 % 4) (f % 4) else none).isSome := by
        unfold lst
        rw [hb]
        by_cases q : SH i = f / 16
        · rw [if_pos q]; simp [q]
        · rw [if_neg q]; simp [q]
      rw [← el]
      cases hl : lst K A md f i with
      | false =>
        rw [if_pos (by decide)]
        exact stay hl τ2 f2
      | true =>
        obtain ⟨N2, rfl⟩ : ∃ N2, N' = N2 + 1 := ⟨N' - 1, by omega⟩
        rw [if_neg (by decide), fX7_shows_212, nm_i, srch, if_pos hl, fX7_shows_150]
        refine ⟨τ2, ?_, hF.tr f2⟩
        show _ = fX7_shows_220 p1 k90 k98 τ2 x2 (nI f) 1
        by_cases q : (9 : Int32) ≤ nI i + 1
        · rw [if_pos q]
        · rw [if_neg q, if_neg (by decide), if_neg (by decide)]
theorem m_98 {τ0 : Tau} {R : Nat → Option Nat} {p : Nat} {p1 : Int32} (k90 : Tau → Int32 → Option Tau) (hK : K ≤ 4) (hmd : md < 512) (hR : RM τ0 R) (hB : RB R p) (hp : p < 900) (hp1 : 1 ≤ p) (hk : tI τ0 0 1 = nI K) (h3 : tI τ0 0 3 = nI md) (h25 : tI τ0 0 25 = nI (p - 1)) :
    ∃ τ', fX7_shows_98 p1 k90 FU τ0 (0 : Int32) (0 : Int32) = k90 τ' (bI (anyF K md R p)) ∧ RM τ' (pass K md R p) ∧ tI τ' 0 25 = nI (if anyF K md R p = true then p else p - 1) ∧ Fr ((0, 25) :: shF) [11] τ0 τ' := by
  have key : ∀ N i τ (c : Bool), i ≤ 64 → 64 - i < N → Fr shF [11] τ0 τ → (∀ f, f < 64 → tA τ 11 f = encW (if f < i then pass K md R p f else R f)) → (c = true ↔ ∃ j, j < i ∧ newF K md R p j = true) →
      ∃ τ', fX7_shows_98 p1 k90 N τ (bI c) (nI i) = k90 τ' (bI (anyF K md R p)) ∧ RM τ' (pass K md R p) ∧ tI τ' 0 25 = nI (if anyF K md R p = true then p else p - 1) ∧ Fr ((0, 25) :: shF) [11] τ0 τ' := by
    intro N
    induction N with
    | zero => intro i _ _ _ h; omega
    | succ N ih =>
      intro i τ c hi hN hF hT hc
      have g25 : tI τ 0 25 = nI (p - 1) := by rw [(hF.1 0 25 (by decide)).1, h25]
      rw [fX7_shows_98]
      by_cases hlt : i < 64
      · have gk : tI τ 0 1 = nI K := by rw [(hF.1 0 1 (by decide)).1, hk]
        have g3 : tI τ 0 3 = nI md := by rw [(hF.1 0 3 (by decide)).1, h3]
        have stay : newF K md R p i = false → ∀ τ2, Fr shF [11] τ0 τ2 → (∀ f, f < 64 → tA τ2 11 f = tA τ 11 f) → ∃ τ', fX7_shows_239 p1 k90 (fX7_shows_98 p1 k90 N) τ2 (bI c) (nI i) = k90 τ' (bI (anyF K md R p)) ∧ RM τ' (pass K md R p) ∧ tI τ' 0 25 = nI (if anyF K md R p = true then p else p - 1) ∧ Fr ((0, 25) :: shF) [11] τ0 τ' := by
          intro hz τ2 hF2 hs
          rw [fX7_shows_239, nm_i, show nI i + 1 = nI (i + 1) from nI_add i 1]
          refine ih (i + 1) τ2 c (by omega) (by omega) hF2 (fun f hf => ?_) (hc.trans ⟨fun ⟨j, a, b⟩ => ⟨j, by omega, b⟩, fun ⟨j, a, b⟩ => ⟨j, ?_, b⟩⟩)
          · rw [hs f hf, hT f hf]
            by_cases e : f = i
            · rw [e, if_neg (by omega), if_pos (by omega)]
              unfold pass
              rw [if_neg (by rw [hz]; decide)]
            · have : (f < i + 1) ↔ (f < i) := by omega
              simp only [this]
          · by_cases e : j = i
            · rw [e, hz] at b; cases b
            · omega
        have skip : newF K md R p i = false → ∃ τ', fX7_shows_141 p1 k90 (fX7_shows_98 p1 k90 N) τ (bI c) (nI i) = k90 τ' (bI (anyF K md R p)) ∧ RM τ' (pass K md R p) ∧ tI τ' 0 25 = nI (if anyF K md R p = true then p else p - 1) ∧ Fr ((0, 25) :: shF) [11] τ0 τ' := by
          intro hz
          rw [fX7_shows_141, fX7_shows_142, show FU = 999999 + 1 from rfl, fX7_shows_150]
          by_cases q : (9 : Int32) ≤ 0
          · exact absurd q (by decide)
          · rw [if_neg q, if_pos rfl, fX7_shows_220, if_pos rfl]
            exact stay hz τ hF (fun _ _ => rfl)
        have h1 : i / 4 % 4 < 4 := Nat.mod_lt _ (by omega)
        have h2 : i % 4 < 4 := Nat.mod_lt _ (by omega)
        rw [i64, if_neg (nI_ge hlt (by omega)), m_f4 i hlt, m_f0 i hlt, gk]
        by_cases a : i / 4 % 4 < K
        · rw [if_neg (nI_ge a (by omega))]
          by_cases b : i % 4 < K
          · have hok : okF K i = true := decide_eq_true ⟨a, b⟩
            have ti := hT i hlt
            rw [if_neg (by omega)] at ti
            rw [if_neg (nI_ge b (by omega)), if_neg (nI_in hlt (by decide)), nI_clamp (by omega), ti]
            have e9 := encW9 (r := R i) (fun k hk => by have := hB i k hlt hk; omega)
            by_cases hr : R i = none
            · rw [if_pos (e9.mpr hr), fX7_shows_142]
              have hA : BY τ (ahd R p) p := by
                intro f hf
                have tf := hT f hf
                have e := m_isBy (p := p) (R := fun f => if f < i then pass K md R p f else R f) tf (fun k z => by
                  unfold pass at z
                  split at z
                  · split at z
                    · cases z; omega
                    · have := hB f k hf z; omega
                  · have := hB f k hf z; omega) (by omega) hf
                rw [e]
                congr 1
                unfold ahd
                dsimp only
                by_cases q : f < i
                · rw [if_pos q]
                  unfold pass
                  by_cases n : newF K md R p f = true
                  · rw [if_pos n]
                    have : R f = none := by
                      unfold newF at n
                      exact Option.isNone_iff_eq_none.mp (Bool.and_eq_true_iff.mp (Bool.and_eq_true_iff.mp n).1).1
                    rw [this]
                    exact decide_eq_false (by omega)
                  · rw [if_neg n]
                · rw [if_neg q]
              obtain ⟨τ2, e2, f2⟩ := m_150 (τ0 := τ) (A := ahd R p) (p := p) (f := i) (p1 := p1) (x2 := bI c) k90 (fX7_shows_98 p1 k90 N) hK hmd hlt 9 FU 0 τ (by omega) (by unfold FU; omega) Fr.rf gk g3 (by rw [g25, show (1 : Int32) = nI 1 from rfl, nI_add]; congr 1; omega) hA
              rw [← i0] at e2
              rw [e2, fX7_shows_220]
              have hF2 := hF.tr (f2.wk (S' := [11]) (by decide) (by decide))
              have hs2 : ∀ f, f < 64 → tA τ2 11 f = tA τ 11 f := fun f _ => (f2.2 11 (by decide) f).1
              have en : newF K md R p i = (srch (lst K (ahd R p) md i) 9 0).isSome := by
                unfold newF
                rw [hok, hr]; rfl
              rw [← en]
              cases hn : newF K md R p i with
              | false =>
                rw [if_pos (by decide)]
                exact stay hn τ2 hF2 hs2
              | true =>
                rw [if_neg (by decide), if_neg (nI_in hlt (by decide)), nm_i, fX7_shows_239, nm_i, nI_clamp (by omega), show nI i + 1 = nI (i + 1) from nI_add i 1, (f2.1 0 25 (by decide)).1, g25, show (nI (p - 1) + 1 : Int32) = nI p by rw [i1, nI_add]; congr 1; omega]
                refine ih (i + 1) _ true (by omega) (by omega) (hF2.tr (Fr.sA (by decide))) (fun f hf => ?_) ⟨fun _ => ⟨i, by omega, hn⟩, fun _ => rfl⟩
                rw [tA_sA]
                by_cases e : f = i
                · subst e
                  rw [if_pos ⟨rfl, rfl⟩, if_pos (by omega)]
                  unfold pass
                  rw [if_pos hn]
                  rfl
                · rw [if_neg (fun z => e z.2), hs2 f hf, hT f hf]
                  have : (f < i + 1) ↔ (f < i) := by omega
                  simp only [this]
            · rw [if_neg (fun z => hr (e9.mp z))]
              refine skip ?_
              unfold newF
              cases hq : R i with
              | none => exact absurd hq hr
              | some k => rfl
          · rw [if_pos (nI_le (by omega) (by omega))]
            exact skip (by unfold newF okF; simp [b])
        · rw [if_pos (nI_le (by omega) (by omega))]
          exact skip (by unfold newF okF; simp [a])
      · have : i = 64 := by omega
        subst this
        have ec : c = anyF K md R p := by
          have : c = true ↔ anyF K md R p = true := by unfold anyF; rw [srch_isSome]; exact hc
          cases c <;> cases h : anyF K md R p <;> simp_all
        rw [i64, if_pos (nI_le (Nat.le_refl _) (by omega)), ← ec]
        have hr : RM (sI τ 0 25 (tI τ 0 25 + bI c)) (pass K md R p) := fun f hf => by rw [tA_sI, hT f hf, if_pos hf]
        have fr2 : Fr ((0, 25) :: shF) [11] τ0 (sI τ 0 25 (tI τ 0 25 + bI c)) := (hF.wk (by decide) (by decide)).tr (Fr.sI (by decide))
        cases c with
        | false =>
          rw [if_pos (by decide), fX7_shows_259, nm_i]
          refine ⟨_, rfl, hr, ?_, fr2⟩
          rw [tI_sI, if_pos ⟨rfl, rfl⟩, g25, if_neg (by decide)]
          show nI (p - 1) + nI 0 = _
          rw [nI_add]; rfl
        | true =>
          rw [if_neg (by decide), fX7_shows_259, nm_i]
          refine ⟨_, rfl, hr, ?_, fr2⟩
          rw [tI_sI, if_pos ⟨rfl, rfl⟩, g25, if_pos rfl]
          show nI (p - 1) + nI 1 = _
          rw [nI_add]
          congr 1
          omega
  have e := key FU 0 τ0 false (by omega) (by unfold FU; omega) Fr.rf (fun f hf => by rw [if_neg (by omega)]; exact hR f hf) ⟨fun z => (by cases z), fun ⟨j, a, _⟩ => absurd a (by omega)⟩
  exact e
end MR
section MW
variable {K md : Nat}
abbrev mwF : List (Nat × Nat) := [(0, 25), (0, 26), (0, 27), (0, 28)]
theorem m_90 {τ0 : Tau} {p1 : Int32} (hK : K ≤ 4) (hmd : md < 512) (hk : tI τ0 0 1 = nI K) (h3 : tI τ0 0 3 = nI md) :
    ∀ M N p R τ, unset R 64 ≤ M → M + 1 < N → 1 ≤ p → p + M < 900 → RM τ R → RB R p → Fr mwF [11] τ0 τ → tI τ 0 25 = nI (p - 1) →
      ∃ τ', fX7_shows_90 p1 N τ (1 : Int32) = some τ' ∧ RM τ' (run K md M R p).1 ∧ tI τ' 0 25 = nI (run K md M R p).2 ∧ Fr mwF [11] τ0 τ' := by
  intro M
  induction M with
  | zero =>
    intro N p R τ hu hN hp1 hpb hR hB hF h25
    obtain ⟨N', rfl⟩ : ∃ N', N = N' + 1 := ⟨N - 1, by omega⟩
    obtain ⟨N2, rfl⟩ : ∃ N2, N' = N2 + 1 := ⟨N' - 1, by omega⟩
    obtain ⟨τ2, e2, r2, l2, f2⟩ := m_98 (τ0 := τ) (p1 := p1) (fX7_shows_90 p1 (N2 + 1)) hK hmd hR hB (show p < 900 by omega) hp1 (by rw [(hF.1 0 1 (by decide)).1, hk]) (by rw [(hF.1 0 3 (by decide)).1, h3]) h25
    have ha : anyF K md R p = false := by
      cases h : anyF K md R p with
      | false => rfl
      | true => have := unset_pass h; omega
    rw [fX7_shows_90, if_neg (by decide), e2, ha, fX7_shows_90, if_pos (by decide)]
    rw [ha, if_neg (by decide)] at l2
    exact ⟨τ2, rfl, fun f hf => by rw [r2 f hf, pass_same ha f hf]; rfl, l2, hF.tr (f2.wk (by decide) (by decide))⟩
  | succ M ih =>
    intro N p R τ hu hN hp1 hpb hR hB hF h25
    obtain ⟨N', rfl⟩ : ∃ N', N = N' + 1 := ⟨N - 1, by omega⟩
    obtain ⟨N2, rfl⟩ : ∃ N2, N' = N2 + 1 := ⟨N' - 1, by omega⟩
    obtain ⟨τ2, e2, r2, l2, f2⟩ := m_98 (τ0 := τ) (p1 := p1) (fX7_shows_90 p1 (N2 + 1)) hK hmd hR hB (show p < 900 by omega) hp1 (by rw [(hF.1 0 1 (by decide)).1, hk]) (by rw [(hF.1 0 3 (by decide)).1, h3]) h25
    have hF2 := hF.tr (f2.wk (F' := mwF) (S' := [11]) (by decide) (by decide))
    rw [fX7_shows_90, if_neg (by decide), e2, run]
    cases ha : anyF K md R p with
    | false =>
      rw [ha, if_neg (by decide)] at l2
      rw [fX7_shows_90, if_pos (by decide), if_neg (by decide)]
      exact ⟨τ2, rfl, fun f hf => by rw [r2 f hf, pass_same ha f hf], l2, hF2⟩
    | true =>
      rw [ha, if_pos rfl] at l2
      have := unset_pass ha
      rw [if_pos rfl]
      exact ih (N2 + 1) (p + 1) (pass K md R p) τ2 (by omega) (by omega) (by omega) (by omega) r2 hB.up hF2 (by rw [l2]; rfl)
theorem m_shows {τ0 : Tau} {d : Nat → Sd} {p : Nat} (hK : K ≤ 4) (hmd : md < 512) (hp : p < 1024) (hs : ∀ i, i < 10 → SM τ0 i (d i)) (hk : tI τ0 0 1 = nI K) (h3 : tI τ0 0 3 = nI md) :
    ∃ τ', fX7_shows τ0 (nI p) = some τ' ∧ RM τ' (rnd K md d p).1 ∧ tI τ' 0 25 = nI (rnd K md d p).2 ∧ Fr mwF [11] τ0 τ' := by
  have key : ∀ N i τ, i ≤ 64 → 64 - i < N → Fr [] [11] τ0 τ → (∀ f, f < i → tA τ 11 f = encW (R0 K md (tld d p) f)) →
      ∃ τ', fX7_shows_2 (nI p) N τ (nI i) = some τ' ∧ RM τ' (rnd K md d p).1 ∧ tI τ' 0 25 = nI (rnd K md d p).2 ∧ Fr mwF [11] τ0 τ' := by
    intro N
    induction N with
    | zero => intro i _ _ h; omega
    | succ N ih =>
      intro i τ hi hN hF hT
      rw [fX7_shows_2]
      by_cases hlt : i < 64
      · have put : ∀ v, v = encW (R0 K md (tld d p) i) → ∃ τ', fX7_shows_76 (nI p) (fX7_shows_2 (nI p) N) τ (nI i) v (nI i) = some τ' ∧ RM τ' (rnd K md d p).1 ∧ tI τ' 0 25 = nI (rnd K md d p).2 ∧ Fr mwF [11] τ0 τ' := by
          intro v hv
          rw [fX7_shows_76, if_neg (nI_in hlt (by decide)), nm_i, nm_i, nI_clamp (by omega), i1, nI_add]
          refine ih (i + 1) _ (by omega) (by omega) (hF.tr (Fr.sA (by decide))) (fun f hf => ?_)
          rw [tA_sA]
          by_cases e : f = i
          · rw [if_pos ⟨rfl, e⟩, hv, e]
          · rw [if_neg (fun z => e z.2)]; exact hT f (by omega)
        have gk : tI τ 0 1 = nI K := by rw [(hF.1 0 1 (by decide)).1, hk]
        have g3 : tI τ 0 3 = nI md := by rw [(hF.1 0 3 (by decide)).1, h3]
        have gs : ∀ i, i < 10 → SM τ i (d i) := fun i hi => (hs i hi).fr hF (by decide)
        have told : (md.testBit 7 && decide (i / 16 = 0) && okF K i && decide (i / 4 % 4 = i % 4)) = false → ∃ τ', fX7_shows_50 (nI p) (fX7_shows_2 (nI p) N) τ (nI i) = some τ' ∧ RM τ' (rnd K md d p).1 ∧ tI τ' 0 25 = nI (rnd K md d p).2 ∧ Fr mwF [11] τ0 τ' := by
          intro hz
          rw [fX7_shows_50, fX7_shows_51, if_pos rfl, m_isTold hp hlt gs, Option.bind_some]
          cases ht : tld d p i with
          | false =>
            rw [if_pos (by decide)]
            refine put _ ?_
            unfold R0
            rw [hz, ht]; rfl
          | true =>
            rw [if_neg (by decide), fX7_shows_70]
            refine put _ ?_
            unfold R0
            rw [hz, ht]; rfl
        rw [i64, if_neg (nI_ge hlt (by omega))]
        by_cases h16 : i < 16
        · rw [i16, if_neg (nI_ge h16 (by omega)), m_f0 i hlt, m_fq i hlt]
          by_cases hx : i / 4 = i % 4
          · rw [if_pos (by rw [hx]), gk]
            by_cases hk2 : i / 4 < K
            · rw [if_neg (nI_ge hk2 (by omega)), g3, i7, nI_bit (by omega) (by omega)]
              cases hb : md.testBit 7 with
              | false =>
                rw [if_neg (by decide)]
                exact told (by rw [hb]; rfl)
              | true =>
                rw [if_pos (by decide), fX7_shows_51, if_neg (by decide), fX7_shows_70]
                refine put _ ?_
                unfold R0 okF
                rw [hb, decide_eq_true (show i / 16 = 0 by omega), decide_eq_true (show i / 4 % 4 < K ∧ i % 4 < K by omega), decide_eq_true (show i / 4 % 4 = i % 4 by omega)]
                rfl
            · rw [if_pos (nI_le (by omega) (by omega))]
              exact told (by unfold okF; rw [decide_eq_false (show ¬ (i / 4 % 4 < K ∧ i % 4 < K) by omega)]; simp)
          · rw [if_neg (fun z => hx (nI_inj (by omega) (by omega) z))]
            exact told (by rw [decide_eq_false (show ¬ i / 4 % 4 = i % 4 by omega)]; simp)
        · rw [i16, if_pos (nI_le (by omega) (by omega))]
          exact told (by rw [decide_eq_false (show ¬ i / 16 = 0 by omega)]; simp)
      · have : i = 64 := by omega
        subst this
        rw [i64, if_pos (nI_le (Nat.le_refl _) (by omega)), nm_i]
        have f1 : Fr mwF [11] τ0 (sI τ 0 25 0) := (hF.wk (by decide) (by decide)).tr (Fr.sI (by decide))
        exact m_90 (τ0 := τ0) (p1 := nI p) hK hmd hk h3 64 FU 1 (R0 K md (tld d p)) (sI τ 0 25 0) (unset_le _ 64) (by unfold FU; omega) (by omega) (by omega) (fun f hf => by rw [tA_sI]; exact hT f hf) (fun f k _ z => by
          unfold R0 at z
          split at z
          · cases z; omega
          · cases z) f1 (by rw [tI_sI, if_pos ⟨rfl, rfl⟩]; rfl)
  unfold fX7_shows
  rw [i0]
  exact key FU 0 τ0 (by omega) (by unfold FU; omega) Fr.rf (fun f hf => absurd hf (by omega))
end MW
