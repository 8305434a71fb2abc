/-! which mood shows a fact, by which facts: both sides -/
theorem run_keep {K md f k : Nat} : ∀ M R p, R f = some k → (run K md M R p).1 f = some k
  | 0, R, p, h => h
  | M + 1, R, p, h => by
    rw [run]
    split
    · refine run_keep M _ _ ?_
      unfold pass
      rw [if_neg]
      · exact h
      · intro z
        unfold newF at z
        rw [h] at z
        exact absurd z (by simp)
    · exact h
theorem run_zero {K md f : Nat} : ∀ M R p, 1 ≤ p → (run K md M R p).1 f = some 0 → R f = some 0
  | 0, R, p, _, h => h
  | M + 1, R, p, hp, h => by
    rw [run] at h
    split at h
    · have := run_zero M _ (p + 1) (by omega) h
      unfold pass at this
      by_cases e : newF K md R p f = true
      · rw [if_pos e] at this
        have : p = 0 := Option.some.inj this
        omega
      · rw [if_neg e] at this; exact this
    · exact h
theorem run_RB {K md : Nat} : ∀ M R p, RB R p → RB (run K md M R p).1 (p + M)
  | 0, R, p, h => h
  | M + 1, R, p, h => by
    rw [run]
    split
    · have := run_RB (K := K) (md := md) M _ (p + 1) (h.up (K := K) (md := md))
      rw [show p + 1 + M = p + (M + 1) by omega] at this
      exact this
    · exact h.wk (by omega)
theorem run_ok {K md f k : Nat} : ∀ M R p, (run K md M R p).1 f = some k → R f = some k ∨ okF K f = true
  | 0, R, p, h => Or.inl h
  | M + 1, R, p, h => by
    rw [run] at h
    split at h
    · rcases run_ok M _ (p + 1) h with a | a
      · unfold pass at a
        by_cases e : newF K md R p f = true
        · right
          unfold newF at e
          exact (Bool.and_eq_true_iff.mp (Bool.and_eq_true_iff.mp e).1).2
        · rw [if_neg e] at a; exact Or.inl a
      · exact Or.inr a
    · exact Or.inl h
theorem rnd_RB {K md : Nat} (d : Nat → Sd) (p : Nat) : RB (rnd K md d p).1 65 := by
  refine run_RB 64 _ 1 (fun f k _ z => ?_)
  unfold R0 at z
  split at z
  · cases z; omega
  · cases z
theorem rnd_same {K md p f : Nat} {d : Nat → Sd} (hb : md.testBit 7 = true) (h0 : f / 16 = 0) (hk : okF K f = true) (hx : f / 4 % 4 = f % 4) : (rnd K md d p).1 f = some 0 := by
  refine run_keep 64 _ 1 ?_
  unfold R0
  rw [if_pos (by rw [hb, hk, decide_eq_true h0, decide_eq_true hx]; rfl)]
theorem rnd_zero {K md p f : Nat} {d : Nat → Sd} (h : (rnd K md d p).1 f = some 0) : tld d p f = true ∨ (md.testBit 7 = true ∧ f / 16 = 0 ∧ f / 4 % 4 = f % 4) := by
  have := run_zero 64 _ 1 (Nat.le_refl _) h
  unfold R0 at this
  split at this
  · rename_i z
    rcases Bool.or_eq_true_iff.mp z with a | a
    · obtain ⟨b, c⟩ := Bool.and_eq_true_iff.mp a
      obtain ⟨b1, b2⟩ := Bool.and_eq_true_iff.mp b
      obtain ⟨b3, b4⟩ := Bool.and_eq_true_iff.mp b1
      exact Or.inr ⟨b3, of_decide_eq_true b4, of_decide_eq_true c⟩
    · exact Or.inl a
  · cases this
theorem lst_same2 {K md f : Nat} {A : Nat → Bool} (hn : ¬ (md.testBit 7 = true ∧ f / 16 = 0 ∧ f / 4 % 4 = f % 4)) (m : Nat) : lstX K A md f m = lst K A md f m := by
  unfold lstX lst shwX
  by_cases e : m = 7
  · subst e
    rw [if_pos rfl]
    have e1 : shw K A 7 (f / 4 % 4) (f % 4) = none := by unfold shw; rw [if_neg (by omega), if_neg (by omega), if_pos rfl]
    rw [e1]
    by_cases hb : md.testBit 7 = true
    · by_cases h0 : f / 16 = 0
      · by_cases hx : f / 4 % 4 = f % 4
        · exact absurd ⟨hb, h0, hx⟩ hn
        · rw [if_neg hx]
      · rw [show decide (SH 7 = f / 16) = false from decide_eq_false (fun z => h0 z.symm)]; simp
    · simp at hb
      rw [hb]; rfl
  · rw [if_neg e]
theorem shw_no {K m x y : Nat} : shw K (fun _ => false) m x y = none := by
  unfold shw
  split
  · rfl
  · split
    · rfl
    · split
      · rfl
      · have : ∀ M i, srch (fun _ => false && false) M i = none := by
          intro M
          induction M with
          | zero => intro i; rfl
          | succ M ih => intro i; rw [srch, if_neg (by decide)]; exact ih _
        rw [this]; rfl
def byV (K md : Nat) (R : Nat → Option Nat) (told : Bool) (f : Nat) (q : Int32) : Int32 := match R f with
  | none => -9
  | some k => if told = true then -9 else if k = 0 then (if q = 0 then 7 else -9) else match srch (lst K (ahd R k) md f) 9 0 with
    | none => -9
    | some m => if q = 0 then nI m else match shw K (ahd R k) m (f / 4 % 4) (f % 4) with
      | none => -9
      | some ab => if q = 1 then ab.1 else ab.2
section BV
variable {K md p : Nat} {d : Nat → Sd}
theorem x_roundAt {τ : Tau} {R : Nat → Option Nat} {f : Nat} (hR : RX τ R) (hf : f < 64) : fX1_roundAt τ (nI f) = some (encW (R f)) := by
  unfold fX1_roundAt
  rw [i64, if_neg (nI_pos (by omega)), if_neg (nI_ge hf (by omega)), if_neg (nI_in hf (by decide)), nI_clamp (by omega), hR f hf]
theorem x_step {τ : Tau} {f : Nat} {q : Int32} (hK : K ≤ 4) (hmd : md < 512) (hR : RX τ (rnd K md d p).1) (hT : ∀ f, f < 64 → lb (tL τ 27 1) f = tld d p f) (h3 : tI τ 27 3 = nI md) (h4 : tI τ 27 4 = nI K) (hf : f < 64) :
    ∃ τ', fX1_step τ (nI f) q = some (byV K md (rnd K md d p).1 (tld d p f) f q, τ') ∧ Fr [(27, 2), (27, 5), (27, 6)] [] τ τ' := by
  have hB := rnd_RB (K := K) (md := md) d p
  have hz : (rnd K md d p).1 f = some 0 → _ := rnd_zero (K := K) (md := md) (p := p) (f := f) (d := d)
  have hsame : md.testBit 7 = true → f / 16 = 0 → okF K f = true → f / 4 % 4 = f % 4 → (rnd K md d p).1 f = some 0 := fun a b c e => rnd_same a b c e
  unfold fX1_step byV
  rw [x_roundAt hR hf, Option.bind_some]
  cases hr : (rnd K md d p).1 f with
  | none => rw [if_pos (show encW none = -9 from rfl)]; exact ⟨τ, rfl, Fr.rf⟩
  | some k =>
    have hk := hB f k hf hr
    rw [if_neg (show ¬ encW (some k) = -9 from nI_ne9 (by omega)), nm_i, x_isTold hf, hT f hf]
    dsimp only
    cases ht : tld d p f with
    | true => rw [if_neg (by decide), if_pos rfl]; exact ⟨τ, rfl, Fr.rf⟩
    | false =>
      obtain ⟨L, eL, hL⟩ := x_ahead hR (hB.wk (by omega)) (show k < 1000 by omega)
      have f1 : Fr [(27, 2)] [] τ (sL τ 27 2 L) := Fr.sL (by decide)
      obtain ⟨τ2, e2, f2, n2, s2⟩ := x_leastMood (τ := sL τ 27 2 L) (A := ahd (rnd K md d p).1 k) hK (by rw [(f1.1 27 4 (by decide)).1, h4]) (fun f hf => by rw [tL_sL, if_pos ⟨rfl, rfl⟩]; exact hL f hf) (by rw [(f1.1 27 3 (by decide)).1, h3]) hmd hf
      have fr : Fr [(27, 2), (27, 5), (27, 6)] [] τ τ2 := (f1.wk (by decide) (by decide)).tr (f2.wk (by decide) (by decide))
      rw [if_pos (by decide), show fX1_factsAhead τ (encW (some k)) = some L from eL, Option.bind_some, nm_i, e2, Option.bind_some, if_neg (show ¬ (false = true) by decide)]
      dsimp only
      by_cases hk0 : k = 0
      · subst hk0
        obtain ⟨b1, b2, b3⟩ := (hz hr).resolve_left (by rw [ht]; decide)
        have hno : ahd (rnd K md d p).1 0 = fun _ => false := by
          funext g
          unfold ahd
          cases (rnd K md d p).1 g with
          | none => rfl
          | some j => exact decide_eq_false (by omega)
        have e7 : srch (lstX K (ahd (rnd K md d p).1 0) md f) 9 0 = some 7 := by
          have f7 : ∀ m, m ≠ 7 → lstX K (ahd (rnd K md d p).1 0) md f m = false := by
            intro m hm
            unfold lstX shwX
            rw [hno, if_neg hm, shw_no]
            simp
          have t7 : lstX K (ahd (rnd K md d p).1 0) md f 7 = true := by
            unfold lstX shwX
            rw [b1, if_pos rfl, if_pos b3, b2]
            rfl
          rw [srch, if_neg (by rw [f7 0 (by omega)]; decide), srch, if_neg (by rw [f7 _ (by omega)]; decide), srch, if_neg (by rw [f7 _ (by omega)]; decide), srch, if_neg (by rw [f7 _ (by omega)]; decide), srch, if_neg (by rw [f7 _ (by omega)]; decide), srch, if_neg (by rw [f7 _ (by omega)]; decide), srch, if_neg (by rw [f7 _ (by omega)]; decide), srch, if_pos t7]
        rw [e7, if_pos rfl]
        obtain ⟨a, b, e3, e4, e5⟩ := s2 7 e7
        unfold shwX at e3
        rw [if_pos rfl, if_pos b3] at e3
        cases e3
        refine ⟨τ2, ?_, fr⟩
        by_cases q0 : q = 0
        · rw [if_pos q0, if_pos q0]; rfl
        · rw [if_neg q0, if_neg q0, if_neg (show ¬ encC (some 7) = -9 by decide), e4, e5]
          split <;> rfl
      · rw [if_neg hk0]
        have sc : srch (lstX K (ahd (rnd K md d p).1 k) md f) 9 0 = srch (lst K (ahd (rnd K md d p).1 k) md f) 9 0 := by
          apply srch_congr
          intro m _ _
          apply lst_same2
          rintro ⟨b1, b2, b3⟩
          rcases run_ok 64 _ 1 hr with z | z
          · unfold R0 at z
            split at z
            · cases z; exact hk0 rfl
            · cases z
          · have := hsame b1 b2 z b3
            rw [hr] at this
            exact hk0 (Option.some.inj this)
        rw [sc] at s2 ⊢
        cases hm : srch (lst K (ahd (rnd K md d p).1 k) md f) 9 0 with
        | none =>
          refine ⟨τ2, ?_, fr⟩
          dsimp only
          split
          · rfl
          · rw [if_pos (show encC none = -9 from rfl)]; rfl
        | some m =>
          obtain ⟨a, b, e3, e4, e5⟩ := s2 m hm
          have hml := (srch_some hm).2.1
          refine ⟨τ2, ?_, fr⟩
          dsimp only
          by_cases q0 : q = 0
          · rw [if_pos q0, if_pos q0]; rfl
          · have m7 : m ≠ 7 := by
              intro z
              have := (srch_some hm).2.2.1
              unfold lst at this
              rw [z] at this
              have e1 : shw K (ahd (rnd K md d p).1 k) 7 (f / 4 % 4) (f % 4) = none := by unfold shw; rw [if_neg (by omega), if_neg (by omega), if_pos rfl]
              rw [e1] at this
              simp at this
            unfold shwX at e3
            rw [if_neg m7] at e3
            rw [if_neg q0, if_neg q0, if_neg (show ¬ encC (some m) = -9 from nI_ne9 (by omega)), e3, e4, e5]
            dsimp only
            split <;> rfl
end BV
