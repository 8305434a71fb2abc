/-! what is shown: both sides answer the same -/
theorem HInv.fr21 {τ τ' : Tau} {S n : Nat} {d : Nat → Sd} {st ml : Nat} {mk : Nat → Nat} {F : List (Nat × Nat)} {A : List Nat} (h : HInv τ S n d st ml mk) (hF : Fr F A τ τ') (h1 : ∀ q ∈ F, ¬ ((2 ≤ q.1 ∧ q.1 < 12) ∨ q = (17, 6) ∨ q = (17, 7) ∨ q = (17, 8) ∨ q = (17, 9) ∨ q = (26, 0))) (h2 : tA τ' 21 0 = nI 0) (h3 : 26 ∉ A) : HInv τ' S n d st ml mk := by
  obtain ⟨a1, a2, a3, a4, a5, a6, a7, a8, a9, a10, a11⟩ := h
  refine ⟨?_, ?_, ?_, ?_, ?_, h2, fun i hi => (a7 i hi).fr hF (fun j hm => h1 _ hm (Or.inl (by show 2 ≤ i + 2 ∧ i + 2 < 12; omega))), a8, a9, fun w hw => ?_, a11⟩
  · rw [(hF.1 17 6 (fun hm => h1 _ hm (by simp))).1, a1]
  · rw [(hF.1 17 7 (fun hm => h1 _ hm (by simp))).1, a2]
  · rw [(hF.1 17 8 (fun hm => h1 _ hm (by simp))).1, a3]
  · rw [(hF.1 17 9 (fun hm => h1 _ hm (by simp))).1, a4]
  · rw [(hF.1 26 0 (fun hm => h1 _ hm (by simp))).1, a5]
  · rw [(hF.2 26 h3 w).1]; exact a10 w hw
section ST4
variable {τx τm : Tau} {K N md ml len : Nat} {d : Nat → Sd} {cw : Nat → Nat} {tx : Nat → Nat}
theorem ahd_65 {R : Nat → Option Nat} (hB : RB R 65) {f : Nat} (hf : f < 64) : ahd R 65 f = (R f).isSome := by
  unfold ahd
  cases hr : R f with
  | none => rfl
  | some k => exact decide_eq_true (hB f k hf hr)
theorem st_shown (h : Rel τx τm K N md ml d cw len tx) (p1 p2 : Int32) : St (fX6_shown τx p1 p2) (fX7_shown τm p1 p2) K N md ml d cw len tx := by
  obtain ⟨hs, hq⟩ := is_set p1
  have hK := h.1.2.1
  have hz := h.zero
  have e0 : (0 : Int32).toInt = 0 := rfl
  have e3 : (3 : Int32).toInt = 3 := rfl
  unfold fX6_shown fX7_shown
  simp only [nm_i]
  rw [← hs, in_iff]
  cases hb : fX6_isSet p1 with
  | false => rw [ifF, ifF]; exact St.no h _
  | true =>
    rw [ifT, ifT]
    by_cases h0 : p2 < 0
    · have := i32_lt.mp h0
      rw [if_pos h0, decide_eq_false (by omega), ifF]
      exact St.no h _
    · have h0' : ¬ p2.toInt < (0 : Int32).toInt := fun z => h0 (i32_lt.mpr z)
      rw [if_neg h0]
      by_cases h1 : p2 ≤ 3
      · have := i32_le.mp h1
        rw [if_pos h1, decide_eq_true (by omega), ifT]
        obtain ⟨p, hp, rfl⟩ := hq hb
        obtain ⟨τx', τm', ex, em, hr, r1, l1, tl, m3, m4, r2, l2⟩ := hz.work hp
        have hB := rnd_RB (K := K) (md := md) d p
        obtain ⟨L, eL, hL⟩ := x_ahead r1 (hB.wk (by omega)) (show 65 < 1000 by omega)
        have hL2 : ∀ f, f < 64 → lb L f = ((rnd K md d p).1 f).isSome := fun f hf => by rw [hL f hf, ahd_65 hB hf]
        have eF : fX1_facts τx' = some L := by
          unfold fX1_facts
          rw [show fX1_factsAhead τx' 65 = some L from eL]
          rfl
        rw [ex, Option.bind_some, em, Option.bind_some, eF, Option.bind_some]
        by_cases q1 : p2 = 1
        · rw [if_neg (by rw [q1]; decide), if_pos q1, if_pos q1, l1, l2]
          exact ⟨_, _, _, ml, rfl, rfl, hr, Or.inl rfl⟩
        rw [if_neg q1, if_neg q1]
        by_cases q2 : p2 = 2
        · rw [if_neg (by rw [q2]; decide), if_pos q2, if_pos q2, x_isQuarrel hL2, x_bit, m_shown48 r2 (hB.wk (by omega))]
          exact ⟨_, _, _, ml, rfl, rfl, hr, Or.inl rfl⟩
        rw [if_neg q2, if_neg q2]
        by_cases q0 : p2 = 0
        · rw [if_pos q0, if_pos q0, x_popc, m_shown135 r2 (hB.wk (by omega)), cntB_congr hL2]
          exact ⟨_, _, _, ml, rfl, rfl, hr, Or.inl rfl⟩
        rw [if_neg q0, if_neg q0]
        obtain ⟨τx2, ml', mk', e2, bx, hi, ht, hh, mv⟩ := hr.fresh
        obtain ⟨τm2, e3', bm, mt, mi, fl⟩ := hr.loads0
        have hS : 1 < 2 ^ K := Nat.one_lt_two_pow (by have := h.1.1; omega)
        have hT := tot_lt hK h.1.2.2.2.1
        obtain ⟨i1', i2', i3', i4', i5', i6', i7', i8', i9', i10', i11'⟩ := id hi
        have hle : tot (2 ^ K) N ≤ ml' := (i11' 0 (by omega) (by simp)).1
        have hmk : ∀ w, w < tot (2 ^ K) N → tA τx2 26 w = nI (mkS d (2 ^ K) N w) := by
          intro w hw
          rw [(i10' w (by omega)).1]
          congr 1
          refine bits_eq (i10' w (by omega)).2 (mkS_lt d _ N w) (fun i hi => ?_)
          unfold mkS
          rw [bitsTo_bit, (i11' i hi (by simp)).2 w hw]
          simp [hi]
        obtain ⟨r, τx3, ef, hr3, ff, h21⟩ := x_factsOf (τ := τx2) (d := d) hT hS (pow2_16 hK) h.1.2.2.2.1 hp i1' i2' i3' i5' i9' hle hmk i6' bx.2.2.2.2.2.2.2
        have bx3 := bx.fr ff (by decide) (by decide) (by decide) (by decide)
        have hh3 : Hp τx3 K N ml' d := ⟨0, mk', hi.fr21 ff (by decide) h21 (by decide), fun _ => ht.fr ff (by decide) (by decide) (by decide)⟩
        obtain ⟨E, eE, hE⟩ := x_everyFact (τ := τx3) bx3.1 hK
        have r2' : RM τm2 (rnd K md d p).1 := fun f hf => by rw [(fl.2 11 (by decide) f).1]; exact r2 f hf
        obtain ⟨B, eB, hB2⟩ := m_shown182 (p2 := p2) (K := K) (τ := τm2) hT (fun w _ => mkS_lt d (2 ^ K) N w) mt hp hK bm.1 r2' (hB.wk (by omega))
        rw [e2, Option.bind_some, ef, Option.bind_some]
        dsimp only
        rw [eE, Option.bind_some, x_popc, e3', Option.bind_some, eB]
        have heq : cntB (lb ((r &&& E) &&& (L ^^^ (-1 : Int64)))) 64 = cntB B 64 := by
          apply cntB_congr
          intro f hf
          have e : lb ((r &&& E) &&& (L ^^^ (-1 : Int64))) f = true ↔ B f = true := by
            rw [lb_and, lb_and, lb_not _ hf, hE f hf, hL2 f hf, hB2 f hf, Bool.and_eq_true_iff, Bool.and_eq_true_iff, hr3 f hf]
            have ew : okF K f = true → (allW (2 ^ K) N d p f ↔ allM K (tot (2 ^ K) N) (mkS d (2 ^ K) N) (fun v => lc (wv (2 ^ K) N v)) p f) := by
              intro hok
              have e : ∀ c, factHere K f c = isF (f / 16) (f / 4 % 4) (f % 4) c := fun c => by unfold factHere; rw [if_pos (of_decide_eq_true hok)]
              constructor
              · intro a v hv hs; rw [e]; exact a v hv hs
              · intro a v hv hs; rw [← e]; exact a v hv hs
            have en : (!((rnd K md d p).1 f).isSome) = true ↔ (rnd K md d p).1 f = none := by
              cases (rnd K md d p).1 f <;> simp
            rw [en]
            constructor
            · rintro ⟨⟨a, b⟩, c⟩; exact ⟨b, (ew b).mp a, c⟩
            · rintro ⟨b, a, c⟩; exact ⟨⟨(ew b).mpr a, b⟩, c⟩
          cases a : lb ((r &&& E) &&& (L ^^^ (-1 : Int64))) f <;> cases b : B f <;> simp_all
        rw [heq]
        exact ⟨_, _, _, ml', rfl, rfl, ⟨h.1, bx3, hh3, bm, mi⟩, mv⟩
      · have h1' : ¬ p2.toInt ≤ (3 : Int32).toInt := fun z => h1 (i32_le.mpr z)
        rw [if_neg h1, decide_eq_false (by omega), ifF]
        exact St.no h _
end ST4
