/-! more questions -/
section ST2
variable {τx τm : Tau} {K N md ml len : Nat} {d : Nat → Sd} {cw : Nat → Nat} {tx : Nat → Nat}
theorem x_bit (b : Bool) : fX6_bit (bI b) = bI b := by cases b <;> decide
theorem st_follows (h : Rel τx τm K N md ml d cw len tx) (p1 p2 : Int32) : St (fX6_follows τx p1 p2) (fX7_follows τm p1 p2) K N md ml d cw len tx := by
  obtain ⟨hs, hq⟩ := is_set p1
  obtain ⟨hsay, hqs⟩ := is_say p2
  have hK := h.1.2.1
  unfold fX6_follows fX7_follows
  simp only [nm_i]
  rw [← hs]
  cases hb : fX6_isSet p1 with
  | false => rw [ifF, ifF]; exact St.no h _
  | true =>
    rw [ifT, ifT]
    cases hb1 : fX7_isSaying p2 with
    | false => rw [if_pos (hsay.mpr hb1), ifF]; exact St.no h _
    | true =>
      rw [if_neg (fun z => by rw [hsay.mp z] at hb1; cases hb1), ifT]
      obtain ⟨p, hp, rfl⟩ := hq hb
      obtain ⟨i, hi10, rfl⟩ := hqs hb1
      obtain ⟨τx', ml', mk', e, bx, hi, ht, hh, mv⟩ := h.fresh
      obtain ⟨τm', e2, bm, mt, mi, _⟩ := h.loads
      have hT := tot_lt hK h.1.2.2.2.1
      obtain ⟨x, ex, hx⟩ := m_follows (τ := τm') (p := p) (i := i) hT (fun w _ => mkS_lt d (2 ^ K) N w) mt.2.1 (m8 mt) hp hi10
      rw [e, Option.bind_some, x_isFollowing hT ht.2.2 hp hi10, Option.bind_some, x_bit, e2, Option.bind_some, ex, Option.bind_some]
      refine ⟨bI (fol (mkS d (2 ^ K) N) (tot (2 ^ K) N) p i), τx', τm', ml', rfl, ?_, ⟨h.1, bx, hh, bm, mi⟩, mv⟩
      cases hf : fol (mkS d (2 ^ K) N) (tot (2 ^ K) N) p i with
      | true => rw [if_pos (hx.mpr hf)]; rfl
      | false => rw [if_neg (fun z => by rw [hx.mp z] at hf; cases hf)]; rfl
theorem st_unsaid (h : Rel τx τm K N md ml d cw len tx) (p1 : Int32) : St (fX6_unsaid τx p1) (fX7_unsaid τm p1) K N md ml d cw len tx := by
  obtain ⟨hs, hq⟩ := is_set p1
  have hK := h.1.2.1
  unfold fX6_unsaid fX7_unsaid
  simp only [nm_i]
  rw [← hs]
  cases hb : fX6_isSet p1 with
  | false => rw [ifF, ifF]; exact St.no h _
  | true =>
    obtain ⟨p, hp, rfl⟩ := hq hb
    obtain ⟨τx', ml', mk', e, bx, hi, ht, hh, mv⟩ := h.fresh
    obtain ⟨τm', e2, bm, mt, mi, _⟩ := h.loads
    have hT := tot_lt hK h.1.2.2.2.1
    rw [ifT, ifT, e, Option.bind_some, e2, Option.bind_some, x_unsaid19 hT ht.2.2 hp, m_unsaid22 hT (fun w _ => mkS_lt d (2 ^ K) N w) mt.2.1 (m8 mt) hp]
    exact ⟨_, τx', τm', ml', rfl, rfl, ⟨h.1, bx, hh, bm, mi⟩, mv⟩
theorem st_heaps (h : Rel τx τm K N md ml d cw len tx) (p1 : Int32) : St (fX6_heaps τx p1) (fX7_heaps τm p1) K N md ml d cw len tx := by
  obtain ⟨hs, hq⟩ := is_set p1
  have hK := h.1.2.1
  unfold fX6_heaps fX7_heaps
  simp only [nm_i]
  rw [← hs]
  cases hb : fX6_isSet p1 with
  | false => rw [ifF, ifF]; exact St.no h _
  | true =>
    obtain ⟨p, hp, rfl⟩ := hq hb
    obtain ⟨τx', ml', mk', e, bx, hi, ht, hh, mv⟩ := h.fresh
    obtain ⟨τm', e2, bm, mt, mi, _⟩ := h.loads
    have hT := tot_lt hK h.1.2.2.2.1
    rw [ifT, ifT, e, Option.bind_some, e2, Option.bind_some, x_heapsOf hT ht.1 hp, Option.bind_some, m_heaps22 hT mt.2.1 hp]
    exact ⟨_, τx', τm', ml', rfl, rfl, ⟨h.1, bx, hh, bm, mi⟩, mv⟩
theorem st_ask (h : Rel τx τm K N md ml d cw len tx) (p1 : Int32) : St (fX6_ask τx p1) (fX7_ask τm p1) K N md ml d cw len tx := by
  obtain ⟨hs, hq⟩ := is_set p1
  have hK := h.1.2.1
  unfold fX6_ask fX7_ask
  simp only [nm_i]
  rw [← hs]
  cases hb : fX6_isSet p1 with
  | false => rw [ifF, ifF]; exact St.no h _
  | true =>
    obtain ⟨p, hp, rfl⟩ := hq hb
    obtain ⟨τx', ml', mk', e, bx, hi, ht, hh, mv⟩ := h.fresh
    obtain ⟨τm', e2, bm, mt, mi, _⟩ := h.loads
    have hT := tot_lt hK h.1.2.2.2.1
    have hc := cov_le (mkS d (2 ^ K) N) p (tot (2 ^ K) N)
    rw [ifT, ifT, e, Option.bind_some, e2, Option.bind_some, x_worldsOf ht.2.2 hp, Option.bind_some, m_canBe hT (fun w _ => mkS_lt d (2 ^ K) N w) mt.2.1 hp, Option.bind_some]
    by_cases z : cov (mkS d (2 ^ K) N) (tot (2 ^ K) N) p = 0
    · rw [if_pos (by rw [z]; rfl), if_pos (by rw [z]; rfl)]
      exact ⟨_, τx', τm', ml', rfl, rfl, ⟨h.1, bx, hh, bm, mi⟩, mv⟩
    · rw [if_neg (nI_n0 (by omega) z), if_neg (nI_n0 (by omega) z), x_ask38 hT ht.2.2 hp, m_ask40 hT (fun w _ => mkS_lt d (2 ^ K) N w) mt.2.1 hp]
      exact ⟨_, τx', τm', ml', rfl, rfl, ⟨h.1, bx, hh, bm, mi⟩, mv⟩
theorem st_twin (h : Rel τx τm K N md ml d cw len tx) (p1 : Int32) : St (fX6_twin τx p1) (fX7_twin τm p1) K N md ml d cw len tx := by
  obtain ⟨hsay, hqs⟩ := is_say p1
  have hK := h.1.2.1
  unfold fX6_twin fX7_twin
  simp only [nm_i]
  cases hb1 : fX7_isSaying p1 with
  | false => rw [if_pos (hsay.mpr hb1), ifF]; exact St.no h _
  | true =>
    obtain ⟨p, hp, rfl⟩ := hqs hb1
    obtain ⟨τx', ml', mk', e, bx, hi, ht, hh, mv⟩ := h.fresh
    obtain ⟨τm', e2, bm, mt, mi, _⟩ := h.loads
    have hT := tot_lt hK h.1.2.2.2.1
    rw [if_neg (fun z => by rw [hsay.mp z] at hb1; cases hb1), ifT, e, Option.bind_some, e2, Option.bind_some, x_twin17 hT ht.2.2 hp, m_twin20 hT (fun w _ => mkS_lt d (2 ^ K) N w) mt.2.1 hp]
    exact ⟨_, τx', τm', ml', rfl, rfl, ⟨h.1, bx, hh, bm, mi⟩, mv⟩
theorem st_clash (h : Rel τx τm K N md ml d cw len tx) (p1 p2 : Int32) : St (fX6_clash τx p1 p2) (fX7_clash τm p1 p2) K N md ml d cw len tx := by
  obtain ⟨hs, hq⟩ := is_set p1
  have hK := h.1.2.1
  unfold fX6_clash fX7_clash
  simp only [nm_i]
  rw [← hs]
  have e0 : (0 : Int32).toInt = 0 := rfl
  have e1 : (1 : Int32).toInt = 1 := rfl
  cases hb : fX6_isSet p1 with
  | false => rw [ifF, ifF]; exact St.no h _
  | true =>
    rw [ifT, ifT, in_iff]
    by_cases h0 : p2 < 0
    · have := i32_lt.mp h0
      rw [if_pos h0, decide_eq_false (by omega), ifF]
      exact St.no h _
    · have h0' : ¬ p2.toInt < (0 : Int32).toInt := fun z => h0 (i32_lt.mpr z)
      rw [if_neg h0]
      by_cases h1 : p2 ≤ 1
      · have := i32_le.mp h1
        rw [if_pos h1, decide_eq_true (by omega), ifT]
        obtain ⟨p, hp, rfl⟩ := hq hb
        obtain ⟨τx', ml', mk', e, bx, hi, ht, hh, mv⟩ := h.fresh
        obtain ⟨τm', e2, bm, mt, mi, _⟩ := h.loads
        have hT := tot_lt hK h.1.2.2.2.1
        have hc := cov_le (mkS d (2 ^ K) N) p (tot (2 ^ K) N)
        obtain ⟨r, er, rn, rs⟩ := x_fewest (τ := τx') hT ht.2.2 hp
        rw [e, Option.bind_some, e2, Option.bind_some, er, Option.bind_some, m_canBe hT (fun w _ => mkS_lt d (2 ^ K) N w) mt.2.1 hp, Option.bind_some]
        by_cases z : cov (mkS d (2 ^ K) N) (tot (2 ^ K) N) p = 0
        · obtain ⟨c, hbest, ec⟩ := m_clash43 (τ := τm') (p2 := p2) hT (fun w _ => mkS_lt d (2 ^ K) N w) mt.2.1 (m8 mt) hp z
          cases r with
          | none => exact absurd hbest.1 (rn rfl c)
          | some c' =>
            have := (rs c' rfl).one hbest
            subst this
            have hc1 := hbest.1.1
            rw [if_neg (show ¬ encC (some c') = -9 from nI_ne9 (by omega)), if_pos (show nI (cov (mkS d (2 ^ K) N) (tot (2 ^ K) N) p) ≤ 0 by rw [z]; decide), ec, show fJ6_bitCount_0f7a4 (encC (some c')) = nI (pc c') from x_bitCount c' hc1]
            by_cases q : p2 = 0
            · rw [if_pos q, if_pos q]; exact ⟨_, τx', τm', ml', rfl, rfl, ⟨h.1, bx, hh, bm, mi⟩, mv⟩
            · rw [if_neg q, if_neg q]; exact ⟨_, τx', τm', ml', rfl, rfl, ⟨h.1, bx, hh, bm, mi⟩, mv⟩
        · cases r with
          | some c =>
            exfalso
            have hcl := (rs c rfl).1
            have := cov_sub (mk := mkS d (2 ^ K) N) (T := tot (2 ^ K) N) hp hcl.2.1
            have := hcl.2.2
            omega
          | none =>
            rw [if_pos (show encC none = -9 from rfl), if_neg (show ¬ nI (cov (mkS d (2 ^ K) N) (tot (2 ^ K) N) p) ≤ 0 from nI_ge (show 0 < _ by omega) (by omega))]
            exact ⟨_, τx', τm', ml', rfl, rfl, ⟨h.1, bx, hh, bm, mi⟩, mv⟩
      · have h1' : ¬ p2.toInt ≤ (1 : Int32).toInt := fun z => h1 (i32_le.mpr z)
        rw [if_neg h1, decide_eq_false (by omega), ifF]
        exact St.no h _
end ST2
