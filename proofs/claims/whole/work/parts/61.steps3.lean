/-! moods: both sides answer the same -/
section ST3
variable {τx τm : Tau} {K N md ml len : Nat} {d : Nat → Sd} {cw : Nat → Nat} {tx : Nat → Nat}
theorem nat_of {p : Int32} (h : 0 ≤ p.toInt) : p = nI (cl p) ∧ p.toInt = cl p := by
  have hp0 : ¬ p < 0 := fun z => by have := i32_lt.mp z; have e0 : (0 : Int32).toInt = 0 := rfl; omega
  have hp := cl_of hp0
  refine ⟨hp, ?_⟩
  conv => lhs; rw [hp]
  exact nI_toInt (cl_lt p)
theorem x_isFact {τ : Tau} (hx : tI τ 0 5 = nI K) (hK : K ≤ 4) (a b c : Int32) : fX6_isFact τ a b c = decide ((0 ≤ a.toInt ∧ a.toInt ≤ 3) ∧ (0 ≤ b.toInt ∧ b.toInt < K) ∧ (0 ≤ c.toInt ∧ c.toInt < K)) := by
  have e0 : (0 : Int32).toInt = 0 := rfl
  have e3 : (3 : Int32).toInt = 3 := rfl
  have eK := nI_toInt (show K < 2 ^ 31 by omega)
  have lt0 : ∀ z : Int32, (z < 0) ↔ z.toInt < 0 := fun z => by rw [i32_lt, e0]
  have leK : ∀ z : Int32, (nI K ≤ z) ↔ (K : Int) ≤ z.toInt := fun z => by rw [i32_le, eK]
  have gt3 : ((3 : Int32) < a) ↔ 3 < a.toInt := by rw [i32_lt, e3]
  unfold fX6_isFact
  rw [hx]
  by_cases h1 : a < 0
  · rw [if_pos h1, decide_eq_false (by have := (lt0 a).mp h1; omega)]
  rw [if_neg h1]
  by_cases h2 : (3 : Int32) < a
  · rw [if_pos h2, decide_eq_false (by have := gt3.mp h2; omega)]
  rw [if_neg h2]
  by_cases h3 : b < 0
  · rw [if_pos h3, decide_eq_false (by have := (lt0 b).mp h3; omega)]
  rw [if_neg h3]
  by_cases h4 : nI K ≤ b
  · rw [if_pos h4, decide_eq_false (by have := (leK b).mp h4; omega)]
  rw [if_neg h4]
  by_cases h5 : c < 0
  · rw [if_pos h5, decide_eq_false (by have := (lt0 c).mp h5; omega)]
  rw [if_neg h5]
  by_cases h6 : nI K ≤ c
  · rw [if_pos h6, decide_eq_false (by have := (leK c).mp h6; omega)]
  rw [if_neg h6]
  rw [lt0] at h1 h3 h5
  rw [leK] at h4 h6
  rw [gt3] at h2
  rw [decide_eq_true (by omega)]
theorem m_isAsked {τ : Tau} (hm : tI τ 0 1 = nI K) (hK1 : 1 ≤ K) (hK : K ≤ 4) (p a b c : Int32) : fX7_isAsked τ p a b c = (fX7_isSet p && decide ((0 ≤ a.toInt ∧ a.toInt ≤ 3) ∧ (0 ≤ b.toInt ∧ b.toInt < K) ∧ (0 ≤ c.toInt ∧ c.toInt < K))) := by
  have e0 : (0 : Int32).toInt = 0 := rfl
  have e3 : (3 : Int32).toInt = 3 := rfl
  unfold fX7_isAsked
  simp only [nm_i]
  rw [hm, sub1 hK1, in_iff, in_iff, in_iff, e0, e3, nI_toInt (by omega)]
  cases fX7_isSet p with
  | false => rw [ifF]; rfl
  | true =>
    rw [ifT]
    by_cases h1 : 0 ≤ a.toInt ∧ a.toInt ≤ 3
    · rw [decide_eq_true h1, ifT]
      by_cases h2 : 0 ≤ b.toInt ∧ b.toInt ≤ ((K - 1 : Nat) : Int)
      · rw [decide_eq_true h2, ifT]
        by_cases h3 : 0 ≤ c.toInt ∧ c.toInt ≤ ((K - 1 : Nat) : Int)
        · rw [decide_eq_true h3, ifT, decide_eq_true (by omega)]; rfl
        · rw [decide_eq_false h3, ifF, decide_eq_false (by omega)]; rfl
      · rw [decide_eq_false h2, ifF, decide_eq_false (by omega)]; rfl
    · rw [decide_eq_false h1, ifF, decide_eq_false (by omega)]; rfl
theorem Rel.loads0 (h : Rel τx τm K N md ml d cw len tx) :
    ∃ τm', fX7_loads τm = some τm' ∧ BaseM τm' K N md d cw len tx ∧ MTab τm' K (mkS d (2 ^ K) N) (fun v => lc (wv (2 ^ K) N v)) (tot (2 ^ K) N) ∧ MInv τm' K N d ∧ Fr ldF ldA τm τm' := by
  obtain ⟨⟨o1, o2, o3, o4, o5, o6, o7⟩, _, _, hb, hm⟩ := h
  obtain ⟨τ', e, l1, mt, f'⟩ := m_loads (K := K) (n := N) (d := d) o1 o2 o4 (tot_lt o2 o4) (fun i hi => (o6 i hi).lt o2) hb.1 hb.2.1 hb.2.2.2.1 hm
  exact ⟨τ', e, hb.fr f' (by decide) (by decide) (by decide) (by decide), mt, Or.inr ⟨l1, mt⟩, f'⟩
/-- both sides work their moods out -/
theorem Rel.work (h : Rel τx τm K N md ml d cw len tx) {p : Nat} (hp : p < 1024) :
    ∃ τx' τm', fX6_work τx (nI p) = some τx' ∧ fX7_shows τm (nI p) = some τm' ∧ Rel τx' τm' K N md ml d cw len tx ∧
      RX τx' (rnd K md d p).1 ∧ tI τx' 27 7 = nI (rnd K md d p).2 ∧ (∀ f, f < 64 → lb (tL τx' 27 1) f = tld d p f) ∧ tI τx' 27 3 = nI md ∧ tI τx' 27 4 = nI K ∧
      RM τm' (rnd K md d p).1 ∧ tI τm' 0 25 = nI (rnd K md d p).2 := by
  obtain ⟨o, hb, hh, hbm, hm⟩ := h
  obtain ⟨τx', e1, r1, l1, t1, m1, k1, f1⟩ := x_work (d := d) (K := K) o.2.1 o.2.2.2.2.1 hp hb.2.2.2.1 (fun i hi => (o.2.2.2.2.2.1 i hi).2.2.2.2) hb.2.2.1 hb.1
  obtain ⟨τm', e2, r2, l2, f2⟩ := m_shows (d := d) (K := K) o.2.1 o.2.2.2.2.1 hp hbm.2.2.2.1 hbm.1 hbm.2.2.1
  refine ⟨τx', τm', e1, e2, ⟨o, hb.fr f1 (by decide) (by decide) (by decide) (by decide), hh.fr f1 (by decide) (by decide) (by decide) (by decide) (by decide) (by decide), hbm.fr f2 (by decide) (by decide) (by decide) (by decide), hm.fr f2 (by decide) (by decide) (by decide) (by decide) (by decide) (by decide)⟩, r1, l1, t1, m1, k1, r2, l2⟩
theorem st_moods (h : Rel τx τm K N md ml d cw len tx) (p1 : Int32) : ∃ a τx' τm' md', fX6_moods τx p1 = (a, τx') ∧ fX7_moods τm p1 = (a, τm') ∧ Rel τx' τm' K N md' ml d cw len tx := by
  have e0 : (0 : Int32).toInt = 0 := rfl
  have e5 : (511 : Int32).toInt = 511 := rfl
  have e6 : (512 : Int32).toInt = 512 := rfl
  have hz := h.zero
  unfold fX6_moods fX7_moods
  simp only [nm_i]
  rw [in_iff]
  by_cases h0 : p1 < 0
  · have := i32_lt.mp h0
    rw [if_pos h0, decide_eq_false (by omega), ifF]
    exact ⟨_, _, _, md, rfl, rfl, hz⟩
  · have h0' : ¬ p1.toInt < (0 : Int32).toInt := fun z => h0 (i32_lt.mpr z)
    rw [if_neg h0]
    by_cases h1 : p1 < 512
    · have := i32_lt.mp h1
      rw [if_pos h1, decide_eq_true (by omega), ifT, h.2.1.2.2.1, hz.2.2.2.1.2.2.1]
      obtain ⟨hp, ht⟩ := nat_of (p := p1) (by omega)
      obtain ⟨⟨o1, o2, o3, o4, o5, o6, o7⟩, ⟨a1, a2, a3, a4, a5, a6, a7, a8⟩, hh, ⟨b1, b2, b3, b4, b5, b6, b7⟩, hm⟩ := hz
      have fx : Fr [(0, 7)] [] τx (sI τx 0 7 p1) := Fr.sI (by decide)
      have fm : Fr [(0, 3)] [] (sI τm 0 0 0) (sI (sI τm 0 0 0) 0 3 p1) := Fr.sI (by decide)
      refine ⟨_, _, _, cl p1, rfl, rfl, ⟨o1, o2, o3, o4, by omega, o6, o7⟩, ⟨?_, ?_, ?_, fun i hi => (a4 i hi).fr fx (fun j hm => by simp at hm), a5.fr fx (by decide), ?_, fun j hj => ?_, fun s f hs hf => ?_⟩, hh.fr fx (by decide) (by decide) (by decide) (by decide) (by decide) (by decide), ⟨?_, ?_, ?_, fun i hi => (b4 i hi).fr fm (by decide), b5.fr fm (by decide), ?_, fun j hj => ?_⟩, hm.fr fm (by decide) (by decide) (by decide) (by decide) (by decide) (by decide)⟩
      · rw [(fx.1 0 5 (by decide)).1, a1]
      · rw [(fx.1 0 6 (by decide)).1, a2]
      · rw [tI_sI, if_pos ⟨rfl, rfl⟩]; exact hp
      · rw [(fx.1 14 1 (by decide)).1, a6]
      · rw [(fx.2 15 (by decide) j).1]; exact a7 j hj
      · rw [(fx.2 25 (by decide) s).2]; exact a8 s f hs hf
      · rw [(fm.1 0 1 (by decide)).1, b1]
      · rw [(fm.1 0 2 (by decide)).1, b2]
      · rw [tI_sI, if_pos ⟨rfl, rfl⟩]; exact hp
      · rw [(fm.1 0 6 (by decide)).1, b6]
      · rw [(fm.2 2 (by decide) j).1]; exact b7 j hj
    · have h1' : ¬ p1.toInt < (512 : Int32).toInt := fun z => h1 (i32_lt.mpr z)
      rw [if_neg h1, decide_eq_false (by omega), ifF]
      exact ⟨_, _, _, md, rfl, rfl, hz⟩
theorem fact_no (w x y : Nat) : (((16 : Int32) * nI w) + ((4 : Int32) * nI x)) + nI y = nI (16 * w + 4 * x + y) := by rw [i16, i4, pk_mul, pk_mul, nI_add, nI_add]
theorem st_round (h : Rel τx τm K N md ml d cw len tx) (p1 p2 p3 p4 : Int32) : St (fX6_round τx p1 p2 p3 p4) (fX7_round τm p1 p2 p3 p4) K N md ml d cw len tx := by
  obtain ⟨hs, hq⟩ := is_set p1
  have hK := h.1.2.1
  have hz := h.zero
  unfold fX6_round fX7_round
  simp only [nm_i]
  rw [m_isAsked hz.2.2.2.1.1 h.1.1 hK, x_isFact h.2.1.1 hK, ← hs]
  cases hb : fX6_isSet p1 with
  | false => rw [ifF, Bool.false_and, ifF]; exact St.no h _
  | true =>
    rw [ifT, Bool.true_and]
    by_cases hf : (0 ≤ p2.toInt ∧ p2.toInt ≤ 3) ∧ (0 ≤ p3.toInt ∧ p3.toInt < K) ∧ (0 ≤ p4.toInt ∧ p4.toInt < K)
    · rw [decide_eq_true hf, ifT, ifT]
      obtain ⟨p, hp, rfl⟩ := hq hb
      obtain ⟨e2, t2⟩ := nat_of hf.1.1
      obtain ⟨e3, t3⟩ := nat_of hf.2.1.1
      obtain ⟨e4, t4⟩ := nat_of hf.2.2.1
      have hn : 16 * cl p2 + 4 * cl p3 + cl p4 < 64 := by omega
      obtain ⟨τx', τm', ex, em, hr, r1, l1, _, _, _, r2, l2⟩ := hz.work hp
      rw [ex, Option.bind_some, em, Option.bind_some, e2, e3, e4, x_num, fact_no, x_roundAt r1 hn, Option.bind_some, if_neg (nI_in hn (by decide)), nI_clamp (by omega), r2 _ hn]
      exact ⟨_, τx', τm', ml, rfl, rfl, hr, Or.inl rfl⟩
    · rw [decide_eq_false hf, ifF, ifF]; exact St.no h _
theorem st_by (h : Rel τx τm K N md ml d cw len tx) (p1 p2 p3 p4 p5 : Int32) : St (fX6_by τx p1 p2 p3 p4 p5) (fX7_by τm p1 p2 p3 p4 p5) K N md ml d cw len tx := by
  obtain ⟨hs, hq⟩ := is_set p1
  have hK := h.1.2.1
  have hmd := h.1.2.2.2.2.1
  have hz := h.zero
  have e0 : (0 : Int32).toInt = 0 := rfl
  have e2' : (2 : Int32).toInt = 2 := rfl
  unfold fX6_by fX7_by
  simp only [nm_i]
  rw [m_isAsked hz.2.2.2.1.1 h.1.1 hK, x_isFact h.2.1.1 hK, ← hs, in_iff]
  cases hb : fX6_isSet p1 with
  | false => rw [ifF, Bool.false_and, ifF]; exact St.no h _
  | true =>
    rw [ifT, Bool.true_and]
    by_cases hf : (0 ≤ p2.toInt ∧ p2.toInt ≤ 3) ∧ (0 ≤ p3.toInt ∧ p3.toInt < K) ∧ (0 ≤ p4.toInt ∧ p4.toInt < K)
    · rw [decide_eq_true hf, ifT, ifT]
      by_cases h0 : p5 < 0
      · have := i32_lt.mp h0
        rw [if_pos h0, decide_eq_false (by omega), ifF]
        exact St.no h _
      · have h0' : ¬ p5.toInt < (0 : Int32).toInt := fun z => h0 (i32_lt.mpr z)
        rw [if_neg h0]
        by_cases h1 : p5 ≤ 2
        · have := i32_le.mp h1
          rw [if_pos h1, decide_eq_true (by omega), ifT]
          obtain ⟨p, hp, rfl⟩ := hq hb
          obtain ⟨e2, t2⟩ := nat_of hf.1.1
          obtain ⟨e3, t3⟩ := nat_of hf.2.1.1
          obtain ⟨e4, t4⟩ := nat_of hf.2.2.1
          obtain ⟨τx', τm', ex, em, hr, r1, l1, tl, m3, m4, r2, l2⟩ := hz.work hp
          have hn : 16 * cl p2 + 4 * cl p3 + cl p4 < 64 := by omega
          obtain ⟨τx2, es, fs⟩ := x_step (τ := τx') (f := 16 * cl p2 + 4 * cl p3 + cl p4) (q := p5) (p := p) (d := d) hK hmd r1 tl m3 m4 hn
          have hB := rnd_RB (K := K) (md := md) d p
          have rx : Rel τx2 τm' K N md ml d cw len tx := by
            obtain ⟨o, a, b, c, e⟩ := hr
            exact ⟨o, a.fr fs (by decide) (by decide) (by decide) (by decide), b.fr fs (by decide) (by decide) (by decide) (by decide) (by decide) (by decide), c, e⟩
          rw [ex, Option.bind_some, em, Option.bind_some, e2, e3, e4, x_num, fact_no, es, Option.bind_some, if_neg (nI_in hn (by decide)), nI_clamp (by omega), r2 _ hn]
          unfold byV
          cases hrf : (rnd K md d p).1 (16 * cl p2 + 4 * cl p3 + cl p4) with
          | none =>
            rw [if_pos (show encW none = -9 from rfl)]
            exact ⟨_, _, _, ml, rfl, rfl, rx, Or.inl rfl⟩
          | some k =>
            have hk := hB _ k hn hrf
            rw [if_neg (show ¬ encW (some k) = -9 from nI_ne9 (by omega)), m_isTold hp hn hr.2.2.2.1.2.2.2.1, Option.bind_some]
            dsimp only
            cases ht : tld d p (16 * cl p2 + 4 * cl p3 + cl p4) with
            | true =>
              rw [ifT, if_pos rfl]
              exact ⟨_, _, _, ml, rfl, rfl, rx, Or.inl rfl⟩
            | false =>
              rw [ifF, if_neg (show ¬ (false = true) by decide)]
              by_cases hk0 : k = 0
              · rw [if_pos (show encW (some k) = 0 by rw [hk0]; rfl), if_pos hk0]
                by_cases q : p5 = 0
                · rw [if_pos q, if_pos q]; exact ⟨_, _, _, ml, rfl, rfl, rx, Or.inl rfl⟩
                · rw [if_neg q, if_neg q]; exact ⟨_, _, _, ml, rfl, rfl, rx, Or.inl rfl⟩
              · rw [if_neg (show ¬ encW (some k) = 0 from nI_n0 (by omega) hk0), if_neg hk0]
                obtain ⟨τm2, eb, fb⟩ := m_by97 (τ0 := τm') (A := ahd (rnd K md d p).1 k) (k := k) (w := cl p2) (x := cl p3) (y := cl p4) (p1 := nI p) (q := p5) hK hmd (by omega) (by omega) (by omega) hr.2.2.2.1.1 hr.2.2.2.1.2.2.1 (m_BY r2 (hB.wk (by omega)) (by omega))
                have rm : Rel τx2 τm2 K N md ml d cw len tx := by
                  obtain ⟨o, a, b, c, e⟩ := rx
                  exact ⟨o, a, b, c.fr fb (by decide) (by decide) (by decide) (by decide), e.fr fb (by decide) (by decide) (by decide) (by decide) (by decide) (by decide)⟩
                rw [show fX7_by_97 (nI p) (nI (cl p2)) (nI (cl p3)) (nI (cl p4)) p5 FU τm' (encW (some k)) 0 = _ from eb]
                rw [show (16 * cl p2 + 4 * cl p3 + cl p4) / 4 % 4 = cl p3 by omega, show (16 * cl p2 + 4 * cl p3 + cl p4) % 4 = cl p4 by omega]
                exact ⟨_, _, _, ml, rfl, rfl, rm, Or.inl rfl⟩
        · have h1' : ¬ p5.toInt ≤ (2 : Int32).toInt := fun z => h1 (i32_le.mpr z)
          rw [if_neg h1, decide_eq_false (by omega), ifF]
          exact St.no h _
    · rw [decide_eq_false hf, ifF, ifF]; exact St.no h _
end ST3
