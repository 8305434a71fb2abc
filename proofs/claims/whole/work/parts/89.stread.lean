/-! read: both sides answer the same -/
section RR
variable {τx τm : Tau} {K N md ml len : Nat} {d : Nat → Sd} {cw : Nat → Nat} {tx : Nat → Nat}
def dUp (d : Nat → Sd) (i : Nat) (e : Sd) : Nat → Sd := fun j => if j = i then e else d j
theorem x_become {τ : Tau} {q : Nat} {e : Sd} (hq : q ≠ 16) (h : SX τ 16 e) : ∃ τ', fX3_become q τ = some τ' ∧ SX τ' q e ∧ Fr [(q, 0), (q, 1), (q, 2), (q, 3), (q, 4), (q, 5)] [] τ τ' := by
  obtain ⟨a0, a1, a2, a3, a5, a4⟩ := h
  have n : ∀ (t : Tau) (j j' : Nat) (v : Int32), tI (sI t q j v) 16 j' = tI t 16 j' := fun t j j' v => by rw [tI_sI, if_neg (fun z => hq z.1.symm)]
  unfold fX3_become
  rw [nm_i, nm_i, nm_i, nm_i, nm_i]
  simp only [n]
  rw [a0, a1, a2, a3, a4, a5, if_pos (show bI (sdT e) = 0 ∨ bI (sdT e) = 1 by cases sdT e <;> decide), nm_i]
  refine ⟨_, rfl, ⟨?_, ?_, ?_, ?_, ?_, ?_⟩, ?_⟩
  · simp [tI_sI]
  · simp [tI_sI]
  · simp [tI_sI]
  · simp [tI_sI]
  · simp [tI_sI]
  · simp [tI_sI]
  · exact (((((Fr.sI (by simp)).tr (Fr.sI (by simp))).tr (Fr.sI (by simp))).tr (Fr.sI (by simp))).tr (Fr.sI (by simp))).tr (Fr.sI (by simp))
theorem m_303 {τ : Tau} {i w : Nat} {T : Bool} {x y z0 : Int32} (hi : i < 10) (hw : w < 8) (p1 : Int32) :
    fX7_read_303 p1 τ (bI T) (nI w) x y (nI (6 * i)) z0 (nI (6 * i + 4)) = fX7_read_393 p1 (sA τ 3 (6 * i + 4) z0) (factOf w T x y) (nI (6 * i + 5)) := by
  have e5 : nI (6 * i) + (5 : Int32) = nI (6 * i + 5) := nI_add _ 5
  have e346 : ∀ t z, fX7_read_346 p1 t (nI w) x y (nI (6 * i)) z = if 3 ≤ w then fX7_read_393 p1 t (-9) (nI (6 * i + 5)) else if x = -9 then fX7_read_393 p1 t (-9) (nI (6 * i + 5)) else if y = -9 then fX7_read_393 p1 t (-9) (nI (6 * i + 5)) else fX7_read_393 p1 t (fX6_factNumber z x y) (nI (6 * i + 5)) := by
    intro t z
    unfold fX7_read_346 fX7_read_391 fX6_factNumber
    rw [e5]
    by_cases c : 3 ≤ w
    · rw [if_pos (show (3 : Int32) ≤ nI w from nI_le (a := 3) c (by omega)), if_pos c]
    · rw [if_neg (show ¬ (3 : Int32) ≤ nI w from nI_ge (b := 3) (by omega) (by omega)), if_neg c]
  unfold fX7_read_303
  rw [if_neg (nI_in (show 6 * i + 4 < 60 by omega) (by decide)), nm_i, nI_clamp (by omega), e346, e346, e346, e346]
  unfold factOf
  have q : ∀ k : Nat, k < 8 → (nI w = nI k ↔ w = k) := fun k hk => nI_eq (by omega) (by omega)
  by_cases w0 : w = 0
  · subst w0
    rw [if_pos (show nI 0 = 0 from rfl), if_neg (show ¬ 3 ≤ 0 by omega), if_neg (show ¬ 3 ≤ 0 by omega), if_pos rfl]
    cases T
    · rw [if_pos (show bI false = 0 from rfl)]
      split
      · rfl
      · split <;> rfl
    · rw [if_neg (show ¬ bI true = 0 by decide)]
      split
      · rfl
      · split <;> rfl
  rw [if_neg (show ¬ nI w = 0 from fun z => w0 ((q 0 (by omega)).mp z))]
  by_cases w1 : w = 1
  · subst w1
    rw [if_pos (show nI 1 = (1 : Int32) from rfl), if_neg (show ¬ 3 ≤ 1 by omega), if_neg (show ¬ 3 ≤ 1 by omega), if_neg (show ¬ 1 = 0 by omega), if_pos rfl]
    cases T
    · rw [if_pos (show bI false = 0 from rfl)]
      split
      · rfl
      · split <;> rfl
    · rw [if_neg (show ¬ bI true = 0 by decide)]
      split
      · rfl
      · split <;> rfl
  rw [if_neg (show ¬ nI w = (1 : Int32) from fun z => w1 ((q 1 (by omega)).mp z)), if_neg w0, if_neg w1]
  by_cases w2 : w = 2
  · subst w2
    rw [if_neg (show ¬ 3 ≤ 2 by omega), if_neg (show ¬ 3 ≤ 2 by omega), if_pos rfl]
    cases T
    · rw [if_pos (show bI false = 0 from rfl)]
      split
      · rfl
      · split <;> rfl
    · rw [if_neg (show ¬ bI true = 0 by decide)]
      split
      · rfl
      · split <;> rfl
  rw [if_pos (show 3 ≤ w by omega), if_pos (show 3 ≤ w by omega), if_neg w2]
  split <;> split <;> (try split) <;> rfl
theorem m_219 {τ : Tau} {i w num : Nat} {T : Bool} {X Y : Nat} {x y : Int32} (hi : i < 10) (hw : w < 8) (hok : fX7_isWell τ = true) :
    ∃ τ', fX7_read_219 (nI i) τ (bI T) (nI w) (nI num) (nI X) x (nI Y) y = some (1, τ') ∧ SM τ' i (w, num, X, Y, T, factOf w T x y) ∧ tI τ' 0 6 = nI 0 ∧ tI τ' 0 17 = 0 ∧ Fr [(0, 6), (0, 17)] [3] τ τ' ∧ ∀ j, j < 10 → j ≠ i → ∀ r, r < 6 → tA τ' 3 (6 * j + r) = tA τ 3 (6 * j + r) := by
  have e6 : (6 : Int32) * nI i = nI (6 * i) := by rw [i6, pk_mul]
  have e1 : nI (6 * i) + (1 : Int32) = nI (6 * i + 1) := nI_add _ 1
  have e2 : nI (6 * i) + (2 : Int32) = nI (6 * i + 2) := nI_add _ 2
  have e3 : nI (6 * i) + (3 : Int32) = nI (6 * i + 3) := nI_add _ 3
  have e4 : nI (6 * i) + (4 : Int32) = nI (6 * i + 4) := nI_add _ 4
  unfold fX7_read_219
  rw [nm_i, hok, ifT, nm_i, nm_i, e6, if_neg (nI_in (show 6 * i < 60 by omega) (by decide)), nm_i, e1, if_neg (nI_in (show 6 * i + 1 < 60 by omega) (by decide)), nm_i, e2, if_neg (nI_in (show 6 * i + 2 < 60 by omega) (by decide)), nm_i, e3, if_neg (nI_in (show 6 * i + 3 < 60 by omega) (by decide)), nm_i, e4, nI_clamp (by omega), nI_clamp (by omega), nI_clamp (by omega), nI_clamp (by omega)]
  have e303 : ∀ t : Tau, (if bI T = 0 then fX7_read_303 (nI i) t (bI T) (nI w) x y (nI (6 * i)) (0 : Int32) (nI (6 * i + 4)) else fX7_read_303 (nI i) t (bI T) (nI w) x y (nI (6 * i)) (1 : Int32) (nI (6 * i + 4))) = fX7_read_303 (nI i) t (bI T) (nI w) x y (nI (6 * i)) (bI T) (nI (6 * i + 4)) := by
    intro t
    cases T
    · rw [if_pos (show bI false = 0 from rfl)]; rfl
    · rw [if_neg (show ¬ bI true = 0 by decide)]; rfl
  rw [e303, m_303 hi hw]
  unfold fX7_read_393
  rw [if_neg (nI_in (show 6 * i + 5 < 60 by omega) (by decide)), nm_i, nm_i, nI_clamp (by omega)]
  refine ⟨_, rfl, ⟨?_, ?_, ?_, ?_, ?_, ?_⟩, ?_, ?_, ?_, fun j hj hne r hr => ?_⟩
  · show tA (sI _ 0 17 0) 3 (6 * i) = nI w
    simp [tA_sI, tA_sA]
  · show tA (sI _ 0 17 0) 3 (6 * i + 1) = nI X
    simp [tA_sI, tA_sA]
  · show tA (sI _ 0 17 0) 3 (6 * i + 2) = nI Y
    simp [tA_sI, tA_sA]
  · show tA (sI _ 0 17 0) 3 (6 * i + 3) = nI num
    simp [tA_sI, tA_sA]
  · show tA (sI _ 0 17 0) 3 (6 * i + 4) = bI T
    simp [tA_sI, tA_sA]
  · show tA (sI _ 0 17 0) 3 (6 * i + 5) = factOf w T x y
    simp [tA_sI, tA_sA]
  · rw [tI_sI, if_neg (by omega)]
    simp only [tI_sA]
    rw [tI_sI, if_pos ⟨rfl, rfl⟩]
    rfl
  · rw [tI_sI, if_pos ⟨rfl, rfl⟩]
  · exact (((((((Fr.sI (by decide)).tr (Fr.sA (by decide))).tr (Fr.sA (by decide))).tr (Fr.sA (by decide))).tr (Fr.sA (by decide))).tr (Fr.sA (by decide))).tr (Fr.sA (by decide))).tr (Fr.sI (by decide))
  · simp only [tA_sI, tA_sA]
    rw [if_neg (by omega), if_neg (by omega), if_neg (by omega), if_neg (by omega), if_neg (by omega), if_neg (by omega)]
theorem st_read (h : Rel τx τm K N md ml d cw len tx) (p1 : Int32) :
    ∃ a τx' τm' d' len', fX6_read τx p1 = some (a, τx') ∧ fX7_read τm p1 = some (a, τm') ∧ Rel τx' τm' K N md ml d' cw len' tx := by
  have hz := h.zero
  obtain ⟨hsay, hqs⟩ := is_say p1
  unfold fX6_read fX7_read
  rw [nm_i, nm_i]
  cases hb1 : fX7_isSaying p1 with
  | false => rw [if_pos (hsay.mpr hb1), ifF]; exact ⟨_, _, _, _, _, rfl, rfl, hz⟩
  | true =>
    obtain ⟨i, hi, rfl⟩ := hqs hb1
    rw [ifT, if_neg (show ¬ (nI i < 0 ∨ 10 ≤ (nI i).toNatClampNeg) from fun z => by rw [hsay.mp z] at hb1; cases hb1), nI_clamp (by omega)]
    obtain ⟨⟨o1, o2, o3, o4, o5, o6, o7⟩, ⟨a1, a2, a3, a4, a5, a6, a7, a8⟩, ⟨st, mk, hI, hTb⟩, ⟨b1, b2, b3, b4, b5, b6, b7⟩, hm⟩ := hz
    have hbx : ∀ j, j < len → tx j < 256 := fun j hj => (a7 j hj).2
    -- the class
    obtain ⟨τ1, e1, f1, hle, hgood⟩ := x_draft (K := K) o2 (⟨a6, o7, a7⟩ : LX τx len tx)
    rw [a1, e1, Option.bind_some]
    -- the reference
    have fm0 : Fr [(0, 0), (0, 7), (0, 11), (0, 12)] [] τm (sI (sI (sI (sI τm 0 0 0) 0 11 (-1)) 0 7 0) 0 12 0) := (((Fr.sI (by decide)).tr (Fr.sI (by decide))).tr (Fr.sI (by decide))).tr (Fr.sI (by decide))
    have fm1 : Fr smF [] (sI τm 0 0 0) (sI (sI (sI (sI τm 0 0 0) 0 11 (-1)) 0 7 0) 0 12 0) := ((Fr.sI (by decide)).tr (Fr.sI (by decide))).tr (Fr.sI (by decide))
    have g11 : tI (sI (sI (sI (sI τm 0 0 0) 0 11 (-1)) 0 7 0) 0 12 0) 0 11 = -1 := by rw [tI_sI, if_neg (by omega), tI_sI, if_neg (by omega), tI_sI, if_pos ⟨rfl, rfl⟩]
    have g7 : tI (sI (sI (sI (sI τm 0 0 0) 0 11 (-1)) 0 7 0) 0 12 0) 0 7 = nI 0 := by rw [tI_sI, if_neg (by omega), tI_sI, if_pos ⟨rfl, rfl⟩]; rfl
    have g12 : tI (sI (sI (sI (sI τm 0 0 0) 0 11 (-1)) 0 7 0) 0 12 0) 0 12 = nI 0 := by rw [tI_sI, if_pos ⟨rfl, rfl⟩]; rfl
    rw [nm_i, nm_i, nm_i]
    have hLM : LM (sI (sI (sI (sI τm 0 0 0) 0 11 (-1)) 0 7 0) 0 12 0) len tx := LM.fr (τ := sI τm 0 0 0) ⟨b6, o7, b7, hbx⟩ fm1 (by decide) (by decide)
    have g1 : tI (sI (sI (sI (sI τm 0 0 0) 0 11 (-1)) 0 7 0) 0 12 0) 0 1 = nI K := by rw [(fm1.1 0 1 (by decide)).1, b1]
    generalize sI (sI (sI (sI τm 0 0 0) 0 11 (-1)) 0 7 0) 0 12 0 = t0 at *
    obtain ⟨t1, e2, T1, L1, f2⟩ := m_adv hLM g7 (Nat.zero_le _)
    have R0 : RD K len tx t1 (h0 len tx) := ⟨L1, T1, by rw [(f2.1 0 1 (by decide)).1, g1], by rw [(f2.1 0 12 (by decide)).1, g12]; rfl, by rw [(f2.1 0 11 (by decide)).1, g11]; rfl, ends_len (fun c => decide (c = 32)) len tx 80 0 (Nat.zero_le _), Nat.zero_le _, fun f hf => by cases hf⟩
    rw [e2, Option.bind_some]
    obtain ⟨t2, x3, x4, e3, R2, f3, hx34⟩ := m_head R0 (nI i)
    rw [e3]
    obtain ⟨mbad, mgood⟩ := m_153 (K := K) o2 R2 (nI i) (bI (hT len tx)) x3 x4
    have fm02 : Fr smF [4, 5] (sI τm 0 0 0) t2 := ((fm1.wk (by decide) (by decide)).tr (f2.wk (by decide) (by decide))).tr f3
    -- what the reading leaves
    have hx1 : BaseX τ1 K N md d cw len tx := BaseX.fr ⟨a1, a2, a3, a4, a5, a6, a7, a8⟩ f1 (by decide) (by decide) (by decide) (by decide)
    have hI1 := hI.fr f1 (by decide) (by decide) (by decide)
    have bM : ∀ t, Fr smF [4, 5] (sI τm 0 0 0) t → BaseM t K N md d cw len tx ∧ MInv t K N d := fun t ft =>
      ⟨BaseM.fr ⟨b1, b2, b3, b4, b5, b6, b7⟩ ft (by decide) (by decide) (by decide) (by decide), hm.fr ft (by decide) (by decide) (by decide) (by decide) (by decide) (by decide)⟩
    cases hf : (h5 K len tx).2.2 with
    | some f =>
      have hfl := hle f hf
      obtain ⟨t3, e4, f4⟩ := mbad f hf
      obtain ⟨q1, q2⟩ := bM t3 (fm02.tr f4)
      rw [e4]
      show ∃ a τx' τm' d' len', (if nI f = (-1 : Int32) then _ else some (-10 - nI f, τ1)) = some (a, τx') ∧ some (-10 - nI f, t3) = some (a, τm') ∧ _
      rw [if_neg (show ¬ nI f = (-1 : Int32) from fun z => nI_pos (show f < 2 ^ 31 by omega) (by rw [z]; decide))]
      exact ⟨_, _, _, d, len, rfl, rfl, ⟨o1, o2, o3, o4, o5, o6, o7⟩, hx1, ⟨st, mk, hI1, fun z => (hTb z).fr f1 (by decide) (by decide) (by decide)⟩, q1, q2⟩
    | none =>
      obtain ⟨n1, n2, n3, n4, n5, n6⟩ := good5 hf
      have hw := h3_w n6
      have hdn := dn_ok (K := K) o2 hbx hf hw
      obtain ⟨t3, e4, w4, f4⟩ := mgood hf
      obtain ⟨rfl, rfl⟩ := hx34 n6
      obtain ⟨t4, e5, S4, z6, z17, f5, oth⟩ := m_219 (i := i) (w := wd len tx) (num := hnum len tx) (T := hT len tx) (X := (s1 K len tx).1) (Y := (s2 K len tx).1) (x := l1 K len tx) (y := l2 K len tx) hi (wd_lt hbx hw) w4
      obtain ⟨q1, q2⟩ := bM t3 (fm02.tr f4)
      rw [e4, e5]
      show ∃ a τx' τm' d' len', (if (-1 : Int32) = (-1 : Int32) then Option.bind (fX3_become (i + 2) τ1) _ else _) = some (a, τx') ∧ some (1, t4) = some (a, τm') ∧ _
      obtain ⟨τ2, e6, SX2, f6⟩ := x_become (q := i + 2) (by omega) (hgood hf)
      rw [if_pos rfl, e6, Option.bind_some, nm_i, nm_i]
      obtain ⟨j6, j7, j8, j9, j10, j11, j12, j13, j14, j15, j16⟩ := hI1
      have f6' : ∀ k j, k ≠ i + 2 → tI τ2 k j = tI τ1 k j := fun k j hk => (f6.1 k j (by simp; omega)).1
      have e9 : tI τ2 17 9 ||| ((1 : Int32) <<< (nI i &&& 31)) = nI (st ||| 2 ^ i) := by
        rw [f6' 17 9 (by omega), j9, nI_one (by omega), nI_or]
      rw [e9]
      have f7 : Fr [(17, 9), (14, 1)] [] τ2 (sI (sI τ2 17 9 (nI (st ||| 2 ^ i))) 14 1 0) := (Fr.sI (by decide)).tr (Fr.sI (by decide))
      have v9 : tI (sI (sI τ2 17 9 (nI (st ||| 2 ^ i))) 14 1 0) 17 9 = nI (st ||| 2 ^ i) := by rw [tI_sI, if_neg (by omega), tI_sI, if_pos ⟨rfl, rfl⟩]
      have v1 : tI (sI (sI τ2 17 9 (nI (st ||| 2 ^ i))) 14 1 0) 14 1 = nI 0 := by rw [tI_sI, if_pos ⟨rfl, rfl⟩]; rfl
      generalize sI (sI τ2 17 9 (nI (st ||| 2 ^ i))) 14 1 0 = τ3 at *
      have fI : ∀ k j, k ≠ i + 2 → (k, j) ≠ (17, 9) → (k, j) ≠ (14, 1) → tI τ3 k j = tI τ1 k j := fun k j h1 h2 h3 => by
        rw [(f7.1 k j (fun z => by rcases List.mem_cons.mp z with z | z
                                   · exact h2 z
                                   · rcases List.mem_cons.mp z with z | z
                                     · exact h3 z
                                     · cases z)).1, f6' k j h1]
      have fA : ∀ k j, tA τ3 k j = tA τ1 k j ∧ tB τ3 k j = tB τ1 k j := fun k j => ⟨by rw [(f7.2 k (by simp) j).1, (f6.2 k (by simp) j).1], by rw [(f7.2 k (by simp) j).2, (f6.2 k (by simp) j).2]⟩
      obtain ⟨y1, y2, y3, y4, y5, y6, y7, y8⟩ := hx1
      obtain ⟨u1, u2, u3, u4, u5, u6, u7⟩ := q1
      have hd' : ∀ j, j < 10 → SX τ3 (j + 2) (dUp d i (dn K len tx) j) := by
        intro j hj
        unfold dUp
        by_cases e : j = i
        · subst e
          rw [if_pos rfl]
          exact SX2.fr f7 (fun r hr => by simp at hr; omega)
        · rw [if_neg e]
          obtain ⟨c0, c1, c2, c3, c5, c4⟩ := y4 j hj
          have g : ∀ r, tI τ3 (j + 2) r = tI τ1 (j + 2) r := fun r => fI (j + 2) r (by omega) (by simp; omega) (by simp; omega)
          exact ⟨by rw [g, c0], by rw [g, c1], by rw [g, c2], by rw [g, c3], by rw [g, c5], by rw [g, c4]⟩
      have hst : (st ||| 2 ^ i) < 1024 := Nat.or_lt_two_pow (n := 10) j13 (Nat.pow_lt_pow_right (by omega) hi)
      refine ⟨_, τ3, t4, dUp d i (dn K len tx), 0, rfl, rfl, ⟨o1, o2, o3, o4, o5, fun j hj => ?_, by omega⟩, ⟨?_, ?_, ?_, hd', ?_, v1, fun j hj => absurd hj (by omega), fun s f hs hf => ?_⟩, ⟨st ||| 2 ^ i, mk, ⟨?_, ?_, ?_, v9, ?_, ?_, hd', hst, j14, fun w hw => ?_, fun j hj hb => ?_⟩, fun z => ?_⟩, ⟨?_, ?_, ?_, fun j hj => ?_, ?_, z6, fun j hj => absurd hj (by omega)⟩, Or.inl z17⟩
      · unfold dUp
        split
        · exact hdn
        · exact o6 j hj
      · rw [fI 0 5 (by omega) (by simp) (by simp), y1]
      · rw [fI 0 6 (by omega) (by simp) (by simp), y2]
      · rw [fI 0 7 (by omega) (by simp) (by simp), y3]
      · exact ⟨fun s hs => by rw [(fA 12 s).1]; exact y5.1 s hs, y5.2⟩
      · rw [(fA 25 s).2]; exact y8 s f hs hf
      · rw [fI 17 6 (by omega) (by simp) (by simp), j6]
      · rw [fI 17 7 (by omega) (by simp) (by simp), j7]
      · rw [fI 17 8 (by omega) (by simp) (by simp), j8]
      · rw [fI 26 0 (by omega) (by simp) (by simp), j10]
      · rw [(fA 21 0).1, j11]
      · rw [(fA 26 w).1]; exact j15 w hw
      · rw [or_bit] at hb
        have hb := Bool.or_eq_false_iff.mp hb
        have hne : j ≠ i := fun z => by
          have := hb.2
          rw [z] at this
          simp at this
        obtain ⟨k1, k2⟩ := j16 j hj hb.1
        refine ⟨k1, fun w hw => ?_⟩
        unfold dUp
        rw [if_neg hne]
        exact k2 w hw
      · exfalso
        have : (st ||| 2 ^ i).testBit i = true := by rw [or_bit]; simp
        rw [z] at this
        simp at this
      · rw [(f5.1 0 1 (by decide)).1, u1]
      · rw [(f5.1 0 2 (by decide)).1, u2]
      · rw [(f5.1 0 3 (by decide)).1, u3]
      · unfold dUp
        by_cases e : j = i
        · subst e
          rw [if_pos rfl]
          exact S4
        · rw [if_neg e]
          obtain ⟨c0, c1, c2, c3, c4, c5⟩ := u4 j hj
          exact ⟨by have := oth j hj e 0 (by omega); rw [Nat.add_zero] at this; rw [this, c0], by rw [oth j hj e 1 (by omega), c1], by rw [oth j hj e 2 (by omega), c2], by rw [oth j hj e 3 (by omega), c3], by rw [oth j hj e 4 (by omega), c4], by rw [oth j hj e 5 (by omega), c5]⟩
      · exact u5.fr f5 (by decide)
end RR
