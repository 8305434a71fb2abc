/-! one question: both sides answer the same and stay beside each other -/
theorem ifT {α : Type} (a b : α) : (if bI true = 0 then a else b) = b := if_neg (by decide)
theorem ifF {α : Type} (a b : α) : (if bI false = 0 then a else b) = a := if_pos (by decide)
section ST
variable {τx τm : Tau} {K N md ml len : Nat} {d : Nat → Sd} {cw : Nat → Nat} {tx : Nat → Nat}
def Mv (K N ml ml' : Nat) : Prop := ml' = ml ∨ (ml' = tot (2 ^ K) N ∧ ml < ml')
def St (A B : Option (Int32 × Tau)) (K N md ml : Nat) (d : Nat → Sd) (cw : Nat → Nat) (len : Nat) (tx : Nat → Nat) : Prop :=
  ∃ a τx' τm' ml', A = some (a, τx') ∧ B = some (a, τm') ∧ Rel τx' τm' K N md ml' d cw len tx ∧ Mv K N ml ml'
theorem Sok.lt {K : Nat} {d : Sd} (h : Sok K d) (hK : K ≤ 4) : SdLt d := by
  obtain ⟨a, b, c, e, _⟩ := h
  have := pow2K hK
  exact ⟨a, b, by omega, by omega⟩
theorem tot_lt {K N : Nat} (hK : K ≤ 4) (hN : N ≤ 6) : tot (2 ^ K) N < 100000 := rows_lt _ (by have := pow2_16 hK; omega) _ (by omega)
theorem Rel.fresh (h : Rel τx τm K N md ml d cw len tx) :
    ∃ τx' ml' mk', fX6_freshHeaps τx = some τx' ∧ BaseX τx' K N md d cw len tx ∧ HInv τx' (2 ^ K) N d 0 ml' mk' ∧ HTab τx' (2 ^ K) N d ∧ Hp τx' K N ml' d ∧ Mv K N ml ml' := by
  obtain ⟨⟨o1, o2, o3, o4, o5, o6, o7⟩, hb, ⟨st, mk, hI, hT⟩, _, _⟩ := h
  have hS : 1 < 2 ^ K := Nat.one_lt_two_pow (by omega)
  obtain ⟨τ', mk', e, i', t', f'⟩ := x_refresh (tot_lt o2 o4) hS (pow2_16 o2) o4 (fun i hi => (o6 i hi).lt o2) hI hT
  unfold fX6_freshHeaps
  rw [e, Option.bind_some]
  refine ⟨τ', _, mk', rfl, hb.fr f' (by decide) (by decide) (by decide) (by decide), i', t', ⟨0, mk', i', fun _ => t'⟩, ?_⟩
  split
  · exact Or.inl rfl
  · exact Or.inr ⟨rfl, by omega⟩
theorem Rel.loads (h : Rel τx τm K N md ml d cw len tx) :
    ∃ τm', fX7_loads (sI τm 0 0 0) = some τm' ∧ BaseM τm' K N md d cw len tx ∧ MTab τm' K (mkS d (2 ^ K) N) (fun v => lc (wv (2 ^ K) N v)) (tot (2 ^ K) N) ∧ MInv τm' K N d ∧ Fr ((0, 0) :: ldF) ldA τm τm' := by
  obtain ⟨⟨o1, o2, o3, o4, o5, o6, o7⟩, _, _, hb, hm⟩ := h
  have f0 : Fr [(0, 0)] [] τm (sI τm 0 0 0) := Fr.sI (by decide)
  have hb0 := hb.fr f0 (by decide) (by decide) (by decide) (by decide)
  obtain ⟨τ', e, l1, mt, f'⟩ := m_loads (K := K) (n := N) (d := d) o1 o2 o4 (tot_lt o2 o4) (fun i hi => (o6 i hi).lt o2) hb0.1 hb0.2.1 hb0.2.2.2.1 (hm.fr f0 (by decide) (by decide) (by decide) (by decide) (by decide) (by decide))
  exact ⟨τ', e, hb0.fr f' (by decide) (by decide) (by decide) (by decide), mt, Or.inr ⟨l1, mt⟩, (f0.wk (by decide) (by decide)).tr (f'.wk (by decide) (by decide))⟩
theorem Rel.zero (h : Rel τx τm K N md ml d cw len tx) : Rel τx (sI τm 0 0 0) K N md ml d cw len tx := by
  obtain ⟨o, a, b, c, e⟩ := h
  have f0 : Fr [(0, 0)] [] τm (sI τm 0 0 0) := Fr.sI (by decide)
  exact ⟨o, a, b, c.fr f0 (by decide) (by decide) (by decide) (by decide), e.fr f0 (by decide) (by decide) (by decide) (by decide) (by decide) (by decide)⟩
theorem St.no (h : Rel τx τm K N md ml d cw len tx) (a : Int32) : St (some (a, τx)) (some (a, sI τm 0 0 0)) K N md ml d cw len tx :=
  ⟨a, _, _, ml, rfl, rfl, h.zero, Or.inl rfl⟩
theorem st_can (h : Rel τx τm K N md ml d cw len tx) (p1 : Int32) : St (fX6_can τx p1) (fX7_can τm p1) K N md ml d cw len tx := by
  obtain ⟨hs, hq⟩ := is_set p1
  unfold fX6_can fX7_can
  rw [nm_i, nm_i, nm_i, ← hs]
  cases hb : fX6_isSet p1 with
  | false => rw [if_pos (by decide), if_pos (by decide)]; exact St.no h _
  | true =>
    obtain ⟨p, hp, rfl⟩ := hq hb
    obtain ⟨τx', ml', mk', e, bx, hi, ht, hh, mv⟩ := h.fresh
    obtain ⟨τm', e2, bm, mt, mi, _⟩ := h.loads
    rw [if_neg (by decide), if_neg (by decide), e, Option.bind_some, e2, Option.bind_some, x_worldsOf ht.2.2 hp, Option.bind_some, m_canBe (tot_lt h.1.2.1 h.1.2.2.2.1) (fun w _ => mkS_lt d _ _ w) mt.2.1 hp, Option.bind_some]
    exact ⟨_, τx', τm', ml', rfl, rfl, ⟨h.1, bx, hh, bm, mi⟩, mv⟩
theorem st_worlds (h : Rel τx τm K N md ml d cw len tx) : ∃ τm', fX7_worlds τm = some (fX6_worlds τx, τm') ∧ Rel τx τm' K N md ml d cw len tx := by
  obtain ⟨τm', e2, bm, mt, mi, _⟩ := h.loads
  unfold fX6_worlds fX7_worlds
  rw [nm_i, e2, Option.bind_some, mt.1]
  have h8 : tI τx 17 8 = nI (tot (2 ^ K) N) := by
    obtain ⟨st, mk, a, _⟩ := h.2.2.1
    exact a.2.2.1
  rw [h8]
  exact ⟨τm', rfl, h.1, h.2.1, h.2.2.1, bm, mi⟩
theorem m8 {mk : Nat → Nat} {cw2 : Nat → Nat → Nat} {τ : Tau} {T : Nat} (mt : MTab τ K mk cw2 T) : ∀ h w0, h < 1024 → IsFst mk T h w0 → tA τ 8 h = nI w0 := fun q w0 hq hw => (mt.2.2.1 q w0 hq hw).1
theorem m9 {mk : Nat → Nat} {cw2 : Nat → Nat → Nat} {τ : Tau} {T : Nat} (mt : MTab τ K mk cw2 T) : ∀ h w0, h < 1024 → IsFst mk T h w0 → ∀ s, s < 16 → tA τ 9 (16 * h + s) = nI (cw2 w0 s) := fun q w0 hq hw => (mt.2.2.1 q w0 hq hw).2
theorem lc_sum {S n w : Nat} (hw : w < tot S n) (hS : S ≤ 16) : sumTo (lc (wv S n w)) 16 = wsz S n w := by
  obtain ⟨a1, a2, _⟩ := wv_ok w hw
  unfold wsz
  cases hl : wv S n w with
  | nil => rw [hl] at a1; simp at a1
  | cons a l =>
    rw [hl] at a1 a2
    rw [List.length_cons] at a1
    rw [List.sum_cons] at a2
    have e : ∀ (l : List Nat), l.length ≤ 16 → sumTo (fun s => l.getD s 0) 16 = l.sum := by
      intro l hl2
      have h1 : l = toL (fun s => l.getD s 0) 0 l.length := by
        apply List.ext_getElem
        · rw [toL_len]
        · intro i h1 h2
          have := toL_get (c := fun s => l.getD s 0) (i := 0) (S := l.length) (k := i) h1
          rw [List.getD_eq_getElem?_getD, List.getElem?_eq_getElem h2, Option.getD_some] at this
          rw [this]
          rw [Nat.zero_add, List.getD_eq_getElem?_getD, List.getElem?_eq_getElem h1, Option.getD_some]
      conv => rhs; rw [h1]
      rw [toL_sum]
      exact sumTo_ext hl2 (fun i h1 _ => by rw [List.getD_eq_getElem?_getD, List.getElem?_eq_none h1]; rfl)
    have : sumTo (lc (a :: l)) 16 = l.sum := e l (by omega)
    rw [this]
    show l.sum = n - a
    omega
/-- the things of the first world: both sides -/
theorem both_first {g : Nat → Bool} {p2 : Int32} {r r' : Option Nat} {τx' τm' : Tau} (hK : K ≤ 4) (hN : N ≤ 6) (h6 : tI τx' 17 6 = nI (2 ^ K)) (h7 : tI τx' 17 7 = nI N) (mt : MTab τm' K (mkS d (2 ^ K) N) (fun v => lc (wv (2 ^ K) N v)) (tot (2 ^ K) N))
    (hr : First g (mkS d (2 ^ K) N) (tot (2 ^ K) N) r) (hr' : First g (mkS d (2 ^ K) N) (tot (2 ^ K) N) r') (hp2 : p2 = -1 ∨ ∃ s, s < 2 ^ K ∧ p2 = nI s) :
    ∃ a, fX0_thingsIn τx' (encW r) p2 = some a ∧ fX7_told τm' (encH (mkS d (2 ^ K) N) r') p2 = some a := by
  have := hr.one hr'
  subst this
  have hS := pow2_16 hK
  cases r with
  | none => exact ⟨-9, x_thingsNo, m_toldNo⟩
  | some w =>
    have hw := hr.1
    have hml := mkS_lt d (2 ^ K) N w
    have hfw : IsFst (mkS d (2 ^ K) N) (tot (2 ^ K) N) (mkS d (2 ^ K) N w) w := ⟨hw, rfl, fun v hv e => by
      have := hr.2.2 v hv
      rw [e, hr.2.1] at this
      cases this⟩
    obtain ⟨x1, x2⟩ := x_thingsIn (p2 := p2) h6 h7 hS Nat.one_le_two_pow hN hw
    obtain ⟨y1, y2⟩ := m_told (p2 := p2) hml (m9 mt _ _ hml hfw)
    rcases hp2 with e | ⟨s, hs, e⟩
    · refine ⟨_, x1 e, ?_⟩
      rw [← lc_sum hw hS]
      exact y1 e
    · exact ⟨_, x2 s hs e, y2 s (by omega) e⟩
theorem st_least (h : Rel τx τm K N md ml d cw len tx) (p1 p2 : Int32) : St (fX6_least τx p1 p2) (fX7_least τm p1 p2) K N md ml d cw len tx := by
  obtain ⟨hs, hq⟩ := is_set p1
  have hK := h.1.2.1
  have f0 : Fr [(0, 0)] [] τm (sI τm 0 0 0) := Fr.sI (by decide)
  have hz := h.zero
  obtain ⟨hs2, hq2⟩ := is_sort h.2.1.1 hz.2.2.2.1.1 hK p2
  unfold fX6_least fX7_least
  simp only [nm_i]
  rw [← hs]
  cases hb : fX6_isSet p1 with
  | false => rw [ifF, ifF]; exact St.no h _
  | true =>
    rw [ifT, ifT, ← hs2]
    cases hb2 : fX6_isSortOrEvery τx p2 with
    | false => rw [ifF, ifF]; exact St.no h _
    | true =>
      obtain ⟨p, hp, rfl⟩ := hq hb
      obtain ⟨τx', ml', mk', e, bx, hi, ht, hh, mv⟩ := h.fresh
      obtain ⟨τm', e2, bm, mt, mi, _⟩ := h.loads
      have hT := tot_lt hK h.1.2.2.2.1
      obtain ⟨r, er, fr⟩ := x_firstWorld (τ := τx') (q := 0) hT (fun w _ => mkS_lt d (2 ^ K) N w) ht.1 ht.2.1 hp (by omega)
      obtain ⟨r', er', fr'⟩ := m_firstOf (τ := τm') (s := -1) (gs := fun _ => true) hT (fun w _ => mkS_lt d (2 ^ K) N w) mt.2.1 (m8 mt) hp (Or.inl ⟨rfl, fun _ => rfl⟩)
      have fe : (fun h => sub p h && decide (h &&& 0 = 0)) = fun h => sub p h && (fun _ => true) h := by funext h; simp
      rw [fe] at fr
      obtain ⟨a, ea, eb⟩ := both_first (p2 := p2) hK h.1.2.2.2.1 hi.1 hi.2.1 mt fr fr' (hq2 hb2)
      rw [ifT, ifT, e, Option.bind_some, e2, Option.bind_some, show fX0_firstWorld τx' (nI p) 0 = some (encW r) from er, Option.bind_some, er', Option.bind_some, ea, Option.bind_some, eb, Option.bind_some]
      exact ⟨_, τx', τm', ml', rfl, rfl, ⟨h.1, bx, hh, bm, mi⟩, mv⟩
theorem st_against (h : Rel τx τm K N md ml d cw len tx) (p1 p2 p3 : Int32) : St (fX6_against τx p1 p2 p3) (fX7_against τm p1 p2 p3) K N md ml d cw len tx := by
  obtain ⟨hs, hq⟩ := is_set p1
  obtain ⟨hsay, hqs⟩ := is_say p2
  have hK := h.1.2.1
  have hz := h.zero
  obtain ⟨hs2, hq2⟩ := is_sort h.2.1.1 hz.2.2.2.1.1 hK p3
  unfold fX6_against fX7_against
  simp only [nm_i]
  rw [← hs]
  cases hb : fX6_isSet p1 with
  | false => rw [ifF, ifF]; exact St.no h _
  | true =>
    rw [ifT, ifT]
    cases hb1 : fX7_isSaying p2 with
    | false => rw [if_pos (hsay.mpr hb1), ifF]; exact St.no h _
    | true =>
      rw [if_neg (fun z => by rw [hsay.mp z] at hb1; cases hb1), ifT, ← hs2]
      cases hb2 : fX6_isSortOrEvery τx p3 with
      | false => rw [ifF, ifF]; exact St.no h _
      | true =>
        obtain ⟨p, hp, rfl⟩ := hq hb
        obtain ⟨i, hi10, rfl⟩ := hqs hb1
        obtain ⟨τx', ml', mk', e, bx, hi, ht, hh, mv⟩ := h.fresh
        obtain ⟨τm', e2, bm, mt, mi, _⟩ := h.loads
        have hT := tot_lt hK h.1.2.2.2.1
        obtain ⟨r, er, fr⟩ := x_firstWorld (τ := τx') (q := 2 ^ i) hT (fun w _ => mkS_lt d (2 ^ K) N w) ht.1 ht.2.1 hp (pow_lt1024 hi10)
        obtain ⟨r', er', fr'⟩ := m_firstOf (τ := τm') (s := nI i) (gs := fun h => !h.testBit i) hT (fun w _ => mkS_lt d (2 ^ K) N w) mt.2.1 (m8 mt) hp (Or.inr ⟨i, hi10, rfl, fun _ => rfl⟩)
        have fe : (fun h => sub p h && decide (h &&& 2 ^ i = 0)) = fun h => sub p h && (fun h => !h.testBit i) h := by
          funext h
          have e : (h &&& 2 ^ i = 0) ↔ h.testBit i = false := by
            constructor
            · intro z
              have : (h &&& 2 ^ i).testBit i = false := by rw [z]; simp
              rw [Nat.testBit_and, Nat.testBit_two_pow] at this
              simpa using this
            · intro z
              apply Nat.eq_of_testBit_eq
              intro j
              rw [Nat.testBit_and, Nat.testBit_two_pow]
              by_cases q : i = j
              · rw [← q, z]; simp
              · simp [q]
          dsimp only
          congr 1
          cases hb : h.testBit i with
          | false => rw [decide_eq_true (e.mpr hb)]; rfl
          | true => rw [decide_eq_false (fun z => by rw [e.mp z] at hb; cases hb)]; rfl
        rw [fe] at fr
        obtain ⟨a, ea, eb⟩ := both_first (p2 := p3) hK h.1.2.2.2.1 hi.1 hi.2.1 mt fr fr' (hq2 hb2)
        rw [ifT, ifT, e, Option.bind_some, e2, Option.bind_some, nI_one (by omega), er, Option.bind_some, er', Option.bind_some, ea, Option.bind_some, eb, Option.bind_some]
        exact ⟨_, τx', τm', ml', rfl, rfl, ⟨h.1, bx, hh, bm, mi⟩, mv⟩
end ST
