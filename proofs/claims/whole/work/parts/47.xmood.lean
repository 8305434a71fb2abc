/-! moods: which facts are shown by which mood; the class's side -/
def F1 (m : Nat) : Nat := [0, 0, 1, 1, 2, 1, 3, 0, 0].getD m 0
def F2 (m : Nat) : Nat := [0, 2, 0, 2, 0, 0, 0, 0, 0].getD m 0
def SH (m : Nat) : Nat := [0, 2, 1, 3, 2, 1, 3, 0, 1].getD m 0
def srch (P : Nat → Bool) : Nat → Nat → Option Nat
  | 0, _ => none
  | N + 1, i => if P i = true then some i else srch P N (i + 1)
theorem srch_none {P : Nat → Bool} : ∀ {N i : Nat}, srch P N i = none → ∀ j, i ≤ j → j < i + N → P j = false
  | 0, i, _, j, h1, h2 => absurd h1 (by omega)
  | N + 1, i, h, j, h1, h2 => by
    rw [srch] at h
    by_cases e : P i = true
    · rw [if_pos e] at h; cases h
    · rw [if_neg e] at h
      by_cases q : j = i
      · rw [q]; simpa using e
      · exact srch_none h j (by omega) (by omega)
theorem srch_some {P : Nat → Bool} {k : Nat} : ∀ {N i : Nat}, srch P N i = some k → i ≤ k ∧ k < i + N ∧ P k = true ∧ ∀ j, i ≤ j → j < k → P j = false
  | 0, i, h => by cases h
  | N + 1, i, h => by
    rw [srch] at h
    by_cases e : P i = true
    · rw [if_pos e] at h
      cases h
      exact ⟨Nat.le_refl _, by omega, e, fun j h1 h2 => absurd h1 (by omega)⟩
    · rw [if_neg e] at h
      obtain ⟨a, b, c, d⟩ := srch_some h
      refine ⟨by omega, by omega, c, fun j h1 h2 => ?_⟩
      by_cases q : j = i
      · rw [q]; simpa using e
      · exact d j (by omega) h2
theorem srch_congr {P Q : Nat → Bool} : ∀ {N i : Nat}, (∀ j, i ≤ j → j < i + N → P j = Q j) → srch P N i = srch Q N i
  | 0, _, _ => rfl
  | N + 1, i, h => by
    rw [srch, srch, h i (Nat.le_refl _) (by omega), srch_congr (fun j h1 h2 => h j (by omega) (by omega))]
def g1 (m x z : Nat) : Nat := 16 * F1 m + 4 * x + z
def g2 (m y z : Nat) : Nat := if m = 6 then 4 * y + z else 16 * F2 m + 4 * z + y
def shw (K : Nat) (A : Nat → Bool) (m x y : Nat) : Option (Int32 × Int32) :=
  if m = 4 ∨ m = 5 then (if A (16 * F1 m + 4 * y + x) = true then some (nI (16 * F1 m + 4 * y + x), -9) else none)
  else if m = 8 then (if A (4 * x + y) = true then some (nI (4 * x + y), -9) else none)
  else if m = 7 then none
  else (srch (fun z => A (g1 m x z) && A (g2 m y z)) K 0).map (fun z => (nI (g1 m x z), nI (g2 m y z)))
def shwX (K : Nat) (A : Nat → Bool) (m x y : Nat) : Option (Int32 × Int32) := if m = 7 then (if x = y then some (-9, -9) else none) else shw K A m x y
theorem F1_lt (m : Nat) : F1 m < 4 := by
  unfold F1
  match m with
  | 0 | 1 | 2 | 3 | 4 | 5 | 6 | 7 | 8 => decide
  | m + 9 => simp [List.getD]
theorem F2_lt (m : Nat) : F2 m < 4 := by
  unfold F2
  match m with
  | 0 | 1 | 2 | 3 | 4 | 5 | 6 | 7 | 8 => decide
  | m + 9 => simp [List.getD]
theorem g1_lt {m x z : Nat} (hx : x < 4) (hz : z < 4) : g1 m x z < 64 := by
  have := F1_lt m
  unfold g1; omega
theorem g2_lt {m y z : Nat} (hy : y < 4) (hz : z < 4) : g2 m y z < 64 := by
  have := F2_lt m
  unfold g2; split <;> omega
theorem l_sub {L x : Int64} : L &&& x = x ↔ ∀ i, i < 64 → lb x i = true → lb L i = true := by
  constructor
  · intro h i hi h1
    rw [← h, lb_and] at h1
    exact (Bool.and_eq_true_iff.mp h1).1
  · intro h
    apply lb_ext
    intro f hf
    rw [lb_and]
    cases e : lb x f with
    | false => simp
    | true => rw [h f hf e]; rfl
theorem x_of26 {τ : Tau} {p1 p2 : Int32} {z0 z1 : Int64} {c : Bool} (hc : (tL τ 27 2 &&& (z1 ||| z0) = z1 ||| z0) ↔ c = true) :
    fX1_isShownOf_26 p1 p2 τ z0 z1 = (c, if c = true then sI (sI τ 27 5 p1) 27 6 p2 else τ) := by
  unfold fX1_isShownOf_26
  rw [nm_i]
  by_cases h : c = true
  · rw [if_pos ((lg_cmp_eq _ _).mpr (hc.mpr h)), nm_i, nm_i, if_pos h, h]
  · rw [if_neg (fun z => h (hc.mp ((lg_cmp_eq _ _).mp z))), if_neg h]
    simp at h
    rw [h]
theorem x_of2 {τ : Tau} {f g : Nat} (hf : f < 64) (hg : g < 64) : fX1_isShownOf τ (nI f) (nI g) = (lb (tL τ 27 2) f && lb (tL τ 27 2) g, if (lb (tL τ 27 2) f && lb (tL τ 27 2) g) = true then sI (sI τ 27 5 (nI f)) 27 6 (nI g) else τ) := by
  unfold fX1_isShownOf
  rw [if_neg (nI_ne9 (by omega)), fX1_isShownOf_13, if_neg (nI_ne9 (by omega))]
  apply x_of26
  rw [l_sub, Bool.and_eq_true_iff]
  constructor
  · intro h
    exact ⟨h f hf (by rw [lb_or, lb_pow hf hf]; simp), h g hg (by rw [lb_or, lb_pow hg hg]; simp)⟩
  · rintro ⟨h1, h2⟩ i hi h3
    rw [lb_or, lb_pow hf hi, lb_pow hg hi] at h3
    rcases Bool.or_eq_true_iff.mp h3 with a | a
    · rw [← of_decide_eq_true a]; exact h1
    · rw [← of_decide_eq_true a]; exact h2
theorem x_of1 {τ : Tau} {f : Nat} (hf : f < 64) : fX1_isShownOf τ (nI f) (-9) = (lb (tL τ 27 2) f, if lb (tL τ 27 2) f = true then sI (sI τ 27 5 (nI f)) 27 6 (-9) else τ) := by
  unfold fX1_isShownOf
  rw [if_neg (nI_ne9 (by omega)), fX1_isShownOf_13, if_pos rfl]
  apply x_of26
  rw [l_sub]
  constructor
  · intro h
    exact h f hf (by rw [lb_or, lb_pow hf hf]; simp)
  · intro h1 i hi h3
    rw [lb_or, lb_pow hf hi, lb_0] at h3
    rcases Bool.or_eq_true_iff.mp h3 with a | a
    · rw [← of_decide_eq_true a]; exact h1
    · cases a
theorem x_of0 {τ : Tau} : fX1_isShownOf τ (-9) (-9) = (true, if true = true then sI (sI τ 27 5 (-9)) 27 6 (-9) else τ) := by
  unfold fX1_isShownOf
  rw [if_pos rfl, fX1_isShownOf_13, if_pos rfl]
  apply x_of26
  rw [l_sub]
  refine ⟨fun _ => rfl, fun _ i hi h3 => ?_⟩
  rw [lb_or, lb_0] at h3
  cases h3
/-- what a look of the class's side gives -/
def XRes (τ : Tau) (r : Option (Int32 × Int32)) (R : Option (Bool × Tau)) : Prop :=
  ∃ τ', R = some (r.isSome, τ') ∧ Fr [(27, 5), (27, 6)] [] τ τ' ∧ (r = none → τ' = τ) ∧ ∀ a b, r = some (a, b) → tI τ' 27 5 = a ∧ tI τ' 27 6 = b
theorem XRes.of {τ : Tau} {c : Bool} {a b : Int32} : XRes τ (if c = true then some (a, b) else none) (some (c, if c = true then sI (sI τ 27 5 a) 27 6 b else τ)) := by
  cases c with
  | true =>
    rw [if_pos rfl, if_pos rfl]
    refine ⟨_, rfl, (Fr.sI (by decide)).tr (Fr.sI (by decide)), fun z => (by cases z), fun a' b' e => ?_⟩
    cases e
    rw [tI_sI, tI_sI, tI_sI, if_neg (by omega), if_pos ⟨rfl, rfl⟩, if_pos ⟨rfl, rfl⟩]
    exact ⟨rfl, rfl⟩
  | false =>
    rw [if_neg (by decide), if_neg (by decide)]
    exact ⟨_, rfl, Fr.rf, fun _ => rfl, fun a' b' e => by cases e⟩
section XM
variable {K : Nat} {A : Nat → Bool} {τ : Tau}
theorem x_num (w x y : Nat) : fX6_factNumber (nI w) (nI x) (nI y) = nI (16 * w + 4 * x + y) := by
  unfold fX6_factNumber
  rw [i16, i4, pk_mul, pk_mul, nI_add, nI_add]
theorem x_look126 (hK : K ≤ 4) (h4 : tI τ 27 4 = nI K) (hA : ∀ f, f < 64 → lb (tL τ 27 2) f = A f) {m x y : Nat} {x4 x5 : Int32} (hx : x < 4) (hy : y < 4) (h45 : x4 = nI (F1 m) ∧ x5 = nI (F2 m)) (hm : m < 9) (hm6 : m = 6 → F2 m = 0) :
    XRes τ ((srch (fun z => A (g1 m x z) && A (g2 m y z)) K 0).map (fun z => (nI (g1 m x z), nI (g2 m y z)))) (fX1_isShowing_126 (nI m) (nI x) (nI y) τ x4 x5) := by
  obtain ⟨rfl, rfl⟩ := h45
  have key : ∀ M N i, i + M = K → M < N → XRes τ ((srch (fun z => A (g1 m x z) && A (g2 m y z)) M i).map (fun z => (nI (g1 m x z), nI (g2 m y z)))) (fX1_isShowing_129 (nI m) (nI x) (nI y) N τ (nI (F1 m)) (nI (F2 m)) (nI i)) := by
    intro M
    induction M with
    | zero =>
      intro N i hi hN
      obtain ⟨N', rfl⟩ : ∃ N', N = N' + 1 := ⟨N - 1, by omega⟩
      rw [fX1_isShowing_129, h4, if_pos (nI_le (by omega) (by omega))]
      exact ⟨τ, rfl, Fr.rf, fun _ => rfl, fun a b e => by cases e⟩
    | succ M ih =>
      intro N i hi hN
      obtain ⟨N', rfl⟩ : ∃ N', N = N' + 1 := ⟨N - 1, by omega⟩
      have e := ih N' (i + 1) (by omega) (by omega)
      have b1 := g1_lt (m := m) hx (show i < 4 by omega)
      have b2 := g2_lt (m := m) hy (show i < 4 by omega)
      have main : XRes τ ((srch (fun z => A (g1 m x z) && A (g2 m y z)) (M + 1) i).map (fun z => (nI (g1 m x z), nI (g2 m y z)))) (fX1_isShowing_173 (nI m) (nI x) (nI y) (fX1_isShowing_129 (nI m) (nI x) (nI y) N') τ (nI (F1 m)) (nI (F2 m)) (nI i) (nI (g1 m x i)) (nI (g2 m y i))) := by
        rw [fX1_isShowing_173, nm_i, x_of2 b1 b2, hA _ b1, hA _ b2]
        dsimp only
        cases hb : A (g1 m x i) && A (g2 m y i) with
        | true =>
          have es : srch (fun z => A (g1 m x z) && A (g2 m y z)) (M + 1) i = some i := by rw [srch, if_pos hb]
          rw [es, if_neg (by decide)]
          exact XRes.of (τ := τ) (c := true) (a := nI (g1 m x i)) (b := nI (g2 m y i))
        | false =>
          have es : srch (fun z => A (g1 m x z) && A (g2 m y z)) (M + 1) i = srch (fun z => A (g1 m x z) && A (g2 m y z)) M (i + 1) := by rw [srch, if_neg (by rw [hb]; decide)]
          rw [es, if_pos (by decide), nm_i, i1, nI_add]
          exact e
      rw [fX1_isShowing_129, h4, if_neg (nI_ge (by omega) (by omega)), nm_i]
      by_cases h6 : m = 6
      · rw [if_pos (by rw [h6]; rfl), nm_i, x_num, x_num]
        have : 16 * F2 m + 4 * y + i = g2 m y i := by unfold g2; rw [if_pos h6, hm6 h6]; omega
        rw [this]
        exact main
      · rw [i6, if_neg (fun z => h6 (nI_inj (by omega) (by omega) z)), nm_i, x_num, x_num]
        have : 16 * F2 m + 4 * i + y = g2 m y i := by unfold g2; rw [if_neg h6]
        rw [this]
        exact main
  exact key K FU 0 (by omega) (by unfold FU; omega)
theorem x_showing (hK : K ≤ 4) (h4 : tI τ 27 4 = nI K) (hA : ∀ f, f < 64 → lb (tL τ 27 2) f = A f) {m x y : Nat} (hx : x < 4) (hy : y < 4) (hm : m < 9) :
    XRes τ (shwX K A m x y) (fX1_isShowing τ (nI m) (nI x) (nI y)) := by
  have go : fX1_isShowing τ (nI m) (nI x) (nI y) = fX1_isShowing_38 (nI m) (nI x) (nI y) τ (vFIRST m) (vSECOND m) := by
    rw [fX1_isShowing, i9, if_neg (nI_ge hm (by omega)), if_neg (nI_in hm (by decide)), nI_clamp (by omega), fX1_isShowing_18, i9, if_neg (nI_ge hm (by omega)), if_neg (nI_in hm (by decide)), nI_clamp (by omega)]
  rw [go, fX1_isShowing_38]
  have at126 : ∀ m, m < 9 → ((m = 4 ∨ m = 5 ∨ m = 7 ∨ m = 8) ∨ (vFIRST m = nI (F1 m) ∧ vSECOND m = nI (F2 m))) := by decide
  have l126 : m ≠ 4 → m ≠ 5 → m ≠ 7 → m ≠ 8 → XRes τ (shwX K A m x y) (fX1_isShowing_126 (nI m) (nI x) (nI y) τ (vFIRST m) (vSECOND m)) := by
    intro n4 n5 n7 n8
    unfold shwX shw
    rw [if_neg n7, if_neg (fun z => z.elim n4 n5), if_neg n8, if_neg n7]
    exact x_look126 hK h4 hA hx hy ((at126 m hm).resolve_left (by omega)) hm (fun e => by rw [e]; rfl)
  have q : ∀ k, k < 9 → ((nI m = nI k) ↔ m = k) := fun k hk => nI_eq (by omega) (by omega)
  have l76 : (m = 4 ∨ m = 5) → XRes τ (shwX K A m x y) (fX1_isShowing_76 (nI m) (nI x) (nI y) τ (vFIRST m)) := by
    intro h45
    have hb : 16 * F1 m + 4 * y + x < 64 := by have := F1_lt m; omega
    rw [fX1_isShowing_76, nm_i, nm_i]
    have e1 : vFIRST m = nI (F1 m) := by rcases h45 with rfl | rfl <;> rfl
    rw [e1, x_num, x_of1 hb, hA _ hb]
    unfold shwX shw
    rw [if_neg (by omega), if_pos h45]
    exact XRes.of
  by_cases m4 : m = 4
  · rw [i4, if_pos ((q 4 (by omega)).mpr m4)]
    exact l76 (Or.inl m4)
  rw [i4, if_neg (fun z => m4 ((q 4 (by omega)).mp z))]
  by_cases m5 : m = 5
  · rw [i5, if_pos ((q 5 (by omega)).mpr m5)]
    exact l76 (Or.inr m5)
  rw [i5, if_neg (fun z => m5 ((q 5 (by omega)).mp z))]
  by_cases m6 : m = 6
  · rw [i6, if_pos ((q 6 (by omega)).mpr m6)]
    exact l126 m4 m5 (by omega) (by omega)
  rw [i6, if_neg (fun z => m6 ((q 6 (by omega)).mp z))]
  by_cases m7 : m = 7
  · rw [i7, if_pos ((q 7 (by omega)).mpr m7)]
    unfold shwX
    rw [if_pos m7]
    by_cases hxy : x = y
    · rw [if_pos hxy, if_pos (by rw [hxy]), nm_i, x_of0]
      exact XRes.of (τ := τ) (c := true) (a := -9) (b := -9)
    · rw [if_neg hxy, if_neg (fun z => hxy (nI_inj (by omega) (by omega) z))]
      exact ⟨τ, rfl, Fr.rf, fun _ => rfl, fun a b e => by cases e⟩
  rw [i7, if_neg (fun z => m7 ((q 7 (by omega)).mp z))]
  by_cases m8 : m = 8
  · rw [i8, if_pos ((q 8 (by omega)).mpr m8), nm_i, nm_i]
    have hb : 4 * x + y < 64 := by omega
    subst m8
    rw [show vFIRST 8 = nI 0 from rfl, x_num, show 16 * 0 + 4 * x + y = 4 * x + y by omega, x_of1 hb, hA _ hb]
    unfold shwX shw
    rw [if_neg (by omega), if_neg (by omega), if_pos rfl]
    exact XRes.of
  rw [i8, if_neg (fun z => m8 ((q 8 (by omega)).mp z))]
  exact l126 m4 m5 m7 m8
/-- the least mood -/
def lstX (K : Nat) (A : Nat → Bool) (md f m : Nat) : Bool := md.testBit m && decide (SH m = f / 16) && (shwX K A m (f / 4 % 4) (f % 4)).isSome
theorem x_f2 : ∀ f, f < 64 → ((nI f >>> ((2 : Int32) &&& 31)) &&& (3 : Int32)) = nI (f / 4 % 4) := by decide +kernel
theorem x_f0 : ∀ f, f < 64 → (nI f &&& (3 : Int32)) = nI (f % 4) := by decide +kernel
theorem x_f4 : ∀ f, f < 64 → (nI f >>> ((4 : Int32) &&& 31)) = nI (f / 16) := by decide +kernel
theorem SH_ok : ∀ m, m < 9 → vSHOWS m = nI (SH m) ∧ SH m < 4 := by decide
theorem x_leastMood (hK : K ≤ 4) (h4 : tI τ 27 4 = nI K) (hA : ∀ f, f < 64 → lb (tL τ 27 2) f = A f) {md f : Nat} (h3 : tI τ 27 3 = nI md) (hmd : md < 512) (hf : f < 64) :
    ∃ τ', fX1_leastMood τ (nI f) = some (encC (srch (lstX K A md f) 9 0), τ') ∧ Fr [(27, 5), (27, 6)] [] τ τ' ∧ (srch (lstX K A md f) 9 0 = none → τ' = τ) ∧ ∀ m, srch (lstX K A md f) 9 0 = some m → ∃ a b, shwX K A m (f / 4 % 4) (f % 4) = some (a, b) ∧ tI τ' 27 5 = a ∧ tI τ' 27 6 = b := by
  have key : ∀ M N i, i + M = 9 → M < N → ∃ τ', fX1_leastMood_2 (nI f) N τ (nI i) = some (encC (srch (lstX K A md f) M i), τ') ∧ Fr [(27, 5), (27, 6)] [] τ τ' ∧ (srch (lstX K A md f) M i = none → τ' = τ) ∧ ∀ m, srch (lstX K A md f) M i = some m → ∃ a b, shwX K A m (f / 4 % 4) (f % 4) = some (a, b) ∧ tI τ' 27 5 = a ∧ tI τ' 27 6 = b := by
    intro M
    induction M with
    | zero =>
      intro N i hi hN
      obtain ⟨N', rfl⟩ : ∃ N', N = N' + 1 := ⟨N - 1, by omega⟩
      rw [fX1_leastMood_2, i9, if_pos (nI_le (by omega) (by omega))]
      exact ⟨τ, rfl, Fr.rf, fun _ => rfl, fun m e => by cases e⟩
    | succ M ih =>
      intro N i hi hN
      obtain ⟨N', rfl⟩ : ∃ N', N = N' + 1 := ⟨N - 1, by omega⟩
      have e := ih N' (i + 1) (by omega) (by omega)
      have him : i < 9 := by omega
      have stay : lstX K A md f i = false → ∃ τ', fX1_leastMood_66 (nI f) (fX1_leastMood_2 (nI f) N') τ (nI i) = some (encC (srch (lstX K A md f) (M + 1) i), τ') ∧ Fr [(27, 5), (27, 6)] [] τ τ' ∧ (srch (lstX K A md f) (M + 1) i = none → τ' = τ) ∧ ∀ m, srch (lstX K A md f) (M + 1) i = some m → ∃ a b, shwX K A m (f / 4 % 4) (f % 4) = some (a, b) ∧ tI τ' 27 5 = a ∧ tI τ' 27 6 = b := by
        intro hz
        rw [fX1_leastMood_66, nm_i, i1, nI_add, srch, if_neg (by rw [hz]; decide)]
        exact e
      rw [fX1_leastMood_2, i9, if_neg (nI_ge him (by omega)), if_neg (nI_ge him (by omega)), nm_i, h3, x_has (by omega) (by omega)]
      cases hb : md.testBit i with
      | false =>
        rw [if_pos (by decide), fX1_leastMood_42, fX1_leastMood_43, if_pos rfl]
        exact stay (by unfold lstX; rw [hb]; rfl)
      | true =>
        obtain ⟨s1, s2⟩ := SH_ok i him
        rw [if_neg (by decide), if_neg (nI_in him (by decide)), nI_clamp (by omega), s1, x_f4 f hf]
        by_cases hs : SH i = f / 16
        · rw [if_pos (by rw [hs]), fX1_leastMood_43, if_neg (by decide), x_f2 f hf, x_f0 f hf]
          obtain ⟨τ', e1, f1, n1, s1⟩ := x_showing (m := i) (x := f / 4 % 4) (y := f % 4) hK h4 hA (Nat.mod_lt _ (by omega)) (Nat.mod_lt _ (by omega)) him
          rw [e1, Option.bind_some]
          dsimp only
          cases hr : shwX K A i (f / 4 % 4) (f % 4) with
          | none =>
            rw [n1 hr]
            rw [if_pos (show bI (Option.isSome (none : Option (Int32 × Int32))) = 0 from rfl)]
            exact stay (by unfold lstX; rw [hr]; simp)
          | some ab =>
            rw [if_neg (show ¬ bI (Option.isSome (some ab)) = 0 by show ¬ bI true = 0; decide), srch, if_pos (by unfold lstX; rw [hb, hr]; simp [hs])]
            refine ⟨τ', rfl, f1, fun z => (by cases z), fun m em => ?_⟩
            cases em
            exact ⟨ab.1, ab.2, hr, s1 ab.1 ab.2 hr⟩
        · rw [if_neg (fun z => hs (nI_inj (by omega) (by omega) z)), fX1_leastMood_42, fX1_leastMood_43, if_pos rfl]
          exact stay (by unfold lstX; simp [hs])
  unfold fX1_leastMood
  rw [i0]
  exact key 9 FU 0 (by omega) (by unfold FU; omega)
end XM
