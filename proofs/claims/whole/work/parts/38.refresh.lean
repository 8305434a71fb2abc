/-! the heap table is made anew -/
def bitsTo (h : Nat → Bool) : Nat → Nat
  | 0 => 0
  | n + 1 => if h n then bitsTo h n ||| 2 ^ n else bitsTo h n
theorem bitsTo_bit (h : Nat → Bool) : ∀ n i, (bitsTo h n).testBit i = (decide (i < n) && h i)
  | 0, i => by simp [bitsTo]
  | n + 1, i => by
    rw [bitsTo]
    by_cases hn : h n = true
    · rw [if_pos hn, or_bit, bitsTo_bit h n i]
      by_cases e : n = i
      · subst e; simp [hn]
      · have : (i < n + 1) ↔ i < n := by omega
        simp [e, this]
    · rw [if_neg hn, bitsTo_bit h n i]
      by_cases e : n = i
      · subst e; simp at hn; simp [hn]
      · have : (i < n + 1) ↔ i < n := by omega
        simp [this]
theorem bitsTo_lt (h : Nat → Bool) : ∀ n, bitsTo h n < 2 ^ n
  | 0 => by simp [bitsTo]
  | n + 1 => by
    have ih := bitsTo_lt h n
    have h2 : 2 ^ (n + 1) = 2 ^ n * 2 := Nat.pow_succ ..
    rw [bitsTo]
    split
    · exact Nat.or_lt_two_pow (by omega) (Nat.pow_lt_pow_right (by omega) (by omega))
    · omega
theorem mask31 (i : Nat) : (2 ^ 31 - 1 : Nat).testBit i = decide (i < 31) := Nat.testBit_two_pow_sub_one 31 i
theorem unbit_bit {m B i : Nat} (hi : i < 31) : (unbit m B).testBit i = (m.testBit i && !B.testBit i) := by
  unfold unbit
  rw [Nat.testBit_and, Nat.testBit_xor, mask31]
  simp [hi]
theorem newMark_bit {m B i : Nat} {b : Bool} (hi : i < 31) : (newMark m B b).testBit i = if B.testBit i then b else m.testBit i := by
  unfold newMark
  cases b with
  | true => rw [if_pos rfl, Nat.testBit_or, unbit_bit hi]; cases B.testBit i <;> simp
  | false => rw [if_neg (by decide), unbit_bit hi]; cases B.testBit i <;> simp
theorem x_has {st i : Nat} (h : st < 2 ^ 31) (hi : i < 31) : fX6_has (nI st) (nI i) = st.testBit i := by
  unfold fX6_has
  rw [nI_bit h hi]
  cases st.testBit i <;> decide
def likeB (d e : Sd) : Bool := decide (sdW d = sdW e ∧ sdN d = sdN e ∧ sdT d = sdT e ∧ sdX d = sdX e ∧ sdY d = sdY e)
theorem like_hold {d e : Sd} (h : likeB d e = true) (c : Nat → Nat) : hold e c = hold d c := by
  unfold likeB at h
  obtain ⟨h1, h2, h3, h4, h5⟩ := of_decide_eq_true h
  unfold hold tru
  rw [h1, h2, h3, h4, h5]
theorem bI_inj {a b : Bool} (h : bI a = bI b) : a = b := by cases a <;> cases b <;> simp_all [bI]
def SdLt (d : Sd) : Prop := sdW d < 8 ∧ sdN d ≤ 6 ∧ sdX d < 65536 ∧ sdY d < 65536
theorem x_isLike {τ : Tau} {q q1 : Nat} {d e : Sd} (h : SX τ q d) (h' : SX τ q1 e) (hd : SdLt d) (he : SdLt e) : fX3_isLike q q1 τ = likeB d e := by
  obtain ⟨a0, a1, a2, a3, a4, a5⟩ := h
  obtain ⟨b0, b1, b2, b3, b4, b5⟩ := h'
  obtain ⟨d1, d2, d3, d4⟩ := hd
  obtain ⟨e1, e2, e3, e4⟩ := he
  unfold fX3_isLike likeB
  rw [a0, a1, a2, a3, a4, b0, b1, b2, b3, b4]
  by_cases g1 : sdW d = sdW e
  · rw [if_pos (by rw [g1])]
    by_cases g2 : sdN d = sdN e
    · rw [if_pos (by rw [g2])]
      by_cases g3 : sdT d = sdT e
      · rw [if_pos (by rw [g3])]
        by_cases g4 : sdX d = sdX e
        · rw [if_pos (by rw [g4])]
          by_cases g5 : sdY d = sdY e
          · rw [if_pos (by rw [g5])]; simp [g1, g2, g3, g4, g5]
          · rw [if_neg (fun z => g5 (nI_inj (by omega) (by omega) z))]; simp [g5]
        · rw [if_neg (fun z => g4 (nI_inj (by omega) (by omega) z))]; simp [g4]
      · rw [if_neg (fun z => g3 (bI_inj z))]; simp [g3]
    · rw [if_neg (fun z => g2 (nI_inj (by omega) (by omega) z))]; simp [g2]
  · rw [if_neg (fun z => g1 (nI_inj (by omega) (by omega) z))]; simp [g1]
theorem x_likes {τ : Tau} {q : Nat} {d : Nat → Sd} {e : Sd} (hq : SX τ q e) (he : SdLt e) (hX : ∀ i, i < 10 → SX τ (i + 2) (d i)) (hd : ∀ i, i < 10 → SdLt (d i)) :
    fX0_likes q τ = some (nI (bitsTo (fun j => likeB e (d j)) 10)) := by
  have key : ∀ N i, i ≤ 10 → 10 - i < N → fX0_likes_4 q τ N (nI (bitsTo (fun j => likeB e (d j)) i)) (nI i) = some (nI (bitsTo (fun j => likeB e (d j)) 10)) := by
    intro N
    induction N with
    | zero => intro i _ h; omega
    | succ N ih =>
      intro i hi hN
      rw [fX0_likes_4]
      by_cases hlt : i < 10
      · rw [i10, if_neg (nI_ge hlt (by omega)), if_neg (nI_ge hlt (by omega)), if_neg (nI_in hlt (by decide)), nm_i, nI_clamp (by omega), x_isLike hq (hX i hlt) he (hd i hlt)]
        have e1 := ih (i + 1) (by omega) (by omega)
        cases hb : likeB e (d i) with
        | true =>
          rw [if_neg (by decide), nm_i, fX0_likes_41, nm_i, nI_one (by omega), nI_or, i1, nI_add]
          rw [bitsTo, if_pos hb] at e1
          exact e1
        | false =>
          rw [if_pos (by decide), fX0_likes_41, nm_i, i1, nI_add]
          rw [bitsTo, if_neg (by rw [hb]; decide)] at e1
          exact e1
      · have : i = 10 := by omega
        subst this
        rw [i10, if_pos (nI_le (Nat.le_refl _) (by omega))]
  unfold fX0_likes
  rw [i0]
  exact key FU 0 (by omega) (by unfold FU; omega)
/-- what is known of the heap table: st: which sayings are not marked yet, ml: how many marks there is room for -/
def HInv (τ : Tau) (S n : Nat) (d : Nat → Sd) (st ml : Nat) (mk : Nat → Nat) : Prop :=
  tI τ 17 6 = nI S ∧ tI τ 17 7 = nI n ∧ tI τ 17 8 = nI (tot S n) ∧ tI τ 17 9 = nI st ∧ tI τ 26 0 = nI ml ∧ tA τ 21 0 = nI 0 ∧ (∀ i, i < 10 → SX τ (i + 2) (d i)) ∧ st < 1024 ∧ ml < 100000 ∧ (∀ w, w < ml → tA τ 26 w = nI (mk w) ∧ mk w < 1024) ∧ (∀ i, i < 10 → st.testBit i = false → tot S n ≤ ml ∧ ∀ w, w < tot S n → (mk w).testBit i = hold (d i) (lc (wv S n w)))
/-- which sayings hold in the world w, as bits -/
def mkS (d : Nat → Sd) (S n w : Nat) : Nat := bitsTo (fun i => hold (d i) (lc (wv S n w))) 10
theorem mkS_lt (d : Nat → Sd) (S n w : Nat) : mkS d S n w < 1024 := bitsTo_lt _ 10
def HTab (τ : Tau) (S n : Nat) (d : Nat → Sd) : Prop :=
  (∀ h, h < 1024 → tA τ 22 h = nI (cf (mkS d S n) (tot S n) h)) ∧ (∀ h w0, h < 1024 → IsFst (mkS d S n) (tot S n) h w0 → tA τ 23 h = nI w0) ∧ (∀ s, s < 1024 → tA τ 24 s = nI (cov (mkS d S n) (tot S n) s))
abbrev rfF : List (Nat × Nat) := [(17, 9), (18, 3), (18, 4), (18, 5), (26, 0)]
abbrev rfS : List Nat := [19, 20, 21, 22, 23, 24, 26]
theorem HInv.fr {τ τ' : Tau} {S n : Nat} {d : Nat → Sd} {st ml : Nat} {mk : Nat → Nat} {F : List (Nat × Nat)} {A : List Nat} (h : HInv τ S n d st ml mk) (hF : Fr F A τ τ') (h1 : ∀ q ∈ F, ¬ ((2 ≤ q.1 ∧ q.1 < 12) ∨ q = (17, 6) ∨ q = (17, 7) ∨ q = (17, 8) ∨ q = (17, 9) ∨ q = (26, 0))) (h2 : 21 ∉ A) (h3 : 26 ∉ A) : HInv τ' S n d st ml mk := by
  obtain ⟨a1, a2, a3, a4, a5, a6, a7, a8, a9, a10, a11⟩ := h
  refine ⟨?_, ?_, ?_, ?_, ?_, ?_, fun i hi => (a7 i hi).fr hF (fun j hm => h1 _ hm (Or.inl (by show 2 ≤ i + 2 ∧ i + 2 < 12; omega))), a8, a9, fun w hw => ?_, a11⟩
  · rw [(hF.1 17 6 (fun hm => h1 _ hm (by simp))).1, a1]
  · rw [(hF.1 17 7 (fun hm => h1 _ hm (by simp))).1, a2]
  · rw [(hF.1 17 8 (fun hm => h1 _ hm (by simp))).1, a3]
  · rw [(hF.1 17 9 (fun hm => h1 _ hm (by simp))).1, a4]
  · rw [(hF.1 26 0 (fun hm => h1 _ hm (by simp))).1, a5]
  · rw [(hF.2 21 h2 0).1, a6]
  · rw [(hF.2 26 h3 w).1]; exact a10 w hw
theorem HTab.fr {τ τ' : Tau} {S n : Nat} {d : Nat → Sd} {F : List (Nat × Nat)} {A : List Nat} (h : HTab τ S n d) (hF : Fr F A τ τ') (h2 : 22 ∉ A) (h3 : 23 ∉ A) (h4 : 24 ∉ A) : HTab τ' S n d :=
  ⟨fun q hq => by rw [(hF.2 22 h2 q).1]; exact h.1 q hq, fun q w hq hw => by rw [(hF.2 23 h3 q).1]; exact h.2.1 q w hq hw, fun q hq => by rw [(hF.2 24 h4 q).1]; exact h.2.2 q hq⟩
section RF
variable {S n : Nat} {d : Nat → Sd}
theorem x_finish {τ : Tau} {st ml : Nat} {mk : Nat → Nat} (hT : tot S n < 100000) (h : HInv τ S n d st ml mk) (hle : tot S n ≤ ml) (h0 : ∀ i, i < 10 → st.testBit i = false) :
    ∃ τ', fX0_refresh_101 τ = some τ' ∧ HInv τ' S n d 0 ml mk ∧ HTab τ' S n d ∧ Fr rfF rfS τ τ' := by
  obtain ⟨a1, a2, a3, a4, a5, a6, a7, a8, a9, a10, a11⟩ := id h
  have hmk : ∀ w, w < tot S n → mk w = mkS d S n w := by
    intro w hw
    refine bits_eq (a10 w (by omega)).2 (mkS_lt d S n w) (fun i hi => ?_)
    unfold mkS
    rw [bitsTo_bit, ((a11 i hi (h0 i hi)).2 w hw)]
    simp [hi]
  unfold fX0_refresh_101
  rw [nm_i, i0]
  obtain ⟨τ1, e1, f1, m1, m2⟩ := x_fillHeaps (τ := sI τ 17 9 (nI 0)) (mk := mkS d S n) hT (by rw [tI_sI, if_neg (by omega)]; exact a3) (by rw [tI_sI, if_neg (by omega)]; exact a5) a9 hle (fun w hw => ⟨by rw [tA_sI, (a10 w (by omega)).1, hmk w hw], mkS_lt d S n w⟩)
  obtain ⟨τ2, e2, f2, m3⟩ := x_together (τ := τ1) (mk := mkS d S n) hT (fun w _ => mkS_lt d S n w) m1
  rw [e1, Option.bind_some, e2, Option.bind_some]
  have fs : Fr rfF rfS τ (sI τ 17 9 (nI 0)) := Fr.sI (by decide)
  refine ⟨τ2, rfl, ?_, ⟨fun q hq => ?_, fun q w hq hw => ?_, m3⟩, (fs.tr (f1.wk (by decide) (by decide))).tr (f2.wk (by decide) (by decide))⟩
  · have k : HInv (sI τ 17 9 (nI 0)) S n d 0 ml mk := by
      refine ⟨?_, ?_, ?_, ?_, ?_, ?_, fun i hi => (a7 i hi).fr (F := [(17, 9)]) (A := []) (Fr.sI (by decide)) (fun j hm => by simp at hm; omega), by omega, a9, fun w hw => ?_, fun i hi _ => a11 i hi (h0 i hi)⟩
      · rw [tI_sI, if_neg (by omega)]; exact a1
      · rw [tI_sI, if_neg (by omega)]; exact a2
      · rw [tI_sI, if_neg (by omega)]; exact a3
      · rw [tI_sI, if_pos ⟨rfl, rfl⟩]
      · rw [tI_sI, if_neg (by omega)]; exact a5
      · rw [tA_sI]; exact a6
      · rw [tA_sI]; exact a10 w hw
    exact (k.fr f1 (by simp) (by decide) (by decide)).fr f2 (by simp) (by decide) (by decide)
  · rw [(f2.2 22 (by decide) q).1]; exact m1 q hq
  · rw [(f2.2 23 (by decide) q).1]; exact m2 q w hq hw
theorem x_refreshLoop {τ0 : Tau} {ml : Nat} (hT : tot S n < 100000) (hS1 : 1 < S) (hS : S ≤ 16) (hn : n ≤ 6) (hle : tot S n ≤ ml) (hd : ∀ i, i < 10 → SdLt (d i)) :
    ∀ (N i : Nat) (τ : Tau) (st : Nat) (mk : Nat → Nat), i ≤ 10 → 10 - i < N → HInv τ S n d st ml mk → (∀ j, j < i → st.testBit j = false) → Fr rfF rfS τ0 τ →
      ∃ τ' mk', fX0_refresh_32 N τ (nI i) = some τ' ∧ HInv τ' S n d 0 ml mk' ∧ HTab τ' S n d ∧ Fr rfF rfS τ0 τ' := by
  intro N
  induction N with
  | zero => intro i _ _ _ _ h; omega
  | succ N ih =>
    intro i τ st mk hi hN h hj hF
    obtain ⟨a1, a2, a3, a4, a5, a6, a7, a8, a9, a10, a11⟩ := id h
    rw [fX0_refresh_32]
    by_cases hlt : i < 10
    · rw [i10, if_neg (nI_ge hlt (by omega)), if_neg (nI_ge hlt (by omega)), if_neg (nI_in hlt (by decide)), nm_i, nI_clamp (by omega), a4, x_has (by omega) (by omega)]
      cases hb : st.testBit i with
      | false =>
        rw [if_pos (by decide), fX0_refresh_95, nm_i, i1, nI_add]
        refine ih (i + 1) τ st mk (by omega) (by omega) h (fun j hj2 => ?_) hF
        by_cases e : j = i
        · rw [e]; exact hb
        · exact hj j (by omega)
      | true =>
        have hsl : SdLt (d i) := hd i hlt
        rw [if_neg (by decide), x_likes (a7 i hlt) hsl a7 hd, Option.bind_some, nm_i, nI_and]
        have hB : st &&& bitsTo (fun j => likeB (d i) (d j)) 10 < 1024 := Nat.lt_of_le_of_lt Nat.and_le_left a8
        have hBb : ∀ j, j < 10 → (st &&& bitsTo (fun j => likeB (d i) (d j)) 10).testBit j = (st.testBit j && likeB (d i) (d j)) := by
          intro j hj2
          rw [Nat.testBit_and, bitsTo_bit]
          simp [hj2]
        generalize st &&& bitsTo (fun j => likeB (d i) (d j)) 10 = B at hB hBb
        obtain ⟨τ1, e1, f1, g1, g2⟩ := x_mark (τ := τ) (q := i + 2) (d := d i) (S := S) (n := n) (B := B) (ml := ml) (mk := mk) (a7 i hlt) (Or.inl (by omega)) hsl.1 hsl.2.1 hsl.2.2.1 hsl.2.2.2 hS1 hS hn hT a1 a2 a3 a5 a9 hle a6 (fun w hw => a10 w (by omega)) hB
        rw [e1, Option.bind_some, nm_i, (f1.1 17 9 (by decide)).1, a4, nI_not (by omega) (by omega), fX0_refresh_95, nm_i, i1, nI_add]
        refine ih (i + 1) _ (unbit st B) (fun w => if w < tot S n then newMark (mk w) B (hold (d i) (lc (wv S n w))) else mk w) (by omega) (by omega) ?_ (fun j hj2 => ?_) ((hF.tr (f1.wk (by decide) (by decide))).tr (Fr.sI (by decide)))
        · refine ⟨?_, ?_, ?_, ?_, ?_, ?_, fun j hj2 => ?_, unbit_lt a8, a9, fun w hw => ?_, fun j hj2 hst => ⟨hle, fun w hw => ?_⟩⟩
          · rw [tI_sI, if_neg (by omega), (f1.1 17 6 (by decide)).1, a1]
          · rw [tI_sI, if_neg (by omega), (f1.1 17 7 (by decide)).1, a2]
          · rw [tI_sI, if_neg (by omega), (f1.1 17 8 (by decide)).1, a3]
          · rw [tI_sI, if_pos ⟨rfl, rfl⟩]; rfl
          · rw [tI_sI, if_neg (by omega), (f1.1 26 0 (by decide)).1, a5]
          · rw [tA_sI, g1]
          · refine ((a7 j hj2).fr f1 (fun t hm => by simp at hm; omega)).fr (F := [(17, 9)]) (A := []) (Fr.sI (by decide)) (fun t hm => by simp at hm; omega)
          · rw [tA_sI, g2 w]
            dsimp only
            by_cases hwt : w < tot S n
            · rw [if_pos hwt, if_pos hwt]
              exact ⟨rfl, newMark_lt (a10 w hw).2 hB⟩
            · rw [if_neg hwt, if_neg hwt]
              exact a10 w hw
          · dsimp only
            rw [if_pos hw, newMark_bit (by omega)]
            rw [unbit_bit (by omega)] at hst
            cases hBj : B.testBit j with
            | true =>
              rw [if_pos rfl]
              have := hBb j hj2
              rw [hBj] at this
              have hl : likeB (d i) (d j) = true := by
                have t2 := this.symm
                rw [Bool.and_eq_true] at t2
                exact t2.2
              exact (like_hold hl _).symm
            | false =>
              rw [if_neg (by decide)]
              rw [hBj] at hst
              simp at hst
              exact (a11 j hj2 hst).2 w hw
        · rw [unbit_bit (by omega)]
          by_cases e : j = i
          · subst e
            rw [hBb j hlt, hb]
            have : likeB (d j) (d j) = true := by unfold likeB; simp
            rw [this]; rfl
          · rw [hj j (by omega)]; rfl
    · have : i = 10 := by omega
      subst this
      rw [i10, if_pos (nI_le (Nat.le_refl _) (by omega))]
      obtain ⟨τ', e, k1, k2, k3⟩ := x_finish hT h hle hj
      exact ⟨τ', mk, e, k1, k2, hF.tr k3⟩
theorem x_refresh {τ : Tau} {st ml : Nat} {mk : Nat → Nat} (hT : tot S n < 100000) (hS1 : 1 < S) (hS : S ≤ 16) (hn : n ≤ 6) (hd : ∀ i, i < 10 → SdLt (d i)) (h : HInv τ S n d st ml mk) (ht : st = 0 → HTab τ S n d) :
    ∃ τ' mk', fX0_refresh τ = some τ' ∧ HInv τ' S n d 0 (if tot S n ≤ ml then ml else tot S n) mk' ∧ HTab τ' S n d ∧ Fr rfF rfS τ τ' := by
  obtain ⟨a1, a2, a3, a4, a5, a6, a7, a8, a9, a10, a11⟩ := id h
  unfold fX0_refresh
  rw [a4, a3, a5, nI_clamp (by omega)]
  by_cases hst : st = 0
  · subst hst
    rw [i0, if_pos rfl]
    have hle : tot S n ≤ ml := (a11 0 (by omega) (by simp)).1
    rw [if_pos hle]
    exact ⟨τ, mk, rfl, h, ht rfl, Fr.rf⟩
  · rw [i0, if_neg (fun z => hst (nI_inj (by omega) (by omega) z))]
    by_cases hle : tot S n ≤ ml
    · rw [if_pos (nI_le hle (by omega)), if_pos hle, fX0_refresh_30, i0]
      exact x_refreshLoop hT hS1 hS hn hle hd FU 0 τ st mk (by omega) (by unfold FU; omega) h (fun j hj => by omega) Fr.rf
    · rw [if_neg (nI_ge (by omega) (by omega)), if_neg hle, ← i0, if_neg (show ¬ (nI (tot S n) < 0 ∨ 1000000 ≤ (nI (tot S n)).toNatClampNeg) from nI_in (by omega) (by omega)), nm_i, fX0_refresh_30, i0]
      refine x_refreshLoop hT hS1 hS hn (Nat.le_refl _) hd FU 0 _ st (fun _ => 0) (by omega) (by unfold FU; omega) ?_ (fun j hj => by omega) (Fr.sN (by decide) (by decide))
      refine ⟨?_, ?_, ?_, ?_, ?_, ?_, fun i hi => (a7 i hi).fr (F := [(26, 0)]) (A := [26]) (Fr.sN (by decide) (by decide)) (fun j hm => by simp at hm; omega), a8, by omega, fun w hw => ?_, fun i hi hz => absurd (a11 i hi hz).1 hle⟩
      · rw [tI_sN, if_neg (by omega)]; exact a1
      · rw [tI_sN, if_neg (by omega)]; exact a2
      · rw [tI_sN, if_neg (by omega)]; exact a3
      · rw [tI_sN, if_neg (by omega)]; exact a4
      · rw [tI_sN, if_pos ⟨rfl, rfl⟩]
      · rw [tA_sN, if_neg (by omega)]; exact a6
      · rw [tA_sN, if_pos rfl]; exact ⟨rfl, show 0 < 1024 by decide⟩
end RF
