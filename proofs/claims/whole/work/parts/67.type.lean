/-! typing: both sides take the same bytes -/
def byt (n j : Nat) : Nat := n / 2 ^ (8 * j) % 256
theorem byt_lt (n j : Nat) : byt n j < 256 := Nat.mod_lt _ (by omega)
theorem qN_i32 (n : Nat) : (qN n).toInt32 = nI n := by
  apply Int32.toBitVec_inj.mp
  rw [Int64.toBitVec_toInt32, qN_bv]
  show BitVec.signExtend 32 (BitVec.ofNat 64 n) = BitVec.ofNat 32 n
  rw [BitVec.signExtend_eq_setWidth_of_le _ (by omega), BitVec.setWidth_ofNat_of_le (by omega)]
theorem x_byte {n j : Nat} (hn : n < 2 ^ 64) (hj : j < 8) : ((((qN n).toUInt64 >>> ((((8 : Int32) * nI j).toInt64.toUInt64) &&& Int64.toUInt64 63)).toInt64 &&& (255 : Int64)).toInt32) = nI (byt n j) := by
  rw [show (8 : Int32) * nI j = nI (8 * j) by rw [i8, pk_mul], qN_shr hn (by omega), show (255 : Int64) = qN 255 from rfl, qN_and (Nat.lt_of_le_of_lt (Nat.div_le_self _ _) hn) (by decide), qN_i32]
  congr 1
  exact Nat.and_two_pow_sub_one_eq_mod _ 8
theorem l_255 : ∀ i, i < 64 → lb 255 i = decide (i < 8) := by decide +kernel
theorem lb_sshrI (L : Int64) {f i : Nat} (hf : f < 64) (hi : f + i < 64) : lb (L >>> ((nI f).toInt64 &&& 63)) i = lb L (f + i) := by
  unfold lb
  rw [Int64.toBitVec_shiftRight, l_shl f hf, BitVec.sshiftRight_eq', BitVec.getLsbD_sshiftRight, BitVec.toNat_ofNat, Nat.mod_eq_of_lt (by omega)]
  have h1 : i < 64 := by omega
  simp [hi]
  intro h
  omega
theorem m_byte {n j : Nat} (hn : n < 2 ^ 64) (hj : j < 8) : ((((qN n) >>> (((8 : Int32) * nI j).toInt64 &&& 63)) &&& (255 : Int64)).toInt32) = nI (byt n j) := by
  rw [← x_byte hn hj]
  congr 1
  rw [show (8 : Int32) * nI j = nI (8 * j) by rw [i8, pk_mul]]
  apply lb_ext
  intro i hi
  rw [lb_and, lb_and, l_255 i hi]
  by_cases h : i < 8
  · rw [decide_eq_true h, lb_sshrI _ (by omega) (by omega), lb_ushr _ (by omega)]
  · rw [decide_eq_false h]; simp
section TY
variable {τx τm : Tau} {K N md ml len : Nat} {d : Nat → Sd} {cw : Nat → Nat} {tx : Nat → Nat}
def txN (tx : Nat → Nat) (len n v j : Nat) : Nat := if j < len then tx j else byt n (v - 1 - (j - len))
def cI (c : Nat) : Int32 := if c = 0 then -1 else nI (c - 1)
theorem cI_dec {c : Nat} (h : 0 < c) : nI (c - 1) + (-1 : Int32) = cI (c - 1) := by
  unfold cI
  by_cases e : c - 1 = 0
  · rw [if_pos e, e]; rfl
  · rw [if_neg e, nI_dec (by omega)]
theorem x_append {τ0 : Tau} {n v : Nat} {p2 : Int32} (hn : n < 2 ^ 64) (hv : v ≤ 8) (hl : len + v ≤ 80) :
    ∀ M c τ, c ≤ v → c < M → Fr [(14, 1)] [15] τ0 τ → tI τ 14 1 = nI (len + (v - c)) → (∀ j, j < len + (v - c) → tA τ 15 j = nI (txN tx len n v j)) →
      ∃ τ', fX4_append_5 (qN n) p2 M τ (cI c) = some τ' ∧ Fr [(14, 1)] [15] τ0 τ' ∧ tI τ' 14 1 = nI (len + v) ∧ ∀ j, j < len + v → tA τ' 15 j = nI (txN tx len n v j) := by
  intro M
  induction M with
  | zero => intro c _ _ h; omega
  | succ M ih =>
    intro c τ hc hM hF h1 ht
    rw [fX4_append_5]
    by_cases h0 : c = 0
    · subst h0
      rw [if_pos (show cI 0 < 0 by decide)]
      rw [Nat.sub_zero] at h1 ht
      exact ⟨τ, rfl, hF, h1, ht⟩
    · have ec : cI c = nI (c - 1) := if_neg h0
      have hb := byt_lt n (c - 1)
      rw [ec, if_neg (nI_pos (by omega)), h1, if_neg (nI_pos (by omega)), i80, if_neg (nI_ge (by omega) (by omega)), if_neg (nI_in (show len + (v - c) < 80 by omega) (by decide)), nm_i, nm_i, nm_i, nI_clamp (by omega), x_byte hn (by omega), nar_char (by omega), cI_dec (by omega), tI_sA, h1, show nI (len + (v - c)) + 1 = nI (len + (v - c) + 1) from nI_add _ 1]
      refine ih (c - 1) _ (by omega) (by omega) (hF.tr ((Fr.sA (by decide)).tr (Fr.sI (by decide)))) ?_ (fun j hj => ?_)
      · rw [tI_sI, if_pos ⟨rfl, rfl⟩]
        congr 1
        omega
      · rw [tA_sI, tA_sA]
        by_cases e : j = len + (v - c)
        · rw [if_pos ⟨rfl, e⟩]
          unfold txN
          rw [if_neg (by omega), show v - 1 - (j - len) = c - 1 by omega]
        · rw [if_neg (fun z => e z.2)]; exact ht j (by omega)
theorem m_typeLoop {τ0 : Tau} {n v : Nat} {p2 : Int32} (hn : n < 2 ^ 64) (hv : v ≤ 8) (hl : len + v ≤ 80) :
    ∀ M c τ, c ≤ v → c < M → Fr [(0, 6)] [2] τ0 τ → tI τ 0 6 = nI (len + (v - c)) → (∀ j, j < len + (v - c) → tA τ 2 j = nI (txN tx len n v j)) →
      ∃ τ', fX7_type_36 (qN n) p2 M τ (cI c) = some (nI (len + v), τ') ∧ Fr [(0, 6)] [2] τ0 τ' ∧ tI τ' 0 6 = nI (len + v) ∧ ∀ j, j < len + v → tA τ' 2 j = nI (txN tx len n v j) := by
  intro M
  induction M with
  | zero => intro c _ _ h; omega
  | succ M ih =>
    intro c τ hc hM hF h1 ht
    rw [fX7_type_36]
    by_cases h0 : c = 0
    · subst h0
      rw [if_pos (show cI 0 < 0 by decide)]
      rw [Nat.sub_zero] at h1 ht
      rw [h1]
      exact ⟨τ, rfl, hF, h1, ht⟩
    · have ec : cI c = nI (c - 1) := if_neg h0
      rw [ec, if_neg (nI_pos (by omega)), h1, if_neg (nI_in (show len + (v - c) < 80 by omega) (by decide)), nm_i, nm_i, nm_i, nI_clamp (by omega), m_byte hn (by omega), cI_dec (by omega), tI_sA, h1, show nI (len + (v - c)) + 1 = nI (len + (v - c) + 1) from nI_add _ 1]
      refine ih (c - 1) _ (by omega) (by omega) (hF.tr ((Fr.sA (by decide)).tr (Fr.sI (by decide)))) ?_ (fun j hj => ?_)
      · rw [tI_sI, if_pos ⟨rfl, rfl⟩]
        congr 1
        omega
      · rw [tA_sI, tA_sA]
        by_cases e : j = len + (v - c)
        · rw [if_pos ⟨rfl, e⟩]
          unfold txN
          rw [if_neg (by omega), show v - 1 - (j - len) = c - 1 by omega]
        · rw [if_neg (fun z => e z.2)]; exact ht j (by omega)
theorem st_type (h : Rel τx τm K N md ml d cw len tx) (p1 : Int64) (p2 : Int32) : ∃ a τx' τm' len' tx', fX6_type τx p1 p2 = some (a, τx') ∧ fX7_type τm p1 p2 = some (a, τm') ∧ Rel τx' τm' K N md ml d cw len' tx' := by
  have hz := h.zero
  have e1 : (1 : Int32).toInt = 1 := rfl
  have e8 : (8 : Int32).toInt = 8 := rfl
  unfold fX6_type fX7_type
  simp only [nm_i]
  rw [in_iff]
  by_cases h1 : p2 < 1
  · have := i32_lt.mp h1
    rw [if_pos h1, decide_eq_false (by omega), ifF]
    exact ⟨_, _, _, _, _, rfl, rfl, hz⟩
  · have h1' : ¬ p2.toInt < (1 : Int32).toInt := fun z => h1 (i32_lt.mpr z)
    rw [if_neg h1]
    by_cases h2 : p2 ≤ 8
    · have h2' := i32_le.mp h2
      obtain ⟨ep, tp⟩ := nat_of (p := p2) (by omega)
      have hv : 1 ≤ cl p2 ∧ cl p2 ≤ 8 := by omega
      generalize cl p2 = v at *
      subst ep
      rw [if_pos h2, decide_eq_true (by omega), ifT]
      obtain ⟨⟨o1, o2, o3, o4, o5, o6, o7⟩, ⟨a1, a2, a3, a4, a5, a6, a7, a8⟩, hh, ⟨b1, b2, b3, b4, b5, b6, b7⟩, hm⟩ := id hz
      rw [a6, b6, nI_add]
      by_cases h3 : len + v ≤ 80
      · obtain ⟨n, hn, rfl, _⟩ := qN_of p1
        have c80 : nI (len + v) ≤ (80 : Int32) := by rw [i80]; exact nI_le h3 (by omega)
        rw [if_pos c80, if_pos c80]
        have ecv : nI v - 1 = cI v := by
          unfold cI
          rw [if_neg (by omega), sub1 hv.1]
        obtain ⟨τ', ex, fx, l1, t1⟩ := x_append (τ0 := τx) (tx := tx) (len := len) (n := n) (v := v) (p2 := nI v) hn hv.2 h3 FU v τx (Nat.le_refl _) (by unfold FU; omega) Fr.rf (by rw [Nat.sub_self, Nat.add_zero]; exact a6) (fun j hj => by
          rw [Nat.sub_self, Nat.add_zero] at hj
          unfold txN
          rw [if_pos hj]
          exact (a7 j hj).1)
        obtain ⟨τn, em, fm, l2, t2⟩ := m_typeLoop (τ0 := sI τm 0 0 0) (tx := tx) (len := len) (n := n) (v := v) (p2 := nI v) hn hv.2 h3 FU v (sI τm 0 0 0) (Nat.le_refl _) (by unfold FU; omega) Fr.rf (by rw [Nat.sub_self, Nat.add_zero]; exact b6) (fun j hj => by
          rw [Nat.sub_self, Nat.add_zero] at hj
          unfold txN
          rw [if_pos hj]
          exact b7 j hj)
        unfold fX4_append
        rw [nm_i, ecv, ex, em, Option.bind_some, l1]
        refine ⟨_, τ', τn, len + v, txN tx len n v, rfl, rfl, ⟨o1, o2, o3, o4, o5, o6, h3⟩, ⟨?_, ?_, ?_, fun i hi => (a4 i hi).fr fx (fun j hm => by simp at hm; omega), a5.fr fx (by decide), l1, fun j hj => ⟨t1 j hj, ?_⟩, fun s f hs hf => ?_⟩, hh.fr fx (by decide) (by decide) (by decide) (by decide) (by decide) (by decide), ⟨?_, ?_, ?_, fun i hi => (b4 i hi).fr fm (by decide), b5.fr fm (by decide), l2, t2⟩, hm.fr fm (by decide) (by decide) (by decide) (by decide) (by decide) (by decide)⟩
        · rw [(fx.1 0 5 (by decide)).1, a1]
        · rw [(fx.1 0 6 (by decide)).1, a2]
        · rw [(fx.1 0 7 (by decide)).1, a3]
        · unfold txN
          by_cases e : j < len
          · rw [if_pos e]; exact (a7 j e).2
          · rw [if_neg e]; exact byt_lt _ _
        · rw [(fx.2 25 (by decide) s).2]; exact a8 s f hs hf
        · rw [(fm.1 0 1 (by decide)).1, b1]
        · rw [(fm.1 0 2 (by decide)).1, b2]
        · rw [(fm.1 0 3 (by decide)).1, b3]
      · have c80 : ¬ nI (len + v) ≤ (80 : Int32) := by rw [i80]; exact nI_ge (by omega) (by omega)
        rw [if_neg c80, if_neg c80]
        exact ⟨_, _, _, _, _, rfl, rfl, hz⟩
    · have h2' : ¬ p2.toInt ≤ (8 : Int32).toInt := fun z => h2 (i32_le.mpr z)
      rw [if_neg h2, decide_eq_false (by omega), ifF]
      exact ⟨_, _, _, _, _, rfl, rfl, hz⟩
end TY
