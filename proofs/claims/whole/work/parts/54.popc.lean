/-! how many bits of a long are on -/
def qN (n : Nat) : Int64 := Int64.ofNat n
theorem qN_bv (n : Nat) : (qN n).toBitVec = BitVec.ofNat 64 n := rfl
theorem qN_of (x : Int64) : ∃ n, n < 2 ^ 64 ∧ x = qN n ∧ ∀ i, n.testBit i = lb x i := by
  refine ⟨x.toBitVec.toNat, x.toBitVec.isLt, ?_, fun i => rfl⟩
  apply Int64.toBitVec_inj.mp
  rw [qN_bv, BitVec.ofNat_toNat, BitVec.setWidth_eq]
theorem qN_lb {n i : Nat} (hn : n < 2 ^ 64) : lb (qN n) i = n.testBit i := by
  unfold lb
  rw [qN_bv, BitVec.getLsbD_ofNat]
  by_cases h : i < 64
  · simp [h]
  · have : 2 ^ 64 ≤ 2 ^ i := Nat.pow_le_pow_right (by omega) (by omega)
    rw [Nat.testBit_lt_two_pow (show n < 2 ^ i by omega)]
    simp
theorem qN_and {a b : Nat} (ha : a < 2 ^ 64) (hb : b < 2 ^ 64) : qN a &&& qN b = qN (a &&& b) := by
  apply lb_ext
  intro f hf
  rw [lb_and, qN_lb ha, qN_lb hb, qN_lb (Nat.lt_of_le_of_lt Nat.and_le_left ha), Nat.testBit_and]
theorem qN_add (a b : Nat) : qN a + qN b = qN (a + b) := (Int64.ofNat_add a b).symm
theorem qN_sub {a b : Nat} (h : b ≤ a) : qN a - qN b = qN (a - b) := by
  have : qN a = qN (a - b) + qN b := by rw [qN_add]; congr 1; omega
  rw [this, Int64.add_sub_cancel]
theorem qN_shr {n f : Nat} (hn : n < 2 ^ 64) (hf : f < 64) : ((qN n).toUInt64 >>> ((nI f).toInt64.toUInt64 &&& Int64.toUInt64 63)).toInt64 = qN (n / 2 ^ f) := by
  apply lb_ext
  intro i hi
  rw [lb_ushr _ hf, qN_lb hn, qN_lb (Nat.lt_of_le_of_lt (Nat.div_le_self _ _) hn), Nat.testBit_div_two_pow, Nat.add_comm]
theorem qN_low (n : Nat) : (qN n).toInt32 &&& (127 : Int32) = nI (n % 128) := by
  have : (qN n).toInt32 = nI n := by
    apply Int32.toBitVec_inj.mp
    rw [Int64.toBitVec_toInt32, qN_bv]
    show BitVec.signExtend 32 (BitVec.ofNat 64 n) = BitVec.ofNat 32 n
    rw [BitVec.signExtend_eq_setWidth_of_le _ (by omega), BitVec.setWidth_ofNat_of_le (by omega)]
  rw [this, show (127 : Int32) = nI 127 from rfl, nI_and, show n &&& 127 = n % 128 from Nat.and_two_pow_sub_one_eq_mod n 7]
/-- digits, the lowest first -/
def dg (b : Nat) (f : Nat → Nat) : Nat → Nat
  | 0 => 0
  | n + 1 => 2 ^ b * dg b (fun i => f (i + 1)) n + f 0
theorem dg_lt {b : Nat} : ∀ {n : Nat} {f : Nat → Nat}, (∀ i, f i < 2 ^ b) → dg b f n < 2 ^ (b * n)
  | 0, f, _ => by simp [dg]
  | n + 1, f, h => by
    have ih := dg_lt (n := n) (f := fun i => f (i + 1)) (fun i => h (i + 1))
    have h0 := h 0
    rw [dg, Nat.mul_succ, Nat.pow_add, Nat.mul_comm (2 ^ (b * n))]
    calc 2 ^ b * dg b (fun i => f (i + 1)) n + f 0 < 2 ^ b * dg b (fun i => f (i + 1)) n + 2 ^ b := by omega
      _ = 2 ^ b * (dg b (fun i => f (i + 1)) n + 1) := by rw [Nat.mul_add, Nat.mul_one]
      _ ≤ 2 ^ b * 2 ^ (b * n) := Nat.mul_le_mul_left _ ih
theorem dg_congr {b : Nat} : ∀ {n : Nat} {f g : Nat → Nat}, (∀ i, i < n → f i = g i) → dg b f n = dg b g n
  | 0, _, _, _ => rfl
  | n + 1, f, g, h => by rw [dg, dg, h 0 (by omega), dg_congr (fun i hi => h (i + 1) (by omega))]
theorem dg_add {b : Nat} : ∀ {n : Nat} {f g : Nat → Nat}, dg b f n + dg b g n = dg b (fun i => f i + g i) n
  | 0, _, _ => rfl
  | n + 1, f, g => by
    rw [dg, dg, dg, ← dg_add (n := n), Nat.mul_add]
    omega
theorem dg_div {b n : Nat} {f : Nat → Nat} (h : f 0 < 2 ^ b) : dg b f (n + 1) / 2 ^ b = dg b (fun i => f (i + 1)) n := by
  rw [dg, Nat.mul_add_div (Nat.two_pow_pos b), Nat.div_eq_of_lt h, Nat.add_zero]
theorem dg_more {b : Nat} : ∀ {n : Nat} {f : Nat → Nat}, f n = 0 → dg b f (n + 1) = dg b f n
  | 0, f, h => by rw [dg, dg, dg, h]; rfl
  | n + 1, f, h => by rw [dg, dg_more (n := n) (f := fun i => f (i + 1)) h, dg]
theorem dg_shift {b n : Nat} {f : Nat → Nat} (h : f 0 < 2 ^ b) (hn : f n = 0) : dg b f n / 2 ^ b = dg b (fun i => f (i + 1)) n := by
  have hz : (fun i => f (i + 1)) n = f (n + 1) := rfl
  cases n with
  | zero => exact Nat.zero_div _
  | succ n =>
    rw [dg_div h]
    exact (dg_more (f := fun i => f (i + 1)) hn).symm
theorem dg_pair {b : Nat} : ∀ {n : Nat} {f : Nat → Nat}, dg b f (2 * n) = dg (2 * b) (fun i => f (2 * i) + 2 ^ b * f (2 * i + 1)) n
  | 0, _ => rfl
  | n + 1, f => by
    rw [show 2 * (n + 1) = 2 * n + 1 + 1 by omega, dg, dg, dg]
    have ih := dg_pair (b := b) (n := n) (f := fun i => f (i + 1 + 1))
    rw [ih, Nat.mul_add, ← Nat.mul_assoc, ← Nat.pow_add, show b + b = 2 * b by omega]
    have e : dg (2 * b) (fun i => f (2 * i + 1 + 1) + 2 ^ b * f (2 * i + 1 + 1 + 1)) n = dg (2 * b) (fun i => f (2 * (i + 1)) + 2 ^ b * f (2 * (i + 1) + 1)) n := dg_congr (fun i _ => by rw [show 2 * (i + 1) = 2 * i + 1 + 1 by omega])
    rw [e]
    show _ + f 0 = _ + (f (2 * 0) + 2 ^ b * f (2 * 0 + 1))
    simp only [Nat.mul_zero, Nat.zero_add]
    omega
theorem and_split {k x y u v : Nat} (hx : x < 2 ^ k) (hu : u < 2 ^ k) : (2 ^ k * y + x) &&& (2 ^ k * v + u) = 2 ^ k * (y &&& v) + (x &&& u) := by
  apply Nat.eq_of_testBit_eq
  intro i
  rw [Nat.testBit_and, Nat.testBit_two_pow_mul_add y hx, Nat.testBit_two_pow_mul_add v hu, Nat.testBit_two_pow_mul_add _ (Nat.lt_of_le_of_lt Nat.and_le_left hx)]
  split <;> rw [Nat.testBit_and]
theorem dg_even {b : Nat} : ∀ {n : Nat} {f : Nat → Nat}, (∀ i, f i < 2 ^ b) → dg b f (2 * n) &&& dg (2 * b) (fun _ => 2 ^ b - 1) n = dg (2 * b) (fun i => f (2 * i)) n
  | 0, _, _ => Nat.and_self 0
  | n + 1, f, h => by
    have hp := Nat.two_pow_pos b
    have ih := dg_even (b := b) (n := n) (f := fun i => f (i + 1 + 1)) (fun i => h _)
    have hx : 2 ^ b * f 1 + f 0 < 2 ^ (2 * b) := by
      have h0 := h 0
      have h1 := h 1
      rw [show 2 * b = b + b by omega, Nat.pow_add]
      calc 2 ^ b * f 1 + f 0 < 2 ^ b * f 1 + 2 ^ b := by omega
        _ = 2 ^ b * (f 1 + 1) := by rw [Nat.mul_add, Nat.mul_one]
        _ ≤ 2 ^ b * 2 ^ b := Nat.mul_le_mul_left _ h1
    have hu : 2 ^ b - 1 < 2 ^ (2 * b) := by
      have : 2 ^ b ≤ 2 ^ (2 * b) := Nat.pow_le_pow_right (by omega) (by omega)
      omega
    have e1 : dg b f (2 * (n + 1)) = 2 ^ (2 * b) * dg b (fun i => f (i + 1 + 1)) (2 * n) + (2 ^ b * f 1 + f 0) := by
      rw [show 2 * (n + 1) = 2 * n + 1 + 1 by omega, dg, dg, Nat.mul_add, ← Nat.mul_assoc, ← Nat.pow_add, show b + b = 2 * b by omega]
      simp only [Nat.zero_add]
      omega
    rw [e1, dg, and_split hx hu, ih, dg]
    have e2 : (2 ^ b * f 1 + f 0) &&& (2 ^ b - 1) = f 0 := by
      rw [Nat.and_two_pow_sub_one_eq_mod, Nat.mul_add_mod, Nat.mod_eq_of_lt (h 0)]
    rw [e2]
    have e3 : dg (2 * b) (fun i => f (2 * i + 1 + 1)) n = dg (2 * b) (fun i => f (2 * (i + 1))) n := dg_congr (fun i _ => by rw [show 2 * (i + 1) = 2 * i + 1 + 1 by omega])
    rw [e3]
theorem dg_bits : ∀ {n x : Nat}, x < 2 ^ n → x = dg 1 (fun i => if x.testBit i then 1 else 0) n
  | 0, x, h => by
    have : x = 0 := by omega
    rw [this]; rfl
  | n + 1, x, h => by
    have hx2 : x / 2 < 2 ^ n := by
      rw [Nat.pow_succ] at h
      omega
    have ih := dg_bits hx2
    have e : dg 1 (fun i => if x.testBit (i + 1) then 1 else 0) n = x / 2 := by
      conv => rhs; rw [ih]
      apply dg_congr
      intro i _
      rw [Nat.testBit_succ]
    rw [dg]
    show x = 2 ^ 1 * dg 1 (fun i => if x.testBit (i + 1) then 1 else 0) n + if x.testBit 0 then 1 else 0
    rw [e, Nat.testBit_zero]
    by_cases q : x % 2 = 1
    · simp [q]; omega
    · simp [q]; omega
theorem sumTo_pair {f : Nat → Nat} : ∀ n, sumTo f (2 * n) = sumTo (fun i => f (2 * i) + f (2 * i + 1)) n
  | 0 => rfl
  | n + 1 => by
    rw [show 2 * (n + 1) = 2 * n + 1 + 1 by omega, sumTo, sumTo, sumTo, sumTo_pair n]
    omega

theorem dg_get {b n : Nat} {f : Nat → Nat} (h : f 0 < 2 ^ b) : dg b f (n + 1) % 2 ^ b = f 0 := by
  rw [dg, Nat.mul_add_mod, Nat.mod_eq_of_lt h]
theorem x_popc (x : Int64) : fJ13_bitCount_95d88 x = nI (cntB (lb x) 64) := by
  obtain ⟨n, hn, rfl, hb⟩ := qN_of x
  -- bits
  have hf : ∃ f : Nat → Nat, (∀ i, f i ≤ 1) ∧ n = dg 1 f 64 ∧ (∀ i, 64 ≤ i → f i = 0) ∧ cntB (lb (qN n)) 64 = sumTo f 64 := by
    refine ⟨fun i => if n.testBit i then 1 else 0, fun i => by dsimp only; split <;> omega, dg_bits hn, fun i hi => ?_, ?_⟩
    · have : 2 ^ 64 ≤ 2 ^ i := Nat.pow_le_pow_right (by omega) hi
      show (if n.testBit i then 1 else 0) = 0
      rw [Nat.testBit_lt_two_pow (show n < 2 ^ i by omega)]; rfl
    · unfold cntB
      apply sumTo_congr
      intro i _
      rw [← hb i]
  obtain ⟨f, f1, hnf, fz, hc⟩ := hf
  rw [hc]
  clear hc hb
  -- pairs
  obtain ⟨g, hg⟩ : ∃ g : Nat → Nat, g = fun i => f (2 * i) + f (2 * i + 1) := ⟨_, rfl⟩
  have g2 : ∀ i, g i ≤ 2 := fun i => by rw [hg]; have := f1 (2 * i); have := f1 (2 * i + 1); show f (2 * i) + f (2 * i + 1) ≤ 2; omega
  have gz : ∀ i, 32 ≤ i → g i = 0 := fun i hi => by rw [hg]; show f (2 * i) + f (2 * i + 1) = 0; rw [fz _ (by omega), fz _ (by omega)]
  have s1 : sumTo f 64 = sumTo g 32 := by rw [show (64 : Nat) = 2 * 32 by rfl, sumTo_pair, hg]
  have y1 : n - (n / 2 ^ 1 &&& 6148914691236517205) = dg 2 g 32 ∧ (n / 2 ^ 1 &&& 6148914691236517205) ≤ n := by
    have e1 : n / 2 ^ 1 = dg 1 (fun i => f (i + 1)) (2 * 32) := by
      rw [hnf]
      exact dg_shift (by have := f1 0; omega) (fz 64 (by omega))
    have e2 : (6148914691236517205 : Nat) = dg (2 * 1) (fun _ => 2 ^ 1 - 1) 32 := by decide +kernel
    have e3 : n / 2 ^ 1 &&& 6148914691236517205 = dg (2 * 1) (fun i => f (2 * i + 1)) 32 := by
      rw [e1, e2, dg_even (fun i => by have := f1 (i + 1); omega)]
    have e4 : n = dg (2 * 1) (fun i => f (2 * i) + 2 ^ 1 * f (2 * i + 1)) 32 := by
      rw [← dg_pair]; exact hnf
    have e5 : dg 2 g 32 + dg (2 * 1) (fun i => f (2 * i + 1)) 32 = n := by
      rw [dg_add, hg]
      conv => rhs; rw [e4]
      apply dg_congr
      intro i _
      show f (2 * i) + f (2 * i + 1) + f (2 * i + 1) = f (2 * i) + 2 ^ 1 * f (2 * i + 1)
      omega
    rw [e3]
    omega
  -- fours
  obtain ⟨h, hh⟩ : ∃ h : Nat → Nat, h = fun i => g (2 * i) + g (2 * i + 1) := ⟨_, rfl⟩
  have h4 : ∀ i, h i ≤ 4 := fun i => by rw [hh]; have := g2 (2 * i); have := g2 (2 * i + 1); show g (2 * i) + g (2 * i + 1) ≤ 4; omega
  have hz : ∀ i, 16 ≤ i → h i = 0 := fun i hi => by rw [hh]; show g (2 * i) + g (2 * i + 1) = 0; rw [gz _ (by omega), gz _ (by omega)]
  have s2 : sumTo g 32 = sumTo h 16 := by rw [show (32 : Nat) = 2 * 16 by rfl, sumTo_pair, hh]
  have b1 : dg 2 g 32 < 2 ^ 64 := dg_lt (fun i => by have := g2 i; omega)
  have m2 : (3689348814741910323 : Nat) = dg (2 * 2) (fun _ => 2 ^ 2 - 1) 16 := by decide +kernel
  have y2 : (dg 2 g 32 &&& 3689348814741910323) + (dg 2 g 32 / 2 ^ 2 &&& 3689348814741910323) = dg 4 h 16 := by
    have e1 : dg 2 g 32 / 2 ^ 2 = dg 2 (fun i => g (i + 1)) (2 * 16) := dg_shift (by have := g2 0; omega) (gz 32 (by omega))
    rw [e1, m2, dg_even (n := 16) (f := g) (fun i => by have := g2 i; omega), dg_even (fun i => by have := g2 (i + 1); omega), dg_add, hh]
  -- bytes
  obtain ⟨c, hcd⟩ : ∃ c : Nat → Nat, c = fun i => h (2 * i) + h (2 * i + 1) := ⟨_, rfl⟩
  have c8 : ∀ i, c i ≤ 8 := fun i => by rw [hcd]; have := h4 (2 * i); have := h4 (2 * i + 1); show h (2 * i) + h (2 * i + 1) ≤ 8; omega
  have cz : ∀ i, 8 ≤ i → c i = 0 := fun i hi => by rw [hcd]; show h (2 * i) + h (2 * i + 1) = 0; rw [hz _ (by omega), hz _ (by omega)]
  have s3 : sumTo h 16 = sumTo c 8 := by rw [show (16 : Nat) = 2 * 8 by rfl, sumTo_pair, hcd]
  have b2 : dg 4 h 16 < 2 ^ 64 := dg_lt (fun i => by have := h4 i; omega)
  have m3 : (1085102592571150095 : Nat) = dg (2 * 4) (fun _ => 2 ^ 4 - 1) 8 := by decide +kernel
  have y3 : (dg 4 h 16 + dg 4 h 16 / 2 ^ 4) = dg 4 (fun i => h i + h (i + 1)) 16 := by
    rw [dg_shift (by have := h4 0; omega) (hz 16 (by omega)), dg_add]
  have b3 : dg 4 (fun i => h i + h (i + 1)) 16 < 2 ^ 64 := dg_lt (fun i => by have := h4 i; have := h4 (i + 1); show h i + h (i + 1) < 2 ^ 4; omega)
  have y4 : dg 4 (fun i => h i + h (i + 1)) 16 &&& 1085102592571150095 = dg 8 c 8 := by
    rw [m3, dg_even (n := 8) (fun i => by have := h4 i; have := h4 (i + 1); show h i + h (i + 1) < 2 ^ 4; omega), hcd]
  -- all
  have sh8 : ∀ u : Nat → Nat, (∀ i, u i < 2 ^ 8) → (∀ i, 8 ≤ i → u i = 0) → dg 8 u 8 / 2 ^ 8 = dg 8 (fun i => u (i + 1)) 8 := fun u h1 h2 => dg_shift (h1 0) (h2 8 (by omega))
  have sh16 : ∀ u : Nat → Nat, (∀ i, u i < 2 ^ 8) → (∀ i, 8 ≤ i → u i = 0) → dg 8 u 8 / 2 ^ 16 = dg 8 (fun i => u (i + 2)) 8 := fun u h1 h2 => by
    rw [show (2 ^ 16 : Nat) = 2 ^ 8 * 2 ^ 8 by rfl, ← Nat.div_div_eq_div_mul, sh8 u h1 h2, sh8 _ (fun i => h1 _) (fun i hi => h2 _ (by omega))]
  have sh32 : ∀ u : Nat → Nat, (∀ i, u i < 2 ^ 8) → (∀ i, 8 ≤ i → u i = 0) → dg 8 u 8 / 2 ^ 32 = dg 8 (fun i => u (i + 4)) 8 := fun u h1 h2 => by
    rw [show (2 ^ 32 : Nat) = 2 ^ 16 * 2 ^ 16 by rfl, ← Nat.div_div_eq_div_mul, sh16 u h1 h2, sh16 _ (fun i => h1 _) (fun i hi => h2 _ (by omega))]
  obtain ⟨u, hu⟩ : ∃ u : Nat → Nat, u = fun i => c i + c (i + 1) := ⟨_, rfl⟩
  have u16 : ∀ i, u i ≤ 16 := fun i => by rw [hu]; have := c8 i; have := c8 (i + 1); show c i + c (i + 1) ≤ 16; omega
  have uz : ∀ i, 8 ≤ i → u i = 0 := fun i hi => by rw [hu]; show c i + c (i + 1) = 0; rw [cz _ hi, cz _ (by omega)]
  have y5 : dg 8 c 8 + dg 8 c 8 / 2 ^ 8 = dg 8 u 8 := by
    rw [sh8 c (fun i => by have := c8 i; omega) cz, dg_add, hu]
  obtain ⟨v, hv⟩ : ∃ v : Nat → Nat, v = fun i => u i + u (i + 2) := ⟨_, rfl⟩
  have v32 : ∀ i, v i ≤ 32 := fun i => by rw [hv]; have := u16 i; have := u16 (i + 2); show u i + u (i + 2) ≤ 32; omega
  have vz : ∀ i, 8 ≤ i → v i = 0 := fun i hi => by rw [hv]; show u i + u (i + 2) = 0; rw [uz _ hi, uz _ (by omega)]
  have y6 : dg 8 u 8 + dg 8 u 8 / 2 ^ 16 = dg 8 v 8 := by
    rw [sh16 u (fun i => by have := u16 i; omega) uz, dg_add, hv]
  have y7 : dg 8 v 8 + dg 8 v 8 / 2 ^ 32 = dg 8 (fun i => v i + v (i + 4)) 8 := by
    rw [sh32 v (fun i => by have := v32 i; omega) vz, dg_add]
  have b5 : dg 8 c 8 < 2 ^ 64 := dg_lt (fun i => by have := c8 i; omega)
  have b6 : dg 8 u 8 < 2 ^ 64 := dg_lt (fun i => by have := u16 i; omega)
  have b7 : dg 8 v 8 < 2 ^ 64 := dg_lt (fun i => by have := v32 i; omega)
  have tot8 : v 0 + v 4 = sumTo c 8 := by
    rw [hv, hu]
    show c 0 + c 1 + (c 2 + c 3) + (c 4 + c 5 + (c 6 + c 7)) = _
    simp only [sumTo]
    omega
  have t64 := v32 0
  have t65 := v32 4
  have b0 : n / 2 ^ 1 &&& 6148914691236517205 < 2 ^ 64 := Nat.lt_of_le_of_lt y1.2 hn
  unfold fJ13_bitCount_95d88
  rw [nm_i, nm_i, nm_i, nm_i, nm_i, nm_i]
  rw [i1, show (2 : Int32) = nI 2 from rfl, show (4 : Int32) = nI 4 from rfl, show (8 : Int32) = nI 8 from rfl, show (16 : Int32) = nI 16 from rfl, show (32 : Int32) = nI 32 from rfl]
  rw [show (6148914691236517205 : Int64) = qN 6148914691236517205 from rfl, show (3689348814741910323 : Int64) = qN 3689348814741910323 from rfl, show (1085102592571150095 : Int64) = qN 1085102592571150095 from rfl]
  rw [qN_shr hn (by omega), qN_and (Nat.lt_of_le_of_lt (Nat.div_le_self _ _) hn) (by decide), qN_sub y1.2, y1.1]
  rw [qN_shr b1 (by omega), qN_and b1 (by decide), qN_and (Nat.lt_of_le_of_lt (Nat.div_le_self _ _) b1) (by decide), qN_add, y2]
  rw [qN_shr b2 (by omega), qN_add, y3, qN_and b3 (by decide), y4]
  rw [qN_shr b5 (by omega), qN_add, y5, qN_shr b6 (by omega), qN_add, y6, qN_shr b7 (by omega), qN_add, y7, qN_low]
  congr 1
  rw [s1, s2, s3, ← tot8]
  have e := dg_get (b := 8) (n := 7) (f := fun i => v i + v (i + 4)) (by show v 0 + v 4 < 2 ^ 8; omega)
  have e2 : dg 8 (fun i => v i + v (i + 4)) 8 % 2 ^ 8 = v 0 + v 4 := e
  omega
