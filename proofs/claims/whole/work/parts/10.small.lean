def fX6_has  (p1 : Int32) (p2 : Int32) : Bool :=
 (if ((p1 >>> (p2 &&& 31)) &&& (1 : Int32)) = 0 then
 false
 else
 true)
set_option maxHeartbeats 4000000 in
set_option maxRecDepth 100000 in
theorem c_X6_has (l : Launch) (D : va_G) (cA : Nat → ClassId) (st ad : Nat → Nat) (a : Nat)  (τ : Tau) (p1 : Int32) (p2 : Int32) (R : Bool) (hf : fX6_has p1 p2 = R) : KE ΛX 29 D cA st ad l yX6_has cX6_has 2 (some .boolean) 0 0 [.int p1, .int p2] a τ (some (.int (bI R))) τ := by
  refine KE.of "KindSayings" rfl (by decide) (Nat.le_of_ble_eq_true rfl) (fun p e s m args below meth c A ls Rm Q hE hRm hQ hw hl => ?_)
  obtain ⟨hx, hb, hml, hown, hts, -⟩ := id hE
  have hl : lv_has ls 2 [(0, .int p1), (1, .int p2)] := hl
  unfold fX6_has at hf
  refine lv_iload_n hx hb dX6_has_0 rfl (lv_at hl 0 rfl) ?_
  refine lv_iload_n hx hb dX6_has_1 rfl (lv_at hl 1 rfl) ?_
  refine lv_ishr hx hb dX6_has_2 ?_
  refine lv_iconst (v := 1) hx hb dX6_has_3 (by decide) ?_
  refine lv_iand hx hb dX6_has_4 ?_
  refine lv_if_eq (tgt := 12) hx hb dX6_has_5 (by decide) (fun c1 => ?_) (fun c1 => ?_)
  · have hf := (if_pos c1).symm.trans hf
    refine lv_iconst (v := 0) hx hb dX6_has_12 (by decide) ?_
    subst hf
    exact ke_zret hE hw hQ (Or.inl rfl) dX6_has_13 rfl rfl
  · have hf := (if_neg c1).symm.trans hf
    refine lv_iconst (v := 1) hx hb dX6_has_8 (by decide) ?_
    refine lv_goto (tgt := 13) hx hb dX6_has_9 (by decide) ?_
    subst hf
    exact ke_zret hE hw hQ (Or.inr rfl) dX6_has_13 rfl rfl
def fX6_bit  (p1 : Int32) : Int32 :=
 (if p1 = 0 then
 (0 : Int32)
 else
 (1 : Int32))
set_option maxHeartbeats 4000000 in
set_option maxRecDepth 100000 in
theorem c_X6_bit (l : Launch) (D : va_G) (cA : Nat → ClassId) (st ad : Nat → Nat) (a : Nat)  (τ : Tau) (p1 : Int32) (R : Int32) (hf : fX6_bit p1 = R) : KE ΛX 29 D cA st ad l yX6_bit cX6_bit 1 (some .int) 0 0 [.int p1] a τ (some (.int R)) τ := by
  refine KE.of "KindSayings" rfl (by decide) (Nat.le_of_ble_eq_true rfl) (fun p e s m args below meth c A ls Rm Q hE hRm hQ hw hl => ?_)
  obtain ⟨hx, hb, hml, hown, hts, -⟩ := id hE
  have hl : lv_has ls 1 [(0, .int p1)] := hl
  unfold fX6_bit at hf
  refine lv_iload_n hx hb dX6_bit_0 rfl (lv_at hl 0 rfl) ?_
  refine lv_if_eq (tgt := 8) hx hb dX6_bit_1 (by decide) (fun c1 => ?_) (fun c1 => ?_)
  · have hf := (if_pos c1).symm.trans hf
    refine lv_iconst (v := 0) hx hb dX6_bit_8 (by decide) ?_
    subst hf
    exact ke_iret hE hw hQ dX6_bit_9 rfl rfl
  · have hf := (if_neg c1).symm.trans hf
    refine lv_iconst (v := 1) hx hb dX6_bit_4 (by decide) ?_
    refine lv_goto (tgt := 9) hx hb dX6_bit_5 (by decide) ?_
    subst hf
    exact ke_iret hE hw hQ dX6_bit_9 rfl rfl
def fX6_factNumber  (p1 : Int32) (p2 : Int32) (p3 : Int32) : Int32 :=
 ((((16 : Int32) * p1) + ((4 : Int32) * p2)) + p3)
set_option maxHeartbeats 4000000 in
set_option maxRecDepth 100000 in
theorem c_X6_factNumber (l : Launch) (D : va_G) (cA : Nat → ClassId) (st ad : Nat → Nat) (a : Nat)  (τ : Tau) (p1 : Int32) (p2 : Int32) (p3 : Int32) (R : Int32) (hf : fX6_factNumber p1 p2 p3 = R) : KE ΛX 29 D cA st ad l yX6_factNumber cX6_factNumber 3 (some .int) 0 0 [.int p1, .int p2, .int p3] a τ (some (.int R)) τ := by
  refine KE.of "KindSayings" rfl (by decide) (Nat.le_of_ble_eq_true rfl) (fun p e s m args below meth c A ls Rm Q hE hRm hQ hw hl => ?_)
  obtain ⟨hx, hb, hml, hown, hts, -⟩ := id hE
  have hl : lv_has ls 3 [(0, .int p1), (1, .int p2), (2, .int p3)] := hl
  unfold fX6_factNumber at hf
  refine lv_bipush (v := 16) hx hb dX6_factNumber_0 (by decide) ?_
  refine lv_iload_n hx hb dX6_factNumber_2 rfl (lv_at hl 0 rfl) ?_
  refine lv_imul hx hb dX6_factNumber_3 ?_
  refine lv_iconst (v := 4) hx hb dX6_factNumber_4 (by decide) ?_
  refine lv_iload_n hx hb dX6_factNumber_5 rfl (lv_at hl 1 rfl) ?_
  refine lv_imul hx hb dX6_factNumber_6 ?_
  refine lv_iadd hx hb dX6_factNumber_7 ?_
  refine lv_iload_n hx hb dX6_factNumber_8 rfl (lv_at hl 2 rfl) ?_
  refine lv_iadd hx hb dX6_factNumber_9 ?_
  subst hf
  exact ke_iret hE hw hQ dX6_factNumber_10 rfl rfl
def fX6_isSet  (p1 : Int32) : Bool :=
 (if p1 < 0 then
 false
 else
 (if (1024 : Int32) ≤ p1 then
 false
 else
 true))
set_option maxHeartbeats 4000000 in
set_option maxRecDepth 100000 in
theorem c_X6_isSet (l : Launch) (D : va_G) (cA : Nat → ClassId) (st ad : Nat → Nat) (a : Nat)  (τ : Tau) (p1 : Int32) (R : Bool) (hf : fX6_isSet p1 = R) : KE ΛX 29 D cA st ad l yX6_isSet cX6_isSet 1 (some .boolean) 0 0 [.int p1] a τ (some (.int (bI R))) τ := by
  refine KE.of "KindSayings" rfl (by decide) (Nat.le_of_ble_eq_true rfl) (fun p e s m args below meth c A ls Rm Q hE hRm hQ hw hl => ?_)
  obtain ⟨hx, hb, hml, hown, hts, -⟩ := id hE
  have hl : lv_has ls 1 [(0, .int p1)] := hl
  unfold fX6_isSet at hf
  refine lv_iload_n hx hb dX6_isSet_0 rfl (lv_at hl 0 rfl) ?_
  refine lv_if_lt (tgt := 15) hx hb dX6_isSet_1 (by decide) (fun c1 => ?_) (fun c1 => ?_)
  · have hf := (if_pos c1).symm.trans hf
    refine lv_iconst (v := 0) hx hb dX6_isSet_15 (by decide) ?_
    subst hf
    exact ke_zret hE hw hQ (Or.inl rfl) dX6_isSet_16 rfl rfl
  · have hf := (if_neg c1).symm.trans hf
    refine lv_iload_n hx hb dX6_isSet_4 rfl (lv_at hl 0 rfl) ?_
    refine lv_sipush (v := 1024) hx hb dX6_isSet_5 (by decide) ?_
    refine lv_icmp_ge (tgt := 15) hx hb dX6_isSet_8 (by decide) (fun c2 => ?_) (fun c2 => ?_)
    · have hf := (if_pos c2).symm.trans hf
      refine lv_iconst (v := 0) hx hb dX6_isSet_15 (by decide) ?_
      subst hf
      exact ke_zret hE hw hQ (Or.inl rfl) dX6_isSet_16 rfl rfl
    · have hf := (if_neg c2).symm.trans hf
      refine lv_iconst (v := 1) hx hb dX6_isSet_11 (by decide) ?_
      refine lv_goto (tgt := 16) hx hb dX6_isSet_12 (by decide) ?_
      subst hf
      exact ke_zret hE hw hQ (Or.inr rfl) dX6_isSet_16 rfl rfl
def fX6_isQuarrel  (p1 : Int64) : Bool :=
 nm (p1 &&& (65535 : Int64)) (fun x1 =>
 nm ((p1.toUInt64 >>> ((16 : Int32).toInt64.toUInt64 &&& Int64.toUInt64 63)).toInt64 &&& (65535 : Int64)) (fun x2 =>
 nm ((p1.toUInt64 >>> ((32 : Int32).toInt64.toUInt64 &&& Int64.toUInt64 63)).toInt64 &&& (65535 : Int64)) (fun x3 =>
 nm ((p1.toUInt64 >>> ((48 : Int32).toInt64.toUInt64 &&& Int64.toUInt64 63)).toInt64) (fun x4 =>
 (if lg_cmp (x1 &&& x4) (0 : Int64) = 0 then
 (if lg_cmp (x2 &&& x3) (0 : Int64) = 0 then
 false
 else
 true)
 else
 true)))))
set_option maxHeartbeats 4000000 in
set_option maxRecDepth 100000 in
theorem c_X6_isQuarrel (l : Launch) (D : va_G) (cA : Nat → ClassId) (st ad : Nat → Nat) (a : Nat)  (τ : Tau) (p1 : Int64) (R : Bool) (hf : fX6_isQuarrel p1 = R) : KE ΛX 29 D cA st ad l yX6_isQuarrel cX6_isQuarrel 10 (some .boolean) 0 0 [.long p1] a τ (some (.int (bI R))) τ := by
  refine KE.of "KindSayings" rfl (by decide) (Nat.le_of_ble_eq_true rfl) (fun p e s m args below meth c A ls Rm Q hE hRm hQ hw hl => ?_)
  obtain ⟨hx, hb, hml, hown, hts, -⟩ := id hE
  have hl : lv_has ls 10 [(0, .long p1)] := hl
  unfold fX6_isQuarrel at hf
  refine lv_lload_n hx hb dX6_isQuarrel_0 rfl (lv_at hl 0 rfl) ?_
  refine lv_ldc2 hx hb hown (hts _ w_726) dX6_isQuarrel_1 ?_
  refine lv_land hx hb dX6_isQuarrel_4 ?_
  obtain ⟨x1, ex1, hf⟩ := ks_nm hf
  refine W.eq (g2 := F0 m 5 ls (.long x1 :: [])) (by rw [ex1]) ?_
  refine lv_lstore_n (lv' := [(2, .long x1), (0, .long p1)]) hx hb dX6_isQuarrel_5 rfl hl (by decide) rfl (fun ls hl => ?_)
  refine lv_lload_n hx hb dX6_isQuarrel_6 rfl (lv_at hl 1 rfl) ?_
  refine lv_bipush (v := 16) hx hb dX6_isQuarrel_7 (by decide) ?_
  refine lv_lushr hx hb dX6_isQuarrel_9 rfl ?_
  refine lv_ldc2 hx hb hown (hts _ w_726) dX6_isQuarrel_10 ?_
  refine lv_land hx hb dX6_isQuarrel_13 ?_
  obtain ⟨x2, ex2, hf⟩ := ks_nm hf
  refine W.eq (g2 := F0 m 14 ls (.long x2 :: [])) (by rw [ex2]) ?_
  refine lv_lstore (lv' := [(4, .long x2), (2, .long x1), (0, .long p1)]) hx hb dX6_isQuarrel_14 hl (by decide) rfl (fun ls hl => ?_)
  refine lv_lload_n hx hb dX6_isQuarrel_16 rfl (lv_at hl 2 rfl) ?_
  refine lv_bipush (v := 32) hx hb dX6_isQuarrel_17 (by decide) ?_
  refine lv_lushr hx hb dX6_isQuarrel_19 rfl ?_
  refine lv_ldc2 hx hb hown (hts _ w_726) dX6_isQuarrel_20 ?_
  refine lv_land hx hb dX6_isQuarrel_23 ?_
  obtain ⟨x3, ex3, hf⟩ := ks_nm hf
  refine W.eq (g2 := F0 m 24 ls (.long x3 :: [])) (by rw [ex3]) ?_
  refine lv_lstore (lv' := [(6, .long x3), (4, .long x2), (2, .long x1), (0, .long p1)]) hx hb dX6_isQuarrel_24 hl (by decide) rfl (fun ls hl => ?_)
  refine lv_lload_n hx hb dX6_isQuarrel_26 rfl (lv_at hl 3 rfl) ?_
  refine lv_bipush (v := 48) hx hb dX6_isQuarrel_27 (by decide) ?_
  refine lv_lushr hx hb dX6_isQuarrel_29 rfl ?_
  obtain ⟨x4, ex4, hf⟩ := ks_nm hf
  refine W.eq (g2 := F0 m 30 ls (.long x4 :: [])) (by rw [ex4]) ?_
  refine lv_lstore (lv' := [(8, .long x4), (6, .long x3), (4, .long x2), (2, .long x1), (0, .long p1)]) hx hb dX6_isQuarrel_30 hl (by decide) rfl (fun ls hl => ?_)
  refine lv_lload_n hx hb dX6_isQuarrel_32 rfl (lv_at hl 3 rfl) ?_
  refine lv_lload hx hb dX6_isQuarrel_33 (lv_at hl 0 rfl) ?_
  refine lv_land hx hb dX6_isQuarrel_35 ?_
  refine lv_lconst (v := 0) hx hb dX6_isQuarrel_36 (by decide) ?_
  refine W.lcmp hx hb dX6_isQuarrel_37 ?_
  refine lv_if_ne (tgt := 51) hx hb dX6_isQuarrel_38 (by decide) (fun c5 => ?_) (fun c5 => ?_)
  · have hf := (if_neg c5).symm.trans hf
    refine lv_iconst (v := 1) hx hb dX6_isQuarrel_51 (by decide) ?_
    refine lv_goto (tgt := 56) hx hb dX6_isQuarrel_52 (by decide) ?_
    subst hf
    exact ke_zret hE hw hQ (Or.inr rfl) dX6_isQuarrel_56 rfl rfl
  · have hf := (if_pos c5).symm.trans hf
    refine lv_lload hx hb dX6_isQuarrel_41 (lv_at hl 2 rfl) ?_
    refine lv_lload hx hb dX6_isQuarrel_43 (lv_at hl 1 rfl) ?_
    refine lv_land hx hb dX6_isQuarrel_45 ?_
    refine lv_lconst (v := 0) hx hb dX6_isQuarrel_46 (by decide) ?_
    refine W.lcmp hx hb dX6_isQuarrel_47 ?_
    refine lv_if_eq (tgt := 55) hx hb dX6_isQuarrel_48 (by decide) (fun c6 => ?_) (fun c6 => ?_)
    · have hf := (if_pos c6).symm.trans hf
      refine lv_iconst (v := 0) hx hb dX6_isQuarrel_55 (by decide) ?_
      subst hf
      exact ke_zret hE hw hQ (Or.inl rfl) dX6_isQuarrel_56 rfl rfl
    · have hf := (if_neg c6).symm.trans hf
      refine lv_iconst (v := 1) hx hb dX6_isQuarrel_51 (by decide) ?_
      refine lv_goto (tgt := 56) hx hb dX6_isQuarrel_52 (by decide) ?_
      subst hf
      exact ke_zret hE hw hQ (Or.inr rfl) dX6_isQuarrel_56 rfl rfl
def fX6_everySort  (p1 : Int32) : Int32 :=
 (((1 : Int32) <<< (((1 : Int32) <<< (p1 &&& 31)) &&& 31)) - (1 : Int32))
set_option maxHeartbeats 4000000 in
set_option maxRecDepth 100000 in
theorem c_X6_everySort (l : Launch) (D : va_G) (cA : Nat → ClassId) (st ad : Nat → Nat) (a : Nat)  (τ : Tau) (p1 : Int32) (R : Int32) (hf : fX6_everySort p1 = R) : KE ΛX 29 D cA st ad l yX6_everySort cX6_everySort 1 (some .int) 0 0 [.int p1] a τ (some (.int R)) τ := by
  refine KE.of "KindSayings" rfl (by decide) (Nat.le_of_ble_eq_true rfl) (fun p e s m args below meth c A ls Rm Q hE hRm hQ hw hl => ?_)
  obtain ⟨hx, hb, hml, hown, hts, -⟩ := id hE
  have hl : lv_has ls 1 [(0, .int p1)] := hl
  unfold fX6_everySort at hf
  refine lv_iconst (v := 1) hx hb dX6_everySort_0 (by decide) ?_
  refine lv_iconst (v := 1) hx hb dX6_everySort_1 (by decide) ?_
  refine lv_iload_n hx hb dX6_everySort_2 rfl (lv_at hl 0 rfl) ?_
  refine lv_ishl hx hb dX6_everySort_3 ?_
  refine lv_ishl hx hb dX6_everySort_4 ?_
  refine lv_iconst (v := 1) hx hb dX6_everySort_5 (by decide) ?_
  refine lv_isub hx hb dX6_everySort_6 ?_
  subst hf
  exact ke_iret hE hw hQ dX6_everySort_7 rfl rfl
def fX6_sortsOfKind_24 (p1 : Int32) (p2 : Int32) (k4 : Int32 → Int32 → Option Int32) (x_2 : Int32) (x_3 : Int32) : Option Int32 :=
 nm (x_3 + (1 : Int32)) (fun x6 =>
     k4 x_2 x6)
def fX6_sortsOfKind_4 (p1 : Int32) (p2 : Int32) : Nat → Int32 → Int32 → Option Int32
  | 0, _, _ => none
  | n + 1, x_2, x_3 =>
     (if (16 : Int32) ≤ x_3 then
     nm (fX6_everySort p2) (fun r2 =>
     some (x_2 &&& r2))
     else
     nm (fX6_has x_3 p1) (fun r3 =>
     (if bI r3 = 0 then
     fX6_sortsOfKind_24 p1 p2 (fX6_sortsOfKind_4 p1 p2 n) x_2 x_3
     else
     nm (x_2 ||| ((1 : Int32) <<< (x_3 &&& 31))) (fun x5 =>
     fX6_sortsOfKind_24 p1 p2 (fX6_sortsOfKind_4 p1 p2 n) x5 x_3))))
def fX6_sortsOfKind  (p1 : Int32) (p2 : Int32) : Option Int32 :=
 fX6_sortsOfKind_4 p1 p2 FU (0 : Int32) (0 : Int32)
set_option maxHeartbeats 4000000 in
set_option maxRecDepth 100000 in
theorem c_X6_sortsOfKind (l : Launch) (D : va_G) (cA : Nat → ClassId) (st ad : Nat → Nat) (a : Nat)  (τ : Tau) (p1 : Int32) (p2 : Int32) (R : Int32) (hf : fX6_sortsOfKind p1 p2 = some R) : KE ΛX 29 D cA st ad l yX6_sortsOfKind cX6_sortsOfKind 4 (some .int) 1 21 [.int p1, .int p2] a τ (some (.int R)) τ := by
  refine KE.of "KindSayings" rfl (by decide) (Nat.le_of_ble_eq_true rfl) (fun p e s m args below meth c A ls Rm Q hE hRm hQ hw hl => ?_)
  obtain ⟨hx, hb, hml, hown, hts, -⟩ := id hE
  have hl : lv_has ls 4 [(0, .int p1), (1, .int p2)] := hl
  have L4 : ∀ (n4 : Nat) (x_2 : Int32) (x_3 : Int32) (H : Heap) (locs : List Loc) (ls : Array Slot), fX6_sortsOfKind_4 p1 p2 n4 x_2 x_3 = some R → Wd ΛX 29 D cA ad A s a τ H locs → lv_has ls 4 [(0, .int p1), (1, .int p2), (2, .int x_2), (3, .int x_3)] → W p l e Rm s m args below meth c H locs 0 0 Q (F0 m 4 ls []) := by
    intro n4
    induction n4 with
    | zero => intro x_2 x_3 H locs ls hf hw hl; exact absurd hf (by rw [fX6_sortsOfKind_4]; simp)
    | succ n4 ih4 =>
      have L24 : ∀ (x_2 : Int32) (x_3 : Int32) (H : Heap) (locs : List Loc) (ls : Array Slot), fX6_sortsOfKind_24 p1 p2 (fX6_sortsOfKind_4 p1 p2 n4) x_2 x_3 = some R → Wd ΛX 29 D cA ad A s a τ H locs → lv_has ls 4 [(0, .int p1), (1, .int p2), (2, .int x_2), (3, .int x_3)] → W p l e Rm s m args below meth c H locs 0 0 Q (F0 m 24 ls []) := by
        intro x_2 x_3 H locs ls hf hw hl
        unfold fX6_sortsOfKind_24 at hf
        obtain ⟨x6, ex6, hf⟩ := ks_nm hf
        refine lv_iinc (v := x6) (lv' := [(3, .int x6), (0, .int p1), (1, .int p2), (2, .int x_2)]) hx hb dX6_sortsOfKind_24 hl (k := 3) rfl (by rw [ex6]; rfl) (by decide) rfl (fun ls hl => ?_)
        refine lv_goto (tgt := 4) hx hb dX6_sortsOfKind_27 (by decide) ?_
        exact ih4 _ _ _ _ _ hf hw (lv_sub hl [1, 2, 3, 0] rfl)
      intro x_2 x_3 H locs ls hf hw hl
      rw [fX6_sortsOfKind_4] at hf
      refine lv_iload_n hx hb dX6_sortsOfKind_4 rfl (lv_at hl 3 rfl) ?_
      refine lv_bipush (v := 16) hx hb dX6_sortsOfKind_5 (by decide) ?_
      refine lv_icmp_ge (tgt := 30) hx hb dX6_sortsOfKind_7 (by decide) (fun c1 => ?_) (fun c1 => ?_)
      · have hf := (if_pos c1).symm.trans hf
        refine lv_iload_n hx hb dX6_sortsOfKind_30 rfl (lv_at hl 2 rfl) ?_
        refine lv_iload_n hx hb dX6_sortsOfKind_31 rfl (lv_at hl 1 rfl) ?_
        obtain ⟨r2, er2, hf⟩ := ks_nm hf
        refine ke_S hE hw hl.1 cl_X6_238 [.int p2] (c_X6_everySort l D cA st ad a _ _ _ er2.symm) rfl (ke_room hRm rfl rfl) ke_cnt (Nat.le_of_ble_eq_true rfl) rfl dX6_sortsOfKind_32 (fun H locs hw => ?_)
        refine W.eq (g2 := F0 m 35 ls (.int r2 :: .int x_2 :: [])) rfl ?_
        refine lv_iand hx hb dX6_sortsOfKind_35 ?_
        replace hf := Option.some.inj hf
        subst hf
        exact ke_iret hE hw hQ dX6_sortsOfKind_36 rfl rfl
      · have hf := (if_neg c1).symm.trans hf
        refine lv_iload_n hx hb dX6_sortsOfKind_10 rfl (lv_at hl 3 rfl) ?_
        refine lv_iload_n hx hb dX6_sortsOfKind_11 rfl (lv_at hl 0 rfl) ?_
        obtain ⟨r3, er3, hf⟩ := ks_nm hf
        refine ke_S hE hw hl.1 cl_X6_158 [.int x_3, .int p1] (c_X6_has l D cA st ad a _ _ _ _ er3.symm) rfl (ke_room hRm rfl rfl) ke_cnt (Nat.le_of_ble_eq_true rfl) rfl dX6_sortsOfKind_12 (fun H locs hw => ?_)
        refine W.eq (g2 := F0 m 15 ls (.int (bI r3) :: [])) rfl ?_
        refine lv_if_eq (tgt := 24) hx hb dX6_sortsOfKind_15 (by decide) (fun c4 => ?_) (fun c4 => ?_)
        · have hf := (if_pos c4).symm.trans hf
          exact L24 _ _ _ _ _ hf hw (lv_sub hl [0, 1, 2, 3] rfl)
        · have hf := (if_neg c4).symm.trans hf
          refine lv_iload_n hx hb dX6_sortsOfKind_18 rfl (lv_at hl 2 rfl) ?_
          refine lv_iconst (v := 1) hx hb dX6_sortsOfKind_19 (by decide) ?_
          refine lv_iload_n hx hb dX6_sortsOfKind_20 rfl (lv_at hl 3 rfl) ?_
          refine lv_ishl hx hb dX6_sortsOfKind_21 ?_
          refine lv_ior hx hb dX6_sortsOfKind_22 ?_
          obtain ⟨x5, ex5, hf⟩ := ks_nm hf
          refine W.eq (g2 := F0 m 23 ls (.int x5 :: [])) (by rw [ex5]) ?_
          refine lv_istore_n (lv' := [(2, .int x5), (0, .int p1), (1, .int p2), (3, .int x_3)]) hx hb dX6_sortsOfKind_23 rfl hl (by decide) rfl (fun ls hl => ?_)
          exact L24 _ _ _ _ _ hf hw (lv_sub hl [1, 2, 0, 3] rfl)
  unfold fX6_sortsOfKind at hf
  refine lv_iconst (v := 0) hx hb dX6_sortsOfKind_0 (by decide) ?_
  refine lv_istore_n (lv' := [(2, .int (0 : Int32)), (0, .int p1), (1, .int p2)]) hx hb dX6_sortsOfKind_1 rfl hl (by decide) rfl (fun ls hl => ?_)
  refine lv_iconst (v := 0) hx hb dX6_sortsOfKind_2 (by decide) ?_
  refine lv_istore_n (lv' := [(3, .int (0 : Int32)), (2, .int (0 : Int32)), (0, .int p1), (1, .int p2)]) hx hb dX6_sortsOfKind_3 rfl hl (by decide) rfl (fun ls hl => ?_)
  exact L4 FU _ _ _ _ _ hf hw (lv_sub hl [2, 3, 1, 0] rfl)
def fJ6_bitCount_0f7a4  (p1 : Int32) : Int32 :=
 nm (p1 - ((p1.toUInt32 >>> ((1 : Int32).toUInt32 &&& Int32.toUInt32 31)).toInt32 &&& (1431655765 : Int32))) (fun x1 =>
 nm ((x1 &&& (858993459 : Int32)) + ((x1.toUInt32 >>> ((2 : Int32).toUInt32 &&& Int32.toUInt32 31)).toInt32 &&& (858993459 : Int32))) (fun x2 =>
 nm ((x2 + (x2.toUInt32 >>> ((4 : Int32).toUInt32 &&& Int32.toUInt32 31)).toInt32) &&& (252645135 : Int32)) (fun x3 =>
 nm (x3 + (x3.toUInt32 >>> ((8 : Int32).toUInt32 &&& Int32.toUInt32 31)).toInt32) (fun x4 =>
 nm (x4 + (x4.toUInt32 >>> ((16 : Int32).toUInt32 &&& Int32.toUInt32 31)).toInt32) (fun x5 =>
 (x5 &&& (63 : Int32)))))))
set_option maxHeartbeats 4000000 in
set_option maxRecDepth 100000 in
theorem c_J6_bitCount_0f7a4 (l : Launch) (D : va_G) (cA : Nat → ClassId) (st ad : Nat → Nat) (a : Nat)  (τ : Tau) (p1 : Int32) (R : Int32) (hf : fJ6_bitCount_0f7a4 p1 = R) : KE ΛX 29 D cA st ad l yJ6_bitCount_0f7a4 cJ6_bitCount_0f7a4 1 (some .int) 0 0 [.int p1] a τ (some (.int R)) τ := by
  refine KE.of "java/lang/Integer" rfl (by decide) (Nat.le_of_ble_eq_true rfl) (fun p e s m args below meth c A ls Rm Q hE hRm hQ hw hl => ?_)
  obtain ⟨hx, hb, hml, hown, hts, -⟩ := id hE
  have hl : lv_has ls 1 [(0, .int p1)] := hl
  unfold fJ6_bitCount_0f7a4 at hf
  refine lv_iload_n hx hb dJ6_bitCount_0f7a4_0 rfl (lv_at hl 0 rfl) ?_
  refine lv_iload_n hx hb dJ6_bitCount_0f7a4_1 rfl (lv_at hl 0 rfl) ?_
  refine lv_iconst (v := 1) hx hb dJ6_bitCount_0f7a4_2 (by decide) ?_
  refine lv_iushr hx hb dJ6_bitCount_0f7a4_3 rfl ?_
  refine lv_ldcw hx hb hown (hts _ w_612) dJ6_bitCount_0f7a4_4 ?_
  refine lv_iand hx hb dJ6_bitCount_0f7a4_7 ?_
  refine lv_isub hx hb dJ6_bitCount_0f7a4_8 ?_
  obtain ⟨x1, ex1, hf⟩ := ks_nm hf
  refine W.eq (g2 := F0 m 9 ls (.int x1 :: [])) (by rw [ex1]) ?_
  refine lv_istore_n (lv' := [(0, .int x1)]) hx hb dJ6_bitCount_0f7a4_9 rfl hl (by decide) rfl (fun ls hl => ?_)
  refine lv_iload_n hx hb dJ6_bitCount_0f7a4_10 rfl (lv_at hl 0 rfl) ?_
  refine lv_ldcw hx hb hown (hts _ w_613) dJ6_bitCount_0f7a4_11 ?_
  refine lv_iand hx hb dJ6_bitCount_0f7a4_14 ?_
  refine lv_iload_n hx hb dJ6_bitCount_0f7a4_15 rfl (lv_at hl 0 rfl) ?_
  refine lv_iconst (v := 2) hx hb dJ6_bitCount_0f7a4_16 (by decide) ?_
  refine lv_iushr hx hb dJ6_bitCount_0f7a4_17 rfl ?_
  refine lv_ldcw hx hb hown (hts _ w_613) dJ6_bitCount_0f7a4_18 ?_
  refine lv_iand hx hb dJ6_bitCount_0f7a4_21 ?_
  refine lv_iadd hx hb dJ6_bitCount_0f7a4_22 ?_
  obtain ⟨x2, ex2, hf⟩ := ks_nm hf
  refine W.eq (g2 := F0 m 23 ls (.int x2 :: [])) (by rw [ex2]) ?_
  refine lv_istore_n (lv' := [(0, .int x2)]) hx hb dJ6_bitCount_0f7a4_23 rfl hl (by decide) rfl (fun ls hl => ?_)
  refine lv_iload_n hx hb dJ6_bitCount_0f7a4_24 rfl (lv_at hl 0 rfl) ?_
  refine lv_iload_n hx hb dJ6_bitCount_0f7a4_25 rfl (lv_at hl 0 rfl) ?_
  refine lv_iconst (v := 4) hx hb dJ6_bitCount_0f7a4_26 (by decide) ?_
  refine lv_iushr hx hb dJ6_bitCount_0f7a4_27 rfl ?_
  refine lv_iadd hx hb dJ6_bitCount_0f7a4_28 ?_
  refine lv_ldcw hx hb hown (hts _ w_614) dJ6_bitCount_0f7a4_29 ?_
  refine lv_iand hx hb dJ6_bitCount_0f7a4_32 ?_
  obtain ⟨x3, ex3, hf⟩ := ks_nm hf
  refine W.eq (g2 := F0 m 33 ls (.int x3 :: [])) (by rw [ex3]) ?_
  refine lv_istore_n (lv' := [(0, .int x3)]) hx hb dJ6_bitCount_0f7a4_33 rfl hl (by decide) rfl (fun ls hl => ?_)
  refine lv_iload_n hx hb dJ6_bitCount_0f7a4_34 rfl (lv_at hl 0 rfl) ?_
  refine lv_iload_n hx hb dJ6_bitCount_0f7a4_35 rfl (lv_at hl 0 rfl) ?_
  refine lv_bipush (v := 8) hx hb dJ6_bitCount_0f7a4_36 (by decide) ?_
  refine lv_iushr hx hb dJ6_bitCount_0f7a4_38 rfl ?_
  refine lv_iadd hx hb dJ6_bitCount_0f7a4_39 ?_
  obtain ⟨x4, ex4, hf⟩ := ks_nm hf
  refine W.eq (g2 := F0 m 40 ls (.int x4 :: [])) (by rw [ex4]) ?_
  refine lv_istore_n (lv' := [(0, .int x4)]) hx hb dJ6_bitCount_0f7a4_40 rfl hl (by decide) rfl (fun ls hl => ?_)
  refine lv_iload_n hx hb dJ6_bitCount_0f7a4_41 rfl (lv_at hl 0 rfl) ?_
  refine lv_iload_n hx hb dJ6_bitCount_0f7a4_42 rfl (lv_at hl 0 rfl) ?_
  refine lv_bipush (v := 16) hx hb dJ6_bitCount_0f7a4_43 (by decide) ?_
  refine lv_iushr hx hb dJ6_bitCount_0f7a4_45 rfl ?_
  refine lv_iadd hx hb dJ6_bitCount_0f7a4_46 ?_
  obtain ⟨x5, ex5, hf⟩ := ks_nm hf
  refine W.eq (g2 := F0 m 47 ls (.int x5 :: [])) (by rw [ex5]) ?_
  refine lv_istore_n (lv' := [(0, .int x5)]) hx hb dJ6_bitCount_0f7a4_47 rfl hl (by decide) rfl (fun ls hl => ?_)
  refine lv_iload_n hx hb dJ6_bitCount_0f7a4_48 rfl (lv_at hl 0 rfl) ?_
  refine lv_bipush (v := 63) hx hb dJ6_bitCount_0f7a4_49 (by decide) ?_
  refine lv_iand hx hb dJ6_bitCount_0f7a4_51 ?_
  subst hf
  exact ke_iret hE hw hQ dJ6_bitCount_0f7a4_52 rfl rfl
def fJ13_bitCount_95d88  (p1 : Int64) : Int32 :=
 nm (p1 - ((p1.toUInt64 >>> ((1 : Int32).toInt64.toUInt64 &&& Int64.toUInt64 63)).toInt64 &&& (6148914691236517205 : Int64))) (fun x1 =>
 nm ((x1 &&& (3689348814741910323 : Int64)) + ((x1.toUInt64 >>> ((2 : Int32).toInt64.toUInt64 &&& Int64.toUInt64 63)).toInt64 &&& (3689348814741910323 : Int64))) (fun x2 =>
 nm ((x2 + (x2.toUInt64 >>> ((4 : Int32).toInt64.toUInt64 &&& Int64.toUInt64 63)).toInt64) &&& (1085102592571150095 : Int64)) (fun x3 =>
 nm (x3 + (x3.toUInt64 >>> ((8 : Int32).toInt64.toUInt64 &&& Int64.toUInt64 63)).toInt64) (fun x4 =>
 nm (x4 + (x4.toUInt64 >>> ((16 : Int32).toInt64.toUInt64 &&& Int64.toUInt64 63)).toInt64) (fun x5 =>
 nm (x5 + (x5.toUInt64 >>> ((32 : Int32).toInt64.toUInt64 &&& Int64.toUInt64 63)).toInt64) (fun x6 =>
 (x6.toInt32 &&& (127 : Int32))))))))
set_option maxHeartbeats 4000000 in
set_option maxRecDepth 100000 in
theorem c_J13_bitCount_95d88 (l : Launch) (D : va_G) (cA : Nat → ClassId) (st ad : Nat → Nat) (a : Nat)  (τ : Tau) (p1 : Int64) (R : Int32) (hf : fJ13_bitCount_95d88 p1 = R) : KE ΛX 29 D cA st ad l yJ13_bitCount_95d88 cJ13_bitCount_95d88 2 (some .int) 0 0 [.long p1] a τ (some (.int R)) τ := by
  refine KE.of "java/lang/Long" rfl (by decide) (Nat.le_of_ble_eq_true rfl) (fun p e s m args below meth c A ls Rm Q hE hRm hQ hw hl => ?_)
  obtain ⟨hx, hb, hml, hown, hts, -⟩ := id hE
  have hl : lv_has ls 2 [(0, .long p1)] := hl
  unfold fJ13_bitCount_95d88 at hf
  refine lv_lload_n hx hb dJ13_bitCount_95d88_0 rfl (lv_at hl 0 rfl) ?_
  refine lv_lload_n hx hb dJ13_bitCount_95d88_1 rfl (lv_at hl 0 rfl) ?_
  refine lv_iconst (v := 1) hx hb dJ13_bitCount_95d88_2 (by decide) ?_
  refine lv_lushr hx hb dJ13_bitCount_95d88_3 rfl ?_
  refine lv_ldc2 hx hb hown (hts _ w_720) dJ13_bitCount_95d88_4 ?_
  refine lv_land hx hb dJ13_bitCount_95d88_7 ?_
  refine lv_lsub hx hb dJ13_bitCount_95d88_8 ?_
  obtain ⟨x1, ex1, hf⟩ := ks_nm hf
  refine W.eq (g2 := F0 m 9 ls (.long x1 :: [])) (by rw [ex1]) ?_
  refine lv_lstore_n (lv' := [(0, .long x1)]) hx hb dJ13_bitCount_95d88_9 rfl hl (by decide) rfl (fun ls hl => ?_)
  refine lv_lload_n hx hb dJ13_bitCount_95d88_10 rfl (lv_at hl 0 rfl) ?_
  refine lv_ldc2 hx hb hown (hts _ w_721) dJ13_bitCount_95d88_11 ?_
  refine lv_land hx hb dJ13_bitCount_95d88_14 ?_
  refine lv_lload_n hx hb dJ13_bitCount_95d88_15 rfl (lv_at hl 0 rfl) ?_
  refine lv_iconst (v := 2) hx hb dJ13_bitCount_95d88_16 (by decide) ?_
  refine lv_lushr hx hb dJ13_bitCount_95d88_17 rfl ?_
  refine lv_ldc2 hx hb hown (hts _ w_721) dJ13_bitCount_95d88_18 ?_
  refine lv_land hx hb dJ13_bitCount_95d88_21 ?_
  refine lv_ladd hx hb dJ13_bitCount_95d88_22 ?_
  obtain ⟨x2, ex2, hf⟩ := ks_nm hf
  refine W.eq (g2 := F0 m 23 ls (.long x2 :: [])) (by rw [ex2]) ?_
  refine lv_lstore_n (lv' := [(0, .long x2)]) hx hb dJ13_bitCount_95d88_23 rfl hl (by decide) rfl (fun ls hl => ?_)
  refine lv_lload_n hx hb dJ13_bitCount_95d88_24 rfl (lv_at hl 0 rfl) ?_
  refine lv_lload_n hx hb dJ13_bitCount_95d88_25 rfl (lv_at hl 0 rfl) ?_
  refine lv_iconst (v := 4) hx hb dJ13_bitCount_95d88_26 (by decide) ?_
  refine lv_lushr hx hb dJ13_bitCount_95d88_27 rfl ?_
  refine lv_ladd hx hb dJ13_bitCount_95d88_28 ?_
  refine lv_ldc2 hx hb hown (hts _ w_722) dJ13_bitCount_95d88_29 ?_
  refine lv_land hx hb dJ13_bitCount_95d88_32 ?_
  obtain ⟨x3, ex3, hf⟩ := ks_nm hf
  refine W.eq (g2 := F0 m 33 ls (.long x3 :: [])) (by rw [ex3]) ?_
  refine lv_lstore_n (lv' := [(0, .long x3)]) hx hb dJ13_bitCount_95d88_33 rfl hl (by decide) rfl (fun ls hl => ?_)
  refine lv_lload_n hx hb dJ13_bitCount_95d88_34 rfl (lv_at hl 0 rfl) ?_
  refine lv_lload_n hx hb dJ13_bitCount_95d88_35 rfl (lv_at hl 0 rfl) ?_
  refine lv_bipush (v := 8) hx hb dJ13_bitCount_95d88_36 (by decide) ?_
  refine lv_lushr hx hb dJ13_bitCount_95d88_38 rfl ?_
  refine lv_ladd hx hb dJ13_bitCount_95d88_39 ?_
  obtain ⟨x4, ex4, hf⟩ := ks_nm hf
  refine W.eq (g2 := F0 m 40 ls (.long x4 :: [])) (by rw [ex4]) ?_
  refine lv_lstore_n (lv' := [(0, .long x4)]) hx hb dJ13_bitCount_95d88_40 rfl hl (by decide) rfl (fun ls hl => ?_)
  refine lv_lload_n hx hb dJ13_bitCount_95d88_41 rfl (lv_at hl 0 rfl) ?_
  refine lv_lload_n hx hb dJ13_bitCount_95d88_42 rfl (lv_at hl 0 rfl) ?_
  refine lv_bipush (v := 16) hx hb dJ13_bitCount_95d88_43 (by decide) ?_
  refine lv_lushr hx hb dJ13_bitCount_95d88_45 rfl ?_
  refine lv_ladd hx hb dJ13_bitCount_95d88_46 ?_
  obtain ⟨x5, ex5, hf⟩ := ks_nm hf
  refine W.eq (g2 := F0 m 47 ls (.long x5 :: [])) (by rw [ex5]) ?_
  refine lv_lstore_n (lv' := [(0, .long x5)]) hx hb dJ13_bitCount_95d88_47 rfl hl (by decide) rfl (fun ls hl => ?_)
  refine lv_lload_n hx hb dJ13_bitCount_95d88_48 rfl (lv_at hl 0 rfl) ?_
  refine lv_lload_n hx hb dJ13_bitCount_95d88_49 rfl (lv_at hl 0 rfl) ?_
  refine lv_bipush (v := 32) hx hb dJ13_bitCount_95d88_50 (by decide) ?_
  refine lv_lushr hx hb dJ13_bitCount_95d88_52 rfl ?_
  refine lv_ladd hx hb dJ13_bitCount_95d88_53 ?_
  obtain ⟨x6, ex6, hf⟩ := ks_nm hf
  refine W.eq (g2 := F0 m 54 ls (.long x6 :: [])) (by rw [ex6]) ?_
  refine lv_lstore_n (lv' := [(0, .long x6)]) hx hb dJ13_bitCount_95d88_54 rfl hl (by decide) rfl (fun ls hl => ?_)
  refine lv_lload_n hx hb dJ13_bitCount_95d88_55 rfl (lv_at hl 0 rfl) ?_
  refine lv_l2i hx hb dJ13_bitCount_95d88_56 rfl ?_
  refine lv_bipush (v := 127) hx hb dJ13_bitCount_95d88_57 (by decide) ?_
  refine lv_iand hx hb dJ13_bitCount_95d88_59 ?_
  subst hf
  exact ke_iret hE hw hQ dJ13_bitCount_95d88_60 rfl rfl
