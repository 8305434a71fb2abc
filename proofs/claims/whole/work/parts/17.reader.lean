def fX2_fail  (τ : Tau) : Tau :=
 (if tI τ 13 4 = (-1 : Int32) then
 nm (sI τ 13 4 (tI τ 14 4)) (fun t2 =>
 t2)
 else
 τ)
set_option maxHeartbeats 4000000 in
set_option maxRecDepth 100000 in
theorem c_X2_fail (l : Launch) (D : va_G) (cA : Nat → ClassId) (st ad : Nat → Nat) (a : Nat)  (τ : Tau) (R : Tau) (hf : fX2_fail τ = R) : KE ΛX 29 D cA st ad l yX2_fail cX2_fail 1 none 0 0 [.ref (adr ad a 13)] a τ (none) R := by
  refine KE.of "KindSayings$Reader" rfl (by decide) (Nat.le_of_ble_eq_true rfl) (fun p e s m args below meth c A ls Rm Q hE hRm hQ hw hl => ?_)
  obtain ⟨hx, hb, hml, hown, hts, -⟩ := id hE
  have hl : lv_has ls 1 [(0, .ref (adr ad a 13))] := hl
  unfold fX2_fail at hf
  refine lv_aload_n hx hb dX2_fail_0 rfl (lv_at hl 0 rfl) ?_
  refine ks_getI hE hw 13 4 ltX_13 lyX_13 rfl fd_X2_32 dX2_fail_1 ?_
  refine lv_iconst (v := (-1)) hx hb dX2_fail_4 (by decide) ?_
  refine lv_icmp_ne (tgt := 19) hx hb dX2_fail_5 (by decide) (fun c1 => ?_) (fun c1 => ?_)
  · have hf := (if_neg c1).symm.trans hf
    subst hf
    exact ke_vret hE hw hQ dX2_fail_19 rfl
  · have hf := (if_pos c1).symm.trans hf
    refine lv_aload_n hx hb dX2_fail_8 rfl (lv_at hl 0 rfl) ?_
    refine lv_aload_n hx hb dX2_fail_9 rfl (lv_at hl 0 rfl) ?_
    refine ks_getR hE hw 13 0 ltX_13 lyX_13 rfl fd_X2_12 dX2_fail_10 ?_
    refine ks_getI hE hw 14 4 ltX_14 lyX_14 rfl fd_X2_113 dX2_fail_13 ?_
    obtain ⟨t2, et2, hf⟩ := ks_nm hf
    refine ks_putI hE hw 13 4 ltX_13 lyX_13 rfl fw_X2_32 rfl rfl dX2_fail_16 (fun H locs hw => ?_)
    rw [← et2] at hw
    subst hf
    exact ke_vret hE hw hQ dX2_fail_19 rfl
def fX2_pass_15 (p1 : Int32) (τ : Tau) : Option Tau :=
 (if tI τ 13 4 = (-1 : Int32) then
     Option.bind (fX4_advance τ) (fun r4 =>
     some r4)
     else
     some τ)
def fX2_pass  (τ : Tau) (p1 : Int32) : Option Tau :=
 (if tI τ 14 2 = p1 then
 fX2_pass_15 p1 τ
 else
 nm (fX2_fail τ) (fun r2 =>
 fX2_pass_15 p1 r2))
set_option maxHeartbeats 4000000 in
set_option maxRecDepth 100000 in
theorem c_X2_pass (l : Launch) (D : va_G) (cA : Nat → ClassId) (st ad : Nat → Nat) (a : Nat)  (τ : Tau) (p1 : Int32) (R : Tau) (hf : fX2_pass τ p1 = some R) : KE ΛX 29 D cA st ad l yX2_pass cX2_pass 2 none 3 65 [.ref (adr ad a 13), .int p1] a τ (none) R := by
  refine KE.of "KindSayings$Reader" rfl (by decide) (Nat.le_of_ble_eq_true rfl) (fun p e s m args below meth c A ls Rm Q hE hRm hQ hw hl => ?_)
  obtain ⟨hx, hb, hml, hown, hts, -⟩ := id hE
  have hl : lv_has ls 2 [(0, .ref (adr ad a 13)), (1, .int p1)] := hl
  have L15 : ∀ (τ : Tau) (H : Heap) (locs : List Loc) (ls : Array Slot), fX2_pass_15 p1 τ = some R → Wd ΛX 29 D cA ad A s a τ H locs → lv_has ls 2 [(0, .ref (adr ad a 13))] → W p l e Rm s m args below meth c H locs 0 0 Q (F0 m 15 ls []) := by
    intro τ H locs ls hf hw hl
    unfold fX2_pass_15 at hf
    refine lv_aload_n hx hb dX2_pass_15 rfl (lv_at hl 0 rfl) ?_
    refine ks_getI hE hw 13 4 ltX_13 lyX_13 rfl fd_X2_32 dX2_pass_16 ?_
    refine lv_iconst (v := (-1)) hx hb dX2_pass_19 (by decide) ?_
    refine lv_icmp_ne (tgt := 30) hx hb dX2_pass_20 (by decide) (fun c3 => ?_) (fun c3 => ?_)
    · have hf := (if_neg c3).symm.trans hf
      replace hf := Option.some.inj hf
      subst hf
      exact ke_vret hE hw hQ dX2_pass_30 rfl
    · have hf := (if_pos c3).symm.trans hf
      refine lv_aload_n hx hb dX2_pass_23 rfl (lv_at hl 0 rfl) ?_
      refine ks_getR hE hw 13 0 ltX_13 lyX_13 rfl fd_X2_12 dX2_pass_24 ?_
      obtain ⟨r4, er4, hf⟩ := ks_bind hf
      refine ke_V hE hw hl.1 cl_X2_75 14 ltX_14 lyX_14 rfl [] (c_X4_advance l D cA st ad a _ _ er4) rfl (ke_room hRm rfl rfl) ke_cnt (Nat.le_of_ble_eq_true rfl) rfl dX2_pass_27 (fun H locs hw => ?_)
      refine W.eq (g2 := F0 m 30 ls ([])) rfl ?_
      replace hf := Option.some.inj hf
      subst hf
      exact ke_vret hE hw hQ dX2_pass_30 rfl
  unfold fX2_pass at hf
  refine lv_aload_n hx hb dX2_pass_0 rfl (lv_at hl 0 rfl) ?_
  refine ks_getR hE hw 13 0 ltX_13 lyX_13 rfl fd_X2_12 dX2_pass_1 ?_
  refine ks_getI hE hw 14 2 ltX_14 lyX_14 rfl fd_X2_65 dX2_pass_4 ?_
  refine lv_iload_n hx hb dX2_pass_7 rfl (lv_at hl 1 rfl) ?_
  refine lv_icmp_eq (tgt := 15) hx hb dX2_pass_8 (by decide) (fun c1 => ?_) (fun c1 => ?_)
  · have hf := (if_pos c1).symm.trans hf
    exact L15 _ _ _ _ hf hw (lv_sub hl [0] rfl)
  · have hf := (if_neg c1).symm.trans hf
    refine lv_aload_n hx hb dX2_pass_11 rfl (lv_at hl 0 rfl) ?_
    obtain ⟨r2, er2, hf⟩ := ks_nm hf
    refine ke_V hE hw hl.1 cl_X2_84 13 ltX_13 lyX_13 rfl [] (c_X2_fail l D cA st ad a _ _ er2.symm) rfl (ke_room hRm rfl rfl) ke_cnt (Nat.le_of_ble_eq_true rfl) rfl dX2_pass_12 (fun H locs hw => ?_)
    refine W.eq (g2 := F0 m 15 ls ([])) rfl ?_
    exact L15 _ _ _ _ hf hw (lv_sub hl [0] rfl)
def fX2_isPart_42 (τ : Tau) (p1 : Int32) (p2 : Int32) (p3 : Int32)   : Bool :=
 (if (8 : Int32) ≤ p3 then
     false
     else
     true)
def fX2_isPart (τ : Tau) (p1 : Int32) (p2 : Int32) (p3 : Int32) : Bool :=
 (if tI τ 13 3 < (24 : Int32) then
 (if p1 = (4 : Int32) then
 (if tI τ 13 2 ≤ p2 then
 false
 else
 true)
 else
 (if p1 = (33 : Int32) then
 fX2_isPart_42 τ p1 p2 p3
 else
 (if p1 = (40 : Int32) then
 fX2_isPart_42 τ p1 p2 p3
 else
 false)))
 else
 false)
set_option maxHeartbeats 4000000 in
set_option maxRecDepth 100000 in
theorem c_X2_isPart (l : Launch) (D : va_G) (cA : Nat → ClassId) (st ad : Nat → Nat) (a : Nat)  (τ : Tau) (p1 : Int32) (p2 : Int32) (p3 : Int32) (R : Bool) (hf : fX2_isPart τ p1 p2 p3 = R) : KE ΛX 29 D cA st ad l yX2_isPart cX2_isPart 4 (some .boolean) 0 0 [.ref (adr ad a 13), .int p1, .int p2, .int p3] a τ (some (.int (bI R))) τ := by
  refine KE.of "KindSayings$Reader" rfl (by decide) (Nat.le_of_ble_eq_true rfl) (fun p e s m args below meth c A ls Rm Q hE hRm hQ hw hl => ?_)
  obtain ⟨hx, hb, hml, hown, hts, -⟩ := id hE
  have hl : lv_has ls 4 [(0, .ref (adr ad a 13)), (1, .int p1), (2, .int p2), (3, .int p3)] := hl
  have L42 : ∀ (H : Heap) (locs : List Loc) (ls : Array Slot), fX2_isPart_42 τ p1 p2 p3 = R → Wd ΛX 29 D cA ad A s a τ H locs → lv_has ls 4 [(3, .int p3)] → W p l e Rm s m args below meth c H locs 0 0 Q (F0 m 42 ls []) := by
    intro H locs ls hf hw hl
    unfold fX2_isPart_42 at hf
    refine lv_iload_n hx hb dX2_isPart_42 rfl (lv_at hl 0 rfl) ?_
    refine lv_bipush (v := 8) hx hb dX2_isPart_43 (by decide) ?_
    refine lv_icmp_ge (tgt := 52) hx hb dX2_isPart_45 (by decide) (fun c6 => ?_) (fun c6 => ?_)
    · have hf := (if_pos c6).symm.trans hf
      refine lv_iconst (v := 0) hx hb dX2_isPart_52 (by decide) ?_
      subst hf
      exact ke_zret hE hw hQ (Or.inl rfl) dX2_isPart_53 rfl rfl
    · have hf := (if_neg c6).symm.trans hf
      refine lv_iconst (v := 1) hx hb dX2_isPart_48 (by decide) ?_
      refine lv_goto (tgt := 53) hx hb dX2_isPart_49 (by decide) ?_
      subst hf
      exact ke_zret hE hw hQ (Or.inr rfl) dX2_isPart_53 rfl rfl
  unfold fX2_isPart at hf
  refine lv_aload_n hx hb dX2_isPart_0 rfl (lv_at hl 0 rfl) ?_
  refine ks_getI hE hw 13 3 ltX_13 lyX_13 rfl fd_X2_29 dX2_isPart_1 ?_
  refine lv_bipush (v := 24) hx hb dX2_isPart_4 (by decide) ?_
  refine lv_icmp_lt (tgt := 11) hx hb dX2_isPart_6 (by decide) (fun c1 => ?_) (fun c1 => ?_)
  · have hf := (if_pos c1).symm.trans hf
    refine lv_iload_n hx hb dX2_isPart_11 rfl (lv_at hl 1 rfl) ?_
    refine lv_iconst (v := 4) hx hb dX2_isPart_12 (by decide) ?_
    refine lv_icmp_ne (tgt := 30) hx hb dX2_isPart_13 (by decide) (fun c2 => ?_) (fun c2 => ?_)
    · have hf := (if_neg c2).symm.trans hf
      refine lv_iload_n hx hb dX2_isPart_30 rfl (lv_at hl 1 rfl) ?_
      refine lv_bipush (v := 33) hx hb dX2_isPart_31 (by decide) ?_
      refine lv_icmp_eq (tgt := 42) hx hb dX2_isPart_33 (by decide) (fun c3 => ?_) (fun c3 => ?_)
      · have hf := (if_pos c3).symm.trans hf
        exact L42  _ _ _ hf hw (lv_sub hl [3] rfl)
      · have hf := (if_neg c3).symm.trans hf
        refine lv_iload_n hx hb dX2_isPart_36 rfl (lv_at hl 1 rfl) ?_
        refine lv_bipush (v := 40) hx hb dX2_isPart_37 (by decide) ?_
        refine lv_icmp_ne (tgt := 52) hx hb dX2_isPart_39 (by decide) (fun c4 => ?_) (fun c4 => ?_)
        · have hf := (if_neg c4).symm.trans hf
          refine lv_iconst (v := 0) hx hb dX2_isPart_52 (by decide) ?_
          subst hf
          exact ke_zret hE hw hQ (Or.inl rfl) dX2_isPart_53 rfl rfl
        · have hf := (if_pos c4).symm.trans hf
          exact L42  _ _ _ hf hw (lv_sub hl [3] rfl)
    · have hf := (if_pos c2).symm.trans hf
      refine lv_iload_n hx hb dX2_isPart_16 rfl (lv_at hl 2 rfl) ?_
      refine lv_aload_n hx hb dX2_isPart_17 rfl (lv_at hl 0 rfl) ?_
      refine ks_getI hE hw 13 2 ltX_13 lyX_13 rfl fd_X2_25 dX2_isPart_18 ?_
      refine lv_icmp_ge (tgt := 28) hx hb dX2_isPart_21 (by decide) (fun c5 => ?_) (fun c5 => ?_)
      · have hf := (if_pos c5).symm.trans hf
        refine lv_iconst (v := 0) hx hb dX2_isPart_28 (by decide) ?_
        subst hf
        exact ke_zret hE hw hQ (Or.inl rfl) dX2_isPart_29 rfl rfl
      · have hf := (if_neg c5).symm.trans hf
        refine lv_iconst (v := 1) hx hb dX2_isPart_24 (by decide) ?_
        refine lv_goto (tgt := 29) hx hb dX2_isPart_25 (by decide) ?_
        subst hf
        exact ke_zret hE hw hQ (Or.inr rfl) dX2_isPart_29 rfl rfl
  · have hf := (if_neg c1).symm.trans hf
    refine lv_iconst (v := 0) hx hb dX2_isPart_9 (by decide) ?_
    subst hf
    exact ke_zret hE hw hQ (Or.inl rfl) dX2_isPart_10 rfl rfl
def fX2_factTold_105 (τ : Tau) (p1 : Int32) (p2 : Int32) (z_0 : Int32) : Int32 :=
 nm (fX6_factNumber z_0 p1 p2) (fun r9 =>
     r9)
def fX2_factTold_84 (τ : Tau) (p1 : Int32) (p2 : Int32) (z_0 : Int32) : Int32 :=
 nm (fX6_factNumber z_0 p1 p2) (fun r10 =>
     r10)
def fX2_factTold_63 (τ : Tau) (p1 : Int32) (p2 : Int32) (z_0 : Int32) : Int32 :=
 nm (fX6_factNumber z_0 p1 p2) (fun r11 =>
     r11)
def fX2_factTold (τ : Tau) (p1 : Int32) (p2 : Int32) : Int32 :=
 (if p1 = (-9 : Int32) then
 (-9 : Int32)
 else
 (if p2 = (-9 : Int32) then
 (-9 : Int32)
 else
 (if tI τ 16 0 = (0 : Int32) then
 (if tI τ 16 5 = 0 then
 fX2_factTold_63 τ p1 p2 (0 : Int32)
 else
 fX2_factTold_63 τ p1 p2 (3 : Int32))
 else
 (if tI τ 16 0 = (1 : Int32) then
 (if tI τ 16 5 = 0 then
 fX2_factTold_84 τ p1 p2 (1 : Int32)
 else
 fX2_factTold_84 τ p1 p2 (2 : Int32))
 else
 (if tI τ 16 0 = (2 : Int32) then
 (if tI τ 16 5 = 0 then
 fX2_factTold_105 τ p1 p2 (2 : Int32)
 else
 fX2_factTold_105 τ p1 p2 (1 : Int32))
 else
 (-9 : Int32))))))
set_option maxHeartbeats 4000000 in
set_option maxRecDepth 100000 in
theorem c_X2_factTold (l : Launch) (D : va_G) (cA : Nat → ClassId) (st ad : Nat → Nat) (a : Nat)  (τ : Tau) (p1 : Int32) (p2 : Int32) (R : Int32) (hf : fX2_factTold τ p1 p2 = R) : KE ΛX 29 D cA st ad l yX2_factTold cX2_factTold 3 (some .int) 1 22 [.ref (adr ad a 13), .int p1, .int p2] a τ (some (.int R)) τ := by
  refine KE.of "KindSayings$Reader" rfl (by decide) (Nat.le_of_ble_eq_true rfl) (fun p e s m args below meth c A ls Rm Q hE hRm hQ hw hl => ?_)
  obtain ⟨hx, hb, hml, hown, hts, -⟩ := id hE
  have hl : lv_has ls 3 [(0, .ref (adr ad a 13)), (1, .int p1), (2, .int p2)] := hl
  have L105 : ∀ (z_0 : Int32) (H : Heap) (locs : List Loc) (ls : Array Slot), fX2_factTold_105 τ p1 p2 z_0 = R → Wd ΛX 29 D cA ad A s a τ H locs → lv_has ls 3 [(1, .int p1), (2, .int p2)] → W p l e Rm s m args below meth c H locs 0 0 Q (F0 m 105 ls [.int z_0]) := by
    intro z_0 H locs ls hf hw hl
    unfold fX2_factTold_105 at hf
    refine lv_iload_n hx hb dX2_factTold_105 rfl (lv_at hl 0 rfl) ?_
    refine lv_iload_n hx hb dX2_factTold_106 rfl (lv_at hl 1 rfl) ?_
    obtain ⟨r9, er9, hf⟩ := ks_nm hf
    refine ke_SN hE hw hl.1 cl_X2_116 [.int z_0, .int p1, .int p2] (c_X6_factNumber l D cA st ad a _ _ _ _ _ er9.symm) rfl (ke_room hRm rfl rfl) ke_cnt (Nat.le_of_ble_eq_true rfl) rfl dX2_factTold_107 (fun H locs hw => ?_)
    refine W.eq (g2 := F0 m 110 ls (.int r9 :: [])) rfl ?_
    subst hf
    exact ke_iret hE hw hQ dX2_factTold_110 rfl rfl
  have L84 : ∀ (z_0 : Int32) (H : Heap) (locs : List Loc) (ls : Array Slot), fX2_factTold_84 τ p1 p2 z_0 = R → Wd ΛX 29 D cA ad A s a τ H locs → lv_has ls 3 [(1, .int p1), (2, .int p2)] → W p l e Rm s m args below meth c H locs 0 0 Q (F0 m 84 ls [.int z_0]) := by
    intro z_0 H locs ls hf hw hl
    unfold fX2_factTold_84 at hf
    refine lv_iload_n hx hb dX2_factTold_84 rfl (lv_at hl 0 rfl) ?_
    refine lv_iload_n hx hb dX2_factTold_85 rfl (lv_at hl 1 rfl) ?_
    obtain ⟨r10, er10, hf⟩ := ks_nm hf
    refine ke_SN hE hw hl.1 cl_X2_116 [.int z_0, .int p1, .int p2] (c_X6_factNumber l D cA st ad a _ _ _ _ _ er10.symm) rfl (ke_room hRm rfl rfl) ke_cnt (Nat.le_of_ble_eq_true rfl) rfl dX2_factTold_86 (fun H locs hw => ?_)
    refine W.eq (g2 := F0 m 89 ls (.int r10 :: [])) rfl ?_
    subst hf
    exact ke_iret hE hw hQ dX2_factTold_89 rfl rfl
  have L63 : ∀ (z_0 : Int32) (H : Heap) (locs : List Loc) (ls : Array Slot), fX2_factTold_63 τ p1 p2 z_0 = R → Wd ΛX 29 D cA ad A s a τ H locs → lv_has ls 3 [(1, .int p1), (2, .int p2)] → W p l e Rm s m args below meth c H locs 0 0 Q (F0 m 63 ls [.int z_0]) := by
    intro z_0 H locs ls hf hw hl
    unfold fX2_factTold_63 at hf
    refine lv_iload_n hx hb dX2_factTold_63 rfl (lv_at hl 0 rfl) ?_
    refine lv_iload_n hx hb dX2_factTold_64 rfl (lv_at hl 1 rfl) ?_
    obtain ⟨r11, er11, hf⟩ := ks_nm hf
    refine ke_SN hE hw hl.1 cl_X2_116 [.int z_0, .int p1, .int p2] (c_X6_factNumber l D cA st ad a _ _ _ _ _ er11.symm) rfl (ke_room hRm rfl rfl) ke_cnt (Nat.le_of_ble_eq_true rfl) rfl dX2_factTold_65 (fun H locs hw => ?_)
    refine W.eq (g2 := F0 m 68 ls (.int r11 :: [])) rfl ?_
    subst hf
    exact ke_iret hE hw hQ dX2_factTold_68 rfl rfl
  unfold fX2_factTold at hf
  refine lv_iload_n hx hb dX2_factTold_0 rfl (lv_at hl 1 rfl) ?_
  refine lv_bipush (v := (-9)) hx hb dX2_factTold_1 (by decide) ?_
  refine lv_icmp_eq (tgt := 12) hx hb dX2_factTold_3 (by decide) (fun c1 => ?_) (fun c1 => ?_)
  · have hf := (if_pos c1).symm.trans hf
    refine lv_bipush (v := (-9)) hx hb dX2_factTold_12 (by decide) ?_
    subst hf
    exact ke_iret hE hw hQ dX2_factTold_14 rfl rfl
  · have hf := (if_neg c1).symm.trans hf
    refine lv_iload_n hx hb dX2_factTold_6 rfl (lv_at hl 2 rfl) ?_
    refine lv_bipush (v := (-9)) hx hb dX2_factTold_7 (by decide) ?_
    refine lv_icmp_ne (tgt := 15) hx hb dX2_factTold_9 (by decide) (fun c2 => ?_) (fun c2 => ?_)
    · have hf := (if_neg c2).symm.trans hf
      refine lv_aload_n hx hb dX2_factTold_15 rfl (lv_at hl 0 rfl) ?_
      refine ks_getR hE hw 13 1 ltX_13 lyX_13 rfl fd_X2_21 dX2_factTold_16 ?_
      refine ks_getI hE hw 16 0 ltX_16 lyX_16 rfl fd_X2_78 dX2_factTold_19 ?_
      by_cases c3 : tI τ 16 0 = (0 : Int32)
      · have hf := (if_pos c3).symm.trans hf
        refine lv_tableIn (tgt := 48) hx hb dX2_factTold_22 (by rw [c3]; decide) (by rw [c3]; decide) (by rw [c3]; rfl) (by decide) ?_
        refine lv_aload_n hx hb dX2_factTold_48 rfl (lv_at hl 0 rfl) ?_
        refine ks_getR hE hw 13 1 ltX_13 lyX_13 rfl fd_X2_21 dX2_factTold_49 ?_
        refine ks_getI hE hw 16 5 ltX_16 lyX_16 rfl fd_X2_71 dX2_factTold_52 ?_
        refine lv_if_eq (tgt := 62) hx hb dX2_factTold_55 (by decide) (fun c6 => ?_) (fun c6 => ?_)
        · have hf := (if_pos c6).symm.trans hf
          refine lv_iconst (v := 0) hx hb dX2_factTold_62 (by decide) ?_
          exact L63 _ _ _ _ hf hw (lv_sub hl [1, 2] rfl)
        · have hf := (if_neg c6).symm.trans hf
          refine lv_iconst (v := 3) hx hb dX2_factTold_58 (by decide) ?_
          refine lv_goto (tgt := 63) hx hb dX2_factTold_59 (by decide) ?_
          exact L63 _ _ _ _ hf hw (lv_sub hl [1, 2] rfl)
      · have hf := (if_neg c3).symm.trans hf
        by_cases c4 : tI τ 16 0 = (1 : Int32)
        · have hf := (if_pos c4).symm.trans hf
          refine lv_tableIn (tgt := 69) hx hb dX2_factTold_22 (by rw [c4]; decide) (by rw [c4]; decide) (by rw [c4]; rfl) (by decide) ?_
          refine lv_aload_n hx hb dX2_factTold_69 rfl (lv_at hl 0 rfl) ?_
          refine ks_getR hE hw 13 1 ltX_13 lyX_13 rfl fd_X2_21 dX2_factTold_70 ?_
          refine ks_getI hE hw 16 5 ltX_16 lyX_16 rfl fd_X2_71 dX2_factTold_73 ?_
          refine lv_if_eq (tgt := 83) hx hb dX2_factTold_76 (by decide) (fun c7 => ?_) (fun c7 => ?_)
          · have hf := (if_pos c7).symm.trans hf
            refine lv_iconst (v := 1) hx hb dX2_factTold_83 (by decide) ?_
            exact L84 _ _ _ _ hf hw (lv_sub hl [1, 2] rfl)
          · have hf := (if_neg c7).symm.trans hf
            refine lv_iconst (v := 2) hx hb dX2_factTold_79 (by decide) ?_
            refine lv_goto (tgt := 84) hx hb dX2_factTold_80 (by decide) ?_
            exact L84 _ _ _ _ hf hw (lv_sub hl [1, 2] rfl)
        · have hf := (if_neg c4).symm.trans hf
          by_cases c5 : tI τ 16 0 = (2 : Int32)
          · have hf := (if_pos c5).symm.trans hf
            refine lv_tableIn (tgt := 90) hx hb dX2_factTold_22 (by rw [c5]; decide) (by rw [c5]; decide) (by rw [c5]; rfl) (by decide) ?_
            refine lv_aload_n hx hb dX2_factTold_90 rfl (lv_at hl 0 rfl) ?_
            refine ks_getR hE hw 13 1 ltX_13 lyX_13 rfl fd_X2_21 dX2_factTold_91 ?_
            refine ks_getI hE hw 16 5 ltX_16 lyX_16 rfl fd_X2_71 dX2_factTold_94 ?_
            refine lv_if_eq (tgt := 104) hx hb dX2_factTold_97 (by decide) (fun c8 => ?_) (fun c8 => ?_)
            · have hf := (if_pos c8).symm.trans hf
              refine lv_iconst (v := 2) hx hb dX2_factTold_104 (by decide) ?_
              exact L105 _ _ _ _ hf hw (lv_sub hl [1, 2] rfl)
            · have hf := (if_neg c8).symm.trans hf
              refine lv_iconst (v := 1) hx hb dX2_factTold_100 (by decide) ?_
              refine lv_goto (tgt := 105) hx hb dX2_factTold_101 (by decide) ?_
              exact L105 _ _ _ _ hf hw (lv_sub hl [1, 2] rfl)
          · have hf := (if_neg c5).symm.trans hf
            refine lv_tableOut (tgt := 111) hx hb dX2_factTold_22 (by have := ks_sw c3 (k := 0) (by decide); have := ks_sw c4 (k := 1) (by decide); have := ks_sw c5 (k := 2) (by decide); omega) (by decide) ?_
            refine lv_bipush (v := (-9)) hx hb dX2_factTold_111 (by decide) ?_
            subst hf
            exact ke_iret hE hw hQ dX2_factTold_113 rfl rfl
    · have hf := (if_pos c2).symm.trans hf
      refine lv_bipush (v := (-9)) hx hb dX2_factTold_12 (by decide) ?_
      subst hf
      exact ke_iret hE hw hQ dX2_factTold_14 rfl rfl
def fX2_readNumber_41  (τ : Tau) : Option Tau :=
 Option.bind (fX2_pass τ (3 : Int32)) (fun r5 =>
     some r5)
def fX2_readNumber  (τ : Tau) : Option Tau :=
 nm (sI τ 16 1 (tI τ 14 3)) (fun t1 =>
 (if tI t1 14 2 = (3 : Int32) then
 (if tI t1 14 3 ≤ (6 : Int32) then
 fX2_readNumber_41 t1
 else
 nm (fX2_fail t1) (fun r4 =>
 fX2_readNumber_41 r4))
 else
 fX2_readNumber_41 t1))
set_option maxHeartbeats 4000000 in
set_option maxRecDepth 100000 in
theorem c_X2_readNumber (l : Launch) (D : va_G) (cA : Nat → ClassId) (st ad : Nat → Nat) (a : Nat)  (τ : Tau) (R : Tau) (hf : fX2_readNumber τ = some R) : KE ΛX 29 D cA st ad l yX2_readNumber cX2_readNumber 1 none 4 86 [.ref (adr ad a 13)] a τ (none) R := by
  refine KE.of "KindSayings$Reader" rfl (by decide) (Nat.le_of_ble_eq_true rfl) (fun p e s m args below meth c A ls Rm Q hE hRm hQ hw hl => ?_)
  obtain ⟨hx, hb, hml, hown, hts, -⟩ := id hE
  have hl : lv_has ls 1 [(0, .ref (adr ad a 13))] := hl
  have L41 : ∀ (τ : Tau) (H : Heap) (locs : List Loc) (ls : Array Slot), fX2_readNumber_41 τ = some R → Wd ΛX 29 D cA ad A s a τ H locs → lv_has ls 1 [(0, .ref (adr ad a 13))] → W p l e Rm s m args below meth c H locs 0 0 Q (F0 m 41 ls []) := by
    intro τ H locs ls hf hw hl
    unfold fX2_readNumber_41 at hf
    refine lv_aload_n hx hb dX2_readNumber_41 rfl (lv_at hl 0 rfl) ?_
    refine lv_iconst (v := 3) hx hb dX2_readNumber_42 (by decide) ?_
    obtain ⟨r5, er5, hf⟩ := ks_bind hf
    refine ke_V hE hw hl.1 cl_X2_51 13 ltX_13 lyX_13 rfl [.int (3 : Int32)] (c_X2_pass l D cA st ad a _ _ _ er5) rfl (ke_room hRm rfl rfl) ke_cnt (Nat.le_of_ble_eq_true rfl) rfl dX2_readNumber_43 (fun H locs hw => ?_)
    refine W.eq (g2 := F0 m 46 ls ([])) rfl ?_
    replace hf := Option.some.inj hf
    subst hf
    exact ke_vret hE hw hQ dX2_readNumber_46 rfl
  unfold fX2_readNumber at hf
  refine lv_aload_n hx hb dX2_readNumber_0 rfl (lv_at hl 0 rfl) ?_
  refine ks_getR hE hw 13 1 ltX_13 lyX_13 rfl fd_X2_21 dX2_readNumber_1 ?_
  refine lv_aload_n hx hb dX2_readNumber_4 rfl (lv_at hl 0 rfl) ?_
  refine ks_getR hE hw 13 0 ltX_13 lyX_13 rfl fd_X2_12 dX2_readNumber_5 ?_
  refine ks_getI hE hw 14 3 ltX_14 lyX_14 rfl fd_X2_68 dX2_readNumber_8 ?_
  obtain ⟨t1, et1, hf⟩ := ks_nm hf
  refine ks_putI hE hw 16 1 ltX_16 lyX_16 rfl fw_X2_81 rfl rfl dX2_readNumber_11 (fun H locs hw => ?_)
  rw [← et1] at hw
  refine lv_aload_n hx hb dX2_readNumber_14 rfl (lv_at hl 0 rfl) ?_
  refine ks_getR hE hw 13 0 ltX_13 lyX_13 rfl fd_X2_12 dX2_readNumber_15 ?_
  refine ks_getI hE hw 14 2 ltX_14 lyX_14 rfl fd_X2_65 dX2_readNumber_18 ?_
  refine lv_iconst (v := 3) hx hb dX2_readNumber_21 (by decide) ?_
  refine lv_icmp_ne (tgt := 41) hx hb dX2_readNumber_22 (by decide) (fun c2 => ?_) (fun c2 => ?_)
  · have hf := (if_neg c2).symm.trans hf
    exact L41 _ _ _ _ hf hw (lv_sub hl [0] rfl)
  · have hf := (if_pos c2).symm.trans hf
    refine lv_aload_n hx hb dX2_readNumber_25 rfl (lv_at hl 0 rfl) ?_
    refine ks_getR hE hw 13 0 ltX_13 lyX_13 rfl fd_X2_12 dX2_readNumber_26 ?_
    refine ks_getI hE hw 14 3 ltX_14 lyX_14 rfl fd_X2_68 dX2_readNumber_29 ?_
    refine lv_bipush (v := 6) hx hb dX2_readNumber_32 (by decide) ?_
    refine lv_icmp_le (tgt := 41) hx hb dX2_readNumber_34 (by decide) (fun c3 => ?_) (fun c3 => ?_)
    · have hf := (if_pos c3).symm.trans hf
      exact L41 _ _ _ _ hf hw (lv_sub hl [0] rfl)
    · have hf := (if_neg c3).symm.trans hf
      refine lv_aload_n hx hb dX2_readNumber_37 rfl (lv_at hl 0 rfl) ?_
      obtain ⟨r4, er4, hf⟩ := ks_nm hf
      refine ke_V hE hw hl.1 cl_X2_84 13 ltX_13 lyX_13 rfl [] (c_X2_fail l D cA st ad a _ _ er4.symm) rfl (ke_room hRm rfl rfl) ke_cnt (Nat.le_of_ble_eq_true rfl) rfl dX2_readNumber_38 (fun H locs hw => ?_)
      refine W.eq (g2 := F0 m 41 ls ([])) rfl ?_
      exact L41 _ _ _ _ hf hw (lv_sub hl [0] rfl)
def fX2_readHead_128  (τ : Tau) : Option Tau :=
 Option.bind (fX2_readNumber τ) (fun r15 =>
     some r15)
def fX2_readHead_101  (τ : Tau) : Option Tau :=
 Option.bind (fX2_pass τ (2 : Int32)) (fun r12 =>
    (if tI r12 16 0 = (4 : Int32) then
     fX2_readHead_128 r12
     else
    (if tI r12 16 0 = (5 : Int32) then
     fX2_readHead_128 r12
     else
     some r12)))
def fX2_readHead_52  (τ : Tau) : Option Tau :=
 nm (sI τ 16 0 (tI τ 14 3)) (fun t7 =>
     nm (sI t7 16 1 (0 : Int32)) (fun t8 =>
    (if tI t8 14 2 = (2 : Int32) then
    (if tI t8 14 3 = (8 : Int32) then
     nm (fX2_fail t8) (fun r11 =>
     fX2_readHead_101 r11)
     else
     fX2_readHead_101 t8)
     else
     fX2_readHead_101 t8)))
def fX2_readHead_32  (τ : Tau) (z_0 : Int32) : Option Tau :=
 (if z_0 = 0 ∨ z_0 = 1 then
     nm (sI τ 16 5 z_0) (fun t4 =>
    (if tI t4 16 5 = 0 then
     fX2_readHead_52 t4
     else
     Option.bind (fX4_advance t4) (fun r6 =>
     fX2_readHead_52 r6))) else none)
def fX2_readHead_31  (τ : Tau) : Option Tau :=
 fX2_readHead_32 τ (0 : Int32)
def fX2_readHead  (τ : Tau) : Option Tau :=
 (if tI τ 14 2 = (2 : Int32) then
 (if tI τ 14 3 = (8 : Int32) then
 fX2_readHead_32 τ (1 : Int32)
 else
 fX2_readHead_31 τ)
 else
 fX2_readHead_31 τ)
set_option maxHeartbeats 4000000 in
set_option maxRecDepth 100000 in
theorem c_X2_readHead (l : Launch) (D : va_G) (cA : Nat → ClassId) (st ad : Nat → Nat) (a : Nat)  (τ : Tau) (R : Tau) (hf : fX2_readHead τ = some R) : KE ΛX 29 D cA st ad l yX2_readHead cX2_readHead 1 none 5 106 [.ref (adr ad a 13)] a τ (none) R := by
  refine KE.of "KindSayings$Reader" rfl (by decide) (Nat.le_of_ble_eq_true rfl) (fun p e s m args below meth c A ls Rm Q hE hRm hQ hw hl => ?_)
  obtain ⟨hx, hb, hml, hown, hts, -⟩ := id hE
  have hl : lv_has ls 1 [(0, .ref (adr ad a 13))] := hl
  have L128 : ∀ (τ : Tau) (H : Heap) (locs : List Loc) (ls : Array Slot), fX2_readHead_128 τ = some R → Wd ΛX 29 D cA ad A s a τ H locs → lv_has ls 1 [(0, .ref (adr ad a 13))] → W p l e Rm s m args below meth c H locs 0 0 Q (F0 m 128 ls []) := by
    intro τ H locs ls hf hw hl
    unfold fX2_readHead_128 at hf
    refine lv_aload_n hx hb dX2_readHead_128 rfl (lv_at hl 0 rfl) ?_
    obtain ⟨r15, er15, hf⟩ := ks_bind hf
    refine ke_V hE hw hl.1 cl_X2_87 13 ltX_13 lyX_13 rfl [] (c_X2_readNumber l D cA st ad a _ _ er15) rfl (ke_room hRm rfl rfl) ke_cnt (Nat.le_of_ble_eq_true rfl) rfl dX2_readHead_129 (fun H locs hw => ?_)
    refine W.eq (g2 := F0 m 132 ls ([])) rfl ?_
    replace hf := Option.some.inj hf
    subst hf
    exact ke_vret hE hw hQ dX2_readHead_132 rfl
  have L101 : ∀ (τ : Tau) (H : Heap) (locs : List Loc) (ls : Array Slot), fX2_readHead_101 τ = some R → Wd ΛX 29 D cA ad A s a τ H locs → lv_has ls 1 [(0, .ref (adr ad a 13))] → W p l e Rm s m args below meth c H locs 0 0 Q (F0 m 101 ls []) := by
    intro τ H locs ls hf hw hl
    unfold fX2_readHead_101 at hf
    refine lv_aload_n hx hb dX2_readHead_101 rfl (lv_at hl 0 rfl) ?_
    refine lv_iconst (v := 2) hx hb dX2_readHead_102 (by decide) ?_
    obtain ⟨r12, er12, hf⟩ := ks_bind hf
    refine ke_V hE hw hl.1 cl_X2_51 13 ltX_13 lyX_13 rfl [.int (2 : Int32)] (c_X2_pass l D cA st ad a _ _ _ er12) rfl (ke_room hRm rfl rfl) ke_cnt (Nat.le_of_ble_eq_true rfl) rfl dX2_readHead_103 (fun H locs hw => ?_)
    refine W.eq (g2 := F0 m 106 ls ([])) rfl ?_
    refine lv_aload_n hx hb dX2_readHead_106 rfl (lv_at hl 0 rfl) ?_
    refine ks_getR hE hw 13 1 ltX_13 lyX_13 rfl fd_X2_21 dX2_readHead_107 ?_
    refine ks_getI hE hw 16 0 ltX_16 lyX_16 rfl fd_X2_78 dX2_readHead_110 ?_
    refine lv_iconst (v := 4) hx hb dX2_readHead_113 (by decide) ?_
    refine lv_icmp_eq (tgt := 128) hx hb dX2_readHead_114 (by decide) (fun c13 => ?_) (fun c13 => ?_)
    · have hf := (if_pos c13).symm.trans hf
      exact L128 _ _ _ _ hf hw (lv_sub hl [0] rfl)
    · have hf := (if_neg c13).symm.trans hf
      refine lv_aload_n hx hb dX2_readHead_117 rfl (lv_at hl 0 rfl) ?_
      refine ks_getR hE hw 13 1 ltX_13 lyX_13 rfl fd_X2_21 dX2_readHead_118 ?_
      refine ks_getI hE hw 16 0 ltX_16 lyX_16 rfl fd_X2_78 dX2_readHead_121 ?_
      refine lv_iconst (v := 5) hx hb dX2_readHead_124 (by decide) ?_
      refine lv_icmp_ne (tgt := 132) hx hb dX2_readHead_125 (by decide) (fun c14 => ?_) (fun c14 => ?_)
      · have hf := (if_neg c14).symm.trans hf
        replace hf := Option.some.inj hf
        subst hf
        exact ke_vret hE hw hQ dX2_readHead_132 rfl
      · have hf := (if_pos c14).symm.trans hf
        exact L128 _ _ _ _ hf hw (lv_sub hl [0] rfl)
  have L52 : ∀ (τ : Tau) (H : Heap) (locs : List Loc) (ls : Array Slot), fX2_readHead_52 τ = some R → Wd ΛX 29 D cA ad A s a τ H locs → lv_has ls 1 [(0, .ref (adr ad a 13))] → W p l e Rm s m args below meth c H locs 0 0 Q (F0 m 52 ls []) := by
    intro τ H locs ls hf hw hl
    unfold fX2_readHead_52 at hf
    refine lv_aload_n hx hb dX2_readHead_52 rfl (lv_at hl 0 rfl) ?_
    refine ks_getR hE hw 13 1 ltX_13 lyX_13 rfl fd_X2_21 dX2_readHead_53 ?_
    refine lv_aload_n hx hb dX2_readHead_56 rfl (lv_at hl 0 rfl) ?_
    refine ks_getR hE hw 13 0 ltX_13 lyX_13 rfl fd_X2_12 dX2_readHead_57 ?_
    refine ks_getI hE hw 14 3 ltX_14 lyX_14 rfl fd_X2_68 dX2_readHead_60 ?_
    obtain ⟨t7, et7, hf⟩ := ks_nm hf
    refine ks_putI hE hw 16 0 ltX_16 lyX_16 rfl fw_X2_78 rfl rfl dX2_readHead_63 (fun H locs hw => ?_)
    rw [← et7] at hw
    refine lv_aload_n hx hb dX2_readHead_66 rfl (lv_at hl 0 rfl) ?_
    refine ks_getR hE hw 13 1 ltX_13 lyX_13 rfl fd_X2_21 dX2_readHead_67 ?_
    refine lv_iconst (v := 0) hx hb dX2_readHead_70 (by decide) ?_
    obtain ⟨t8, et8, hf⟩ := ks_nm hf
    refine ks_putI hE hw 16 1 ltX_16 lyX_16 rfl fw_X2_81 rfl rfl dX2_readHead_71 (fun H locs hw => ?_)
    rw [← et8] at hw
    refine lv_aload_n hx hb dX2_readHead_74 rfl (lv_at hl 0 rfl) ?_
    refine ks_getR hE hw 13 0 ltX_13 lyX_13 rfl fd_X2_12 dX2_readHead_75 ?_
    refine ks_getI hE hw 14 2 ltX_14 lyX_14 rfl fd_X2_65 dX2_readHead_78 ?_
    refine lv_iconst (v := 2) hx hb dX2_readHead_81 (by decide) ?_
    refine lv_icmp_ne (tgt := 101) hx hb dX2_readHead_82 (by decide) (fun c9 => ?_) (fun c9 => ?_)
    · have hf := (if_neg c9).symm.trans hf
      exact L101 _ _ _ _ hf hw (lv_sub hl [0] rfl)
    · have hf := (if_pos c9).symm.trans hf
      refine lv_aload_n hx hb dX2_readHead_85 rfl (lv_at hl 0 rfl) ?_
      refine ks_getR hE hw 13 0 ltX_13 lyX_13 rfl fd_X2_12 dX2_readHead_86 ?_
      refine ks_getI hE hw 14 3 ltX_14 lyX_14 rfl fd_X2_68 dX2_readHead_89 ?_
      refine lv_bipush (v := 8) hx hb dX2_readHead_92 (by decide) ?_
      refine lv_icmp_ne (tgt := 101) hx hb dX2_readHead_94 (by decide) (fun c10 => ?_) (fun c10 => ?_)
      · have hf := (if_neg c10).symm.trans hf
        exact L101 _ _ _ _ hf hw (lv_sub hl [0] rfl)
      · have hf := (if_pos c10).symm.trans hf
        refine lv_aload_n hx hb dX2_readHead_97 rfl (lv_at hl 0 rfl) ?_
        obtain ⟨r11, er11, hf⟩ := ks_nm hf
        refine ke_V hE hw hl.1 cl_X2_84 13 ltX_13 lyX_13 rfl [] (c_X2_fail l D cA st ad a _ _ er11.symm) rfl (ke_room hRm rfl rfl) ke_cnt (Nat.le_of_ble_eq_true rfl) rfl dX2_readHead_98 (fun H locs hw => ?_)
        refine W.eq (g2 := F0 m 101 ls ([])) rfl ?_
        exact L101 _ _ _ _ hf hw (lv_sub hl [0] rfl)
  have L32 : ∀ (τ : Tau) (z_0 : Int32) (H : Heap) (locs : List Loc) (ls : Array Slot), fX2_readHead_32 τ z_0 = some R → Wd ΛX 29 D cA ad A s a τ H locs → lv_has ls 1 [(0, .ref (adr ad a 13))] → W p l e Rm s m args below meth c H locs 0 0 Q (F0 m 32 ls [.int z_0, .ref (adr ad a 16)]) := by
    intro τ z_0 H locs ls hf hw hl
    unfold fX2_readHead_32 at hf
    obtain ⟨b3, hf⟩ := ks_need hf
    obtain ⟨t4, et4, hf⟩ := ks_nm hf
    refine ks_putI hE hw 16 5 ltX_16 lyX_16 rfl fw_X2_71 (nar_bool b3).1 (nar_bool b3).2 dX2_readHead_32 (fun H locs hw => ?_)
    rw [← et4] at hw
    refine lv_aload_n hx hb dX2_readHead_35 rfl (lv_at hl 0 rfl) ?_
    refine ks_getR hE hw 13 1 ltX_13 lyX_13 rfl fd_X2_21 dX2_readHead_36 ?_
    refine ks_getI hE hw 16 5 ltX_16 lyX_16 rfl fd_X2_71 dX2_readHead_39 ?_
    refine lv_if_eq (tgt := 52) hx hb dX2_readHead_42 (by decide) (fun c5 => ?_) (fun c5 => ?_)
    · have hf := (if_pos c5).symm.trans hf
      exact L52 _ _ _ _ hf hw (lv_sub hl [0] rfl)
    · have hf := (if_neg c5).symm.trans hf
      refine lv_aload_n hx hb dX2_readHead_45 rfl (lv_at hl 0 rfl) ?_
      refine ks_getR hE hw 13 0 ltX_13 lyX_13 rfl fd_X2_12 dX2_readHead_46 ?_
      obtain ⟨r6, er6, hf⟩ := ks_bind hf
      refine ke_V hE hw hl.1 cl_X2_75 14 ltX_14 lyX_14 rfl [] (c_X4_advance l D cA st ad a _ _ er6) rfl (ke_room hRm rfl rfl) ke_cnt (Nat.le_of_ble_eq_true rfl) rfl dX2_readHead_49 (fun H locs hw => ?_)
      refine W.eq (g2 := F0 m 52 ls ([])) rfl ?_
      exact L52 _ _ _ _ hf hw (lv_sub hl [0] rfl)
  have L31 : ∀ (τ : Tau) (H : Heap) (locs : List Loc) (ls : Array Slot), fX2_readHead_31 τ = some R → Wd ΛX 29 D cA ad A s a τ H locs → lv_has ls 1 [(0, .ref (adr ad a 13))] → W p l e Rm s m args below meth c H locs 0 0 Q (F0 m 31 ls [.ref (adr ad a 16)]) := by
    intro τ H locs ls hf hw hl
    unfold fX2_readHead_31 at hf
    refine lv_iconst (v := 0) hx hb dX2_readHead_31 (by decide) ?_
    exact L32 _ _ _ _ _ hf hw (lv_sub hl [0] rfl)
  unfold fX2_readHead at hf
  refine lv_aload_n hx hb dX2_readHead_0 rfl (lv_at hl 0 rfl) ?_
  refine ks_getR hE hw 13 1 ltX_13 lyX_13 rfl fd_X2_21 dX2_readHead_1 ?_
  refine lv_aload_n hx hb dX2_readHead_4 rfl (lv_at hl 0 rfl) ?_
  refine ks_getR hE hw 13 0 ltX_13 lyX_13 rfl fd_X2_12 dX2_readHead_5 ?_
  refine ks_getI hE hw 14 2 ltX_14 lyX_14 rfl fd_X2_65 dX2_readHead_8 ?_
  refine lv_iconst (v := 2) hx hb dX2_readHead_11 (by decide) ?_
  refine lv_icmp_ne (tgt := 31) hx hb dX2_readHead_12 (by decide) (fun c1 => ?_) (fun c1 => ?_)
  · have hf := (if_neg c1).symm.trans hf
    exact L31 _ _ _ _ hf hw (lv_sub hl [0] rfl)
  · have hf := (if_pos c1).symm.trans hf
    refine lv_aload_n hx hb dX2_readHead_15 rfl (lv_at hl 0 rfl) ?_
    refine ks_getR hE hw 13 0 ltX_13 lyX_13 rfl fd_X2_12 dX2_readHead_16 ?_
    refine ks_getI hE hw 14 3 ltX_14 lyX_14 rfl fd_X2_68 dX2_readHead_19 ?_
    refine lv_bipush (v := 8) hx hb dX2_readHead_22 (by decide) ?_
    refine lv_icmp_ne (tgt := 31) hx hb dX2_readHead_24 (by decide) (fun c2 => ?_) (fun c2 => ?_)
    · have hf := (if_neg c2).symm.trans hf
      exact L31 _ _ _ _ hf hw (lv_sub hl [0] rfl)
    · have hf := (if_pos c2).symm.trans hf
      refine lv_iconst (v := 1) hx hb dX2_readHead_27 (by decide) ?_
      refine lv_goto (tgt := 32) hx hb dX2_readHead_28 (by decide) ?_
      exact L32 _ _ _ _ _ hf hw (lv_sub hl [0] rfl)
/-- what is known of the deeper levels of the reader -/
def HPART (l : Launch) (part : Tau → Int32 → Option (Int32 × Tau)) (frP loP : Nat) : Prop := ∀ (D : va_G) (cA : Nat → ClassId) (st ad : Nat → Nat) (a : Nat) (τ : Tau) (o : Int32) (R : Int32 × Tau), part τ o = some R → KE ΛX 29 D cA st ad l yX2_readPart cX2_readPart 5 (some .int) frP loP [.ref (adr ad a 13), .int o] a τ (some (.int R.1)) R.2

def fX2_readMeet_8 (part : Tau → Int32 → Option (Int32 × Tau)) (p1 : Int32) : Nat → Tau → Int32 → Int32 → Option (Int32 × Tau)
  | 0, _, _, _ => none
  | n + 1, τ, x_2, x_3 =>
     (if (80 : Int32) ≤ x_3 then
     some (x_2, τ)
     else
     (if tI τ 13 4 = (-1 : Int32) then
     (if tI τ 14 2 = (38 : Int32) then
     Option.bind (fX4_advance τ) (fun r5 =>
     Option.bind (part r5 p1) (fun r6 =>
     nm (x_2 &&& r6.1) (fun x7 =>
     nm (x_3 + (1 : Int32)) (fun x8 =>
     fX2_readMeet_8 part p1 n r6.2 x7 x8))))
     else
     some (x_2, τ))
     else
     some (x_2, τ)))
def fX2_readMeet (part : Tau → Int32 → Option (Int32 × Tau)) (τ : Tau) (p1 : Int32) : Option (Int32 × Tau) :=
 Option.bind (part τ p1) (fun r1 =>
 fX2_readMeet_8 part p1 FU r1.2 r1.1 (0 : Int32))
set_option maxHeartbeats 4000000 in
set_option maxRecDepth 100000 in
theorem c_X2_readMeet (l : Launch) (D : va_G) (cA : Nat → ClassId) (st ad : Nat → Nat) (a : Nat) (part : Tau → Int32 → Option (Int32 × Tau)) (frP loP : Nat) (hF : 6 ≤ frP) (hL : 200 ≤ loP) (hpart : HPART l part frP loP) (τ : Tau) (p1 : Int32) (R : (Int32 × Tau)) (hf : fX2_readMeet part τ p1 = some R) : KE ΛX 29 D cA st ad l yX2_readMeet cX2_readMeet 4 (some .int) (frP + 1) (loP + 40) [.ref (adr ad a 13), .int p1] a τ (some (.int R.1)) R.2 := by
  refine KE.of "KindSayings$Reader" rfl (by decide) (Nat.le_of_ble_eq_true rfl) (fun p e s m args below meth c A ls Rm Q hE hRm hQ hw hl => ?_)
  obtain ⟨hx, hb, hml, hown, hts, -⟩ := id hE
  have hl : lv_has ls 4 [(0, .ref (adr ad a 13)), (1, .int p1)] := hl
  have L8 : ∀ (n8 : Nat) (τ : Tau) (x_2 : Int32) (x_3 : Int32) (H : Heap) (locs : List Loc) (ls : Array Slot), fX2_readMeet_8 part p1 n8 τ x_2 x_3 = some R → Wd ΛX 29 D cA ad A s a τ H locs → lv_has ls 4 [(0, .ref (adr ad a 13)), (1, .int p1), (2, .int x_2), (3, .int x_3)] → W p l e Rm s m args below meth c H locs 0 0 Q (F0 m 8 ls []) := by
    intro n8
    induction n8 with
    | zero => intro τ x_2 x_3 H locs ls hf hw hl; exact absurd hf (by rw [fX2_readMeet_8]; simp)
    | succ n8 ih8 =>
      intro τ x_2 x_3 H locs ls hf hw hl
      rw [fX2_readMeet_8] at hf
      refine lv_iload_n hx hb dX2_readMeet_8 rfl (lv_at hl 3 rfl) ?_
      refine lv_bipush (v := 80) hx hb dX2_readMeet_9 (by decide) ?_
      refine lv_icmp_ge (tgt := 55) hx hb dX2_readMeet_11 (by decide) (fun c2 => ?_) (fun c2 => ?_)
      · have hf := (if_pos c2).symm.trans hf
        refine lv_iload_n hx hb dX2_readMeet_55 rfl (lv_at hl 2 rfl) ?_
        replace hf := Option.some.inj hf
        subst hf
        exact ke_iret hE hw hQ dX2_readMeet_56 rfl rfl
      · have hf := (if_neg c2).symm.trans hf
        refine lv_aload_n hx hb dX2_readMeet_14 rfl (lv_at hl 0 rfl) ?_
        refine ks_getI hE hw 13 4 ltX_13 lyX_13 rfl fd_X2_32 dX2_readMeet_15 ?_
        refine lv_iconst (v := (-1)) hx hb dX2_readMeet_18 (by decide) ?_
        refine lv_icmp_ne (tgt := 55) hx hb dX2_readMeet_19 (by decide) (fun c3 => ?_) (fun c3 => ?_)
        · have hf := (if_neg c3).symm.trans hf
          refine lv_iload_n hx hb dX2_readMeet_55 rfl (lv_at hl 2 rfl) ?_
          replace hf := Option.some.inj hf
          subst hf
          exact ke_iret hE hw hQ dX2_readMeet_56 rfl rfl
        · have hf := (if_pos c3).symm.trans hf
          refine lv_aload_n hx hb dX2_readMeet_22 rfl (lv_at hl 0 rfl) ?_
          refine ks_getR hE hw 13 0 ltX_13 lyX_13 rfl fd_X2_12 dX2_readMeet_23 ?_
          refine ks_getI hE hw 14 2 ltX_14 lyX_14 rfl fd_X2_65 dX2_readMeet_26 ?_
          refine lv_bipush (v := 38) hx hb dX2_readMeet_29 (by decide) ?_
          refine lv_icmp_ne (tgt := 55) hx hb dX2_readMeet_31 (by decide) (fun c4 => ?_) (fun c4 => ?_)
          · have hf := (if_neg c4).symm.trans hf
            refine lv_iload_n hx hb dX2_readMeet_55 rfl (lv_at hl 2 rfl) ?_
            replace hf := Option.some.inj hf
            subst hf
            exact ke_iret hE hw hQ dX2_readMeet_56 rfl rfl
          · have hf := (if_pos c4).symm.trans hf
            refine lv_aload_n hx hb dX2_readMeet_34 rfl (lv_at hl 0 rfl) ?_
            refine ks_getR hE hw 13 0 ltX_13 lyX_13 rfl fd_X2_12 dX2_readMeet_35 ?_
            obtain ⟨r5, er5, hf⟩ := ks_bind hf
            refine ke_V hE hw hl.1 cl_X2_75 14 ltX_14 lyX_14 rfl [] (c_X4_advance l D cA st ad a _ _ er5) rfl ⟨by rw [hRm.1]; omega, by rw [hRm.2]; omega⟩ ke_cnt (Nat.le_of_ble_eq_true rfl) rfl dX2_readMeet_38 (fun H locs hw => ?_)
            refine W.eq (g2 := F0 m 41 ls ([])) rfl ?_
            refine lv_iload_n hx hb dX2_readMeet_41 rfl (lv_at hl 2 rfl) ?_
            refine lv_aload_n hx hb dX2_readMeet_42 rfl (lv_at hl 0 rfl) ?_
            refine lv_iload_n hx hb dX2_readMeet_43 rfl (lv_at hl 1 rfl) ?_
            obtain ⟨r6, er6, hf⟩ := ks_bind hf
            refine ke_V hE hw hl.1 cl_X2_100 13 ltX_13 lyX_13 rfl [.int p1] (hpart D cA st ad a _ _ _ er6) rfl ⟨by rw [hRm.1]; omega, by rw [hRm.2]; omega⟩ ke_cnt (Nat.le_of_ble_eq_true rfl) rfl dX2_readMeet_44 (fun H locs hw => ?_)
            refine W.eq (g2 := F0 m 47 ls (.int r6.1 :: .int x_2 :: [])) rfl ?_
            refine lv_iand hx hb dX2_readMeet_47 ?_
            obtain ⟨x7, ex7, hf⟩ := ks_nm hf
            refine W.eq (g2 := F0 m 48 ls (.int x7 :: [])) (by rw [ex7]) ?_
            refine lv_istore_n (lv' := [(2, .int x7), (0, .ref (adr ad a 13)), (1, .int p1), (3, .int x_3)]) hx hb dX2_readMeet_48 rfl hl (by decide) rfl (fun ls hl => ?_)
            obtain ⟨x8, ex8, hf⟩ := ks_nm hf
            refine lv_iinc (v := x8) (lv' := [(3, .int x8), (2, .int x7), (0, .ref (adr ad a 13)), (1, .int p1)]) hx hb dX2_readMeet_49 hl (k := 3) rfl (by rw [ex8]; rfl) (by decide) rfl (fun ls hl => ?_)
            refine lv_goto (tgt := 8) hx hb dX2_readMeet_52 (by decide) ?_
            exact ih8 _ _ _ _ _ _ hf hw (lv_sub hl [2, 3, 1, 0] rfl)
  unfold fX2_readMeet at hf
  refine lv_aload_n hx hb dX2_readMeet_0 rfl (lv_at hl 0 rfl) ?_
  refine lv_iload_n hx hb dX2_readMeet_1 rfl (lv_at hl 1 rfl) ?_
  obtain ⟨r1, er1, hf⟩ := ks_bind hf
  refine ke_V hE hw hl.1 cl_X2_100 13 ltX_13 lyX_13 rfl [.int p1] (hpart D cA st ad a _ _ _ er1) rfl ⟨by rw [hRm.1]; omega, by rw [hRm.2]; omega⟩ ke_cnt (Nat.le_of_ble_eq_true rfl) rfl dX2_readMeet_2 (fun H locs hw => ?_)
  refine W.eq (g2 := F0 m 5 ls (.int r1.1 :: [])) rfl ?_
  refine lv_istore_n (lv' := [(2, .int r1.1), (0, .ref (adr ad a 13)), (1, .int p1)]) hx hb dX2_readMeet_5 rfl hl (by decide) rfl (fun ls hl => ?_)
  refine lv_iconst (v := 0) hx hb dX2_readMeet_6 (by decide) ?_
  refine lv_istore_n (lv' := [(3, .int (0 : Int32)), (2, .int r1.1), (0, .ref (adr ad a 13)), (1, .int p1)]) hx hb dX2_readMeet_7 rfl hl (by decide) rfl (fun ls hl => ?_)
  exact L8 FU _ _ _ _ _ _ hf hw (lv_sub hl [2, 3, 1, 0] rfl)
def fX2_readUnion_8 (part : Tau → Int32 → Option (Int32 × Tau)) (p1 : Int32) : Nat → Tau → Int32 → Int32 → Option (Int32 × Tau)
  | 0, _, _, _ => none
  | n + 1, τ, x_2, x_3 =>
     (if (80 : Int32) ≤ x_3 then
     some (x_2, τ)
     else
     (if tI τ 13 4 = (-1 : Int32) then
     (if tI τ 14 2 = (124 : Int32) then
     Option.bind (fX4_advance τ) (fun r5 =>
     Option.bind (fX2_readMeet part r5 p1) (fun r6 =>
     nm (x_2 ||| r6.1) (fun x7 =>
     nm (x_3 + (1 : Int32)) (fun x8 =>
     fX2_readUnion_8 part p1 n r6.2 x7 x8))))
     else
     some (x_2, τ))
     else
     some (x_2, τ)))
def fX2_readUnion (part : Tau → Int32 → Option (Int32 × Tau)) (τ : Tau) (p1 : Int32) : Option (Int32 × Tau) :=
 Option.bind (fX2_readMeet part τ p1) (fun r1 =>
 fX2_readUnion_8 part p1 FU r1.2 r1.1 (0 : Int32))
set_option maxHeartbeats 4000000 in
set_option maxRecDepth 100000 in
theorem c_X2_readUnion (l : Launch) (D : va_G) (cA : Nat → ClassId) (st ad : Nat → Nat) (a : Nat) (part : Tau → Int32 → Option (Int32 × Tau)) (frP loP : Nat) (hF : 6 ≤ frP) (hL : 200 ≤ loP) (hpart : HPART l part frP loP) (τ : Tau) (p1 : Int32) (R : (Int32 × Tau)) (hf : fX2_readUnion part τ p1 = some R) : KE ΛX 29 D cA st ad l yX2_readUnion cX2_readUnion 4 (some .int) (frP + 2) (loP + 80) [.ref (adr ad a 13), .int p1] a τ (some (.int R.1)) R.2 := by
  refine KE.of "KindSayings$Reader" rfl (by decide) (Nat.le_of_ble_eq_true rfl) (fun p e s m args below meth c A ls Rm Q hE hRm hQ hw hl => ?_)
  obtain ⟨hx, hb, hml, hown, hts, -⟩ := id hE
  have hl : lv_has ls 4 [(0, .ref (adr ad a 13)), (1, .int p1)] := hl
  have L8 : ∀ (n8 : Nat) (τ : Tau) (x_2 : Int32) (x_3 : Int32) (H : Heap) (locs : List Loc) (ls : Array Slot), fX2_readUnion_8 part p1 n8 τ x_2 x_3 = some R → Wd ΛX 29 D cA ad A s a τ H locs → lv_has ls 4 [(0, .ref (adr ad a 13)), (1, .int p1), (2, .int x_2), (3, .int x_3)] → W p l e Rm s m args below meth c H locs 0 0 Q (F0 m 8 ls []) := by
    intro n8
    induction n8 with
    | zero => intro τ x_2 x_3 H locs ls hf hw hl; exact absurd hf (by rw [fX2_readUnion_8]; simp)
    | succ n8 ih8 =>
      intro τ x_2 x_3 H locs ls hf hw hl
      rw [fX2_readUnion_8] at hf
      refine lv_iload_n hx hb dX2_readUnion_8 rfl (lv_at hl 3 rfl) ?_
      refine lv_bipush (v := 80) hx hb dX2_readUnion_9 (by decide) ?_
      refine lv_icmp_ge (tgt := 55) hx hb dX2_readUnion_11 (by decide) (fun c2 => ?_) (fun c2 => ?_)
      · have hf := (if_pos c2).symm.trans hf
        refine lv_iload_n hx hb dX2_readUnion_55 rfl (lv_at hl 2 rfl) ?_
        replace hf := Option.some.inj hf
        subst hf
        exact ke_iret hE hw hQ dX2_readUnion_56 rfl rfl
      · have hf := (if_neg c2).symm.trans hf
        refine lv_aload_n hx hb dX2_readUnion_14 rfl (lv_at hl 0 rfl) ?_
        refine ks_getI hE hw 13 4 ltX_13 lyX_13 rfl fd_X2_32 dX2_readUnion_15 ?_
        refine lv_iconst (v := (-1)) hx hb dX2_readUnion_18 (by decide) ?_
        refine lv_icmp_ne (tgt := 55) hx hb dX2_readUnion_19 (by decide) (fun c3 => ?_) (fun c3 => ?_)
        · have hf := (if_neg c3).symm.trans hf
          refine lv_iload_n hx hb dX2_readUnion_55 rfl (lv_at hl 2 rfl) ?_
          replace hf := Option.some.inj hf
          subst hf
          exact ke_iret hE hw hQ dX2_readUnion_56 rfl rfl
        · have hf := (if_pos c3).symm.trans hf
          refine lv_aload_n hx hb dX2_readUnion_22 rfl (lv_at hl 0 rfl) ?_
          refine ks_getR hE hw 13 0 ltX_13 lyX_13 rfl fd_X2_12 dX2_readUnion_23 ?_
          refine ks_getI hE hw 14 2 ltX_14 lyX_14 rfl fd_X2_65 dX2_readUnion_26 ?_
          refine lv_bipush (v := 124) hx hb dX2_readUnion_29 (by decide) ?_
          refine lv_icmp_ne (tgt := 55) hx hb dX2_readUnion_31 (by decide) (fun c4 => ?_) (fun c4 => ?_)
          · have hf := (if_neg c4).symm.trans hf
            refine lv_iload_n hx hb dX2_readUnion_55 rfl (lv_at hl 2 rfl) ?_
            replace hf := Option.some.inj hf
            subst hf
            exact ke_iret hE hw hQ dX2_readUnion_56 rfl rfl
          · have hf := (if_pos c4).symm.trans hf
            refine lv_aload_n hx hb dX2_readUnion_34 rfl (lv_at hl 0 rfl) ?_
            refine ks_getR hE hw 13 0 ltX_13 lyX_13 rfl fd_X2_12 dX2_readUnion_35 ?_
            obtain ⟨r5, er5, hf⟩ := ks_bind hf
            refine ke_V hE hw hl.1 cl_X2_75 14 ltX_14 lyX_14 rfl [] (c_X4_advance l D cA st ad a _ _ er5) rfl ⟨by rw [hRm.1]; omega, by rw [hRm.2]; omega⟩ ke_cnt (Nat.le_of_ble_eq_true rfl) rfl dX2_readUnion_38 (fun H locs hw => ?_)
            refine W.eq (g2 := F0 m 41 ls ([])) rfl ?_
            refine lv_iload_n hx hb dX2_readUnion_41 rfl (lv_at hl 2 rfl) ?_
            refine lv_aload_n hx hb dX2_readUnion_42 rfl (lv_at hl 0 rfl) ?_
            refine lv_iload_n hx hb dX2_readUnion_43 rfl (lv_at hl 1 rfl) ?_
            obtain ⟨r6, er6, hf⟩ := ks_bind hf
            refine ke_V hE hw hl.1 cl_X2_97 13 ltX_13 lyX_13 rfl [.int p1] (c_X2_readMeet l D cA st ad a part frP loP hF hL hpart _ _ _ er6) rfl ⟨by rw [hRm.1]; omega, by rw [hRm.2]; omega⟩ ke_cnt (Nat.le_of_ble_eq_true rfl) rfl dX2_readUnion_44 (fun H locs hw => ?_)
            refine W.eq (g2 := F0 m 47 ls (.int r6.1 :: .int x_2 :: [])) rfl ?_
            refine lv_ior hx hb dX2_readUnion_47 ?_
            obtain ⟨x7, ex7, hf⟩ := ks_nm hf
            refine W.eq (g2 := F0 m 48 ls (.int x7 :: [])) (by rw [ex7]) ?_
            refine lv_istore_n (lv' := [(2, .int x7), (0, .ref (adr ad a 13)), (1, .int p1), (3, .int x_3)]) hx hb dX2_readUnion_48 rfl hl (by decide) rfl (fun ls hl => ?_)
            obtain ⟨x8, ex8, hf⟩ := ks_nm hf
            refine lv_iinc (v := x8) (lv' := [(3, .int x8), (2, .int x7), (0, .ref (adr ad a 13)), (1, .int p1)]) hx hb dX2_readUnion_49 hl (k := 3) rfl (by rw [ex8]; rfl) (by decide) rfl (fun ls hl => ?_)
            refine lv_goto (tgt := 8) hx hb dX2_readUnion_52 (by decide) ?_
            exact ih8 _ _ _ _ _ _ hf hw (lv_sub hl [2, 3, 1, 0] rfl)
  unfold fX2_readUnion at hf
  refine lv_aload_n hx hb dX2_readUnion_0 rfl (lv_at hl 0 rfl) ?_
  refine lv_iload_n hx hb dX2_readUnion_1 rfl (lv_at hl 1 rfl) ?_
  obtain ⟨r1, er1, hf⟩ := ks_bind hf
  refine ke_V hE hw hl.1 cl_X2_97 13 ltX_13 lyX_13 rfl [.int p1] (c_X2_readMeet l D cA st ad a part frP loP hF hL hpart _ _ _ er1) rfl ⟨by rw [hRm.1]; omega, by rw [hRm.2]; omega⟩ ke_cnt (Nat.le_of_ble_eq_true rfl) rfl dX2_readUnion_2 (fun H locs hw => ?_)
  refine W.eq (g2 := F0 m 5 ls (.int r1.1 :: [])) rfl ?_
  refine lv_istore_n (lv' := [(2, .int r1.1), (0, .ref (adr ad a 13)), (1, .int p1)]) hx hb dX2_readUnion_5 rfl hl (by decide) rfl (fun ls hl => ?_)
  refine lv_iconst (v := 0) hx hb dX2_readUnion_6 (by decide) ?_
  refine lv_istore_n (lv' := [(3, .int (0 : Int32)), (2, .int r1.1), (0, .ref (adr ad a 13)), (1, .int p1)]) hx hb dX2_readUnion_7 rfl hl (by decide) rfl (fun ls hl => ?_)
  exact L8 FU _ _ _ _ _ _ hf hw (lv_sub hl [2, 3, 1, 0] rfl)
def fX2_readPart_30 (part : Tau → Int32 → Option (Int32 × Tau)) (p1 : Int32) (τ : Tau) (x_2 : Int32) (x_3 : Int32) : Option (Int32 × Tau) :=
 (if tI τ 13 4 = (-1 : Int32) then
     nm (sI τ 13 3 (tI τ 13 3 + (1 : Int32))) (fun t7 =>
     Option.bind (fX4_advance t7) (fun r8 =>
    (if x_2 = (4 : Int32) then
     Option.bind (fX6_sortsOfKind x_3 (tI r8 13 2)) (fun r15 =>
     some (r15, r8))
     else
    (if x_2 = (33 : Int32) then
     nm (fX6_everySort (tI r8 13 2)) (fun r13 =>
     Option.bind (part r8 (p1 + (1 : Int32))) (fun r14 =>
     some ((r13 &&& (r14.1 ^^^ (-1 : Int32))), r14.2)))
     else
     Option.bind (fX2_readUnion part r8 (p1 + (1 : Int32))) (fun r11 =>
     Option.bind (fX2_pass r11.2 (41 : Int32)) (fun r12 =>
     some (r11.1, r12)))))))
     else
     some ((0 : Int32), τ))
def fX2_readPart (part : Tau → Int32 → Option (Int32 × Tau)) (τ : Tau) (p1 : Int32) : Option (Int32 × Tau) :=
 nm (tI τ 14 2) (fun x1 =>
 nm (tI τ 14 3) (fun x2 =>
 nm (fX2_isPart τ x1 x2 p1) (fun r3 =>
 (if bI r3 = 0 then
 nm (fX2_fail τ) (fun r5 =>
 fX2_readPart_30 part p1 r5 x1 x2)
 else
 fX2_readPart_30 part p1 τ x1 x2))))
set_option maxHeartbeats 4000000 in
set_option maxRecDepth 100000 in
theorem c_X2_readPart (l : Launch) (D : va_G) (cA : Nat → ClassId) (st ad : Nat → Nat) (a : Nat) (part : Tau → Int32 → Option (Int32 × Tau)) (frP loP : Nat) (hF : 6 ≤ frP) (hL : 200 ≤ loP) (hpart : HPART l part frP loP) (τ : Tau) (p1 : Int32) (R : (Int32 × Tau)) (hf : fX2_readPart part τ p1 = some R) : KE ΛX 29 D cA st ad l yX2_readPart cX2_readPart 5 (some .int) (frP + 3) (loP + 120) [.ref (adr ad a 13), .int p1] a τ (some (.int R.1)) R.2 := by
  refine KE.of "KindSayings$Reader" rfl (by decide) (Nat.le_of_ble_eq_true rfl) (fun p e s m args below meth c A ls Rm Q hE hRm hQ hw hl => ?_)
  obtain ⟨hx, hb, hml, hown, hts, -⟩ := id hE
  have hl : lv_has ls 5 [(0, .ref (adr ad a 13)), (1, .int p1)] := hl
  have L30 : ∀ (τ : Tau) (x_2 : Int32) (x_3 : Int32) (H : Heap) (locs : List Loc) (ls : Array Slot), fX2_readPart_30 part p1 τ x_2 x_3 = some R → Wd ΛX 29 D cA ad A s a τ H locs → lv_has ls 5 [(0, .ref (adr ad a 13)), (1, .int p1), (2, .int x_2), (3, .int x_3)] → W p l e Rm s m args below meth c H locs 0 0 Q (F0 m 30 ls []) := by
    intro τ x_2 x_3 H locs ls hf hw hl
    unfold fX2_readPart_30 at hf
    refine lv_aload_n hx hb dX2_readPart_30 rfl (lv_at hl 0 rfl) ?_
    refine ks_getI hE hw 13 4 ltX_13 lyX_13 rfl fd_X2_32 dX2_readPart_31 ?_
    refine lv_iconst (v := (-1)) hx hb dX2_readPart_34 (by decide) ?_
    refine lv_icmp_eq (tgt := 40) hx hb dX2_readPart_35 (by decide) (fun c6 => ?_) (fun c6 => ?_)
    · have hf := (if_pos c6).symm.trans hf
      refine lv_aload_n hx hb dX2_readPart_40 rfl (lv_at hl 0 rfl) ?_
      refine lv_dup hx hb dX2_readPart_41 rfl ?_
      refine ks_getI hE hw 13 3 ltX_13 lyX_13 rfl fd_X2_29 dX2_readPart_42 ?_
      refine lv_iconst (v := 1) hx hb dX2_readPart_45 (by decide) ?_
      refine lv_iadd hx hb dX2_readPart_46 ?_
      obtain ⟨t7, et7, hf⟩ := ks_nm hf
      refine ks_putI hE hw 13 3 ltX_13 lyX_13 rfl fw_X2_29 rfl rfl dX2_readPart_47 (fun H locs hw => ?_)
      rw [← et7] at hw
      refine lv_aload_n hx hb dX2_readPart_50 rfl (lv_at hl 0 rfl) ?_
      refine ks_getR hE hw 13 0 ltX_13 lyX_13 rfl fd_X2_12 dX2_readPart_51 ?_
      obtain ⟨r8, er8, hf⟩ := ks_bind hf
      refine ke_V hE hw hl.1 cl_X2_75 14 ltX_14 lyX_14 rfl [] (c_X4_advance l D cA st ad a _ _ er8) rfl ⟨by rw [hRm.1]; omega, by rw [hRm.2]; omega⟩ ke_cnt (Nat.le_of_ble_eq_true rfl) rfl dX2_readPart_54 (fun H locs hw => ?_)
      refine W.eq (g2 := F0 m 57 ls ([])) rfl ?_
      refine lv_iload_n hx hb dX2_readPart_57 rfl (lv_at hl 2 rfl) ?_
      refine lv_iconst (v := 4) hx hb dX2_readPart_58 (by decide) ?_
      refine lv_icmp_ne (tgt := 71) hx hb dX2_readPart_59 (by decide) (fun c9 => ?_) (fun c9 => ?_)
      · have hf := (if_neg c9).symm.trans hf
        refine lv_iload_n hx hb dX2_readPart_71 rfl (lv_at hl 2 rfl) ?_
        refine lv_bipush (v := 33) hx hb dX2_readPart_72 (by decide) ?_
        refine lv_icmp_ne (tgt := 95) hx hb dX2_readPart_74 (by decide) (fun c10 => ?_) (fun c10 => ?_)
        · have hf := (if_neg c10).symm.trans hf
          refine lv_aload_n hx hb dX2_readPart_95 rfl (lv_at hl 0 rfl) ?_
          refine lv_iload_n hx hb dX2_readPart_96 rfl (lv_at hl 1 rfl) ?_
          refine lv_iconst (v := 1) hx hb dX2_readPart_97 (by decide) ?_
          refine lv_iadd hx hb dX2_readPart_98 ?_
          obtain ⟨r11, er11, hf⟩ := ks_bind hf
          refine ke_V hE hw hl.1 cl_X2_93 13 ltX_13 lyX_13 rfl [.int (p1 + (1 : Int32))] (c_X2_readUnion l D cA st ad a part frP loP hF hL hpart _ _ _ er11) rfl ⟨by rw [hRm.1]; omega, by rw [hRm.2]; omega⟩ ke_cnt (Nat.le_of_ble_eq_true rfl) rfl dX2_readPart_99 (fun H locs hw => ?_)
          refine W.eq (g2 := F0 m 102 ls (.int r11.1 :: [])) rfl ?_
          refine lv_istore (lv' := [(4, .int r11.1), (0, .ref (adr ad a 13)), (1, .int p1), (2, .int x_2), (3, .int x_3)]) hx hb dX2_readPart_102 hl (by decide) rfl (fun ls hl => ?_)
          refine lv_aload_n hx hb dX2_readPart_104 rfl (lv_at hl 1 rfl) ?_
          refine lv_bipush (v := 41) hx hb dX2_readPart_105 (by decide) ?_
          obtain ⟨r12, er12, hf⟩ := ks_bind hf
          refine ke_V hE hw hl.1 cl_X2_51 13 ltX_13 lyX_13 rfl [.int (41 : Int32)] (c_X2_pass l D cA st ad a _ _ _ er12) rfl ⟨by rw [hRm.1]; omega, by rw [hRm.2]; omega⟩ ke_cnt (Nat.le_of_ble_eq_true rfl) rfl dX2_readPart_107 (fun H locs hw => ?_)
          refine W.eq (g2 := F0 m 110 ls ([])) rfl ?_
          refine lv_iload hx hb dX2_readPart_110 (lv_at hl 0 rfl) ?_
          replace hf := Option.some.inj hf
          subst hf
          exact ke_iret hE hw hQ dX2_readPart_112 rfl rfl
        · have hf := (if_pos c10).symm.trans hf
          refine lv_aload_n hx hb dX2_readPart_77 rfl (lv_at hl 0 rfl) ?_
          refine ks_getI hE hw 13 2 ltX_13 lyX_13 rfl fd_X2_25 dX2_readPart_78 ?_
          obtain ⟨r13, er13, hf⟩ := ks_nm hf
          refine ke_SN hE hw hl.1 cl_X2_110 [.int (tI r8 13 2)] (c_X6_everySort l D cA st ad a _ _ _ er13.symm) rfl ⟨by rw [hRm.1]; omega, by rw [hRm.2]; omega⟩ ke_cnt (Nat.le_of_ble_eq_true rfl) rfl dX2_readPart_81 (fun H locs hw => ?_)
          refine W.eq (g2 := F0 m 84 ls (.int r13 :: [])) rfl ?_
          refine lv_aload_n hx hb dX2_readPart_84 rfl (lv_at hl 0 rfl) ?_
          refine lv_iload_n hx hb dX2_readPart_85 rfl (lv_at hl 1 rfl) ?_
          refine lv_iconst (v := 1) hx hb dX2_readPart_86 (by decide) ?_
          refine lv_iadd hx hb dX2_readPart_87 ?_
          obtain ⟨r14, er14, hf⟩ := ks_bind hf
          refine ke_V hE hw hl.1 cl_X2_100 13 ltX_13 lyX_13 rfl [.int (p1 + (1 : Int32))] (hpart D cA st ad a _ _ _ er14) rfl ⟨by rw [hRm.1]; omega, by rw [hRm.2]; omega⟩ ke_cnt (Nat.le_of_ble_eq_true rfl) rfl dX2_readPart_88 (fun H locs hw => ?_)
          refine W.eq (g2 := F0 m 91 ls (.int r14.1 :: .int r13 :: [])) rfl ?_
          refine lv_iconst (v := (-1)) hx hb dX2_readPart_91 (by decide) ?_
          refine lv_ixor hx hb dX2_readPart_92 ?_
          refine lv_iand hx hb dX2_readPart_93 ?_
          replace hf := Option.some.inj hf
          subst hf
          exact ke_iret hE hw hQ dX2_readPart_94 rfl rfl
      · have hf := (if_pos c9).symm.trans hf
        refine lv_iload_n hx hb dX2_readPart_62 rfl (lv_at hl 3 rfl) ?_
        refine lv_aload_n hx hb dX2_readPart_63 rfl (lv_at hl 0 rfl) ?_
        refine ks_getI hE hw 13 2 ltX_13 lyX_13 rfl fd_X2_25 dX2_readPart_64 ?_
        obtain ⟨r15, er15, hf⟩ := ks_bind hf
        refine ke_SN hE hw hl.1 cl_X2_107 [.int x_3, .int (tI r8 13 2)] (c_X6_sortsOfKind l D cA st ad a _ _ _ _ er15) rfl ⟨by rw [hRm.1]; omega, by rw [hRm.2]; omega⟩ ke_cnt (Nat.le_of_ble_eq_true rfl) rfl dX2_readPart_67 (fun H locs hw => ?_)
        refine W.eq (g2 := F0 m 70 ls (.int r15 :: [])) rfl ?_
        replace hf := Option.some.inj hf
        subst hf
        exact ke_iret hE hw hQ dX2_readPart_70 rfl rfl
    · have hf := (if_neg c6).symm.trans hf
      refine lv_iconst (v := 0) hx hb dX2_readPart_38 (by decide) ?_
      replace hf := Option.some.inj hf
      subst hf
      exact ke_iret hE hw hQ dX2_readPart_39 rfl rfl
  unfold fX2_readPart at hf
  refine lv_aload_n hx hb dX2_readPart_0 rfl (lv_at hl 0 rfl) ?_
  refine ks_getR hE hw 13 0 ltX_13 lyX_13 rfl fd_X2_12 dX2_readPart_1 ?_
  refine ks_getI hE hw 14 2 ltX_14 lyX_14 rfl fd_X2_65 dX2_readPart_4 ?_
  obtain ⟨x1, ex1, hf⟩ := ks_nm hf
  refine W.eq (g2 := F0 m 7 ls (.int x1 :: [])) (by rw [ex1]) ?_
  refine lv_istore_n (lv' := [(2, .int x1), (0, .ref (adr ad a 13)), (1, .int p1)]) hx hb dX2_readPart_7 rfl hl (by decide) rfl (fun ls hl => ?_)
  refine lv_aload_n hx hb dX2_readPart_8 rfl (lv_at hl 1 rfl) ?_
  refine ks_getR hE hw 13 0 ltX_13 lyX_13 rfl fd_X2_12 dX2_readPart_9 ?_
  refine ks_getI hE hw 14 3 ltX_14 lyX_14 rfl fd_X2_68 dX2_readPart_12 ?_
  obtain ⟨x2, ex2, hf⟩ := ks_nm hf
  refine W.eq (g2 := F0 m 15 ls (.int x2 :: [])) (by rw [ex2]) ?_
  refine lv_istore_n (lv' := [(3, .int x2), (2, .int x1), (0, .ref (adr ad a 13)), (1, .int p1)]) hx hb dX2_readPart_15 rfl hl (by decide) rfl (fun ls hl => ?_)
  refine lv_aload_n hx hb dX2_readPart_16 rfl (lv_at hl 2 rfl) ?_
  refine lv_iload_n hx hb dX2_readPart_17 rfl (lv_at hl 1 rfl) ?_
  refine lv_iload_n hx hb dX2_readPart_18 rfl (lv_at hl 0 rfl) ?_
  refine lv_iload_n hx hb dX2_readPart_19 rfl (lv_at hl 3 rfl) ?_
  obtain ⟨r3, er3, hf⟩ := ks_nm hf
  refine ke_V hE hw hl.1 cl_X2_103 13 ltX_13 lyX_13 rfl [.int x1, .int x2, .int p1] (c_X2_isPart l D cA st ad a _ _ _ _ _ er3.symm) rfl ⟨by rw [hRm.1]; omega, by rw [hRm.2]; omega⟩ ke_cnt (Nat.le_of_ble_eq_true rfl) rfl dX2_readPart_20 (fun H locs hw => ?_)
  refine W.eq (g2 := F0 m 23 ls (.int (bI r3) :: [])) rfl ?_
  refine lv_if_ne (tgt := 30) hx hb dX2_readPart_23 (by decide) (fun c4 => ?_) (fun c4 => ?_)
  · have hf := (if_neg c4).symm.trans hf
    exact L30 _ _ _ _ _ _ hf hw (lv_sub hl [2, 3, 1, 0] rfl)
  · have hf := (if_pos c4).symm.trans hf
    refine lv_aload_n hx hb dX2_readPart_26 rfl (lv_at hl 2 rfl) ?_
    obtain ⟨r5, er5, hf⟩ := ks_nm hf
    refine ke_V hE hw hl.1 cl_X2_84 13 ltX_13 lyX_13 rfl [] (c_X2_fail l D cA st ad a _ _ er5.symm) rfl ⟨by rw [hRm.1]; omega, by rw [hRm.2]; omega⟩ ke_cnt (Nat.le_of_ble_eq_true rfl) rfl dX2_readPart_27 (fun H locs hw => ?_)
    refine W.eq (g2 := F0 m 30 ls ([])) rfl ?_
    exact L30 _ _ _ _ _ _ hf hw (lv_sub hl [2, 3, 1, 0] rfl)
def fX2_part : Nat → Tau → Int32 → Option (Int32 × Tau)
  | 0 => fun _ _ => none
  | d + 1 => fX2_readPart (fX2_part d)
theorem c_X2_part (l : Launch) : ∀ d : Nat, HPART l (fX2_part d) (6 + 3 * d) (200 + 120 * d)
  | 0 => fun D cA st ad a τ o R hf => absurd hf (by simp [fX2_part])
  | d + 1 => fun D cA st ad a τ o R hf => by
    have h := c_X2_readPart l D cA st ad a (fX2_part d) (6 + 3 * d) (200 + 120 * d) (by omega) (by omega) (c_X2_part l d) τ o R hf
    rw [show 6 + 3 * (d + 1) = 6 + 3 * d + 3 by omega, show 200 + 120 * (d + 1) = 200 + 120 * d + 120 by omega]
    exact h

def fX2_readSide  (τ : Tau) : Option (Int32 × Tau) :=
 nm (tI τ 14 3) (fun x1 =>
 nm (tI τ 14 5) (fun x2 =>
 Option.bind (fX2_readUnion (fX2_part 12) τ (0 : Int32)) (fun r3 =>
 (if (tI r3.2 14 5 - x2) = (1 : Int32) then
 nm (sI r3.2 13 5 x1) (fun t6 =>
 some (r3.1, t6))
 else
 nm (sI r3.2 13 5 (-9 : Int32)) (fun t5 =>
 some (r3.1, t5))))))
set_option maxHeartbeats 4000000 in
set_option maxRecDepth 100000 in
theorem c_X2_readSide (l : Launch) (D : va_G) (cA : Nat → ClassId) (st ad : Nat → Nat) (a : Nat)  (τ : Tau) (R : (Int32 × Tau)) (hf : fX2_readSide τ = some R) : KE ΛX 29 D cA st ad l yX2_readSide cX2_readSide 4 (some .int) 45 1743 [.ref (adr ad a 13)] a τ (some (.int R.1)) R.2 := by
  refine KE.of "KindSayings$Reader" rfl (by decide) (Nat.le_of_ble_eq_true rfl) (fun p e s m args below meth c A ls Rm Q hE hRm hQ hw hl => ?_)
  obtain ⟨hx, hb, hml, hown, hts, -⟩ := id hE
  have hl : lv_has ls 4 [(0, .ref (adr ad a 13))] := hl
  unfold fX2_readSide at hf
  refine lv_aload_n hx hb dX2_readSide_0 rfl (lv_at hl 0 rfl) ?_
  refine ks_getR hE hw 13 0 ltX_13 lyX_13 rfl fd_X2_12 dX2_readSide_1 ?_
  refine ks_getI hE hw 14 3 ltX_14 lyX_14 rfl fd_X2_68 dX2_readSide_4 ?_
  obtain ⟨x1, ex1, hf⟩ := ks_nm hf
  refine W.eq (g2 := F0 m 7 ls (.int x1 :: [])) (by rw [ex1]) ?_
  refine lv_istore_n (lv' := [(1, .int x1), (0, .ref (adr ad a 13))]) hx hb dX2_readSide_7 rfl hl (by decide) rfl (fun ls hl => ?_)
  refine lv_aload_n hx hb dX2_readSide_8 rfl (lv_at hl 1 rfl) ?_
  refine ks_getR hE hw 13 0 ltX_13 lyX_13 rfl fd_X2_12 dX2_readSide_9 ?_
  refine ks_getI hE hw 14 5 ltX_14 lyX_14 rfl fd_X2_90 dX2_readSide_12 ?_
  obtain ⟨x2, ex2, hf⟩ := ks_nm hf
  refine W.eq (g2 := F0 m 15 ls (.int x2 :: [])) (by rw [ex2]) ?_
  refine lv_istore_n (lv' := [(2, .int x2), (1, .int x1), (0, .ref (adr ad a 13))]) hx hb dX2_readSide_15 rfl hl (by decide) rfl (fun ls hl => ?_)
  refine lv_aload_n hx hb dX2_readSide_16 rfl (lv_at hl 2 rfl) ?_
  refine lv_iconst (v := 0) hx hb dX2_readSide_17 (by decide) ?_
  obtain ⟨r3, er3, hf⟩ := ks_bind hf
  refine ke_V hE hw hl.1 cl_X2_93 13 ltX_13 lyX_13 rfl [.int (0 : Int32)] (c_X2_readUnion l D cA st ad a (fX2_part 12) 42 1640 (by decide) (by decide) (c_X2_part l 12) _ _ _ er3) rfl (ke_room hRm rfl rfl) ke_cnt (Nat.le_of_ble_eq_true rfl) rfl dX2_readSide_18 (fun H locs hw => ?_)
  refine W.eq (g2 := F0 m 21 ls (.int r3.1 :: [])) rfl ?_
  refine lv_istore_n (lv' := [(3, .int r3.1), (2, .int x2), (1, .int x1), (0, .ref (adr ad a 13))]) hx hb dX2_readSide_21 rfl hl (by decide) rfl (fun ls hl => ?_)
  refine lv_aload_n hx hb dX2_readSide_22 rfl (lv_at hl 3 rfl) ?_
  refine lv_aload_n hx hb dX2_readSide_23 rfl (lv_at hl 3 rfl) ?_
  refine ks_getR hE hw 13 0 ltX_13 lyX_13 rfl fd_X2_12 dX2_readSide_24 ?_
  refine ks_getI hE hw 14 5 ltX_14 lyX_14 rfl fd_X2_90 dX2_readSide_27 ?_
  refine lv_iload_n hx hb dX2_readSide_30 rfl (lv_at hl 1 rfl) ?_
  refine lv_isub hx hb dX2_readSide_31 ?_
  refine lv_iconst (v := 1) hx hb dX2_readSide_32 (by decide) ?_
  refine lv_icmp_ne (tgt := 40) hx hb dX2_readSide_33 (by decide) (fun c4 => ?_) (fun c4 => ?_)
  · have hf := (if_neg c4).symm.trans hf
    refine lv_bipush (v := (-9)) hx hb dX2_readSide_40 (by decide) ?_
    obtain ⟨t5, et5, hf⟩ := ks_nm hf
    refine ks_putI hE hw 13 5 ltX_13 lyX_13 rfl fw_X2_48 rfl rfl dX2_readSide_42 (fun H locs hw => ?_)
    rw [← et5] at hw
    refine lv_iload_n hx hb dX2_readSide_45 rfl (lv_at hl 0 rfl) ?_
    replace hf := Option.some.inj hf
    subst hf
    exact ke_iret hE hw hQ dX2_readSide_46 rfl rfl
  · have hf := (if_pos c4).symm.trans hf
    refine lv_iload_n hx hb dX2_readSide_36 rfl (lv_at hl 2 rfl) ?_
    refine lv_goto (tgt := 42) hx hb dX2_readSide_37 (by decide) ?_
    obtain ⟨t6, et6, hf⟩ := ks_nm hf
    refine ks_putI hE hw 13 5 ltX_13 lyX_13 rfl fw_X2_48 rfl rfl dX2_readSide_42 (fun H locs hw => ?_)
    rw [← et6] at hw
    refine lv_iload_n hx hb dX2_readSide_45 rfl (lv_at hl 0 rfl) ?_
    replace hf := Option.some.inj hf
    subst hf
    exact ke_iret hE hw hQ dX2_readSide_46 rfl rfl
def fX2_readDraft  (τ : Tau) (p1 : Int32) : Option (Int32 × Tau) :=
 nm (sI τ 13 2 p1) (fun t1 =>
 nm (sI t1 13 3 (0 : Int32)) (fun t2 =>
 nm (sI t2 13 4 (-1 : Int32)) (fun t3 =>
 Option.bind (fX4_begin t3) (fun r4 =>
 Option.bind (fX2_readHead r4) (fun r5 =>
 Option.bind (fX2_readSide r5) (fun r6 =>
 nm (sI r6.2 16 2 r6.1) (fun t7 =>
 nm (tI t7 13 5) (fun x8 =>
 Option.bind (fX2_pass t7 (58 : Int32)) (fun r9 =>
 Option.bind (fX2_readSide r9) (fun r10 =>
 nm (sI r10.2 16 3 r10.1) (fun t11 =>
 nm (tI t11 13 5) (fun x12 =>
 Option.bind (fX2_pass t11 (0 : Int32)) (fun r13 =>
 nm (fX2_factTold r13 x8 x12) (fun r14 =>
 nm (sI r13 16 4 r14) (fun t15 =>
 some (tI t15 13 4, t15))))))))))))))))
set_option maxHeartbeats 4000000 in
set_option maxRecDepth 100000 in
theorem c_X2_readDraft (l : Launch) (D : va_G) (cA : Nat → ClassId) (st ad : Nat → Nat) (a : Nat)  (τ : Tau) (p1 : Int32) (R : (Int32 × Tau)) (hf : fX2_readDraft τ p1 = some R) : KE ΛX 29 D cA st ad l yX2_readDraft cX2_readDraft 4 (some .int) 46 1766 [.ref (adr ad a 13), .int p1] a τ (some (.int R.1)) R.2 := by
  refine KE.of "KindSayings$Reader" rfl (by decide) (Nat.le_of_ble_eq_true rfl) (fun p e s m args below meth c A ls Rm Q hE hRm hQ hw hl => ?_)
  obtain ⟨hx, hb, hml, hown, hts, -⟩ := id hE
  have hl : lv_has ls 4 [(0, .ref (adr ad a 13)), (1, .int p1)] := hl
  unfold fX2_readDraft at hf
  refine lv_aload_n hx hb dX2_readDraft_0 rfl (lv_at hl 0 rfl) ?_
  refine lv_iload_n hx hb dX2_readDraft_1 rfl (lv_at hl 1 rfl) ?_
  obtain ⟨t1, et1, hf⟩ := ks_nm hf
  refine ks_putI hE hw 13 2 ltX_13 lyX_13 rfl fw_X2_25 rfl rfl dX2_readDraft_2 (fun H locs hw => ?_)
  rw [← et1] at hw
  refine lv_aload_n hx hb dX2_readDraft_5 rfl (lv_at hl 0 rfl) ?_
  refine lv_iconst (v := 0) hx hb dX2_readDraft_6 (by decide) ?_
  obtain ⟨t2, et2, hf⟩ := ks_nm hf
  refine ks_putI hE hw 13 3 ltX_13 lyX_13 rfl fw_X2_29 rfl rfl dX2_readDraft_7 (fun H locs hw => ?_)
  rw [← et2] at hw
  refine lv_aload_n hx hb dX2_readDraft_10 rfl (lv_at hl 0 rfl) ?_
  refine lv_iconst (v := (-1)) hx hb dX2_readDraft_11 (by decide) ?_
  obtain ⟨t3, et3, hf⟩ := ks_nm hf
  refine ks_putI hE hw 13 4 ltX_13 lyX_13 rfl fw_X2_32 rfl rfl dX2_readDraft_12 (fun H locs hw => ?_)
  rw [← et3] at hw
  refine lv_aload_n hx hb dX2_readDraft_15 rfl (lv_at hl 0 rfl) ?_
  refine ks_getR hE hw 13 0 ltX_13 lyX_13 rfl fd_X2_12 dX2_readDraft_16 ?_
  obtain ⟨r4, er4, hf⟩ := ks_bind hf
  refine ke_V hE hw hl.1 cl_X2_35 14 ltX_14 lyX_14 rfl [] (c_X4_begin l D cA st ad a _ _ er4) rfl (ke_room hRm rfl rfl) ke_cnt (Nat.le_of_ble_eq_true rfl) rfl dX2_readDraft_19 (fun H locs hw => ?_)
  refine W.eq (g2 := F0 m 22 ls ([])) rfl ?_
  refine lv_aload_n hx hb dX2_readDraft_22 rfl (lv_at hl 0 rfl) ?_
  obtain ⟨r5, er5, hf⟩ := ks_bind hf
  refine ke_V hE hw hl.1 cl_X2_38 13 ltX_13 lyX_13 rfl [] (c_X2_readHead l D cA st ad a _ _ er5) rfl (ke_room hRm rfl rfl) ke_cnt (Nat.le_of_ble_eq_true rfl) rfl dX2_readDraft_23 (fun H locs hw => ?_)
  refine W.eq (g2 := F0 m 26 ls ([])) rfl ?_
  refine lv_aload_n hx hb dX2_readDraft_26 rfl (lv_at hl 0 rfl) ?_
  refine ks_getR hE hw 13 1 ltX_13 lyX_13 rfl fd_X2_21 dX2_readDraft_27 ?_
  refine lv_aload_n hx hb dX2_readDraft_30 rfl (lv_at hl 0 rfl) ?_
  obtain ⟨r6, er6, hf⟩ := ks_bind hf
  refine ke_V hE hw hl.1 cl_X2_41 13 ltX_13 lyX_13 rfl [] (c_X2_readSide l D cA st ad a _ _ er6) rfl (ke_room hRm rfl rfl) ke_cnt (Nat.le_of_ble_eq_true rfl) rfl dX2_readDraft_31 (fun H locs hw => ?_)
  refine W.eq (g2 := F0 m 34 ls (.int r6.1 :: .ref (adr ad a 16) :: [])) rfl ?_
  obtain ⟨t7, et7, hf⟩ := ks_nm hf
  refine ks_putI hE hw 16 2 ltX_16 lyX_16 rfl fw_X2_45 rfl rfl dX2_readDraft_34 (fun H locs hw => ?_)
  rw [← et7] at hw
  refine lv_aload_n hx hb dX2_readDraft_37 rfl (lv_at hl 0 rfl) ?_
  refine ks_getI hE hw 13 5 ltX_13 lyX_13 rfl fd_X2_48 dX2_readDraft_38 ?_
  obtain ⟨x8, ex8, hf⟩ := ks_nm hf
  refine W.eq (g2 := F0 m 41 ls (.int x8 :: [])) (by rw [ex8]) ?_
  refine lv_istore_n (lv' := [(2, .int x8), (0, .ref (adr ad a 13)), (1, .int p1)]) hx hb dX2_readDraft_41 rfl hl (by decide) rfl (fun ls hl => ?_)
  refine lv_aload_n hx hb dX2_readDraft_42 rfl (lv_at hl 1 rfl) ?_
  refine lv_bipush (v := 58) hx hb dX2_readDraft_43 (by decide) ?_
  obtain ⟨r9, er9, hf⟩ := ks_bind hf
  refine ke_V hE hw hl.1 cl_X2_51 13 ltX_13 lyX_13 rfl [.int (58 : Int32)] (c_X2_pass l D cA st ad a _ _ _ er9) rfl (ke_room hRm rfl rfl) ke_cnt (Nat.le_of_ble_eq_true rfl) rfl dX2_readDraft_45 (fun H locs hw => ?_)
  refine W.eq (g2 := F0 m 48 ls ([])) rfl ?_
  refine lv_aload_n hx hb dX2_readDraft_48 rfl (lv_at hl 1 rfl) ?_
  refine ks_getR hE hw 13 1 ltX_13 lyX_13 rfl fd_X2_21 dX2_readDraft_49 ?_
  refine lv_aload_n hx hb dX2_readDraft_52 rfl (lv_at hl 1 rfl) ?_
  obtain ⟨r10, er10, hf⟩ := ks_bind hf
  refine ke_V hE hw hl.1 cl_X2_41 13 ltX_13 lyX_13 rfl [] (c_X2_readSide l D cA st ad a _ _ er10) rfl (ke_room hRm rfl rfl) ke_cnt (Nat.le_of_ble_eq_true rfl) rfl dX2_readDraft_53 (fun H locs hw => ?_)
  refine W.eq (g2 := F0 m 56 ls (.int r10.1 :: .ref (adr ad a 16) :: [])) rfl ?_
  obtain ⟨t11, et11, hf⟩ := ks_nm hf
  refine ks_putI hE hw 16 3 ltX_16 lyX_16 rfl fw_X2_55 rfl rfl dX2_readDraft_56 (fun H locs hw => ?_)
  rw [← et11] at hw
  refine lv_aload_n hx hb dX2_readDraft_59 rfl (lv_at hl 1 rfl) ?_
  refine ks_getI hE hw 13 5 ltX_13 lyX_13 rfl fd_X2_48 dX2_readDraft_60 ?_
  obtain ⟨x12, ex12, hf⟩ := ks_nm hf
  refine W.eq (g2 := F0 m 63 ls (.int x12 :: [])) (by rw [ex12]) ?_
  refine lv_istore_n (lv' := [(3, .int x12), (2, .int x8), (0, .ref (adr ad a 13)), (1, .int p1)]) hx hb dX2_readDraft_63 rfl hl (by decide) rfl (fun ls hl => ?_)
  refine lv_aload_n hx hb dX2_readDraft_64 rfl (lv_at hl 2 rfl) ?_
  refine lv_iconst (v := 0) hx hb dX2_readDraft_65 (by decide) ?_
  obtain ⟨r13, er13, hf⟩ := ks_bind hf
  refine ke_V hE hw hl.1 cl_X2_51 13 ltX_13 lyX_13 rfl [.int (0 : Int32)] (c_X2_pass l D cA st ad a _ _ _ er13) rfl (ke_room hRm rfl rfl) ke_cnt (Nat.le_of_ble_eq_true rfl) rfl dX2_readDraft_66 (fun H locs hw => ?_)
  refine W.eq (g2 := F0 m 69 ls ([])) rfl ?_
  refine lv_aload_n hx hb dX2_readDraft_69 rfl (lv_at hl 2 rfl) ?_
  refine ks_getR hE hw 13 1 ltX_13 lyX_13 rfl fd_X2_21 dX2_readDraft_70 ?_
  refine lv_aload_n hx hb dX2_readDraft_73 rfl (lv_at hl 2 rfl) ?_
  refine lv_iload_n hx hb dX2_readDraft_74 rfl (lv_at hl 1 rfl) ?_
  refine lv_iload_n hx hb dX2_readDraft_75 rfl (lv_at hl 0 rfl) ?_
  obtain ⟨r14, er14, hf⟩ := ks_nm hf
  refine ke_V hE hw hl.1 cl_X2_58 13 ltX_13 lyX_13 rfl [.int x8, .int x12] (c_X2_factTold l D cA st ad a _ _ _ _ er14.symm) rfl (ke_room hRm rfl rfl) ke_cnt (Nat.le_of_ble_eq_true rfl) rfl dX2_readDraft_76 (fun H locs hw => ?_)
  refine W.eq (g2 := F0 m 79 ls (.int r14 :: .ref (adr ad a 16) :: [])) rfl ?_
  obtain ⟨t15, et15, hf⟩ := ks_nm hf
  refine ks_putI hE hw 16 4 ltX_16 lyX_16 rfl fw_X2_62 rfl rfl dX2_readDraft_79 (fun H locs hw => ?_)
  rw [← et15] at hw
  refine lv_aload_n hx hb dX2_readDraft_82 rfl (lv_at hl 2 rfl) ?_
  refine ks_getI hE hw 13 4 ltX_13 lyX_13 rfl fd_X2_32 dX2_readDraft_83 ?_
  replace hf := Option.some.inj hf
  subst hf
  exact ke_iret hE hw hQ dX2_readDraft_86 rfl rfl
def fX6_read  (τ : Tau) (p1 : Int32) : Option (Int32 × Tau) :=
 (if (p1 < 0 ∨ 10 ≤ p1.toNatClampNeg) then
 some ((-1 : Int32), τ)
 else
 Option.bind (fX2_readDraft τ (tI τ 0 5)) (fun r2 =>
 (if r2.1 = (-1 : Int32) then
 Option.bind (fX3_become (p1.toNatClampNeg + 2) r2.2) (fun r4 =>
 nm (sI r4 17 9 (tI r4 17 9 ||| ((1 : Int32) <<< (p1 &&& 31)))) (fun t5 =>
 nm (sI t5 14 1 (0 : Int32)) (fun t6 =>
 some ((1 : Int32), t6))))
 else
 some (((-10 : Int32) - r2.1), r2.2))))
set_option maxHeartbeats 4000000 in
set_option maxRecDepth 100000 in
theorem c_X6_read (l : Launch) (D : va_G) (cA : Nat → ClassId) (st ad : Nat → Nat) (a : Nat)  (τ : Tau) (p1 : Int32) (R : (Int32 × Tau)) (hf : fX6_read τ p1 = some R) : KE ΛX 29 D cA st ad l yX6_read cX6_read 4 (some .int) 47 1789 [.ref (adr ad a 0), .int p1] a τ (some (.int R.1)) R.2 := by
  refine KE.of "KindSayings" rfl (by decide) (Nat.le_of_ble_eq_true rfl) (fun p e s m args below meth c A ls Rm Q hE hRm hQ hw hl => ?_)
  obtain ⟨hx, hb, hml, hown, hts, -⟩ := id hE
  have hl : lv_has ls 4 [(0, .ref (adr ad a 0)), (1, .int p1)] := hl
  unfold fX6_read at hf
  refine lv_aload_n hx hb dX6_read_0 rfl (lv_at hl 0 rfl) ?_
  refine lv_iload_n hx hb dX6_read_1 rfl (lv_at hl 1 rfl) ?_
  by_cases c1 : (p1 < 0 ∨ 10 ≤ p1.toNatClampNeg)
  · have hf := (if_pos c1).symm.trans hf
    refine ke_V hE hw hl.1 cl_X6_72 0 ltX_0 lyX_0 rfl [.int p1] (c_X6_sayingAt_out l D cA st ad a _ _ c1) rfl (ke_room hRm rfl rfl) ke_cnt (Nat.le_of_ble_eq_true rfl) rfl dX6_read_2 (fun H locs hw => ?_)
    refine lv_astore_nN (lv' := [(2, .null), (0, .ref (adr ad a 0)), (1, .int p1)]) hx hb dX6_read_5 rfl hl (by decide) rfl (fun ls hl => ?_)
    refine lv_aload_nN hx hb dX6_read_6 rfl (lv_at hl 0 rfl) ?_
    refine lv_ifnonnullN hx hb dX6_read_7 ?_
    refine lv_iconst (v := (-1)) hx hb dX6_read_10 (by decide) ?_
    replace hf := Option.some.inj hf
    subst hf
    exact ke_iret hE hw hQ dX6_read_11 rfl rfl
  · have hf := (if_neg c1).symm.trans hf
    refine ke_V hE hw hl.1 cl_X6_72 0 ltX_0 lyX_0 rfl [.int p1] (c_X6_sayingAt_in l D cA st ad a _ _ c1) rfl (ke_room hRm rfl rfl) ke_cnt (Nat.le_of_ble_eq_true rfl) rfl dX6_read_2 (fun H locs hw => ?_)
    refine lv_astore_n (lv' := [(2, .ref (adr ad a (p1.toNatClampNeg + 2))), (0, .ref (adr ad a 0)), (1, .int p1)]) hx hb dX6_read_5 rfl hl (by decide) rfl (fun ls hl => ?_)
    refine lv_aload_n hx hb dX6_read_6 rfl (lv_at hl 0 rfl) ?_
    refine lv_ifnonnull (tgt := 12) hx hb dX6_read_7 (by decide) ?_
    refine lv_aload_n hx hb dX6_read_12 rfl (lv_at hl 1 rfl) ?_
    refine ks_getR hE hw 0 2 ltX_0 lyX_0 rfl fd_X6_22 dX6_read_13 ?_
    refine lv_aload_n hx hb dX6_read_16 rfl (lv_at hl 1 rfl) ?_
    refine ks_getI hE hw 0 5 ltX_0 lyX_0 rfl fd_X6_40 dX6_read_17 ?_
    obtain ⟨r2, er2, hf⟩ := ks_bind hf
    refine ke_V hE hw hl.1 cl_X6_100 13 ltX_13 lyX_13 rfl [.int (tI τ 0 5)] (c_X2_readDraft l D cA st ad a _ _ _ er2) rfl (ke_room hRm rfl rfl) ke_cnt (Nat.le_of_ble_eq_true rfl) rfl dX6_read_20 (fun H locs hw => ?_)
    refine W.eq (g2 := F0 m 23 ls (.int r2.1 :: [])) rfl ?_
    refine lv_istore_n (lv' := [(3, .int r2.1), (2, .ref (adr ad a (p1.toNatClampNeg + 2))), (0, .ref (adr ad a 0)), (1, .int p1)]) hx hb dX6_read_23 rfl hl (by decide) rfl (fun ls hl => ?_)
    refine lv_iload_n hx hb dX6_read_24 rfl (lv_at hl 0 rfl) ?_
    refine lv_iconst (v := (-1)) hx hb dX6_read_25 (by decide) ?_
    refine lv_icmp_eq (tgt := 34) hx hb dX6_read_26 (by decide) (fun c3 => ?_) (fun c3 => ?_)
    · have hf := (if_pos c3).symm.trans hf
      refine lv_aload_n hx hb dX6_read_34 rfl (lv_at hl 1 rfl) ?_
      refine lv_aload_n hx hb dX6_read_35 rfl (lv_at hl 2 rfl) ?_
      refine ks_getR hE hw 0 2 ltX_0 lyX_0 rfl fd_X6_22 dX6_read_36 ?_
      refine ks_getR hE hw 13 1 ltX_13 lyX_13 rfl fd_X6_104 dX6_read_39 ?_
      obtain ⟨r4, er4, hf⟩ := ks_bind hf
      refine ke_V hE hw hl.1 cl_X6_108 (p1.toNatClampNeg + 2) (say_lt (say_at c1)) (say_lay (say_at c1)) rfl [.ref (adr ad a 16)] (c_X3_become l D cA st ad a _ _ _ (say_at c1) er4) rfl (ke_room hRm rfl rfl) ke_cnt (Nat.le_of_ble_eq_true rfl) rfl dX6_read_42 (fun H locs hw => ?_)
      refine W.eq (g2 := F0 m 45 ls ([])) rfl ?_
      refine lv_aload_n hx hb dX6_read_45 rfl (lv_at hl 2 rfl) ?_
      refine ks_getR hE hw 0 3 ltX_0 lyX_0 rfl fd_X6_29 dX6_read_46 ?_
      refine lv_dup hx hb dX6_read_49 rfl ?_
      refine ks_getI hE hw 17 9 ltX_17 lyX_17 rfl fd_X6_112 dX6_read_50 ?_
      refine lv_iconst (v := 1) hx hb dX6_read_53 (by decide) ?_
      refine lv_iload_n hx hb dX6_read_54 rfl (lv_at hl 3 rfl) ?_
      refine lv_ishl hx hb dX6_read_55 ?_
      refine lv_ior hx hb dX6_read_56 ?_
      obtain ⟨t5, et5, hf⟩ := ks_nm hf
      refine ks_putI hE hw 17 9 ltX_17 lyX_17 rfl fw_X6_112 rfl rfl dX6_read_57 (fun H locs hw => ?_)
      rw [← et5] at hw
      refine lv_aload_n hx hb dX6_read_60 rfl (lv_at hl 2 rfl) ?_
      refine ks_getR hE hw 0 2 ltX_0 lyX_0 rfl fd_X6_22 dX6_read_61 ?_
      refine ks_getR hE hw 13 0 ltX_13 lyX_13 rfl fd_X6_87 dX6_read_64 ?_
      refine lv_iconst (v := 0) hx hb dX6_read_67 (by decide) ?_
      obtain ⟨t6, et6, hf⟩ := ks_nm hf
      refine ks_putI hE hw 14 1 ltX_14 lyX_14 rfl fw_X6_91 rfl rfl dX6_read_68 (fun H locs hw => ?_)
      rw [← et6] at hw
      refine lv_iconst (v := 1) hx hb dX6_read_71 (by decide) ?_
      replace hf := Option.some.inj hf
      subst hf
      exact ke_iret hE hw hQ dX6_read_72 rfl rfl
    · have hf := (if_neg c3).symm.trans hf
      refine lv_bipush (v := (-10)) hx hb dX6_read_29 (by decide) ?_
      refine lv_iload_n hx hb dX6_read_31 rfl (lv_at hl 0 rfl) ?_
      refine lv_isub hx hb dX6_read_32 ?_
      replace hf := Option.some.inj hf
      subst hf
      exact ke_iret hE hw hQ dX6_read_33 rfl rfl
