def fX3_becomeFirst (q : Nat) (τ : Tau) (p1 : Int32) : Option Tau :=
 nm (sI τ q 0 (0 : Int32)) (fun t1 =>
 nm (sI t1 q 1 (0 : Int32)) (fun t2 =>
 Option.bind (fX6_sortsOfKind (0 : Int32) p1) (fun r3 =>
 nm (sI t2 q 2 r3) (fun t4 =>
 nm (sI t4 q 3 (tI t4 q 2)) (fun t5 =>
 nm (fX6_factNumber (0 : Int32) (0 : Int32) (0 : Int32)) (fun r6 =>
 nm (sI t5 q 4 r6) (fun t7 =>
 nm (sI t7 q 5 (0 : Int32)) (fun t8 =>
 some t8))))))))
set_option maxHeartbeats 4000000 in
set_option maxRecDepth 100000 in
theorem c_X3_becomeFirst (l : Launch) (D : va_G) (cA : Nat → ClassId) (st ad : Nat → Nat) (a : Nat) (q : Nat) (τ : Tau) (p1 : Int32) (R : Tau) (hq : isSay q) (hf : fX3_becomeFirst q τ p1 = some R) : KE ΛX 29 D cA st ad l yX3_becomeFirst cX3_becomeFirst 2 none 2 44 [.ref (adr ad a q), .int p1] a τ (none) R := by
  refine KE.of "KindSayings$Saying" rfl (by decide) (Nat.le_of_ble_eq_true rfl) (fun p e s m args below meth c A ls Rm Q hE hRm hQ hw hl => ?_)
  obtain ⟨hx, hb, hml, hown, hts, -⟩ := id hE
  have hl : lv_has ls 2 [(0, .ref (adr ad a q)), (1, .int p1)] := hl
  unfold fX3_becomeFirst at hf
  refine lv_aload_n hx hb dX3_becomeFirst_0 rfl (lv_at hl 0 rfl) ?_
  refine lv_iconst (v := 0) hx hb dX3_becomeFirst_1 (by decide) ?_
  obtain ⟨t1, et1, hf⟩ := ks_nm hf
  refine ks_putI hE hw q 0 (say_lt hq) (say_lay hq) rfl fw_X3_9 rfl rfl dX3_becomeFirst_2 (fun H locs hw => ?_)
  rw [← et1] at hw
  refine lv_aload_n hx hb dX3_becomeFirst_5 rfl (lv_at hl 0 rfl) ?_
  refine lv_iconst (v := 0) hx hb dX3_becomeFirst_6 (by decide) ?_
  obtain ⟨t2, et2, hf⟩ := ks_nm hf
  refine ks_putI hE hw q 1 (say_lt hq) (say_lay hq) rfl fw_X3_15 rfl rfl dX3_becomeFirst_7 (fun H locs hw => ?_)
  rw [← et2] at hw
  refine lv_aload_n hx hb dX3_becomeFirst_10 rfl (lv_at hl 0 rfl) ?_
  refine lv_iconst (v := 0) hx hb dX3_becomeFirst_11 (by decide) ?_
  refine lv_iload_n hx hb dX3_becomeFirst_12 rfl (lv_at hl 1 rfl) ?_
  obtain ⟨r3, er3, hf⟩ := ks_bind hf
  refine ke_SN hE hw hl.1 cl_X3_18 [.int (0 : Int32), .int p1] (c_X6_sortsOfKind l D cA st ad a _ _ _ _ er3) rfl (ke_room hRm rfl rfl) ke_cnt (Nat.le_of_ble_eq_true rfl) rfl dX3_becomeFirst_13 (fun H locs hw => ?_)
  refine W.eq (g2 := F0 m 16 ls (.int r3 :: .ref (adr ad a q) :: [])) rfl ?_
  obtain ⟨t4, et4, hf⟩ := ks_nm hf
  refine ks_putI hE hw q 2 (say_lt hq) (say_lay hq) rfl fw_X3_22 rfl rfl dX3_becomeFirst_16 (fun H locs hw => ?_)
  rw [← et4] at hw
  refine lv_aload_n hx hb dX3_becomeFirst_19 rfl (lv_at hl 0 rfl) ?_
  refine lv_aload_n hx hb dX3_becomeFirst_20 rfl (lv_at hl 0 rfl) ?_
  refine ks_getI hE hw q 2 (say_lt hq) (say_lay hq) rfl fd_X3_22 dX3_becomeFirst_21 ?_
  obtain ⟨t5, et5, hf⟩ := ks_nm hf
  refine ks_putI hE hw q 3 (say_lt hq) (say_lay hq) rfl fw_X3_25 rfl rfl dX3_becomeFirst_24 (fun H locs hw => ?_)
  rw [← et5] at hw
  refine lv_aload_n hx hb dX3_becomeFirst_27 rfl (lv_at hl 0 rfl) ?_
  refine lv_iconst (v := 0) hx hb dX3_becomeFirst_28 (by decide) ?_
  refine lv_iconst (v := 0) hx hb dX3_becomeFirst_29 (by decide) ?_
  refine lv_iconst (v := 0) hx hb dX3_becomeFirst_30 (by decide) ?_
  obtain ⟨r6, er6, hf⟩ := ks_nm hf
  refine ke_SN hE hw hl.1 cl_X3_28 [.int (0 : Int32), .int (0 : Int32), .int (0 : Int32)] (c_X6_factNumber l D cA st ad a _ _ _ _ _ er6.symm) rfl (ke_room hRm rfl rfl) ke_cnt (Nat.le_of_ble_eq_true rfl) rfl dX3_becomeFirst_31 (fun H locs hw => ?_)
  refine W.eq (g2 := F0 m 34 ls (.int r6 :: .ref (adr ad a q) :: [])) rfl ?_
  obtain ⟨t7, et7, hf⟩ := ks_nm hf
  refine ks_putI hE hw q 4 (say_lt hq) (say_lay hq) rfl fw_X3_32 rfl rfl dX3_becomeFirst_34 (fun H locs hw => ?_)
  rw [← et7] at hw
  refine lv_aload_n hx hb dX3_becomeFirst_37 rfl (lv_at hl 0 rfl) ?_
  refine lv_iconst (v := 0) hx hb dX3_becomeFirst_38 (by decide) ?_
  obtain ⟨t8, et8, hf⟩ := ks_nm hf
  refine ks_putI hE hw q 5 (say_lt hq) (say_lay hq) rfl fw_X3_35 (nar_bool (Or.inl rfl)).1 (nar_bool (Or.inl rfl)).2 dX3_becomeFirst_39 (fun H locs hw => ?_)
  rw [← et8] at hw
  replace hf := Option.some.inj hf
  subst hf
  exact ke_vret hE hw hQ dX3_becomeFirst_42 rfl
def fX3_become (q : Nat) (τ : Tau) : Option Tau :=
 nm (sI τ q 0 (tI τ 16 0)) (fun t1 =>
 nm (sI t1 q 1 (tI t1 16 1)) (fun t2 =>
 nm (sI t2 q 2 (tI t2 16 2)) (fun t3 =>
 nm (sI t3 q 3 (tI t3 16 3)) (fun t4 =>
 nm (sI t4 q 4 (tI t4 16 4)) (fun t5 =>
 (if tI t5 16 5 = 0 ∨ tI t5 16 5 = 1 then
 nm (sI t5 q 5 (tI t5 16 5)) (fun t7 =>
 some t7) else none))))))
set_option maxHeartbeats 4000000 in
set_option maxRecDepth 100000 in
theorem c_X3_become (l : Launch) (D : va_G) (cA : Nat → ClassId) (st ad : Nat → Nat) (a : Nat) (q : Nat) (τ : Tau) (R : Tau) (hq : isSay q) (hf : fX3_become q τ = some R) : KE ΛX 29 D cA st ad l yX3_become cX3_become 2 none 0 0 [.ref (adr ad a q), .ref (adr ad a 16)] a τ (none) R := by
  refine KE.of "KindSayings$Saying" rfl (by decide) (Nat.le_of_ble_eq_true rfl) (fun p e s m args below meth c A ls Rm Q hE hRm hQ hw hl => ?_)
  obtain ⟨hx, hb, hml, hown, hts, -⟩ := id hE
  have hl : lv_has ls 2 [(0, .ref (adr ad a q)), (1, .ref (adr ad a 16))] := hl
  unfold fX3_become at hf
  refine lv_aload_n hx hb dX3_become_0 rfl (lv_at hl 0 rfl) ?_
  refine lv_aload_n hx hb dX3_become_1 rfl (lv_at hl 1 rfl) ?_
  refine ks_getI hE hw 16 0 ltX_16 lyX_16 rfl fd_X3_9 dX3_become_2 ?_
  obtain ⟨t1, et1, hf⟩ := ks_nm hf
  refine ks_putI hE hw q 0 (say_lt hq) (say_lay hq) rfl fw_X3_9 rfl rfl dX3_become_5 (fun H locs hw => ?_)
  rw [← et1] at hw
  refine lv_aload_n hx hb dX3_become_8 rfl (lv_at hl 0 rfl) ?_
  refine lv_aload_n hx hb dX3_become_9 rfl (lv_at hl 1 rfl) ?_
  refine ks_getI hE hw 16 1 ltX_16 lyX_16 rfl fd_X3_15 dX3_become_10 ?_
  obtain ⟨t2, et2, hf⟩ := ks_nm hf
  refine ks_putI hE hw q 1 (say_lt hq) (say_lay hq) rfl fw_X3_15 rfl rfl dX3_become_13 (fun H locs hw => ?_)
  rw [← et2] at hw
  refine lv_aload_n hx hb dX3_become_16 rfl (lv_at hl 0 rfl) ?_
  refine lv_aload_n hx hb dX3_become_17 rfl (lv_at hl 1 rfl) ?_
  refine ks_getI hE hw 16 2 ltX_16 lyX_16 rfl fd_X3_22 dX3_become_18 ?_
  obtain ⟨t3, et3, hf⟩ := ks_nm hf
  refine ks_putI hE hw q 2 (say_lt hq) (say_lay hq) rfl fw_X3_22 rfl rfl dX3_become_21 (fun H locs hw => ?_)
  rw [← et3] at hw
  refine lv_aload_n hx hb dX3_become_24 rfl (lv_at hl 0 rfl) ?_
  refine lv_aload_n hx hb dX3_become_25 rfl (lv_at hl 1 rfl) ?_
  refine ks_getI hE hw 16 3 ltX_16 lyX_16 rfl fd_X3_25 dX3_become_26 ?_
  obtain ⟨t4, et4, hf⟩ := ks_nm hf
  refine ks_putI hE hw q 3 (say_lt hq) (say_lay hq) rfl fw_X3_25 rfl rfl dX3_become_29 (fun H locs hw => ?_)
  rw [← et4] at hw
  refine lv_aload_n hx hb dX3_become_32 rfl (lv_at hl 0 rfl) ?_
  refine lv_aload_n hx hb dX3_become_33 rfl (lv_at hl 1 rfl) ?_
  refine ks_getI hE hw 16 4 ltX_16 lyX_16 rfl fd_X3_32 dX3_become_34 ?_
  obtain ⟨t5, et5, hf⟩ := ks_nm hf
  refine ks_putI hE hw q 4 (say_lt hq) (say_lay hq) rfl fw_X3_32 rfl rfl dX3_become_37 (fun H locs hw => ?_)
  rw [← et5] at hw
  refine lv_aload_n hx hb dX3_become_40 rfl (lv_at hl 0 rfl) ?_
  refine lv_aload_n hx hb dX3_become_41 rfl (lv_at hl 1 rfl) ?_
  refine ks_getI hE hw 16 5 ltX_16 lyX_16 rfl fd_X3_35 dX3_become_42 ?_
  obtain ⟨b6, hf⟩ := ks_need hf
  obtain ⟨t7, et7, hf⟩ := ks_nm hf
  refine ks_putI hE hw q 5 (say_lt hq) (say_lay hq) rfl fw_X3_35 (nar_bool b6).1 (nar_bool b6).2 dX3_become_45 (fun H locs hw => ?_)
  rw [← et7] at hw
  replace hf := Option.some.inj hf
  subst hf
  exact ke_vret hE hw hQ dX3_become_48 rfl
def fX3_isLike (q : Nat) (q1 : Nat) (τ : Tau) : Bool :=
 (if tI τ q 0 = tI τ q1 0 then
 (if tI τ q 1 = tI τ q1 1 then
 (if tI τ q 5 = tI τ q1 5 then
 (if tI τ q 2 = tI τ q1 2 then
 (if tI τ q 3 = tI τ q1 3 then
 true
 else
 false)
 else
 false)
 else
 false)
 else
 false)
 else
 false)
set_option maxHeartbeats 4000000 in
set_option maxRecDepth 100000 in
theorem c_X3_isLike (l : Launch) (D : va_G) (cA : Nat → ClassId) (st ad : Nat → Nat) (a : Nat) (q : Nat) (q1 : Nat) (τ : Tau) (R : Bool) (hq : isSay q) (hq1 : isSay q1) (hf : fX3_isLike q q1 τ = R) : KE ΛX 29 D cA st ad l yX3_isLike cX3_isLike 2 (some .boolean) 0 0 [.ref (adr ad a q), .ref (adr ad a q1)] a τ (some (.int (bI R))) τ := by
  refine KE.of "KindSayings$Saying" rfl (by decide) (Nat.le_of_ble_eq_true rfl) (fun p e s m args below meth c A ls Rm Q hE hRm hQ hw hl => ?_)
  obtain ⟨hx, hb, hml, hown, hts, -⟩ := id hE
  have hl : lv_has ls 2 [(0, .ref (adr ad a q)), (1, .ref (adr ad a q1))] := hl
  unfold fX3_isLike at hf
  refine lv_aload_n hx hb dX3_isLike_0 rfl (lv_at hl 0 rfl) ?_
  refine ks_getI hE hw q 0 (say_lt hq) (say_lay hq) rfl fd_X3_9 dX3_isLike_1 ?_
  refine lv_aload_n hx hb dX3_isLike_4 rfl (lv_at hl 1 rfl) ?_
  refine ks_getI hE hw q1 0 (say_lt hq1) (say_lay hq1) rfl fd_X3_9 dX3_isLike_5 ?_
  refine lv_icmp_ne (tgt := 59) hx hb dX3_isLike_8 (by decide) (fun c1 => ?_) (fun c1 => ?_)
  · have hf := (if_neg c1).symm.trans hf
    refine lv_iconst (v := 0) hx hb dX3_isLike_59 (by decide) ?_
    subst hf
    exact ke_zret hE hw hQ (Or.inl rfl) dX3_isLike_60 rfl rfl
  · have hf := (if_pos c1).symm.trans hf
    refine lv_aload_n hx hb dX3_isLike_11 rfl (lv_at hl 0 rfl) ?_
    refine ks_getI hE hw q 1 (say_lt hq) (say_lay hq) rfl fd_X3_15 dX3_isLike_12 ?_
    refine lv_aload_n hx hb dX3_isLike_15 rfl (lv_at hl 1 rfl) ?_
    refine ks_getI hE hw q1 1 (say_lt hq1) (say_lay hq1) rfl fd_X3_15 dX3_isLike_16 ?_
    refine lv_icmp_ne (tgt := 59) hx hb dX3_isLike_19 (by decide) (fun c2 => ?_) (fun c2 => ?_)
    · have hf := (if_neg c2).symm.trans hf
      refine lv_iconst (v := 0) hx hb dX3_isLike_59 (by decide) ?_
      subst hf
      exact ke_zret hE hw hQ (Or.inl rfl) dX3_isLike_60 rfl rfl
    · have hf := (if_pos c2).symm.trans hf
      refine lv_aload_n hx hb dX3_isLike_22 rfl (lv_at hl 0 rfl) ?_
      refine ks_getI hE hw q 5 (say_lt hq) (say_lay hq) rfl fd_X3_35 dX3_isLike_23 ?_
      refine lv_aload_n hx hb dX3_isLike_26 rfl (lv_at hl 1 rfl) ?_
      refine ks_getI hE hw q1 5 (say_lt hq1) (say_lay hq1) rfl fd_X3_35 dX3_isLike_27 ?_
      refine lv_icmp_ne (tgt := 59) hx hb dX3_isLike_30 (by decide) (fun c3 => ?_) (fun c3 => ?_)
      · have hf := (if_neg c3).symm.trans hf
        refine lv_iconst (v := 0) hx hb dX3_isLike_59 (by decide) ?_
        subst hf
        exact ke_zret hE hw hQ (Or.inl rfl) dX3_isLike_60 rfl rfl
      · have hf := (if_pos c3).symm.trans hf
        refine lv_aload_n hx hb dX3_isLike_33 rfl (lv_at hl 0 rfl) ?_
        refine ks_getI hE hw q 2 (say_lt hq) (say_lay hq) rfl fd_X3_22 dX3_isLike_34 ?_
        refine lv_aload_n hx hb dX3_isLike_37 rfl (lv_at hl 1 rfl) ?_
        refine ks_getI hE hw q1 2 (say_lt hq1) (say_lay hq1) rfl fd_X3_22 dX3_isLike_38 ?_
        refine lv_icmp_ne (tgt := 59) hx hb dX3_isLike_41 (by decide) (fun c4 => ?_) (fun c4 => ?_)
        · have hf := (if_neg c4).symm.trans hf
          refine lv_iconst (v := 0) hx hb dX3_isLike_59 (by decide) ?_
          subst hf
          exact ke_zret hE hw hQ (Or.inl rfl) dX3_isLike_60 rfl rfl
        · have hf := (if_pos c4).symm.trans hf
          refine lv_aload_n hx hb dX3_isLike_44 rfl (lv_at hl 0 rfl) ?_
          refine ks_getI hE hw q 3 (say_lt hq) (say_lay hq) rfl fd_X3_25 dX3_isLike_45 ?_
          refine lv_aload_n hx hb dX3_isLike_48 rfl (lv_at hl 1 rfl) ?_
          refine ks_getI hE hw q1 3 (say_lt hq1) (say_lay hq1) rfl fd_X3_25 dX3_isLike_49 ?_
          refine lv_icmp_ne (tgt := 59) hx hb dX3_isLike_52 (by decide) (fun c5 => ?_) (fun c5 => ?_)
          · have hf := (if_neg c5).symm.trans hf
            refine lv_iconst (v := 0) hx hb dX3_isLike_59 (by decide) ?_
            subst hf
            exact ke_zret hE hw hQ (Or.inl rfl) dX3_isLike_60 rfl rfl
          · have hf := (if_pos c5).symm.trans hf
            refine lv_iconst (v := 1) hx hb dX3_isLike_55 (by decide) ?_
            refine lv_goto (tgt := 60) hx hb dX3_isLike_56 (by decide) ?_
            subst hf
            exact ke_zret hE hw hQ (Or.inr rfl) dX3_isLike_60 rfl rfl
def fX3_weight (q : Nat) (τ : Tau) (p1 : Int32) : Int32 :=
 nm ((tI τ q 2 >>> (p1 &&& 31)) &&& (1 : Int32)) (fun x1 =>
 nm ((tI τ q 3 >>> (p1 &&& 31)) &&& (1 : Int32)) (fun x2 =>
 ((x1 ||| (x2 <<< ((4 : Int32) &&& 31))) ||| ((x1 &&& x2) <<< ((8 : Int32) &&& 31)))))
set_option maxHeartbeats 4000000 in
set_option maxRecDepth 100000 in
theorem c_X3_weight (l : Launch) (D : va_G) (cA : Nat → ClassId) (st ad : Nat → Nat) (a : Nat) (q : Nat) (τ : Tau) (p1 : Int32) (R : Int32) (hq : isSay q) (hf : fX3_weight q τ p1 = R) : KE ΛX 29 D cA st ad l yX3_weight cX3_weight 4 (some .int) 0 0 [.ref (adr ad a q), .int p1] a τ (some (.int R)) τ := by
  refine KE.of "KindSayings$Saying" rfl (by decide) (Nat.le_of_ble_eq_true rfl) (fun p e s m args below meth c A ls Rm Q hE hRm hQ hw hl => ?_)
  obtain ⟨hx, hb, hml, hown, hts, -⟩ := id hE
  have hl : lv_has ls 4 [(0, .ref (adr ad a q)), (1, .int p1)] := hl
  unfold fX3_weight at hf
  refine lv_aload_n hx hb dX3_weight_0 rfl (lv_at hl 0 rfl) ?_
  refine ks_getI hE hw q 2 (say_lt hq) (say_lay hq) rfl fd_X3_22 dX3_weight_1 ?_
  refine lv_iload_n hx hb dX3_weight_4 rfl (lv_at hl 1 rfl) ?_
  refine lv_ishr hx hb dX3_weight_5 ?_
  refine lv_iconst (v := 1) hx hb dX3_weight_6 (by decide) ?_
  refine lv_iand hx hb dX3_weight_7 ?_
  obtain ⟨x1, ex1, hf⟩ := ks_nm hf
  refine W.eq (g2 := F0 m 8 ls (.int x1 :: [])) (by rw [ex1]) ?_
  refine lv_istore_n (lv' := [(2, .int x1), (0, .ref (adr ad a q)), (1, .int p1)]) hx hb dX3_weight_8 rfl hl (by decide) rfl (fun ls hl => ?_)
  refine lv_aload_n hx hb dX3_weight_9 rfl (lv_at hl 1 rfl) ?_
  refine ks_getI hE hw q 3 (say_lt hq) (say_lay hq) rfl fd_X3_25 dX3_weight_10 ?_
  refine lv_iload_n hx hb dX3_weight_13 rfl (lv_at hl 2 rfl) ?_
  refine lv_ishr hx hb dX3_weight_14 ?_
  refine lv_iconst (v := 1) hx hb dX3_weight_15 (by decide) ?_
  refine lv_iand hx hb dX3_weight_16 ?_
  obtain ⟨x2, ex2, hf⟩ := ks_nm hf
  refine W.eq (g2 := F0 m 17 ls (.int x2 :: [])) (by rw [ex2]) ?_
  refine lv_istore_n (lv' := [(3, .int x2), (2, .int x1), (0, .ref (adr ad a q)), (1, .int p1)]) hx hb dX3_weight_17 rfl hl (by decide) rfl (fun ls hl => ?_)
  refine lv_iload_n hx hb dX3_weight_18 rfl (lv_at hl 1 rfl) ?_
  refine lv_iload_n hx hb dX3_weight_19 rfl (lv_at hl 0 rfl) ?_
  refine lv_iconst (v := 4) hx hb dX3_weight_20 (by decide) ?_
  refine lv_ishl hx hb dX3_weight_21 ?_
  refine lv_ior hx hb dX3_weight_22 ?_
  refine lv_iload_n hx hb dX3_weight_23 rfl (lv_at hl 1 rfl) ?_
  refine lv_iload_n hx hb dX3_weight_24 rfl (lv_at hl 0 rfl) ?_
  refine lv_iand hx hb dX3_weight_25 ?_
  refine lv_bipush (v := 8) hx hb dX3_weight_26 (by decide) ?_
  refine lv_ishl hx hb dX3_weight_28 ?_
  refine lv_ior hx hb dX3_weight_29 ?_
  subst hf
  exact ke_iret hE hw hQ dX3_weight_30 rfl rfl
def fX3_isTrueUnturned (q : Nat) (τ : Tau) (p1 : Int32) (p2 : Int32) (p3 : Int32) : Bool :=
 (if tI τ q 0 = (0 : Int32) then
 (if p3 = p1 then
 true
 else
 false)
 else
 (if tI τ q 0 = (1 : Int32) then
 (if p3 ≤ 0 then
 false
 else
 true)
 else
 (if tI τ q 0 = (2 : Int32) then
 (if p3 = 0 then
 true
 else
 false)
 else
 (if tI τ q 0 = (3 : Int32) then
 (if ((2 : Int32) * p3) ≤ p1 then
 false
 else
 true)
 else
 (if tI τ q 0 = (4 : Int32) then
 (if p3 < tI τ q 1 then
 false
 else
 true)
 else
 (if tI τ q 0 = (5 : Int32) then
 (if p3 = tI τ q 1 then
 true
 else
 false)
 else
 (if tI τ q 0 = (6 : Int32) then
 (if p1 ≤ p2 then
 false
 else
 true)
 else
 (if p1 = p2 then
 true
 else
 false))))))))
set_option maxHeartbeats 4000000 in
set_option maxRecDepth 100000 in
theorem c_X3_isTrueUnturned (l : Launch) (D : va_G) (cA : Nat → ClassId) (st ad : Nat → Nat) (a : Nat) (q : Nat) (τ : Tau) (p1 : Int32) (p2 : Int32) (p3 : Int32) (R : Bool) (hq : isSay q) (hf : fX3_isTrueUnturned q τ p1 p2 p3 = R) : KE ΛX 29 D cA st ad l yX3_isTrueUnturned cX3_isTrueUnturned 4 (some .boolean) 0 0 [.ref (adr ad a q), .int p1, .int p2, .int p3] a τ (some (.int (bI R))) τ := by
  refine KE.of "KindSayings$Saying" rfl (by decide) (Nat.le_of_ble_eq_true rfl) (fun p e s m args below meth c A ls Rm Q hE hRm hQ hw hl => ?_)
  obtain ⟨hx, hb, hml, hown, hts, -⟩ := id hE
  have hl : lv_has ls 4 [(0, .ref (adr ad a q)), (1, .int p1), (2, .int p2), (3, .int p3)] := hl
  unfold fX3_isTrueUnturned at hf
  refine lv_aload_n hx hb dX3_isTrueUnturned_0 rfl (lv_at hl 0 rfl) ?_
  refine ks_getI hE hw q 0 (say_lt hq) (say_lay hq) rfl fd_X3_9 dX3_isTrueUnturned_1 ?_
  by_cases c1 : tI τ q 0 = (0 : Int32)
  · have hf := (if_pos c1).symm.trans hf
    refine lv_tableIn (tgt := 48) hx hb dX3_isTrueUnturned_4 (by rw [c1]; decide) (by rw [c1]; decide) (by rw [c1]; rfl) (by decide) ?_
    refine lv_iload_n hx hb dX3_isTrueUnturned_48 rfl (lv_at hl 3 rfl) ?_
    refine lv_iload_n hx hb dX3_isTrueUnturned_49 rfl (lv_at hl 1 rfl) ?_
    refine lv_icmp_ne (tgt := 57) hx hb dX3_isTrueUnturned_50 (by decide) (fun c8 => ?_) (fun c8 => ?_)
    · have hf := (if_neg c8).symm.trans hf
      refine lv_iconst (v := 0) hx hb dX3_isTrueUnturned_57 (by decide) ?_
      subst hf
      exact ke_zret hE hw hQ (Or.inl rfl) dX3_isTrueUnturned_58 rfl rfl
    · have hf := (if_pos c8).symm.trans hf
      refine lv_iconst (v := 1) hx hb dX3_isTrueUnturned_53 (by decide) ?_
      refine lv_goto (tgt := 58) hx hb dX3_isTrueUnturned_54 (by decide) ?_
      subst hf
      exact ke_zret hE hw hQ (Or.inr rfl) dX3_isTrueUnturned_58 rfl rfl
  · have hf := (if_neg c1).symm.trans hf
    by_cases c2 : tI τ q 0 = (1 : Int32)
    · have hf := (if_pos c2).symm.trans hf
      refine lv_tableIn (tgt := 59) hx hb dX3_isTrueUnturned_4 (by rw [c2]; decide) (by rw [c2]; decide) (by rw [c2]; rfl) (by decide) ?_
      refine lv_iload_n hx hb dX3_isTrueUnturned_59 rfl (lv_at hl 3 rfl) ?_
      refine lv_if_le (tgt := 67) hx hb dX3_isTrueUnturned_60 (by decide) (fun c9 => ?_) (fun c9 => ?_)
      · have hf := (if_pos c9).symm.trans hf
        refine lv_iconst (v := 0) hx hb dX3_isTrueUnturned_67 (by decide) ?_
        subst hf
        exact ke_zret hE hw hQ (Or.inl rfl) dX3_isTrueUnturned_68 rfl rfl
      · have hf := (if_neg c9).symm.trans hf
        refine lv_iconst (v := 1) hx hb dX3_isTrueUnturned_63 (by decide) ?_
        refine lv_goto (tgt := 68) hx hb dX3_isTrueUnturned_64 (by decide) ?_
        subst hf
        exact ke_zret hE hw hQ (Or.inr rfl) dX3_isTrueUnturned_68 rfl rfl
    · have hf := (if_neg c2).symm.trans hf
      by_cases c3 : tI τ q 0 = (2 : Int32)
      · have hf := (if_pos c3).symm.trans hf
        refine lv_tableIn (tgt := 69) hx hb dX3_isTrueUnturned_4 (by rw [c3]; decide) (by rw [c3]; decide) (by rw [c3]; rfl) (by decide) ?_
        refine lv_iload_n hx hb dX3_isTrueUnturned_69 rfl (lv_at hl 3 rfl) ?_
        refine lv_if_ne (tgt := 77) hx hb dX3_isTrueUnturned_70 (by decide) (fun c10 => ?_) (fun c10 => ?_)
        · have hf := (if_neg c10).symm.trans hf
          refine lv_iconst (v := 0) hx hb dX3_isTrueUnturned_77 (by decide) ?_
          subst hf
          exact ke_zret hE hw hQ (Or.inl rfl) dX3_isTrueUnturned_78 rfl rfl
        · have hf := (if_pos c10).symm.trans hf
          refine lv_iconst (v := 1) hx hb dX3_isTrueUnturned_73 (by decide) ?_
          refine lv_goto (tgt := 78) hx hb dX3_isTrueUnturned_74 (by decide) ?_
          subst hf
          exact ke_zret hE hw hQ (Or.inr rfl) dX3_isTrueUnturned_78 rfl rfl
      · have hf := (if_neg c3).symm.trans hf
        by_cases c4 : tI τ q 0 = (3 : Int32)
        · have hf := (if_pos c4).symm.trans hf
          refine lv_tableIn (tgt := 79) hx hb dX3_isTrueUnturned_4 (by rw [c4]; decide) (by rw [c4]; decide) (by rw [c4]; rfl) (by decide) ?_
          refine lv_iconst (v := 2) hx hb dX3_isTrueUnturned_79 (by decide) ?_
          refine lv_iload_n hx hb dX3_isTrueUnturned_80 rfl (lv_at hl 3 rfl) ?_
          refine lv_imul hx hb dX3_isTrueUnturned_81 ?_
          refine lv_iload_n hx hb dX3_isTrueUnturned_82 rfl (lv_at hl 1 rfl) ?_
          refine lv_icmp_le (tgt := 90) hx hb dX3_isTrueUnturned_83 (by decide) (fun c11 => ?_) (fun c11 => ?_)
          · have hf := (if_pos c11).symm.trans hf
            refine lv_iconst (v := 0) hx hb dX3_isTrueUnturned_90 (by decide) ?_
            subst hf
            exact ke_zret hE hw hQ (Or.inl rfl) dX3_isTrueUnturned_91 rfl rfl
          · have hf := (if_neg c11).symm.trans hf
            refine lv_iconst (v := 1) hx hb dX3_isTrueUnturned_86 (by decide) ?_
            refine lv_goto (tgt := 91) hx hb dX3_isTrueUnturned_87 (by decide) ?_
            subst hf
            exact ke_zret hE hw hQ (Or.inr rfl) dX3_isTrueUnturned_91 rfl rfl
        · have hf := (if_neg c4).symm.trans hf
          by_cases c5 : tI τ q 0 = (4 : Int32)
          · have hf := (if_pos c5).symm.trans hf
            refine lv_tableIn (tgt := 92) hx hb dX3_isTrueUnturned_4 (by rw [c5]; decide) (by rw [c5]; decide) (by rw [c5]; rfl) (by decide) ?_
            refine lv_iload_n hx hb dX3_isTrueUnturned_92 rfl (lv_at hl 3 rfl) ?_
            refine lv_aload_n hx hb dX3_isTrueUnturned_93 rfl (lv_at hl 0 rfl) ?_
            refine ks_getI hE hw q 1 (say_lt hq) (say_lay hq) rfl fd_X3_15 dX3_isTrueUnturned_94 ?_
            refine lv_icmp_lt (tgt := 104) hx hb dX3_isTrueUnturned_97 (by decide) (fun c12 => ?_) (fun c12 => ?_)
            · have hf := (if_pos c12).symm.trans hf
              refine lv_iconst (v := 0) hx hb dX3_isTrueUnturned_104 (by decide) ?_
              subst hf
              exact ke_zret hE hw hQ (Or.inl rfl) dX3_isTrueUnturned_105 rfl rfl
            · have hf := (if_neg c12).symm.trans hf
              refine lv_iconst (v := 1) hx hb dX3_isTrueUnturned_100 (by decide) ?_
              refine lv_goto (tgt := 105) hx hb dX3_isTrueUnturned_101 (by decide) ?_
              subst hf
              exact ke_zret hE hw hQ (Or.inr rfl) dX3_isTrueUnturned_105 rfl rfl
          · have hf := (if_neg c5).symm.trans hf
            by_cases c6 : tI τ q 0 = (5 : Int32)
            · have hf := (if_pos c6).symm.trans hf
              refine lv_tableIn (tgt := 106) hx hb dX3_isTrueUnturned_4 (by rw [c6]; decide) (by rw [c6]; decide) (by rw [c6]; rfl) (by decide) ?_
              refine lv_iload_n hx hb dX3_isTrueUnturned_106 rfl (lv_at hl 3 rfl) ?_
              refine lv_aload_n hx hb dX3_isTrueUnturned_107 rfl (lv_at hl 0 rfl) ?_
              refine ks_getI hE hw q 1 (say_lt hq) (say_lay hq) rfl fd_X3_15 dX3_isTrueUnturned_108 ?_
              refine lv_icmp_ne (tgt := 118) hx hb dX3_isTrueUnturned_111 (by decide) (fun c13 => ?_) (fun c13 => ?_)
              · have hf := (if_neg c13).symm.trans hf
                refine lv_iconst (v := 0) hx hb dX3_isTrueUnturned_118 (by decide) ?_
                subst hf
                exact ke_zret hE hw hQ (Or.inl rfl) dX3_isTrueUnturned_119 rfl rfl
              · have hf := (if_pos c13).symm.trans hf
                refine lv_iconst (v := 1) hx hb dX3_isTrueUnturned_114 (by decide) ?_
                refine lv_goto (tgt := 119) hx hb dX3_isTrueUnturned_115 (by decide) ?_
                subst hf
                exact ke_zret hE hw hQ (Or.inr rfl) dX3_isTrueUnturned_119 rfl rfl
            · have hf := (if_neg c6).symm.trans hf
              by_cases c7 : tI τ q 0 = (6 : Int32)
              · have hf := (if_pos c7).symm.trans hf
                refine lv_tableIn (tgt := 120) hx hb dX3_isTrueUnturned_4 (by rw [c7]; decide) (by rw [c7]; decide) (by rw [c7]; rfl) (by decide) ?_
                refine lv_iload_n hx hb dX3_isTrueUnturned_120 rfl (lv_at hl 1 rfl) ?_
                refine lv_iload_n hx hb dX3_isTrueUnturned_121 rfl (lv_at hl 2 rfl) ?_
                refine lv_icmp_le (tgt := 129) hx hb dX3_isTrueUnturned_122 (by decide) (fun c14 => ?_) (fun c14 => ?_)
                · have hf := (if_pos c14).symm.trans hf
                  refine lv_iconst (v := 0) hx hb dX3_isTrueUnturned_129 (by decide) ?_
                  subst hf
                  exact ke_zret hE hw hQ (Or.inl rfl) dX3_isTrueUnturned_130 rfl rfl
                · have hf := (if_neg c14).symm.trans hf
                  refine lv_iconst (v := 1) hx hb dX3_isTrueUnturned_125 (by decide) ?_
                  refine lv_goto (tgt := 130) hx hb dX3_isTrueUnturned_126 (by decide) ?_
                  subst hf
                  exact ke_zret hE hw hQ (Or.inr rfl) dX3_isTrueUnturned_130 rfl rfl
              · have hf := (if_neg c7).symm.trans hf
                refine lv_tableOut (tgt := 131) hx hb dX3_isTrueUnturned_4 (by have := ks_sw c1 (k := 0) (by decide); have := ks_sw c2 (k := 1) (by decide); have := ks_sw c3 (k := 2) (by decide); have := ks_sw c4 (k := 3) (by decide); have := ks_sw c5 (k := 4) (by decide); have := ks_sw c6 (k := 5) (by decide); have := ks_sw c7 (k := 6) (by decide); omega) (by decide) ?_
                refine lv_iload_n hx hb dX3_isTrueUnturned_131 rfl (lv_at hl 1 rfl) ?_
                refine lv_iload_n hx hb dX3_isTrueUnturned_132 rfl (lv_at hl 2 rfl) ?_
                refine lv_icmp_ne (tgt := 140) hx hb dX3_isTrueUnturned_133 (by decide) (fun c15 => ?_) (fun c15 => ?_)
                · have hf := (if_neg c15).symm.trans hf
                  refine lv_iconst (v := 0) hx hb dX3_isTrueUnturned_140 (by decide) ?_
                  subst hf
                  exact ke_zret hE hw hQ (Or.inl rfl) dX3_isTrueUnturned_141 rfl rfl
                · have hf := (if_pos c15).symm.trans hf
                  refine lv_iconst (v := 1) hx hb dX3_isTrueUnturned_136 (by decide) ?_
                  refine lv_goto (tgt := 141) hx hb dX3_isTrueUnturned_137 (by decide) ?_
                  subst hf
                  exact ke_zret hE hw hQ (Or.inr rfl) dX3_isTrueUnturned_141 rfl rfl
def fX3_isTrue (q : Nat) (τ : Tau) (p1 : Int32) : Bool :=
 nm (fX3_isTrueUnturned q τ (p1 &&& (15 : Int32)) ((p1 >>> ((4 : Int32) &&& 31)) &&& (15 : Int32)) ((p1 >>> ((8 : Int32) &&& 31)) &&& (15 : Int32))) (fun r1 =>
 (if tI τ q 5 = bI r1 then
 false
 else
 true))
set_option maxHeartbeats 4000000 in
set_option maxRecDepth 100000 in
theorem c_X3_isTrue (l : Launch) (D : va_G) (cA : Nat → ClassId) (st ad : Nat → Nat) (a : Nat) (q : Nat) (τ : Tau) (p1 : Int32) (R : Bool) (hq : isSay q) (hf : fX3_isTrue q τ p1 = R) : KE ΛX 29 D cA st ad l yX3_isTrue cX3_isTrue 2 (some .boolean) 1 23 [.ref (adr ad a q), .int p1] a τ (some (.int (bI R))) τ := by
  refine KE.of "KindSayings$Saying" rfl (by decide) (Nat.le_of_ble_eq_true rfl) (fun p e s m args below meth c A ls Rm Q hE hRm hQ hw hl => ?_)
  obtain ⟨hx, hb, hml, hown, hts, -⟩ := id hE
  have hl : lv_has ls 2 [(0, .ref (adr ad a q)), (1, .int p1)] := hl
  unfold fX3_isTrue at hf
  refine lv_aload_n hx hb dX3_isTrue_0 rfl (lv_at hl 0 rfl) ?_
  refine ks_getI hE hw q 5 (say_lt hq) (say_lay hq) rfl fd_X3_35 dX3_isTrue_1 ?_
  refine lv_aload_n hx hb dX3_isTrue_4 rfl (lv_at hl 0 rfl) ?_
  refine lv_iload_n hx hb dX3_isTrue_5 rfl (lv_at hl 1 rfl) ?_
  refine lv_bipush (v := 15) hx hb dX3_isTrue_6 (by decide) ?_
  refine lv_iand hx hb dX3_isTrue_8 ?_
  refine lv_iload_n hx hb dX3_isTrue_9 rfl (lv_at hl 1 rfl) ?_
  refine lv_iconst (v := 4) hx hb dX3_isTrue_10 (by decide) ?_
  refine lv_ishr hx hb dX3_isTrue_11 ?_
  refine lv_bipush (v := 15) hx hb dX3_isTrue_12 (by decide) ?_
  refine lv_iand hx hb dX3_isTrue_14 ?_
  refine lv_iload_n hx hb dX3_isTrue_15 rfl (lv_at hl 1 rfl) ?_
  refine lv_bipush (v := 8) hx hb dX3_isTrue_16 (by decide) ?_
  refine lv_ishr hx hb dX3_isTrue_18 ?_
  refine lv_bipush (v := 15) hx hb dX3_isTrue_19 (by decide) ?_
  refine lv_iand hx hb dX3_isTrue_21 ?_
  obtain ⟨r1, er1, hf⟩ := ks_nm hf
  refine ke_V hE hw hl.1 cl_X3_39 q (say_lt hq) (say_lay hq) rfl [.int (p1 &&& (15 : Int32)), .int ((p1 >>> ((4 : Int32) &&& 31)) &&& (15 : Int32)), .int ((p1 >>> ((8 : Int32) &&& 31)) &&& (15 : Int32))] (c_X3_isTrueUnturned l D cA st ad a _ _ _ _ _ _ hq er1.symm) rfl (ke_room hRm rfl rfl) ke_cnt (Nat.le_of_ble_eq_true rfl) rfl dX3_isTrue_22 (fun H locs hw => ?_)
  refine W.eq (g2 := F0 m 25 ls (.int (bI r1) :: .int (tI τ q 5) :: [])) rfl ?_
  refine lv_icmp_eq (tgt := 32) hx hb dX3_isTrue_25 (by decide) (fun c2 => ?_) (fun c2 => ?_)
  · have hf := (if_pos c2).symm.trans hf
    refine lv_iconst (v := 0) hx hb dX3_isTrue_32 (by decide) ?_
    subst hf
    exact ke_zret hE hw hQ (Or.inl rfl) dX3_isTrue_33 rfl rfl
  · have hf := (if_neg c2).symm.trans hf
    refine lv_iconst (v := 1) hx hb dX3_isTrue_28 (by decide) ?_
    refine lv_goto (tgt := 33) hx hb dX3_isTrue_29 (by decide) ?_
    subst hf
    exact ke_zret hE hw hQ (Or.inr rfl) dX3_isTrue_33 rfl rfl
