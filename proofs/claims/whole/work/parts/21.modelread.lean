def fX7_byteAt (τ : Tau) (p1 : Int32) : Option Int32 :=
 (if tI τ 0 6 ≤ p1 then
 some (-1 : Int32)
 else
 (if p1 < 0 ∨ 80 ≤ p1.toNatClampNeg then none else
 some (tA τ 2 p1.toNatClampNeg)))
set_option maxHeartbeats 4000000 in
set_option maxRecDepth 100000 in
theorem c_X7_byteAt (l : Launch) (D : va_G) (cA : Nat → ClassId) (st ad : Nat → Nat) (a : Nat)  (τ : Tau) (p1 : Int32) (R : Int32) (hf : fX7_byteAt τ p1 = some R) : KE ΛM 12 D cA st ad l yX7_byteAt cX7_byteAt 2 (some .int) 0 0 [.ref (adr ad a 0), .int p1] a τ (some (.int R)) τ := by
  refine KE.of "KindSayingsModel" rfl (by decide) (Nat.le_of_ble_eq_true rfl) (fun p e s m args below meth c A ls Rm Q hE hRm hQ hw hl => ?_)
  obtain ⟨hx, hb, hml, hown, hts, -⟩ := id hE
  have hl : lv_has ls 2 [(0, .ref (adr ad a 0)), (1, .int p1)] := hl
  unfold fX7_byteAt at hf
  refine lv_iload_n hx hb dX7_byteAt_0 rfl (lv_at hl 1 rfl) ?_
  refine lv_aload_n hx hb dX7_byteAt_1 rfl (lv_at hl 0 rfl) ?_
  refine ks_getI hE hw 0 6 ltM_0 lyM_0 rfl fd_X7_98 dX7_byteAt_2 ?_
  refine lv_icmp_ge (tgt := 17) hx hb dX7_byteAt_5 (by decide) (fun c1 => ?_) (fun c1 => ?_)
  · have hf := (if_pos c1).symm.trans hf
    refine lv_iconst (v := (-1)) hx hb dX7_byteAt_17 (by decide) ?_
    replace hf := Option.some.inj hf
    subst hf
    exact ke_iret hE hw hQ dX7_byteAt_18 rfl rfl
  · have hf := (if_neg c1).symm.trans hf
    refine lv_aload_n hx hb dX7_byteAt_8 rfl (lv_at hl 0 rfl) ?_
    refine ks_getR hE hw 0 5 ltM_0 lyM_0 rfl fd_X7_23 dX7_byteAt_9 ?_
    refine lv_iload_n hx hb dX7_byteAt_12 rfl (lv_at hl 1 rfl) ?_
    obtain ⟨b2, hf⟩ := ks_ok hf
    refine ks_iald hE hw 2 ltM_2 lyM_2 b2 dX7_byteAt_13 ?_
    refine lv_goto (tgt := 18) hx hb dX7_byteAt_14 (by decide) ?_
    replace hf := Option.some.inj hf
    subst hf
    exact ke_iret hE hw hQ dX7_byteAt_18 rfl rfl
def fX7_add  (p1 : Int64) (p2 : Int32) : Int64 :=
 (if p2 = 0 then
 p1
 else
 (((256 : Int64) * p1) + p2.toInt64))
set_option maxHeartbeats 4000000 in
set_option maxRecDepth 100000 in
theorem c_X7_add (l : Launch) (D : va_G) (cA : Nat → ClassId) (st ad : Nat → Nat) (a : Nat)  (τ : Tau) (p1 : Int64) (p2 : Int32) (R : Int64) (hf : fX7_add p1 p2 = R) : KE ΛM 12 D cA st ad l yX7_add cX7_add 3 (some .long) 0 0 [.long p1, .int p2] a τ (some (.long R)) τ := by
  refine KE.of "KindSayingsModel" rfl (by decide) (Nat.le_of_ble_eq_true rfl) (fun p e s m args below meth c A ls Rm Q hE hRm hQ hw hl => ?_)
  obtain ⟨hx, hb, hml, hown, hts, -⟩ := id hE
  have hl : lv_has ls 3 [(0, .long p1), (2, .int p2)] := hl
  unfold fX7_add at hf
  refine lv_iload_n hx hb dX7_add_0 rfl (lv_at hl 1 rfl) ?_
  refine lv_if_ne (tgt := 8) hx hb dX7_add_1 (by decide) (fun c1 => ?_) (fun c1 => ?_)
  · have hf := (if_neg c1).symm.trans hf
    refine lv_ldc2 hx hb hown (hts _ w_937) dX7_add_8 ?_
    refine lv_lload_n hx hb dX7_add_11 rfl (lv_at hl 0 rfl) ?_
    refine lv_lmul hx hb dX7_add_12 ?_
    refine lv_iload_n hx hb dX7_add_13 rfl (lv_at hl 1 rfl) ?_
    refine lv_i2l hx hb dX7_add_14 rfl ?_
    refine lv_ladd hx hb dX7_add_15 ?_
    subst hf
    exact ke_lret hE hw hQ dX7_add_16 rfl rfl
  · have hf := (if_pos c1).symm.trans hf
    refine lv_lload_n hx hb dX7_add_4 rfl (lv_at hl 0 rfl) ?_
    refine lv_goto (tgt := 16) hx hb dX7_add_5 (by decide) ?_
    subst hf
    exact ke_lret hE hw hQ dX7_add_16 rfl rfl
def fX7_word  (p1 : Int32) (p2 : Int32) (p3 : Int32) (p4 : Int32) (p5 : Int32) : Int64 :=
 nm (fX7_add (0 : Int64) p1) (fun r1 =>
 nm (fX7_add r1 p2) (fun r2 =>
 nm (fX7_add r2 p3) (fun r3 =>
 nm (fX7_add r3 p4) (fun r4 =>
 nm (fX7_add r4 p5) (fun r5 =>
 r5)))))
set_option maxHeartbeats 4000000 in
set_option maxRecDepth 100000 in
theorem c_X7_word (l : Launch) (D : va_G) (cA : Nat → ClassId) (st ad : Nat → Nat) (a : Nat)  (τ : Tau) (p1 : Int32) (p2 : Int32) (p3 : Int32) (p4 : Int32) (p5 : Int32) (R : Int64) (hf : fX7_word p1 p2 p3 p4 p5 = R) : KE ΛM 12 D cA st ad l yX7_word cX7_word 5 (some .long) 1 22 [.int p1, .int p2, .int p3, .int p4, .int p5] a τ (some (.long R)) τ := by
  refine KE.of "KindSayingsModel" rfl (by decide) (Nat.le_of_ble_eq_true rfl) (fun p e s m args below meth c A ls Rm Q hE hRm hQ hw hl => ?_)
  obtain ⟨hx, hb, hml, hown, hts, -⟩ := id hE
  have hl : lv_has ls 5 [(0, .int p1), (1, .int p2), (2, .int p3), (3, .int p4), (4, .int p5)] := hl
  unfold fX7_word at hf
  refine lv_lconst (v := 0) hx hb dX7_word_0 (by decide) ?_
  refine lv_iload_n hx hb dX7_word_1 rfl (lv_at hl 0 rfl) ?_
  obtain ⟨r1, er1, hf⟩ := ks_nm hf
  refine ke_S hE hw hl.1 cl_X7_105 [.long (0 : Int64), .int p1] (c_X7_add l D cA st ad a _ _ _ _ er1.symm) rfl (ke_room hRm rfl rfl) ke_cnt (Nat.le_of_ble_eq_true rfl) rfl dX7_word_2 (fun H locs hw => ?_)
  refine W.eq (g2 := F0 m 5 ls (.long r1 :: [])) rfl ?_
  refine lv_iload_n hx hb dX7_word_5 rfl (lv_at hl 1 rfl) ?_
  obtain ⟨r2, er2, hf⟩ := ks_nm hf
  refine ke_S hE hw hl.1 cl_X7_105 [.long r1, .int p2] (c_X7_add l D cA st ad a _ _ _ _ er2.symm) rfl (ke_room hRm rfl rfl) ke_cnt (Nat.le_of_ble_eq_true rfl) rfl dX7_word_6 (fun H locs hw => ?_)
  refine W.eq (g2 := F0 m 9 ls (.long r2 :: [])) rfl ?_
  refine lv_iload_n hx hb dX7_word_9 rfl (lv_at hl 2 rfl) ?_
  obtain ⟨r3, er3, hf⟩ := ks_nm hf
  refine ke_S hE hw hl.1 cl_X7_105 [.long r2, .int p3] (c_X7_add l D cA st ad a _ _ _ _ er3.symm) rfl (ke_room hRm rfl rfl) ke_cnt (Nat.le_of_ble_eq_true rfl) rfl dX7_word_10 (fun H locs hw => ?_)
  refine W.eq (g2 := F0 m 13 ls (.long r3 :: [])) rfl ?_
  refine lv_iload_n hx hb dX7_word_13 rfl (lv_at hl 3 rfl) ?_
  obtain ⟨r4, er4, hf⟩ := ks_nm hf
  refine ke_S hE hw hl.1 cl_X7_105 [.long r3, .int p4] (c_X7_add l D cA st ad a _ _ _ _ er4.symm) rfl (ke_room hRm rfl rfl) ke_cnt (Nat.le_of_ble_eq_true rfl) rfl dX7_word_14 (fun H locs hw => ?_)
  refine W.eq (g2 := F0 m 17 ls (.long r4 :: [])) rfl ?_
  refine lv_iload hx hb dX7_word_17 (lv_at hl 4 rfl) ?_
  obtain ⟨r5, er5, hf⟩ := ks_nm hf
  refine ke_S hE hw hl.1 cl_X7_105 [.long r4, .int p5] (c_X7_add l D cA st ad a _ _ _ _ er5.symm) rfl (ke_room hRm rfl rfl) ke_cnt (Nat.le_of_ble_eq_true rfl) rfl dX7_word_19 (fun H locs hw => ?_)
  refine W.eq (g2 := F0 m 22 ls (.long r5 :: [])) rfl ?_
  subst hf
  exact ke_lret hE hw hQ dX7_word_22 rfl rfl
def fX7_wordOf  (p1 : Int64) : Int32 :=
 nm (fX7_word (97 : Int32) (108 : Int32) (108 : Int32) (0 : Int32) (0 : Int32)) (fun r1 =>
 (if lg_cmp p1 r1 = 0 then
 (0 : Int32)
 else
 nm (fX7_word (115 : Int32) (111 : Int32) (109 : Int32) (101 : Int32) (0 : Int32)) (fun r3 =>
 (if lg_cmp p1 r3 = 0 then
 (1 : Int32)
 else
 nm (fX7_word (110 : Int32) (111 : Int32) (0 : Int32) (0 : Int32) (0 : Int32)) (fun r5 =>
 (if lg_cmp p1 r5 = 0 then
 (2 : Int32)
 else
 nm (fX7_word (109 : Int32) (111 : Int32) (115 : Int32) (116 : Int32) (0 : Int32)) (fun r7 =>
 (if lg_cmp p1 r7 = 0 then
 (3 : Int32)
 else
 nm (fX7_word (108 : Int32) (101 : Int32) (97 : Int32) (115 : Int32) (116 : Int32)) (fun r9 =>
 (if lg_cmp p1 r9 = 0 then
 (4 : Int32)
 else
 nm (fX7_word (106 : Int32) (117 : Int32) (115 : Int32) (116 : Int32) (0 : Int32)) (fun r11 =>
 (if lg_cmp p1 r11 = 0 then
 (5 : Int32)
 else
 nm (fX7_word (109 : Int32) (111 : Int32) (114 : Int32) (101 : Int32) (0 : Int32)) (fun r13 =>
 (if lg_cmp p1 r13 = 0 then
 (6 : Int32)
 else
 nm (fX7_word (101 : Int32) (118 : Int32) (101 : Int32) (110 : Int32) (0 : Int32)) (fun r15 =>
 (if lg_cmp p1 r15 = 0 then
 (7 : Int32)
 else
 nm (fX7_word (110 : Int32) (111 : Int32) (116 : Int32) (0 : Int32) (0 : Int32)) (fun r17 =>
 (if lg_cmp p1 r17 = 0 then
 (8 : Int32)
 else
 (-9 : Int32)))))))))))))))))))
set_option maxHeartbeats 4000000 in
set_option maxRecDepth 100000 in
theorem c_X7_wordOf (l : Launch) (D : va_G) (cA : Nat → ClassId) (st ad : Nat → Nat) (a : Nat)  (τ : Tau) (p1 : Int64) (R : Int32) (hf : fX7_wordOf p1 = R) : KE ΛM 12 D cA st ad l yX7_wordOf cX7_wordOf 2 (some .int) 2 46 [.long p1] a τ (some (.int R)) τ := by
  refine KE.of "KindSayingsModel" rfl (by decide) (Nat.le_of_ble_eq_true rfl) (fun p e s m args below meth c A ls Rm Q hE hRm hQ hw hl => ?_)
  obtain ⟨hx, hb, hml, hown, hts, -⟩ := id hE
  have hl : lv_has ls 2 [(0, .long p1)] := hl
  unfold fX7_wordOf at hf
  refine lv_lload_n hx hb dX7_wordOf_0 rfl (lv_at hl 0 rfl) ?_
  refine lv_bipush (v := 97) hx hb dX7_wordOf_1 (by decide) ?_
  refine lv_bipush (v := 108) hx hb dX7_wordOf_3 (by decide) ?_
  refine lv_bipush (v := 108) hx hb dX7_wordOf_5 (by decide) ?_
  refine lv_iconst (v := 0) hx hb dX7_wordOf_7 (by decide) ?_
  refine lv_iconst (v := 0) hx hb dX7_wordOf_8 (by decide) ?_
  obtain ⟨r1, er1, hf⟩ := ks_nm hf
  refine ke_S hE hw hl.1 cl_X7_109 [.int (97 : Int32), .int (108 : Int32), .int (108 : Int32), .int (0 : Int32), .int (0 : Int32)] (c_X7_word l D cA st ad a _ _ _ _ _ _ _ er1.symm) rfl (ke_room hRm rfl rfl) ke_cnt (Nat.le_of_ble_eq_true rfl) rfl dX7_wordOf_9 (fun H locs hw => ?_)
  refine W.eq (g2 := F0 m 12 ls (.long r1 :: .long p1 :: [])) rfl ?_
  refine W.lcmp hx hb dX7_wordOf_12 ?_
  refine lv_if_ne (tgt := 20) hx hb dX7_wordOf_13 (by decide) (fun c2 => ?_) (fun c2 => ?_)
  · have hf := (if_neg c2).symm.trans hf
    refine lv_lload_n hx hb dX7_wordOf_20 rfl (lv_at hl 0 rfl) ?_
    refine lv_bipush (v := 115) hx hb dX7_wordOf_21 (by decide) ?_
    refine lv_bipush (v := 111) hx hb dX7_wordOf_23 (by decide) ?_
    refine lv_bipush (v := 109) hx hb dX7_wordOf_25 (by decide) ?_
    refine lv_bipush (v := 101) hx hb dX7_wordOf_27 (by decide) ?_
    refine lv_iconst (v := 0) hx hb dX7_wordOf_29 (by decide) ?_
    obtain ⟨r3, er3, hf⟩ := ks_nm hf
    refine ke_S hE hw hl.1 cl_X7_109 [.int (115 : Int32), .int (111 : Int32), .int (109 : Int32), .int (101 : Int32), .int (0 : Int32)] (c_X7_word l D cA st ad a _ _ _ _ _ _ _ er3.symm) rfl (ke_room hRm rfl rfl) ke_cnt (Nat.le_of_ble_eq_true rfl) rfl dX7_wordOf_30 (fun H locs hw => ?_)
    refine W.eq (g2 := F0 m 33 ls (.long r3 :: .long p1 :: [])) rfl ?_
    refine W.lcmp hx hb dX7_wordOf_33 ?_
    refine lv_if_ne (tgt := 41) hx hb dX7_wordOf_34 (by decide) (fun c4 => ?_) (fun c4 => ?_)
    · have hf := (if_neg c4).symm.trans hf
      refine lv_lload_n hx hb dX7_wordOf_41 rfl (lv_at hl 0 rfl) ?_
      refine lv_bipush (v := 110) hx hb dX7_wordOf_42 (by decide) ?_
      refine lv_bipush (v := 111) hx hb dX7_wordOf_44 (by decide) ?_
      refine lv_iconst (v := 0) hx hb dX7_wordOf_46 (by decide) ?_
      refine lv_iconst (v := 0) hx hb dX7_wordOf_47 (by decide) ?_
      refine lv_iconst (v := 0) hx hb dX7_wordOf_48 (by decide) ?_
      obtain ⟨r5, er5, hf⟩ := ks_nm hf
      refine ke_S hE hw hl.1 cl_X7_109 [.int (110 : Int32), .int (111 : Int32), .int (0 : Int32), .int (0 : Int32), .int (0 : Int32)] (c_X7_word l D cA st ad a _ _ _ _ _ _ _ er5.symm) rfl (ke_room hRm rfl rfl) ke_cnt (Nat.le_of_ble_eq_true rfl) rfl dX7_wordOf_49 (fun H locs hw => ?_)
      refine W.eq (g2 := F0 m 52 ls (.long r5 :: .long p1 :: [])) rfl ?_
      refine W.lcmp hx hb dX7_wordOf_52 ?_
      refine lv_if_ne (tgt := 60) hx hb dX7_wordOf_53 (by decide) (fun c6 => ?_) (fun c6 => ?_)
      · have hf := (if_neg c6).symm.trans hf
        refine lv_lload_n hx hb dX7_wordOf_60 rfl (lv_at hl 0 rfl) ?_
        refine lv_bipush (v := 109) hx hb dX7_wordOf_61 (by decide) ?_
        refine lv_bipush (v := 111) hx hb dX7_wordOf_63 (by decide) ?_
        refine lv_bipush (v := 115) hx hb dX7_wordOf_65 (by decide) ?_
        refine lv_bipush (v := 116) hx hb dX7_wordOf_67 (by decide) ?_
        refine lv_iconst (v := 0) hx hb dX7_wordOf_69 (by decide) ?_
        obtain ⟨r7, er7, hf⟩ := ks_nm hf
        refine ke_S hE hw hl.1 cl_X7_109 [.int (109 : Int32), .int (111 : Int32), .int (115 : Int32), .int (116 : Int32), .int (0 : Int32)] (c_X7_word l D cA st ad a _ _ _ _ _ _ _ er7.symm) rfl (ke_room hRm rfl rfl) ke_cnt (Nat.le_of_ble_eq_true rfl) rfl dX7_wordOf_70 (fun H locs hw => ?_)
        refine W.eq (g2 := F0 m 73 ls (.long r7 :: .long p1 :: [])) rfl ?_
        refine W.lcmp hx hb dX7_wordOf_73 ?_
        refine lv_if_ne (tgt := 81) hx hb dX7_wordOf_74 (by decide) (fun c8 => ?_) (fun c8 => ?_)
        · have hf := (if_neg c8).symm.trans hf
          refine lv_lload_n hx hb dX7_wordOf_81 rfl (lv_at hl 0 rfl) ?_
          refine lv_bipush (v := 108) hx hb dX7_wordOf_82 (by decide) ?_
          refine lv_bipush (v := 101) hx hb dX7_wordOf_84 (by decide) ?_
          refine lv_bipush (v := 97) hx hb dX7_wordOf_86 (by decide) ?_
          refine lv_bipush (v := 115) hx hb dX7_wordOf_88 (by decide) ?_
          refine lv_bipush (v := 116) hx hb dX7_wordOf_90 (by decide) ?_
          obtain ⟨r9, er9, hf⟩ := ks_nm hf
          refine ke_S hE hw hl.1 cl_X7_109 [.int (108 : Int32), .int (101 : Int32), .int (97 : Int32), .int (115 : Int32), .int (116 : Int32)] (c_X7_word l D cA st ad a _ _ _ _ _ _ _ er9.symm) rfl (ke_room hRm rfl rfl) ke_cnt (Nat.le_of_ble_eq_true rfl) rfl dX7_wordOf_92 (fun H locs hw => ?_)
          refine W.eq (g2 := F0 m 95 ls (.long r9 :: .long p1 :: [])) rfl ?_
          refine W.lcmp hx hb dX7_wordOf_95 ?_
          refine lv_if_ne (tgt := 103) hx hb dX7_wordOf_96 (by decide) (fun c10 => ?_) (fun c10 => ?_)
          · have hf := (if_neg c10).symm.trans hf
            refine lv_lload_n hx hb dX7_wordOf_103 rfl (lv_at hl 0 rfl) ?_
            refine lv_bipush (v := 106) hx hb dX7_wordOf_104 (by decide) ?_
            refine lv_bipush (v := 117) hx hb dX7_wordOf_106 (by decide) ?_
            refine lv_bipush (v := 115) hx hb dX7_wordOf_108 (by decide) ?_
            refine lv_bipush (v := 116) hx hb dX7_wordOf_110 (by decide) ?_
            refine lv_iconst (v := 0) hx hb dX7_wordOf_112 (by decide) ?_
            obtain ⟨r11, er11, hf⟩ := ks_nm hf
            refine ke_S hE hw hl.1 cl_X7_109 [.int (106 : Int32), .int (117 : Int32), .int (115 : Int32), .int (116 : Int32), .int (0 : Int32)] (c_X7_word l D cA st ad a _ _ _ _ _ _ _ er11.symm) rfl (ke_room hRm rfl rfl) ke_cnt (Nat.le_of_ble_eq_true rfl) rfl dX7_wordOf_113 (fun H locs hw => ?_)
            refine W.eq (g2 := F0 m 116 ls (.long r11 :: .long p1 :: [])) rfl ?_
            refine W.lcmp hx hb dX7_wordOf_116 ?_
            refine lv_if_ne (tgt := 124) hx hb dX7_wordOf_117 (by decide) (fun c12 => ?_) (fun c12 => ?_)
            · have hf := (if_neg c12).symm.trans hf
              refine lv_lload_n hx hb dX7_wordOf_124 rfl (lv_at hl 0 rfl) ?_
              refine lv_bipush (v := 109) hx hb dX7_wordOf_125 (by decide) ?_
              refine lv_bipush (v := 111) hx hb dX7_wordOf_127 (by decide) ?_
              refine lv_bipush (v := 114) hx hb dX7_wordOf_129 (by decide) ?_
              refine lv_bipush (v := 101) hx hb dX7_wordOf_131 (by decide) ?_
              refine lv_iconst (v := 0) hx hb dX7_wordOf_133 (by decide) ?_
              obtain ⟨r13, er13, hf⟩ := ks_nm hf
              refine ke_S hE hw hl.1 cl_X7_109 [.int (109 : Int32), .int (111 : Int32), .int (114 : Int32), .int (101 : Int32), .int (0 : Int32)] (c_X7_word l D cA st ad a _ _ _ _ _ _ _ er13.symm) rfl (ke_room hRm rfl rfl) ke_cnt (Nat.le_of_ble_eq_true rfl) rfl dX7_wordOf_134 (fun H locs hw => ?_)
              refine W.eq (g2 := F0 m 137 ls (.long r13 :: .long p1 :: [])) rfl ?_
              refine W.lcmp hx hb dX7_wordOf_137 ?_
              refine lv_if_ne (tgt := 146) hx hb dX7_wordOf_138 (by decide) (fun c14 => ?_) (fun c14 => ?_)
              · have hf := (if_neg c14).symm.trans hf
                refine lv_lload_n hx hb dX7_wordOf_146 rfl (lv_at hl 0 rfl) ?_
                refine lv_bipush (v := 101) hx hb dX7_wordOf_147 (by decide) ?_
                refine lv_bipush (v := 118) hx hb dX7_wordOf_149 (by decide) ?_
                refine lv_bipush (v := 101) hx hb dX7_wordOf_151 (by decide) ?_
                refine lv_bipush (v := 110) hx hb dX7_wordOf_153 (by decide) ?_
                refine lv_iconst (v := 0) hx hb dX7_wordOf_155 (by decide) ?_
                obtain ⟨r15, er15, hf⟩ := ks_nm hf
                refine ke_S hE hw hl.1 cl_X7_109 [.int (101 : Int32), .int (118 : Int32), .int (101 : Int32), .int (110 : Int32), .int (0 : Int32)] (c_X7_word l D cA st ad a _ _ _ _ _ _ _ er15.symm) rfl (ke_room hRm rfl rfl) ke_cnt (Nat.le_of_ble_eq_true rfl) rfl dX7_wordOf_156 (fun H locs hw => ?_)
                refine W.eq (g2 := F0 m 159 ls (.long r15 :: .long p1 :: [])) rfl ?_
                refine W.lcmp hx hb dX7_wordOf_159 ?_
                refine lv_if_ne (tgt := 168) hx hb dX7_wordOf_160 (by decide) (fun c16 => ?_) (fun c16 => ?_)
                · have hf := (if_neg c16).symm.trans hf
                  refine lv_lload_n hx hb dX7_wordOf_168 rfl (lv_at hl 0 rfl) ?_
                  refine lv_bipush (v := 110) hx hb dX7_wordOf_169 (by decide) ?_
                  refine lv_bipush (v := 111) hx hb dX7_wordOf_171 (by decide) ?_
                  refine lv_bipush (v := 116) hx hb dX7_wordOf_173 (by decide) ?_
                  refine lv_iconst (v := 0) hx hb dX7_wordOf_175 (by decide) ?_
                  refine lv_iconst (v := 0) hx hb dX7_wordOf_176 (by decide) ?_
                  obtain ⟨r17, er17, hf⟩ := ks_nm hf
                  refine ke_S hE hw hl.1 cl_X7_109 [.int (110 : Int32), .int (111 : Int32), .int (116 : Int32), .int (0 : Int32), .int (0 : Int32)] (c_X7_word l D cA st ad a _ _ _ _ _ _ _ er17.symm) rfl (ke_room hRm rfl rfl) ke_cnt (Nat.le_of_ble_eq_true rfl) rfl dX7_wordOf_177 (fun H locs hw => ?_)
                  refine W.eq (g2 := F0 m 180 ls (.long r17 :: .long p1 :: [])) rfl ?_
                  refine W.lcmp hx hb dX7_wordOf_180 ?_
                  refine lv_if_ne (tgt := 189) hx hb dX7_wordOf_181 (by decide) (fun c18 => ?_) (fun c18 => ?_)
                  · have hf := (if_neg c18).symm.trans hf
                    refine lv_bipush (v := (-9)) hx hb dX7_wordOf_189 (by decide) ?_
                    subst hf
                    exact ke_iret hE hw hQ dX7_wordOf_191 rfl rfl
                  · have hf := (if_pos c18).symm.trans hf
                    refine lv_bipush (v := 8) hx hb dX7_wordOf_184 (by decide) ?_
                    refine lv_goto (tgt := 191) hx hb dX7_wordOf_186 (by decide) ?_
                    subst hf
                    exact ke_iret hE hw hQ dX7_wordOf_191 rfl rfl
                · have hf := (if_pos c16).symm.trans hf
                  refine lv_bipush (v := 7) hx hb dX7_wordOf_163 (by decide) ?_
                  refine lv_goto (tgt := 191) hx hb dX7_wordOf_165 (by decide) ?_
                  subst hf
                  exact ke_iret hE hw hQ dX7_wordOf_191 rfl rfl
              · have hf := (if_pos c14).symm.trans hf
                refine lv_bipush (v := 6) hx hb dX7_wordOf_141 (by decide) ?_
                refine lv_goto (tgt := 191) hx hb dX7_wordOf_143 (by decide) ?_
                subst hf
                exact ke_iret hE hw hQ dX7_wordOf_191 rfl rfl
            · have hf := (if_pos c12).symm.trans hf
              refine lv_iconst (v := 5) hx hb dX7_wordOf_120 (by decide) ?_
              refine lv_goto (tgt := 191) hx hb dX7_wordOf_121 (by decide) ?_
              subst hf
              exact ke_iret hE hw hQ dX7_wordOf_191 rfl rfl
          · have hf := (if_pos c10).symm.trans hf
            refine lv_iconst (v := 4) hx hb dX7_wordOf_99 (by decide) ?_
            refine lv_goto (tgt := 191) hx hb dX7_wordOf_100 (by decide) ?_
            subst hf
            exact ke_iret hE hw hQ dX7_wordOf_191 rfl rfl
        · have hf := (if_pos c8).symm.trans hf
          refine lv_iconst (v := 3) hx hb dX7_wordOf_77 (by decide) ?_
          refine lv_goto (tgt := 191) hx hb dX7_wordOf_78 (by decide) ?_
          subst hf
          exact ke_iret hE hw hQ dX7_wordOf_191 rfl rfl
      · have hf := (if_pos c6).symm.trans hf
        refine lv_iconst (v := 2) hx hb dX7_wordOf_56 (by decide) ?_
        refine lv_goto (tgt := 191) hx hb dX7_wordOf_57 (by decide) ?_
        subst hf
        exact ke_iret hE hw hQ dX7_wordOf_191 rfl rfl
    · have hf := (if_pos c4).symm.trans hf
      refine lv_iconst (v := 1) hx hb dX7_wordOf_37 (by decide) ?_
      refine lv_goto (tgt := 191) hx hb dX7_wordOf_38 (by decide) ?_
      subst hf
      exact ke_iret hE hw hQ dX7_wordOf_191 rfl rfl
  · have hf := (if_pos c2).symm.trans hf
    refine lv_iconst (v := 0) hx hb dX7_wordOf_16 (by decide) ?_
    refine lv_goto (tgt := 191) hx hb dX7_wordOf_17 (by decide) ?_
    subst hf
    exact ke_iret hE hw hQ dX7_wordOf_191 rfl rfl
def fX7_advances_350  (τ : Tau) (z_0 : Int32) : Option Tau :=
 (if z_0 = 0 then
     nm (sI τ 0 8 (4 : Int32)) (fun t51 =>
     some t51)
     else
     nm (sI τ 0 8 (3 : Int32)) (fun t52 =>
     some t52))
def fX7_advances_345  (τ : Tau) : Option Tau :=
 fX7_advances_350 τ (1 : Int32)
def fX7_advances_241 (k187 : Tau → Int32 → Int32 → Option Tau) (τ : Tau) (x_1 : Int32) (x_2 : Int32) (z_0 : Int32) : Option Tau :=
 nm (sI τ 0 10 z_0) (fun t47 =>
     nm (x_2 + (1 : Int32)) (fun x48 =>
     nm (sI t47 0 7 (tI t47 0 7 + (1 : Int32))) (fun t49 =>
     k187 t49 x_1 x48)))
def fX7_advances_187  : Nat → Tau → Int32 → Int32 → Option Tau
  | 0, _, _, _ => none
  | n + 1, τ, x_1, x_2 =>
     Option.bind (fX7_byteAt τ (tI τ 0 7)) (fun r37 =>
     nm (fX7_in r37 (48 : Int32) (57 : Int32)) (fun r38 =>
     (if bI r38 = 0 then
     (if x_1 = (48 : Int32) then
     (if x_2 ≤ (1 : Int32) then
     nm (sI τ 0 8 (2 : Int32)) (fun t43 =>
     some t43)
     else
     nm (sI τ 0 8 (4 : Int32)) (fun t44 =>
     some t44))
     else
     nm (sI τ 0 8 (2 : Int32)) (fun t41 =>
     some t41))
     else
     (if tI τ 0 10 ≤ (99 : Int32) then
     Option.bind (fX7_byteAt τ (tI τ 0 7)) (fun r46 =>
     fX7_advances_241 (fX7_advances_187 n) τ x_1 x_2 ((((10 : Int32) * tI τ 0 10) + r46) - (48 : Int32)))
     else
     fX7_advances_241 (fX7_advances_187 n) τ x_1 x_2 (tI τ 0 10)))))
def fX7_advances_145  (τ : Tau) (z_0 : Int32) : Option Tau :=
 nm (sI τ 0 10 z_0) (fun t33 =>
    (if tI t33 0 10 = (-9 : Int32) then
     nm (sI t33 0 8 (4 : Int32)) (fun t36 =>
     some t36)
     else
     nm (sI t33 0 8 (1 : Int32)) (fun t35 =>
     some t35)))
def fX7_advances_111 (k71 : Tau → Int64 → Int32 → Option Tau) (τ : Tau) (x_4 : Int32) (z_0 : Int64) : Option Tau :=
 nm (x_4 + (1 : Int32)) (fun x31 =>
     nm (sI τ 0 7 (tI τ 0 7 + (1 : Int32))) (fun t32 =>
     k71 t32 z_0 x31))
def fX7_advances_71  : Nat → Tau → Int64 → Int32 → Option Tau
  | 0, _, _, _ => none
  | n + 1, τ, x_2, x_4 =>
     Option.bind (fX7_byteAt τ (tI τ 0 7)) (fun r23 =>
     nm (fX7_in r23 (97 : Int32) (122 : Int32)) (fun r24 =>
     (if bI r24 = 0 then
     (if (6 : Int32) ≤ x_4 then
     fX7_advances_145 τ (-9 : Int32)
     else
     nm (fX7_wordOf x_2) (fun r27 =>
     fX7_advances_145 τ r27))
     else
     (if (5 : Int32) ≤ x_4 then
     fX7_advances_111 (fX7_advances_71 n) τ x_4 x_2
     else
     Option.bind (fX7_byteAt τ (tI τ 0 7)) (fun r29 =>
     nm (fX7_add x_2 r29) (fun r30 =>
     fX7_advances_111 (fX7_advances_71 n) τ x_4 r30))))))
def fX7_advances_0  : Nat → Tau → Option Tau
  | 0, _ => none
  | n + 1, τ =>
     Option.bind (fX7_byteAt τ (tI τ 0 7)) (fun r1 =>
     (if r1 = (32 : Int32) then
     nm (sI τ 0 7 (tI τ 0 7 + (1 : Int32))) (fun t22 =>
     fX7_advances_0 n t22)
     else
     nm (sI τ 0 9 (tI τ 0 7)) (fun t3 =>
     Option.bind (fX7_byteAt t3 (tI t3 0 7)) (fun r4 =>
     (if 0 ≤ r4 then
     nm (fX7_in r4 (97 : Int32) (122 : Int32)) (fun r6 =>
     (if bI r6 = 0 then
     nm (fX7_in r4 (48 : Int32) (57 : Int32)) (fun r8 =>
     (if bI r8 = 0 then
     nm (sI t3 0 10 r4) (fun t10 =>
     nm (sI t10 0 7 (tI t10 0 7 + (1 : Int32))) (fun t11 =>
     nm (fX7_in r4 (65 : Int32) (68 : Int32)) (fun r12 =>
     (if bI r12 = 0 then
     (if r4 = (58 : Int32) then
     fX7_advances_345 t11
     else
     (if r4 = (124 : Int32) then
     fX7_advances_345 t11
     else
     (if r4 = (38 : Int32) then
     fX7_advances_345 t11
     else
     (if r4 = (33 : Int32) then
     fX7_advances_345 t11
     else
     (if r4 = (40 : Int32) then
     fX7_advances_345 t11
     else
     (if r4 = (41 : Int32) then
     fX7_advances_345 t11
     else
     fX7_advances_350 t11 (0 : Int32)))))))
     else
     fX7_advances_345 t11))))
     else
     nm (sI t3 0 10 (0 : Int32)) (fun t20 =>
     fX7_advances_187 FU t20 r4 (0 : Int32))))
     else
     fX7_advances_71 FU t3 (0 : Int64) (0 : Int32)))
     else
     nm (sI t3 0 8 (0 : Int32)) (fun t21 =>
     some t21))))))
def fX7_advances  (τ : Tau) : Option Tau :=
 fX7_advances_0 FU τ
set_option maxHeartbeats 4000000 in
set_option maxRecDepth 100000 in
theorem c_X7_advances (l : Launch) (D : va_G) (cA : Nat → ClassId) (st ad : Nat → Nat) (a : Nat)  (τ : Tau) (R : Tau) (hf : fX7_advances τ = some R) : KE ΛM 12 D cA st ad l yX7_advances cX7_advances 5 none 3 67 [.ref (adr ad a 0)] a τ (none) R := by
  refine KE.of "KindSayingsModel" rfl (by decide) (Nat.le_of_ble_eq_true rfl) (fun p e s m args below meth c A ls Rm Q hE hRm hQ hw hl => ?_)
  obtain ⟨hx, hb, hml, hown, hts, -⟩ := id hE
  have hl : lv_has ls 5 [(0, .ref (adr ad a 0))] := hl
  have L350 : ∀ (τ : Tau) (z_0 : Int32) (H : Heap) (locs : List Loc) (ls : Array Slot), fX7_advances_350 τ z_0 = some R → Wd ΛM 12 D cA ad A s a τ H locs → lv_has ls 5 [(0, .ref (adr ad a 0))] → W p l e Rm s m args below meth c H locs 0 0 Q (F0 m 350 ls [.int z_0]) := by
    intro τ z_0 H locs ls hf hw hl
    unfold fX7_advances_350 at hf
    refine lv_istore_n (lv' := [(2, .int z_0), (0, .ref (adr ad a 0))]) hx hb dX7_advances_350 rfl hl (by decide) rfl (fun ls hl => ?_)
    refine lv_aload_n hx hb dX7_advances_351 rfl (lv_at hl 1 rfl) ?_
    refine lv_iload_n hx hb dX7_advances_352 rfl (lv_at hl 0 rfl) ?_
    refine lv_if_eq (tgt := 360) hx hb dX7_advances_353 (by decide) (fun c50 => ?_) (fun c50 => ?_)
    · have hf := (if_pos c50).symm.trans hf
      refine lv_iconst (v := 4) hx hb dX7_advances_360 (by decide) ?_
      obtain ⟨t51, et51, hf⟩ := ks_nm hf
      refine ks_putI hE hw 0 8 ltM_0 lyM_0 rfl fw_X7_122 rfl rfl dX7_advances_361 (fun H locs hw => ?_)
      rw [← et51] at hw
      replace hf := Option.some.inj hf
      subst hf
      exact ke_vret hE hw hQ dX7_advances_364 rfl
    · have hf := (if_neg c50).symm.trans hf
      refine lv_iconst (v := 3) hx hb dX7_advances_356 (by decide) ?_
      refine lv_goto (tgt := 361) hx hb dX7_advances_357 (by decide) ?_
      obtain ⟨t52, et52, hf⟩ := ks_nm hf
      refine ks_putI hE hw 0 8 ltM_0 lyM_0 rfl fw_X7_122 rfl rfl dX7_advances_361 (fun H locs hw => ?_)
      rw [← et52] at hw
      replace hf := Option.some.inj hf
      subst hf
      exact ke_vret hE hw hQ dX7_advances_364 rfl
  have L345 : ∀ (τ : Tau) (H : Heap) (locs : List Loc) (ls : Array Slot), fX7_advances_345 τ = some R → Wd ΛM 12 D cA ad A s a τ H locs → lv_has ls 5 [(0, .ref (adr ad a 0))] → W p l e Rm s m args below meth c H locs 0 0 Q (F0 m 345 ls []) := by
    intro τ H locs ls hf hw hl
    unfold fX7_advances_345 at hf
    refine lv_iconst (v := 1) hx hb dX7_advances_345 (by decide) ?_
    refine lv_goto (tgt := 350) hx hb dX7_advances_346 (by decide) ?_
    exact L350 _ _ _ _ _ hf hw (lv_sub hl [0] rfl)
  have L187 : ∀ (n187 : Nat) (τ : Tau) (x_1 : Int32) (x_2 : Int32) (H : Heap) (locs : List Loc) (ls : Array Slot), fX7_advances_187 n187 τ x_1 x_2 = some R → Wd ΛM 12 D cA ad A s a τ H locs → lv_has ls 5 [(0, .ref (adr ad a 0)), (1, .int x_1), (2, .int x_2)] → W p l e Rm s m args below meth c H locs 0 0 Q (F0 m 187 ls []) := by
    intro n187
    induction n187 with
    | zero => intro τ x_1 x_2 H locs ls hf hw hl; exact absurd hf (by rw [fX7_advances_187]; simp)
    | succ n187 ih187 =>
      have L241 : ∀ (τ : Tau) (x_1 : Int32) (x_2 : Int32) (z_0 : Int32) (H : Heap) (locs : List Loc) (ls : Array Slot), fX7_advances_241 (fX7_advances_187 n187) τ x_1 x_2 z_0 = some R → Wd ΛM 12 D cA ad A s a τ H locs → lv_has ls 5 [(0, .ref (adr ad a 0)), (1, .int x_1), (2, .int x_2)] → W p l e Rm s m args below meth c H locs 0 0 Q (F0 m 241 ls [.int z_0, .ref (adr ad a 0)]) := by
        intro τ x_1 x_2 z_0 H locs ls hf hw hl
        unfold fX7_advances_241 at hf
        obtain ⟨t47, et47, hf⟩ := ks_nm hf
        refine ks_putI hE hw 0 10 ltM_0 lyM_0 rfl fw_X7_129 rfl rfl dX7_advances_241 (fun H locs hw => ?_)
        rw [← et47] at hw
        obtain ⟨x48, ex48, hf⟩ := ks_nm hf
        refine lv_iinc (v := x48) (lv' := [(2, .int x48), (0, .ref (adr ad a 0)), (1, .int x_1)]) hx hb dX7_advances_244 hl (k := 2) rfl (by rw [ex48]; rfl) (by decide) rfl (fun ls hl => ?_)
        refine lv_aload_n hx hb dX7_advances_247 rfl (lv_at hl 1 rfl) ?_
        refine lv_dup hx hb dX7_advances_248 rfl ?_
        refine ks_getI hE hw 0 7 ltM_0 lyM_0 rfl fd_X7_113 dX7_advances_249 ?_
        refine lv_iconst (v := 1) hx hb dX7_advances_252 (by decide) ?_
        refine lv_iadd hx hb dX7_advances_253 ?_
        obtain ⟨t49, et49, hf⟩ := ks_nm hf
        refine ks_putI hE hw 0 7 ltM_0 lyM_0 rfl fw_X7_113 rfl rfl dX7_advances_254 (fun H locs hw => ?_)
        rw [← et49] at hw
        refine lv_goto (tgt := 187) hx hb dX7_advances_257 (by decide) ?_
        exact ih187 _ _ _ _ _ _ hf hw (lv_sub hl [1, 2, 0] rfl)
      intro τ x_1 x_2 H locs ls hf hw hl
      rw [fX7_advances_187] at hf
      refine lv_aload_n hx hb dX7_advances_187 rfl (lv_at hl 0 rfl) ?_
      refine lv_aload_n hx hb dX7_advances_188 rfl (lv_at hl 0 rfl) ?_
      refine ks_getI hE hw 0 7 ltM_0 lyM_0 rfl fd_X7_113 dX7_advances_189 ?_
      obtain ⟨r37, er37, hf⟩ := ks_bind hf
      refine ke_V hE hw hl.1 cl_X7_116 0 ltM_0 lyM_0 rfl [.int (tI τ 0 7)] (c_X7_byteAt l D cA st ad a _ _ _ er37) rfl (ke_room hRm rfl rfl) ke_cnt (Nat.le_of_ble_eq_true rfl) rfl dX7_advances_192 (fun H locs hw => ?_)
      refine W.eq (g2 := F0 m 195 ls (.int r37 :: [])) rfl ?_
      refine lv_bipush (v := 48) hx hb dX7_advances_195 (by decide) ?_
      refine lv_bipush (v := 57) hx hb dX7_advances_197 (by decide) ?_
      obtain ⟨r38, er38, hf⟩ := ks_nm hf
      refine ke_S hE hw hl.1 cl_X7_72 [.int r37, .int (48 : Int32), .int (57 : Int32)] (c_X7_in l D cA st ad a _ _ _ _ _ er38.symm) rfl (ke_room hRm rfl rfl) ke_cnt (Nat.le_of_ble_eq_true rfl) rfl dX7_advances_199 (fun H locs hw => ?_)
      refine W.eq (g2 := F0 m 202 ls (.int (bI r38) :: [])) rfl ?_
      refine lv_if_eq (tgt := 260) hx hb dX7_advances_202 (by decide) (fun c39 => ?_) (fun c39 => ?_)
      · have hf := (if_pos c39).symm.trans hf
        refine lv_aload_n hx hb dX7_advances_260 rfl (lv_at hl 0 rfl) ?_
        refine lv_iload_n hx hb dX7_advances_261 rfl (lv_at hl 1 rfl) ?_
        refine lv_bipush (v := 48) hx hb dX7_advances_262 (by decide) ?_
        refine lv_icmp_ne (tgt := 276) hx hb dX7_advances_264 (by decide) (fun c40 => ?_) (fun c40 => ?_)
        · have hf := (if_neg c40).symm.trans hf
          refine lv_iconst (v := 2) hx hb dX7_advances_276 (by decide) ?_
          obtain ⟨t41, et41, hf⟩ := ks_nm hf
          refine ks_putI hE hw 0 8 ltM_0 lyM_0 rfl fw_X7_122 rfl rfl dX7_advances_277 (fun H locs hw => ?_)
          rw [← et41] at hw
          refine lv_goto (tgt := 364) hx hb dX7_advances_280 (by decide) ?_
          replace hf := Option.some.inj hf
          subst hf
          exact ke_vret hE hw hQ dX7_advances_364 rfl
        · have hf := (if_pos c40).symm.trans hf
          refine lv_iload_n hx hb dX7_advances_267 rfl (lv_at hl 2 rfl) ?_
          refine lv_iconst (v := 1) hx hb dX7_advances_268 (by decide) ?_
          refine lv_icmp_le (tgt := 276) hx hb dX7_advances_269 (by decide) (fun c42 => ?_) (fun c42 => ?_)
          · have hf := (if_pos c42).symm.trans hf
            refine lv_iconst (v := 2) hx hb dX7_advances_276 (by decide) ?_
            obtain ⟨t43, et43, hf⟩ := ks_nm hf
            refine ks_putI hE hw 0 8 ltM_0 lyM_0 rfl fw_X7_122 rfl rfl dX7_advances_277 (fun H locs hw => ?_)
            rw [← et43] at hw
            refine lv_goto (tgt := 364) hx hb dX7_advances_280 (by decide) ?_
            replace hf := Option.some.inj hf
            subst hf
            exact ke_vret hE hw hQ dX7_advances_364 rfl
          · have hf := (if_neg c42).symm.trans hf
            refine lv_iconst (v := 4) hx hb dX7_advances_272 (by decide) ?_
            refine lv_goto (tgt := 277) hx hb dX7_advances_273 (by decide) ?_
            obtain ⟨t44, et44, hf⟩ := ks_nm hf
            refine ks_putI hE hw 0 8 ltM_0 lyM_0 rfl fw_X7_122 rfl rfl dX7_advances_277 (fun H locs hw => ?_)
            rw [← et44] at hw
            refine lv_goto (tgt := 364) hx hb dX7_advances_280 (by decide) ?_
            replace hf := Option.some.inj hf
            subst hf
            exact ke_vret hE hw hQ dX7_advances_364 rfl
      · have hf := (if_neg c39).symm.trans hf
        refine lv_aload_n hx hb dX7_advances_205 rfl (lv_at hl 0 rfl) ?_
        refine lv_aload_n hx hb dX7_advances_206 rfl (lv_at hl 0 rfl) ?_
        refine ks_getI hE hw 0 10 ltM_0 lyM_0 rfl fd_X7_129 dX7_advances_207 ?_
        refine lv_bipush (v := 99) hx hb dX7_advances_210 (by decide) ?_
        refine lv_icmp_le (tgt := 222) hx hb dX7_advances_212 (by decide) (fun c45 => ?_) (fun c45 => ?_)
        · have hf := (if_pos c45).symm.trans hf
          refine lv_bipush (v := 10) hx hb dX7_advances_222 (by decide) ?_
          refine lv_aload_n hx hb dX7_advances_224 rfl (lv_at hl 0 rfl) ?_
          refine ks_getI hE hw 0 10 ltM_0 lyM_0 rfl fd_X7_129 dX7_advances_225 ?_
          refine lv_imul hx hb dX7_advances_228 ?_
          refine lv_aload_n hx hb dX7_advances_229 rfl (lv_at hl 0 rfl) ?_
          refine lv_aload_n hx hb dX7_advances_230 rfl (lv_at hl 0 rfl) ?_
          refine ks_getI hE hw 0 7 ltM_0 lyM_0 rfl fd_X7_113 dX7_advances_231 ?_
          obtain ⟨r46, er46, hf⟩ := ks_bind hf
          refine ke_V hE hw hl.1 cl_X7_116 0 ltM_0 lyM_0 rfl [.int (tI τ 0 7)] (c_X7_byteAt l D cA st ad a _ _ _ er46) rfl (ke_room hRm rfl rfl) ke_cnt (Nat.le_of_ble_eq_true rfl) rfl dX7_advances_234 (fun H locs hw => ?_)
          refine W.eq (g2 := F0 m 237 ls (.int r46 :: .int ((10 : Int32) * tI τ 0 10) :: .ref (adr ad a 0) :: [])) rfl ?_
          refine lv_iadd hx hb dX7_advances_237 ?_
          refine lv_bipush (v := 48) hx hb dX7_advances_238 (by decide) ?_
          refine lv_isub hx hb dX7_advances_240 ?_
          exact L241 _ _ _ _ _ _ _ hf hw (lv_sub hl [0, 1, 2] rfl)
        · have hf := (if_neg c45).symm.trans hf
          refine lv_aload_n hx hb dX7_advances_215 rfl (lv_at hl 0 rfl) ?_
          refine ks_getI hE hw 0 10 ltM_0 lyM_0 rfl fd_X7_129 dX7_advances_216 ?_
          refine lv_goto (tgt := 241) hx hb dX7_advances_219 (by decide) ?_
          exact L241 _ _ _ _ _ _ _ hf hw (lv_sub hl [0, 1, 2] rfl)
  have L145 : ∀ (τ : Tau) (z_0 : Int32) (H : Heap) (locs : List Loc) (ls : Array Slot), fX7_advances_145 τ z_0 = some R → Wd ΛM 12 D cA ad A s a τ H locs → lv_has ls 5 [(0, .ref (adr ad a 0))] → W p l e Rm s m args below meth c H locs 0 0 Q (F0 m 145 ls [.int z_0, .ref (adr ad a 0)]) := by
    intro τ z_0 H locs ls hf hw hl
    unfold fX7_advances_145 at hf
    obtain ⟨t33, et33, hf⟩ := ks_nm hf
    refine ks_putI hE hw 0 10 ltM_0 lyM_0 rfl fw_X7_129 rfl rfl dX7_advances_145 (fun H locs hw => ?_)
    rw [← et33] at hw
    refine lv_aload_n hx hb dX7_advances_148 rfl (lv_at hl 0 rfl) ?_
    refine lv_aload_n hx hb dX7_advances_149 rfl (lv_at hl 0 rfl) ?_
    refine ks_getI hE hw 0 10 ltM_0 lyM_0 rfl fd_X7_129 dX7_advances_150 ?_
    refine lv_bipush (v := (-9)) hx hb dX7_advances_153 (by decide) ?_
    refine lv_icmp_ne (tgt := 162) hx hb dX7_advances_155 (by decide) (fun c34 => ?_) (fun c34 => ?_)
    · have hf := (if_neg c34).symm.trans hf
      refine lv_iconst (v := 1) hx hb dX7_advances_162 (by decide) ?_
      obtain ⟨t35, et35, hf⟩ := ks_nm hf
      refine ks_putI hE hw 0 8 ltM_0 lyM_0 rfl fw_X7_122 rfl rfl dX7_advances_163 (fun H locs hw => ?_)
      rw [← et35] at hw
      refine lv_goto (tgt := 364) hx hb dX7_advances_166 (by decide) ?_
      replace hf := Option.some.inj hf
      subst hf
      exact ke_vret hE hw hQ dX7_advances_364 rfl
    · have hf := (if_pos c34).symm.trans hf
      refine lv_iconst (v := 4) hx hb dX7_advances_158 (by decide) ?_
      refine lv_goto (tgt := 163) hx hb dX7_advances_159 (by decide) ?_
      obtain ⟨t36, et36, hf⟩ := ks_nm hf
      refine ks_putI hE hw 0 8 ltM_0 lyM_0 rfl fw_X7_122 rfl rfl dX7_advances_163 (fun H locs hw => ?_)
      rw [← et36] at hw
      refine lv_goto (tgt := 364) hx hb dX7_advances_166 (by decide) ?_
      replace hf := Option.some.inj hf
      subst hf
      exact ke_vret hE hw hQ dX7_advances_364 rfl
  have L71 : ∀ (n71 : Nat) (τ : Tau) (x_2 : Int64) (x_4 : Int32) (H : Heap) (locs : List Loc) (ls : Array Slot), fX7_advances_71 n71 τ x_2 x_4 = some R → Wd ΛM 12 D cA ad A s a τ H locs → lv_has ls 5 [(0, .ref (adr ad a 0)), (2, .long x_2), (4, .int x_4)] → W p l e Rm s m args below meth c H locs 0 0 Q (F0 m 71 ls []) := by
    intro n71
    induction n71 with
    | zero => intro τ x_2 x_4 H locs ls hf hw hl; exact absurd hf (by rw [fX7_advances_71]; simp)
    | succ n71 ih71 =>
      have L111 : ∀ (τ : Tau) (x_4 : Int32) (z_0 : Int64) (H : Heap) (locs : List Loc) (ls : Array Slot), fX7_advances_111 (fX7_advances_71 n71) τ x_4 z_0 = some R → Wd ΛM 12 D cA ad A s a τ H locs → lv_has ls 5 [(0, .ref (adr ad a 0)), (4, .int x_4)] → W p l e Rm s m args below meth c H locs 0 0 Q (F0 m 111 ls [.long z_0]) := by
        intro τ x_4 z_0 H locs ls hf hw hl
        unfold fX7_advances_111 at hf
        refine lv_lstore_n (lv' := [(2, .long z_0), (0, .ref (adr ad a 0)), (4, .int x_4)]) hx hb dX7_advances_111 rfl hl (by decide) rfl (fun ls hl => ?_)
        obtain ⟨x31, ex31, hf⟩ := ks_nm hf
        refine lv_iinc (v := x31) (lv' := [(4, .int x31), (2, .long z_0), (0, .ref (adr ad a 0))]) hx hb dX7_advances_112 hl (k := 2) rfl (by rw [ex31]; rfl) (by decide) rfl (fun ls hl => ?_)
        refine lv_aload_n hx hb dX7_advances_115 rfl (lv_at hl 2 rfl) ?_
        refine lv_dup hx hb dX7_advances_116 rfl ?_
        refine ks_getI hE hw 0 7 ltM_0 lyM_0 rfl fd_X7_113 dX7_advances_117 ?_
        refine lv_iconst (v := 1) hx hb dX7_advances_120 (by decide) ?_
        refine lv_iadd hx hb dX7_advances_121 ?_
        obtain ⟨t32, et32, hf⟩ := ks_nm hf
        refine ks_putI hE hw 0 7 ltM_0 lyM_0 rfl fw_X7_113 rfl rfl dX7_advances_122 (fun H locs hw => ?_)
        rw [← et32] at hw
        refine lv_goto (tgt := 71) hx hb dX7_advances_125 (by decide) ?_
        exact ih71 _ _ _ _ _ _ hf hw (lv_sub hl [2, 1, 0] rfl)
      intro τ x_2 x_4 H locs ls hf hw hl
      rw [fX7_advances_71] at hf
      refine lv_aload_n hx hb dX7_advances_71 rfl (lv_at hl 0 rfl) ?_
      refine lv_aload_n hx hb dX7_advances_72 rfl (lv_at hl 0 rfl) ?_
      refine ks_getI hE hw 0 7 ltM_0 lyM_0 rfl fd_X7_113 dX7_advances_73 ?_
      obtain ⟨r23, er23, hf⟩ := ks_bind hf
      refine ke_V hE hw hl.1 cl_X7_116 0 ltM_0 lyM_0 rfl [.int (tI τ 0 7)] (c_X7_byteAt l D cA st ad a _ _ _ er23) rfl (ke_room hRm rfl rfl) ke_cnt (Nat.le_of_ble_eq_true rfl) rfl dX7_advances_76 (fun H locs hw => ?_)
      refine W.eq (g2 := F0 m 79 ls (.int r23 :: [])) rfl ?_
      refine lv_bipush (v := 97) hx hb dX7_advances_79 (by decide) ?_
      refine lv_bipush (v := 122) hx hb dX7_advances_81 (by decide) ?_
      obtain ⟨r24, er24, hf⟩ := ks_nm hf
      refine ke_S hE hw hl.1 cl_X7_72 [.int r23, .int (97 : Int32), .int (122 : Int32)] (c_X7_in l D cA st ad a _ _ _ _ _ er24.symm) rfl (ke_room hRm rfl rfl) ke_cnt (Nat.le_of_ble_eq_true rfl) rfl dX7_advances_83 (fun H locs hw => ?_)
      refine W.eq (g2 := F0 m 86 ls (.int (bI r24) :: [])) rfl ?_
      refine lv_if_eq (tgt := 128) hx hb dX7_advances_86 (by decide) (fun c25 => ?_) (fun c25 => ?_)
      · have hf := (if_pos c25).symm.trans hf
        refine lv_aload_n hx hb dX7_advances_128 rfl (lv_at hl 0 rfl) ?_
        refine lv_iload hx hb dX7_advances_129 (lv_at hl 2 rfl) ?_
        refine lv_bipush (v := 6) hx hb dX7_advances_131 (by decide) ?_
        refine lv_icmp_ge (tgt := 143) hx hb dX7_advances_133 (by decide) (fun c26 => ?_) (fun c26 => ?_)
        · have hf := (if_pos c26).symm.trans hf
          refine lv_bipush (v := (-9)) hx hb dX7_advances_143 (by decide) ?_
          exact L145 _ _ _ _ _ hf hw (lv_sub hl [0] rfl)
        · have hf := (if_neg c26).symm.trans hf
          refine lv_lload_n hx hb dX7_advances_136 rfl (lv_at hl 1 rfl) ?_
          obtain ⟨r27, er27, hf⟩ := ks_nm hf
          refine ke_S hE hw hl.1 cl_X7_125 [.long x_2] (c_X7_wordOf l D cA st ad a _ _ _ er27.symm) rfl (ke_room hRm rfl rfl) ke_cnt (Nat.le_of_ble_eq_true rfl) rfl dX7_advances_137 (fun H locs hw => ?_)
          refine W.eq (g2 := F0 m 140 ls (.int r27 :: .ref (adr ad a 0) :: [])) rfl ?_
          refine lv_goto (tgt := 145) hx hb dX7_advances_140 (by decide) ?_
          exact L145 _ _ _ _ _ hf hw (lv_sub hl [0] rfl)
      · have hf := (if_neg c25).symm.trans hf
        refine lv_iload hx hb dX7_advances_89 (lv_at hl 2 rfl) ?_
        refine lv_iconst (v := 5) hx hb dX7_advances_91 (by decide) ?_
        refine lv_icmp_ge (tgt := 110) hx hb dX7_advances_92 (by decide) (fun c28 => ?_) (fun c28 => ?_)
        · have hf := (if_pos c28).symm.trans hf
          refine lv_lload_n hx hb dX7_advances_110 rfl (lv_at hl 1 rfl) ?_
          exact L111 _ _ _ _ _ _ hf hw (lv_sub hl [0, 2] rfl)
        · have hf := (if_neg c28).symm.trans hf
          refine lv_lload_n hx hb dX7_advances_95 rfl (lv_at hl 1 rfl) ?_
          refine lv_aload_n hx hb dX7_advances_96 rfl (lv_at hl 0 rfl) ?_
          refine lv_aload_n hx hb dX7_advances_97 rfl (lv_at hl 0 rfl) ?_
          refine ks_getI hE hw 0 7 ltM_0 lyM_0 rfl fd_X7_113 dX7_advances_98 ?_
          obtain ⟨r29, er29, hf⟩ := ks_bind hf
          refine ke_V hE hw hl.1 cl_X7_116 0 ltM_0 lyM_0 rfl [.int (tI τ 0 7)] (c_X7_byteAt l D cA st ad a _ _ _ er29) rfl (ke_room hRm rfl rfl) ke_cnt (Nat.le_of_ble_eq_true rfl) rfl dX7_advances_101 (fun H locs hw => ?_)
          refine W.eq (g2 := F0 m 104 ls (.int r29 :: .long x_2 :: [])) rfl ?_
          obtain ⟨r30, er30, hf⟩ := ks_nm hf
          refine ke_S hE hw hl.1 cl_X7_105 [.long x_2, .int r29] (c_X7_add l D cA st ad a _ _ _ _ er30.symm) rfl (ke_room hRm rfl rfl) ke_cnt (Nat.le_of_ble_eq_true rfl) rfl dX7_advances_104 (fun H locs hw => ?_)
          refine W.eq (g2 := F0 m 107 ls (.long r30 :: [])) rfl ?_
          refine lv_goto (tgt := 111) hx hb dX7_advances_107 (by decide) ?_
          exact L111 _ _ _ _ _ _ hf hw (lv_sub hl [0, 2] rfl)
  have L0 : ∀ (n0 : Nat) (τ : Tau) (H : Heap) (locs : List Loc) (ls : Array Slot), fX7_advances_0 n0 τ = some R → Wd ΛM 12 D cA ad A s a τ H locs → lv_has ls 5 [(0, .ref (adr ad a 0))] → W p l e Rm s m args below meth c H locs 0 0 Q (F0 m 0 ls []) := by
    intro n0
    induction n0 with
    | zero => intro τ H locs ls hf hw hl; exact absurd hf (by rw [fX7_advances_0]; simp)
    | succ n0 ih0 =>
      intro τ H locs ls hf hw hl
      rw [fX7_advances_0] at hf
      refine lv_aload_n hx hb dX7_advances_0 rfl (lv_at hl 0 rfl) ?_
      refine lv_aload_n hx hb dX7_advances_1 rfl (lv_at hl 0 rfl) ?_
      refine ks_getI hE hw 0 7 ltM_0 lyM_0 rfl fd_X7_113 dX7_advances_2 ?_
      obtain ⟨r1, er1, hf⟩ := ks_bind hf
      refine ke_V hE hw hl.1 cl_X7_116 0 ltM_0 lyM_0 rfl [.int (tI τ 0 7)] (c_X7_byteAt l D cA st ad a _ _ _ er1) rfl (ke_room hRm rfl rfl) ke_cnt (Nat.le_of_ble_eq_true rfl) rfl dX7_advances_5 (fun H locs hw => ?_)
      refine W.eq (g2 := F0 m 8 ls (.int r1 :: [])) rfl ?_
      refine lv_bipush (v := 32) hx hb dX7_advances_8 (by decide) ?_
      refine lv_icmp_ne (tgt := 26) hx hb dX7_advances_10 (by decide) (fun c2 => ?_) (fun c2 => ?_)
      · have hf := (if_neg c2).symm.trans hf
        refine lv_aload_n hx hb dX7_advances_26 rfl (lv_at hl 0 rfl) ?_
        refine lv_aload_n hx hb dX7_advances_27 rfl (lv_at hl 0 rfl) ?_
        refine ks_getI hE hw 0 7 ltM_0 lyM_0 rfl fd_X7_113 dX7_advances_28 ?_
        obtain ⟨t3, et3, hf⟩ := ks_nm hf
        refine ks_putI hE hw 0 9 ltM_0 lyM_0 rfl fw_X7_119 rfl rfl dX7_advances_31 (fun H locs hw => ?_)
        rw [← et3] at hw
        refine lv_aload_n hx hb dX7_advances_34 rfl (lv_at hl 0 rfl) ?_
        refine lv_aload_n hx hb dX7_advances_35 rfl (lv_at hl 0 rfl) ?_
        refine ks_getI hE hw 0 7 ltM_0 lyM_0 rfl fd_X7_113 dX7_advances_36 ?_
        obtain ⟨r4, er4, hf⟩ := ks_bind hf
        refine ke_V hE hw hl.1 cl_X7_116 0 ltM_0 lyM_0 rfl [.int (tI t3 0 7)] (c_X7_byteAt l D cA st ad a _ _ _ er4) rfl (ke_room hRm rfl rfl) ke_cnt (Nat.le_of_ble_eq_true rfl) rfl dX7_advances_39 (fun H locs hw => ?_)
        refine W.eq (g2 := F0 m 42 ls (.int r4 :: [])) rfl ?_
        refine lv_istore_n (lv' := [(1, .int r4), (0, .ref (adr ad a 0))]) hx hb dX7_advances_42 rfl hl (by decide) rfl (fun ls hl => ?_)
        refine lv_iload_n hx hb dX7_advances_43 rfl (lv_at hl 0 rfl) ?_
        refine lv_if_ge (tgt := 55) hx hb dX7_advances_44 (by decide) (fun c5 => ?_) (fun c5 => ?_)
        · have hf := (if_pos c5).symm.trans hf
          refine lv_iload_n hx hb dX7_advances_55 rfl (lv_at hl 0 rfl) ?_
          refine lv_bipush (v := 97) hx hb dX7_advances_56 (by decide) ?_
          refine lv_bipush (v := 122) hx hb dX7_advances_58 (by decide) ?_
          obtain ⟨r6, er6, hf⟩ := ks_nm hf
          refine ke_S hE hw hl.1 cl_X7_72 [.int r4, .int (97 : Int32), .int (122 : Int32)] (c_X7_in l D cA st ad a _ _ _ _ _ er6.symm) rfl (ke_room hRm rfl rfl) ke_cnt (Nat.le_of_ble_eq_true rfl) rfl dX7_advances_60 (fun H locs hw => ?_)
          refine W.eq (g2 := F0 m 63 ls (.int (bI r6) :: [])) rfl ?_
          refine lv_if_eq (tgt := 169) hx hb dX7_advances_63 (by decide) (fun c7 => ?_) (fun c7 => ?_)
          · have hf := (if_pos c7).symm.trans hf
            refine lv_iload_n hx hb dX7_advances_169 rfl (lv_at hl 0 rfl) ?_
            refine lv_bipush (v := 48) hx hb dX7_advances_170 (by decide) ?_
            refine lv_bipush (v := 57) hx hb dX7_advances_172 (by decide) ?_
            obtain ⟨r8, er8, hf⟩ := ks_nm hf
            refine ke_S hE hw hl.1 cl_X7_72 [.int r4, .int (48 : Int32), .int (57 : Int32)] (c_X7_in l D cA st ad a _ _ _ _ _ er8.symm) rfl (ke_room hRm rfl rfl) ke_cnt (Nat.le_of_ble_eq_true rfl) rfl dX7_advances_174 (fun H locs hw => ?_)
            refine W.eq (g2 := F0 m 177 ls (.int (bI r8) :: [])) rfl ?_
            refine lv_if_eq (tgt := 283) hx hb dX7_advances_177 (by decide) (fun c9 => ?_) (fun c9 => ?_)
            · have hf := (if_pos c9).symm.trans hf
              refine lv_aload_n hx hb dX7_advances_283 rfl (lv_at hl 1 rfl) ?_
              refine lv_iload_n hx hb dX7_advances_284 rfl (lv_at hl 0 rfl) ?_
              obtain ⟨t10, et10, hf⟩ := ks_nm hf
              refine ks_putI hE hw 0 10 ltM_0 lyM_0 rfl fw_X7_129 rfl rfl dX7_advances_285 (fun H locs hw => ?_)
              rw [← et10] at hw
              refine lv_aload_n hx hb dX7_advances_288 rfl (lv_at hl 1 rfl) ?_
              refine lv_dup hx hb dX7_advances_289 rfl ?_
              refine ks_getI hE hw 0 7 ltM_0 lyM_0 rfl fd_X7_113 dX7_advances_290 ?_
              refine lv_iconst (v := 1) hx hb dX7_advances_293 (by decide) ?_
              refine lv_iadd hx hb dX7_advances_294 ?_
              obtain ⟨t11, et11, hf⟩ := ks_nm hf
              refine ks_putI hE hw 0 7 ltM_0 lyM_0 rfl fw_X7_113 rfl rfl dX7_advances_295 (fun H locs hw => ?_)
              rw [← et11] at hw
              refine lv_iload_n hx hb dX7_advances_298 rfl (lv_at hl 0 rfl) ?_
              refine lv_bipush (v := 65) hx hb dX7_advances_299 (by decide) ?_
              refine lv_bipush (v := 68) hx hb dX7_advances_301 (by decide) ?_
              obtain ⟨r12, er12, hf⟩ := ks_nm hf
              refine ke_S hE hw hl.1 cl_X7_72 [.int r4, .int (65 : Int32), .int (68 : Int32)] (c_X7_in l D cA st ad a _ _ _ _ _ er12.symm) rfl (ke_room hRm rfl rfl) ke_cnt (Nat.le_of_ble_eq_true rfl) rfl dX7_advances_303 (fun H locs hw => ?_)
              refine W.eq (g2 := F0 m 306 ls (.int (bI r12) :: [])) rfl ?_
              refine lv_if_ne (tgt := 345) hx hb dX7_advances_306 (by decide) (fun c13 => ?_) (fun c13 => ?_)
              · have hf := (if_neg c13).symm.trans hf
                exact L345 _ _ _ _ hf hw (lv_sub hl [1] rfl)
              · have hf := (if_pos c13).symm.trans hf
                refine lv_iload_n hx hb dX7_advances_309 rfl (lv_at hl 0 rfl) ?_
                refine lv_bipush (v := 58) hx hb dX7_advances_310 (by decide) ?_
                refine lv_icmp_eq (tgt := 345) hx hb dX7_advances_312 (by decide) (fun c14 => ?_) (fun c14 => ?_)
                · have hf := (if_pos c14).symm.trans hf
                  exact L345 _ _ _ _ hf hw (lv_sub hl [1] rfl)
                · have hf := (if_neg c14).symm.trans hf
                  refine lv_iload_n hx hb dX7_advances_315 rfl (lv_at hl 0 rfl) ?_
                  refine lv_bipush (v := 124) hx hb dX7_advances_316 (by decide) ?_
                  refine lv_icmp_eq (tgt := 345) hx hb dX7_advances_318 (by decide) (fun c15 => ?_) (fun c15 => ?_)
                  · have hf := (if_pos c15).symm.trans hf
                    exact L345 _ _ _ _ hf hw (lv_sub hl [1] rfl)
                  · have hf := (if_neg c15).symm.trans hf
                    refine lv_iload_n hx hb dX7_advances_321 rfl (lv_at hl 0 rfl) ?_
                    refine lv_bipush (v := 38) hx hb dX7_advances_322 (by decide) ?_
                    refine lv_icmp_eq (tgt := 345) hx hb dX7_advances_324 (by decide) (fun c16 => ?_) (fun c16 => ?_)
                    · have hf := (if_pos c16).symm.trans hf
                      exact L345 _ _ _ _ hf hw (lv_sub hl [1] rfl)
                    · have hf := (if_neg c16).symm.trans hf
                      refine lv_iload_n hx hb dX7_advances_327 rfl (lv_at hl 0 rfl) ?_
                      refine lv_bipush (v := 33) hx hb dX7_advances_328 (by decide) ?_
                      refine lv_icmp_eq (tgt := 345) hx hb dX7_advances_330 (by decide) (fun c17 => ?_) (fun c17 => ?_)
                      · have hf := (if_pos c17).symm.trans hf
                        exact L345 _ _ _ _ hf hw (lv_sub hl [1] rfl)
                      · have hf := (if_neg c17).symm.trans hf
                        refine lv_iload_n hx hb dX7_advances_333 rfl (lv_at hl 0 rfl) ?_
                        refine lv_bipush (v := 40) hx hb dX7_advances_334 (by decide) ?_
                        refine lv_icmp_eq (tgt := 345) hx hb dX7_advances_336 (by decide) (fun c18 => ?_) (fun c18 => ?_)
                        · have hf := (if_pos c18).symm.trans hf
                          exact L345 _ _ _ _ hf hw (lv_sub hl [1] rfl)
                        · have hf := (if_neg c18).symm.trans hf
                          refine lv_iload_n hx hb dX7_advances_339 rfl (lv_at hl 0 rfl) ?_
                          refine lv_bipush (v := 41) hx hb dX7_advances_340 (by decide) ?_
                          refine lv_icmp_ne (tgt := 349) hx hb dX7_advances_342 (by decide) (fun c19 => ?_) (fun c19 => ?_)
                          · have hf := (if_neg c19).symm.trans hf
                            refine lv_iconst (v := 0) hx hb dX7_advances_349 (by decide) ?_
                            exact L350 _ _ _ _ _ hf hw (lv_sub hl [1] rfl)
                          · have hf := (if_pos c19).symm.trans hf
                            exact L345 _ _ _ _ hf hw (lv_sub hl [1] rfl)
            · have hf := (if_neg c9).symm.trans hf
              refine lv_aload_n hx hb dX7_advances_180 rfl (lv_at hl 1 rfl) ?_
              refine lv_iconst (v := 0) hx hb dX7_advances_181 (by decide) ?_
              obtain ⟨t20, et20, hf⟩ := ks_nm hf
              refine ks_putI hE hw 0 10 ltM_0 lyM_0 rfl fw_X7_129 rfl rfl dX7_advances_182 (fun H locs hw => ?_)
              rw [← et20] at hw
              refine lv_iconst (v := 0) hx hb dX7_advances_185 (by decide) ?_
              refine lv_istore_n (lv' := [(2, .int (0 : Int32)), (1, .int r4), (0, .ref (adr ad a 0))]) hx hb dX7_advances_186 rfl hl (by decide) rfl (fun ls hl => ?_)
              exact L187 FU _ _ _ _ _ _ hf hw (lv_sub hl [2, 1, 0] rfl)
          · have hf := (if_neg c7).symm.trans hf
            refine lv_lconst (v := 0) hx hb dX7_advances_66 (by decide) ?_
            refine lv_lstore_n (lv' := [(2, .long (0 : Int64)), (1, .int r4), (0, .ref (adr ad a 0))]) hx hb dX7_advances_67 rfl hl (by decide) rfl (fun ls hl => ?_)
            refine lv_iconst (v := 0) hx hb dX7_advances_68 (by decide) ?_
            refine lv_istore (lv' := [(4, .int (0 : Int32)), (2, .long (0 : Int64)), (1, .int r4), (0, .ref (adr ad a 0))]) hx hb dX7_advances_69 hl (by decide) rfl (fun ls hl => ?_)
            exact L71 FU _ _ _ _ _ _ hf hw (lv_sub hl [3, 1, 0] rfl)
        · have hf := (if_neg c5).symm.trans hf
          refine lv_aload_n hx hb dX7_advances_47 rfl (lv_at hl 1 rfl) ?_
          refine lv_iconst (v := 0) hx hb dX7_advances_48 (by decide) ?_
          obtain ⟨t21, et21, hf⟩ := ks_nm hf
          refine ks_putI hE hw 0 8 ltM_0 lyM_0 rfl fw_X7_122 rfl rfl dX7_advances_49 (fun H locs hw => ?_)
          rw [← et21] at hw
          refine lv_goto (tgt := 364) hx hb dX7_advances_52 (by decide) ?_
          replace hf := Option.some.inj hf
          subst hf
          exact ke_vret hE hw hQ dX7_advances_364 rfl
      · have hf := (if_pos c2).symm.trans hf
        refine lv_aload_n hx hb dX7_advances_13 rfl (lv_at hl 0 rfl) ?_
        refine lv_dup hx hb dX7_advances_14 rfl ?_
        refine ks_getI hE hw 0 7 ltM_0 lyM_0 rfl fd_X7_113 dX7_advances_15 ?_
        refine lv_iconst (v := 1) hx hb dX7_advances_18 (by decide) ?_
        refine lv_iadd hx hb dX7_advances_19 ?_
        obtain ⟨t22, et22, hf⟩ := ks_nm hf
        refine ks_putI hE hw 0 7 ltM_0 lyM_0 rfl fw_X7_113 rfl rfl dX7_advances_20 (fun H locs hw => ?_)
        rw [← et22] at hw
        refine lv_goto (tgt := 0) hx hb dX7_advances_23 (by decide) ?_
        exact ih0 _ _ _ _ hf hw (lv_sub hl [0] rfl)
  unfold fX7_advances at hf
  exact L0 FU _ _ _ _ hf hw (lv_sub hl [0] rfl)
def fX7_isWell (τ : Tau) : Bool :=
 (if 0 ≤ tI τ 0 11 then
 false
 else
 true)
set_option maxHeartbeats 4000000 in
set_option maxRecDepth 100000 in
theorem c_X7_isWell (l : Launch) (D : va_G) (cA : Nat → ClassId) (st ad : Nat → Nat) (a : Nat)  (τ : Tau) (R : Bool) (hf : fX7_isWell τ = R) : KE ΛM 12 D cA st ad l yX7_isWell cX7_isWell 1 (some .boolean) 0 0 [.ref (adr ad a 0)] a τ (some (.int (bI R))) τ := by
  refine KE.of "KindSayingsModel" rfl (by decide) (Nat.le_of_ble_eq_true rfl) (fun p e s m args below meth c A ls Rm Q hE hRm hQ hw hl => ?_)
  obtain ⟨hx, hb, hml, hown, hts, -⟩ := id hE
  have hl : lv_has ls 1 [(0, .ref (adr ad a 0))] := hl
  unfold fX7_isWell at hf
  refine lv_aload_n hx hb dX7_isWell_0 rfl (lv_at hl 0 rfl) ?_
  refine ks_getI hE hw 0 11 ltM_0 lyM_0 rfl fd_X7_132 dX7_isWell_1 ?_
  refine lv_if_ge (tgt := 11) hx hb dX7_isWell_4 (by decide) (fun c1 => ?_) (fun c1 => ?_)
  · have hf := (if_pos c1).symm.trans hf
    refine lv_iconst (v := 0) hx hb dX7_isWell_11 (by decide) ?_
    subst hf
    exact ke_zret hE hw hQ (Or.inl rfl) dX7_isWell_12 rfl rfl
  · have hf := (if_neg c1).symm.trans hf
    refine lv_iconst (v := 1) hx hb dX7_isWell_7 (by decide) ?_
    refine lv_goto (tgt := 12) hx hb dX7_isWell_8 (by decide) ?_
    subst hf
    exact ke_zret hE hw hQ (Or.inr rfl) dX7_isWell_12 rfl rfl
def fX7_fails  (τ : Tau) : Tau :=
 (if 0 ≤ tI τ 0 11 then
 nm (sI τ 0 11 (tI τ 0 11)) (fun t2 =>
 t2)
 else
 nm (sI τ 0 11 (tI τ 0 9)) (fun t3 =>
 t3))
set_option maxHeartbeats 4000000 in
set_option maxRecDepth 100000 in
theorem c_X7_fails (l : Launch) (D : va_G) (cA : Nat → ClassId) (st ad : Nat → Nat) (a : Nat)  (τ : Tau) (R : Tau) (hf : fX7_fails τ = R) : KE ΛM 12 D cA st ad l yX7_fails cX7_fails 1 none 0 0 [.ref (adr ad a 0)] a τ (none) R := by
  refine KE.of "KindSayingsModel" rfl (by decide) (Nat.le_of_ble_eq_true rfl) (fun p e s m args below meth c A ls Rm Q hE hRm hQ hw hl => ?_)
  obtain ⟨hx, hb, hml, hown, hts, -⟩ := id hE
  have hl : lv_has ls 1 [(0, .ref (adr ad a 0))] := hl
  unfold fX7_fails at hf
  refine lv_aload_n hx hb dX7_fails_0 rfl (lv_at hl 0 rfl) ?_
  refine lv_aload_n hx hb dX7_fails_1 rfl (lv_at hl 0 rfl) ?_
  refine ks_getI hE hw 0 11 ltM_0 lyM_0 rfl fd_X7_132 dX7_fails_2 ?_
  refine lv_if_ge (tgt := 15) hx hb dX7_fails_5 (by decide) (fun c1 => ?_) (fun c1 => ?_)
  · have hf := (if_pos c1).symm.trans hf
    refine lv_aload_n hx hb dX7_fails_15 rfl (lv_at hl 0 rfl) ?_
    refine ks_getI hE hw 0 11 ltM_0 lyM_0 rfl fd_X7_132 dX7_fails_16 ?_
    obtain ⟨t2, et2, hf⟩ := ks_nm hf
    refine ks_putI hE hw 0 11 ltM_0 lyM_0 rfl fw_X7_132 rfl rfl dX7_fails_19 (fun H locs hw => ?_)
    rw [← et2] at hw
    subst hf
    exact ke_vret hE hw hQ dX7_fails_22 rfl
  · have hf := (if_neg c1).symm.trans hf
    refine lv_aload_n hx hb dX7_fails_8 rfl (lv_at hl 0 rfl) ?_
    refine ks_getI hE hw 0 9 ltM_0 lyM_0 rfl fd_X7_119 dX7_fails_9 ?_
    refine lv_goto (tgt := 19) hx hb dX7_fails_12 (by decide) ?_
    obtain ⟨t3, et3, hf⟩ := ks_nm hf
    refine ks_putI hE hw 0 11 ltM_0 lyM_0 rfl fw_X7_132 rfl rfl dX7_fails_19 (fun H locs hw => ?_)
    rw [← et3] at hw
    subst hf
    exact ke_vret hE hw hQ dX7_fails_22 rfl
def fX7_isSign (τ : Tau) (p1 : Int32) : Bool :=
 nm (fX7_isWell τ) (fun r1 =>
 (if bI r1 = 0 then
 false
 else
 (if tI τ 0 8 = (3 : Int32) then
 (if tI τ 0 10 = p1 then
 true
 else
 false)
 else
 false)))
set_option maxHeartbeats 4000000 in
set_option maxRecDepth 100000 in
theorem c_X7_isSign (l : Launch) (D : va_G) (cA : Nat → ClassId) (st ad : Nat → Nat) (a : Nat)  (τ : Tau) (p1 : Int32) (R : Bool) (hf : fX7_isSign τ p1 = R) : KE ΛM 12 D cA st ad l yX7_isSign cX7_isSign 2 (some .boolean) 1 20 [.ref (adr ad a 0), .int p1] a τ (some (.int (bI R))) τ := by
  refine KE.of "KindSayingsModel" rfl (by decide) (Nat.le_of_ble_eq_true rfl) (fun p e s m args below meth c A ls Rm Q hE hRm hQ hw hl => ?_)
  obtain ⟨hx, hb, hml, hown, hts, -⟩ := id hE
  have hl : lv_has ls 2 [(0, .ref (adr ad a 0)), (1, .int p1)] := hl
  unfold fX7_isSign at hf
  refine lv_aload_n hx hb dX7_isSign_0 rfl (lv_at hl 0 rfl) ?_
  obtain ⟨r1, er1, hf⟩ := ks_nm hf
  refine ke_V hE hw hl.1 cl_X7_135 0 ltM_0 lyM_0 rfl [] (c_X7_isWell l D cA st ad a _ _ er1.symm) rfl (ke_room hRm rfl rfl) ke_cnt (Nat.le_of_ble_eq_true rfl) rfl dX7_isSign_1 (fun H locs hw => ?_)
  refine W.eq (g2 := F0 m 4 ls (.int (bI r1) :: [])) rfl ?_
  refine lv_if_eq (tgt := 27) hx hb dX7_isSign_4 (by decide) (fun c2 => ?_) (fun c2 => ?_)
  · have hf := (if_pos c2).symm.trans hf
    refine lv_iconst (v := 0) hx hb dX7_isSign_27 (by decide) ?_
    subst hf
    exact ke_zret hE hw hQ (Or.inl rfl) dX7_isSign_28 rfl rfl
  · have hf := (if_neg c2).symm.trans hf
    refine lv_aload_n hx hb dX7_isSign_7 rfl (lv_at hl 0 rfl) ?_
    refine ks_getI hE hw 0 8 ltM_0 lyM_0 rfl fd_X7_122 dX7_isSign_8 ?_
    refine lv_iconst (v := 3) hx hb dX7_isSign_11 (by decide) ?_
    refine lv_icmp_ne (tgt := 27) hx hb dX7_isSign_12 (by decide) (fun c3 => ?_) (fun c3 => ?_)
    · have hf := (if_neg c3).symm.trans hf
      refine lv_iconst (v := 0) hx hb dX7_isSign_27 (by decide) ?_
      subst hf
      exact ke_zret hE hw hQ (Or.inl rfl) dX7_isSign_28 rfl rfl
    · have hf := (if_pos c3).symm.trans hf
      refine lv_aload_n hx hb dX7_isSign_15 rfl (lv_at hl 0 rfl) ?_
      refine ks_getI hE hw 0 10 ltM_0 lyM_0 rfl fd_X7_129 dX7_isSign_16 ?_
      refine lv_iload_n hx hb dX7_isSign_19 rfl (lv_at hl 1 rfl) ?_
      refine lv_icmp_ne (tgt := 27) hx hb dX7_isSign_20 (by decide) (fun c4 => ?_) (fun c4 => ?_)
      · have hf := (if_neg c4).symm.trans hf
        refine lv_iconst (v := 0) hx hb dX7_isSign_27 (by decide) ?_
        subst hf
        exact ke_zret hE hw hQ (Or.inl rfl) dX7_isSign_28 rfl rfl
      · have hf := (if_pos c4).symm.trans hf
        refine lv_iconst (v := 1) hx hb dX7_isSign_23 (by decide) ?_
        refine lv_goto (tgt := 28) hx hb dX7_isSign_24 (by decide) ?_
        subst hf
        exact ke_zret hE hw hQ (Or.inr rfl) dX7_isSign_28 rfl rfl
def fX7_isKindSign (τ : Tau) : Bool :=
 nm (fX7_isWell τ) (fun r1 =>
 (if bI r1 = 0 then
 false
 else
 (if tI τ 0 8 = (3 : Int32) then
 nm (fX7_in (tI τ 0 10) (65 : Int32) (((65 : Int32) + tI τ 0 1) - (1 : Int32))) (fun r4 =>
 (if bI r4 = 0 then
 false
 else
 true))
 else
 false)))
set_option maxHeartbeats 4000000 in
set_option maxRecDepth 100000 in
theorem c_X7_isKindSign (l : Launch) (D : va_G) (cA : Nat → ClassId) (st ad : Nat → Nat) (a : Nat)  (τ : Tau) (R : Bool) (hf : fX7_isKindSign τ = R) : KE ΛM 12 D cA st ad l yX7_isKindSign cX7_isKindSign 1 (some .boolean) 1 22 [.ref (adr ad a 0)] a τ (some (.int (bI R))) τ := by
  refine KE.of "KindSayingsModel" rfl (by decide) (Nat.le_of_ble_eq_true rfl) (fun p e s m args below meth c A ls Rm Q hE hRm hQ hw hl => ?_)
  obtain ⟨hx, hb, hml, hown, hts, -⟩ := id hE
  have hl : lv_has ls 1 [(0, .ref (adr ad a 0))] := hl
  unfold fX7_isKindSign at hf
  refine lv_aload_n hx hb dX7_isKindSign_0 rfl (lv_at hl 0 rfl) ?_
  obtain ⟨r1, er1, hf⟩ := ks_nm hf
  refine ke_V hE hw hl.1 cl_X7_135 0 ltM_0 lyM_0 rfl [] (c_X7_isWell l D cA st ad a _ _ er1.symm) rfl (ke_room hRm rfl rfl) ke_cnt (Nat.le_of_ble_eq_true rfl) rfl dX7_isKindSign_1 (fun H locs hw => ?_)
  refine W.eq (g2 := F0 m 4 ls (.int (bI r1) :: [])) rfl ?_
  refine lv_if_eq (tgt := 40) hx hb dX7_isKindSign_4 (by decide) (fun c2 => ?_) (fun c2 => ?_)
  · have hf := (if_pos c2).symm.trans hf
    refine lv_iconst (v := 0) hx hb dX7_isKindSign_40 (by decide) ?_
    subst hf
    exact ke_zret hE hw hQ (Or.inl rfl) dX7_isKindSign_41 rfl rfl
  · have hf := (if_neg c2).symm.trans hf
    refine lv_aload_n hx hb dX7_isKindSign_7 rfl (lv_at hl 0 rfl) ?_
    refine ks_getI hE hw 0 8 ltM_0 lyM_0 rfl fd_X7_122 dX7_isKindSign_8 ?_
    refine lv_iconst (v := 3) hx hb dX7_isKindSign_11 (by decide) ?_
    refine lv_icmp_ne (tgt := 40) hx hb dX7_isKindSign_12 (by decide) (fun c3 => ?_) (fun c3 => ?_)
    · have hf := (if_neg c3).symm.trans hf
      refine lv_iconst (v := 0) hx hb dX7_isKindSign_40 (by decide) ?_
      subst hf
      exact ke_zret hE hw hQ (Or.inl rfl) dX7_isKindSign_41 rfl rfl
    · have hf := (if_pos c3).symm.trans hf
      refine lv_aload_n hx hb dX7_isKindSign_15 rfl (lv_at hl 0 rfl) ?_
      refine ks_getI hE hw 0 10 ltM_0 lyM_0 rfl fd_X7_129 dX7_isKindSign_16 ?_
      refine lv_bipush (v := 65) hx hb dX7_isKindSign_19 (by decide) ?_
      refine lv_bipush (v := 65) hx hb dX7_isKindSign_21 (by decide) ?_
      refine lv_aload_n hx hb dX7_isKindSign_23 rfl (lv_at hl 0 rfl) ?_
      refine ks_getI hE hw 0 1 ltM_0 lyM_0 rfl fd_X7_7 dX7_isKindSign_24 ?_
      refine lv_iadd hx hb dX7_isKindSign_27 ?_
      refine lv_iconst (v := 1) hx hb dX7_isKindSign_28 (by decide) ?_
      refine lv_isub hx hb dX7_isKindSign_29 ?_
      obtain ⟨r4, er4, hf⟩ := ks_nm hf
      refine ke_S hE hw hl.1 cl_X7_72 [.int (tI τ 0 10), .int (65 : Int32), .int (((65 : Int32) + tI τ 0 1) - (1 : Int32))] (c_X7_in l D cA st ad a _ _ _ _ _ er4.symm) rfl (ke_room hRm rfl rfl) ke_cnt (Nat.le_of_ble_eq_true rfl) rfl dX7_isKindSign_30 (fun H locs hw => ?_)
      refine W.eq (g2 := F0 m 33 ls (.int (bI r4) :: [])) rfl ?_
      refine lv_if_eq (tgt := 40) hx hb dX7_isKindSign_33 (by decide) (fun c5 => ?_) (fun c5 => ?_)
      · have hf := (if_pos c5).symm.trans hf
        refine lv_iconst (v := 0) hx hb dX7_isKindSign_40 (by decide) ?_
        subst hf
        exact ke_zret hE hw hQ (Or.inl rfl) dX7_isKindSign_41 rfl rfl
      · have hf := (if_neg c5).symm.trans hf
        refine lv_iconst (v := 1) hx hb dX7_isKindSign_36 (by decide) ?_
        refine lv_goto (tgt := 41) hx hb dX7_isKindSign_37 (by decide) ?_
        subst hf
        exact ke_zret hE hw hQ (Or.inr rfl) dX7_isKindSign_41 rfl rfl
def fX7_every (τ : Tau) : Int32 :=
 nm (fX7_sorts τ) (fun r1 =>
 (((1 : Int32) <<< (r1 &&& 31)) - (1 : Int32)))
set_option maxHeartbeats 4000000 in
set_option maxRecDepth 100000 in
theorem c_X7_every (l : Launch) (D : va_G) (cA : Nat → ClassId) (st ad : Nat → Nat) (a : Nat)  (τ : Tau) (R : Int32) (hf : fX7_every τ = R) : KE ΛM 12 D cA st ad l yX7_every cX7_every 1 (some .int) 1 20 [.ref (adr ad a 0)] a τ (some (.int R)) τ := by
  refine KE.of "KindSayingsModel" rfl (by decide) (Nat.le_of_ble_eq_true rfl) (fun p e s m args below meth c A ls Rm Q hE hRm hQ hw hl => ?_)
  obtain ⟨hx, hb, hml, hown, hts, -⟩ := id hE
  have hl : lv_has ls 1 [(0, .ref (adr ad a 0))] := hl
  unfold fX7_every at hf
  refine lv_iconst (v := 1) hx hb dX7_every_0 (by decide) ?_
  refine lv_aload_n hx hb dX7_every_1 rfl (lv_at hl 0 rfl) ?_
  obtain ⟨r1, er1, hf⟩ := ks_nm hf
  refine ke_V hE hw hl.1 cl_X7_60 0 ltM_0 lyM_0 rfl [] (c_X7_sorts l D cA st ad a _ _ er1.symm) rfl (ke_room hRm rfl rfl) ke_cnt (Nat.le_of_ble_eq_true rfl) rfl dX7_every_2 (fun H locs hw => ?_)
  refine W.eq (g2 := F0 m 5 ls (.int r1 :: .int (1 : Int32) :: [])) rfl ?_
  refine lv_ishl hx hb dX7_every_5 ?_
  refine lv_iconst (v := 1) hx hb dX7_every_6 (by decide) ?_
  refine lv_isub hx hb dX7_every_7 ?_
  subst hf
  exact ke_iret hE hw hQ dX7_every_8 rfl rfl
def fX7_hasOpen_26 (τ : Tau) (p1 : Int32) (k4 : Int32 → Int32 → Option Bool) (x_3 : Int32) (z_0 : Int32) (z_1 : Int32) : Option Bool :=
 nm (z_1 ||| z_0) (fun x5 =>
     nm (x_3 + (1 : Int32)) (fun x6 =>
     k4 x5 x6))
def fX7_hasOpen_4 (τ : Tau) (p1 : Int32) : Nat → Int32 → Int32 → Option Bool
  | 0, _, _ => none
  | n + 1, x_2, x_3 =>
     (if p1 ≤ x_3 then
     (if x_2 = 0 ∨ x_2 = 1 then
     some (decide (x_2 = 1)) else none)
     else
     (if x_3 < 0 ∨ 60 ≤ x_3.toNatClampNeg then none else
     (if tA τ 5 x_3.toNatClampNeg = (40 : Int32) then
     fX7_hasOpen_26 τ p1 (fX7_hasOpen_4 τ p1 n) x_3 (1 : Int32) x_2
     else
     fX7_hasOpen_26 τ p1 (fX7_hasOpen_4 τ p1 n) x_3 (0 : Int32) x_2)))
def fX7_hasOpen (τ : Tau) (p1 : Int32) : Option Bool :=
 fX7_hasOpen_4 τ p1 FU (0 : Int32) (0 : Int32)
set_option maxHeartbeats 4000000 in
set_option maxRecDepth 100000 in
theorem c_X7_hasOpen (l : Launch) (D : va_G) (cA : Nat → ClassId) (st ad : Nat → Nat) (a : Nat)  (τ : Tau) (p1 : Int32) (R : Bool) (hf : fX7_hasOpen τ p1 = some R) : KE ΛM 12 D cA st ad l yX7_hasOpen cX7_hasOpen 4 (some .boolean) 0 0 [.ref (adr ad a 0), .int p1] a τ (some (.int (bI R))) τ := by
  refine KE.of "KindSayingsModel" rfl (by decide) (Nat.le_of_ble_eq_true rfl) (fun p e s m args below meth c A ls Rm Q hE hRm hQ hw hl => ?_)
  obtain ⟨hx, hb, hml, hown, hts, -⟩ := id hE
  have hl : lv_has ls 4 [(0, .ref (adr ad a 0)), (1, .int p1)] := hl
  have L4 : ∀ (n4 : Nat) (x_2 : Int32) (x_3 : Int32) (H : Heap) (locs : List Loc) (ls : Array Slot), fX7_hasOpen_4 τ p1 n4 x_2 x_3 = some R → Wd ΛM 12 D cA ad A s a τ H locs → lv_has ls 4 [(0, .ref (adr ad a 0)), (1, .int p1), (2, .int x_2), (3, .int x_3)] → W p l e Rm s m args below meth c H locs 0 0 Q (F0 m 4 ls []) := by
    intro n4
    induction n4 with
    | zero => intro x_2 x_3 H locs ls hf hw hl; exact absurd hf (by rw [fX7_hasOpen_4]; simp)
    | succ n4 ih4 =>
      have L26 : ∀ (x_3 : Int32) (z_0 : Int32) (z_1 : Int32) (H : Heap) (locs : List Loc) (ls : Array Slot), fX7_hasOpen_26 τ p1 (fX7_hasOpen_4 τ p1 n4) x_3 z_0 z_1 = some R → Wd ΛM 12 D cA ad A s a τ H locs → lv_has ls 4 [(0, .ref (adr ad a 0)), (1, .int p1), (3, .int x_3)] → W p l e Rm s m args below meth c H locs 0 0 Q (F0 m 26 ls [.int z_0, .int z_1]) := by
        intro x_3 z_0 z_1 H locs ls hf hw hl
        unfold fX7_hasOpen_26 at hf
        refine lv_ior hx hb dX7_hasOpen_26 ?_
        obtain ⟨x5, ex5, hf⟩ := ks_nm hf
        refine W.eq (g2 := F0 m 27 ls (.int x5 :: [])) (by rw [ex5]) ?_
        refine lv_istore_n (lv' := [(2, .int x5), (0, .ref (adr ad a 0)), (1, .int p1), (3, .int x_3)]) hx hb dX7_hasOpen_27 rfl hl (by decide) rfl (fun ls hl => ?_)
        obtain ⟨x6, ex6, hf⟩ := ks_nm hf
        refine lv_iinc (v := x6) (lv' := [(3, .int x6), (2, .int x5), (0, .ref (adr ad a 0)), (1, .int p1)]) hx hb dX7_hasOpen_28 hl (k := 3) rfl (by rw [ex6]; rfl) (by decide) rfl (fun ls hl => ?_)
        refine lv_goto (tgt := 4) hx hb dX7_hasOpen_31 (by decide) ?_
        exact ih4 _ _ _ _ _ hf hw (lv_sub hl [2, 3, 1, 0] rfl)
      intro x_2 x_3 H locs ls hf hw hl
      rw [fX7_hasOpen_4] at hf
      refine lv_iload_n hx hb dX7_hasOpen_4 rfl (lv_at hl 3 rfl) ?_
      refine lv_iload_n hx hb dX7_hasOpen_5 rfl (lv_at hl 1 rfl) ?_
      refine lv_icmp_ge (tgt := 34) hx hb dX7_hasOpen_6 (by decide) (fun c1 => ?_) (fun c1 => ?_)
      · have hf := (if_pos c1).symm.trans hf
        refine lv_iload_n hx hb dX7_hasOpen_34 rfl (lv_at hl 2 rfl) ?_
        obtain ⟨b2, hf⟩ := ks_need hf
        replace hf := Option.some.inj hf
        subst hf
        exact ke_zret hE hw hQ b2 dX7_hasOpen_35 (bI_of b2) rfl
      · have hf := (if_neg c1).symm.trans hf
        refine lv_iload_n hx hb dX7_hasOpen_9 rfl (lv_at hl 2 rfl) ?_
        refine lv_aload_n hx hb dX7_hasOpen_10 rfl (lv_at hl 0 rfl) ?_
        refine ks_getR hE hw 0 15 ltM_0 lyM_0 rfl fd_X7_32 dX7_hasOpen_11 ?_
        refine lv_iload_n hx hb dX7_hasOpen_14 rfl (lv_at hl 3 rfl) ?_
        obtain ⟨b3, hf⟩ := ks_ok hf
        refine ks_iald hE hw 5 ltM_5 lyM_5 b3 dX7_hasOpen_15 ?_
        refine lv_bipush (v := 40) hx hb dX7_hasOpen_16 (by decide) ?_
        refine lv_icmp_ne (tgt := 25) hx hb dX7_hasOpen_18 (by decide) (fun c4 => ?_) (fun c4 => ?_)
        · have hf := (if_neg c4).symm.trans hf
          refine lv_iconst (v := 0) hx hb dX7_hasOpen_25 (by decide) ?_
          exact L26 _ _ _ _ _ _ hf hw (lv_sub hl [0, 1, 3] rfl)
        · have hf := (if_pos c4).symm.trans hf
          refine lv_iconst (v := 1) hx hb dX7_hasOpen_21 (by decide) ?_
          refine lv_goto (tgt := 26) hx hb dX7_hasOpen_22 (by decide) ?_
          exact L26 _ _ _ _ _ _ hf hw (lv_sub hl [0, 1, 3] rfl)
  unfold fX7_hasOpen at hf
  refine lv_iconst (v := 0) hx hb dX7_hasOpen_0 (by decide) ?_
  refine lv_istore_n (lv' := [(2, .int (0 : Int32)), (0, .ref (adr ad a 0)), (1, .int p1)]) hx hb dX7_hasOpen_1 rfl hl (by decide) rfl (fun ls hl => ?_)
  refine lv_iconst (v := 0) hx hb dX7_hasOpen_2 (by decide) ?_
  refine lv_istore_n (lv' := [(3, .int (0 : Int32)), (2, .int (0 : Int32)), (0, .ref (adr ad a 0)), (1, .int p1)]) hx hb dX7_hasOpen_3 rfl hl (by decide) rfl (fun ls hl => ?_)
  exact L4 FU _ _ _ _ _ hf hw (lv_sub hl [2, 3, 1, 0] rfl)
def fX7_joins  (p1 : Int32) (p2 : Int32) (p3 : Int32) : Int32 :=
 (if p1 = (38 : Int32) then
 (p2 &&& p3)
 else
 (p2 ||| p3))
set_option maxHeartbeats 4000000 in
set_option maxRecDepth 100000 in
theorem c_X7_joins (l : Launch) (D : va_G) (cA : Nat → ClassId) (st ad : Nat → Nat) (a : Nat)  (τ : Tau) (p1 : Int32) (p2 : Int32) (p3 : Int32) (R : Int32) (hf : fX7_joins p1 p2 p3 = R) : KE ΛM 12 D cA st ad l yX7_joins cX7_joins 3 (some .int) 0 0 [.int p1, .int p2, .int p3] a τ (some (.int R)) τ := by
  refine KE.of "KindSayingsModel" rfl (by decide) (Nat.le_of_ble_eq_true rfl) (fun p e s m args below meth c A ls Rm Q hE hRm hQ hw hl => ?_)
  obtain ⟨hx, hb, hml, hown, hts, -⟩ := id hE
  have hl : lv_has ls 3 [(0, .int p1), (1, .int p2), (2, .int p3)] := hl
  unfold fX7_joins at hf
  refine lv_iload_n hx hb dX7_joins_0 rfl (lv_at hl 0 rfl) ?_
  refine lv_bipush (v := 38) hx hb dX7_joins_1 (by decide) ?_
  refine lv_icmp_ne (tgt := 12) hx hb dX7_joins_3 (by decide) (fun c1 => ?_) (fun c1 => ?_)
  · have hf := (if_neg c1).symm.trans hf
    refine lv_iload_n hx hb dX7_joins_12 rfl (lv_at hl 1 rfl) ?_
    refine lv_iload_n hx hb dX7_joins_13 rfl (lv_at hl 2 rfl) ?_
    refine lv_ior hx hb dX7_joins_14 ?_
    subst hf
    exact ke_iret hE hw hQ dX7_joins_15 rfl rfl
  · have hf := (if_pos c1).symm.trans hf
    refine lv_iload_n hx hb dX7_joins_6 rfl (lv_at hl 1 rfl) ?_
    refine lv_iload_n hx hb dX7_joins_7 rfl (lv_at hl 2 rfl) ?_
    refine lv_iand hx hb dX7_joins_8 ?_
    refine lv_goto (tgt := 15) hx hb dX7_joins_9 (by decide) ?_
    subst hf
    exact ke_iret hE hw hQ dX7_joins_15 rfl rfl
def fX7_side_543  (τ : Tau) : Option (Int32 × Tau) :=
 (if (0 : Int32) < 0 ∨ 60 ≤ (0 : Int32).toNatClampNeg then none else
     some (tA τ 4 (0 : Int32).toNatClampNeg, τ))
def fX7_side_492  : Nat → Tau → Int32 → Int32 → Option (Int32 × Tau)
  | 0, _, _, _ => none
  | n + 1, τ, x_1, x_2 =>
     nm (fX7_isWell τ) (fun r89 =>
     (if bI r89 = 0 then
     fX7_side_543 τ
     else
     (if x_2 ≤ 0 then
     fX7_side_543 τ
     else
     nm (x_2 + (-1 : Int32)) (fun x92 =>
     nm (x_1 + (-1 : Int32)) (fun x93 =>
     (if x92 < 0 ∨ 60 ≤ x92.toNatClampNeg then none else
     (if (x93 - (1 : Int32)) < 0 ∨ 60 ≤ (x93 - (1 : Int32)).toNatClampNeg then none else
     (if x93 < 0 ∨ 60 ≤ x93.toNatClampNeg then none else
     nm (fX7_joins (tA τ 5 x92.toNatClampNeg) (tA τ 4 (x93 - (1 : Int32)).toNatClampNeg) (tA τ 4 x93.toNatClampNeg)) (fun r97 =>
     (if (x93 - (1 : Int32)) < 0 ∨ 60 ≤ (x93 - (1 : Int32)).toNatClampNeg then none else
     nm (sA τ 4 (x93 - (1 : Int32)).toNatClampNeg r97) (fun t99 =>
     fX7_side_492 n t99 x93 x92)))))))))))
def fX7_side_473  (τ : Tau) (x_1 : Int32) (x_2 : Int32) : Option (Int32 × Tau) :=
 nm (fX7_isWell τ) (fun r84 =>
    (if bI r84 = 0 then
     fX7_side_492 FU τ x_1 x_2
     else
     Option.bind (fX7_hasOpen τ x_2) (fun r86 =>
    (if bI r86 = 0 then
     fX7_side_492 FU τ x_1 x_2
     else
     nm (fX7_fails τ) (fun r88 =>
     fX7_side_492 FU r88 x_1 x_2)))))
def fX7_side_419 (k21 : Tau → Int32 → Int32 → Int32 → Int32 → Int32 → Int32 → Option (Int32 × Tau)) : Nat → Tau → Int32 → Int32 → Int32 → Int32 → Int32 → Int32 → Option (Int32 × Tau)
  | 0, _, _, _, _, _, _, _ => none
  | n + 1, τ, x_1, x_2, x_3, x_4, x_5, x_6 =>
     (if x_4 = 0 then
     (if x_2 ≤ 0 then
     k21 τ x_1 x_2 x_3 x_4 x_5 x_6
     else
     (if (x_2 - (1 : Int32)) < 0 ∨ 60 ≤ (x_2 - (1 : Int32)).toNatClampNeg then none else
     (if tA τ 5 (x_2 - (1 : Int32)).toNatClampNeg = (33 : Int32) then
     nm (x_2 + (-1 : Int32)) (fun x26 =>
     nm (x_3 + (-1 : Int32)) (fun x27 =>
     nm (fX7_every τ) (fun r28 =>
     (if (x_1 - (1 : Int32)) < 0 ∨ 60 ≤ (x_1 - (1 : Int32)).toNatClampNeg then none else
     (if (x_1 - (1 : Int32)) < 0 ∨ 60 ≤ (x_1 - (1 : Int32)).toNatClampNeg then none else
     nm (sA τ 4 (x_1 - (1 : Int32)).toNatClampNeg (r28 &&& (tA τ 4 (x_1 - (1 : Int32)).toNatClampNeg ^^^ (-1 : Int32)))) (fun t31 =>
     fX7_side_419 k21 n t31 x_1 x26 x27 x_4 x_5 x_6))))))
     else
     k21 τ x_1 x_2 x_3 x_4 x_5 x_6)))
     else
     k21 τ x_1 x_2 x_3 x_4 x_5 x_6)
def fX7_side_416 (k21 : Tau → Int32 → Int32 → Int32 → Int32 → Int32 → Int32 → Option (Int32 × Tau)) (τ : Tau) (x_1 : Int32) (x_2 : Int32) (x_3 : Int32) (x_4 : Int32) (x_6 : Int32) : Option (Int32 × Tau) :=
 fX7_side_419 k21 FU τ x_1 x_2 x_3 x_4 (0 : Int32) x_6
def fX7_side_350 (k21 : Tau → Int32 → Int32 → Int32 → Int32 → Int32 → Int32 → Option (Int32 × Tau)) : Nat → Tau → Int32 → Int32 → Int32 → Int32 → Int32 → Int32 → Option (Int32 × Tau)
  | 0, _, _, _, _, _, _, _ => none
  | n + 1, τ, x_1, x_2, x_3, x_4, x_5, x_6 =>
     (if (x_2 - (1 : Int32)) < 0 ∨ 60 ≤ (x_2 - (1 : Int32)).toNatClampNeg then none else
     (if tA τ 5 (x_2 - (1 : Int32)).toNatClampNeg = (40 : Int32) then
     nm (x_2 + (-1 : Int32)) (fun x54 =>
     nm (x_3 + (-1 : Int32)) (fun x55 =>
     Option.bind (fX7_advances τ) (fun r56 =>
     fX7_side_419 k21 FU r56 x_1 x54 x55 x_4 x_5 x_6)))
     else
     nm (x_2 + (-1 : Int32)) (fun x57 =>
     nm (x_1 + (-1 : Int32)) (fun x58 =>
     (if x57 < 0 ∨ 60 ≤ x57.toNatClampNeg then none else
     (if (x58 - (1 : Int32)) < 0 ∨ 60 ≤ (x58 - (1 : Int32)).toNatClampNeg then none else
     (if x58 < 0 ∨ 60 ≤ x58.toNatClampNeg then none else
     nm (fX7_joins (tA τ 5 x57.toNatClampNeg) (tA τ 4 (x58 - (1 : Int32)).toNatClampNeg) (tA τ 4 x58.toNatClampNeg)) (fun r62 =>
     (if (x58 - (1 : Int32)) < 0 ∨ 60 ≤ (x58 - (1 : Int32)).toNatClampNeg then none else
     nm (sA τ 4 (x58 - (1 : Int32)).toNatClampNeg r62) (fun t64 =>
     fX7_side_350 k21 n t64 x58 x57 x_3 x_4 x_5 x_6))))))))))
def fX7_side_304 (k21 : Tau → Int32 → Int32 → Int32 → Int32 → Int32 → Int32 → Option (Int32 × Tau)) (τ : Tau) (x_1 : Int32) (x_2 : Int32) (x_3 : Int32) (x_5 : Int32) (x_6 : Int32) : Option (Int32 × Tau) :=
 (if x_2 < 0 ∨ 60 ≤ x_2.toNatClampNeg then none else
     nm (sA τ 5 x_2.toNatClampNeg (tI τ 0 10)) (fun t80 =>
     nm (x_2 + (1 : Int32)) (fun x81 =>
     nm (sI t80 0 16 (-9 : Int32)) (fun t82 =>
     Option.bind (fX7_advances t82) (fun r83 =>
     fX7_side_419 k21 FU r83 x_1 x81 x_3 (1 : Int32) x_5 x_6)))))
def fX7_side_264 (k21 : Tau → Int32 → Int32 → Int32 → Int32 → Int32 → Int32 → Option (Int32 × Tau)) (k225 : Tau → Int32 → Int32 → Int32 → Int32 → Int32 → Option (Int32 × Tau)) (τ : Tau) (x_1 : Int32) (x_2 : Int32) (x_3 : Int32) (x_5 : Int32) (x_6 : Int32) : Option (Int32 × Tau) :=
 nm (x_2 + (-1 : Int32)) (fun x71 =>
     nm (x_1 + (-1 : Int32)) (fun x72 =>
    (if x71 < 0 ∨ 60 ≤ x71.toNatClampNeg then none else
    (if (x72 - (1 : Int32)) < 0 ∨ 60 ≤ (x72 - (1 : Int32)).toNatClampNeg then none else
    (if x72 < 0 ∨ 60 ≤ x72.toNatClampNeg then none else
     nm (fX7_joins (tA τ 5 x71.toNatClampNeg) (tA τ 4 (x72 - (1 : Int32)).toNatClampNeg) (tA τ 4 x72.toNatClampNeg)) (fun r76 =>
    (if (x72 - (1 : Int32)) < 0 ∨ 60 ≤ (x72 - (1 : Int32)).toNatClampNeg then none else
     nm (sA τ 4 (x72 - (1 : Int32)).toNatClampNeg r76) (fun t78 =>
     k225 t78 x72 x71 x_3 x_5 x_6))))))))
def fX7_side_225 (k21 : Tau → Int32 → Int32 → Int32 → Int32 → Int32 → Int32 → Option (Int32 × Tau)) : Nat → Tau → Int32 → Int32 → Int32 → Int32 → Int32 → Option (Int32 × Tau)
  | 0, _, _, _, _, _, _ => none
  | n + 1, τ, x_1, x_2, x_3, x_5, x_6 =>
     (if x_2 ≤ 0 then
     fX7_side_304 k21 τ x_1 x_2 x_3 x_5 x_6
     else
     (if (x_2 - (1 : Int32)) < 0 ∨ 60 ≤ (x_2 - (1 : Int32)).toNatClampNeg then none else
     (if tA τ 5 (x_2 - (1 : Int32)).toNatClampNeg = (38 : Int32) then
     fX7_side_264 k21 (fX7_side_225 k21 n) τ x_1 x_2 x_3 x_5 x_6
     else
     (if tI τ 0 10 = (124 : Int32) then
     (if (x_2 - (1 : Int32)) < 0 ∨ 60 ≤ (x_2 - (1 : Int32)).toNatClampNeg then none else
     (if tA τ 5 (x_2 - (1 : Int32)).toNatClampNeg = (124 : Int32) then
     fX7_side_264 k21 (fX7_side_225 k21 n) τ x_1 x_2 x_3 x_5 x_6
     else
     fX7_side_304 k21 τ x_1 x_2 x_3 x_5 x_6))
     else
     fX7_side_304 k21 τ x_1 x_2 x_3 x_5 x_6))))
def fX7_side_204 (k21 : Tau → Int32 → Int32 → Int32 → Int32 → Int32 → Int32 → Option (Int32 × Tau)) (τ : Tau) (x_1 : Int32) (x_2 : Int32) (x_3 : Int32) (x_4 : Int32) (x_5 : Int32) (x_6 : Int32) : Option (Int32 × Tau) :=
 fX7_side_419 k21 FU τ x_1 x_2 x_3 x_4 x_5 x_6
def fX7_side_161 (k21 : Tau → Int32 → Int32 → Int32 → Int32 → Int32 → Int32 → Option (Int32 × Tau)) (τ : Tau) (x_1 : Int32) (x_2 : Int32) (x_3 : Int32) (x_5 : Int32) (x_6 : Int32) (z_0 : Int32) : Option (Int32 × Tau) :=
 nm (sI τ 0 16 z_0) (fun t44 =>
     Option.bind (fX7_of t44 (tI t44 0 10 - (65 : Int32))) (fun r45 =>
    (if x_1 < 0 ∨ 60 ≤ x_1.toNatClampNeg then none else
     nm (sA t44 4 x_1.toNatClampNeg r45) (fun t47 =>
     nm (x_1 + (1 : Int32)) (fun x48 =>
     nm (sI t47 0 12 (tI t47 0 12 + (1 : Int32))) (fun t49 =>
     nm (x_6 + (1 : Int32)) (fun x50 =>
     Option.bind (fX7_advances t49) (fun r51 =>
     fX7_side_204 k21 r51 x48 x_2 x_3 (0 : Int32) x_5 x50))))))))
def fX7_side_102 (k21 : Tau → Int32 → Int32 → Int32 → Int32 → Int32 → Int32 → Option (Int32 × Tau)) (τ : Tau) (x_1 : Int32) (x_2 : Int32) (x_3 : Int32) (x_4 : Int32) (x_5 : Int32) (x_6 : Int32) (x_7 : Int32) : Option (Int32 × Tau) :=
 (if x_7 = 0 then
    (if x_6 = 0 then
     fX7_side_161 k21 τ x_1 x_2 x_3 x_5 x_6 (tI τ 0 10 - (65 : Int32))
     else
     fX7_side_161 k21 τ x_1 x_2 x_3 x_5 x_6 (-9 : Int32))
     else
    (if x_2 < 0 ∨ 60 ≤ x_2.toNatClampNeg then none else
     nm (sA τ 5 x_2.toNatClampNeg (tI τ 0 10)) (fun t38 =>
     nm (x_2 + (1 : Int32)) (fun x39 =>
     nm (x_3 + (1 : Int32)) (fun x40 =>
     nm (sI t38 0 12 (tI t38 0 12 + (1 : Int32))) (fun t41 =>
     nm (x_6 + (1 : Int32)) (fun x42 =>
     Option.bind (fX7_advances t41) (fun r43 =>
     fX7_side_204 k21 r43 x_1 x39 x40 x_4 x_5 x42))))))))
def fX7_side_95 (k21 : Tau → Int32 → Int32 → Int32 → Int32 → Int32 → Int32 → Option (Int32 × Tau)) (τ : Tau) (x_1 : Int32) (x_2 : Int32) (x_3 : Int32) (x_4 : Int32) (x_5 : Int32) (x_6 : Int32) : Option (Int32 × Tau) :=
 nm (fX7_fails τ) (fun r21 =>
     fX7_side_204 k21 r21 x_1 x_2 x_3 x_4 x_5 x_6)
def fX7_side_75 (k21 : Tau → Int32 → Int32 → Int32 → Int32 → Int32 → Int32 → Option (Int32 × Tau)) (τ : Tau) (x_1 : Int32) (x_2 : Int32) (x_3 : Int32) (x_4 : Int32) (x_5 : Int32) (x_6 : Int32) (x_7 : Int32) : Option (Int32 × Tau) :=
 (if tI τ 0 12 = (24 : Int32) then
     fX7_side_95 k21 τ x_1 x_2 x_3 x_4 x_5 x_6
     else
    (if x_7 = 0 then
     fX7_side_102 k21 τ x_1 x_2 x_3 x_4 x_5 x_6 x_7
     else
    (if x_3 = (8 : Int32) then
     fX7_side_95 k21 τ x_1 x_2 x_3 x_4 x_5 x_6
     else
     fX7_side_102 k21 τ x_1 x_2 x_3 x_4 x_5 x_6 x_7)))
def fX7_side_61 (k21 : Tau → Int32 → Int32 → Int32 → Int32 → Int32 → Int32 → Option (Int32 × Tau)) (τ : Tau) (x_1 : Int32) (x_2 : Int32) (x_3 : Int32) (x_4 : Int32) (x_5 : Int32) (x_6 : Int32) (z_0 : Int32) : Option (Int32 × Tau) :=
 (if z_0 = 0 then
     nm (fX7_isKindSign τ) (fun r19 =>
    (if bI r19 = 0 then
     fX7_side_95 k21 τ x_1 x_2 x_3 x_4 x_5 x_6
     else
     fX7_side_75 k21 τ x_1 x_2 x_3 x_4 x_5 x_6 z_0))
     else
     fX7_side_75 k21 τ x_1 x_2 x_3 x_4 x_5 x_6 z_0)
def fX7_side_56 (k21 : Tau → Int32 → Int32 → Int32 → Int32 → Int32 → Int32 → Option (Int32 × Tau)) (τ : Tau) (x_1 : Int32) (x_2 : Int32) (x_3 : Int32) (x_4 : Int32) (x_5 : Int32) (x_6 : Int32) : Option (Int32 × Tau) :=
 fX7_side_61 k21 τ x_1 x_2 x_3 x_4 x_5 x_6 (1 : Int32)
def fX7_side_21  : Nat → Tau → Int32 → Int32 → Int32 → Int32 → Int32 → Int32 → Option (Int32 × Tau)
  | 0, _, _, _, _, _, _, _ => none
  | n + 1, τ, x_1, x_2, x_3, x_4, x_5, x_6 =>
     (if x_5 = 0 then
     fX7_side_473 τ x_1 x_2
     else
     nm (fX7_isWell τ) (fun r3 =>
     (if bI r3 = 0 then
     fX7_side_473 τ x_1 x_2
     else
     (if x_4 = 0 then
     nm (fX7_isSign τ (38 : Int32)) (fun r6 =>
     (if bI r6 = 0 then
     nm (fX7_isSign τ (124 : Int32)) (fun r8 =>
     (if bI r8 = 0 then
     nm (fX7_isSign τ (41 : Int32)) (fun r10 =>
     (if bI r10 = 0 then
     fX7_side_416 (fX7_side_21 n) τ x_1 x_2 x_3 x_4 x_6
     else
     Option.bind (fX7_hasOpen τ x_2) (fun r12 =>
     (if bI r12 = 0 then
     fX7_side_416 (fX7_side_21 n) τ x_1 x_2 x_3 x_4 x_6
     else
     fX7_side_350 (fX7_side_21 n) FU τ x_1 x_2 x_3 x_4 x_5 x_6))))
     else
     fX7_side_225 (fX7_side_21 n) FU τ x_1 x_2 x_3 x_5 x_6))
     else
     fX7_side_225 (fX7_side_21 n) FU τ x_1 x_2 x_3 x_5 x_6))
     else
     nm (fX7_isSign τ (33 : Int32)) (fun r14 =>
     (if bI r14 = 0 then
     nm (fX7_isSign τ (40 : Int32)) (fun r16 =>
     (if bI r16 = 0 then
     fX7_side_61 (fX7_side_21 n) τ x_1 x_2 x_3 x_4 x_5 x_6 (0 : Int32)
     else
     fX7_side_56 (fX7_side_21 n) τ x_1 x_2 x_3 x_4 x_5 x_6))
     else
     fX7_side_56 (fX7_side_21 n) τ x_1 x_2 x_3 x_4 x_5 x_6))))))
def fX7_side  (τ : Tau) : Option (Int32 × Tau) :=
 nm (sI τ 0 16 (-9 : Int32)) (fun t1 =>
 fX7_side_21 FU t1 (0 : Int32) (0 : Int32) (0 : Int32) (1 : Int32) (1 : Int32) (0 : Int32))
set_option maxHeartbeats 4000000 in
set_option maxRecDepth 100000 in
theorem c_X7_side (l : Launch) (D : va_G) (cA : Nat → ClassId) (st ad : Nat → Nat) (a : Nat)  (τ : Tau) (R : (Int32 × Tau)) (hf : fX7_side τ = some R) : KE ΛM 12 D cA st ad l yX7_side cX7_side 8 (some .int) 4 91 [.ref (adr ad a 0)] a τ (some (.int R.1)) R.2 := by
  refine KE.of "KindSayingsModel" rfl (by decide) (Nat.le_of_ble_eq_true rfl) (fun p e s m args below meth c A ls Rm Q hE hRm hQ hw hl => ?_)
  obtain ⟨hx, hb, hml, hown, hts, -⟩ := id hE
  have hl : lv_has ls 8 [(0, .ref (adr ad a 0))] := hl
  have L543 : ∀ (τ : Tau) (H : Heap) (locs : List Loc) (ls : Array Slot), fX7_side_543 τ = some R → Wd ΛM 12 D cA ad A s a τ H locs → lv_has ls 8 [(0, .ref (adr ad a 0))] → W p l e Rm s m args below meth c H locs 0 0 Q (F0 m 543 ls []) := by
    intro τ H locs ls hf hw hl
    unfold fX7_side_543 at hf
    refine lv_aload_n hx hb dX7_side_543 rfl (lv_at hl 0 rfl) ?_
    refine ks_getR hE hw 0 14 ltM_0 lyM_0 rfl fd_X7_29 dX7_side_544 ?_
    refine lv_iconst (v := 0) hx hb dX7_side_547 (by decide) ?_
    obtain ⟨b100, hf⟩ := ks_ok hf
    refine ks_iald hE hw 4 ltM_4 lyM_4 b100 dX7_side_548 ?_
    replace hf := Option.some.inj hf
    subst hf
    exact ke_iret hE hw hQ dX7_side_549 rfl rfl
  have L492 : ∀ (n492 : Nat) (τ : Tau) (x_1 : Int32) (x_2 : Int32) (H : Heap) (locs : List Loc) (ls : Array Slot), fX7_side_492 n492 τ x_1 x_2 = some R → Wd ΛM 12 D cA ad A s a τ H locs → lv_has ls 8 [(0, .ref (adr ad a 0)), (1, .int x_1), (2, .int x_2)] → W p l e Rm s m args below meth c H locs 0 0 Q (F0 m 492 ls []) := by
    intro n492
    induction n492 with
    | zero => intro τ x_1 x_2 H locs ls hf hw hl; exact absurd hf (by rw [fX7_side_492]; simp)
    | succ n492 ih492 =>
      intro τ x_1 x_2 H locs ls hf hw hl
      rw [fX7_side_492] at hf
      refine lv_aload_n hx hb dX7_side_492 rfl (lv_at hl 0 rfl) ?_
      obtain ⟨r89, er89, hf⟩ := ks_nm hf
      refine ke_V hE hw hl.1 cl_X7_135 0 ltM_0 lyM_0 rfl [] (c_X7_isWell l D cA st ad a _ _ er89.symm) rfl (ke_room hRm rfl rfl) ke_cnt (Nat.le_of_ble_eq_true rfl) rfl dX7_side_493 (fun H locs hw => ?_)
      refine W.eq (g2 := F0 m 496 ls (.int (bI r89) :: [])) rfl ?_
      refine lv_if_eq (tgt := 543) hx hb dX7_side_496 (by decide) (fun c90 => ?_) (fun c90 => ?_)
      · have hf := (if_pos c90).symm.trans hf
        exact L543 _ _ _ _ hf hw (lv_sub hl [0] rfl)
      · have hf := (if_neg c90).symm.trans hf
        refine lv_iload_n hx hb dX7_side_499 rfl (lv_at hl 2 rfl) ?_
        refine lv_if_le (tgt := 543) hx hb dX7_side_500 (by decide) (fun c91 => ?_) (fun c91 => ?_)
        · have hf := (if_pos c91).symm.trans hf
          exact L543 _ _ _ _ hf hw (lv_sub hl [0] rfl)
        · have hf := (if_neg c91).symm.trans hf
          obtain ⟨x92, ex92, hf⟩ := ks_nm hf
          refine lv_iinc (v := x92) (lv' := [(2, .int x92), (0, .ref (adr ad a 0)), (1, .int x_1)]) hx hb dX7_side_503 hl (k := 2) rfl (by rw [ex92]; rfl) (by decide) rfl (fun ls hl => ?_)
          obtain ⟨x93, ex93, hf⟩ := ks_nm hf
          refine lv_iinc (v := x93) (lv' := [(1, .int x93), (2, .int x92), (0, .ref (adr ad a 0))]) hx hb dX7_side_506 hl (k := 2) rfl (by rw [ex93]; rfl) (by decide) rfl (fun ls hl => ?_)
          refine lv_aload_n hx hb dX7_side_509 rfl (lv_at hl 2 rfl) ?_
          refine ks_getR hE hw 0 14 ltM_0 lyM_0 rfl fd_X7_29 dX7_side_510 ?_
          refine lv_iload_n hx hb dX7_side_513 rfl (lv_at hl 0 rfl) ?_
          refine lv_iconst (v := 1) hx hb dX7_side_514 (by decide) ?_
          refine lv_isub hx hb dX7_side_515 ?_
          refine lv_aload_n hx hb dX7_side_516 rfl (lv_at hl 2 rfl) ?_
          refine ks_getR hE hw 0 15 ltM_0 lyM_0 rfl fd_X7_32 dX7_side_517 ?_
          refine lv_iload_n hx hb dX7_side_520 rfl (lv_at hl 1 rfl) ?_
          obtain ⟨b94, hf⟩ := ks_ok hf
          refine ks_iald hE hw 5 ltM_5 lyM_5 b94 dX7_side_521 ?_
          refine lv_aload_n hx hb dX7_side_522 rfl (lv_at hl 2 rfl) ?_
          refine ks_getR hE hw 0 14 ltM_0 lyM_0 rfl fd_X7_29 dX7_side_523 ?_
          refine lv_iload_n hx hb dX7_side_526 rfl (lv_at hl 0 rfl) ?_
          refine lv_iconst (v := 1) hx hb dX7_side_527 (by decide) ?_
          refine lv_isub hx hb dX7_side_528 ?_
          obtain ⟨b95, hf⟩ := ks_ok hf
          refine ks_iald hE hw 4 ltM_4 lyM_4 b95 dX7_side_529 ?_
          refine lv_aload_n hx hb dX7_side_530 rfl (lv_at hl 2 rfl) ?_
          refine ks_getR hE hw 0 14 ltM_0 lyM_0 rfl fd_X7_29 dX7_side_531 ?_
          refine lv_iload_n hx hb dX7_side_534 rfl (lv_at hl 0 rfl) ?_
          obtain ⟨b96, hf⟩ := ks_ok hf
          refine ks_iald hE hw 4 ltM_4 lyM_4 b96 dX7_side_535 ?_
          obtain ⟨r97, er97, hf⟩ := ks_nm hf
          refine ke_S hE hw hl.1 cl_X7_157 [.int (tA τ 5 x92.toNatClampNeg), .int (tA τ 4 (x93 - (1 : Int32)).toNatClampNeg), .int (tA τ 4 x93.toNatClampNeg)] (c_X7_joins l D cA st ad a _ _ _ _ _ er97.symm) rfl (ke_room hRm rfl rfl) ke_cnt (Nat.le_of_ble_eq_true rfl) rfl dX7_side_536 (fun H locs hw => ?_)
          refine W.eq (g2 := F0 m 539 ls (.int r97 :: .int (x93 - (1 : Int32)) :: .ref (adr ad a 4) :: [])) rfl ?_
          obtain ⟨b98, hf⟩ := ks_ok hf
          obtain ⟨t99, et99, hf⟩ := ks_nm hf
          refine ks_iast hE hw 4 ltM_4 lyM_4 b98 dX7_side_539 (fun H locs hw => ?_)
          rw [← et99] at hw
          refine lv_goto (tgt := 492) hx hb dX7_side_540 (by decide) ?_
          exact ih492 _ _ _ _ _ _ hf hw (lv_sub hl [2, 0, 1] rfl)
  have L473 : ∀ (τ : Tau) (x_1 : Int32) (x_2 : Int32) (H : Heap) (locs : List Loc) (ls : Array Slot), fX7_side_473 τ x_1 x_2 = some R → Wd ΛM 12 D cA ad A s a τ H locs → lv_has ls 8 [(0, .ref (adr ad a 0)), (1, .int x_1), (2, .int x_2)] → W p l e Rm s m args below meth c H locs 0 0 Q (F0 m 473 ls []) := by
    intro τ x_1 x_2 H locs ls hf hw hl
    unfold fX7_side_473 at hf
    refine lv_aload_n hx hb dX7_side_473 rfl (lv_at hl 0 rfl) ?_
    obtain ⟨r84, er84, hf⟩ := ks_nm hf
    refine ke_V hE hw hl.1 cl_X7_135 0 ltM_0 lyM_0 rfl [] (c_X7_isWell l D cA st ad a _ _ er84.symm) rfl (ke_room hRm rfl rfl) ke_cnt (Nat.le_of_ble_eq_true rfl) rfl dX7_side_474 (fun H locs hw => ?_)
    refine W.eq (g2 := F0 m 477 ls (.int (bI r84) :: [])) rfl ?_
    refine lv_if_eq (tgt := 492) hx hb dX7_side_477 (by decide) (fun c85 => ?_) (fun c85 => ?_)
    · have hf := (if_pos c85).symm.trans hf
      exact L492 FU _ _ _ _ _ _ hf hw (lv_sub hl [0, 1, 2] rfl)
    · have hf := (if_neg c85).symm.trans hf
      refine lv_aload_n hx hb dX7_side_480 rfl (lv_at hl 0 rfl) ?_
      refine lv_iload_n hx hb dX7_side_481 rfl (lv_at hl 2 rfl) ?_
      obtain ⟨r86, er86, hf⟩ := ks_bind hf
      refine ke_V hE hw hl.1 cl_X7_161 0 ltM_0 lyM_0 rfl [.int x_2] (c_X7_hasOpen l D cA st ad a _ _ _ er86) rfl (ke_room hRm rfl rfl) ke_cnt (Nat.le_of_ble_eq_true rfl) rfl dX7_side_482 (fun H locs hw => ?_)
      refine W.eq (g2 := F0 m 485 ls (.int (bI r86) :: [])) rfl ?_
      refine lv_if_eq (tgt := 492) hx hb dX7_side_485 (by decide) (fun c87 => ?_) (fun c87 => ?_)
      · have hf := (if_pos c87).symm.trans hf
        exact L492 FU _ _ _ _ _ _ hf hw (lv_sub hl [0, 1, 2] rfl)
      · have hf := (if_neg c87).symm.trans hf
        refine lv_aload_n hx hb dX7_side_488 rfl (lv_at hl 0 rfl) ?_
        obtain ⟨r88, er88, hf⟩ := ks_nm hf
        refine ke_V hE hw hl.1 cl_X7_151 0 ltM_0 lyM_0 rfl [] (c_X7_fails l D cA st ad a _ _ er88.symm) rfl (ke_room hRm rfl rfl) ke_cnt (Nat.le_of_ble_eq_true rfl) rfl dX7_side_489 (fun H locs hw => ?_)
        refine W.eq (g2 := F0 m 492 ls ([])) rfl ?_
        exact L492 FU _ _ _ _ _ _ hf hw (lv_sub hl [0, 1, 2] rfl)
  have L21 : ∀ (n21 : Nat) (τ : Tau) (x_1 : Int32) (x_2 : Int32) (x_3 : Int32) (x_4 : Int32) (x_5 : Int32) (x_6 : Int32) (H : Heap) (locs : List Loc) (ls : Array Slot), fX7_side_21 n21 τ x_1 x_2 x_3 x_4 x_5 x_6 = some R → Wd ΛM 12 D cA ad A s a τ H locs → lv_has ls 8 [(0, .ref (adr ad a 0)), (1, .int x_1), (2, .int x_2), (3, .int x_3), (4, .int x_4), (5, .int x_5), (6, .int x_6)] → W p l e Rm s m args below meth c H locs 0 0 Q (F0 m 21 ls []) := by
    intro n21
    induction n21 with
    | zero => intro τ x_1 x_2 x_3 x_4 x_5 x_6 H locs ls hf hw hl; exact absurd hf (by rw [fX7_side_21]; simp)
    | succ n21 ih21 =>
      have L419 : ∀ (n419 : Nat) (τ : Tau) (x_1 : Int32) (x_2 : Int32) (x_3 : Int32) (x_4 : Int32) (x_5 : Int32) (x_6 : Int32) (H : Heap) (locs : List Loc) (ls : Array Slot), fX7_side_419 (fX7_side_21 n21) n419 τ x_1 x_2 x_3 x_4 x_5 x_6 = some R → Wd ΛM 12 D cA ad A s a τ H locs → lv_has ls 8 [(0, .ref (adr ad a 0)), (1, .int x_1), (2, .int x_2), (3, .int x_3), (4, .int x_4), (5, .int x_5), (6, .int x_6)] → W p l e Rm s m args below meth c H locs 0 0 Q (F0 m 419 ls []) := by
        intro n419
        induction n419 with
        | zero => intro τ x_1 x_2 x_3 x_4 x_5 x_6 H locs ls hf hw hl; exact absurd hf (by rw [fX7_side_419]; simp)
        | succ n419 ih419 =>
          intro τ x_1 x_2 x_3 x_4 x_5 x_6 H locs ls hf hw hl
          rw [fX7_side_419] at hf
          refine lv_iload hx hb dX7_side_419 (lv_at hl 4 rfl) ?_
          refine lv_if_ne (tgt := 21) hx hb dX7_side_421 (by decide) (fun c22 => ?_) (fun c22 => ?_)
          · have hf := (if_neg c22).symm.trans hf
            exact ih21 _ _ _ _ _ _ _ _ _ _ hf hw (lv_sub hl [0, 1, 2, 3, 4, 5, 6] rfl)
          · have hf := (if_pos c22).symm.trans hf
            refine lv_iload_n hx hb dX7_side_424 rfl (lv_at hl 2 rfl) ?_
            refine lv_if_le (tgt := 21) hx hb dX7_side_425 (by decide) (fun c23 => ?_) (fun c23 => ?_)
            · have hf := (if_pos c23).symm.trans hf
              exact ih21 _ _ _ _ _ _ _ _ _ _ hf hw (lv_sub hl [0, 1, 2, 3, 4, 5, 6] rfl)
            · have hf := (if_neg c23).symm.trans hf
              refine lv_aload_n hx hb dX7_side_428 rfl (lv_at hl 0 rfl) ?_
              refine ks_getR hE hw 0 15 ltM_0 lyM_0 rfl fd_X7_32 dX7_side_429 ?_
              refine lv_iload_n hx hb dX7_side_432 rfl (lv_at hl 2 rfl) ?_
              refine lv_iconst (v := 1) hx hb dX7_side_433 (by decide) ?_
              refine lv_isub hx hb dX7_side_434 ?_
              obtain ⟨b24, hf⟩ := ks_ok hf
              refine ks_iald hE hw 5 ltM_5 lyM_5 b24 dX7_side_435 ?_
              refine lv_bipush (v := 33) hx hb dX7_side_436 (by decide) ?_
              refine lv_icmp_ne (tgt := 21) hx hb dX7_side_438 (by decide) (fun c25 => ?_) (fun c25 => ?_)
              · have hf := (if_neg c25).symm.trans hf
                exact ih21 _ _ _ _ _ _ _ _ _ _ hf hw (lv_sub hl [0, 1, 2, 3, 4, 5, 6] rfl)
              · have hf := (if_pos c25).symm.trans hf
                obtain ⟨x26, ex26, hf⟩ := ks_nm hf
                refine lv_iinc (v := x26) (lv' := [(2, .int x26), (0, .ref (adr ad a 0)), (1, .int x_1), (3, .int x_3), (4, .int x_4), (5, .int x_5), (6, .int x_6)]) hx hb dX7_side_441 hl (k := 2) rfl (by rw [ex26]; rfl) (by decide) rfl (fun ls hl => ?_)
                obtain ⟨x27, ex27, hf⟩ := ks_nm hf
                refine lv_iinc (v := x27) (lv' := [(3, .int x27), (2, .int x26), (0, .ref (adr ad a 0)), (1, .int x_1), (4, .int x_4), (5, .int x_5), (6, .int x_6)]) hx hb dX7_side_444 hl (k := 3) rfl (by rw [ex27]; rfl) (by decide) rfl (fun ls hl => ?_)
                refine lv_aload_n hx hb dX7_side_447 rfl (lv_at hl 2 rfl) ?_
                refine ks_getR hE hw 0 14 ltM_0 lyM_0 rfl fd_X7_29 dX7_side_448 ?_
                refine lv_iload_n hx hb dX7_side_451 rfl (lv_at hl 3 rfl) ?_
                refine lv_iconst (v := 1) hx hb dX7_side_452 (by decide) ?_
                refine lv_isub hx hb dX7_side_453 ?_
                refine lv_aload_n hx hb dX7_side_454 rfl (lv_at hl 2 rfl) ?_
                obtain ⟨r28, er28, hf⟩ := ks_nm hf
                refine ke_V hE hw hl.1 cl_X7_164 0 ltM_0 lyM_0 rfl [] (c_X7_every l D cA st ad a _ _ er28.symm) rfl (ke_room hRm rfl rfl) ke_cnt (Nat.le_of_ble_eq_true rfl) rfl dX7_side_455 (fun H locs hw => ?_)
                refine W.eq (g2 := F0 m 458 ls (.int r28 :: .int (x_1 - (1 : Int32)) :: .ref (adr ad a 4) :: [])) rfl ?_
                refine lv_aload_n hx hb dX7_side_458 rfl (lv_at hl 2 rfl) ?_
                refine ks_getR hE hw 0 14 ltM_0 lyM_0 rfl fd_X7_29 dX7_side_459 ?_
                refine lv_iload_n hx hb dX7_side_462 rfl (lv_at hl 3 rfl) ?_
                refine lv_iconst (v := 1) hx hb dX7_side_463 (by decide) ?_
                refine lv_isub hx hb dX7_side_464 ?_
                obtain ⟨b29, hf⟩ := ks_ok hf
                refine ks_iald hE hw 4 ltM_4 lyM_4 b29 dX7_side_465 ?_
                refine lv_iconst (v := (-1)) hx hb dX7_side_466 (by decide) ?_
                refine lv_ixor hx hb dX7_side_467 ?_
                refine lv_iand hx hb dX7_side_468 ?_
                obtain ⟨b30, hf⟩ := ks_ok hf
                obtain ⟨t31, et31, hf⟩ := ks_nm hf
                refine ks_iast hE hw 4 ltM_4 lyM_4 b30 dX7_side_469 (fun H locs hw => ?_)
                rw [← et31] at hw
                refine lv_goto (tgt := 419) hx hb dX7_side_470 (by decide) ?_
                exact ih419 _ _ _ _ _ _ _ _ _ _ hf hw (lv_sub hl [2, 3, 1, 0, 4, 5, 6] rfl)
      have L416 : ∀ (τ : Tau) (x_1 : Int32) (x_2 : Int32) (x_3 : Int32) (x_4 : Int32) (x_6 : Int32) (H : Heap) (locs : List Loc) (ls : Array Slot), fX7_side_416 (fX7_side_21 n21) τ x_1 x_2 x_3 x_4 x_6 = some R → Wd ΛM 12 D cA ad A s a τ H locs → lv_has ls 8 [(0, .ref (adr ad a 0)), (1, .int x_1), (2, .int x_2), (3, .int x_3), (4, .int x_4), (6, .int x_6)] → W p l e Rm s m args below meth c H locs 0 0 Q (F0 m 416 ls []) := by
        intro τ x_1 x_2 x_3 x_4 x_6 H locs ls hf hw hl
        unfold fX7_side_416 at hf
        refine lv_iconst (v := 0) hx hb dX7_side_416 (by decide) ?_
        refine lv_istore (lv' := [(5, .int (0 : Int32)), (0, .ref (adr ad a 0)), (1, .int x_1), (2, .int x_2), (3, .int x_3), (4, .int x_4), (6, .int x_6)]) hx hb dX7_side_417 hl (by decide) rfl (fun ls hl => ?_)
        exact L419 FU _ _ _ _ _ _ _ _ _ _ hf hw (lv_sub hl [1, 2, 3, 4, 5, 0, 6] rfl)
      have L350 : ∀ (n350 : Nat) (τ : Tau) (x_1 : Int32) (x_2 : Int32) (x_3 : Int32) (x_4 : Int32) (x_5 : Int32) (x_6 : Int32) (H : Heap) (locs : List Loc) (ls : Array Slot), fX7_side_350 (fX7_side_21 n21) n350 τ x_1 x_2 x_3 x_4 x_5 x_6 = some R → Wd ΛM 12 D cA ad A s a τ H locs → lv_has ls 8 [(0, .ref (adr ad a 0)), (1, .int x_1), (2, .int x_2), (3, .int x_3), (4, .int x_4), (5, .int x_5), (6, .int x_6)] → W p l e Rm s m args below meth c H locs 0 0 Q (F0 m 350 ls []) := by
        intro n350
        induction n350 with
        | zero => intro τ x_1 x_2 x_3 x_4 x_5 x_6 H locs ls hf hw hl; exact absurd hf (by rw [fX7_side_350]; simp)
        | succ n350 ih350 =>
          intro τ x_1 x_2 x_3 x_4 x_5 x_6 H locs ls hf hw hl
          rw [fX7_side_350] at hf
          refine lv_aload_n hx hb dX7_side_350 rfl (lv_at hl 0 rfl) ?_
          refine ks_getR hE hw 0 15 ltM_0 lyM_0 rfl fd_X7_32 dX7_side_351 ?_
          refine lv_iload_n hx hb dX7_side_354 rfl (lv_at hl 2 rfl) ?_
          refine lv_iconst (v := 1) hx hb dX7_side_355 (by decide) ?_
          refine lv_isub hx hb dX7_side_356 ?_
          obtain ⟨b52, hf⟩ := ks_ok hf
          refine ks_iald hE hw 5 ltM_5 lyM_5 b52 dX7_side_357 ?_
          refine lv_bipush (v := 40) hx hb dX7_side_358 (by decide) ?_
          refine lv_icmp_eq (tgt := 403) hx hb dX7_side_360 (by decide) (fun c53 => ?_) (fun c53 => ?_)
          · have hf := (if_pos c53).symm.trans hf
            obtain ⟨x54, ex54, hf⟩ := ks_nm hf
            refine lv_iinc (v := x54) (lv' := [(2, .int x54), (0, .ref (adr ad a 0)), (1, .int x_1), (3, .int x_3), (4, .int x_4), (5, .int x_5), (6, .int x_6)]) hx hb dX7_side_403 hl (k := 2) rfl (by rw [ex54]; rfl) (by decide) rfl (fun ls hl => ?_)
            obtain ⟨x55, ex55, hf⟩ := ks_nm hf
            refine lv_iinc (v := x55) (lv' := [(3, .int x55), (2, .int x54), (0, .ref (adr ad a 0)), (1, .int x_1), (4, .int x_4), (5, .int x_5), (6, .int x_6)]) hx hb dX7_side_406 hl (k := 3) rfl (by rw [ex55]; rfl) (by decide) rfl (fun ls hl => ?_)
            refine lv_aload_n hx hb dX7_side_409 rfl (lv_at hl 2 rfl) ?_
            obtain ⟨r56, er56, hf⟩ := ks_bind hf
            refine ke_V hE hw hl.1 cl_X7_154 0 ltM_0 lyM_0 rfl [] (c_X7_advances l D cA st ad a _ _ er56) rfl (ke_room hRm rfl rfl) ke_cnt (Nat.le_of_ble_eq_true rfl) rfl dX7_side_410 (fun H locs hw => ?_)
            refine W.eq (g2 := F0 m 413 ls ([])) rfl ?_
            refine lv_goto (tgt := 419) hx hb dX7_side_413 (by decide) ?_
            exact L419 FU _ _ _ _ _ _ _ _ _ _ hf hw (lv_sub hl [2, 3, 1, 0, 4, 5, 6] rfl)
          · have hf := (if_neg c53).symm.trans hf
            obtain ⟨x57, ex57, hf⟩ := ks_nm hf
            refine lv_iinc (v := x57) (lv' := [(2, .int x57), (0, .ref (adr ad a 0)), (1, .int x_1), (3, .int x_3), (4, .int x_4), (5, .int x_5), (6, .int x_6)]) hx hb dX7_side_363 hl (k := 2) rfl (by rw [ex57]; rfl) (by decide) rfl (fun ls hl => ?_)
            obtain ⟨x58, ex58, hf⟩ := ks_nm hf
            refine lv_iinc (v := x58) (lv' := [(1, .int x58), (2, .int x57), (0, .ref (adr ad a 0)), (3, .int x_3), (4, .int x_4), (5, .int x_5), (6, .int x_6)]) hx hb dX7_side_366 hl (k := 2) rfl (by rw [ex58]; rfl) (by decide) rfl (fun ls hl => ?_)
            refine lv_aload_n hx hb dX7_side_369 rfl (lv_at hl 2 rfl) ?_
            refine ks_getR hE hw 0 14 ltM_0 lyM_0 rfl fd_X7_29 dX7_side_370 ?_
            refine lv_iload_n hx hb dX7_side_373 rfl (lv_at hl 0 rfl) ?_
            refine lv_iconst (v := 1) hx hb dX7_side_374 (by decide) ?_
            refine lv_isub hx hb dX7_side_375 ?_
            refine lv_aload_n hx hb dX7_side_376 rfl (lv_at hl 2 rfl) ?_
            refine ks_getR hE hw 0 15 ltM_0 lyM_0 rfl fd_X7_32 dX7_side_377 ?_
            refine lv_iload_n hx hb dX7_side_380 rfl (lv_at hl 1 rfl) ?_
            obtain ⟨b59, hf⟩ := ks_ok hf
            refine ks_iald hE hw 5 ltM_5 lyM_5 b59 dX7_side_381 ?_
            refine lv_aload_n hx hb dX7_side_382 rfl (lv_at hl 2 rfl) ?_
            refine ks_getR hE hw 0 14 ltM_0 lyM_0 rfl fd_X7_29 dX7_side_383 ?_
            refine lv_iload_n hx hb dX7_side_386 rfl (lv_at hl 0 rfl) ?_
            refine lv_iconst (v := 1) hx hb dX7_side_387 (by decide) ?_
            refine lv_isub hx hb dX7_side_388 ?_
            obtain ⟨b60, hf⟩ := ks_ok hf
            refine ks_iald hE hw 4 ltM_4 lyM_4 b60 dX7_side_389 ?_
            refine lv_aload_n hx hb dX7_side_390 rfl (lv_at hl 2 rfl) ?_
            refine ks_getR hE hw 0 14 ltM_0 lyM_0 rfl fd_X7_29 dX7_side_391 ?_
            refine lv_iload_n hx hb dX7_side_394 rfl (lv_at hl 0 rfl) ?_
            obtain ⟨b61, hf⟩ := ks_ok hf
            refine ks_iald hE hw 4 ltM_4 lyM_4 b61 dX7_side_395 ?_
            obtain ⟨r62, er62, hf⟩ := ks_nm hf
            refine ke_S hE hw hl.1 cl_X7_157 [.int (tA τ 5 x57.toNatClampNeg), .int (tA τ 4 (x58 - (1 : Int32)).toNatClampNeg), .int (tA τ 4 x58.toNatClampNeg)] (c_X7_joins l D cA st ad a _ _ _ _ _ er62.symm) rfl (ke_room hRm rfl rfl) ke_cnt (Nat.le_of_ble_eq_true rfl) rfl dX7_side_396 (fun H locs hw => ?_)
            refine W.eq (g2 := F0 m 399 ls (.int r62 :: .int (x58 - (1 : Int32)) :: .ref (adr ad a 4) :: [])) rfl ?_
            obtain ⟨b63, hf⟩ := ks_ok hf
            obtain ⟨t64, et64, hf⟩ := ks_nm hf
            refine ks_iast hE hw 4 ltM_4 lyM_4 b63 dX7_side_399 (fun H locs hw => ?_)
            rw [← et64] at hw
            refine lv_goto (tgt := 350) hx hb dX7_side_400 (by decide) ?_
            exact ih350 _ _ _ _ _ _ _ _ _ _ hf hw (lv_sub hl [2, 0, 1, 3, 4, 5, 6] rfl)
      have L304 : ∀ (τ : Tau) (x_1 : Int32) (x_2 : Int32) (x_3 : Int32) (x_5 : Int32) (x_6 : Int32) (H : Heap) (locs : List Loc) (ls : Array Slot), fX7_side_304 (fX7_side_21 n21) τ x_1 x_2 x_3 x_5 x_6 = some R → Wd ΛM 12 D cA ad A s a τ H locs → lv_has ls 8 [(0, .ref (adr ad a 0)), (1, .int x_1), (2, .int x_2), (3, .int x_3), (5, .int x_5), (6, .int x_6)] → W p l e Rm s m args below meth c H locs 0 0 Q (F0 m 304 ls []) := by
        intro τ x_1 x_2 x_3 x_5 x_6 H locs ls hf hw hl
        unfold fX7_side_304 at hf
        refine lv_aload_n hx hb dX7_side_304 rfl (lv_at hl 0 rfl) ?_
        refine ks_getR hE hw 0 15 ltM_0 lyM_0 rfl fd_X7_32 dX7_side_305 ?_
        refine lv_iload_n hx hb dX7_side_308 rfl (lv_at hl 2 rfl) ?_
        refine lv_aload_n hx hb dX7_side_309 rfl (lv_at hl 0 rfl) ?_
        refine ks_getI hE hw 0 10 ltM_0 lyM_0 rfl fd_X7_129 dX7_side_310 ?_
        obtain ⟨b79, hf⟩ := ks_ok hf
        obtain ⟨t80, et80, hf⟩ := ks_nm hf
        refine ks_iast hE hw 5 ltM_5 lyM_5 b79 dX7_side_313 (fun H locs hw => ?_)
        rw [← et80] at hw
        obtain ⟨x81, ex81, hf⟩ := ks_nm hf
        refine lv_iinc (v := x81) (lv' := [(2, .int x81), (0, .ref (adr ad a 0)), (1, .int x_1), (3, .int x_3), (5, .int x_5), (6, .int x_6)]) hx hb dX7_side_314 hl (k := 2) rfl (by rw [ex81]; rfl) (by decide) rfl (fun ls hl => ?_)
        refine lv_aload_n hx hb dX7_side_317 rfl (lv_at hl 1 rfl) ?_
        refine lv_bipush (v := (-9)) hx hb dX7_side_318 (by decide) ?_
        obtain ⟨t82, et82, hf⟩ := ks_nm hf
        refine ks_putI hE hw 0 16 ltM_0 lyM_0 rfl fw_X7_139 rfl rfl dX7_side_320 (fun H locs hw => ?_)
        rw [← et82] at hw
        refine lv_iconst (v := 1) hx hb dX7_side_323 (by decide) ?_
        refine lv_istore (lv' := [(4, .int (1 : Int32)), (2, .int x81), (0, .ref (adr ad a 0)), (1, .int x_1), (3, .int x_3), (5, .int x_5), (6, .int x_6)]) hx hb dX7_side_324 hl (by decide) rfl (fun ls hl => ?_)
        refine lv_aload_n hx hb dX7_side_326 rfl (lv_at hl 2 rfl) ?_
        obtain ⟨r83, er83, hf⟩ := ks_bind hf
        refine ke_V hE hw hl.1 cl_X7_154 0 ltM_0 lyM_0 rfl [] (c_X7_advances l D cA st ad a _ _ er83) rfl (ke_room hRm rfl rfl) ke_cnt (Nat.le_of_ble_eq_true rfl) rfl dX7_side_327 (fun H locs hw => ?_)
        refine W.eq (g2 := F0 m 330 ls ([])) rfl ?_
        refine lv_goto (tgt := 419) hx hb dX7_side_330 (by decide) ?_
        exact L419 FU _ _ _ _ _ _ _ _ _ _ hf hw (lv_sub hl [2, 3, 1, 4, 0, 5, 6] rfl)
      have L225 : ∀ (n225 : Nat) (τ : Tau) (x_1 : Int32) (x_2 : Int32) (x_3 : Int32) (x_5 : Int32) (x_6 : Int32) (H : Heap) (locs : List Loc) (ls : Array Slot), fX7_side_225 (fX7_side_21 n21) n225 τ x_1 x_2 x_3 x_5 x_6 = some R → Wd ΛM 12 D cA ad A s a τ H locs → lv_has ls 8 [(0, .ref (adr ad a 0)), (1, .int x_1), (2, .int x_2), (3, .int x_3), (5, .int x_5), (6, .int x_6)] → W p l e Rm s m args below meth c H locs 0 0 Q (F0 m 225 ls []) := by
        intro n225
        induction n225 with
        | zero => intro τ x_1 x_2 x_3 x_5 x_6 H locs ls hf hw hl; exact absurd hf (by rw [fX7_side_225]; simp)
        | succ n225 ih225 =>
          have L264 : ∀ (τ : Tau) (x_1 : Int32) (x_2 : Int32) (x_3 : Int32) (x_5 : Int32) (x_6 : Int32) (H : Heap) (locs : List Loc) (ls : Array Slot), fX7_side_264 (fX7_side_21 n21) (fX7_side_225 (fX7_side_21 n21) n225) τ x_1 x_2 x_3 x_5 x_6 = some R → Wd ΛM 12 D cA ad A s a τ H locs → lv_has ls 8 [(0, .ref (adr ad a 0)), (1, .int x_1), (2, .int x_2), (3, .int x_3), (5, .int x_5), (6, .int x_6)] → W p l e Rm s m args below meth c H locs 0 0 Q (F0 m 264 ls []) := by
            intro τ x_1 x_2 x_3 x_5 x_6 H locs ls hf hw hl
            unfold fX7_side_264 at hf
            obtain ⟨x71, ex71, hf⟩ := ks_nm hf
            refine lv_iinc (v := x71) (lv' := [(2, .int x71), (0, .ref (adr ad a 0)), (1, .int x_1), (3, .int x_3), (5, .int x_5), (6, .int x_6)]) hx hb dX7_side_264 hl (k := 2) rfl (by rw [ex71]; rfl) (by decide) rfl (fun ls hl => ?_)
            obtain ⟨x72, ex72, hf⟩ := ks_nm hf
            refine lv_iinc (v := x72) (lv' := [(1, .int x72), (2, .int x71), (0, .ref (adr ad a 0)), (3, .int x_3), (5, .int x_5), (6, .int x_6)]) hx hb dX7_side_267 hl (k := 2) rfl (by rw [ex72]; rfl) (by decide) rfl (fun ls hl => ?_)
            refine lv_aload_n hx hb dX7_side_270 rfl (lv_at hl 2 rfl) ?_
            refine ks_getR hE hw 0 14 ltM_0 lyM_0 rfl fd_X7_29 dX7_side_271 ?_
            refine lv_iload_n hx hb dX7_side_274 rfl (lv_at hl 0 rfl) ?_
            refine lv_iconst (v := 1) hx hb dX7_side_275 (by decide) ?_
            refine lv_isub hx hb dX7_side_276 ?_
            refine lv_aload_n hx hb dX7_side_277 rfl (lv_at hl 2 rfl) ?_
            refine ks_getR hE hw 0 15 ltM_0 lyM_0 rfl fd_X7_32 dX7_side_278 ?_
            refine lv_iload_n hx hb dX7_side_281 rfl (lv_at hl 1 rfl) ?_
            obtain ⟨b73, hf⟩ := ks_ok hf
            refine ks_iald hE hw 5 ltM_5 lyM_5 b73 dX7_side_282 ?_
            refine lv_aload_n hx hb dX7_side_283 rfl (lv_at hl 2 rfl) ?_
            refine ks_getR hE hw 0 14 ltM_0 lyM_0 rfl fd_X7_29 dX7_side_284 ?_
            refine lv_iload_n hx hb dX7_side_287 rfl (lv_at hl 0 rfl) ?_
            refine lv_iconst (v := 1) hx hb dX7_side_288 (by decide) ?_
            refine lv_isub hx hb dX7_side_289 ?_
            obtain ⟨b74, hf⟩ := ks_ok hf
            refine ks_iald hE hw 4 ltM_4 lyM_4 b74 dX7_side_290 ?_
            refine lv_aload_n hx hb dX7_side_291 rfl (lv_at hl 2 rfl) ?_
            refine ks_getR hE hw 0 14 ltM_0 lyM_0 rfl fd_X7_29 dX7_side_292 ?_
            refine lv_iload_n hx hb dX7_side_295 rfl (lv_at hl 0 rfl) ?_
            obtain ⟨b75, hf⟩ := ks_ok hf
            refine ks_iald hE hw 4 ltM_4 lyM_4 b75 dX7_side_296 ?_
            obtain ⟨r76, er76, hf⟩ := ks_nm hf
            refine ke_S hE hw hl.1 cl_X7_157 [.int (tA τ 5 x71.toNatClampNeg), .int (tA τ 4 (x72 - (1 : Int32)).toNatClampNeg), .int (tA τ 4 x72.toNatClampNeg)] (c_X7_joins l D cA st ad a _ _ _ _ _ er76.symm) rfl (ke_room hRm rfl rfl) ke_cnt (Nat.le_of_ble_eq_true rfl) rfl dX7_side_297 (fun H locs hw => ?_)
            refine W.eq (g2 := F0 m 300 ls (.int r76 :: .int (x72 - (1 : Int32)) :: .ref (adr ad a 4) :: [])) rfl ?_
            obtain ⟨b77, hf⟩ := ks_ok hf
            obtain ⟨t78, et78, hf⟩ := ks_nm hf
            refine ks_iast hE hw 4 ltM_4 lyM_4 b77 dX7_side_300 (fun H locs hw => ?_)
            rw [← et78] at hw
            refine lv_goto (tgt := 225) hx hb dX7_side_301 (by decide) ?_
            exact ih225 _ _ _ _ _ _ _ _ _ hf hw (lv_sub hl [2, 0, 1, 3, 4, 5] rfl)
          intro τ x_1 x_2 x_3 x_5 x_6 H locs ls hf hw hl
          rw [fX7_side_225] at hf
          refine lv_iload_n hx hb dX7_side_225 rfl (lv_at hl 2 rfl) ?_
          refine lv_if_le (tgt := 304) hx hb dX7_side_226 (by decide) (fun c65 => ?_) (fun c65 => ?_)
          · have hf := (if_pos c65).symm.trans hf
            exact L304 _ _ _ _ _ _ _ _ _ hf hw (lv_sub hl [0, 1, 2, 3, 4, 5] rfl)
          · have hf := (if_neg c65).symm.trans hf
            refine lv_aload_n hx hb dX7_side_229 rfl (lv_at hl 0 rfl) ?_
            refine ks_getR hE hw 0 15 ltM_0 lyM_0 rfl fd_X7_32 dX7_side_230 ?_
            refine lv_iload_n hx hb dX7_side_233 rfl (lv_at hl 2 rfl) ?_
            refine lv_iconst (v := 1) hx hb dX7_side_234 (by decide) ?_
            refine lv_isub hx hb dX7_side_235 ?_
            obtain ⟨b66, hf⟩ := ks_ok hf
            refine ks_iald hE hw 5 ltM_5 lyM_5 b66 dX7_side_236 ?_
            refine lv_bipush (v := 38) hx hb dX7_side_237 (by decide) ?_
            refine lv_icmp_eq (tgt := 264) hx hb dX7_side_239 (by decide) (fun c67 => ?_) (fun c67 => ?_)
            · have hf := (if_pos c67).symm.trans hf
              exact L264 _ _ _ _ _ _ _ _ _ hf hw (lv_sub hl [0, 1, 2, 3, 4, 5] rfl)
            · have hf := (if_neg c67).symm.trans hf
              refine lv_aload_n hx hb dX7_side_242 rfl (lv_at hl 0 rfl) ?_
              refine ks_getI hE hw 0 10 ltM_0 lyM_0 rfl fd_X7_129 dX7_side_243 ?_
              refine lv_bipush (v := 124) hx hb dX7_side_246 (by decide) ?_
              refine lv_icmp_ne (tgt := 304) hx hb dX7_side_248 (by decide) (fun c68 => ?_) (fun c68 => ?_)
              · have hf := (if_neg c68).symm.trans hf
                exact L304 _ _ _ _ _ _ _ _ _ hf hw (lv_sub hl [0, 1, 2, 3, 4, 5] rfl)
              · have hf := (if_pos c68).symm.trans hf
                refine lv_aload_n hx hb dX7_side_251 rfl (lv_at hl 0 rfl) ?_
                refine ks_getR hE hw 0 15 ltM_0 lyM_0 rfl fd_X7_32 dX7_side_252 ?_
                refine lv_iload_n hx hb dX7_side_255 rfl (lv_at hl 2 rfl) ?_
                refine lv_iconst (v := 1) hx hb dX7_side_256 (by decide) ?_
                refine lv_isub hx hb dX7_side_257 ?_
                obtain ⟨b69, hf⟩ := ks_ok hf
                refine ks_iald hE hw 5 ltM_5 lyM_5 b69 dX7_side_258 ?_
                refine lv_bipush (v := 124) hx hb dX7_side_259 (by decide) ?_
                refine lv_icmp_ne (tgt := 304) hx hb dX7_side_261 (by decide) (fun c70 => ?_) (fun c70 => ?_)
                · have hf := (if_neg c70).symm.trans hf
                  exact L304 _ _ _ _ _ _ _ _ _ hf hw (lv_sub hl [0, 1, 2, 3, 4, 5] rfl)
                · have hf := (if_pos c70).symm.trans hf
                  exact L264 _ _ _ _ _ _ _ _ _ hf hw (lv_sub hl [0, 1, 2, 3, 4, 5] rfl)
      have L204 : ∀ (τ : Tau) (x_1 : Int32) (x_2 : Int32) (x_3 : Int32) (x_4 : Int32) (x_5 : Int32) (x_6 : Int32) (H : Heap) (locs : List Loc) (ls : Array Slot), fX7_side_204 (fX7_side_21 n21) τ x_1 x_2 x_3 x_4 x_5 x_6 = some R → Wd ΛM 12 D cA ad A s a τ H locs → lv_has ls 8 [(0, .ref (adr ad a 0)), (1, .int x_1), (2, .int x_2), (3, .int x_3), (4, .int x_4), (5, .int x_5), (6, .int x_6)] → W p l e Rm s m args below meth c H locs 0 0 Q (F0 m 204 ls []) := by
        intro τ x_1 x_2 x_3 x_4 x_5 x_6 H locs ls hf hw hl
        unfold fX7_side_204 at hf
        refine lv_goto (tgt := 419) hx hb dX7_side_204 (by decide) ?_
        exact L419 FU _ _ _ _ _ _ _ _ _ _ hf hw (lv_sub hl [0, 1, 2, 3, 4, 5, 6] rfl)
      have L161 : ∀ (τ : Tau) (x_1 : Int32) (x_2 : Int32) (x_3 : Int32) (x_5 : Int32) (x_6 : Int32) (z_0 : Int32) (H : Heap) (locs : List Loc) (ls : Array Slot), fX7_side_161 (fX7_side_21 n21) τ x_1 x_2 x_3 x_5 x_6 z_0 = some R → Wd ΛM 12 D cA ad A s a τ H locs → lv_has ls 8 [(0, .ref (adr ad a 0)), (1, .int x_1), (2, .int x_2), (3, .int x_3), (5, .int x_5), (6, .int x_6)] → W p l e Rm s m args below meth c H locs 0 0 Q (F0 m 161 ls [.int z_0, .ref (adr ad a 0)]) := by
        intro τ x_1 x_2 x_3 x_5 x_6 z_0 H locs ls hf hw hl
        unfold fX7_side_161 at hf
        obtain ⟨t44, et44, hf⟩ := ks_nm hf
        refine ks_putI hE hw 0 16 ltM_0 lyM_0 rfl fw_X7_139 rfl rfl dX7_side_161 (fun H locs hw => ?_)
        rw [← et44] at hw
        refine lv_aload_n hx hb dX7_side_164 rfl (lv_at hl 0 rfl) ?_
        refine ks_getR hE hw 0 14 ltM_0 lyM_0 rfl fd_X7_29 dX7_side_165 ?_
        refine lv_iload_n hx hb dX7_side_168 rfl (lv_at hl 1 rfl) ?_
        refine lv_aload_n hx hb dX7_side_169 rfl (lv_at hl 0 rfl) ?_
        refine lv_aload_n hx hb dX7_side_170 rfl (lv_at hl 0 rfl) ?_
        refine ks_getI hE hw 0 10 ltM_0 lyM_0 rfl fd_X7_129 dX7_side_171 ?_
        refine lv_bipush (v := 65) hx hb dX7_side_174 (by decide) ?_
        refine lv_isub hx hb dX7_side_176 ?_
        obtain ⟨r45, er45, hf⟩ := ks_bind hf
        refine ke_V hE hw hl.1 cl_X7_64 0 ltM_0 lyM_0 rfl [.int (tI t44 0 10 - (65 : Int32))] (c_X7_of l D cA st ad a _ _ _ er45) rfl (ke_room hRm rfl rfl) ke_cnt (Nat.le_of_ble_eq_true rfl) rfl dX7_side_177 (fun H locs hw => ?_)
        refine W.eq (g2 := F0 m 180 ls (.int r45 :: .int x_1 :: .ref (adr ad a 4) :: [])) rfl ?_
        obtain ⟨b46, hf⟩ := ks_ok hf
        obtain ⟨t47, et47, hf⟩ := ks_nm hf
        refine ks_iast hE hw 4 ltM_4 lyM_4 b46 dX7_side_180 (fun H locs hw => ?_)
        rw [← et47] at hw
        obtain ⟨x48, ex48, hf⟩ := ks_nm hf
        refine lv_iinc (v := x48) (lv' := [(1, .int x48), (0, .ref (adr ad a 0)), (2, .int x_2), (3, .int x_3), (5, .int x_5), (6, .int x_6)]) hx hb dX7_side_181 hl (k := 1) rfl (by rw [ex48]; rfl) (by decide) rfl (fun ls hl => ?_)
        refine lv_aload_n hx hb dX7_side_184 rfl (lv_at hl 1 rfl) ?_
        refine lv_dup hx hb dX7_side_185 rfl ?_
        refine ks_getI hE hw 0 12 ltM_0 lyM_0 rfl fd_X7_148 dX7_side_186 ?_
        refine lv_iconst (v := 1) hx hb dX7_side_189 (by decide) ?_
        refine lv_iadd hx hb dX7_side_190 ?_
        obtain ⟨t49, et49, hf⟩ := ks_nm hf
        refine ks_putI hE hw 0 12 ltM_0 lyM_0 rfl fw_X7_148 rfl rfl dX7_side_191 (fun H locs hw => ?_)
        rw [← et49] at hw
        obtain ⟨x50, ex50, hf⟩ := ks_nm hf
        refine lv_iinc (v := x50) (lv' := [(6, .int x50), (1, .int x48), (0, .ref (adr ad a 0)), (2, .int x_2), (3, .int x_3), (5, .int x_5)]) hx hb dX7_side_194 hl (k := 5) rfl (by rw [ex50]; rfl) (by decide) rfl (fun ls hl => ?_)
        refine lv_iconst (v := 0) hx hb dX7_side_197 (by decide) ?_
        refine lv_istore (lv' := [(4, .int (0 : Int32)), (6, .int x50), (1, .int x48), (0, .ref (adr ad a 0)), (2, .int x_2), (3, .int x_3), (5, .int x_5)]) hx hb dX7_side_198 hl (by decide) rfl (fun ls hl => ?_)
        refine lv_aload_n hx hb dX7_side_200 rfl (lv_at hl 3 rfl) ?_
        obtain ⟨r51, er51, hf⟩ := ks_bind hf
        refine ke_V hE hw hl.1 cl_X7_154 0 ltM_0 lyM_0 rfl [] (c_X7_advances l D cA st ad a _ _ er51) rfl (ke_room hRm rfl rfl) ke_cnt (Nat.le_of_ble_eq_true rfl) rfl dX7_side_201 (fun H locs hw => ?_)
        refine W.eq (g2 := F0 m 204 ls ([])) rfl ?_
        exact L204 _ _ _ _ _ _ _ _ _ _ hf hw (lv_sub hl [3, 2, 4, 5, 0, 6, 1] rfl)
      have L102 : ∀ (τ : Tau) (x_1 : Int32) (x_2 : Int32) (x_3 : Int32) (x_4 : Int32) (x_5 : Int32) (x_6 : Int32) (x_7 : Int32) (H : Heap) (locs : List Loc) (ls : Array Slot), fX7_side_102 (fX7_side_21 n21) τ x_1 x_2 x_3 x_4 x_5 x_6 x_7 = some R → Wd ΛM 12 D cA ad A s a τ H locs → lv_has ls 8 [(0, .ref (adr ad a 0)), (1, .int x_1), (2, .int x_2), (3, .int x_3), (4, .int x_4), (5, .int x_5), (6, .int x_6), (7, .int x_7)] → W p l e Rm s m args below meth c H locs 0 0 Q (F0 m 102 ls []) := by
        intro τ x_1 x_2 x_3 x_4 x_5 x_6 x_7 H locs ls hf hw hl
        unfold fX7_side_102 at hf
        refine lv_iload hx hb dX7_side_102 (lv_at hl 7 rfl) ?_
        refine lv_if_eq (tgt := 143) hx hb dX7_side_104 (by decide) (fun c35 => ?_) (fun c35 => ?_)
        · have hf := (if_pos c35).symm.trans hf
          refine lv_aload_n hx hb dX7_side_143 rfl (lv_at hl 0 rfl) ?_
          refine lv_iload hx hb dX7_side_144 (lv_at hl 6 rfl) ?_
          refine lv_if_ne (tgt := 159) hx hb dX7_side_146 (by decide) (fun c36 => ?_) (fun c36 => ?_)
          · have hf := (if_neg c36).symm.trans hf
            refine lv_bipush (v := (-9)) hx hb dX7_side_159 (by decide) ?_
            exact L161 _ _ _ _ _ _ _ _ _ _ hf hw (lv_sub hl [0, 1, 2, 3, 5, 6] rfl)
          · have hf := (if_pos c36).symm.trans hf
            refine lv_aload_n hx hb dX7_side_149 rfl (lv_at hl 0 rfl) ?_
            refine ks_getI hE hw 0 10 ltM_0 lyM_0 rfl fd_X7_129 dX7_side_150 ?_
            refine lv_bipush (v := 65) hx hb dX7_side_153 (by decide) ?_
            refine lv_isub hx hb dX7_side_155 ?_
            refine lv_goto (tgt := 161) hx hb dX7_side_156 (by decide) ?_
            exact L161 _ _ _ _ _ _ _ _ _ _ hf hw (lv_sub hl [0, 1, 2, 3, 5, 6] rfl)
        · have hf := (if_neg c35).symm.trans hf
          refine lv_aload_n hx hb dX7_side_107 rfl (lv_at hl 0 rfl) ?_
          refine ks_getR hE hw 0 15 ltM_0 lyM_0 rfl fd_X7_32 dX7_side_108 ?_
          refine lv_iload_n hx hb dX7_side_111 rfl (lv_at hl 2 rfl) ?_
          refine lv_aload_n hx hb dX7_side_112 rfl (lv_at hl 0 rfl) ?_
          refine ks_getI hE hw 0 10 ltM_0 lyM_0 rfl fd_X7_129 dX7_side_113 ?_
          obtain ⟨b37, hf⟩ := ks_ok hf
          obtain ⟨t38, et38, hf⟩ := ks_nm hf
          refine ks_iast hE hw 5 ltM_5 lyM_5 b37 dX7_side_116 (fun H locs hw => ?_)
          rw [← et38] at hw
          obtain ⟨x39, ex39, hf⟩ := ks_nm hf
          refine lv_iinc (v := x39) (lv' := [(2, .int x39), (0, .ref (adr ad a 0)), (1, .int x_1), (3, .int x_3), (4, .int x_4), (5, .int x_5), (6, .int x_6), (7, .int x_7)]) hx hb dX7_side_117 hl (k := 2) rfl (by rw [ex39]; rfl) (by decide) rfl (fun ls hl => ?_)
          obtain ⟨x40, ex40, hf⟩ := ks_nm hf
          refine lv_iinc (v := x40) (lv' := [(3, .int x40), (2, .int x39), (0, .ref (adr ad a 0)), (1, .int x_1), (4, .int x_4), (5, .int x_5), (6, .int x_6), (7, .int x_7)]) hx hb dX7_side_120 hl (k := 3) rfl (by rw [ex40]; rfl) (by decide) rfl (fun ls hl => ?_)
          refine lv_aload_n hx hb dX7_side_123 rfl (lv_at hl 2 rfl) ?_
          refine lv_dup hx hb dX7_side_124 rfl ?_
          refine ks_getI hE hw 0 12 ltM_0 lyM_0 rfl fd_X7_148 dX7_side_125 ?_
          refine lv_iconst (v := 1) hx hb dX7_side_128 (by decide) ?_
          refine lv_iadd hx hb dX7_side_129 ?_
          obtain ⟨t41, et41, hf⟩ := ks_nm hf
          refine ks_putI hE hw 0 12 ltM_0 lyM_0 rfl fw_X7_148 rfl rfl dX7_side_130 (fun H locs hw => ?_)
          rw [← et41] at hw
          obtain ⟨x42, ex42, hf⟩ := ks_nm hf
          refine lv_iinc (v := x42) (lv' := [(6, .int x42), (3, .int x40), (2, .int x39), (0, .ref (adr ad a 0)), (1, .int x_1), (4, .int x_4), (5, .int x_5), (7, .int x_7)]) hx hb dX7_side_133 hl (k := 6) rfl (by rw [ex42]; rfl) (by decide) rfl (fun ls hl => ?_)
          refine lv_aload_n hx hb dX7_side_136 rfl (lv_at hl 3 rfl) ?_
          obtain ⟨r43, er43, hf⟩ := ks_bind hf
          refine ke_V hE hw hl.1 cl_X7_154 0 ltM_0 lyM_0 rfl [] (c_X7_advances l D cA st ad a _ _ er43) rfl (ke_room hRm rfl rfl) ke_cnt (Nat.le_of_ble_eq_true rfl) rfl dX7_side_137 (fun H locs hw => ?_)
          refine W.eq (g2 := F0 m 140 ls ([])) rfl ?_
          refine lv_goto (tgt := 204) hx hb dX7_side_140 (by decide) ?_
          exact L204 _ _ _ _ _ _ _ _ _ _ hf hw (lv_sub hl [3, 4, 2, 1, 5, 6, 0] rfl)
      have L95 : ∀ (τ : Tau) (x_1 : Int32) (x_2 : Int32) (x_3 : Int32) (x_4 : Int32) (x_5 : Int32) (x_6 : Int32) (H : Heap) (locs : List Loc) (ls : Array Slot), fX7_side_95 (fX7_side_21 n21) τ x_1 x_2 x_3 x_4 x_5 x_6 = some R → Wd ΛM 12 D cA ad A s a τ H locs → lv_has ls 8 [(0, .ref (adr ad a 0)), (1, .int x_1), (2, .int x_2), (3, .int x_3), (4, .int x_4), (5, .int x_5), (6, .int x_6)] → W p l e Rm s m args below meth c H locs 0 0 Q (F0 m 95 ls []) := by
        intro τ x_1 x_2 x_3 x_4 x_5 x_6 H locs ls hf hw hl
        unfold fX7_side_95 at hf
        refine lv_aload_n hx hb dX7_side_95 rfl (lv_at hl 0 rfl) ?_
        obtain ⟨r21, er21, hf⟩ := ks_nm hf
        refine ke_V hE hw hl.1 cl_X7_151 0 ltM_0 lyM_0 rfl [] (c_X7_fails l D cA st ad a _ _ er21.symm) rfl (ke_room hRm rfl rfl) ke_cnt (Nat.le_of_ble_eq_true rfl) rfl dX7_side_96 (fun H locs hw => ?_)
        refine W.eq (g2 := F0 m 99 ls ([])) rfl ?_
        refine lv_goto (tgt := 204) hx hb dX7_side_99 (by decide) ?_
        exact L204 _ _ _ _ _ _ _ _ _ _ hf hw (lv_sub hl [0, 1, 2, 3, 4, 5, 6] rfl)
      have L75 : ∀ (τ : Tau) (x_1 : Int32) (x_2 : Int32) (x_3 : Int32) (x_4 : Int32) (x_5 : Int32) (x_6 : Int32) (x_7 : Int32) (H : Heap) (locs : List Loc) (ls : Array Slot), fX7_side_75 (fX7_side_21 n21) τ x_1 x_2 x_3 x_4 x_5 x_6 x_7 = some R → Wd ΛM 12 D cA ad A s a τ H locs → lv_has ls 8 [(0, .ref (adr ad a 0)), (1, .int x_1), (2, .int x_2), (3, .int x_3), (4, .int x_4), (5, .int x_5), (6, .int x_6), (7, .int x_7)] → W p l e Rm s m args below meth c H locs 0 0 Q (F0 m 75 ls []) := by
        intro τ x_1 x_2 x_3 x_4 x_5 x_6 x_7 H locs ls hf hw hl
        unfold fX7_side_75 at hf
        refine lv_aload_n hx hb dX7_side_75 rfl (lv_at hl 0 rfl) ?_
        refine ks_getI hE hw 0 12 ltM_0 lyM_0 rfl fd_X7_148 dX7_side_76 ?_
        refine lv_bipush (v := 24) hx hb dX7_side_79 (by decide) ?_
        refine lv_icmp_eq (tgt := 95) hx hb dX7_side_81 (by decide) (fun c32 => ?_) (fun c32 => ?_)
        · have hf := (if_pos c32).symm.trans hf
          exact L95 _ _ _ _ _ _ _ _ _ _ hf hw (lv_sub hl [0, 1, 2, 3, 4, 5, 6] rfl)
        · have hf := (if_neg c32).symm.trans hf
          refine lv_iload hx hb dX7_side_84 (lv_at hl 7 rfl) ?_
          refine lv_if_eq (tgt := 102) hx hb dX7_side_86 (by decide) (fun c33 => ?_) (fun c33 => ?_)
          · have hf := (if_pos c33).symm.trans hf
            exact L102 _ _ _ _ _ _ _ _ _ _ _ hf hw (lv_sub hl [0, 1, 2, 3, 4, 5, 6, 7] rfl)
          · have hf := (if_neg c33).symm.trans hf
            refine lv_iload_n hx hb dX7_side_89 rfl (lv_at hl 3 rfl) ?_
            refine lv_bipush (v := 8) hx hb dX7_side_90 (by decide) ?_
            refine lv_icmp_ne (tgt := 102) hx hb dX7_side_92 (by decide) (fun c34 => ?_) (fun c34 => ?_)
            · have hf := (if_neg c34).symm.trans hf
              exact L102 _ _ _ _ _ _ _ _ _ _ _ hf hw (lv_sub hl [0, 1, 2, 3, 4, 5, 6, 7] rfl)
            · have hf := (if_pos c34).symm.trans hf
              exact L95 _ _ _ _ _ _ _ _ _ _ hf hw (lv_sub hl [0, 1, 2, 3, 4, 5, 6] rfl)
      have L61 : ∀ (τ : Tau) (x_1 : Int32) (x_2 : Int32) (x_3 : Int32) (x_4 : Int32) (x_5 : Int32) (x_6 : Int32) (z_0 : Int32) (H : Heap) (locs : List Loc) (ls : Array Slot), fX7_side_61 (fX7_side_21 n21) τ x_1 x_2 x_3 x_4 x_5 x_6 z_0 = some R → Wd ΛM 12 D cA ad A s a τ H locs → lv_has ls 8 [(0, .ref (adr ad a 0)), (1, .int x_1), (2, .int x_2), (3, .int x_3), (4, .int x_4), (5, .int x_5), (6, .int x_6)] → W p l e Rm s m args below meth c H locs 0 0 Q (F0 m 61 ls [.int z_0]) := by
        intro τ x_1 x_2 x_3 x_4 x_5 x_6 z_0 H locs ls hf hw hl
        unfold fX7_side_61 at hf
        refine lv_istore (lv' := [(7, .int z_0), (0, .ref (adr ad a 0)), (1, .int x_1), (2, .int x_2), (3, .int x_3), (4, .int x_4), (5, .int x_5), (6, .int x_6)]) hx hb dX7_side_61 hl (by decide) rfl (fun ls hl => ?_)
        refine lv_iload hx hb dX7_side_63 (lv_at hl 0 rfl) ?_
        refine lv_if_ne (tgt := 75) hx hb dX7_side_65 (by decide) (fun c18 => ?_) (fun c18 => ?_)
        · have hf := (if_neg c18).symm.trans hf
          exact L75 _ _ _ _ _ _ _ _ _ _ _ hf hw (lv_sub hl [1, 2, 3, 4, 5, 6, 7, 0] rfl)
        · have hf := (if_pos c18).symm.trans hf
          refine lv_aload_n hx hb dX7_side_68 rfl (lv_at hl 1 rfl) ?_
          obtain ⟨r19, er19, hf⟩ := ks_nm hf
          refine ke_V hE hw hl.1 cl_X7_145 0 ltM_0 lyM_0 rfl [] (c_X7_isKindSign l D cA st ad a _ _ er19.symm) rfl (ke_room hRm rfl rfl) ke_cnt (Nat.le_of_ble_eq_true rfl) rfl dX7_side_69 (fun H locs hw => ?_)
          refine W.eq (g2 := F0 m 72 ls (.int (bI r19) :: [])) rfl ?_
          refine lv_if_eq (tgt := 95) hx hb dX7_side_72 (by decide) (fun c20 => ?_) (fun c20 => ?_)
          · have hf := (if_pos c20).symm.trans hf
            exact L95 _ _ _ _ _ _ _ _ _ _ hf hw (lv_sub hl [1, 2, 3, 4, 5, 6, 7] rfl)
          · have hf := (if_neg c20).symm.trans hf
            exact L75 _ _ _ _ _ _ _ _ _ _ _ hf hw (lv_sub hl [1, 2, 3, 4, 5, 6, 7, 0] rfl)
      have L56 : ∀ (τ : Tau) (x_1 : Int32) (x_2 : Int32) (x_3 : Int32) (x_4 : Int32) (x_5 : Int32) (x_6 : Int32) (H : Heap) (locs : List Loc) (ls : Array Slot), fX7_side_56 (fX7_side_21 n21) τ x_1 x_2 x_3 x_4 x_5 x_6 = some R → Wd ΛM 12 D cA ad A s a τ H locs → lv_has ls 8 [(0, .ref (adr ad a 0)), (1, .int x_1), (2, .int x_2), (3, .int x_3), (4, .int x_4), (5, .int x_5), (6, .int x_6)] → W p l e Rm s m args below meth c H locs 0 0 Q (F0 m 56 ls []) := by
        intro τ x_1 x_2 x_3 x_4 x_5 x_6 H locs ls hf hw hl
        unfold fX7_side_56 at hf
        refine lv_iconst (v := 1) hx hb dX7_side_56 (by decide) ?_
        refine lv_goto (tgt := 61) hx hb dX7_side_57 (by decide) ?_
        exact L61 _ _ _ _ _ _ _ _ _ _ _ hf hw (lv_sub hl [0, 1, 2, 3, 4, 5, 6] rfl)
      intro τ x_1 x_2 x_3 x_4 x_5 x_6 H locs ls hf hw hl
      rw [fX7_side_21] at hf
      refine lv_iload hx hb dX7_side_21 (lv_at hl 5 rfl) ?_
      refine lv_if_eq (tgt := 473) hx hb dX7_side_23 (by decide) (fun c2 => ?_) (fun c2 => ?_)
      · have hf := (if_pos c2).symm.trans hf
        exact L473 _ _ _ _ _ _ hf hw (lv_sub hl [0, 1, 2] rfl)
      · have hf := (if_neg c2).symm.trans hf
        refine lv_aload_n hx hb dX7_side_26 rfl (lv_at hl 0 rfl) ?_
        obtain ⟨r3, er3, hf⟩ := ks_nm hf
        refine ke_V hE hw hl.1 cl_X7_135 0 ltM_0 lyM_0 rfl [] (c_X7_isWell l D cA st ad a _ _ er3.symm) rfl (ke_room hRm rfl rfl) ke_cnt (Nat.le_of_ble_eq_true rfl) rfl dX7_side_27 (fun H locs hw => ?_)
        refine W.eq (g2 := F0 m 30 ls (.int (bI r3) :: [])) rfl ?_
        refine lv_if_eq (tgt := 473) hx hb dX7_side_30 (by decide) (fun c4 => ?_) (fun c4 => ?_)
        · have hf := (if_pos c4).symm.trans hf
          exact L473 _ _ _ _ _ _ hf hw (lv_sub hl [0, 1, 2] rfl)
        · have hf := (if_neg c4).symm.trans hf
          refine lv_iload hx hb dX7_side_33 (lv_at hl 4 rfl) ?_
          refine lv_if_eq (tgt := 207) hx hb dX7_side_35 (by decide) (fun c5 => ?_) (fun c5 => ?_)
          · have hf := (if_pos c5).symm.trans hf
            refine lv_aload_n hx hb dX7_side_207 rfl (lv_at hl 0 rfl) ?_
            refine lv_bipush (v := 38) hx hb dX7_side_208 (by decide) ?_
            obtain ⟨r6, er6, hf⟩ := ks_nm hf
            refine ke_V hE hw hl.1 cl_X7_142 0 ltM_0 lyM_0 rfl [.int (38 : Int32)] (c_X7_isSign l D cA st ad a _ _ _ er6.symm) rfl (ke_room hRm rfl rfl) ke_cnt (Nat.le_of_ble_eq_true rfl) rfl dX7_side_210 (fun H locs hw => ?_)
            refine W.eq (g2 := F0 m 213 ls (.int (bI r6) :: [])) rfl ?_
            refine lv_if_ne (tgt := 225) hx hb dX7_side_213 (by decide) (fun c7 => ?_) (fun c7 => ?_)
            · have hf := (if_neg c7).symm.trans hf
              exact L225 FU _ _ _ _ _ _ _ _ _ hf hw (lv_sub hl [0, 1, 2, 3, 5, 6] rfl)
            · have hf := (if_pos c7).symm.trans hf
              refine lv_aload_n hx hb dX7_side_216 rfl (lv_at hl 0 rfl) ?_
              refine lv_bipush (v := 124) hx hb dX7_side_217 (by decide) ?_
              obtain ⟨r8, er8, hf⟩ := ks_nm hf
              refine ke_V hE hw hl.1 cl_X7_142 0 ltM_0 lyM_0 rfl [.int (124 : Int32)] (c_X7_isSign l D cA st ad a _ _ _ er8.symm) rfl (ke_room hRm rfl rfl) ke_cnt (Nat.le_of_ble_eq_true rfl) rfl dX7_side_219 (fun H locs hw => ?_)
              refine W.eq (g2 := F0 m 222 ls (.int (bI r8) :: [])) rfl ?_
              refine lv_if_eq (tgt := 333) hx hb dX7_side_222 (by decide) (fun c9 => ?_) (fun c9 => ?_)
              · have hf := (if_pos c9).symm.trans hf
                refine lv_aload_n hx hb dX7_side_333 rfl (lv_at hl 0 rfl) ?_
                refine lv_bipush (v := 41) hx hb dX7_side_334 (by decide) ?_
                obtain ⟨r10, er10, hf⟩ := ks_nm hf
                refine ke_V hE hw hl.1 cl_X7_142 0 ltM_0 lyM_0 rfl [.int (41 : Int32)] (c_X7_isSign l D cA st ad a _ _ _ er10.symm) rfl (ke_room hRm rfl rfl) ke_cnt (Nat.le_of_ble_eq_true rfl) rfl dX7_side_336 (fun H locs hw => ?_)
                refine W.eq (g2 := F0 m 339 ls (.int (bI r10) :: [])) rfl ?_
                refine lv_if_eq (tgt := 416) hx hb dX7_side_339 (by decide) (fun c11 => ?_) (fun c11 => ?_)
                · have hf := (if_pos c11).symm.trans hf
                  exact L416 _ _ _ _ _ _ _ _ _ hf hw (lv_sub hl [0, 1, 2, 3, 4, 6] rfl)
                · have hf := (if_neg c11).symm.trans hf
                  refine lv_aload_n hx hb dX7_side_342 rfl (lv_at hl 0 rfl) ?_
                  refine lv_iload_n hx hb dX7_side_343 rfl (lv_at hl 2 rfl) ?_
                  obtain ⟨r12, er12, hf⟩ := ks_bind hf
                  refine ke_V hE hw hl.1 cl_X7_161 0 ltM_0 lyM_0 rfl [.int x_2] (c_X7_hasOpen l D cA st ad a _ _ _ er12) rfl (ke_room hRm rfl rfl) ke_cnt (Nat.le_of_ble_eq_true rfl) rfl dX7_side_344 (fun H locs hw => ?_)
                  refine W.eq (g2 := F0 m 347 ls (.int (bI r12) :: [])) rfl ?_
                  refine lv_if_eq (tgt := 416) hx hb dX7_side_347 (by decide) (fun c13 => ?_) (fun c13 => ?_)
                  · have hf := (if_pos c13).symm.trans hf
                    exact L416 _ _ _ _ _ _ _ _ _ hf hw (lv_sub hl [0, 1, 2, 3, 4, 6] rfl)
                  · have hf := (if_neg c13).symm.trans hf
                    exact L350 FU _ _ _ _ _ _ _ _ _ _ hf hw (lv_sub hl [0, 1, 2, 3, 4, 5, 6] rfl)
              · have hf := (if_neg c9).symm.trans hf
                exact L225 FU _ _ _ _ _ _ _ _ _ hf hw (lv_sub hl [0, 1, 2, 3, 5, 6] rfl)
          · have hf := (if_neg c5).symm.trans hf
            refine lv_aload_n hx hb dX7_side_38 rfl (lv_at hl 0 rfl) ?_
            refine lv_bipush (v := 33) hx hb dX7_side_39 (by decide) ?_
            obtain ⟨r14, er14, hf⟩ := ks_nm hf
            refine ke_V hE hw hl.1 cl_X7_142 0 ltM_0 lyM_0 rfl [.int (33 : Int32)] (c_X7_isSign l D cA st ad a _ _ _ er14.symm) rfl (ke_room hRm rfl rfl) ke_cnt (Nat.le_of_ble_eq_true rfl) rfl dX7_side_41 (fun H locs hw => ?_)
            refine W.eq (g2 := F0 m 44 ls (.int (bI r14) :: [])) rfl ?_
            refine lv_if_ne (tgt := 56) hx hb dX7_side_44 (by decide) (fun c15 => ?_) (fun c15 => ?_)
            · have hf := (if_neg c15).symm.trans hf
              exact L56 _ _ _ _ _ _ _ _ _ _ hf hw (lv_sub hl [0, 1, 2, 3, 4, 5, 6] rfl)
            · have hf := (if_pos c15).symm.trans hf
              refine lv_aload_n hx hb dX7_side_47 rfl (lv_at hl 0 rfl) ?_
              refine lv_bipush (v := 40) hx hb dX7_side_48 (by decide) ?_
              obtain ⟨r16, er16, hf⟩ := ks_nm hf
              refine ke_V hE hw hl.1 cl_X7_142 0 ltM_0 lyM_0 rfl [.int (40 : Int32)] (c_X7_isSign l D cA st ad a _ _ _ er16.symm) rfl (ke_room hRm rfl rfl) ke_cnt (Nat.le_of_ble_eq_true rfl) rfl dX7_side_50 (fun H locs hw => ?_)
              refine W.eq (g2 := F0 m 53 ls (.int (bI r16) :: [])) rfl ?_
              refine lv_if_eq (tgt := 60) hx hb dX7_side_53 (by decide) (fun c17 => ?_) (fun c17 => ?_)
              · have hf := (if_pos c17).symm.trans hf
                refine lv_iconst (v := 0) hx hb dX7_side_60 (by decide) ?_
                exact L61 _ _ _ _ _ _ _ _ _ _ _ hf hw (lv_sub hl [0, 1, 2, 3, 4, 5, 6] rfl)
              · have hf := (if_neg c17).symm.trans hf
                exact L56 _ _ _ _ _ _ _ _ _ _ hf hw (lv_sub hl [0, 1, 2, 3, 4, 5, 6] rfl)
  unfold fX7_side at hf
  refine lv_iconst (v := 0) hx hb dX7_side_0 (by decide) ?_
  refine lv_istore_n (lv' := [(1, .int (0 : Int32)), (0, .ref (adr ad a 0))]) hx hb dX7_side_1 rfl hl (by decide) rfl (fun ls hl => ?_)
  refine lv_iconst (v := 0) hx hb dX7_side_2 (by decide) ?_
  refine lv_istore_n (lv' := [(2, .int (0 : Int32)), (1, .int (0 : Int32)), (0, .ref (adr ad a 0))]) hx hb dX7_side_3 rfl hl (by decide) rfl (fun ls hl => ?_)
  refine lv_iconst (v := 0) hx hb dX7_side_4 (by decide) ?_
  refine lv_istore_n (lv' := [(3, .int (0 : Int32)), (2, .int (0 : Int32)), (1, .int (0 : Int32)), (0, .ref (adr ad a 0))]) hx hb dX7_side_5 rfl hl (by decide) rfl (fun ls hl => ?_)
  refine lv_iconst (v := 1) hx hb dX7_side_6 (by decide) ?_
  refine lv_istore (lv' := [(4, .int (1 : Int32)), (3, .int (0 : Int32)), (2, .int (0 : Int32)), (1, .int (0 : Int32)), (0, .ref (adr ad a 0))]) hx hb dX7_side_7 hl (by decide) rfl (fun ls hl => ?_)
  refine lv_iconst (v := 1) hx hb dX7_side_9 (by decide) ?_
  refine lv_istore (lv' := [(5, .int (1 : Int32)), (4, .int (1 : Int32)), (3, .int (0 : Int32)), (2, .int (0 : Int32)), (1, .int (0 : Int32)), (0, .ref (adr ad a 0))]) hx hb dX7_side_10 hl (by decide) rfl (fun ls hl => ?_)
  refine lv_iconst (v := 0) hx hb dX7_side_12 (by decide) ?_
  refine lv_istore (lv' := [(6, .int (0 : Int32)), (5, .int (1 : Int32)), (4, .int (1 : Int32)), (3, .int (0 : Int32)), (2, .int (0 : Int32)), (1, .int (0 : Int32)), (0, .ref (adr ad a 0))]) hx hb dX7_side_13 hl (by decide) rfl (fun ls hl => ?_)
  refine lv_aload_n hx hb dX7_side_15 rfl (lv_at hl 6 rfl) ?_
  refine lv_bipush (v := (-9)) hx hb dX7_side_16 (by decide) ?_
  obtain ⟨t1, et1, hf⟩ := ks_nm hf
  refine ks_putI hE hw 0 16 ltM_0 lyM_0 rfl fw_X7_139 rfl rfl dX7_side_18 (fun H locs hw => ?_)
  rw [← et1] at hw
  exact L21 FU _ _ _ _ _ _ _ _ _ _ hf hw (lv_sub hl [6, 5, 4, 3, 2, 1, 0] rfl)
def fX7_read_393 (p1 : Int32) (τ : Tau) (z_0 : Int32) (z_1 : Int32) : Option (Int32 × Tau) :=
 (if z_1 < 0 ∨ 60 ≤ z_1.toNatClampNeg then none else
     nm (sA τ 3 z_1.toNatClampNeg z_0) (fun t61 =>
     nm (sI t61 0 17 (0 : Int32)) (fun t62 =>
     some ((1 : Int32), t62))))
def fX7_read_391 (p1 : Int32) (τ : Tau) (z_0 : Int32) : Option (Int32 × Tau) :=
 fX7_read_393 p1 τ (-9 : Int32) z_0
def fX7_read_346 (p1 : Int32) (τ : Tau) (x_3 : Int32) (x_6 : Int32) (x_8 : Int32) (x_9 : Int32) (z_0 : Int32) : Option (Int32 × Tau) :=
 (if (3 : Int32) ≤ x_3 then
     fX7_read_391 p1 τ (x_9 + (5 : Int32))
     else
    (if x_6 = (-9 : Int32) then
     fX7_read_391 p1 τ (x_9 + (5 : Int32))
     else
    (if x_8 = (-9 : Int32) then
     fX7_read_391 p1 τ (x_9 + (5 : Int32))
     else
     fX7_read_393 p1 τ ((((16 : Int32) * z_0) + ((4 : Int32) * x_6)) + x_8) (x_9 + (5 : Int32)))))
def fX7_read_303 (p1 : Int32) (τ : Tau) (x_2 : Int32) (x_3 : Int32) (x_6 : Int32) (x_8 : Int32) (x_9 : Int32) (z_0 : Int32) (z_1 : Int32) : Option (Int32 × Tau) :=
 (if z_1 < 0 ∨ 60 ≤ z_1.toNatClampNeg then none else
     nm (sA τ 3 z_1.toNatClampNeg z_0) (fun t51 =>
    (if x_3 = 0 then
    (if x_2 = 0 then
     fX7_read_346 p1 t51 x_3 x_6 x_8 x_9 (0 : Int32)
     else
     fX7_read_346 p1 t51 x_3 x_6 x_8 x_9 (3 : Int32))
     else
    (if x_3 = (1 : Int32) then
    (if x_2 = 0 then
     fX7_read_346 p1 t51 x_3 x_6 x_8 x_9 (1 : Int32)
     else
     fX7_read_346 p1 t51 x_3 x_6 x_8 x_9 (2 : Int32))
     else
    (if x_2 = 0 then
     fX7_read_346 p1 t51 x_3 x_6 x_8 x_9 (2 : Int32)
     else
     fX7_read_346 p1 t51 x_3 x_6 x_8 x_9 (1 : Int32))))))
def fX7_read_219 (p1 : Int32) (τ : Tau) (x_2 : Int32) (x_3 : Int32) (x_4 : Int32) (x_5 : Int32) (x_6 : Int32) (x_7 : Int32) (x_8 : Int32) : Option (Int32 × Tau) :=
 nm (fX7_isWell τ) (fun r37 =>
    (if bI r37 = 0 then
     some (((-10 : Int32) - tI τ 0 11), τ)
     else
     nm (sI τ 0 6 (0 : Int32)) (fun t39 =>
     nm ((6 : Int32) * p1) (fun x40 =>
    (if x40 < 0 ∨ 60 ≤ x40.toNatClampNeg then none else
     nm (sA t39 3 x40.toNatClampNeg x_3) (fun t42 =>
    (if (x40 + (1 : Int32)) < 0 ∨ 60 ≤ (x40 + (1 : Int32)).toNatClampNeg then none else
     nm (sA t42 3 (x40 + (1 : Int32)).toNatClampNeg x_5) (fun t44 =>
    (if (x40 + (2 : Int32)) < 0 ∨ 60 ≤ (x40 + (2 : Int32)).toNatClampNeg then none else
     nm (sA t44 3 (x40 + (2 : Int32)).toNatClampNeg x_7) (fun t46 =>
    (if (x40 + (3 : Int32)) < 0 ∨ 60 ≤ (x40 + (3 : Int32)).toNatClampNeg then none else
     nm (sA t46 3 (x40 + (3 : Int32)).toNatClampNeg x_4) (fun t48 =>
    (if x_2 = 0 then
     fX7_read_303 p1 t48 x_2 x_3 x_6 x_8 x40 (0 : Int32) (x40 + (4 : Int32))
     else
     fX7_read_303 p1 t48 x_2 x_3 x_6 x_8 x40 (1 : Int32) (x40 + (4 : Int32)))))))))))))))
def fX7_read_200 (p1 : Int32) (τ : Tau) (x_2 : Int32) (x_3 : Int32) (x_4 : Int32) (x_5 : Int32) (x_6 : Int32) (z_0 : Int32) : Option (Int32 × Tau) :=
 nm (tI τ 0 16) (fun x34 =>
    (if tI τ 0 8 = 0 then
     fX7_read_219 p1 τ x_2 x_3 x_4 x_5 x_6 z_0 x34
     else
     nm (fX7_fails τ) (fun r36 =>
     fX7_read_219 p1 r36 x_2 x_3 x_4 x_5 x_6 z_0 x34)))
def fX7_read_185 (p1 : Int32) (τ : Tau) (x_2 : Int32) (x_3 : Int32) (x_4 : Int32) (x_5 : Int32) (x_6 : Int32) : Option (Int32 × Tau) :=
 nm (fX7_isWell τ) (fun r31 =>
    (if bI r31 = 0 then
     fX7_read_200 p1 τ x_2 x_3 x_4 x_5 x_6 (0 : Int32)
     else
     Option.bind (fX7_side τ) (fun r33 =>
     fX7_read_200 p1 r33.2 x_2 x_3 x_4 x_5 x_6 r33.1)))
def fX7_read_153 (p1 : Int32) (τ : Tau) (x_2 : Int32) (x_3 : Int32) (x_4 : Int32) : Option (Int32 × Tau) :=
 Option.bind (fX7_side τ) (fun r25 =>
     nm (tI r25.2 0 16) (fun x26 =>
     nm (fX7_isSign r25.2 (58 : Int32)) (fun r27 =>
    (if bI r27 = 0 then
     nm (fX7_fails r25.2) (fun r29 =>
     fX7_read_185 p1 r29 x_2 x_3 x_4 r25.1 x26)
     else
     Option.bind (fX7_advances r25.2) (fun r30 =>
     fX7_read_185 p1 r30 x_2 x_3 x_4 r25.1 x26)))))
def fX7_read_149 (p1 : Int32) (τ : Tau) (x_2 : Int32) (x_3 : Int32) (x_4 : Int32) : Option (Int32 × Tau) :=
 nm (fX7_fails τ) (fun r24 =>
     fX7_read_153 p1 r24 x_2 x_3 x_4)
def fX7_read_119 (p1 : Int32) (τ : Tau) (x_2 : Int32) (x_3 : Int32) (x_4 : Int32) : Option (Int32 × Tau) :=
 (if tI τ 0 8 = (2 : Int32) then
    (if (7 : Int32) ≤ tI τ 0 10 then
     fX7_read_149 p1 τ x_2 x_3 x_4
     else
     nm (tI τ 0 10) (fun x22 =>
     Option.bind (fX7_advances τ) (fun r23 =>
     fX7_read_153 p1 r23 x_2 x_3 x22)))
     else
     fX7_read_149 p1 τ x_2 x_3 x_4)
def fX7_read_102 (p1 : Int32) (τ : Tau) (x_2 : Int32) (x_3 : Int32) (x_4 : Int32) : Option (Int32 × Tau) :=
 nm (fX7_isWell τ) (fun r16 =>
    (if bI r16 = 0 then
     fX7_read_153 p1 τ x_2 x_3 x_4
     else
    (if x_3 = (4 : Int32) then
     fX7_read_119 p1 τ x_2 x_3 x_4
     else
    (if x_3 = (5 : Int32) then
     fX7_read_119 p1 τ x_2 x_3 x_4
     else
     fX7_read_153 p1 τ x_2 x_3 x_4))))
def fX7_read_81 (p1 : Int32) (τ : Tau) (x_2 : Int32) (z_0 : Int32) : Option (Int32 × Tau) :=
 (if z_0 = (8 : Int32) then
     nm (fX7_fails τ) (fun r15 =>
     fX7_read_102 p1 r15 x_2 z_0 (0 : Int32))
     else
     Option.bind (fX7_advances τ) (fun r14 =>
     fX7_read_102 p1 r14 x_2 z_0 (0 : Int32)))
def fX7_read_64 (p1 : Int32) (τ : Tau) (x_2 : Int32) : Option (Int32 × Tau) :=
 (if tI τ 0 8 = (1 : Int32) then
     fX7_read_81 p1 τ x_2 (tI τ 0 10)
     else
     fX7_read_81 p1 τ x_2 (8 : Int32))
def fX7_read_55 (p1 : Int32) (τ : Tau) (z_0 : Int32) : Option (Int32 × Tau) :=
 (if z_0 = 0 then
     fX7_read_64 p1 τ z_0
     else
     Option.bind (fX7_advances τ) (fun r11 =>
     fX7_read_64 p1 r11 z_0))
def fX7_read_54 (p1 : Int32) (τ : Tau) : Option (Int32 × Tau) :=
 fX7_read_55 p1 τ (0 : Int32)
def fX7_read  (τ : Tau) (p1 : Int32) : Option (Int32 × Tau) :=
 nm (sI τ 0 0 (0 : Int32)) (fun t1 =>
 nm (fX7_isSaying p1) (fun r2 =>
 (if bI r2 = 0 then
 some ((-1 : Int32), t1)
 else
 nm (sI t1 0 11 (-1 : Int32)) (fun t4 =>
 nm (sI t4 0 7 (0 : Int32)) (fun t5 =>
 nm (sI t5 0 12 (0 : Int32)) (fun t6 =>
 Option.bind (fX7_advances t6) (fun r7 =>
 (if tI r7 0 8 = (1 : Int32) then
 (if tI r7 0 10 = (8 : Int32) then
 fX7_read_55 p1 r7 (1 : Int32)
 else
 fX7_read_54 p1 r7)
 else
 fX7_read_54 p1 r7))))))))
set_option maxHeartbeats 4000000 in
set_option maxRecDepth 100000 in
theorem c_X7_read (l : Launch) (D : va_G) (cA : Nat → ClassId) (st ad : Nat → Nat) (a : Nat)  (τ : Tau) (p1 : Int32) (R : (Int32 × Tau)) (hf : fX7_read τ p1 = some R) : KE ΛM 12 D cA st ad l yX7_read cX7_read 11 (some .int) 5 118 [.ref (adr ad a 0), .int p1] a τ (some (.int R.1)) R.2 := by
  refine KE.of "KindSayingsModel" rfl (by decide) (Nat.le_of_ble_eq_true rfl) (fun p e s m args below meth c A ls Rm Q hE hRm hQ hw hl => ?_)
  obtain ⟨hx, hb, hml, hown, hts, -⟩ := id hE
  have hl : lv_has ls 11 [(0, .ref (adr ad a 0)), (1, .int p1)] := hl
  have L393 : ∀ (τ : Tau) (z_0 : Int32) (z_1 : Int32) (H : Heap) (locs : List Loc) (ls : Array Slot), fX7_read_393 p1 τ z_0 z_1 = some R → Wd ΛM 12 D cA ad A s a τ H locs → lv_has ls 11 [(0, .ref (adr ad a 0))] → W p l e Rm s m args below meth c H locs 0 0 Q (F0 m 393 ls [.int z_0, .int z_1, .ref (adr ad a 3)]) := by
    intro τ z_0 z_1 H locs ls hf hw hl
    unfold fX7_read_393 at hf
    obtain ⟨b60, hf⟩ := ks_ok hf
    obtain ⟨t61, et61, hf⟩ := ks_nm hf
    refine ks_iast hE hw 3 ltM_3 lyM_3 b60 dX7_read_393 (fun H locs hw => ?_)
    rw [← et61] at hw
    refine lv_aload_n hx hb dX7_read_394 rfl (lv_at hl 0 rfl) ?_
    refine lv_iconst (v := 0) hx hb dX7_read_395 (by decide) ?_
    obtain ⟨t62, et62, hf⟩ := ks_nm hf
    refine ks_putI hE hw 0 17 ltM_0 lyM_0 rfl fw_X7_68 (nar_bool (Or.inl rfl)).1 (nar_bool (Or.inl rfl)).2 dX7_read_396 (fun H locs hw => ?_)
    rw [← et62] at hw
    refine lv_iconst (v := 1) hx hb dX7_read_399 (by decide) ?_
    replace hf := Option.some.inj hf
    subst hf
    exact ke_iret hE hw hQ dX7_read_400 rfl rfl
  have L391 : ∀ (τ : Tau) (z_0 : Int32) (H : Heap) (locs : List Loc) (ls : Array Slot), fX7_read_391 p1 τ z_0 = some R → Wd ΛM 12 D cA ad A s a τ H locs → lv_has ls 11 [(0, .ref (adr ad a 0))] → W p l e Rm s m args below meth c H locs 0 0 Q (F0 m 391 ls [.int z_0, .ref (adr ad a 3)]) := by
    intro τ z_0 H locs ls hf hw hl
    unfold fX7_read_391 at hf
    refine lv_bipush (v := (-9)) hx hb dX7_read_391 (by decide) ?_
    exact L393 _ _ _ _ _ _ hf hw (lv_sub hl [0] rfl)
  have L346 : ∀ (τ : Tau) (x_3 : Int32) (x_6 : Int32) (x_8 : Int32) (x_9 : Int32) (z_0 : Int32) (H : Heap) (locs : List Loc) (ls : Array Slot), fX7_read_346 p1 τ x_3 x_6 x_8 x_9 z_0 = some R → Wd ΛM 12 D cA ad A s a τ H locs → lv_has ls 11 [(0, .ref (adr ad a 0)), (3, .int x_3), (6, .int x_6), (8, .int x_8), (9, .int x_9)] → W p l e Rm s m args below meth c H locs 0 0 Q (F0 m 346 ls [.int z_0]) := by
    intro τ x_3 x_6 x_8 x_9 z_0 H locs ls hf hw hl
    unfold fX7_read_346 at hf
    refine lv_istore (lv' := [(10, .int z_0), (0, .ref (adr ad a 0)), (3, .int x_3), (6, .int x_6), (8, .int x_8), (9, .int x_9)]) hx hb dX7_read_346 hl (by decide) rfl (fun ls hl => ?_)
    refine lv_aload_n hx hb dX7_read_348 rfl (lv_at hl 1 rfl) ?_
    refine ks_getR hE hw 0 13 ltM_0 lyM_0 rfl fd_X7_26 dX7_read_349 ?_
    refine lv_iload hx hb dX7_read_352 (lv_at hl 5 rfl) ?_
    refine lv_iconst (v := 5) hx hb dX7_read_354 (by decide) ?_
    refine lv_iadd hx hb dX7_read_355 ?_
    refine lv_iload_n hx hb dX7_read_356 rfl (lv_at hl 2 rfl) ?_
    refine lv_iconst (v := 3) hx hb dX7_read_357 (by decide) ?_
    refine lv_icmp_ge (tgt := 391) hx hb dX7_read_358 (by decide) (fun c57 => ?_) (fun c57 => ?_)
    · have hf := (if_pos c57).symm.trans hf
      exact L391 _ _ _ _ _ hf hw (lv_sub hl [1] rfl)
    · have hf := (if_neg c57).symm.trans hf
      refine lv_iload hx hb dX7_read_361 (lv_at hl 3 rfl) ?_
      refine lv_bipush (v := (-9)) hx hb dX7_read_363 (by decide) ?_
      refine lv_icmp_eq (tgt := 391) hx hb dX7_read_365 (by decide) (fun c58 => ?_) (fun c58 => ?_)
      · have hf := (if_pos c58).symm.trans hf
        exact L391 _ _ _ _ _ hf hw (lv_sub hl [1] rfl)
      · have hf := (if_neg c58).symm.trans hf
        refine lv_iload hx hb dX7_read_368 (lv_at hl 4 rfl) ?_
        refine lv_bipush (v := (-9)) hx hb dX7_read_370 (by decide) ?_
        refine lv_icmp_eq (tgt := 391) hx hb dX7_read_372 (by decide) (fun c59 => ?_) (fun c59 => ?_)
        · have hf := (if_pos c59).symm.trans hf
          exact L391 _ _ _ _ _ hf hw (lv_sub hl [1] rfl)
        · have hf := (if_neg c59).symm.trans hf
          refine lv_bipush (v := 16) hx hb dX7_read_375 (by decide) ?_
          refine lv_iload hx hb dX7_read_377 (lv_at hl 0 rfl) ?_
          refine lv_imul hx hb dX7_read_379 ?_
          refine lv_iconst (v := 4) hx hb dX7_read_380 (by decide) ?_
          refine lv_iload hx hb dX7_read_381 (lv_at hl 3 rfl) ?_
          refine lv_imul hx hb dX7_read_383 ?_
          refine lv_iadd hx hb dX7_read_384 ?_
          refine lv_iload hx hb dX7_read_385 (lv_at hl 4 rfl) ?_
          refine lv_iadd hx hb dX7_read_387 ?_
          refine lv_goto (tgt := 393) hx hb dX7_read_388 (by decide) ?_
          exact L393 _ _ _ _ _ _ hf hw (lv_sub hl [1] rfl)
  have L303 : ∀ (τ : Tau) (x_2 : Int32) (x_3 : Int32) (x_6 : Int32) (x_8 : Int32) (x_9 : Int32) (z_0 : Int32) (z_1 : Int32) (H : Heap) (locs : List Loc) (ls : Array Slot), fX7_read_303 p1 τ x_2 x_3 x_6 x_8 x_9 z_0 z_1 = some R → Wd ΛM 12 D cA ad A s a τ H locs → lv_has ls 11 [(0, .ref (adr ad a 0)), (2, .int x_2), (3, .int x_3), (6, .int x_6), (8, .int x_8), (9, .int x_9)] → W p l e Rm s m args below meth c H locs 0 0 Q (F0 m 303 ls [.int z_0, .int z_1, .ref (adr ad a 3)]) := by
    intro τ x_2 x_3 x_6 x_8 x_9 z_0 z_1 H locs ls hf hw hl
    unfold fX7_read_303 at hf
    obtain ⟨b50, hf⟩ := ks_ok hf
    obtain ⟨t51, et51, hf⟩ := ks_nm hf
    refine ks_iast hE hw 3 ltM_3 lyM_3 b50 dX7_read_303 (fun H locs hw => ?_)
    rw [← et51] at hw
    refine lv_iload_n hx hb dX7_read_304 rfl (lv_at hl 2 rfl) ?_
    refine lv_if_ne (tgt := 320) hx hb dX7_read_305 (by decide) (fun c52 => ?_) (fun c52 => ?_)
    · have hf := (if_neg c52).symm.trans hf
      refine lv_iload_n hx hb dX7_read_320 rfl (lv_at hl 2 rfl) ?_
      refine lv_iconst (v := 1) hx hb dX7_read_321 (by decide) ?_
      refine lv_icmp_ne (tgt := 337) hx hb dX7_read_322 (by decide) (fun c53 => ?_) (fun c53 => ?_)
      · have hf := (if_neg c53).symm.trans hf
        refine lv_iload_n hx hb dX7_read_337 rfl (lv_at hl 1 rfl) ?_
        refine lv_if_eq (tgt := 345) hx hb dX7_read_338 (by decide) (fun c54 => ?_) (fun c54 => ?_)
        · have hf := (if_pos c54).symm.trans hf
          refine lv_iconst (v := 2) hx hb dX7_read_345 (by decide) ?_
          exact L346 _ _ _ _ _ _ _ _ _ hf hw (lv_sub hl [0, 2, 3, 4, 5] rfl)
        · have hf := (if_neg c54).symm.trans hf
          refine lv_iconst (v := 1) hx hb dX7_read_341 (by decide) ?_
          refine lv_goto (tgt := 346) hx hb dX7_read_342 (by decide) ?_
          exact L346 _ _ _ _ _ _ _ _ _ hf hw (lv_sub hl [0, 2, 3, 4, 5] rfl)
      · have hf := (if_pos c53).symm.trans hf
        refine lv_iload_n hx hb dX7_read_325 rfl (lv_at hl 1 rfl) ?_
        refine lv_if_eq (tgt := 333) hx hb dX7_read_326 (by decide) (fun c55 => ?_) (fun c55 => ?_)
        · have hf := (if_pos c55).symm.trans hf
          refine lv_iconst (v := 1) hx hb dX7_read_333 (by decide) ?_
          refine lv_goto (tgt := 346) hx hb dX7_read_334 (by decide) ?_
          exact L346 _ _ _ _ _ _ _ _ _ hf hw (lv_sub hl [0, 2, 3, 4, 5] rfl)
        · have hf := (if_neg c55).symm.trans hf
          refine lv_iconst (v := 2) hx hb dX7_read_329 (by decide) ?_
          refine lv_goto (tgt := 346) hx hb dX7_read_330 (by decide) ?_
          exact L346 _ _ _ _ _ _ _ _ _ hf hw (lv_sub hl [0, 2, 3, 4, 5] rfl)
    · have hf := (if_pos c52).symm.trans hf
      refine lv_iload_n hx hb dX7_read_308 rfl (lv_at hl 1 rfl) ?_
      refine lv_if_eq (tgt := 316) hx hb dX7_read_309 (by decide) (fun c56 => ?_) (fun c56 => ?_)
      · have hf := (if_pos c56).symm.trans hf
        refine lv_iconst (v := 0) hx hb dX7_read_316 (by decide) ?_
        refine lv_goto (tgt := 346) hx hb dX7_read_317 (by decide) ?_
        exact L346 _ _ _ _ _ _ _ _ _ hf hw (lv_sub hl [0, 2, 3, 4, 5] rfl)
      · have hf := (if_neg c56).symm.trans hf
        refine lv_iconst (v := 3) hx hb dX7_read_312 (by decide) ?_
        refine lv_goto (tgt := 346) hx hb dX7_read_313 (by decide) ?_
        exact L346 _ _ _ _ _ _ _ _ _ hf hw (lv_sub hl [0, 2, 3, 4, 5] rfl)
  have L219 : ∀ (τ : Tau) (x_2 : Int32) (x_3 : Int32) (x_4 : Int32) (x_5 : Int32) (x_6 : Int32) (x_7 : Int32) (x_8 : Int32) (H : Heap) (locs : List Loc) (ls : Array Slot), fX7_read_219 p1 τ x_2 x_3 x_4 x_5 x_6 x_7 x_8 = some R → Wd ΛM 12 D cA ad A s a τ H locs → lv_has ls 11 [(0, .ref (adr ad a 0)), (1, .int p1), (2, .int x_2), (3, .int x_3), (4, .int x_4), (5, .int x_5), (6, .int x_6), (7, .int x_7), (8, .int x_8)] → W p l e Rm s m args below meth c H locs 0 0 Q (F0 m 219 ls []) := by
    intro τ x_2 x_3 x_4 x_5 x_6 x_7 x_8 H locs ls hf hw hl
    unfold fX7_read_219 at hf
    refine lv_aload_n hx hb dX7_read_219 rfl (lv_at hl 0 rfl) ?_
    obtain ⟨r37, er37, hf⟩ := ks_nm hf
    refine ke_V hE hw hl.1 cl_X7_135 0 ltM_0 lyM_0 rfl [] (c_X7_isWell l D cA st ad a _ _ er37.symm) rfl (ke_room hRm rfl rfl) ke_cnt (Nat.le_of_ble_eq_true rfl) rfl dX7_read_220 (fun H locs hw => ?_)
    refine W.eq (g2 := F0 m 223 ls (.int (bI r37) :: [])) rfl ?_
    refine lv_if_ne (tgt := 234) hx hb dX7_read_223 (by decide) (fun c38 => ?_) (fun c38 => ?_)
    · have hf := (if_neg c38).symm.trans hf
      refine lv_aload_n hx hb dX7_read_234 rfl (lv_at hl 0 rfl) ?_
      refine lv_iconst (v := 0) hx hb dX7_read_235 (by decide) ?_
      obtain ⟨t39, et39, hf⟩ := ks_nm hf
      refine ks_putI hE hw 0 6 ltM_0 lyM_0 rfl fw_X7_98 rfl rfl dX7_read_236 (fun H locs hw => ?_)
      rw [← et39] at hw
      refine lv_bipush (v := 6) hx hb dX7_read_239 (by decide) ?_
      refine lv_iload_n hx hb dX7_read_241 rfl (lv_at hl 1 rfl) ?_
      refine lv_imul hx hb dX7_read_242 ?_
      obtain ⟨x40, ex40, hf⟩ := ks_nm hf
      refine W.eq (g2 := F0 m 243 ls (.int x40 :: [])) (by rw [ex40]) ?_
      refine lv_istore (lv' := [(9, .int x40), (0, .ref (adr ad a 0)), (1, .int p1), (2, .int x_2), (3, .int x_3), (4, .int x_4), (5, .int x_5), (6, .int x_6), (7, .int x_7), (8, .int x_8)]) hx hb dX7_read_243 hl (by decide) rfl (fun ls hl => ?_)
      refine lv_aload_n hx hb dX7_read_245 rfl (lv_at hl 1 rfl) ?_
      refine ks_getR hE hw 0 13 ltM_0 lyM_0 rfl fd_X7_26 dX7_read_246 ?_
      refine lv_iload hx hb dX7_read_249 (lv_at hl 0 rfl) ?_
      refine lv_iload_n hx hb dX7_read_251 rfl (lv_at hl 4 rfl) ?_
      obtain ⟨b41, hf⟩ := ks_ok hf
      obtain ⟨t42, et42, hf⟩ := ks_nm hf
      refine ks_iast hE hw 3 ltM_3 lyM_3 b41 dX7_read_252 (fun H locs hw => ?_)
      rw [← et42] at hw
      refine lv_aload_n hx hb dX7_read_253 rfl (lv_at hl 1 rfl) ?_
      refine ks_getR hE hw 0 13 ltM_0 lyM_0 rfl fd_X7_26 dX7_read_254 ?_
      refine lv_iload hx hb dX7_read_257 (lv_at hl 0 rfl) ?_
      refine lv_iconst (v := 1) hx hb dX7_read_259 (by decide) ?_
      refine lv_iadd hx hb dX7_read_260 ?_
      refine lv_iload hx hb dX7_read_261 (lv_at hl 6 rfl) ?_
      obtain ⟨b43, hf⟩ := ks_ok hf
      obtain ⟨t44, et44, hf⟩ := ks_nm hf
      refine ks_iast hE hw 3 ltM_3 lyM_3 b43 dX7_read_263 (fun H locs hw => ?_)
      rw [← et44] at hw
      refine lv_aload_n hx hb dX7_read_264 rfl (lv_at hl 1 rfl) ?_
      refine ks_getR hE hw 0 13 ltM_0 lyM_0 rfl fd_X7_26 dX7_read_265 ?_
      refine lv_iload hx hb dX7_read_268 (lv_at hl 0 rfl) ?_
      refine lv_iconst (v := 2) hx hb dX7_read_270 (by decide) ?_
      refine lv_iadd hx hb dX7_read_271 ?_
      refine lv_iload hx hb dX7_read_272 (lv_at hl 8 rfl) ?_
      obtain ⟨b45, hf⟩ := ks_ok hf
      obtain ⟨t46, et46, hf⟩ := ks_nm hf
      refine ks_iast hE hw 3 ltM_3 lyM_3 b45 dX7_read_274 (fun H locs hw => ?_)
      rw [← et46] at hw
      refine lv_aload_n hx hb dX7_read_275 rfl (lv_at hl 1 rfl) ?_
      refine ks_getR hE hw 0 13 ltM_0 lyM_0 rfl fd_X7_26 dX7_read_276 ?_
      refine lv_iload hx hb dX7_read_279 (lv_at hl 0 rfl) ?_
      refine lv_iconst (v := 3) hx hb dX7_read_281 (by decide) ?_
      refine lv_iadd hx hb dX7_read_282 ?_
      refine lv_iload hx hb dX7_read_283 (lv_at hl 5 rfl) ?_
      obtain ⟨b47, hf⟩ := ks_ok hf
      obtain ⟨t48, et48, hf⟩ := ks_nm hf
      refine ks_iast hE hw 3 ltM_3 lyM_3 b47 dX7_read_285 (fun H locs hw => ?_)
      rw [← et48] at hw
      refine lv_aload_n hx hb dX7_read_286 rfl (lv_at hl 1 rfl) ?_
      refine ks_getR hE hw 0 13 ltM_0 lyM_0 rfl fd_X7_26 dX7_read_287 ?_
      refine lv_iload hx hb dX7_read_290 (lv_at hl 0 rfl) ?_
      refine lv_iconst (v := 4) hx hb dX7_read_292 (by decide) ?_
      refine lv_iadd hx hb dX7_read_293 ?_
      refine lv_iload_n hx hb dX7_read_294 rfl (lv_at hl 3 rfl) ?_
      refine lv_if_eq (tgt := 302) hx hb dX7_read_295 (by decide) (fun c49 => ?_) (fun c49 => ?_)
      · have hf := (if_pos c49).symm.trans hf
        refine lv_iconst (v := 0) hx hb dX7_read_302 (by decide) ?_
        exact L303 _ _ _ _ _ _ _ _ _ _ _ hf hw (lv_sub hl [1, 3, 4, 7, 9, 0] rfl)
      · have hf := (if_neg c49).symm.trans hf
        refine lv_iconst (v := 1) hx hb dX7_read_298 (by decide) ?_
        refine lv_goto (tgt := 303) hx hb dX7_read_299 (by decide) ?_
        exact L303 _ _ _ _ _ _ _ _ _ _ _ hf hw (lv_sub hl [1, 3, 4, 7, 9, 0] rfl)
    · have hf := (if_pos c38).symm.trans hf
      refine lv_bipush (v := (-10)) hx hb dX7_read_226 (by decide) ?_
      refine lv_aload_n hx hb dX7_read_228 rfl (lv_at hl 0 rfl) ?_
      refine ks_getI hE hw 0 11 ltM_0 lyM_0 rfl fd_X7_132 dX7_read_229 ?_
      refine lv_isub hx hb dX7_read_232 ?_
      replace hf := Option.some.inj hf
      subst hf
      exact ke_iret hE hw hQ dX7_read_233 rfl rfl
  have L200 : ∀ (τ : Tau) (x_2 : Int32) (x_3 : Int32) (x_4 : Int32) (x_5 : Int32) (x_6 : Int32) (z_0 : Int32) (H : Heap) (locs : List Loc) (ls : Array Slot), fX7_read_200 p1 τ x_2 x_3 x_4 x_5 x_6 z_0 = some R → Wd ΛM 12 D cA ad A s a τ H locs → lv_has ls 11 [(0, .ref (adr ad a 0)), (1, .int p1), (2, .int x_2), (3, .int x_3), (4, .int x_4), (5, .int x_5), (6, .int x_6)] → W p l e Rm s m args below meth c H locs 0 0 Q (F0 m 200 ls [.int z_0]) := by
    intro τ x_2 x_3 x_4 x_5 x_6 z_0 H locs ls hf hw hl
    unfold fX7_read_200 at hf
    refine lv_istore (lv' := [(7, .int z_0), (0, .ref (adr ad a 0)), (1, .int p1), (2, .int x_2), (3, .int x_3), (4, .int x_4), (5, .int x_5), (6, .int x_6)]) hx hb dX7_read_200 hl (by decide) rfl (fun ls hl => ?_)
    refine lv_aload_n hx hb dX7_read_202 rfl (lv_at hl 1 rfl) ?_
    refine ks_getI hE hw 0 16 ltM_0 lyM_0 rfl fd_X7_139 dX7_read_203 ?_
    obtain ⟨x34, ex34, hf⟩ := ks_nm hf
    refine W.eq (g2 := F0 m 206 ls (.int x34 :: [])) (by rw [ex34]) ?_
    refine lv_istore (lv' := [(8, .int x34), (7, .int z_0), (0, .ref (adr ad a 0)), (1, .int p1), (2, .int x_2), (3, .int x_3), (4, .int x_4), (5, .int x_5), (6, .int x_6)]) hx hb dX7_read_206 hl (by decide) rfl (fun ls hl => ?_)
    refine lv_aload_n hx hb dX7_read_208 rfl (lv_at hl 2 rfl) ?_
    refine ks_getI hE hw 0 8 ltM_0 lyM_0 rfl fd_X7_122 dX7_read_209 ?_
    refine lv_if_eq (tgt := 219) hx hb dX7_read_212 (by decide) (fun c35 => ?_) (fun c35 => ?_)
    · have hf := (if_pos c35).symm.trans hf
      exact L219 _ _ _ _ _ _ _ _ _ _ _ hf hw (lv_sub hl [2, 3, 4, 5, 6, 7, 8, 1, 0] rfl)
    · have hf := (if_neg c35).symm.trans hf
      refine lv_aload_n hx hb dX7_read_215 rfl (lv_at hl 2 rfl) ?_
      obtain ⟨r36, er36, hf⟩ := ks_nm hf
      refine ke_V hE hw hl.1 cl_X7_151 0 ltM_0 lyM_0 rfl [] (c_X7_fails l D cA st ad a _ _ er36.symm) rfl (ke_room hRm rfl rfl) ke_cnt (Nat.le_of_ble_eq_true rfl) rfl dX7_read_216 (fun H locs hw => ?_)
      refine W.eq (g2 := F0 m 219 ls ([])) rfl ?_
      exact L219 _ _ _ _ _ _ _ _ _ _ _ hf hw (lv_sub hl [2, 3, 4, 5, 6, 7, 8, 1, 0] rfl)
  have L185 : ∀ (τ : Tau) (x_2 : Int32) (x_3 : Int32) (x_4 : Int32) (x_5 : Int32) (x_6 : Int32) (H : Heap) (locs : List Loc) (ls : Array Slot), fX7_read_185 p1 τ x_2 x_3 x_4 x_5 x_6 = some R → Wd ΛM 12 D cA ad A s a τ H locs → lv_has ls 11 [(0, .ref (adr ad a 0)), (1, .int p1), (2, .int x_2), (3, .int x_3), (4, .int x_4), (5, .int x_5), (6, .int x_6)] → W p l e Rm s m args below meth c H locs 0 0 Q (F0 m 185 ls []) := by
    intro τ x_2 x_3 x_4 x_5 x_6 H locs ls hf hw hl
    unfold fX7_read_185 at hf
    refine lv_aload_n hx hb dX7_read_185 rfl (lv_at hl 0 rfl) ?_
    obtain ⟨r31, er31, hf⟩ := ks_nm hf
    refine ke_V hE hw hl.1 cl_X7_135 0 ltM_0 lyM_0 rfl [] (c_X7_isWell l D cA st ad a _ _ er31.symm) rfl (ke_room hRm rfl rfl) ke_cnt (Nat.le_of_ble_eq_true rfl) rfl dX7_read_186 (fun H locs hw => ?_)
    refine W.eq (g2 := F0 m 189 ls (.int (bI r31) :: [])) rfl ?_
    refine lv_if_eq (tgt := 199) hx hb dX7_read_189 (by decide) (fun c32 => ?_) (fun c32 => ?_)
    · have hf := (if_pos c32).symm.trans hf
      refine lv_iconst (v := 0) hx hb dX7_read_199 (by decide) ?_
      exact L200 _ _ _ _ _ _ _ _ _ _ hf hw (lv_sub hl [0, 1, 2, 3, 4, 5, 6] rfl)
    · have hf := (if_neg c32).symm.trans hf
      refine lv_aload_n hx hb dX7_read_192 rfl (lv_at hl 0 rfl) ?_
      obtain ⟨r33, er33, hf⟩ := ks_bind hf
      refine ke_V hE hw hl.1 cl_X7_167 0 ltM_0 lyM_0 rfl [] (c_X7_side l D cA st ad a _ _ er33) rfl (ke_room hRm rfl rfl) ke_cnt (Nat.le_of_ble_eq_true rfl) rfl dX7_read_193 (fun H locs hw => ?_)
      refine W.eq (g2 := F0 m 196 ls (.int r33.1 :: [])) rfl ?_
      refine lv_goto (tgt := 200) hx hb dX7_read_196 (by decide) ?_
      exact L200 _ _ _ _ _ _ _ _ _ _ hf hw (lv_sub hl [0, 1, 2, 3, 4, 5, 6] rfl)
  have L153 : ∀ (τ : Tau) (x_2 : Int32) (x_3 : Int32) (x_4 : Int32) (H : Heap) (locs : List Loc) (ls : Array Slot), fX7_read_153 p1 τ x_2 x_3 x_4 = some R → Wd ΛM 12 D cA ad A s a τ H locs → lv_has ls 11 [(0, .ref (adr ad a 0)), (1, .int p1), (2, .int x_2), (3, .int x_3), (4, .int x_4)] → W p l e Rm s m args below meth c H locs 0 0 Q (F0 m 153 ls []) := by
    intro τ x_2 x_3 x_4 H locs ls hf hw hl
    unfold fX7_read_153 at hf
    refine lv_aload_n hx hb dX7_read_153 rfl (lv_at hl 0 rfl) ?_
    obtain ⟨r25, er25, hf⟩ := ks_bind hf
    refine ke_V hE hw hl.1 cl_X7_167 0 ltM_0 lyM_0 rfl [] (c_X7_side l D cA st ad a _ _ er25) rfl (ke_room hRm rfl rfl) ke_cnt (Nat.le_of_ble_eq_true rfl) rfl dX7_read_154 (fun H locs hw => ?_)
    refine W.eq (g2 := F0 m 157 ls (.int r25.1 :: [])) rfl ?_
    refine lv_istore (lv' := [(5, .int r25.1), (0, .ref (adr ad a 0)), (1, .int p1), (2, .int x_2), (3, .int x_3), (4, .int x_4)]) hx hb dX7_read_157 hl (by decide) rfl (fun ls hl => ?_)
    refine lv_aload_n hx hb dX7_read_159 rfl (lv_at hl 1 rfl) ?_
    refine ks_getI hE hw 0 16 ltM_0 lyM_0 rfl fd_X7_139 dX7_read_160 ?_
    obtain ⟨x26, ex26, hf⟩ := ks_nm hf
    refine W.eq (g2 := F0 m 163 ls (.int x26 :: [])) (by rw [ex26]) ?_
    refine lv_istore (lv' := [(6, .int x26), (5, .int r25.1), (0, .ref (adr ad a 0)), (1, .int p1), (2, .int x_2), (3, .int x_3), (4, .int x_4)]) hx hb dX7_read_163 hl (by decide) rfl (fun ls hl => ?_)
    refine lv_aload_n hx hb dX7_read_165 rfl (lv_at hl 2 rfl) ?_
    refine lv_bipush (v := 58) hx hb dX7_read_166 (by decide) ?_
    obtain ⟨r27, er27, hf⟩ := ks_nm hf
    refine ke_V hE hw hl.1 cl_X7_142 0 ltM_0 lyM_0 rfl [.int (58 : Int32)] (c_X7_isSign l D cA st ad a _ _ _ er27.symm) rfl (ke_room hRm rfl rfl) ke_cnt (Nat.le_of_ble_eq_true rfl) rfl dX7_read_168 (fun H locs hw => ?_)
    refine W.eq (g2 := F0 m 171 ls (.int (bI r27) :: [])) rfl ?_
    refine lv_if_eq (tgt := 181) hx hb dX7_read_171 (by decide) (fun c28 => ?_) (fun c28 => ?_)
    · have hf := (if_pos c28).symm.trans hf
      refine lv_aload_n hx hb dX7_read_181 rfl (lv_at hl 2 rfl) ?_
      obtain ⟨r29, er29, hf⟩ := ks_nm hf
      refine ke_V hE hw hl.1 cl_X7_151 0 ltM_0 lyM_0 rfl [] (c_X7_fails l D cA st ad a _ _ er29.symm) rfl (ke_room hRm rfl rfl) ke_cnt (Nat.le_of_ble_eq_true rfl) rfl dX7_read_182 (fun H locs hw => ?_)
      refine W.eq (g2 := F0 m 185 ls ([])) rfl ?_
      exact L185 _ _ _ _ _ _ _ _ _ hf hw (lv_sub hl [2, 3, 4, 5, 6, 1, 0] rfl)
    · have hf := (if_neg c28).symm.trans hf
      refine lv_aload_n hx hb dX7_read_174 rfl (lv_at hl 2 rfl) ?_
      obtain ⟨r30, er30, hf⟩ := ks_bind hf
      refine ke_V hE hw hl.1 cl_X7_154 0 ltM_0 lyM_0 rfl [] (c_X7_advances l D cA st ad a _ _ er30) rfl (ke_room hRm rfl rfl) ke_cnt (Nat.le_of_ble_eq_true rfl) rfl dX7_read_175 (fun H locs hw => ?_)
      refine W.eq (g2 := F0 m 178 ls ([])) rfl ?_
      refine lv_goto (tgt := 185) hx hb dX7_read_178 (by decide) ?_
      exact L185 _ _ _ _ _ _ _ _ _ hf hw (lv_sub hl [2, 3, 4, 5, 6, 1, 0] rfl)
  have L149 : ∀ (τ : Tau) (x_2 : Int32) (x_3 : Int32) (x_4 : Int32) (H : Heap) (locs : List Loc) (ls : Array Slot), fX7_read_149 p1 τ x_2 x_3 x_4 = some R → Wd ΛM 12 D cA ad A s a τ H locs → lv_has ls 11 [(0, .ref (adr ad a 0)), (1, .int p1), (2, .int x_2), (3, .int x_3), (4, .int x_4)] → W p l e Rm s m args below meth c H locs 0 0 Q (F0 m 149 ls []) := by
    intro τ x_2 x_3 x_4 H locs ls hf hw hl
    unfold fX7_read_149 at hf
    refine lv_aload_n hx hb dX7_read_149 rfl (lv_at hl 0 rfl) ?_
    obtain ⟨r24, er24, hf⟩ := ks_nm hf
    refine ke_V hE hw hl.1 cl_X7_151 0 ltM_0 lyM_0 rfl [] (c_X7_fails l D cA st ad a _ _ er24.symm) rfl (ke_room hRm rfl rfl) ke_cnt (Nat.le_of_ble_eq_true rfl) rfl dX7_read_150 (fun H locs hw => ?_)
    refine W.eq (g2 := F0 m 153 ls ([])) rfl ?_
    exact L153 _ _ _ _ _ _ _ hf hw (lv_sub hl [0, 1, 2, 3, 4] rfl)
  have L119 : ∀ (τ : Tau) (x_2 : Int32) (x_3 : Int32) (x_4 : Int32) (H : Heap) (locs : List Loc) (ls : Array Slot), fX7_read_119 p1 τ x_2 x_3 x_4 = some R → Wd ΛM 12 D cA ad A s a τ H locs → lv_has ls 11 [(0, .ref (adr ad a 0)), (1, .int p1), (2, .int x_2), (3, .int x_3), (4, .int x_4)] → W p l e Rm s m args below meth c H locs 0 0 Q (F0 m 119 ls []) := by
    intro τ x_2 x_3 x_4 H locs ls hf hw hl
    unfold fX7_read_119 at hf
    refine lv_aload_n hx hb dX7_read_119 rfl (lv_at hl 0 rfl) ?_
    refine ks_getI hE hw 0 8 ltM_0 lyM_0 rfl fd_X7_122 dX7_read_120 ?_
    refine lv_iconst (v := 2) hx hb dX7_read_123 (by decide) ?_
    refine lv_icmp_ne (tgt := 149) hx hb dX7_read_124 (by decide) (fun c20 => ?_) (fun c20 => ?_)
    · have hf := (if_neg c20).symm.trans hf
      exact L149 _ _ _ _ _ _ _ hf hw (lv_sub hl [0, 1, 2, 3, 4] rfl)
    · have hf := (if_pos c20).symm.trans hf
      refine lv_aload_n hx hb dX7_read_127 rfl (lv_at hl 0 rfl) ?_
      refine ks_getI hE hw 0 10 ltM_0 lyM_0 rfl fd_X7_129 dX7_read_128 ?_
      refine lv_bipush (v := 7) hx hb dX7_read_131 (by decide) ?_
      refine lv_icmp_ge (tgt := 149) hx hb dX7_read_133 (by decide) (fun c21 => ?_) (fun c21 => ?_)
      · have hf := (if_pos c21).symm.trans hf
        exact L149 _ _ _ _ _ _ _ hf hw (lv_sub hl [0, 1, 2, 3, 4] rfl)
      · have hf := (if_neg c21).symm.trans hf
        refine lv_aload_n hx hb dX7_read_136 rfl (lv_at hl 0 rfl) ?_
        refine ks_getI hE hw 0 10 ltM_0 lyM_0 rfl fd_X7_129 dX7_read_137 ?_
        obtain ⟨x22, ex22, hf⟩ := ks_nm hf
        refine W.eq (g2 := F0 m 140 ls (.int x22 :: [])) (by rw [ex22]) ?_
        refine lv_istore (lv' := [(4, .int x22), (0, .ref (adr ad a 0)), (1, .int p1), (2, .int x_2), (3, .int x_3)]) hx hb dX7_read_140 hl (by decide) rfl (fun ls hl => ?_)
        refine lv_aload_n hx hb dX7_read_142 rfl (lv_at hl 1 rfl) ?_
        obtain ⟨r23, er23, hf⟩ := ks_bind hf
        refine ke_V hE hw hl.1 cl_X7_154 0 ltM_0 lyM_0 rfl [] (c_X7_advances l D cA st ad a _ _ er23) rfl (ke_room hRm rfl rfl) ke_cnt (Nat.le_of_ble_eq_true rfl) rfl dX7_read_143 (fun H locs hw => ?_)
        refine W.eq (g2 := F0 m 146 ls ([])) rfl ?_
        refine lv_goto (tgt := 153) hx hb dX7_read_146 (by decide) ?_
        exact L153 _ _ _ _ _ _ _ hf hw (lv_sub hl [1, 2, 3, 4, 0] rfl)
  have L102 : ∀ (τ : Tau) (x_2 : Int32) (x_3 : Int32) (x_4 : Int32) (H : Heap) (locs : List Loc) (ls : Array Slot), fX7_read_102 p1 τ x_2 x_3 x_4 = some R → Wd ΛM 12 D cA ad A s a τ H locs → lv_has ls 11 [(0, .ref (adr ad a 0)), (1, .int p1), (2, .int x_2), (3, .int x_3), (4, .int x_4)] → W p l e Rm s m args below meth c H locs 0 0 Q (F0 m 102 ls []) := by
    intro τ x_2 x_3 x_4 H locs ls hf hw hl
    unfold fX7_read_102 at hf
    refine lv_aload_n hx hb dX7_read_102 rfl (lv_at hl 0 rfl) ?_
    obtain ⟨r16, er16, hf⟩ := ks_nm hf
    refine ke_V hE hw hl.1 cl_X7_135 0 ltM_0 lyM_0 rfl [] (c_X7_isWell l D cA st ad a _ _ er16.symm) rfl (ke_room hRm rfl rfl) ke_cnt (Nat.le_of_ble_eq_true rfl) rfl dX7_read_103 (fun H locs hw => ?_)
    refine W.eq (g2 := F0 m 106 ls (.int (bI r16) :: [])) rfl ?_
    refine lv_if_eq (tgt := 153) hx hb dX7_read_106 (by decide) (fun c17 => ?_) (fun c17 => ?_)
    · have hf := (if_pos c17).symm.trans hf
      exact L153 _ _ _ _ _ _ _ hf hw (lv_sub hl [0, 1, 2, 3, 4] rfl)
    · have hf := (if_neg c17).symm.trans hf
      refine lv_iload_n hx hb dX7_read_109 rfl (lv_at hl 3 rfl) ?_
      refine lv_iconst (v := 4) hx hb dX7_read_110 (by decide) ?_
      refine lv_icmp_eq (tgt := 119) hx hb dX7_read_111 (by decide) (fun c18 => ?_) (fun c18 => ?_)
      · have hf := (if_pos c18).symm.trans hf
        exact L119 _ _ _ _ _ _ _ hf hw (lv_sub hl [0, 1, 2, 3, 4] rfl)
      · have hf := (if_neg c18).symm.trans hf
        refine lv_iload_n hx hb dX7_read_114 rfl (lv_at hl 3 rfl) ?_
        refine lv_iconst (v := 5) hx hb dX7_read_115 (by decide) ?_
        refine lv_icmp_ne (tgt := 153) hx hb dX7_read_116 (by decide) (fun c19 => ?_) (fun c19 => ?_)
        · have hf := (if_neg c19).symm.trans hf
          exact L153 _ _ _ _ _ _ _ hf hw (lv_sub hl [0, 1, 2, 3, 4] rfl)
        · have hf := (if_pos c19).symm.trans hf
          exact L119 _ _ _ _ _ _ _ hf hw (lv_sub hl [0, 1, 2, 3, 4] rfl)
  have L81 : ∀ (τ : Tau) (x_2 : Int32) (z_0 : Int32) (H : Heap) (locs : List Loc) (ls : Array Slot), fX7_read_81 p1 τ x_2 z_0 = some R → Wd ΛM 12 D cA ad A s a τ H locs → lv_has ls 11 [(0, .ref (adr ad a 0)), (1, .int p1), (2, .int x_2)] → W p l e Rm s m args below meth c H locs 0 0 Q (F0 m 81 ls [.int z_0]) := by
    intro τ x_2 z_0 H locs ls hf hw hl
    unfold fX7_read_81 at hf
    refine lv_istore_n (lv' := [(3, .int z_0), (0, .ref (adr ad a 0)), (1, .int p1), (2, .int x_2)]) hx hb dX7_read_81 rfl hl (by decide) rfl (fun ls hl => ?_)
    refine lv_iconst (v := 0) hx hb dX7_read_82 (by decide) ?_
    refine lv_istore (lv' := [(4, .int (0 : Int32)), (3, .int z_0), (0, .ref (adr ad a 0)), (1, .int p1), (2, .int x_2)]) hx hb dX7_read_83 hl (by decide) rfl (fun ls hl => ?_)
    refine lv_iload_n hx hb dX7_read_85 rfl (lv_at hl 1 rfl) ?_
    refine lv_bipush (v := 8) hx hb dX7_read_86 (by decide) ?_
    refine lv_icmp_ne (tgt := 98) hx hb dX7_read_88 (by decide) (fun c13 => ?_) (fun c13 => ?_)
    · have hf := (if_neg c13).symm.trans hf
      refine lv_aload_n hx hb dX7_read_98 rfl (lv_at hl 2 rfl) ?_
      obtain ⟨r14, er14, hf⟩ := ks_bind hf
      refine ke_V hE hw hl.1 cl_X7_154 0 ltM_0 lyM_0 rfl [] (c_X7_advances l D cA st ad a _ _ er14) rfl (ke_room hRm rfl rfl) ke_cnt (Nat.le_of_ble_eq_true rfl) rfl dX7_read_99 (fun H locs hw => ?_)
      refine W.eq (g2 := F0 m 102 ls ([])) rfl ?_
      exact L102 _ _ _ _ _ _ _ hf hw (lv_sub hl [2, 3, 4, 1, 0] rfl)
    · have hf := (if_pos c13).symm.trans hf
      refine lv_aload_n hx hb dX7_read_91 rfl (lv_at hl 2 rfl) ?_
      obtain ⟨r15, er15, hf⟩ := ks_nm hf
      refine ke_V hE hw hl.1 cl_X7_151 0 ltM_0 lyM_0 rfl [] (c_X7_fails l D cA st ad a _ _ er15.symm) rfl (ke_room hRm rfl rfl) ke_cnt (Nat.le_of_ble_eq_true rfl) rfl dX7_read_92 (fun H locs hw => ?_)
      refine W.eq (g2 := F0 m 95 ls ([])) rfl ?_
      refine lv_goto (tgt := 102) hx hb dX7_read_95 (by decide) ?_
      exact L102 _ _ _ _ _ _ _ hf hw (lv_sub hl [2, 3, 4, 1, 0] rfl)
  have L64 : ∀ (τ : Tau) (x_2 : Int32) (H : Heap) (locs : List Loc) (ls : Array Slot), fX7_read_64 p1 τ x_2 = some R → Wd ΛM 12 D cA ad A s a τ H locs → lv_has ls 11 [(0, .ref (adr ad a 0)), (1, .int p1), (2, .int x_2)] → W p l e Rm s m args below meth c H locs 0 0 Q (F0 m 64 ls []) := by
    intro τ x_2 H locs ls hf hw hl
    unfold fX7_read_64 at hf
    refine lv_aload_n hx hb dX7_read_64 rfl (lv_at hl 0 rfl) ?_
    refine ks_getI hE hw 0 8 ltM_0 lyM_0 rfl fd_X7_122 dX7_read_65 ?_
    refine lv_iconst (v := 1) hx hb dX7_read_68 (by decide) ?_
    refine lv_icmp_ne (tgt := 79) hx hb dX7_read_69 (by decide) (fun c12 => ?_) (fun c12 => ?_)
    · have hf := (if_neg c12).symm.trans hf
      refine lv_bipush (v := 8) hx hb dX7_read_79 (by decide) ?_
      exact L81 _ _ _ _ _ _ hf hw (lv_sub hl [0, 1, 2] rfl)
    · have hf := (if_pos c12).symm.trans hf
      refine lv_aload_n hx hb dX7_read_72 rfl (lv_at hl 0 rfl) ?_
      refine ks_getI hE hw 0 10 ltM_0 lyM_0 rfl fd_X7_129 dX7_read_73 ?_
      refine lv_goto (tgt := 81) hx hb dX7_read_76 (by decide) ?_
      exact L81 _ _ _ _ _ _ hf hw (lv_sub hl [0, 1, 2] rfl)
  have L55 : ∀ (τ : Tau) (z_0 : Int32) (H : Heap) (locs : List Loc) (ls : Array Slot), fX7_read_55 p1 τ z_0 = some R → Wd ΛM 12 D cA ad A s a τ H locs → lv_has ls 11 [(0, .ref (adr ad a 0)), (1, .int p1)] → W p l e Rm s m args below meth c H locs 0 0 Q (F0 m 55 ls [.int z_0]) := by
    intro τ z_0 H locs ls hf hw hl
    unfold fX7_read_55 at hf
    refine lv_istore_n (lv' := [(2, .int z_0), (0, .ref (adr ad a 0)), (1, .int p1)]) hx hb dX7_read_55 rfl hl (by decide) rfl (fun ls hl => ?_)
    refine lv_iload_n hx hb dX7_read_56 rfl (lv_at hl 0 rfl) ?_
    refine lv_if_eq (tgt := 64) hx hb dX7_read_57 (by decide) (fun c10 => ?_) (fun c10 => ?_)
    · have hf := (if_pos c10).symm.trans hf
      exact L64 _ _ _ _ _ hf hw (lv_sub hl [1, 2, 0] rfl)
    · have hf := (if_neg c10).symm.trans hf
      refine lv_aload_n hx hb dX7_read_60 rfl (lv_at hl 1 rfl) ?_
      obtain ⟨r11, er11, hf⟩ := ks_bind hf
      refine ke_V hE hw hl.1 cl_X7_154 0 ltM_0 lyM_0 rfl [] (c_X7_advances l D cA st ad a _ _ er11) rfl (ke_room hRm rfl rfl) ke_cnt (Nat.le_of_ble_eq_true rfl) rfl dX7_read_61 (fun H locs hw => ?_)
      refine W.eq (g2 := F0 m 64 ls ([])) rfl ?_
      exact L64 _ _ _ _ _ hf hw (lv_sub hl [1, 2, 0] rfl)
  have L54 : ∀ (τ : Tau) (H : Heap) (locs : List Loc) (ls : Array Slot), fX7_read_54 p1 τ = some R → Wd ΛM 12 D cA ad A s a τ H locs → lv_has ls 11 [(0, .ref (adr ad a 0)), (1, .int p1)] → W p l e Rm s m args below meth c H locs 0 0 Q (F0 m 54 ls []) := by
    intro τ H locs ls hf hw hl
    unfold fX7_read_54 at hf
    refine lv_iconst (v := 0) hx hb dX7_read_54 (by decide) ?_
    exact L55 _ _ _ _ _ hf hw (lv_sub hl [0, 1] rfl)
  unfold fX7_read at hf
  refine lv_aload_n hx hb dX7_read_0 rfl (lv_at hl 0 rfl) ?_
  refine lv_iconst (v := 0) hx hb dX7_read_1 (by decide) ?_
  obtain ⟨t1, et1, hf⟩ := ks_nm hf
  refine ks_putI hE hw 0 0 ltM_0 lyM_0 rfl fw_X7_57 rfl rfl dX7_read_2 (fun H locs hw => ?_)
  rw [← et1] at hw
  refine lv_iload_n hx hb dX7_read_5 rfl (lv_at hl 1 rfl) ?_
  obtain ⟨r2, er2, hf⟩ := ks_nm hf
  refine ke_S hE hw hl.1 cl_X7_90 [.int p1] (c_X7_isSaying l D cA st ad a _ _ _ er2.symm) rfl (ke_room hRm rfl rfl) ke_cnt (Nat.le_of_ble_eq_true rfl) rfl dX7_read_6 (fun H locs hw => ?_)
  refine W.eq (g2 := F0 m 9 ls (.int (bI r2) :: [])) rfl ?_
  refine lv_if_ne (tgt := 14) hx hb dX7_read_9 (by decide) (fun c3 => ?_) (fun c3 => ?_)
  · have hf := (if_neg c3).symm.trans hf
    refine lv_aload_n hx hb dX7_read_14 rfl (lv_at hl 0 rfl) ?_
    refine lv_iconst (v := (-1)) hx hb dX7_read_15 (by decide) ?_
    obtain ⟨t4, et4, hf⟩ := ks_nm hf
    refine ks_putI hE hw 0 11 ltM_0 lyM_0 rfl fw_X7_132 rfl rfl dX7_read_16 (fun H locs hw => ?_)
    rw [← et4] at hw
    refine lv_aload_n hx hb dX7_read_19 rfl (lv_at hl 0 rfl) ?_
    refine lv_iconst (v := 0) hx hb dX7_read_20 (by decide) ?_
    obtain ⟨t5, et5, hf⟩ := ks_nm hf
    refine ks_putI hE hw 0 7 ltM_0 lyM_0 rfl fw_X7_113 rfl rfl dX7_read_21 (fun H locs hw => ?_)
    rw [← et5] at hw
    refine lv_aload_n hx hb dX7_read_24 rfl (lv_at hl 0 rfl) ?_
    refine lv_iconst (v := 0) hx hb dX7_read_25 (by decide) ?_
    obtain ⟨t6, et6, hf⟩ := ks_nm hf
    refine ks_putI hE hw 0 12 ltM_0 lyM_0 rfl fw_X7_148 rfl rfl dX7_read_26 (fun H locs hw => ?_)
    rw [← et6] at hw
    refine lv_aload_n hx hb dX7_read_29 rfl (lv_at hl 0 rfl) ?_
    obtain ⟨r7, er7, hf⟩ := ks_bind hf
    refine ke_V hE hw hl.1 cl_X7_154 0 ltM_0 lyM_0 rfl [] (c_X7_advances l D cA st ad a _ _ er7) rfl (ke_room hRm rfl rfl) ke_cnt (Nat.le_of_ble_eq_true rfl) rfl dX7_read_30 (fun H locs hw => ?_)
    refine W.eq (g2 := F0 m 33 ls ([])) rfl ?_
    refine lv_aload_n hx hb dX7_read_33 rfl (lv_at hl 0 rfl) ?_
    refine ks_getI hE hw 0 8 ltM_0 lyM_0 rfl fd_X7_122 dX7_read_34 ?_
    refine lv_iconst (v := 1) hx hb dX7_read_37 (by decide) ?_
    refine lv_icmp_ne (tgt := 54) hx hb dX7_read_38 (by decide) (fun c8 => ?_) (fun c8 => ?_)
    · have hf := (if_neg c8).symm.trans hf
      exact L54 _ _ _ _ hf hw (lv_sub hl [0, 1] rfl)
    · have hf := (if_pos c8).symm.trans hf
      refine lv_aload_n hx hb dX7_read_41 rfl (lv_at hl 0 rfl) ?_
      refine ks_getI hE hw 0 10 ltM_0 lyM_0 rfl fd_X7_129 dX7_read_42 ?_
      refine lv_bipush (v := 8) hx hb dX7_read_45 (by decide) ?_
      refine lv_icmp_ne (tgt := 54) hx hb dX7_read_47 (by decide) (fun c9 => ?_) (fun c9 => ?_)
      · have hf := (if_neg c9).symm.trans hf
        exact L54 _ _ _ _ hf hw (lv_sub hl [0, 1] rfl)
      · have hf := (if_pos c9).symm.trans hf
        refine lv_iconst (v := 1) hx hb dX7_read_50 (by decide) ?_
        refine lv_goto (tgt := 55) hx hb dX7_read_51 (by decide) ?_
        exact L55 _ _ _ _ _ hf hw (lv_sub hl [0, 1] rfl)
  · have hf := (if_pos c3).symm.trans hf
    refine lv_iconst (v := (-1)) hx hb dX7_read_12 (by decide) ?_
    replace hf := Option.some.inj hf
    subst hf
    exact ke_iret hE hw hQ dX7_read_13 rfl rfl
def fX7_about  (τ : Tau) (p1 : Int32) (p2 : Int32) : Option (Int32 × Tau) :=
 nm (sI τ 0 0 (0 : Int32)) (fun t1 =>
 nm (fX7_isSaying p1) (fun r2 =>
 (if bI r2 = 0 then
 some ((-1 : Int32), t1)
 else
 nm (fX7_in p2 (0 : Int32) (5 : Int32)) (fun r4 =>
 (if bI r4 = 0 then
 some ((-1 : Int32), t1)
 else
 (if (((6 : Int32) * p1) + p2) < 0 ∨ 60 ≤ (((6 : Int32) * p1) + p2).toNatClampNeg then none else
 some (tA t1 3 (((6 : Int32) * p1) + p2).toNatClampNeg, t1)))))))
set_option maxHeartbeats 4000000 in
set_option maxRecDepth 100000 in
theorem c_X7_about (l : Launch) (D : va_G) (cA : Nat → ClassId) (st ad : Nat → Nat) (a : Nat)  (τ : Tau) (p1 : Int32) (p2 : Int32) (R : (Int32 × Tau)) (hf : fX7_about τ p1 p2 = some R) : KE ΛM 12 D cA st ad l yX7_about cX7_about 3 (some .int) 2 42 [.ref (adr ad a 0), .int p1, .int p2] a τ (some (.int R.1)) R.2 := by
  refine KE.of "KindSayingsModel" rfl (by decide) (Nat.le_of_ble_eq_true rfl) (fun p e s m args below meth c A ls Rm Q hE hRm hQ hw hl => ?_)
  obtain ⟨hx, hb, hml, hown, hts, -⟩ := id hE
  have hl : lv_has ls 3 [(0, .ref (adr ad a 0)), (1, .int p1), (2, .int p2)] := hl
  unfold fX7_about at hf
  refine lv_aload_n hx hb dX7_about_0 rfl (lv_at hl 0 rfl) ?_
  refine lv_iconst (v := 0) hx hb dX7_about_1 (by decide) ?_
  obtain ⟨t1, et1, hf⟩ := ks_nm hf
  refine ks_putI hE hw 0 0 ltM_0 lyM_0 rfl fw_X7_57 rfl rfl dX7_about_2 (fun H locs hw => ?_)
  rw [← et1] at hw
  refine lv_iload_n hx hb dX7_about_5 rfl (lv_at hl 1 rfl) ?_
  obtain ⟨r2, er2, hf⟩ := ks_nm hf
  refine ke_S hE hw hl.1 cl_X7_90 [.int p1] (c_X7_isSaying l D cA st ad a _ _ _ er2.symm) rfl (ke_room hRm rfl rfl) ke_cnt (Nat.le_of_ble_eq_true rfl) rfl dX7_about_6 (fun H locs hw => ?_)
  refine W.eq (g2 := F0 m 9 ls (.int (bI r2) :: [])) rfl ?_
  refine lv_if_eq (tgt := 35) hx hb dX7_about_9 (by decide) (fun c3 => ?_) (fun c3 => ?_)
  · have hf := (if_pos c3).symm.trans hf
    refine lv_iconst (v := (-1)) hx hb dX7_about_35 (by decide) ?_
    replace hf := Option.some.inj hf
    subst hf
    exact ke_iret hE hw hQ dX7_about_36 rfl rfl
  · have hf := (if_neg c3).symm.trans hf
    refine lv_iload_n hx hb dX7_about_12 rfl (lv_at hl 2 rfl) ?_
    refine lv_iconst (v := 0) hx hb dX7_about_13 (by decide) ?_
    refine lv_iconst (v := 5) hx hb dX7_about_14 (by decide) ?_
    obtain ⟨r4, er4, hf⟩ := ks_nm hf
    refine ke_S hE hw hl.1 cl_X7_72 [.int p2, .int (0 : Int32), .int (5 : Int32)] (c_X7_in l D cA st ad a _ _ _ _ _ er4.symm) rfl (ke_room hRm rfl rfl) ke_cnt (Nat.le_of_ble_eq_true rfl) rfl dX7_about_15 (fun H locs hw => ?_)
    refine W.eq (g2 := F0 m 18 ls (.int (bI r4) :: [])) rfl ?_
    refine lv_if_eq (tgt := 35) hx hb dX7_about_18 (by decide) (fun c5 => ?_) (fun c5 => ?_)
    · have hf := (if_pos c5).symm.trans hf
      refine lv_iconst (v := (-1)) hx hb dX7_about_35 (by decide) ?_
      replace hf := Option.some.inj hf
      subst hf
      exact ke_iret hE hw hQ dX7_about_36 rfl rfl
    · have hf := (if_neg c5).symm.trans hf
      refine lv_aload_n hx hb dX7_about_21 rfl (lv_at hl 0 rfl) ?_
      refine ks_getR hE hw 0 13 ltM_0 lyM_0 rfl fd_X7_26 dX7_about_22 ?_
      refine lv_bipush (v := 6) hx hb dX7_about_25 (by decide) ?_
      refine lv_iload_n hx hb dX7_about_27 rfl (lv_at hl 1 rfl) ?_
      refine lv_imul hx hb dX7_about_28 ?_
      refine lv_iload_n hx hb dX7_about_29 rfl (lv_at hl 2 rfl) ?_
      refine lv_iadd hx hb dX7_about_30 ?_
      obtain ⟨b6, hf⟩ := ks_ok hf
      refine ks_iald hE hw 3 ltM_3 lyM_3 b6 dX7_about_31 ?_
      refine lv_goto (tgt := 36) hx hb dX7_about_32 (by decide) ?_
      replace hf := Option.some.inj hf
      subst hf
      exact ke_iret hE hw hQ dX7_about_36 rfl rfl
