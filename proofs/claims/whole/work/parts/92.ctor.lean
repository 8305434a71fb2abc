/-! the constructors (written by wip/tools/ctor.py) -/
theorem ci_2_11 : kCiN "KindSayings$Reader" 11 yX4_init cX4_init 1 0 := ⟨by decide +kernel, w_96, w_68, w_97, rfl, by decide, by decide +kernel⟩
theorem ci_2_20 : kCiN "KindSayings$Reader" 20 yX3_init cX3_init 1 0 := ⟨by decide +kernel, w_131, w_69, w_132, rfl, by decide, by decide +kernel⟩
theorem ci_0_11 : kCiN "KindSayings$Heaps" 11 yX5_init cX5_init 1 0 := ⟨by decide +kernel, w_195, w_71, w_196, rfl, by decide, by decide +kernel⟩
theorem ci_6_21 : kCiN "KindSayings" 21 yX2_init cX2_init 1 0 := ⟨by decide +kernel, w_90, w_67, w_91, rfl, by decide, by decide +kernel⟩
theorem ci_6_28 : kCi "KindSayings" 28 yX0_init cX0_init 2 0 := ⟨w_188, w_189, w_70, w_190, rfl, by decide, by decide +kernel⟩
theorem ci_6_35 : kCiN "KindSayings" 35 yX1_init cX1_init 1 0 := ⟨by decide +kernel, w_263, w_72, w_264, rfl, by decide, by decide +kernel⟩
theorem ci_6_50 : kCiN "KindSayings" 50 yX3_init cX3_init 1 0 := ⟨by decide +kernel, w_131, w_69, w_132, rfl, by decide, by decide +kernel⟩
set_option maxHeartbeats 4000000 in
set_option maxRecDepth 100000 in
theorem k_X3_init (l : Launch) (D : va_G) (cA : Nat → ClassId) (st : Nat → Nat) (h0 : Nat) : GC D cA st l yX3_init cX3_init 1 1 12 0 0 [.ref h0] [(h0, .inr (3, [.int 0, .int 0, .int 0, .int 0, .int 0, .int 0]))] (fun v w1 => v = none ∧ w1 = [(h0, .inr (3, [.int 0, .int 0, .int 0, .int 0, .int 0, .int 0]))]) := by
  refine GC.of "KindSayings$Saying" rfl (by decide) (Nat.le_of_ble_eq_true rfl) (fun p e s m args below meth c A ls R Q E hO hR hC hQ hw hl hin => ?_)
  obtain ⟨hx, hb, hml, hown, hts, -⟩ := id E
  have hl : lv_has ls 1 [(0, .ref h0)] := hl
  refine lv_aload_n hx hb dX3_init_0 rfl (lv_at hl 0 rfl) ?_
  refine g_objInit E hl.1 w_133 (by rw [hR.1]; decide) (by rw [hR.2]; exact Nat.le_of_ble_eq_true rfl) dX3_init_1 ?_
  exact g_vret E hw (by omega) (by omega) hQ dX3_init_4 ⟨rfl, rfl⟩
set_option maxHeartbeats 4000000 in
set_option maxRecDepth 100000 in
theorem k_X4_init (l : Launch) (D : va_G) (cA : Nat → ClassId) (st : Nat → Nat) (h0 : Nat) : GC D cA st l yX4_init cX4_init 1 1 12 1 80 [.ref h0] [(h0, .inr (4, [.null, .int 0, .int 0, .int 0, .int 0, .int 0, .int 0]))] (fun v w1 => v = none ∧ ∃ q1, w1 = [(h0, .inr (4, [.ref q1, .int 0, .int 0, .int 0, .int 0, .int 0, .int 0])), (q1, .inl (cA 2, 80, .inl (fun _ => 0)))]) := by
  refine GC.of "KindSayings$Tokens" rfl (by decide) (Nat.le_of_ble_eq_true rfl) (fun p e s m args below meth c A ls R Q E hO hR hC hQ hw hl hin => ?_)
  obtain ⟨hx, hb, hml, hown, hts, -⟩ := id E
  have hl : lv_has ls 1 [(0, .ref h0)] := hl
  refine lv_aload_n hx hb dX4_init_0 rfl (lv_at hl 0 rfl) ?_
  refine g_objInit E hl.1 w_98 (by rw [hR.1]; decide) (by rw [hR.2]; exact Nat.le_of_ble_eq_true rfl) dX4_init_1 ?_
  refine lv_aload_n hx hb dX4_init_4 rfl (lv_at hl 0 rfl) ?_
  refine lv_bipush (v := 80) hx hb dX4_init_5 (by decide) ?_
  refine g_newC E hw (N := 80) (by decide) rfl (by decide) (by rw [hC.1]; omega) (by rw [hC.2]; omega) dX4_init_7 (fun q1 H hw => ?_)
  have hw : GW D A s [(h0, .inr (4, [.null, .int 0, .int 0, .int 0, .int 0, .int 0, .int 0])), (q1, .inl (cA 2, 80, .inl (fun _ => 0)))] H _ := hw
  refine g_putF E hw (hin rfl) 0 rfl rfl inG4 tyX4 tyX4_ok nmX4 0 (by decide) w_99 rfl rfl (ty := .array .char) (v := .ref q1) (by decide +kernel) rfl rfl (Nat.le_of_ble_eq_true rfl) dX4_init_9 (fun H locs hw => ?_)
  have hw : GW D A s [(h0, .inr (4, [.ref q1, .int 0, .int 0, .int 0, .int 0, .int 0, .int 0])), (q1, .inl (cA 2, 80, .inl (fun _ => 0)))] H _ := hw
  exact g_vret E hw (by omega) (by omega) hQ dX4_init_12 ⟨rfl, q1, rfl⟩
set_option maxHeartbeats 4000000 in
set_option maxRecDepth 100000 in
theorem k_X5_init (l : Launch) (D : va_G) (cA : Nat → ClassId) (st : Nat → Nat) (h0 : Nat) : GC D cA st l yX5_init cX5_init 1 1 12 3 29 [.ref h0] [(h0, .inr (5, [.null, .null, .null, .int 0, .int 0, .int 0]))] (fun v w1 => v = none ∧ ∃ q1 q2 q3, w1 = [(h0, .inr (5, [.ref q1, .ref q2, .ref q3, .int 0, .int 0, .int 0])), (q1, .inl (cA 0, 6, .inl (fun _ => 0))), (q2, .inl (cA 0, 16, .inl (fun _ => 0))), (q3, .inl (cA 0, 7, .inl (fun _ => 0)))]) := by
  refine GC.of "KindSayings$Walk" rfl (by decide) (Nat.le_of_ble_eq_true rfl) (fun p e s m args below meth c A ls R Q E hO hR hC hQ hw hl hin => ?_)
  obtain ⟨hx, hb, hml, hown, hts, -⟩ := id E
  have hl : lv_has ls 1 [(0, .ref h0)] := hl
  refine lv_aload_n hx hb dX5_init_0 rfl (lv_at hl 0 rfl) ?_
  refine g_objInit E hl.1 w_197 (by rw [hR.1]; decide) (by rw [hR.2]; exact Nat.le_of_ble_eq_true rfl) dX5_init_1 ?_
  refine lv_aload_n hx hb dX5_init_4 rfl (lv_at hl 0 rfl) ?_
  refine lv_bipush (v := 6) hx hb dX5_init_5 (by decide) ?_
  refine g_newI E hw (N := 6) (by decide) rfl (by decide) (by rw [hC.1]; omega) (by rw [hC.2]; omega) dX5_init_7 (fun q1 H hw => ?_)
  have hw : GW D A s [(h0, .inr (5, [.null, .null, .null, .int 0, .int 0, .int 0])), (q1, .inl (cA 0, 6, .inl (fun _ => 0)))] H _ := hw
  refine g_putF E hw (hin rfl) 0 rfl rfl inG5 tyX5 tyX5_ok nmX5 0 (by decide) w_198 rfl rfl (ty := .array .int) (v := .ref q1) (by decide +kernel) rfl rfl (Nat.le_of_ble_eq_true rfl) dX5_init_9 (fun H locs hw => ?_)
  have hw : GW D A s [(h0, .inr (5, [.ref q1, .null, .null, .int 0, .int 0, .int 0])), (q1, .inl (cA 0, 6, .inl (fun _ => 0)))] H _ := hw
  refine lv_aload_n hx hb dX5_init_12 rfl (lv_at hl 0 rfl) ?_
  refine lv_bipush (v := 16) hx hb dX5_init_13 (by decide) ?_
  refine g_newI E hw (N := 16) (by decide) rfl (by decide) (by rw [hC.1]; omega) (by rw [hC.2]; omega) dX5_init_15 (fun q2 H hw => ?_)
  have hw : GW D A s [(h0, .inr (5, [.ref q1, .null, .null, .int 0, .int 0, .int 0])), (q1, .inl (cA 0, 6, .inl (fun _ => 0))), (q2, .inl (cA 0, 16, .inl (fun _ => 0)))] H _ := hw
  refine g_putF E hw (hin rfl) 0 rfl rfl inG5 tyX5 tyX5_ok nmX5 1 (by decide) w_199 rfl rfl (ty := .array .int) (v := .ref q2) (by decide +kernel) rfl rfl (Nat.le_of_ble_eq_true rfl) dX5_init_17 (fun H locs hw => ?_)
  have hw : GW D A s [(h0, .inr (5, [.ref q1, .ref q2, .null, .int 0, .int 0, .int 0])), (q1, .inl (cA 0, 6, .inl (fun _ => 0))), (q2, .inl (cA 0, 16, .inl (fun _ => 0)))] H _ := hw
  refine lv_aload_n hx hb dX5_init_20 rfl (lv_at hl 0 rfl) ?_
  refine lv_bipush (v := 7) hx hb dX5_init_21 (by decide) ?_
  refine g_newI E hw (N := 7) (by decide) rfl (by decide) (by rw [hC.1]; omega) (by rw [hC.2]; omega) dX5_init_23 (fun q3 H hw => ?_)
  have hw : GW D A s [(h0, .inr (5, [.ref q1, .ref q2, .null, .int 0, .int 0, .int 0])), (q1, .inl (cA 0, 6, .inl (fun _ => 0))), (q2, .inl (cA 0, 16, .inl (fun _ => 0))), (q3, .inl (cA 0, 7, .inl (fun _ => 0)))] H _ := hw
  refine g_putF E hw (hin rfl) 0 rfl rfl inG5 tyX5 tyX5_ok nmX5 2 (by decide) w_200 rfl rfl (ty := .array .int) (v := .ref q3) (by decide +kernel) rfl rfl (Nat.le_of_ble_eq_true rfl) dX5_init_25 (fun H locs hw => ?_)
  have hw : GW D A s [(h0, .inr (5, [.ref q1, .ref q2, .ref q3, .int 0, .int 0, .int 0])), (q1, .inl (cA 0, 6, .inl (fun _ => 0))), (q2, .inl (cA 0, 16, .inl (fun _ => 0))), (q3, .inl (cA 0, 7, .inl (fun _ => 0)))] H _ := hw
  exact g_vret E hw (by omega) (by omega) hQ dX5_init_28 ⟨rfl, q1, q2, q3, rfl⟩
set_option maxHeartbeats 4000000 in
set_option maxRecDepth 100000 in
theorem k_X1_init (l : Launch) (D : va_G) (cA : Nat → ClassId) (st : Nat → Nat) (h0 : Nat) : GC D cA st l yX1_init cX1_init 1 1 12 1 64 [.ref h0] [(h0, .inr (1, [.null, .long 0, .long 0, .int 0, .int 0, .int 0, .int 0, .int 0]))] (fun v w1 => v = none ∧ ∃ q1, w1 = [(h0, .inr (1, [.ref q1, .long 0, .long 0, .int 0, .int 0, .int 0, .int 0, .int 0])), (q1, .inl (cA 0, 64, .inl (fun _ => 0)))]) := by
  refine GC.of "KindSayings$Proof" rfl (by decide) (Nat.le_of_ble_eq_true rfl) (fun p e s m args below meth c A ls R Q E hO hR hC hQ hw hl hin => ?_)
  obtain ⟨hx, hb, hml, hown, hts, -⟩ := id E
  have hl : lv_has ls 1 [(0, .ref h0)] := hl
  refine lv_aload_n hx hb dX1_init_0 rfl (lv_at hl 0 rfl) ?_
  refine g_objInit E hl.1 w_265 (by rw [hR.1]; decide) (by rw [hR.2]; exact Nat.le_of_ble_eq_true rfl) dX1_init_1 ?_
  refine lv_aload_n hx hb dX1_init_4 rfl (lv_at hl 0 rfl) ?_
  refine lv_bipush (v := 64) hx hb dX1_init_5 (by decide) ?_
  refine g_newI E hw (N := 64) (by decide) rfl (by decide) (by rw [hC.1]; omega) (by rw [hC.2]; omega) dX1_init_7 (fun q1 H hw => ?_)
  have hw : GW D A s [(h0, .inr (1, [.null, .long 0, .long 0, .int 0, .int 0, .int 0, .int 0, .int 0])), (q1, .inl (cA 0, 64, .inl (fun _ => 0)))] H _ := hw
  refine g_putF E hw (hin rfl) 0 rfl rfl inG1 tyX1 tyX1_ok nmX1 0 (by decide) w_266 rfl rfl (ty := .array .int) (v := .ref q1) (by decide +kernel) rfl rfl (Nat.le_of_ble_eq_true rfl) dX1_init_9 (fun H locs hw => ?_)
  have hw : GW D A s [(h0, .inr (1, [.ref q1, .long 0, .long 0, .int 0, .int 0, .int 0, .int 0, .int 0])), (q1, .inl (cA 0, 64, .inl (fun _ => 0)))] H _ := hw
  exact g_vret E hw (by omega) (by omega) hQ dX1_init_12 ⟨rfl, q1, rfl⟩
set_option maxHeartbeats 4000000 in
set_option maxRecDepth 100000 in
theorem k_X2_init (l : Launch) (D : va_G) (cA : Nat → ClassId) (st : Nat → Nat) (h0 : Nat) : GC D cA st l yX2_init cX2_init 1 2 32 3 93 [.ref h0] [(h0, .inr (2, [.null, .null, .int 0, .int 0, .int 0, .int 0]))] (fun v w1 => v = none ∧ ∃ q1 t1 q2, w1 = [(h0, .inr (2, [.ref q1, .ref q2, .int 0, .int 0, .int 0, .int 0])), (q1, .inr (4, [.ref t1, .int 0, .int 0, .int 0, .int 0, .int 0, .int 0])), (t1, .inl (cA 2, 80, .inl (fun _ => 0))), (q2, .inr (3, [.int 0, .int 0, .int 0, .int 0, .int 0, .int 0]))]) := by
  refine GC.of "KindSayings$Reader" rfl (by decide) (Nat.le_of_ble_eq_true rfl) (fun p e s m args below meth c A ls R Q E hO hR hC hQ hw hl hin => ?_)
  obtain ⟨hx, hb, hml, hown, hts, -⟩ := id E
  have hl : lv_has ls 1 [(0, .ref h0)] := hl
  refine lv_aload_n hx hb dX2_init_0 rfl (lv_at hl 0 rfl) ?_
  refine g_objInit E hl.1 w_92 (by rw [hR.1]; decide) (by rw [hR.2]; exact Nat.le_of_ble_eq_true rfl) dX2_init_1 ?_
  refine lv_aload_n hx hb dX2_init_4 rfl (lv_at hl 0 rfl) ?_
  refine g_new E hw (ci := 4) (C := RX4) (T := TX4) (N := 7) rfl inG4 tyX4 tyX4_ok w_93 w_94 w_68 [.null, .int 0, .int 0, .int 0, .int 0, .int 0, .int 0] (fun j hj => by rcases (show j = 0 ∨ j = 1 ∨ j = 2 ∨ j = 3 ∨ j = 4 ∨ j = 5 ∨ j = 6 by omega) with rfl | rfl | rfl | rfl | rfl | rfl | rfl <;> rfl) (by rw [hC.1]; omega) (by rw [hC.2]; omega) dX2_init_5 (fun q1 H hw => ?_)
  have hw : GW D A s [(h0, .inr (2, [.null, .null, .int 0, .int 0, .int 0, .int 0])), (q1, .inr (4, [.null, .int 0, .int 0, .int 0, .int 0, .int 0, .int 0]))] H _ := hw
  refine lv_dup hx hb dX2_init_8 rfl ?_
  refine g_callIN E hO hw hl.1 ci_2_11 (k_X4_init l D cA st q1) (wc := [(q1, .inr (4, [.null, .int 0, .int 0, .int 0, .int 0, .int 0, .int 0]))]) (wr := [(h0, .inr (2, [.null, .null, .int 0, .int 0, .int 0, .int 0]))]) (isC := [1]) (isR := [0]) rfl (by decide) rfl (by decide) (by decide) ⟨by rw [hR.1]; decide, by rw [hR.2]; decide⟩ ⟨by rw [hC.1]; omega, by rw [hC.2]; omega⟩ (Nat.le_of_ble_eq_true rfl) dX2_init_9 (fun v w1 H locs hp hw => ?_)
  obtain ⟨rfl, t1, rfl⟩ := hp
  have hw : GW D A s [(h0, .inr (2, [.null, .null, .int 0, .int 0, .int 0, .int 0])), (q1, .inr (4, [.ref t1, .int 0, .int 0, .int 0, .int 0, .int 0, .int 0])), (t1, .inl (cA 2, 80, .inl (fun _ => 0)))] H _ := hw
  refine W.eq (g2 := F0 m 12 ls [.ref q1, .ref h0]) rfl ?_
  refine g_putF E hw (hin rfl) 0 rfl rfl inG2 tyX2 tyX2_ok nmX2 0 (by decide) w_165 rfl rfl (ty := .object "KindSayings$Tokens") (v := .ref q1) (by decide +kernel) rfl rfl (Nat.le_of_ble_eq_true rfl) dX2_init_12 (fun H locs hw => ?_)
  have hw : GW D A s [(h0, .inr (2, [.ref q1, .null, .int 0, .int 0, .int 0, .int 0])), (q1, .inr (4, [.ref t1, .int 0, .int 0, .int 0, .int 0, .int 0, .int 0])), (t1, .inl (cA 2, 80, .inl (fun _ => 0)))] H _ := hw
  refine lv_aload_n hx hb dX2_init_15 rfl (lv_at hl 0 rfl) ?_
  refine g_new E hw (ci := 3) (C := RX3) (T := TX3) (N := 6) rfl inG3 tyX3 tyX3_ok w_128 w_129 w_69 [.int 0, .int 0, .int 0, .int 0, .int 0, .int 0] (fun j hj => by rcases (show j = 0 ∨ j = 1 ∨ j = 2 ∨ j = 3 ∨ j = 4 ∨ j = 5 by omega) with rfl | rfl | rfl | rfl | rfl | rfl <;> rfl) (by rw [hC.1]; omega) (by rw [hC.2]; omega) dX2_init_16 (fun q2 H hw => ?_)
  have hw : GW D A s [(h0, .inr (2, [.ref q1, .null, .int 0, .int 0, .int 0, .int 0])), (q1, .inr (4, [.ref t1, .int 0, .int 0, .int 0, .int 0, .int 0, .int 0])), (t1, .inl (cA 2, 80, .inl (fun _ => 0))), (q2, .inr (3, [.int 0, .int 0, .int 0, .int 0, .int 0, .int 0]))] H _ := hw
  refine lv_dup hx hb dX2_init_19 rfl ?_
  refine g_callIN E hO hw hl.1 ci_2_20 (k_X3_init l D cA st q2) (wc := [(q2, .inr (3, [.int 0, .int 0, .int 0, .int 0, .int 0, .int 0]))]) (wr := [(h0, .inr (2, [.ref q1, .null, .int 0, .int 0, .int 0, .int 0])), (q1, .inr (4, [.ref t1, .int 0, .int 0, .int 0, .int 0, .int 0, .int 0])), (t1, .inl (cA 2, 80, .inl (fun _ => 0)))]) (isC := [3]) (isR := [0, 1, 2]) rfl (by decide) rfl (by decide) (by decide) ⟨by rw [hR.1]; decide, by rw [hR.2]; decide⟩ ⟨by rw [hC.1]; omega, by rw [hC.2]; omega⟩ (Nat.le_of_ble_eq_true rfl) dX2_init_20 (fun v w1 H locs hp hw => ?_)
  obtain ⟨rfl, rfl⟩ := hp
  have hw : GW D A s [(h0, .inr (2, [.ref q1, .null, .int 0, .int 0, .int 0, .int 0])), (q1, .inr (4, [.ref t1, .int 0, .int 0, .int 0, .int 0, .int 0, .int 0])), (t1, .inl (cA 2, 80, .inl (fun _ => 0))), (q2, .inr (3, [.int 0, .int 0, .int 0, .int 0, .int 0, .int 0]))] H _ := hw
  refine W.eq (g2 := F0 m 23 ls [.ref q2, .ref h0]) rfl ?_
  refine g_putF E hw (hin rfl) 0 rfl rfl inG2 tyX2 tyX2_ok nmX2 1 (by decide) w_167 rfl rfl (ty := .object "KindSayings$Saying") (v := .ref q2) (by decide +kernel) rfl rfl (Nat.le_of_ble_eq_true rfl) dX2_init_23 (fun H locs hw => ?_)
  have hw : GW D A s [(h0, .inr (2, [.ref q1, .ref q2, .int 0, .int 0, .int 0, .int 0])), (q1, .inr (4, [.ref t1, .int 0, .int 0, .int 0, .int 0, .int 0, .int 0])), (t1, .inl (cA 2, 80, .inl (fun _ => 0))), (q2, .inr (3, [.int 0, .int 0, .int 0, .int 0, .int 0, .int 0]))] H _ := hw
  exact g_vret E hw (by omega) (by omega) hQ dX2_init_26 ⟨rfl, q1, t1, q2, rfl⟩
