def fX7_in  (p1 : Int32) (p2 : Int32) (p3 : Int32) : Bool :=
 (if p1 < p2 then
 false
 else
 (if p3 < p1 then
 false
 else
 true))
set_option maxHeartbeats 4000000 in
set_option maxRecDepth 100000 in
theorem c_X7_in (l : Launch) (D : va_G) (cA : Nat → ClassId) (st ad : Nat → Nat) (a : Nat)  (τ : Tau) (p1 : Int32) (p2 : Int32) (p3 : Int32) (R : Bool) (hf : fX7_in p1 p2 p3 = R) : KE ΛM 12 D cA st ad l yX7_in cX7_in 3 (some .boolean) 0 0 [.int p1, .int p2, .int p3] a τ (some (.int (bI R))) τ := by
  refine KE.of "KindSayingsModel" rfl (by decide) (Nat.le_of_ble_eq_true rfl) (fun p e s m args below meth c A ls Rm Q hE hRm hQ hw hl => ?_)
  obtain ⟨hx, hb, hml, hown, hts, -⟩ := id hE
  have hl : lv_has ls 3 [(0, .int p1), (1, .int p2), (2, .int p3)] := hl
  unfold fX7_in at hf
  refine lv_iload_n hx hb dX7_in_0 rfl (lv_at hl 0 rfl) ?_
  refine lv_iload_n hx hb dX7_in_1 rfl (lv_at hl 1 rfl) ?_
  refine lv_icmp_lt (tgt := 14) hx hb dX7_in_2 (by decide) (fun c1 => ?_) (fun c1 => ?_)
  · have hf := (if_pos c1).symm.trans hf
    refine lv_iconst (v := 0) hx hb dX7_in_14 (by decide) ?_
    subst hf
    exact ke_zret hE hw hQ (Or.inl rfl) dX7_in_15 rfl rfl
  · have hf := (if_neg c1).symm.trans hf
    refine lv_iload_n hx hb dX7_in_5 rfl (lv_at hl 0 rfl) ?_
    refine lv_iload_n hx hb dX7_in_6 rfl (lv_at hl 2 rfl) ?_
    refine lv_icmp_gt (tgt := 14) hx hb dX7_in_7 (by decide) (fun c2 => ?_) (fun c2 => ?_)
    · have hf := (if_pos c2).symm.trans hf
      refine lv_iconst (v := 0) hx hb dX7_in_14 (by decide) ?_
      subst hf
      exact ke_zret hE hw hQ (Or.inl rfl) dX7_in_15 rfl rfl
    · have hf := (if_neg c2).symm.trans hf
      refine lv_iconst (v := 1) hx hb dX7_in_10 (by decide) ?_
      refine lv_goto (tgt := 15) hx hb dX7_in_11 (by decide) ?_
      subst hf
      exact ke_zret hE hw hQ (Or.inr rfl) dX7_in_15 rfl rfl
def fX7_sorts (τ : Tau) : Int32 :=
 ((1 : Int32) <<< (tI τ 0 1 &&& 31))
set_option maxHeartbeats 4000000 in
set_option maxRecDepth 100000 in
theorem c_X7_sorts (l : Launch) (D : va_G) (cA : Nat → ClassId) (st ad : Nat → Nat) (a : Nat)  (τ : Tau) (R : Int32) (hf : fX7_sorts τ = R) : KE ΛM 12 D cA st ad l yX7_sorts cX7_sorts 1 (some .int) 0 0 [.ref (adr ad a 0)] a τ (some (.int R)) τ := by
  refine KE.of "KindSayingsModel" rfl (by decide) (Nat.le_of_ble_eq_true rfl) (fun p e s m args below meth c A ls Rm Q hE hRm hQ hw hl => ?_)
  obtain ⟨hx, hb, hml, hown, hts, -⟩ := id hE
  have hl : lv_has ls 1 [(0, .ref (adr ad a 0))] := hl
  unfold fX7_sorts at hf
  refine lv_iconst (v := 1) hx hb dX7_sorts_0 (by decide) ?_
  refine lv_aload_n hx hb dX7_sorts_1 rfl (lv_at hl 0 rfl) ?_
  refine ks_getI hE hw 0 1 ltM_0 lyM_0 rfl fd_X7_7 dX7_sorts_2 ?_
  refine lv_ishl hx hb dX7_sorts_5 ?_
  subst hf
  exact ke_iret hE hw hQ dX7_sorts_6 rfl rfl
def fX7_of_4 (τ : Tau) (p1 : Int32) : Nat → Int32 → Int32 → Option Int32
  | 0, _, _ => none
  | n + 1, x_2, x_3 =>
     nm (fX7_sorts τ) (fun r1 =>
     (if r1 ≤ x_3 then
     some x_2
     else
     nm (x_2 ||| (((x_3 >>> (p1 &&& 31)) &&& (1 : Int32)) <<< (x_3 &&& 31))) (fun x3 =>
     nm (x_3 + (1 : Int32)) (fun x4 =>
     fX7_of_4 τ p1 n x3 x4))))
def fX7_of (τ : Tau) (p1 : Int32) : Option Int32 :=
 fX7_of_4 τ p1 FU (0 : Int32) (0 : Int32)
set_option maxHeartbeats 4000000 in
set_option maxRecDepth 100000 in
theorem c_X7_of (l : Launch) (D : va_G) (cA : Nat → ClassId) (st ad : Nat → Nat) (a : Nat)  (τ : Tau) (p1 : Int32) (R : Int32) (hf : fX7_of τ p1 = some R) : KE ΛM 12 D cA st ad l yX7_of cX7_of 4 (some .int) 1 20 [.ref (adr ad a 0), .int p1] a τ (some (.int R)) τ := by
  refine KE.of "KindSayingsModel" rfl (by decide) (Nat.le_of_ble_eq_true rfl) (fun p e s m args below meth c A ls Rm Q hE hRm hQ hw hl => ?_)
  obtain ⟨hx, hb, hml, hown, hts, -⟩ := id hE
  have hl : lv_has ls 4 [(0, .ref (adr ad a 0)), (1, .int p1)] := hl
  have L4 : ∀ (n4 : Nat) (x_2 : Int32) (x_3 : Int32) (H : Heap) (locs : List Loc) (ls : Array Slot), fX7_of_4 τ p1 n4 x_2 x_3 = some R → Wd ΛM 12 D cA ad A s a τ H locs → lv_has ls 4 [(0, .ref (adr ad a 0)), (1, .int p1), (2, .int x_2), (3, .int x_3)] → W p l e Rm s m args below meth c H locs 0 0 Q (F0 m 4 ls []) := by
    intro n4
    induction n4 with
    | zero => intro x_2 x_3 H locs ls hf hw hl; exact absurd hf (by rw [fX7_of_4]; simp)
    | succ n4 ih4 =>
      intro x_2 x_3 H locs ls hf hw hl
      rw [fX7_of_4] at hf
      refine lv_iload_n hx hb dX7_of_4 rfl (lv_at hl 3 rfl) ?_
      refine lv_aload_n hx hb dX7_of_5 rfl (lv_at hl 0 rfl) ?_
      obtain ⟨r1, er1, hf⟩ := ks_nm hf
      refine ke_V hE hw hl.1 cl_X7_60 0 ltM_0 lyM_0 rfl [] (c_X7_sorts l D cA st ad a _ _ er1.symm) rfl (ke_room hRm rfl rfl) ke_cnt (Nat.le_of_ble_eq_true rfl) rfl dX7_of_6 (fun H locs hw => ?_)
      refine W.eq (g2 := F0 m 9 ls (.int r1 :: .int x_3 :: [])) rfl ?_
      refine lv_icmp_ge (tgt := 28) hx hb dX7_of_9 (by decide) (fun c2 => ?_) (fun c2 => ?_)
      · have hf := (if_pos c2).symm.trans hf
        refine lv_iload_n hx hb dX7_of_28 rfl (lv_at hl 2 rfl) ?_
        replace hf := Option.some.inj hf
        subst hf
        exact ke_iret hE hw hQ dX7_of_29 rfl rfl
      · have hf := (if_neg c2).symm.trans hf
        refine lv_iload_n hx hb dX7_of_12 rfl (lv_at hl 2 rfl) ?_
        refine lv_iload_n hx hb dX7_of_13 rfl (lv_at hl 3 rfl) ?_
        refine lv_iload_n hx hb dX7_of_14 rfl (lv_at hl 1 rfl) ?_
        refine lv_ishr hx hb dX7_of_15 ?_
        refine lv_iconst (v := 1) hx hb dX7_of_16 (by decide) ?_
        refine lv_iand hx hb dX7_of_17 ?_
        refine lv_iload_n hx hb dX7_of_18 rfl (lv_at hl 3 rfl) ?_
        refine lv_ishl hx hb dX7_of_19 ?_
        refine lv_ior hx hb dX7_of_20 ?_
        obtain ⟨x3, ex3, hf⟩ := ks_nm hf
        refine W.eq (g2 := F0 m 21 ls (.int x3 :: [])) (by rw [ex3]) ?_
        refine lv_istore_n (lv' := [(2, .int x3), (0, .ref (adr ad a 0)), (1, .int p1), (3, .int x_3)]) hx hb dX7_of_21 rfl hl (by decide) rfl (fun ls hl => ?_)
        obtain ⟨x4, ex4, hf⟩ := ks_nm hf
        refine lv_iinc (v := x4) (lv' := [(3, .int x4), (2, .int x3), (0, .ref (adr ad a 0)), (1, .int p1)]) hx hb dX7_of_22 hl (k := 3) rfl (by rw [ex4]; rfl) (by decide) rfl (fun ls hl => ?_)
        refine lv_goto (tgt := 4) hx hb dX7_of_25 (by decide) ?_
        exact ih4 _ _ _ _ _ hf hw (lv_sub hl [2, 3, 1, 0] rfl)
  unfold fX7_of at hf
  refine lv_iconst (v := 0) hx hb dX7_of_0 (by decide) ?_
  refine lv_istore_n (lv' := [(2, .int (0 : Int32)), (0, .ref (adr ad a 0)), (1, .int p1)]) hx hb dX7_of_1 rfl hl (by decide) rfl (fun ls hl => ?_)
  refine lv_iconst (v := 0) hx hb dX7_of_2 (by decide) ?_
  refine lv_istore_n (lv' := [(3, .int (0 : Int32)), (2, .int (0 : Int32)), (0, .ref (adr ad a 0)), (1, .int p1)]) hx hb dX7_of_3 rfl hl (by decide) rfl (fun ls hl => ?_)
  exact L4 FU _ _ _ _ _ hf hw (lv_sub hl [2, 3, 1, 0] rfl)
def fX7_begins_94  : Nat → Tau → Int32 → Option Tau
  | 0, _, _ => none
  | n + 1, τ, x_1 =>
     (if (16 : Int32) ≤ x_1 then
     nm (sI τ 0 17 (0 : Int32)) (fun t18 =>
     some t18)
     else
     (if x_1 < 0 ∨ 16 ≤ x_1.toNatClampNeg then none else
     nm (sA τ 1 x_1.toNatClampNeg (0 : Int32)) (fun t20 =>
     nm (x_1 + (1 : Int32)) (fun x21 =>
     fX7_begins_94 n t20 x21))))
def fX7_begins_2  : Nat → Tau → Int32 → Option Tau
  | 0, _, _ => none
  | n + 1, τ, x_1 =>
     (if (10 : Int32) ≤ x_1 then
     fX7_begins_94 FU τ (0 : Int32)
     else
     (if ((6 : Int32) * x_1) < 0 ∨ 60 ≤ ((6 : Int32) * x_1).toNatClampNeg then none else
     nm (sA τ 3 ((6 : Int32) * x_1).toNatClampNeg (0 : Int32)) (fun t3 =>
     Option.bind (fX7_of t3 (0 : Int32)) (fun r4 =>
     (if (((6 : Int32) * x_1) + (1 : Int32)) < 0 ∨ 60 ≤ (((6 : Int32) * x_1) + (1 : Int32)).toNatClampNeg then none else
     nm (sA t3 3 (((6 : Int32) * x_1) + (1 : Int32)).toNatClampNeg r4) (fun t6 =>
     Option.bind (fX7_of t6 (0 : Int32)) (fun r7 =>
     (if (((6 : Int32) * x_1) + (2 : Int32)) < 0 ∨ 60 ≤ (((6 : Int32) * x_1) + (2 : Int32)).toNatClampNeg then none else
     nm (sA t6 3 (((6 : Int32) * x_1) + (2 : Int32)).toNatClampNeg r7) (fun t9 =>
     (if (((6 : Int32) * x_1) + (3 : Int32)) < 0 ∨ 60 ≤ (((6 : Int32) * x_1) + (3 : Int32)).toNatClampNeg then none else
     nm (sA t9 3 (((6 : Int32) * x_1) + (3 : Int32)).toNatClampNeg (0 : Int32)) (fun t11 =>
     (if (((6 : Int32) * x_1) + (4 : Int32)) < 0 ∨ 60 ≤ (((6 : Int32) * x_1) + (4 : Int32)).toNatClampNeg then none else
     nm (sA t11 3 (((6 : Int32) * x_1) + (4 : Int32)).toNatClampNeg (0 : Int32)) (fun t13 =>
     (if (((6 : Int32) * x_1) + (5 : Int32)) < 0 ∨ 60 ≤ (((6 : Int32) * x_1) + (5 : Int32)).toNatClampNeg then none else
     nm (sA t13 3 (((6 : Int32) * x_1) + (5 : Int32)).toNatClampNeg (0 : Int32)) (fun t15 =>
     nm (x_1 + (1 : Int32)) (fun x16 =>
     fX7_begins_2 n t15 x16))))))))))))))))
def fX7_begins  (τ : Tau) : Option Tau :=
 fX7_begins_2 FU τ (0 : Int32)
set_option maxHeartbeats 4000000 in
set_option maxRecDepth 100000 in
theorem c_X7_begins (l : Launch) (D : va_G) (cA : Nat → ClassId) (st ad : Nat → Nat) (a : Nat)  (τ : Tau) (R : Tau) (hf : fX7_begins τ = some R) : KE ΛM 12 D cA st ad l yX7_begins cX7_begins 2 none 2 43 [.ref (adr ad a 0)] a τ (none) R := by
  refine KE.of "KindSayingsModel" rfl (by decide) (Nat.le_of_ble_eq_true rfl) (fun p e s m args below meth c A ls Rm Q hE hRm hQ hw hl => ?_)
  obtain ⟨hx, hb, hml, hown, hts, -⟩ := id hE
  have hl : lv_has ls 2 [(0, .ref (adr ad a 0))] := hl
  have L94 : ∀ (n94 : Nat) (τ : Tau) (x_1 : Int32) (H : Heap) (locs : List Loc) (ls : Array Slot), fX7_begins_94 n94 τ x_1 = some R → Wd ΛM 12 D cA ad A s a τ H locs → lv_has ls 2 [(0, .ref (adr ad a 0)), (1, .int x_1)] → W p l e Rm s m args below meth c H locs 0 0 Q (F0 m 94 ls []) := by
    intro n94
    induction n94 with
    | zero => intro τ x_1 H locs ls hf hw hl; exact absurd hf (by rw [fX7_begins_94]; simp)
    | succ n94 ih94 =>
      intro τ x_1 H locs ls hf hw hl
      rw [fX7_begins_94] at hf
      refine lv_iload_n hx hb dX7_begins_94 rfl (lv_at hl 1 rfl) ?_
      refine lv_bipush (v := 16) hx hb dX7_begins_95 (by decide) ?_
      refine lv_icmp_ge (tgt := 113) hx hb dX7_begins_97 (by decide) (fun c17 => ?_) (fun c17 => ?_)
      · have hf := (if_pos c17).symm.trans hf
        refine lv_aload_n hx hb dX7_begins_113 rfl (lv_at hl 0 rfl) ?_
        refine lv_iconst (v := 0) hx hb dX7_begins_114 (by decide) ?_
        obtain ⟨t18, et18, hf⟩ := ks_nm hf
        refine ks_putI hE hw 0 17 ltM_0 lyM_0 rfl fw_X7_68 (nar_bool (Or.inl rfl)).1 (nar_bool (Or.inl rfl)).2 dX7_begins_115 (fun H locs hw => ?_)
        rw [← et18] at hw
        replace hf := Option.some.inj hf
        subst hf
        exact ke_vret hE hw hQ dX7_begins_118 rfl
      · have hf := (if_neg c17).symm.trans hf
        refine lv_aload_n hx hb dX7_begins_100 rfl (lv_at hl 0 rfl) ?_
        refine ks_getR hE hw 0 4 ltM_0 lyM_0 rfl fd_X7_19 dX7_begins_101 ?_
        refine lv_iload_n hx hb dX7_begins_104 rfl (lv_at hl 1 rfl) ?_
        refine lv_iconst (v := 0) hx hb dX7_begins_105 (by decide) ?_
        obtain ⟨b19, hf⟩ := ks_ok hf
        obtain ⟨t20, et20, hf⟩ := ks_nm hf
        refine ks_iast hE hw 1 ltM_1 lyM_1 b19 dX7_begins_106 (fun H locs hw => ?_)
        rw [← et20] at hw
        obtain ⟨x21, ex21, hf⟩ := ks_nm hf
        refine lv_iinc (v := x21) (lv' := [(1, .int x21), (0, .ref (adr ad a 0))]) hx hb dX7_begins_107 hl (k := 1) rfl (by rw [ex21]; rfl) (by decide) rfl (fun ls hl => ?_)
        refine lv_goto (tgt := 94) hx hb dX7_begins_110 (by decide) ?_
        exact ih94 _ _ _ _ _ hf hw (lv_sub hl [1, 0] rfl)
  have L2 : ∀ (n2 : Nat) (τ : Tau) (x_1 : Int32) (H : Heap) (locs : List Loc) (ls : Array Slot), fX7_begins_2 n2 τ x_1 = some R → Wd ΛM 12 D cA ad A s a τ H locs → lv_has ls 2 [(0, .ref (adr ad a 0)), (1, .int x_1)] → W p l e Rm s m args below meth c H locs 0 0 Q (F0 m 2 ls []) := by
    intro n2
    induction n2 with
    | zero => intro τ x_1 H locs ls hf hw hl; exact absurd hf (by rw [fX7_begins_2]; simp)
    | succ n2 ih2 =>
      intro τ x_1 H locs ls hf hw hl
      rw [fX7_begins_2] at hf
      refine lv_iload_n hx hb dX7_begins_2 rfl (lv_at hl 1 rfl) ?_
      refine lv_bipush (v := 10) hx hb dX7_begins_3 (by decide) ?_
      refine lv_icmp_ge (tgt := 92) hx hb dX7_begins_5 (by decide) (fun c1 => ?_) (fun c1 => ?_)
      · have hf := (if_pos c1).symm.trans hf
        refine lv_iconst (v := 0) hx hb dX7_begins_92 (by decide) ?_
        refine lv_istore_n (lv' := [(1, .int (0 : Int32)), (0, .ref (adr ad a 0))]) hx hb dX7_begins_93 rfl hl (by decide) rfl (fun ls hl => ?_)
        exact L94 FU _ _ _ _ _ hf hw (lv_sub hl [1, 0] rfl)
      · have hf := (if_neg c1).symm.trans hf
        refine lv_aload_n hx hb dX7_begins_8 rfl (lv_at hl 0 rfl) ?_
        refine ks_getR hE hw 0 13 ltM_0 lyM_0 rfl fd_X7_26 dX7_begins_9 ?_
        refine lv_bipush (v := 6) hx hb dX7_begins_12 (by decide) ?_
        refine lv_iload_n hx hb dX7_begins_14 rfl (lv_at hl 1 rfl) ?_
        refine lv_imul hx hb dX7_begins_15 ?_
        refine lv_iconst (v := 0) hx hb dX7_begins_16 (by decide) ?_
        obtain ⟨b2, hf⟩ := ks_ok hf
        obtain ⟨t3, et3, hf⟩ := ks_nm hf
        refine ks_iast hE hw 3 ltM_3 lyM_3 b2 dX7_begins_17 (fun H locs hw => ?_)
        rw [← et3] at hw
        refine lv_aload_n hx hb dX7_begins_18 rfl (lv_at hl 0 rfl) ?_
        refine ks_getR hE hw 0 13 ltM_0 lyM_0 rfl fd_X7_26 dX7_begins_19 ?_
        refine lv_bipush (v := 6) hx hb dX7_begins_22 (by decide) ?_
        refine lv_iload_n hx hb dX7_begins_24 rfl (lv_at hl 1 rfl) ?_
        refine lv_imul hx hb dX7_begins_25 ?_
        refine lv_iconst (v := 1) hx hb dX7_begins_26 (by decide) ?_
        refine lv_iadd hx hb dX7_begins_27 ?_
        refine lv_aload_n hx hb dX7_begins_28 rfl (lv_at hl 0 rfl) ?_
        refine lv_iconst (v := 0) hx hb dX7_begins_29 (by decide) ?_
        obtain ⟨r4, er4, hf⟩ := ks_bind hf
        refine ke_V hE hw hl.1 cl_X7_64 0 ltM_0 lyM_0 rfl [.int (0 : Int32)] (c_X7_of l D cA st ad a _ _ _ er4) rfl (ke_room hRm rfl rfl) ke_cnt (Nat.le_of_ble_eq_true rfl) rfl dX7_begins_30 (fun H locs hw => ?_)
        refine W.eq (g2 := F0 m 33 ls (.int r4 :: .int (((6 : Int32) * x_1) + (1 : Int32)) :: .ref (adr ad a 3) :: [])) rfl ?_
        obtain ⟨b5, hf⟩ := ks_ok hf
        obtain ⟨t6, et6, hf⟩ := ks_nm hf
        refine ks_iast hE hw 3 ltM_3 lyM_3 b5 dX7_begins_33 (fun H locs hw => ?_)
        rw [← et6] at hw
        refine lv_aload_n hx hb dX7_begins_34 rfl (lv_at hl 0 rfl) ?_
        refine ks_getR hE hw 0 13 ltM_0 lyM_0 rfl fd_X7_26 dX7_begins_35 ?_
        refine lv_bipush (v := 6) hx hb dX7_begins_38 (by decide) ?_
        refine lv_iload_n hx hb dX7_begins_40 rfl (lv_at hl 1 rfl) ?_
        refine lv_imul hx hb dX7_begins_41 ?_
        refine lv_iconst (v := 2) hx hb dX7_begins_42 (by decide) ?_
        refine lv_iadd hx hb dX7_begins_43 ?_
        refine lv_aload_n hx hb dX7_begins_44 rfl (lv_at hl 0 rfl) ?_
        refine lv_iconst (v := 0) hx hb dX7_begins_45 (by decide) ?_
        obtain ⟨r7, er7, hf⟩ := ks_bind hf
        refine ke_V hE hw hl.1 cl_X7_64 0 ltM_0 lyM_0 rfl [.int (0 : Int32)] (c_X7_of l D cA st ad a _ _ _ er7) rfl (ke_room hRm rfl rfl) ke_cnt (Nat.le_of_ble_eq_true rfl) rfl dX7_begins_46 (fun H locs hw => ?_)
        refine W.eq (g2 := F0 m 49 ls (.int r7 :: .int (((6 : Int32) * x_1) + (2 : Int32)) :: .ref (adr ad a 3) :: [])) rfl ?_
        obtain ⟨b8, hf⟩ := ks_ok hf
        obtain ⟨t9, et9, hf⟩ := ks_nm hf
        refine ks_iast hE hw 3 ltM_3 lyM_3 b8 dX7_begins_49 (fun H locs hw => ?_)
        rw [← et9] at hw
        refine lv_aload_n hx hb dX7_begins_50 rfl (lv_at hl 0 rfl) ?_
        refine ks_getR hE hw 0 13 ltM_0 lyM_0 rfl fd_X7_26 dX7_begins_51 ?_
        refine lv_bipush (v := 6) hx hb dX7_begins_54 (by decide) ?_
        refine lv_iload_n hx hb dX7_begins_56 rfl (lv_at hl 1 rfl) ?_
        refine lv_imul hx hb dX7_begins_57 ?_
        refine lv_iconst (v := 3) hx hb dX7_begins_58 (by decide) ?_
        refine lv_iadd hx hb dX7_begins_59 ?_
        refine lv_iconst (v := 0) hx hb dX7_begins_60 (by decide) ?_
        obtain ⟨b10, hf⟩ := ks_ok hf
        obtain ⟨t11, et11, hf⟩ := ks_nm hf
        refine ks_iast hE hw 3 ltM_3 lyM_3 b10 dX7_begins_61 (fun H locs hw => ?_)
        rw [← et11] at hw
        refine lv_aload_n hx hb dX7_begins_62 rfl (lv_at hl 0 rfl) ?_
        refine ks_getR hE hw 0 13 ltM_0 lyM_0 rfl fd_X7_26 dX7_begins_63 ?_
        refine lv_bipush (v := 6) hx hb dX7_begins_66 (by decide) ?_
        refine lv_iload_n hx hb dX7_begins_68 rfl (lv_at hl 1 rfl) ?_
        refine lv_imul hx hb dX7_begins_69 ?_
        refine lv_iconst (v := 4) hx hb dX7_begins_70 (by decide) ?_
        refine lv_iadd hx hb dX7_begins_71 ?_
        refine lv_iconst (v := 0) hx hb dX7_begins_72 (by decide) ?_
        obtain ⟨b12, hf⟩ := ks_ok hf
        obtain ⟨t13, et13, hf⟩ := ks_nm hf
        refine ks_iast hE hw 3 ltM_3 lyM_3 b12 dX7_begins_73 (fun H locs hw => ?_)
        rw [← et13] at hw
        refine lv_aload_n hx hb dX7_begins_74 rfl (lv_at hl 0 rfl) ?_
        refine ks_getR hE hw 0 13 ltM_0 lyM_0 rfl fd_X7_26 dX7_begins_75 ?_
        refine lv_bipush (v := 6) hx hb dX7_begins_78 (by decide) ?_
        refine lv_iload_n hx hb dX7_begins_80 rfl (lv_at hl 1 rfl) ?_
        refine lv_imul hx hb dX7_begins_81 ?_
        refine lv_iconst (v := 5) hx hb dX7_begins_82 (by decide) ?_
        refine lv_iadd hx hb dX7_begins_83 ?_
        refine lv_iconst (v := 0) hx hb dX7_begins_84 (by decide) ?_
        obtain ⟨b14, hf⟩ := ks_ok hf
        obtain ⟨t15, et15, hf⟩ := ks_nm hf
        refine ks_iast hE hw 3 ltM_3 lyM_3 b14 dX7_begins_85 (fun H locs hw => ?_)
        rw [← et15] at hw
        obtain ⟨x16, ex16, hf⟩ := ks_nm hf
        refine lv_iinc (v := x16) (lv' := [(1, .int x16), (0, .ref (adr ad a 0))]) hx hb dX7_begins_86 hl (k := 1) rfl (by rw [ex16]; rfl) (by decide) rfl (fun ls hl => ?_)
        refine lv_goto (tgt := 2) hx hb dX7_begins_89 (by decide) ?_
        exact ih2 _ _ _ _ _ hf hw (lv_sub hl [1, 0] rfl)
  unfold fX7_begins at hf
  refine lv_iconst (v := 0) hx hb dX7_begins_0 (by decide) ?_
  refine lv_istore_n (lv' := [(1, .int (0 : Int32)), (0, .ref (adr ad a 0))]) hx hb dX7_begins_1 rfl hl (by decide) rfl (fun ls hl => ?_)
  exact L2 FU _ _ _ _ _ hf hw (lv_sub hl [1, 0] rfl)
def fX7_isSaying  (p1 : Int32) : Bool :=
 nm (fX7_in p1 (0 : Int32) (9 : Int32)) (fun r1 =>
 r1)
set_option maxHeartbeats 4000000 in
set_option maxRecDepth 100000 in
theorem c_X7_isSaying (l : Launch) (D : va_G) (cA : Nat → ClassId) (st ad : Nat → Nat) (a : Nat)  (τ : Tau) (p1 : Int32) (R : Bool) (hf : fX7_isSaying p1 = R) : KE ΛM 12 D cA st ad l yX7_isSaying cX7_isSaying 1 (some .boolean) 1 22 [.int p1] a τ (some (.int (bI R))) τ := by
  refine KE.of "KindSayingsModel" rfl (by decide) (Nat.le_of_ble_eq_true rfl) (fun p e s m args below meth c A ls Rm Q hE hRm hQ hw hl => ?_)
  obtain ⟨hx, hb, hml, hown, hts, -⟩ := id hE
  have hl : lv_has ls 1 [(0, .int p1)] := hl
  unfold fX7_isSaying at hf
  refine lv_iload_n hx hb dX7_isSaying_0 rfl (lv_at hl 0 rfl) ?_
  refine lv_iconst (v := 0) hx hb dX7_isSaying_1 (by decide) ?_
  refine lv_bipush (v := 9) hx hb dX7_isSaying_2 (by decide) ?_
  obtain ⟨r1, er1, hf⟩ := ks_nm hf
  refine ke_S hE hw hl.1 cl_X7_72 [.int p1, .int (0 : Int32), .int (9 : Int32)] (c_X7_in l D cA st ad a _ _ _ _ _ er1.symm) rfl (ke_room hRm rfl rfl) ke_cnt (Nat.le_of_ble_eq_true rfl) rfl dX7_isSaying_4 (fun H locs hw => ?_)
  refine W.eq (g2 := F0 m 7 ls (.int (bI r1) :: [])) rfl ?_
  subst hf
  exact ke_zret hE hw hQ (bI01 _) dX7_isSaying_7 rfl rfl
def fX7_isSet  (p1 : Int32) : Bool :=
 nm (fX7_in p1 (0 : Int32) (1023 : Int32)) (fun r1 =>
 r1)
set_option maxHeartbeats 4000000 in
set_option maxRecDepth 100000 in
theorem c_X7_isSet (l : Launch) (D : va_G) (cA : Nat → ClassId) (st ad : Nat → Nat) (a : Nat)  (τ : Tau) (p1 : Int32) (R : Bool) (hf : fX7_isSet p1 = R) : KE ΛM 12 D cA st ad l yX7_isSet cX7_isSet 1 (some .boolean) 1 22 [.int p1] a τ (some (.int (bI R))) τ := by
  refine KE.of "KindSayingsModel" rfl (by decide) (Nat.le_of_ble_eq_true rfl) (fun p e s m args below meth c A ls Rm Q hE hRm hQ hw hl => ?_)
  obtain ⟨hx, hb, hml, hown, hts, -⟩ := id hE
  have hl : lv_has ls 1 [(0, .int p1)] := hl
  unfold fX7_isSet at hf
  refine lv_iload_n hx hb dX7_isSet_0 rfl (lv_at hl 0 rfl) ?_
  refine lv_iconst (v := 0) hx hb dX7_isSet_1 (by decide) ?_
  refine lv_sipush (v := 1023) hx hb dX7_isSet_2 (by decide) ?_
  obtain ⟨r1, er1, hf⟩ := ks_nm hf
  refine ke_S hE hw hl.1 cl_X7_72 [.int p1, .int (0 : Int32), .int (1023 : Int32)] (c_X7_in l D cA st ad a _ _ _ _ _ er1.symm) rfl (ke_room hRm rfl rfl) ke_cnt (Nat.le_of_ble_eq_true rfl) rfl dX7_isSet_5 (fun H locs hw => ?_)
  refine W.eq (g2 := F0 m 8 ls (.int (bI r1) :: [])) rfl ?_
  subst hf
  exact ke_zret hE hw hQ (bI01 _) dX7_isSet_8 rfl rfl
def fX7_kinds  (τ : Tau) (p1 : Int32) : Option (Int32 × Tau) :=
 nm (sI τ 0 0 (0 : Int32)) (fun t1 =>
 nm (fX7_in p1 (1 : Int32) (4 : Int32)) (fun r2 =>
 (if bI r2 = 0 then
 some ((-1 : Int32), t1)
 else
 nm (tI t1 0 1) (fun x4 =>
 nm (sI t1 0 1 p1) (fun t5 =>
 Option.bind (fX7_begins t5) (fun r6 =>
 some (x4, r6)))))))
set_option maxHeartbeats 4000000 in
set_option maxRecDepth 100000 in
theorem c_X7_kinds (l : Launch) (D : va_G) (cA : Nat → ClassId) (st ad : Nat → Nat) (a : Nat)  (τ : Tau) (p1 : Int32) (R : (Int32 × Tau)) (hf : fX7_kinds τ p1 = some R) : KE ΛM 12 D cA st ad l yX7_kinds cX7_kinds 3 (some .int) 3 64 [.ref (adr ad a 0), .int p1] a τ (some (.int R.1)) R.2 := by
  refine KE.of "KindSayingsModel" rfl (by decide) (Nat.le_of_ble_eq_true rfl) (fun p e s m args below meth c A ls Rm Q hE hRm hQ hw hl => ?_)
  obtain ⟨hx, hb, hml, hown, hts, -⟩ := id hE
  have hl : lv_has ls 3 [(0, .ref (adr ad a 0)), (1, .int p1)] := hl
  unfold fX7_kinds at hf
  refine lv_aload_n hx hb dX7_kinds_0 rfl (lv_at hl 0 rfl) ?_
  refine lv_iconst (v := 0) hx hb dX7_kinds_1 (by decide) ?_
  obtain ⟨t1, et1, hf⟩ := ks_nm hf
  refine ks_putI hE hw 0 0 ltM_0 lyM_0 rfl fw_X7_57 rfl rfl dX7_kinds_2 (fun H locs hw => ?_)
  rw [← et1] at hw
  refine lv_iload_n hx hb dX7_kinds_5 rfl (lv_at hl 1 rfl) ?_
  refine lv_iconst (v := 1) hx hb dX7_kinds_6 (by decide) ?_
  refine lv_iconst (v := 4) hx hb dX7_kinds_7 (by decide) ?_
  obtain ⟨r2, er2, hf⟩ := ks_nm hf
  refine ke_S hE hw hl.1 cl_X7_72 [.int p1, .int (1 : Int32), .int (4 : Int32)] (c_X7_in l D cA st ad a _ _ _ _ _ er2.symm) rfl (ke_room hRm rfl rfl) ke_cnt (Nat.le_of_ble_eq_true rfl) rfl dX7_kinds_8 (fun H locs hw => ?_)
  refine W.eq (g2 := F0 m 11 ls (.int (bI r2) :: [])) rfl ?_
  refine lv_if_ne (tgt := 16) hx hb dX7_kinds_11 (by decide) (fun c3 => ?_) (fun c3 => ?_)
  · have hf := (if_neg c3).symm.trans hf
    refine lv_aload_n hx hb dX7_kinds_16 rfl (lv_at hl 0 rfl) ?_
    refine ks_getI hE hw 0 1 ltM_0 lyM_0 rfl fd_X7_7 dX7_kinds_17 ?_
    obtain ⟨x4, ex4, hf⟩ := ks_nm hf
    refine W.eq (g2 := F0 m 20 ls (.int x4 :: [])) (by rw [ex4]) ?_
    refine lv_istore_n (lv' := [(2, .int x4), (0, .ref (adr ad a 0)), (1, .int p1)]) hx hb dX7_kinds_20 rfl hl (by decide) rfl (fun ls hl => ?_)
    refine lv_aload_n hx hb dX7_kinds_21 rfl (lv_at hl 1 rfl) ?_
    refine lv_iload_n hx hb dX7_kinds_22 rfl (lv_at hl 2 rfl) ?_
    obtain ⟨t5, et5, hf⟩ := ks_nm hf
    refine ks_putI hE hw 0 1 ltM_0 lyM_0 rfl fw_X7_7 rfl rfl dX7_kinds_23 (fun H locs hw => ?_)
    rw [← et5] at hw
    refine lv_aload_n hx hb dX7_kinds_26 rfl (lv_at hl 1 rfl) ?_
    obtain ⟨r6, er6, hf⟩ := ks_bind hf
    refine ke_V hE hw hl.1 cl_X7_54 0 ltM_0 lyM_0 rfl [] (c_X7_begins l D cA st ad a _ _ er6) rfl (ke_room hRm rfl rfl) ke_cnt (Nat.le_of_ble_eq_true rfl) rfl dX7_kinds_27 (fun H locs hw => ?_)
    refine W.eq (g2 := F0 m 30 ls ([])) rfl ?_
    refine lv_iload_n hx hb dX7_kinds_30 rfl (lv_at hl 0 rfl) ?_
    replace hf := Option.some.inj hf
    subst hf
    exact ke_iret hE hw hQ dX7_kinds_31 rfl rfl
  · have hf := (if_pos c3).symm.trans hf
    refine lv_iconst (v := (-1)) hx hb dX7_kinds_14 (by decide) ?_
    replace hf := Option.some.inj hf
    subst hf
    exact ke_iret hE hw hQ dX7_kinds_15 rfl rfl
def fX7_most  (τ : Tau) (p1 : Int32) : Option (Int32 × Tau) :=
 nm (sI τ 0 0 (0 : Int32)) (fun t1 =>
 nm (fX7_in p1 (1 : Int32) (6 : Int32)) (fun r2 =>
 (if bI r2 = 0 then
 some ((-1 : Int32), t1)
 else
 nm (tI t1 0 2) (fun x4 =>
 nm (sI t1 0 2 p1) (fun t5 =>
 nm (sI t5 0 17 (0 : Int32)) (fun t6 =>
 some (x4, t6)))))))
set_option maxHeartbeats 4000000 in
set_option maxRecDepth 100000 in
theorem c_X7_most (l : Launch) (D : va_G) (cA : Nat → ClassId) (st ad : Nat → Nat) (a : Nat)  (τ : Tau) (p1 : Int32) (R : (Int32 × Tau)) (hf : fX7_most τ p1 = some R) : KE ΛM 12 D cA st ad l yX7_most cX7_most 3 (some .int) 1 22 [.ref (adr ad a 0), .int p1] a τ (some (.int R.1)) R.2 := by
  refine KE.of "KindSayingsModel" rfl (by decide) (Nat.le_of_ble_eq_true rfl) (fun p e s m args below meth c A ls Rm Q hE hRm hQ hw hl => ?_)
  obtain ⟨hx, hb, hml, hown, hts, -⟩ := id hE
  have hl : lv_has ls 3 [(0, .ref (adr ad a 0)), (1, .int p1)] := hl
  unfold fX7_most at hf
  refine lv_aload_n hx hb dX7_most_0 rfl (lv_at hl 0 rfl) ?_
  refine lv_iconst (v := 0) hx hb dX7_most_1 (by decide) ?_
  obtain ⟨t1, et1, hf⟩ := ks_nm hf
  refine ks_putI hE hw 0 0 ltM_0 lyM_0 rfl fw_X7_57 rfl rfl dX7_most_2 (fun H locs hw => ?_)
  rw [← et1] at hw
  refine lv_iload_n hx hb dX7_most_5 rfl (lv_at hl 1 rfl) ?_
  refine lv_iconst (v := 1) hx hb dX7_most_6 (by decide) ?_
  refine lv_bipush (v := 6) hx hb dX7_most_7 (by decide) ?_
  obtain ⟨r2, er2, hf⟩ := ks_nm hf
  refine ke_S hE hw hl.1 cl_X7_72 [.int p1, .int (1 : Int32), .int (6 : Int32)] (c_X7_in l D cA st ad a _ _ _ _ _ er2.symm) rfl (ke_room hRm rfl rfl) ke_cnt (Nat.le_of_ble_eq_true rfl) rfl dX7_most_9 (fun H locs hw => ?_)
  refine W.eq (g2 := F0 m 12 ls (.int (bI r2) :: [])) rfl ?_
  refine lv_if_ne (tgt := 17) hx hb dX7_most_12 (by decide) (fun c3 => ?_) (fun c3 => ?_)
  · have hf := (if_neg c3).symm.trans hf
    refine lv_aload_n hx hb dX7_most_17 rfl (lv_at hl 0 rfl) ?_
    refine ks_getI hE hw 0 2 ltM_0 lyM_0 rfl fd_X7_13 dX7_most_18 ?_
    obtain ⟨x4, ex4, hf⟩ := ks_nm hf
    refine W.eq (g2 := F0 m 21 ls (.int x4 :: [])) (by rw [ex4]) ?_
    refine lv_istore_n (lv' := [(2, .int x4), (0, .ref (adr ad a 0)), (1, .int p1)]) hx hb dX7_most_21 rfl hl (by decide) rfl (fun ls hl => ?_)
    refine lv_aload_n hx hb dX7_most_22 rfl (lv_at hl 1 rfl) ?_
    refine lv_iload_n hx hb dX7_most_23 rfl (lv_at hl 2 rfl) ?_
    obtain ⟨t5, et5, hf⟩ := ks_nm hf
    refine ks_putI hE hw 0 2 ltM_0 lyM_0 rfl fw_X7_13 rfl rfl dX7_most_24 (fun H locs hw => ?_)
    rw [← et5] at hw
    refine lv_aload_n hx hb dX7_most_27 rfl (lv_at hl 1 rfl) ?_
    refine lv_iconst (v := 0) hx hb dX7_most_28 (by decide) ?_
    obtain ⟨t6, et6, hf⟩ := ks_nm hf
    refine ks_putI hE hw 0 17 ltM_0 lyM_0 rfl fw_X7_68 (nar_bool (Or.inl rfl)).1 (nar_bool (Or.inl rfl)).2 dX7_most_29 (fun H locs hw => ?_)
    rw [← et6] at hw
    refine lv_iload_n hx hb dX7_most_32 rfl (lv_at hl 0 rfl) ?_
    replace hf := Option.some.inj hf
    subst hf
    exact ke_iret hE hw hQ dX7_most_33 rfl rfl
  · have hf := (if_pos c3).symm.trans hf
    refine lv_iconst (v := (-1)) hx hb dX7_most_15 (by decide) ?_
    replace hf := Option.some.inj hf
    subst hf
    exact ke_iret hE hw hQ dX7_most_16 rfl rfl
def fX7_all_4 (q1 : Nat) (τ : Tau) : Nat → Int32 → Int32 → Option Int32
  | 0, _, _ => none
  | n + 1, x_2, x_3 =>
     nm (fX7_sorts τ) (fun r1 =>
     (if r1 ≤ x_3 then
     some x_2
     else
     (if x_3 < 0 ∨ 16 ≤ x_3.toNatClampNeg then none else
     nm (x_2 + tA τ q1 x_3.toNatClampNeg) (fun x4 =>
     nm (x_3 + (1 : Int32)) (fun x5 =>
     fX7_all_4 q1 τ n x4 x5)))))
def fX7_all (q1 : Nat) (τ : Tau) : Option Int32 :=
 fX7_all_4 q1 τ FU (0 : Int32) (0 : Int32)
set_option maxHeartbeats 4000000 in
set_option maxRecDepth 100000 in
theorem c_X7_all (l : Launch) (D : va_G) (cA : Nat → ClassId) (st ad : Nat → Nat) (a : Nat) (q1 : Nat) (τ : Tau) (R : Int32) (hq1 : isRow q1) (hf : fX7_all q1 τ = some R) : KE ΛM 12 D cA st ad l yX7_all cX7_all 4 (some .int) 1 20 [.ref (adr ad a 0), .ref (adr ad a q1)] a τ (some (.int R)) τ := by
  refine KE.of "KindSayingsModel" rfl (by decide) (Nat.le_of_ble_eq_true rfl) (fun p e s m args below meth c A ls Rm Q hE hRm hQ hw hl => ?_)
  obtain ⟨hx, hb, hml, hown, hts, -⟩ := id hE
  have hl : lv_has ls 4 [(0, .ref (adr ad a 0)), (1, .ref (adr ad a q1))] := hl
  have L4 : ∀ (n4 : Nat) (x_2 : Int32) (x_3 : Int32) (H : Heap) (locs : List Loc) (ls : Array Slot), fX7_all_4 q1 τ n4 x_2 x_3 = some R → Wd ΛM 12 D cA ad A s a τ H locs → lv_has ls 4 [(0, .ref (adr ad a 0)), (1, .ref (adr ad a q1)), (2, .int x_2), (3, .int x_3)] → W p l e Rm s m args below meth c H locs 0 0 Q (F0 m 4 ls []) := by
    intro n4
    induction n4 with
    | zero => intro x_2 x_3 H locs ls hf hw hl; exact absurd hf (by rw [fX7_all_4]; simp)
    | succ n4 ih4 =>
      intro x_2 x_3 H locs ls hf hw hl
      rw [fX7_all_4] at hf
      refine lv_iload_n hx hb dX7_all_4 rfl (lv_at hl 3 rfl) ?_
      refine lv_aload_n hx hb dX7_all_5 rfl (lv_at hl 0 rfl) ?_
      obtain ⟨r1, er1, hf⟩ := ks_nm hf
      refine ke_V hE hw hl.1 cl_X7_60 0 ltM_0 lyM_0 rfl [] (c_X7_sorts l D cA st ad a _ _ er1.symm) rfl (ke_room hRm rfl rfl) ke_cnt (Nat.le_of_ble_eq_true rfl) rfl dX7_all_6 (fun H locs hw => ?_)
      refine W.eq (g2 := F0 m 9 ls (.int r1 :: .int x_3 :: [])) rfl ?_
      refine lv_icmp_ge (tgt := 24) hx hb dX7_all_9 (by decide) (fun c2 => ?_) (fun c2 => ?_)
      · have hf := (if_pos c2).symm.trans hf
        refine lv_iload_n hx hb dX7_all_24 rfl (lv_at hl 2 rfl) ?_
        replace hf := Option.some.inj hf
        subst hf
        exact ke_iret hE hw hQ dX7_all_25 rfl rfl
      · have hf := (if_neg c2).symm.trans hf
        refine lv_iload_n hx hb dX7_all_12 rfl (lv_at hl 2 rfl) ?_
        refine lv_aload_n hx hb dX7_all_13 rfl (lv_at hl 1 rfl) ?_
        refine lv_iload_n hx hb dX7_all_14 rfl (lv_at hl 3 rfl) ?_
        obtain ⟨b3, hf⟩ := ks_ok hf
        refine ks_iald hE hw q1 (row_lt hq1) (row_lay hq1) b3 dX7_all_15 ?_
        refine lv_iadd hx hb dX7_all_16 ?_
        obtain ⟨x4, ex4, hf⟩ := ks_nm hf
        refine W.eq (g2 := F0 m 17 ls (.int x4 :: [])) (by rw [ex4]) ?_
        refine lv_istore_n (lv' := [(2, .int x4), (0, .ref (adr ad a 0)), (1, .ref (adr ad a q1)), (3, .int x_3)]) hx hb dX7_all_17 rfl hl (by decide) rfl (fun ls hl => ?_)
        obtain ⟨x5, ex5, hf⟩ := ks_nm hf
        refine lv_iinc (v := x5) (lv' := [(3, .int x5), (2, .int x4), (0, .ref (adr ad a 0)), (1, .ref (adr ad a q1))]) hx hb dX7_all_18 hl (k := 3) rfl (by rw [ex5]; rfl) (by decide) rfl (fun ls hl => ?_)
        refine lv_goto (tgt := 4) hx hb dX7_all_21 (by decide) ?_
        exact ih4 _ _ _ _ _ hf hw (lv_sub hl [2, 3, 1, 0] rfl)
  unfold fX7_all at hf
  refine lv_iconst (v := 0) hx hb dX7_all_0 (by decide) ?_
  refine lv_istore_n (lv' := [(2, .int (0 : Int32)), (0, .ref (adr ad a 0)), (1, .ref (adr ad a q1))]) hx hb dX7_all_1 rfl hl (by decide) rfl (fun ls hl => ?_)
  refine lv_iconst (v := 0) hx hb dX7_all_2 (by decide) ?_
  refine lv_istore_n (lv' := [(3, .int (0 : Int32)), (2, .int (0 : Int32)), (0, .ref (adr ad a 0)), (1, .ref (adr ad a q1))]) hx hb dX7_all_3 rfl hl (by decide) rfl (fun ls hl => ?_)
  exact L4 FU _ _ _ _ _ hf hw (lv_sub hl [2, 3, 1, 0] rfl)
def fX7_put  (τ : Tau) (p1 : Int32) (p2 : Int32) : Option (Int32 × Tau) :=
 nm (sI τ 0 0 (0 : Int32)) (fun t1 =>
 nm (fX7_sorts t1) (fun r2 =>
 nm (fX7_in p1 (0 : Int32) (r2 - (1 : Int32))) (fun r3 =>
 (if bI r3 = 0 then
 some ((-1 : Int32), t1)
 else
 nm (fX7_in p2 (0 : Int32) (6 : Int32)) (fun r5 =>
 (if bI r5 = 0 then
 some ((-1 : Int32), t1)
 else
 (if p1 < 0 ∨ 16 ≤ p1.toNatClampNeg then none else
 nm (tA t1 1 p1.toNatClampNeg) (fun x8 =>
 Option.bind (fX7_all 1 t1) (fun r9 =>
 (if ((r9 - x8) + p2) ≤ (6 : Int32) then
 (if p1 < 0 ∨ 16 ≤ p1.toNatClampNeg then none else
 nm (sA t1 1 p1.toNatClampNeg p2) (fun t12 =>
 some (x8, t12)))
 else
 some ((-3 : Int32), t1)))))))))))
set_option maxHeartbeats 4000000 in
set_option maxRecDepth 100000 in
theorem c_X7_put (l : Launch) (D : va_G) (cA : Nat → ClassId) (st ad : Nat → Nat) (a : Nat)  (τ : Tau) (p1 : Int32) (p2 : Int32) (R : (Int32 × Tau)) (hf : fX7_put τ p1 p2 = some R) : KE ΛM 12 D cA st ad l yX7_put cX7_put 4 (some .int) 2 43 [.ref (adr ad a 0), .int p1, .int p2] a τ (some (.int R.1)) R.2 := by
  refine KE.of "KindSayingsModel" rfl (by decide) (Nat.le_of_ble_eq_true rfl) (fun p e s m args below meth c A ls Rm Q hE hRm hQ hw hl => ?_)
  obtain ⟨hx, hb, hml, hown, hts, -⟩ := id hE
  have hl : lv_has ls 4 [(0, .ref (adr ad a 0)), (1, .int p1), (2, .int p2)] := hl
  unfold fX7_put at hf
  refine lv_aload_n hx hb dX7_put_0 rfl (lv_at hl 0 rfl) ?_
  refine lv_iconst (v := 0) hx hb dX7_put_1 (by decide) ?_
  obtain ⟨t1, et1, hf⟩ := ks_nm hf
  refine ks_putI hE hw 0 0 ltM_0 lyM_0 rfl fw_X7_57 rfl rfl dX7_put_2 (fun H locs hw => ?_)
  rw [← et1] at hw
  refine lv_iload_n hx hb dX7_put_5 rfl (lv_at hl 1 rfl) ?_
  refine lv_iconst (v := 0) hx hb dX7_put_6 (by decide) ?_
  refine lv_aload_n hx hb dX7_put_7 rfl (lv_at hl 0 rfl) ?_
  obtain ⟨r2, er2, hf⟩ := ks_nm hf
  refine ke_V hE hw hl.1 cl_X7_60 0 ltM_0 lyM_0 rfl [] (c_X7_sorts l D cA st ad a _ _ er2.symm) rfl (ke_room hRm rfl rfl) ke_cnt (Nat.le_of_ble_eq_true rfl) rfl dX7_put_8 (fun H locs hw => ?_)
  refine W.eq (g2 := F0 m 11 ls (.int r2 :: .int (0 : Int32) :: .int p1 :: [])) rfl ?_
  refine lv_iconst (v := 1) hx hb dX7_put_11 (by decide) ?_
  refine lv_isub hx hb dX7_put_12 ?_
  obtain ⟨r3, er3, hf⟩ := ks_nm hf
  refine ke_S hE hw hl.1 cl_X7_72 [.int p1, .int (0 : Int32), .int (r2 - (1 : Int32))] (c_X7_in l D cA st ad a _ _ _ _ _ er3.symm) rfl (ke_room hRm rfl rfl) ke_cnt (Nat.le_of_ble_eq_true rfl) rfl dX7_put_13 (fun H locs hw => ?_)
  refine W.eq (g2 := F0 m 16 ls (.int (bI r3) :: [])) rfl ?_
  refine lv_if_eq (tgt := 29) hx hb dX7_put_16 (by decide) (fun c4 => ?_) (fun c4 => ?_)
  · have hf := (if_pos c4).symm.trans hf
    refine lv_iconst (v := (-1)) hx hb dX7_put_29 (by decide) ?_
    replace hf := Option.some.inj hf
    subst hf
    exact ke_iret hE hw hQ dX7_put_30 rfl rfl
  · have hf := (if_neg c4).symm.trans hf
    refine lv_iload_n hx hb dX7_put_19 rfl (lv_at hl 2 rfl) ?_
    refine lv_iconst (v := 0) hx hb dX7_put_20 (by decide) ?_
    refine lv_bipush (v := 6) hx hb dX7_put_21 (by decide) ?_
    obtain ⟨r5, er5, hf⟩ := ks_nm hf
    refine ke_S hE hw hl.1 cl_X7_72 [.int p2, .int (0 : Int32), .int (6 : Int32)] (c_X7_in l D cA st ad a _ _ _ _ _ er5.symm) rfl (ke_room hRm rfl rfl) ke_cnt (Nat.le_of_ble_eq_true rfl) rfl dX7_put_23 (fun H locs hw => ?_)
    refine W.eq (g2 := F0 m 26 ls (.int (bI r5) :: [])) rfl ?_
    refine lv_if_ne (tgt := 31) hx hb dX7_put_26 (by decide) (fun c6 => ?_) (fun c6 => ?_)
    · have hf := (if_neg c6).symm.trans hf
      refine lv_aload_n hx hb dX7_put_31 rfl (lv_at hl 0 rfl) ?_
      refine ks_getR hE hw 0 4 ltM_0 lyM_0 rfl fd_X7_19 dX7_put_32 ?_
      refine lv_iload_n hx hb dX7_put_35 rfl (lv_at hl 1 rfl) ?_
      obtain ⟨b7, hf⟩ := ks_ok hf
      refine ks_iald hE hw 1 ltM_1 lyM_1 b7 dX7_put_36 ?_
      obtain ⟨x8, ex8, hf⟩ := ks_nm hf
      refine W.eq (g2 := F0 m 37 ls (.int x8 :: [])) (by rw [ex8]) ?_
      refine lv_istore_n (lv' := [(3, .int x8), (0, .ref (adr ad a 0)), (1, .int p1), (2, .int p2)]) hx hb dX7_put_37 rfl hl (by decide) rfl (fun ls hl => ?_)
      refine lv_aload_n hx hb dX7_put_38 rfl (lv_at hl 1 rfl) ?_
      refine lv_aload_n hx hb dX7_put_39 rfl (lv_at hl 1 rfl) ?_
      refine ks_getR hE hw 0 4 ltM_0 lyM_0 rfl fd_X7_19 dX7_put_40 ?_
      obtain ⟨r9, er9, hf⟩ := ks_bind hf
      refine ke_V hE hw hl.1 cl_X7_82 0 ltM_0 lyM_0 rfl [.ref (adr ad a 1)] (c_X7_all l D cA st ad a _ _ _ row_1 er9) rfl (ke_room hRm rfl rfl) ke_cnt (Nat.le_of_ble_eq_true rfl) rfl dX7_put_43 (fun H locs hw => ?_)
      refine W.eq (g2 := F0 m 46 ls (.int r9 :: [])) rfl ?_
      refine lv_iload_n hx hb dX7_put_46 rfl (lv_at hl 0 rfl) ?_
      refine lv_isub hx hb dX7_put_47 ?_
      refine lv_iload_n hx hb dX7_put_48 rfl (lv_at hl 3 rfl) ?_
      refine lv_iadd hx hb dX7_put_49 ?_
      refine lv_bipush (v := 6) hx hb dX7_put_50 (by decide) ?_
      refine lv_icmp_le (tgt := 58) hx hb dX7_put_52 (by decide) (fun c10 => ?_) (fun c10 => ?_)
      · have hf := (if_pos c10).symm.trans hf
        refine lv_aload_n hx hb dX7_put_58 rfl (lv_at hl 1 rfl) ?_
        refine ks_getR hE hw 0 4 ltM_0 lyM_0 rfl fd_X7_19 dX7_put_59 ?_
        refine lv_iload_n hx hb dX7_put_62 rfl (lv_at hl 2 rfl) ?_
        refine lv_iload_n hx hb dX7_put_63 rfl (lv_at hl 3 rfl) ?_
        obtain ⟨b11, hf⟩ := ks_ok hf
        obtain ⟨t12, et12, hf⟩ := ks_nm hf
        refine ks_iast hE hw 1 ltM_1 lyM_1 b11 dX7_put_64 (fun H locs hw => ?_)
        rw [← et12] at hw
        refine lv_iload_n hx hb dX7_put_65 rfl (lv_at hl 0 rfl) ?_
        replace hf := Option.some.inj hf
        subst hf
        exact ke_iret hE hw hQ dX7_put_66 rfl rfl
      · have hf := (if_neg c10).symm.trans hf
        refine lv_bipush (v := (-3)) hx hb dX7_put_55 (by decide) ?_
        replace hf := Option.some.inj hf
        subst hf
        exact ke_iret hE hw hQ dX7_put_57 rfl rfl
    · have hf := (if_pos c6).symm.trans hf
      refine lv_iconst (v := (-1)) hx hb dX7_put_29 (by decide) ?_
      replace hf := Option.some.inj hf
      subst hf
      exact ke_iret hE hw hQ dX7_put_30 rfl rfl
def fX7_sizeOf_33 (q2 : Nat) (τ : Tau) (p1 : Int32) (k5 : Int32 → Int32 → Option Int32) (x_4 : Int32) (z_0 : Int32) (z_1 : Int32) : Option Int32 :=
 nm (z_1 + z_0) (fun x5 =>
     nm (x_4 + (1 : Int32)) (fun x6 =>
     k5 x5 x6))
def fX7_sizeOf_5 (q2 : Nat) (τ : Tau) (p1 : Int32) : Nat → Int32 → Int32 → Option Int32
  | 0, _, _ => none
  | n + 1, x_3, x_4 =>
     nm (fX7_sorts τ) (fun r1 =>
     (if r1 ≤ x_4 then
     some x_3
     else
     (if ((p1 >>> (x_4 &&& 31)) &&& (1 : Int32)) = (1 : Int32) then
     (if x_4 < 0 ∨ 16 ≤ x_4.toNatClampNeg then none else
     fX7_sizeOf_33 q2 τ p1 (fX7_sizeOf_5 q2 τ p1 n) x_4 (tA τ q2 x_4.toNatClampNeg) x_3)
     else
     fX7_sizeOf_33 q2 τ p1 (fX7_sizeOf_5 q2 τ p1 n) x_4 (0 : Int32) x_3)))
def fX7_sizeOf (q2 : Nat) (τ : Tau) (p1 : Int32) : Option Int32 :=
 fX7_sizeOf_5 q2 τ p1 FU (0 : Int32) (0 : Int32)
set_option maxHeartbeats 4000000 in
set_option maxRecDepth 100000 in
theorem c_X7_sizeOf (l : Launch) (D : va_G) (cA : Nat → ClassId) (st ad : Nat → Nat) (a : Nat) (q2 : Nat) (τ : Tau) (p1 : Int32) (R : Int32) (hq2 : isRow q2) (hf : fX7_sizeOf q2 τ p1 = some R) : KE ΛM 12 D cA st ad l yX7_sizeOf cX7_sizeOf 5 (some .int) 1 20 [.ref (adr ad a 0), .int p1, .ref (adr ad a q2)] a τ (some (.int R)) τ := by
  refine KE.of "KindSayingsModel" rfl (by decide) (Nat.le_of_ble_eq_true rfl) (fun p e s m args below meth c A ls Rm Q hE hRm hQ hw hl => ?_)
  obtain ⟨hx, hb, hml, hown, hts, -⟩ := id hE
  have hl : lv_has ls 5 [(0, .ref (adr ad a 0)), (1, .int p1), (2, .ref (adr ad a q2))] := hl
  have L5 : ∀ (n5 : Nat) (x_3 : Int32) (x_4 : Int32) (H : Heap) (locs : List Loc) (ls : Array Slot), fX7_sizeOf_5 q2 τ p1 n5 x_3 x_4 = some R → Wd ΛM 12 D cA ad A s a τ H locs → lv_has ls 5 [(0, .ref (adr ad a 0)), (1, .int p1), (2, .ref (adr ad a q2)), (3, .int x_3), (4, .int x_4)] → W p l e Rm s m args below meth c H locs 0 0 Q (F0 m 5 ls []) := by
    intro n5
    induction n5 with
    | zero => intro x_3 x_4 H locs ls hf hw hl; exact absurd hf (by rw [fX7_sizeOf_5]; simp)
    | succ n5 ih5 =>
      have L33 : ∀ (x_4 : Int32) (z_0 : Int32) (z_1 : Int32) (H : Heap) (locs : List Loc) (ls : Array Slot), fX7_sizeOf_33 q2 τ p1 (fX7_sizeOf_5 q2 τ p1 n5) x_4 z_0 z_1 = some R → Wd ΛM 12 D cA ad A s a τ H locs → lv_has ls 5 [(0, .ref (adr ad a 0)), (1, .int p1), (2, .ref (adr ad a q2)), (4, .int x_4)] → W p l e Rm s m args below meth c H locs 0 0 Q (F0 m 33 ls [.int z_0, .int z_1]) := by
        intro x_4 z_0 z_1 H locs ls hf hw hl
        unfold fX7_sizeOf_33 at hf
        refine lv_iadd hx hb dX7_sizeOf_33 ?_
        obtain ⟨x5, ex5, hf⟩ := ks_nm hf
        refine W.eq (g2 := F0 m 34 ls (.int x5 :: [])) (by rw [ex5]) ?_
        refine lv_istore_n (lv' := [(3, .int x5), (0, .ref (adr ad a 0)), (1, .int p1), (2, .ref (adr ad a q2)), (4, .int x_4)]) hx hb dX7_sizeOf_34 rfl hl (by decide) rfl (fun ls hl => ?_)
        obtain ⟨x6, ex6, hf⟩ := ks_nm hf
        refine lv_iinc (v := x6) (lv' := [(4, .int x6), (3, .int x5), (0, .ref (adr ad a 0)), (1, .int p1), (2, .ref (adr ad a q2))]) hx hb dX7_sizeOf_35 hl (k := 4) rfl (by rw [ex6]; rfl) (by decide) rfl (fun ls hl => ?_)
        refine lv_goto (tgt := 5) hx hb dX7_sizeOf_38 (by decide) ?_
        exact ih5 _ _ _ _ _ hf hw (lv_sub hl [2, 3, 4, 1, 0] rfl)
      intro x_3 x_4 H locs ls hf hw hl
      rw [fX7_sizeOf_5] at hf
      refine lv_iload hx hb dX7_sizeOf_5 (lv_at hl 4 rfl) ?_
      refine lv_aload_n hx hb dX7_sizeOf_7 rfl (lv_at hl 0 rfl) ?_
      obtain ⟨r1, er1, hf⟩ := ks_nm hf
      refine ke_V hE hw hl.1 cl_X7_60 0 ltM_0 lyM_0 rfl [] (c_X7_sorts l D cA st ad a _ _ er1.symm) rfl (ke_room hRm rfl rfl) ke_cnt (Nat.le_of_ble_eq_true rfl) rfl dX7_sizeOf_8 (fun H locs hw => ?_)
      refine W.eq (g2 := F0 m 11 ls (.int r1 :: .int x_4 :: [])) rfl ?_
      refine lv_icmp_ge (tgt := 41) hx hb dX7_sizeOf_11 (by decide) (fun c2 => ?_) (fun c2 => ?_)
      · have hf := (if_pos c2).symm.trans hf
        refine lv_iload_n hx hb dX7_sizeOf_41 rfl (lv_at hl 3 rfl) ?_
        replace hf := Option.some.inj hf
        subst hf
        exact ke_iret hE hw hQ dX7_sizeOf_42 rfl rfl
      · have hf := (if_neg c2).symm.trans hf
        refine lv_iload_n hx hb dX7_sizeOf_14 rfl (lv_at hl 3 rfl) ?_
        refine lv_iload_n hx hb dX7_sizeOf_15 rfl (lv_at hl 1 rfl) ?_
        refine lv_iload hx hb dX7_sizeOf_16 (lv_at hl 4 rfl) ?_
        refine lv_ishr hx hb dX7_sizeOf_18 ?_
        refine lv_iconst (v := 1) hx hb dX7_sizeOf_19 (by decide) ?_
        refine lv_iand hx hb dX7_sizeOf_20 ?_
        refine lv_iconst (v := 1) hx hb dX7_sizeOf_21 (by decide) ?_
        refine lv_icmp_ne (tgt := 32) hx hb dX7_sizeOf_22 (by decide) (fun c3 => ?_) (fun c3 => ?_)
        · have hf := (if_neg c3).symm.trans hf
          refine lv_iconst (v := 0) hx hb dX7_sizeOf_32 (by decide) ?_
          exact L33 _ _ _ _ _ _ hf hw (lv_sub hl [0, 1, 2, 4] rfl)
        · have hf := (if_pos c3).symm.trans hf
          refine lv_aload_n hx hb dX7_sizeOf_25 rfl (lv_at hl 2 rfl) ?_
          refine lv_iload hx hb dX7_sizeOf_26 (lv_at hl 4 rfl) ?_
          obtain ⟨b4, hf⟩ := ks_ok hf
          refine ks_iald hE hw q2 (row_lt hq2) (row_lay hq2) b4 dX7_sizeOf_28 ?_
          refine lv_goto (tgt := 33) hx hb dX7_sizeOf_29 (by decide) ?_
          exact L33 _ _ _ _ _ _ hf hw (lv_sub hl [0, 1, 2, 4] rfl)
  unfold fX7_sizeOf at hf
  refine lv_iconst (v := 0) hx hb dX7_sizeOf_0 (by decide) ?_
  refine lv_istore_n (lv' := [(3, .int (0 : Int32)), (0, .ref (adr ad a 0)), (1, .int p1), (2, .ref (adr ad a q2))]) hx hb dX7_sizeOf_1 rfl hl (by decide) rfl (fun ls hl => ?_)
  refine lv_iconst (v := 0) hx hb dX7_sizeOf_2 (by decide) ?_
  refine lv_istore (lv' := [(4, .int (0 : Int32)), (3, .int (0 : Int32)), (0, .ref (adr ad a 0)), (1, .int p1), (2, .ref (adr ad a q2))]) hx hb dX7_sizeOf_3 hl (by decide) rfl (fun ls hl => ?_)
  exact L5 FU _ _ _ _ _ hf hw (lv_sub hl [2, 3, 4, 1, 0] rfl)
def fX7_isSo_271 (q2 : Nat) (τ : Tau) (p1 : Int32) (z_0 : Int32) (z_1 : Int32) : Option Bool :=
 (if z_1 = z_0 then
     some false
     else
     some true)
def fX7_isSo_249 (q2 : Nat) (τ : Tau) (p1 : Int32) (x_8 : Int32) : Option Bool :=
 (if (((6 : Int32) * p1) + (4 : Int32)) < 0 ∨ 60 ≤ (((6 : Int32) * p1) + (4 : Int32)).toNatClampNeg then none else
    (if tA τ 3 (((6 : Int32) * p1) + (4 : Int32)).toNatClampNeg = (1 : Int32) then
     fX7_isSo_271 q2 τ p1 (1 : Int32) x_8
     else
     fX7_isSo_271 q2 τ p1 (0 : Int32) x_8))
def fX7_isSo_247 (q2 : Nat) (τ : Tau) (p1 : Int32) (z_0 : Int32) : Option Bool :=
 fX7_isSo_249 q2 τ p1 z_0
def fX7_isSo_225 (q2 : Nat) (τ : Tau) (p1 : Int32) (z_0 : Int32) : Option Bool :=
 fX7_isSo_249 q2 τ p1 z_0
def fX7_isSo_203 (q2 : Nat) (τ : Tau) (p1 : Int32) (z_0 : Int32) : Option Bool :=
 fX7_isSo_249 q2 τ p1 z_0
def fX7_isSo_186 (q2 : Nat) (τ : Tau) (p1 : Int32) (z_0 : Int32) : Option Bool :=
 fX7_isSo_249 q2 τ p1 z_0
def fX7_isSo_169 (q2 : Nat) (τ : Tau) (p1 : Int32) (z_0 : Int32) : Option Bool :=
 fX7_isSo_249 q2 τ p1 z_0
def fX7_isSo_150 (q2 : Nat) (τ : Tau) (p1 : Int32) (z_0 : Int32) : Option Bool :=
 fX7_isSo_249 q2 τ p1 z_0
def fX7_isSo_135 (q2 : Nat) (τ : Tau) (p1 : Int32) (z_0 : Int32) : Option Bool :=
 fX7_isSo_249 q2 τ p1 z_0
def fX7_isSo_120 (q2 : Nat) (τ : Tau) (p1 : Int32) (z_0 : Int32) : Option Bool :=
 fX7_isSo_249 q2 τ p1 z_0
def fX7_isSo (q2 : Nat) (τ : Tau) (p1 : Int32) : Option Bool :=
 (if (((6 : Int32) * p1) + (1 : Int32)) < 0 ∨ 60 ≤ (((6 : Int32) * p1) + (1 : Int32)).toNatClampNeg then none else
 nm (tA τ 3 (((6 : Int32) * p1) + (1 : Int32)).toNatClampNeg) (fun x2 =>
 (if (((6 : Int32) * p1) + (2 : Int32)) < 0 ∨ 60 ≤ (((6 : Int32) * p1) + (2 : Int32)).toNatClampNeg then none else
 nm (tA τ 3 (((6 : Int32) * p1) + (2 : Int32)).toNatClampNeg) (fun x4 =>
 Option.bind (fX7_sizeOf q2 τ (x2 &&& x4)) (fun r5 =>
 Option.bind (fX7_sizeOf q2 τ x2) (fun r6 =>
 (if (((6 : Int32) * p1) + (3 : Int32)) < 0 ∨ 60 ≤ (((6 : Int32) * p1) + (3 : Int32)).toNatClampNeg then none else
 nm (tA τ 3 (((6 : Int32) * p1) + (3 : Int32)).toNatClampNeg) (fun x8 =>
 (if ((6 : Int32) * p1) < 0 ∨ 60 ≤ ((6 : Int32) * p1).toNatClampNeg then none else
 (if tA τ 3 ((6 : Int32) * p1).toNatClampNeg = (0 : Int32) then
 (if r5 = r6 then
 fX7_isSo_120 q2 τ p1 (1 : Int32)
 else
 fX7_isSo_120 q2 τ p1 (0 : Int32))
 else
 (if tA τ 3 ((6 : Int32) * p1).toNatClampNeg = (1 : Int32) then
 (if r5 ≤ 0 then
 fX7_isSo_135 q2 τ p1 (0 : Int32)
 else
 fX7_isSo_135 q2 τ p1 (1 : Int32))
 else
 (if tA τ 3 ((6 : Int32) * p1).toNatClampNeg = (2 : Int32) then
 (if r5 = 0 then
 fX7_isSo_150 q2 τ p1 (1 : Int32)
 else
 fX7_isSo_150 q2 τ p1 (0 : Int32))
 else
 (if tA τ 3 ((6 : Int32) * p1).toNatClampNeg = (3 : Int32) then
 (if ((2 : Int32) * r5) ≤ r6 then
 fX7_isSo_169 q2 τ p1 (0 : Int32)
 else
 fX7_isSo_169 q2 τ p1 (1 : Int32))
 else
 (if tA τ 3 ((6 : Int32) * p1).toNatClampNeg = (4 : Int32) then
 (if r5 < x8 then
 fX7_isSo_186 q2 τ p1 (0 : Int32)
 else
 fX7_isSo_186 q2 τ p1 (1 : Int32))
 else
 (if tA τ 3 ((6 : Int32) * p1).toNatClampNeg = (5 : Int32) then
 (if r5 = x8 then
 fX7_isSo_203 q2 τ p1 (1 : Int32)
 else
 fX7_isSo_203 q2 τ p1 (0 : Int32))
 else
 (if tA τ 3 ((6 : Int32) * p1).toNatClampNeg = (6 : Int32) then
 Option.bind (fX7_sizeOf q2 τ x4) (fun r23 =>
 (if r6 ≤ r23 then
 fX7_isSo_225 q2 τ p1 (0 : Int32)
 else
 fX7_isSo_225 q2 τ p1 (1 : Int32)))
 else
 Option.bind (fX7_sizeOf q2 τ x4) (fun r25 =>
 (if r6 = r25 then
 fX7_isSo_247 q2 τ p1 (1 : Int32)
 else
 fX7_isSo_247 q2 τ p1 (0 : Int32)))))))))))))))))))
set_option maxHeartbeats 4000000 in
set_option maxRecDepth 100000 in
theorem c_X7_isSo (l : Launch) (D : va_G) (cA : Nat → ClassId) (st ad : Nat → Nat) (a : Nat) (q2 : Nat) (τ : Tau) (p1 : Int32) (R : Bool) (hq2 : isRow q2) (hf : fX7_isSo q2 τ p1 = some R) : KE ΛM 12 D cA st ad l yX7_isSo cX7_isSo 9 (some .boolean) 2 44 [.ref (adr ad a 0), .int p1, .ref (adr ad a q2)] a τ (some (.int (bI R))) τ := by
  refine KE.of "KindSayingsModel" rfl (by decide) (Nat.le_of_ble_eq_true rfl) (fun p e s m args below meth c A ls Rm Q hE hRm hQ hw hl => ?_)
  obtain ⟨hx, hb, hml, hown, hts, -⟩ := id hE
  have hl : lv_has ls 9 [(0, .ref (adr ad a 0)), (1, .int p1), (2, .ref (adr ad a q2))] := hl
  have L271 : ∀ (z_0 : Int32) (z_1 : Int32) (H : Heap) (locs : List Loc) (ls : Array Slot), fX7_isSo_271 q2 τ p1 z_0 z_1 = some R → Wd ΛM 12 D cA ad A s a τ H locs → lv_has ls 9 [] → W p l e Rm s m args below meth c H locs 0 0 Q (F0 m 271 ls [.int z_0, .int z_1]) := by
    intro z_0 z_1 H locs ls hf hw hl
    unfold fX7_isSo_271 at hf
    refine lv_icmp_eq (tgt := 278) hx hb dX7_isSo_271 (by decide) (fun c29 => ?_) (fun c29 => ?_)
    · have hf := (if_pos c29).symm.trans hf
      refine lv_iconst (v := 0) hx hb dX7_isSo_278 (by decide) ?_
      replace hf := Option.some.inj hf
      subst hf
      exact ke_zret hE hw hQ (Or.inl rfl) dX7_isSo_279 rfl rfl
    · have hf := (if_neg c29).symm.trans hf
      refine lv_iconst (v := 1) hx hb dX7_isSo_274 (by decide) ?_
      refine lv_goto (tgt := 279) hx hb dX7_isSo_275 (by decide) ?_
      replace hf := Option.some.inj hf
      subst hf
      exact ke_zret hE hw hQ (Or.inr rfl) dX7_isSo_279 rfl rfl
  have L249 : ∀ (x_8 : Int32) (H : Heap) (locs : List Loc) (ls : Array Slot), fX7_isSo_249 q2 τ p1 x_8 = some R → Wd ΛM 12 D cA ad A s a τ H locs → lv_has ls 9 [(0, .ref (adr ad a 0)), (1, .int p1), (8, .int x_8)] → W p l e Rm s m args below meth c H locs 0 0 Q (F0 m 249 ls []) := by
    intro x_8 H locs ls hf hw hl
    unfold fX7_isSo_249 at hf
    refine lv_iload hx hb dX7_isSo_249 (lv_at hl 2 rfl) ?_
    refine lv_aload_n hx hb dX7_isSo_251 rfl (lv_at hl 0 rfl) ?_
    refine ks_getR hE hw 0 13 ltM_0 lyM_0 rfl fd_X7_26 dX7_isSo_252 ?_
    refine lv_bipush (v := 6) hx hb dX7_isSo_255 (by decide) ?_
    refine lv_iload_n hx hb dX7_isSo_257 rfl (lv_at hl 1 rfl) ?_
    refine lv_imul hx hb dX7_isSo_258 ?_
    refine lv_iconst (v := 4) hx hb dX7_isSo_259 (by decide) ?_
    refine lv_iadd hx hb dX7_isSo_260 ?_
    obtain ⟨b27, hf⟩ := ks_ok hf
    refine ks_iald hE hw 3 ltM_3 lyM_3 b27 dX7_isSo_261 ?_
    refine lv_iconst (v := 1) hx hb dX7_isSo_262 (by decide) ?_
    refine lv_icmp_ne (tgt := 270) hx hb dX7_isSo_263 (by decide) (fun c28 => ?_) (fun c28 => ?_)
    · have hf := (if_neg c28).symm.trans hf
      refine lv_iconst (v := 0) hx hb dX7_isSo_270 (by decide) ?_
      exact L271 _ _ _ _ _ hf hw (lv_sub hl [] rfl)
    · have hf := (if_pos c28).symm.trans hf
      refine lv_iconst (v := 1) hx hb dX7_isSo_266 (by decide) ?_
      refine lv_goto (tgt := 271) hx hb dX7_isSo_267 (by decide) ?_
      exact L271 _ _ _ _ _ hf hw (lv_sub hl [] rfl)
  have L247 : ∀ (z_0 : Int32) (H : Heap) (locs : List Loc) (ls : Array Slot), fX7_isSo_247 q2 τ p1 z_0 = some R → Wd ΛM 12 D cA ad A s a τ H locs → lv_has ls 9 [(0, .ref (adr ad a 0)), (1, .int p1)] → W p l e Rm s m args below meth c H locs 0 0 Q (F0 m 247 ls [.int z_0]) := by
    intro z_0 H locs ls hf hw hl
    unfold fX7_isSo_247 at hf
    refine lv_istore (lv' := [(8, .int z_0), (0, .ref (adr ad a 0)), (1, .int p1)]) hx hb dX7_isSo_247 hl (by decide) rfl (fun ls hl => ?_)
    exact L249 _ _ _ _ hf hw (lv_sub hl [1, 2, 0] rfl)
  have L225 : ∀ (z_0 : Int32) (H : Heap) (locs : List Loc) (ls : Array Slot), fX7_isSo_225 q2 τ p1 z_0 = some R → Wd ΛM 12 D cA ad A s a τ H locs → lv_has ls 9 [(0, .ref (adr ad a 0)), (1, .int p1)] → W p l e Rm s m args below meth c H locs 0 0 Q (F0 m 225 ls [.int z_0]) := by
    intro z_0 H locs ls hf hw hl
    unfold fX7_isSo_225 at hf
    refine lv_istore (lv' := [(8, .int z_0), (0, .ref (adr ad a 0)), (1, .int p1)]) hx hb dX7_isSo_225 hl (by decide) rfl (fun ls hl => ?_)
    refine lv_goto (tgt := 249) hx hb dX7_isSo_227 (by decide) ?_
    exact L249 _ _ _ _ hf hw (lv_sub hl [1, 2, 0] rfl)
  have L203 : ∀ (z_0 : Int32) (H : Heap) (locs : List Loc) (ls : Array Slot), fX7_isSo_203 q2 τ p1 z_0 = some R → Wd ΛM 12 D cA ad A s a τ H locs → lv_has ls 9 [(0, .ref (adr ad a 0)), (1, .int p1)] → W p l e Rm s m args below meth c H locs 0 0 Q (F0 m 203 ls [.int z_0]) := by
    intro z_0 H locs ls hf hw hl
    unfold fX7_isSo_203 at hf
    refine lv_istore (lv' := [(8, .int z_0), (0, .ref (adr ad a 0)), (1, .int p1)]) hx hb dX7_isSo_203 hl (by decide) rfl (fun ls hl => ?_)
    refine lv_goto (tgt := 249) hx hb dX7_isSo_205 (by decide) ?_
    exact L249 _ _ _ _ hf hw (lv_sub hl [1, 2, 0] rfl)
  have L186 : ∀ (z_0 : Int32) (H : Heap) (locs : List Loc) (ls : Array Slot), fX7_isSo_186 q2 τ p1 z_0 = some R → Wd ΛM 12 D cA ad A s a τ H locs → lv_has ls 9 [(0, .ref (adr ad a 0)), (1, .int p1)] → W p l e Rm s m args below meth c H locs 0 0 Q (F0 m 186 ls [.int z_0]) := by
    intro z_0 H locs ls hf hw hl
    unfold fX7_isSo_186 at hf
    refine lv_istore (lv' := [(8, .int z_0), (0, .ref (adr ad a 0)), (1, .int p1)]) hx hb dX7_isSo_186 hl (by decide) rfl (fun ls hl => ?_)
    refine lv_goto (tgt := 249) hx hb dX7_isSo_188 (by decide) ?_
    exact L249 _ _ _ _ hf hw (lv_sub hl [1, 2, 0] rfl)
  have L169 : ∀ (z_0 : Int32) (H : Heap) (locs : List Loc) (ls : Array Slot), fX7_isSo_169 q2 τ p1 z_0 = some R → Wd ΛM 12 D cA ad A s a τ H locs → lv_has ls 9 [(0, .ref (adr ad a 0)), (1, .int p1)] → W p l e Rm s m args below meth c H locs 0 0 Q (F0 m 169 ls [.int z_0]) := by
    intro z_0 H locs ls hf hw hl
    unfold fX7_isSo_169 at hf
    refine lv_istore (lv' := [(8, .int z_0), (0, .ref (adr ad a 0)), (1, .int p1)]) hx hb dX7_isSo_169 hl (by decide) rfl (fun ls hl => ?_)
    refine lv_goto (tgt := 249) hx hb dX7_isSo_171 (by decide) ?_
    exact L249 _ _ _ _ hf hw (lv_sub hl [1, 2, 0] rfl)
  have L150 : ∀ (z_0 : Int32) (H : Heap) (locs : List Loc) (ls : Array Slot), fX7_isSo_150 q2 τ p1 z_0 = some R → Wd ΛM 12 D cA ad A s a τ H locs → lv_has ls 9 [(0, .ref (adr ad a 0)), (1, .int p1)] → W p l e Rm s m args below meth c H locs 0 0 Q (F0 m 150 ls [.int z_0]) := by
    intro z_0 H locs ls hf hw hl
    unfold fX7_isSo_150 at hf
    refine lv_istore (lv' := [(8, .int z_0), (0, .ref (adr ad a 0)), (1, .int p1)]) hx hb dX7_isSo_150 hl (by decide) rfl (fun ls hl => ?_)
    refine lv_goto (tgt := 249) hx hb dX7_isSo_152 (by decide) ?_
    exact L249 _ _ _ _ hf hw (lv_sub hl [1, 2, 0] rfl)
  have L135 : ∀ (z_0 : Int32) (H : Heap) (locs : List Loc) (ls : Array Slot), fX7_isSo_135 q2 τ p1 z_0 = some R → Wd ΛM 12 D cA ad A s a τ H locs → lv_has ls 9 [(0, .ref (adr ad a 0)), (1, .int p1)] → W p l e Rm s m args below meth c H locs 0 0 Q (F0 m 135 ls [.int z_0]) := by
    intro z_0 H locs ls hf hw hl
    unfold fX7_isSo_135 at hf
    refine lv_istore (lv' := [(8, .int z_0), (0, .ref (adr ad a 0)), (1, .int p1)]) hx hb dX7_isSo_135 hl (by decide) rfl (fun ls hl => ?_)
    refine lv_goto (tgt := 249) hx hb dX7_isSo_137 (by decide) ?_
    exact L249 _ _ _ _ hf hw (lv_sub hl [1, 2, 0] rfl)
  have L120 : ∀ (z_0 : Int32) (H : Heap) (locs : List Loc) (ls : Array Slot), fX7_isSo_120 q2 τ p1 z_0 = some R → Wd ΛM 12 D cA ad A s a τ H locs → lv_has ls 9 [(0, .ref (adr ad a 0)), (1, .int p1)] → W p l e Rm s m args below meth c H locs 0 0 Q (F0 m 120 ls [.int z_0]) := by
    intro z_0 H locs ls hf hw hl
    unfold fX7_isSo_120 at hf
    refine lv_istore (lv' := [(8, .int z_0), (0, .ref (adr ad a 0)), (1, .int p1)]) hx hb dX7_isSo_120 hl (by decide) rfl (fun ls hl => ?_)
    refine lv_goto (tgt := 249) hx hb dX7_isSo_122 (by decide) ?_
    exact L249 _ _ _ _ hf hw (lv_sub hl [1, 2, 0] rfl)
  unfold fX7_isSo at hf
  refine lv_aload_n hx hb dX7_isSo_0 rfl (lv_at hl 0 rfl) ?_
  refine ks_getR hE hw 0 13 ltM_0 lyM_0 rfl fd_X7_26 dX7_isSo_1 ?_
  refine lv_bipush (v := 6) hx hb dX7_isSo_4 (by decide) ?_
  refine lv_iload_n hx hb dX7_isSo_6 rfl (lv_at hl 1 rfl) ?_
  refine lv_imul hx hb dX7_isSo_7 ?_
  refine lv_iconst (v := 1) hx hb dX7_isSo_8 (by decide) ?_
  refine lv_iadd hx hb dX7_isSo_9 ?_
  obtain ⟨b1, hf⟩ := ks_ok hf
  refine ks_iald hE hw 3 ltM_3 lyM_3 b1 dX7_isSo_10 ?_
  obtain ⟨x2, ex2, hf⟩ := ks_nm hf
  refine W.eq (g2 := F0 m 11 ls (.int x2 :: [])) (by rw [ex2]) ?_
  refine lv_istore_n (lv' := [(3, .int x2), (0, .ref (adr ad a 0)), (1, .int p1), (2, .ref (adr ad a q2))]) hx hb dX7_isSo_11 rfl hl (by decide) rfl (fun ls hl => ?_)
  refine lv_aload_n hx hb dX7_isSo_12 rfl (lv_at hl 1 rfl) ?_
  refine ks_getR hE hw 0 13 ltM_0 lyM_0 rfl fd_X7_26 dX7_isSo_13 ?_
  refine lv_bipush (v := 6) hx hb dX7_isSo_16 (by decide) ?_
  refine lv_iload_n hx hb dX7_isSo_18 rfl (lv_at hl 2 rfl) ?_
  refine lv_imul hx hb dX7_isSo_19 ?_
  refine lv_iconst (v := 2) hx hb dX7_isSo_20 (by decide) ?_
  refine lv_iadd hx hb dX7_isSo_21 ?_
  obtain ⟨b3, hf⟩ := ks_ok hf
  refine ks_iald hE hw 3 ltM_3 lyM_3 b3 dX7_isSo_22 ?_
  obtain ⟨x4, ex4, hf⟩ := ks_nm hf
  refine W.eq (g2 := F0 m 23 ls (.int x4 :: [])) (by rw [ex4]) ?_
  refine lv_istore (lv' := [(4, .int x4), (3, .int x2), (0, .ref (adr ad a 0)), (1, .int p1), (2, .ref (adr ad a q2))]) hx hb dX7_isSo_23 hl (by decide) rfl (fun ls hl => ?_)
  refine lv_aload_n hx hb dX7_isSo_25 rfl (lv_at hl 2 rfl) ?_
  refine lv_iload_n hx hb dX7_isSo_26 rfl (lv_at hl 1 rfl) ?_
  refine lv_iload hx hb dX7_isSo_27 (lv_at hl 0 rfl) ?_
  refine lv_iand hx hb dX7_isSo_29 ?_
  refine lv_aload_n hx hb dX7_isSo_30 rfl (lv_at hl 4 rfl) ?_
  obtain ⟨r5, er5, hf⟩ := ks_bind hf
  refine ke_V hE hw hl.1 cl_X7_86 0 ltM_0 lyM_0 rfl [.int (x2 &&& x4), .ref (adr ad a q2)] (c_X7_sizeOf l D cA st ad a _ _ _ _ hq2 er5) rfl (ke_room hRm rfl rfl) ke_cnt (Nat.le_of_ble_eq_true rfl) rfl dX7_isSo_31 (fun H locs hw => ?_)
  refine W.eq (g2 := F0 m 34 ls (.int r5 :: [])) rfl ?_
  refine lv_istore (lv' := [(5, .int r5), (4, .int x4), (3, .int x2), (0, .ref (adr ad a 0)), (1, .int p1), (2, .ref (adr ad a q2))]) hx hb dX7_isSo_34 hl (by decide) rfl (fun ls hl => ?_)
  refine lv_aload_n hx hb dX7_isSo_36 rfl (lv_at hl 3 rfl) ?_
  refine lv_iload_n hx hb dX7_isSo_37 rfl (lv_at hl 2 rfl) ?_
  refine lv_aload_n hx hb dX7_isSo_38 rfl (lv_at hl 5 rfl) ?_
  obtain ⟨r6, er6, hf⟩ := ks_bind hf
  refine ke_V hE hw hl.1 cl_X7_86 0 ltM_0 lyM_0 rfl [.int x2, .ref (adr ad a q2)] (c_X7_sizeOf l D cA st ad a _ _ _ _ hq2 er6) rfl (ke_room hRm rfl rfl) ke_cnt (Nat.le_of_ble_eq_true rfl) rfl dX7_isSo_39 (fun H locs hw => ?_)
  refine W.eq (g2 := F0 m 42 ls (.int r6 :: [])) rfl ?_
  refine lv_istore (lv' := [(6, .int r6), (5, .int r5), (4, .int x4), (3, .int x2), (0, .ref (adr ad a 0)), (1, .int p1), (2, .ref (adr ad a q2))]) hx hb dX7_isSo_42 hl (by decide) rfl (fun ls hl => ?_)
  refine lv_aload_n hx hb dX7_isSo_44 rfl (lv_at hl 4 rfl) ?_
  refine ks_getR hE hw 0 13 ltM_0 lyM_0 rfl fd_X7_26 dX7_isSo_45 ?_
  refine lv_bipush (v := 6) hx hb dX7_isSo_48 (by decide) ?_
  refine lv_iload_n hx hb dX7_isSo_50 rfl (lv_at hl 5 rfl) ?_
  refine lv_imul hx hb dX7_isSo_51 ?_
  refine lv_iconst (v := 3) hx hb dX7_isSo_52 (by decide) ?_
  refine lv_iadd hx hb dX7_isSo_53 ?_
  obtain ⟨b7, hf⟩ := ks_ok hf
  refine ks_iald hE hw 3 ltM_3 lyM_3 b7 dX7_isSo_54 ?_
  obtain ⟨x8, ex8, hf⟩ := ks_nm hf
  refine W.eq (g2 := F0 m 55 ls (.int x8 :: [])) (by rw [ex8]) ?_
  refine lv_istore (lv' := [(7, .int x8), (6, .int r6), (5, .int r5), (4, .int x4), (3, .int x2), (0, .ref (adr ad a 0)), (1, .int p1), (2, .ref (adr ad a q2))]) hx hb dX7_isSo_55 hl (by decide) rfl (fun ls hl => ?_)
  refine lv_aload_n hx hb dX7_isSo_57 rfl (lv_at hl 5 rfl) ?_
  refine ks_getR hE hw 0 13 ltM_0 lyM_0 rfl fd_X7_26 dX7_isSo_58 ?_
  refine lv_bipush (v := 6) hx hb dX7_isSo_61 (by decide) ?_
  refine lv_iload_n hx hb dX7_isSo_63 rfl (lv_at hl 6 rfl) ?_
  refine lv_imul hx hb dX7_isSo_64 ?_
  obtain ⟨b9, hf⟩ := ks_ok hf
  refine ks_iald hE hw 3 ltM_3 lyM_3 b9 dX7_isSo_65 ?_
  by_cases c10 : tA τ 3 ((6 : Int32) * p1).toNatClampNeg = (0 : Int32)
  · have hf := (if_pos c10).symm.trans hf
    refine lv_tableIn (tgt := 108) hx hb dX7_isSo_66 (by rw [c10]; decide) (by rw [c10]; decide) (by rw [c10]; rfl) (by decide) ?_
    refine lv_iload hx hb dX7_isSo_108 (lv_at hl 2 rfl) ?_
    refine lv_iload hx hb dX7_isSo_110 (lv_at hl 1 rfl) ?_
    refine lv_icmp_ne (tgt := 119) hx hb dX7_isSo_112 (by decide) (fun c17 => ?_) (fun c17 => ?_)
    · have hf := (if_neg c17).symm.trans hf
      refine lv_iconst (v := 0) hx hb dX7_isSo_119 (by decide) ?_
      exact L120 _ _ _ _ hf hw (lv_sub hl [5, 6] rfl)
    · have hf := (if_pos c17).symm.trans hf
      refine lv_iconst (v := 1) hx hb dX7_isSo_115 (by decide) ?_
      refine lv_goto (tgt := 120) hx hb dX7_isSo_116 (by decide) ?_
      exact L120 _ _ _ _ hf hw (lv_sub hl [5, 6] rfl)
  · have hf := (if_neg c10).symm.trans hf
    by_cases c11 : tA τ 3 ((6 : Int32) * p1).toNatClampNeg = (1 : Int32)
    · have hf := (if_pos c11).symm.trans hf
      refine lv_tableIn (tgt := 125) hx hb dX7_isSo_66 (by rw [c11]; decide) (by rw [c11]; decide) (by rw [c11]; rfl) (by decide) ?_
      refine lv_iload hx hb dX7_isSo_125 (lv_at hl 2 rfl) ?_
      refine lv_if_le (tgt := 134) hx hb dX7_isSo_127 (by decide) (fun c18 => ?_) (fun c18 => ?_)
      · have hf := (if_pos c18).symm.trans hf
        refine lv_iconst (v := 0) hx hb dX7_isSo_134 (by decide) ?_
        exact L135 _ _ _ _ hf hw (lv_sub hl [5, 6] rfl)
      · have hf := (if_neg c18).symm.trans hf
        refine lv_iconst (v := 1) hx hb dX7_isSo_130 (by decide) ?_
        refine lv_goto (tgt := 135) hx hb dX7_isSo_131 (by decide) ?_
        exact L135 _ _ _ _ hf hw (lv_sub hl [5, 6] rfl)
    · have hf := (if_neg c11).symm.trans hf
      by_cases c12 : tA τ 3 ((6 : Int32) * p1).toNatClampNeg = (2 : Int32)
      · have hf := (if_pos c12).symm.trans hf
        refine lv_tableIn (tgt := 140) hx hb dX7_isSo_66 (by rw [c12]; decide) (by rw [c12]; decide) (by rw [c12]; rfl) (by decide) ?_
        refine lv_iload hx hb dX7_isSo_140 (lv_at hl 2 rfl) ?_
        refine lv_if_ne (tgt := 149) hx hb dX7_isSo_142 (by decide) (fun c19 => ?_) (fun c19 => ?_)
        · have hf := (if_neg c19).symm.trans hf
          refine lv_iconst (v := 0) hx hb dX7_isSo_149 (by decide) ?_
          exact L150 _ _ _ _ hf hw (lv_sub hl [5, 6] rfl)
        · have hf := (if_pos c19).symm.trans hf
          refine lv_iconst (v := 1) hx hb dX7_isSo_145 (by decide) ?_
          refine lv_goto (tgt := 150) hx hb dX7_isSo_146 (by decide) ?_
          exact L150 _ _ _ _ hf hw (lv_sub hl [5, 6] rfl)
      · have hf := (if_neg c12).symm.trans hf
        by_cases c13 : tA τ 3 ((6 : Int32) * p1).toNatClampNeg = (3 : Int32)
        · have hf := (if_pos c13).symm.trans hf
          refine lv_tableIn (tgt := 155) hx hb dX7_isSo_66 (by rw [c13]; decide) (by rw [c13]; decide) (by rw [c13]; rfl) (by decide) ?_
          refine lv_iconst (v := 2) hx hb dX7_isSo_155 (by decide) ?_
          refine lv_iload hx hb dX7_isSo_156 (lv_at hl 2 rfl) ?_
          refine lv_imul hx hb dX7_isSo_158 ?_
          refine lv_iload hx hb dX7_isSo_159 (lv_at hl 1 rfl) ?_
          refine lv_icmp_le (tgt := 168) hx hb dX7_isSo_161 (by decide) (fun c20 => ?_) (fun c20 => ?_)
          · have hf := (if_pos c20).symm.trans hf
            refine lv_iconst (v := 0) hx hb dX7_isSo_168 (by decide) ?_
            exact L169 _ _ _ _ hf hw (lv_sub hl [5, 6] rfl)
          · have hf := (if_neg c20).symm.trans hf
            refine lv_iconst (v := 1) hx hb dX7_isSo_164 (by decide) ?_
            refine lv_goto (tgt := 169) hx hb dX7_isSo_165 (by decide) ?_
            exact L169 _ _ _ _ hf hw (lv_sub hl [5, 6] rfl)
        · have hf := (if_neg c13).symm.trans hf
          by_cases c14 : tA τ 3 ((6 : Int32) * p1).toNatClampNeg = (4 : Int32)
          · have hf := (if_pos c14).symm.trans hf
            refine lv_tableIn (tgt := 174) hx hb dX7_isSo_66 (by rw [c14]; decide) (by rw [c14]; decide) (by rw [c14]; rfl) (by decide) ?_
            refine lv_iload hx hb dX7_isSo_174 (lv_at hl 2 rfl) ?_
            refine lv_iload hx hb dX7_isSo_176 (lv_at hl 0 rfl) ?_
            refine lv_icmp_lt (tgt := 185) hx hb dX7_isSo_178 (by decide) (fun c21 => ?_) (fun c21 => ?_)
            · have hf := (if_pos c21).symm.trans hf
              refine lv_iconst (v := 0) hx hb dX7_isSo_185 (by decide) ?_
              exact L186 _ _ _ _ hf hw (lv_sub hl [5, 6] rfl)
            · have hf := (if_neg c21).symm.trans hf
              refine lv_iconst (v := 1) hx hb dX7_isSo_181 (by decide) ?_
              refine lv_goto (tgt := 186) hx hb dX7_isSo_182 (by decide) ?_
              exact L186 _ _ _ _ hf hw (lv_sub hl [5, 6] rfl)
          · have hf := (if_neg c14).symm.trans hf
            by_cases c15 : tA τ 3 ((6 : Int32) * p1).toNatClampNeg = (5 : Int32)
            · have hf := (if_pos c15).symm.trans hf
              refine lv_tableIn (tgt := 191) hx hb dX7_isSo_66 (by rw [c15]; decide) (by rw [c15]; decide) (by rw [c15]; rfl) (by decide) ?_
              refine lv_iload hx hb dX7_isSo_191 (lv_at hl 2 rfl) ?_
              refine lv_iload hx hb dX7_isSo_193 (lv_at hl 0 rfl) ?_
              refine lv_icmp_ne (tgt := 202) hx hb dX7_isSo_195 (by decide) (fun c22 => ?_) (fun c22 => ?_)
              · have hf := (if_neg c22).symm.trans hf
                refine lv_iconst (v := 0) hx hb dX7_isSo_202 (by decide) ?_
                exact L203 _ _ _ _ hf hw (lv_sub hl [5, 6] rfl)
              · have hf := (if_pos c22).symm.trans hf
                refine lv_iconst (v := 1) hx hb dX7_isSo_198 (by decide) ?_
                refine lv_goto (tgt := 203) hx hb dX7_isSo_199 (by decide) ?_
                exact L203 _ _ _ _ hf hw (lv_sub hl [5, 6] rfl)
            · have hf := (if_neg c15).symm.trans hf
              by_cases c16 : tA τ 3 ((6 : Int32) * p1).toNatClampNeg = (6 : Int32)
              · have hf := (if_pos c16).symm.trans hf
                refine lv_tableIn (tgt := 208) hx hb dX7_isSo_66 (by rw [c16]; decide) (by rw [c16]; decide) (by rw [c16]; rfl) (by decide) ?_
                refine lv_iload hx hb dX7_isSo_208 (lv_at hl 1 rfl) ?_
                refine lv_aload_n hx hb dX7_isSo_210 rfl (lv_at hl 5 rfl) ?_
                refine lv_iload hx hb dX7_isSo_211 (lv_at hl 3 rfl) ?_
                refine lv_aload_n hx hb dX7_isSo_213 rfl (lv_at hl 7 rfl) ?_
                obtain ⟨r23, er23, hf⟩ := ks_bind hf
                refine ke_V hE hw hl.1 cl_X7_86 0 ltM_0 lyM_0 rfl [.int x4, .ref (adr ad a q2)] (c_X7_sizeOf l D cA st ad a _ _ _ _ hq2 er23) rfl (ke_room hRm rfl rfl) ke_cnt (Nat.le_of_ble_eq_true rfl) rfl dX7_isSo_214 (fun H locs hw => ?_)
                refine W.eq (g2 := F0 m 217 ls (.int r23 :: .int r6 :: [])) rfl ?_
                refine lv_icmp_le (tgt := 224) hx hb dX7_isSo_217 (by decide) (fun c24 => ?_) (fun c24 => ?_)
                · have hf := (if_pos c24).symm.trans hf
                  refine lv_iconst (v := 0) hx hb dX7_isSo_224 (by decide) ?_
                  exact L225 _ _ _ _ hf hw (lv_sub hl [5, 6] rfl)
                · have hf := (if_neg c24).symm.trans hf
                  refine lv_iconst (v := 1) hx hb dX7_isSo_220 (by decide) ?_
                  refine lv_goto (tgt := 225) hx hb dX7_isSo_221 (by decide) ?_
                  exact L225 _ _ _ _ hf hw (lv_sub hl [5, 6] rfl)
              · have hf := (if_neg c16).symm.trans hf
                refine lv_tableOut (tgt := 230) hx hb dX7_isSo_66 (by have := ks_sw c10 (k := 0) (by decide); have := ks_sw c11 (k := 1) (by decide); have := ks_sw c12 (k := 2) (by decide); have := ks_sw c13 (k := 3) (by decide); have := ks_sw c14 (k := 4) (by decide); have := ks_sw c15 (k := 5) (by decide); have := ks_sw c16 (k := 6) (by decide); omega) (by decide) ?_
                refine lv_iload hx hb dX7_isSo_230 (lv_at hl 1 rfl) ?_
                refine lv_aload_n hx hb dX7_isSo_232 rfl (lv_at hl 5 rfl) ?_
                refine lv_iload hx hb dX7_isSo_233 (lv_at hl 3 rfl) ?_
                refine lv_aload_n hx hb dX7_isSo_235 rfl (lv_at hl 7 rfl) ?_
                obtain ⟨r25, er25, hf⟩ := ks_bind hf
                refine ke_V hE hw hl.1 cl_X7_86 0 ltM_0 lyM_0 rfl [.int x4, .ref (adr ad a q2)] (c_X7_sizeOf l D cA st ad a _ _ _ _ hq2 er25) rfl (ke_room hRm rfl rfl) ke_cnt (Nat.le_of_ble_eq_true rfl) rfl dX7_isSo_236 (fun H locs hw => ?_)
                refine W.eq (g2 := F0 m 239 ls (.int r25 :: .int r6 :: [])) rfl ?_
                refine lv_icmp_ne (tgt := 246) hx hb dX7_isSo_239 (by decide) (fun c26 => ?_) (fun c26 => ?_)
                · have hf := (if_neg c26).symm.trans hf
                  refine lv_iconst (v := 0) hx hb dX7_isSo_246 (by decide) ?_
                  exact L247 _ _ _ _ hf hw (lv_sub hl [5, 6] rfl)
                · have hf := (if_pos c26).symm.trans hf
                  refine lv_iconst (v := 1) hx hb dX7_isSo_242 (by decide) ?_
                  refine lv_goto (tgt := 247) hx hb dX7_isSo_243 (by decide) ?_
                  exact L247 _ _ _ _ hf hw (lv_sub hl [5, 6] rfl)
def fX7_holds  (τ : Tau) (p1 : Int32) : Option (Int32 × Tau) :=
 nm (sI τ 0 0 (0 : Int32)) (fun t1 =>
 nm (fX7_isSaying p1) (fun r2 =>
 (if bI r2 = 0 then
 some ((-1 : Int32), t1)
 else
 Option.bind (fX7_isSo 1 t1 p1) (fun r4 =>
 (if bI r4 = 0 then
 some ((0 : Int32), t1)
 else
 some ((1 : Int32), t1))))))
set_option maxHeartbeats 4000000 in
set_option maxRecDepth 100000 in
theorem c_X7_holds (l : Launch) (D : va_G) (cA : Nat → ClassId) (st ad : Nat → Nat) (a : Nat)  (τ : Tau) (p1 : Int32) (R : (Int32 × Tau)) (hf : fX7_holds τ p1 = some R) : KE ΛM 12 D cA st ad l yX7_holds cX7_holds 2 (some .int) 3 72 [.ref (adr ad a 0), .int p1] a τ (some (.int R.1)) R.2 := by
  refine KE.of "KindSayingsModel" rfl (by decide) (Nat.le_of_ble_eq_true rfl) (fun p e s m args below meth c A ls Rm Q hE hRm hQ hw hl => ?_)
  obtain ⟨hx, hb, hml, hown, hts, -⟩ := id hE
  have hl : lv_has ls 2 [(0, .ref (adr ad a 0)), (1, .int p1)] := hl
  unfold fX7_holds at hf
  refine lv_aload_n hx hb dX7_holds_0 rfl (lv_at hl 0 rfl) ?_
  refine lv_iconst (v := 0) hx hb dX7_holds_1 (by decide) ?_
  obtain ⟨t1, et1, hf⟩ := ks_nm hf
  refine ks_putI hE hw 0 0 ltM_0 lyM_0 rfl fw_X7_57 rfl rfl dX7_holds_2 (fun H locs hw => ?_)
  rw [← et1] at hw
  refine lv_iload_n hx hb dX7_holds_5 rfl (lv_at hl 1 rfl) ?_
  obtain ⟨r2, er2, hf⟩ := ks_nm hf
  refine ke_S hE hw hl.1 cl_X7_90 [.int p1] (c_X7_isSaying l D cA st ad a _ _ _ er2.symm) rfl (ke_room hRm rfl rfl) ke_cnt (Nat.le_of_ble_eq_true rfl) rfl dX7_holds_6 (fun H locs hw => ?_)
  refine W.eq (g2 := F0 m 9 ls (.int (bI r2) :: [])) rfl ?_
  refine lv_if_ne (tgt := 16) hx hb dX7_holds_9 (by decide) (fun c3 => ?_) (fun c3 => ?_)
  · have hf := (if_neg c3).symm.trans hf
    refine lv_aload_n hx hb dX7_holds_16 rfl (lv_at hl 0 rfl) ?_
    refine lv_iload_n hx hb dX7_holds_17 rfl (lv_at hl 1 rfl) ?_
    refine lv_aload_n hx hb dX7_holds_18 rfl (lv_at hl 0 rfl) ?_
    refine ks_getR hE hw 0 4 ltM_0 lyM_0 rfl fd_X7_19 dX7_holds_19 ?_
    obtain ⟨r4, er4, hf⟩ := ks_bind hf
    refine ke_V hE hw hl.1 cl_X7_94 0 ltM_0 lyM_0 rfl [.int p1, .ref (adr ad a 1)] (c_X7_isSo l D cA st ad a _ _ _ _ row_1 er4) rfl (ke_room hRm rfl rfl) ke_cnt (Nat.le_of_ble_eq_true rfl) rfl dX7_holds_22 (fun H locs hw => ?_)
    refine W.eq (g2 := F0 m 25 ls (.int (bI r4) :: [])) rfl ?_
    refine lv_if_eq (tgt := 32) hx hb dX7_holds_25 (by decide) (fun c5 => ?_) (fun c5 => ?_)
    · have hf := (if_pos c5).symm.trans hf
      refine lv_iconst (v := 0) hx hb dX7_holds_32 (by decide) ?_
      replace hf := Option.some.inj hf
      subst hf
      exact ke_iret hE hw hQ dX7_holds_33 rfl rfl
    · have hf := (if_neg c5).symm.trans hf
      refine lv_iconst (v := 1) hx hb dX7_holds_28 (by decide) ?_
      refine lv_goto (tgt := 33) hx hb dX7_holds_29 (by decide) ?_
      replace hf := Option.some.inj hf
      subst hf
      exact ke_iret hE hw hQ dX7_holds_33 rfl rfl
  · have hf := (if_pos c3).symm.trans hf
    refine lv_iconst (v := (-1)) hx hb dX7_holds_12 (by decide) ?_
    refine lv_goto (tgt := 33) hx hb dX7_holds_13 (by decide) ?_
    replace hf := Option.some.inj hf
    subst hf
    exact ke_iret hE hw hQ dX7_holds_33 rfl rfl
def fX7_size_71 (p1 : Int32) (p2 : Int32) (τ : Tau) (z_0 : Int32) : Option (Int32 × Tau) :=
 Option.bind (fX7_sizeOf 1 τ z_0) (fun r12 =>
     some (r12, τ))
def fX7_size  (τ : Tau) (p1 : Int32) (p2 : Int32) : Option (Int32 × Tau) :=
 nm (sI τ 0 0 (0 : Int32)) (fun t1 =>
 nm (fX7_isSaying p1) (fun r2 =>
 (if bI r2 = 0 then
 some ((-1 : Int32), t1)
 else
 nm (fX7_in p2 (0 : Int32) (2 : Int32)) (fun r4 =>
 (if bI r4 = 0 then
 some ((-1 : Int32), t1)
 else
 (if (((6 : Int32) * p1) + (1 : Int32)) < 0 ∨ 60 ≤ (((6 : Int32) * p1) + (1 : Int32)).toNatClampNeg then none else
 nm (tA t1 3 (((6 : Int32) * p1) + (1 : Int32)).toNatClampNeg) (fun x7 =>
 (if (((6 : Int32) * p1) + (2 : Int32)) < 0 ∨ 60 ≤ (((6 : Int32) * p1) + (2 : Int32)).toNatClampNeg then none else
 nm (tA t1 3 (((6 : Int32) * p1) + (2 : Int32)).toNatClampNeg) (fun x9 =>
 (if p2 = 0 then
 fX7_size_71 p1 p2 t1 x7
 else
 (if p2 = (1 : Int32) then
 fX7_size_71 p1 p2 t1 x9
 else
 fX7_size_71 p1 p2 t1 (x7 &&& x9))))))))))))
set_option maxHeartbeats 4000000 in
set_option maxRecDepth 100000 in
theorem c_X7_size (l : Launch) (D : va_G) (cA : Nat → ClassId) (st ad : Nat → Nat) (a : Nat)  (τ : Tau) (p1 : Int32) (p2 : Int32) (R : (Int32 × Tau)) (hf : fX7_size τ p1 p2 = some R) : KE ΛM 12 D cA st ad l yX7_size cX7_size 5 (some .int) 2 44 [.ref (adr ad a 0), .int p1, .int p2] a τ (some (.int R.1)) R.2 := by
  refine KE.of "KindSayingsModel" rfl (by decide) (Nat.le_of_ble_eq_true rfl) (fun p e s m args below meth c A ls Rm Q hE hRm hQ hw hl => ?_)
  obtain ⟨hx, hb, hml, hown, hts, -⟩ := id hE
  have hl : lv_has ls 5 [(0, .ref (adr ad a 0)), (1, .int p1), (2, .int p2)] := hl
  have L71 : ∀ (τ : Tau) (z_0 : Int32) (H : Heap) (locs : List Loc) (ls : Array Slot), fX7_size_71 p1 p2 τ z_0 = some R → Wd ΛM 12 D cA ad A s a τ H locs → lv_has ls 5 [(0, .ref (adr ad a 0))] → W p l e Rm s m args below meth c H locs 0 0 Q (F0 m 71 ls [.int z_0, .ref (adr ad a 0)]) := by
    intro τ z_0 H locs ls hf hw hl
    unfold fX7_size_71 at hf
    refine lv_aload_n hx hb dX7_size_71 rfl (lv_at hl 0 rfl) ?_
    refine ks_getR hE hw 0 4 ltM_0 lyM_0 rfl fd_X7_19 dX7_size_72 ?_
    obtain ⟨r12, er12, hf⟩ := ks_bind hf
    refine ke_V hE hw hl.1 cl_X7_86 0 ltM_0 lyM_0 rfl [.int z_0, .ref (adr ad a 1)] (c_X7_sizeOf l D cA st ad a _ _ _ _ row_1 er12) rfl (ke_room hRm rfl rfl) ke_cnt (Nat.le_of_ble_eq_true rfl) rfl dX7_size_75 (fun H locs hw => ?_)
    refine W.eq (g2 := F0 m 78 ls (.int r12 :: [])) rfl ?_
    replace hf := Option.some.inj hf
    subst hf
    exact ke_iret hE hw hQ dX7_size_78 rfl rfl
  unfold fX7_size at hf
  refine lv_aload_n hx hb dX7_size_0 rfl (lv_at hl 0 rfl) ?_
  refine lv_iconst (v := 0) hx hb dX7_size_1 (by decide) ?_
  obtain ⟨t1, et1, hf⟩ := ks_nm hf
  refine ks_putI hE hw 0 0 ltM_0 lyM_0 rfl fw_X7_57 rfl rfl dX7_size_2 (fun H locs hw => ?_)
  rw [← et1] at hw
  refine lv_iload_n hx hb dX7_size_5 rfl (lv_at hl 1 rfl) ?_
  obtain ⟨r2, er2, hf⟩ := ks_nm hf
  refine ke_S hE hw hl.1 cl_X7_90 [.int p1] (c_X7_isSaying l D cA st ad a _ _ _ er2.symm) rfl (ke_room hRm rfl rfl) ke_cnt (Nat.le_of_ble_eq_true rfl) rfl dX7_size_6 (fun H locs hw => ?_)
  refine W.eq (g2 := F0 m 9 ls (.int (bI r2) :: [])) rfl ?_
  refine lv_if_eq (tgt := 21) hx hb dX7_size_9 (by decide) (fun c3 => ?_) (fun c3 => ?_)
  · have hf := (if_pos c3).symm.trans hf
    refine lv_iconst (v := (-1)) hx hb dX7_size_21 (by decide) ?_
    replace hf := Option.some.inj hf
    subst hf
    exact ke_iret hE hw hQ dX7_size_22 rfl rfl
  · have hf := (if_neg c3).symm.trans hf
    refine lv_iload_n hx hb dX7_size_12 rfl (lv_at hl 2 rfl) ?_
    refine lv_iconst (v := 0) hx hb dX7_size_13 (by decide) ?_
    refine lv_iconst (v := 2) hx hb dX7_size_14 (by decide) ?_
    obtain ⟨r4, er4, hf⟩ := ks_nm hf
    refine ke_S hE hw hl.1 cl_X7_72 [.int p2, .int (0 : Int32), .int (2 : Int32)] (c_X7_in l D cA st ad a _ _ _ _ _ er4.symm) rfl (ke_room hRm rfl rfl) ke_cnt (Nat.le_of_ble_eq_true rfl) rfl dX7_size_15 (fun H locs hw => ?_)
    refine W.eq (g2 := F0 m 18 ls (.int (bI r4) :: [])) rfl ?_
    refine lv_if_ne (tgt := 23) hx hb dX7_size_18 (by decide) (fun c5 => ?_) (fun c5 => ?_)
    · have hf := (if_neg c5).symm.trans hf
      refine lv_aload_n hx hb dX7_size_23 rfl (lv_at hl 0 rfl) ?_
      refine ks_getR hE hw 0 13 ltM_0 lyM_0 rfl fd_X7_26 dX7_size_24 ?_
      refine lv_bipush (v := 6) hx hb dX7_size_27 (by decide) ?_
      refine lv_iload_n hx hb dX7_size_29 rfl (lv_at hl 1 rfl) ?_
      refine lv_imul hx hb dX7_size_30 ?_
      refine lv_iconst (v := 1) hx hb dX7_size_31 (by decide) ?_
      refine lv_iadd hx hb dX7_size_32 ?_
      obtain ⟨b6, hf⟩ := ks_ok hf
      refine ks_iald hE hw 3 ltM_3 lyM_3 b6 dX7_size_33 ?_
      obtain ⟨x7, ex7, hf⟩ := ks_nm hf
      refine W.eq (g2 := F0 m 34 ls (.int x7 :: [])) (by rw [ex7]) ?_
      refine lv_istore_n (lv' := [(3, .int x7), (0, .ref (adr ad a 0)), (1, .int p1), (2, .int p2)]) hx hb dX7_size_34 rfl hl (by decide) rfl (fun ls hl => ?_)
      refine lv_aload_n hx hb dX7_size_35 rfl (lv_at hl 1 rfl) ?_
      refine ks_getR hE hw 0 13 ltM_0 lyM_0 rfl fd_X7_26 dX7_size_36 ?_
      refine lv_bipush (v := 6) hx hb dX7_size_39 (by decide) ?_
      refine lv_iload_n hx hb dX7_size_41 rfl (lv_at hl 2 rfl) ?_
      refine lv_imul hx hb dX7_size_42 ?_
      refine lv_iconst (v := 2) hx hb dX7_size_43 (by decide) ?_
      refine lv_iadd hx hb dX7_size_44 ?_
      obtain ⟨b8, hf⟩ := ks_ok hf
      refine ks_iald hE hw 3 ltM_3 lyM_3 b8 dX7_size_45 ?_
      obtain ⟨x9, ex9, hf⟩ := ks_nm hf
      refine W.eq (g2 := F0 m 46 ls (.int x9 :: [])) (by rw [ex9]) ?_
      refine lv_istore (lv' := [(4, .int x9), (3, .int x7), (0, .ref (adr ad a 0)), (1, .int p1), (2, .int p2)]) hx hb dX7_size_46 hl (by decide) rfl (fun ls hl => ?_)
      refine lv_aload_n hx hb dX7_size_48 rfl (lv_at hl 2 rfl) ?_
      refine lv_iload_n hx hb dX7_size_49 rfl (lv_at hl 4 rfl) ?_
      refine lv_if_ne (tgt := 57) hx hb dX7_size_50 (by decide) (fun c10 => ?_) (fun c10 => ?_)
      · have hf := (if_neg c10).symm.trans hf
        refine lv_iload_n hx hb dX7_size_57 rfl (lv_at hl 4 rfl) ?_
        refine lv_iconst (v := 1) hx hb dX7_size_58 (by decide) ?_
        refine lv_icmp_ne (tgt := 67) hx hb dX7_size_59 (by decide) (fun c11 => ?_) (fun c11 => ?_)
        · have hf := (if_neg c11).symm.trans hf
          refine lv_iload_n hx hb dX7_size_67 rfl (lv_at hl 1 rfl) ?_
          refine lv_iload hx hb dX7_size_68 (lv_at hl 0 rfl) ?_
          refine lv_iand hx hb dX7_size_70 ?_
          exact L71 _ _ _ _ _ hf hw (lv_sub hl [2] rfl)
        · have hf := (if_pos c11).symm.trans hf
          refine lv_iload hx hb dX7_size_62 (lv_at hl 0 rfl) ?_
          refine lv_goto (tgt := 71) hx hb dX7_size_64 (by decide) ?_
          exact L71 _ _ _ _ _ hf hw (lv_sub hl [2] rfl)
      · have hf := (if_pos c10).symm.trans hf
        refine lv_iload_n hx hb dX7_size_53 rfl (lv_at hl 1 rfl) ?_
        refine lv_goto (tgt := 71) hx hb dX7_size_54 (by decide) ?_
        exact L71 _ _ _ _ _ hf hw (lv_sub hl [2] rfl)
    · have hf := (if_pos c5).symm.trans hf
      refine lv_iconst (v := (-1)) hx hb dX7_size_21 (by decide) ?_
      replace hf := Option.some.inj hf
      subst hf
      exact ke_iret hE hw hQ dX7_size_22 rfl rfl
def fX7_type_36 (p1 : Int64) (p2 : Int32) : Nat → Tau → Int32 → Option (Int32 × Tau)
  | 0, _, _ => none
  | n + 1, τ, x_4 =>
     (if x_4 < 0 then
     some (tI τ 0 6, τ)
     else
     (if tI τ 0 6 < 0 ∨ 80 ≤ (tI τ 0 6).toNatClampNeg then none else
     nm (sA τ 2 (tI τ 0 6).toNatClampNeg (((p1 >>> (((8 : Int32) * x_4).toInt64 &&& 63)) &&& (255 : Int64)).toInt32)) (fun t8 =>
     nm (sI t8 0 6 (tI t8 0 6 + (1 : Int32))) (fun t9 =>
     nm (x_4 + (-1 : Int32)) (fun x10 =>
     fX7_type_36 p1 p2 n t9 x10)))))
def fX7_type  (τ : Tau) (p1 : Int64) (p2 : Int32) : Option (Int32 × Tau) :=
 nm (sI τ 0 0 (0 : Int32)) (fun t1 =>
 nm (fX7_in p2 (1 : Int32) (8 : Int32)) (fun r2 =>
 (if bI r2 = 0 then
 some ((-1 : Int32), t1)
 else
 (if (tI t1 0 6 + p2) ≤ (80 : Int32) then
 nm (p2 - (1 : Int32)) (fun x5 =>
 fX7_type_36 p1 p2 FU t1 x5)
 else
 some ((-3 : Int32), t1)))))
set_option maxHeartbeats 4000000 in
set_option maxRecDepth 100000 in
theorem c_X7_type (l : Launch) (D : va_G) (cA : Nat → ClassId) (st ad : Nat → Nat) (a : Nat)  (τ : Tau) (p1 : Int64) (p2 : Int32) (R : (Int32 × Tau)) (hf : fX7_type τ p1 p2 = some R) : KE ΛM 12 D cA st ad l yX7_type cX7_type 5 (some .int) 1 22 [.ref (adr ad a 0), .long p1, .int p2] a τ (some (.int R.1)) R.2 := by
  refine KE.of "KindSayingsModel" rfl (by decide) (Nat.le_of_ble_eq_true rfl) (fun p e s m args below meth c A ls Rm Q hE hRm hQ hw hl => ?_)
  obtain ⟨hx, hb, hml, hown, hts, -⟩ := id hE
  have hl : lv_has ls 5 [(0, .ref (adr ad a 0)), (1, .long p1), (3, .int p2)] := hl
  have L36 : ∀ (n36 : Nat) (τ : Tau) (x_4 : Int32) (H : Heap) (locs : List Loc) (ls : Array Slot), fX7_type_36 p1 p2 n36 τ x_4 = some R → Wd ΛM 12 D cA ad A s a τ H locs → lv_has ls 5 [(0, .ref (adr ad a 0)), (1, .long p1), (4, .int x_4)] → W p l e Rm s m args below meth c H locs 0 0 Q (F0 m 36 ls []) := by
    intro n36
    induction n36 with
    | zero => intro τ x_4 H locs ls hf hw hl; exact absurd hf (by rw [fX7_type_36]; simp)
    | succ n36 ih36 =>
      intro τ x_4 H locs ls hf hw hl
      rw [fX7_type_36] at hf
      refine lv_iload hx hb dX7_type_36 (lv_at hl 2 rfl) ?_
      refine lv_if_lt (tgt := 78) hx hb dX7_type_38 (by decide) (fun c6 => ?_) (fun c6 => ?_)
      · have hf := (if_pos c6).symm.trans hf
        refine lv_aload_n hx hb dX7_type_78 rfl (lv_at hl 0 rfl) ?_
        refine ks_getI hE hw 0 6 ltM_0 lyM_0 rfl fd_X7_98 dX7_type_79 ?_
        replace hf := Option.some.inj hf
        subst hf
        exact ke_iret hE hw hQ dX7_type_82 rfl rfl
      · have hf := (if_neg c6).symm.trans hf
        refine lv_aload_n hx hb dX7_type_41 rfl (lv_at hl 0 rfl) ?_
        refine ks_getR hE hw 0 5 ltM_0 lyM_0 rfl fd_X7_23 dX7_type_42 ?_
        refine lv_aload_n hx hb dX7_type_45 rfl (lv_at hl 0 rfl) ?_
        refine ks_getI hE hw 0 6 ltM_0 lyM_0 rfl fd_X7_98 dX7_type_46 ?_
        refine lv_lload_n hx hb dX7_type_49 rfl (lv_at hl 1 rfl) ?_
        refine lv_bipush (v := 8) hx hb dX7_type_50 (by decide) ?_
        refine lv_iload hx hb dX7_type_52 (lv_at hl 2 rfl) ?_
        refine lv_imul hx hb dX7_type_54 ?_
        refine lv_lshr hx hb dX7_type_55 rfl ?_
        refine lv_ldc2 hx hb hown (hts _ w_917) dX7_type_56 ?_
        refine lv_land hx hb dX7_type_59 ?_
        refine lv_l2i hx hb dX7_type_60 rfl ?_
        obtain ⟨b7, hf⟩ := ks_ok hf
        obtain ⟨t8, et8, hf⟩ := ks_nm hf
        refine ks_iast hE hw 2 ltM_2 lyM_2 b7 dX7_type_61 (fun H locs hw => ?_)
        rw [← et8] at hw
        refine lv_aload_n hx hb dX7_type_62 rfl (lv_at hl 0 rfl) ?_
        refine lv_dup hx hb dX7_type_63 rfl ?_
        refine ks_getI hE hw 0 6 ltM_0 lyM_0 rfl fd_X7_98 dX7_type_64 ?_
        refine lv_iconst (v := 1) hx hb dX7_type_67 (by decide) ?_
        refine lv_iadd hx hb dX7_type_68 ?_
        obtain ⟨t9, et9, hf⟩ := ks_nm hf
        refine ks_putI hE hw 0 6 ltM_0 lyM_0 rfl fw_X7_98 rfl rfl dX7_type_69 (fun H locs hw => ?_)
        rw [← et9] at hw
        obtain ⟨x10, ex10, hf⟩ := ks_nm hf
        refine lv_iinc (v := x10) (lv' := [(4, .int x10), (0, .ref (adr ad a 0)), (1, .long p1)]) hx hb dX7_type_72 hl (k := 2) rfl (by rw [ex10]; rfl) (by decide) rfl (fun ls hl => ?_)
        refine lv_goto (tgt := 36) hx hb dX7_type_75 (by decide) ?_
        exact ih36 _ _ _ _ _ hf hw (lv_sub hl [1, 2, 0] rfl)
  unfold fX7_type at hf
  refine lv_aload_n hx hb dX7_type_0 rfl (lv_at hl 0 rfl) ?_
  refine lv_iconst (v := 0) hx hb dX7_type_1 (by decide) ?_
  obtain ⟨t1, et1, hf⟩ := ks_nm hf
  refine ks_putI hE hw 0 0 ltM_0 lyM_0 rfl fw_X7_57 rfl rfl dX7_type_2 (fun H locs hw => ?_)
  rw [← et1] at hw
  refine lv_iload_n hx hb dX7_type_5 rfl (lv_at hl 2 rfl) ?_
  refine lv_iconst (v := 1) hx hb dX7_type_6 (by decide) ?_
  refine lv_bipush (v := 8) hx hb dX7_type_7 (by decide) ?_
  obtain ⟨r2, er2, hf⟩ := ks_nm hf
  refine ke_S hE hw hl.1 cl_X7_72 [.int p2, .int (1 : Int32), .int (8 : Int32)] (c_X7_in l D cA st ad a _ _ _ _ _ er2.symm) rfl (ke_room hRm rfl rfl) ke_cnt (Nat.le_of_ble_eq_true rfl) rfl dX7_type_9 (fun H locs hw => ?_)
  refine W.eq (g2 := F0 m 12 ls (.int (bI r2) :: [])) rfl ?_
  refine lv_if_ne (tgt := 17) hx hb dX7_type_12 (by decide) (fun c3 => ?_) (fun c3 => ?_)
  · have hf := (if_neg c3).symm.trans hf
    refine lv_aload_n hx hb dX7_type_17 rfl (lv_at hl 0 rfl) ?_
    refine ks_getI hE hw 0 6 ltM_0 lyM_0 rfl fd_X7_98 dX7_type_18 ?_
    refine lv_iload_n hx hb dX7_type_21 rfl (lv_at hl 2 rfl) ?_
    refine lv_iadd hx hb dX7_type_22 ?_
    refine lv_bipush (v := 80) hx hb dX7_type_23 (by decide) ?_
    refine lv_icmp_le (tgt := 31) hx hb dX7_type_25 (by decide) (fun c4 => ?_) (fun c4 => ?_)
    · have hf := (if_pos c4).symm.trans hf
      refine lv_iload_n hx hb dX7_type_31 rfl (lv_at hl 2 rfl) ?_
      refine lv_iconst (v := 1) hx hb dX7_type_32 (by decide) ?_
      refine lv_isub hx hb dX7_type_33 ?_
      obtain ⟨x5, ex5, hf⟩ := ks_nm hf
      refine W.eq (g2 := F0 m 34 ls (.int x5 :: [])) (by rw [ex5]) ?_
      refine lv_istore (lv' := [(4, .int x5), (0, .ref (adr ad a 0)), (1, .long p1), (3, .int p2)]) hx hb dX7_type_34 hl (by decide) rfl (fun ls hl => ?_)
      exact L36 FU _ _ _ _ _ hf hw (lv_sub hl [1, 2, 0] rfl)
    · have hf := (if_neg c4).symm.trans hf
      refine lv_bipush (v := (-3)) hx hb dX7_type_28 (by decide) ?_
      replace hf := Option.some.inj hf
      subst hf
      exact ke_iret hE hw hQ dX7_type_30 rfl rfl
  · have hf := (if_pos c3).symm.trans hf
    refine lv_iconst (v := (-1)) hx hb dX7_type_15 (by decide) ?_
    replace hf := Option.some.inj hf
    subst hf
    exact ke_iret hE hw hQ dX7_type_16 rfl rfl
def fX7_clear  (τ : Tau) : (Int32 × Tau) :=
 nm (sI τ 0 0 (0 : Int32)) (fun t1 =>
 nm (tI t1 0 6) (fun x2 =>
 nm (sI t1 0 6 (0 : Int32)) (fun t3 =>
 (x2, t3))))
set_option maxHeartbeats 4000000 in
set_option maxRecDepth 100000 in
theorem c_X7_clear (l : Launch) (D : va_G) (cA : Nat → ClassId) (st ad : Nat → Nat) (a : Nat)  (τ : Tau) (R : (Int32 × Tau)) (hf : fX7_clear τ = R) : KE ΛM 12 D cA st ad l yX7_clear cX7_clear 2 (some .int) 0 0 [.ref (adr ad a 0)] a τ (some (.int R.1)) R.2 := by
  refine KE.of "KindSayingsModel" rfl (by decide) (Nat.le_of_ble_eq_true rfl) (fun p e s m args below meth c A ls Rm Q hE hRm hQ hw hl => ?_)
  obtain ⟨hx, hb, hml, hown, hts, -⟩ := id hE
  have hl : lv_has ls 2 [(0, .ref (adr ad a 0))] := hl
  unfold fX7_clear at hf
  refine lv_aload_n hx hb dX7_clear_0 rfl (lv_at hl 0 rfl) ?_
  refine lv_iconst (v := 0) hx hb dX7_clear_1 (by decide) ?_
  obtain ⟨t1, et1, hf⟩ := ks_nm hf
  refine ks_putI hE hw 0 0 ltM_0 lyM_0 rfl fw_X7_57 rfl rfl dX7_clear_2 (fun H locs hw => ?_)
  rw [← et1] at hw
  refine lv_aload_n hx hb dX7_clear_5 rfl (lv_at hl 0 rfl) ?_
  refine ks_getI hE hw 0 6 ltM_0 lyM_0 rfl fd_X7_98 dX7_clear_6 ?_
  obtain ⟨x2, ex2, hf⟩ := ks_nm hf
  refine W.eq (g2 := F0 m 9 ls (.int x2 :: [])) (by rw [ex2]) ?_
  refine lv_istore_n (lv' := [(1, .int x2), (0, .ref (adr ad a 0))]) hx hb dX7_clear_9 rfl hl (by decide) rfl (fun ls hl => ?_)
  refine lv_aload_n hx hb dX7_clear_10 rfl (lv_at hl 1 rfl) ?_
  refine lv_iconst (v := 0) hx hb dX7_clear_11 (by decide) ?_
  obtain ⟨t3, et3, hf⟩ := ks_nm hf
  refine ks_putI hE hw 0 6 ltM_0 lyM_0 rfl fw_X7_98 rfl rfl dX7_clear_12 (fun H locs hw => ?_)
  rw [← et3] at hw
  refine lv_iload_n hx hb dX7_clear_15 rfl (lv_at hl 0 rfl) ?_
  subst hf
  exact ke_iret hE hw hQ dX7_clear_16 rfl rfl
