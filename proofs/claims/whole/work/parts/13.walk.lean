def fX5_begin_33 (q3 : Nat) (p1 : Int32) (p2 : Int32) (k3 : Tau → Int32 → Option Tau) (τ : Tau) (x_4 : Int32) (z_0 : Int32) (z_1 : Int32) : Option Tau :=
 (if z_1 < 0 ∨ 16 ≤ z_1.toNatClampNeg then none else
     nm (sA τ 20 z_1.toNatClampNeg z_0) (fun t7 =>
     nm (x_4 + (1 : Int32)) (fun x8 =>
     k3 t7 x8)))
def fX5_begin_3 (q3 : Nat) (p1 : Int32) (p2 : Int32) : Nat → Tau → Int32 → Option Tau
  | 0, _, _ => none
  | n + 1, τ, x_4 =>
     (if (16 : Int32) ≤ x_4 then
     nm (sI τ 18 3 (if (16 : Int32) < p1 then (16 : Int32) else p1)) (fun t2 =>
     nm (sI t2 18 4 (if (6 : Int32) < p2 then (6 : Int32) else p2)) (fun t3 =>
     nm (sI t3 18 5 (0 : Int32)) (fun t4 =>
     some t4)))
     else
     nm (fX3_weight q3 τ x_4) (fun r5 =>
     fX5_begin_33 q3 p1 p2 (fX5_begin_3 q3 p1 p2 n) τ x_4 r5 x_4))
def fX5_begin (q3 : Nat) (τ : Tau) (p1 : Int32) (p2 : Int32) : Option Tau :=
 fX5_begin_3 q3 p1 p2 FU τ (0 : Int32)
set_option maxHeartbeats 4000000 in
set_option maxRecDepth 100000 in
theorem c_X5_begin (l : Launch) (D : va_G) (cA : Nat → ClassId) (st ad : Nat → Nat) (a : Nat) (q3 : Nat) (τ : Tau) (p1 : Int32) (p2 : Int32) (R : Tau) (hq3 : isSay q3) (hf : fX5_begin q3 τ p1 p2 = some R) : KE ΛX 29 D cA st ad l yX5_begin cX5_begin 5 none 1 23 [.ref (adr ad a 18), .int p1, .int p2, .ref (adr ad a q3)] a τ (none) R := by
  refine KE.of "KindSayings$Walk" rfl (by decide) (Nat.le_of_ble_eq_true rfl) (fun p e s m args below meth c A ls Rm Q hE hRm hQ hw hl => ?_)
  obtain ⟨hx, hb, hml, hown, hts, -⟩ := id hE
  have hl : lv_has ls 5 [(0, .ref (adr ad a 18)), (1, .int p1), (2, .int p2), (3, .ref (adr ad a q3))] := hl
  have L3 : ∀ (n3 : Nat) (τ : Tau) (x_4 : Int32) (H : Heap) (locs : List Loc) (ls : Array Slot), fX5_begin_3 q3 p1 p2 n3 τ x_4 = some R → Wd ΛX 29 D cA ad A s a τ H locs → lv_has ls 5 [(0, .ref (adr ad a 18)), (1, .int p1), (2, .int p2), (3, .ref (adr ad a q3)), (4, .int x_4)] → W p l e Rm s m args below meth c H locs 0 0 Q (F0 m 3 ls []) := by
    intro n3
    induction n3 with
    | zero => intro τ x_4 H locs ls hf hw hl; exact absurd hf (by rw [fX5_begin_3]; simp)
    | succ n3 ih3 =>
      have L33 : ∀ (τ : Tau) (x_4 : Int32) (z_0 : Int32) (z_1 : Int32) (H : Heap) (locs : List Loc) (ls : Array Slot), fX5_begin_33 q3 p1 p2 (fX5_begin_3 q3 p1 p2 n3) τ x_4 z_0 z_1 = some R → Wd ΛX 29 D cA ad A s a τ H locs → lv_has ls 5 [(0, .ref (adr ad a 18)), (1, .int p1), (2, .int p2), (3, .ref (adr ad a q3)), (4, .int x_4)] → W p l e Rm s m args below meth c H locs 0 0 Q (F0 m 33 ls [.int z_0, .int z_1, .ref (adr ad a 20)]) := by
        intro τ x_4 z_0 z_1 H locs ls hf hw hl
        unfold fX5_begin_33 at hf
        obtain ⟨b6, hf⟩ := ks_ok hf
        obtain ⟨t7, et7, hf⟩ := ks_nm hf
        refine ks_iast hE hw 20 ltX_20 lyX_20 b6 dX5_begin_33 (fun H locs hw => ?_)
        rw [← et7] at hw
        obtain ⟨x8, ex8, hf⟩ := ks_nm hf
        refine lv_iinc (v := x8) (lv' := [(4, .int x8), (0, .ref (adr ad a 18)), (1, .int p1), (2, .int p2), (3, .ref (adr ad a q3))]) hx hb dX5_begin_34 hl (k := 4) rfl (by rw [ex8]; rfl) (by decide) rfl (fun ls hl => ?_)
        refine lv_goto (tgt := 3) hx hb dX5_begin_37 (by decide) ?_
        exact ih3 _ _ _ _ _ hf hw (lv_sub hl [1, 2, 3, 4, 0] rfl)
      intro τ x_4 H locs ls hf hw hl
      rw [fX5_begin_3] at hf
      refine lv_iload hx hb dX5_begin_3 (lv_at hl 4 rfl) ?_
      refine lv_aload_n hx hb dX5_begin_5 rfl (lv_at hl 0 rfl) ?_
      refine ks_getR hE hw 18 1 ltX_18 lyX_18 rfl fd_X5_15 dX5_begin_6 ?_
      refine ks_alen hE hw 20 ltX_20 lyX_20 rfl 16 rfl dX5_begin_9 ?_
      refine lv_icmp_ge (tgt := 40) hx hb dX5_begin_10 (by decide) (fun c1 => ?_) (fun c1 => ?_)
      · have hf := (if_pos c1).symm.trans hf
        refine lv_aload_n hx hb dX5_begin_40 rfl (lv_at hl 0 rfl) ?_
        refine lv_iload_n hx hb dX5_begin_41 rfl (lv_at hl 1 rfl) ?_
        refine lv_aload_n hx hb dX5_begin_42 rfl (lv_at hl 0 rfl) ?_
        refine ks_getR hE hw 18 1 ltX_18 lyX_18 rfl fd_X5_15 dX5_begin_43 ?_
        refine ks_alen hE hw 20 ltX_20 lyX_20 rfl 16 rfl dX5_begin_46 ?_
        refine va_mmin hx hb (hE.2.2.1.trans hl.1.symm) hown (hts _ w_539) (hts _ w_450) (hts _ w_74) (hts _ w_451) (by rw [hRm.1]; decide) (by rw [hRm.2]; exact Nat.le_of_ble_eq_true rfl) ke_cnt.1 ke_cnt.2 dX5_begin_47 ?_
        refine W.eq (g2 := F0 m 50 ls (.int (if (16 : Int32) < p1 then (16 : Int32) else p1) :: .ref (adr ad a 18) :: [])) rfl ?_
        obtain ⟨t2, et2, hf⟩ := ks_nm hf
        refine ks_putI hE hw 18 3 ltX_18 lyX_18 rfl fw_X5_33 rfl rfl dX5_begin_50 (fun H locs hw => ?_)
        rw [← et2] at hw
        refine lv_aload_n hx hb dX5_begin_53 rfl (lv_at hl 0 rfl) ?_
        refine lv_iload_n hx hb dX5_begin_54 rfl (lv_at hl 2 rfl) ?_
        refine lv_aload_n hx hb dX5_begin_55 rfl (lv_at hl 0 rfl) ?_
        refine ks_getR hE hw 18 0 ltX_18 lyX_18 rfl fd_X5_9 dX5_begin_56 ?_
        refine ks_alen hE hw 19 ltX_19 lyX_19 rfl 6 rfl dX5_begin_59 ?_
        refine va_mmin hx hb (hE.2.2.1.trans hl.1.symm) hown (hts _ w_539) (hts _ w_450) (hts _ w_74) (hts _ w_451) (by rw [hRm.1]; decide) (by rw [hRm.2]; exact Nat.le_of_ble_eq_true rfl) ke_cnt.1 ke_cnt.2 dX5_begin_60 ?_
        refine W.eq (g2 := F0 m 63 ls (.int (if (6 : Int32) < p2 then (6 : Int32) else p2) :: .ref (adr ad a 18) :: [])) rfl ?_
        obtain ⟨t3, et3, hf⟩ := ks_nm hf
        refine ks_putI hE hw 18 4 ltX_18 lyX_18 rfl fw_X5_37 rfl rfl dX5_begin_63 (fun H locs hw => ?_)
        rw [← et3] at hw
        refine lv_aload_n hx hb dX5_begin_66 rfl (lv_at hl 0 rfl) ?_
        refine lv_iconst (v := 0) hx hb dX5_begin_67 (by decide) ?_
        obtain ⟨t4, et4, hf⟩ := ks_nm hf
        refine ks_putI hE hw 18 5 ltX_18 lyX_18 rfl fw_X5_40 rfl rfl dX5_begin_68 (fun H locs hw => ?_)
        rw [← et4] at hw
        replace hf := Option.some.inj hf
        subst hf
        exact ke_vret hE hw hQ dX5_begin_71 rfl
      · have hf := (if_neg c1).symm.trans hf
        refine lv_aload_n hx hb dX5_begin_13 rfl (lv_at hl 0 rfl) ?_
        refine ks_getR hE hw 18 1 ltX_18 lyX_18 rfl fd_X5_15 dX5_begin_14 ?_
        refine lv_iload hx hb dX5_begin_17 (lv_at hl 4 rfl) ?_
        refine lv_aload_n hx hb dX5_begin_19 rfl (lv_at hl 3 rfl) ?_
        refine lv_ifnonnull (tgt := 27) hx hb dX5_begin_20 (by decide) ?_
        refine lv_aload_n hx hb dX5_begin_27 rfl (lv_at hl 3 rfl) ?_
        refine lv_iload hx hb dX5_begin_28 (lv_at hl 4 rfl) ?_
        obtain ⟨r5, er5, hf⟩ := ks_nm hf
        refine ke_V hE hw hl.1 cl_X5_21 q3 (say_lt hq3) (say_lay hq3) rfl [.int x_4] (c_X3_weight l D cA st ad a _ _ _ _ hq3 er5.symm) rfl (ke_room hRm rfl rfl) ke_cnt (Nat.le_of_ble_eq_true rfl) rfl dX5_begin_30 (fun H locs hw => ?_)
        refine W.eq (g2 := F0 m 33 ls (.int r5 :: .int x_4 :: .ref (adr ad a 20) :: [])) rfl ?_
        exact L33 _ _ _ _ _ _ _ hf hw (lv_sub hl [0, 1, 2, 3, 4] rfl)
  unfold fX5_begin at hf
  refine lv_iconst (v := 0) hx hb dX5_begin_0 (by decide) ?_
  refine lv_istore (lv' := [(4, .int (0 : Int32)), (0, .ref (adr ad a 18)), (1, .int p1), (2, .int p2), (3, .ref (adr ad a q3))]) hx hb dX5_begin_1 hl (by decide) rfl (fun ls hl => ?_)
  exact L3 FU _ _ _ _ _ hf hw (lv_sub hl [1, 2, 3, 4, 0] rfl)
def fX5_begin0_33 (p1 : Int32) (p2 : Int32) (k3 : Tau → Int32 → Option Tau) (τ : Tau) (x_4 : Int32) (z_0 : Int32) (z_1 : Int32) : Option Tau :=
 (if z_1 < 0 ∨ 16 ≤ z_1.toNatClampNeg then none else
     nm (sA τ 20 z_1.toNatClampNeg z_0) (fun t6 =>
     nm (x_4 + (1 : Int32)) (fun x7 =>
     k3 t6 x7)))
def fX5_begin0_3 (p1 : Int32) (p2 : Int32) : Nat → Tau → Int32 → Option Tau
  | 0, _, _ => none
  | n + 1, τ, x_4 =>
     (if (16 : Int32) ≤ x_4 then
     nm (sI τ 18 3 (if (16 : Int32) < p1 then (16 : Int32) else p1)) (fun t2 =>
     nm (sI t2 18 4 (if (6 : Int32) < p2 then (6 : Int32) else p2)) (fun t3 =>
     nm (sI t3 18 5 (0 : Int32)) (fun t4 =>
     some t4)))
     else
     fX5_begin0_33 p1 p2 (fX5_begin0_3 p1 p2 n) τ x_4 (0 : Int32) x_4)
def fX5_begin0  (τ : Tau) (p1 : Int32) (p2 : Int32) : Option Tau :=
 fX5_begin0_3 p1 p2 FU τ (0 : Int32)
set_option maxHeartbeats 4000000 in
set_option maxRecDepth 100000 in
theorem c_X5_begin0 (l : Launch) (D : va_G) (cA : Nat → ClassId) (st ad : Nat → Nat) (a : Nat)  (τ : Tau) (p1 : Int32) (p2 : Int32) (R : Tau) (hf : fX5_begin0 τ p1 p2 = some R) : KE ΛX 29 D cA st ad l yX5_begin cX5_begin 5 none 1 23 [.ref (adr ad a 18), .int p1, .int p2, .null] a τ (none) R := by
  refine KE.of "KindSayings$Walk" rfl (by decide) (Nat.le_of_ble_eq_true rfl) (fun p e s m args below meth c A ls Rm Q hE hRm hQ hw hl => ?_)
  obtain ⟨hx, hb, hml, hown, hts, -⟩ := id hE
  have hl : lv_has ls 5 [(0, .ref (adr ad a 18)), (1, .int p1), (2, .int p2), (3, .null)] := hl
  have L3 : ∀ (n3 : Nat) (τ : Tau) (x_4 : Int32) (H : Heap) (locs : List Loc) (ls : Array Slot), fX5_begin0_3 p1 p2 n3 τ x_4 = some R → Wd ΛX 29 D cA ad A s a τ H locs → lv_has ls 5 [(0, .ref (adr ad a 18)), (1, .int p1), (2, .int p2), (3, .null), (4, .int x_4)] → W p l e Rm s m args below meth c H locs 0 0 Q (F0 m 3 ls []) := by
    intro n3
    induction n3 with
    | zero => intro τ x_4 H locs ls hf hw hl; exact absurd hf (by rw [fX5_begin0_3]; simp)
    | succ n3 ih3 =>
      have L33 : ∀ (τ : Tau) (x_4 : Int32) (z_0 : Int32) (z_1 : Int32) (H : Heap) (locs : List Loc) (ls : Array Slot), fX5_begin0_33 p1 p2 (fX5_begin0_3 p1 p2 n3) τ x_4 z_0 z_1 = some R → Wd ΛX 29 D cA ad A s a τ H locs → lv_has ls 5 [(0, .ref (adr ad a 18)), (1, .int p1), (2, .int p2), (3, .null), (4, .int x_4)] → W p l e Rm s m args below meth c H locs 0 0 Q (F0 m 33 ls [.int z_0, .int z_1, .ref (adr ad a 20)]) := by
        intro τ x_4 z_0 z_1 H locs ls hf hw hl
        unfold fX5_begin0_33 at hf
        obtain ⟨b5, hf⟩ := ks_ok hf
        obtain ⟨t6, et6, hf⟩ := ks_nm hf
        refine ks_iast hE hw 20 ltX_20 lyX_20 b5 dX5_begin_33 (fun H locs hw => ?_)
        rw [← et6] at hw
        obtain ⟨x7, ex7, hf⟩ := ks_nm hf
        refine lv_iinc (v := x7) (lv' := [(4, .int x7), (0, .ref (adr ad a 18)), (1, .int p1), (2, .int p2), (3, .null)]) hx hb dX5_begin_34 hl (k := 4) rfl (by rw [ex7]; rfl) (by decide) rfl (fun ls hl => ?_)
        refine lv_goto (tgt := 3) hx hb dX5_begin_37 (by decide) ?_
        exact ih3 _ _ _ _ _ hf hw (lv_sub hl [1, 2, 3, 4, 0] rfl)
      intro τ x_4 H locs ls hf hw hl
      rw [fX5_begin0_3] at hf
      refine lv_iload hx hb dX5_begin_3 (lv_at hl 4 rfl) ?_
      refine lv_aload_n hx hb dX5_begin_5 rfl (lv_at hl 0 rfl) ?_
      refine ks_getR hE hw 18 1 ltX_18 lyX_18 rfl fd_X5_15 dX5_begin_6 ?_
      refine ks_alen hE hw 20 ltX_20 lyX_20 rfl 16 rfl dX5_begin_9 ?_
      refine lv_icmp_ge (tgt := 40) hx hb dX5_begin_10 (by decide) (fun c1 => ?_) (fun c1 => ?_)
      · have hf := (if_pos c1).symm.trans hf
        refine lv_aload_n hx hb dX5_begin_40 rfl (lv_at hl 0 rfl) ?_
        refine lv_iload_n hx hb dX5_begin_41 rfl (lv_at hl 1 rfl) ?_
        refine lv_aload_n hx hb dX5_begin_42 rfl (lv_at hl 0 rfl) ?_
        refine ks_getR hE hw 18 1 ltX_18 lyX_18 rfl fd_X5_15 dX5_begin_43 ?_
        refine ks_alen hE hw 20 ltX_20 lyX_20 rfl 16 rfl dX5_begin_46 ?_
        refine va_mmin hx hb (hE.2.2.1.trans hl.1.symm) hown (hts _ w_539) (hts _ w_450) (hts _ w_74) (hts _ w_451) (by rw [hRm.1]; decide) (by rw [hRm.2]; exact Nat.le_of_ble_eq_true rfl) ke_cnt.1 ke_cnt.2 dX5_begin_47 ?_
        refine W.eq (g2 := F0 m 50 ls (.int (if (16 : Int32) < p1 then (16 : Int32) else p1) :: .ref (adr ad a 18) :: [])) rfl ?_
        obtain ⟨t2, et2, hf⟩ := ks_nm hf
        refine ks_putI hE hw 18 3 ltX_18 lyX_18 rfl fw_X5_33 rfl rfl dX5_begin_50 (fun H locs hw => ?_)
        rw [← et2] at hw
        refine lv_aload_n hx hb dX5_begin_53 rfl (lv_at hl 0 rfl) ?_
        refine lv_iload_n hx hb dX5_begin_54 rfl (lv_at hl 2 rfl) ?_
        refine lv_aload_n hx hb dX5_begin_55 rfl (lv_at hl 0 rfl) ?_
        refine ks_getR hE hw 18 0 ltX_18 lyX_18 rfl fd_X5_9 dX5_begin_56 ?_
        refine ks_alen hE hw 19 ltX_19 lyX_19 rfl 6 rfl dX5_begin_59 ?_
        refine va_mmin hx hb (hE.2.2.1.trans hl.1.symm) hown (hts _ w_539) (hts _ w_450) (hts _ w_74) (hts _ w_451) (by rw [hRm.1]; decide) (by rw [hRm.2]; exact Nat.le_of_ble_eq_true rfl) ke_cnt.1 ke_cnt.2 dX5_begin_60 ?_
        refine W.eq (g2 := F0 m 63 ls (.int (if (6 : Int32) < p2 then (6 : Int32) else p2) :: .ref (adr ad a 18) :: [])) rfl ?_
        obtain ⟨t3, et3, hf⟩ := ks_nm hf
        refine ks_putI hE hw 18 4 ltX_18 lyX_18 rfl fw_X5_37 rfl rfl dX5_begin_63 (fun H locs hw => ?_)
        rw [← et3] at hw
        refine lv_aload_n hx hb dX5_begin_66 rfl (lv_at hl 0 rfl) ?_
        refine lv_iconst (v := 0) hx hb dX5_begin_67 (by decide) ?_
        obtain ⟨t4, et4, hf⟩ := ks_nm hf
        refine ks_putI hE hw 18 5 ltX_18 lyX_18 rfl fw_X5_40 rfl rfl dX5_begin_68 (fun H locs hw => ?_)
        rw [← et4] at hw
        replace hf := Option.some.inj hf
        subst hf
        exact ke_vret hE hw hQ dX5_begin_71 rfl
      · have hf := (if_neg c1).symm.trans hf
        refine lv_aload_n hx hb dX5_begin_13 rfl (lv_at hl 0 rfl) ?_
        refine ks_getR hE hw 18 1 ltX_18 lyX_18 rfl fd_X5_15 dX5_begin_14 ?_
        refine lv_iload hx hb dX5_begin_17 (lv_at hl 4 rfl) ?_
        refine lv_aload_nN hx hb dX5_begin_19 rfl (lv_at hl 3 rfl) ?_
        refine lv_ifnonnullN hx hb dX5_begin_20 ?_
        refine lv_iconst (v := 0) hx hb dX5_begin_23 (by decide) ?_
        refine lv_goto (tgt := 33) hx hb dX5_begin_24 (by decide) ?_
        exact L33 _ _ _ _ _ _ _ hf hw (lv_sub hl [0, 1, 2, 3, 4] rfl)
  unfold fX5_begin0 at hf
  refine lv_iconst (v := 0) hx hb dX5_begin_0 (by decide) ?_
  refine lv_istore (lv' := [(4, .int (0 : Int32)), (0, .ref (adr ad a 18)), (1, .int p1), (2, .int p2), (3, .null)]) hx hb dX5_begin_1 hl (by decide) rfl (fun ls hl => ?_)
  exact L3 FU _ _ _ _ _ hf hw (lv_sub hl [1, 2, 3, 4, 0] rfl)
def fX5_fillFrom_27 (p1 : Int32) (p2 : Int32) : Nat → Tau → Int32 → Int32 → Option Tau
  | 0, _, _, _ => none
  | n + 1, τ, x_3, x_4 =>
     (if x_4 < 0 then
     some τ
     else
     (if tI τ 18 5 ≤ x_4 then
     some τ
     else
     (if (6 : Int32) ≤ x_4 then
     some τ
     else
     (if (7 : Int32) ≤ (x_4 + (1 : Int32)) then
     some τ
     else
     (if x_4 < 0 ∨ 6 ≤ x_4.toNatClampNeg then none else
     nm (sA τ 19 x_4.toNatClampNeg p2) (fun t9 =>
     (if x_4 < 0 ∨ 7 ≤ x_4.toNatClampNeg then none else
     (if (x_4 + (1 : Int32)) < 0 ∨ 7 ≤ (x_4 + (1 : Int32)).toNatClampNeg then none else
     nm (sA t9 21 (x_4 + (1 : Int32)).toNatClampNeg (tA t9 21 x_4.toNatClampNeg + x_3)) (fun t12 =>
     nm (x_4 + (1 : Int32)) (fun x13 =>
     fX5_fillFrom_27 p1 p2 n t12 x_3 x13))))))))))
def fX5_fillFrom_23 (p1 : Int32) (p2 : Int32) (τ : Tau) (z_0 : Int32) : Option Tau :=
 fX5_fillFrom_27 p1 p2 FU τ z_0 p1
def fX5_fillFrom_22 (p1 : Int32) (p2 : Int32) (τ : Tau) : Option Tau :=
 fX5_fillFrom_23 p1 p2 τ (0 : Int32)
def fX5_fillFrom  (τ : Tau) (p1 : Int32) (p2 : Int32) : Option Tau :=
 (if p2 < 0 then
 fX5_fillFrom_22 p1 p2 τ
 else
 (if (16 : Int32) ≤ p2 then
 fX5_fillFrom_22 p1 p2 τ
 else
 (if p2 < 0 ∨ 16 ≤ p2.toNatClampNeg then none else
 fX5_fillFrom_23 p1 p2 τ (tA τ 20 p2.toNatClampNeg))))
set_option maxHeartbeats 4000000 in
set_option maxRecDepth 100000 in
theorem c_X5_fillFrom (l : Launch) (D : va_G) (cA : Nat → ClassId) (st ad : Nat → Nat) (a : Nat)  (τ : Tau) (p1 : Int32) (p2 : Int32) (R : Tau) (hf : fX5_fillFrom τ p1 p2 = some R) : KE ΛX 29 D cA st ad l yX5_fillFrom cX5_fillFrom 5 none 0 0 [.ref (adr ad a 18), .int p1, .int p2] a τ (none) R := by
  refine KE.of "KindSayings$Walk" rfl (by decide) (Nat.le_of_ble_eq_true rfl) (fun p e s m args below meth c A ls Rm Q hE hRm hQ hw hl => ?_)
  obtain ⟨hx, hb, hml, hown, hts, -⟩ := id hE
  have hl : lv_has ls 5 [(0, .ref (adr ad a 18)), (1, .int p1), (2, .int p2)] := hl
  have L27 : ∀ (n27 : Nat) (τ : Tau) (x_3 : Int32) (x_4 : Int32) (H : Heap) (locs : List Loc) (ls : Array Slot), fX5_fillFrom_27 p1 p2 n27 τ x_3 x_4 = some R → Wd ΛX 29 D cA ad A s a τ H locs → lv_has ls 5 [(0, .ref (adr ad a 18)), (2, .int p2), (3, .int x_3), (4, .int x_4)] → W p l e Rm s m args below meth c H locs 0 0 Q (F0 m 27 ls []) := by
    intro n27
    induction n27 with
    | zero => intro τ x_3 x_4 H locs ls hf hw hl; exact absurd hf (by rw [fX5_fillFrom_27]; simp)
    | succ n27 ih27 =>
      intro τ x_3 x_4 H locs ls hf hw hl
      rw [fX5_fillFrom_27] at hf
      refine lv_iload hx hb dX5_fillFrom_27 (lv_at hl 3 rfl) ?_
      refine lv_if_lt (tgt := 95) hx hb dX5_fillFrom_29 (by decide) (fun c4 => ?_) (fun c4 => ?_)
      · have hf := (if_pos c4).symm.trans hf
        replace hf := Option.some.inj hf
        subst hf
        exact ke_vret hE hw hQ dX5_fillFrom_95 rfl
      · have hf := (if_neg c4).symm.trans hf
        refine lv_iload hx hb dX5_fillFrom_32 (lv_at hl 3 rfl) ?_
        refine lv_aload_n hx hb dX5_fillFrom_34 rfl (lv_at hl 0 rfl) ?_
        refine ks_getI hE hw 18 5 ltX_18 lyX_18 rfl fd_X5_40 dX5_fillFrom_35 ?_
        refine lv_icmp_ge (tgt := 95) hx hb dX5_fillFrom_38 (by decide) (fun c5 => ?_) (fun c5 => ?_)
        · have hf := (if_pos c5).symm.trans hf
          replace hf := Option.some.inj hf
          subst hf
          exact ke_vret hE hw hQ dX5_fillFrom_95 rfl
        · have hf := (if_neg c5).symm.trans hf
          refine lv_iload hx hb dX5_fillFrom_41 (lv_at hl 3 rfl) ?_
          refine lv_aload_n hx hb dX5_fillFrom_43 rfl (lv_at hl 0 rfl) ?_
          refine ks_getR hE hw 18 0 ltX_18 lyX_18 rfl fd_X5_9 dX5_fillFrom_44 ?_
          refine ks_alen hE hw 19 ltX_19 lyX_19 rfl 6 rfl dX5_fillFrom_47 ?_
          refine lv_icmp_ge (tgt := 95) hx hb dX5_fillFrom_48 (by decide) (fun c6 => ?_) (fun c6 => ?_)
          · have hf := (if_pos c6).symm.trans hf
            replace hf := Option.some.inj hf
            subst hf
            exact ke_vret hE hw hQ dX5_fillFrom_95 rfl
          · have hf := (if_neg c6).symm.trans hf
            refine lv_iload hx hb dX5_fillFrom_51 (lv_at hl 3 rfl) ?_
            refine lv_iconst (v := 1) hx hb dX5_fillFrom_53 (by decide) ?_
            refine lv_iadd hx hb dX5_fillFrom_54 ?_
            refine lv_aload_n hx hb dX5_fillFrom_55 rfl (lv_at hl 0 rfl) ?_
            refine ks_getR hE hw 18 2 ltX_18 lyX_18 rfl fd_X5_18 dX5_fillFrom_56 ?_
            refine ks_alen hE hw 21 ltX_21 lyX_21 rfl 7 rfl dX5_fillFrom_59 ?_
            refine lv_icmp_ge (tgt := 95) hx hb dX5_fillFrom_60 (by decide) (fun c7 => ?_) (fun c7 => ?_)
            · have hf := (if_pos c7).symm.trans hf
              replace hf := Option.some.inj hf
              subst hf
              exact ke_vret hE hw hQ dX5_fillFrom_95 rfl
            · have hf := (if_neg c7).symm.trans hf
              refine lv_aload_n hx hb dX5_fillFrom_63 rfl (lv_at hl 0 rfl) ?_
              refine ks_getR hE hw 18 0 ltX_18 lyX_18 rfl fd_X5_9 dX5_fillFrom_64 ?_
              refine lv_iload hx hb dX5_fillFrom_67 (lv_at hl 3 rfl) ?_
              refine lv_iload_n hx hb dX5_fillFrom_69 rfl (lv_at hl 1 rfl) ?_
              obtain ⟨b8, hf⟩ := ks_ok hf
              obtain ⟨t9, et9, hf⟩ := ks_nm hf
              refine ks_iast hE hw 19 ltX_19 lyX_19 b8 dX5_fillFrom_70 (fun H locs hw => ?_)
              rw [← et9] at hw
              refine lv_aload_n hx hb dX5_fillFrom_71 rfl (lv_at hl 0 rfl) ?_
              refine ks_getR hE hw 18 2 ltX_18 lyX_18 rfl fd_X5_18 dX5_fillFrom_72 ?_
              refine lv_iload hx hb dX5_fillFrom_75 (lv_at hl 3 rfl) ?_
              refine lv_iconst (v := 1) hx hb dX5_fillFrom_77 (by decide) ?_
              refine lv_iadd hx hb dX5_fillFrom_78 ?_
              refine lv_aload_n hx hb dX5_fillFrom_79 rfl (lv_at hl 0 rfl) ?_
              refine ks_getR hE hw 18 2 ltX_18 lyX_18 rfl fd_X5_18 dX5_fillFrom_80 ?_
              refine lv_iload hx hb dX5_fillFrom_83 (lv_at hl 3 rfl) ?_
              obtain ⟨b10, hf⟩ := ks_ok hf
              refine ks_iald hE hw 21 ltX_21 lyX_21 b10 dX5_fillFrom_85 ?_
              refine lv_iload_n hx hb dX5_fillFrom_86 rfl (lv_at hl 2 rfl) ?_
              refine lv_iadd hx hb dX5_fillFrom_87 ?_
              obtain ⟨b11, hf⟩ := ks_ok hf
              obtain ⟨t12, et12, hf⟩ := ks_nm hf
              refine ks_iast hE hw 21 ltX_21 lyX_21 b11 dX5_fillFrom_88 (fun H locs hw => ?_)
              rw [← et12] at hw
              obtain ⟨x13, ex13, hf⟩ := ks_nm hf
              refine lv_iinc (v := x13) (lv' := [(4, .int x13), (0, .ref (adr ad a 18)), (2, .int p2), (3, .int x_3)]) hx hb dX5_fillFrom_89 hl (k := 3) rfl (by rw [ex13]; rfl) (by decide) rfl (fun ls hl => ?_)
              refine lv_goto (tgt := 27) hx hb dX5_fillFrom_92 (by decide) ?_
              exact ih27 _ _ _ _ _ _ hf hw (lv_sub hl [1, 2, 3, 0] rfl)
  have L23 : ∀ (τ : Tau) (z_0 : Int32) (H : Heap) (locs : List Loc) (ls : Array Slot), fX5_fillFrom_23 p1 p2 τ z_0 = some R → Wd ΛX 29 D cA ad A s a τ H locs → lv_has ls 5 [(0, .ref (adr ad a 18)), (1, .int p1), (2, .int p2)] → W p l e Rm s m args below meth c H locs 0 0 Q (F0 m 23 ls [.int z_0]) := by
    intro τ z_0 H locs ls hf hw hl
    unfold fX5_fillFrom_23 at hf
    refine lv_istore_n (lv' := [(3, .int z_0), (0, .ref (adr ad a 18)), (1, .int p1), (2, .int p2)]) hx hb dX5_fillFrom_23 rfl hl (by decide) rfl (fun ls hl => ?_)
    refine lv_iload_n hx hb dX5_fillFrom_24 rfl (lv_at hl 2 rfl) ?_
    refine lv_istore (lv' := [(4, .int p1), (3, .int z_0), (0, .ref (adr ad a 18)), (1, .int p1), (2, .int p2)]) hx hb dX5_fillFrom_25 hl (by decide) rfl (fun ls hl => ?_)
    exact L27 FU _ _ _ _ _ _ hf hw (lv_sub hl [2, 4, 1, 0] rfl)
  have L22 : ∀ (τ : Tau) (H : Heap) (locs : List Loc) (ls : Array Slot), fX5_fillFrom_22 p1 p2 τ = some R → Wd ΛX 29 D cA ad A s a τ H locs → lv_has ls 5 [(0, .ref (adr ad a 18)), (1, .int p1), (2, .int p2)] → W p l e Rm s m args below meth c H locs 0 0 Q (F0 m 22 ls []) := by
    intro τ H locs ls hf hw hl
    unfold fX5_fillFrom_22 at hf
    refine lv_iconst (v := 0) hx hb dX5_fillFrom_22 (by decide) ?_
    exact L23 _ _ _ _ _ hf hw (lv_sub hl [0, 1, 2] rfl)
  unfold fX5_fillFrom at hf
  refine lv_iload_n hx hb dX5_fillFrom_0 rfl (lv_at hl 2 rfl) ?_
  refine lv_if_lt (tgt := 22) hx hb dX5_fillFrom_1 (by decide) (fun c1 => ?_) (fun c1 => ?_)
  · have hf := (if_pos c1).symm.trans hf
    exact L22 _ _ _ _ hf hw (lv_sub hl [0, 1, 2] rfl)
  · have hf := (if_neg c1).symm.trans hf
    refine lv_iload_n hx hb dX5_fillFrom_4 rfl (lv_at hl 2 rfl) ?_
    refine lv_aload_n hx hb dX5_fillFrom_5 rfl (lv_at hl 0 rfl) ?_
    refine ks_getR hE hw 18 1 ltX_18 lyX_18 rfl fd_X5_15 dX5_fillFrom_6 ?_
    refine ks_alen hE hw 20 ltX_20 lyX_20 rfl 16 rfl dX5_fillFrom_9 ?_
    refine lv_icmp_ge (tgt := 22) hx hb dX5_fillFrom_10 (by decide) (fun c2 => ?_) (fun c2 => ?_)
    · have hf := (if_pos c2).symm.trans hf
      exact L22 _ _ _ _ hf hw (lv_sub hl [0, 1, 2] rfl)
    · have hf := (if_neg c2).symm.trans hf
      refine lv_aload_n hx hb dX5_fillFrom_13 rfl (lv_at hl 0 rfl) ?_
      refine ks_getR hE hw 18 1 ltX_18 lyX_18 rfl fd_X5_15 dX5_fillFrom_14 ?_
      refine lv_iload_n hx hb dX5_fillFrom_17 rfl (lv_at hl 2 rfl) ?_
      obtain ⟨b3, hf⟩ := ks_ok hf
      refine ks_iald hE hw 20 ltX_20 lyX_20 b3 dX5_fillFrom_18 ?_
      refine lv_goto (tgt := 23) hx hb dX5_fillFrom_19 (by decide) ?_
      exact L23 _ _ _ _ _ hf hw (lv_sub hl [0, 1, 2] rfl)
def fX5_advance_69  (τ : Tau) : Option (Bool × Tau) :=
 (if tI τ 18 5 < tI τ 18 4 then
     nm (sI τ 18 5 (tI τ 18 5 + (1 : Int32))) (fun t12 =>
     Option.bind (fX5_fillFrom t12 (0 : Int32) (0 : Int32)) (fun r13 =>
     some (true, r13)))
     else
     some (false, τ))
def fX5_advance_41  (τ : Tau) (x_1 : Int32) : Option (Bool × Tau) :=
 (if x_1 < 0 then
     fX5_advance_69 τ
     else
    (if (6 : Int32) ≤ x_1 then
     fX5_advance_69 τ
     else
    (if x_1 < 0 ∨ 6 ≤ x_1.toNatClampNeg then none else
     Option.bind (fX5_fillFrom τ x_1 (tA τ 19 x_1.toNatClampNeg + (1 : Int32))) (fun r10 =>
     some (true, r10)))))
def fX5_advance_7  : Nat → Tau → Int32 → Option (Bool × Tau)
  | 0, _, _ => none
  | n + 1, τ, x_1 =>
     (if x_1 < 0 then
     fX5_advance_41 τ x_1
     else
     (if (6 : Int32) ≤ x_1 then
     fX5_advance_41 τ x_1
     else
     (if x_1 < 0 ∨ 6 ≤ x_1.toNatClampNeg then none else
     (if tA τ 19 x_1.toNatClampNeg < (tI τ 18 3 - (1 : Int32)) then
     fX5_advance_41 τ x_1
     else
     nm (x_1 + (-1 : Int32)) (fun x6 =>
     fX5_advance_7 n τ x6)))))
def fX5_advance  (τ : Tau) : Option (Bool × Tau) :=
 nm (tI τ 18 5 - (1 : Int32)) (fun x1 =>
 fX5_advance_7 FU τ x1)
set_option maxHeartbeats 4000000 in
set_option maxRecDepth 100000 in
theorem c_X5_advance (l : Launch) (D : va_G) (cA : Nat → ClassId) (st ad : Nat → Nat) (a : Nat)  (τ : Tau) (R : (Bool × Tau)) (hf : fX5_advance τ = some R) : KE ΛX 29 D cA st ad l yX5_advance cX5_advance 2 (some .boolean) 1 24 [.ref (adr ad a 18)] a τ (some (.int (bI R.1))) R.2 := by
  refine KE.of "KindSayings$Walk" rfl (by decide) (Nat.le_of_ble_eq_true rfl) (fun p e s m args below meth c A ls Rm Q hE hRm hQ hw hl => ?_)
  obtain ⟨hx, hb, hml, hown, hts, -⟩ := id hE
  have hl : lv_has ls 2 [(0, .ref (adr ad a 18))] := hl
  have L69 : ∀ (τ : Tau) (H : Heap) (locs : List Loc) (ls : Array Slot), fX5_advance_69 τ = some R → Wd ΛX 29 D cA ad A s a τ H locs → lv_has ls 2 [(0, .ref (adr ad a 18))] → W p l e Rm s m args below meth c H locs 0 0 Q (F0 m 69 ls []) := by
    intro τ H locs ls hf hw hl
    unfold fX5_advance_69 at hf
    refine lv_aload_n hx hb dX5_advance_69 rfl (lv_at hl 0 rfl) ?_
    refine ks_getI hE hw 18 5 ltX_18 lyX_18 rfl fd_X5_40 dX5_advance_70 ?_
    refine lv_aload_n hx hb dX5_advance_73 rfl (lv_at hl 0 rfl) ?_
    refine ks_getI hE hw 18 4 ltX_18 lyX_18 rfl fd_X5_37 dX5_advance_74 ?_
    refine lv_icmp_lt (tgt := 82) hx hb dX5_advance_77 (by decide) (fun c11 => ?_) (fun c11 => ?_)
    · have hf := (if_pos c11).symm.trans hf
      refine lv_aload_n hx hb dX5_advance_82 rfl (lv_at hl 0 rfl) ?_
      refine lv_dup hx hb dX5_advance_83 rfl ?_
      refine ks_getI hE hw 18 5 ltX_18 lyX_18 rfl fd_X5_40 dX5_advance_84 ?_
      refine lv_iconst (v := 1) hx hb dX5_advance_87 (by decide) ?_
      refine lv_iadd hx hb dX5_advance_88 ?_
      obtain ⟨t12, et12, hf⟩ := ks_nm hf
      refine ks_putI hE hw 18 5 ltX_18 lyX_18 rfl fw_X5_40 rfl rfl dX5_advance_89 (fun H locs hw => ?_)
      rw [← et12] at hw
      refine lv_aload_n hx hb dX5_advance_92 rfl (lv_at hl 0 rfl) ?_
      refine lv_iconst (v := 0) hx hb dX5_advance_93 (by decide) ?_
      refine lv_iconst (v := 0) hx hb dX5_advance_94 (by decide) ?_
      obtain ⟨r13, er13, hf⟩ := ks_bind hf
      refine ke_V hE hw hl.1 cl_X5_43 18 ltX_18 lyX_18 rfl [.int (0 : Int32), .int (0 : Int32)] (c_X5_fillFrom l D cA st ad a _ _ _ _ er13) rfl (ke_room hRm rfl rfl) ke_cnt (Nat.le_of_ble_eq_true rfl) rfl dX5_advance_95 (fun H locs hw => ?_)
      refine W.eq (g2 := F0 m 98 ls ([])) rfl ?_
      refine lv_iconst (v := 1) hx hb dX5_advance_98 (by decide) ?_
      replace hf := Option.some.inj hf
      subst hf
      exact ke_zret hE hw hQ (Or.inr rfl) dX5_advance_99 rfl rfl
    · have hf := (if_neg c11).symm.trans hf
      refine lv_iconst (v := 0) hx hb dX5_advance_80 (by decide) ?_
      replace hf := Option.some.inj hf
      subst hf
      exact ke_zret hE hw hQ (Or.inl rfl) dX5_advance_81 rfl rfl
  have L41 : ∀ (τ : Tau) (x_1 : Int32) (H : Heap) (locs : List Loc) (ls : Array Slot), fX5_advance_41 τ x_1 = some R → Wd ΛX 29 D cA ad A s a τ H locs → lv_has ls 2 [(0, .ref (adr ad a 18)), (1, .int x_1)] → W p l e Rm s m args below meth c H locs 0 0 Q (F0 m 41 ls []) := by
    intro τ x_1 H locs ls hf hw hl
    unfold fX5_advance_41 at hf
    refine lv_iload_n hx hb dX5_advance_41 rfl (lv_at hl 1 rfl) ?_
    refine lv_if_lt (tgt := 69) hx hb dX5_advance_42 (by decide) (fun c7 => ?_) (fun c7 => ?_)
    · have hf := (if_pos c7).symm.trans hf
      exact L69 _ _ _ _ hf hw (lv_sub hl [0] rfl)
    · have hf := (if_neg c7).symm.trans hf
      refine lv_iload_n hx hb dX5_advance_45 rfl (lv_at hl 1 rfl) ?_
      refine lv_aload_n hx hb dX5_advance_46 rfl (lv_at hl 0 rfl) ?_
      refine ks_getR hE hw 18 0 ltX_18 lyX_18 rfl fd_X5_9 dX5_advance_47 ?_
      refine ks_alen hE hw 19 ltX_19 lyX_19 rfl 6 rfl dX5_advance_50 ?_
      refine lv_icmp_ge (tgt := 69) hx hb dX5_advance_51 (by decide) (fun c8 => ?_) (fun c8 => ?_)
      · have hf := (if_pos c8).symm.trans hf
        exact L69 _ _ _ _ hf hw (lv_sub hl [0] rfl)
      · have hf := (if_neg c8).symm.trans hf
        refine lv_aload_n hx hb dX5_advance_54 rfl (lv_at hl 0 rfl) ?_
        refine lv_iload_n hx hb dX5_advance_55 rfl (lv_at hl 1 rfl) ?_
        refine lv_aload_n hx hb dX5_advance_56 rfl (lv_at hl 0 rfl) ?_
        refine ks_getR hE hw 18 0 ltX_18 lyX_18 rfl fd_X5_9 dX5_advance_57 ?_
        refine lv_iload_n hx hb dX5_advance_60 rfl (lv_at hl 1 rfl) ?_
        obtain ⟨b9, hf⟩ := ks_ok hf
        refine ks_iald hE hw 19 ltX_19 lyX_19 b9 dX5_advance_61 ?_
        refine lv_iconst (v := 1) hx hb dX5_advance_62 (by decide) ?_
        refine lv_iadd hx hb dX5_advance_63 ?_
        obtain ⟨r10, er10, hf⟩ := ks_bind hf
        refine ke_V hE hw hl.1 cl_X5_43 18 ltX_18 lyX_18 rfl [.int x_1, .int (tA τ 19 x_1.toNatClampNeg + (1 : Int32))] (c_X5_fillFrom l D cA st ad a _ _ _ _ er10) rfl (ke_room hRm rfl rfl) ke_cnt (Nat.le_of_ble_eq_true rfl) rfl dX5_advance_64 (fun H locs hw => ?_)
        refine W.eq (g2 := F0 m 67 ls ([])) rfl ?_
        refine lv_iconst (v := 1) hx hb dX5_advance_67 (by decide) ?_
        replace hf := Option.some.inj hf
        subst hf
        exact ke_zret hE hw hQ (Or.inr rfl) dX5_advance_68 rfl rfl
  have L7 : ∀ (n7 : Nat) (τ : Tau) (x_1 : Int32) (H : Heap) (locs : List Loc) (ls : Array Slot), fX5_advance_7 n7 τ x_1 = some R → Wd ΛX 29 D cA ad A s a τ H locs → lv_has ls 2 [(0, .ref (adr ad a 18)), (1, .int x_1)] → W p l e Rm s m args below meth c H locs 0 0 Q (F0 m 7 ls []) := by
    intro n7
    induction n7 with
    | zero => intro τ x_1 H locs ls hf hw hl; exact absurd hf (by rw [fX5_advance_7]; simp)
    | succ n7 ih7 =>
      intro τ x_1 H locs ls hf hw hl
      rw [fX5_advance_7] at hf
      refine lv_iload_n hx hb dX5_advance_7 rfl (lv_at hl 1 rfl) ?_
      refine lv_if_lt (tgt := 41) hx hb dX5_advance_8 (by decide) (fun c2 => ?_) (fun c2 => ?_)
      · have hf := (if_pos c2).symm.trans hf
        exact L41 _ _ _ _ _ hf hw (lv_sub hl [0, 1] rfl)
      · have hf := (if_neg c2).symm.trans hf
        refine lv_iload_n hx hb dX5_advance_11 rfl (lv_at hl 1 rfl) ?_
        refine lv_aload_n hx hb dX5_advance_12 rfl (lv_at hl 0 rfl) ?_
        refine ks_getR hE hw 18 0 ltX_18 lyX_18 rfl fd_X5_9 dX5_advance_13 ?_
        refine ks_alen hE hw 19 ltX_19 lyX_19 rfl 6 rfl dX5_advance_16 ?_
        refine lv_icmp_ge (tgt := 41) hx hb dX5_advance_17 (by decide) (fun c3 => ?_) (fun c3 => ?_)
        · have hf := (if_pos c3).symm.trans hf
          exact L41 _ _ _ _ _ hf hw (lv_sub hl [0, 1] rfl)
        · have hf := (if_neg c3).symm.trans hf
          refine lv_aload_n hx hb dX5_advance_20 rfl (lv_at hl 0 rfl) ?_
          refine ks_getR hE hw 18 0 ltX_18 lyX_18 rfl fd_X5_9 dX5_advance_21 ?_
          refine lv_iload_n hx hb dX5_advance_24 rfl (lv_at hl 1 rfl) ?_
          obtain ⟨b4, hf⟩ := ks_ok hf
          refine ks_iald hE hw 19 ltX_19 lyX_19 b4 dX5_advance_25 ?_
          refine lv_aload_n hx hb dX5_advance_26 rfl (lv_at hl 0 rfl) ?_
          refine ks_getI hE hw 18 3 ltX_18 lyX_18 rfl fd_X5_33 dX5_advance_27 ?_
          refine lv_iconst (v := 1) hx hb dX5_advance_30 (by decide) ?_
          refine lv_isub hx hb dX5_advance_31 ?_
          refine lv_icmp_lt (tgt := 41) hx hb dX5_advance_32 (by decide) (fun c5 => ?_) (fun c5 => ?_)
          · have hf := (if_pos c5).symm.trans hf
            exact L41 _ _ _ _ _ hf hw (lv_sub hl [0, 1] rfl)
          · have hf := (if_neg c5).symm.trans hf
            obtain ⟨x6, ex6, hf⟩ := ks_nm hf
            refine lv_iinc (v := x6) (lv' := [(1, .int x6), (0, .ref (adr ad a 18))]) hx hb dX5_advance_35 hl (k := 1) rfl (by rw [ex6]; rfl) (by decide) rfl (fun ls hl => ?_)
            refine lv_goto (tgt := 7) hx hb dX5_advance_38 (by decide) ?_
            exact ih7 _ _ _ _ _ hf hw (lv_sub hl [1, 0] rfl)
  unfold fX5_advance at hf
  refine lv_aload_n hx hb dX5_advance_0 rfl (lv_at hl 0 rfl) ?_
  refine ks_getI hE hw 18 5 ltX_18 lyX_18 rfl fd_X5_40 dX5_advance_1 ?_
  refine lv_iconst (v := 1) hx hb dX5_advance_4 (by decide) ?_
  refine lv_isub hx hb dX5_advance_5 ?_
  obtain ⟨x1, ex1, hf⟩ := ks_nm hf
  refine W.eq (g2 := F0 m 6 ls (.int x1 :: [])) (by rw [ex1]) ?_
  refine lv_istore_n (lv' := [(1, .int x1), (0, .ref (adr ad a 18))]) hx hb dX5_advance_6 rfl hl (by decide) rfl (fun ls hl => ?_)
  exact L7 FU _ _ _ _ _ hf hw (lv_sub hl [1, 0] rfl)
def fX5_sum (τ : Tau) : Option Int32 :=
 (if tI τ 18 5 < 0 then
 some (0 : Int32)
 else
 (if (7 : Int32) ≤ tI τ 18 5 then
 some (0 : Int32)
 else
 (if tI τ 18 5 < 0 ∨ 7 ≤ (tI τ 18 5).toNatClampNeg then none else
 some (tA τ 21 (tI τ 18 5).toNatClampNeg))))
set_option maxHeartbeats 4000000 in
set_option maxRecDepth 100000 in
theorem c_X5_sum (l : Launch) (D : va_G) (cA : Nat → ClassId) (st ad : Nat → Nat) (a : Nat)  (τ : Tau) (R : Int32) (hf : fX5_sum τ = some R) : KE ΛX 29 D cA st ad l yX5_sum cX5_sum 1 (some .int) 0 0 [.ref (adr ad a 18)] a τ (some (.int R)) τ := by
  refine KE.of "KindSayings$Walk" rfl (by decide) (Nat.le_of_ble_eq_true rfl) (fun p e s m args below meth c A ls Rm Q hE hRm hQ hw hl => ?_)
  obtain ⟨hx, hb, hml, hown, hts, -⟩ := id hE
  have hl : lv_has ls 1 [(0, .ref (adr ad a 18))] := hl
  unfold fX5_sum at hf
  refine lv_aload_n hx hb dX5_sum_0 rfl (lv_at hl 0 rfl) ?_
  refine ks_getI hE hw 18 5 ltX_18 lyX_18 rfl fd_X5_40 dX5_sum_1 ?_
  refine lv_if_lt (tgt := 31) hx hb dX5_sum_4 (by decide) (fun c1 => ?_) (fun c1 => ?_)
  · have hf := (if_pos c1).symm.trans hf
    refine lv_iconst (v := 0) hx hb dX5_sum_31 (by decide) ?_
    replace hf := Option.some.inj hf
    subst hf
    exact ke_iret hE hw hQ dX5_sum_32 rfl rfl
  · have hf := (if_neg c1).symm.trans hf
    refine lv_aload_n hx hb dX5_sum_7 rfl (lv_at hl 0 rfl) ?_
    refine ks_getI hE hw 18 5 ltX_18 lyX_18 rfl fd_X5_40 dX5_sum_8 ?_
    refine lv_aload_n hx hb dX5_sum_11 rfl (lv_at hl 0 rfl) ?_
    refine ks_getR hE hw 18 2 ltX_18 lyX_18 rfl fd_X5_18 dX5_sum_12 ?_
    refine ks_alen hE hw 21 ltX_21 lyX_21 rfl 7 rfl dX5_sum_15 ?_
    refine lv_icmp_ge (tgt := 31) hx hb dX5_sum_16 (by decide) (fun c2 => ?_) (fun c2 => ?_)
    · have hf := (if_pos c2).symm.trans hf
      refine lv_iconst (v := 0) hx hb dX5_sum_31 (by decide) ?_
      replace hf := Option.some.inj hf
      subst hf
      exact ke_iret hE hw hQ dX5_sum_32 rfl rfl
    · have hf := (if_neg c2).symm.trans hf
      refine lv_aload_n hx hb dX5_sum_19 rfl (lv_at hl 0 rfl) ?_
      refine ks_getR hE hw 18 2 ltX_18 lyX_18 rfl fd_X5_18 dX5_sum_20 ?_
      refine lv_aload_n hx hb dX5_sum_23 rfl (lv_at hl 0 rfl) ?_
      refine ks_getI hE hw 18 5 ltX_18 lyX_18 rfl fd_X5_40 dX5_sum_24 ?_
      obtain ⟨b3, hf⟩ := ks_ok hf
      refine ks_iald hE hw 21 ltX_21 lyX_21 b3 dX5_sum_27 ?_
      refine lv_goto (tgt := 32) hx hb dX5_sum_28 (by decide) ?_
      replace hf := Option.some.inj hf
      subst hf
      exact ke_iret hE hw hQ dX5_sum_32 rfl rfl
def fX5_witnessed_52 (τ : Tau) (k5 : Int64 → Int32 → Option Int64) (x_2 : Int64) (x_4 : Int32) : Option Int64 :=
 nm (x_4 + (1 : Int32)) (fun x9 =>
     k5 x_2 x9)
def fX5_witnessed_5 (τ : Tau) : Nat → Int64 → Int32 → Option Int64
  | 0, _, _ => none
  | n + 1, x_2, x_4 =>
     (if tI τ 18 5 ≤ x_4 then
     some x_2
     else
     (if (6 : Int32) ≤ x_4 then
     some x_2
     else
     (if x_4 < 0 ∨ 6 ≤ x_4.toNatClampNeg then none else
     nm (tA τ 19 x_4.toNatClampNeg) (fun x4 =>
     (if x4 < 0 then
     fX5_witnessed_52 τ (fX5_witnessed_5 τ n) x_2 x_4
     else
     (if (16 : Int32) ≤ x4 then
     fX5_witnessed_52 τ (fX5_witnessed_5 τ n) x_2 x_4
     else
     (if x4 < 0 ∨ 16 ≤ x4.toNatClampNeg then none else
     nm (x_2 ||| tB τ 25 x4.toNatClampNeg) (fun x8 =>
     fX5_witnessed_52 τ (fX5_witnessed_5 τ n) x8 x_4))))))))
def fX5_witnessed (τ : Tau) : Option Int64 :=
 fX5_witnessed_5 τ FU (0 : Int64) (0 : Int32)
set_option maxHeartbeats 4000000 in
set_option maxRecDepth 100000 in
theorem c_X5_witnessed (l : Launch) (D : va_G) (cA : Nat → ClassId) (st ad : Nat → Nat) (a : Nat)  (τ : Tau) (R : Int64) (hf : fX5_witnessed τ = some R) : KE ΛX 29 D cA st ad l yX5_witnessed cX5_witnessed 6 (some .long) 0 0 [.ref (adr ad a 18), .ref (adr ad a 25)] a τ (some (.long R)) τ := by
  refine KE.of "KindSayings$Walk" rfl (by decide) (Nat.le_of_ble_eq_true rfl) (fun p e s m args below meth c A ls Rm Q hE hRm hQ hw hl => ?_)
  obtain ⟨hx, hb, hml, hown, hts, -⟩ := id hE
  have hl : lv_has ls 6 [(0, .ref (adr ad a 18)), (1, .ref (adr ad a 25))] := hl
  have L5 : ∀ (n5 : Nat) (x_2 : Int64) (x_4 : Int32) (H : Heap) (locs : List Loc) (ls : Array Slot), fX5_witnessed_5 τ n5 x_2 x_4 = some R → Wd ΛX 29 D cA ad A s a τ H locs → lv_has ls 6 [(0, .ref (adr ad a 18)), (1, .ref (adr ad a 25)), (2, .long x_2), (4, .int x_4)] → W p l e Rm s m args below meth c H locs 0 0 Q (F0 m 5 ls []) := by
    intro n5
    induction n5 with
    | zero => intro x_2 x_4 H locs ls hf hw hl; exact absurd hf (by rw [fX5_witnessed_5]; simp)
    | succ n5 ih5 =>
      have L52 : ∀ (x_2 : Int64) (x_4 : Int32) (H : Heap) (locs : List Loc) (ls : Array Slot), fX5_witnessed_52 τ (fX5_witnessed_5 τ n5) x_2 x_4 = some R → Wd ΛX 29 D cA ad A s a τ H locs → lv_has ls 6 [(0, .ref (adr ad a 18)), (1, .ref (adr ad a 25)), (2, .long x_2), (4, .int x_4)] → W p l e Rm s m args below meth c H locs 0 0 Q (F0 m 52 ls []) := by
        intro x_2 x_4 H locs ls hf hw hl
        unfold fX5_witnessed_52 at hf
        obtain ⟨x9, ex9, hf⟩ := ks_nm hf
        refine lv_iinc (v := x9) (lv' := [(4, .int x9), (0, .ref (adr ad a 18)), (1, .ref (adr ad a 25)), (2, .long x_2)]) hx hb dX5_witnessed_52 hl (k := 3) rfl (by rw [ex9]; rfl) (by decide) rfl (fun ls hl => ?_)
        refine lv_goto (tgt := 5) hx hb dX5_witnessed_55 (by decide) ?_
        exact ih5 _ _ _ _ _ hf hw (lv_sub hl [1, 2, 3, 0] rfl)
      intro x_2 x_4 H locs ls hf hw hl
      rw [fX5_witnessed_5] at hf
      refine lv_iload hx hb dX5_witnessed_5 (lv_at hl 3 rfl) ?_
      refine lv_aload_n hx hb dX5_witnessed_7 rfl (lv_at hl 0 rfl) ?_
      refine ks_getI hE hw 18 5 ltX_18 lyX_18 rfl fd_X5_40 dX5_witnessed_8 ?_
      refine lv_icmp_ge (tgt := 58) hx hb dX5_witnessed_11 (by decide) (fun c1 => ?_) (fun c1 => ?_)
      · have hf := (if_pos c1).symm.trans hf
        refine lv_lload_n hx hb dX5_witnessed_58 rfl (lv_at hl 2 rfl) ?_
        replace hf := Option.some.inj hf
        subst hf
        exact ke_lret hE hw hQ dX5_witnessed_59 rfl rfl
      · have hf := (if_neg c1).symm.trans hf
        refine lv_iload hx hb dX5_witnessed_14 (lv_at hl 3 rfl) ?_
        refine lv_aload_n hx hb dX5_witnessed_16 rfl (lv_at hl 0 rfl) ?_
        refine ks_getR hE hw 18 0 ltX_18 lyX_18 rfl fd_X5_9 dX5_witnessed_17 ?_
        refine ks_alen hE hw 19 ltX_19 lyX_19 rfl 6 rfl dX5_witnessed_20 ?_
        refine lv_icmp_ge (tgt := 58) hx hb dX5_witnessed_21 (by decide) (fun c2 => ?_) (fun c2 => ?_)
        · have hf := (if_pos c2).symm.trans hf
          refine lv_lload_n hx hb dX5_witnessed_58 rfl (lv_at hl 2 rfl) ?_
          replace hf := Option.some.inj hf
          subst hf
          exact ke_lret hE hw hQ dX5_witnessed_59 rfl rfl
        · have hf := (if_neg c2).symm.trans hf
          refine lv_aload_n hx hb dX5_witnessed_24 rfl (lv_at hl 0 rfl) ?_
          refine ks_getR hE hw 18 0 ltX_18 lyX_18 rfl fd_X5_9 dX5_witnessed_25 ?_
          refine lv_iload hx hb dX5_witnessed_28 (lv_at hl 3 rfl) ?_
          obtain ⟨b3, hf⟩ := ks_ok hf
          refine ks_iald hE hw 19 ltX_19 lyX_19 b3 dX5_witnessed_30 ?_
          obtain ⟨x4, ex4, hf⟩ := ks_nm hf
          refine W.eq (g2 := F0 m 31 ls (.int x4 :: [])) (by rw [ex4]) ?_
          refine lv_istore (lv' := [(5, .int x4), (0, .ref (adr ad a 18)), (1, .ref (adr ad a 25)), (2, .long x_2), (4, .int x_4)]) hx hb dX5_witnessed_31 hl (by decide) rfl (fun ls hl => ?_)
          refine lv_iload hx hb dX5_witnessed_33 (lv_at hl 0 rfl) ?_
          refine lv_if_lt (tgt := 52) hx hb dX5_witnessed_35 (by decide) (fun c5 => ?_) (fun c5 => ?_)
          · have hf := (if_pos c5).symm.trans hf
            exact L52 _ _ _ _ _ hf hw (lv_sub hl [1, 2, 3, 4] rfl)
          · have hf := (if_neg c5).symm.trans hf
            refine lv_iload hx hb dX5_witnessed_38 (lv_at hl 0 rfl) ?_
            refine lv_aload_n hx hb dX5_witnessed_40 rfl (lv_at hl 2 rfl) ?_
            refine ks_alen hE hw 25 ltX_25 lyX_25 rfl 16 rfl dX5_witnessed_41 ?_
            refine lv_icmp_ge (tgt := 52) hx hb dX5_witnessed_42 (by decide) (fun c6 => ?_) (fun c6 => ?_)
            · have hf := (if_pos c6).symm.trans hf
              exact L52 _ _ _ _ _ hf hw (lv_sub hl [1, 2, 3, 4] rfl)
            · have hf := (if_neg c6).symm.trans hf
              refine lv_lload_n hx hb dX5_witnessed_45 rfl (lv_at hl 3 rfl) ?_
              refine lv_aload_n hx hb dX5_witnessed_46 rfl (lv_at hl 2 rfl) ?_
              refine lv_iload hx hb dX5_witnessed_47 (lv_at hl 0 rfl) ?_
              obtain ⟨b7, hf⟩ := ks_ok hf
              refine ks_lald hE hw 25 ltX_25 lyX_25 b7 dX5_witnessed_49 ?_
              refine lv_lor hx hb dX5_witnessed_50 ?_
              obtain ⟨x8, ex8, hf⟩ := ks_nm hf
              refine W.eq (g2 := F0 m 51 ls (.long x8 :: [])) (by rw [ex8]) ?_
              refine lv_lstore_n (lv' := [(2, .long x8), (5, .int x4), (0, .ref (adr ad a 18)), (1, .ref (adr ad a 25)), (4, .int x_4)]) hx hb dX5_witnessed_51 rfl hl (by decide) rfl (fun ls hl => ?_)
              exact L52 _ _ _ _ _ hf hw (lv_sub hl [2, 3, 0, 4] rfl)
  unfold fX5_witnessed at hf
  refine lv_lconst (v := 0) hx hb dX5_witnessed_0 (by decide) ?_
  refine lv_lstore_n (lv' := [(2, .long (0 : Int64)), (0, .ref (adr ad a 18)), (1, .ref (adr ad a 25))]) hx hb dX5_witnessed_1 rfl hl (by decide) rfl (fun ls hl => ?_)
  refine lv_iconst (v := 0) hx hb dX5_witnessed_2 (by decide) ?_
  refine lv_istore (lv' := [(4, .int (0 : Int32)), (2, .long (0 : Int64)), (0, .ref (adr ad a 18)), (1, .ref (adr ad a 25))]) hx hb dX5_witnessed_3 hl (by decide) rfl (fun ls hl => ?_)
  exact L5 FU _ _ _ _ _ hf hw (lv_sub hl [2, 3, 1, 0] rfl)
