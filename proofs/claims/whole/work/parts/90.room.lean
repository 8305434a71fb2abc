/-! the calls that may make the marks anew: room is asked for only where the marks get longer (written by wip/tools/room.py) -/
set_option maxRecDepth 100000 in
theorem fr_X0_refresh30 (τ : Tau) (R : Tau) (hf : fX0_refresh_30 τ = some R) : Fr [(17, 9), (18, 3), (18, 4), (18, 5)] [19, 20, 21, 22, 23, 24, 26] τ R := by
  have L101 : ∀ (τ : Tau), fX0_refresh_101 τ = some R → Fr [(17, 9), (18, 3), (18, 4), (18, 5)] [19, 20, 21, 22, 23, 24, 26] τ R := by
    intro τ hf
    unfold fX0_refresh_101 at hf
    have g : Fr [(17, 9), (18, 3), (18, 4), (18, 5)] [19, 20, 21, 22, 23, 24, 26] τ τ := Fr.rf
    obtain ⟨t15, et15, hf⟩ := ks_nm hf
    have g := g.tr (show Fr _ _ _ t15 by rw [et15]; exact Fr.sI (by decide))
    obtain ⟨r16, er16, hf⟩ := ks_bind hf
    have g := g.tr ((fr_X0_fillHeaps _ _ er16).wk (by decide) (by decide))
    obtain ⟨r17, er17, hf⟩ := ks_bind hf
    have g := g.tr ((fr_X0_addTogether _ _ er17).wk (by decide) (by decide))
    replace hf := Option.some.inj hf
    subst hf
    exact g
  have L32 : ∀ (n32 : Nat) (τ : Tau) (x_2 : Int32), fX0_refresh_32 n32 τ x_2 = some R → Fr [(17, 9), (18, 3), (18, 4), (18, 5)] [19, 20, 21, 22, 23, 24, 26] τ R := by
    intro n32
    induction n32 with
    | zero => intro τ x_2 hf; exact absurd hf (by rw [fX0_refresh_32]; simp)
    | succ n32 ih32 =>
      have L95 : ∀ (τ : Tau) (x_2 : Int32), fX0_refresh_95 (fX0_refresh_32 n32) τ x_2 = some R → Fr [(17, 9), (18, 3), (18, 4), (18, 5)] [19, 20, 21, 22, 23, 24, 26] τ R := by
        intro τ x_2 hf
        unfold fX0_refresh_95 at hf
        have g : Fr [(17, 9), (18, 3), (18, 4), (18, 5)] [19, 20, 21, 22, 23, 24, 26] τ τ := Fr.rf
        obtain ⟨x14, ex14, hf⟩ := ks_nm hf
        exact g.tr (ih32 _ _ hf)
      intro τ x_2 hf
      rw [fX0_refresh_32] at hf
      have g : Fr [(17, 9), (18, 3), (18, 4), (18, 5)] [19, 20, 21, 22, 23, 24, 26] τ τ := Fr.rf
      by_cases c5 : (10 : Int32) ≤ x_2
      · have hf := (if_pos c5).symm.trans hf
        exact g.tr (L101 _ hf)
      · have hf := (if_neg c5).symm.trans hf
        by_cases c6 : (10 : Int32) ≤ x_2
        · have hf := (if_pos c6).symm.trans hf
          exact g.tr (L101 _ hf)
        · have hf := (if_neg c6).symm.trans hf
          obtain ⟨b7, hf⟩ := ks_ok hf
          obtain ⟨r8, er8, hf⟩ := ks_nm hf
          by_cases c9 : bI r8 = 0
          · have hf := (if_pos c9).symm.trans hf
            exact g.tr (L95 _ _ hf)
          · have hf := (if_neg c9).symm.trans hf
            obtain ⟨r10, er10, hf⟩ := ks_bind hf
            obtain ⟨x11, ex11, hf⟩ := ks_nm hf
            obtain ⟨r12, er12, hf⟩ := ks_bind hf
            have g := g.tr ((fr_X0_mark _ _ _ _ er12).wk (by decide) (by decide))
            obtain ⟨t13, et13, hf⟩ := ks_nm hf
            have g := g.tr (show Fr _ _ _ t13 by rw [et13]; exact Fr.sI (by decide))
            exact g.tr (L95 _ _ hf)
  have L30 : ∀ (τ : Tau), fX0_refresh_30 τ = some R → Fr [(17, 9), (18, 3), (18, 4), (18, 5)] [19, 20, 21, 22, 23, 24, 26] τ R := by
    intro τ hf
    unfold fX0_refresh_30 at hf
    have g : Fr [(17, 9), (18, 3), (18, 4), (18, 5)] [19, 20, 21, 22, 23, 24, 26] τ τ := Fr.rf
    exact g.tr (L32 FU _ _ hf)
  exact L30 τ hf
theorem mk_ne {x y : Int32} (c : ¬ x ≤ nI y.toNatClampNeg) : x ≠ y := by
  intro e
  subst e
  by_cases h : x < 0
  · refine c (i32_le.mpr ?_)
    have h1 := i32_lt.mp h
    have h2 : (0 : Int32).toInt = 0 := rfl
    have h3 : x.toNatClampNeg < 2 ^ 31 := cl_lt x
    rw [nI_toInt h3]
    omega
  · refine c (i32_le.mpr ?_)
    have := cl_of h
    exact Int.le_of_eq (congrArg Int32.toInt this)
theorem t_unsaid (p1 : Int32) : ∀ n τ x3 x4 R, fX6_unsaid_19 p1 n τ x3 x4 = some R → R.2 = τ := by
  intro n
  induction n with
  | zero => intro τ x3 x4 R h; rw [fX6_unsaid_19] at h; cases h
  | succ n ih =>
    intro τ x3 x4 R h
    have go : ∀ x y, fX6_unsaid_59 p1 (fX6_unsaid_19 p1 n) τ x y = some R → R.2 = τ := fun x y g => ih _ _ _ _ g
    rw [fX6_unsaid_19] at h
    split at h
    · cases h; rfl
    · obtain ⟨r5, _, h⟩ := ks_nm h
      split at h
      · exact go _ _ h
      · obtain ⟨r7, _, h⟩ := ks_bind h
        split at h
        · exact go _ _ h
        · obtain ⟨x9, _, h⟩ := ks_nm h
          exact go _ _ h
theorem t_ask (p1 : Int32) : ∀ n τ x3 x4 x5 x6 R, fX6_ask_38 p1 n τ x3 x4 x5 x6 = some R → R.2 = τ := by
  intro n
  induction n with
  | zero => intro τ x3 x4 x5 x6 R h; rw [fX6_ask_38] at h; cases h
  | succ n ih =>
    intro τ x3 x4 x5 x6 R h
    have go : ∀ x y z w, fX6_ask_83 p1 (fX6_ask_38 p1 n) τ x y z w = some R → R.2 = τ := fun x y z w g => ih _ _ _ _ _ _ g
    rw [fX6_ask_38] at h
    split at h
    · cases h; rfl
    · obtain ⟨r8, _, h⟩ := ks_bind h
      obtain ⟨x9, _, h⟩ := ks_nm h
      split at h
      · exact go _ _ _ _ h
      · exact go _ _ _ _ h
theorem t_twin (p1 : Int32) : ∀ n τ x3 R, fX6_twin_17 p1 n τ x3 = some R → R.2 = τ := by
  intro n
  induction n with
  | zero => intro τ x3 R h; rw [fX6_twin_17] at h; cases h
  | succ n ih =>
    intro τ x3 R h
    have go : ∀ x, fX6_twin_52 p1 (fX6_twin_17 p1 n) τ x = some R → R.2 = τ := fun x g => ih _ _ _ g
    rw [fX6_twin_17] at h
    split at h
    · cases h; rfl
    · split at h
      · exact go _ h
      · obtain ⟨r5, _, h⟩ := ks_bind h
        split at h
        · exact go _ h
        · obtain ⟨r7, _, h⟩ := ks_bind h
          split at h
          · exact go _ h
          · cases h; rfl
set_option maxHeartbeats 4000000 in
set_option maxRecDepth 100000 in
theorem d_X0_refresh (l : Launch) (D : va_G) (cA : Nat → ClassId) (st ad : Nat → Nat) (a : Nat)  (τ : Tau) (R : Tau) (Sn : Nat) (hSn : tI R 26 0 ≠ tI τ 26 0 → mkNeed τ ≤ Sn) (hf : fX0_refresh τ = some R) : KA ΛX 29 D cA st ad l yX0_refresh cX0_refresh 5 none 3 72 Sn [.ref (adr ad a 17), .ref (adr ad a 1)] a τ (none) R := by
  refine KA.of "KindSayings$Heaps" rfl (by decide) (Nat.le_of_ble_eq_true rfl) (fun p e s m args below meth c A ls Rm Q hE hRm hQ hCs hw hl => ?_)
  obtain ⟨hx, hb, hml, hown, hts, -⟩ := id hE
  have hl : lv_has ls 5 [(0, .ref (adr ad a 17)), (1, .ref (adr ad a 1))] := hl
  have L101 : ∀ (τ : Tau) (a' : Nat) (H : Heap) (locs : List Loc) (ls : Array Slot), fX0_refresh_101 τ = some R → Wd ΛX 29 D cA ad A s a' τ H locs → lv_has ls 5 [(0, .ref (adr ad a' 17))] → W p l e Rm s m args below meth c H locs 1 Sn Q (F0 m 101 ls []) := by
    intro τ a' H locs ls hf hw hl
    unfold fX0_refresh_101 at hf
    refine lv_aload_n hx hb dX0_refresh_101 rfl (lv_at hl 0 rfl) ?_
    refine lv_iconst (v := 0) hx hb dX0_refresh_102 (by decide) ?_
    obtain ⟨t15, et15, hf⟩ := ks_nm hf
    refine ks_putI hE hw 17 9 ltX_17 lyX_17 rfl fw_X0_62 rfl rfl dX0_refresh_103 (fun H locs hw => ?_)
    rw [← et15] at hw
    refine lv_aload_n hx hb dX0_refresh_106 rfl (lv_at hl 0 rfl) ?_
    obtain ⟨r16, er16, hf⟩ := ks_bind hf
    refine ke_V hE hw hl.1 cl_X0_73 17 ltX_17 lyX_17 rfl [] (c_X0_fillHeaps l D cA st ad a' _ _ er16) rfl (ke_room hRm rfl rfl) (ka_cnt hCs) (Nat.le_of_ble_eq_true rfl) rfl dX0_refresh_107 (fun H locs hw => ?_)
    refine W.eq (g2 := F0 m 110 ls ([])) rfl ?_
    refine lv_aload_n hx hb dX0_refresh_110 rfl (lv_at hl 0 rfl) ?_
    obtain ⟨r17, er17, hf⟩ := ks_bind hf
    refine ke_V hE hw hl.1 cl_X0_76 17 ltX_17 lyX_17 rfl [] (c_X0_addTogether l D cA st ad a' _ _ er17) rfl (ke_room hRm rfl rfl) (ka_cnt hCs) (Nat.le_of_ble_eq_true rfl) rfl dX0_refresh_111 (fun H locs hw => ?_)
    refine W.eq (g2 := F0 m 114 ls ([])) rfl ?_
    replace hf := Option.some.inj hf
    subst hf
    exact ka_vret hE hw hQ dX0_refresh_114 rfl
  have L32 : ∀ (n32 : Nat) (τ : Tau) (x_2 : Int32) (a' : Nat) (H : Heap) (locs : List Loc) (ls : Array Slot), fX0_refresh_32 n32 τ x_2 = some R → Wd ΛX 29 D cA ad A s a' τ H locs → lv_has ls 5 [(0, .ref (adr ad a' 17)), (1, .ref (adr ad a' 1)), (2, .int x_2)] → W p l e Rm s m args below meth c H locs 1 Sn Q (F0 m 32 ls []) := by
    intro n32
    induction n32 with
    | zero => intro τ x_2 a' H locs ls hf hw hl; exact absurd hf (by rw [fX0_refresh_32]; simp)
    | succ n32 ih32 =>
      have L95 : ∀ (τ : Tau) (x_2 : Int32) (a' : Nat) (H : Heap) (locs : List Loc) (ls : Array Slot), fX0_refresh_95 (fX0_refresh_32 n32) τ x_2 = some R → Wd ΛX 29 D cA ad A s a' τ H locs → lv_has ls 5 [(0, .ref (adr ad a' 17)), (1, .ref (adr ad a' 1)), (2, .int x_2)] → W p l e Rm s m args below meth c H locs 1 Sn Q (F0 m 95 ls []) := by
        intro τ x_2 a' H locs ls hf hw hl
        unfold fX0_refresh_95 at hf
        obtain ⟨x14, ex14, hf⟩ := ks_nm hf
        refine lv_iinc (v := x14) (lv' := [(2, .int x14), (0, .ref (adr ad a' 17)), (1, .ref (adr ad a' 1))]) hx hb dX0_refresh_95 hl (k := 2) rfl (by rw [ex14]; rfl) (by decide) rfl (fun ls hl => ?_)
        refine lv_goto (tgt := 32) hx hb dX0_refresh_98 (by decide) ?_
        exact ih32 _ _ _ _ _ _ hf hw (lv_sub hl [1, 2, 0] rfl)
      intro τ x_2 a' H locs ls hf hw hl
      rw [fX0_refresh_32] at hf
      refine lv_iload_n hx hb dX0_refresh_32 rfl (lv_at hl 2 rfl) ?_
      refine lv_aload_n hx hb dX0_refresh_33 rfl (lv_at hl 1 rfl) ?_
      refine ks_alen hE hw 1 ltX_1 lyX_1 rfl 10 rfl dX0_refresh_34 ?_
      refine lv_icmp_ge (tgt := 101) hx hb dX0_refresh_35 (by decide) (fun c5 => ?_) (fun c5 => ?_)
      · have hf := (if_pos c5).symm.trans hf
        exact L101 _ _ _ _ _ hf hw (lv_sub hl [0] rfl)
      · have hf := (if_neg c5).symm.trans hf
        refine lv_iload_n hx hb dX0_refresh_38 rfl (lv_at hl 2 rfl) ?_
        refine lv_bipush (v := 10) hx hb dX0_refresh_39 (by decide) ?_
        refine lv_icmp_ge (tgt := 101) hx hb dX0_refresh_41 (by decide) (fun c6 => ?_) (fun c6 => ?_)
        · have hf := (if_pos c6).symm.trans hf
          exact L101 _ _ _ _ _ hf hw (lv_sub hl [0] rfl)
        · have hf := (if_neg c6).symm.trans hf
          refine lv_aload_n hx hb dX0_refresh_44 rfl (lv_at hl 1 rfl) ?_
          refine lv_iload_n hx hb dX0_refresh_45 rfl (lv_at hl 2 rfl) ?_
          obtain ⟨b7, hf⟩ := ks_ok hf
          refine ks_aald hE hw 1 ltX_1 lyX_1 b7 dX0_refresh_46 ?_
          refine lv_astore_n (lv' := [(3, .ref (adr ad a' (x_2.toNatClampNeg + 2))), (0, .ref (adr ad a' 17)), (1, .ref (adr ad a' 1)), (2, .int x_2)]) hx hb dX0_refresh_47 rfl hl (by decide) rfl (fun ls hl => ?_)
          refine lv_aload_n hx hb dX0_refresh_48 rfl (lv_at hl 1 rfl) ?_
          refine ks_getI hE hw 17 9 ltX_17 lyX_17 rfl fd_X0_62 dX0_refresh_49 ?_
          refine lv_iload_n hx hb dX0_refresh_52 rfl (lv_at hl 3 rfl) ?_
          obtain ⟨r8, er8, hf⟩ := ks_nm hf
          refine ke_SN hE hw hl.1 cl_X0_40 [.int (tI τ 17 9), .int x_2] (c_X6_has l D cA st ad a' _ _ _ _ er8.symm) rfl (ke_room hRm rfl rfl) (ka_cnt hCs) (Nat.le_of_ble_eq_true rfl) rfl dX0_refresh_53 (fun H locs hw => ?_)
          refine W.eq (g2 := F0 m 56 ls (.int (bI r8) :: [])) rfl ?_
          refine lv_if_eq (tgt := 95) hx hb dX0_refresh_56 (by decide) (fun c9 => ?_) (fun c9 => ?_)
          · have hf := (if_pos c9).symm.trans hf
            exact L95 _ _ _ _ _ _ hf hw (lv_sub hl [1, 2, 3] rfl)
          · have hf := (if_neg c9).symm.trans hf
            refine lv_aload_n hx hb dX0_refresh_59 rfl (lv_at hl 0 rfl) ?_
            refine lv_ifnull hx hb dX0_refresh_60 ?_
            refine lv_aload_n hx hb dX0_refresh_63 rfl (lv_at hl 1 rfl) ?_
            refine ks_getI hE hw 17 9 ltX_17 lyX_17 rfl fd_X0_62 dX0_refresh_64 ?_
            refine lv_aload_n hx hb dX0_refresh_67 rfl (lv_at hl 2 rfl) ?_
            refine lv_aload_n hx hb dX0_refresh_68 rfl (lv_at hl 0 rfl) ?_
            obtain ⟨r10, er10, hf⟩ := ks_bind hf
            refine ke_S hE hw hl.1 cl_X0_65 [.ref (adr ad a' 1), .ref (adr ad a' (x_2.toNatClampNeg + 2))] (c_X0_likes l D cA st ad a' _ _ _ (say_at b7) er10) rfl (ke_room hRm rfl rfl) (ka_cnt hCs) (Nat.le_of_ble_eq_true rfl) rfl dX0_refresh_69 (fun H locs hw => ?_)
            refine W.eq (g2 := F0 m 72 ls (.int r10 :: .int (tI τ 17 9) :: [])) rfl ?_
            refine lv_iand hx hb dX0_refresh_72 ?_
            obtain ⟨x11, ex11, hf⟩ := ks_nm hf
            refine W.eq (g2 := F0 m 73 ls (.int x11 :: [])) (by rw [ex11]) ?_
            refine lv_istore (lv' := [(4, .int x11), (3, .ref (adr ad a' (x_2.toNatClampNeg + 2))), (0, .ref (adr ad a' 17)), (1, .ref (adr ad a' 1)), (2, .int x_2)]) hx hb dX0_refresh_73 hl (by decide) rfl (fun ls hl => ?_)
            refine lv_aload_n hx hb dX0_refresh_75 rfl (lv_at hl 2 rfl) ?_
            refine lv_aload_n hx hb dX0_refresh_76 rfl (lv_at hl 1 rfl) ?_
            refine lv_iload hx hb dX0_refresh_77 (lv_at hl 0 rfl) ?_
            obtain ⟨r12, er12, hf⟩ := ks_bind hf
            refine ke_V hE hw hl.1 cl_X0_69 17 ltX_17 lyX_17 rfl [.ref (adr ad a' (x_2.toNatClampNeg + 2)), .int x11] (c_X0_mark l D cA st ad a' _ _ _ _ (say_at b7) er12) rfl (ke_room hRm rfl rfl) (ka_cnt hCs) (Nat.le_of_ble_eq_true rfl) rfl dX0_refresh_79 (fun H locs hw => ?_)
            refine W.eq (g2 := F0 m 82 ls ([])) rfl ?_
            refine lv_aload_n hx hb dX0_refresh_82 rfl (lv_at hl 2 rfl) ?_
            refine lv_dup hx hb dX0_refresh_83 rfl ?_
            refine ks_getI hE hw 17 9 ltX_17 lyX_17 rfl fd_X0_62 dX0_refresh_84 ?_
            refine lv_iload hx hb dX0_refresh_87 (lv_at hl 0 rfl) ?_
            refine lv_iconst (v := (-1)) hx hb dX0_refresh_89 (by decide) ?_
            refine lv_ixor hx hb dX0_refresh_90 ?_
            refine lv_iand hx hb dX0_refresh_91 ?_
            obtain ⟨t13, et13, hf⟩ := ks_nm hf
            refine ks_putI hE hw 17 9 ltX_17 lyX_17 rfl fw_X0_62 rfl rfl dX0_refresh_92 (fun H locs hw => ?_)
            rw [← et13] at hw
            exact L95 _ _ _ _ _ _ hf hw (lv_sub hl [2, 3, 4] rfl)
  have L30 : ∀ (τ : Tau) (a' : Nat) (H : Heap) (locs : List Loc) (ls : Array Slot), fX0_refresh_30 τ = some R → Wd ΛX 29 D cA ad A s a' τ H locs → lv_has ls 5 [(0, .ref (adr ad a' 17)), (1, .ref (adr ad a' 1))] → W p l e Rm s m args below meth c H locs 1 Sn Q (F0 m 30 ls []) := by
    intro τ a' H locs ls hf hw hl
    unfold fX0_refresh_30 at hf
    refine lv_iconst (v := 0) hx hb dX0_refresh_30 (by decide) ?_
    refine lv_istore_n (lv' := [(2, .int (0 : Int32)), (0, .ref (adr ad a' 17)), (1, .ref (adr ad a' 1))]) hx hb dX0_refresh_31 rfl hl (by decide) rfl (fun ls hl => ?_)
    exact L32 FU _ _ _ _ _ _ hf hw (lv_sub hl [1, 2, 0] rfl)
  unfold fX0_refresh at hf
  refine lv_aload_n hx hb dX0_refresh_0 rfl (lv_at hl 0 rfl) ?_
  refine ks_getI hE hw 17 9 ltX_17 lyX_17 rfl fd_X0_62 dX0_refresh_1 ?_
  refine lv_if_ne (tgt := 8) hx hb dX0_refresh_4 (by decide) (fun c1 => ?_) (fun c1 => ?_)
  · have hf := (if_neg c1).symm.trans hf
    refine lv_aload_n hx hb dX0_refresh_8 rfl (lv_at hl 0 rfl) ?_
    refine ks_getI hE hw 17 8 ltX_17 lyX_17 rfl fd_X0_59 dX0_refresh_9 ?_
    refine lv_aload_n hx hb dX0_refresh_12 rfl (lv_at hl 0 rfl) ?_
    refine ks_getR hE hw 17 5 ltX_17 lyX_17 rfl fd_X0_32 dX0_refresh_13 ?_
    refine ks_alen hE hw 26 ltX_26 lyX_26 rfl _ rfl dX0_refresh_16 ?_
    refine lv_icmp_le (tgt := 30) hx hb dX0_refresh_17 (by decide) (fun c2 => ?_) (fun c2 => ?_)
    · have hf := (if_pos c2).symm.trans hf
      refine W.widen (k := 1) (n := Sn) (Nat.zero_le _) (Nat.zero_le _) ?_
      exact L30 _ _ _ _ _ hf hw (lv_sub hl [0, 1] rfl)
    · have hf := (if_neg c2).symm.trans hf
      refine lv_aload_n hx hb dX0_refresh_20 rfl (lv_at hl 0 rfl) ?_
      refine lv_aload_n hx hb dX0_refresh_21 rfl (lv_at hl 0 rfl) ?_
      refine ks_getI hE hw 17 8 ltX_17 lyX_17 rfl fd_X0_59 dX0_refresh_22 ?_
      obtain ⟨b3, hf⟩ := ks_ok hf
      obtain ⟨t4, et4, hf⟩ := ks_nm hf
      refine ks_newMarks hE hw b3 (mk_le (hSn (by
        rw [((fr_X0_refresh30 _ _ hf).1 26 0 (by decide)).1, et4, tI_sN, if_pos ⟨rfl, rfl⟩]
        exact mk_ne c2)) c2) hCs w_127 w_231 dX0_refresh_25 dX0_refresh_27 (fun a' H locs hw => ?_)
      rw [← et4] at hw
      have hl : lv_has ls 5 [(0, .ref (adr ad a' 17)), (1, .ref (adr ad a' 1))] := hl
      exact L30 _ _ _ _ _ hf hw (lv_sub hl [0, 1] rfl)
  · have hf := (if_pos c1).symm.trans hf
    refine W.widen (k := 1) (n := Sn) (Nat.zero_le _) (Nat.zero_le _) ?_
    replace hf := Option.some.inj hf
    subst hf
    exact ka_vret hE hw hQ dX0_refresh_7 rfl
set_option maxHeartbeats 4000000 in
set_option maxRecDepth 100000 in
theorem d_X6_freshHeaps (l : Launch) (D : va_G) (cA : Nat → ClassId) (st ad : Nat → Nat) (a : Nat)  (τ : Tau) (R : Tau) (Sn : Nat) (hSn : tI R 26 0 ≠ tI τ 26 0 → mkNeed τ ≤ Sn) (hf : fX6_freshHeaps τ = some R) : KA ΛX 29 D cA st ad l yX6_freshHeaps cX6_freshHeaps 1 (some (.object "KindSayings$Heaps")) 4 96 Sn [.ref (adr ad a 0)] a τ (some (.ref (adr ad a 17))) R := by
  refine KA.of "KindSayings" rfl (by decide) (Nat.le_of_ble_eq_true rfl) (fun p e s m args below meth c A ls Rm Q hE hRm hQ hCs hw hl => ?_)
  obtain ⟨hx, hb, hml, hown, hts, -⟩ := id hE
  have hl : lv_has ls 1 [(0, .ref (adr ad a 0))] := hl
  unfold fX6_freshHeaps at hf
  refine lv_aload_n hx hb dX6_freshHeaps_0 rfl (lv_at hl 0 rfl) ?_
  refine ks_getR hE hw 0 3 ltX_0 lyX_0 rfl fd_X6_29 dX6_freshHeaps_1 ?_
  refine lv_aload_n hx hb dX6_freshHeaps_4 rfl (lv_at hl 0 rfl) ?_
  refine ks_getR hE hw 0 0 ltX_0 lyX_0 rfl fd_X6_11 dX6_freshHeaps_5 ?_
  obtain ⟨r1, er1, hf⟩ := ks_bind hf
  refine ka_V hE hw hl.1 cl_X6_229 17 ltX_17 lyX_17 rfl [.ref (adr ad a 1)] (d_X0_refresh l D cA st ad a _ _ Sn (fun z => hSn (by cases hf; exact z)) er1) rfl (ke_room hRm rfl rfl) hCs (Nat.le_of_ble_eq_true rfl) rfl dX6_freshHeaps_8 (fun a' H locs hw => ?_)
  have hl : lv_has ls 1 [(0, .ref (adr ad a' 0))] := hl
  refine W.eq (g2 := F0 m 11 ls ([])) rfl ?_
  refine lv_aload_n hx hb dX6_freshHeaps_11 rfl (lv_at hl 0 rfl) ?_
  refine ks_getR hE hw 0 3 ltX_0 lyX_0 rfl fd_X6_29 dX6_freshHeaps_12 ?_
  replace hf := Option.some.inj hf
  subst hf
  exact ka_aret hE hw hQ (Or.inr ⟨_, rfl⟩) dX6_freshHeaps_15 rfl rfl
set_option maxHeartbeats 4000000 in
set_option maxRecDepth 100000 in
theorem d_X6_can (l : Launch) (D : va_G) (cA : Nat → ClassId) (st ad : Nat → Nat) (a : Nat)  (τ : Tau) (p1 : Int32) (R : (Int32 × Tau)) (Sn : Nat) (hSn : tI R.2 26 0 ≠ tI τ 26 0 → mkNeed τ ≤ Sn) (hf : fX6_can τ p1 = some R) : KA ΛX 29 D cA st ad l yX6_can cX6_can 2 (some .int) 5 116 Sn [.ref (adr ad a 0), .int p1] a τ (some (.int R.1)) R.2 := by
  refine KA.of "KindSayings" rfl (by decide) (Nat.le_of_ble_eq_true rfl) (fun p e s m args below meth c A ls Rm Q hE hRm hQ hCs hw hl => ?_)
  obtain ⟨hx, hb, hml, hown, hts, -⟩ := id hE
  have hl : lv_has ls 2 [(0, .ref (adr ad a 0)), (1, .int p1)] := hl
  unfold fX6_can at hf
  refine lv_iload_n hx hb dX6_can_0 rfl (lv_at hl 1 rfl) ?_
  obtain ⟨r1, er1, hf⟩ := ks_nm hf
  refine ke_S hE hw hl.1 cl_X6_134 [.int p1] (c_X6_isSet l D cA st ad a _ _ _ er1.symm) rfl (ke_room hRm rfl rfl) ke_cnt (Nat.le_of_ble_eq_true rfl) rfl dX6_can_1 (fun H locs hw => ?_)
  refine W.eq (g2 := F0 m 4 ls (.int (bI r1) :: [])) rfl ?_
  refine lv_if_ne (tgt := 9) hx hb dX6_can_4 (by decide) (fun c2 => ?_) (fun c2 => ?_)
  · have hf := (if_neg c2).symm.trans hf
    refine lv_aload_n hx hb dX6_can_9 rfl (lv_at hl 0 rfl) ?_
    obtain ⟨r3, er3, hf⟩ := ks_bind hf
    have hS2 : R.2 = r3 := by
      obtain ⟨r9, _, hz⟩ := ks_bind hf
      cases hz
      rfl
    refine ka_V hE hw hl.1 cl_X6_137 0 ltX_0 lyX_0 rfl [] (d_X6_freshHeaps l D cA st ad a _ _ Sn (fun z => hSn (by rw [hS2]; exact z)) er3) rfl (ke_room hRm rfl rfl) hCs (Nat.le_of_ble_eq_true rfl) rfl dX6_can_10 (fun a' H locs hw => ?_)
    have hl : lv_has ls 2 [(0, .ref (adr ad a' 0)), (1, .int p1)] := hl
    refine W.eq (g2 := F0 m 13 ls (.ref (adr ad a' 17) :: [])) rfl ?_
    refine lv_iload_n hx hb dX6_can_13 rfl (lv_at hl 1 rfl) ?_
    obtain ⟨r4, er4, hf⟩ := ks_bind hf
    refine ke_V hE hw hl.1 cl_X6_141 17 ltX_17 lyX_17 rfl [.int p1] (c_X0_worldsOf l D cA st ad a' _ _ _ er4) rfl (ke_room hRm rfl rfl) (ka_cnt hCs) (Nat.le_of_ble_eq_true rfl) rfl dX6_can_14 (fun H locs hw => ?_)
    refine W.eq (g2 := F0 m 17 ls (.int r4 :: [])) rfl ?_
    replace hf := Option.some.inj hf
    subst hf
    exact ka_iret hE hw hQ dX6_can_17 rfl rfl
  · have hf := (if_pos c2).symm.trans hf
    refine lv_iconst (v := (-1)) hx hb dX6_can_7 (by decide) ?_
    refine W.widen (k := 1) (n := Sn) (Nat.zero_le _) (Nat.zero_le _) ?_
    replace hf := Option.some.inj hf
    subst hf
    exact ka_iret hE hw hQ dX6_can_8 rfl rfl
set_option maxHeartbeats 4000000 in
set_option maxRecDepth 100000 in
theorem d_X6_least (l : Launch) (D : va_G) (cA : Nat → ClassId) (st ad : Nat → Nat) (a : Nat)  (τ : Tau) (p1 : Int32) (p2 : Int32) (R : (Int32 × Tau)) (Sn : Nat) (hSn : tI R.2 26 0 ≠ tI τ 26 0 → mkNeed τ ≤ Sn) (hf : fX6_least τ p1 p2 = some R) : KA ΛX 29 D cA st ad l yX6_least cX6_least 4 (some .int) 5 116 Sn [.ref (adr ad a 0), .int p1, .int p2] a τ (some (.int R.1)) R.2 := by
  refine KA.of "KindSayings" rfl (by decide) (Nat.le_of_ble_eq_true rfl) (fun p e s m args below meth c A ls Rm Q hE hRm hQ hCs hw hl => ?_)
  obtain ⟨hx, hb, hml, hown, hts, -⟩ := id hE
  have hl : lv_has ls 4 [(0, .ref (adr ad a 0)), (1, .int p1), (2, .int p2)] := hl
  unfold fX6_least at hf
  refine lv_iload_n hx hb dX6_least_0 rfl (lv_at hl 1 rfl) ?_
  obtain ⟨r1, er1, hf⟩ := ks_nm hf
  refine ke_S hE hw hl.1 cl_X6_134 [.int p1] (c_X6_isSet l D cA st ad a _ _ _ er1.symm) rfl (ke_room hRm rfl rfl) ke_cnt (Nat.le_of_ble_eq_true rfl) rfl dX6_least_1 (fun H locs hw => ?_)
  refine W.eq (g2 := F0 m 4 ls (.int (bI r1) :: [])) rfl ?_
  refine lv_if_eq (tgt := 15) hx hb dX6_least_4 (by decide) (fun c2 => ?_) (fun c2 => ?_)
  · have hf := (if_pos c2).symm.trans hf
    refine lv_iconst (v := (-1)) hx hb dX6_least_15 (by decide) ?_
    refine W.widen (k := 1) (n := Sn) (Nat.zero_le _) (Nat.zero_le _) ?_
    replace hf := Option.some.inj hf
    subst hf
    exact ka_iret hE hw hQ dX6_least_16 rfl rfl
  · have hf := (if_neg c2).symm.trans hf
    refine lv_aload_n hx hb dX6_least_7 rfl (lv_at hl 0 rfl) ?_
    refine lv_iload_n hx hb dX6_least_8 rfl (lv_at hl 2 rfl) ?_
    obtain ⟨r3, er3, hf⟩ := ks_nm hf
    refine ke_V hE hw hl.1 cl_X6_144 0 ltX_0 lyX_0 rfl [.int p2] (c_X6_isSortOrEvery l D cA st ad a _ _ _ er3.symm) rfl (ke_room hRm rfl rfl) ke_cnt (Nat.le_of_ble_eq_true rfl) rfl dX6_least_9 (fun H locs hw => ?_)
    refine W.eq (g2 := F0 m 12 ls (.int (bI r3) :: [])) rfl ?_
    refine lv_if_ne (tgt := 17) hx hb dX6_least_12 (by decide) (fun c4 => ?_) (fun c4 => ?_)
    · have hf := (if_neg c4).symm.trans hf
      refine lv_aload_n hx hb dX6_least_17 rfl (lv_at hl 0 rfl) ?_
      obtain ⟨r5, er5, hf⟩ := ks_bind hf
      have hS2 : R.2 = r5 := by
        obtain ⟨r9, _, hz⟩ := ks_bind hf
        obtain ⟨r8, _, hz⟩ := ks_bind hz
        cases hz
        rfl
      refine ka_V hE hw hl.1 cl_X6_137 0 ltX_0 lyX_0 rfl [] (d_X6_freshHeaps l D cA st ad a _ _ Sn (fun z => hSn (by rw [hS2]; exact z)) er5) rfl (ke_room hRm rfl rfl) hCs (Nat.le_of_ble_eq_true rfl) rfl dX6_least_18 (fun a' H locs hw => ?_)
      have hl : lv_has ls 4 [(0, .ref (adr ad a' 0)), (1, .int p1), (2, .int p2)] := hl
      refine W.eq (g2 := F0 m 21 ls (.ref (adr ad a' 17) :: [])) rfl ?_
      refine lv_astore_n (lv' := [(3, .ref (adr ad a' 17)), (0, .ref (adr ad a' 0)), (1, .int p1), (2, .int p2)]) hx hb dX6_least_21 rfl hl (by decide) rfl (fun ls hl => ?_)
      refine lv_aload_n hx hb dX6_least_22 rfl (lv_at hl 0 rfl) ?_
      refine lv_aload_n hx hb dX6_least_23 rfl (lv_at hl 0 rfl) ?_
      refine lv_iload_n hx hb dX6_least_24 rfl (lv_at hl 2 rfl) ?_
      refine lv_iconst (v := 0) hx hb dX6_least_25 (by decide) ?_
      obtain ⟨r6, er6, hf⟩ := ks_bind hf
      refine ke_V hE hw hl.1 cl_X6_147 17 ltX_17 lyX_17 rfl [.int p1, .int (0 : Int32)] (c_X0_firstWorld l D cA st ad a' _ _ _ _ er6) rfl (ke_room hRm rfl rfl) (ka_cnt hCs) (Nat.le_of_ble_eq_true rfl) rfl dX6_least_26 (fun H locs hw => ?_)
      refine W.eq (g2 := F0 m 29 ls (.int r6 :: .ref (adr ad a' 17) :: [])) rfl ?_
      refine lv_iload_n hx hb dX6_least_29 rfl (lv_at hl 3 rfl) ?_
      obtain ⟨r7, er7, hf⟩ := ks_bind hf
      refine ke_V hE hw hl.1 cl_X6_151 17 ltX_17 lyX_17 rfl [.int r6, .int p2] (c_X0_thingsIn l D cA st ad a' _ _ _ _ er7) rfl (ke_room hRm rfl rfl) (ka_cnt hCs) (Nat.le_of_ble_eq_true rfl) rfl dX6_least_30 (fun H locs hw => ?_)
      refine W.eq (g2 := F0 m 33 ls (.int r7 :: [])) rfl ?_
      replace hf := Option.some.inj hf
      subst hf
      exact ka_iret hE hw hQ dX6_least_33 rfl rfl
    · have hf := (if_pos c4).symm.trans hf
      refine lv_iconst (v := (-1)) hx hb dX6_least_15 (by decide) ?_
      refine W.widen (k := 1) (n := Sn) (Nat.zero_le _) (Nat.zero_le _) ?_
      replace hf := Option.some.inj hf
      subst hf
      exact ka_iret hE hw hQ dX6_least_16 rfl rfl
set_option maxHeartbeats 4000000 in
set_option maxRecDepth 100000 in
theorem d_X6_follows (l : Launch) (D : va_G) (cA : Nat → ClassId) (st ad : Nat → Nat) (a : Nat)  (τ : Tau) (p1 : Int32) (p2 : Int32) (R : (Int32 × Tau)) (Sn : Nat) (hSn : tI R.2 26 0 ≠ tI τ 26 0 → mkNeed τ ≤ Sn) (hf : fX6_follows τ p1 p2 = some R) : KA ΛX 29 D cA st ad l yX6_follows cX6_follows 3 (some .int) 5 116 Sn [.ref (adr ad a 0), .int p1, .int p2] a τ (some (.int R.1)) R.2 := by
  refine KA.of "KindSayings" rfl (by decide) (Nat.le_of_ble_eq_true rfl) (fun p e s m args below meth c A ls Rm Q hE hRm hQ hCs hw hl => ?_)
  obtain ⟨hx, hb, hml, hown, hts, -⟩ := id hE
  have hl : lv_has ls 3 [(0, .ref (adr ad a 0)), (1, .int p1), (2, .int p2)] := hl
  unfold fX6_follows at hf
  refine lv_iload_n hx hb dX6_follows_0 rfl (lv_at hl 1 rfl) ?_
  obtain ⟨r1, er1, hf⟩ := ks_nm hf
  refine ke_S hE hw hl.1 cl_X6_134 [.int p1] (c_X6_isSet l D cA st ad a _ _ _ er1.symm) rfl (ke_room hRm rfl rfl) ke_cnt (Nat.le_of_ble_eq_true rfl) rfl dX6_follows_1 (fun H locs hw => ?_)
  refine W.eq (g2 := F0 m 4 ls (.int (bI r1) :: [])) rfl ?_
  refine lv_if_eq (tgt := 15) hx hb dX6_follows_4 (by decide) (fun c2 => ?_) (fun c2 => ?_)
  · have hf := (if_pos c2).symm.trans hf
    refine lv_iconst (v := (-1)) hx hb dX6_follows_15 (by decide) ?_
    refine W.widen (k := 1) (n := Sn) (Nat.zero_le _) (Nat.zero_le _) ?_
    replace hf := Option.some.inj hf
    subst hf
    exact ka_iret hE hw hQ dX6_follows_16 rfl rfl
  · have hf := (if_neg c2).symm.trans hf
    refine lv_aload_n hx hb dX6_follows_7 rfl (lv_at hl 0 rfl) ?_
    refine lv_iload_n hx hb dX6_follows_8 rfl (lv_at hl 2 rfl) ?_
    by_cases c3 : (p2 < 0 ∨ 10 ≤ p2.toNatClampNeg)
    · have hf := (if_pos c3).symm.trans hf
      refine ke_V hE hw hl.1 cl_X6_72 0 ltX_0 lyX_0 rfl [.int p2] (c_X6_sayingAt_out l D cA st ad a _ _ c3) rfl (ke_room hRm rfl rfl) ke_cnt (Nat.le_of_ble_eq_true rfl) rfl dX6_follows_9 (fun H locs hw => ?_)
      refine lv_ifnonnullN hx hb dX6_follows_12 ?_
      refine lv_iconst (v := (-1)) hx hb dX6_follows_15 (by decide) ?_
      refine W.widen (k := 1) (n := Sn) (Nat.zero_le _) (Nat.zero_le _) ?_
      replace hf := Option.some.inj hf
      subst hf
      exact ka_iret hE hw hQ dX6_follows_16 rfl rfl
    · have hf := (if_neg c3).symm.trans hf
      refine ke_V hE hw hl.1 cl_X6_72 0 ltX_0 lyX_0 rfl [.int p2] (c_X6_sayingAt_in l D cA st ad a _ _ c3) rfl (ke_room hRm rfl rfl) ke_cnt (Nat.le_of_ble_eq_true rfl) rfl dX6_follows_9 (fun H locs hw => ?_)
      refine lv_ifnonnull (tgt := 17) hx hb dX6_follows_12 (by decide) ?_
      refine lv_aload_n hx hb dX6_follows_17 rfl (lv_at hl 0 rfl) ?_
      obtain ⟨r4, er4, hf⟩ := ks_bind hf
      have hS2 : R.2 = r4 := by
        obtain ⟨r9, _, hz⟩ := ks_bind hf
        obtain ⟨r8, _, hz⟩ := ks_nm hz
        cases hz
        rfl
      refine ka_V hE hw hl.1 cl_X6_137 0 ltX_0 lyX_0 rfl [] (d_X6_freshHeaps l D cA st ad a _ _ Sn (fun z => hSn (by rw [hS2]; exact z)) er4) rfl (ke_room hRm rfl rfl) hCs (Nat.le_of_ble_eq_true rfl) rfl dX6_follows_18 (fun a' H locs hw => ?_)
      have hl : lv_has ls 3 [(0, .ref (adr ad a' 0)), (1, .int p1), (2, .int p2)] := hl
      refine W.eq (g2 := F0 m 21 ls (.ref (adr ad a' 17) :: [])) rfl ?_
      refine lv_iload_n hx hb dX6_follows_21 rfl (lv_at hl 1 rfl) ?_
      refine lv_iload_n hx hb dX6_follows_22 rfl (lv_at hl 2 rfl) ?_
      obtain ⟨r5, er5, hf⟩ := ks_bind hf
      refine ke_V hE hw hl.1 cl_X6_154 17 ltX_17 lyX_17 rfl [.int p1, .int p2] (c_X0_isFollowing l D cA st ad a' _ _ _ _ er5) rfl (ke_room hRm rfl rfl) (ka_cnt hCs) (Nat.le_of_ble_eq_true rfl) rfl dX6_follows_23 (fun H locs hw => ?_)
      refine W.eq (g2 := F0 m 26 ls (.int (bI r5) :: [])) rfl ?_
      obtain ⟨r6, er6, hf⟩ := ks_nm hf
      refine ke_S hE hw hl.1 cl_X6_83 [.int (bI r5)] (c_X6_bit l D cA st ad a' _ _ _ er6.symm) rfl (ke_room hRm rfl rfl) (ka_cnt hCs) (Nat.le_of_ble_eq_true rfl) rfl dX6_follows_26 (fun H locs hw => ?_)
      refine W.eq (g2 := F0 m 29 ls (.int r6 :: [])) rfl ?_
      replace hf := Option.some.inj hf
      subst hf
      exact ka_iret hE hw hQ dX6_follows_29 rfl rfl
set_option maxHeartbeats 4000000 in
set_option maxRecDepth 100000 in
theorem d_X6_against (l : Launch) (D : va_G) (cA : Nat → ClassId) (st ad : Nat → Nat) (a : Nat)  (τ : Tau) (p1 : Int32) (p2 : Int32) (p3 : Int32) (R : (Int32 × Tau)) (Sn : Nat) (hSn : tI R.2 26 0 ≠ tI τ 26 0 → mkNeed τ ≤ Sn) (hf : fX6_against τ p1 p2 p3 = some R) : KA ΛX 29 D cA st ad l yX6_against cX6_against 5 (some .int) 5 116 Sn [.ref (adr ad a 0), .int p1, .int p2, .int p3] a τ (some (.int R.1)) R.2 := by
  refine KA.of "KindSayings" rfl (by decide) (Nat.le_of_ble_eq_true rfl) (fun p e s m args below meth c A ls Rm Q hE hRm hQ hCs hw hl => ?_)
  obtain ⟨hx, hb, hml, hown, hts, -⟩ := id hE
  have hl : lv_has ls 5 [(0, .ref (adr ad a 0)), (1, .int p1), (2, .int p2), (3, .int p3)] := hl
  unfold fX6_against at hf
  refine lv_iload_n hx hb dX6_against_0 rfl (lv_at hl 1 rfl) ?_
  obtain ⟨r1, er1, hf⟩ := ks_nm hf
  refine ke_S hE hw hl.1 cl_X6_134 [.int p1] (c_X6_isSet l D cA st ad a _ _ _ er1.symm) rfl (ke_room hRm rfl rfl) ke_cnt (Nat.le_of_ble_eq_true rfl) rfl dX6_against_1 (fun H locs hw => ?_)
  refine W.eq (g2 := F0 m 4 ls (.int (bI r1) :: [])) rfl ?_
  refine lv_if_eq (tgt := 23) hx hb dX6_against_4 (by decide) (fun c2 => ?_) (fun c2 => ?_)
  · have hf := (if_pos c2).symm.trans hf
    refine lv_iconst (v := (-1)) hx hb dX6_against_23 (by decide) ?_
    refine W.widen (k := 1) (n := Sn) (Nat.zero_le _) (Nat.zero_le _) ?_
    replace hf := Option.some.inj hf
    subst hf
    exact ka_iret hE hw hQ dX6_against_24 rfl rfl
  · have hf := (if_neg c2).symm.trans hf
    refine lv_aload_n hx hb dX6_against_7 rfl (lv_at hl 0 rfl) ?_
    refine lv_iload_n hx hb dX6_against_8 rfl (lv_at hl 2 rfl) ?_
    by_cases c3 : (p2 < 0 ∨ 10 ≤ p2.toNatClampNeg)
    · have hf := (if_pos c3).symm.trans hf
      refine ke_V hE hw hl.1 cl_X6_72 0 ltX_0 lyX_0 rfl [.int p2] (c_X6_sayingAt_out l D cA st ad a _ _ c3) rfl (ke_room hRm rfl rfl) ke_cnt (Nat.le_of_ble_eq_true rfl) rfl dX6_against_9 (fun H locs hw => ?_)
      refine lv_ifnullN (tgt := 23) hx hb dX6_against_12 (by decide) ?_
      refine lv_iconst (v := (-1)) hx hb dX6_against_23 (by decide) ?_
      refine W.widen (k := 1) (n := Sn) (Nat.zero_le _) (Nat.zero_le _) ?_
      replace hf := Option.some.inj hf
      subst hf
      exact ka_iret hE hw hQ dX6_against_24 rfl rfl
    · have hf := (if_neg c3).symm.trans hf
      refine ke_V hE hw hl.1 cl_X6_72 0 ltX_0 lyX_0 rfl [.int p2] (c_X6_sayingAt_in l D cA st ad a _ _ c3) rfl (ke_room hRm rfl rfl) ke_cnt (Nat.le_of_ble_eq_true rfl) rfl dX6_against_9 (fun H locs hw => ?_)
      refine lv_ifnull hx hb dX6_against_12 ?_
      refine lv_aload_n hx hb dX6_against_15 rfl (lv_at hl 0 rfl) ?_
      refine lv_iload_n hx hb dX6_against_16 rfl (lv_at hl 3 rfl) ?_
      obtain ⟨r4, er4, hf⟩ := ks_nm hf
      refine ke_V hE hw hl.1 cl_X6_144 0 ltX_0 lyX_0 rfl [.int p3] (c_X6_isSortOrEvery l D cA st ad a _ _ _ er4.symm) rfl (ke_room hRm rfl rfl) ke_cnt (Nat.le_of_ble_eq_true rfl) rfl dX6_against_17 (fun H locs hw => ?_)
      refine W.eq (g2 := F0 m 20 ls (.int (bI r4) :: [])) rfl ?_
      refine lv_if_ne (tgt := 25) hx hb dX6_against_20 (by decide) (fun c5 => ?_) (fun c5 => ?_)
      · have hf := (if_neg c5).symm.trans hf
        refine lv_aload_n hx hb dX6_against_25 rfl (lv_at hl 0 rfl) ?_
        obtain ⟨r6, er6, hf⟩ := ks_bind hf
        have hS2 : R.2 = r6 := by
          obtain ⟨r9, _, hz⟩ := ks_bind hf
          obtain ⟨r8, _, hz⟩ := ks_bind hz
          cases hz
          rfl
        refine ka_V hE hw hl.1 cl_X6_137 0 ltX_0 lyX_0 rfl [] (d_X6_freshHeaps l D cA st ad a _ _ Sn (fun z => hSn (by rw [hS2]; exact z)) er6) rfl (ke_room hRm rfl rfl) hCs (Nat.le_of_ble_eq_true rfl) rfl dX6_against_26 (fun a' H locs hw => ?_)
        have hl : lv_has ls 5 [(0, .ref (adr ad a' 0)), (1, .int p1), (2, .int p2), (3, .int p3)] := hl
        refine W.eq (g2 := F0 m 29 ls (.ref (adr ad a' 17) :: [])) rfl ?_
        refine lv_astore (lv' := [(4, .ref (adr ad a' 17)), (0, .ref (adr ad a' 0)), (1, .int p1), (2, .int p2), (3, .int p3)]) hx hb dX6_against_29 hl (by decide) rfl (fun ls hl => ?_)
        refine lv_aload hx hb dX6_against_31 (lv_at hl 0 rfl) ?_
        refine lv_aload hx hb dX6_against_33 (lv_at hl 0 rfl) ?_
        refine lv_iload_n hx hb dX6_against_35 rfl (lv_at hl 2 rfl) ?_
        refine lv_iconst (v := 1) hx hb dX6_against_36 (by decide) ?_
        refine lv_iload_n hx hb dX6_against_37 rfl (lv_at hl 3 rfl) ?_
        refine lv_ishl hx hb dX6_against_38 ?_
        obtain ⟨r7, er7, hf⟩ := ks_bind hf
        refine ke_V hE hw hl.1 cl_X6_147 17 ltX_17 lyX_17 rfl [.int p1, .int ((1 : Int32) <<< (p2 &&& 31))] (c_X0_firstWorld l D cA st ad a' _ _ _ _ er7) rfl (ke_room hRm rfl rfl) (ka_cnt hCs) (Nat.le_of_ble_eq_true rfl) rfl dX6_against_39 (fun H locs hw => ?_)
        refine W.eq (g2 := F0 m 42 ls (.int r7 :: .ref (adr ad a' 17) :: [])) rfl ?_
        refine lv_iload_n hx hb dX6_against_42 rfl (lv_at hl 4 rfl) ?_
        obtain ⟨r8, er8, hf⟩ := ks_bind hf
        refine ke_V hE hw hl.1 cl_X6_151 17 ltX_17 lyX_17 rfl [.int r7, .int p3] (c_X0_thingsIn l D cA st ad a' _ _ _ _ er8) rfl (ke_room hRm rfl rfl) (ka_cnt hCs) (Nat.le_of_ble_eq_true rfl) rfl dX6_against_43 (fun H locs hw => ?_)
        refine W.eq (g2 := F0 m 46 ls (.int r8 :: [])) rfl ?_
        replace hf := Option.some.inj hf
        subst hf
        exact ka_iret hE hw hQ dX6_against_46 rfl rfl
      · have hf := (if_pos c5).symm.trans hf
        refine lv_iconst (v := (-1)) hx hb dX6_against_23 (by decide) ?_
        refine W.widen (k := 1) (n := Sn) (Nat.zero_le _) (Nat.zero_le _) ?_
        replace hf := Option.some.inj hf
        subst hf
        exact ka_iret hE hw hQ dX6_against_24 rfl rfl
set_option maxHeartbeats 4000000 in
set_option maxRecDepth 100000 in
theorem d_X6_unsaid (l : Launch) (D : va_G) (cA : Nat → ClassId) (st ad : Nat → Nat) (a : Nat)  (τ : Tau) (p1 : Int32) (R : (Int32 × Tau)) (Sn : Nat) (hSn : tI R.2 26 0 ≠ tI τ 26 0 → mkNeed τ ≤ Sn) (hf : fX6_unsaid τ p1 = some R) : KA ΛX 29 D cA st ad l yX6_unsaid cX6_unsaid 5 (some .int) 5 116 Sn [.ref (adr ad a 0), .int p1] a τ (some (.int R.1)) R.2 := by
  refine KA.of "KindSayings" rfl (by decide) (Nat.le_of_ble_eq_true rfl) (fun p e s m args below meth c A ls Rm Q hE hRm hQ hCs hw hl => ?_)
  obtain ⟨hx, hb, hml, hown, hts, -⟩ := id hE
  have hl : lv_has ls 5 [(0, .ref (adr ad a 0)), (1, .int p1)] := hl
  have L19 : ∀ (n19 : Nat) (τ : Tau) (x_3 : Int32) (x_4 : Int32) (a' : Nat) (H : Heap) (locs : List Loc) (ls : Array Slot), fX6_unsaid_19 p1 n19 τ x_3 x_4 = some R → Wd ΛX 29 D cA ad A s a' τ H locs → lv_has ls 5 [(1, .int p1), (2, .ref (adr ad a' 17)), (3, .int x_3), (4, .int x_4)] → W p l e Rm s m args below meth c H locs 1 Sn Q (F0 m 19 ls []) := by
    intro n19
    induction n19 with
    | zero => intro τ x_3 x_4 a' H locs ls hf hw hl; exact absurd hf (by rw [fX6_unsaid_19]; simp)
    | succ n19 ih19 =>
      have L59 : ∀ (τ : Tau) (x_3 : Int32) (x_4 : Int32) (a' : Nat) (H : Heap) (locs : List Loc) (ls : Array Slot), fX6_unsaid_59 p1 (fX6_unsaid_19 p1 n19) τ x_3 x_4 = some R → Wd ΛX 29 D cA ad A s a' τ H locs → lv_has ls 5 [(1, .int p1), (2, .ref (adr ad a' 17)), (3, .int x_3), (4, .int x_4)] → W p l e Rm s m args below meth c H locs 1 Sn Q (F0 m 59 ls []) := by
        intro τ x_3 x_4 a' H locs ls hf hw hl
        unfold fX6_unsaid_59 at hf
        obtain ⟨x10, ex10, hf⟩ := ks_nm hf
        refine lv_iinc (v := x10) (lv' := [(4, .int x10), (1, .int p1), (2, .ref (adr ad a' 17)), (3, .int x_3)]) hx hb dX6_unsaid_59 hl (k := 3) rfl (by rw [ex10]; rfl) (by decide) rfl (fun ls hl => ?_)
        refine lv_goto (tgt := 19) hx hb dX6_unsaid_62 (by decide) ?_
        exact ih19 _ _ _ _ _ _ _ hf hw (lv_sub hl [1, 2, 3, 0] rfl)
      intro τ x_3 x_4 a' H locs ls hf hw hl
      rw [fX6_unsaid_19] at hf
      refine lv_iload hx hb dX6_unsaid_19 (lv_at hl 3 rfl) ?_
      refine lv_bipush (v := 10) hx hb dX6_unsaid_21 (by decide) ?_
      refine lv_icmp_ge (tgt := 65) hx hb dX6_unsaid_23 (by decide) (fun c4 => ?_) (fun c4 => ?_)
      · have hf := (if_pos c4).symm.trans hf
        refine lv_iload_n hx hb dX6_unsaid_65 rfl (lv_at hl 2 rfl) ?_
        replace hf := Option.some.inj hf
        subst hf
        exact ka_iret hE hw hQ dX6_unsaid_66 rfl rfl
      · have hf := (if_neg c4).symm.trans hf
        refine lv_iload_n hx hb dX6_unsaid_26 rfl (lv_at hl 0 rfl) ?_
        refine lv_iload hx hb dX6_unsaid_27 (lv_at hl 3 rfl) ?_
        obtain ⟨r5, er5, hf⟩ := ks_nm hf
        refine ke_S hE hw hl.1 cl_X6_158 [.int p1, .int x_4] (c_X6_has l D cA st ad a' _ _ _ _ er5.symm) rfl (ke_room hRm rfl rfl) (ka_cnt hCs) (Nat.le_of_ble_eq_true rfl) rfl dX6_unsaid_29 (fun H locs hw => ?_)
        refine W.eq (g2 := F0 m 32 ls (.int (bI r5) :: [])) rfl ?_
        refine lv_if_eq (tgt := 59) hx hb dX6_unsaid_32 (by decide) (fun c6 => ?_) (fun c6 => ?_)
        · have hf := (if_pos c6).symm.trans hf
          exact L59 _ _ _ _ _ _ _ hf hw (lv_sub hl [0, 1, 2, 3] rfl)
        · have hf := (if_neg c6).symm.trans hf
          refine lv_aload_n hx hb dX6_unsaid_35 rfl (lv_at hl 1 rfl) ?_
          refine lv_iload_n hx hb dX6_unsaid_36 rfl (lv_at hl 0 rfl) ?_
          refine lv_iconst (v := 1) hx hb dX6_unsaid_37 (by decide) ?_
          refine lv_iload hx hb dX6_unsaid_38 (lv_at hl 3 rfl) ?_
          refine lv_ishl hx hb dX6_unsaid_40 ?_
          refine lv_iconst (v := (-1)) hx hb dX6_unsaid_41 (by decide) ?_
          refine lv_ixor hx hb dX6_unsaid_42 ?_
          refine lv_iand hx hb dX6_unsaid_43 ?_
          refine lv_iload hx hb dX6_unsaid_44 (lv_at hl 3 rfl) ?_
          obtain ⟨r7, er7, hf⟩ := ks_bind hf
          refine ke_V hE hw hl.1 cl_X6_154 17 ltX_17 lyX_17 rfl [.int (p1 &&& (((1 : Int32) <<< (x_4 &&& 31)) ^^^ (-1 : Int32))), .int x_4] (c_X0_isFollowing l D cA st ad a' _ _ _ _ er7) rfl (ke_room hRm rfl rfl) (ka_cnt hCs) (Nat.le_of_ble_eq_true rfl) rfl dX6_unsaid_46 (fun H locs hw => ?_)
          refine W.eq (g2 := F0 m 49 ls (.int (bI r7) :: [])) rfl ?_
          refine lv_if_eq (tgt := 59) hx hb dX6_unsaid_49 (by decide) (fun c8 => ?_) (fun c8 => ?_)
          · have hf := (if_pos c8).symm.trans hf
            exact L59 _ _ _ _ _ _ _ hf hw (lv_sub hl [0, 1, 2, 3] rfl)
          · have hf := (if_neg c8).symm.trans hf
            refine lv_iload_n hx hb dX6_unsaid_52 rfl (lv_at hl 2 rfl) ?_
            refine lv_iconst (v := 1) hx hb dX6_unsaid_53 (by decide) ?_
            refine lv_iload hx hb dX6_unsaid_54 (lv_at hl 3 rfl) ?_
            refine lv_ishl hx hb dX6_unsaid_56 ?_
            refine lv_ior hx hb dX6_unsaid_57 ?_
            obtain ⟨x9, ex9, hf⟩ := ks_nm hf
            refine W.eq (g2 := F0 m 58 ls (.int x9 :: [])) (by rw [ex9]) ?_
            refine lv_istore_n (lv' := [(3, .int x9), (1, .int p1), (2, .ref (adr ad a' 17)), (4, .int x_4)]) hx hb dX6_unsaid_58 rfl hl (by decide) rfl (fun ls hl => ?_)
            exact L59 _ _ _ _ _ _ _ hf hw (lv_sub hl [1, 2, 0, 3] rfl)
  unfold fX6_unsaid at hf
  refine lv_iload_n hx hb dX6_unsaid_0 rfl (lv_at hl 1 rfl) ?_
  obtain ⟨r1, er1, hf⟩ := ks_nm hf
  refine ke_S hE hw hl.1 cl_X6_134 [.int p1] (c_X6_isSet l D cA st ad a _ _ _ er1.symm) rfl (ke_room hRm rfl rfl) ke_cnt (Nat.le_of_ble_eq_true rfl) rfl dX6_unsaid_1 (fun H locs hw => ?_)
  refine W.eq (g2 := F0 m 4 ls (.int (bI r1) :: [])) rfl ?_
  refine lv_if_ne (tgt := 9) hx hb dX6_unsaid_4 (by decide) (fun c2 => ?_) (fun c2 => ?_)
  · have hf := (if_neg c2).symm.trans hf
    refine lv_aload_n hx hb dX6_unsaid_9 rfl (lv_at hl 0 rfl) ?_
    obtain ⟨r3, er3, hf⟩ := ks_bind hf
    have hS2 : R.2 = r3 := by
      exact t_unsaid _ _ _ _ _ _ hf
    refine ka_V hE hw hl.1 cl_X6_137 0 ltX_0 lyX_0 rfl [] (d_X6_freshHeaps l D cA st ad a _ _ Sn (fun z => hSn (by rw [hS2]; exact z)) er3) rfl (ke_room hRm rfl rfl) hCs (Nat.le_of_ble_eq_true rfl) rfl dX6_unsaid_10 (fun a' H locs hw => ?_)
    have hl : lv_has ls 5 [(0, .ref (adr ad a' 0)), (1, .int p1)] := hl
    refine W.eq (g2 := F0 m 13 ls (.ref (adr ad a' 17) :: [])) rfl ?_
    refine lv_astore_n (lv' := [(2, .ref (adr ad a' 17)), (0, .ref (adr ad a' 0)), (1, .int p1)]) hx hb dX6_unsaid_13 rfl hl (by decide) rfl (fun ls hl => ?_)
    refine lv_iconst (v := 0) hx hb dX6_unsaid_14 (by decide) ?_
    refine lv_istore_n (lv' := [(3, .int (0 : Int32)), (2, .ref (adr ad a' 17)), (0, .ref (adr ad a' 0)), (1, .int p1)]) hx hb dX6_unsaid_15 rfl hl (by decide) rfl (fun ls hl => ?_)
    refine lv_iconst (v := 0) hx hb dX6_unsaid_16 (by decide) ?_
    refine lv_istore (lv' := [(4, .int (0 : Int32)), (3, .int (0 : Int32)), (2, .ref (adr ad a' 17)), (0, .ref (adr ad a' 0)), (1, .int p1)]) hx hb dX6_unsaid_17 hl (by decide) rfl (fun ls hl => ?_)
    exact L19 FU _ _ _ _ _ _ _ hf hw (lv_sub hl [4, 2, 1, 0] rfl)
  · have hf := (if_pos c2).symm.trans hf
    refine lv_iconst (v := (-1)) hx hb dX6_unsaid_7 (by decide) ?_
    refine W.widen (k := 1) (n := Sn) (Nat.zero_le _) (Nat.zero_le _) ?_
    replace hf := Option.some.inj hf
    subst hf
    exact ka_iret hE hw hQ dX6_unsaid_8 rfl rfl
set_option maxHeartbeats 4000000 in
set_option maxRecDepth 100000 in
theorem d_X6_clash (l : Launch) (D : va_G) (cA : Nat → ClassId) (st ad : Nat → Nat) (a : Nat)  (τ : Tau) (p1 : Int32) (p2 : Int32) (R : (Int32 × Tau)) (Sn : Nat) (hSn : tI R.2 26 0 ≠ tI τ 26 0 → mkNeed τ ≤ Sn) (hf : fX6_clash τ p1 p2 = some R) : KA ΛX 29 D cA st ad l yX6_clash cX6_clash 4 (some .int) 5 116 Sn [.ref (adr ad a 0), .int p1, .int p2] a τ (some (.int R.1)) R.2 := by
  refine KA.of "KindSayings" rfl (by decide) (Nat.le_of_ble_eq_true rfl) (fun p e s m args below meth c A ls Rm Q hE hRm hQ hCs hw hl => ?_)
  obtain ⟨hx, hb, hml, hown, hts, -⟩ := id hE
  have hl : lv_has ls 4 [(0, .ref (adr ad a 0)), (1, .int p1), (2, .int p2)] := hl
  unfold fX6_clash at hf
  refine lv_iload_n hx hb dX6_clash_0 rfl (lv_at hl 1 rfl) ?_
  obtain ⟨r1, er1, hf⟩ := ks_nm hf
  refine ke_S hE hw hl.1 cl_X6_134 [.int p1] (c_X6_isSet l D cA st ad a _ _ _ er1.symm) rfl (ke_room hRm rfl rfl) ke_cnt (Nat.le_of_ble_eq_true rfl) rfl dX6_clash_1 (fun H locs hw => ?_)
  refine W.eq (g2 := F0 m 4 ls (.int (bI r1) :: [])) rfl ?_
  refine lv_if_eq (tgt := 16) hx hb dX6_clash_4 (by decide) (fun c2 => ?_) (fun c2 => ?_)
  · have hf := (if_pos c2).symm.trans hf
    refine lv_iconst (v := (-1)) hx hb dX6_clash_16 (by decide) ?_
    refine W.widen (k := 1) (n := Sn) (Nat.zero_le _) (Nat.zero_le _) ?_
    replace hf := Option.some.inj hf
    subst hf
    exact ka_iret hE hw hQ dX6_clash_17 rfl rfl
  · have hf := (if_neg c2).symm.trans hf
    refine lv_iload_n hx hb dX6_clash_7 rfl (lv_at hl 2 rfl) ?_
    refine lv_if_lt (tgt := 16) hx hb dX6_clash_8 (by decide) (fun c3 => ?_) (fun c3 => ?_)
    · have hf := (if_pos c3).symm.trans hf
      refine lv_iconst (v := (-1)) hx hb dX6_clash_16 (by decide) ?_
      refine W.widen (k := 1) (n := Sn) (Nat.zero_le _) (Nat.zero_le _) ?_
      replace hf := Option.some.inj hf
      subst hf
      exact ka_iret hE hw hQ dX6_clash_17 rfl rfl
    · have hf := (if_neg c3).symm.trans hf
      refine lv_iload_n hx hb dX6_clash_11 rfl (lv_at hl 2 rfl) ?_
      refine lv_iconst (v := 1) hx hb dX6_clash_12 (by decide) ?_
      refine lv_icmp_le (tgt := 18) hx hb dX6_clash_13 (by decide) (fun c4 => ?_) (fun c4 => ?_)
      · have hf := (if_pos c4).symm.trans hf
        refine lv_aload_n hx hb dX6_clash_18 rfl (lv_at hl 0 rfl) ?_
        obtain ⟨r5, er5, hf⟩ := ks_bind hf
        have hS2 : R.2 = r5 := by
          obtain ⟨r9, _, hz⟩ := ks_bind hf
          split at hz
          · cases hz; rfl
          · split at hz
            · obtain ⟨r8, _, hz⟩ := ks_nm hz
              cases hz; rfl
            · cases hz; rfl
        refine ka_V hE hw hl.1 cl_X6_137 0 ltX_0 lyX_0 rfl [] (d_X6_freshHeaps l D cA st ad a _ _ Sn (fun z => hSn (by rw [hS2]; exact z)) er5) rfl (ke_room hRm rfl rfl) hCs (Nat.le_of_ble_eq_true rfl) rfl dX6_clash_19 (fun a' H locs hw => ?_)
        have hl : lv_has ls 4 [(0, .ref (adr ad a' 0)), (1, .int p1), (2, .int p2)] := hl
        refine W.eq (g2 := F0 m 22 ls (.ref (adr ad a' 17) :: [])) rfl ?_
        refine lv_iload_n hx hb dX6_clash_22 rfl (lv_at hl 1 rfl) ?_
        obtain ⟨r6, er6, hf⟩ := ks_bind hf
        refine ke_V hE hw hl.1 cl_X6_161 17 ltX_17 lyX_17 rfl [.int p1] (c_X0_fewestClashing l D cA st ad a' _ _ _ er6) rfl (ke_room hRm rfl rfl) (ka_cnt hCs) (Nat.le_of_ble_eq_true rfl) rfl dX6_clash_23 (fun H locs hw => ?_)
        refine W.eq (g2 := F0 m 26 ls (.int r6 :: [])) rfl ?_
        refine lv_istore_n (lv' := [(3, .int r6), (0, .ref (adr ad a' 0)), (1, .int p1), (2, .int p2)]) hx hb dX6_clash_26 rfl hl (by decide) rfl (fun ls hl => ?_)
        refine lv_iload_n hx hb dX6_clash_27 rfl (lv_at hl 0 rfl) ?_
        refine lv_bipush (v := (-9)) hx hb dX6_clash_28 (by decide) ?_
        refine lv_icmp_ne (tgt := 36) hx hb dX6_clash_30 (by decide) (fun c7 => ?_) (fun c7 => ?_)
        · have hf := (if_neg c7).symm.trans hf
          refine lv_iload_n hx hb dX6_clash_36 rfl (lv_at hl 3 rfl) ?_
          refine lv_if_ne (tgt := 47) hx hb dX6_clash_37 (by decide) (fun c8 => ?_) (fun c8 => ?_)
          · have hf := (if_neg c8).symm.trans hf
            refine lv_iload_n hx hb dX6_clash_47 rfl (lv_at hl 0 rfl) ?_
            replace hf := Option.some.inj hf
            subst hf
            exact ka_iret hE hw hQ dX6_clash_48 rfl rfl
          · have hf := (if_pos c8).symm.trans hf
            refine lv_iload_n hx hb dX6_clash_40 rfl (lv_at hl 0 rfl) ?_
            obtain ⟨r9, er9, hf⟩ := ks_nm hf
            refine ke_S hE hw hl.1 cl_X6_164 [.int r6] (c_J6_bitCount_0f7a4 l D cA st ad a' _ _ _ er9.symm) rfl (ke_room hRm rfl rfl) (ka_cnt hCs) (Nat.le_of_ble_eq_true rfl) rfl dX6_clash_41 (fun H locs hw => ?_)
            refine W.eq (g2 := F0 m 44 ls (.int r9 :: [])) rfl ?_
            refine lv_goto (tgt := 48) hx hb dX6_clash_44 (by decide) ?_
            replace hf := Option.some.inj hf
            subst hf
            exact ka_iret hE hw hQ dX6_clash_48 rfl rfl
        · have hf := (if_pos c7).symm.trans hf
          refine lv_bipush (v := (-9)) hx hb dX6_clash_33 (by decide) ?_
          replace hf := Option.some.inj hf
          subst hf
          exact ka_iret hE hw hQ dX6_clash_35 rfl rfl
      · have hf := (if_neg c4).symm.trans hf
        refine lv_iconst (v := (-1)) hx hb dX6_clash_16 (by decide) ?_
        refine W.widen (k := 1) (n := Sn) (Nat.zero_le _) (Nat.zero_le _) ?_
        replace hf := Option.some.inj hf
        subst hf
        exact ka_iret hE hw hQ dX6_clash_17 rfl rfl
set_option maxHeartbeats 4000000 in
set_option maxRecDepth 100000 in
theorem d_X6_ask (l : Launch) (D : va_G) (cA : Nat → ClassId) (st ad : Nat → Nat) (a : Nat)  (τ : Tau) (p1 : Int32) (R : (Int32 × Tau)) (Sn : Nat) (hSn : tI R.2 26 0 ≠ tI τ 26 0 → mkNeed τ ≤ Sn) (hf : fX6_ask τ p1 = some R) : KA ΛX 29 D cA st ad l yX6_ask cX6_ask 9 (some .int) 5 116 Sn [.ref (adr ad a 0), .int p1] a τ (some (.int R.1)) R.2 := by
  refine KA.of "KindSayings" rfl (by decide) (Nat.le_of_ble_eq_true rfl) (fun p e s m args below meth c A ls Rm Q hE hRm hQ hCs hw hl => ?_)
  obtain ⟨hx, hb, hml, hown, hts, -⟩ := id hE
  have hl : lv_has ls 9 [(0, .ref (adr ad a 0)), (1, .int p1)] := hl
  have L38 : ∀ (n38 : Nat) (τ : Tau) (x_3 : Int32) (x_4 : Int32) (x_5 : Int32) (x_6 : Int32) (a' : Nat) (H : Heap) (locs : List Loc) (ls : Array Slot), fX6_ask_38 p1 n38 τ x_3 x_4 x_5 x_6 = some R → Wd ΛX 29 D cA ad A s a' τ H locs → lv_has ls 9 [(1, .int p1), (2, .ref (adr ad a' 17)), (3, .int x_3), (4, .int x_4), (5, .int x_5), (6, .int x_6)] → W p l e Rm s m args below meth c H locs 1 Sn Q (F0 m 38 ls []) := by
    intro n38
    induction n38 with
    | zero => intro τ x_3 x_4 x_5 x_6 a' H locs ls hf hw hl; exact absurd hf (by rw [fX6_ask_38]; simp)
    | succ n38 ih38 =>
      have L83 : ∀ (τ : Tau) (x_3 : Int32) (x_4 : Int32) (x_5 : Int32) (x_6 : Int32) (a' : Nat) (H : Heap) (locs : List Loc) (ls : Array Slot), fX6_ask_83 p1 (fX6_ask_38 p1 n38) τ x_3 x_4 x_5 x_6 = some R → Wd ΛX 29 D cA ad A s a' τ H locs → lv_has ls 9 [(1, .int p1), (2, .ref (adr ad a' 17)), (3, .int x_3), (4, .int x_4), (5, .int x_5), (6, .int x_6)] → W p l e Rm s m args below meth c H locs 1 Sn Q (F0 m 83 ls []) := by
        intro τ x_3 x_4 x_5 x_6 a' H locs ls hf hw hl
        unfold fX6_ask_83 at hf
        obtain ⟨x11, ex11, hf⟩ := ks_nm hf
        refine lv_iinc (v := x11) (lv' := [(6, .int x11), (1, .int p1), (2, .ref (adr ad a' 17)), (3, .int x_3), (4, .int x_4), (5, .int x_5)]) hx hb dX6_ask_83 hl (k := 5) rfl (by rw [ex11]; rfl) (by decide) rfl (fun ls hl => ?_)
        refine lv_goto (tgt := 38) hx hb dX6_ask_86 (by decide) ?_
        exact ih38 _ _ _ _ _ _ _ _ _ hf hw (lv_sub hl [1, 2, 3, 4, 5, 0] rfl)
      intro τ x_3 x_4 x_5 x_6 a' H locs ls hf hw hl
      rw [fX6_ask_38] at hf
      refine lv_iload hx hb dX6_ask_38 (lv_at hl 5 rfl) ?_
      refine lv_bipush (v := 10) hx hb dX6_ask_40 (by decide) ?_
      refine lv_icmp_ge (tgt := 89) hx hb dX6_ask_42 (by decide) (fun c7 => ?_) (fun c7 => ?_)
      · have hf := (if_pos c7).symm.trans hf
        refine lv_iload hx hb dX6_ask_89 (lv_at hl 3 rfl) ?_
        replace hf := Option.some.inj hf
        subst hf
        exact ka_iret hE hw hQ dX6_ask_91 rfl rfl
      · have hf := (if_neg c7).symm.trans hf
        refine lv_aload_n hx hb dX6_ask_45 rfl (lv_at hl 1 rfl) ?_
        refine lv_iload_n hx hb dX6_ask_46 rfl (lv_at hl 0 rfl) ?_
        refine lv_iconst (v := 1) hx hb dX6_ask_47 (by decide) ?_
        refine lv_iload hx hb dX6_ask_48 (lv_at hl 5 rfl) ?_
        refine lv_ishl hx hb dX6_ask_50 ?_
        refine lv_ior hx hb dX6_ask_51 ?_
        obtain ⟨r8, er8, hf⟩ := ks_bind hf
        refine ke_V hE hw hl.1 cl_X6_141 17 ltX_17 lyX_17 rfl [.int (p1 ||| ((1 : Int32) <<< (x_6 &&& 31)))] (c_X0_worldsOf l D cA st ad a' _ _ _ er8) rfl (ke_room hRm rfl rfl) (ka_cnt hCs) (Nat.le_of_ble_eq_true rfl) rfl dX6_ask_52 (fun H locs hw => ?_)
        refine W.eq (g2 := F0 m 55 ls (.int r8 :: [])) rfl ?_
        refine lv_istore (lv' := [(7, .int r8), (1, .int p1), (2, .ref (adr ad a' 17)), (3, .int x_3), (4, .int x_4), (5, .int x_5), (6, .int x_6)]) hx hb dX6_ask_55 hl (by decide) rfl (fun ls hl => ?_)
        refine lv_iload hx hb dX6_ask_57 (lv_at hl 0 rfl) ?_
        refine lv_iload_n hx hb dX6_ask_59 rfl (lv_at hl 3 rfl) ?_
        refine lv_iload hx hb dX6_ask_60 (lv_at hl 0 rfl) ?_
        refine lv_isub hx hb dX6_ask_62 ?_
        refine va_mmax hx hb (hE.2.2.1.trans hl.1.symm) hown (hts _ w_620) (hts _ w_621) (hts _ w_74) (hts _ w_622) (by rw [hRm.1]; decide) (by rw [hRm.2]; exact Nat.le_of_ble_eq_true rfl) (ka_cnt hCs).1 (ka_cnt hCs).2 dX6_ask_63 ?_
        refine W.eq (g2 := F0 m 66 ls (.int (if r8 < (x_3 - r8) then (x_3 - r8) else r8) :: [])) rfl ?_
        obtain ⟨x9, ex9, hf⟩ := ks_nm hf
        refine W.eq (g2 := F0 m 66 ls (.int x9 :: [])) (by rw [ex9]) ?_
        refine lv_istore (lv' := [(8, .int x9), (7, .int r8), (1, .int p1), (2, .ref (adr ad a' 17)), (3, .int x_3), (4, .int x_4), (5, .int x_5), (6, .int x_6)]) hx hb dX6_ask_66 hl (by decide) rfl (fun ls hl => ?_)
        refine lv_iload hx hb dX6_ask_68 (lv_at hl 0 rfl) ?_
        refine lv_iload hx hb dX6_ask_70 (lv_at hl 6 rfl) ?_
        refine lv_icmp_ge (tgt := 83) hx hb dX6_ask_72 (by decide) (fun c10 => ?_) (fun c10 => ?_)
        · have hf := (if_pos c10).symm.trans hf
          exact L83 _ _ _ _ _ _ _ _ _ hf hw (lv_sub hl [2, 3, 4, 5, 6, 7] rfl)
        · have hf := (if_neg c10).symm.trans hf
          refine lv_iload hx hb dX6_ask_75 (lv_at hl 0 rfl) ?_
          refine lv_istore (lv' := [(5, .int x9), (8, .int x9), (7, .int r8), (1, .int p1), (2, .ref (adr ad a' 17)), (3, .int x_3), (4, .int x_4), (6, .int x_6)]) hx hb dX6_ask_77 hl (by decide) rfl (fun ls hl => ?_)
          refine lv_iload hx hb dX6_ask_79 (lv_at hl 7 rfl) ?_
          refine lv_istore (lv' := [(4, .int x_6), (5, .int x9), (8, .int x9), (7, .int r8), (1, .int p1), (2, .ref (adr ad a' 17)), (3, .int x_3), (6, .int x_6)]) hx hb dX6_ask_81 hl (by decide) rfl (fun ls hl => ?_)
          exact L83 _ _ _ _ _ _ _ _ _ hf hw (lv_sub hl [4, 5, 6, 0, 1, 7] rfl)
  unfold fX6_ask at hf
  refine lv_iload_n hx hb dX6_ask_0 rfl (lv_at hl 1 rfl) ?_
  obtain ⟨r1, er1, hf⟩ := ks_nm hf
  refine ke_S hE hw hl.1 cl_X6_134 [.int p1] (c_X6_isSet l D cA st ad a _ _ _ er1.symm) rfl (ke_room hRm rfl rfl) ke_cnt (Nat.le_of_ble_eq_true rfl) rfl dX6_ask_1 (fun H locs hw => ?_)
  refine W.eq (g2 := F0 m 4 ls (.int (bI r1) :: [])) rfl ?_
  refine lv_if_ne (tgt := 9) hx hb dX6_ask_4 (by decide) (fun c2 => ?_) (fun c2 => ?_)
  · have hf := (if_neg c2).symm.trans hf
    refine lv_aload_n hx hb dX6_ask_9 rfl (lv_at hl 0 rfl) ?_
    obtain ⟨r3, er3, hf⟩ := ks_bind hf
    have hS2 : R.2 = r3 := by
      obtain ⟨r9, _, hz⟩ := ks_bind hf
      split at hz
      · cases hz; rfl
      · obtain ⟨r8, _, hz⟩ := ks_nm hz
        exact t_ask _ _ _ _ _ _ _ _ hz
    refine ka_V hE hw hl.1 cl_X6_137 0 ltX_0 lyX_0 rfl [] (d_X6_freshHeaps l D cA st ad a _ _ Sn (fun z => hSn (by rw [hS2]; exact z)) er3) rfl (ke_room hRm rfl rfl) hCs (Nat.le_of_ble_eq_true rfl) rfl dX6_ask_10 (fun a' H locs hw => ?_)
    have hl : lv_has ls 9 [(0, .ref (adr ad a' 0)), (1, .int p1)] := hl
    refine W.eq (g2 := F0 m 13 ls (.ref (adr ad a' 17) :: [])) rfl ?_
    refine lv_astore_n (lv' := [(2, .ref (adr ad a' 17)), (0, .ref (adr ad a' 0)), (1, .int p1)]) hx hb dX6_ask_13 rfl hl (by decide) rfl (fun ls hl => ?_)
    refine lv_aload_n hx hb dX6_ask_14 rfl (lv_at hl 0 rfl) ?_
    refine lv_iload_n hx hb dX6_ask_15 rfl (lv_at hl 2 rfl) ?_
    obtain ⟨r4, er4, hf⟩ := ks_bind hf
    refine ke_V hE hw hl.1 cl_X6_141 17 ltX_17 lyX_17 rfl [.int p1] (c_X0_worldsOf l D cA st ad a' _ _ _ er4) rfl (ke_room hRm rfl rfl) (ka_cnt hCs) (Nat.le_of_ble_eq_true rfl) rfl dX6_ask_16 (fun H locs hw => ?_)
    refine W.eq (g2 := F0 m 19 ls (.int r4 :: [])) rfl ?_
    refine lv_istore_n (lv' := [(3, .int r4), (2, .ref (adr ad a' 17)), (0, .ref (adr ad a' 0)), (1, .int p1)]) hx hb dX6_ask_19 rfl hl (by decide) rfl (fun ls hl => ?_)
    refine lv_iload_n hx hb dX6_ask_20 rfl (lv_at hl 0 rfl) ?_
    refine lv_if_ne (tgt := 27) hx hb dX6_ask_21 (by decide) (fun c5 => ?_) (fun c5 => ?_)
    · have hf := (if_neg c5).symm.trans hf
      refine lv_iconst (v := 0) hx hb dX6_ask_27 (by decide) ?_
      refine lv_istore (lv' := [(4, .int (0 : Int32)), (3, .int r4), (2, .ref (adr ad a' 17)), (0, .ref (adr ad a' 0)), (1, .int p1)]) hx hb dX6_ask_28 hl (by decide) rfl (fun ls hl => ?_)
      refine lv_iload_n hx hb dX6_ask_30 rfl (lv_at hl 1 rfl) ?_
      refine lv_iconst (v := 1) hx hb dX6_ask_31 (by decide) ?_
      refine lv_iadd hx hb dX6_ask_32 ?_
      obtain ⟨x6, ex6, hf⟩ := ks_nm hf
      refine W.eq (g2 := F0 m 33 ls (.int x6 :: [])) (by rw [ex6]) ?_
      refine lv_istore (lv' := [(5, .int x6), (4, .int (0 : Int32)), (3, .int r4), (2, .ref (adr ad a' 17)), (0, .ref (adr ad a' 0)), (1, .int p1)]) hx hb dX6_ask_33 hl (by decide) rfl (fun ls hl => ?_)
      refine lv_iconst (v := 0) hx hb dX6_ask_35 (by decide) ?_
      refine lv_istore (lv' := [(6, .int (0 : Int32)), (5, .int x6), (4, .int (0 : Int32)), (3, .int r4), (2, .ref (adr ad a' 17)), (0, .ref (adr ad a' 0)), (1, .int p1)]) hx hb dX6_ask_36 hl (by decide) rfl (fun ls hl => ?_)
      exact L38 FU _ _ _ _ _ _ _ _ _ hf hw (lv_sub hl [6, 4, 3, 2, 1, 0] rfl)
    · have hf := (if_pos c5).symm.trans hf
      refine lv_bipush (v := (-2)) hx hb dX6_ask_24 (by decide) ?_
      replace hf := Option.some.inj hf
      subst hf
      exact ka_iret hE hw hQ dX6_ask_26 rfl rfl
  · have hf := (if_pos c2).symm.trans hf
    refine lv_iconst (v := (-1)) hx hb dX6_ask_7 (by decide) ?_
    refine W.widen (k := 1) (n := Sn) (Nat.zero_le _) (Nat.zero_le _) ?_
    replace hf := Option.some.inj hf
    subst hf
    exact ka_iret hE hw hQ dX6_ask_8 rfl rfl
set_option maxHeartbeats 4000000 in
set_option maxRecDepth 100000 in
theorem d_X6_heaps (l : Launch) (D : va_G) (cA : Nat → ClassId) (st ad : Nat → Nat) (a : Nat)  (τ : Tau) (p1 : Int32) (R : (Int32 × Tau)) (Sn : Nat) (hSn : tI R.2 26 0 ≠ tI τ 26 0 → mkNeed τ ≤ Sn) (hf : fX6_heaps τ p1 = some R) : KA ΛX 29 D cA st ad l yX6_heaps cX6_heaps 2 (some .int) 5 116 Sn [.ref (adr ad a 0), .int p1] a τ (some (.int R.1)) R.2 := by
  refine KA.of "KindSayings" rfl (by decide) (Nat.le_of_ble_eq_true rfl) (fun p e s m args below meth c A ls Rm Q hE hRm hQ hCs hw hl => ?_)
  obtain ⟨hx, hb, hml, hown, hts, -⟩ := id hE
  have hl : lv_has ls 2 [(0, .ref (adr ad a 0)), (1, .int p1)] := hl
  unfold fX6_heaps at hf
  refine lv_iload_n hx hb dX6_heaps_0 rfl (lv_at hl 1 rfl) ?_
  obtain ⟨r1, er1, hf⟩ := ks_nm hf
  refine ke_S hE hw hl.1 cl_X6_134 [.int p1] (c_X6_isSet l D cA st ad a _ _ _ er1.symm) rfl (ke_room hRm rfl rfl) ke_cnt (Nat.le_of_ble_eq_true rfl) rfl dX6_heaps_1 (fun H locs hw => ?_)
  refine W.eq (g2 := F0 m 4 ls (.int (bI r1) :: [])) rfl ?_
  refine lv_if_ne (tgt := 9) hx hb dX6_heaps_4 (by decide) (fun c2 => ?_) (fun c2 => ?_)
  · have hf := (if_neg c2).symm.trans hf
    refine lv_aload_n hx hb dX6_heaps_9 rfl (lv_at hl 0 rfl) ?_
    obtain ⟨r3, er3, hf⟩ := ks_bind hf
    have hS2 : R.2 = r3 := by
      obtain ⟨r9, _, hz⟩ := ks_bind hf
      cases hz
      rfl
    refine ka_V hE hw hl.1 cl_X6_137 0 ltX_0 lyX_0 rfl [] (d_X6_freshHeaps l D cA st ad a _ _ Sn (fun z => hSn (by rw [hS2]; exact z)) er3) rfl (ke_room hRm rfl rfl) hCs (Nat.le_of_ble_eq_true rfl) rfl dX6_heaps_10 (fun a' H locs hw => ?_)
    have hl : lv_has ls 2 [(0, .ref (adr ad a' 0)), (1, .int p1)] := hl
    refine W.eq (g2 := F0 m 13 ls (.ref (adr ad a' 17) :: [])) rfl ?_
    refine lv_iload_n hx hb dX6_heaps_13 rfl (lv_at hl 1 rfl) ?_
    obtain ⟨r4, er4, hf⟩ := ks_bind hf
    refine ke_V hE hw hl.1 cl_X6_174 17 ltX_17 lyX_17 rfl [.int p1] (c_X0_heapsOf l D cA st ad a' _ _ _ er4) rfl (ke_room hRm rfl rfl) (ka_cnt hCs) (Nat.le_of_ble_eq_true rfl) rfl dX6_heaps_14 (fun H locs hw => ?_)
    refine W.eq (g2 := F0 m 17 ls (.int r4 :: [])) rfl ?_
    replace hf := Option.some.inj hf
    subst hf
    exact ka_iret hE hw hQ dX6_heaps_17 rfl rfl
  · have hf := (if_pos c2).symm.trans hf
    refine lv_iconst (v := (-1)) hx hb dX6_heaps_7 (by decide) ?_
    refine W.widen (k := 1) (n := Sn) (Nat.zero_le _) (Nat.zero_le _) ?_
    replace hf := Option.some.inj hf
    subst hf
    exact ka_iret hE hw hQ dX6_heaps_8 rfl rfl
set_option maxHeartbeats 4000000 in
set_option maxRecDepth 100000 in
theorem d_X6_twin (l : Launch) (D : va_G) (cA : Nat → ClassId) (st ad : Nat → Nat) (a : Nat)  (τ : Tau) (p1 : Int32) (R : (Int32 × Tau)) (Sn : Nat) (hSn : tI R.2 26 0 ≠ tI τ 26 0 → mkNeed τ ≤ Sn) (hf : fX6_twin τ p1 = some R) : KA ΛX 29 D cA st ad l yX6_twin cX6_twin 4 (some .int) 5 116 Sn [.ref (adr ad a 0), .int p1] a τ (some (.int R.1)) R.2 := by
  refine KA.of "KindSayings" rfl (by decide) (Nat.le_of_ble_eq_true rfl) (fun p e s m args below meth c A ls Rm Q hE hRm hQ hCs hw hl => ?_)
  obtain ⟨hx, hb, hml, hown, hts, -⟩ := id hE
  have hl : lv_has ls 4 [(0, .ref (adr ad a 0)), (1, .int p1)] := hl
  have L17 : ∀ (n17 : Nat) (τ : Tau) (x_3 : Int32) (a' : Nat) (H : Heap) (locs : List Loc) (ls : Array Slot), fX6_twin_17 p1 n17 τ x_3 = some R → Wd ΛX 29 D cA ad A s a' τ H locs → lv_has ls 4 [(1, .int p1), (2, .ref (adr ad a' 17)), (3, .int x_3)] → W p l e Rm s m args below meth c H locs 1 Sn Q (F0 m 17 ls []) := by
    intro n17
    induction n17 with
    | zero => intro τ x_3 a' H locs ls hf hw hl; exact absurd hf (by rw [fX6_twin_17]; simp)
    | succ n17 ih17 =>
      have L52 : ∀ (τ : Tau) (x_3 : Int32) (a' : Nat) (H : Heap) (locs : List Loc) (ls : Array Slot), fX6_twin_52 p1 (fX6_twin_17 p1 n17) τ x_3 = some R → Wd ΛX 29 D cA ad A s a' τ H locs → lv_has ls 4 [(1, .int p1), (2, .ref (adr ad a' 17)), (3, .int x_3)] → W p l e Rm s m args below meth c H locs 1 Sn Q (F0 m 52 ls []) := by
        intro τ x_3 a' H locs ls hf hw hl
        unfold fX6_twin_52 at hf
        obtain ⟨x9, ex9, hf⟩ := ks_nm hf
        refine lv_iinc (v := x9) (lv' := [(3, .int x9), (1, .int p1), (2, .ref (adr ad a' 17))]) hx hb dX6_twin_52 hl (k := 2) rfl (by rw [ex9]; rfl) (by decide) rfl (fun ls hl => ?_)
        refine lv_goto (tgt := 17) hx hb dX6_twin_55 (by decide) ?_
        exact ih17 _ _ _ _ _ _ hf hw (lv_sub hl [1, 2, 0] rfl)
      intro τ x_3 a' H locs ls hf hw hl
      rw [fX6_twin_17] at hf
      refine lv_iload_n hx hb dX6_twin_17 rfl (lv_at hl 2 rfl) ?_
      refine lv_bipush (v := 10) hx hb dX6_twin_18 (by decide) ?_
      refine lv_icmp_ge (tgt := 58) hx hb dX6_twin_20 (by decide) (fun c3 => ?_) (fun c3 => ?_)
      · have hf := (if_pos c3).symm.trans hf
        refine lv_bipush (v := (-9)) hx hb dX6_twin_58 (by decide) ?_
        replace hf := Option.some.inj hf
        subst hf
        exact ka_iret hE hw hQ dX6_twin_60 rfl rfl
      · have hf := (if_neg c3).symm.trans hf
        refine lv_iload_n hx hb dX6_twin_23 rfl (lv_at hl 2 rfl) ?_
        refine lv_iload_n hx hb dX6_twin_24 rfl (lv_at hl 0 rfl) ?_
        refine lv_icmp_eq (tgt := 52) hx hb dX6_twin_25 (by decide) (fun c4 => ?_) (fun c4 => ?_)
        · have hf := (if_pos c4).symm.trans hf
          exact L52 _ _ _ _ _ _ hf hw (lv_sub hl [0, 1, 2] rfl)
        · have hf := (if_neg c4).symm.trans hf
          refine lv_aload_n hx hb dX6_twin_28 rfl (lv_at hl 1 rfl) ?_
          refine lv_iconst (v := 1) hx hb dX6_twin_29 (by decide) ?_
          refine lv_iload_n hx hb dX6_twin_30 rfl (lv_at hl 0 rfl) ?_
          refine lv_ishl hx hb dX6_twin_31 ?_
          refine lv_iload_n hx hb dX6_twin_32 rfl (lv_at hl 2 rfl) ?_
          obtain ⟨r5, er5, hf⟩ := ks_bind hf
          refine ke_V hE hw hl.1 cl_X6_154 17 ltX_17 lyX_17 rfl [.int ((1 : Int32) <<< (p1 &&& 31)), .int x_3] (c_X0_isFollowing l D cA st ad a' _ _ _ _ er5) rfl (ke_room hRm rfl rfl) (ka_cnt hCs) (Nat.le_of_ble_eq_true rfl) rfl dX6_twin_33 (fun H locs hw => ?_)
          refine W.eq (g2 := F0 m 36 ls (.int (bI r5) :: [])) rfl ?_
          refine lv_if_eq (tgt := 52) hx hb dX6_twin_36 (by decide) (fun c6 => ?_) (fun c6 => ?_)
          · have hf := (if_pos c6).symm.trans hf
            exact L52 _ _ _ _ _ _ hf hw (lv_sub hl [0, 1, 2] rfl)
          · have hf := (if_neg c6).symm.trans hf
            refine lv_aload_n hx hb dX6_twin_39 rfl (lv_at hl 1 rfl) ?_
            refine lv_iconst (v := 1) hx hb dX6_twin_40 (by decide) ?_
            refine lv_iload_n hx hb dX6_twin_41 rfl (lv_at hl 2 rfl) ?_
            refine lv_ishl hx hb dX6_twin_42 ?_
            refine lv_iload_n hx hb dX6_twin_43 rfl (lv_at hl 0 rfl) ?_
            obtain ⟨r7, er7, hf⟩ := ks_bind hf
            refine ke_V hE hw hl.1 cl_X6_154 17 ltX_17 lyX_17 rfl [.int ((1 : Int32) <<< (x_3 &&& 31)), .int p1] (c_X0_isFollowing l D cA st ad a' _ _ _ _ er7) rfl (ke_room hRm rfl rfl) (ka_cnt hCs) (Nat.le_of_ble_eq_true rfl) rfl dX6_twin_44 (fun H locs hw => ?_)
            refine W.eq (g2 := F0 m 47 ls (.int (bI r7) :: [])) rfl ?_
            refine lv_if_eq (tgt := 52) hx hb dX6_twin_47 (by decide) (fun c8 => ?_) (fun c8 => ?_)
            · have hf := (if_pos c8).symm.trans hf
              exact L52 _ _ _ _ _ _ hf hw (lv_sub hl [0, 1, 2] rfl)
            · have hf := (if_neg c8).symm.trans hf
              refine lv_iload_n hx hb dX6_twin_50 rfl (lv_at hl 2 rfl) ?_
              replace hf := Option.some.inj hf
              subst hf
              exact ka_iret hE hw hQ dX6_twin_51 rfl rfl
  unfold fX6_twin at hf
  refine lv_aload_n hx hb dX6_twin_0 rfl (lv_at hl 0 rfl) ?_
  refine lv_iload_n hx hb dX6_twin_1 rfl (lv_at hl 1 rfl) ?_
  by_cases c1 : (p1 < 0 ∨ 10 ≤ p1.toNatClampNeg)
  · have hf := (if_pos c1).symm.trans hf
    refine ke_V hE hw hl.1 cl_X6_72 0 ltX_0 lyX_0 rfl [.int p1] (c_X6_sayingAt_out l D cA st ad a _ _ c1) rfl (ke_room hRm rfl rfl) ke_cnt (Nat.le_of_ble_eq_true rfl) rfl dX6_twin_2 (fun H locs hw => ?_)
    refine lv_ifnonnullN hx hb dX6_twin_5 ?_
    refine lv_iconst (v := (-1)) hx hb dX6_twin_8 (by decide) ?_
    refine W.widen (k := 1) (n := Sn) (Nat.zero_le _) (Nat.zero_le _) ?_
    replace hf := Option.some.inj hf
    subst hf
    exact ka_iret hE hw hQ dX6_twin_9 rfl rfl
  · have hf := (if_neg c1).symm.trans hf
    refine ke_V hE hw hl.1 cl_X6_72 0 ltX_0 lyX_0 rfl [.int p1] (c_X6_sayingAt_in l D cA st ad a _ _ c1) rfl (ke_room hRm rfl rfl) ke_cnt (Nat.le_of_ble_eq_true rfl) rfl dX6_twin_2 (fun H locs hw => ?_)
    refine lv_ifnonnull (tgt := 10) hx hb dX6_twin_5 (by decide) ?_
    refine lv_aload_n hx hb dX6_twin_10 rfl (lv_at hl 0 rfl) ?_
    obtain ⟨r2, er2, hf⟩ := ks_bind hf
    have hS2 : R.2 = r2 := by
      exact t_twin _ _ _ _ _ hf
    refine ka_V hE hw hl.1 cl_X6_137 0 ltX_0 lyX_0 rfl [] (d_X6_freshHeaps l D cA st ad a _ _ Sn (fun z => hSn (by rw [hS2]; exact z)) er2) rfl (ke_room hRm rfl rfl) hCs (Nat.le_of_ble_eq_true rfl) rfl dX6_twin_11 (fun a' H locs hw => ?_)
    have hl : lv_has ls 4 [(0, .ref (adr ad a' 0)), (1, .int p1)] := hl
    refine W.eq (g2 := F0 m 14 ls (.ref (adr ad a' 17) :: [])) rfl ?_
    refine lv_astore_n (lv' := [(2, .ref (adr ad a' 17)), (0, .ref (adr ad a' 0)), (1, .int p1)]) hx hb dX6_twin_14 rfl hl (by decide) rfl (fun ls hl => ?_)
    refine lv_iconst (v := 0) hx hb dX6_twin_15 (by decide) ?_
    refine lv_istore_n (lv' := [(3, .int (0 : Int32)), (2, .ref (adr ad a' 17)), (0, .ref (adr ad a' 0)), (1, .int p1)]) hx hb dX6_twin_16 rfl hl (by decide) rfl (fun ls hl => ?_)
    exact L17 FU _ _ _ _ _ _ hf hw (lv_sub hl [3, 1, 0] rfl)
set_option maxHeartbeats 4000000 in
set_option maxRecDepth 100000 in
theorem d_X6_shown (l : Launch) (D : va_G) (cA : Nat → ClassId) (st ad : Nat → Nat) (a : Nat)  (τ : Tau) (p1 : Int32) (p2 : Int32) (R : (Int32 × Tau)) (Sn : Nat) (hSn : ∀ r, fX6_work τ p1 = some r → tI R.2 26 0 ≠ tI r 26 0 → mkNeed r ≤ Sn) (hf : fX6_shown τ p1 p2 = some R) : KA ΛX 29 D cA st ad l yX6_shown cX6_shown 5 (some .int) 6 149 Sn [.ref (adr ad a 0), .int p1, .int p2] a τ (some (.int R.1)) R.2 := by
  refine KA.of "KindSayings" rfl (by decide) (Nat.le_of_ble_eq_true rfl) (fun p e s m args below meth c A ls Rm Q hE hRm hQ hCs hw hl => ?_)
  obtain ⟨hx, hb, hml, hown, hts, -⟩ := id hE
  have hl : lv_has ls 5 [(0, .ref (adr ad a 0)), (1, .int p1), (2, .int p2)] := hl
  unfold fX6_shown at hf
  refine lv_iload_n hx hb dX6_shown_0 rfl (lv_at hl 1 rfl) ?_
  obtain ⟨r1, er1, hf⟩ := ks_nm hf
  refine ke_S hE hw hl.1 cl_X6_134 [.int p1] (c_X6_isSet l D cA st ad a _ _ _ er1.symm) rfl (ke_room hRm rfl rfl) ke_cnt (Nat.le_of_ble_eq_true rfl) rfl dX6_shown_1 (fun H locs hw => ?_)
  refine W.eq (g2 := F0 m 4 ls (.int (bI r1) :: [])) rfl ?_
  refine lv_if_eq (tgt := 16) hx hb dX6_shown_4 (by decide) (fun c2 => ?_) (fun c2 => ?_)
  · have hf := (if_pos c2).symm.trans hf
    refine lv_iconst (v := (-1)) hx hb dX6_shown_16 (by decide) ?_
    refine W.widen (k := 1) (n := Sn) (Nat.zero_le _) (Nat.zero_le _) ?_
    replace hf := Option.some.inj hf
    subst hf
    exact ka_iret hE hw hQ dX6_shown_17 rfl rfl
  · have hf := (if_neg c2).symm.trans hf
    refine lv_iload_n hx hb dX6_shown_7 rfl (lv_at hl 2 rfl) ?_
    refine lv_if_lt (tgt := 16) hx hb dX6_shown_8 (by decide) (fun c3 => ?_) (fun c3 => ?_)
    · have hf := (if_pos c3).symm.trans hf
      refine lv_iconst (v := (-1)) hx hb dX6_shown_16 (by decide) ?_
      refine W.widen (k := 1) (n := Sn) (Nat.zero_le _) (Nat.zero_le _) ?_
      replace hf := Option.some.inj hf
      subst hf
      exact ka_iret hE hw hQ dX6_shown_17 rfl rfl
    · have hf := (if_neg c3).symm.trans hf
      refine lv_iload_n hx hb dX6_shown_11 rfl (lv_at hl 2 rfl) ?_
      refine lv_iconst (v := 3) hx hb dX6_shown_12 (by decide) ?_
      refine lv_icmp_le (tgt := 18) hx hb dX6_shown_13 (by decide) (fun c4 => ?_) (fun c4 => ?_)
      · have hf := (if_pos c4).symm.trans hf
        refine lv_aload_n hx hb dX6_shown_18 rfl (lv_at hl 0 rfl) ?_
        refine lv_iload_n hx hb dX6_shown_19 rfl (lv_at hl 1 rfl) ?_
        obtain ⟨r5, er5, hf⟩ := ks_bind hf
        refine ke_V hE hw hl.1 cl_X6_181 0 ltX_0 lyX_0 rfl [.int p1] (c_X6_work l D cA st ad a _ _ _ er5) rfl (ke_room hRm rfl rfl) ke_cnt (Nat.le_of_ble_eq_true rfl) rfl dX6_shown_20 (fun H locs hw => ?_)
        refine W.eq (g2 := F0 m 23 ls ([])) rfl ?_
        refine lv_aload_n hx hb dX6_shown_23 rfl (lv_at hl 0 rfl) ?_
        refine ks_getR hE hw 0 4 ltX_0 lyX_0 rfl fd_X6_36 dX6_shown_24 ?_
        obtain ⟨r6, er6, hf⟩ := ks_bind hf
        refine ke_V hE hw hl.1 cl_X6_195 27 ltX_27 lyX_27 rfl [] (c_X1_facts l D cA st ad a _ _ er6) rfl (ke_room hRm rfl rfl) ke_cnt (Nat.le_of_ble_eq_true rfl) rfl dX6_shown_27 (fun H locs hw => ?_)
        refine W.eq (g2 := F0 m 30 ls (.long r6 :: [])) rfl ?_
        refine lv_lstore_n (lv' := [(3, .long r6), (0, .ref (adr ad a 0)), (1, .int p1), (2, .int p2)]) hx hb dX6_shown_30 rfl hl (by decide) rfl (fun ls hl => ?_)
        refine lv_iload_n hx hb dX6_shown_31 rfl (lv_at hl 3 rfl) ?_
        by_cases c7 : p2 = (0 : Int32)
        · have hf := (if_pos c7).symm.trans hf
          refine lv_tableIn (tgt := 60) hx hb dX6_shown_32 (by rw [c7]; decide) (by rw [c7]; decide) (by rw [c7]; rfl) (by decide) ?_
          refine lv_lload_n hx hb dX6_shown_60 rfl (lv_at hl 0 rfl) ?_
          obtain ⟨r10, er10, hf⟩ := ks_nm hf
          refine ke_S hE hw hl.1 cl_X6_199 [.long r6] (c_J13_bitCount_95d88 l D cA st ad a _ _ _ er10.symm) rfl (ke_room hRm rfl rfl) ke_cnt (Nat.le_of_ble_eq_true rfl) rfl dX6_shown_61 (fun H locs hw => ?_)
          refine W.eq (g2 := F0 m 64 ls (.int r10 :: [])) rfl ?_
          refine W.widen (k := 1) (n := Sn) (Nat.zero_le _) (Nat.zero_le _) ?_
          replace hf := Option.some.inj hf
          subst hf
          exact ka_iret hE hw hQ dX6_shown_64 rfl rfl
        · have hf := (if_neg c7).symm.trans hf
          by_cases c8 : p2 = (1 : Int32)
          · have hf := (if_pos c8).symm.trans hf
            refine lv_tableIn (tgt := 65) hx hb dX6_shown_32 (by rw [c8]; decide) (by rw [c8]; decide) (by rw [c8]; rfl) (by decide) ?_
            refine lv_aload_n hx hb dX6_shown_65 rfl (lv_at hl 1 rfl) ?_
            refine ks_getR hE hw 0 4 ltX_0 lyX_0 rfl fd_X6_36 dX6_shown_66 ?_
            refine ks_getI hE hw 27 7 ltX_27 lyX_27 rfl fd_X6_204 dX6_shown_69 ?_
            refine W.widen (k := 1) (n := Sn) (Nat.zero_le _) (Nat.zero_le _) ?_
            replace hf := Option.some.inj hf
            subst hf
            exact ka_iret hE hw hQ dX6_shown_72 rfl rfl
          · have hf := (if_neg c8).symm.trans hf
            by_cases c9 : p2 = (2 : Int32)
            · have hf := (if_pos c9).symm.trans hf
              refine lv_tableIn (tgt := 73) hx hb dX6_shown_32 (by rw [c9]; decide) (by rw [c9]; decide) (by rw [c9]; rfl) (by decide) ?_
              refine lv_lload_n hx hb dX6_shown_73 rfl (lv_at hl 0 rfl) ?_
              obtain ⟨r11, er11, hf⟩ := ks_nm hf
              refine ke_S hE hw hl.1 cl_X6_207 [.long r6] (c_X6_isQuarrel l D cA st ad a _ _ _ er11.symm) rfl (ke_room hRm rfl rfl) ke_cnt (Nat.le_of_ble_eq_true rfl) rfl dX6_shown_74 (fun H locs hw => ?_)
              refine W.eq (g2 := F0 m 77 ls (.int (bI r11) :: [])) rfl ?_
              obtain ⟨r12, er12, hf⟩ := ks_nm hf
              refine ke_S hE hw hl.1 cl_X6_83 [.int (bI r11)] (c_X6_bit l D cA st ad a _ _ _ er12.symm) rfl (ke_room hRm rfl rfl) ke_cnt (Nat.le_of_ble_eq_true rfl) rfl dX6_shown_77 (fun H locs hw => ?_)
              refine W.eq (g2 := F0 m 80 ls (.int r12 :: [])) rfl ?_
              refine W.widen (k := 1) (n := Sn) (Nat.zero_le _) (Nat.zero_le _) ?_
              replace hf := Option.some.inj hf
              subst hf
              exact ka_iret hE hw hQ dX6_shown_80 rfl rfl
            · have hf := (if_neg c9).symm.trans hf
              refine lv_tableOut (tgt := 81) hx hb dX6_shown_32 (by have := ks_sw c7 (k := 0) (by decide); have := ks_sw c8 (k := 1) (by decide); have := ks_sw c9 (k := 2) (by decide); omega) (by decide) ?_
              refine lv_aload_n hx hb dX6_shown_81 rfl (lv_at hl 1 rfl) ?_
              obtain ⟨r13, er13, hf⟩ := ks_bind hf
              have hS2 : tI R.2 26 0 = tI r13 26 0 := by
                obtain ⟨r9, e9, hz⟩ := ks_bind hf
                obtain ⟨r8, _, hz⟩ := ks_bind hz
                obtain ⟨r7, _, hz⟩ := ks_nm hz
                cases hz
                exact ((fr_X0_factsOf _ _ _ e9).1 26 0 (by decide)).1
              refine ka_V hE hw hl.1 cl_X6_137 0 ltX_0 lyX_0 rfl [] (d_X6_freshHeaps l D cA st ad a _ _ Sn (fun z => hSn _ er5 (by rw [hS2]; exact z)) er13) rfl (ke_room hRm rfl rfl) hCs (Nat.le_of_ble_eq_true rfl) rfl dX6_shown_82 (fun a' H locs hw => ?_)
              have hl : lv_has ls 5 [(3, .long r6), (0, .ref (adr ad a' 0)), (1, .int p1), (2, .int p2)] := hl
              refine W.eq (g2 := F0 m 85 ls (.ref (adr ad a' 17) :: [])) rfl ?_
              refine lv_iload_n hx hb dX6_shown_85 rfl (lv_at hl 2 rfl) ?_
              obtain ⟨r14, er14, hf⟩ := ks_bind hf
              refine ke_V hE hw hl.1 cl_X6_211 17 ltX_17 lyX_17 rfl [.int p1] (c_X0_factsOf l D cA st ad a' _ _ _ er14) rfl (ke_room hRm rfl rfl) (ka_cnt hCs) (Nat.le_of_ble_eq_true rfl) rfl dX6_shown_86 (fun H locs hw => ?_)
              refine W.eq (g2 := F0 m 89 ls (.long r14.1 :: [])) rfl ?_
              refine lv_aload_n hx hb dX6_shown_89 rfl (lv_at hl 1 rfl) ?_
              obtain ⟨r15, er15, hf⟩ := ks_bind hf
              refine ke_V hE hw hl.1 cl_X6_215 0 ltX_0 lyX_0 rfl [] (c_X6_everyFact l D cA st ad a' _ _ er15) rfl (ke_room hRm rfl rfl) (ka_cnt hCs) (Nat.le_of_ble_eq_true rfl) rfl dX6_shown_90 (fun H locs hw => ?_)
              refine W.eq (g2 := F0 m 93 ls (.long r15 :: .long r14.1 :: [])) rfl ?_
              refine lv_land hx hb dX6_shown_93 ?_
              refine lv_lload_n hx hb dX6_shown_94 rfl (lv_at hl 0 rfl) ?_
              refine lv_ldc2 hx hb hown (hts _ w_743) dX6_shown_95 ?_
              refine lv_lxor hx hb dX6_shown_98 ?_
              refine lv_land hx hb dX6_shown_99 ?_
              obtain ⟨r16, er16, hf⟩ := ks_nm hf
              refine ke_S hE hw hl.1 cl_X6_199 [.long ((r14.1 &&& r15) &&& (r6 ^^^ (-1 : Int64)))] (c_J13_bitCount_95d88 l D cA st ad a' _ _ _ er16.symm) rfl (ke_room hRm rfl rfl) (ka_cnt hCs) (Nat.le_of_ble_eq_true rfl) rfl dX6_shown_100 (fun H locs hw => ?_)
              refine W.eq (g2 := F0 m 103 ls (.int r16 :: [])) rfl ?_
              replace hf := Option.some.inj hf
              subst hf
              exact ka_iret hE hw hQ dX6_shown_103 rfl rfl
      · have hf := (if_neg c4).symm.trans hf
        refine lv_iconst (v := (-1)) hx hb dX6_shown_16 (by decide) ?_
        refine W.widen (k := 1) (n := Sn) (Nat.zero_le _) (Nat.zero_le _) ?_
        replace hf := Option.some.inj hf
        subst hf
        exact ka_iret hE hw hQ dX6_shown_17 rfl rfl

