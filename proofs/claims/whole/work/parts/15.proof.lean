def fX1_isTold (τ : Tau) (p1 : Int32) : Bool :=
 (if lg_cmp (((tL τ 27 1).toUInt64 >>> (p1.toInt64.toUInt64 &&& Int64.toUInt64 63)).toInt64 &&& (1 : Int64)) (0 : Int64) = 0 then
 false
 else
 true)
set_option maxHeartbeats 4000000 in
set_option maxRecDepth 100000 in
theorem c_X1_isTold (l : Launch) (D : va_G) (cA : Nat → ClassId) (st ad : Nat → Nat) (a : Nat)  (τ : Tau) (p1 : Int32) (R : Bool) (hf : fX1_isTold τ p1 = R) : KE ΛX 29 D cA st ad l yX1_isTold cX1_isTold 2 (some .boolean) 0 0 [.ref (adr ad a 27), .int p1] a τ (some (.int (bI R))) τ := by
  refine KE.of "KindSayings$Proof" rfl (by decide) (Nat.le_of_ble_eq_true rfl) (fun p e s m args below meth c A ls Rm Q hE hRm hQ hw hl => ?_)
  obtain ⟨hx, hb, hml, hown, hts, -⟩ := id hE
  have hl : lv_has ls 2 [(0, .ref (adr ad a 27)), (1, .int p1)] := hl
  unfold fX1_isTold at hf
  refine lv_aload_n hx hb dX1_isTold_0 rfl (lv_at hl 0 rfl) ?_
  refine ks_getL hE hw 27 1 ltX_27 lyX_27 rfl fd_X1_15 dX1_isTold_1 ?_
  refine lv_iload_n hx hb dX1_isTold_4 rfl (lv_at hl 1 rfl) ?_
  refine lv_lushr hx hb dX1_isTold_5 rfl ?_
  refine lv_lconst (v := 1) hx hb dX1_isTold_6 (by decide) ?_
  refine lv_land hx hb dX1_isTold_7 ?_
  refine lv_lconst (v := 0) hx hb dX1_isTold_8 (by decide) ?_
  refine W.lcmp hx hb dX1_isTold_9 ?_
  refine lv_if_eq (tgt := 17) hx hb dX1_isTold_10 (by decide) (fun c1 => ?_) (fun c1 => ?_)
  · have hf := (if_pos c1).symm.trans hf
    refine lv_iconst (v := 0) hx hb dX1_isTold_17 (by decide) ?_
    subst hf
    exact ke_zret hE hw hQ (Or.inl rfl) dX1_isTold_18 rfl rfl
  · have hf := (if_neg c1).symm.trans hf
    refine lv_iconst (v := 1) hx hb dX1_isTold_13 (by decide) ?_
    refine lv_goto (tgt := 18) hx hb dX1_isTold_14 (by decide) ?_
    subst hf
    exact ke_zret hE hw hQ (Or.inr rfl) dX1_isTold_18 rfl rfl
def fX1_isOfKinds (τ : Tau) (p1 : Int32) : Bool :=
 (if tI τ 27 4 ≤ ((p1 >>> ((2 : Int32) &&& 31)) &&& (3 : Int32)) then
 false
 else
 (if tI τ 27 4 ≤ (p1 &&& (3 : Int32)) then
 false
 else
 true))
set_option maxHeartbeats 4000000 in
set_option maxRecDepth 100000 in
theorem c_X1_isOfKinds (l : Launch) (D : va_G) (cA : Nat → ClassId) (st ad : Nat → Nat) (a : Nat)  (τ : Tau) (p1 : Int32) (R : Bool) (hf : fX1_isOfKinds τ p1 = R) : KE ΛX 29 D cA st ad l yX1_isOfKinds cX1_isOfKinds 2 (some .boolean) 0 0 [.ref (adr ad a 27), .int p1] a τ (some (.int (bI R))) τ := by
  refine KE.of "KindSayings$Proof" rfl (by decide) (Nat.le_of_ble_eq_true rfl) (fun p e s m args below meth c A ls Rm Q hE hRm hQ hw hl => ?_)
  obtain ⟨hx, hb, hml, hown, hts, -⟩ := id hE
  have hl : lv_has ls 2 [(0, .ref (adr ad a 27)), (1, .int p1)] := hl
  unfold fX1_isOfKinds at hf
  refine lv_iload_n hx hb dX1_isOfKinds_0 rfl (lv_at hl 1 rfl) ?_
  refine lv_iconst (v := 2) hx hb dX1_isOfKinds_1 (by decide) ?_
  refine lv_ishr hx hb dX1_isOfKinds_2 ?_
  refine lv_iconst (v := 3) hx hb dX1_isOfKinds_3 (by decide) ?_
  refine lv_iand hx hb dX1_isOfKinds_4 ?_
  refine lv_aload_n hx hb dX1_isOfKinds_5 rfl (lv_at hl 0 rfl) ?_
  refine ks_getI hE hw 27 4 ltX_27 lyX_27 rfl fd_X1_23 dX1_isOfKinds_6 ?_
  refine lv_icmp_ge (tgt := 26) hx hb dX1_isOfKinds_9 (by decide) (fun c1 => ?_) (fun c1 => ?_)
  · have hf := (if_pos c1).symm.trans hf
    refine lv_iconst (v := 0) hx hb dX1_isOfKinds_26 (by decide) ?_
    subst hf
    exact ke_zret hE hw hQ (Or.inl rfl) dX1_isOfKinds_27 rfl rfl
  · have hf := (if_neg c1).symm.trans hf
    refine lv_iload_n hx hb dX1_isOfKinds_12 rfl (lv_at hl 1 rfl) ?_
    refine lv_iconst (v := 3) hx hb dX1_isOfKinds_13 (by decide) ?_
    refine lv_iand hx hb dX1_isOfKinds_14 ?_
    refine lv_aload_n hx hb dX1_isOfKinds_15 rfl (lv_at hl 0 rfl) ?_
    refine ks_getI hE hw 27 4 ltX_27 lyX_27 rfl fd_X1_23 dX1_isOfKinds_16 ?_
    refine lv_icmp_ge (tgt := 26) hx hb dX1_isOfKinds_19 (by decide) (fun c2 => ?_) (fun c2 => ?_)
    · have hf := (if_pos c2).symm.trans hf
      refine lv_iconst (v := 0) hx hb dX1_isOfKinds_26 (by decide) ?_
      subst hf
      exact ke_zret hE hw hQ (Or.inl rfl) dX1_isOfKinds_27 rfl rfl
    · have hf := (if_neg c2).symm.trans hf
      refine lv_iconst (v := 1) hx hb dX1_isOfKinds_22 (by decide) ?_
      refine lv_goto (tgt := 27) hx hb dX1_isOfKinds_23 (by decide) ?_
      subst hf
      exact ke_zret hE hw hQ (Or.inr rfl) dX1_isOfKinds_27 rfl rfl
def fX1_isSame (τ : Tau) (p1 : Int32) : Bool :=
 (if (p1 >>> ((4 : Int32) &&& 31)) = 0 then
 nm (fX1_isOfKinds τ p1) (fun r2 =>
 (if bI r2 = 0 then
 false
 else
 (if ((p1 >>> ((2 : Int32) &&& 31)) &&& (3 : Int32)) = (p1 &&& (3 : Int32)) then
 true
 else
 false)))
 else
 false)
set_option maxHeartbeats 4000000 in
set_option maxRecDepth 100000 in
theorem c_X1_isSame (l : Launch) (D : va_G) (cA : Nat → ClassId) (st ad : Nat → Nat) (a : Nat)  (τ : Tau) (p1 : Int32) (R : Bool) (hf : fX1_isSame τ p1 = R) : KE ΛX 29 D cA st ad l yX1_isSame cX1_isSame 2 (some .boolean) 1 21 [.ref (adr ad a 27), .int p1] a τ (some (.int (bI R))) τ := by
  refine KE.of "KindSayings$Proof" rfl (by decide) (Nat.le_of_ble_eq_true rfl) (fun p e s m args below meth c A ls Rm Q hE hRm hQ hw hl => ?_)
  obtain ⟨hx, hb, hml, hown, hts, -⟩ := id hE
  have hl : lv_has ls 2 [(0, .ref (adr ad a 27)), (1, .int p1)] := hl
  unfold fX1_isSame at hf
  refine lv_iload_n hx hb dX1_isSame_0 rfl (lv_at hl 1 rfl) ?_
  refine lv_iconst (v := 4) hx hb dX1_isSame_1 (by decide) ?_
  refine lv_ishr hx hb dX1_isSame_2 ?_
  refine lv_if_ne (tgt := 29) hx hb dX1_isSame_3 (by decide) (fun c1 => ?_) (fun c1 => ?_)
  · have hf := (if_neg c1).symm.trans hf
    refine lv_iconst (v := 0) hx hb dX1_isSame_29 (by decide) ?_
    subst hf
    exact ke_zret hE hw hQ (Or.inl rfl) dX1_isSame_30 rfl rfl
  · have hf := (if_pos c1).symm.trans hf
    refine lv_aload_n hx hb dX1_isSame_6 rfl (lv_at hl 0 rfl) ?_
    refine lv_iload_n hx hb dX1_isSame_7 rfl (lv_at hl 1 rfl) ?_
    obtain ⟨r2, er2, hf⟩ := ks_nm hf
    refine ke_V hE hw hl.1 cl_X1_50 27 ltX_27 lyX_27 rfl [.int p1] (c_X1_isOfKinds l D cA st ad a _ _ _ er2.symm) rfl (ke_room hRm rfl rfl) ke_cnt (Nat.le_of_ble_eq_true rfl) rfl dX1_isSame_8 (fun H locs hw => ?_)
    refine W.eq (g2 := F0 m 11 ls (.int (bI r2) :: [])) rfl ?_
    refine lv_if_eq (tgt := 29) hx hb dX1_isSame_11 (by decide) (fun c3 => ?_) (fun c3 => ?_)
    · have hf := (if_pos c3).symm.trans hf
      refine lv_iconst (v := 0) hx hb dX1_isSame_29 (by decide) ?_
      subst hf
      exact ke_zret hE hw hQ (Or.inl rfl) dX1_isSame_30 rfl rfl
    · have hf := (if_neg c3).symm.trans hf
      refine lv_iload_n hx hb dX1_isSame_14 rfl (lv_at hl 1 rfl) ?_
      refine lv_iconst (v := 2) hx hb dX1_isSame_15 (by decide) ?_
      refine lv_ishr hx hb dX1_isSame_16 ?_
      refine lv_iconst (v := 3) hx hb dX1_isSame_17 (by decide) ?_
      refine lv_iand hx hb dX1_isSame_18 ?_
      refine lv_iload_n hx hb dX1_isSame_19 rfl (lv_at hl 1 rfl) ?_
      refine lv_iconst (v := 3) hx hb dX1_isSame_20 (by decide) ?_
      refine lv_iand hx hb dX1_isSame_21 ?_
      refine lv_icmp_ne (tgt := 29) hx hb dX1_isSame_22 (by decide) (fun c4 => ?_) (fun c4 => ?_)
      · have hf := (if_neg c4).symm.trans hf
        refine lv_iconst (v := 0) hx hb dX1_isSame_29 (by decide) ?_
        subst hf
        exact ke_zret hE hw hQ (Or.inl rfl) dX1_isSame_30 rfl rfl
      · have hf := (if_pos c4).symm.trans hf
        refine lv_iconst (v := 1) hx hb dX1_isSame_25 (by decide) ?_
        refine lv_goto (tgt := 30) hx hb dX1_isSame_26 (by decide) ?_
        subst hf
        exact ke_zret hE hw hQ (Or.inr rfl) dX1_isSame_30 rfl rfl
def fX1_roundAt (τ : Tau) (p1 : Int32) : Option Int32 :=
 (if p1 < 0 then
 some (-9 : Int32)
 else
 (if (64 : Int32) ≤ p1 then
 some (-9 : Int32)
 else
 (if p1 < 0 ∨ 64 ≤ p1.toNatClampNeg then none else
 some (tA τ 28 p1.toNatClampNeg))))
set_option maxHeartbeats 4000000 in
set_option maxRecDepth 100000 in
theorem c_X1_roundAt (l : Launch) (D : va_G) (cA : Nat → ClassId) (st ad : Nat → Nat) (a : Nat)  (τ : Tau) (p1 : Int32) (R : Int32) (hf : fX1_roundAt τ p1 = some R) : KE ΛX 29 D cA st ad l yX1_roundAt cX1_roundAt 2 (some .int) 0 0 [.ref (adr ad a 27), .int p1] a τ (some (.int R)) τ := by
  refine KE.of "KindSayings$Proof" rfl (by decide) (Nat.le_of_ble_eq_true rfl) (fun p e s m args below meth c A ls Rm Q hE hRm hQ hw hl => ?_)
  obtain ⟨hx, hb, hml, hown, hts, -⟩ := id hE
  have hl : lv_has ls 2 [(0, .ref (adr ad a 27)), (1, .int p1)] := hl
  unfold fX1_roundAt at hf
  refine lv_iload_n hx hb dX1_roundAt_0 rfl (lv_at hl 1 rfl) ?_
  refine lv_if_lt (tgt := 22) hx hb dX1_roundAt_1 (by decide) (fun c1 => ?_) (fun c1 => ?_)
  · have hf := (if_pos c1).symm.trans hf
    refine lv_bipush (v := (-9)) hx hb dX1_roundAt_22 (by decide) ?_
    replace hf := Option.some.inj hf
    subst hf
    exact ke_iret hE hw hQ dX1_roundAt_24 rfl rfl
  · have hf := (if_neg c1).symm.trans hf
    refine lv_iload_n hx hb dX1_roundAt_4 rfl (lv_at hl 1 rfl) ?_
    refine lv_aload_n hx hb dX1_roundAt_5 rfl (lv_at hl 0 rfl) ?_
    refine ks_getR hE hw 27 0 ltX_27 lyX_27 rfl fd_X1_9 dX1_roundAt_6 ?_
    refine ks_alen hE hw 28 ltX_28 lyX_28 rfl 64 rfl dX1_roundAt_9 ?_
    refine lv_icmp_ge (tgt := 22) hx hb dX1_roundAt_10 (by decide) (fun c2 => ?_) (fun c2 => ?_)
    · have hf := (if_pos c2).symm.trans hf
      refine lv_bipush (v := (-9)) hx hb dX1_roundAt_22 (by decide) ?_
      replace hf := Option.some.inj hf
      subst hf
      exact ke_iret hE hw hQ dX1_roundAt_24 rfl rfl
    · have hf := (if_neg c2).symm.trans hf
      refine lv_aload_n hx hb dX1_roundAt_13 rfl (lv_at hl 0 rfl) ?_
      refine ks_getR hE hw 27 0 ltX_27 lyX_27 rfl fd_X1_9 dX1_roundAt_14 ?_
      refine lv_iload_n hx hb dX1_roundAt_17 rfl (lv_at hl 1 rfl) ?_
      obtain ⟨b3, hf⟩ := ks_ok hf
      refine ks_iald hE hw 28 ltX_28 lyX_28 b3 dX1_roundAt_18 ?_
      refine lv_goto (tgt := 24) hx hb dX1_roundAt_19 (by decide) ?_
      replace hf := Option.some.inj hf
      subst hf
      exact ke_iret hE hw hQ dX1_roundAt_24 rfl rfl
def fX1_factsAhead_45 (τ : Tau) (p1 : Int32) (k5 : Int64 → Int32 → Option Int64) (x_2 : Int64) (x_4 : Int32) : Option Int64 :=
 nm (x_4 + (1 : Int32)) (fun x7 =>
     k5 x_2 x7)
def fX1_factsAhead_5 (τ : Tau) (p1 : Int32) : Nat → Int64 → Int32 → Option Int64
  | 0, _, _ => none
  | n + 1, x_2, x_4 =>
     (if (64 : Int32) ≤ x_4 then
     some x_2
     else
     (if x_4 < 0 ∨ 64 ≤ x_4.toNatClampNeg then none else
     (if tA τ 28 x_4.toNatClampNeg = (-9 : Int32) then
     fX1_factsAhead_45 τ p1 (fX1_factsAhead_5 τ p1 n) x_2 x_4
     else
     (if x_4 < 0 ∨ 64 ≤ x_4.toNatClampNeg then none else
     (if p1 ≤ tA τ 28 x_4.toNatClampNeg then
     fX1_factsAhead_45 τ p1 (fX1_factsAhead_5 τ p1 n) x_2 x_4
     else
     nm (x_2 ||| ((1 : Int64) <<< (x_4.toInt64 &&& 63))) (fun x6 =>
     fX1_factsAhead_45 τ p1 (fX1_factsAhead_5 τ p1 n) x6 x_4))))))
def fX1_factsAhead (τ : Tau) (p1 : Int32) : Option Int64 :=
 fX1_factsAhead_5 τ p1 FU (0 : Int64) (0 : Int32)
set_option maxHeartbeats 4000000 in
set_option maxRecDepth 100000 in
theorem c_X1_factsAhead (l : Launch) (D : va_G) (cA : Nat → ClassId) (st ad : Nat → Nat) (a : Nat)  (τ : Tau) (p1 : Int32) (R : Int64) (hf : fX1_factsAhead τ p1 = some R) : KE ΛX 29 D cA st ad l yX1_factsAhead cX1_factsAhead 5 (some .long) 0 0 [.ref (adr ad a 27), .int p1] a τ (some (.long R)) τ := by
  refine KE.of "KindSayings$Proof" rfl (by decide) (Nat.le_of_ble_eq_true rfl) (fun p e s m args below meth c A ls Rm Q hE hRm hQ hw hl => ?_)
  obtain ⟨hx, hb, hml, hown, hts, -⟩ := id hE
  have hl : lv_has ls 5 [(0, .ref (adr ad a 27)), (1, .int p1)] := hl
  have L5 : ∀ (n5 : Nat) (x_2 : Int64) (x_4 : Int32) (H : Heap) (locs : List Loc) (ls : Array Slot), fX1_factsAhead_5 τ p1 n5 x_2 x_4 = some R → Wd ΛX 29 D cA ad A s a τ H locs → lv_has ls 5 [(0, .ref (adr ad a 27)), (1, .int p1), (2, .long x_2), (4, .int x_4)] → W p l e Rm s m args below meth c H locs 0 0 Q (F0 m 5 ls []) := by
    intro n5
    induction n5 with
    | zero => intro x_2 x_4 H locs ls hf hw hl; exact absurd hf (by rw [fX1_factsAhead_5]; simp)
    | succ n5 ih5 =>
      have L45 : ∀ (x_2 : Int64) (x_4 : Int32) (H : Heap) (locs : List Loc) (ls : Array Slot), fX1_factsAhead_45 τ p1 (fX1_factsAhead_5 τ p1 n5) x_2 x_4 = some R → Wd ΛX 29 D cA ad A s a τ H locs → lv_has ls 5 [(0, .ref (adr ad a 27)), (1, .int p1), (2, .long x_2), (4, .int x_4)] → W p l e Rm s m args below meth c H locs 0 0 Q (F0 m 45 ls []) := by
        intro x_2 x_4 H locs ls hf hw hl
        unfold fX1_factsAhead_45 at hf
        obtain ⟨x7, ex7, hf⟩ := ks_nm hf
        refine lv_iinc (v := x7) (lv' := [(4, .int x7), (0, .ref (adr ad a 27)), (1, .int p1), (2, .long x_2)]) hx hb dX1_factsAhead_45 hl (k := 3) rfl (by rw [ex7]; rfl) (by decide) rfl (fun ls hl => ?_)
        refine lv_goto (tgt := 5) hx hb dX1_factsAhead_48 (by decide) ?_
        exact ih5 _ _ _ _ _ hf hw (lv_sub hl [1, 2, 3, 0] rfl)
      intro x_2 x_4 H locs ls hf hw hl
      rw [fX1_factsAhead_5] at hf
      refine lv_iload hx hb dX1_factsAhead_5 (lv_at hl 3 rfl) ?_
      refine lv_aload_n hx hb dX1_factsAhead_7 rfl (lv_at hl 0 rfl) ?_
      refine ks_getR hE hw 27 0 ltX_27 lyX_27 rfl fd_X1_9 dX1_factsAhead_8 ?_
      refine ks_alen hE hw 28 ltX_28 lyX_28 rfl 64 rfl dX1_factsAhead_11 ?_
      refine lv_icmp_ge (tgt := 51) hx hb dX1_factsAhead_12 (by decide) (fun c1 => ?_) (fun c1 => ?_)
      · have hf := (if_pos c1).symm.trans hf
        refine lv_lload_n hx hb dX1_factsAhead_51 rfl (lv_at hl 2 rfl) ?_
        replace hf := Option.some.inj hf
        subst hf
        exact ke_lret hE hw hQ dX1_factsAhead_52 rfl rfl
      · have hf := (if_neg c1).symm.trans hf
        refine lv_aload_n hx hb dX1_factsAhead_15 rfl (lv_at hl 0 rfl) ?_
        refine ks_getR hE hw 27 0 ltX_27 lyX_27 rfl fd_X1_9 dX1_factsAhead_16 ?_
        refine lv_iload hx hb dX1_factsAhead_19 (lv_at hl 3 rfl) ?_
        obtain ⟨b2, hf⟩ := ks_ok hf
        refine ks_iald hE hw 28 ltX_28 lyX_28 b2 dX1_factsAhead_21 ?_
        refine lv_bipush (v := (-9)) hx hb dX1_factsAhead_22 (by decide) ?_
        refine lv_icmp_eq (tgt := 45) hx hb dX1_factsAhead_24 (by decide) (fun c3 => ?_) (fun c3 => ?_)
        · have hf := (if_pos c3).symm.trans hf
          exact L45 _ _ _ _ _ hf hw (lv_sub hl [0, 1, 2, 3] rfl)
        · have hf := (if_neg c3).symm.trans hf
          refine lv_aload_n hx hb dX1_factsAhead_27 rfl (lv_at hl 0 rfl) ?_
          refine ks_getR hE hw 27 0 ltX_27 lyX_27 rfl fd_X1_9 dX1_factsAhead_28 ?_
          refine lv_iload hx hb dX1_factsAhead_31 (lv_at hl 3 rfl) ?_
          obtain ⟨b4, hf⟩ := ks_ok hf
          refine ks_iald hE hw 28 ltX_28 lyX_28 b4 dX1_factsAhead_33 ?_
          refine lv_iload_n hx hb dX1_factsAhead_34 rfl (lv_at hl 1 rfl) ?_
          refine lv_icmp_ge (tgt := 45) hx hb dX1_factsAhead_35 (by decide) (fun c5 => ?_) (fun c5 => ?_)
          · have hf := (if_pos c5).symm.trans hf
            exact L45 _ _ _ _ _ hf hw (lv_sub hl [0, 1, 2, 3] rfl)
          · have hf := (if_neg c5).symm.trans hf
            refine lv_lload_n hx hb dX1_factsAhead_38 rfl (lv_at hl 2 rfl) ?_
            refine lv_lconst (v := 1) hx hb dX1_factsAhead_39 (by decide) ?_
            refine lv_iload hx hb dX1_factsAhead_40 (lv_at hl 3 rfl) ?_
            refine lv_lshl hx hb dX1_factsAhead_42 rfl ?_
            refine lv_lor hx hb dX1_factsAhead_43 ?_
            obtain ⟨x6, ex6, hf⟩ := ks_nm hf
            refine W.eq (g2 := F0 m 44 ls (.long x6 :: [])) (by rw [ex6]) ?_
            refine lv_lstore_n (lv' := [(2, .long x6), (0, .ref (adr ad a 27)), (1, .int p1), (4, .int x_4)]) hx hb dX1_factsAhead_44 rfl hl (by decide) rfl (fun ls hl => ?_)
            exact L45 _ _ _ _ _ hf hw (lv_sub hl [1, 2, 0, 3] rfl)
  unfold fX1_factsAhead at hf
  refine lv_lconst (v := 0) hx hb dX1_factsAhead_0 (by decide) ?_
  refine lv_lstore_n (lv' := [(2, .long (0 : Int64)), (0, .ref (adr ad a 27)), (1, .int p1)]) hx hb dX1_factsAhead_1 rfl hl (by decide) rfl (fun ls hl => ?_)
  refine lv_iconst (v := 0) hx hb dX1_factsAhead_2 (by decide) ?_
  refine lv_istore (lv' := [(4, .int (0 : Int32)), (2, .long (0 : Int64)), (0, .ref (adr ad a 27)), (1, .int p1)]) hx hb dX1_factsAhead_3 hl (by decide) rfl (fun ls hl => ?_)
  exact L5 FU _ _ _ _ _ hf hw (lv_sub hl [2, 3, 1, 0] rfl)
def fX1_facts (τ : Tau) : Option Int64 :=
 Option.bind (fX1_factsAhead τ (65 : Int32)) (fun r1 =>
 some r1)
set_option maxHeartbeats 4000000 in
set_option maxRecDepth 100000 in
theorem c_X1_facts (l : Launch) (D : va_G) (cA : Nat → ClassId) (st ad : Nat → Nat) (a : Nat)  (τ : Tau) (R : Int64) (hf : fX1_facts τ = some R) : KE ΛX 29 D cA st ad l yX1_facts cX1_facts 1 (some .long) 1 24 [.ref (adr ad a 27)] a τ (some (.long R)) τ := by
  refine KE.of "KindSayings$Proof" rfl (by decide) (Nat.le_of_ble_eq_true rfl) (fun p e s m args below meth c A ls Rm Q hE hRm hQ hw hl => ?_)
  obtain ⟨hx, hb, hml, hown, hts, -⟩ := id hE
  have hl : lv_has ls 1 [(0, .ref (adr ad a 27))] := hl
  unfold fX1_facts at hf
  refine lv_aload_n hx hb dX1_facts_0 rfl (lv_at hl 0 rfl) ?_
  refine lv_bipush (v := 65) hx hb dX1_facts_1 (by decide) ?_
  obtain ⟨r1, er1, hf⟩ := ks_bind hf
  refine ke_V hE hw hl.1 cl_X1_40 27 ltX_27 lyX_27 rfl [.int (65 : Int32)] (c_X1_factsAhead l D cA st ad a _ _ _ er1) rfl (ke_room hRm rfl rfl) ke_cnt (Nat.le_of_ble_eq_true rfl) rfl dX1_facts_3 (fun H locs hw => ?_)
  refine W.eq (g2 := F0 m 6 ls (.long r1 :: [])) rfl ?_
  replace hf := Option.some.inj hf
  subst hf
  exact ke_lret hE hw hQ dX1_facts_6 rfl rfl
def fX1_isShownOf_26 (p1 : Int32) (p2 : Int32) (τ : Tau) (z_0 : Int64) (z_1 : Int64) : (Bool × Tau) :=
 nm (z_1 ||| z_0) (fun x3 =>
    (if lg_cmp (tL τ 27 2 &&& x3) x3 = 0 then
     nm (sI τ 27 5 p1) (fun t5 =>
     nm (sI t5 27 6 p2) (fun t6 =>
    (true, t6)))
     else
    (false, τ)))
def fX1_isShownOf_13 (p1 : Int32) (p2 : Int32) (τ : Tau) (z_0 : Int64) : (Bool × Tau) :=
 (if p2 = (-9 : Int32) then
     fX1_isShownOf_26 p1 p2 τ (0 : Int64) z_0
     else
     fX1_isShownOf_26 p1 p2 τ ((1 : Int64) <<< (p2.toInt64 &&& 63)) z_0)
def fX1_isShownOf  (τ : Tau) (p1 : Int32) (p2 : Int32) : (Bool × Tau) :=
 (if p1 = (-9 : Int32) then
 fX1_isShownOf_13 p1 p2 τ (0 : Int64)
 else
 fX1_isShownOf_13 p1 p2 τ ((1 : Int64) <<< (p1.toInt64 &&& 63)))
set_option maxHeartbeats 4000000 in
set_option maxRecDepth 100000 in
theorem c_X1_isShownOf (l : Launch) (D : va_G) (cA : Nat → ClassId) (st ad : Nat → Nat) (a : Nat)  (τ : Tau) (p1 : Int32) (p2 : Int32) (R : (Bool × Tau)) (hf : fX1_isShownOf τ p1 p2 = R) : KE ΛX 29 D cA st ad l yX1_isShownOf cX1_isShownOf 5 (some .boolean) 0 0 [.ref (adr ad a 27), .int p1, .int p2] a τ (some (.int (bI R.1))) R.2 := by
  refine KE.of "KindSayings$Proof" rfl (by decide) (Nat.le_of_ble_eq_true rfl) (fun p e s m args below meth c A ls Rm Q hE hRm hQ hw hl => ?_)
  obtain ⟨hx, hb, hml, hown, hts, -⟩ := id hE
  have hl : lv_has ls 5 [(0, .ref (adr ad a 27)), (1, .int p1), (2, .int p2)] := hl
  have L26 : ∀ (τ : Tau) (z_0 : Int64) (z_1 : Int64) (H : Heap) (locs : List Loc) (ls : Array Slot), fX1_isShownOf_26 p1 p2 τ z_0 z_1 = R → Wd ΛX 29 D cA ad A s a τ H locs → lv_has ls 5 [(0, .ref (adr ad a 27)), (1, .int p1), (2, .int p2)] → W p l e Rm s m args below meth c H locs 0 0 Q (F0 m 26 ls [.long z_0, .long z_1]) := by
    intro τ z_0 z_1 H locs ls hf hw hl
    unfold fX1_isShownOf_26 at hf
    refine lv_lor hx hb dX1_isShownOf_26 ?_
    obtain ⟨x3, ex3, hf⟩ := ks_nm hf
    refine W.eq (g2 := F0 m 27 ls (.long x3 :: [])) (by rw [ex3]) ?_
    refine lv_lstore_n (lv' := [(3, .long x3), (0, .ref (adr ad a 27)), (1, .int p1), (2, .int p2)]) hx hb dX1_isShownOf_27 rfl hl (by decide) rfl (fun ls hl => ?_)
    refine lv_aload_n hx hb dX1_isShownOf_28 rfl (lv_at hl 1 rfl) ?_
    refine ks_getL hE hw 27 2 ltX_27 lyX_27 rfl fd_X1_44 dX1_isShownOf_29 ?_
    refine lv_lload_n hx hb dX1_isShownOf_32 rfl (lv_at hl 0 rfl) ?_
    refine lv_land hx hb dX1_isShownOf_33 ?_
    refine lv_lload_n hx hb dX1_isShownOf_34 rfl (lv_at hl 0 rfl) ?_
    refine W.lcmp hx hb dX1_isShownOf_35 ?_
    refine lv_if_eq (tgt := 41) hx hb dX1_isShownOf_36 (by decide) (fun c4 => ?_) (fun c4 => ?_)
    · have hf := (if_pos c4).symm.trans hf
      refine lv_aload_n hx hb dX1_isShownOf_41 rfl (lv_at hl 1 rfl) ?_
      refine lv_iload_n hx hb dX1_isShownOf_42 rfl (lv_at hl 2 rfl) ?_
      obtain ⟨t5, et5, hf⟩ := ks_nm hf
      refine ks_putI hE hw 27 5 ltX_27 lyX_27 rfl fw_X1_60 rfl rfl dX1_isShownOf_43 (fun H locs hw => ?_)
      rw [← et5] at hw
      refine lv_aload_n hx hb dX1_isShownOf_46 rfl (lv_at hl 1 rfl) ?_
      refine lv_iload_n hx hb dX1_isShownOf_47 rfl (lv_at hl 3 rfl) ?_
      obtain ⟨t6, et6, hf⟩ := ks_nm hf
      refine ks_putI hE hw 27 6 ltX_27 lyX_27 rfl fw_X1_63 rfl rfl dX1_isShownOf_48 (fun H locs hw => ?_)
      rw [← et6] at hw
      refine lv_iconst (v := 1) hx hb dX1_isShownOf_51 (by decide) ?_
      subst hf
      exact ke_zret hE hw hQ (Or.inr rfl) dX1_isShownOf_52 rfl rfl
    · have hf := (if_neg c4).symm.trans hf
      refine lv_iconst (v := 0) hx hb dX1_isShownOf_39 (by decide) ?_
      subst hf
      exact ke_zret hE hw hQ (Or.inl rfl) dX1_isShownOf_40 rfl rfl
  have L13 : ∀ (τ : Tau) (z_0 : Int64) (H : Heap) (locs : List Loc) (ls : Array Slot), fX1_isShownOf_13 p1 p2 τ z_0 = R → Wd ΛX 29 D cA ad A s a τ H locs → lv_has ls 5 [(0, .ref (adr ad a 27)), (1, .int p1), (2, .int p2)] → W p l e Rm s m args below meth c H locs 0 0 Q (F0 m 13 ls [.long z_0]) := by
    intro τ z_0 H locs ls hf hw hl
    unfold fX1_isShownOf_13 at hf
    refine lv_iload_n hx hb dX1_isShownOf_13 rfl (lv_at hl 2 rfl) ?_
    refine lv_bipush (v := (-9)) hx hb dX1_isShownOf_14 (by decide) ?_
    refine lv_icmp_ne (tgt := 23) hx hb dX1_isShownOf_16 (by decide) (fun c2 => ?_) (fun c2 => ?_)
    · have hf := (if_neg c2).symm.trans hf
      refine lv_lconst (v := 1) hx hb dX1_isShownOf_23 (by decide) ?_
      refine lv_iload_n hx hb dX1_isShownOf_24 rfl (lv_at hl 2 rfl) ?_
      refine lv_lshl hx hb dX1_isShownOf_25 rfl ?_
      exact L26 _ _ _ _ _ _ hf hw (lv_sub hl [0, 1, 2] rfl)
    · have hf := (if_pos c2).symm.trans hf
      refine lv_lconst (v := 0) hx hb dX1_isShownOf_19 (by decide) ?_
      refine lv_goto (tgt := 26) hx hb dX1_isShownOf_20 (by decide) ?_
      exact L26 _ _ _ _ _ _ hf hw (lv_sub hl [0, 1, 2] rfl)
  unfold fX1_isShownOf at hf
  refine lv_iload_n hx hb dX1_isShownOf_0 rfl (lv_at hl 1 rfl) ?_
  refine lv_bipush (v := (-9)) hx hb dX1_isShownOf_1 (by decide) ?_
  refine lv_icmp_ne (tgt := 10) hx hb dX1_isShownOf_3 (by decide) (fun c1 => ?_) (fun c1 => ?_)
  · have hf := (if_neg c1).symm.trans hf
    refine lv_lconst (v := 1) hx hb dX1_isShownOf_10 (by decide) ?_
    refine lv_iload_n hx hb dX1_isShownOf_11 rfl (lv_at hl 1 rfl) ?_
    refine lv_lshl hx hb dX1_isShownOf_12 rfl ?_
    exact L13 _ _ _ _ _ hf hw (lv_sub hl [0, 1, 2] rfl)
  · have hf := (if_pos c1).symm.trans hf
    refine lv_lconst (v := 0) hx hb dX1_isShownOf_6 (by decide) ?_
    refine lv_goto (tgt := 13) hx hb dX1_isShownOf_7 (by decide) ?_
    exact L13 _ _ _ _ _ hf hw (lv_sub hl [0, 1, 2] rfl)
def fX1_isShowing_173 (p1 : Int32) (p2 : Int32) (p3 : Int32) (k129 : Tau → Int32 → Int32 → Int32 → Option (Bool × Tau)) (τ : Tau) (x_4 : Int32) (x_5 : Int32) (x_6 : Int32) (x_7 : Int32) (z_0 : Int32) : Option (Bool × Tau) :=
 nm (fX1_isShownOf τ x_7 z_0) (fun r20 =>
    (if bI r20.1 = 0 then
     nm (x_6 + (1 : Int32)) (fun x22 =>
     k129 r20.2 x_4 x_5 x22)
     else
     some (true, r20.2)))
def fX1_isShowing_129 (p1 : Int32) (p2 : Int32) (p3 : Int32) : Nat → Tau → Int32 → Int32 → Int32 → Option (Bool × Tau)
  | 0, _, _, _, _ => none
  | n + 1, τ, x_4, x_5, x_6 =>
     (if tI τ 27 4 ≤ x_6 then
     some (false, τ)
     else
     nm (fX6_factNumber x_4 p2 x_6) (fun r16 =>
     (if p1 = (6 : Int32) then
     nm (fX6_factNumber x_5 p3 x_6) (fun r19 =>
     fX1_isShowing_173 p1 p2 p3 (fX1_isShowing_129 p1 p2 p3 n) τ x_4 x_5 x_6 r16 r19)
     else
     nm (fX6_factNumber x_5 x_6 p3) (fun r18 =>
     fX1_isShowing_173 p1 p2 p3 (fX1_isShowing_129 p1 p2 p3 n) τ x_4 x_5 x_6 r16 r18))))
def fX1_isShowing_126 (p1 : Int32) (p2 : Int32) (p3 : Int32) (τ : Tau) (x_4 : Int32) (x_5 : Int32) : Option (Bool × Tau) :=
 fX1_isShowing_129 p1 p2 p3 FU τ x_4 x_5 (0 : Int32)
def fX1_isShowing_76 (p1 : Int32) (p2 : Int32) (p3 : Int32) (τ : Tau) (x_4 : Int32) : Option (Bool × Tau) :=
 nm (fX6_factNumber x_4 p3 p2) (fun r23 =>
     nm (fX1_isShownOf τ r23 (-9 : Int32)) (fun r24 =>
     some (r24.1, r24.2)))
def fX1_isShowing_38 (p1 : Int32) (p2 : Int32) (p3 : Int32) (τ : Tau) (x_4 : Int32) (z_0 : Int32) : Option (Bool × Tau) :=
 (if p1 = (4 : Int32) then
     fX1_isShowing_76 p1 p2 p3 τ x_4
     else
    (if p1 = (5 : Int32) then
     fX1_isShowing_76 p1 p2 p3 τ x_4
     else
    (if p1 = (6 : Int32) then
     fX1_isShowing_126 p1 p2 p3 τ x_4 z_0
     else
    (if p1 = (7 : Int32) then
    (if p2 = p3 then
     nm (fX1_isShownOf τ (-9 : Int32) (-9 : Int32)) (fun r11 =>
    (if bI r11.1 = 0 then
     some (false, r11.2)
     else
     some (true, r11.2)))
     else
     some (false, τ))
     else
    (if p1 = (8 : Int32) then
     nm (fX6_factNumber x_4 p2 p3) (fun r13 =>
     nm (fX1_isShownOf τ r13 (-9 : Int32)) (fun r14 =>
     some (r14.1, r14.2)))
     else
     fX1_isShowing_126 p1 p2 p3 τ x_4 z_0)))))
def fX1_isShowing_18 (p1 : Int32) (p2 : Int32) (p3 : Int32) (τ : Tau) (z_0 : Int32) : Option (Bool × Tau) :=
 (if (9 : Int32) ≤ p1 then
     fX1_isShowing_38 p1 p2 p3 τ z_0 (-9 : Int32)
     else
    (if p1 < 0 ∨ 9 ≤ p1.toNatClampNeg then none else
     fX1_isShowing_38 p1 p2 p3 τ z_0 (vSECOND p1.toNatClampNeg)))
def fX1_isShowing  (τ : Tau) (p1 : Int32) (p2 : Int32) (p3 : Int32) : Option (Bool × Tau) :=
 (if (9 : Int32) ≤ p1 then
 fX1_isShowing_18 p1 p2 p3 τ (-9 : Int32)
 else
 (if p1 < 0 ∨ 9 ≤ p1.toNatClampNeg then none else
 fX1_isShowing_18 p1 p2 p3 τ (vFIRST p1.toNatClampNeg)))
set_option maxHeartbeats 4000000 in
set_option maxRecDepth 100000 in
theorem c_X1_isShowing (l : Launch) (D : va_G) (cA : Nat → ClassId) (st ad : Nat → Nat) (a : Nat)  (τ : Tau) (p1 : Int32) (p2 : Int32) (p3 : Int32) (R : (Bool × Tau)) (hf : fX1_isShowing τ p1 p2 p3 = some R) : KE ΛX 29 D cA st ad l yX1_isShowing cX1_isShowing 9 (some .boolean) 1 24 [.ref (adr ad a 27), .int p1, .int p2, .int p3] a τ (some (.int (bI R.1))) R.2 := by
  refine KE.of "KindSayings$Proof" rfl (by decide) (Nat.le_of_ble_eq_true rfl) (fun p e s m args below meth c A ls Rm Q hE hRm hQ hw hl => ?_)
  obtain ⟨hx, hb, hml, hown, hts, -⟩ := id hE
  have hl : lv_has ls 9 [(0, .ref (adr ad a 27)), (1, .int p1), (2, .int p2), (3, .int p3)] := hl
  have L129 : ∀ (n129 : Nat) (τ : Tau) (x_4 : Int32) (x_5 : Int32) (x_6 : Int32) (H : Heap) (locs : List Loc) (ls : Array Slot), fX1_isShowing_129 p1 p2 p3 n129 τ x_4 x_5 x_6 = some R → Wd ΛX 29 D cA ad A s a τ H locs → lv_has ls 9 [(0, .ref (adr ad a 27)), (1, .int p1), (2, .int p2), (3, .int p3), (4, .int x_4), (5, .int x_5), (6, .int x_6)] → W p l e Rm s m args below meth c H locs 0 0 Q (F0 m 129 ls []) := by
    intro n129
    induction n129 with
    | zero => intro τ x_4 x_5 x_6 H locs ls hf hw hl; exact absurd hf (by rw [fX1_isShowing_129]; simp)
    | succ n129 ih129 =>
      have L173 : ∀ (τ : Tau) (x_4 : Int32) (x_5 : Int32) (x_6 : Int32) (x_7 : Int32) (z_0 : Int32) (H : Heap) (locs : List Loc) (ls : Array Slot), fX1_isShowing_173 p1 p2 p3 (fX1_isShowing_129 p1 p2 p3 n129) τ x_4 x_5 x_6 x_7 z_0 = some R → Wd ΛX 29 D cA ad A s a τ H locs → lv_has ls 9 [(0, .ref (adr ad a 27)), (1, .int p1), (2, .int p2), (3, .int p3), (4, .int x_4), (5, .int x_5), (6, .int x_6), (7, .int x_7)] → W p l e Rm s m args below meth c H locs 0 0 Q (F0 m 173 ls [.int z_0]) := by
        intro τ x_4 x_5 x_6 x_7 z_0 H locs ls hf hw hl
        unfold fX1_isShowing_173 at hf
        refine lv_istore (lv' := [(8, .int z_0), (0, .ref (adr ad a 27)), (1, .int p1), (2, .int p2), (3, .int p3), (4, .int x_4), (5, .int x_5), (6, .int x_6), (7, .int x_7)]) hx hb dX1_isShowing_173 hl (by decide) rfl (fun ls hl => ?_)
        refine lv_aload_n hx hb dX1_isShowing_175 rfl (lv_at hl 1 rfl) ?_
        refine lv_iload hx hb dX1_isShowing_176 (lv_at hl 8 rfl) ?_
        refine lv_iload hx hb dX1_isShowing_178 (lv_at hl 0 rfl) ?_
        obtain ⟨r20, er20, hf⟩ := ks_nm hf
        refine ke_V hE hw hl.1 cl_X1_83 27 ltX_27 lyX_27 rfl [.int x_7, .int z_0] (c_X1_isShownOf l D cA st ad a _ _ _ _ er20.symm) rfl (ke_room hRm rfl rfl) ke_cnt (Nat.le_of_ble_eq_true rfl) rfl dX1_isShowing_180 (fun H locs hw => ?_)
        refine W.eq (g2 := F0 m 183 ls (.int (bI r20.1) :: [])) rfl ?_
        refine lv_if_eq (tgt := 188) hx hb dX1_isShowing_183 (by decide) (fun c21 => ?_) (fun c21 => ?_)
        · have hf := (if_pos c21).symm.trans hf
          obtain ⟨x22, ex22, hf⟩ := ks_nm hf
          refine lv_iinc (v := x22) (lv' := [(6, .int x22), (8, .int z_0), (0, .ref (adr ad a 27)), (1, .int p1), (2, .int p2), (3, .int p3), (4, .int x_4), (5, .int x_5), (7, .int x_7)]) hx hb dX1_isShowing_188 hl (k := 7) rfl (by rw [ex22]; rfl) (by decide) rfl (fun ls hl => ?_)
          refine lv_goto (tgt := 129) hx hb dX1_isShowing_191 (by decide) ?_
          exact ih129 _ _ _ _ _ _ _ hf hw (lv_sub hl [2, 3, 4, 5, 6, 7, 0] rfl)
        · have hf := (if_neg c21).symm.trans hf
          refine lv_iconst (v := 1) hx hb dX1_isShowing_186 (by decide) ?_
          replace hf := Option.some.inj hf
          subst hf
          exact ke_zret hE hw hQ (Or.inr rfl) dX1_isShowing_187 rfl rfl
      intro τ x_4 x_5 x_6 H locs ls hf hw hl
      rw [fX1_isShowing_129] at hf
      refine lv_iload hx hb dX1_isShowing_129 (lv_at hl 6 rfl) ?_
      refine lv_aload_n hx hb dX1_isShowing_131 rfl (lv_at hl 0 rfl) ?_
      refine ks_getI hE hw 27 4 ltX_27 lyX_27 rfl fd_X1_23 dX1_isShowing_132 ?_
      refine lv_icmp_ge (tgt := 194) hx hb dX1_isShowing_135 (by decide) (fun c15 => ?_) (fun c15 => ?_)
      · have hf := (if_pos c15).symm.trans hf
        refine lv_iconst (v := 0) hx hb dX1_isShowing_194 (by decide) ?_
        replace hf := Option.some.inj hf
        subst hf
        exact ke_zret hE hw hQ (Or.inl rfl) dX1_isShowing_195 rfl rfl
      · have hf := (if_neg c15).symm.trans hf
        refine lv_iload hx hb dX1_isShowing_138 (lv_at hl 4 rfl) ?_
        refine lv_iload_n hx hb dX1_isShowing_140 rfl (lv_at hl 2 rfl) ?_
        refine lv_iload hx hb dX1_isShowing_141 (lv_at hl 6 rfl) ?_
        obtain ⟨r16, er16, hf⟩ := ks_nm hf
        refine ke_SN hE hw hl.1 cl_X1_79 [.int x_4, .int p2, .int x_6] (c_X6_factNumber l D cA st ad a _ _ _ _ _ er16.symm) rfl (ke_room hRm rfl rfl) ke_cnt (Nat.le_of_ble_eq_true rfl) rfl dX1_isShowing_143 (fun H locs hw => ?_)
        refine W.eq (g2 := F0 m 146 ls (.int r16 :: [])) rfl ?_
        refine lv_istore (lv' := [(7, .int r16), (0, .ref (adr ad a 27)), (1, .int p1), (2, .int p2), (3, .int p3), (4, .int x_4), (5, .int x_5), (6, .int x_6)]) hx hb dX1_isShowing_146 hl (by decide) rfl (fun ls hl => ?_)
        refine lv_iload_n hx hb dX1_isShowing_148 rfl (lv_at hl 2 rfl) ?_
        refine lv_bipush (v := 6) hx hb dX1_isShowing_149 (by decide) ?_
        refine lv_icmp_ne (tgt := 165) hx hb dX1_isShowing_151 (by decide) (fun c17 => ?_) (fun c17 => ?_)
        · have hf := (if_neg c17).symm.trans hf
          refine lv_iload hx hb dX1_isShowing_165 (lv_at hl 6 rfl) ?_
          refine lv_iload hx hb dX1_isShowing_167 (lv_at hl 7 rfl) ?_
          refine lv_iload_n hx hb dX1_isShowing_169 rfl (lv_at hl 4 rfl) ?_
          obtain ⟨r18, er18, hf⟩ := ks_nm hf
          refine ke_SN hE hw hl.1 cl_X1_79 [.int x_5, .int x_6, .int p3] (c_X6_factNumber l D cA st ad a _ _ _ _ _ er18.symm) rfl (ke_room hRm rfl rfl) ke_cnt (Nat.le_of_ble_eq_true rfl) rfl dX1_isShowing_170 (fun H locs hw => ?_)
          refine W.eq (g2 := F0 m 173 ls (.int r18 :: [])) rfl ?_
          exact L173 _ _ _ _ _ _ _ _ _ hf hw (lv_sub hl [1, 2, 3, 4, 5, 6, 7, 0] rfl)
        · have hf := (if_pos c17).symm.trans hf
          refine lv_iload hx hb dX1_isShowing_154 (lv_at hl 6 rfl) ?_
          refine lv_iload_n hx hb dX1_isShowing_156 rfl (lv_at hl 4 rfl) ?_
          refine lv_iload hx hb dX1_isShowing_157 (lv_at hl 7 rfl) ?_
          obtain ⟨r19, er19, hf⟩ := ks_nm hf
          refine ke_SN hE hw hl.1 cl_X1_79 [.int x_5, .int p3, .int x_6] (c_X6_factNumber l D cA st ad a _ _ _ _ _ er19.symm) rfl (ke_room hRm rfl rfl) ke_cnt (Nat.le_of_ble_eq_true rfl) rfl dX1_isShowing_159 (fun H locs hw => ?_)
          refine W.eq (g2 := F0 m 162 ls (.int r19 :: [])) rfl ?_
          refine lv_goto (tgt := 173) hx hb dX1_isShowing_162 (by decide) ?_
          exact L173 _ _ _ _ _ _ _ _ _ hf hw (lv_sub hl [1, 2, 3, 4, 5, 6, 7, 0] rfl)
  have L126 : ∀ (τ : Tau) (x_4 : Int32) (x_5 : Int32) (H : Heap) (locs : List Loc) (ls : Array Slot), fX1_isShowing_126 p1 p2 p3 τ x_4 x_5 = some R → Wd ΛX 29 D cA ad A s a τ H locs → lv_has ls 9 [(0, .ref (adr ad a 27)), (1, .int p1), (2, .int p2), (3, .int p3), (4, .int x_4), (5, .int x_5)] → W p l e Rm s m args below meth c H locs 0 0 Q (F0 m 126 ls []) := by
    intro τ x_4 x_5 H locs ls hf hw hl
    unfold fX1_isShowing_126 at hf
    refine lv_iconst (v := 0) hx hb dX1_isShowing_126 (by decide) ?_
    refine lv_istore (lv' := [(6, .int (0 : Int32)), (0, .ref (adr ad a 27)), (1, .int p1), (2, .int p2), (3, .int p3), (4, .int x_4), (5, .int x_5)]) hx hb dX1_isShowing_127 hl (by decide) rfl (fun ls hl => ?_)
    exact L129 FU _ _ _ _ _ _ _ hf hw (lv_sub hl [1, 2, 3, 4, 5, 6, 0] rfl)
  have L76 : ∀ (τ : Tau) (x_4 : Int32) (H : Heap) (locs : List Loc) (ls : Array Slot), fX1_isShowing_76 p1 p2 p3 τ x_4 = some R → Wd ΛX 29 D cA ad A s a τ H locs → lv_has ls 9 [(0, .ref (adr ad a 27)), (2, .int p2), (3, .int p3), (4, .int x_4)] → W p l e Rm s m args below meth c H locs 0 0 Q (F0 m 76 ls []) := by
    intro τ x_4 H locs ls hf hw hl
    unfold fX1_isShowing_76 at hf
    refine lv_aload_n hx hb dX1_isShowing_76 rfl (lv_at hl 0 rfl) ?_
    refine lv_iload hx hb dX1_isShowing_77 (lv_at hl 3 rfl) ?_
    refine lv_iload_n hx hb dX1_isShowing_79 rfl (lv_at hl 2 rfl) ?_
    refine lv_iload_n hx hb dX1_isShowing_80 rfl (lv_at hl 1 rfl) ?_
    obtain ⟨r23, er23, hf⟩ := ks_nm hf
    refine ke_SN hE hw hl.1 cl_X1_79 [.int x_4, .int p3, .int p2] (c_X6_factNumber l D cA st ad a _ _ _ _ _ er23.symm) rfl (ke_room hRm rfl rfl) ke_cnt (Nat.le_of_ble_eq_true rfl) rfl dX1_isShowing_81 (fun H locs hw => ?_)
    refine W.eq (g2 := F0 m 84 ls (.int r23 :: .ref (adr ad a 27) :: [])) rfl ?_
    refine lv_bipush (v := (-9)) hx hb dX1_isShowing_84 (by decide) ?_
    obtain ⟨r24, er24, hf⟩ := ks_nm hf
    refine ke_V hE hw hl.1 cl_X1_83 27 ltX_27 lyX_27 rfl [.int r23, .int (-9 : Int32)] (c_X1_isShownOf l D cA st ad a _ _ _ _ er24.symm) rfl (ke_room hRm rfl rfl) ke_cnt (Nat.le_of_ble_eq_true rfl) rfl dX1_isShowing_86 (fun H locs hw => ?_)
    refine W.eq (g2 := F0 m 89 ls (.int (bI r24.1) :: [])) rfl ?_
    replace hf := Option.some.inj hf
    subst hf
    exact ke_zret hE hw hQ (bI01 _) dX1_isShowing_89 rfl rfl
  have L38 : ∀ (τ : Tau) (x_4 : Int32) (z_0 : Int32) (H : Heap) (locs : List Loc) (ls : Array Slot), fX1_isShowing_38 p1 p2 p3 τ x_4 z_0 = some R → Wd ΛX 29 D cA ad A s a τ H locs → lv_has ls 9 [(0, .ref (adr ad a 27)), (1, .int p1), (2, .int p2), (3, .int p3), (4, .int x_4)] → W p l e Rm s m args below meth c H locs 0 0 Q (F0 m 38 ls [.int z_0]) := by
    intro τ x_4 z_0 H locs ls hf hw hl
    unfold fX1_isShowing_38 at hf
    refine lv_istore (lv' := [(5, .int z_0), (0, .ref (adr ad a 27)), (1, .int p1), (2, .int p2), (3, .int p3), (4, .int x_4)]) hx hb dX1_isShowing_38 hl (by decide) rfl (fun ls hl => ?_)
    refine lv_iload_n hx hb dX1_isShowing_40 rfl (lv_at hl 2 rfl) ?_
    by_cases c5 : p1 = (4 : Int32)
    · have hf := (if_pos c5).symm.trans hf
      refine lv_tableIn (tgt := 76) hx hb dX1_isShowing_41 (by rw [c5]; decide) (by rw [c5]; decide) (by rw [c5]; rfl) (by decide) ?_
      exact L76 _ _ _ _ _ hf hw (lv_sub hl [1, 3, 4, 5] rfl)
    · have hf := (if_neg c5).symm.trans hf
      by_cases c6 : p1 = (5 : Int32)
      · have hf := (if_pos c6).symm.trans hf
        refine lv_tableIn (tgt := 76) hx hb dX1_isShowing_41 (by rw [c6]; decide) (by rw [c6]; decide) (by rw [c6]; rfl) (by decide) ?_
        exact L76 _ _ _ _ _ hf hw (lv_sub hl [1, 3, 4, 5] rfl)
      · have hf := (if_neg c6).symm.trans hf
        by_cases c7 : p1 = (6 : Int32)
        · have hf := (if_pos c7).symm.trans hf
          refine lv_tableIn (tgt := 126) hx hb dX1_isShowing_41 (by rw [c7]; decide) (by rw [c7]; decide) (by rw [c7]; rfl) (by decide) ?_
          exact L126 _ _ _ _ _ _ hf hw (lv_sub hl [1, 2, 3, 4, 5, 0] rfl)
        · have hf := (if_neg c7).symm.trans hf
          by_cases c8 : p1 = (7 : Int32)
          · have hf := (if_pos c8).symm.trans hf
            refine lv_tableIn (tgt := 90) hx hb dX1_isShowing_41 (by rw [c8]; decide) (by rw [c8]; decide) (by rw [c8]; rfl) (by decide) ?_
            refine lv_iload_n hx hb dX1_isShowing_90 rfl (lv_at hl 3 rfl) ?_
            refine lv_iload_n hx hb dX1_isShowing_91 rfl (lv_at hl 4 rfl) ?_
            refine lv_icmp_ne (tgt := 110) hx hb dX1_isShowing_92 (by decide) (fun c10 => ?_) (fun c10 => ?_)
            · have hf := (if_neg c10).symm.trans hf
              refine lv_iconst (v := 0) hx hb dX1_isShowing_110 (by decide) ?_
              replace hf := Option.some.inj hf
              subst hf
              exact ke_zret hE hw hQ (Or.inl rfl) dX1_isShowing_111 rfl rfl
            · have hf := (if_pos c10).symm.trans hf
              refine lv_aload_n hx hb dX1_isShowing_95 rfl (lv_at hl 1 rfl) ?_
              refine lv_bipush (v := (-9)) hx hb dX1_isShowing_96 (by decide) ?_
              refine lv_bipush (v := (-9)) hx hb dX1_isShowing_98 (by decide) ?_
              obtain ⟨r11, er11, hf⟩ := ks_nm hf
              refine ke_V hE hw hl.1 cl_X1_83 27 ltX_27 lyX_27 rfl [.int (-9 : Int32), .int (-9 : Int32)] (c_X1_isShownOf l D cA st ad a _ _ _ _ er11.symm) rfl (ke_room hRm rfl rfl) ke_cnt (Nat.le_of_ble_eq_true rfl) rfl dX1_isShowing_100 (fun H locs hw => ?_)
              refine W.eq (g2 := F0 m 103 ls (.int (bI r11.1) :: [])) rfl ?_
              refine lv_if_eq (tgt := 110) hx hb dX1_isShowing_103 (by decide) (fun c12 => ?_) (fun c12 => ?_)
              · have hf := (if_pos c12).symm.trans hf
                refine lv_iconst (v := 0) hx hb dX1_isShowing_110 (by decide) ?_
                replace hf := Option.some.inj hf
                subst hf
                exact ke_zret hE hw hQ (Or.inl rfl) dX1_isShowing_111 rfl rfl
              · have hf := (if_neg c12).symm.trans hf
                refine lv_iconst (v := 1) hx hb dX1_isShowing_106 (by decide) ?_
                refine lv_goto (tgt := 111) hx hb dX1_isShowing_107 (by decide) ?_
                replace hf := Option.some.inj hf
                subst hf
                exact ke_zret hE hw hQ (Or.inr rfl) dX1_isShowing_111 rfl rfl
          · have hf := (if_neg c8).symm.trans hf
            by_cases c9 : p1 = (8 : Int32)
            · have hf := (if_pos c9).symm.trans hf
              refine lv_tableIn (tgt := 112) hx hb dX1_isShowing_41 (by rw [c9]; decide) (by rw [c9]; decide) (by rw [c9]; rfl) (by decide) ?_
              refine lv_aload_n hx hb dX1_isShowing_112 rfl (lv_at hl 1 rfl) ?_
              refine lv_iload hx hb dX1_isShowing_113 (lv_at hl 5 rfl) ?_
              refine lv_iload_n hx hb dX1_isShowing_115 rfl (lv_at hl 3 rfl) ?_
              refine lv_iload_n hx hb dX1_isShowing_116 rfl (lv_at hl 4 rfl) ?_
              obtain ⟨r13, er13, hf⟩ := ks_nm hf
              refine ke_SN hE hw hl.1 cl_X1_79 [.int x_4, .int p2, .int p3] (c_X6_factNumber l D cA st ad a _ _ _ _ _ er13.symm) rfl (ke_room hRm rfl rfl) ke_cnt (Nat.le_of_ble_eq_true rfl) rfl dX1_isShowing_117 (fun H locs hw => ?_)
              refine W.eq (g2 := F0 m 120 ls (.int r13 :: .ref (adr ad a 27) :: [])) rfl ?_
              refine lv_bipush (v := (-9)) hx hb dX1_isShowing_120 (by decide) ?_
              obtain ⟨r14, er14, hf⟩ := ks_nm hf
              refine ke_V hE hw hl.1 cl_X1_83 27 ltX_27 lyX_27 rfl [.int r13, .int (-9 : Int32)] (c_X1_isShownOf l D cA st ad a _ _ _ _ er14.symm) rfl (ke_room hRm rfl rfl) ke_cnt (Nat.le_of_ble_eq_true rfl) rfl dX1_isShowing_122 (fun H locs hw => ?_)
              refine W.eq (g2 := F0 m 125 ls (.int (bI r14.1) :: [])) rfl ?_
              replace hf := Option.some.inj hf
              subst hf
              exact ke_zret hE hw hQ (bI01 _) dX1_isShowing_125 rfl rfl
            · have hf := (if_neg c9).symm.trans hf
              refine lv_tableOut (tgt := 126) hx hb dX1_isShowing_41 (by have := ks_sw c5 (k := 4) (by decide); have := ks_sw c6 (k := 5) (by decide); have := ks_sw c7 (k := 6) (by decide); have := ks_sw c8 (k := 7) (by decide); have := ks_sw c9 (k := 8) (by decide); omega) (by decide) ?_
              exact L126 _ _ _ _ _ _ hf hw (lv_sub hl [1, 2, 3, 4, 5, 0] rfl)
  have L18 : ∀ (τ : Tau) (z_0 : Int32) (H : Heap) (locs : List Loc) (ls : Array Slot), fX1_isShowing_18 p1 p2 p3 τ z_0 = some R → Wd ΛX 29 D cA ad A s a τ H locs → lv_has ls 9 [(0, .ref (adr ad a 27)), (1, .int p1), (2, .int p2), (3, .int p3)] → W p l e Rm s m args below meth c H locs 0 0 Q (F0 m 18 ls [.int z_0]) := by
    intro τ z_0 H locs ls hf hw hl
    unfold fX1_isShowing_18 at hf
    refine lv_istore (lv' := [(4, .int z_0), (0, .ref (adr ad a 27)), (1, .int p1), (2, .int p2), (3, .int p3)]) hx hb dX1_isShowing_18 hl (by decide) rfl (fun ls hl => ?_)
    refine lv_iload_n hx hb dX1_isShowing_20 rfl (lv_at hl 2 rfl) ?_
    refine ks_gs3 hE hw (by decide) dX1_isShowing_21 ?_
    refine ks_tlen3 hE hw dX1_isShowing_24 ?_
    refine lv_icmp_ge (tgt := 36) hx hb dX1_isShowing_25 (by decide) (fun c3 => ?_) (fun c3 => ?_)
    · have hf := (if_pos c3).symm.trans hf
      refine lv_bipush (v := (-9)) hx hb dX1_isShowing_36 (by decide) ?_
      exact L38 _ _ _ _ _ _ hf hw (lv_sub hl [1, 2, 3, 4, 0] rfl)
    · have hf := (if_neg c3).symm.trans hf
      refine ks_gs3 hE hw (by decide) dX1_isShowing_28 ?_
      refine lv_iload_n hx hb dX1_isShowing_31 rfl (lv_at hl 2 rfl) ?_
      obtain ⟨b4, hf⟩ := ks_ok hf
      refine ks_ts3 hE hw b4 dX1_isShowing_32 ?_
      refine lv_goto (tgt := 38) hx hb dX1_isShowing_33 (by decide) ?_
      exact L38 _ _ _ _ _ _ hf hw (lv_sub hl [1, 2, 3, 4, 0] rfl)
  unfold fX1_isShowing at hf
  refine lv_iload_n hx hb dX1_isShowing_0 rfl (lv_at hl 1 rfl) ?_
  refine ks_gs2 hE hw (by decide) dX1_isShowing_1 ?_
  refine ks_tlen2 hE hw dX1_isShowing_4 ?_
  refine lv_icmp_ge (tgt := 16) hx hb dX1_isShowing_5 (by decide) (fun c1 => ?_) (fun c1 => ?_)
  · have hf := (if_pos c1).symm.trans hf
    refine lv_bipush (v := (-9)) hx hb dX1_isShowing_16 (by decide) ?_
    exact L18 _ _ _ _ _ hf hw (lv_sub hl [0, 1, 2, 3] rfl)
  · have hf := (if_neg c1).symm.trans hf
    refine ks_gs2 hE hw (by decide) dX1_isShowing_8 ?_
    refine lv_iload_n hx hb dX1_isShowing_11 rfl (lv_at hl 1 rfl) ?_
    obtain ⟨b2, hf⟩ := ks_ok hf
    refine ks_ts2 hE hw b2 dX1_isShowing_12 ?_
    refine lv_goto (tgt := 18) hx hb dX1_isShowing_13 (by decide) ?_
    exact L18 _ _ _ _ _ hf hw (lv_sub hl [0, 1, 2, 3] rfl)
def fX1_leastMood_66 (p1 : Int32) (k2 : Tau → Int32 → Option (Int32 × Tau)) (τ : Tau) (x_2 : Int32) : Option (Int32 × Tau) :=
 nm (x_2 + (1 : Int32)) (fun x10 =>
     k2 τ x10)
def fX1_leastMood_43 (p1 : Int32) (k2 : Tau → Int32 → Option (Int32 × Tau)) (τ : Tau) (x_2 : Int32) (z_0 : Int32) : Option (Int32 × Tau) :=
 (if z_0 = 0 then
     fX1_leastMood_66 p1 k2 τ x_2
     else
     Option.bind (fX1_isShowing τ x_2 ((p1 >>> ((2 : Int32) &&& 31)) &&& (3 : Int32)) (p1 &&& (3 : Int32))) (fun r8 =>
    (if bI r8.1 = 0 then
     fX1_leastMood_66 p1 k2 r8.2 x_2
     else
     some (x_2, r8.2))))
def fX1_leastMood_42 (p1 : Int32) (k2 : Tau → Int32 → Option (Int32 × Tau)) (τ : Tau) (x_2 : Int32) : Option (Int32 × Tau) :=
 fX1_leastMood_43 p1 k2 τ x_2 (0 : Int32)
def fX1_leastMood_2 (p1 : Int32) : Nat → Tau → Int32 → Option (Int32 × Tau)
  | 0, _, _ => none
  | n + 1, τ, x_2 =>
     (if (9 : Int32) ≤ x_2 then
     some ((-9 : Int32), τ)
     else
     (if (9 : Int32) ≤ x_2 then
     some ((-9 : Int32), τ)
     else
     nm (fX6_has (tI τ 27 3) x_2) (fun r3 =>
     (if bI r3 = 0 then
     fX1_leastMood_42 p1 (fX1_leastMood_2 p1 n) τ x_2
     else
     (if x_2 < 0 ∨ 9 ≤ x_2.toNatClampNeg then none else
     (if vSHOWS x_2.toNatClampNeg = (p1 >>> ((4 : Int32) &&& 31)) then
     fX1_leastMood_43 p1 (fX1_leastMood_2 p1 n) τ x_2 (1 : Int32)
     else
     fX1_leastMood_42 p1 (fX1_leastMood_2 p1 n) τ x_2))))))
def fX1_leastMood  (τ : Tau) (p1 : Int32) : Option (Int32 × Tau) :=
 fX1_leastMood_2 p1 FU τ (0 : Int32)
set_option maxHeartbeats 4000000 in
set_option maxRecDepth 100000 in
theorem c_X1_leastMood (l : Launch) (D : va_G) (cA : Nat → ClassId) (st ad : Nat → Nat) (a : Nat)  (τ : Tau) (p1 : Int32) (R : (Int32 × Tau)) (hf : fX1_leastMood τ p1 = some R) : KE ΛX 29 D cA st ad l yX1_leastMood cX1_leastMood 4 (some .int) 2 52 [.ref (adr ad a 27), .int p1] a τ (some (.int R.1)) R.2 := by
  refine KE.of "KindSayings$Proof" rfl (by decide) (Nat.le_of_ble_eq_true rfl) (fun p e s m args below meth c A ls Rm Q hE hRm hQ hw hl => ?_)
  obtain ⟨hx, hb, hml, hown, hts, -⟩ := id hE
  have hl : lv_has ls 4 [(0, .ref (adr ad a 27)), (1, .int p1)] := hl
  have L2 : ∀ (n2 : Nat) (τ : Tau) (x_2 : Int32) (H : Heap) (locs : List Loc) (ls : Array Slot), fX1_leastMood_2 p1 n2 τ x_2 = some R → Wd ΛX 29 D cA ad A s a τ H locs → lv_has ls 4 [(0, .ref (adr ad a 27)), (1, .int p1), (2, .int x_2)] → W p l e Rm s m args below meth c H locs 0 0 Q (F0 m 2 ls []) := by
    intro n2
    induction n2 with
    | zero => intro τ x_2 H locs ls hf hw hl; exact absurd hf (by rw [fX1_leastMood_2]; simp)
    | succ n2 ih2 =>
      have L66 : ∀ (τ : Tau) (x_2 : Int32) (H : Heap) (locs : List Loc) (ls : Array Slot), fX1_leastMood_66 p1 (fX1_leastMood_2 p1 n2) τ x_2 = some R → Wd ΛX 29 D cA ad A s a τ H locs → lv_has ls 4 [(0, .ref (adr ad a 27)), (1, .int p1), (2, .int x_2)] → W p l e Rm s m args below meth c H locs 0 0 Q (F0 m 66 ls []) := by
        intro τ x_2 H locs ls hf hw hl
        unfold fX1_leastMood_66 at hf
        obtain ⟨x10, ex10, hf⟩ := ks_nm hf
        refine lv_iinc (v := x10) (lv' := [(2, .int x10), (0, .ref (adr ad a 27)), (1, .int p1)]) hx hb dX1_leastMood_66 hl (k := 2) rfl (by rw [ex10]; rfl) (by decide) rfl (fun ls hl => ?_)
        refine lv_goto (tgt := 2) hx hb dX1_leastMood_69 (by decide) ?_
        exact ih2 _ _ _ _ _ hf hw (lv_sub hl [1, 2, 0] rfl)
      have L43 : ∀ (τ : Tau) (x_2 : Int32) (z_0 : Int32) (H : Heap) (locs : List Loc) (ls : Array Slot), fX1_leastMood_43 p1 (fX1_leastMood_2 p1 n2) τ x_2 z_0 = some R → Wd ΛX 29 D cA ad A s a τ H locs → lv_has ls 4 [(0, .ref (adr ad a 27)), (1, .int p1), (2, .int x_2)] → W p l e Rm s m args below meth c H locs 0 0 Q (F0 m 43 ls [.int z_0]) := by
        intro τ x_2 z_0 H locs ls hf hw hl
        unfold fX1_leastMood_43 at hf
        refine lv_istore_n (lv' := [(3, .int z_0), (0, .ref (adr ad a 27)), (1, .int p1), (2, .int x_2)]) hx hb dX1_leastMood_43 rfl hl (by decide) rfl (fun ls hl => ?_)
        refine lv_iload_n hx hb dX1_leastMood_44 rfl (lv_at hl 0 rfl) ?_
        refine lv_if_eq (tgt := 66) hx hb dX1_leastMood_45 (by decide) (fun c7 => ?_) (fun c7 => ?_)
        · have hf := (if_pos c7).symm.trans hf
          exact L66 _ _ _ _ _ hf hw (lv_sub hl [1, 2, 3] rfl)
        · have hf := (if_neg c7).symm.trans hf
          refine lv_aload_n hx hb dX1_leastMood_48 rfl (lv_at hl 1 rfl) ?_
          refine lv_iload_n hx hb dX1_leastMood_49 rfl (lv_at hl 3 rfl) ?_
          refine lv_iload_n hx hb dX1_leastMood_50 rfl (lv_at hl 2 rfl) ?_
          refine lv_iconst (v := 2) hx hb dX1_leastMood_51 (by decide) ?_
          refine lv_ishr hx hb dX1_leastMood_52 ?_
          refine lv_iconst (v := 3) hx hb dX1_leastMood_53 (by decide) ?_
          refine lv_iand hx hb dX1_leastMood_54 ?_
          refine lv_iload_n hx hb dX1_leastMood_55 rfl (lv_at hl 2 rfl) ?_
          refine lv_iconst (v := 3) hx hb dX1_leastMood_56 (by decide) ?_
          refine lv_iand hx hb dX1_leastMood_57 ?_
          obtain ⟨r8, er8, hf⟩ := ks_bind hf
          refine ke_V hE hw hl.1 cl_X1_69 27 ltX_27 lyX_27 rfl [.int x_2, .int ((p1 >>> ((2 : Int32) &&& 31)) &&& (3 : Int32)), .int (p1 &&& (3 : Int32))] (c_X1_isShowing l D cA st ad a _ _ _ _ _ er8) rfl (ke_room hRm rfl rfl) ke_cnt (Nat.le_of_ble_eq_true rfl) rfl dX1_leastMood_58 (fun H locs hw => ?_)
          refine W.eq (g2 := F0 m 61 ls (.int (bI r8.1) :: [])) rfl ?_
          refine lv_if_eq (tgt := 66) hx hb dX1_leastMood_61 (by decide) (fun c9 => ?_) (fun c9 => ?_)
          · have hf := (if_pos c9).symm.trans hf
            exact L66 _ _ _ _ _ hf hw (lv_sub hl [1, 2, 3] rfl)
          · have hf := (if_neg c9).symm.trans hf
            refine lv_iload_n hx hb dX1_leastMood_64 rfl (lv_at hl 3 rfl) ?_
            replace hf := Option.some.inj hf
            subst hf
            exact ke_iret hE hw hQ dX1_leastMood_65 rfl rfl
      have L42 : ∀ (τ : Tau) (x_2 : Int32) (H : Heap) (locs : List Loc) (ls : Array Slot), fX1_leastMood_42 p1 (fX1_leastMood_2 p1 n2) τ x_2 = some R → Wd ΛX 29 D cA ad A s a τ H locs → lv_has ls 4 [(0, .ref (adr ad a 27)), (1, .int p1), (2, .int x_2)] → W p l e Rm s m args below meth c H locs 0 0 Q (F0 m 42 ls []) := by
        intro τ x_2 H locs ls hf hw hl
        unfold fX1_leastMood_42 at hf
        refine lv_iconst (v := 0) hx hb dX1_leastMood_42 (by decide) ?_
        exact L43 _ _ _ _ _ _ hf hw (lv_sub hl [0, 1, 2] rfl)
      intro τ x_2 H locs ls hf hw hl
      rw [fX1_leastMood_2] at hf
      refine lv_iload_n hx hb dX1_leastMood_2 rfl (lv_at hl 2 rfl) ?_
      refine lv_bipush (v := 9) hx hb dX1_leastMood_3 (by decide) ?_
      refine lv_icmp_ge (tgt := 72) hx hb dX1_leastMood_5 (by decide) (fun c1 => ?_) (fun c1 => ?_)
      · have hf := (if_pos c1).symm.trans hf
        refine lv_bipush (v := (-9)) hx hb dX1_leastMood_72 (by decide) ?_
        replace hf := Option.some.inj hf
        subst hf
        exact ke_iret hE hw hQ dX1_leastMood_74 rfl rfl
      · have hf := (if_neg c1).symm.trans hf
        refine lv_iload_n hx hb dX1_leastMood_8 rfl (lv_at hl 2 rfl) ?_
        refine ks_gs1 hE hw (by decide) dX1_leastMood_9 ?_
        refine ks_tlen1 hE hw dX1_leastMood_12 ?_
        refine lv_icmp_ge (tgt := 72) hx hb dX1_leastMood_13 (by decide) (fun c2 => ?_) (fun c2 => ?_)
        · have hf := (if_pos c2).symm.trans hf
          refine lv_bipush (v := (-9)) hx hb dX1_leastMood_72 (by decide) ?_
          replace hf := Option.some.inj hf
          subst hf
          exact ke_iret hE hw hQ dX1_leastMood_74 rfl rfl
        · have hf := (if_neg c2).symm.trans hf
          refine lv_aload_n hx hb dX1_leastMood_16 rfl (lv_at hl 0 rfl) ?_
          refine ks_getI hE hw 27 3 ltX_27 lyX_27 rfl fd_X1_19 dX1_leastMood_17 ?_
          refine lv_iload_n hx hb dX1_leastMood_20 rfl (lv_at hl 2 rfl) ?_
          obtain ⟨r3, er3, hf⟩ := ks_nm hf
          refine ke_SN hE hw hl.1 cl_X1_29 [.int (tI τ 27 3), .int x_2] (c_X6_has l D cA st ad a _ _ _ _ er3.symm) rfl (ke_room hRm rfl rfl) ke_cnt (Nat.le_of_ble_eq_true rfl) rfl dX1_leastMood_21 (fun H locs hw => ?_)
          refine W.eq (g2 := F0 m 24 ls (.int (bI r3) :: [])) rfl ?_
          refine lv_if_eq (tgt := 42) hx hb dX1_leastMood_24 (by decide) (fun c4 => ?_) (fun c4 => ?_)
          · have hf := (if_pos c4).symm.trans hf
            exact L42 _ _ _ _ _ hf hw (lv_sub hl [0, 1, 2] rfl)
          · have hf := (if_neg c4).symm.trans hf
            refine ks_gs1 hE hw (by decide) dX1_leastMood_27 ?_
            refine lv_iload_n hx hb dX1_leastMood_30 rfl (lv_at hl 2 rfl) ?_
            obtain ⟨b5, hf⟩ := ks_ok hf
            refine ks_ts1 hE hw b5 dX1_leastMood_31 ?_
            refine lv_iload_n hx hb dX1_leastMood_32 rfl (lv_at hl 1 rfl) ?_
            refine lv_iconst (v := 4) hx hb dX1_leastMood_33 (by decide) ?_
            refine lv_ishr hx hb dX1_leastMood_34 ?_
            refine lv_icmp_ne (tgt := 42) hx hb dX1_leastMood_35 (by decide) (fun c6 => ?_) (fun c6 => ?_)
            · have hf := (if_neg c6).symm.trans hf
              exact L42 _ _ _ _ _ hf hw (lv_sub hl [0, 1, 2] rfl)
            · have hf := (if_pos c6).symm.trans hf
              refine lv_iconst (v := 1) hx hb dX1_leastMood_38 (by decide) ?_
              refine lv_goto (tgt := 43) hx hb dX1_leastMood_39 (by decide) ?_
              exact L43 _ _ _ _ _ _ hf hw (lv_sub hl [0, 1, 2] rfl)
  unfold fX1_leastMood at hf
  refine lv_iconst (v := 0) hx hb dX1_leastMood_0 (by decide) ?_
  refine lv_istore_n (lv' := [(2, .int (0 : Int32)), (0, .ref (adr ad a 27)), (1, .int p1)]) hx hb dX1_leastMood_1 rfl hl (by decide) rfl (fun ls hl => ?_)
  exact L2 FU _ _ _ _ _ hf hw (lv_sub hl [1, 2, 0] rfl)
def fX1_isAnyComing_51 (p1 : Int32) (k4 : Tau → Int32 → Int32 → Option (Bool × Tau)) (τ : Tau) (x_2 : Int32) (x_3 : Int32) : Option (Bool × Tau) :=
 nm (x_3 + (1 : Int32)) (fun x11 =>
     k4 τ x_2 x11)
def fX1_isAnyComing_4 (p1 : Int32) : Nat → Tau → Int32 → Int32 → Option (Bool × Tau)
  | 0, _, _, _ => none
  | n + 1, τ, x_2, x_3 =>
     (if (64 : Int32) ≤ x_3 then
     (if x_2 = 0 ∨ x_2 = 1 then
     some (decide (x_2 = 1), τ) else none)
     else
     nm (fX1_isOfKinds τ x_3) (fun r3 =>
     (if bI r3 = 0 then
     fX1_isAnyComing_51 p1 (fX1_isAnyComing_4 p1 n) τ x_2 x_3
     else
     (if x_3 < 0 ∨ 64 ≤ x_3.toNatClampNeg then none else
     (if tA τ 28 x_3.toNatClampNeg = (-9 : Int32) then
     Option.bind (fX1_leastMood τ x_3) (fun r7 =>
     (if r7.1 = (-9 : Int32) then
     fX1_isAnyComing_51 p1 (fX1_isAnyComing_4 p1 n) r7.2 x_2 x_3
     else
     (if x_3 < 0 ∨ 64 ≤ x_3.toNatClampNeg then none else
     nm (sA r7.2 28 x_3.toNatClampNeg p1) (fun t10 =>
     fX1_isAnyComing_51 p1 (fX1_isAnyComing_4 p1 n) t10 (1 : Int32) x_3))))
     else
     fX1_isAnyComing_51 p1 (fX1_isAnyComing_4 p1 n) τ x_2 x_3)))))
def fX1_isAnyComing  (τ : Tau) (p1 : Int32) : Option (Bool × Tau) :=
 fX1_isAnyComing_4 p1 FU τ (0 : Int32) (0 : Int32)
set_option maxHeartbeats 4000000 in
set_option maxRecDepth 100000 in
theorem c_X1_isAnyComing (l : Launch) (D : va_G) (cA : Nat → ClassId) (st ad : Nat → Nat) (a : Nat)  (τ : Tau) (p1 : Int32) (R : (Bool × Tau)) (hf : fX1_isAnyComing τ p1 = some R) : KE ΛX 29 D cA st ad l yX1_isAnyComing cX1_isAnyComing 4 (some .boolean) 3 75 [.ref (adr ad a 27), .int p1] a τ (some (.int (bI R.1))) R.2 := by
  refine KE.of "KindSayings$Proof" rfl (by decide) (Nat.le_of_ble_eq_true rfl) (fun p e s m args below meth c A ls Rm Q hE hRm hQ hw hl => ?_)
  obtain ⟨hx, hb, hml, hown, hts, -⟩ := id hE
  have hl : lv_has ls 4 [(0, .ref (adr ad a 27)), (1, .int p1)] := hl
  have L4 : ∀ (n4 : Nat) (τ : Tau) (x_2 : Int32) (x_3 : Int32) (H : Heap) (locs : List Loc) (ls : Array Slot), fX1_isAnyComing_4 p1 n4 τ x_2 x_3 = some R → Wd ΛX 29 D cA ad A s a τ H locs → lv_has ls 4 [(0, .ref (adr ad a 27)), (1, .int p1), (2, .int x_2), (3, .int x_3)] → W p l e Rm s m args below meth c H locs 0 0 Q (F0 m 4 ls []) := by
    intro n4
    induction n4 with
    | zero => intro τ x_2 x_3 H locs ls hf hw hl; exact absurd hf (by rw [fX1_isAnyComing_4]; simp)
    | succ n4 ih4 =>
      have L51 : ∀ (τ : Tau) (x_2 : Int32) (x_3 : Int32) (H : Heap) (locs : List Loc) (ls : Array Slot), fX1_isAnyComing_51 p1 (fX1_isAnyComing_4 p1 n4) τ x_2 x_3 = some R → Wd ΛX 29 D cA ad A s a τ H locs → lv_has ls 4 [(0, .ref (adr ad a 27)), (1, .int p1), (2, .int x_2), (3, .int x_3)] → W p l e Rm s m args below meth c H locs 0 0 Q (F0 m 51 ls []) := by
        intro τ x_2 x_3 H locs ls hf hw hl
        unfold fX1_isAnyComing_51 at hf
        obtain ⟨x11, ex11, hf⟩ := ks_nm hf
        refine lv_iinc (v := x11) (lv' := [(3, .int x11), (0, .ref (adr ad a 27)), (1, .int p1), (2, .int x_2)]) hx hb dX1_isAnyComing_51 hl (k := 3) rfl (by rw [ex11]; rfl) (by decide) rfl (fun ls hl => ?_)
        refine lv_goto (tgt := 4) hx hb dX1_isAnyComing_54 (by decide) ?_
        exact ih4 _ _ _ _ _ _ hf hw (lv_sub hl [1, 2, 3, 0] rfl)
      intro τ x_2 x_3 H locs ls hf hw hl
      rw [fX1_isAnyComing_4] at hf
      refine lv_iload_n hx hb dX1_isAnyComing_4 rfl (lv_at hl 3 rfl) ?_
      refine lv_aload_n hx hb dX1_isAnyComing_5 rfl (lv_at hl 0 rfl) ?_
      refine ks_getR hE hw 27 0 ltX_27 lyX_27 rfl fd_X1_9 dX1_isAnyComing_6 ?_
      refine ks_alen hE hw 28 ltX_28 lyX_28 rfl 64 rfl dX1_isAnyComing_9 ?_
      refine lv_icmp_ge (tgt := 57) hx hb dX1_isAnyComing_10 (by decide) (fun c1 => ?_) (fun c1 => ?_)
      · have hf := (if_pos c1).symm.trans hf
        refine lv_iload_n hx hb dX1_isAnyComing_57 rfl (lv_at hl 2 rfl) ?_
        obtain ⟨b2, hf⟩ := ks_need hf
        replace hf := Option.some.inj hf
        subst hf
        exact ke_zret hE hw hQ b2 dX1_isAnyComing_58 (bI_of b2) rfl
      · have hf := (if_neg c1).symm.trans hf
        refine lv_aload_n hx hb dX1_isAnyComing_13 rfl (lv_at hl 0 rfl) ?_
        refine lv_iload_n hx hb dX1_isAnyComing_14 rfl (lv_at hl 3 rfl) ?_
        obtain ⟨r3, er3, hf⟩ := ks_nm hf
        refine ke_V hE hw hl.1 cl_X1_50 27 ltX_27 lyX_27 rfl [.int x_3] (c_X1_isOfKinds l D cA st ad a _ _ _ er3.symm) rfl (ke_room hRm rfl rfl) ke_cnt (Nat.le_of_ble_eq_true rfl) rfl dX1_isAnyComing_15 (fun H locs hw => ?_)
        refine W.eq (g2 := F0 m 18 ls (.int (bI r3) :: [])) rfl ?_
        refine lv_if_eq (tgt := 51) hx hb dX1_isAnyComing_18 (by decide) (fun c4 => ?_) (fun c4 => ?_)
        · have hf := (if_pos c4).symm.trans hf
          exact L51 _ _ _ _ _ _ hf hw (lv_sub hl [0, 1, 2, 3] rfl)
        · have hf := (if_neg c4).symm.trans hf
          refine lv_aload_n hx hb dX1_isAnyComing_21 rfl (lv_at hl 0 rfl) ?_
          refine ks_getR hE hw 27 0 ltX_27 lyX_27 rfl fd_X1_9 dX1_isAnyComing_22 ?_
          refine lv_iload_n hx hb dX1_isAnyComing_25 rfl (lv_at hl 3 rfl) ?_
          obtain ⟨b5, hf⟩ := ks_ok hf
          refine ks_iald hE hw 28 ltX_28 lyX_28 b5 dX1_isAnyComing_26 ?_
          refine lv_bipush (v := (-9)) hx hb dX1_isAnyComing_27 (by decide) ?_
          refine lv_icmp_ne (tgt := 51) hx hb dX1_isAnyComing_29 (by decide) (fun c6 => ?_) (fun c6 => ?_)
          · have hf := (if_neg c6).symm.trans hf
            exact L51 _ _ _ _ _ _ hf hw (lv_sub hl [0, 1, 2, 3] rfl)
          · have hf := (if_pos c6).symm.trans hf
            refine lv_aload_n hx hb dX1_isAnyComing_32 rfl (lv_at hl 0 rfl) ?_
            refine lv_iload_n hx hb dX1_isAnyComing_33 rfl (lv_at hl 3 rfl) ?_
            obtain ⟨r7, er7, hf⟩ := ks_bind hf
            refine ke_V hE hw hl.1 cl_X1_53 27 ltX_27 lyX_27 rfl [.int x_3] (c_X1_leastMood l D cA st ad a _ _ _ er7) rfl (ke_room hRm rfl rfl) ke_cnt (Nat.le_of_ble_eq_true rfl) rfl dX1_isAnyComing_34 (fun H locs hw => ?_)
            refine W.eq (g2 := F0 m 37 ls (.int r7.1 :: [])) rfl ?_
            refine lv_bipush (v := (-9)) hx hb dX1_isAnyComing_37 (by decide) ?_
            refine lv_icmp_eq (tgt := 51) hx hb dX1_isAnyComing_39 (by decide) (fun c8 => ?_) (fun c8 => ?_)
            · have hf := (if_pos c8).symm.trans hf
              exact L51 _ _ _ _ _ _ hf hw (lv_sub hl [0, 1, 2, 3] rfl)
            · have hf := (if_neg c8).symm.trans hf
              refine lv_aload_n hx hb dX1_isAnyComing_42 rfl (lv_at hl 0 rfl) ?_
              refine ks_getR hE hw 27 0 ltX_27 lyX_27 rfl fd_X1_9 dX1_isAnyComing_43 ?_
              refine lv_iload_n hx hb dX1_isAnyComing_46 rfl (lv_at hl 3 rfl) ?_
              refine lv_iload_n hx hb dX1_isAnyComing_47 rfl (lv_at hl 1 rfl) ?_
              obtain ⟨b9, hf⟩ := ks_ok hf
              obtain ⟨t10, et10, hf⟩ := ks_nm hf
              refine ks_iast hE hw 28 ltX_28 lyX_28 b9 dX1_isAnyComing_48 (fun H locs hw => ?_)
              rw [← et10] at hw
              refine lv_iconst (v := 1) hx hb dX1_isAnyComing_49 (by decide) ?_
              refine lv_istore_n (lv' := [(2, .int (1 : Int32)), (0, .ref (adr ad a 27)), (1, .int p1), (3, .int x_3)]) hx hb dX1_isAnyComing_50 rfl hl (by decide) rfl (fun ls hl => ?_)
              exact L51 _ _ _ _ _ _ hf hw (lv_sub hl [1, 2, 0, 3] rfl)
  unfold fX1_isAnyComing at hf
  refine lv_iconst (v := 0) hx hb dX1_isAnyComing_0 (by decide) ?_
  refine lv_istore_n (lv' := [(2, .int (0 : Int32)), (0, .ref (adr ad a 27)), (1, .int p1)]) hx hb dX1_isAnyComing_1 rfl hl (by decide) rfl (fun ls hl => ?_)
  refine lv_iconst (v := 0) hx hb dX1_isAnyComing_2 (by decide) ?_
  refine lv_istore_n (lv' := [(3, .int (0 : Int32)), (2, .int (0 : Int32)), (0, .ref (adr ad a 27)), (1, .int p1)]) hx hb dX1_isAnyComing_3 rfl hl (by decide) rfl (fun ls hl => ?_)
  exact L4 FU _ _ _ _ _ _ hf hw (lv_sub hl [2, 3, 1, 0] rfl)
def fX1_work_142 (p1 : Int64) (p2 : Int32) (p3 : Int32) (k101 : Tau → Int32 → Int32 → Option Tau) (τ : Tau) (x_5 : Int32) (x_6 : Int32) : Option Tau :=
 nm (x_6 + (1 : Int32)) (fun x24 =>
     k101 τ x_5 x24)
def fX1_work_101 (p1 : Int64) (p2 : Int32) (p3 : Int32) : Nat → Tau → Int32 → Int32 → Option Tau
  | 0, _, _, _ => none
  | n + 1, τ, x_5, x_6 =>
     (if (64 : Int32) < x_6 then
     some τ
     else
     (if x_5 = 0 then
     some τ
     else
     Option.bind (fX1_factsAhead τ x_6) (fun r18 =>
     nm (sL τ 27 2 r18) (fun t19 =>
     Option.bind (fX1_isAnyComing t19 x_6) (fun r20 =>
     nm (bI r20.1) (fun x21 =>
     (if x21 = 0 then
     fX1_work_142 p1 p2 p3 (fX1_work_101 p1 p2 p3 n) r20.2 x21 x_6
     else
     nm (sI r20.2 27 7 x_6) (fun t23 =>
     fX1_work_142 p1 p2 p3 (fX1_work_101 p1 p2 p3 n) t23 x21 x_6))))))))
def fX1_work_88 (p1 : Int64) (p2 : Int32) (p3 : Int32) (k24 : Tau → Int32 → Option Tau) (τ : Tau) (x_5 : Int32) (z_0 : Int32) (z_1 : Int32) : Option Tau :=
 (if z_1 < 0 ∨ 64 ≤ z_1.toNatClampNeg then none else
     nm (sA τ 28 z_1.toNatClampNeg z_0) (fun t14 =>
     nm (x_5 + (1 : Int32)) (fun x15 =>
     k24 t14 x15)))
def fX1_work_82 (p1 : Int64) (p2 : Int32) (p3 : Int32) (k24 : Tau → Int32 → Option Tau) (τ : Tau) (x_5 : Int32) (z_0 : Int32) : Option Tau :=
 fX1_work_88 p1 p2 p3 k24 τ x_5 (0 : Int32) z_0
def fX1_work_60 (p1 : Int64) (p2 : Int32) (p3 : Int32) (k24 : Tau → Int32 → Option Tau) (τ : Tau) (x_5 : Int32) (z_0 : Int32) : Option Tau :=
 (if z_0 = 0 then
     nm (fX1_isTold τ x_5) (fun r11 =>
    (if bI r11 = 0 then
     fX1_work_88 p1 p2 p3 k24 τ x_5 (-9 : Int32) x_5
     else
     fX1_work_82 p1 p2 p3 k24 τ x_5 x_5))
     else
     fX1_work_82 p1 p2 p3 k24 τ x_5 x_5)
def fX1_work_59 (p1 : Int64) (p2 : Int32) (p3 : Int32) (k24 : Tau → Int32 → Option Tau) (τ : Tau) (x_5 : Int32) : Option Tau :=
 fX1_work_60 p1 p2 p3 k24 τ x_5 (0 : Int32)
def fX1_work_24 (p1 : Int64) (p2 : Int32) (p3 : Int32) : Nat → Tau → Int32 → Option Tau
  | 0, _, _ => none
  | n + 1, τ, x_5 =>
     (if (64 : Int32) ≤ x_5 then
     fX1_work_101 p1 p2 p3 FU τ (1 : Int32) (1 : Int32)
     else
     nm (fX6_has (tI τ 27 3) (7 : Int32)) (fun r6 =>
     (if bI r6 = 0 then
     fX1_work_59 p1 p2 p3 (fX1_work_24 p1 p2 p3 n) τ x_5
     else
     nm (fX1_isSame τ x_5) (fun r8 =>
     (if bI r8 = 0 then
     fX1_work_59 p1 p2 p3 (fX1_work_24 p1 p2 p3 n) τ x_5
     else
     fX1_work_60 p1 p2 p3 (fX1_work_24 p1 p2 p3 n) τ x_5 (1 : Int32))))))
def fX1_work  (τ : Tau) (p1 : Int64) (p2 : Int32) (p3 : Int32) : Option Tau :=
 nm (sL τ 27 1 p1) (fun t1 =>
 nm (sI t1 27 3 p2) (fun t2 =>
 nm (sI t2 27 4 p3) (fun t3 =>
 nm (sI t3 27 7 (0 : Int32)) (fun t4 =>
 fX1_work_24 p1 p2 p3 FU t4 (0 : Int32)))))
set_option maxHeartbeats 4000000 in
set_option maxRecDepth 100000 in
theorem c_X1_work (l : Launch) (D : va_G) (cA : Nat → ClassId) (st ad : Nat → Nat) (a : Nat)  (τ : Tau) (p1 : Int64) (p2 : Int32) (p3 : Int32) (R : Tau) (hf : fX1_work τ p1 p2 p3 = some R) : KE ΛX 29 D cA st ad l yX1_work cX1_work 7 none 4 98 [.ref (adr ad a 27), .long p1, .int p2, .int p3] a τ (none) R := by
  refine KE.of "KindSayings$Proof" rfl (by decide) (Nat.le_of_ble_eq_true rfl) (fun p e s m args below meth c A ls Rm Q hE hRm hQ hw hl => ?_)
  obtain ⟨hx, hb, hml, hown, hts, -⟩ := id hE
  have hl : lv_has ls 7 [(0, .ref (adr ad a 27)), (1, .long p1), (3, .int p2), (4, .int p3)] := hl
  have L101 : ∀ (n101 : Nat) (τ : Tau) (x_5 : Int32) (x_6 : Int32) (H : Heap) (locs : List Loc) (ls : Array Slot), fX1_work_101 p1 p2 p3 n101 τ x_5 x_6 = some R → Wd ΛX 29 D cA ad A s a τ H locs → lv_has ls 7 [(0, .ref (adr ad a 27)), (5, .int x_5), (6, .int x_6)] → W p l e Rm s m args below meth c H locs 0 0 Q (F0 m 101 ls []) := by
    intro n101
    induction n101 with
    | zero => intro τ x_5 x_6 H locs ls hf hw hl; exact absurd hf (by rw [fX1_work_101]; simp)
    | succ n101 ih101 =>
      have L142 : ∀ (τ : Tau) (x_5 : Int32) (x_6 : Int32) (H : Heap) (locs : List Loc) (ls : Array Slot), fX1_work_142 p1 p2 p3 (fX1_work_101 p1 p2 p3 n101) τ x_5 x_6 = some R → Wd ΛX 29 D cA ad A s a τ H locs → lv_has ls 7 [(0, .ref (adr ad a 27)), (5, .int x_5), (6, .int x_6)] → W p l e Rm s m args below meth c H locs 0 0 Q (F0 m 142 ls []) := by
        intro τ x_5 x_6 H locs ls hf hw hl
        unfold fX1_work_142 at hf
        obtain ⟨x24, ex24, hf⟩ := ks_nm hf
        refine lv_iinc (v := x24) (lv' := [(6, .int x24), (0, .ref (adr ad a 27)), (5, .int x_5)]) hx hb dX1_work_142 hl (k := 2) rfl (by rw [ex24]; rfl) (by decide) rfl (fun ls hl => ?_)
        refine lv_goto (tgt := 101) hx hb dX1_work_145 (by decide) ?_
        exact ih101 _ _ _ _ _ _ hf hw (lv_sub hl [1, 2, 0] rfl)
      intro τ x_5 x_6 H locs ls hf hw hl
      rw [fX1_work_101] at hf
      refine lv_iload hx hb dX1_work_101 (lv_at hl 2 rfl) ?_
      refine lv_bipush (v := 64) hx hb dX1_work_103 (by decide) ?_
      refine lv_icmp_gt (tgt := 148) hx hb dX1_work_105 (by decide) (fun c16 => ?_) (fun c16 => ?_)
      · have hf := (if_pos c16).symm.trans hf
        replace hf := Option.some.inj hf
        subst hf
        exact ke_vret hE hw hQ dX1_work_148 rfl
      · have hf := (if_neg c16).symm.trans hf
        refine lv_iload hx hb dX1_work_108 (lv_at hl 1 rfl) ?_
        refine lv_if_eq (tgt := 148) hx hb dX1_work_110 (by decide) (fun c17 => ?_) (fun c17 => ?_)
        · have hf := (if_pos c17).symm.trans hf
          replace hf := Option.some.inj hf
          subst hf
          exact ke_vret hE hw hQ dX1_work_148 rfl
        · have hf := (if_neg c17).symm.trans hf
          refine lv_aload_n hx hb dX1_work_113 rfl (lv_at hl 0 rfl) ?_
          refine lv_aload_n hx hb dX1_work_114 rfl (lv_at hl 0 rfl) ?_
          refine lv_iload hx hb dX1_work_115 (lv_at hl 2 rfl) ?_
          obtain ⟨r18, er18, hf⟩ := ks_bind hf
          refine ke_V hE hw hl.1 cl_X1_40 27 ltX_27 lyX_27 rfl [.int x_6] (c_X1_factsAhead l D cA st ad a _ _ _ er18) rfl (ke_room hRm rfl rfl) ke_cnt (Nat.le_of_ble_eq_true rfl) rfl dX1_work_117 (fun H locs hw => ?_)
          refine W.eq (g2 := F0 m 120 ls (.long r18 :: .ref (adr ad a 27) :: [])) rfl ?_
          obtain ⟨t19, et19, hf⟩ := ks_nm hf
          refine ks_putL hE hw 27 2 ltX_27 lyX_27 rfl fw_X1_44 dX1_work_120 (fun H locs hw => ?_)
          rw [← et19] at hw
          refine lv_aload_n hx hb dX1_work_123 rfl (lv_at hl 0 rfl) ?_
          refine lv_iload hx hb dX1_work_124 (lv_at hl 2 rfl) ?_
          obtain ⟨r20, er20, hf⟩ := ks_bind hf
          refine ke_V hE hw hl.1 cl_X1_47 27 ltX_27 lyX_27 rfl [.int x_6] (c_X1_isAnyComing l D cA st ad a _ _ _ er20) rfl (ke_room hRm rfl rfl) ke_cnt (Nat.le_of_ble_eq_true rfl) rfl dX1_work_126 (fun H locs hw => ?_)
          refine W.eq (g2 := F0 m 129 ls (.int (bI r20.1) :: [])) rfl ?_
          obtain ⟨x21, ex21, hf⟩ := ks_nm hf
          refine W.eq (g2 := F0 m 129 ls (.int x21 :: [])) (by rw [ex21]) ?_
          refine lv_istore (lv' := [(5, .int x21), (0, .ref (adr ad a 27)), (6, .int x_6)]) hx hb dX1_work_129 hl (by decide) rfl (fun ls hl => ?_)
          refine lv_iload hx hb dX1_work_131 (lv_at hl 0 rfl) ?_
          refine lv_if_eq (tgt := 142) hx hb dX1_work_133 (by decide) (fun c22 => ?_) (fun c22 => ?_)
          · have hf := (if_pos c22).symm.trans hf
            exact L142 _ _ _ _ _ _ hf hw (lv_sub hl [1, 0, 2] rfl)
          · have hf := (if_neg c22).symm.trans hf
            refine lv_aload_n hx hb dX1_work_136 rfl (lv_at hl 1 rfl) ?_
            refine lv_iload hx hb dX1_work_137 (lv_at hl 2 rfl) ?_
            obtain ⟨t23, et23, hf⟩ := ks_nm hf
            refine ks_putI hE hw 27 7 ltX_27 lyX_27 rfl fw_X1_26 rfl rfl dX1_work_139 (fun H locs hw => ?_)
            rw [← et23] at hw
            exact L142 _ _ _ _ _ _ hf hw (lv_sub hl [1, 0, 2] rfl)
  have L24 : ∀ (n24 : Nat) (τ : Tau) (x_5 : Int32) (H : Heap) (locs : List Loc) (ls : Array Slot), fX1_work_24 p1 p2 p3 n24 τ x_5 = some R → Wd ΛX 29 D cA ad A s a τ H locs → lv_has ls 7 [(0, .ref (adr ad a 27)), (5, .int x_5)] → W p l e Rm s m args below meth c H locs 0 0 Q (F0 m 24 ls []) := by
    intro n24
    induction n24 with
    | zero => intro τ x_5 H locs ls hf hw hl; exact absurd hf (by rw [fX1_work_24]; simp)
    | succ n24 ih24 =>
      have L88 : ∀ (τ : Tau) (x_5 : Int32) (z_0 : Int32) (z_1 : Int32) (H : Heap) (locs : List Loc) (ls : Array Slot), fX1_work_88 p1 p2 p3 (fX1_work_24 p1 p2 p3 n24) τ x_5 z_0 z_1 = some R → Wd ΛX 29 D cA ad A s a τ H locs → lv_has ls 7 [(0, .ref (adr ad a 27)), (5, .int x_5)] → W p l e Rm s m args below meth c H locs 0 0 Q (F0 m 88 ls [.int z_0, .int z_1, .ref (adr ad a 28)]) := by
        intro τ x_5 z_0 z_1 H locs ls hf hw hl
        unfold fX1_work_88 at hf
        obtain ⟨b13, hf⟩ := ks_ok hf
        obtain ⟨t14, et14, hf⟩ := ks_nm hf
        refine ks_iast hE hw 28 ltX_28 lyX_28 b13 dX1_work_88 (fun H locs hw => ?_)
        rw [← et14] at hw
        obtain ⟨x15, ex15, hf⟩ := ks_nm hf
        refine lv_iinc (v := x15) (lv' := [(5, .int x15), (0, .ref (adr ad a 27))]) hx hb dX1_work_89 hl (k := 1) rfl (by rw [ex15]; rfl) (by decide) rfl (fun ls hl => ?_)
        refine lv_goto (tgt := 24) hx hb dX1_work_92 (by decide) ?_
        exact ih24 _ _ _ _ _ hf hw (lv_sub hl [1, 0] rfl)
      have L82 : ∀ (τ : Tau) (x_5 : Int32) (z_0 : Int32) (H : Heap) (locs : List Loc) (ls : Array Slot), fX1_work_82 p1 p2 p3 (fX1_work_24 p1 p2 p3 n24) τ x_5 z_0 = some R → Wd ΛX 29 D cA ad A s a τ H locs → lv_has ls 7 [(0, .ref (adr ad a 27)), (5, .int x_5)] → W p l e Rm s m args below meth c H locs 0 0 Q (F0 m 82 ls [.int z_0, .ref (adr ad a 28)]) := by
        intro τ x_5 z_0 H locs ls hf hw hl
        unfold fX1_work_82 at hf
        refine lv_iconst (v := 0) hx hb dX1_work_82 (by decide) ?_
        refine lv_goto (tgt := 88) hx hb dX1_work_83 (by decide) ?_
        exact L88 _ _ _ _ _ _ _ hf hw (lv_sub hl [0, 1] rfl)
      have L60 : ∀ (τ : Tau) (x_5 : Int32) (z_0 : Int32) (H : Heap) (locs : List Loc) (ls : Array Slot), fX1_work_60 p1 p2 p3 (fX1_work_24 p1 p2 p3 n24) τ x_5 z_0 = some R → Wd ΛX 29 D cA ad A s a τ H locs → lv_has ls 7 [(0, .ref (adr ad a 27)), (5, .int x_5)] → W p l e Rm s m args below meth c H locs 0 0 Q (F0 m 60 ls [.int z_0]) := by
        intro τ x_5 z_0 H locs ls hf hw hl
        unfold fX1_work_60 at hf
        refine lv_istore (lv' := [(6, .int z_0), (0, .ref (adr ad a 27)), (5, .int x_5)]) hx hb dX1_work_60 hl (by decide) rfl (fun ls hl => ?_)
        refine lv_aload_n hx hb dX1_work_62 rfl (lv_at hl 1 rfl) ?_
        refine ks_getR hE hw 27 0 ltX_27 lyX_27 rfl fd_X1_9 dX1_work_63 ?_
        refine lv_iload hx hb dX1_work_66 (lv_at hl 2 rfl) ?_
        refine lv_iload hx hb dX1_work_68 (lv_at hl 0 rfl) ?_
        refine lv_if_ne (tgt := 82) hx hb dX1_work_70 (by decide) (fun c10 => ?_) (fun c10 => ?_)
        · have hf := (if_neg c10).symm.trans hf
          exact L82 _ _ _ _ _ _ hf hw (lv_sub hl [1, 2] rfl)
        · have hf := (if_pos c10).symm.trans hf
          refine lv_aload_n hx hb dX1_work_73 rfl (lv_at hl 1 rfl) ?_
          refine lv_iload hx hb dX1_work_74 (lv_at hl 2 rfl) ?_
          obtain ⟨r11, er11, hf⟩ := ks_nm hf
          refine ke_V hE hw hl.1 cl_X1_37 27 ltX_27 lyX_27 rfl [.int x_5] (c_X1_isTold l D cA st ad a _ _ _ er11.symm) rfl (ke_room hRm rfl rfl) ke_cnt (Nat.le_of_ble_eq_true rfl) rfl dX1_work_76 (fun H locs hw => ?_)
          refine W.eq (g2 := F0 m 79 ls (.int (bI r11) :: .int x_5 :: .ref (adr ad a 28) :: [])) rfl ?_
          refine lv_if_eq (tgt := 86) hx hb dX1_work_79 (by decide) (fun c12 => ?_) (fun c12 => ?_)
          · have hf := (if_pos c12).symm.trans hf
            refine lv_bipush (v := (-9)) hx hb dX1_work_86 (by decide) ?_
            exact L88 _ _ _ _ _ _ _ hf hw (lv_sub hl [1, 2] rfl)
          · have hf := (if_neg c12).symm.trans hf
            exact L82 _ _ _ _ _ _ hf hw (lv_sub hl [1, 2] rfl)
      have L59 : ∀ (τ : Tau) (x_5 : Int32) (H : Heap) (locs : List Loc) (ls : Array Slot), fX1_work_59 p1 p2 p3 (fX1_work_24 p1 p2 p3 n24) τ x_5 = some R → Wd ΛX 29 D cA ad A s a τ H locs → lv_has ls 7 [(0, .ref (adr ad a 27)), (5, .int x_5)] → W p l e Rm s m args below meth c H locs 0 0 Q (F0 m 59 ls []) := by
        intro τ x_5 H locs ls hf hw hl
        unfold fX1_work_59 at hf
        refine lv_iconst (v := 0) hx hb dX1_work_59 (by decide) ?_
        exact L60 _ _ _ _ _ _ hf hw (lv_sub hl [0, 1] rfl)
      intro τ x_5 H locs ls hf hw hl
      rw [fX1_work_24] at hf
      refine lv_iload hx hb dX1_work_24 (lv_at hl 1 rfl) ?_
      refine lv_aload_n hx hb dX1_work_26 rfl (lv_at hl 0 rfl) ?_
      refine ks_getR hE hw 27 0 ltX_27 lyX_27 rfl fd_X1_9 dX1_work_27 ?_
      refine ks_alen hE hw 28 ltX_28 lyX_28 rfl 64 rfl dX1_work_30 ?_
      refine lv_icmp_ge (tgt := 95) hx hb dX1_work_31 (by decide) (fun c5 => ?_) (fun c5 => ?_)
      · have hf := (if_pos c5).symm.trans hf
        refine lv_iconst (v := 1) hx hb dX1_work_95 (by decide) ?_
        refine lv_istore (lv' := [(5, .int (1 : Int32)), (0, .ref (adr ad a 27))]) hx hb dX1_work_96 hl (by decide) rfl (fun ls hl => ?_)
        refine lv_iconst (v := 1) hx hb dX1_work_98 (by decide) ?_
        refine lv_istore (lv' := [(6, .int (1 : Int32)), (5, .int (1 : Int32)), (0, .ref (adr ad a 27))]) hx hb dX1_work_99 hl (by decide) rfl (fun ls hl => ?_)
        exact L101 FU _ _ _ _ _ _ hf hw (lv_sub hl [2, 1, 0] rfl)
      · have hf := (if_neg c5).symm.trans hf
        refine lv_aload_n hx hb dX1_work_34 rfl (lv_at hl 0 rfl) ?_
        refine ks_getI hE hw 27 3 ltX_27 lyX_27 rfl fd_X1_19 dX1_work_35 ?_
        refine lv_bipush (v := 7) hx hb dX1_work_38 (by decide) ?_
        obtain ⟨r6, er6, hf⟩ := ks_nm hf
        refine ke_SN hE hw hl.1 cl_X1_29 [.int (tI τ 27 3), .int (7 : Int32)] (c_X6_has l D cA st ad a _ _ _ _ er6.symm) rfl (ke_room hRm rfl rfl) ke_cnt (Nat.le_of_ble_eq_true rfl) rfl dX1_work_40 (fun H locs hw => ?_)
        refine W.eq (g2 := F0 m 43 ls (.int (bI r6) :: [])) rfl ?_
        refine lv_if_eq (tgt := 59) hx hb dX1_work_43 (by decide) (fun c7 => ?_) (fun c7 => ?_)
        · have hf := (if_pos c7).symm.trans hf
          exact L59 _ _ _ _ _ hf hw (lv_sub hl [0, 1] rfl)
        · have hf := (if_neg c7).symm.trans hf
          refine lv_aload_n hx hb dX1_work_46 rfl (lv_at hl 0 rfl) ?_
          refine lv_iload hx hb dX1_work_47 (lv_at hl 1 rfl) ?_
          obtain ⟨r8, er8, hf⟩ := ks_nm hf
          refine ke_V hE hw hl.1 cl_X1_33 27 ltX_27 lyX_27 rfl [.int x_5] (c_X1_isSame l D cA st ad a _ _ _ er8.symm) rfl (ke_room hRm rfl rfl) ke_cnt (Nat.le_of_ble_eq_true rfl) rfl dX1_work_49 (fun H locs hw => ?_)
          refine W.eq (g2 := F0 m 52 ls (.int (bI r8) :: [])) rfl ?_
          refine lv_if_eq (tgt := 59) hx hb dX1_work_52 (by decide) (fun c9 => ?_) (fun c9 => ?_)
          · have hf := (if_pos c9).symm.trans hf
            exact L59 _ _ _ _ _ hf hw (lv_sub hl [0, 1] rfl)
          · have hf := (if_neg c9).symm.trans hf
            refine lv_iconst (v := 1) hx hb dX1_work_55 (by decide) ?_
            refine lv_goto (tgt := 60) hx hb dX1_work_56 (by decide) ?_
            exact L60 _ _ _ _ _ _ hf hw (lv_sub hl [0, 1] rfl)
  unfold fX1_work at hf
  refine lv_aload_n hx hb dX1_work_0 rfl (lv_at hl 0 rfl) ?_
  refine lv_lload_n hx hb dX1_work_1 rfl (lv_at hl 1 rfl) ?_
  obtain ⟨t1, et1, hf⟩ := ks_nm hf
  refine ks_putL hE hw 27 1 ltX_27 lyX_27 rfl fw_X1_15 dX1_work_2 (fun H locs hw => ?_)
  rw [← et1] at hw
  refine lv_aload_n hx hb dX1_work_5 rfl (lv_at hl 0 rfl) ?_
  refine lv_iload_n hx hb dX1_work_6 rfl (lv_at hl 2 rfl) ?_
  obtain ⟨t2, et2, hf⟩ := ks_nm hf
  refine ks_putI hE hw 27 3 ltX_27 lyX_27 rfl fw_X1_19 rfl rfl dX1_work_7 (fun H locs hw => ?_)
  rw [← et2] at hw
  refine lv_aload_n hx hb dX1_work_10 rfl (lv_at hl 0 rfl) ?_
  refine lv_iload hx hb dX1_work_11 (lv_at hl 3 rfl) ?_
  obtain ⟨t3, et3, hf⟩ := ks_nm hf
  refine ks_putI hE hw 27 4 ltX_27 lyX_27 rfl fw_X1_23 rfl rfl dX1_work_13 (fun H locs hw => ?_)
  rw [← et3] at hw
  refine lv_aload_n hx hb dX1_work_16 rfl (lv_at hl 0 rfl) ?_
  refine lv_iconst (v := 0) hx hb dX1_work_17 (by decide) ?_
  obtain ⟨t4, et4, hf⟩ := ks_nm hf
  refine ks_putI hE hw 27 7 ltX_27 lyX_27 rfl fw_X1_26 rfl rfl dX1_work_18 (fun H locs hw => ?_)
  rw [← et4] at hw
  refine lv_iconst (v := 0) hx hb dX1_work_21 (by decide) ?_
  refine lv_istore (lv' := [(5, .int (0 : Int32)), (0, .ref (adr ad a 27)), (1, .long p1), (3, .int p2), (4, .int p3)]) hx hb dX1_work_22 hl (by decide) rfl (fun ls hl => ?_)
  exact L24 FU _ _ _ _ _ hf hw (lv_sub hl [1, 0] rfl)
def fX1_step  (τ : Tau) (p1 : Int32) (p2 : Int32) : Option (Int32 × Tau) :=
 Option.bind (fX1_roundAt τ p1) (fun r1 =>
 (if r1 = (-9 : Int32) then
 some ((-9 : Int32), τ)
 else
 nm (fX1_isTold τ p1) (fun r3 =>
 (if bI r3 = 0 then
 Option.bind (fX1_factsAhead τ r1) (fun r5 =>
 nm (sL τ 27 2 r5) (fun t6 =>
 Option.bind (fX1_leastMood t6 p1) (fun r7 =>
 (if p2 = 0 then
 some (r7.1, r7.2)
 else
 (if r7.1 = (-9 : Int32) then
 some (r7.1, r7.2)
 else
 (if p2 = (1 : Int32) then
 some (tI r7.2 27 5, r7.2)
 else
 some (tI r7.2 27 6, r7.2)))))))
 else
 some ((-9 : Int32), τ)))))
set_option maxHeartbeats 4000000 in
set_option maxRecDepth 100000 in
theorem c_X1_step (l : Launch) (D : va_G) (cA : Nat → ClassId) (st ad : Nat → Nat) (a : Nat)  (τ : Tau) (p1 : Int32) (p2 : Int32) (R : (Int32 × Tau)) (hf : fX1_step τ p1 p2 = some R) : KE ΛX 29 D cA st ad l yX1_step cX1_step 5 (some .int) 3 75 [.ref (adr ad a 27), .int p1, .int p2] a τ (some (.int R.1)) R.2 := by
  refine KE.of "KindSayings$Proof" rfl (by decide) (Nat.le_of_ble_eq_true rfl) (fun p e s m args below meth c A ls Rm Q hE hRm hQ hw hl => ?_)
  obtain ⟨hx, hb, hml, hown, hts, -⟩ := id hE
  have hl : lv_has ls 5 [(0, .ref (adr ad a 27)), (1, .int p1), (2, .int p2)] := hl
  unfold fX1_step at hf
  refine lv_aload_n hx hb dX1_step_0 rfl (lv_at hl 0 rfl) ?_
  refine lv_iload_n hx hb dX1_step_1 rfl (lv_at hl 1 rfl) ?_
  obtain ⟨r1, er1, hf⟩ := ks_bind hf
  refine ke_V hE hw hl.1 cl_X1_57 27 ltX_27 lyX_27 rfl [.int p1] (c_X1_roundAt l D cA st ad a _ _ _ er1) rfl (ke_room hRm rfl rfl) ke_cnt (Nat.le_of_ble_eq_true rfl) rfl dX1_step_2 (fun H locs hw => ?_)
  refine W.eq (g2 := F0 m 5 ls (.int r1 :: [])) rfl ?_
  refine lv_istore_n (lv' := [(3, .int r1), (0, .ref (adr ad a 27)), (1, .int p1), (2, .int p2)]) hx hb dX1_step_5 rfl hl (by decide) rfl (fun ls hl => ?_)
  refine lv_iload_n hx hb dX1_step_6 rfl (lv_at hl 0 rfl) ?_
  refine lv_bipush (v := (-9)) hx hb dX1_step_7 (by decide) ?_
  refine lv_icmp_eq (tgt := 20) hx hb dX1_step_9 (by decide) (fun c2 => ?_) (fun c2 => ?_)
  · have hf := (if_pos c2).symm.trans hf
    refine lv_bipush (v := (-9)) hx hb dX1_step_20 (by decide) ?_
    replace hf := Option.some.inj hf
    subst hf
    exact ke_iret hE hw hQ dX1_step_22 rfl rfl
  · have hf := (if_neg c2).symm.trans hf
    refine lv_aload_n hx hb dX1_step_12 rfl (lv_at hl 1 rfl) ?_
    refine lv_iload_n hx hb dX1_step_13 rfl (lv_at hl 2 rfl) ?_
    obtain ⟨r3, er3, hf⟩ := ks_nm hf
    refine ke_V hE hw hl.1 cl_X1_37 27 ltX_27 lyX_27 rfl [.int p1] (c_X1_isTold l D cA st ad a _ _ _ er3.symm) rfl (ke_room hRm rfl rfl) ke_cnt (Nat.le_of_ble_eq_true rfl) rfl dX1_step_14 (fun H locs hw => ?_)
    refine W.eq (g2 := F0 m 17 ls (.int (bI r3) :: [])) rfl ?_
    refine lv_if_eq (tgt := 23) hx hb dX1_step_17 (by decide) (fun c4 => ?_) (fun c4 => ?_)
    · have hf := (if_pos c4).symm.trans hf
      refine lv_aload_n hx hb dX1_step_23 rfl (lv_at hl 1 rfl) ?_
      refine lv_aload_n hx hb dX1_step_24 rfl (lv_at hl 1 rfl) ?_
      refine lv_iload_n hx hb dX1_step_25 rfl (lv_at hl 0 rfl) ?_
      obtain ⟨r5, er5, hf⟩ := ks_bind hf
      refine ke_V hE hw hl.1 cl_X1_40 27 ltX_27 lyX_27 rfl [.int r1] (c_X1_factsAhead l D cA st ad a _ _ _ er5) rfl (ke_room hRm rfl rfl) ke_cnt (Nat.le_of_ble_eq_true rfl) rfl dX1_step_26 (fun H locs hw => ?_)
      refine W.eq (g2 := F0 m 29 ls (.long r5 :: .ref (adr ad a 27) :: [])) rfl ?_
      obtain ⟨t6, et6, hf⟩ := ks_nm hf
      refine ks_putL hE hw 27 2 ltX_27 lyX_27 rfl fw_X1_44 dX1_step_29 (fun H locs hw => ?_)
      rw [← et6] at hw
      refine lv_aload_n hx hb dX1_step_32 rfl (lv_at hl 1 rfl) ?_
      refine lv_iload_n hx hb dX1_step_33 rfl (lv_at hl 2 rfl) ?_
      obtain ⟨r7, er7, hf⟩ := ks_bind hf
      refine ke_V hE hw hl.1 cl_X1_53 27 ltX_27 lyX_27 rfl [.int p1] (c_X1_leastMood l D cA st ad a _ _ _ er7) rfl (ke_room hRm rfl rfl) ke_cnt (Nat.le_of_ble_eq_true rfl) rfl dX1_step_34 (fun H locs hw => ?_)
      refine W.eq (g2 := F0 m 37 ls (.int r7.1 :: [])) rfl ?_
      refine lv_istore (lv' := [(4, .int r7.1), (3, .int r1), (0, .ref (adr ad a 27)), (1, .int p1), (2, .int p2)]) hx hb dX1_step_37 hl (by decide) rfl (fun ls hl => ?_)
      refine lv_iload_n hx hb dX1_step_39 rfl (lv_at hl 4 rfl) ?_
      refine lv_if_eq (tgt := 50) hx hb dX1_step_40 (by decide) (fun c8 => ?_) (fun c8 => ?_)
      · have hf := (if_pos c8).symm.trans hf
        refine lv_iload hx hb dX1_step_50 (lv_at hl 0 rfl) ?_
        replace hf := Option.some.inj hf
        subst hf
        exact ke_iret hE hw hQ dX1_step_52 rfl rfl
      · have hf := (if_neg c8).symm.trans hf
        refine lv_iload hx hb dX1_step_43 (lv_at hl 0 rfl) ?_
        refine lv_bipush (v := (-9)) hx hb dX1_step_45 (by decide) ?_
        refine lv_icmp_ne (tgt := 53) hx hb dX1_step_47 (by decide) (fun c9 => ?_) (fun c9 => ?_)
        · have hf := (if_neg c9).symm.trans hf
          refine lv_iload_n hx hb dX1_step_53 rfl (lv_at hl 4 rfl) ?_
          refine lv_iconst (v := 1) hx hb dX1_step_54 (by decide) ?_
          refine lv_icmp_ne (tgt := 65) hx hb dX1_step_55 (by decide) (fun c10 => ?_) (fun c10 => ?_)
          · have hf := (if_neg c10).symm.trans hf
            refine lv_aload_n hx hb dX1_step_65 rfl (lv_at hl 2 rfl) ?_
            refine ks_getI hE hw 27 6 ltX_27 lyX_27 rfl fd_X1_63 dX1_step_66 ?_
            replace hf := Option.some.inj hf
            subst hf
            exact ke_iret hE hw hQ dX1_step_69 rfl rfl
          · have hf := (if_pos c10).symm.trans hf
            refine lv_aload_n hx hb dX1_step_58 rfl (lv_at hl 2 rfl) ?_
            refine ks_getI hE hw 27 5 ltX_27 lyX_27 rfl fd_X1_60 dX1_step_59 ?_
            refine lv_goto (tgt := 69) hx hb dX1_step_62 (by decide) ?_
            replace hf := Option.some.inj hf
            subst hf
            exact ke_iret hE hw hQ dX1_step_69 rfl rfl
        · have hf := (if_pos c9).symm.trans hf
          refine lv_iload hx hb dX1_step_50 (lv_at hl 0 rfl) ?_
          replace hf := Option.some.inj hf
          subst hf
          exact ke_iret hE hw hQ dX1_step_52 rfl rfl
    · have hf := (if_neg c4).symm.trans hf
      refine lv_bipush (v := (-9)) hx hb dX1_step_20 (by decide) ?_
      replace hf := Option.some.inj hf
      subst hf
      exact ke_iret hE hw hQ dX1_step_22 rfl rfl
