def fX4_append_5 (p1 : Int64) (p2 : Int32) : Nat → Tau → Int32 → Option Tau
  | 0, _, _ => none
  | n + 1, τ, x_4 =>
     (if x_4 < 0 then
     some τ
     else
     (if tI τ 14 1 < 0 then
     some τ
     else
     (if (80 : Int32) ≤ tI τ 14 1 then
     some τ
     else
     (if tI τ 14 1 < 0 ∨ 80 ≤ (tI τ 14 1).toNatClampNeg then none else
     nm (sA τ 15 (tI τ 14 1).toNatClampNeg (vp_nar .char (((((p1.toUInt64 >>> (((8 : Int32) * x_4).toInt64.toUInt64 &&& Int64.toUInt64 63)).toInt64 &&& (255 : Int64)).toInt32).toUInt32 % 65536).toInt32))) (fun t6 =>
     nm (sI t6 14 1 (tI t6 14 1 + (1 : Int32))) (fun t7 =>
     nm (x_4 + (-1 : Int32)) (fun x8 =>
     fX4_append_5 p1 p2 n t7 x8)))))))
def fX4_append  (τ : Tau) (p1 : Int64) (p2 : Int32) : Option Tau :=
 nm (p2 - (1 : Int32)) (fun x1 =>
 fX4_append_5 p1 p2 FU τ x1)
set_option maxHeartbeats 4000000 in
set_option maxRecDepth 100000 in
theorem c_X4_append (l : Launch) (D : va_G) (cA : Nat → ClassId) (st ad : Nat → Nat) (a : Nat)  (τ : Tau) (p1 : Int64) (p2 : Int32) (R : Tau) (hf : fX4_append τ p1 p2 = some R) : KE ΛX 29 D cA st ad l yX4_append cX4_append 5 none 0 0 [.ref (adr ad a 14), .long p1, .int p2] a τ (none) R := by
  refine KE.of "KindSayings$Tokens" rfl (by decide) (Nat.le_of_ble_eq_true rfl) (fun p e s m args below meth c A ls Rm Q hE hRm hQ hw hl => ?_)
  obtain ⟨hx, hb, hml, hown, hts, -⟩ := id hE
  have hl : lv_has ls 5 [(0, .ref (adr ad a 14)), (1, .long p1), (3, .int p2)] := hl
  have L5 : ∀ (n5 : Nat) (τ : Tau) (x_4 : Int32) (H : Heap) (locs : List Loc) (ls : Array Slot), fX4_append_5 p1 p2 n5 τ x_4 = some R → Wd ΛX 29 D cA ad A s a τ H locs → lv_has ls 5 [(0, .ref (adr ad a 14)), (1, .long p1), (4, .int x_4)] → W p l e Rm s m args below meth c H locs 0 0 Q (F0 m 5 ls []) := by
    intro n5
    induction n5 with
    | zero => intro τ x_4 H locs ls hf hw hl; exact absurd hf (by rw [fX4_append_5]; simp)
    | succ n5 ih5 =>
      intro τ x_4 H locs ls hf hw hl
      rw [fX4_append_5] at hf
      refine lv_iload hx hb dX4_append_5 (lv_at hl 2 rfl) ?_
      refine lv_if_lt (tgt := 67) hx hb dX4_append_7 (by decide) (fun c2 => ?_) (fun c2 => ?_)
      · have hf := (if_pos c2).symm.trans hf
        replace hf := Option.some.inj hf
        subst hf
        exact ke_vret hE hw hQ dX4_append_67 rfl
      · have hf := (if_neg c2).symm.trans hf
        refine lv_aload_n hx hb dX4_append_10 rfl (lv_at hl 0 rfl) ?_
        refine ks_getI hE hw 14 1 ltX_14 lyX_14 rfl fd_X4_15 dX4_append_11 ?_
        refine lv_if_lt (tgt := 67) hx hb dX4_append_14 (by decide) (fun c3 => ?_) (fun c3 => ?_)
        · have hf := (if_pos c3).symm.trans hf
          replace hf := Option.some.inj hf
          subst hf
          exact ke_vret hE hw hQ dX4_append_67 rfl
        · have hf := (if_neg c3).symm.trans hf
          refine lv_aload_n hx hb dX4_append_17 rfl (lv_at hl 0 rfl) ?_
          refine ks_getI hE hw 14 1 ltX_14 lyX_14 rfl fd_X4_15 dX4_append_18 ?_
          refine lv_aload_n hx hb dX4_append_21 rfl (lv_at hl 0 rfl) ?_
          refine ks_getR hE hw 14 0 ltX_14 lyX_14 rfl fd_X4_9 dX4_append_22 ?_
          refine ks_alen hE hw 15 ltX_15 lyX_15 rfl 80 rfl dX4_append_25 ?_
          refine lv_icmp_ge (tgt := 67) hx hb dX4_append_26 (by decide) (fun c4 => ?_) (fun c4 => ?_)
          · have hf := (if_pos c4).symm.trans hf
            replace hf := Option.some.inj hf
            subst hf
            exact ke_vret hE hw hQ dX4_append_67 rfl
          · have hf := (if_neg c4).symm.trans hf
            refine lv_aload_n hx hb dX4_append_29 rfl (lv_at hl 0 rfl) ?_
            refine ks_getR hE hw 14 0 ltX_14 lyX_14 rfl fd_X4_9 dX4_append_30 ?_
            refine lv_aload_n hx hb dX4_append_33 rfl (lv_at hl 0 rfl) ?_
            refine ks_getI hE hw 14 1 ltX_14 lyX_14 rfl fd_X4_15 dX4_append_34 ?_
            refine lv_lload_n hx hb dX4_append_37 rfl (lv_at hl 1 rfl) ?_
            refine lv_bipush (v := 8) hx hb dX4_append_38 (by decide) ?_
            refine lv_iload hx hb dX4_append_40 (lv_at hl 2 rfl) ?_
            refine lv_imul hx hb dX4_append_42 ?_
            refine lv_lushr hx hb dX4_append_43 rfl ?_
            refine lv_ldc2 hx hb hown (hts _ w_408) dX4_append_44 ?_
            refine lv_land hx hb dX4_append_47 ?_
            refine lv_l2i hx hb dX4_append_48 rfl ?_
            refine lv_i2c hx hb dX4_append_49 rfl ?_
            obtain ⟨b5, hf⟩ := ks_ok hf
            obtain ⟨t6, et6, hf⟩ := ks_nm hf
            refine ks_cast hE hw 15 ltX_15 lyX_15 b5 dX4_append_50 (fun H locs hw => ?_)
            rw [← et6] at hw
            refine lv_aload_n hx hb dX4_append_51 rfl (lv_at hl 0 rfl) ?_
            refine lv_dup hx hb dX4_append_52 rfl ?_
            refine ks_getI hE hw 14 1 ltX_14 lyX_14 rfl fd_X4_15 dX4_append_53 ?_
            refine lv_iconst (v := 1) hx hb dX4_append_56 (by decide) ?_
            refine lv_iadd hx hb dX4_append_57 ?_
            obtain ⟨t7, et7, hf⟩ := ks_nm hf
            refine ks_putI hE hw 14 1 ltX_14 lyX_14 rfl fw_X4_15 rfl rfl dX4_append_58 (fun H locs hw => ?_)
            rw [← et7] at hw
            obtain ⟨x8, ex8, hf⟩ := ks_nm hf
            refine lv_iinc (v := x8) (lv' := [(4, .int x8), (0, .ref (adr ad a 14)), (1, .long p1)]) hx hb dX4_append_61 hl (k := 2) rfl (by rw [ex8]; rfl) (by decide) rfl (fun ls hl => ?_)
            refine lv_goto (tgt := 5) hx hb dX4_append_64 (by decide) ?_
            exact ih5 _ _ _ _ _ hf hw (lv_sub hl [1, 2, 0] rfl)
  unfold fX4_append at hf
  refine lv_iload_n hx hb dX4_append_0 rfl (lv_at hl 2 rfl) ?_
  refine lv_iconst (v := 1) hx hb dX4_append_1 (by decide) ?_
  refine lv_isub hx hb dX4_append_2 ?_
  obtain ⟨x1, ex1, hf⟩ := ks_nm hf
  refine W.eq (g2 := F0 m 3 ls (.int x1 :: [])) (by rw [ex1]) ?_
  refine lv_istore (lv' := [(4, .int x1), (0, .ref (adr ad a 14)), (1, .long p1), (3, .int p2)]) hx hb dX4_append_3 hl (by decide) rfl (fun ls hl => ?_)
  exact L5 FU _ _ _ _ _ hf hw (lv_sub hl [1, 2, 0] rfl)
def fX4_isLetter  (p1 : Int32) : Bool :=
 (if p1 < (97 : Int32) then
 false
 else
 (if (122 : Int32) < p1 then
 false
 else
 true))
set_option maxHeartbeats 4000000 in
set_option maxRecDepth 100000 in
theorem c_X4_isLetter (l : Launch) (D : va_G) (cA : Nat → ClassId) (st ad : Nat → Nat) (a : Nat)  (τ : Tau) (p1 : Int32) (R : Bool) (hf : fX4_isLetter p1 = R) : KE ΛX 29 D cA st ad l yX4_isLetter cX4_isLetter 1 (some .boolean) 0 0 [.int p1] a τ (some (.int (bI R))) τ := by
  refine KE.of "KindSayings$Tokens" rfl (by decide) (Nat.le_of_ble_eq_true rfl) (fun p e s m args below meth c A ls Rm Q hE hRm hQ hw hl => ?_)
  obtain ⟨hx, hb, hml, hown, hts, -⟩ := id hE
  have hl : lv_has ls 1 [(0, .int p1)] := hl
  unfold fX4_isLetter at hf
  refine lv_iload_n hx hb dX4_isLetter_0 rfl (lv_at hl 0 rfl) ?_
  refine lv_bipush (v := 97) hx hb dX4_isLetter_1 (by decide) ?_
  refine lv_icmp_lt (tgt := 16) hx hb dX4_isLetter_3 (by decide) (fun c1 => ?_) (fun c1 => ?_)
  · have hf := (if_pos c1).symm.trans hf
    refine lv_iconst (v := 0) hx hb dX4_isLetter_16 (by decide) ?_
    subst hf
    exact ke_zret hE hw hQ (Or.inl rfl) dX4_isLetter_17 rfl rfl
  · have hf := (if_neg c1).symm.trans hf
    refine lv_iload_n hx hb dX4_isLetter_6 rfl (lv_at hl 0 rfl) ?_
    refine lv_bipush (v := 122) hx hb dX4_isLetter_7 (by decide) ?_
    refine lv_icmp_gt (tgt := 16) hx hb dX4_isLetter_9 (by decide) (fun c2 => ?_) (fun c2 => ?_)
    · have hf := (if_pos c2).symm.trans hf
      refine lv_iconst (v := 0) hx hb dX4_isLetter_16 (by decide) ?_
      subst hf
      exact ke_zret hE hw hQ (Or.inl rfl) dX4_isLetter_17 rfl rfl
    · have hf := (if_neg c2).symm.trans hf
      refine lv_iconst (v := 1) hx hb dX4_isLetter_12 (by decide) ?_
      refine lv_goto (tgt := 17) hx hb dX4_isLetter_13 (by decide) ?_
      subst hf
      exact ke_zret hE hw hQ (Or.inr rfl) dX4_isLetter_17 rfl rfl
def fX4_isFigure  (p1 : Int32) : Bool :=
 (if p1 < (48 : Int32) then
 false
 else
 (if (57 : Int32) < p1 then
 false
 else
 true))
set_option maxHeartbeats 4000000 in
set_option maxRecDepth 100000 in
theorem c_X4_isFigure (l : Launch) (D : va_G) (cA : Nat → ClassId) (st ad : Nat → Nat) (a : Nat)  (τ : Tau) (p1 : Int32) (R : Bool) (hf : fX4_isFigure p1 = R) : KE ΛX 29 D cA st ad l yX4_isFigure cX4_isFigure 1 (some .boolean) 0 0 [.int p1] a τ (some (.int (bI R))) τ := by
  refine KE.of "KindSayings$Tokens" rfl (by decide) (Nat.le_of_ble_eq_true rfl) (fun p e s m args below meth c A ls Rm Q hE hRm hQ hw hl => ?_)
  obtain ⟨hx, hb, hml, hown, hts, -⟩ := id hE
  have hl : lv_has ls 1 [(0, .int p1)] := hl
  unfold fX4_isFigure at hf
  refine lv_iload_n hx hb dX4_isFigure_0 rfl (lv_at hl 0 rfl) ?_
  refine lv_bipush (v := 48) hx hb dX4_isFigure_1 (by decide) ?_
  refine lv_icmp_lt (tgt := 16) hx hb dX4_isFigure_3 (by decide) (fun c1 => ?_) (fun c1 => ?_)
  · have hf := (if_pos c1).symm.trans hf
    refine lv_iconst (v := 0) hx hb dX4_isFigure_16 (by decide) ?_
    subst hf
    exact ke_zret hE hw hQ (Or.inl rfl) dX4_isFigure_17 rfl rfl
  · have hf := (if_neg c1).symm.trans hf
    refine lv_iload_n hx hb dX4_isFigure_6 rfl (lv_at hl 0 rfl) ?_
    refine lv_bipush (v := 57) hx hb dX4_isFigure_7 (by decide) ?_
    refine lv_icmp_gt (tgt := 16) hx hb dX4_isFigure_9 (by decide) (fun c2 => ?_) (fun c2 => ?_)
    · have hf := (if_pos c2).symm.trans hf
      refine lv_iconst (v := 0) hx hb dX4_isFigure_16 (by decide) ?_
      subst hf
      exact ke_zret hE hw hQ (Or.inl rfl) dX4_isFigure_17 rfl rfl
    · have hf := (if_neg c2).symm.trans hf
      refine lv_iconst (v := 1) hx hb dX4_isFigure_12 (by decide) ?_
      refine lv_goto (tgt := 17) hx hb dX4_isFigure_13 (by decide) ?_
      subst hf
      exact ke_zret hE hw hQ (Or.inr rfl) dX4_isFigure_17 rfl rfl
def fX4_byteAt (τ : Tau) (p1 : Int32) : Option Int32 :=
 (if p1 < 0 then
 some (-1 : Int32)
 else
 (if tI τ 14 1 ≤ p1 then
 some (-1 : Int32)
 else
 (if (80 : Int32) ≤ p1 then
 some (-1 : Int32)
 else
 (if p1 < 0 ∨ 80 ≤ p1.toNatClampNeg then none else
 some (tA τ 15 p1.toNatClampNeg)))))
set_option maxHeartbeats 4000000 in
set_option maxRecDepth 100000 in
theorem c_X4_byteAt (l : Launch) (D : va_G) (cA : Nat → ClassId) (st ad : Nat → Nat) (a : Nat)  (τ : Tau) (p1 : Int32) (R : Int32) (hf : fX4_byteAt τ p1 = some R) : KE ΛX 29 D cA st ad l yX4_byteAt cX4_byteAt 2 (some .int) 0 0 [.ref (adr ad a 14), .int p1] a τ (some (.int R)) τ := by
  refine KE.of "KindSayings$Tokens" rfl (by decide) (Nat.le_of_ble_eq_true rfl) (fun p e s m args below meth c A ls Rm Q hE hRm hQ hw hl => ?_)
  obtain ⟨hx, hb, hml, hown, hts, -⟩ := id hE
  have hl : lv_has ls 2 [(0, .ref (adr ad a 14)), (1, .int p1)] := hl
  unfold fX4_byteAt at hf
  refine lv_iload_n hx hb dX4_byteAt_0 rfl (lv_at hl 1 rfl) ?_
  refine lv_if_lt (tgt := 30) hx hb dX4_byteAt_1 (by decide) (fun c1 => ?_) (fun c1 => ?_)
  · have hf := (if_pos c1).symm.trans hf
    refine lv_iconst (v := (-1)) hx hb dX4_byteAt_30 (by decide) ?_
    replace hf := Option.some.inj hf
    subst hf
    exact ke_iret hE hw hQ dX4_byteAt_31 rfl rfl
  · have hf := (if_neg c1).symm.trans hf
    refine lv_iload_n hx hb dX4_byteAt_4 rfl (lv_at hl 1 rfl) ?_
    refine lv_aload_n hx hb dX4_byteAt_5 rfl (lv_at hl 0 rfl) ?_
    refine ks_getI hE hw 14 1 ltX_14 lyX_14 rfl fd_X4_15 dX4_byteAt_6 ?_
    refine lv_icmp_ge (tgt := 30) hx hb dX4_byteAt_9 (by decide) (fun c2 => ?_) (fun c2 => ?_)
    · have hf := (if_pos c2).symm.trans hf
      refine lv_iconst (v := (-1)) hx hb dX4_byteAt_30 (by decide) ?_
      replace hf := Option.some.inj hf
      subst hf
      exact ke_iret hE hw hQ dX4_byteAt_31 rfl rfl
    · have hf := (if_neg c2).symm.trans hf
      refine lv_iload_n hx hb dX4_byteAt_12 rfl (lv_at hl 1 rfl) ?_
      refine lv_aload_n hx hb dX4_byteAt_13 rfl (lv_at hl 0 rfl) ?_
      refine ks_getR hE hw 14 0 ltX_14 lyX_14 rfl fd_X4_9 dX4_byteAt_14 ?_
      refine ks_alen hE hw 15 ltX_15 lyX_15 rfl 80 rfl dX4_byteAt_17 ?_
      refine lv_icmp_ge (tgt := 30) hx hb dX4_byteAt_18 (by decide) (fun c3 => ?_) (fun c3 => ?_)
      · have hf := (if_pos c3).symm.trans hf
        refine lv_iconst (v := (-1)) hx hb dX4_byteAt_30 (by decide) ?_
        replace hf := Option.some.inj hf
        subst hf
        exact ke_iret hE hw hQ dX4_byteAt_31 rfl rfl
      · have hf := (if_neg c3).symm.trans hf
        refine lv_aload_n hx hb dX4_byteAt_21 rfl (lv_at hl 0 rfl) ?_
        refine ks_getR hE hw 14 0 ltX_14 lyX_14 rfl fd_X4_9 dX4_byteAt_22 ?_
        refine lv_iload_n hx hb dX4_byteAt_25 rfl (lv_at hl 1 rfl) ?_
        obtain ⟨b4, hf⟩ := ks_ok hf
        refine ks_cald hE hw 15 ltX_15 lyX_15 b4 dX4_byteAt_26 ?_
        refine lv_goto (tgt := 31) hx hb dX4_byteAt_27 (by decide) ?_
        replace hf := Option.some.inj hf
        subst hf
        exact ke_iret hE hw hQ dX4_byteAt_31 rfl rfl
def fX4_takeWord_90 (k62 : Tau → Int64 → Int32 → Option Tau) (τ : Tau) (x_1 : Int64) (x_3 : Int32) : Option Tau :=
 nm (x_3 + (1 : Int32)) (fun x14 =>
     k62 τ x_1 x14)
def fX4_takeWord_62  : Nat → Tau → Int64 → Int32 → Option Tau
  | 0, _, _, _ => none
  | n + 1, τ, x_1, x_3 =>
     (if (9 : Int32) ≤ x_3 then
     some τ
     else
     (if x_3 < 0 ∨ 9 ≤ x_3.toNatClampNeg then none else
     (if lg_cmp (vWORDS x_3.toNatClampNeg) x_1 = 0 then
     nm (sI τ 14 2 (2 : Int32)) (fun t12 =>
     nm (sI t12 14 3 x_3) (fun t13 =>
     fX4_takeWord_90 (fX4_takeWord_62 n) t13 x_1 x_3))
     else
     fX4_takeWord_90 (fX4_takeWord_62 n) τ x_1 x_3)))
def fX4_takeWord_55  (τ : Tau) (x_1 : Int64) : Option Tau :=
 nm (sI τ 14 2 (1 : Int32)) (fun t8 =>
     fX4_takeWord_62 FU t8 x_1 (0 : Int32))
def fX4_takeWord_2  : Nat → Tau → Int64 → Option Tau
  | 0, _, _ => none
  | n + 1, τ, x_1 =>
     (if tI τ 14 1 ≤ tI τ 14 6 then
     fX4_takeWord_55 τ x_1
     else
     Option.bind (fX4_byteAt τ (tI τ 14 6)) (fun r2 =>
     nm (fX4_isLetter r2) (fun r3 =>
     (if bI r3 = 0 then
     fX4_takeWord_55 τ x_1
     else
     Option.bind (fX4_byteAt τ (tI τ 14 6)) (fun r5 =>
     nm ((x_1 <<< ((8 : Int32).toInt64 &&& 63)) ||| r5.toInt64) (fun x6 =>
     nm (sI τ 14 6 (tI τ 14 6 + (1 : Int32))) (fun t7 =>
     fX4_takeWord_2 n t7 x6)))))))
def fX4_takeWord  (τ : Tau) : Option Tau :=
 fX4_takeWord_2 FU τ (0 : Int64)
set_option maxHeartbeats 4000000 in
set_option maxRecDepth 100000 in
theorem c_X4_takeWord (l : Launch) (D : va_G) (cA : Nat → ClassId) (st ad : Nat → Nat) (a : Nat)  (τ : Tau) (R : Tau) (hf : fX4_takeWord τ = some R) : KE ΛX 29 D cA st ad l yX4_takeWord cX4_takeWord 4 none 1 21 [.ref (adr ad a 14)] a τ (none) R := by
  refine KE.of "KindSayings$Tokens" rfl (by decide) (Nat.le_of_ble_eq_true rfl) (fun p e s m args below meth c A ls Rm Q hE hRm hQ hw hl => ?_)
  obtain ⟨hx, hb, hml, hown, hts, -⟩ := id hE
  have hl : lv_has ls 4 [(0, .ref (adr ad a 14))] := hl
  have L62 : ∀ (n62 : Nat) (τ : Tau) (x_1 : Int64) (x_3 : Int32) (H : Heap) (locs : List Loc) (ls : Array Slot), fX4_takeWord_62 n62 τ x_1 x_3 = some R → Wd ΛX 29 D cA ad A s a τ H locs → lv_has ls 4 [(0, .ref (adr ad a 14)), (1, .long x_1), (3, .int x_3)] → W p l e Rm s m args below meth c H locs 0 0 Q (F0 m 62 ls []) := by
    intro n62
    induction n62 with
    | zero => intro τ x_1 x_3 H locs ls hf hw hl; exact absurd hf (by rw [fX4_takeWord_62]; simp)
    | succ n62 ih62 =>
      have L90 : ∀ (τ : Tau) (x_1 : Int64) (x_3 : Int32) (H : Heap) (locs : List Loc) (ls : Array Slot), fX4_takeWord_90 (fX4_takeWord_62 n62) τ x_1 x_3 = some R → Wd ΛX 29 D cA ad A s a τ H locs → lv_has ls 4 [(0, .ref (adr ad a 14)), (1, .long x_1), (3, .int x_3)] → W p l e Rm s m args below meth c H locs 0 0 Q (F0 m 90 ls []) := by
        intro τ x_1 x_3 H locs ls hf hw hl
        unfold fX4_takeWord_90 at hf
        obtain ⟨x14, ex14, hf⟩ := ks_nm hf
        refine lv_iinc (v := x14) (lv' := [(3, .int x14), (0, .ref (adr ad a 14)), (1, .long x_1)]) hx hb dX4_takeWord_90 hl (k := 2) rfl (by rw [ex14]; rfl) (by decide) rfl (fun ls hl => ?_)
        refine lv_goto (tgt := 62) hx hb dX4_takeWord_93 (by decide) ?_
        exact ih62 _ _ _ _ _ _ hf hw (lv_sub hl [1, 2, 0] rfl)
      intro τ x_1 x_3 H locs ls hf hw hl
      rw [fX4_takeWord_62] at hf
      refine lv_iload_n hx hb dX4_takeWord_62 rfl (lv_at hl 2 rfl) ?_
      refine ks_gs0 hE hw (by decide) dX4_takeWord_63 ?_
      refine ks_tlen0 hE hw dX4_takeWord_66 ?_
      refine lv_icmp_ge (tgt := 96) hx hb dX4_takeWord_67 (by decide) (fun c9 => ?_) (fun c9 => ?_)
      · have hf := (if_pos c9).symm.trans hf
        replace hf := Option.some.inj hf
        subst hf
        exact ke_vret hE hw hQ dX4_takeWord_96 rfl
      · have hf := (if_neg c9).symm.trans hf
        refine ks_gs0 hE hw (by decide) dX4_takeWord_70 ?_
        refine lv_iload_n hx hb dX4_takeWord_73 rfl (lv_at hl 2 rfl) ?_
        obtain ⟨b10, hf⟩ := ks_ok hf
        refine ks_ts0 hE hw b10 dX4_takeWord_74 ?_
        refine lv_lload_n hx hb dX4_takeWord_75 rfl (lv_at hl 1 rfl) ?_
        refine W.lcmp hx hb dX4_takeWord_76 ?_
        refine lv_if_ne (tgt := 90) hx hb dX4_takeWord_77 (by decide) (fun c11 => ?_) (fun c11 => ?_)
        · have hf := (if_neg c11).symm.trans hf
          exact L90 _ _ _ _ _ _ hf hw (lv_sub hl [0, 1, 2] rfl)
        · have hf := (if_pos c11).symm.trans hf
          refine lv_aload_n hx hb dX4_takeWord_80 rfl (lv_at hl 0 rfl) ?_
          refine lv_iconst (v := 2) hx hb dX4_takeWord_81 (by decide) ?_
          obtain ⟨t12, et12, hf⟩ := ks_nm hf
          refine ks_putI hE hw 14 2 ltX_14 lyX_14 rfl fw_X4_40 rfl rfl dX4_takeWord_82 (fun H locs hw => ?_)
          rw [← et12] at hw
          refine lv_aload_n hx hb dX4_takeWord_85 rfl (lv_at hl 0 rfl) ?_
          refine lv_iload_n hx hb dX4_takeWord_86 rfl (lv_at hl 2 rfl) ?_
          obtain ⟨t13, et13, hf⟩ := ks_nm hf
          refine ks_putI hE hw 14 3 ltX_14 lyX_14 rfl fw_X4_37 rfl rfl dX4_takeWord_87 (fun H locs hw => ?_)
          rw [← et13] at hw
          exact L90 _ _ _ _ _ _ hf hw (lv_sub hl [0, 1, 2] rfl)
  have L55 : ∀ (τ : Tau) (x_1 : Int64) (H : Heap) (locs : List Loc) (ls : Array Slot), fX4_takeWord_55 τ x_1 = some R → Wd ΛX 29 D cA ad A s a τ H locs → lv_has ls 4 [(0, .ref (adr ad a 14)), (1, .long x_1)] → W p l e Rm s m args below meth c H locs 0 0 Q (F0 m 55 ls []) := by
    intro τ x_1 H locs ls hf hw hl
    unfold fX4_takeWord_55 at hf
    refine lv_aload_n hx hb dX4_takeWord_55 rfl (lv_at hl 0 rfl) ?_
    refine lv_iconst (v := 1) hx hb dX4_takeWord_56 (by decide) ?_
    obtain ⟨t8, et8, hf⟩ := ks_nm hf
    refine ks_putI hE hw 14 2 ltX_14 lyX_14 rfl fw_X4_40 rfl rfl dX4_takeWord_57 (fun H locs hw => ?_)
    rw [← et8] at hw
    refine lv_iconst (v := 0) hx hb dX4_takeWord_60 (by decide) ?_
    refine lv_istore_n (lv' := [(3, .int (0 : Int32)), (0, .ref (adr ad a 14)), (1, .long x_1)]) hx hb dX4_takeWord_61 rfl hl (by decide) rfl (fun ls hl => ?_)
    exact L62 FU _ _ _ _ _ _ hf hw (lv_sub hl [1, 2, 0] rfl)
  have L2 : ∀ (n2 : Nat) (τ : Tau) (x_1 : Int64) (H : Heap) (locs : List Loc) (ls : Array Slot), fX4_takeWord_2 n2 τ x_1 = some R → Wd ΛX 29 D cA ad A s a τ H locs → lv_has ls 4 [(0, .ref (adr ad a 14)), (1, .long x_1)] → W p l e Rm s m args below meth c H locs 0 0 Q (F0 m 2 ls []) := by
    intro n2
    induction n2 with
    | zero => intro τ x_1 H locs ls hf hw hl; exact absurd hf (by rw [fX4_takeWord_2]; simp)
    | succ n2 ih2 =>
      intro τ x_1 H locs ls hf hw hl
      rw [fX4_takeWord_2] at hf
      refine lv_aload_n hx hb dX4_takeWord_2 rfl (lv_at hl 0 rfl) ?_
      refine ks_getI hE hw 14 6 ltX_14 lyX_14 rfl fd_X4_21 dX4_takeWord_3 ?_
      refine lv_aload_n hx hb dX4_takeWord_6 rfl (lv_at hl 0 rfl) ?_
      refine ks_getI hE hw 14 1 ltX_14 lyX_14 rfl fd_X4_15 dX4_takeWord_7 ?_
      refine lv_icmp_ge (tgt := 55) hx hb dX4_takeWord_10 (by decide) (fun c1 => ?_) (fun c1 => ?_)
      · have hf := (if_pos c1).symm.trans hf
        exact L55 _ _ _ _ _ hf hw (lv_sub hl [0, 1] rfl)
      · have hf := (if_neg c1).symm.trans hf
        refine lv_aload_n hx hb dX4_takeWord_13 rfl (lv_at hl 0 rfl) ?_
        refine lv_aload_n hx hb dX4_takeWord_14 rfl (lv_at hl 0 rfl) ?_
        refine ks_getI hE hw 14 6 ltX_14 lyX_14 rfl fd_X4_21 dX4_takeWord_15 ?_
        obtain ⟨r2, er2, hf⟩ := ks_bind hf
        refine ke_V hE hw hl.1 cl_X4_30 14 ltX_14 lyX_14 rfl [.int (tI τ 14 6)] (c_X4_byteAt l D cA st ad a _ _ _ er2) rfl (ke_room hRm rfl rfl) ke_cnt (Nat.le_of_ble_eq_true rfl) rfl dX4_takeWord_18 (fun H locs hw => ?_)
        refine W.eq (g2 := F0 m 21 ls (.int r2 :: [])) rfl ?_
        obtain ⟨r3, er3, hf⟩ := ks_nm hf
        refine ke_S hE hw hl.1 cl_X4_43 [.int r2] (c_X4_isLetter l D cA st ad a _ _ _ er3.symm) rfl (ke_room hRm rfl rfl) ke_cnt (Nat.le_of_ble_eq_true rfl) rfl dX4_takeWord_21 (fun H locs hw => ?_)
        refine W.eq (g2 := F0 m 24 ls (.int (bI r3) :: [])) rfl ?_
        refine lv_if_eq (tgt := 55) hx hb dX4_takeWord_24 (by decide) (fun c4 => ?_) (fun c4 => ?_)
        · have hf := (if_pos c4).symm.trans hf
          exact L55 _ _ _ _ _ hf hw (lv_sub hl [0, 1] rfl)
        · have hf := (if_neg c4).symm.trans hf
          refine lv_lload_n hx hb dX4_takeWord_27 rfl (lv_at hl 1 rfl) ?_
          refine lv_bipush (v := 8) hx hb dX4_takeWord_28 (by decide) ?_
          refine lv_lshl hx hb dX4_takeWord_30 rfl ?_
          refine lv_aload_n hx hb dX4_takeWord_31 rfl (lv_at hl 0 rfl) ?_
          refine lv_aload_n hx hb dX4_takeWord_32 rfl (lv_at hl 0 rfl) ?_
          refine ks_getI hE hw 14 6 ltX_14 lyX_14 rfl fd_X4_21 dX4_takeWord_33 ?_
          obtain ⟨r5, er5, hf⟩ := ks_bind hf
          refine ke_V hE hw hl.1 cl_X4_30 14 ltX_14 lyX_14 rfl [.int (tI τ 14 6)] (c_X4_byteAt l D cA st ad a _ _ _ er5) rfl (ke_room hRm rfl rfl) ke_cnt (Nat.le_of_ble_eq_true rfl) rfl dX4_takeWord_36 (fun H locs hw => ?_)
          refine W.eq (g2 := F0 m 39 ls (.int r5 :: .long (x_1 <<< ((8 : Int32).toInt64 &&& 63)) :: [])) rfl ?_
          refine lv_i2l hx hb dX4_takeWord_39 rfl ?_
          refine lv_lor hx hb dX4_takeWord_40 ?_
          obtain ⟨x6, ex6, hf⟩ := ks_nm hf
          refine W.eq (g2 := F0 m 41 ls (.long x6 :: [])) (by rw [ex6]) ?_
          refine lv_lstore_n (lv' := [(1, .long x6), (0, .ref (adr ad a 14))]) hx hb dX4_takeWord_41 rfl hl (by decide) rfl (fun ls hl => ?_)
          refine lv_aload_n hx hb dX4_takeWord_42 rfl (lv_at hl 1 rfl) ?_
          refine lv_dup hx hb dX4_takeWord_43 rfl ?_
          refine ks_getI hE hw 14 6 ltX_14 lyX_14 rfl fd_X4_21 dX4_takeWord_44 ?_
          refine lv_iconst (v := 1) hx hb dX4_takeWord_47 (by decide) ?_
          refine lv_iadd hx hb dX4_takeWord_48 ?_
          obtain ⟨t7, et7, hf⟩ := ks_nm hf
          refine ks_putI hE hw 14 6 ltX_14 lyX_14 rfl fw_X4_21 rfl rfl dX4_takeWord_49 (fun H locs hw => ?_)
          rw [← et7] at hw
          refine lv_goto (tgt := 2) hx hb dX4_takeWord_52 (by decide) ?_
          exact ih2 _ _ _ _ _ hf hw (lv_sub hl [1, 0] rfl)
  unfold fX4_takeWord at hf
  refine lv_lconst (v := 0) hx hb dX4_takeWord_0 (by decide) ?_
  refine lv_lstore_n (lv' := [(1, .long (0 : Int64)), (0, .ref (adr ad a 14))]) hx hb dX4_takeWord_1 rfl hl (by decide) rfl (fun ls hl => ?_)
  exact L2 FU _ _ _ _ _ hf hw (lv_sub hl [1, 0] rfl)
def fX4_takeNumber_98  (τ : Tau) (z_0 : Int32) : Option Tau :=
 (if z_0 = 0 then
     nm (sI τ 14 2 (3 : Int32)) (fun t12 =>
     some t12)
     else
     nm (sI τ 14 2 (1 : Int32)) (fun t13 =>
     some t13))
def fX4_takeNumber_97  (τ : Tau) : Option Tau :=
 fX4_takeNumber_98 τ (0 : Int32)
def fX4_takeNumber_67  (τ : Tau) : Option Tau :=
 Option.bind (fX4_byteAt τ (tI τ 14 4)) (fun r8 =>
    (if r8 = (48 : Int32) then
    (if (tI τ 14 6 - tI τ 14 4) ≤ (1 : Int32) then
     fX4_takeNumber_97 τ
     else
     fX4_takeNumber_98 τ (1 : Int32))
     else
     fX4_takeNumber_97 τ))
def fX4_takeNumber_0  : Nat → Tau → Option Tau
  | 0, _ => none
  | n + 1, τ =>
     (if tI τ 14 1 ≤ tI τ 14 6 then
     fX4_takeNumber_67 τ
     else
     Option.bind (fX4_byteAt τ (tI τ 14 6)) (fun r2 =>
     nm (fX4_isFigure r2) (fun r3 =>
     (if bI r3 = 0 then
     fX4_takeNumber_67 τ
     else
     Option.bind (fX4_byteAt τ (tI τ 14 6)) (fun r5 =>
     nm (sI τ 14 3 (if (1000 : Int32) < ((((10 : Int32) * tI τ 14 3) + r5) - (48 : Int32)) then (1000 : Int32) else ((((10 : Int32) * tI τ 14 3) + r5) - (48 : Int32)))) (fun t6 =>
     nm (sI t6 14 6 (tI t6 14 6 + (1 : Int32))) (fun t7 =>
     fX4_takeNumber_0 n t7)))))))
def fX4_takeNumber  (τ : Tau) : Option Tau :=
 fX4_takeNumber_0 FU τ
set_option maxHeartbeats 4000000 in
set_option maxRecDepth 100000 in
theorem c_X4_takeNumber (l : Launch) (D : va_G) (cA : Nat → ClassId) (st ad : Nat → Nat) (a : Nat)  (τ : Tau) (R : Tau) (hf : fX4_takeNumber τ = some R) : KE ΛX 29 D cA st ad l yX4_takeNumber cX4_takeNumber 2 none 1 21 [.ref (adr ad a 14)] a τ (none) R := by
  refine KE.of "KindSayings$Tokens" rfl (by decide) (Nat.le_of_ble_eq_true rfl) (fun p e s m args below meth c A ls Rm Q hE hRm hQ hw hl => ?_)
  obtain ⟨hx, hb, hml, hown, hts, -⟩ := id hE
  have hl : lv_has ls 2 [(0, .ref (adr ad a 14))] := hl
  have L98 : ∀ (τ : Tau) (z_0 : Int32) (H : Heap) (locs : List Loc) (ls : Array Slot), fX4_takeNumber_98 τ z_0 = some R → Wd ΛX 29 D cA ad A s a τ H locs → lv_has ls 2 [(0, .ref (adr ad a 14))] → W p l e Rm s m args below meth c H locs 0 0 Q (F0 m 98 ls [.int z_0]) := by
    intro τ z_0 H locs ls hf hw hl
    unfold fX4_takeNumber_98 at hf
    refine lv_istore_n (lv' := [(1, .int z_0), (0, .ref (adr ad a 14))]) hx hb dX4_takeNumber_98 rfl hl (by decide) rfl (fun ls hl => ?_)
    refine lv_aload_n hx hb dX4_takeNumber_99 rfl (lv_at hl 1 rfl) ?_
    refine lv_iload_n hx hb dX4_takeNumber_100 rfl (lv_at hl 0 rfl) ?_
    refine lv_if_eq (tgt := 108) hx hb dX4_takeNumber_101 (by decide) (fun c11 => ?_) (fun c11 => ?_)
    · have hf := (if_pos c11).symm.trans hf
      refine lv_iconst (v := 3) hx hb dX4_takeNumber_108 (by decide) ?_
      obtain ⟨t12, et12, hf⟩ := ks_nm hf
      refine ks_putI hE hw 14 2 ltX_14 lyX_14 rfl fw_X4_40 rfl rfl dX4_takeNumber_109 (fun H locs hw => ?_)
      rw [← et12] at hw
      replace hf := Option.some.inj hf
      subst hf
      exact ke_vret hE hw hQ dX4_takeNumber_112 rfl
    · have hf := (if_neg c11).symm.trans hf
      refine lv_iconst (v := 1) hx hb dX4_takeNumber_104 (by decide) ?_
      refine lv_goto (tgt := 109) hx hb dX4_takeNumber_105 (by decide) ?_
      obtain ⟨t13, et13, hf⟩ := ks_nm hf
      refine ks_putI hE hw 14 2 ltX_14 lyX_14 rfl fw_X4_40 rfl rfl dX4_takeNumber_109 (fun H locs hw => ?_)
      rw [← et13] at hw
      replace hf := Option.some.inj hf
      subst hf
      exact ke_vret hE hw hQ dX4_takeNumber_112 rfl
  have L97 : ∀ (τ : Tau) (H : Heap) (locs : List Loc) (ls : Array Slot), fX4_takeNumber_97 τ = some R → Wd ΛX 29 D cA ad A s a τ H locs → lv_has ls 2 [(0, .ref (adr ad a 14))] → W p l e Rm s m args below meth c H locs 0 0 Q (F0 m 97 ls []) := by
    intro τ H locs ls hf hw hl
    unfold fX4_takeNumber_97 at hf
    refine lv_iconst (v := 0) hx hb dX4_takeNumber_97 (by decide) ?_
    exact L98 _ _ _ _ _ hf hw (lv_sub hl [0] rfl)
  have L67 : ∀ (τ : Tau) (H : Heap) (locs : List Loc) (ls : Array Slot), fX4_takeNumber_67 τ = some R → Wd ΛX 29 D cA ad A s a τ H locs → lv_has ls 2 [(0, .ref (adr ad a 14))] → W p l e Rm s m args below meth c H locs 0 0 Q (F0 m 67 ls []) := by
    intro τ H locs ls hf hw hl
    unfold fX4_takeNumber_67 at hf
    refine lv_aload_n hx hb dX4_takeNumber_67 rfl (lv_at hl 0 rfl) ?_
    refine lv_aload_n hx hb dX4_takeNumber_68 rfl (lv_at hl 0 rfl) ?_
    refine ks_getI hE hw 14 4 ltX_14 lyX_14 rfl fd_X4_34 dX4_takeNumber_69 ?_
    obtain ⟨r8, er8, hf⟩ := ks_bind hf
    refine ke_V hE hw hl.1 cl_X4_30 14 ltX_14 lyX_14 rfl [.int (tI τ 14 4)] (c_X4_byteAt l D cA st ad a _ _ _ er8) rfl (ke_room hRm rfl rfl) ke_cnt (Nat.le_of_ble_eq_true rfl) rfl dX4_takeNumber_72 (fun H locs hw => ?_)
    refine W.eq (g2 := F0 m 75 ls (.int r8 :: [])) rfl ?_
    refine lv_bipush (v := 48) hx hb dX4_takeNumber_75 (by decide) ?_
    refine lv_icmp_ne (tgt := 97) hx hb dX4_takeNumber_77 (by decide) (fun c9 => ?_) (fun c9 => ?_)
    · have hf := (if_neg c9).symm.trans hf
      exact L97 _ _ _ _ hf hw (lv_sub hl [0] rfl)
    · have hf := (if_pos c9).symm.trans hf
      refine lv_aload_n hx hb dX4_takeNumber_80 rfl (lv_at hl 0 rfl) ?_
      refine ks_getI hE hw 14 6 ltX_14 lyX_14 rfl fd_X4_21 dX4_takeNumber_81 ?_
      refine lv_aload_n hx hb dX4_takeNumber_84 rfl (lv_at hl 0 rfl) ?_
      refine ks_getI hE hw 14 4 ltX_14 lyX_14 rfl fd_X4_34 dX4_takeNumber_85 ?_
      refine lv_isub hx hb dX4_takeNumber_88 ?_
      refine lv_iconst (v := 1) hx hb dX4_takeNumber_89 (by decide) ?_
      refine lv_icmp_le (tgt := 97) hx hb dX4_takeNumber_90 (by decide) (fun c10 => ?_) (fun c10 => ?_)
      · have hf := (if_pos c10).symm.trans hf
        exact L97 _ _ _ _ hf hw (lv_sub hl [0] rfl)
      · have hf := (if_neg c10).symm.trans hf
        refine lv_iconst (v := 1) hx hb dX4_takeNumber_93 (by decide) ?_
        refine lv_goto (tgt := 98) hx hb dX4_takeNumber_94 (by decide) ?_
        exact L98 _ _ _ _ _ hf hw (lv_sub hl [0] rfl)
  have L0 : ∀ (n0 : Nat) (τ : Tau) (H : Heap) (locs : List Loc) (ls : Array Slot), fX4_takeNumber_0 n0 τ = some R → Wd ΛX 29 D cA ad A s a τ H locs → lv_has ls 2 [(0, .ref (adr ad a 14))] → W p l e Rm s m args below meth c H locs 0 0 Q (F0 m 0 ls []) := by
    intro n0
    induction n0 with
    | zero => intro τ H locs ls hf hw hl; exact absurd hf (by rw [fX4_takeNumber_0]; simp)
    | succ n0 ih0 =>
      intro τ H locs ls hf hw hl
      rw [fX4_takeNumber_0] at hf
      refine lv_aload_n hx hb dX4_takeNumber_0 rfl (lv_at hl 0 rfl) ?_
      refine ks_getI hE hw 14 6 ltX_14 lyX_14 rfl fd_X4_21 dX4_takeNumber_1 ?_
      refine lv_aload_n hx hb dX4_takeNumber_4 rfl (lv_at hl 0 rfl) ?_
      refine ks_getI hE hw 14 1 ltX_14 lyX_14 rfl fd_X4_15 dX4_takeNumber_5 ?_
      refine lv_icmp_ge (tgt := 67) hx hb dX4_takeNumber_8 (by decide) (fun c1 => ?_) (fun c1 => ?_)
      · have hf := (if_pos c1).symm.trans hf
        exact L67 _ _ _ _ hf hw (lv_sub hl [0] rfl)
      · have hf := (if_neg c1).symm.trans hf
        refine lv_aload_n hx hb dX4_takeNumber_11 rfl (lv_at hl 0 rfl) ?_
        refine lv_aload_n hx hb dX4_takeNumber_12 rfl (lv_at hl 0 rfl) ?_
        refine ks_getI hE hw 14 6 ltX_14 lyX_14 rfl fd_X4_21 dX4_takeNumber_13 ?_
        obtain ⟨r2, er2, hf⟩ := ks_bind hf
        refine ke_V hE hw hl.1 cl_X4_30 14 ltX_14 lyX_14 rfl [.int (tI τ 14 6)] (c_X4_byteAt l D cA st ad a _ _ _ er2) rfl (ke_room hRm rfl rfl) ke_cnt (Nat.le_of_ble_eq_true rfl) rfl dX4_takeNumber_16 (fun H locs hw => ?_)
        refine W.eq (g2 := F0 m 19 ls (.int r2 :: [])) rfl ?_
        obtain ⟨r3, er3, hf⟩ := ks_nm hf
        refine ke_S hE hw hl.1 cl_X4_50 [.int r2] (c_X4_isFigure l D cA st ad a _ _ _ er3.symm) rfl (ke_room hRm rfl rfl) ke_cnt (Nat.le_of_ble_eq_true rfl) rfl dX4_takeNumber_19 (fun H locs hw => ?_)
        refine W.eq (g2 := F0 m 22 ls (.int (bI r3) :: [])) rfl ?_
        refine lv_if_eq (tgt := 67) hx hb dX4_takeNumber_22 (by decide) (fun c4 => ?_) (fun c4 => ?_)
        · have hf := (if_pos c4).symm.trans hf
          exact L67 _ _ _ _ hf hw (lv_sub hl [0] rfl)
        · have hf := (if_neg c4).symm.trans hf
          refine lv_aload_n hx hb dX4_takeNumber_25 rfl (lv_at hl 0 rfl) ?_
          refine lv_bipush (v := 10) hx hb dX4_takeNumber_26 (by decide) ?_
          refine lv_aload_n hx hb dX4_takeNumber_28 rfl (lv_at hl 0 rfl) ?_
          refine ks_getI hE hw 14 3 ltX_14 lyX_14 rfl fd_X4_37 dX4_takeNumber_29 ?_
          refine lv_imul hx hb dX4_takeNumber_32 ?_
          refine lv_aload_n hx hb dX4_takeNumber_33 rfl (lv_at hl 0 rfl) ?_
          refine lv_aload_n hx hb dX4_takeNumber_34 rfl (lv_at hl 0 rfl) ?_
          refine ks_getI hE hw 14 6 ltX_14 lyX_14 rfl fd_X4_21 dX4_takeNumber_35 ?_
          obtain ⟨r5, er5, hf⟩ := ks_bind hf
          refine ke_V hE hw hl.1 cl_X4_30 14 ltX_14 lyX_14 rfl [.int (tI τ 14 6)] (c_X4_byteAt l D cA st ad a _ _ _ er5) rfl (ke_room hRm rfl rfl) ke_cnt (Nat.le_of_ble_eq_true rfl) rfl dX4_takeNumber_38 (fun H locs hw => ?_)
          refine W.eq (g2 := F0 m 41 ls (.int r5 :: .int ((10 : Int32) * tI τ 14 3) :: .ref (adr ad a 14) :: [])) rfl ?_
          refine lv_iadd hx hb dX4_takeNumber_41 ?_
          refine lv_bipush (v := 48) hx hb dX4_takeNumber_42 (by decide) ?_
          refine lv_isub hx hb dX4_takeNumber_44 ?_
          refine lv_sipush (v := 1000) hx hb dX4_takeNumber_45 (by decide) ?_
          refine va_mmin hx hb (hE.2.2.1.trans hl.1.symm) hown (hts _ w_449) (hts _ w_450) (hts _ w_74) (hts _ w_451) (by rw [hRm.1]; decide) (by rw [hRm.2]; exact Nat.le_of_ble_eq_true rfl) ke_cnt.1 ke_cnt.2 dX4_takeNumber_48 ?_
          refine W.eq (g2 := F0 m 51 ls (.int (if (1000 : Int32) < ((((10 : Int32) * tI τ 14 3) + r5) - (48 : Int32)) then (1000 : Int32) else ((((10 : Int32) * tI τ 14 3) + r5) - (48 : Int32))) :: .ref (adr ad a 14) :: [])) rfl ?_
          obtain ⟨t6, et6, hf⟩ := ks_nm hf
          refine ks_putI hE hw 14 3 ltX_14 lyX_14 rfl fw_X4_37 rfl rfl dX4_takeNumber_51 (fun H locs hw => ?_)
          rw [← et6] at hw
          refine lv_aload_n hx hb dX4_takeNumber_54 rfl (lv_at hl 0 rfl) ?_
          refine lv_dup hx hb dX4_takeNumber_55 rfl ?_
          refine ks_getI hE hw 14 6 ltX_14 lyX_14 rfl fd_X4_21 dX4_takeNumber_56 ?_
          refine lv_iconst (v := 1) hx hb dX4_takeNumber_59 (by decide) ?_
          refine lv_iadd hx hb dX4_takeNumber_60 ?_
          obtain ⟨t7, et7, hf⟩ := ks_nm hf
          refine ks_putI hE hw 14 6 ltX_14 lyX_14 rfl fw_X4_21 rfl rfl dX4_takeNumber_61 (fun H locs hw => ?_)
          rw [← et7] at hw
          refine lv_goto (tgt := 0) hx hb dX4_takeNumber_64 (by decide) ?_
          exact ih0 _ _ _ _ hf hw (lv_sub hl [0] rfl)
  unfold fX4_takeNumber at hf
  exact L0 FU _ _ _ _ hf hw (lv_sub hl [0] rfl)
def fX4_takeSign_74 (p1 : Int32) (τ : Tau) : Tau :=
 nm (sI τ 14 2 p1) (fun t13 =>
     t13)
def fX4_takeSign_38 (p1 : Int32) (τ : Tau) : Tau :=
 (if p1 = (58 : Int32) then
     fX4_takeSign_74 p1 τ
     else
    (if p1 = (124 : Int32) then
     fX4_takeSign_74 p1 τ
     else
    (if p1 = (38 : Int32) then
     fX4_takeSign_74 p1 τ
     else
    (if p1 = (33 : Int32) then
     fX4_takeSign_74 p1 τ
     else
    (if p1 = (40 : Int32) then
     fX4_takeSign_74 p1 τ
     else
    (if p1 = (41 : Int32) then
     fX4_takeSign_74 p1 τ
     else
     nm (sI τ 14 2 (1 : Int32)) (fun t12 =>
     t12)))))))
def fX4_takeSign  (τ : Tau) (p1 : Int32) : Tau :=
 nm (sI τ 14 6 (tI τ 14 6 + (1 : Int32))) (fun t1 =>
 (if p1 < (65 : Int32) then
 fX4_takeSign_38 p1 t1
 else
 (if (69 : Int32) ≤ p1 then
 fX4_takeSign_38 p1 t1
 else
 nm (sI t1 14 2 (4 : Int32)) (fun t4 =>
 nm (sI t4 14 3 (p1 - (65 : Int32))) (fun t5 =>
 t5)))))
set_option maxHeartbeats 4000000 in
set_option maxRecDepth 100000 in
theorem c_X4_takeSign (l : Launch) (D : va_G) (cA : Nat → ClassId) (st ad : Nat → Nat) (a : Nat)  (τ : Tau) (p1 : Int32) (R : Tau) (hf : fX4_takeSign τ p1 = R) : KE ΛX 29 D cA st ad l yX4_takeSign cX4_takeSign 2 none 0 0 [.ref (adr ad a 14), .int p1] a τ (none) R := by
  refine KE.of "KindSayings$Tokens" rfl (by decide) (Nat.le_of_ble_eq_true rfl) (fun p e s m args below meth c A ls Rm Q hE hRm hQ hw hl => ?_)
  obtain ⟨hx, hb, hml, hown, hts, -⟩ := id hE
  have hl : lv_has ls 2 [(0, .ref (adr ad a 14)), (1, .int p1)] := hl
  have L74 : ∀ (τ : Tau) (H : Heap) (locs : List Loc) (ls : Array Slot), fX4_takeSign_74 p1 τ = R → Wd ΛX 29 D cA ad A s a τ H locs → lv_has ls 2 [(0, .ref (adr ad a 14)), (1, .int p1)] → W p l e Rm s m args below meth c H locs 0 0 Q (F0 m 74 ls []) := by
    intro τ H locs ls hf hw hl
    unfold fX4_takeSign_74 at hf
    refine lv_aload_n hx hb dX4_takeSign_74 rfl (lv_at hl 0 rfl) ?_
    refine lv_iload_n hx hb dX4_takeSign_75 rfl (lv_at hl 1 rfl) ?_
    obtain ⟨t13, et13, hf⟩ := ks_nm hf
    refine ks_putI hE hw 14 2 ltX_14 lyX_14 rfl fw_X4_40 rfl rfl dX4_takeSign_76 (fun H locs hw => ?_)
    rw [← et13] at hw
    refine lv_goto (tgt := 87) hx hb dX4_takeSign_79 (by decide) ?_
    subst hf
    exact ke_vret hE hw hQ dX4_takeSign_87 rfl
  have L38 : ∀ (τ : Tau) (H : Heap) (locs : List Loc) (ls : Array Slot), fX4_takeSign_38 p1 τ = R → Wd ΛX 29 D cA ad A s a τ H locs → lv_has ls 2 [(0, .ref (adr ad a 14)), (1, .int p1)] → W p l e Rm s m args below meth c H locs 0 0 Q (F0 m 38 ls []) := by
    intro τ H locs ls hf hw hl
    unfold fX4_takeSign_38 at hf
    refine lv_iload_n hx hb dX4_takeSign_38 rfl (lv_at hl 1 rfl) ?_
    refine lv_bipush (v := 58) hx hb dX4_takeSign_39 (by decide) ?_
    refine lv_icmp_eq (tgt := 74) hx hb dX4_takeSign_41 (by decide) (fun c6 => ?_) (fun c6 => ?_)
    · have hf := (if_pos c6).symm.trans hf
      exact L74 _ _ _ _ hf hw (lv_sub hl [0, 1] rfl)
    · have hf := (if_neg c6).symm.trans hf
      refine lv_iload_n hx hb dX4_takeSign_44 rfl (lv_at hl 1 rfl) ?_
      refine lv_bipush (v := 124) hx hb dX4_takeSign_45 (by decide) ?_
      refine lv_icmp_eq (tgt := 74) hx hb dX4_takeSign_47 (by decide) (fun c7 => ?_) (fun c7 => ?_)
      · have hf := (if_pos c7).symm.trans hf
        exact L74 _ _ _ _ hf hw (lv_sub hl [0, 1] rfl)
      · have hf := (if_neg c7).symm.trans hf
        refine lv_iload_n hx hb dX4_takeSign_50 rfl (lv_at hl 1 rfl) ?_
        refine lv_bipush (v := 38) hx hb dX4_takeSign_51 (by decide) ?_
        refine lv_icmp_eq (tgt := 74) hx hb dX4_takeSign_53 (by decide) (fun c8 => ?_) (fun c8 => ?_)
        · have hf := (if_pos c8).symm.trans hf
          exact L74 _ _ _ _ hf hw (lv_sub hl [0, 1] rfl)
        · have hf := (if_neg c8).symm.trans hf
          refine lv_iload_n hx hb dX4_takeSign_56 rfl (lv_at hl 1 rfl) ?_
          refine lv_bipush (v := 33) hx hb dX4_takeSign_57 (by decide) ?_
          refine lv_icmp_eq (tgt := 74) hx hb dX4_takeSign_59 (by decide) (fun c9 => ?_) (fun c9 => ?_)
          · have hf := (if_pos c9).symm.trans hf
            exact L74 _ _ _ _ hf hw (lv_sub hl [0, 1] rfl)
          · have hf := (if_neg c9).symm.trans hf
            refine lv_iload_n hx hb dX4_takeSign_62 rfl (lv_at hl 1 rfl) ?_
            refine lv_bipush (v := 40) hx hb dX4_takeSign_63 (by decide) ?_
            refine lv_icmp_eq (tgt := 74) hx hb dX4_takeSign_65 (by decide) (fun c10 => ?_) (fun c10 => ?_)
            · have hf := (if_pos c10).symm.trans hf
              exact L74 _ _ _ _ hf hw (lv_sub hl [0, 1] rfl)
            · have hf := (if_neg c10).symm.trans hf
              refine lv_iload_n hx hb dX4_takeSign_68 rfl (lv_at hl 1 rfl) ?_
              refine lv_bipush (v := 41) hx hb dX4_takeSign_69 (by decide) ?_
              refine lv_icmp_ne (tgt := 82) hx hb dX4_takeSign_71 (by decide) (fun c11 => ?_) (fun c11 => ?_)
              · have hf := (if_neg c11).symm.trans hf
                refine lv_aload_n hx hb dX4_takeSign_82 rfl (lv_at hl 0 rfl) ?_
                refine lv_iconst (v := 1) hx hb dX4_takeSign_83 (by decide) ?_
                obtain ⟨t12, et12, hf⟩ := ks_nm hf
                refine ks_putI hE hw 14 2 ltX_14 lyX_14 rfl fw_X4_40 rfl rfl dX4_takeSign_84 (fun H locs hw => ?_)
                rw [← et12] at hw
                subst hf
                exact ke_vret hE hw hQ dX4_takeSign_87 rfl
              · have hf := (if_pos c11).symm.trans hf
                exact L74 _ _ _ _ hf hw (lv_sub hl [0, 1] rfl)
  unfold fX4_takeSign at hf
  refine lv_aload_n hx hb dX4_takeSign_0 rfl (lv_at hl 0 rfl) ?_
  refine lv_dup hx hb dX4_takeSign_1 rfl ?_
  refine ks_getI hE hw 14 6 ltX_14 lyX_14 rfl fd_X4_21 dX4_takeSign_2 ?_
  refine lv_iconst (v := 1) hx hb dX4_takeSign_5 (by decide) ?_
  refine lv_iadd hx hb dX4_takeSign_6 ?_
  obtain ⟨t1, et1, hf⟩ := ks_nm hf
  refine ks_putI hE hw 14 6 ltX_14 lyX_14 rfl fw_X4_21 rfl rfl dX4_takeSign_7 (fun H locs hw => ?_)
  rw [← et1] at hw
  refine lv_iload_n hx hb dX4_takeSign_10 rfl (lv_at hl 1 rfl) ?_
  refine lv_bipush (v := 65) hx hb dX4_takeSign_11 (by decide) ?_
  refine lv_icmp_lt (tgt := 38) hx hb dX4_takeSign_13 (by decide) (fun c2 => ?_) (fun c2 => ?_)
  · have hf := (if_pos c2).symm.trans hf
    exact L38 _ _ _ _ hf hw (lv_sub hl [0, 1] rfl)
  · have hf := (if_neg c2).symm.trans hf
    refine lv_iload_n hx hb dX4_takeSign_16 rfl (lv_at hl 1 rfl) ?_
    refine lv_bipush (v := 69) hx hb dX4_takeSign_17 (by decide) ?_
    refine lv_icmp_ge (tgt := 38) hx hb dX4_takeSign_19 (by decide) (fun c3 => ?_) (fun c3 => ?_)
    · have hf := (if_pos c3).symm.trans hf
      exact L38 _ _ _ _ hf hw (lv_sub hl [0, 1] rfl)
    · have hf := (if_neg c3).symm.trans hf
      refine lv_aload_n hx hb dX4_takeSign_22 rfl (lv_at hl 0 rfl) ?_
      refine lv_iconst (v := 4) hx hb dX4_takeSign_23 (by decide) ?_
      obtain ⟨t4, et4, hf⟩ := ks_nm hf
      refine ks_putI hE hw 14 2 ltX_14 lyX_14 rfl fw_X4_40 rfl rfl dX4_takeSign_24 (fun H locs hw => ?_)
      rw [← et4] at hw
      refine lv_aload_n hx hb dX4_takeSign_27 rfl (lv_at hl 0 rfl) ?_
      refine lv_iload_n hx hb dX4_takeSign_28 rfl (lv_at hl 1 rfl) ?_
      refine lv_bipush (v := 65) hx hb dX4_takeSign_29 (by decide) ?_
      refine lv_isub hx hb dX4_takeSign_31 ?_
      obtain ⟨t5, et5, hf⟩ := ks_nm hf
      refine ks_putI hE hw 14 3 ltX_14 lyX_14 rfl fw_X4_37 rfl rfl dX4_takeSign_32 (fun H locs hw => ?_)
      rw [← et5] at hw
      refine lv_goto (tgt := 87) hx hb dX4_takeSign_35 (by decide) ?_
      subst hf
      exact ke_vret hE hw hQ dX4_takeSign_87 rfl
def fX4_advance_47  (τ : Tau) : Option Tau :=
 nm (sI τ 14 4 (tI τ 14 6)) (fun t6 =>
     nm (sI t6 14 3 (0 : Int32)) (fun t7 =>
     Option.bind (fX4_byteAt t7 (tI t7 14 4)) (fun r8 =>
    (if 0 ≤ r8 then
     nm (fX4_isLetter r8) (fun r10 =>
    (if bI r10 = 0 then
     nm (fX4_isFigure r8) (fun r12 =>
    (if bI r12 = 0 then
     nm (fX4_takeSign t7 r8) (fun r14 =>
     some r14)
     else
     Option.bind (fX4_takeNumber t7) (fun r15 =>
     some r15)))
     else
     Option.bind (fX4_takeWord t7) (fun r16 =>
     some r16)))
     else
     nm (sI t7 14 2 (0 : Int32)) (fun t17 =>
     some t17)))))
def fX4_advance_10  : Nat → Tau → Option Tau
  | 0, _ => none
  | n + 1, τ =>
     (if tI τ 14 1 ≤ tI τ 14 6 then
     fX4_advance_47 τ
     else
     Option.bind (fX4_byteAt τ (tI τ 14 6)) (fun r3 =>
     (if r3 = (32 : Int32) then
     nm (sI τ 14 6 (tI τ 14 6 + (1 : Int32))) (fun t5 =>
     fX4_advance_10 n t5)
     else
     fX4_advance_47 τ)))
def fX4_advance  (τ : Tau) : Option Tau :=
 nm (sI τ 14 5 (tI τ 14 5 + (1 : Int32))) (fun t1 =>
 fX4_advance_10 FU t1)
set_option maxHeartbeats 4000000 in
set_option maxRecDepth 100000 in
theorem c_X4_advance (l : Launch) (D : va_G) (cA : Nat → ClassId) (st ad : Nat → Nat) (a : Nat)  (τ : Tau) (R : Tau) (hf : fX4_advance τ = some R) : KE ΛX 29 D cA st ad l yX4_advance cX4_advance 2 none 2 44 [.ref (adr ad a 14)] a τ (none) R := by
  refine KE.of "KindSayings$Tokens" rfl (by decide) (Nat.le_of_ble_eq_true rfl) (fun p e s m args below meth c A ls Rm Q hE hRm hQ hw hl => ?_)
  obtain ⟨hx, hb, hml, hown, hts, -⟩ := id hE
  have hl : lv_has ls 2 [(0, .ref (adr ad a 14))] := hl
  have L47 : ∀ (τ : Tau) (H : Heap) (locs : List Loc) (ls : Array Slot), fX4_advance_47 τ = some R → Wd ΛX 29 D cA ad A s a τ H locs → lv_has ls 2 [(0, .ref (adr ad a 14))] → W p l e Rm s m args below meth c H locs 0 0 Q (F0 m 47 ls []) := by
    intro τ H locs ls hf hw hl
    unfold fX4_advance_47 at hf
    refine lv_aload_n hx hb dX4_advance_47 rfl (lv_at hl 0 rfl) ?_
    refine lv_aload_n hx hb dX4_advance_48 rfl (lv_at hl 0 rfl) ?_
    refine ks_getI hE hw 14 6 ltX_14 lyX_14 rfl fd_X4_21 dX4_advance_49 ?_
    obtain ⟨t6, et6, hf⟩ := ks_nm hf
    refine ks_putI hE hw 14 4 ltX_14 lyX_14 rfl fw_X4_34 rfl rfl dX4_advance_52 (fun H locs hw => ?_)
    rw [← et6] at hw
    refine lv_aload_n hx hb dX4_advance_55 rfl (lv_at hl 0 rfl) ?_
    refine lv_iconst (v := 0) hx hb dX4_advance_56 (by decide) ?_
    obtain ⟨t7, et7, hf⟩ := ks_nm hf
    refine ks_putI hE hw 14 3 ltX_14 lyX_14 rfl fw_X4_37 rfl rfl dX4_advance_57 (fun H locs hw => ?_)
    rw [← et7] at hw
    refine lv_aload_n hx hb dX4_advance_60 rfl (lv_at hl 0 rfl) ?_
    refine lv_aload_n hx hb dX4_advance_61 rfl (lv_at hl 0 rfl) ?_
    refine ks_getI hE hw 14 4 ltX_14 lyX_14 rfl fd_X4_34 dX4_advance_62 ?_
    obtain ⟨r8, er8, hf⟩ := ks_bind hf
    refine ke_V hE hw hl.1 cl_X4_30 14 ltX_14 lyX_14 rfl [.int (tI t7 14 4)] (c_X4_byteAt l D cA st ad a _ _ _ er8) rfl (ke_room hRm rfl rfl) ke_cnt (Nat.le_of_ble_eq_true rfl) rfl dX4_advance_65 (fun H locs hw => ?_)
    refine W.eq (g2 := F0 m 68 ls (.int r8 :: [])) rfl ?_
    refine lv_istore_n (lv' := [(1, .int r8), (0, .ref (adr ad a 14))]) hx hb dX4_advance_68 rfl hl (by decide) rfl (fun ls hl => ?_)
    refine lv_iload_n hx hb dX4_advance_69 rfl (lv_at hl 0 rfl) ?_
    refine lv_if_ge (tgt := 81) hx hb dX4_advance_70 (by decide) (fun c9 => ?_) (fun c9 => ?_)
    · have hf := (if_pos c9).symm.trans hf
      refine lv_iload_n hx hb dX4_advance_81 rfl (lv_at hl 0 rfl) ?_
      obtain ⟨r10, er10, hf⟩ := ks_nm hf
      refine ke_S hE hw hl.1 cl_X4_43 [.int r8] (c_X4_isLetter l D cA st ad a _ _ _ er10.symm) rfl (ke_room hRm rfl rfl) ke_cnt (Nat.le_of_ble_eq_true rfl) rfl dX4_advance_82 (fun H locs hw => ?_)
      refine W.eq (g2 := F0 m 85 ls (.int (bI r10) :: [])) rfl ?_
      refine lv_if_eq (tgt := 95) hx hb dX4_advance_85 (by decide) (fun c11 => ?_) (fun c11 => ?_)
      · have hf := (if_pos c11).symm.trans hf
        refine lv_iload_n hx hb dX4_advance_95 rfl (lv_at hl 0 rfl) ?_
        obtain ⟨r12, er12, hf⟩ := ks_nm hf
        refine ke_S hE hw hl.1 cl_X4_50 [.int r8] (c_X4_isFigure l D cA st ad a _ _ _ er12.symm) rfl (ke_room hRm rfl rfl) ke_cnt (Nat.le_of_ble_eq_true rfl) rfl dX4_advance_96 (fun H locs hw => ?_)
        refine W.eq (g2 := F0 m 99 ls (.int (bI r12) :: [])) rfl ?_
        refine lv_if_eq (tgt := 109) hx hb dX4_advance_99 (by decide) (fun c13 => ?_) (fun c13 => ?_)
        · have hf := (if_pos c13).symm.trans hf
          refine lv_aload_n hx hb dX4_advance_109 rfl (lv_at hl 1 rfl) ?_
          refine lv_iload_n hx hb dX4_advance_110 rfl (lv_at hl 0 rfl) ?_
          obtain ⟨r14, er14, hf⟩ := ks_nm hf
          refine ke_V hE hw hl.1 cl_X4_56 14 ltX_14 lyX_14 rfl [.int r8] (c_X4_takeSign l D cA st ad a _ _ _ er14.symm) rfl (ke_room hRm rfl rfl) ke_cnt (Nat.le_of_ble_eq_true rfl) rfl dX4_advance_111 (fun H locs hw => ?_)
          refine W.eq (g2 := F0 m 114 ls ([])) rfl ?_
          replace hf := Option.some.inj hf
          subst hf
          exact ke_vret hE hw hQ dX4_advance_114 rfl
        · have hf := (if_neg c13).symm.trans hf
          refine lv_aload_n hx hb dX4_advance_102 rfl (lv_at hl 1 rfl) ?_
          obtain ⟨r15, er15, hf⟩ := ks_bind hf
          refine ke_V hE hw hl.1 cl_X4_53 14 ltX_14 lyX_14 rfl [] (c_X4_takeNumber l D cA st ad a _ _ er15) rfl (ke_room hRm rfl rfl) ke_cnt (Nat.le_of_ble_eq_true rfl) rfl dX4_advance_103 (fun H locs hw => ?_)
          refine W.eq (g2 := F0 m 106 ls ([])) rfl ?_
          refine lv_goto (tgt := 114) hx hb dX4_advance_106 (by decide) ?_
          replace hf := Option.some.inj hf
          subst hf
          exact ke_vret hE hw hQ dX4_advance_114 rfl
      · have hf := (if_neg c11).symm.trans hf
        refine lv_aload_n hx hb dX4_advance_88 rfl (lv_at hl 1 rfl) ?_
        obtain ⟨r16, er16, hf⟩ := ks_bind hf
        refine ke_V hE hw hl.1 cl_X4_47 14 ltX_14 lyX_14 rfl [] (c_X4_takeWord l D cA st ad a _ _ er16) rfl (ke_room hRm rfl rfl) ke_cnt (Nat.le_of_ble_eq_true rfl) rfl dX4_advance_89 (fun H locs hw => ?_)
        refine W.eq (g2 := F0 m 92 ls ([])) rfl ?_
        refine lv_goto (tgt := 114) hx hb dX4_advance_92 (by decide) ?_
        replace hf := Option.some.inj hf
        subst hf
        exact ke_vret hE hw hQ dX4_advance_114 rfl
    · have hf := (if_neg c9).symm.trans hf
      refine lv_aload_n hx hb dX4_advance_73 rfl (lv_at hl 1 rfl) ?_
      refine lv_iconst (v := 0) hx hb dX4_advance_74 (by decide) ?_
      obtain ⟨t17, et17, hf⟩ := ks_nm hf
      refine ks_putI hE hw 14 2 ltX_14 lyX_14 rfl fw_X4_40 rfl rfl dX4_advance_75 (fun H locs hw => ?_)
      rw [← et17] at hw
      refine lv_goto (tgt := 114) hx hb dX4_advance_78 (by decide) ?_
      replace hf := Option.some.inj hf
      subst hf
      exact ke_vret hE hw hQ dX4_advance_114 rfl
  have L10 : ∀ (n10 : Nat) (τ : Tau) (H : Heap) (locs : List Loc) (ls : Array Slot), fX4_advance_10 n10 τ = some R → Wd ΛX 29 D cA ad A s a τ H locs → lv_has ls 2 [(0, .ref (adr ad a 14))] → W p l e Rm s m args below meth c H locs 0 0 Q (F0 m 10 ls []) := by
    intro n10
    induction n10 with
    | zero => intro τ H locs ls hf hw hl; exact absurd hf (by rw [fX4_advance_10]; simp)
    | succ n10 ih10 =>
      intro τ H locs ls hf hw hl
      rw [fX4_advance_10] at hf
      refine lv_aload_n hx hb dX4_advance_10 rfl (lv_at hl 0 rfl) ?_
      refine ks_getI hE hw 14 6 ltX_14 lyX_14 rfl fd_X4_21 dX4_advance_11 ?_
      refine lv_aload_n hx hb dX4_advance_14 rfl (lv_at hl 0 rfl) ?_
      refine ks_getI hE hw 14 1 ltX_14 lyX_14 rfl fd_X4_15 dX4_advance_15 ?_
      refine lv_icmp_ge (tgt := 47) hx hb dX4_advance_18 (by decide) (fun c2 => ?_) (fun c2 => ?_)
      · have hf := (if_pos c2).symm.trans hf
        exact L47 _ _ _ _ hf hw (lv_sub hl [0] rfl)
      · have hf := (if_neg c2).symm.trans hf
        refine lv_aload_n hx hb dX4_advance_21 rfl (lv_at hl 0 rfl) ?_
        refine lv_aload_n hx hb dX4_advance_22 rfl (lv_at hl 0 rfl) ?_
        refine ks_getI hE hw 14 6 ltX_14 lyX_14 rfl fd_X4_21 dX4_advance_23 ?_
        obtain ⟨r3, er3, hf⟩ := ks_bind hf
        refine ke_V hE hw hl.1 cl_X4_30 14 ltX_14 lyX_14 rfl [.int (tI τ 14 6)] (c_X4_byteAt l D cA st ad a _ _ _ er3) rfl (ke_room hRm rfl rfl) ke_cnt (Nat.le_of_ble_eq_true rfl) rfl dX4_advance_26 (fun H locs hw => ?_)
        refine W.eq (g2 := F0 m 29 ls (.int r3 :: [])) rfl ?_
        refine lv_bipush (v := 32) hx hb dX4_advance_29 (by decide) ?_
        refine lv_icmp_ne (tgt := 47) hx hb dX4_advance_31 (by decide) (fun c4 => ?_) (fun c4 => ?_)
        · have hf := (if_neg c4).symm.trans hf
          exact L47 _ _ _ _ hf hw (lv_sub hl [0] rfl)
        · have hf := (if_pos c4).symm.trans hf
          refine lv_aload_n hx hb dX4_advance_34 rfl (lv_at hl 0 rfl) ?_
          refine lv_dup hx hb dX4_advance_35 rfl ?_
          refine ks_getI hE hw 14 6 ltX_14 lyX_14 rfl fd_X4_21 dX4_advance_36 ?_
          refine lv_iconst (v := 1) hx hb dX4_advance_39 (by decide) ?_
          refine lv_iadd hx hb dX4_advance_40 ?_
          obtain ⟨t5, et5, hf⟩ := ks_nm hf
          refine ks_putI hE hw 14 6 ltX_14 lyX_14 rfl fw_X4_21 rfl rfl dX4_advance_41 (fun H locs hw => ?_)
          rw [← et5] at hw
          refine lv_goto (tgt := 10) hx hb dX4_advance_44 (by decide) ?_
          exact ih10 _ _ _ _ hf hw (lv_sub hl [0] rfl)
  unfold fX4_advance at hf
  refine lv_aload_n hx hb dX4_advance_0 rfl (lv_at hl 0 rfl) ?_
  refine lv_dup hx hb dX4_advance_1 rfl ?_
  refine ks_getI hE hw 14 5 ltX_14 lyX_14 rfl fd_X4_24 dX4_advance_2 ?_
  refine lv_iconst (v := 1) hx hb dX4_advance_5 (by decide) ?_
  refine lv_iadd hx hb dX4_advance_6 ?_
  obtain ⟨t1, et1, hf⟩ := ks_nm hf
  refine ks_putI hE hw 14 5 ltX_14 lyX_14 rfl fw_X4_24 rfl rfl dX4_advance_7 (fun H locs hw => ?_)
  rw [← et1] at hw
  exact L10 FU _ _ _ _ hf hw (lv_sub hl [0] rfl)
def fX4_begin  (τ : Tau) : Option Tau :=
 nm (sI τ 14 6 (0 : Int32)) (fun t1 =>
 nm (sI t1 14 5 (-1 : Int32)) (fun t2 =>
 Option.bind (fX4_advance t2) (fun r3 =>
 some r3)))
set_option maxHeartbeats 4000000 in
set_option maxRecDepth 100000 in
theorem c_X4_begin (l : Launch) (D : va_G) (cA : Nat → ClassId) (st ad : Nat → Nat) (a : Nat)  (τ : Tau) (R : Tau) (hf : fX4_begin τ = some R) : KE ΛX 29 D cA st ad l yX4_begin cX4_begin 1 none 3 65 [.ref (adr ad a 14)] a τ (none) R := by
  refine KE.of "KindSayings$Tokens" rfl (by decide) (Nat.le_of_ble_eq_true rfl) (fun p e s m args below meth c A ls Rm Q hE hRm hQ hw hl => ?_)
  obtain ⟨hx, hb, hml, hown, hts, -⟩ := id hE
  have hl : lv_has ls 1 [(0, .ref (adr ad a 14))] := hl
  unfold fX4_begin at hf
  refine lv_aload_n hx hb dX4_begin_0 rfl (lv_at hl 0 rfl) ?_
  refine lv_iconst (v := 0) hx hb dX4_begin_1 (by decide) ?_
  obtain ⟨t1, et1, hf⟩ := ks_nm hf
  refine ks_putI hE hw 14 6 ltX_14 lyX_14 rfl fw_X4_21 rfl rfl dX4_begin_2 (fun H locs hw => ?_)
  rw [← et1] at hw
  refine lv_aload_n hx hb dX4_begin_5 rfl (lv_at hl 0 rfl) ?_
  refine lv_iconst (v := (-1)) hx hb dX4_begin_6 (by decide) ?_
  obtain ⟨t2, et2, hf⟩ := ks_nm hf
  refine ks_putI hE hw 14 5 ltX_14 lyX_14 rfl fw_X4_24 rfl rfl dX4_begin_7 (fun H locs hw => ?_)
  rw [← et2] at hw
  refine lv_aload_n hx hb dX4_begin_10 rfl (lv_at hl 0 rfl) ?_
  obtain ⟨r3, er3, hf⟩ := ks_bind hf
  refine ke_V hE hw hl.1 cl_X4_27 14 ltX_14 lyX_14 rfl [] (c_X4_advance l D cA st ad a _ _ er3) rfl (ke_room hRm rfl rfl) ke_cnt (Nat.le_of_ble_eq_true rfl) rfl dX4_begin_11 (fun H locs hw => ?_)
  refine W.eq (g2 := F0 m 14 ls ([])) rfl ?_
  replace hf := Option.some.inj hf
  subst hf
  exact ke_vret hE hw hQ dX4_begin_14 rfl
