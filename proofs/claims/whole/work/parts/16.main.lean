def fX6_sortCount (τ : Tau) : Int32 :=
 ((1 : Int32) <<< (tI τ 0 5 &&& 31))
set_option maxHeartbeats 4000000 in
set_option maxRecDepth 100000 in
theorem c_X6_sortCount (l : Launch) (D : va_G) (cA : Nat → ClassId) (st ad : Nat → Nat) (a : Nat)  (τ : Tau) (R : Int32) (hf : fX6_sortCount τ = R) : KE ΛX 29 D cA st ad l yX6_sortCount cX6_sortCount 1 (some .int) 0 0 [.ref (adr ad a 0)] a τ (some (.int R)) τ := by
  refine KE.of "KindSayings" rfl (by decide) (Nat.le_of_ble_eq_true rfl) (fun p e s m args below meth c A ls Rm Q hE hRm hQ hw hl => ?_)
  obtain ⟨hx, hb, hml, hown, hts, -⟩ := id hE
  have hl : lv_has ls 1 [(0, .ref (adr ad a 0))] := hl
  unfold fX6_sortCount at hf
  refine lv_iconst (v := 1) hx hb dX6_sortCount_0 (by decide) ?_
  refine lv_aload_n hx hb dX6_sortCount_1 rfl (lv_at hl 0 rfl) ?_
  refine ks_getI hE hw 0 5 ltX_0 lyX_0 rfl fd_X6_40 dX6_sortCount_2 ?_
  refine lv_ishl hx hb dX6_sortCount_5 ?_
  subst hf
  exact ke_iret hE hw hQ dX6_sortCount_6 rfl rfl
def fX6_isSort (τ : Tau) (p1 : Int32) : Bool :=
 (if p1 < 0 then
 false
 else
 nm (fX6_sortCount τ) (fun r2 =>
 (if r2 ≤ p1 then
 false
 else
 (if (16 : Int32) ≤ p1 then
 false
 else
 true))))
set_option maxHeartbeats 4000000 in
set_option maxRecDepth 100000 in
theorem c_X6_isSort (l : Launch) (D : va_G) (cA : Nat → ClassId) (st ad : Nat → Nat) (a : Nat)  (τ : Tau) (p1 : Int32) (R : Bool) (hf : fX6_isSort τ p1 = R) : KE ΛX 29 D cA st ad l yX6_isSort cX6_isSort 2 (some .boolean) 1 20 [.ref (adr ad a 0), .int p1] a τ (some (.int (bI R))) τ := by
  refine KE.of "KindSayings" rfl (by decide) (Nat.le_of_ble_eq_true rfl) (fun p e s m args below meth c A ls Rm Q hE hRm hQ hw hl => ?_)
  obtain ⟨hx, hb, hml, hown, hts, -⟩ := id hE
  have hl : lv_has ls 2 [(0, .ref (adr ad a 0)), (1, .int p1)] := hl
  unfold fX6_isSort at hf
  refine lv_iload_n hx hb dX6_isSort_0 rfl (lv_at hl 1 rfl) ?_
  refine lv_if_lt (tgt := 25) hx hb dX6_isSort_1 (by decide) (fun c1 => ?_) (fun c1 => ?_)
  · have hf := (if_pos c1).symm.trans hf
    refine lv_iconst (v := 0) hx hb dX6_isSort_25 (by decide) ?_
    subst hf
    exact ke_zret hE hw hQ (Or.inl rfl) dX6_isSort_26 rfl rfl
  · have hf := (if_neg c1).symm.trans hf
    refine lv_iload_n hx hb dX6_isSort_4 rfl (lv_at hl 1 rfl) ?_
    refine lv_aload_n hx hb dX6_isSort_5 rfl (lv_at hl 0 rfl) ?_
    obtain ⟨r2, er2, hf⟩ := ks_nm hf
    refine ke_V hE hw hl.1 cl_X6_54 0 ltX_0 lyX_0 rfl [] (c_X6_sortCount l D cA st ad a _ _ er2.symm) rfl (ke_room hRm rfl rfl) ke_cnt (Nat.le_of_ble_eq_true rfl) rfl dX6_isSort_6 (fun H locs hw => ?_)
    refine W.eq (g2 := F0 m 9 ls (.int r2 :: .int p1 :: [])) rfl ?_
    refine lv_icmp_ge (tgt := 25) hx hb dX6_isSort_9 (by decide) (fun c3 => ?_) (fun c3 => ?_)
    · have hf := (if_pos c3).symm.trans hf
      refine lv_iconst (v := 0) hx hb dX6_isSort_25 (by decide) ?_
      subst hf
      exact ke_zret hE hw hQ (Or.inl rfl) dX6_isSort_26 rfl rfl
    · have hf := (if_neg c3).symm.trans hf
      refine lv_iload_n hx hb dX6_isSort_12 rfl (lv_at hl 1 rfl) ?_
      refine lv_aload_n hx hb dX6_isSort_13 rfl (lv_at hl 0 rfl) ?_
      refine ks_getR hE hw 0 1 ltX_0 lyX_0 rfl fd_X6_15 dX6_isSort_14 ?_
      refine ks_alen hE hw 12 ltX_12 lyX_12 rfl 16 rfl dX6_isSort_17 ?_
      refine lv_icmp_ge (tgt := 25) hx hb dX6_isSort_18 (by decide) (fun c4 => ?_) (fun c4 => ?_)
      · have hf := (if_pos c4).symm.trans hf
        refine lv_iconst (v := 0) hx hb dX6_isSort_25 (by decide) ?_
        subst hf
        exact ke_zret hE hw hQ (Or.inl rfl) dX6_isSort_26 rfl rfl
      · have hf := (if_neg c4).symm.trans hf
        refine lv_iconst (v := 1) hx hb dX6_isSort_21 (by decide) ?_
        refine lv_goto (tgt := 26) hx hb dX6_isSort_22 (by decide) ?_
        subst hf
        exact ke_zret hE hw hQ (Or.inr rfl) dX6_isSort_26 rfl rfl
def fX6_isSortOrEvery (τ : Tau) (p1 : Int32) : Bool :=
 (if p1 = (-1 : Int32) then
 true
 else
 nm (fX6_isSort τ p1) (fun r2 =>
 (if bI r2 = 0 then
 false
 else
 true)))
set_option maxHeartbeats 4000000 in
set_option maxRecDepth 100000 in
theorem c_X6_isSortOrEvery (l : Launch) (D : va_G) (cA : Nat → ClassId) (st ad : Nat → Nat) (a : Nat)  (τ : Tau) (p1 : Int32) (R : Bool) (hf : fX6_isSortOrEvery τ p1 = R) : KE ΛX 29 D cA st ad l yX6_isSortOrEvery cX6_isSortOrEvery 2 (some .boolean) 2 41 [.ref (adr ad a 0), .int p1] a τ (some (.int (bI R))) τ := by
  refine KE.of "KindSayings" rfl (by decide) (Nat.le_of_ble_eq_true rfl) (fun p e s m args below meth c A ls Rm Q hE hRm hQ hw hl => ?_)
  obtain ⟨hx, hb, hml, hown, hts, -⟩ := id hE
  have hl : lv_has ls 2 [(0, .ref (adr ad a 0)), (1, .int p1)] := hl
  unfold fX6_isSortOrEvery at hf
  refine lv_iload_n hx hb dX6_isSortOrEvery_0 rfl (lv_at hl 1 rfl) ?_
  refine lv_iconst (v := (-1)) hx hb dX6_isSortOrEvery_1 (by decide) ?_
  refine lv_icmp_eq (tgt := 13) hx hb dX6_isSortOrEvery_2 (by decide) (fun c1 => ?_) (fun c1 => ?_)
  · have hf := (if_pos c1).symm.trans hf
    refine lv_iconst (v := 1) hx hb dX6_isSortOrEvery_13 (by decide) ?_
    refine lv_goto (tgt := 18) hx hb dX6_isSortOrEvery_14 (by decide) ?_
    subst hf
    exact ke_zret hE hw hQ (Or.inr rfl) dX6_isSortOrEvery_18 rfl rfl
  · have hf := (if_neg c1).symm.trans hf
    refine lv_aload_n hx hb dX6_isSortOrEvery_5 rfl (lv_at hl 0 rfl) ?_
    refine lv_iload_n hx hb dX6_isSortOrEvery_6 rfl (lv_at hl 1 rfl) ?_
    obtain ⟨r2, er2, hf⟩ := ks_nm hf
    refine ke_V hE hw hl.1 cl_X6_65 0 ltX_0 lyX_0 rfl [.int p1] (c_X6_isSort l D cA st ad a _ _ _ er2.symm) rfl (ke_room hRm rfl rfl) ke_cnt (Nat.le_of_ble_eq_true rfl) rfl dX6_isSortOrEvery_7 (fun H locs hw => ?_)
    refine W.eq (g2 := F0 m 10 ls (.int (bI r2) :: [])) rfl ?_
    refine lv_if_eq (tgt := 17) hx hb dX6_isSortOrEvery_10 (by decide) (fun c3 => ?_) (fun c3 => ?_)
    · have hf := (if_pos c3).symm.trans hf
      refine lv_iconst (v := 0) hx hb dX6_isSortOrEvery_17 (by decide) ?_
      subst hf
      exact ke_zret hE hw hQ (Or.inl rfl) dX6_isSortOrEvery_18 rfl rfl
    · have hf := (if_neg c3).symm.trans hf
      refine lv_iconst (v := 1) hx hb dX6_isSortOrEvery_13 (by decide) ?_
      refine lv_goto (tgt := 18) hx hb dX6_isSortOrEvery_14 (by decide) ?_
      subst hf
      exact ke_zret hE hw hQ (Or.inr rfl) dX6_isSortOrEvery_18 rfl rfl
def fX6_isFact (τ : Tau) (p1 : Int32) (p2 : Int32) (p3 : Int32) : Bool :=
 (if p1 < 0 then
 false
 else
 (if (3 : Int32) < p1 then
 false
 else
 (if p2 < 0 then
 false
 else
 (if tI τ 0 5 ≤ p2 then
 false
 else
 (if p3 < 0 then
 false
 else
 (if tI τ 0 5 ≤ p3 then
 false
 else
 true))))))
set_option maxHeartbeats 4000000 in
set_option maxRecDepth 100000 in
theorem c_X6_isFact (l : Launch) (D : va_G) (cA : Nat → ClassId) (st ad : Nat → Nat) (a : Nat)  (τ : Tau) (p1 : Int32) (p2 : Int32) (p3 : Int32) (R : Bool) (hf : fX6_isFact τ p1 p2 p3 = R) : KE ΛX 29 D cA st ad l yX6_isFact cX6_isFact 4 (some .boolean) 0 0 [.ref (adr ad a 0), .int p1, .int p2, .int p3] a τ (some (.int (bI R))) τ := by
  refine KE.of "KindSayings" rfl (by decide) (Nat.le_of_ble_eq_true rfl) (fun p e s m args below meth c A ls Rm Q hE hRm hQ hw hl => ?_)
  obtain ⟨hx, hb, hml, hown, hts, -⟩ := id hE
  have hl : lv_has ls 4 [(0, .ref (adr ad a 0)), (1, .int p1), (2, .int p2), (3, .int p3)] := hl
  unfold fX6_isFact at hf
  refine lv_iload_n hx hb dX6_isFact_0 rfl (lv_at hl 1 rfl) ?_
  refine lv_if_lt (tgt := 37) hx hb dX6_isFact_1 (by decide) (fun c1 => ?_) (fun c1 => ?_)
  · have hf := (if_pos c1).symm.trans hf
    refine lv_iconst (v := 0) hx hb dX6_isFact_37 (by decide) ?_
    subst hf
    exact ke_zret hE hw hQ (Or.inl rfl) dX6_isFact_38 rfl rfl
  · have hf := (if_neg c1).symm.trans hf
    refine lv_iload_n hx hb dX6_isFact_4 rfl (lv_at hl 1 rfl) ?_
    refine lv_iconst (v := 3) hx hb dX6_isFact_5 (by decide) ?_
    refine lv_icmp_gt (tgt := 37) hx hb dX6_isFact_6 (by decide) (fun c2 => ?_) (fun c2 => ?_)
    · have hf := (if_pos c2).symm.trans hf
      refine lv_iconst (v := 0) hx hb dX6_isFact_37 (by decide) ?_
      subst hf
      exact ke_zret hE hw hQ (Or.inl rfl) dX6_isFact_38 rfl rfl
    · have hf := (if_neg c2).symm.trans hf
      refine lv_iload_n hx hb dX6_isFact_9 rfl (lv_at hl 2 rfl) ?_
      refine lv_if_lt (tgt := 37) hx hb dX6_isFact_10 (by decide) (fun c3 => ?_) (fun c3 => ?_)
      · have hf := (if_pos c3).symm.trans hf
        refine lv_iconst (v := 0) hx hb dX6_isFact_37 (by decide) ?_
        subst hf
        exact ke_zret hE hw hQ (Or.inl rfl) dX6_isFact_38 rfl rfl
      · have hf := (if_neg c3).symm.trans hf
        refine lv_iload_n hx hb dX6_isFact_13 rfl (lv_at hl 2 rfl) ?_
        refine lv_aload_n hx hb dX6_isFact_14 rfl (lv_at hl 0 rfl) ?_
        refine ks_getI hE hw 0 5 ltX_0 lyX_0 rfl fd_X6_40 dX6_isFact_15 ?_
        refine lv_icmp_ge (tgt := 37) hx hb dX6_isFact_18 (by decide) (fun c4 => ?_) (fun c4 => ?_)
        · have hf := (if_pos c4).symm.trans hf
          refine lv_iconst (v := 0) hx hb dX6_isFact_37 (by decide) ?_
          subst hf
          exact ke_zret hE hw hQ (Or.inl rfl) dX6_isFact_38 rfl rfl
        · have hf := (if_neg c4).symm.trans hf
          refine lv_iload_n hx hb dX6_isFact_21 rfl (lv_at hl 3 rfl) ?_
          refine lv_if_lt (tgt := 37) hx hb dX6_isFact_22 (by decide) (fun c5 => ?_) (fun c5 => ?_)
          · have hf := (if_pos c5).symm.trans hf
            refine lv_iconst (v := 0) hx hb dX6_isFact_37 (by decide) ?_
            subst hf
            exact ke_zret hE hw hQ (Or.inl rfl) dX6_isFact_38 rfl rfl
          · have hf := (if_neg c5).symm.trans hf
            refine lv_iload_n hx hb dX6_isFact_25 rfl (lv_at hl 3 rfl) ?_
            refine lv_aload_n hx hb dX6_isFact_26 rfl (lv_at hl 0 rfl) ?_
            refine ks_getI hE hw 0 5 ltX_0 lyX_0 rfl fd_X6_40 dX6_isFact_27 ?_
            refine lv_icmp_ge (tgt := 37) hx hb dX6_isFact_30 (by decide) (fun c6 => ?_) (fun c6 => ?_)
            · have hf := (if_pos c6).symm.trans hf
              refine lv_iconst (v := 0) hx hb dX6_isFact_37 (by decide) ?_
              subst hf
              exact ke_zret hE hw hQ (Or.inl rfl) dX6_isFact_38 rfl rfl
            · have hf := (if_neg c6).symm.trans hf
              refine lv_iconst (v := 1) hx hb dX6_isFact_33 (by decide) ?_
              refine lv_goto (tgt := 38) hx hb dX6_isFact_34 (by decide) ?_
              subst hf
              exact ke_zret hE hw hQ (Or.inr rfl) dX6_isFact_38 rfl rfl
def fX6_thingsAtHand_4 (τ : Tau) : Nat → Int32 → Int32 → Option Int32
  | 0, _, _ => none
  | n + 1, x_1, x_2 =>
     (if (16 : Int32) ≤ x_2 then
     some x_1
     else
     (if x_2 < 0 ∨ 16 ≤ x_2.toNatClampNeg then none else
     nm (x_1 + tA τ 12 x_2.toNatClampNeg) (fun x3 =>
     nm (x_2 + (1 : Int32)) (fun x4 =>
     fX6_thingsAtHand_4 τ n x3 x4))))
def fX6_thingsAtHand (τ : Tau) : Option Int32 :=
 fX6_thingsAtHand_4 τ FU (0 : Int32) (0 : Int32)
set_option maxHeartbeats 4000000 in
set_option maxRecDepth 100000 in
theorem c_X6_thingsAtHand (l : Launch) (D : va_G) (cA : Nat → ClassId) (st ad : Nat → Nat) (a : Nat)  (τ : Tau) (R : Int32) (hf : fX6_thingsAtHand τ = some R) : KE ΛX 29 D cA st ad l yX6_thingsAtHand cX6_thingsAtHand 3 (some .int) 0 0 [.ref (adr ad a 0)] a τ (some (.int R)) τ := by
  refine KE.of "KindSayings" rfl (by decide) (Nat.le_of_ble_eq_true rfl) (fun p e s m args below meth c A ls Rm Q hE hRm hQ hw hl => ?_)
  obtain ⟨hx, hb, hml, hown, hts, -⟩ := id hE
  have hl : lv_has ls 3 [(0, .ref (adr ad a 0))] := hl
  have L4 : ∀ (n4 : Nat) (x_1 : Int32) (x_2 : Int32) (H : Heap) (locs : List Loc) (ls : Array Slot), fX6_thingsAtHand_4 τ n4 x_1 x_2 = some R → Wd ΛX 29 D cA ad A s a τ H locs → lv_has ls 3 [(0, .ref (adr ad a 0)), (1, .int x_1), (2, .int x_2)] → W p l e Rm s m args below meth c H locs 0 0 Q (F0 m 4 ls []) := by
    intro n4
    induction n4 with
    | zero => intro x_1 x_2 H locs ls hf hw hl; exact absurd hf (by rw [fX6_thingsAtHand_4]; simp)
    | succ n4 ih4 =>
      intro x_1 x_2 H locs ls hf hw hl
      rw [fX6_thingsAtHand_4] at hf
      refine lv_iload_n hx hb dX6_thingsAtHand_4 rfl (lv_at hl 2 rfl) ?_
      refine lv_aload_n hx hb dX6_thingsAtHand_5 rfl (lv_at hl 0 rfl) ?_
      refine ks_getR hE hw 0 1 ltX_0 lyX_0 rfl fd_X6_15 dX6_thingsAtHand_6 ?_
      refine ks_alen hE hw 12 ltX_12 lyX_12 rfl 16 rfl dX6_thingsAtHand_9 ?_
      refine lv_icmp_ge (tgt := 28) hx hb dX6_thingsAtHand_10 (by decide) (fun c1 => ?_) (fun c1 => ?_)
      · have hf := (if_pos c1).symm.trans hf
        refine lv_iload_n hx hb dX6_thingsAtHand_28 rfl (lv_at hl 1 rfl) ?_
        replace hf := Option.some.inj hf
        subst hf
        exact ke_iret hE hw hQ dX6_thingsAtHand_29 rfl rfl
      · have hf := (if_neg c1).symm.trans hf
        refine lv_iload_n hx hb dX6_thingsAtHand_13 rfl (lv_at hl 1 rfl) ?_
        refine lv_aload_n hx hb dX6_thingsAtHand_14 rfl (lv_at hl 0 rfl) ?_
        refine ks_getR hE hw 0 1 ltX_0 lyX_0 rfl fd_X6_15 dX6_thingsAtHand_15 ?_
        refine lv_iload_n hx hb dX6_thingsAtHand_18 rfl (lv_at hl 2 rfl) ?_
        obtain ⟨b2, hf⟩ := ks_ok hf
        refine ks_iald hE hw 12 ltX_12 lyX_12 b2 dX6_thingsAtHand_19 ?_
        refine lv_iadd hx hb dX6_thingsAtHand_20 ?_
        obtain ⟨x3, ex3, hf⟩ := ks_nm hf
        refine W.eq (g2 := F0 m 21 ls (.int x3 :: [])) (by rw [ex3]) ?_
        refine lv_istore_n (lv' := [(1, .int x3), (0, .ref (adr ad a 0)), (2, .int x_2)]) hx hb dX6_thingsAtHand_21 rfl hl (by decide) rfl (fun ls hl => ?_)
        obtain ⟨x4, ex4, hf⟩ := ks_nm hf
        refine lv_iinc (v := x4) (lv' := [(2, .int x4), (1, .int x3), (0, .ref (adr ad a 0))]) hx hb dX6_thingsAtHand_22 hl (k := 2) rfl (by rw [ex4]; rfl) (by decide) rfl (fun ls hl => ?_)
        refine lv_goto (tgt := 4) hx hb dX6_thingsAtHand_25 (by decide) ?_
        exact ih4 _ _ _ _ _ hf hw (lv_sub hl [2, 1, 0] rfl)
  unfold fX6_thingsAtHand at hf
  refine lv_iconst (v := 0) hx hb dX6_thingsAtHand_0 (by decide) ?_
  refine lv_istore_n (lv' := [(1, .int (0 : Int32)), (0, .ref (adr ad a 0))]) hx hb dX6_thingsAtHand_1 rfl hl (by decide) rfl (fun ls hl => ?_)
  refine lv_iconst (v := 0) hx hb dX6_thingsAtHand_2 (by decide) ?_
  refine lv_istore_n (lv' := [(2, .int (0 : Int32)), (1, .int (0 : Int32)), (0, .ref (adr ad a 0))]) hx hb dX6_thingsAtHand_3 rfl hl (by decide) rfl (fun ls hl => ?_)
  exact L4 FU _ _ _ _ _ hf hw (lv_sub hl [2, 1, 0] rfl)
def fX6_sumAtHand_4 (q1 : Nat) (τ : Tau) : Nat → Int32 → Int32 → Option Int32
  | 0, _, _ => none
  | n + 1, x_2, x_3 =>
     (if (16 : Int32) ≤ x_3 then
     some x_2
     else
     (if x_3 < 0 ∨ 16 ≤ x_3.toNatClampNeg then none else
     nm (fX3_weight q1 τ x_3) (fun r3 =>
     nm (x_2 + (tA τ 12 x_3.toNatClampNeg * r3)) (fun x4 =>
     nm (x_3 + (1 : Int32)) (fun x5 =>
     fX6_sumAtHand_4 q1 τ n x4 x5)))))
def fX6_sumAtHand (q1 : Nat) (τ : Tau) : Option Int32 :=
 fX6_sumAtHand_4 q1 τ FU (0 : Int32) (0 : Int32)
set_option maxHeartbeats 4000000 in
set_option maxRecDepth 100000 in
theorem c_X6_sumAtHand (l : Launch) (D : va_G) (cA : Nat → ClassId) (st ad : Nat → Nat) (a : Nat) (q1 : Nat) (τ : Tau) (R : Int32) (hq1 : isSay q1) (hf : fX6_sumAtHand q1 τ = some R) : KE ΛX 29 D cA st ad l yX6_sumAtHand cX6_sumAtHand 4 (some .int) 1 23 [.ref (adr ad a 0), .ref (adr ad a q1)] a τ (some (.int R)) τ := by
  refine KE.of "KindSayings" rfl (by decide) (Nat.le_of_ble_eq_true rfl) (fun p e s m args below meth c A ls Rm Q hE hRm hQ hw hl => ?_)
  obtain ⟨hx, hb, hml, hown, hts, -⟩ := id hE
  have hl : lv_has ls 4 [(0, .ref (adr ad a 0)), (1, .ref (adr ad a q1))] := hl
  have L4 : ∀ (n4 : Nat) (x_2 : Int32) (x_3 : Int32) (H : Heap) (locs : List Loc) (ls : Array Slot), fX6_sumAtHand_4 q1 τ n4 x_2 x_3 = some R → Wd ΛX 29 D cA ad A s a τ H locs → lv_has ls 4 [(0, .ref (adr ad a 0)), (1, .ref (adr ad a q1)), (2, .int x_2), (3, .int x_3)] → W p l e Rm s m args below meth c H locs 0 0 Q (F0 m 4 ls []) := by
    intro n4
    induction n4 with
    | zero => intro x_2 x_3 H locs ls hf hw hl; exact absurd hf (by rw [fX6_sumAtHand_4]; simp)
    | succ n4 ih4 =>
      intro x_2 x_3 H locs ls hf hw hl
      rw [fX6_sumAtHand_4] at hf
      refine lv_iload_n hx hb dX6_sumAtHand_4 rfl (lv_at hl 3 rfl) ?_
      refine lv_aload_n hx hb dX6_sumAtHand_5 rfl (lv_at hl 0 rfl) ?_
      refine ks_getR hE hw 0 1 ltX_0 lyX_0 rfl fd_X6_15 dX6_sumAtHand_6 ?_
      refine ks_alen hE hw 12 ltX_12 lyX_12 rfl 16 rfl dX6_sumAtHand_9 ?_
      refine lv_icmp_ge (tgt := 34) hx hb dX6_sumAtHand_10 (by decide) (fun c1 => ?_) (fun c1 => ?_)
      · have hf := (if_pos c1).symm.trans hf
        refine lv_iload_n hx hb dX6_sumAtHand_34 rfl (lv_at hl 2 rfl) ?_
        replace hf := Option.some.inj hf
        subst hf
        exact ke_iret hE hw hQ dX6_sumAtHand_35 rfl rfl
      · have hf := (if_neg c1).symm.trans hf
        refine lv_iload_n hx hb dX6_sumAtHand_13 rfl (lv_at hl 2 rfl) ?_
        refine lv_aload_n hx hb dX6_sumAtHand_14 rfl (lv_at hl 0 rfl) ?_
        refine ks_getR hE hw 0 1 ltX_0 lyX_0 rfl fd_X6_15 dX6_sumAtHand_15 ?_
        refine lv_iload_n hx hb dX6_sumAtHand_18 rfl (lv_at hl 3 rfl) ?_
        obtain ⟨b2, hf⟩ := ks_ok hf
        refine ks_iald hE hw 12 ltX_12 lyX_12 b2 dX6_sumAtHand_19 ?_
        refine lv_aload_n hx hb dX6_sumAtHand_20 rfl (lv_at hl 1 rfl) ?_
        refine lv_iload_n hx hb dX6_sumAtHand_21 rfl (lv_at hl 3 rfl) ?_
        obtain ⟨r3, er3, hf⟩ := ks_nm hf
        refine ke_V hE hw hl.1 cl_X6_226 q1 (say_lt hq1) (say_lay hq1) rfl [.int x_3] (c_X3_weight l D cA st ad a _ _ _ _ hq1 er3.symm) rfl (ke_room hRm rfl rfl) ke_cnt (Nat.le_of_ble_eq_true rfl) rfl dX6_sumAtHand_22 (fun H locs hw => ?_)
        refine W.eq (g2 := F0 m 25 ls (.int r3 :: .int (tA τ 12 x_3.toNatClampNeg) :: .int x_2 :: [])) rfl ?_
        refine lv_imul hx hb dX6_sumAtHand_25 ?_
        refine lv_iadd hx hb dX6_sumAtHand_26 ?_
        obtain ⟨x4, ex4, hf⟩ := ks_nm hf
        refine W.eq (g2 := F0 m 27 ls (.int x4 :: [])) (by rw [ex4]) ?_
        refine lv_istore_n (lv' := [(2, .int x4), (0, .ref (adr ad a 0)), (1, .ref (adr ad a q1)), (3, .int x_3)]) hx hb dX6_sumAtHand_27 rfl hl (by decide) rfl (fun ls hl => ?_)
        obtain ⟨x5, ex5, hf⟩ := ks_nm hf
        refine lv_iinc (v := x5) (lv' := [(3, .int x5), (2, .int x4), (0, .ref (adr ad a 0)), (1, .ref (adr ad a q1))]) hx hb dX6_sumAtHand_28 hl (k := 3) rfl (by rw [ex5]; rfl) (by decide) rfl (fun ls hl => ?_)
        refine lv_goto (tgt := 4) hx hb dX6_sumAtHand_31 (by decide) ?_
        exact ih4 _ _ _ _ _ hf hw (lv_sub hl [2, 3, 1, 0] rfl)
  unfold fX6_sumAtHand at hf
  refine lv_iconst (v := 0) hx hb dX6_sumAtHand_0 (by decide) ?_
  refine lv_istore_n (lv' := [(2, .int (0 : Int32)), (0, .ref (adr ad a 0)), (1, .ref (adr ad a q1))]) hx hb dX6_sumAtHand_1 rfl hl (by decide) rfl (fun ls hl => ?_)
  refine lv_iconst (v := 0) hx hb dX6_sumAtHand_2 (by decide) ?_
  refine lv_istore_n (lv' := [(3, .int (0 : Int32)), (2, .int (0 : Int32)), (0, .ref (adr ad a 0)), (1, .ref (adr ad a q1))]) hx hb dX6_sumAtHand_3 rfl hl (by decide) rfl (fun ls hl => ?_)
  exact L4 FU _ _ _ _ _ hf hw (lv_sub hl [2, 3, 1, 0] rfl)
def fX6_work_58 (p1 : Int32) (k5 : Tau → Int64 → Int32 → Option Tau) (τ : Tau) (x_2 : Int64) (x_4 : Int32) : Option Tau :=
 nm (x_4 + (1 : Int32)) (fun x8 =>
     k5 τ x_2 x8)
def fX6_work_5 (p1 : Int32) : Nat → Tau → Int64 → Int32 → Option Tau
  | 0, _, _, _ => none
  | n + 1, τ, x_2, x_4 =>
     (if (10 : Int32) ≤ x_4 then
     Option.bind (fX1_work τ x_2 (tI τ 0 7) (tI τ 0 5)) (fun r2 =>
     some r2)
     else
     (if x_4 < 0 ∨ 10 ≤ x_4.toNatClampNeg then none else
     nm (fX6_has p1 x_4) (fun r4 =>
     (if bI r4 = 0 then
     fX6_work_58 p1 (fX6_work_5 p1 n) τ x_2 x_4
     else
     (if tI τ (x_4.toNatClampNeg + 2) 4 = (-9 : Int32) then
     fX6_work_58 p1 (fX6_work_5 p1 n) τ x_2 x_4
     else
     nm (x_2 ||| ((1 : Int64) <<< ((tI τ (x_4.toNatClampNeg + 2) 4).toInt64 &&& 63))) (fun x7 =>
     fX6_work_58 p1 (fX6_work_5 p1 n) τ x7 x_4))))))
def fX6_work  (τ : Tau) (p1 : Int32) : Option Tau :=
 fX6_work_5 p1 FU τ (0 : Int64) (0 : Int32)
set_option maxHeartbeats 4000000 in
set_option maxRecDepth 100000 in
theorem c_X6_work (l : Launch) (D : va_G) (cA : Nat → ClassId) (st ad : Nat → Nat) (a : Nat)  (τ : Tau) (p1 : Int32) (R : Tau) (hf : fX6_work τ p1 = some R) : KE ΛX 29 D cA st ad l yX6_work cX6_work 6 none 5 124 [.ref (adr ad a 0), .int p1] a τ (none) R := by
  refine KE.of "KindSayings" rfl (by decide) (Nat.le_of_ble_eq_true rfl) (fun p e s m args below meth c A ls Rm Q hE hRm hQ hw hl => ?_)
  obtain ⟨hx, hb, hml, hown, hts, -⟩ := id hE
  have hl : lv_has ls 6 [(0, .ref (adr ad a 0)), (1, .int p1)] := hl
  have L5 : ∀ (n5 : Nat) (τ : Tau) (x_2 : Int64) (x_4 : Int32) (H : Heap) (locs : List Loc) (ls : Array Slot), fX6_work_5 p1 n5 τ x_2 x_4 = some R → Wd ΛX 29 D cA ad A s a τ H locs → lv_has ls 6 [(0, .ref (adr ad a 0)), (1, .int p1), (2, .long x_2), (4, .int x_4)] → W p l e Rm s m args below meth c H locs 0 0 Q (F0 m 5 ls []) := by
    intro n5
    induction n5 with
    | zero => intro τ x_2 x_4 H locs ls hf hw hl; exact absurd hf (by rw [fX6_work_5]; simp)
    | succ n5 ih5 =>
      have L58 : ∀ (τ : Tau) (x_2 : Int64) (x_4 : Int32) (H : Heap) (locs : List Loc) (ls : Array Slot), fX6_work_58 p1 (fX6_work_5 p1 n5) τ x_2 x_4 = some R → Wd ΛX 29 D cA ad A s a τ H locs → lv_has ls 6 [(0, .ref (adr ad a 0)), (1, .int p1), (2, .long x_2), (4, .int x_4)] → W p l e Rm s m args below meth c H locs 0 0 Q (F0 m 58 ls []) := by
        intro τ x_2 x_4 H locs ls hf hw hl
        unfold fX6_work_58 at hf
        obtain ⟨x8, ex8, hf⟩ := ks_nm hf
        refine lv_iinc (v := x8) (lv' := [(4, .int x8), (0, .ref (adr ad a 0)), (1, .int p1), (2, .long x_2)]) hx hb dX6_work_58 hl (k := 3) rfl (by rw [ex8]; rfl) (by decide) rfl (fun ls hl => ?_)
        refine lv_goto (tgt := 5) hx hb dX6_work_61 (by decide) ?_
        exact ih5 _ _ _ _ _ _ hf hw (lv_sub hl [1, 2, 3, 0] rfl)
      intro τ x_2 x_4 H locs ls hf hw hl
      rw [fX6_work_5] at hf
      refine lv_iload hx hb dX6_work_5 (lv_at hl 3 rfl) ?_
      refine lv_aload_n hx hb dX6_work_7 rfl (lv_at hl 0 rfl) ?_
      refine ks_getR hE hw 0 0 ltX_0 lyX_0 rfl fd_X6_11 dX6_work_8 ?_
      refine ks_alen hE hw 1 ltX_1 lyX_1 rfl 10 rfl dX6_work_11 ?_
      refine lv_icmp_ge (tgt := 64) hx hb dX6_work_12 (by decide) (fun c1 => ?_) (fun c1 => ?_)
      · have hf := (if_pos c1).symm.trans hf
        refine lv_aload_n hx hb dX6_work_64 rfl (lv_at hl 0 rfl) ?_
        refine ks_getR hE hw 0 4 ltX_0 lyX_0 rfl fd_X6_36 dX6_work_65 ?_
        refine lv_lload_n hx hb dX6_work_68 rfl (lv_at hl 2 rfl) ?_
        refine lv_aload_n hx hb dX6_work_69 rfl (lv_at hl 0 rfl) ?_
        refine ks_getI hE hw 0 7 ltX_0 lyX_0 rfl fd_X6_47 dX6_work_70 ?_
        refine lv_aload_n hx hb dX6_work_73 rfl (lv_at hl 0 rfl) ?_
        refine ks_getI hE hw 0 5 ltX_0 lyX_0 rfl fd_X6_40 dX6_work_74 ?_
        obtain ⟨r2, er2, hf⟩ := ks_bind hf
        refine ke_V hE hw hl.1 cl_X6_233 27 ltX_27 lyX_27 rfl [.long x_2, .int (tI τ 0 7), .int (tI τ 0 5)] (c_X1_work l D cA st ad a _ _ _ _ _ er2) rfl (ke_room hRm rfl rfl) ke_cnt (Nat.le_of_ble_eq_true rfl) rfl dX6_work_77 (fun H locs hw => ?_)
        refine W.eq (g2 := F0 m 80 ls ([])) rfl ?_
        replace hf := Option.some.inj hf
        subst hf
        exact ke_vret hE hw hQ dX6_work_80 rfl
      · have hf := (if_neg c1).symm.trans hf
        refine lv_aload_n hx hb dX6_work_15 rfl (lv_at hl 0 rfl) ?_
        refine ks_getR hE hw 0 0 ltX_0 lyX_0 rfl fd_X6_11 dX6_work_16 ?_
        refine lv_iload hx hb dX6_work_19 (lv_at hl 3 rfl) ?_
        obtain ⟨b3, hf⟩ := ks_ok hf
        refine ks_aald hE hw 1 ltX_1 lyX_1 b3 dX6_work_21 ?_
        refine lv_astore (lv' := [(5, .ref (adr ad a (x_4.toNatClampNeg + 2))), (0, .ref (adr ad a 0)), (1, .int p1), (2, .long x_2), (4, .int x_4)]) hx hb dX6_work_22 hl (by decide) rfl (fun ls hl => ?_)
        refine lv_iload_n hx hb dX6_work_24 rfl (lv_at hl 2 rfl) ?_
        refine lv_iload hx hb dX6_work_25 (lv_at hl 4 rfl) ?_
        obtain ⟨r4, er4, hf⟩ := ks_nm hf
        refine ke_S hE hw hl.1 cl_X6_158 [.int p1, .int x_4] (c_X6_has l D cA st ad a _ _ _ _ er4.symm) rfl (ke_room hRm rfl rfl) ke_cnt (Nat.le_of_ble_eq_true rfl) rfl dX6_work_27 (fun H locs hw => ?_)
        refine W.eq (g2 := F0 m 30 ls (.int (bI r4) :: [])) rfl ?_
        refine lv_if_eq (tgt := 58) hx hb dX6_work_30 (by decide) (fun c5 => ?_) (fun c5 => ?_)
        · have hf := (if_pos c5).symm.trans hf
          exact L58 _ _ _ _ _ _ hf hw (lv_sub hl [1, 2, 3, 4] rfl)
        · have hf := (if_neg c5).symm.trans hf
          refine lv_aload hx hb dX6_work_33 (lv_at hl 0 rfl) ?_
          refine lv_ifnull hx hb dX6_work_35 ?_
          refine lv_aload hx hb dX6_work_38 (lv_at hl 0 rfl) ?_
          refine ks_getI hE hw (x_4.toNatClampNeg + 2) 4 (say_lt (say_at b3)) (say_lay (say_at b3)) rfl fd_X6_131 dX6_work_40 ?_
          refine lv_bipush (v := (-9)) hx hb dX6_work_43 (by decide) ?_
          refine lv_icmp_eq (tgt := 58) hx hb dX6_work_45 (by decide) (fun c6 => ?_) (fun c6 => ?_)
          · have hf := (if_pos c6).symm.trans hf
            exact L58 _ _ _ _ _ _ hf hw (lv_sub hl [1, 2, 3, 4] rfl)
          · have hf := (if_neg c6).symm.trans hf
            refine lv_lload_n hx hb dX6_work_48 rfl (lv_at hl 3 rfl) ?_
            refine lv_lconst (v := 1) hx hb dX6_work_49 (by decide) ?_
            refine lv_aload hx hb dX6_work_50 (lv_at hl 0 rfl) ?_
            refine ks_getI hE hw (x_4.toNatClampNeg + 2) 4 (say_lt (say_at b3)) (say_lay (say_at b3)) rfl fd_X6_131 dX6_work_52 ?_
            refine lv_lshl hx hb dX6_work_55 rfl ?_
            refine lv_lor hx hb dX6_work_56 ?_
            obtain ⟨x7, ex7, hf⟩ := ks_nm hf
            refine W.eq (g2 := F0 m 57 ls (.long x7 :: [])) (by rw [ex7]) ?_
            refine lv_lstore_n (lv' := [(2, .long x7), (5, .ref (adr ad a (x_4.toNatClampNeg + 2))), (0, .ref (adr ad a 0)), (1, .int p1), (4, .int x_4)]) hx hb dX6_work_57 rfl hl (by decide) rfl (fun ls hl => ?_)
            exact L58 _ _ _ _ _ _ hf hw (lv_sub hl [2, 3, 0, 4] rfl)
  unfold fX6_work at hf
  refine lv_lconst (v := 0) hx hb dX6_work_0 (by decide) ?_
  refine lv_lstore_n (lv' := [(2, .long (0 : Int64)), (0, .ref (adr ad a 0)), (1, .int p1)]) hx hb dX6_work_1 rfl hl (by decide) rfl (fun ls hl => ?_)
  refine lv_iconst (v := 0) hx hb dX6_work_2 (by decide) ?_
  refine lv_istore (lv' := [(4, .int (0 : Int32)), (2, .long (0 : Int64)), (0, .ref (adr ad a 0)), (1, .int p1)]) hx hb dX6_work_3 hl (by decide) rfl (fun ls hl => ?_)
  exact L5 FU _ _ _ _ _ _ hf hw (lv_sub hl [2, 3, 1, 0] rfl)
def fX6_plainSayings_39 (τ : Tau) (k4 : Int32 → Int32 → Option Int32) (x_1 : Int32) (x_2 : Int32) : Option Int32 :=
 nm (x_2 + (1 : Int32)) (fun x5 =>
     k4 x_1 x5)
def fX6_plainSayings_4 (τ : Tau) : Nat → Int32 → Int32 → Option Int32
  | 0, _, _ => none
  | n + 1, x_1, x_2 =>
     (if (10 : Int32) ≤ x_2 then
     some x_1
     else
     (if x_2 < 0 ∨ 10 ≤ x_2.toNatClampNeg then none else
     (if tI τ (x_2.toNatClampNeg + 2) 4 = (-9 : Int32) then
     fX6_plainSayings_39 τ (fX6_plainSayings_4 τ n) x_1 x_2
     else
     nm (x_1 ||| ((1 : Int32) <<< (x_2 &&& 31))) (fun x4 =>
     fX6_plainSayings_39 τ (fX6_plainSayings_4 τ n) x4 x_2))))
def fX6_plainSayings (τ : Tau) : Option Int32 :=
 fX6_plainSayings_4 τ FU (0 : Int32) (0 : Int32)
set_option maxHeartbeats 4000000 in
set_option maxRecDepth 100000 in
theorem c_X6_plainSayings (l : Launch) (D : va_G) (cA : Nat → ClassId) (st ad : Nat → Nat) (a : Nat)  (τ : Tau) (R : Int32) (hf : fX6_plainSayings τ = some R) : KE ΛX 29 D cA st ad l yX6_plainSayings cX6_plainSayings 4 (some .int) 0 0 [.ref (adr ad a 0)] a τ (some (.int R)) τ := by
  refine KE.of "KindSayings" rfl (by decide) (Nat.le_of_ble_eq_true rfl) (fun p e s m args below meth c A ls Rm Q hE hRm hQ hw hl => ?_)
  obtain ⟨hx, hb, hml, hown, hts, -⟩ := id hE
  have hl : lv_has ls 4 [(0, .ref (adr ad a 0))] := hl
  have L4 : ∀ (n4 : Nat) (x_1 : Int32) (x_2 : Int32) (H : Heap) (locs : List Loc) (ls : Array Slot), fX6_plainSayings_4 τ n4 x_1 x_2 = some R → Wd ΛX 29 D cA ad A s a τ H locs → lv_has ls 4 [(0, .ref (adr ad a 0)), (1, .int x_1), (2, .int x_2)] → W p l e Rm s m args below meth c H locs 0 0 Q (F0 m 4 ls []) := by
    intro n4
    induction n4 with
    | zero => intro x_1 x_2 H locs ls hf hw hl; exact absurd hf (by rw [fX6_plainSayings_4]; simp)
    | succ n4 ih4 =>
      have L39 : ∀ (x_1 : Int32) (x_2 : Int32) (H : Heap) (locs : List Loc) (ls : Array Slot), fX6_plainSayings_39 τ (fX6_plainSayings_4 τ n4) x_1 x_2 = some R → Wd ΛX 29 D cA ad A s a τ H locs → lv_has ls 4 [(0, .ref (adr ad a 0)), (1, .int x_1), (2, .int x_2)] → W p l e Rm s m args below meth c H locs 0 0 Q (F0 m 39 ls []) := by
        intro x_1 x_2 H locs ls hf hw hl
        unfold fX6_plainSayings_39 at hf
        obtain ⟨x5, ex5, hf⟩ := ks_nm hf
        refine lv_iinc (v := x5) (lv' := [(2, .int x5), (0, .ref (adr ad a 0)), (1, .int x_1)]) hx hb dX6_plainSayings_39 hl (k := 2) rfl (by rw [ex5]; rfl) (by decide) rfl (fun ls hl => ?_)
        refine lv_goto (tgt := 4) hx hb dX6_plainSayings_42 (by decide) ?_
        exact ih4 _ _ _ _ _ hf hw (lv_sub hl [1, 2, 0] rfl)
      intro x_1 x_2 H locs ls hf hw hl
      rw [fX6_plainSayings_4] at hf
      refine lv_iload_n hx hb dX6_plainSayings_4 rfl (lv_at hl 2 rfl) ?_
      refine lv_aload_n hx hb dX6_plainSayings_5 rfl (lv_at hl 0 rfl) ?_
      refine ks_getR hE hw 0 0 ltX_0 lyX_0 rfl fd_X6_11 dX6_plainSayings_6 ?_
      refine ks_alen hE hw 1 ltX_1 lyX_1 rfl 10 rfl dX6_plainSayings_9 ?_
      refine lv_icmp_ge (tgt := 45) hx hb dX6_plainSayings_10 (by decide) (fun c1 => ?_) (fun c1 => ?_)
      · have hf := (if_pos c1).symm.trans hf
        refine lv_iload_n hx hb dX6_plainSayings_45 rfl (lv_at hl 1 rfl) ?_
        replace hf := Option.some.inj hf
        subst hf
        exact ke_iret hE hw hQ dX6_plainSayings_46 rfl rfl
      · have hf := (if_neg c1).symm.trans hf
        refine lv_aload_n hx hb dX6_plainSayings_13 rfl (lv_at hl 0 rfl) ?_
        refine ks_getR hE hw 0 0 ltX_0 lyX_0 rfl fd_X6_11 dX6_plainSayings_14 ?_
        refine lv_iload_n hx hb dX6_plainSayings_17 rfl (lv_at hl 2 rfl) ?_
        obtain ⟨b2, hf⟩ := ks_ok hf
        refine ks_aald hE hw 1 ltX_1 lyX_1 b2 dX6_plainSayings_18 ?_
        refine lv_astore_n (lv' := [(3, .ref (adr ad a (x_2.toNatClampNeg + 2))), (0, .ref (adr ad a 0)), (1, .int x_1), (2, .int x_2)]) hx hb dX6_plainSayings_19 rfl hl (by decide) rfl (fun ls hl => ?_)
        refine lv_aload_n hx hb dX6_plainSayings_20 rfl (lv_at hl 0 rfl) ?_
        refine lv_ifnull hx hb dX6_plainSayings_21 ?_
        refine lv_aload_n hx hb dX6_plainSayings_24 rfl (lv_at hl 0 rfl) ?_
        refine ks_getI hE hw (x_2.toNatClampNeg + 2) 4 (say_lt (say_at b2)) (say_lay (say_at b2)) rfl fd_X6_131 dX6_plainSayings_25 ?_
        refine lv_bipush (v := (-9)) hx hb dX6_plainSayings_28 (by decide) ?_
        refine lv_icmp_eq (tgt := 39) hx hb dX6_plainSayings_30 (by decide) (fun c3 => ?_) (fun c3 => ?_)
        · have hf := (if_pos c3).symm.trans hf
          exact L39 _ _ _ _ _ hf hw (lv_sub hl [1, 2, 3] rfl)
        · have hf := (if_neg c3).symm.trans hf
          refine lv_iload_n hx hb dX6_plainSayings_33 rfl (lv_at hl 2 rfl) ?_
          refine lv_iconst (v := 1) hx hb dX6_plainSayings_34 (by decide) ?_
          refine lv_iload_n hx hb dX6_plainSayings_35 rfl (lv_at hl 3 rfl) ?_
          refine lv_ishl hx hb dX6_plainSayings_36 ?_
          refine lv_ior hx hb dX6_plainSayings_37 ?_
          obtain ⟨x4, ex4, hf⟩ := ks_nm hf
          refine W.eq (g2 := F0 m 38 ls (.int x4 :: [])) (by rw [ex4]) ?_
          refine lv_istore_n (lv' := [(1, .int x4), (3, .ref (adr ad a (x_2.toNatClampNeg + 2))), (0, .ref (adr ad a 0)), (2, .int x_2)]) hx hb dX6_plainSayings_38 rfl hl (by decide) rfl (fun ls hl => ?_)
          exact L39 _ _ _ _ _ hf hw (lv_sub hl [2, 0, 3] rfl)
  unfold fX6_plainSayings at hf
  refine lv_iconst (v := 0) hx hb dX6_plainSayings_0 (by decide) ?_
  refine lv_istore_n (lv' := [(1, .int (0 : Int32)), (0, .ref (adr ad a 0))]) hx hb dX6_plainSayings_1 rfl hl (by decide) rfl (fun ls hl => ?_)
  refine lv_iconst (v := 0) hx hb dX6_plainSayings_2 (by decide) ?_
  refine lv_istore_n (lv' := [(2, .int (0 : Int32)), (1, .int (0 : Int32)), (0, .ref (adr ad a 0))]) hx hb dX6_plainSayings_3 rfl hl (by decide) rfl (fun ls hl => ?_)
  exact L4 FU _ _ _ _ _ hf hw (lv_sub hl [2, 1, 0] rfl)
def fX6_everyFact_24 (τ : Tau) (k4 : Int64 → Int32 → Option Int64) (k12 : Int64 → Int32 → Int32 → Option Int64) : Nat → Int64 → Int32 → Int32 → Int32 → Option Int64
  | 0, _, _, _, _ => none
  | n + 1, x_1, x_3, x_4, x_5 =>
     (if tI τ 0 5 ≤ x_5 then
     nm (x_4 + (1 : Int32)) (fun x5 =>
     k12 x_1 x_3 x5)
     else
     nm (fX6_factNumber x_3 x_4 x_5) (fun r6 =>
     nm (x_1 ||| ((1 : Int64) <<< (r6.toInt64 &&& 63))) (fun x7 =>
     nm (x_5 + (1 : Int32)) (fun x8 =>
     fX6_everyFact_24 τ k4 k12 n x7 x_3 x_4 x8))))
def fX6_everyFact_12 (τ : Tau) (k4 : Int64 → Int32 → Option Int64) : Nat → Int64 → Int32 → Int32 → Option Int64
  | 0, _, _, _ => none
  | n + 1, x_1, x_3, x_4 =>
     (if tI τ 0 5 ≤ x_4 then
     nm (x_3 + (1 : Int32)) (fun x3 =>
     k4 x_1 x3)
     else
     fX6_everyFact_24 τ k4 (fX6_everyFact_12 τ k4 n) FU x_1 x_3 x_4 (0 : Int32))
def fX6_everyFact_4 (τ : Tau) : Nat → Int64 → Int32 → Option Int64
  | 0, _, _ => none
  | n + 1, x_1, x_3 =>
     (if (3 : Int32) < x_3 then
     some x_1
     else
     fX6_everyFact_12 τ (fX6_everyFact_4 τ n) FU x_1 x_3 (0 : Int32))
def fX6_everyFact (τ : Tau) : Option Int64 :=
 fX6_everyFact_4 τ FU (0 : Int64) (0 : Int32)
set_option maxHeartbeats 4000000 in
set_option maxRecDepth 100000 in
theorem c_X6_everyFact (l : Launch) (D : va_G) (cA : Nat → ClassId) (st ad : Nat → Nat) (a : Nat)  (τ : Tau) (R : Int64) (hf : fX6_everyFact τ = some R) : KE ΛX 29 D cA st ad l yX6_everyFact cX6_everyFact 6 (some .long) 1 22 [.ref (adr ad a 0)] a τ (some (.long R)) τ := by
  refine KE.of "KindSayings" rfl (by decide) (Nat.le_of_ble_eq_true rfl) (fun p e s m args below meth c A ls Rm Q hE hRm hQ hw hl => ?_)
  obtain ⟨hx, hb, hml, hown, hts, -⟩ := id hE
  have hl : lv_has ls 6 [(0, .ref (adr ad a 0))] := hl
  have L4 : ∀ (n4 : Nat) (x_1 : Int64) (x_3 : Int32) (H : Heap) (locs : List Loc) (ls : Array Slot), fX6_everyFact_4 τ n4 x_1 x_3 = some R → Wd ΛX 29 D cA ad A s a τ H locs → lv_has ls 6 [(0, .ref (adr ad a 0)), (1, .long x_1), (3, .int x_3)] → W p l e Rm s m args below meth c H locs 0 0 Q (F0 m 4 ls []) := by
    intro n4
    induction n4 with
    | zero => intro x_1 x_3 H locs ls hf hw hl; exact absurd hf (by rw [fX6_everyFact_4]; simp)
    | succ n4 ih4 =>
      have L12 : ∀ (n12 : Nat) (x_1 : Int64) (x_3 : Int32) (x_4 : Int32) (H : Heap) (locs : List Loc) (ls : Array Slot), fX6_everyFact_12 τ (fX6_everyFact_4 τ n4) n12 x_1 x_3 x_4 = some R → Wd ΛX 29 D cA ad A s a τ H locs → lv_has ls 6 [(0, .ref (adr ad a 0)), (1, .long x_1), (3, .int x_3), (4, .int x_4)] → W p l e Rm s m args below meth c H locs 0 0 Q (F0 m 12 ls []) := by
        intro n12
        induction n12 with
        | zero => intro x_1 x_3 x_4 H locs ls hf hw hl; exact absurd hf (by rw [fX6_everyFact_12]; simp)
        | succ n12 ih12 =>
          have L24 : ∀ (n24 : Nat) (x_1 : Int64) (x_3 : Int32) (x_4 : Int32) (x_5 : Int32) (H : Heap) (locs : List Loc) (ls : Array Slot), fX6_everyFact_24 τ (fX6_everyFact_4 τ n4) (fX6_everyFact_12 τ (fX6_everyFact_4 τ n4) n12) n24 x_1 x_3 x_4 x_5 = some R → Wd ΛX 29 D cA ad A s a τ H locs → lv_has ls 6 [(0, .ref (adr ad a 0)), (1, .long x_1), (3, .int x_3), (4, .int x_4), (5, .int x_5)] → W p l e Rm s m args below meth c H locs 0 0 Q (F0 m 24 ls []) := by
            intro n24
            induction n24 with
            | zero => intro x_1 x_3 x_4 x_5 H locs ls hf hw hl; exact absurd hf (by rw [fX6_everyFact_24]; simp)
            | succ n24 ih24 =>
              intro x_1 x_3 x_4 x_5 H locs ls hf hw hl
              rw [fX6_everyFact_24] at hf
              refine lv_iload hx hb dX6_everyFact_24 (lv_at hl 4 rfl) ?_
              refine lv_aload_n hx hb dX6_everyFact_26 rfl (lv_at hl 0 rfl) ?_
              refine ks_getI hE hw 0 5 ltX_0 lyX_0 rfl fd_X6_40 dX6_everyFact_27 ?_
              refine lv_icmp_ge (tgt := 52) hx hb dX6_everyFact_30 (by decide) (fun c4 => ?_) (fun c4 => ?_)
              · have hf := (if_pos c4).symm.trans hf
                obtain ⟨x5, ex5, hf⟩ := ks_nm hf
                refine lv_iinc (v := x5) (lv' := [(4, .int x5), (0, .ref (adr ad a 0)), (1, .long x_1), (3, .int x_3), (5, .int x_5)]) hx hb dX6_everyFact_52 hl (k := 3) rfl (by rw [ex5]; rfl) (by decide) rfl (fun ls hl => ?_)
                refine lv_goto (tgt := 12) hx hb dX6_everyFact_55 (by decide) ?_
                exact ih12 _ _ _ _ _ _ hf hw (lv_sub hl [1, 2, 3, 0] rfl)
              · have hf := (if_neg c4).symm.trans hf
                refine lv_lload_n hx hb dX6_everyFact_33 rfl (lv_at hl 1 rfl) ?_
                refine lv_lconst (v := 1) hx hb dX6_everyFact_34 (by decide) ?_
                refine lv_iload_n hx hb dX6_everyFact_35 rfl (lv_at hl 2 rfl) ?_
                refine lv_iload hx hb dX6_everyFact_36 (lv_at hl 3 rfl) ?_
                refine lv_iload hx hb dX6_everyFact_38 (lv_at hl 4 rfl) ?_
                obtain ⟨r6, er6, hf⟩ := ks_nm hf
                refine ke_S hE hw hl.1 cl_X6_185 [.int x_3, .int x_4, .int x_5] (c_X6_factNumber l D cA st ad a _ _ _ _ _ er6.symm) rfl (ke_room hRm rfl rfl) ke_cnt (Nat.le_of_ble_eq_true rfl) rfl dX6_everyFact_40 (fun H locs hw => ?_)
                refine W.eq (g2 := F0 m 43 ls (.int r6 :: .long (1 : Int64) :: .long x_1 :: [])) rfl ?_
                refine lv_lshl hx hb dX6_everyFact_43 rfl ?_
                refine lv_lor hx hb dX6_everyFact_44 ?_
                obtain ⟨x7, ex7, hf⟩ := ks_nm hf
                refine W.eq (g2 := F0 m 45 ls (.long x7 :: [])) (by rw [ex7]) ?_
                refine lv_lstore_n (lv' := [(1, .long x7), (0, .ref (adr ad a 0)), (3, .int x_3), (4, .int x_4), (5, .int x_5)]) hx hb dX6_everyFact_45 rfl hl (by decide) rfl (fun ls hl => ?_)
                obtain ⟨x8, ex8, hf⟩ := ks_nm hf
                refine lv_iinc (v := x8) (lv' := [(5, .int x8), (1, .long x7), (0, .ref (adr ad a 0)), (3, .int x_3), (4, .int x_4)]) hx hb dX6_everyFact_46 hl (k := 4) rfl (by rw [ex8]; rfl) (by decide) rfl (fun ls hl => ?_)
                refine lv_goto (tgt := 24) hx hb dX6_everyFact_49 (by decide) ?_
                exact ih24 _ _ _ _ _ _ _ hf hw (lv_sub hl [2, 1, 3, 4, 0] rfl)
          intro x_1 x_3 x_4 H locs ls hf hw hl
          rw [fX6_everyFact_12] at hf
          refine lv_iload hx hb dX6_everyFact_12 (lv_at hl 3 rfl) ?_
          refine lv_aload_n hx hb dX6_everyFact_14 rfl (lv_at hl 0 rfl) ?_
          refine ks_getI hE hw 0 5 ltX_0 lyX_0 rfl fd_X6_40 dX6_everyFact_15 ?_
          refine lv_icmp_ge (tgt := 58) hx hb dX6_everyFact_18 (by decide) (fun c2 => ?_) (fun c2 => ?_)
          · have hf := (if_pos c2).symm.trans hf
            obtain ⟨x3, ex3, hf⟩ := ks_nm hf
            refine lv_iinc (v := x3) (lv' := [(3, .int x3), (0, .ref (adr ad a 0)), (1, .long x_1), (4, .int x_4)]) hx hb dX6_everyFact_58 hl (k := 2) rfl (by rw [ex3]; rfl) (by decide) rfl (fun ls hl => ?_)
            refine lv_goto (tgt := 4) hx hb dX6_everyFact_61 (by decide) ?_
            exact ih4 _ _ _ _ _ hf hw (lv_sub hl [1, 2, 0] rfl)
          · have hf := (if_neg c2).symm.trans hf
            refine lv_iconst (v := 0) hx hb dX6_everyFact_21 (by decide) ?_
            refine lv_istore (lv' := [(5, .int (0 : Int32)), (0, .ref (adr ad a 0)), (1, .long x_1), (3, .int x_3), (4, .int x_4)]) hx hb dX6_everyFact_22 hl (by decide) rfl (fun ls hl => ?_)
            exact L24 FU _ _ _ _ _ _ _ hf hw (lv_sub hl [1, 2, 3, 4, 0] rfl)
      intro x_1 x_3 H locs ls hf hw hl
      rw [fX6_everyFact_4] at hf
      refine lv_iload_n hx hb dX6_everyFact_4 rfl (lv_at hl 2 rfl) ?_
      refine lv_iconst (v := 3) hx hb dX6_everyFact_5 (by decide) ?_
      refine lv_icmp_gt (tgt := 64) hx hb dX6_everyFact_6 (by decide) (fun c1 => ?_) (fun c1 => ?_)
      · have hf := (if_pos c1).symm.trans hf
        refine lv_lload_n hx hb dX6_everyFact_64 rfl (lv_at hl 1 rfl) ?_
        replace hf := Option.some.inj hf
        subst hf
        exact ke_lret hE hw hQ dX6_everyFact_65 rfl rfl
      · have hf := (if_neg c1).symm.trans hf
        refine lv_iconst (v := 0) hx hb dX6_everyFact_9 (by decide) ?_
        refine lv_istore (lv' := [(4, .int (0 : Int32)), (0, .ref (adr ad a 0)), (1, .long x_1), (3, .int x_3)]) hx hb dX6_everyFact_10 hl (by decide) rfl (fun ls hl => ?_)
        exact L12 FU _ _ _ _ _ _ hf hw (lv_sub hl [1, 2, 3, 0] rfl)
  unfold fX6_everyFact at hf
  refine lv_lconst (v := 0) hx hb dX6_everyFact_0 (by decide) ?_
  refine lv_lstore_n (lv' := [(1, .long (0 : Int64)), (0, .ref (adr ad a 0))]) hx hb dX6_everyFact_1 rfl hl (by decide) rfl (fun ls hl => ?_)
  refine lv_iconst (v := 0) hx hb dX6_everyFact_2 (by decide) ?_
  refine lv_istore_n (lv' := [(3, .int (0 : Int32)), (1, .long (0 : Int64)), (0, .ref (adr ad a 0))]) hx hb dX6_everyFact_3 rfl hl (by decide) rfl (fun ls hl => ?_)
  exact L4 FU _ _ _ _ _ hf hw (lv_sub hl [2, 1, 0] rfl)
def fX6_startOver_38  : Nat → Tau → Int32 → Option Tau
  | 0, _, _ => none
  | n + 1, τ, x_1 =>
     (if (16 : Int32) ≤ x_1 then
     nm (fX6_sortCount τ) (fun r6 =>
     Option.bind (fX0_shape τ r6 (tI τ 0 6)) (fun r7 =>
     some r7))
     else
     (if x_1 < 0 ∨ 16 ≤ x_1.toNatClampNeg then none else
     nm (sA τ 12 x_1.toNatClampNeg (0 : Int32)) (fun t9 =>
     nm (x_1 + (1 : Int32)) (fun x10 =>
     fX6_startOver_38 n t9 x10))))
def fX6_startOver_30 (k2 : Tau → Int32 → Option Tau) (τ : Tau) (x_1 : Int32) : Option Tau :=
 nm (x_1 + (1 : Int32)) (fun x4 =>
     k2 τ x4)
def fX6_startOver_2  : Nat → Tau → Int32 → Option Tau
  | 0, _, _ => none
  | n + 1, τ, x_1 =>
     (if (10 : Int32) ≤ x_1 then
     fX6_startOver_38 FU τ (0 : Int32)
     else
     (if x_1 < 0 ∨ 10 ≤ x_1.toNatClampNeg then none else
     Option.bind (fX3_becomeFirst (x_1.toNatClampNeg + 2) τ (tI τ 0 5)) (fun r3 =>
     fX6_startOver_30 (fX6_startOver_2 n) r3 x_1)))
def fX6_startOver  (τ : Tau) : Option Tau :=
 fX6_startOver_2 FU τ (0 : Int32)
set_option maxHeartbeats 4000000 in
set_option maxRecDepth 100000 in
theorem c_X6_startOver (l : Launch) (D : va_G) (cA : Nat → ClassId) (st ad : Nat → Nat) (a : Nat)  (τ : Tau) (R : Tau) (hf : fX6_startOver τ = some R) : KE ΛX 29 D cA st ad l yX6_startOver cX6_startOver 3 none 3 65 [.ref (adr ad a 0)] a τ (none) R := by
  refine KE.of "KindSayings" rfl (by decide) (Nat.le_of_ble_eq_true rfl) (fun p e s m args below meth c A ls Rm Q hE hRm hQ hw hl => ?_)
  obtain ⟨hx, hb, hml, hown, hts, -⟩ := id hE
  have hl : lv_has ls 3 [(0, .ref (adr ad a 0))] := hl
  have L38 : ∀ (n38 : Nat) (τ : Tau) (x_1 : Int32) (H : Heap) (locs : List Loc) (ls : Array Slot), fX6_startOver_38 n38 τ x_1 = some R → Wd ΛX 29 D cA ad A s a τ H locs → lv_has ls 3 [(0, .ref (adr ad a 0)), (1, .int x_1)] → W p l e Rm s m args below meth c H locs 0 0 Q (F0 m 38 ls []) := by
    intro n38
    induction n38 with
    | zero => intro τ x_1 H locs ls hf hw hl; exact absurd hf (by rw [fX6_startOver_38]; simp)
    | succ n38 ih38 =>
      intro τ x_1 H locs ls hf hw hl
      rw [fX6_startOver_38] at hf
      refine lv_iload_n hx hb dX6_startOver_38 rfl (lv_at hl 1 rfl) ?_
      refine lv_aload_n hx hb dX6_startOver_39 rfl (lv_at hl 0 rfl) ?_
      refine ks_getR hE hw 0 1 ltX_0 lyX_0 rfl fd_X6_15 dX6_startOver_40 ?_
      refine ks_alen hE hw 12 ltX_12 lyX_12 rfl 16 rfl dX6_startOver_43 ?_
      refine lv_icmp_ge (tgt := 60) hx hb dX6_startOver_44 (by decide) (fun c5 => ?_) (fun c5 => ?_)
      · have hf := (if_pos c5).symm.trans hf
        refine lv_aload_n hx hb dX6_startOver_60 rfl (lv_at hl 0 rfl) ?_
        refine ks_getR hE hw 0 3 ltX_0 lyX_0 rfl fd_X6_29 dX6_startOver_61 ?_
        refine lv_aload_n hx hb dX6_startOver_64 rfl (lv_at hl 0 rfl) ?_
        obtain ⟨r6, er6, hf⟩ := ks_nm hf
        refine ke_V hE hw hl.1 cl_X6_54 0 ltX_0 lyX_0 rfl [] (c_X6_sortCount l D cA st ad a _ _ er6.symm) rfl (ke_room hRm rfl rfl) ke_cnt (Nat.le_of_ble_eq_true rfl) rfl dX6_startOver_65 (fun H locs hw => ?_)
        refine W.eq (g2 := F0 m 68 ls (.int r6 :: .ref (adr ad a 17) :: [])) rfl ?_
        refine lv_aload_n hx hb dX6_startOver_68 rfl (lv_at hl 0 rfl) ?_
        refine ks_getI hE hw 0 6 ltX_0 lyX_0 rfl fd_X6_44 dX6_startOver_69 ?_
        obtain ⟨r7, er7, hf⟩ := ks_bind hf
        refine ke_V hE hw hl.1 cl_X6_58 17 ltX_17 lyX_17 rfl [.int r6, .int (tI τ 0 6)] (c_X0_shape l D cA st ad a _ _ _ _ er7) rfl (ke_room hRm rfl rfl) ke_cnt (Nat.le_of_ble_eq_true rfl) rfl dX6_startOver_72 (fun H locs hw => ?_)
        refine W.eq (g2 := F0 m 75 ls ([])) rfl ?_
        replace hf := Option.some.inj hf
        subst hf
        exact ke_vret hE hw hQ dX6_startOver_75 rfl
      · have hf := (if_neg c5).symm.trans hf
        refine lv_aload_n hx hb dX6_startOver_47 rfl (lv_at hl 0 rfl) ?_
        refine ks_getR hE hw 0 1 ltX_0 lyX_0 rfl fd_X6_15 dX6_startOver_48 ?_
        refine lv_iload_n hx hb dX6_startOver_51 rfl (lv_at hl 1 rfl) ?_
        refine lv_iconst (v := 0) hx hb dX6_startOver_52 (by decide) ?_
        obtain ⟨b8, hf⟩ := ks_ok hf
        obtain ⟨t9, et9, hf⟩ := ks_nm hf
        refine ks_iast hE hw 12 ltX_12 lyX_12 b8 dX6_startOver_53 (fun H locs hw => ?_)
        rw [← et9] at hw
        obtain ⟨x10, ex10, hf⟩ := ks_nm hf
        refine lv_iinc (v := x10) (lv' := [(1, .int x10), (0, .ref (adr ad a 0))]) hx hb dX6_startOver_54 hl (k := 1) rfl (by rw [ex10]; rfl) (by decide) rfl (fun ls hl => ?_)
        refine lv_goto (tgt := 38) hx hb dX6_startOver_57 (by decide) ?_
        exact ih38 _ _ _ _ _ hf hw (lv_sub hl [1, 0] rfl)
  have L2 : ∀ (n2 : Nat) (τ : Tau) (x_1 : Int32) (H : Heap) (locs : List Loc) (ls : Array Slot), fX6_startOver_2 n2 τ x_1 = some R → Wd ΛX 29 D cA ad A s a τ H locs → lv_has ls 3 [(0, .ref (adr ad a 0)), (1, .int x_1)] → W p l e Rm s m args below meth c H locs 0 0 Q (F0 m 2 ls []) := by
    intro n2
    induction n2 with
    | zero => intro τ x_1 H locs ls hf hw hl; exact absurd hf (by rw [fX6_startOver_2]; simp)
    | succ n2 ih2 =>
      have L30 : ∀ (τ : Tau) (x_1 : Int32) (H : Heap) (locs : List Loc) (ls : Array Slot), fX6_startOver_30 (fX6_startOver_2 n2) τ x_1 = some R → Wd ΛX 29 D cA ad A s a τ H locs → lv_has ls 3 [(0, .ref (adr ad a 0)), (1, .int x_1)] → W p l e Rm s m args below meth c H locs 0 0 Q (F0 m 30 ls []) := by
        intro τ x_1 H locs ls hf hw hl
        unfold fX6_startOver_30 at hf
        obtain ⟨x4, ex4, hf⟩ := ks_nm hf
        refine lv_iinc (v := x4) (lv' := [(1, .int x4), (0, .ref (adr ad a 0))]) hx hb dX6_startOver_30 hl (k := 1) rfl (by rw [ex4]; rfl) (by decide) rfl (fun ls hl => ?_)
        refine lv_goto (tgt := 2) hx hb dX6_startOver_33 (by decide) ?_
        exact ih2 _ _ _ _ _ hf hw (lv_sub hl [1, 0] rfl)
      intro τ x_1 H locs ls hf hw hl
      rw [fX6_startOver_2] at hf
      refine lv_iload_n hx hb dX6_startOver_2 rfl (lv_at hl 1 rfl) ?_
      refine lv_aload_n hx hb dX6_startOver_3 rfl (lv_at hl 0 rfl) ?_
      refine ks_getR hE hw 0 0 ltX_0 lyX_0 rfl fd_X6_11 dX6_startOver_4 ?_
      refine ks_alen hE hw 1 ltX_1 lyX_1 rfl 10 rfl dX6_startOver_7 ?_
      refine lv_icmp_ge (tgt := 36) hx hb dX6_startOver_8 (by decide) (fun c1 => ?_) (fun c1 => ?_)
      · have hf := (if_pos c1).symm.trans hf
        refine lv_iconst (v := 0) hx hb dX6_startOver_36 (by decide) ?_
        refine lv_istore_n (lv' := [(1, .int (0 : Int32)), (0, .ref (adr ad a 0))]) hx hb dX6_startOver_37 rfl hl (by decide) rfl (fun ls hl => ?_)
        exact L38 FU _ _ _ _ _ hf hw (lv_sub hl [1, 0] rfl)
      · have hf := (if_neg c1).symm.trans hf
        refine lv_aload_n hx hb dX6_startOver_11 rfl (lv_at hl 0 rfl) ?_
        refine ks_getR hE hw 0 0 ltX_0 lyX_0 rfl fd_X6_11 dX6_startOver_12 ?_
        refine lv_iload_n hx hb dX6_startOver_15 rfl (lv_at hl 1 rfl) ?_
        obtain ⟨b2, hf⟩ := ks_ok hf
        refine ks_aald hE hw 1 ltX_1 lyX_1 b2 dX6_startOver_16 ?_
        refine lv_astore_n (lv' := [(2, .ref (adr ad a (x_1.toNatClampNeg + 2))), (0, .ref (adr ad a 0)), (1, .int x_1)]) hx hb dX6_startOver_17 rfl hl (by decide) rfl (fun ls hl => ?_)
        refine lv_aload_n hx hb dX6_startOver_18 rfl (lv_at hl 0 rfl) ?_
        refine lv_ifnull hx hb dX6_startOver_19 ?_
        refine lv_aload_n hx hb dX6_startOver_22 rfl (lv_at hl 0 rfl) ?_
        refine lv_aload_n hx hb dX6_startOver_23 rfl (lv_at hl 1 rfl) ?_
        refine ks_getI hE hw 0 5 ltX_0 lyX_0 rfl fd_X6_40 dX6_startOver_24 ?_
        obtain ⟨r3, er3, hf⟩ := ks_bind hf
        refine ke_V hE hw hl.1 cl_X6_223 (x_1.toNatClampNeg + 2) (say_lt (say_at b2)) (say_lay (say_at b2)) rfl [.int (tI τ 0 5)] (c_X3_becomeFirst l D cA st ad a _ _ _ _ (say_at b2) er3) rfl (ke_room hRm rfl rfl) ke_cnt (Nat.le_of_ble_eq_true rfl) rfl dX6_startOver_27 (fun H locs hw => ?_)
        refine W.eq (g2 := F0 m 30 ls ([])) rfl ?_
        exact L30 _ _ _ _ _ hf hw (lv_sub hl [1, 2] rfl)
  unfold fX6_startOver at hf
  refine lv_iconst (v := 0) hx hb dX6_startOver_0 (by decide) ?_
  refine lv_istore_n (lv' := [(1, .int (0 : Int32)), (0, .ref (adr ad a 0))]) hx hb dX6_startOver_1 rfl hl (by decide) rfl (fun ls hl => ?_)
  exact L2 FU _ _ _ _ _ hf hw (lv_sub hl [1, 0] rfl)
def fX6_kinds  (τ : Tau) (p1 : Int32) : Option (Int32 × Tau) :=
 (if p1 < (1 : Int32) then
 some ((-1 : Int32), τ)
 else
 (if p1 ≤ (4 : Int32) then
 nm (tI τ 0 5) (fun x3 =>
 nm (sI τ 0 5 p1) (fun t4 =>
 Option.bind (fX6_startOver t4) (fun r5 =>
 some (x3, r5))))
 else
 some ((-1 : Int32), τ)))
set_option maxHeartbeats 4000000 in
set_option maxRecDepth 100000 in
theorem c_X6_kinds (l : Launch) (D : va_G) (cA : Nat → ClassId) (st ad : Nat → Nat) (a : Nat)  (τ : Tau) (p1 : Int32) (R : (Int32 × Tau)) (hf : fX6_kinds τ p1 = some R) : KE ΛX 29 D cA st ad l yX6_kinds cX6_kinds 3 (some .int) 4 87 [.ref (adr ad a 0), .int p1] a τ (some (.int R.1)) R.2 := by
  refine KE.of "KindSayings" rfl (by decide) (Nat.le_of_ble_eq_true rfl) (fun p e s m args below meth c A ls Rm Q hE hRm hQ hw hl => ?_)
  obtain ⟨hx, hb, hml, hown, hts, -⟩ := id hE
  have hl : lv_has ls 3 [(0, .ref (adr ad a 0)), (1, .int p1)] := hl
  unfold fX6_kinds at hf
  refine lv_iload_n hx hb dX6_kinds_0 rfl (lv_at hl 1 rfl) ?_
  refine lv_iconst (v := 1) hx hb dX6_kinds_1 (by decide) ?_
  refine lv_icmp_lt (tgt := 10) hx hb dX6_kinds_2 (by decide) (fun c1 => ?_) (fun c1 => ?_)
  · have hf := (if_pos c1).symm.trans hf
    refine lv_iconst (v := (-1)) hx hb dX6_kinds_10 (by decide) ?_
    replace hf := Option.some.inj hf
    subst hf
    exact ke_iret hE hw hQ dX6_kinds_11 rfl rfl
  · have hf := (if_neg c1).symm.trans hf
    refine lv_iload_n hx hb dX6_kinds_5 rfl (lv_at hl 1 rfl) ?_
    refine lv_iconst (v := 4) hx hb dX6_kinds_6 (by decide) ?_
    refine lv_icmp_le (tgt := 12) hx hb dX6_kinds_7 (by decide) (fun c2 => ?_) (fun c2 => ?_)
    · have hf := (if_pos c2).symm.trans hf
      refine lv_aload_n hx hb dX6_kinds_12 rfl (lv_at hl 0 rfl) ?_
      refine ks_getI hE hw 0 5 ltX_0 lyX_0 rfl fd_X6_40 dX6_kinds_13 ?_
      obtain ⟨x3, ex3, hf⟩ := ks_nm hf
      refine W.eq (g2 := F0 m 16 ls (.int x3 :: [])) (by rw [ex3]) ?_
      refine lv_istore_n (lv' := [(2, .int x3), (0, .ref (adr ad a 0)), (1, .int p1)]) hx hb dX6_kinds_16 rfl hl (by decide) rfl (fun ls hl => ?_)
      refine lv_aload_n hx hb dX6_kinds_17 rfl (lv_at hl 1 rfl) ?_
      refine lv_iload_n hx hb dX6_kinds_18 rfl (lv_at hl 2 rfl) ?_
      obtain ⟨t4, et4, hf⟩ := ks_nm hf
      refine ks_putI hE hw 0 5 ltX_0 lyX_0 rfl fw_X6_40 rfl rfl dX6_kinds_19 (fun H locs hw => ?_)
      rw [← et4] at hw
      refine lv_aload_n hx hb dX6_kinds_22 rfl (lv_at hl 1 rfl) ?_
      obtain ⟨r5, er5, hf⟩ := ks_bind hf
      refine ke_V hE hw hl.1 cl_X6_51 0 ltX_0 lyX_0 rfl [] (c_X6_startOver l D cA st ad a _ _ er5) rfl (ke_room hRm rfl rfl) ke_cnt (Nat.le_of_ble_eq_true rfl) rfl dX6_kinds_23 (fun H locs hw => ?_)
      refine W.eq (g2 := F0 m 26 ls ([])) rfl ?_
      refine lv_iload_n hx hb dX6_kinds_26 rfl (lv_at hl 0 rfl) ?_
      replace hf := Option.some.inj hf
      subst hf
      exact ke_iret hE hw hQ dX6_kinds_27 rfl rfl
    · have hf := (if_neg c2).symm.trans hf
      refine lv_iconst (v := (-1)) hx hb dX6_kinds_10 (by decide) ?_
      replace hf := Option.some.inj hf
      subst hf
      exact ke_iret hE hw hQ dX6_kinds_11 rfl rfl
def fX6_most  (τ : Tau) (p1 : Int32) : Option (Int32 × Tau) :=
 (if p1 < (1 : Int32) then
 some ((-1 : Int32), τ)
 else
 (if p1 ≤ (6 : Int32) then
 nm (tI τ 0 6) (fun x3 =>
 nm (sI τ 0 6 p1) (fun t4 =>
 nm (fX6_sortCount t4) (fun r5 =>
 Option.bind (fX0_shape t4 r5 (tI t4 0 6)) (fun r6 =>
 some (x3, r6)))))
 else
 some ((-1 : Int32), τ)))
set_option maxHeartbeats 4000000 in
set_option maxRecDepth 100000 in
theorem c_X6_most (l : Launch) (D : va_G) (cA : Nat → ClassId) (st ad : Nat → Nat) (a : Nat)  (τ : Tau) (p1 : Int32) (R : (Int32 × Tau)) (hf : fX6_most τ p1 = some R) : KE ΛX 29 D cA st ad l yX6_most cX6_most 3 (some .int) 2 45 [.ref (adr ad a 0), .int p1] a τ (some (.int R.1)) R.2 := by
  refine KE.of "KindSayings" rfl (by decide) (Nat.le_of_ble_eq_true rfl) (fun p e s m args below meth c A ls Rm Q hE hRm hQ hw hl => ?_)
  obtain ⟨hx, hb, hml, hown, hts, -⟩ := id hE
  have hl : lv_has ls 3 [(0, .ref (adr ad a 0)), (1, .int p1)] := hl
  unfold fX6_most at hf
  refine lv_iload_n hx hb dX6_most_0 rfl (lv_at hl 1 rfl) ?_
  refine lv_iconst (v := 1) hx hb dX6_most_1 (by decide) ?_
  refine lv_icmp_lt (tgt := 11) hx hb dX6_most_2 (by decide) (fun c1 => ?_) (fun c1 => ?_)
  · have hf := (if_pos c1).symm.trans hf
    refine lv_iconst (v := (-1)) hx hb dX6_most_11 (by decide) ?_
    replace hf := Option.some.inj hf
    subst hf
    exact ke_iret hE hw hQ dX6_most_12 rfl rfl
  · have hf := (if_neg c1).symm.trans hf
    refine lv_iload_n hx hb dX6_most_5 rfl (lv_at hl 1 rfl) ?_
    refine lv_bipush (v := 6) hx hb dX6_most_6 (by decide) ?_
    refine lv_icmp_le (tgt := 13) hx hb dX6_most_8 (by decide) (fun c2 => ?_) (fun c2 => ?_)
    · have hf := (if_pos c2).symm.trans hf
      refine lv_aload_n hx hb dX6_most_13 rfl (lv_at hl 0 rfl) ?_
      refine ks_getI hE hw 0 6 ltX_0 lyX_0 rfl fd_X6_44 dX6_most_14 ?_
      obtain ⟨x3, ex3, hf⟩ := ks_nm hf
      refine W.eq (g2 := F0 m 17 ls (.int x3 :: [])) (by rw [ex3]) ?_
      refine lv_istore_n (lv' := [(2, .int x3), (0, .ref (adr ad a 0)), (1, .int p1)]) hx hb dX6_most_17 rfl hl (by decide) rfl (fun ls hl => ?_)
      refine lv_aload_n hx hb dX6_most_18 rfl (lv_at hl 1 rfl) ?_
      refine lv_iload_n hx hb dX6_most_19 rfl (lv_at hl 2 rfl) ?_
      obtain ⟨t4, et4, hf⟩ := ks_nm hf
      refine ks_putI hE hw 0 6 ltX_0 lyX_0 rfl fw_X6_44 rfl rfl dX6_most_20 (fun H locs hw => ?_)
      rw [← et4] at hw
      refine lv_aload_n hx hb dX6_most_23 rfl (lv_at hl 1 rfl) ?_
      refine ks_getR hE hw 0 3 ltX_0 lyX_0 rfl fd_X6_29 dX6_most_24 ?_
      refine lv_aload_n hx hb dX6_most_27 rfl (lv_at hl 1 rfl) ?_
      obtain ⟨r5, er5, hf⟩ := ks_nm hf
      refine ke_V hE hw hl.1 cl_X6_54 0 ltX_0 lyX_0 rfl [] (c_X6_sortCount l D cA st ad a _ _ er5.symm) rfl (ke_room hRm rfl rfl) ke_cnt (Nat.le_of_ble_eq_true rfl) rfl dX6_most_28 (fun H locs hw => ?_)
      refine W.eq (g2 := F0 m 31 ls (.int r5 :: .ref (adr ad a 17) :: [])) rfl ?_
      refine lv_aload_n hx hb dX6_most_31 rfl (lv_at hl 1 rfl) ?_
      refine ks_getI hE hw 0 6 ltX_0 lyX_0 rfl fd_X6_44 dX6_most_32 ?_
      obtain ⟨r6, er6, hf⟩ := ks_bind hf
      refine ke_V hE hw hl.1 cl_X6_58 17 ltX_17 lyX_17 rfl [.int r5, .int (tI t4 0 6)] (c_X0_shape l D cA st ad a _ _ _ _ er6) rfl (ke_room hRm rfl rfl) ke_cnt (Nat.le_of_ble_eq_true rfl) rfl dX6_most_35 (fun H locs hw => ?_)
      refine W.eq (g2 := F0 m 38 ls ([])) rfl ?_
      refine lv_iload_n hx hb dX6_most_38 rfl (lv_at hl 0 rfl) ?_
      replace hf := Option.some.inj hf
      subst hf
      exact ke_iret hE hw hQ dX6_most_39 rfl rfl
    · have hf := (if_neg c2).symm.trans hf
      refine lv_iconst (v := (-1)) hx hb dX6_most_11 (by decide) ?_
      replace hf := Option.some.inj hf
      subst hf
      exact ke_iret hE hw hQ dX6_most_12 rfl rfl
def fX6_worlds (τ : Tau) : Int32 :=
 tI τ 17 8
set_option maxHeartbeats 4000000 in
set_option maxRecDepth 100000 in
theorem c_X6_worlds (l : Launch) (D : va_G) (cA : Nat → ClassId) (st ad : Nat → Nat) (a : Nat)  (τ : Tau) (R : Int32) (hf : fX6_worlds τ = R) : KE ΛX 29 D cA st ad l yX6_worlds cX6_worlds 1 (some .int) 0 0 [.ref (adr ad a 0)] a τ (some (.int R)) τ := by
  refine KE.of "KindSayings" rfl (by decide) (Nat.le_of_ble_eq_true rfl) (fun p e s m args below meth c A ls Rm Q hE hRm hQ hw hl => ?_)
  obtain ⟨hx, hb, hml, hown, hts, -⟩ := id hE
  have hl : lv_has ls 1 [(0, .ref (adr ad a 0))] := hl
  unfold fX6_worlds at hf
  refine lv_aload_n hx hb dX6_worlds_0 rfl (lv_at hl 0 rfl) ?_
  refine ks_getR hE hw 0 3 ltX_0 lyX_0 rfl fd_X6_29 dX6_worlds_1 ?_
  refine ks_getI hE hw 17 8 ltX_17 lyX_17 rfl fd_X6_62 dX6_worlds_4 ?_
  subst hf
  exact ke_iret hE hw hQ dX6_worlds_7 rfl rfl
def fX6_put  (τ : Tau) (p1 : Int32) (p2 : Int32) : Option (Int32 × Tau) :=
 nm (fX6_isSort τ p1) (fun r1 =>
 (if bI r1 = 0 then
 some ((-1 : Int32), τ)
 else
 (if p2 < 0 then
 some ((-1 : Int32), τ)
 else
 (if p2 ≤ (6 : Int32) then
 (if p1 < 0 ∨ 16 ≤ p1.toNatClampNeg then none else
 nm (tA τ 12 p1.toNatClampNeg) (fun x6 =>
 Option.bind (fX6_thingsAtHand τ) (fun r7 =>
 (if ((r7 - x6) + p2) ≤ (6 : Int32) then
 (if p1 < 0 ∨ 16 ≤ p1.toNatClampNeg then none else
 nm (sA τ 12 p1.toNatClampNeg p2) (fun t10 =>
 some (x6, t10)))
 else
 some ((-3 : Int32), τ)))))
 else
 some ((-1 : Int32), τ)))))
set_option maxHeartbeats 4000000 in
set_option maxRecDepth 100000 in
theorem c_X6_put (l : Launch) (D : va_G) (cA : Nat → ClassId) (st ad : Nat → Nat) (a : Nat)  (τ : Tau) (p1 : Int32) (p2 : Int32) (R : (Int32 × Tau)) (hf : fX6_put τ p1 p2 = some R) : KE ΛX 29 D cA st ad l yX6_put cX6_put 4 (some .int) 2 41 [.ref (adr ad a 0), .int p1, .int p2] a τ (some (.int R.1)) R.2 := by
  refine KE.of "KindSayings" rfl (by decide) (Nat.le_of_ble_eq_true rfl) (fun p e s m args below meth c A ls Rm Q hE hRm hQ hw hl => ?_)
  obtain ⟨hx, hb, hml, hown, hts, -⟩ := id hE
  have hl : lv_has ls 4 [(0, .ref (adr ad a 0)), (1, .int p1), (2, .int p2)] := hl
  unfold fX6_put at hf
  refine lv_aload_n hx hb dX6_put_0 rfl (lv_at hl 0 rfl) ?_
  refine lv_iload_n hx hb dX6_put_1 rfl (lv_at hl 1 rfl) ?_
  obtain ⟨r1, er1, hf⟩ := ks_nm hf
  refine ke_V hE hw hl.1 cl_X6_65 0 ltX_0 lyX_0 rfl [.int p1] (c_X6_isSort l D cA st ad a _ _ _ er1.symm) rfl (ke_room hRm rfl rfl) ke_cnt (Nat.le_of_ble_eq_true rfl) rfl dX6_put_2 (fun H locs hw => ?_)
  refine W.eq (g2 := F0 m 5 ls (.int (bI r1) :: [])) rfl ?_
  refine lv_if_eq (tgt := 18) hx hb dX6_put_5 (by decide) (fun c2 => ?_) (fun c2 => ?_)
  · have hf := (if_pos c2).symm.trans hf
    refine lv_iconst (v := (-1)) hx hb dX6_put_18 (by decide) ?_
    replace hf := Option.some.inj hf
    subst hf
    exact ke_iret hE hw hQ dX6_put_19 rfl rfl
  · have hf := (if_neg c2).symm.trans hf
    refine lv_iload_n hx hb dX6_put_8 rfl (lv_at hl 2 rfl) ?_
    refine lv_if_lt (tgt := 18) hx hb dX6_put_9 (by decide) (fun c3 => ?_) (fun c3 => ?_)
    · have hf := (if_pos c3).symm.trans hf
      refine lv_iconst (v := (-1)) hx hb dX6_put_18 (by decide) ?_
      replace hf := Option.some.inj hf
      subst hf
      exact ke_iret hE hw hQ dX6_put_19 rfl rfl
    · have hf := (if_neg c3).symm.trans hf
      refine lv_iload_n hx hb dX6_put_12 rfl (lv_at hl 2 rfl) ?_
      refine lv_bipush (v := 6) hx hb dX6_put_13 (by decide) ?_
      refine lv_icmp_le (tgt := 20) hx hb dX6_put_15 (by decide) (fun c4 => ?_) (fun c4 => ?_)
      · have hf := (if_pos c4).symm.trans hf
        refine lv_aload_n hx hb dX6_put_20 rfl (lv_at hl 0 rfl) ?_
        refine ks_getR hE hw 0 1 ltX_0 lyX_0 rfl fd_X6_15 dX6_put_21 ?_
        refine lv_iload_n hx hb dX6_put_24 rfl (lv_at hl 1 rfl) ?_
        obtain ⟨b5, hf⟩ := ks_ok hf
        refine ks_iald hE hw 12 ltX_12 lyX_12 b5 dX6_put_25 ?_
        obtain ⟨x6, ex6, hf⟩ := ks_nm hf
        refine W.eq (g2 := F0 m 26 ls (.int x6 :: [])) (by rw [ex6]) ?_
        refine lv_istore_n (lv' := [(3, .int x6), (0, .ref (adr ad a 0)), (1, .int p1), (2, .int p2)]) hx hb dX6_put_26 rfl hl (by decide) rfl (fun ls hl => ?_)
        refine lv_aload_n hx hb dX6_put_27 rfl (lv_at hl 1 rfl) ?_
        obtain ⟨r7, er7, hf⟩ := ks_bind hf
        refine ke_V hE hw hl.1 cl_X6_69 0 ltX_0 lyX_0 rfl [] (c_X6_thingsAtHand l D cA st ad a _ _ er7) rfl (ke_room hRm rfl rfl) ke_cnt (Nat.le_of_ble_eq_true rfl) rfl dX6_put_28 (fun H locs hw => ?_)
        refine W.eq (g2 := F0 m 31 ls (.int r7 :: [])) rfl ?_
        refine lv_iload_n hx hb dX6_put_31 rfl (lv_at hl 0 rfl) ?_
        refine lv_isub hx hb dX6_put_32 ?_
        refine lv_iload_n hx hb dX6_put_33 rfl (lv_at hl 3 rfl) ?_
        refine lv_iadd hx hb dX6_put_34 ?_
        refine lv_bipush (v := 6) hx hb dX6_put_35 (by decide) ?_
        refine lv_icmp_le (tgt := 43) hx hb dX6_put_37 (by decide) (fun c8 => ?_) (fun c8 => ?_)
        · have hf := (if_pos c8).symm.trans hf
          refine lv_aload_n hx hb dX6_put_43 rfl (lv_at hl 1 rfl) ?_
          refine ks_getR hE hw 0 1 ltX_0 lyX_0 rfl fd_X6_15 dX6_put_44 ?_
          refine lv_iload_n hx hb dX6_put_47 rfl (lv_at hl 2 rfl) ?_
          refine lv_iload_n hx hb dX6_put_48 rfl (lv_at hl 3 rfl) ?_
          obtain ⟨b9, hf⟩ := ks_ok hf
          obtain ⟨t10, et10, hf⟩ := ks_nm hf
          refine ks_iast hE hw 12 ltX_12 lyX_12 b9 dX6_put_49 (fun H locs hw => ?_)
          rw [← et10] at hw
          refine lv_iload_n hx hb dX6_put_50 rfl (lv_at hl 0 rfl) ?_
          replace hf := Option.some.inj hf
          subst hf
          exact ke_iret hE hw hQ dX6_put_51 rfl rfl
        · have hf := (if_neg c8).symm.trans hf
          refine lv_bipush (v := (-3)) hx hb dX6_put_40 (by decide) ?_
          replace hf := Option.some.inj hf
          subst hf
          exact ke_iret hE hw hQ dX6_put_42 rfl rfl
      · have hf := (if_neg c4).symm.trans hf
        refine lv_iconst (v := (-1)) hx hb dX6_put_18 (by decide) ?_
        replace hf := Option.some.inj hf
        subst hf
        exact ke_iret hE hw hQ dX6_put_19 rfl rfl
def fX6_holds (τ : Tau) (p1 : Int32) : Option Int32 :=
 (if (p1 < 0 ∨ 10 ≤ p1.toNatClampNeg) then
 some (-1 : Int32)
 else
 Option.bind (fX6_sumAtHand (p1.toNatClampNeg + 2) τ) (fun r2 =>
 nm (fX3_isTrue (p1.toNatClampNeg + 2) τ r2) (fun r3 =>
 nm (fX6_bit (bI r3)) (fun r4 =>
 some r4))))
set_option maxHeartbeats 4000000 in
set_option maxRecDepth 100000 in
theorem c_X6_holds (l : Launch) (D : va_G) (cA : Nat → ClassId) (st ad : Nat → Nat) (a : Nat)  (τ : Tau) (p1 : Int32) (R : Int32) (hf : fX6_holds τ p1 = some R) : KE ΛX 29 D cA st ad l yX6_holds cX6_holds 4 (some .int) 2 46 [.ref (adr ad a 0), .int p1] a τ (some (.int R)) τ := by
  refine KE.of "KindSayings" rfl (by decide) (Nat.le_of_ble_eq_true rfl) (fun p e s m args below meth c A ls Rm Q hE hRm hQ hw hl => ?_)
  obtain ⟨hx, hb, hml, hown, hts, -⟩ := id hE
  have hl : lv_has ls 4 [(0, .ref (adr ad a 0)), (1, .int p1)] := hl
  unfold fX6_holds at hf
  refine lv_aload_n hx hb dX6_holds_0 rfl (lv_at hl 0 rfl) ?_
  refine lv_iload_n hx hb dX6_holds_1 rfl (lv_at hl 1 rfl) ?_
  by_cases c1 : (p1 < 0 ∨ 10 ≤ p1.toNatClampNeg)
  · have hf := (if_pos c1).symm.trans hf
    refine ke_V hE hw hl.1 cl_X6_72 0 ltX_0 lyX_0 rfl [.int p1] (c_X6_sayingAt_out l D cA st ad a _ _ c1) rfl (ke_room hRm rfl rfl) ke_cnt (Nat.le_of_ble_eq_true rfl) rfl dX6_holds_2 (fun H locs hw => ?_)
    refine lv_astore_nN (lv' := [(2, .null), (0, .ref (adr ad a 0)), (1, .int p1)]) hx hb dX6_holds_5 rfl hl (by decide) rfl (fun ls hl => ?_)
    refine lv_aload_nN hx hb dX6_holds_6 rfl (lv_at hl 0 rfl) ?_
    refine lv_ifnonnullN hx hb dX6_holds_7 ?_
    refine lv_iconst (v := (-1)) hx hb dX6_holds_10 (by decide) ?_
    replace hf := Option.some.inj hf
    subst hf
    exact ke_iret hE hw hQ dX6_holds_11 rfl rfl
  · have hf := (if_neg c1).symm.trans hf
    refine ke_V hE hw hl.1 cl_X6_72 0 ltX_0 lyX_0 rfl [.int p1] (c_X6_sayingAt_in l D cA st ad a _ _ c1) rfl (ke_room hRm rfl rfl) ke_cnt (Nat.le_of_ble_eq_true rfl) rfl dX6_holds_2 (fun H locs hw => ?_)
    refine lv_astore_n (lv' := [(2, .ref (adr ad a (p1.toNatClampNeg + 2))), (0, .ref (adr ad a 0)), (1, .int p1)]) hx hb dX6_holds_5 rfl hl (by decide) rfl (fun ls hl => ?_)
    refine lv_aload_n hx hb dX6_holds_6 rfl (lv_at hl 0 rfl) ?_
    refine lv_ifnonnull (tgt := 12) hx hb dX6_holds_7 (by decide) ?_
    refine lv_aload_n hx hb dX6_holds_12 rfl (lv_at hl 1 rfl) ?_
    refine lv_aload_n hx hb dX6_holds_13 rfl (lv_at hl 0 rfl) ?_
    obtain ⟨r2, er2, hf⟩ := ks_bind hf
    refine ke_V hE hw hl.1 cl_X6_76 0 ltX_0 lyX_0 rfl [.ref (adr ad a (p1.toNatClampNeg + 2))] (c_X6_sumAtHand l D cA st ad a _ _ _ (say_at c1) er2) rfl (ke_room hRm rfl rfl) ke_cnt (Nat.le_of_ble_eq_true rfl) rfl dX6_holds_14 (fun H locs hw => ?_)
    refine W.eq (g2 := F0 m 17 ls (.int r2 :: [])) rfl ?_
    refine lv_istore_n (lv' := [(3, .int r2), (2, .ref (adr ad a (p1.toNatClampNeg + 2))), (0, .ref (adr ad a 0)), (1, .int p1)]) hx hb dX6_holds_17 rfl hl (by decide) rfl (fun ls hl => ?_)
    refine lv_aload_n hx hb dX6_holds_18 rfl (lv_at hl 1 rfl) ?_
    refine lv_iload_n hx hb dX6_holds_19 rfl (lv_at hl 0 rfl) ?_
    obtain ⟨r3, er3, hf⟩ := ks_nm hf
    refine ke_V hE hw hl.1 cl_X6_80 (p1.toNatClampNeg + 2) (say_lt (say_at c1)) (say_lay (say_at c1)) rfl [.int r2] (c_X3_isTrue l D cA st ad a _ _ _ _ (say_at c1) er3.symm) rfl (ke_room hRm rfl rfl) ke_cnt (Nat.le_of_ble_eq_true rfl) rfl dX6_holds_20 (fun H locs hw => ?_)
    refine W.eq (g2 := F0 m 23 ls (.int (bI r3) :: [])) rfl ?_
    obtain ⟨r4, er4, hf⟩ := ks_nm hf
    refine ke_S hE hw hl.1 cl_X6_83 [.int (bI r3)] (c_X6_bit l D cA st ad a _ _ _ er4.symm) rfl (ke_room hRm rfl rfl) ke_cnt (Nat.le_of_ble_eq_true rfl) rfl dX6_holds_23 (fun H locs hw => ?_)
    refine W.eq (g2 := F0 m 26 ls (.int r4 :: [])) rfl ?_
    replace hf := Option.some.inj hf
    subst hf
    exact ke_iret hE hw hQ dX6_holds_26 rfl rfl
def fX6_size (τ : Tau) (p1 : Int32) (p2 : Int32) : Option Int32 :=
 (if (p1 < 0 ∨ 10 ≤ p1.toNatClampNeg) then
 some (-1 : Int32)
 else
 (if p2 < 0 then
 some (-1 : Int32)
 else
 (if p2 ≤ (2 : Int32) then
 Option.bind (fX6_sumAtHand (p1.toNatClampNeg + 2) τ) (fun r4 =>
 some ((r4 >>> (((4 : Int32) * p2) &&& 31)) &&& (15 : Int32)))
 else
 some (-1 : Int32))))
set_option maxHeartbeats 4000000 in
set_option maxRecDepth 100000 in
theorem c_X6_size (l : Launch) (D : va_G) (cA : Nat → ClassId) (st ad : Nat → Nat) (a : Nat)  (τ : Tau) (p1 : Int32) (p2 : Int32) (R : Int32) (hf : fX6_size τ p1 p2 = some R) : KE ΛX 29 D cA st ad l yX6_size cX6_size 4 (some .int) 2 46 [.ref (adr ad a 0), .int p1, .int p2] a τ (some (.int R)) τ := by
  refine KE.of "KindSayings" rfl (by decide) (Nat.le_of_ble_eq_true rfl) (fun p e s m args below meth c A ls Rm Q hE hRm hQ hw hl => ?_)
  obtain ⟨hx, hb, hml, hown, hts, -⟩ := id hE
  have hl : lv_has ls 4 [(0, .ref (adr ad a 0)), (1, .int p1), (2, .int p2)] := hl
  unfold fX6_size at hf
  refine lv_aload_n hx hb dX6_size_0 rfl (lv_at hl 0 rfl) ?_
  refine lv_iload_n hx hb dX6_size_1 rfl (lv_at hl 1 rfl) ?_
  by_cases c1 : (p1 < 0 ∨ 10 ≤ p1.toNatClampNeg)
  · have hf := (if_pos c1).symm.trans hf
    refine ke_V hE hw hl.1 cl_X6_72 0 ltX_0 lyX_0 rfl [.int p1] (c_X6_sayingAt_out l D cA st ad a _ _ c1) rfl (ke_room hRm rfl rfl) ke_cnt (Nat.le_of_ble_eq_true rfl) rfl dX6_size_2 (fun H locs hw => ?_)
    refine lv_astore_nN (lv' := [(3, .null), (0, .ref (adr ad a 0)), (1, .int p1), (2, .int p2)]) hx hb dX6_size_5 rfl hl (by decide) rfl (fun ls hl => ?_)
    refine lv_aload_nN hx hb dX6_size_6 rfl (lv_at hl 0 rfl) ?_
    refine lv_ifnullN (tgt := 19) hx hb dX6_size_7 (by decide) ?_
    refine lv_iconst (v := (-1)) hx hb dX6_size_19 (by decide) ?_
    replace hf := Option.some.inj hf
    subst hf
    exact ke_iret hE hw hQ dX6_size_20 rfl rfl
  · have hf := (if_neg c1).symm.trans hf
    refine ke_V hE hw hl.1 cl_X6_72 0 ltX_0 lyX_0 rfl [.int p1] (c_X6_sayingAt_in l D cA st ad a _ _ c1) rfl (ke_room hRm rfl rfl) ke_cnt (Nat.le_of_ble_eq_true rfl) rfl dX6_size_2 (fun H locs hw => ?_)
    refine lv_astore_n (lv' := [(3, .ref (adr ad a (p1.toNatClampNeg + 2))), (0, .ref (adr ad a 0)), (1, .int p1), (2, .int p2)]) hx hb dX6_size_5 rfl hl (by decide) rfl (fun ls hl => ?_)
    refine lv_aload_n hx hb dX6_size_6 rfl (lv_at hl 0 rfl) ?_
    refine lv_ifnull hx hb dX6_size_7 ?_
    refine lv_iload_n hx hb dX6_size_10 rfl (lv_at hl 3 rfl) ?_
    refine lv_if_lt (tgt := 19) hx hb dX6_size_11 (by decide) (fun c2 => ?_) (fun c2 => ?_)
    · have hf := (if_pos c2).symm.trans hf
      refine lv_iconst (v := (-1)) hx hb dX6_size_19 (by decide) ?_
      replace hf := Option.some.inj hf
      subst hf
      exact ke_iret hE hw hQ dX6_size_20 rfl rfl
    · have hf := (if_neg c2).symm.trans hf
      refine lv_iload_n hx hb dX6_size_14 rfl (lv_at hl 3 rfl) ?_
      refine lv_iconst (v := 2) hx hb dX6_size_15 (by decide) ?_
      refine lv_icmp_le (tgt := 21) hx hb dX6_size_16 (by decide) (fun c3 => ?_) (fun c3 => ?_)
      · have hf := (if_pos c3).symm.trans hf
        refine lv_aload_n hx hb dX6_size_21 rfl (lv_at hl 1 rfl) ?_
        refine lv_aload_n hx hb dX6_size_22 rfl (lv_at hl 0 rfl) ?_
        obtain ⟨r4, er4, hf⟩ := ks_bind hf
        refine ke_V hE hw hl.1 cl_X6_76 0 ltX_0 lyX_0 rfl [.ref (adr ad a (p1.toNatClampNeg + 2))] (c_X6_sumAtHand l D cA st ad a _ _ _ (say_at c1) er4) rfl (ke_room hRm rfl rfl) ke_cnt (Nat.le_of_ble_eq_true rfl) rfl dX6_size_23 (fun H locs hw => ?_)
        refine W.eq (g2 := F0 m 26 ls (.int r4 :: [])) rfl ?_
        refine lv_iconst (v := 4) hx hb dX6_size_26 (by decide) ?_
        refine lv_iload_n hx hb dX6_size_27 rfl (lv_at hl 3 rfl) ?_
        refine lv_imul hx hb dX6_size_28 ?_
        refine lv_ishr hx hb dX6_size_29 ?_
        refine lv_bipush (v := 15) hx hb dX6_size_30 (by decide) ?_
        refine lv_iand hx hb dX6_size_32 ?_
        replace hf := Option.some.inj hf
        subst hf
        exact ke_iret hE hw hQ dX6_size_33 rfl rfl
      · have hf := (if_neg c3).symm.trans hf
        refine lv_iconst (v := (-1)) hx hb dX6_size_19 (by decide) ?_
        replace hf := Option.some.inj hf
        subst hf
        exact ke_iret hE hw hQ dX6_size_20 rfl rfl
def fX6_type  (τ : Tau) (p1 : Int64) (p2 : Int32) : Option (Int32 × Tau) :=
 (if p2 < (1 : Int32) then
 some ((-1 : Int32), τ)
 else
 (if p2 ≤ (8 : Int32) then
 (if (tI τ 14 1 + p2) ≤ (80 : Int32) then
 Option.bind (fX4_append τ p1 p2) (fun r4 =>
 some (tI r4 14 1, r4))
 else
 some ((-3 : Int32), τ))
 else
 some ((-1 : Int32), τ)))
set_option maxHeartbeats 4000000 in
set_option maxRecDepth 100000 in
theorem c_X6_type (l : Launch) (D : va_G) (cA : Nat → ClassId) (st ad : Nat → Nat) (a : Nat)  (τ : Tau) (p1 : Int64) (p2 : Int32) (R : (Int32 × Tau)) (hf : fX6_type τ p1 p2 = some R) : KE ΛX 29 D cA st ad l yX6_type cX6_type 5 (some .int) 1 24 [.ref (adr ad a 0), .long p1, .int p2] a τ (some (.int R.1)) R.2 := by
  refine KE.of "KindSayings" rfl (by decide) (Nat.le_of_ble_eq_true rfl) (fun p e s m args below meth c A ls Rm Q hE hRm hQ hw hl => ?_)
  obtain ⟨hx, hb, hml, hown, hts, -⟩ := id hE
  have hl : lv_has ls 5 [(0, .ref (adr ad a 0)), (1, .long p1), (3, .int p2)] := hl
  unfold fX6_type at hf
  refine lv_iload_n hx hb dX6_type_0 rfl (lv_at hl 2 rfl) ?_
  refine lv_iconst (v := 1) hx hb dX6_type_1 (by decide) ?_
  refine lv_icmp_lt (tgt := 11) hx hb dX6_type_2 (by decide) (fun c1 => ?_) (fun c1 => ?_)
  · have hf := (if_pos c1).symm.trans hf
    refine lv_iconst (v := (-1)) hx hb dX6_type_11 (by decide) ?_
    replace hf := Option.some.inj hf
    subst hf
    exact ke_iret hE hw hQ dX6_type_12 rfl rfl
  · have hf := (if_neg c1).symm.trans hf
    refine lv_iload_n hx hb dX6_type_5 rfl (lv_at hl 2 rfl) ?_
    refine lv_bipush (v := 8) hx hb dX6_type_6 (by decide) ?_
    refine lv_icmp_le (tgt := 13) hx hb dX6_type_8 (by decide) (fun c2 => ?_) (fun c2 => ?_)
    · have hf := (if_pos c2).symm.trans hf
      refine lv_aload_n hx hb dX6_type_13 rfl (lv_at hl 0 rfl) ?_
      refine ks_getR hE hw 0 2 ltX_0 lyX_0 rfl fd_X6_22 dX6_type_14 ?_
      refine ks_getR hE hw 13 0 ltX_13 lyX_13 rfl fd_X6_87 dX6_type_17 ?_
      refine lv_astore (lv' := [(4, .ref (adr ad a 14)), (0, .ref (adr ad a 0)), (1, .long p1), (3, .int p2)]) hx hb dX6_type_20 hl (by decide) rfl (fun ls hl => ?_)
      refine lv_aload hx hb dX6_type_22 (lv_at hl 0 rfl) ?_
      refine ks_getI hE hw 14 1 ltX_14 lyX_14 rfl fd_X6_91 dX6_type_24 ?_
      refine lv_iload_n hx hb dX6_type_27 rfl (lv_at hl 3 rfl) ?_
      refine lv_iadd hx hb dX6_type_28 ?_
      refine lv_bipush (v := 80) hx hb dX6_type_29 (by decide) ?_
      refine lv_icmp_le (tgt := 37) hx hb dX6_type_31 (by decide) (fun c3 => ?_) (fun c3 => ?_)
      · have hf := (if_pos c3).symm.trans hf
        refine lv_aload hx hb dX6_type_37 (lv_at hl 0 rfl) ?_
        refine lv_lload_n hx hb dX6_type_39 rfl (lv_at hl 2 rfl) ?_
        refine lv_iload_n hx hb dX6_type_40 rfl (lv_at hl 3 rfl) ?_
        obtain ⟨r4, er4, hf⟩ := ks_bind hf
        refine ke_V hE hw hl.1 cl_X6_96 14 ltX_14 lyX_14 rfl [.long p1, .int p2] (c_X4_append l D cA st ad a _ _ _ _ er4) rfl (ke_room hRm rfl rfl) ke_cnt (Nat.le_of_ble_eq_true rfl) rfl dX6_type_41 (fun H locs hw => ?_)
        refine W.eq (g2 := F0 m 44 ls ([])) rfl ?_
        refine lv_aload hx hb dX6_type_44 (lv_at hl 0 rfl) ?_
        refine ks_getI hE hw 14 1 ltX_14 lyX_14 rfl fd_X6_91 dX6_type_46 ?_
        replace hf := Option.some.inj hf
        subst hf
        exact ke_iret hE hw hQ dX6_type_49 rfl rfl
      · have hf := (if_neg c3).symm.trans hf
        refine lv_bipush (v := (-3)) hx hb dX6_type_34 (by decide) ?_
        replace hf := Option.some.inj hf
        subst hf
        exact ke_iret hE hw hQ dX6_type_36 rfl rfl
    · have hf := (if_neg c2).symm.trans hf
      refine lv_iconst (v := (-1)) hx hb dX6_type_11 (by decide) ?_
      replace hf := Option.some.inj hf
      subst hf
      exact ke_iret hE hw hQ dX6_type_12 rfl rfl
def fX6_clear  (τ : Tau) : (Int32 × Tau) :=
 nm (tI τ 14 1) (fun x1 =>
 nm (sI τ 14 1 (0 : Int32)) (fun t2 =>
 (x1, t2)))
set_option maxHeartbeats 4000000 in
set_option maxRecDepth 100000 in
theorem c_X6_clear (l : Launch) (D : va_G) (cA : Nat → ClassId) (st ad : Nat → Nat) (a : Nat)  (τ : Tau) (R : (Int32 × Tau)) (hf : fX6_clear τ = R) : KE ΛX 29 D cA st ad l yX6_clear cX6_clear 2 (some .int) 0 0 [.ref (adr ad a 0)] a τ (some (.int R.1)) R.2 := by
  refine KE.of "KindSayings" rfl (by decide) (Nat.le_of_ble_eq_true rfl) (fun p e s m args below meth c A ls Rm Q hE hRm hQ hw hl => ?_)
  obtain ⟨hx, hb, hml, hown, hts, -⟩ := id hE
  have hl : lv_has ls 2 [(0, .ref (adr ad a 0))] := hl
  unfold fX6_clear at hf
  refine lv_aload_n hx hb dX6_clear_0 rfl (lv_at hl 0 rfl) ?_
  refine ks_getR hE hw 0 2 ltX_0 lyX_0 rfl fd_X6_22 dX6_clear_1 ?_
  refine ks_getR hE hw 13 0 ltX_13 lyX_13 rfl fd_X6_87 dX6_clear_4 ?_
  refine ks_getI hE hw 14 1 ltX_14 lyX_14 rfl fd_X6_91 dX6_clear_7 ?_
  obtain ⟨x1, ex1, hf⟩ := ks_nm hf
  refine W.eq (g2 := F0 m 10 ls (.int x1 :: [])) (by rw [ex1]) ?_
  refine lv_istore_n (lv' := [(1, .int x1), (0, .ref (adr ad a 0))]) hx hb dX6_clear_10 rfl hl (by decide) rfl (fun ls hl => ?_)
  refine lv_aload_n hx hb dX6_clear_11 rfl (lv_at hl 1 rfl) ?_
  refine ks_getR hE hw 0 2 ltX_0 lyX_0 rfl fd_X6_22 dX6_clear_12 ?_
  refine ks_getR hE hw 13 0 ltX_13 lyX_13 rfl fd_X6_87 dX6_clear_15 ?_
  refine lv_iconst (v := 0) hx hb dX6_clear_18 (by decide) ?_
  obtain ⟨t2, et2, hf⟩ := ks_nm hf
  refine ks_putI hE hw 14 1 ltX_14 lyX_14 rfl fw_X6_91 rfl rfl dX6_clear_19 (fun H locs hw => ?_)
  rw [← et2] at hw
  refine lv_iload_n hx hb dX6_clear_22 rfl (lv_at hl 0 rfl) ?_
  subst hf
  exact ke_iret hE hw hQ dX6_clear_23 rfl rfl
def fX6_about (τ : Tau) (p1 : Int32) (p2 : Int32) : Int32 :=
 (if (p1 < 0 ∨ 10 ≤ p1.toNatClampNeg) then
 (-1 : Int32)
 else
 (if p2 = (0 : Int32) then
 tI τ (p1.toNatClampNeg + 2) 0
 else
 (if p2 = (1 : Int32) then
 tI τ (p1.toNatClampNeg + 2) 2
 else
 (if p2 = (2 : Int32) then
 tI τ (p1.toNatClampNeg + 2) 3
 else
 (if p2 = (3 : Int32) then
 tI τ (p1.toNatClampNeg + 2) 1
 else
 (if p2 = (4 : Int32) then
 nm (fX6_bit (tI τ (p1.toNatClampNeg + 2) 5)) (fun r8 =>
 r8)
 else
 (if p2 = (5 : Int32) then
 tI τ (p1.toNatClampNeg + 2) 4
 else
 (-1 : Int32))))))))
set_option maxHeartbeats 4000000 in
set_option maxRecDepth 100000 in
theorem c_X6_about (l : Launch) (D : va_G) (cA : Nat → ClassId) (st ad : Nat → Nat) (a : Nat)  (τ : Tau) (p1 : Int32) (p2 : Int32) (R : Int32) (hf : fX6_about τ p1 p2 = R) : KE ΛX 29 D cA st ad l yX6_about cX6_about 4 (some .int) 1 21 [.ref (adr ad a 0), .int p1, .int p2] a τ (some (.int R)) τ := by
  refine KE.of "KindSayings" rfl (by decide) (Nat.le_of_ble_eq_true rfl) (fun p e s m args below meth c A ls Rm Q hE hRm hQ hw hl => ?_)
  obtain ⟨hx, hb, hml, hown, hts, -⟩ := id hE
  have hl : lv_has ls 4 [(0, .ref (adr ad a 0)), (1, .int p1), (2, .int p2)] := hl
  unfold fX6_about at hf
  refine lv_aload_n hx hb dX6_about_0 rfl (lv_at hl 0 rfl) ?_
  refine lv_iload_n hx hb dX6_about_1 rfl (lv_at hl 1 rfl) ?_
  by_cases c1 : (p1 < 0 ∨ 10 ≤ p1.toNatClampNeg)
  · have hf := (if_pos c1).symm.trans hf
    refine ke_V hE hw hl.1 cl_X6_72 0 ltX_0 lyX_0 rfl [.int p1] (c_X6_sayingAt_out l D cA st ad a _ _ c1) rfl (ke_room hRm rfl rfl) ke_cnt (Nat.le_of_ble_eq_true rfl) rfl dX6_about_2 (fun H locs hw => ?_)
    refine lv_astore_nN (lv' := [(3, .null), (0, .ref (adr ad a 0)), (1, .int p1), (2, .int p2)]) hx hb dX6_about_5 rfl hl (by decide) rfl (fun ls hl => ?_)
    refine lv_aload_nN hx hb dX6_about_6 rfl (lv_at hl 0 rfl) ?_
    refine lv_ifnonnullN hx hb dX6_about_7 ?_
    refine lv_iconst (v := (-1)) hx hb dX6_about_10 (by decide) ?_
    subst hf
    exact ke_iret hE hw hQ dX6_about_11 rfl rfl
  · have hf := (if_neg c1).symm.trans hf
    refine ke_V hE hw hl.1 cl_X6_72 0 ltX_0 lyX_0 rfl [.int p1] (c_X6_sayingAt_in l D cA st ad a _ _ c1) rfl (ke_room hRm rfl rfl) ke_cnt (Nat.le_of_ble_eq_true rfl) rfl dX6_about_2 (fun H locs hw => ?_)
    refine lv_astore_n (lv' := [(3, .ref (adr ad a (p1.toNatClampNeg + 2))), (0, .ref (adr ad a 0)), (1, .int p1), (2, .int p2)]) hx hb dX6_about_5 rfl hl (by decide) rfl (fun ls hl => ?_)
    refine lv_aload_n hx hb dX6_about_6 rfl (lv_at hl 0 rfl) ?_
    refine lv_ifnonnull (tgt := 12) hx hb dX6_about_7 (by decide) ?_
    refine lv_iload_n hx hb dX6_about_12 rfl (lv_at hl 3 rfl) ?_
    by_cases c2 : p2 = (0 : Int32)
    · have hf := (if_pos c2).symm.trans hf
      refine lv_tableIn (tgt := 52) hx hb dX6_about_13 (by rw [c2]; decide) (by rw [c2]; decide) (by rw [c2]; rfl) (by decide) ?_
      refine lv_aload_n hx hb dX6_about_52 rfl (lv_at hl 0 rfl) ?_
      refine ks_getI hE hw (p1.toNatClampNeg + 2) 0 (say_lt (say_at c1)) (say_lay (say_at c1)) rfl fd_X6_115 dX6_about_53 ?_
      subst hf
      exact ke_iret hE hw hQ dX6_about_56 rfl rfl
    · have hf := (if_neg c2).symm.trans hf
      by_cases c3 : p2 = (1 : Int32)
      · have hf := (if_pos c3).symm.trans hf
        refine lv_tableIn (tgt := 57) hx hb dX6_about_13 (by rw [c3]; decide) (by rw [c3]; decide) (by rw [c3]; rfl) (by decide) ?_
        refine lv_aload_n hx hb dX6_about_57 rfl (lv_at hl 0 rfl) ?_
        refine ks_getI hE hw (p1.toNatClampNeg + 2) 2 (say_lt (say_at c1)) (say_lay (say_at c1)) rfl fd_X6_118 dX6_about_58 ?_
        subst hf
        exact ke_iret hE hw hQ dX6_about_61 rfl rfl
      · have hf := (if_neg c3).symm.trans hf
        by_cases c4 : p2 = (2 : Int32)
        · have hf := (if_pos c4).symm.trans hf
          refine lv_tableIn (tgt := 62) hx hb dX6_about_13 (by rw [c4]; decide) (by rw [c4]; decide) (by rw [c4]; rfl) (by decide) ?_
          refine lv_aload_n hx hb dX6_about_62 rfl (lv_at hl 0 rfl) ?_
          refine ks_getI hE hw (p1.toNatClampNeg + 2) 3 (say_lt (say_at c1)) (say_lay (say_at c1)) rfl fd_X6_121 dX6_about_63 ?_
          subst hf
          exact ke_iret hE hw hQ dX6_about_66 rfl rfl
        · have hf := (if_neg c4).symm.trans hf
          by_cases c5 : p2 = (3 : Int32)
          · have hf := (if_pos c5).symm.trans hf
            refine lv_tableIn (tgt := 67) hx hb dX6_about_13 (by rw [c5]; decide) (by rw [c5]; decide) (by rw [c5]; rfl) (by decide) ?_
            refine lv_aload_n hx hb dX6_about_67 rfl (lv_at hl 0 rfl) ?_
            refine ks_getI hE hw (p1.toNatClampNeg + 2) 1 (say_lt (say_at c1)) (say_lay (say_at c1)) rfl fd_X6_124 dX6_about_68 ?_
            subst hf
            exact ke_iret hE hw hQ dX6_about_71 rfl rfl
          · have hf := (if_neg c5).symm.trans hf
            by_cases c6 : p2 = (4 : Int32)
            · have hf := (if_pos c6).symm.trans hf
              refine lv_tableIn (tgt := 72) hx hb dX6_about_13 (by rw [c6]; decide) (by rw [c6]; decide) (by rw [c6]; rfl) (by decide) ?_
              refine lv_aload_n hx hb dX6_about_72 rfl (lv_at hl 0 rfl) ?_
              refine ks_getI hE hw (p1.toNatClampNeg + 2) 5 (say_lt (say_at c1)) (say_lay (say_at c1)) rfl fd_X6_127 dX6_about_73 ?_
              obtain ⟨r8, er8, hf⟩ := ks_nm hf
              refine ke_S hE hw hl.1 cl_X6_83 [.int (tI τ (p1.toNatClampNeg + 2) 5)] (c_X6_bit l D cA st ad a _ _ _ er8.symm) rfl (ke_room hRm rfl rfl) ke_cnt (Nat.le_of_ble_eq_true rfl) rfl dX6_about_76 (fun H locs hw => ?_)
              refine W.eq (g2 := F0 m 79 ls (.int r8 :: [])) rfl ?_
              subst hf
              exact ke_iret hE hw hQ dX6_about_79 rfl rfl
            · have hf := (if_neg c6).symm.trans hf
              by_cases c7 : p2 = (5 : Int32)
              · have hf := (if_pos c7).symm.trans hf
                refine lv_tableIn (tgt := 80) hx hb dX6_about_13 (by rw [c7]; decide) (by rw [c7]; decide) (by rw [c7]; rfl) (by decide) ?_
                refine lv_aload_n hx hb dX6_about_80 rfl (lv_at hl 0 rfl) ?_
                refine ks_getI hE hw (p1.toNatClampNeg + 2) 4 (say_lt (say_at c1)) (say_lay (say_at c1)) rfl fd_X6_131 dX6_about_81 ?_
                subst hf
                exact ke_iret hE hw hQ dX6_about_84 rfl rfl
              · have hf := (if_neg c7).symm.trans hf
                refine lv_tableOut (tgt := 85) hx hb dX6_about_13 (by have := ks_sw c2 (k := 0) (by decide); have := ks_sw c3 (k := 1) (by decide); have := ks_sw c4 (k := 2) (by decide); have := ks_sw c5 (k := 3) (by decide); have := ks_sw c6 (k := 4) (by decide); have := ks_sw c7 (k := 5) (by decide); omega) (by decide) ?_
                refine lv_iconst (v := (-1)) hx hb dX6_about_85 (by decide) ?_
                subst hf
                exact ke_iret hE hw hQ dX6_about_86 rfl rfl
def fX6_moods  (τ : Tau) (p1 : Int32) : (Int32 × Tau) :=
 (if p1 < 0 then
 ((-1 : Int32), τ)
 else
 (if p1 < (512 : Int32) then
 nm (tI τ 0 7) (fun x3 =>
 nm (sI τ 0 7 p1) (fun t4 =>
 (x3, t4)))
 else
 ((-1 : Int32), τ)))
set_option maxHeartbeats 4000000 in
set_option maxRecDepth 100000 in
theorem c_X6_moods (l : Launch) (D : va_G) (cA : Nat → ClassId) (st ad : Nat → Nat) (a : Nat)  (τ : Tau) (p1 : Int32) (R : (Int32 × Tau)) (hf : fX6_moods τ p1 = R) : KE ΛX 29 D cA st ad l yX6_moods cX6_moods 3 (some .int) 0 0 [.ref (adr ad a 0), .int p1] a τ (some (.int R.1)) R.2 := by
  refine KE.of "KindSayings" rfl (by decide) (Nat.le_of_ble_eq_true rfl) (fun p e s m args below meth c A ls Rm Q hE hRm hQ hw hl => ?_)
  obtain ⟨hx, hb, hml, hown, hts, -⟩ := id hE
  have hl : lv_has ls 3 [(0, .ref (adr ad a 0)), (1, .int p1)] := hl
  unfold fX6_moods at hf
  refine lv_iload_n hx hb dX6_moods_0 rfl (lv_at hl 1 rfl) ?_
  refine lv_if_lt (tgt := 11) hx hb dX6_moods_1 (by decide) (fun c1 => ?_) (fun c1 => ?_)
  · have hf := (if_pos c1).symm.trans hf
    refine lv_iconst (v := (-1)) hx hb dX6_moods_11 (by decide) ?_
    subst hf
    exact ke_iret hE hw hQ dX6_moods_12 rfl rfl
  · have hf := (if_neg c1).symm.trans hf
    refine lv_iload_n hx hb dX6_moods_4 rfl (lv_at hl 1 rfl) ?_
    refine lv_sipush (v := 512) hx hb dX6_moods_5 (by decide) ?_
    refine lv_icmp_lt (tgt := 13) hx hb dX6_moods_8 (by decide) (fun c2 => ?_) (fun c2 => ?_)
    · have hf := (if_pos c2).symm.trans hf
      refine lv_aload_n hx hb dX6_moods_13 rfl (lv_at hl 0 rfl) ?_
      refine ks_getI hE hw 0 7 ltX_0 lyX_0 rfl fd_X6_47 dX6_moods_14 ?_
      obtain ⟨x3, ex3, hf⟩ := ks_nm hf
      refine W.eq (g2 := F0 m 17 ls (.int x3 :: [])) (by rw [ex3]) ?_
      refine lv_istore_n (lv' := [(2, .int x3), (0, .ref (adr ad a 0)), (1, .int p1)]) hx hb dX6_moods_17 rfl hl (by decide) rfl (fun ls hl => ?_)
      refine lv_aload_n hx hb dX6_moods_18 rfl (lv_at hl 1 rfl) ?_
      refine lv_iload_n hx hb dX6_moods_19 rfl (lv_at hl 2 rfl) ?_
      obtain ⟨t4, et4, hf⟩ := ks_nm hf
      refine ks_putI hE hw 0 7 ltX_0 lyX_0 rfl fw_X6_47 rfl rfl dX6_moods_20 (fun H locs hw => ?_)
      rw [← et4] at hw
      refine lv_iload_n hx hb dX6_moods_23 rfl (lv_at hl 0 rfl) ?_
      subst hf
      exact ke_iret hE hw hQ dX6_moods_24 rfl rfl
    · have hf := (if_neg c2).symm.trans hf
      refine lv_iconst (v := (-1)) hx hb dX6_moods_11 (by decide) ?_
      subst hf
      exact ke_iret hE hw hQ dX6_moods_12 rfl rfl
def fX6_round  (τ : Tau) (p1 : Int32) (p2 : Int32) (p3 : Int32) (p4 : Int32) : Option (Int32 × Tau) :=
 nm (fX6_isSet p1) (fun r1 =>
 (if bI r1 = 0 then
 some ((-1 : Int32), τ)
 else
 nm (fX6_isFact τ p2 p3 p4) (fun r3 =>
 (if bI r3 = 0 then
 some ((-1 : Int32), τ)
 else
 Option.bind (fX6_work τ p1) (fun r5 =>
 nm (fX6_factNumber p2 p3 p4) (fun r6 =>
 Option.bind (fX1_roundAt r5 r6) (fun r7 =>
 some (r7, r5))))))))
set_option maxHeartbeats 4000000 in
set_option maxRecDepth 100000 in
theorem c_X6_round (l : Launch) (D : va_G) (cA : Nat → ClassId) (st ad : Nat → Nat) (a : Nat)  (τ : Tau) (p1 : Int32) (p2 : Int32) (p3 : Int32) (p4 : Int32) (R : (Int32 × Tau)) (hf : fX6_round τ p1 p2 p3 p4 = some R) : KE ΛX 29 D cA st ad l yX6_round cX6_round 5 (some .int) 6 149 [.ref (adr ad a 0), .int p1, .int p2, .int p3, .int p4] a τ (some (.int R.1)) R.2 := by
  refine KE.of "KindSayings" rfl (by decide) (Nat.le_of_ble_eq_true rfl) (fun p e s m args below meth c A ls Rm Q hE hRm hQ hw hl => ?_)
  obtain ⟨hx, hb, hml, hown, hts, -⟩ := id hE
  have hl : lv_has ls 5 [(0, .ref (adr ad a 0)), (1, .int p1), (2, .int p2), (3, .int p3), (4, .int p4)] := hl
  unfold fX6_round at hf
  refine lv_iload_n hx hb dX6_round_0 rfl (lv_at hl 1 rfl) ?_
  obtain ⟨r1, er1, hf⟩ := ks_nm hf
  refine ke_S hE hw hl.1 cl_X6_134 [.int p1] (c_X6_isSet l D cA st ad a _ _ _ er1.symm) rfl (ke_room hRm rfl rfl) ke_cnt (Nat.le_of_ble_eq_true rfl) rfl dX6_round_1 (fun H locs hw => ?_)
  refine W.eq (g2 := F0 m 4 ls (.int (bI r1) :: [])) rfl ?_
  refine lv_if_eq (tgt := 18) hx hb dX6_round_4 (by decide) (fun c2 => ?_) (fun c2 => ?_)
  · have hf := (if_pos c2).symm.trans hf
    refine lv_iconst (v := (-1)) hx hb dX6_round_18 (by decide) ?_
    replace hf := Option.some.inj hf
    subst hf
    exact ke_iret hE hw hQ dX6_round_19 rfl rfl
  · have hf := (if_neg c2).symm.trans hf
    refine lv_aload_n hx hb dX6_round_7 rfl (lv_at hl 0 rfl) ?_
    refine lv_iload_n hx hb dX6_round_8 rfl (lv_at hl 2 rfl) ?_
    refine lv_iload_n hx hb dX6_round_9 rfl (lv_at hl 3 rfl) ?_
    refine lv_iload hx hb dX6_round_10 (lv_at hl 4 rfl) ?_
    obtain ⟨r3, er3, hf⟩ := ks_nm hf
    refine ke_V hE hw hl.1 cl_X6_177 0 ltX_0 lyX_0 rfl [.int p2, .int p3, .int p4] (c_X6_isFact l D cA st ad a _ _ _ _ _ er3.symm) rfl (ke_room hRm rfl rfl) ke_cnt (Nat.le_of_ble_eq_true rfl) rfl dX6_round_12 (fun H locs hw => ?_)
    refine W.eq (g2 := F0 m 15 ls (.int (bI r3) :: [])) rfl ?_
    refine lv_if_ne (tgt := 20) hx hb dX6_round_15 (by decide) (fun c4 => ?_) (fun c4 => ?_)
    · have hf := (if_neg c4).symm.trans hf
      refine lv_aload_n hx hb dX6_round_20 rfl (lv_at hl 0 rfl) ?_
      refine lv_iload_n hx hb dX6_round_21 rfl (lv_at hl 1 rfl) ?_
      obtain ⟨r5, er5, hf⟩ := ks_bind hf
      refine ke_V hE hw hl.1 cl_X6_181 0 ltX_0 lyX_0 rfl [.int p1] (c_X6_work l D cA st ad a _ _ _ er5) rfl (ke_room hRm rfl rfl) ke_cnt (Nat.le_of_ble_eq_true rfl) rfl dX6_round_22 (fun H locs hw => ?_)
      refine W.eq (g2 := F0 m 25 ls ([])) rfl ?_
      refine lv_aload_n hx hb dX6_round_25 rfl (lv_at hl 0 rfl) ?_
      refine ks_getR hE hw 0 4 ltX_0 lyX_0 rfl fd_X6_36 dX6_round_26 ?_
      refine lv_iload_n hx hb dX6_round_29 rfl (lv_at hl 2 rfl) ?_
      refine lv_iload_n hx hb dX6_round_30 rfl (lv_at hl 3 rfl) ?_
      refine lv_iload hx hb dX6_round_31 (lv_at hl 4 rfl) ?_
      obtain ⟨r6, er6, hf⟩ := ks_nm hf
      refine ke_S hE hw hl.1 cl_X6_185 [.int p2, .int p3, .int p4] (c_X6_factNumber l D cA st ad a _ _ _ _ _ er6.symm) rfl (ke_room hRm rfl rfl) ke_cnt (Nat.le_of_ble_eq_true rfl) rfl dX6_round_33 (fun H locs hw => ?_)
      refine W.eq (g2 := F0 m 36 ls (.int r6 :: .ref (adr ad a 27) :: [])) rfl ?_
      obtain ⟨r7, er7, hf⟩ := ks_bind hf
      refine ke_V hE hw hl.1 cl_X6_189 27 ltX_27 lyX_27 rfl [.int r6] (c_X1_roundAt l D cA st ad a _ _ _ er7) rfl (ke_room hRm rfl rfl) ke_cnt (Nat.le_of_ble_eq_true rfl) rfl dX6_round_36 (fun H locs hw => ?_)
      refine W.eq (g2 := F0 m 39 ls (.int r7 :: [])) rfl ?_
      replace hf := Option.some.inj hf
      subst hf
      exact ke_iret hE hw hQ dX6_round_39 rfl rfl
    · have hf := (if_pos c4).symm.trans hf
      refine lv_iconst (v := (-1)) hx hb dX6_round_18 (by decide) ?_
      replace hf := Option.some.inj hf
      subst hf
      exact ke_iret hE hw hQ dX6_round_19 rfl rfl
def fX6_by  (τ : Tau) (p1 : Int32) (p2 : Int32) (p3 : Int32) (p4 : Int32) (p5 : Int32) : Option (Int32 × Tau) :=
 nm (fX6_isSet p1) (fun r1 =>
 (if bI r1 = 0 then
 some ((-1 : Int32), τ)
 else
 nm (fX6_isFact τ p2 p3 p4) (fun r3 =>
 (if bI r3 = 0 then
 some ((-1 : Int32), τ)
 else
 (if p5 < 0 then
 some ((-1 : Int32), τ)
 else
 (if p5 ≤ (2 : Int32) then
 Option.bind (fX6_work τ p1) (fun r7 =>
 nm (fX6_factNumber p2 p3 p4) (fun r8 =>
 Option.bind (fX1_step r7 r8 p5) (fun r9 =>
 some (r9.1, r9.2))))
 else
 some ((-1 : Int32), τ)))))))
set_option maxHeartbeats 4000000 in
set_option maxRecDepth 100000 in
theorem c_X6_by (l : Launch) (D : va_G) (cA : Nat → ClassId) (st ad : Nat → Nat) (a : Nat)  (τ : Tau) (p1 : Int32) (p2 : Int32) (p3 : Int32) (p4 : Int32) (p5 : Int32) (R : (Int32 × Tau)) (hf : fX6_by τ p1 p2 p3 p4 p5 = some R) : KE ΛX 29 D cA st ad l yX6_by cX6_by 6 (some .int) 6 149 [.ref (adr ad a 0), .int p1, .int p2, .int p3, .int p4, .int p5] a τ (some (.int R.1)) R.2 := by
  refine KE.of "KindSayings" rfl (by decide) (Nat.le_of_ble_eq_true rfl) (fun p e s m args below meth c A ls Rm Q hE hRm hQ hw hl => ?_)
  obtain ⟨hx, hb, hml, hown, hts, -⟩ := id hE
  have hl : lv_has ls 6 [(0, .ref (adr ad a 0)), (1, .int p1), (2, .int p2), (3, .int p3), (4, .int p4), (5, .int p5)] := hl
  unfold fX6_by at hf
  refine lv_iload_n hx hb dX6_by_0 rfl (lv_at hl 1 rfl) ?_
  obtain ⟨r1, er1, hf⟩ := ks_nm hf
  refine ke_S hE hw hl.1 cl_X6_134 [.int p1] (c_X6_isSet l D cA st ad a _ _ _ er1.symm) rfl (ke_room hRm rfl rfl) ke_cnt (Nat.le_of_ble_eq_true rfl) rfl dX6_by_1 (fun H locs hw => ?_)
  refine W.eq (g2 := F0 m 4 ls (.int (bI r1) :: [])) rfl ?_
  refine lv_if_eq (tgt := 29) hx hb dX6_by_4 (by decide) (fun c2 => ?_) (fun c2 => ?_)
  · have hf := (if_pos c2).symm.trans hf
    refine lv_iconst (v := (-1)) hx hb dX6_by_29 (by decide) ?_
    replace hf := Option.some.inj hf
    subst hf
    exact ke_iret hE hw hQ dX6_by_30 rfl rfl
  · have hf := (if_neg c2).symm.trans hf
    refine lv_aload_n hx hb dX6_by_7 rfl (lv_at hl 0 rfl) ?_
    refine lv_iload_n hx hb dX6_by_8 rfl (lv_at hl 2 rfl) ?_
    refine lv_iload_n hx hb dX6_by_9 rfl (lv_at hl 3 rfl) ?_
    refine lv_iload hx hb dX6_by_10 (lv_at hl 4 rfl) ?_
    obtain ⟨r3, er3, hf⟩ := ks_nm hf
    refine ke_V hE hw hl.1 cl_X6_177 0 ltX_0 lyX_0 rfl [.int p2, .int p3, .int p4] (c_X6_isFact l D cA st ad a _ _ _ _ _ er3.symm) rfl (ke_room hRm rfl rfl) ke_cnt (Nat.le_of_ble_eq_true rfl) rfl dX6_by_12 (fun H locs hw => ?_)
    refine W.eq (g2 := F0 m 15 ls (.int (bI r3) :: [])) rfl ?_
    refine lv_if_eq (tgt := 29) hx hb dX6_by_15 (by decide) (fun c4 => ?_) (fun c4 => ?_)
    · have hf := (if_pos c4).symm.trans hf
      refine lv_iconst (v := (-1)) hx hb dX6_by_29 (by decide) ?_
      replace hf := Option.some.inj hf
      subst hf
      exact ke_iret hE hw hQ dX6_by_30 rfl rfl
    · have hf := (if_neg c4).symm.trans hf
      refine lv_iload hx hb dX6_by_18 (lv_at hl 5 rfl) ?_
      refine lv_if_lt (tgt := 29) hx hb dX6_by_20 (by decide) (fun c5 => ?_) (fun c5 => ?_)
      · have hf := (if_pos c5).symm.trans hf
        refine lv_iconst (v := (-1)) hx hb dX6_by_29 (by decide) ?_
        replace hf := Option.some.inj hf
        subst hf
        exact ke_iret hE hw hQ dX6_by_30 rfl rfl
      · have hf := (if_neg c5).symm.trans hf
        refine lv_iload hx hb dX6_by_23 (lv_at hl 5 rfl) ?_
        refine lv_iconst (v := 2) hx hb dX6_by_25 (by decide) ?_
        refine lv_icmp_le (tgt := 31) hx hb dX6_by_26 (by decide) (fun c6 => ?_) (fun c6 => ?_)
        · have hf := (if_pos c6).symm.trans hf
          refine lv_aload_n hx hb dX6_by_31 rfl (lv_at hl 0 rfl) ?_
          refine lv_iload_n hx hb dX6_by_32 rfl (lv_at hl 1 rfl) ?_
          obtain ⟨r7, er7, hf⟩ := ks_bind hf
          refine ke_V hE hw hl.1 cl_X6_181 0 ltX_0 lyX_0 rfl [.int p1] (c_X6_work l D cA st ad a _ _ _ er7) rfl (ke_room hRm rfl rfl) ke_cnt (Nat.le_of_ble_eq_true rfl) rfl dX6_by_33 (fun H locs hw => ?_)
          refine W.eq (g2 := F0 m 36 ls ([])) rfl ?_
          refine lv_aload_n hx hb dX6_by_36 rfl (lv_at hl 0 rfl) ?_
          refine ks_getR hE hw 0 4 ltX_0 lyX_0 rfl fd_X6_36 dX6_by_37 ?_
          refine lv_iload_n hx hb dX6_by_40 rfl (lv_at hl 2 rfl) ?_
          refine lv_iload_n hx hb dX6_by_41 rfl (lv_at hl 3 rfl) ?_
          refine lv_iload hx hb dX6_by_42 (lv_at hl 4 rfl) ?_
          obtain ⟨r8, er8, hf⟩ := ks_nm hf
          refine ke_S hE hw hl.1 cl_X6_185 [.int p2, .int p3, .int p4] (c_X6_factNumber l D cA st ad a _ _ _ _ _ er8.symm) rfl (ke_room hRm rfl rfl) ke_cnt (Nat.le_of_ble_eq_true rfl) rfl dX6_by_44 (fun H locs hw => ?_)
          refine W.eq (g2 := F0 m 47 ls (.int r8 :: .ref (adr ad a 27) :: [])) rfl ?_
          refine lv_iload hx hb dX6_by_47 (lv_at hl 5 rfl) ?_
          obtain ⟨r9, er9, hf⟩ := ks_bind hf
          refine ke_V hE hw hl.1 cl_X6_192 27 ltX_27 lyX_27 rfl [.int r8, .int p5] (c_X1_step l D cA st ad a _ _ _ _ er9) rfl (ke_room hRm rfl rfl) ke_cnt (Nat.le_of_ble_eq_true rfl) rfl dX6_by_49 (fun H locs hw => ?_)
          refine W.eq (g2 := F0 m 52 ls (.int r9.1 :: [])) rfl ?_
          replace hf := Option.some.inj hf
          subst hf
          exact ke_iret hE hw hQ dX6_by_52 rfl rfl
        · have hf := (if_neg c6).symm.trans hf
          refine lv_iconst (v := (-1)) hx hb dX6_by_29 (by decide) ?_
          replace hf := Option.some.inj hf
          subst hf
          exact ke_iret hE hw hQ dX6_by_30 rfl rfl
def fX6_count (τ : Tau) (p1 : Int32) : Option Int32 :=
 (if p1 = (0 : Int32) then
 some (tI τ 0 5)
 else
 (if p1 = (1 : Int32) then
 some (tI τ 0 6)
 else
 (if p1 = (2 : Int32) then
 Option.bind (fX6_thingsAtHand τ) (fun r6 =>
 some r6)
 else
 (if p1 = (3 : Int32) then
 some (tI τ 14 1)
 else
 (if p1 = (4 : Int32) then
 Option.bind (fX6_plainSayings τ) (fun r7 =>
 some r7)
 else
 some (-1 : Int32))))))
set_option maxHeartbeats 4000000 in
set_option maxRecDepth 100000 in
theorem c_X6_count (l : Launch) (D : va_G) (cA : Nat → ClassId) (st ad : Nat → Nat) (a : Nat)  (τ : Tau) (p1 : Int32) (R : Int32) (hf : fX6_count τ p1 = some R) : KE ΛX 29 D cA st ad l yX6_count cX6_count 2 (some .int) 1 23 [.ref (adr ad a 0), .int p1] a τ (some (.int R)) τ := by
  refine KE.of "KindSayings" rfl (by decide) (Nat.le_of_ble_eq_true rfl) (fun p e s m args below meth c A ls Rm Q hE hRm hQ hw hl => ?_)
  obtain ⟨hx, hb, hml, hown, hts, -⟩ := id hE
  have hl : lv_has ls 2 [(0, .ref (adr ad a 0)), (1, .int p1)] := hl
  unfold fX6_count at hf
  refine lv_iload_n hx hb dX6_count_0 rfl (lv_at hl 1 rfl) ?_
  by_cases c1 : p1 = (0 : Int32)
  · have hf := (if_pos c1).symm.trans hf
    refine lv_tableIn (tgt := 36) hx hb dX6_count_1 (by rw [c1]; decide) (by rw [c1]; decide) (by rw [c1]; rfl) (by decide) ?_
    refine lv_aload_n hx hb dX6_count_36 rfl (lv_at hl 0 rfl) ?_
    refine ks_getI hE hw 0 5 ltX_0 lyX_0 rfl fd_X6_40 dX6_count_37 ?_
    replace hf := Option.some.inj hf
    subst hf
    exact ke_iret hE hw hQ dX6_count_40 rfl rfl
  · have hf := (if_neg c1).symm.trans hf
    by_cases c2 : p1 = (1 : Int32)
    · have hf := (if_pos c2).symm.trans hf
      refine lv_tableIn (tgt := 41) hx hb dX6_count_1 (by rw [c2]; decide) (by rw [c2]; decide) (by rw [c2]; rfl) (by decide) ?_
      refine lv_aload_n hx hb dX6_count_41 rfl (lv_at hl 0 rfl) ?_
      refine ks_getI hE hw 0 6 ltX_0 lyX_0 rfl fd_X6_44 dX6_count_42 ?_
      replace hf := Option.some.inj hf
      subst hf
      exact ke_iret hE hw hQ dX6_count_45 rfl rfl
    · have hf := (if_neg c2).symm.trans hf
      by_cases c3 : p1 = (2 : Int32)
      · have hf := (if_pos c3).symm.trans hf
        refine lv_tableIn (tgt := 46) hx hb dX6_count_1 (by rw [c3]; decide) (by rw [c3]; decide) (by rw [c3]; rfl) (by decide) ?_
        refine lv_aload_n hx hb dX6_count_46 rfl (lv_at hl 0 rfl) ?_
        obtain ⟨r6, er6, hf⟩ := ks_bind hf
        refine ke_V hE hw hl.1 cl_X6_69 0 ltX_0 lyX_0 rfl [] (c_X6_thingsAtHand l D cA st ad a _ _ er6) rfl (ke_room hRm rfl rfl) ke_cnt (Nat.le_of_ble_eq_true rfl) rfl dX6_count_47 (fun H locs hw => ?_)
        refine W.eq (g2 := F0 m 50 ls (.int r6 :: [])) rfl ?_
        replace hf := Option.some.inj hf
        subst hf
        exact ke_iret hE hw hQ dX6_count_50 rfl rfl
      · have hf := (if_neg c3).symm.trans hf
        by_cases c4 : p1 = (3 : Int32)
        · have hf := (if_pos c4).symm.trans hf
          refine lv_tableIn (tgt := 51) hx hb dX6_count_1 (by rw [c4]; decide) (by rw [c4]; decide) (by rw [c4]; rfl) (by decide) ?_
          refine lv_aload_n hx hb dX6_count_51 rfl (lv_at hl 0 rfl) ?_
          refine ks_getR hE hw 0 2 ltX_0 lyX_0 rfl fd_X6_22 dX6_count_52 ?_
          refine ks_getR hE hw 13 0 ltX_13 lyX_13 rfl fd_X6_87 dX6_count_55 ?_
          refine ks_getI hE hw 14 1 ltX_14 lyX_14 rfl fd_X6_91 dX6_count_58 ?_
          replace hf := Option.some.inj hf
          subst hf
          exact ke_iret hE hw hQ dX6_count_61 rfl rfl
        · have hf := (if_neg c4).symm.trans hf
          by_cases c5 : p1 = (4 : Int32)
          · have hf := (if_pos c5).symm.trans hf
            refine lv_tableIn (tgt := 62) hx hb dX6_count_1 (by rw [c5]; decide) (by rw [c5]; decide) (by rw [c5]; rfl) (by decide) ?_
            refine lv_aload_n hx hb dX6_count_62 rfl (lv_at hl 0 rfl) ?_
            obtain ⟨r7, er7, hf⟩ := ks_bind hf
            refine ke_V hE hw hl.1 cl_X6_220 0 ltX_0 lyX_0 rfl [] (c_X6_plainSayings l D cA st ad a _ _ er7) rfl (ke_room hRm rfl rfl) ke_cnt (Nat.le_of_ble_eq_true rfl) rfl dX6_count_63 (fun H locs hw => ?_)
            refine W.eq (g2 := F0 m 66 ls (.int r7 :: [])) rfl ?_
            replace hf := Option.some.inj hf
            subst hf
            exact ke_iret hE hw hQ dX6_count_66 rfl rfl
          · have hf := (if_neg c5).symm.trans hf
            refine lv_tableOut (tgt := 67) hx hb dX6_count_1 (by have := ks_sw c1 (k := 0) (by decide); have := ks_sw c2 (k := 1) (by decide); have := ks_sw c3 (k := 2) (by decide); have := ks_sw c4 (k := 3) (by decide); have := ks_sw c5 (k := 4) (by decide); omega) (by decide) ?_
            refine lv_iconst (v := (-1)) hx hb dX6_count_67 (by decide) ?_
            replace hf := Option.some.inj hf
            subst hf
            exact ke_iret hE hw hQ dX6_count_68 rfl rfl
