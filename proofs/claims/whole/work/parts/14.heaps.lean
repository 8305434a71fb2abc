def fX0_witnessOf_57 (p1 : Int32) (k4 : Int64 → Int32 → Option Int64) (x_1 : Int64) (x_3 : Int32) : Option Int64 :=
 nm (x_3 + (1 : Int32)) (fun x10 =>
     k4 x_1 x10)
def fX0_witnessOf_42 (p1 : Int32) (k4 : Int64 → Int32 → Option Int64) (k12 : Int64 → Int32 → Int32 → Option Int64) (x_3 : Int32) (x_4 : Int32) (z_0 : Int32) (z_1 : Int64) (z_2 : Int64) : Option Int64 :=
 nm (fX6_factNumber z_0 x_3 x_4) (fun r7 =>
     nm (z_2 ||| (z_1 <<< (r7.toInt64 &&& 63))) (fun x8 =>
     nm (x_4 + (1 : Int32)) (fun x9 =>
     k12 x8 x_3 x9)))
def fX0_witnessOf_12 (p1 : Int32) (k4 : Int64 → Int32 → Option Int64) : Nat → Int64 → Int32 → Int32 → Option Int64
  | 0, _, _, _ => none
  | n + 1, x_1, x_3, x_4 =>
     (if (4 : Int32) ≤ x_4 then
     fX0_witnessOf_57 p1 k4 x_1 x_3
     else
     nm (fX6_has p1 x_3) (fun r3 =>
     (if bI r3 = 0 then
     fX0_witnessOf_57 p1 k4 x_1 x_3
     else
     nm (fX6_has p1 x_4) (fun r5 =>
     (if bI r5 = 0 then
     fX0_witnessOf_42 p1 k4 (fX0_witnessOf_12 p1 k4 n) x_3 x_4 (3 : Int32) (1 : Int64) x_1
     else
     fX0_witnessOf_42 p1 k4 (fX0_witnessOf_12 p1 k4 n) x_3 x_4 (1 : Int32) (1 : Int64) x_1)))))
def fX0_witnessOf_4 (p1 : Int32) : Nat → Int64 → Int32 → Option Int64
  | 0, _, _ => none
  | n + 1, x_1, x_3 =>
     (if (4 : Int32) ≤ x_3 then
     some x_1
     else
     fX0_witnessOf_12 p1 (fX0_witnessOf_4 p1 n) FU x_1 x_3 (0 : Int32))
def fX0_witnessOf  (p1 : Int32) : Option Int64 :=
 fX0_witnessOf_4 p1 FU (0 : Int64) (0 : Int32)
set_option maxHeartbeats 4000000 in
set_option maxRecDepth 100000 in
theorem c_X0_witnessOf (l : Launch) (D : va_G) (cA : Nat → ClassId) (st ad : Nat → Nat) (a : Nat)  (τ : Tau) (p1 : Int32) (R : Int64) (hf : fX0_witnessOf p1 = some R) : KE ΛX 29 D cA st ad l yX0_witnessOf cX0_witnessOf 5 (some .long) 1 22 [.int p1] a τ (some (.long R)) τ := by
  refine KE.of "KindSayings$Heaps" rfl (by decide) (Nat.le_of_ble_eq_true rfl) (fun p e s m args below meth c A ls Rm Q hE hRm hQ hw hl => ?_)
  obtain ⟨hx, hb, hml, hown, hts, -⟩ := id hE
  have hl : lv_has ls 5 [(0, .int p1)] := hl
  have L4 : ∀ (n4 : Nat) (x_1 : Int64) (x_3 : Int32) (H : Heap) (locs : List Loc) (ls : Array Slot), fX0_witnessOf_4 p1 n4 x_1 x_3 = some R → Wd ΛX 29 D cA ad A s a τ H locs → lv_has ls 5 [(0, .int p1), (1, .long x_1), (3, .int x_3)] → W p l e Rm s m args below meth c H locs 0 0 Q (F0 m 4 ls []) := by
    intro n4
    induction n4 with
    | zero => intro x_1 x_3 H locs ls hf hw hl; exact absurd hf (by rw [fX0_witnessOf_4]; simp)
    | succ n4 ih4 =>
      have L57 : ∀ (x_1 : Int64) (x_3 : Int32) (H : Heap) (locs : List Loc) (ls : Array Slot), fX0_witnessOf_57 p1 (fX0_witnessOf_4 p1 n4) x_1 x_3 = some R → Wd ΛX 29 D cA ad A s a τ H locs → lv_has ls 5 [(0, .int p1), (1, .long x_1), (3, .int x_3)] → W p l e Rm s m args below meth c H locs 0 0 Q (F0 m 57 ls []) := by
        intro x_1 x_3 H locs ls hf hw hl
        unfold fX0_witnessOf_57 at hf
        obtain ⟨x10, ex10, hf⟩ := ks_nm hf
        refine lv_iinc (v := x10) (lv' := [(3, .int x10), (0, .int p1), (1, .long x_1)]) hx hb dX0_witnessOf_57 hl (k := 2) rfl (by rw [ex10]; rfl) (by decide) rfl (fun ls hl => ?_)
        refine lv_goto (tgt := 4) hx hb dX0_witnessOf_60 (by decide) ?_
        exact ih4 _ _ _ _ _ hf hw (lv_sub hl [1, 2, 0] rfl)
      have L12 : ∀ (n12 : Nat) (x_1 : Int64) (x_3 : Int32) (x_4 : Int32) (H : Heap) (locs : List Loc) (ls : Array Slot), fX0_witnessOf_12 p1 (fX0_witnessOf_4 p1 n4) n12 x_1 x_3 x_4 = some R → Wd ΛX 29 D cA ad A s a τ H locs → lv_has ls 5 [(0, .int p1), (1, .long x_1), (3, .int x_3), (4, .int x_4)] → W p l e Rm s m args below meth c H locs 0 0 Q (F0 m 12 ls []) := by
        intro n12
        induction n12 with
        | zero => intro x_1 x_3 x_4 H locs ls hf hw hl; exact absurd hf (by rw [fX0_witnessOf_12]; simp)
        | succ n12 ih12 =>
          have L42 : ∀ (x_3 : Int32) (x_4 : Int32) (z_0 : Int32) (z_1 : Int64) (z_2 : Int64) (H : Heap) (locs : List Loc) (ls : Array Slot), fX0_witnessOf_42 p1 (fX0_witnessOf_4 p1 n4) (fX0_witnessOf_12 p1 (fX0_witnessOf_4 p1 n4) n12) x_3 x_4 z_0 z_1 z_2 = some R → Wd ΛX 29 D cA ad A s a τ H locs → lv_has ls 5 [(0, .int p1), (3, .int x_3), (4, .int x_4)] → W p l e Rm s m args below meth c H locs 0 0 Q (F0 m 42 ls [.int z_0, .long z_1, .long z_2]) := by
            intro x_3 x_4 z_0 z_1 z_2 H locs ls hf hw hl
            unfold fX0_witnessOf_42 at hf
            refine lv_iload_n hx hb dX0_witnessOf_42 rfl (lv_at hl 1 rfl) ?_
            refine lv_iload hx hb dX0_witnessOf_43 (lv_at hl 2 rfl) ?_
            obtain ⟨r7, er7, hf⟩ := ks_nm hf
            refine ke_SN hE hw hl.1 cl_X0_44 [.int z_0, .int x_3, .int x_4] (c_X6_factNumber l D cA st ad a _ _ _ _ _ er7.symm) rfl (ke_room hRm rfl rfl) ke_cnt (Nat.le_of_ble_eq_true rfl) rfl dX0_witnessOf_45 (fun H locs hw => ?_)
            refine W.eq (g2 := F0 m 48 ls (.int r7 :: .long z_1 :: .long z_2 :: [])) rfl ?_
            refine lv_lshl hx hb dX0_witnessOf_48 rfl ?_
            refine lv_lor hx hb dX0_witnessOf_49 ?_
            obtain ⟨x8, ex8, hf⟩ := ks_nm hf
            refine W.eq (g2 := F0 m 50 ls (.long x8 :: [])) (by rw [ex8]) ?_
            refine lv_lstore_n (lv' := [(1, .long x8), (0, .int p1), (3, .int x_3), (4, .int x_4)]) hx hb dX0_witnessOf_50 rfl hl (by decide) rfl (fun ls hl => ?_)
            obtain ⟨x9, ex9, hf⟩ := ks_nm hf
            refine lv_iinc (v := x9) (lv' := [(4, .int x9), (1, .long x8), (0, .int p1), (3, .int x_3)]) hx hb dX0_witnessOf_51 hl (k := 3) rfl (by rw [ex9]; rfl) (by decide) rfl (fun ls hl => ?_)
            refine lv_goto (tgt := 12) hx hb dX0_witnessOf_54 (by decide) ?_
            exact ih12 _ _ _ _ _ _ hf hw (lv_sub hl [2, 1, 3, 0] rfl)
          intro x_1 x_3 x_4 H locs ls hf hw hl
          rw [fX0_witnessOf_12] at hf
          refine lv_iload hx hb dX0_witnessOf_12 (lv_at hl 3 rfl) ?_
          refine lv_iconst (v := 4) hx hb dX0_witnessOf_14 (by decide) ?_
          refine lv_icmp_ge (tgt := 57) hx hb dX0_witnessOf_15 (by decide) (fun c2 => ?_) (fun c2 => ?_)
          · have hf := (if_pos c2).symm.trans hf
            exact L57 _ _ _ _ _ hf hw (lv_sub hl [0, 1, 2] rfl)
          · have hf := (if_neg c2).symm.trans hf
            refine lv_iload_n hx hb dX0_witnessOf_18 rfl (lv_at hl 0 rfl) ?_
            refine lv_iload_n hx hb dX0_witnessOf_19 rfl (lv_at hl 2 rfl) ?_
            obtain ⟨r3, er3, hf⟩ := ks_nm hf
            refine ke_SN hE hw hl.1 cl_X0_40 [.int p1, .int x_3] (c_X6_has l D cA st ad a _ _ _ _ er3.symm) rfl (ke_room hRm rfl rfl) ke_cnt (Nat.le_of_ble_eq_true rfl) rfl dX0_witnessOf_20 (fun H locs hw => ?_)
            refine W.eq (g2 := F0 m 23 ls (.int (bI r3) :: [])) rfl ?_
            refine lv_if_eq (tgt := 57) hx hb dX0_witnessOf_23 (by decide) (fun c4 => ?_) (fun c4 => ?_)
            · have hf := (if_pos c4).symm.trans hf
              exact L57 _ _ _ _ _ hf hw (lv_sub hl [0, 1, 2] rfl)
            · have hf := (if_neg c4).symm.trans hf
              refine lv_lload_n hx hb dX0_witnessOf_26 rfl (lv_at hl 1 rfl) ?_
              refine lv_lconst (v := 1) hx hb dX0_witnessOf_27 (by decide) ?_
              refine lv_iload_n hx hb dX0_witnessOf_28 rfl (lv_at hl 0 rfl) ?_
              refine lv_iload hx hb dX0_witnessOf_29 (lv_at hl 3 rfl) ?_
              obtain ⟨r5, er5, hf⟩ := ks_nm hf
              refine ke_SN hE hw hl.1 cl_X0_40 [.int p1, .int x_4] (c_X6_has l D cA st ad a _ _ _ _ er5.symm) rfl (ke_room hRm rfl rfl) ke_cnt (Nat.le_of_ble_eq_true rfl) rfl dX0_witnessOf_31 (fun H locs hw => ?_)
              refine W.eq (g2 := F0 m 34 ls (.int (bI r5) :: .long (1 : Int64) :: .long x_1 :: [])) rfl ?_
              refine lv_if_eq (tgt := 41) hx hb dX0_witnessOf_34 (by decide) (fun c6 => ?_) (fun c6 => ?_)
              · have hf := (if_pos c6).symm.trans hf
                refine lv_iconst (v := 3) hx hb dX0_witnessOf_41 (by decide) ?_
                exact L42 _ _ _ _ _ _ _ _ hf hw (lv_sub hl [0, 2, 3] rfl)
              · have hf := (if_neg c6).symm.trans hf
                refine lv_iconst (v := 1) hx hb dX0_witnessOf_37 (by decide) ?_
                refine lv_goto (tgt := 42) hx hb dX0_witnessOf_38 (by decide) ?_
                exact L42 _ _ _ _ _ _ _ _ hf hw (lv_sub hl [0, 2, 3] rfl)
      intro x_1 x_3 H locs ls hf hw hl
      rw [fX0_witnessOf_4] at hf
      refine lv_iload_n hx hb dX0_witnessOf_4 rfl (lv_at hl 2 rfl) ?_
      refine lv_iconst (v := 4) hx hb dX0_witnessOf_5 (by decide) ?_
      refine lv_icmp_ge (tgt := 63) hx hb dX0_witnessOf_6 (by decide) (fun c1 => ?_) (fun c1 => ?_)
      · have hf := (if_pos c1).symm.trans hf
        refine lv_lload_n hx hb dX0_witnessOf_63 rfl (lv_at hl 1 rfl) ?_
        replace hf := Option.some.inj hf
        subst hf
        exact ke_lret hE hw hQ dX0_witnessOf_64 rfl rfl
      · have hf := (if_neg c1).symm.trans hf
        refine lv_iconst (v := 0) hx hb dX0_witnessOf_9 (by decide) ?_
        refine lv_istore (lv' := [(4, .int (0 : Int32)), (0, .int p1), (1, .long x_1), (3, .int x_3)]) hx hb dX0_witnessOf_10 hl (by decide) rfl (fun ls hl => ?_)
        exact L12 FU _ _ _ _ _ _ hf hw (lv_sub hl [1, 2, 3, 0] rfl)
  unfold fX0_witnessOf at hf
  refine lv_lconst (v := 0) hx hb dX0_witnessOf_0 (by decide) ?_
  refine lv_lstore_n (lv' := [(1, .long (0 : Int64)), (0, .int p1)]) hx hb dX0_witnessOf_1 rfl hl (by decide) rfl (fun ls hl => ?_)
  refine lv_iconst (v := 0) hx hb dX0_witnessOf_2 (by decide) ?_
  refine lv_istore_n (lv' := [(3, .int (0 : Int32)), (1, .long (0 : Int64)), (0, .int p1)]) hx hb dX0_witnessOf_3 rfl hl (by decide) rfl (fun ls hl => ?_)
  exact L4 FU _ _ _ _ _ hf hw (lv_sub hl [2, 1, 0] rfl)
def fX0_choose_4 (p1 : Int32) (p2 : Int32) : Nat → Int32 → Int32 → Option Int32
  | 0, _, _ => none
  | n + 1, x_2, x_3 =>
     (if p2 < x_3 then
     some x_2
     else
     (if x_3 = 0 then none else
     nm ((x_2 * ((p1 - p2) + x_3)) / x_3) (fun x3 =>
     nm (x_3 + (1 : Int32)) (fun x4 =>
     fX0_choose_4 p1 p2 n x3 x4))))
def fX0_choose  (p1 : Int32) (p2 : Int32) : Option Int32 :=
 fX0_choose_4 p1 p2 FU (1 : Int32) (1 : Int32)
set_option maxHeartbeats 4000000 in
set_option maxRecDepth 100000 in
theorem c_X0_choose (l : Launch) (D : va_G) (cA : Nat → ClassId) (st ad : Nat → Nat) (a : Nat)  (τ : Tau) (p1 : Int32) (p2 : Int32) (R : Int32) (hf : fX0_choose p1 p2 = some R) : KE ΛX 29 D cA st ad l yX0_choose cX0_choose 4 (some .int) 0 0 [.int p1, .int p2] a τ (some (.int R)) τ := by
  refine KE.of "KindSayings$Heaps" rfl (by decide) (Nat.le_of_ble_eq_true rfl) (fun p e s m args below meth c A ls Rm Q hE hRm hQ hw hl => ?_)
  obtain ⟨hx, hb, hml, hown, hts, -⟩ := id hE
  have hl : lv_has ls 4 [(0, .int p1), (1, .int p2)] := hl
  have L4 : ∀ (n4 : Nat) (x_2 : Int32) (x_3 : Int32) (H : Heap) (locs : List Loc) (ls : Array Slot), fX0_choose_4 p1 p2 n4 x_2 x_3 = some R → Wd ΛX 29 D cA ad A s a τ H locs → lv_has ls 4 [(0, .int p1), (1, .int p2), (2, .int x_2), (3, .int x_3)] → W p l e Rm s m args below meth c H locs 0 0 Q (F0 m 4 ls []) := by
    intro n4
    induction n4 with
    | zero => intro x_2 x_3 H locs ls hf hw hl; exact absurd hf (by rw [fX0_choose_4]; simp)
    | succ n4 ih4 =>
      intro x_2 x_3 H locs ls hf hw hl
      rw [fX0_choose_4] at hf
      refine lv_iload_n hx hb dX0_choose_4 rfl (lv_at hl 3 rfl) ?_
      refine lv_iload_n hx hb dX0_choose_5 rfl (lv_at hl 1 rfl) ?_
      refine lv_icmp_gt (tgt := 25) hx hb dX0_choose_6 (by decide) (fun c1 => ?_) (fun c1 => ?_)
      · have hf := (if_pos c1).symm.trans hf
        refine lv_iload_n hx hb dX0_choose_25 rfl (lv_at hl 2 rfl) ?_
        replace hf := Option.some.inj hf
        subst hf
        exact ke_iret hE hw hQ dX0_choose_26 rfl rfl
      · have hf := (if_neg c1).symm.trans hf
        refine lv_iload_n hx hb dX0_choose_9 rfl (lv_at hl 2 rfl) ?_
        refine lv_iload_n hx hb dX0_choose_10 rfl (lv_at hl 0 rfl) ?_
        refine lv_iload_n hx hb dX0_choose_11 rfl (lv_at hl 1 rfl) ?_
        refine lv_isub hx hb dX0_choose_12 ?_
        refine lv_iload_n hx hb dX0_choose_13 rfl (lv_at hl 3 rfl) ?_
        refine lv_iadd hx hb dX0_choose_14 ?_
        refine lv_imul hx hb dX0_choose_15 ?_
        refine lv_iload_n hx hb dX0_choose_16 rfl (lv_at hl 3 rfl) ?_
        obtain ⟨b2, hf⟩ := ks_ok hf
        refine lv_idiv hx hb dX0_choose_17 b2 ?_
        obtain ⟨x3, ex3, hf⟩ := ks_nm hf
        refine W.eq (g2 := F0 m 18 ls (.int x3 :: [])) (by rw [ex3]) ?_
        refine lv_istore_n (lv' := [(2, .int x3), (0, .int p1), (1, .int p2), (3, .int x_3)]) hx hb dX0_choose_18 rfl hl (by decide) rfl (fun ls hl => ?_)
        obtain ⟨x4, ex4, hf⟩ := ks_nm hf
        refine lv_iinc (v := x4) (lv' := [(3, .int x4), (2, .int x3), (0, .int p1), (1, .int p2)]) hx hb dX0_choose_19 hl (k := 3) rfl (by rw [ex4]; rfl) (by decide) rfl (fun ls hl => ?_)
        refine lv_goto (tgt := 4) hx hb dX0_choose_22 (by decide) ?_
        exact ih4 _ _ _ _ _ hf hw (lv_sub hl [2, 3, 1, 0] rfl)
  unfold fX0_choose at hf
  refine lv_iconst (v := 1) hx hb dX0_choose_0 (by decide) ?_
  refine lv_istore_n (lv' := [(2, .int (1 : Int32)), (0, .int p1), (1, .int p2)]) hx hb dX0_choose_1 rfl hl (by decide) rfl (fun ls hl => ?_)
  refine lv_iconst (v := 1) hx hb dX0_choose_2 (by decide) ?_
  refine lv_istore_n (lv' := [(3, .int (1 : Int32)), (2, .int (1 : Int32)), (0, .int p1), (1, .int p2)]) hx hb dX0_choose_3 rfl hl (by decide) rfl (fun ls hl => ?_)
  exact L4 FU _ _ _ _ _ hf hw (lv_sub hl [2, 3, 1, 0] rfl)
def fX0_rowsOf  (p1 : Int32) (p2 : Int32) : Option Int32 :=
 Option.bind (fX0_choose ((p1 + p2) - (1 : Int32)) p2) (fun r1 =>
 some r1)
set_option maxHeartbeats 4000000 in
set_option maxRecDepth 100000 in
theorem c_X0_rowsOf (l : Launch) (D : va_G) (cA : Nat → ClassId) (st ad : Nat → Nat) (a : Nat)  (τ : Tau) (p1 : Int32) (p2 : Int32) (R : Int32) (hf : fX0_rowsOf p1 p2 = some R) : KE ΛX 29 D cA st ad l yX0_rowsOf cX0_rowsOf 2 (some .int) 1 23 [.int p1, .int p2] a τ (some (.int R)) τ := by
  refine KE.of "KindSayings$Heaps" rfl (by decide) (Nat.le_of_ble_eq_true rfl) (fun p e s m args below meth c A ls Rm Q hE hRm hQ hw hl => ?_)
  obtain ⟨hx, hb, hml, hown, hts, -⟩ := id hE
  have hl : lv_has ls 2 [(0, .int p1), (1, .int p2)] := hl
  unfold fX0_rowsOf at hf
  refine lv_iload_n hx hb dX0_rowsOf_0 rfl (lv_at hl 0 rfl) ?_
  refine lv_iload_n hx hb dX0_rowsOf_1 rfl (lv_at hl 1 rfl) ?_
  refine lv_iadd hx hb dX0_rowsOf_2 ?_
  refine lv_iconst (v := 1) hx hb dX0_rowsOf_3 (by decide) ?_
  refine lv_isub hx hb dX0_rowsOf_4 ?_
  refine lv_iload_n hx hb dX0_rowsOf_5 rfl (lv_at hl 1 rfl) ?_
  obtain ⟨r1, er1, hf⟩ := ks_bind hf
  refine ke_S hE hw hl.1 cl_X0_55 [.int ((p1 + p2) - (1 : Int32)), .int p2] (c_X0_choose l D cA st ad a _ _ _ _ er1) rfl (ke_room hRm rfl rfl) ke_cnt (Nat.le_of_ble_eq_true rfl) rfl dX0_rowsOf_6 (fun H locs hw => ?_)
  refine W.eq (g2 := F0 m 9 ls (.int r1 :: [])) rfl ?_
  replace hf := Option.some.inj hf
  subst hf
  exact ke_iret hE hw hQ dX0_rowsOf_9 rfl rfl
def fX0_shape  (τ : Tau) (p1 : Int32) (p2 : Int32) : Option Tau :=
 nm (sI τ 17 6 p1) (fun t1 =>
 nm (sI t1 17 7 p2) (fun t2 =>
 Option.bind (fX0_choose (tI t2 17 6 + tI t2 17 7) (tI t2 17 7)) (fun r3 =>
 nm (sI t2 17 8 r3) (fun t4 =>
 nm (sI t4 17 9 (1023 : Int32)) (fun t5 =>
 some t5)))))
set_option maxHeartbeats 4000000 in
set_option maxRecDepth 100000 in
theorem c_X0_shape (l : Launch) (D : va_G) (cA : Nat → ClassId) (st ad : Nat → Nat) (a : Nat)  (τ : Tau) (p1 : Int32) (p2 : Int32) (R : Tau) (hf : fX0_shape τ p1 p2 = some R) : KE ΛX 29 D cA st ad l yX0_shape cX0_shape 3 none 1 23 [.ref (adr ad a 17), .int p1, .int p2] a τ (none) R := by
  refine KE.of "KindSayings$Heaps" rfl (by decide) (Nat.le_of_ble_eq_true rfl) (fun p e s m args below meth c A ls Rm Q hE hRm hQ hw hl => ?_)
  obtain ⟨hx, hb, hml, hown, hts, -⟩ := id hE
  have hl : lv_has ls 3 [(0, .ref (adr ad a 17)), (1, .int p1), (2, .int p2)] := hl
  unfold fX0_shape at hf
  refine lv_aload_n hx hb dX0_shape_0 rfl (lv_at hl 0 rfl) ?_
  refine lv_iload_n hx hb dX0_shape_1 rfl (lv_at hl 1 rfl) ?_
  obtain ⟨t1, et1, hf⟩ := ks_nm hf
  refine ks_putI hE hw 17 6 ltX_17 lyX_17 rfl fw_X0_48 rfl rfl dX0_shape_2 (fun H locs hw => ?_)
  rw [← et1] at hw
  refine lv_aload_n hx hb dX0_shape_5 rfl (lv_at hl 0 rfl) ?_
  refine lv_iload_n hx hb dX0_shape_6 rfl (lv_at hl 2 rfl) ?_
  obtain ⟨t2, et2, hf⟩ := ks_nm hf
  refine ks_putI hE hw 17 7 ltX_17 lyX_17 rfl fw_X0_52 rfl rfl dX0_shape_7 (fun H locs hw => ?_)
  rw [← et2] at hw
  refine lv_aload_n hx hb dX0_shape_10 rfl (lv_at hl 0 rfl) ?_
  refine lv_aload_n hx hb dX0_shape_11 rfl (lv_at hl 0 rfl) ?_
  refine ks_getI hE hw 17 6 ltX_17 lyX_17 rfl fd_X0_48 dX0_shape_12 ?_
  refine lv_aload_n hx hb dX0_shape_15 rfl (lv_at hl 0 rfl) ?_
  refine ks_getI hE hw 17 7 ltX_17 lyX_17 rfl fd_X0_52 dX0_shape_16 ?_
  refine lv_iadd hx hb dX0_shape_19 ?_
  refine lv_aload_n hx hb dX0_shape_20 rfl (lv_at hl 0 rfl) ?_
  refine ks_getI hE hw 17 7 ltX_17 lyX_17 rfl fd_X0_52 dX0_shape_21 ?_
  obtain ⟨r3, er3, hf⟩ := ks_bind hf
  refine ke_S hE hw hl.1 cl_X0_55 [.int (tI t2 17 6 + tI t2 17 7), .int (tI t2 17 7)] (c_X0_choose l D cA st ad a _ _ _ _ er3) rfl (ke_room hRm rfl rfl) ke_cnt (Nat.le_of_ble_eq_true rfl) rfl dX0_shape_24 (fun H locs hw => ?_)
  refine W.eq (g2 := F0 m 27 ls (.int r3 :: .ref (adr ad a 17) :: [])) rfl ?_
  obtain ⟨t4, et4, hf⟩ := ks_nm hf
  refine ks_putI hE hw 17 8 ltX_17 lyX_17 rfl fw_X0_59 rfl rfl dX0_shape_27 (fun H locs hw => ?_)
  rw [← et4] at hw
  refine lv_aload_n hx hb dX0_shape_30 rfl (lv_at hl 0 rfl) ?_
  refine lv_sipush (v := 1023) hx hb dX0_shape_31 (by decide) ?_
  obtain ⟨t5, et5, hf⟩ := ks_nm hf
  refine ks_putI hE hw 17 9 ltX_17 lyX_17 rfl fw_X0_62 rfl rfl dX0_shape_34 (fun H locs hw => ?_)
  rw [← et5] at hw
  replace hf := Option.some.inj hf
  subst hf
  exact ke_vret hE hw hQ dX0_shape_37 rfl
def fX0_likes_41 (q2 : Nat) (τ : Tau) (k4 : Int32 → Int32 → Option Int32) (x_2 : Int32) (x_3 : Int32) : Option Int32 :=
 nm (x_3 + (1 : Int32)) (fun x7 =>
     k4 x_2 x7)
def fX0_likes_4 (q2 : Nat) (τ : Tau) : Nat → Int32 → Int32 → Option Int32
  | 0, _, _ => none
  | n + 1, x_2, x_3 =>
     (if (10 : Int32) ≤ x_3 then
     some x_2
     else
     (if (10 : Int32) ≤ x_3 then
     some x_2
     else
     (if x_3 < 0 ∨ 10 ≤ x_3.toNatClampNeg then none else
     nm (fX3_isLike q2 (x_3.toNatClampNeg + 2) τ) (fun r4 =>
     (if bI r4 = 0 then
     fX0_likes_41 q2 τ (fX0_likes_4 q2 τ n) x_2 x_3
     else
     nm (x_2 ||| ((1 : Int32) <<< (x_3 &&& 31))) (fun x6 =>
     fX0_likes_41 q2 τ (fX0_likes_4 q2 τ n) x6 x_3))))))
def fX0_likes (q2 : Nat) (τ : Tau) : Option Int32 :=
 fX0_likes_4 q2 τ FU (0 : Int32) (0 : Int32)
set_option maxHeartbeats 4000000 in
set_option maxRecDepth 100000 in
theorem c_X0_likes (l : Launch) (D : va_G) (cA : Nat → ClassId) (st ad : Nat → Nat) (a : Nat) (q2 : Nat) (τ : Tau) (R : Int32) (hq2 : isSay q2) (hf : fX0_likes q2 τ = some R) : KE ΛX 29 D cA st ad l yX0_likes cX0_likes 5 (some .int) 1 21 [.ref (adr ad a 1), .ref (adr ad a q2)] a τ (some (.int R)) τ := by
  refine KE.of "KindSayings$Heaps" rfl (by decide) (Nat.le_of_ble_eq_true rfl) (fun p e s m args below meth c A ls Rm Q hE hRm hQ hw hl => ?_)
  obtain ⟨hx, hb, hml, hown, hts, -⟩ := id hE
  have hl : lv_has ls 5 [(0, .ref (adr ad a 1)), (1, .ref (adr ad a q2))] := hl
  have L4 : ∀ (n4 : Nat) (x_2 : Int32) (x_3 : Int32) (H : Heap) (locs : List Loc) (ls : Array Slot), fX0_likes_4 q2 τ n4 x_2 x_3 = some R → Wd ΛX 29 D cA ad A s a τ H locs → lv_has ls 5 [(0, .ref (adr ad a 1)), (1, .ref (adr ad a q2)), (2, .int x_2), (3, .int x_3)] → W p l e Rm s m args below meth c H locs 0 0 Q (F0 m 4 ls []) := by
    intro n4
    induction n4 with
    | zero => intro x_2 x_3 H locs ls hf hw hl; exact absurd hf (by rw [fX0_likes_4]; simp)
    | succ n4 ih4 =>
      have L41 : ∀ (x_2 : Int32) (x_3 : Int32) (H : Heap) (locs : List Loc) (ls : Array Slot), fX0_likes_41 q2 τ (fX0_likes_4 q2 τ n4) x_2 x_3 = some R → Wd ΛX 29 D cA ad A s a τ H locs → lv_has ls 5 [(0, .ref (adr ad a 1)), (1, .ref (adr ad a q2)), (2, .int x_2), (3, .int x_3)] → W p l e Rm s m args below meth c H locs 0 0 Q (F0 m 41 ls []) := by
        intro x_2 x_3 H locs ls hf hw hl
        unfold fX0_likes_41 at hf
        obtain ⟨x7, ex7, hf⟩ := ks_nm hf
        refine lv_iinc (v := x7) (lv' := [(3, .int x7), (0, .ref (adr ad a 1)), (1, .ref (adr ad a q2)), (2, .int x_2)]) hx hb dX0_likes_41 hl (k := 3) rfl (by rw [ex7]; rfl) (by decide) rfl (fun ls hl => ?_)
        refine lv_goto (tgt := 4) hx hb dX0_likes_44 (by decide) ?_
        exact ih4 _ _ _ _ _ hf hw (lv_sub hl [1, 2, 3, 0] rfl)
      intro x_2 x_3 H locs ls hf hw hl
      rw [fX0_likes_4] at hf
      refine lv_iload_n hx hb dX0_likes_4 rfl (lv_at hl 3 rfl) ?_
      refine lv_aload_n hx hb dX0_likes_5 rfl (lv_at hl 0 rfl) ?_
      refine ks_alen hE hw 1 ltX_1 lyX_1 rfl 10 rfl dX0_likes_6 ?_
      refine lv_icmp_ge (tgt := 47) hx hb dX0_likes_7 (by decide) (fun c1 => ?_) (fun c1 => ?_)
      · have hf := (if_pos c1).symm.trans hf
        refine lv_iload_n hx hb dX0_likes_47 rfl (lv_at hl 2 rfl) ?_
        replace hf := Option.some.inj hf
        subst hf
        exact ke_iret hE hw hQ dX0_likes_48 rfl rfl
      · have hf := (if_neg c1).symm.trans hf
        refine lv_iload_n hx hb dX0_likes_10 rfl (lv_at hl 3 rfl) ?_
        refine lv_bipush (v := 10) hx hb dX0_likes_11 (by decide) ?_
        refine lv_icmp_ge (tgt := 47) hx hb dX0_likes_13 (by decide) (fun c2 => ?_) (fun c2 => ?_)
        · have hf := (if_pos c2).symm.trans hf
          refine lv_iload_n hx hb dX0_likes_47 rfl (lv_at hl 2 rfl) ?_
          replace hf := Option.some.inj hf
          subst hf
          exact ke_iret hE hw hQ dX0_likes_48 rfl rfl
        · have hf := (if_neg c2).symm.trans hf
          refine lv_aload_n hx hb dX0_likes_16 rfl (lv_at hl 0 rfl) ?_
          refine lv_iload_n hx hb dX0_likes_17 rfl (lv_at hl 3 rfl) ?_
          obtain ⟨b3, hf⟩ := ks_ok hf
          refine ks_aald hE hw 1 ltX_1 lyX_1 b3 dX0_likes_18 ?_
          refine lv_astore (lv' := [(4, .ref (adr ad a (x_3.toNatClampNeg + 2))), (0, .ref (adr ad a 1)), (1, .ref (adr ad a q2)), (2, .int x_2), (3, .int x_3)]) hx hb dX0_likes_19 hl (by decide) rfl (fun ls hl => ?_)
          refine lv_aload hx hb dX0_likes_21 (lv_at hl 0 rfl) ?_
          refine lv_ifnull hx hb dX0_likes_23 ?_
          refine lv_aload_n hx hb dX0_likes_26 rfl (lv_at hl 2 rfl) ?_
          refine lv_aload hx hb dX0_likes_27 (lv_at hl 0 rfl) ?_
          obtain ⟨r4, er4, hf⟩ := ks_nm hf
          refine ke_V hE hw hl.1 cl_X0_79 q2 (say_lt hq2) (say_lay hq2) rfl [.ref (adr ad a (x_3.toNatClampNeg + 2))] (c_X3_isLike l D cA st ad a _ _ _ _ hq2 (say_at b3) er4.symm) rfl (ke_room hRm rfl rfl) ke_cnt (Nat.le_of_ble_eq_true rfl) rfl dX0_likes_29 (fun H locs hw => ?_)
          refine W.eq (g2 := F0 m 32 ls (.int (bI r4) :: [])) rfl ?_
          refine lv_if_eq (tgt := 41) hx hb dX0_likes_32 (by decide) (fun c5 => ?_) (fun c5 => ?_)
          · have hf := (if_pos c5).symm.trans hf
            exact L41 _ _ _ _ _ hf hw (lv_sub hl [1, 2, 3, 4] rfl)
          · have hf := (if_neg c5).symm.trans hf
            refine lv_iload_n hx hb dX0_likes_35 rfl (lv_at hl 3 rfl) ?_
            refine lv_iconst (v := 1) hx hb dX0_likes_36 (by decide) ?_
            refine lv_iload_n hx hb dX0_likes_37 rfl (lv_at hl 4 rfl) ?_
            refine lv_ishl hx hb dX0_likes_38 ?_
            refine lv_ior hx hb dX0_likes_39 ?_
            obtain ⟨x6, ex6, hf⟩ := ks_nm hf
            refine W.eq (g2 := F0 m 40 ls (.int x6 :: [])) (by rw [ex6]) ?_
            refine lv_istore_n (lv' := [(2, .int x6), (4, .ref (adr ad a (x_3.toNatClampNeg + 2))), (0, .ref (adr ad a 1)), (1, .ref (adr ad a q2)), (3, .int x_3)]) hx hb dX0_likes_40 rfl hl (by decide) rfl (fun ls hl => ?_)
            exact L41 _ _ _ _ _ hf hw (lv_sub hl [2, 3, 0, 4] rfl)
  unfold fX0_likes at hf
  refine lv_iconst (v := 0) hx hb dX0_likes_0 (by decide) ?_
  refine lv_istore_n (lv' := [(2, .int (0 : Int32)), (0, .ref (adr ad a 1)), (1, .ref (adr ad a q2))]) hx hb dX0_likes_1 rfl hl (by decide) rfl (fun ls hl => ?_)
  refine lv_iconst (v := 0) hx hb dX0_likes_2 (by decide) ?_
  refine lv_istore_n (lv' := [(3, .int (0 : Int32)), (2, .int (0 : Int32)), (0, .ref (adr ad a 1)), (1, .ref (adr ad a q2))]) hx hb dX0_likes_3 rfl hl (by decide) rfl (fun ls hl => ?_)
  exact L4 FU _ _ _ _ _ hf hw (lv_sub hl [2, 3, 1, 0] rfl)
def fX0_mark_86 (q1 : Nat) (p2 : Int32) (k21 : Tau → Int32 → Int32 → Option Tau) (τ : Tau) (x_4 : Int32) (z_0 : Int32) (z_1 : Int32) : Option Tau :=
 (if z_1 < 0 ∨ (tI τ 26 0).toNatClampNeg ≤ z_1.toNatClampNeg then none else
     nm (sA τ 26 z_1.toNatClampNeg (vp_nar .char ((z_0.toUInt32 % 65536).toInt32))) (fun t11 =>
     Option.bind (fX5_advance t11) (fun r12 =>
     nm (bI r12.1) (fun x13 =>
     nm (x_4 + (1 : Int32)) (fun x14 =>
     k21 r12.2 x13 x14)))))
def fX0_mark_21 (q1 : Nat) (p2 : Int32) : Nat → Tau → Int32 → Int32 → Option Tau
  | 0, _, _, _ => none
  | n + 1, τ, x_3, x_4 =>
     (if tI τ 17 8 ≤ x_4 then
     some τ
     else
     (if nI (tI τ 26 0).toNatClampNeg ≤ x_4 then
     some τ
     else
     (if x_3 = 0 then
     some τ
     else
     (if x_4 < 0 ∨ (tI τ 26 0).toNatClampNeg ≤ x_4.toNatClampNeg then none else
     nm (tA τ 26 x_4.toNatClampNeg &&& (p2 ^^^ (-1 : Int32))) (fun x6 =>
     Option.bind (fX5_sum τ) (fun r7 =>
     nm (fX3_isTrue q1 τ r7) (fun r8 =>
     (if bI r8 = 0 then
     fX0_mark_86 q1 p2 (fX0_mark_21 q1 p2 n) τ x_4 x6 x_4
     else
     fX0_mark_86 q1 p2 (fX0_mark_21 q1 p2 n) τ x_4 (x6 ||| p2) x_4))))))))
def fX0_mark (q1 : Nat) (τ : Tau) (p2 : Int32) : Option Tau :=
 Option.bind (fX5_begin q1 τ (tI τ 17 6) (tI τ 17 7)) (fun r1 =>
 fX0_mark_21 q1 p2 FU r1 (1 : Int32) (0 : Int32))
set_option maxHeartbeats 4000000 in
set_option maxRecDepth 100000 in
theorem c_X0_mark (l : Launch) (D : va_G) (cA : Nat → ClassId) (st ad : Nat → Nat) (a : Nat) (q1 : Nat) (τ : Tau) (p2 : Int32) (R : Tau) (hq1 : isSay q1) (hf : fX0_mark q1 τ p2 = some R) : KE ΛX 29 D cA st ad l yX0_mark cX0_mark 6 none 2 47 [.ref (adr ad a 17), .ref (adr ad a q1), .int p2] a τ (none) R := by
  refine KE.of "KindSayings$Heaps" rfl (by decide) (Nat.le_of_ble_eq_true rfl) (fun p e s m args below meth c A ls Rm Q hE hRm hQ hw hl => ?_)
  obtain ⟨hx, hb, hml, hown, hts, -⟩ := id hE
  have hl : lv_has ls 6 [(0, .ref (adr ad a 17)), (1, .ref (adr ad a q1)), (2, .int p2)] := hl
  have L21 : ∀ (n21 : Nat) (τ : Tau) (x_3 : Int32) (x_4 : Int32) (H : Heap) (locs : List Loc) (ls : Array Slot), fX0_mark_21 q1 p2 n21 τ x_3 x_4 = some R → Wd ΛX 29 D cA ad A s a τ H locs → lv_has ls 6 [(0, .ref (adr ad a 17)), (1, .ref (adr ad a q1)), (2, .int p2), (3, .int x_3), (4, .int x_4)] → W p l e Rm s m args below meth c H locs 0 0 Q (F0 m 21 ls []) := by
    intro n21
    induction n21 with
    | zero => intro τ x_3 x_4 H locs ls hf hw hl; exact absurd hf (by rw [fX0_mark_21]; simp)
    | succ n21 ih21 =>
      have L86 : ∀ (τ : Tau) (x_4 : Int32) (z_0 : Int32) (z_1 : Int32) (H : Heap) (locs : List Loc) (ls : Array Slot), fX0_mark_86 q1 p2 (fX0_mark_21 q1 p2 n21) τ x_4 z_0 z_1 = some R → Wd ΛX 29 D cA ad A s a τ H locs → lv_has ls 6 [(0, .ref (adr ad a 17)), (1, .ref (adr ad a q1)), (2, .int p2), (4, .int x_4)] → W p l e Rm s m args below meth c H locs 0 0 Q (F0 m 86 ls [.int z_0, .int z_1, .ref (adr ad a 26)]) := by
        intro τ x_4 z_0 z_1 H locs ls hf hw hl
        unfold fX0_mark_86 at hf
        refine lv_i2c hx hb dX0_mark_86 rfl ?_
        obtain ⟨b10, hf⟩ := ks_ok hf
        obtain ⟨t11, et11, hf⟩ := ks_nm hf
        refine ks_cast hE hw 26 ltX_26 lyX_26 b10 dX0_mark_87 (fun H locs hw => ?_)
        rw [← et11] at hw
        refine lv_aload_n hx hb dX0_mark_88 rfl (lv_at hl 0 rfl) ?_
        refine ks_getR hE hw 17 0 ltX_17 lyX_17 rfl fd_X0_12 dX0_mark_89 ?_
        obtain ⟨r12, er12, hf⟩ := ks_bind hf
        refine ke_V hE hw hl.1 cl_X0_97 18 ltX_18 lyX_18 rfl [] (c_X5_advance l D cA st ad a _ _ er12) rfl (ke_room hRm rfl rfl) ke_cnt (Nat.le_of_ble_eq_true rfl) rfl dX0_mark_92 (fun H locs hw => ?_)
        refine W.eq (g2 := F0 m 95 ls (.int (bI r12.1) :: [])) rfl ?_
        obtain ⟨x13, ex13, hf⟩ := ks_nm hf
        refine W.eq (g2 := F0 m 95 ls (.int x13 :: [])) (by rw [ex13]) ?_
        refine lv_istore_n (lv' := [(3, .int x13), (0, .ref (adr ad a 17)), (1, .ref (adr ad a q1)), (2, .int p2), (4, .int x_4)]) hx hb dX0_mark_95 rfl hl (by decide) rfl (fun ls hl => ?_)
        obtain ⟨x14, ex14, hf⟩ := ks_nm hf
        refine lv_iinc (v := x14) (lv' := [(4, .int x14), (3, .int x13), (0, .ref (adr ad a 17)), (1, .ref (adr ad a q1)), (2, .int p2)]) hx hb dX0_mark_96 hl (k := 4) rfl (by rw [ex14]; rfl) (by decide) rfl (fun ls hl => ?_)
        refine lv_goto (tgt := 21) hx hb dX0_mark_99 (by decide) ?_
        exact ih21 _ _ _ _ _ _ hf hw (lv_sub hl [2, 3, 4, 1, 0] rfl)
      intro τ x_3 x_4 H locs ls hf hw hl
      rw [fX0_mark_21] at hf
      refine lv_iload hx hb dX0_mark_21 (lv_at hl 4 rfl) ?_
      refine lv_aload_n hx hb dX0_mark_23 rfl (lv_at hl 0 rfl) ?_
      refine ks_getI hE hw 17 8 ltX_17 lyX_17 rfl fd_X0_59 dX0_mark_24 ?_
      refine lv_icmp_ge (tgt := 102) hx hb dX0_mark_27 (by decide) (fun c2 => ?_) (fun c2 => ?_)
      · have hf := (if_pos c2).symm.trans hf
        replace hf := Option.some.inj hf
        subst hf
        exact ke_vret hE hw hQ dX0_mark_102 rfl
      · have hf := (if_neg c2).symm.trans hf
        refine lv_iload hx hb dX0_mark_30 (lv_at hl 4 rfl) ?_
        refine lv_aload_n hx hb dX0_mark_32 rfl (lv_at hl 0 rfl) ?_
        refine ks_getR hE hw 17 5 ltX_17 lyX_17 rfl fd_X0_32 dX0_mark_33 ?_
        refine ks_alen hE hw 26 ltX_26 lyX_26 rfl _ rfl dX0_mark_36 ?_
        refine lv_icmp_ge (tgt := 102) hx hb dX0_mark_37 (by decide) (fun c3 => ?_) (fun c3 => ?_)
        · have hf := (if_pos c3).symm.trans hf
          replace hf := Option.some.inj hf
          subst hf
          exact ke_vret hE hw hQ dX0_mark_102 rfl
        · have hf := (if_neg c3).symm.trans hf
          refine lv_iload_n hx hb dX0_mark_40 rfl (lv_at hl 3 rfl) ?_
          refine lv_if_eq (tgt := 102) hx hb dX0_mark_41 (by decide) (fun c4 => ?_) (fun c4 => ?_)
          · have hf := (if_pos c4).symm.trans hf
            replace hf := Option.some.inj hf
            subst hf
            exact ke_vret hE hw hQ dX0_mark_102 rfl
          · have hf := (if_neg c4).symm.trans hf
            refine lv_aload_n hx hb dX0_mark_44 rfl (lv_at hl 0 rfl) ?_
            refine ks_getR hE hw 17 5 ltX_17 lyX_17 rfl fd_X0_32 dX0_mark_45 ?_
            refine lv_iload hx hb dX0_mark_48 (lv_at hl 4 rfl) ?_
            obtain ⟨b5, hf⟩ := ks_ok hf
            refine ks_cald hE hw 26 ltX_26 lyX_26 b5 dX0_mark_50 ?_
            refine lv_iload_n hx hb dX0_mark_51 rfl (lv_at hl 2 rfl) ?_
            refine lv_iconst (v := (-1)) hx hb dX0_mark_52 (by decide) ?_
            refine lv_ixor hx hb dX0_mark_53 ?_
            refine lv_iand hx hb dX0_mark_54 ?_
            obtain ⟨x6, ex6, hf⟩ := ks_nm hf
            refine W.eq (g2 := F0 m 55 ls (.int x6 :: [])) (by rw [ex6]) ?_
            refine lv_istore (lv' := [(5, .int x6), (0, .ref (adr ad a 17)), (1, .ref (adr ad a q1)), (2, .int p2), (3, .int x_3), (4, .int x_4)]) hx hb dX0_mark_55 hl (by decide) rfl (fun ls hl => ?_)
            refine lv_aload_n hx hb dX0_mark_57 rfl (lv_at hl 1 rfl) ?_
            refine ks_getR hE hw 17 5 ltX_17 lyX_17 rfl fd_X0_32 dX0_mark_58 ?_
            refine lv_iload hx hb dX0_mark_61 (lv_at hl 5 rfl) ?_
            refine lv_aload_n hx hb dX0_mark_63 rfl (lv_at hl 2 rfl) ?_
            refine lv_aload_n hx hb dX0_mark_64 rfl (lv_at hl 1 rfl) ?_
            refine ks_getR hE hw 17 0 ltX_17 lyX_17 rfl fd_X0_12 dX0_mark_65 ?_
            obtain ⟨r7, er7, hf⟩ := ks_bind hf
            refine ke_V hE hw hl.1 cl_X0_89 18 ltX_18 lyX_18 rfl [] (c_X5_sum l D cA st ad a _ _ er7) rfl (ke_room hRm rfl rfl) ke_cnt (Nat.le_of_ble_eq_true rfl) rfl dX0_mark_68 (fun H locs hw => ?_)
            refine W.eq (g2 := F0 m 71 ls (.int r7 :: .ref (adr ad a q1) :: .int x_4 :: .ref (adr ad a 26) :: [])) rfl ?_
            obtain ⟨r8, er8, hf⟩ := ks_nm hf
            refine ke_V hE hw hl.1 cl_X0_93 q1 (say_lt hq1) (say_lay hq1) rfl [.int r7] (c_X3_isTrue l D cA st ad a _ _ _ _ hq1 er8.symm) rfl (ke_room hRm rfl rfl) ke_cnt (Nat.le_of_ble_eq_true rfl) rfl dX0_mark_71 (fun H locs hw => ?_)
            refine W.eq (g2 := F0 m 74 ls (.int (bI r8) :: .int x_4 :: .ref (adr ad a 26) :: [])) rfl ?_
            refine lv_if_eq (tgt := 84) hx hb dX0_mark_74 (by decide) (fun c9 => ?_) (fun c9 => ?_)
            · have hf := (if_pos c9).symm.trans hf
              refine lv_iload hx hb dX0_mark_84 (lv_at hl 0 rfl) ?_
              exact L86 _ _ _ _ _ _ _ hf hw (lv_sub hl [1, 2, 3, 5] rfl)
            · have hf := (if_neg c9).symm.trans hf
              refine lv_iload hx hb dX0_mark_77 (lv_at hl 0 rfl) ?_
              refine lv_iload_n hx hb dX0_mark_79 rfl (lv_at hl 3 rfl) ?_
              refine lv_ior hx hb dX0_mark_80 ?_
              refine lv_goto (tgt := 86) hx hb dX0_mark_81 (by decide) ?_
              exact L86 _ _ _ _ _ _ _ hf hw (lv_sub hl [1, 2, 3, 5] rfl)
  unfold fX0_mark at hf
  refine lv_aload_n hx hb dX0_mark_0 rfl (lv_at hl 0 rfl) ?_
  refine ks_getR hE hw 17 0 ltX_17 lyX_17 rfl fd_X0_12 dX0_mark_1 ?_
  refine lv_aload_n hx hb dX0_mark_4 rfl (lv_at hl 0 rfl) ?_
  refine ks_getI hE hw 17 6 ltX_17 lyX_17 rfl fd_X0_48 dX0_mark_5 ?_
  refine lv_aload_n hx hb dX0_mark_8 rfl (lv_at hl 0 rfl) ?_
  refine ks_getI hE hw 17 7 ltX_17 lyX_17 rfl fd_X0_52 dX0_mark_9 ?_
  refine lv_aload_n hx hb dX0_mark_12 rfl (lv_at hl 1 rfl) ?_
  obtain ⟨r1, er1, hf⟩ := ks_bind hf
  refine ke_V hE hw hl.1 cl_X0_85 18 ltX_18 lyX_18 rfl [.int (tI τ 17 6), .int (tI τ 17 7), .ref (adr ad a q1)] (c_X5_begin l D cA st ad a _ _ _ _ _ hq1 er1) rfl (ke_room hRm rfl rfl) ke_cnt (Nat.le_of_ble_eq_true rfl) rfl dX0_mark_13 (fun H locs hw => ?_)
  refine W.eq (g2 := F0 m 16 ls ([])) rfl ?_
  refine lv_iconst (v := 1) hx hb dX0_mark_16 (by decide) ?_
  refine lv_istore_n (lv' := [(3, .int (1 : Int32)), (0, .ref (adr ad a 17)), (1, .ref (adr ad a q1)), (2, .int p2)]) hx hb dX0_mark_17 rfl hl (by decide) rfl (fun ls hl => ?_)
  refine lv_iconst (v := 0) hx hb dX0_mark_18 (by decide) ?_
  refine lv_istore (lv' := [(4, .int (0 : Int32)), (3, .int (1 : Int32)), (0, .ref (adr ad a 17)), (1, .ref (adr ad a q1)), (2, .int p2)]) hx hb dX0_mark_19 hl (by decide) rfl (fun ls hl => ?_)
  exact L21 FU _ _ _ _ _ _ hf hw (lv_sub hl [2, 3, 4, 1, 0] rfl)
def fX0_fillHeaps_94 (k26 : Tau → Int32 → Option Tau) (τ : Tau) (x_1 : Int32) : Option Tau :=
 nm (x_1 + (1 : Int32)) (fun x18 =>
     k26 τ x18)
def fX0_fillHeaps_84 (k26 : Tau → Int32 → Option Tau) (τ : Tau) (x_1 : Int32) (x_2 : Int32) : Option Tau :=
 (if x_2 < 0 ∨ 1024 ≤ x_2.toNatClampNeg then none else
    (if x_2 < 0 ∨ 1024 ≤ x_2.toNatClampNeg then none else
     nm (sA τ 22 x_2.toNatClampNeg (tA τ 22 x_2.toNatClampNeg + (1 : Int32))) (fun t17 =>
     fX0_fillHeaps_94 k26 t17 x_1)))
def fX0_fillHeaps_26  : Nat → Tau → Int32 → Option Tau
  | 0, _, _ => none
  | n + 1, τ, x_1 =>
     (if tI τ 17 8 ≤ x_1 then
     some τ
     else
     (if nI (tI τ 26 0).toNatClampNeg ≤ x_1 then
     some τ
     else
     (if x_1 < 0 ∨ (tI τ 26 0).toNatClampNeg ≤ x_1.toNatClampNeg then none else
     nm (tA τ 26 x_1.toNatClampNeg) (fun x8 =>
     (if (1024 : Int32) ≤ x8 then
     fX0_fillHeaps_94 (fX0_fillHeaps_26 n) τ x_1
     else
     (if (1024 : Int32) ≤ x8 then
     fX0_fillHeaps_94 (fX0_fillHeaps_26 n) τ x_1
     else
     (if x8 < 0 ∨ 1024 ≤ x8.toNatClampNeg then none else
     (if tA τ 22 x8.toNatClampNeg = 0 then
     (if x8 < 0 ∨ 1024 ≤ x8.toNatClampNeg then none else
     nm (sA τ 23 x8.toNatClampNeg x_1) (fun t14 =>
     fX0_fillHeaps_84 (fX0_fillHeaps_26 n) t14 x_1 x8))
     else
     fX0_fillHeaps_84 (fX0_fillHeaps_26 n) τ x_1 x8))))))))
def fX0_fillHeaps_2  : Nat → Tau → Int32 → Option Tau
  | 0, _, _ => none
  | n + 1, τ, x_1 =>
     (if (1024 : Int32) ≤ x_1 then
     fX0_fillHeaps_26 FU τ (0 : Int32)
     else
     (if x_1 < 0 ∨ 1024 ≤ x_1.toNatClampNeg then none else
     nm (sA τ 22 x_1.toNatClampNeg (0 : Int32)) (fun t3 =>
     nm (x_1 + (1 : Int32)) (fun x4 =>
     fX0_fillHeaps_2 n t3 x4))))
def fX0_fillHeaps  (τ : Tau) : Option Tau :=
 fX0_fillHeaps_2 FU τ (0 : Int32)
set_option maxHeartbeats 4000000 in
set_option maxRecDepth 100000 in
theorem c_X0_fillHeaps (l : Launch) (D : va_G) (cA : Nat → ClassId) (st ad : Nat → Nat) (a : Nat)  (τ : Tau) (R : Tau) (hf : fX0_fillHeaps τ = some R) : KE ΛX 29 D cA st ad l yX0_fillHeaps cX0_fillHeaps 3 none 0 0 [.ref (adr ad a 17)] a τ (none) R := by
  refine KE.of "KindSayings$Heaps" rfl (by decide) (Nat.le_of_ble_eq_true rfl) (fun p e s m args below meth c A ls Rm Q hE hRm hQ hw hl => ?_)
  obtain ⟨hx, hb, hml, hown, hts, -⟩ := id hE
  have hl : lv_has ls 3 [(0, .ref (adr ad a 17))] := hl
  have L26 : ∀ (n26 : Nat) (τ : Tau) (x_1 : Int32) (H : Heap) (locs : List Loc) (ls : Array Slot), fX0_fillHeaps_26 n26 τ x_1 = some R → Wd ΛX 29 D cA ad A s a τ H locs → lv_has ls 3 [(0, .ref (adr ad a 17)), (1, .int x_1)] → W p l e Rm s m args below meth c H locs 0 0 Q (F0 m 26 ls []) := by
    intro n26
    induction n26 with
    | zero => intro τ x_1 H locs ls hf hw hl; exact absurd hf (by rw [fX0_fillHeaps_26]; simp)
    | succ n26 ih26 =>
      have L94 : ∀ (τ : Tau) (x_1 : Int32) (H : Heap) (locs : List Loc) (ls : Array Slot), fX0_fillHeaps_94 (fX0_fillHeaps_26 n26) τ x_1 = some R → Wd ΛX 29 D cA ad A s a τ H locs → lv_has ls 3 [(0, .ref (adr ad a 17)), (1, .int x_1)] → W p l e Rm s m args below meth c H locs 0 0 Q (F0 m 94 ls []) := by
        intro τ x_1 H locs ls hf hw hl
        unfold fX0_fillHeaps_94 at hf
        obtain ⟨x18, ex18, hf⟩ := ks_nm hf
        refine lv_iinc (v := x18) (lv' := [(1, .int x18), (0, .ref (adr ad a 17))]) hx hb dX0_fillHeaps_94 hl (k := 1) rfl (by rw [ex18]; rfl) (by decide) rfl (fun ls hl => ?_)
        refine lv_goto (tgt := 26) hx hb dX0_fillHeaps_97 (by decide) ?_
        exact ih26 _ _ _ _ _ hf hw (lv_sub hl [1, 0] rfl)
      have L84 : ∀ (τ : Tau) (x_1 : Int32) (x_2 : Int32) (H : Heap) (locs : List Loc) (ls : Array Slot), fX0_fillHeaps_84 (fX0_fillHeaps_26 n26) τ x_1 x_2 = some R → Wd ΛX 29 D cA ad A s a τ H locs → lv_has ls 3 [(0, .ref (adr ad a 17)), (1, .int x_1), (2, .int x_2)] → W p l e Rm s m args below meth c H locs 0 0 Q (F0 m 84 ls []) := by
        intro τ x_1 x_2 H locs ls hf hw hl
        unfold fX0_fillHeaps_84 at hf
        refine lv_aload_n hx hb dX0_fillHeaps_84 rfl (lv_at hl 0 rfl) ?_
        refine ks_getR hE hw 17 1 ltX_17 lyX_17 rfl fd_X0_18 dX0_fillHeaps_85 ?_
        refine lv_iload_n hx hb dX0_fillHeaps_88 rfl (lv_at hl 2 rfl) ?_
        refine lv_dup2_11 hx hb dX0_fillHeaps_89 rfl rfl ?_
        obtain ⟨b15, hf⟩ := ks_ok hf
        refine ks_iald hE hw 22 ltX_22 lyX_22 b15 dX0_fillHeaps_90 ?_
        refine lv_iconst (v := 1) hx hb dX0_fillHeaps_91 (by decide) ?_
        refine lv_iadd hx hb dX0_fillHeaps_92 ?_
        obtain ⟨b16, hf⟩ := ks_ok hf
        obtain ⟨t17, et17, hf⟩ := ks_nm hf
        refine ks_iast hE hw 22 ltX_22 lyX_22 b16 dX0_fillHeaps_93 (fun H locs hw => ?_)
        rw [← et17] at hw
        exact L94 _ _ _ _ _ hf hw (lv_sub hl [0, 1] rfl)
      intro τ x_1 H locs ls hf hw hl
      rw [fX0_fillHeaps_26] at hf
      refine lv_iload_n hx hb dX0_fillHeaps_26 rfl (lv_at hl 1 rfl) ?_
      refine lv_aload_n hx hb dX0_fillHeaps_27 rfl (lv_at hl 0 rfl) ?_
      refine ks_getI hE hw 17 8 ltX_17 lyX_17 rfl fd_X0_59 dX0_fillHeaps_28 ?_
      refine lv_icmp_ge (tgt := 100) hx hb dX0_fillHeaps_31 (by decide) (fun c5 => ?_) (fun c5 => ?_)
      · have hf := (if_pos c5).symm.trans hf
        replace hf := Option.some.inj hf
        subst hf
        exact ke_vret hE hw hQ dX0_fillHeaps_100 rfl
      · have hf := (if_neg c5).symm.trans hf
        refine lv_iload_n hx hb dX0_fillHeaps_34 rfl (lv_at hl 1 rfl) ?_
        refine lv_aload_n hx hb dX0_fillHeaps_35 rfl (lv_at hl 0 rfl) ?_
        refine ks_getR hE hw 17 5 ltX_17 lyX_17 rfl fd_X0_32 dX0_fillHeaps_36 ?_
        refine ks_alen hE hw 26 ltX_26 lyX_26 rfl _ rfl dX0_fillHeaps_39 ?_
        refine lv_icmp_ge (tgt := 100) hx hb dX0_fillHeaps_40 (by decide) (fun c6 => ?_) (fun c6 => ?_)
        · have hf := (if_pos c6).symm.trans hf
          replace hf := Option.some.inj hf
          subst hf
          exact ke_vret hE hw hQ dX0_fillHeaps_100 rfl
        · have hf := (if_neg c6).symm.trans hf
          refine lv_aload_n hx hb dX0_fillHeaps_43 rfl (lv_at hl 0 rfl) ?_
          refine ks_getR hE hw 17 5 ltX_17 lyX_17 rfl fd_X0_32 dX0_fillHeaps_44 ?_
          refine lv_iload_n hx hb dX0_fillHeaps_47 rfl (lv_at hl 1 rfl) ?_
          obtain ⟨b7, hf⟩ := ks_ok hf
          refine ks_cald hE hw 26 ltX_26 lyX_26 b7 dX0_fillHeaps_48 ?_
          obtain ⟨x8, ex8, hf⟩ := ks_nm hf
          refine W.eq (g2 := F0 m 49 ls (.int x8 :: [])) (by rw [ex8]) ?_
          refine lv_istore_n (lv' := [(2, .int x8), (0, .ref (adr ad a 17)), (1, .int x_1)]) hx hb dX0_fillHeaps_49 rfl hl (by decide) rfl (fun ls hl => ?_)
          refine lv_iload_n hx hb dX0_fillHeaps_50 rfl (lv_at hl 0 rfl) ?_
          refine lv_aload_n hx hb dX0_fillHeaps_51 rfl (lv_at hl 1 rfl) ?_
          refine ks_getR hE hw 17 1 ltX_17 lyX_17 rfl fd_X0_18 dX0_fillHeaps_52 ?_
          refine ks_alen hE hw 22 ltX_22 lyX_22 rfl 1024 rfl dX0_fillHeaps_55 ?_
          refine lv_icmp_ge (tgt := 94) hx hb dX0_fillHeaps_56 (by decide) (fun c9 => ?_) (fun c9 => ?_)
          · have hf := (if_pos c9).symm.trans hf
            exact L94 _ _ _ _ _ hf hw (lv_sub hl [1, 2] rfl)
          · have hf := (if_neg c9).symm.trans hf
            refine lv_iload_n hx hb dX0_fillHeaps_59 rfl (lv_at hl 0 rfl) ?_
            refine lv_aload_n hx hb dX0_fillHeaps_60 rfl (lv_at hl 1 rfl) ?_
            refine ks_getR hE hw 17 2 ltX_17 lyX_17 rfl fd_X0_22 dX0_fillHeaps_61 ?_
            refine ks_alen hE hw 23 ltX_23 lyX_23 rfl 1024 rfl dX0_fillHeaps_64 ?_
            refine lv_icmp_ge (tgt := 94) hx hb dX0_fillHeaps_65 (by decide) (fun c10 => ?_) (fun c10 => ?_)
            · have hf := (if_pos c10).symm.trans hf
              exact L94 _ _ _ _ _ hf hw (lv_sub hl [1, 2] rfl)
            · have hf := (if_neg c10).symm.trans hf
              refine lv_aload_n hx hb dX0_fillHeaps_68 rfl (lv_at hl 1 rfl) ?_
              refine ks_getR hE hw 17 1 ltX_17 lyX_17 rfl fd_X0_18 dX0_fillHeaps_69 ?_
              refine lv_iload_n hx hb dX0_fillHeaps_72 rfl (lv_at hl 0 rfl) ?_
              obtain ⟨b11, hf⟩ := ks_ok hf
              refine ks_iald hE hw 22 ltX_22 lyX_22 b11 dX0_fillHeaps_73 ?_
              refine lv_if_ne (tgt := 84) hx hb dX0_fillHeaps_74 (by decide) (fun c12 => ?_) (fun c12 => ?_)
              · have hf := (if_neg c12).symm.trans hf
                exact L84 _ _ _ _ _ _ hf hw (lv_sub hl [1, 2, 0] rfl)
              · have hf := (if_pos c12).symm.trans hf
                refine lv_aload_n hx hb dX0_fillHeaps_77 rfl (lv_at hl 1 rfl) ?_
                refine ks_getR hE hw 17 2 ltX_17 lyX_17 rfl fd_X0_22 dX0_fillHeaps_78 ?_
                refine lv_iload_n hx hb dX0_fillHeaps_81 rfl (lv_at hl 0 rfl) ?_
                refine lv_iload_n hx hb dX0_fillHeaps_82 rfl (lv_at hl 2 rfl) ?_
                obtain ⟨b13, hf⟩ := ks_ok hf
                obtain ⟨t14, et14, hf⟩ := ks_nm hf
                refine ks_iast hE hw 23 ltX_23 lyX_23 b13 dX0_fillHeaps_83 (fun H locs hw => ?_)
                rw [← et14] at hw
                exact L84 _ _ _ _ _ _ hf hw (lv_sub hl [1, 2, 0] rfl)
  have L2 : ∀ (n2 : Nat) (τ : Tau) (x_1 : Int32) (H : Heap) (locs : List Loc) (ls : Array Slot), fX0_fillHeaps_2 n2 τ x_1 = some R → Wd ΛX 29 D cA ad A s a τ H locs → lv_has ls 3 [(0, .ref (adr ad a 17)), (1, .int x_1)] → W p l e Rm s m args below meth c H locs 0 0 Q (F0 m 2 ls []) := by
    intro n2
    induction n2 with
    | zero => intro τ x_1 H locs ls hf hw hl; exact absurd hf (by rw [fX0_fillHeaps_2]; simp)
    | succ n2 ih2 =>
      intro τ x_1 H locs ls hf hw hl
      rw [fX0_fillHeaps_2] at hf
      refine lv_iload_n hx hb dX0_fillHeaps_2 rfl (lv_at hl 1 rfl) ?_
      refine lv_aload_n hx hb dX0_fillHeaps_3 rfl (lv_at hl 0 rfl) ?_
      refine ks_getR hE hw 17 1 ltX_17 lyX_17 rfl fd_X0_18 dX0_fillHeaps_4 ?_
      refine ks_alen hE hw 22 ltX_22 lyX_22 rfl 1024 rfl dX0_fillHeaps_7 ?_
      refine lv_icmp_ge (tgt := 24) hx hb dX0_fillHeaps_8 (by decide) (fun c1 => ?_) (fun c1 => ?_)
      · have hf := (if_pos c1).symm.trans hf
        refine lv_iconst (v := 0) hx hb dX0_fillHeaps_24 (by decide) ?_
        refine lv_istore_n (lv' := [(1, .int (0 : Int32)), (0, .ref (adr ad a 17))]) hx hb dX0_fillHeaps_25 rfl hl (by decide) rfl (fun ls hl => ?_)
        exact L26 FU _ _ _ _ _ hf hw (lv_sub hl [1, 0] rfl)
      · have hf := (if_neg c1).symm.trans hf
        refine lv_aload_n hx hb dX0_fillHeaps_11 rfl (lv_at hl 0 rfl) ?_
        refine ks_getR hE hw 17 1 ltX_17 lyX_17 rfl fd_X0_18 dX0_fillHeaps_12 ?_
        refine lv_iload_n hx hb dX0_fillHeaps_15 rfl (lv_at hl 1 rfl) ?_
        refine lv_iconst (v := 0) hx hb dX0_fillHeaps_16 (by decide) ?_
        obtain ⟨b2, hf⟩ := ks_ok hf
        obtain ⟨t3, et3, hf⟩ := ks_nm hf
        refine ks_iast hE hw 22 ltX_22 lyX_22 b2 dX0_fillHeaps_17 (fun H locs hw => ?_)
        rw [← et3] at hw
        obtain ⟨x4, ex4, hf⟩ := ks_nm hf
        refine lv_iinc (v := x4) (lv' := [(1, .int x4), (0, .ref (adr ad a 17))]) hx hb dX0_fillHeaps_18 hl (k := 1) rfl (by rw [ex4]; rfl) (by decide) rfl (fun ls hl => ?_)
        refine lv_goto (tgt := 2) hx hb dX0_fillHeaps_21 (by decide) ?_
        exact ih2 _ _ _ _ _ hf hw (lv_sub hl [1, 0] rfl)
  unfold fX0_fillHeaps at hf
  refine lv_iconst (v := 0) hx hb dX0_fillHeaps_0 (by decide) ?_
  refine lv_istore_n (lv' := [(1, .int (0 : Int32)), (0, .ref (adr ad a 17))]) hx hb dX0_fillHeaps_1 rfl hl (by decide) rfl (fun ls hl => ?_)
  exact L2 FU _ _ _ _ _ hf hw (lv_sub hl [1, 0] rfl)
def fX0_addTogether_91 (k40 : Tau → Int32 → Option Tau) (k49 : Tau → Int32 → Int32 → Option Tau) (τ : Tau) (x_1 : Int32) (x_2 : Int32) : Option Tau :=
 nm (x_2 + (1 : Int32)) (fun x17 =>
     k49 τ x_1 x17)
def fX0_addTogether_49 (k40 : Tau → Int32 → Option Tau) : Nat → Tau → Int32 → Int32 → Option Tau
  | 0, _, _, _ => none
  | n + 1, τ, x_1, x_2 =>
     (if (1024 : Int32) ≤ x_2 then
     nm (x_1 <<< ((1 : Int32) &&& 31)) (fun x9 =>
     k40 τ x9)
     else
     nm (x_2 ||| x_1) (fun x10 =>
     (if x10 = x_2 then
     fX0_addTogether_91 k40 (fX0_addTogether_49 k40 n) τ x_1 x_2
     else
     (if (1024 : Int32) ≤ x10 then
     fX0_addTogether_91 k40 (fX0_addTogether_49 k40 n) τ x_1 x_2
     else
     (if x_2 < 0 ∨ 1024 ≤ x_2.toNatClampNeg then none else
     (if x10 < 0 ∨ 1024 ≤ x10.toNatClampNeg then none else
     (if x_2 < 0 ∨ 1024 ≤ x_2.toNatClampNeg then none else
     nm (sA τ 24 x_2.toNatClampNeg (tA τ 24 x_2.toNatClampNeg + tA τ 24 x10.toNatClampNeg)) (fun t16 =>
     fX0_addTogether_91 k40 (fX0_addTogether_49 k40 n) t16 x_1 x_2))))))))
def fX0_addTogether_40  : Nat → Tau → Int32 → Option Tau
  | 0, _, _ => none
  | n + 1, τ, x_1 =>
     (if (1024 : Int32) ≤ x_1 then
     some τ
     else
     fX0_addTogether_49 (fX0_addTogether_40 n) FU τ x_1 (0 : Int32))
def fX0_addTogether_38  (τ : Tau) : Option Tau :=
 fX0_addTogether_40 FU τ (1 : Int32)
def fX0_addTogether_2  : Nat → Tau → Int32 → Option Tau
  | 0, _, _ => none
  | n + 1, τ, x_1 =>
     (if (1024 : Int32) ≤ x_1 then
     fX0_addTogether_38 τ
     else
     (if (1024 : Int32) ≤ x_1 then
     fX0_addTogether_38 τ
     else
     (if x_1 < 0 ∨ 1024 ≤ x_1.toNatClampNeg then none else
     (if x_1 < 0 ∨ 1024 ≤ x_1.toNatClampNeg then none else
     nm (sA τ 24 x_1.toNatClampNeg (tA τ 22 x_1.toNatClampNeg)) (fun t5 =>
     nm (x_1 + (1 : Int32)) (fun x6 =>
     fX0_addTogether_2 n t5 x6))))))
def fX0_addTogether  (τ : Tau) : Option Tau :=
 fX0_addTogether_2 FU τ (0 : Int32)
set_option maxHeartbeats 4000000 in
set_option maxRecDepth 100000 in
theorem c_X0_addTogether (l : Launch) (D : va_G) (cA : Nat → ClassId) (st ad : Nat → Nat) (a : Nat)  (τ : Tau) (R : Tau) (hf : fX0_addTogether τ = some R) : KE ΛX 29 D cA st ad l yX0_addTogether cX0_addTogether 4 none 0 0 [.ref (adr ad a 17)] a τ (none) R := by
  refine KE.of "KindSayings$Heaps" rfl (by decide) (Nat.le_of_ble_eq_true rfl) (fun p e s m args below meth c A ls Rm Q hE hRm hQ hw hl => ?_)
  obtain ⟨hx, hb, hml, hown, hts, -⟩ := id hE
  have hl : lv_has ls 4 [(0, .ref (adr ad a 17))] := hl
  have L40 : ∀ (n40 : Nat) (τ : Tau) (x_1 : Int32) (H : Heap) (locs : List Loc) (ls : Array Slot), fX0_addTogether_40 n40 τ x_1 = some R → Wd ΛX 29 D cA ad A s a τ H locs → lv_has ls 4 [(0, .ref (adr ad a 17)), (1, .int x_1)] → W p l e Rm s m args below meth c H locs 0 0 Q (F0 m 40 ls []) := by
    intro n40
    induction n40 with
    | zero => intro τ x_1 H locs ls hf hw hl; exact absurd hf (by rw [fX0_addTogether_40]; simp)
    | succ n40 ih40 =>
      have L49 : ∀ (n49 : Nat) (τ : Tau) (x_1 : Int32) (x_2 : Int32) (H : Heap) (locs : List Loc) (ls : Array Slot), fX0_addTogether_49 (fX0_addTogether_40 n40) n49 τ x_1 x_2 = some R → Wd ΛX 29 D cA ad A s a τ H locs → lv_has ls 4 [(0, .ref (adr ad a 17)), (1, .int x_1), (2, .int x_2)] → W p l e Rm s m args below meth c H locs 0 0 Q (F0 m 49 ls []) := by
        intro n49
        induction n49 with
        | zero => intro τ x_1 x_2 H locs ls hf hw hl; exact absurd hf (by rw [fX0_addTogether_49]; simp)
        | succ n49 ih49 =>
          have L91 : ∀ (τ : Tau) (x_1 : Int32) (x_2 : Int32) (H : Heap) (locs : List Loc) (ls : Array Slot), fX0_addTogether_91 (fX0_addTogether_40 n40) (fX0_addTogether_49 (fX0_addTogether_40 n40) n49) τ x_1 x_2 = some R → Wd ΛX 29 D cA ad A s a τ H locs → lv_has ls 4 [(0, .ref (adr ad a 17)), (1, .int x_1), (2, .int x_2)] → W p l e Rm s m args below meth c H locs 0 0 Q (F0 m 91 ls []) := by
            intro τ x_1 x_2 H locs ls hf hw hl
            unfold fX0_addTogether_91 at hf
            obtain ⟨x17, ex17, hf⟩ := ks_nm hf
            refine lv_iinc (v := x17) (lv' := [(2, .int x17), (0, .ref (adr ad a 17)), (1, .int x_1)]) hx hb dX0_addTogether_91 hl (k := 2) rfl (by rw [ex17]; rfl) (by decide) rfl (fun ls hl => ?_)
            refine lv_goto (tgt := 49) hx hb dX0_addTogether_94 (by decide) ?_
            exact ih49 _ _ _ _ _ _ hf hw (lv_sub hl [1, 2, 0] rfl)
          intro τ x_1 x_2 H locs ls hf hw hl
          rw [fX0_addTogether_49] at hf
          refine lv_iload_n hx hb dX0_addTogether_49 rfl (lv_at hl 2 rfl) ?_
          refine lv_aload_n hx hb dX0_addTogether_50 rfl (lv_at hl 0 rfl) ?_
          refine ks_getR hE hw 17 3 ltX_17 lyX_17 rfl fd_X0_25 dX0_addTogether_51 ?_
          refine ks_alen hE hw 24 ltX_24 lyX_24 rfl 1024 rfl dX0_addTogether_54 ?_
          refine lv_icmp_ge (tgt := 97) hx hb dX0_addTogether_55 (by decide) (fun c8 => ?_) (fun c8 => ?_)
          · have hf := (if_pos c8).symm.trans hf
            refine lv_iload_n hx hb dX0_addTogether_97 rfl (lv_at hl 1 rfl) ?_
            refine lv_iconst (v := 1) hx hb dX0_addTogether_98 (by decide) ?_
            refine lv_ishl hx hb dX0_addTogether_99 ?_
            obtain ⟨x9, ex9, hf⟩ := ks_nm hf
            refine W.eq (g2 := F0 m 100 ls (.int x9 :: [])) (by rw [ex9]) ?_
            refine lv_istore_n (lv' := [(1, .int x9), (0, .ref (adr ad a 17)), (2, .int x_2)]) hx hb dX0_addTogether_100 rfl hl (by decide) rfl (fun ls hl => ?_)
            refine lv_goto (tgt := 40) hx hb dX0_addTogether_101 (by decide) ?_
            exact ih40 _ _ _ _ _ hf hw (lv_sub hl [1, 0] rfl)
          · have hf := (if_neg c8).symm.trans hf
            refine lv_iload_n hx hb dX0_addTogether_58 rfl (lv_at hl 2 rfl) ?_
            refine lv_iload_n hx hb dX0_addTogether_59 rfl (lv_at hl 1 rfl) ?_
            refine lv_ior hx hb dX0_addTogether_60 ?_
            obtain ⟨x10, ex10, hf⟩ := ks_nm hf
            refine W.eq (g2 := F0 m 61 ls (.int x10 :: [])) (by rw [ex10]) ?_
            refine lv_istore_n (lv' := [(3, .int x10), (0, .ref (adr ad a 17)), (1, .int x_1), (2, .int x_2)]) hx hb dX0_addTogether_61 rfl hl (by decide) rfl (fun ls hl => ?_)
            refine lv_iload_n hx hb dX0_addTogether_62 rfl (lv_at hl 0 rfl) ?_
            refine lv_iload_n hx hb dX0_addTogether_63 rfl (lv_at hl 3 rfl) ?_
            refine lv_icmp_eq (tgt := 91) hx hb dX0_addTogether_64 (by decide) (fun c11 => ?_) (fun c11 => ?_)
            · have hf := (if_pos c11).symm.trans hf
              exact L91 _ _ _ _ _ _ hf hw (lv_sub hl [1, 2, 3] rfl)
            · have hf := (if_neg c11).symm.trans hf
              refine lv_iload_n hx hb dX0_addTogether_67 rfl (lv_at hl 0 rfl) ?_
              refine lv_aload_n hx hb dX0_addTogether_68 rfl (lv_at hl 1 rfl) ?_
              refine ks_getR hE hw 17 3 ltX_17 lyX_17 rfl fd_X0_25 dX0_addTogether_69 ?_
              refine ks_alen hE hw 24 ltX_24 lyX_24 rfl 1024 rfl dX0_addTogether_72 ?_
              refine lv_icmp_ge (tgt := 91) hx hb dX0_addTogether_73 (by decide) (fun c12 => ?_) (fun c12 => ?_)
              · have hf := (if_pos c12).symm.trans hf
                exact L91 _ _ _ _ _ _ hf hw (lv_sub hl [1, 2, 3] rfl)
              · have hf := (if_neg c12).symm.trans hf
                refine lv_aload_n hx hb dX0_addTogether_76 rfl (lv_at hl 1 rfl) ?_
                refine ks_getR hE hw 17 3 ltX_17 lyX_17 rfl fd_X0_25 dX0_addTogether_77 ?_
                refine lv_iload_n hx hb dX0_addTogether_80 rfl (lv_at hl 3 rfl) ?_
                refine lv_dup2_11 hx hb dX0_addTogether_81 rfl rfl ?_
                obtain ⟨b13, hf⟩ := ks_ok hf
                refine ks_iald hE hw 24 ltX_24 lyX_24 b13 dX0_addTogether_82 ?_
                refine lv_aload_n hx hb dX0_addTogether_83 rfl (lv_at hl 1 rfl) ?_
                refine ks_getR hE hw 17 3 ltX_17 lyX_17 rfl fd_X0_25 dX0_addTogether_84 ?_
                refine lv_iload_n hx hb dX0_addTogether_87 rfl (lv_at hl 0 rfl) ?_
                obtain ⟨b14, hf⟩ := ks_ok hf
                refine ks_iald hE hw 24 ltX_24 lyX_24 b14 dX0_addTogether_88 ?_
                refine lv_iadd hx hb dX0_addTogether_89 ?_
                obtain ⟨b15, hf⟩ := ks_ok hf
                obtain ⟨t16, et16, hf⟩ := ks_nm hf
                refine ks_iast hE hw 24 ltX_24 lyX_24 b15 dX0_addTogether_90 (fun H locs hw => ?_)
                rw [← et16] at hw
                exact L91 _ _ _ _ _ _ hf hw (lv_sub hl [1, 2, 3] rfl)
      intro τ x_1 H locs ls hf hw hl
      rw [fX0_addTogether_40] at hf
      refine lv_iload_n hx hb dX0_addTogether_40 rfl (lv_at hl 1 rfl) ?_
      refine lv_sipush (v := 1024) hx hb dX0_addTogether_41 (by decide) ?_
      refine lv_icmp_ge (tgt := 104) hx hb dX0_addTogether_44 (by decide) (fun c7 => ?_) (fun c7 => ?_)
      · have hf := (if_pos c7).symm.trans hf
        replace hf := Option.some.inj hf
        subst hf
        exact ke_vret hE hw hQ dX0_addTogether_104 rfl
      · have hf := (if_neg c7).symm.trans hf
        refine lv_iconst (v := 0) hx hb dX0_addTogether_47 (by decide) ?_
        refine lv_istore_n (lv' := [(2, .int (0 : Int32)), (0, .ref (adr ad a 17)), (1, .int x_1)]) hx hb dX0_addTogether_48 rfl hl (by decide) rfl (fun ls hl => ?_)
        exact L49 FU _ _ _ _ _ _ hf hw (lv_sub hl [1, 2, 0] rfl)
  have L38 : ∀ (τ : Tau) (H : Heap) (locs : List Loc) (ls : Array Slot), fX0_addTogether_38 τ = some R → Wd ΛX 29 D cA ad A s a τ H locs → lv_has ls 4 [(0, .ref (adr ad a 17))] → W p l e Rm s m args below meth c H locs 0 0 Q (F0 m 38 ls []) := by
    intro τ H locs ls hf hw hl
    unfold fX0_addTogether_38 at hf
    refine lv_iconst (v := 1) hx hb dX0_addTogether_38 (by decide) ?_
    refine lv_istore_n (lv' := [(1, .int (1 : Int32)), (0, .ref (adr ad a 17))]) hx hb dX0_addTogether_39 rfl hl (by decide) rfl (fun ls hl => ?_)
    exact L40 FU _ _ _ _ _ hf hw (lv_sub hl [1, 0] rfl)
  have L2 : ∀ (n2 : Nat) (τ : Tau) (x_1 : Int32) (H : Heap) (locs : List Loc) (ls : Array Slot), fX0_addTogether_2 n2 τ x_1 = some R → Wd ΛX 29 D cA ad A s a τ H locs → lv_has ls 4 [(0, .ref (adr ad a 17)), (1, .int x_1)] → W p l e Rm s m args below meth c H locs 0 0 Q (F0 m 2 ls []) := by
    intro n2
    induction n2 with
    | zero => intro τ x_1 H locs ls hf hw hl; exact absurd hf (by rw [fX0_addTogether_2]; simp)
    | succ n2 ih2 =>
      intro τ x_1 H locs ls hf hw hl
      rw [fX0_addTogether_2] at hf
      refine lv_iload_n hx hb dX0_addTogether_2 rfl (lv_at hl 1 rfl) ?_
      refine lv_aload_n hx hb dX0_addTogether_3 rfl (lv_at hl 0 rfl) ?_
      refine ks_getR hE hw 17 3 ltX_17 lyX_17 rfl fd_X0_25 dX0_addTogether_4 ?_
      refine ks_alen hE hw 24 ltX_24 lyX_24 rfl 1024 rfl dX0_addTogether_7 ?_
      refine lv_icmp_ge (tgt := 38) hx hb dX0_addTogether_8 (by decide) (fun c1 => ?_) (fun c1 => ?_)
      · have hf := (if_pos c1).symm.trans hf
        exact L38 _ _ _ _ hf hw (lv_sub hl [0] rfl)
      · have hf := (if_neg c1).symm.trans hf
        refine lv_iload_n hx hb dX0_addTogether_11 rfl (lv_at hl 1 rfl) ?_
        refine lv_aload_n hx hb dX0_addTogether_12 rfl (lv_at hl 0 rfl) ?_
        refine ks_getR hE hw 17 1 ltX_17 lyX_17 rfl fd_X0_18 dX0_addTogether_13 ?_
        refine ks_alen hE hw 22 ltX_22 lyX_22 rfl 1024 rfl dX0_addTogether_16 ?_
        refine lv_icmp_ge (tgt := 38) hx hb dX0_addTogether_17 (by decide) (fun c2 => ?_) (fun c2 => ?_)
        · have hf := (if_pos c2).symm.trans hf
          exact L38 _ _ _ _ hf hw (lv_sub hl [0] rfl)
        · have hf := (if_neg c2).symm.trans hf
          refine lv_aload_n hx hb dX0_addTogether_20 rfl (lv_at hl 0 rfl) ?_
          refine ks_getR hE hw 17 3 ltX_17 lyX_17 rfl fd_X0_25 dX0_addTogether_21 ?_
          refine lv_iload_n hx hb dX0_addTogether_24 rfl (lv_at hl 1 rfl) ?_
          refine lv_aload_n hx hb dX0_addTogether_25 rfl (lv_at hl 0 rfl) ?_
          refine ks_getR hE hw 17 1 ltX_17 lyX_17 rfl fd_X0_18 dX0_addTogether_26 ?_
          refine lv_iload_n hx hb dX0_addTogether_29 rfl (lv_at hl 1 rfl) ?_
          obtain ⟨b3, hf⟩ := ks_ok hf
          refine ks_iald hE hw 22 ltX_22 lyX_22 b3 dX0_addTogether_30 ?_
          obtain ⟨b4, hf⟩ := ks_ok hf
          obtain ⟨t5, et5, hf⟩ := ks_nm hf
          refine ks_iast hE hw 24 ltX_24 lyX_24 b4 dX0_addTogether_31 (fun H locs hw => ?_)
          rw [← et5] at hw
          obtain ⟨x6, ex6, hf⟩ := ks_nm hf
          refine lv_iinc (v := x6) (lv' := [(1, .int x6), (0, .ref (adr ad a 17))]) hx hb dX0_addTogether_32 hl (k := 1) rfl (by rw [ex6]; rfl) (by decide) rfl (fun ls hl => ?_)
          refine lv_goto (tgt := 2) hx hb dX0_addTogether_35 (by decide) ?_
          exact ih2 _ _ _ _ _ hf hw (lv_sub hl [1, 0] rfl)
  unfold fX0_addTogether at hf
  refine lv_iconst (v := 0) hx hb dX0_addTogether_0 (by decide) ?_
  refine lv_istore_n (lv' := [(1, .int (0 : Int32)), (0, .ref (adr ad a 17))]) hx hb dX0_addTogether_1 rfl hl (by decide) rfl (fun ls hl => ?_)
  exact L2 FU _ _ _ _ _ hf hw (lv_sub hl [1, 0] rfl)
def fX0_worldsOf (τ : Tau) (p1 : Int32) : Option Int32 :=
 (if p1 < 0 then
 some (0 : Int32)
 else
 (if (1024 : Int32) ≤ p1 then
 some (0 : Int32)
 else
 (if p1 < 0 ∨ 1024 ≤ p1.toNatClampNeg then none else
 some (tA τ 24 p1.toNatClampNeg))))
set_option maxHeartbeats 4000000 in
set_option maxRecDepth 100000 in
theorem c_X0_worldsOf (l : Launch) (D : va_G) (cA : Nat → ClassId) (st ad : Nat → Nat) (a : Nat)  (τ : Tau) (p1 : Int32) (R : Int32) (hf : fX0_worldsOf τ p1 = some R) : KE ΛX 29 D cA st ad l yX0_worldsOf cX0_worldsOf 2 (some .int) 0 0 [.ref (adr ad a 17), .int p1] a τ (some (.int R)) τ := by
  refine KE.of "KindSayings$Heaps" rfl (by decide) (Nat.le_of_ble_eq_true rfl) (fun p e s m args below meth c A ls Rm Q hE hRm hQ hw hl => ?_)
  obtain ⟨hx, hb, hml, hown, hts, -⟩ := id hE
  have hl : lv_has ls 2 [(0, .ref (adr ad a 17)), (1, .int p1)] := hl
  unfold fX0_worldsOf at hf
  refine lv_iload_n hx hb dX0_worldsOf_0 rfl (lv_at hl 1 rfl) ?_
  refine lv_if_lt (tgt := 22) hx hb dX0_worldsOf_1 (by decide) (fun c1 => ?_) (fun c1 => ?_)
  · have hf := (if_pos c1).symm.trans hf
    refine lv_iconst (v := 0) hx hb dX0_worldsOf_22 (by decide) ?_
    replace hf := Option.some.inj hf
    subst hf
    exact ke_iret hE hw hQ dX0_worldsOf_23 rfl rfl
  · have hf := (if_neg c1).symm.trans hf
    refine lv_iload_n hx hb dX0_worldsOf_4 rfl (lv_at hl 1 rfl) ?_
    refine lv_aload_n hx hb dX0_worldsOf_5 rfl (lv_at hl 0 rfl) ?_
    refine ks_getR hE hw 17 3 ltX_17 lyX_17 rfl fd_X0_25 dX0_worldsOf_6 ?_
    refine ks_alen hE hw 24 ltX_24 lyX_24 rfl 1024 rfl dX0_worldsOf_9 ?_
    refine lv_icmp_ge (tgt := 22) hx hb dX0_worldsOf_10 (by decide) (fun c2 => ?_) (fun c2 => ?_)
    · have hf := (if_pos c2).symm.trans hf
      refine lv_iconst (v := 0) hx hb dX0_worldsOf_22 (by decide) ?_
      replace hf := Option.some.inj hf
      subst hf
      exact ke_iret hE hw hQ dX0_worldsOf_23 rfl rfl
    · have hf := (if_neg c2).symm.trans hf
      refine lv_aload_n hx hb dX0_worldsOf_13 rfl (lv_at hl 0 rfl) ?_
      refine ks_getR hE hw 17 3 ltX_17 lyX_17 rfl fd_X0_25 dX0_worldsOf_14 ?_
      refine lv_iload_n hx hb dX0_worldsOf_17 rfl (lv_at hl 1 rfl) ?_
      obtain ⟨b3, hf⟩ := ks_ok hf
      refine ks_iald hE hw 24 ltX_24 lyX_24 b3 dX0_worldsOf_18 ?_
      refine lv_goto (tgt := 23) hx hb dX0_worldsOf_19 (by decide) ?_
      replace hf := Option.some.inj hf
      subst hf
      exact ke_iret hE hw hQ dX0_worldsOf_23 rfl rfl
def fX0_isFollowing (τ : Tau) (p1 : Int32) (p2 : Int32) : Option Bool :=
 Option.bind (fX0_worldsOf τ p1) (fun r1 =>
 Option.bind (fX0_worldsOf τ (p1 ||| ((1 : Int32) <<< (p2 &&& 31)))) (fun r2 =>
 (if r1 = r2 then
 some true
 else
 some false)))
set_option maxHeartbeats 4000000 in
set_option maxRecDepth 100000 in
theorem c_X0_isFollowing (l : Launch) (D : va_G) (cA : Nat → ClassId) (st ad : Nat → Nat) (a : Nat)  (τ : Tau) (p1 : Int32) (p2 : Int32) (R : Bool) (hf : fX0_isFollowing τ p1 p2 = some R) : KE ΛX 29 D cA st ad l yX0_isFollowing cX0_isFollowing 3 (some .boolean) 1 21 [.ref (adr ad a 17), .int p1, .int p2] a τ (some (.int (bI R))) τ := by
  refine KE.of "KindSayings$Heaps" rfl (by decide) (Nat.le_of_ble_eq_true rfl) (fun p e s m args below meth c A ls Rm Q hE hRm hQ hw hl => ?_)
  obtain ⟨hx, hb, hml, hown, hts, -⟩ := id hE
  have hl : lv_has ls 3 [(0, .ref (adr ad a 17)), (1, .int p1), (2, .int p2)] := hl
  unfold fX0_isFollowing at hf
  refine lv_aload_n hx hb dX0_isFollowing_0 rfl (lv_at hl 0 rfl) ?_
  refine lv_iload_n hx hb dX0_isFollowing_1 rfl (lv_at hl 1 rfl) ?_
  obtain ⟨r1, er1, hf⟩ := ks_bind hf
  refine ke_V hE hw hl.1 cl_X0_101 17 ltX_17 lyX_17 rfl [.int p1] (c_X0_worldsOf l D cA st ad a _ _ _ er1) rfl (ke_room hRm rfl rfl) ke_cnt (Nat.le_of_ble_eq_true rfl) rfl dX0_isFollowing_2 (fun H locs hw => ?_)
  refine W.eq (g2 := F0 m 5 ls (.int r1 :: [])) rfl ?_
  refine lv_aload_n hx hb dX0_isFollowing_5 rfl (lv_at hl 0 rfl) ?_
  refine lv_iload_n hx hb dX0_isFollowing_6 rfl (lv_at hl 1 rfl) ?_
  refine lv_iconst (v := 1) hx hb dX0_isFollowing_7 (by decide) ?_
  refine lv_iload_n hx hb dX0_isFollowing_8 rfl (lv_at hl 2 rfl) ?_
  refine lv_ishl hx hb dX0_isFollowing_9 ?_
  refine lv_ior hx hb dX0_isFollowing_10 ?_
  obtain ⟨r2, er2, hf⟩ := ks_bind hf
  refine ke_V hE hw hl.1 cl_X0_101 17 ltX_17 lyX_17 rfl [.int (p1 ||| ((1 : Int32) <<< (p2 &&& 31)))] (c_X0_worldsOf l D cA st ad a _ _ _ er2) rfl (ke_room hRm rfl rfl) ke_cnt (Nat.le_of_ble_eq_true rfl) rfl dX0_isFollowing_11 (fun H locs hw => ?_)
  refine W.eq (g2 := F0 m 14 ls (.int r2 :: .int r1 :: [])) rfl ?_
  refine lv_icmp_ne (tgt := 21) hx hb dX0_isFollowing_14 (by decide) (fun c3 => ?_) (fun c3 => ?_)
  · have hf := (if_neg c3).symm.trans hf
    refine lv_iconst (v := 0) hx hb dX0_isFollowing_21 (by decide) ?_
    replace hf := Option.some.inj hf
    subst hf
    exact ke_zret hE hw hQ (Or.inl rfl) dX0_isFollowing_22 rfl rfl
  · have hf := (if_pos c3).symm.trans hf
    refine lv_iconst (v := 1) hx hb dX0_isFollowing_17 (by decide) ?_
    refine lv_goto (tgt := 22) hx hb dX0_isFollowing_18 (by decide) ?_
    replace hf := Option.some.inj hf
    subst hf
    exact ke_zret hE hw hQ (Or.inr rfl) dX0_isFollowing_22 rfl rfl
def fX0_firstWorld_88 (τ : Tau) (p1 : Int32) (p2 : Int32) (k6 : Int32 → Int32 → Option Int32) (x_3 : Int32) (x_4 : Int32) : Option Int32 :=
 nm (x_4 + (1 : Int32)) (fun x13 =>
     k6 x_3 x13)
def fX0_firstWorld_80 (τ : Tau) (p1 : Int32) (p2 : Int32) (k6 : Int32 → Int32 → Option Int32) (x_4 : Int32) : Option Int32 :=
 (if x_4 < 0 ∨ 1024 ≤ x_4.toNatClampNeg then none else
     nm (tA τ 23 x_4.toNatClampNeg) (fun x12 =>
     fX0_firstWorld_88 τ p1 p2 k6 x12 x_4))
def fX0_firstWorld_56 (τ : Tau) (p1 : Int32) (p2 : Int32) (k6 : Int32 → Int32 → Option Int32) (x_3 : Int32) (x_4 : Int32) (z_0 : Int32) : Option Int32 :=
 (if z_0 = 0 then
     fX0_firstWorld_88 τ p1 p2 k6 x_3 x_4
     else
    (if x_3 = (-9 : Int32) then
     fX0_firstWorld_80 τ p1 p2 k6 x_4
     else
    (if x_4 < 0 ∨ 1024 ≤ x_4.toNatClampNeg then none else
    (if x_3 ≤ tA τ 23 x_4.toNatClampNeg then
     fX0_firstWorld_88 τ p1 p2 k6 x_3 x_4
     else
     fX0_firstWorld_80 τ p1 p2 k6 x_4))))
def fX0_firstWorld_55 (τ : Tau) (p1 : Int32) (p2 : Int32) (k6 : Int32 → Int32 → Option Int32) (x_3 : Int32) (x_4 : Int32) : Option Int32 :=
 fX0_firstWorld_56 τ p1 p2 k6 x_3 x_4 (0 : Int32)
def fX0_firstWorld_6 (τ : Tau) (p1 : Int32) (p2 : Int32) : Nat → Int32 → Int32 → Option Int32
  | 0, _, _ => none
  | n + 1, x_3, x_4 =>
     (if (1024 : Int32) ≤ x_4 then
     some x_3
     else
     (if (1024 : Int32) ≤ x_4 then
     some x_3
     else
     (if x_4 < 0 ∨ 1024 ≤ x_4.toNatClampNeg then none else
     (if tA τ 22 x_4.toNatClampNeg ≤ 0 then
     fX0_firstWorld_55 τ p1 p2 (fX0_firstWorld_6 τ p1 p2 n) x_3 x_4
     else
     (if (x_4 &&& p1) = p1 then
     (if (x_4 &&& p2) = 0 then
     fX0_firstWorld_56 τ p1 p2 (fX0_firstWorld_6 τ p1 p2 n) x_3 x_4 (1 : Int32)
     else
     fX0_firstWorld_55 τ p1 p2 (fX0_firstWorld_6 τ p1 p2 n) x_3 x_4)
     else
     fX0_firstWorld_55 τ p1 p2 (fX0_firstWorld_6 τ p1 p2 n) x_3 x_4)))))
def fX0_firstWorld (τ : Tau) (p1 : Int32) (p2 : Int32) : Option Int32 :=
 fX0_firstWorld_6 τ p1 p2 FU (-9 : Int32) (0 : Int32)
set_option maxHeartbeats 4000000 in
set_option maxRecDepth 100000 in
theorem c_X0_firstWorld (l : Launch) (D : va_G) (cA : Nat → ClassId) (st ad : Nat → Nat) (a : Nat)  (τ : Tau) (p1 : Int32) (p2 : Int32) (R : Int32) (hf : fX0_firstWorld τ p1 p2 = some R) : KE ΛX 29 D cA st ad l yX0_firstWorld cX0_firstWorld 6 (some .int) 0 0 [.ref (adr ad a 17), .int p1, .int p2] a τ (some (.int R)) τ := by
  refine KE.of "KindSayings$Heaps" rfl (by decide) (Nat.le_of_ble_eq_true rfl) (fun p e s m args below meth c A ls Rm Q hE hRm hQ hw hl => ?_)
  obtain ⟨hx, hb, hml, hown, hts, -⟩ := id hE
  have hl : lv_has ls 6 [(0, .ref (adr ad a 17)), (1, .int p1), (2, .int p2)] := hl
  have L6 : ∀ (n6 : Nat) (x_3 : Int32) (x_4 : Int32) (H : Heap) (locs : List Loc) (ls : Array Slot), fX0_firstWorld_6 τ p1 p2 n6 x_3 x_4 = some R → Wd ΛX 29 D cA ad A s a τ H locs → lv_has ls 6 [(0, .ref (adr ad a 17)), (1, .int p1), (2, .int p2), (3, .int x_3), (4, .int x_4)] → W p l e Rm s m args below meth c H locs 0 0 Q (F0 m 6 ls []) := by
    intro n6
    induction n6 with
    | zero => intro x_3 x_4 H locs ls hf hw hl; exact absurd hf (by rw [fX0_firstWorld_6]; simp)
    | succ n6 ih6 =>
      have L88 : ∀ (x_3 : Int32) (x_4 : Int32) (H : Heap) (locs : List Loc) (ls : Array Slot), fX0_firstWorld_88 τ p1 p2 (fX0_firstWorld_6 τ p1 p2 n6) x_3 x_4 = some R → Wd ΛX 29 D cA ad A s a τ H locs → lv_has ls 6 [(0, .ref (adr ad a 17)), (1, .int p1), (2, .int p2), (3, .int x_3), (4, .int x_4)] → W p l e Rm s m args below meth c H locs 0 0 Q (F0 m 88 ls []) := by
        intro x_3 x_4 H locs ls hf hw hl
        unfold fX0_firstWorld_88 at hf
        obtain ⟨x13, ex13, hf⟩ := ks_nm hf
        refine lv_iinc (v := x13) (lv' := [(4, .int x13), (0, .ref (adr ad a 17)), (1, .int p1), (2, .int p2), (3, .int x_3)]) hx hb dX0_firstWorld_88 hl (k := 4) rfl (by rw [ex13]; rfl) (by decide) rfl (fun ls hl => ?_)
        refine lv_goto (tgt := 6) hx hb dX0_firstWorld_91 (by decide) ?_
        exact ih6 _ _ _ _ _ hf hw (lv_sub hl [1, 2, 3, 4, 0] rfl)
      have L80 : ∀ (x_4 : Int32) (H : Heap) (locs : List Loc) (ls : Array Slot), fX0_firstWorld_80 τ p1 p2 (fX0_firstWorld_6 τ p1 p2 n6) x_4 = some R → Wd ΛX 29 D cA ad A s a τ H locs → lv_has ls 6 [(0, .ref (adr ad a 17)), (1, .int p1), (2, .int p2), (4, .int x_4)] → W p l e Rm s m args below meth c H locs 0 0 Q (F0 m 80 ls []) := by
        intro x_4 H locs ls hf hw hl
        unfold fX0_firstWorld_80 at hf
        refine lv_aload_n hx hb dX0_firstWorld_80 rfl (lv_at hl 0 rfl) ?_
        refine ks_getR hE hw 17 2 ltX_17 lyX_17 rfl fd_X0_22 dX0_firstWorld_81 ?_
        refine lv_iload hx hb dX0_firstWorld_84 (lv_at hl 3 rfl) ?_
        obtain ⟨b11, hf⟩ := ks_ok hf
        refine ks_iald hE hw 23 ltX_23 lyX_23 b11 dX0_firstWorld_86 ?_
        obtain ⟨x12, ex12, hf⟩ := ks_nm hf
        refine W.eq (g2 := F0 m 87 ls (.int x12 :: [])) (by rw [ex12]) ?_
        refine lv_istore_n (lv' := [(3, .int x12), (0, .ref (adr ad a 17)), (1, .int p1), (2, .int p2), (4, .int x_4)]) hx hb dX0_firstWorld_87 rfl hl (by decide) rfl (fun ls hl => ?_)
        exact L88 _ _ _ _ _ hf hw (lv_sub hl [1, 2, 3, 0, 4] rfl)
      have L56 : ∀ (x_3 : Int32) (x_4 : Int32) (z_0 : Int32) (H : Heap) (locs : List Loc) (ls : Array Slot), fX0_firstWorld_56 τ p1 p2 (fX0_firstWorld_6 τ p1 p2 n6) x_3 x_4 z_0 = some R → Wd ΛX 29 D cA ad A s a τ H locs → lv_has ls 6 [(0, .ref (adr ad a 17)), (1, .int p1), (2, .int p2), (3, .int x_3), (4, .int x_4)] → W p l e Rm s m args below meth c H locs 0 0 Q (F0 m 56 ls [.int z_0]) := by
        intro x_3 x_4 z_0 H locs ls hf hw hl
        unfold fX0_firstWorld_56 at hf
        refine lv_istore (lv' := [(5, .int z_0), (0, .ref (adr ad a 17)), (1, .int p1), (2, .int p2), (3, .int x_3), (4, .int x_4)]) hx hb dX0_firstWorld_56 hl (by decide) rfl (fun ls hl => ?_)
        refine lv_iload hx hb dX0_firstWorld_58 (lv_at hl 0 rfl) ?_
        refine lv_if_eq (tgt := 88) hx hb dX0_firstWorld_60 (by decide) (fun c7 => ?_) (fun c7 => ?_)
        · have hf := (if_pos c7).symm.trans hf
          exact L88 _ _ _ _ _ hf hw (lv_sub hl [1, 2, 3, 4, 5] rfl)
        · have hf := (if_neg c7).symm.trans hf
          refine lv_iload_n hx hb dX0_firstWorld_63 rfl (lv_at hl 4 rfl) ?_
          refine lv_bipush (v := (-9)) hx hb dX0_firstWorld_64 (by decide) ?_
          refine lv_icmp_eq (tgt := 80) hx hb dX0_firstWorld_66 (by decide) (fun c8 => ?_) (fun c8 => ?_)
          · have hf := (if_pos c8).symm.trans hf
            exact L80 _ _ _ _ hf hw (lv_sub hl [1, 2, 3, 5] rfl)
          · have hf := (if_neg c8).symm.trans hf
            refine lv_aload_n hx hb dX0_firstWorld_69 rfl (lv_at hl 1 rfl) ?_
            refine ks_getR hE hw 17 2 ltX_17 lyX_17 rfl fd_X0_22 dX0_firstWorld_70 ?_
            refine lv_iload hx hb dX0_firstWorld_73 (lv_at hl 5 rfl) ?_
            obtain ⟨b9, hf⟩ := ks_ok hf
            refine ks_iald hE hw 23 ltX_23 lyX_23 b9 dX0_firstWorld_75 ?_
            refine lv_iload_n hx hb dX0_firstWorld_76 rfl (lv_at hl 4 rfl) ?_
            refine lv_icmp_ge (tgt := 88) hx hb dX0_firstWorld_77 (by decide) (fun c10 => ?_) (fun c10 => ?_)
            · have hf := (if_pos c10).symm.trans hf
              exact L88 _ _ _ _ _ hf hw (lv_sub hl [1, 2, 3, 4, 5] rfl)
            · have hf := (if_neg c10).symm.trans hf
              exact L80 _ _ _ _ hf hw (lv_sub hl [1, 2, 3, 5] rfl)
      have L55 : ∀ (x_3 : Int32) (x_4 : Int32) (H : Heap) (locs : List Loc) (ls : Array Slot), fX0_firstWorld_55 τ p1 p2 (fX0_firstWorld_6 τ p1 p2 n6) x_3 x_4 = some R → Wd ΛX 29 D cA ad A s a τ H locs → lv_has ls 6 [(0, .ref (adr ad a 17)), (1, .int p1), (2, .int p2), (3, .int x_3), (4, .int x_4)] → W p l e Rm s m args below meth c H locs 0 0 Q (F0 m 55 ls []) := by
        intro x_3 x_4 H locs ls hf hw hl
        unfold fX0_firstWorld_55 at hf
        refine lv_iconst (v := 0) hx hb dX0_firstWorld_55 (by decide) ?_
        exact L56 _ _ _ _ _ _ hf hw (lv_sub hl [0, 1, 2, 3, 4] rfl)
      intro x_3 x_4 H locs ls hf hw hl
      rw [fX0_firstWorld_6] at hf
      refine lv_iload hx hb dX0_firstWorld_6 (lv_at hl 4 rfl) ?_
      refine lv_aload_n hx hb dX0_firstWorld_8 rfl (lv_at hl 0 rfl) ?_
      refine ks_getR hE hw 17 1 ltX_17 lyX_17 rfl fd_X0_18 dX0_firstWorld_9 ?_
      refine ks_alen hE hw 22 ltX_22 lyX_22 rfl 1024 rfl dX0_firstWorld_12 ?_
      refine lv_icmp_ge (tgt := 94) hx hb dX0_firstWorld_13 (by decide) (fun c1 => ?_) (fun c1 => ?_)
      · have hf := (if_pos c1).symm.trans hf
        refine lv_iload_n hx hb dX0_firstWorld_94 rfl (lv_at hl 3 rfl) ?_
        replace hf := Option.some.inj hf
        subst hf
        exact ke_iret hE hw hQ dX0_firstWorld_95 rfl rfl
      · have hf := (if_neg c1).symm.trans hf
        refine lv_iload hx hb dX0_firstWorld_16 (lv_at hl 4 rfl) ?_
        refine lv_aload_n hx hb dX0_firstWorld_18 rfl (lv_at hl 0 rfl) ?_
        refine ks_getR hE hw 17 2 ltX_17 lyX_17 rfl fd_X0_22 dX0_firstWorld_19 ?_
        refine ks_alen hE hw 23 ltX_23 lyX_23 rfl 1024 rfl dX0_firstWorld_22 ?_
        refine lv_icmp_ge (tgt := 94) hx hb dX0_firstWorld_23 (by decide) (fun c2 => ?_) (fun c2 => ?_)
        · have hf := (if_pos c2).symm.trans hf
          refine lv_iload_n hx hb dX0_firstWorld_94 rfl (lv_at hl 3 rfl) ?_
          replace hf := Option.some.inj hf
          subst hf
          exact ke_iret hE hw hQ dX0_firstWorld_95 rfl rfl
        · have hf := (if_neg c2).symm.trans hf
          refine lv_aload_n hx hb dX0_firstWorld_26 rfl (lv_at hl 0 rfl) ?_
          refine ks_getR hE hw 17 1 ltX_17 lyX_17 rfl fd_X0_18 dX0_firstWorld_27 ?_
          refine lv_iload hx hb dX0_firstWorld_30 (lv_at hl 4 rfl) ?_
          obtain ⟨b3, hf⟩ := ks_ok hf
          refine ks_iald hE hw 22 ltX_22 lyX_22 b3 dX0_firstWorld_32 ?_
          refine lv_if_le (tgt := 55) hx hb dX0_firstWorld_33 (by decide) (fun c4 => ?_) (fun c4 => ?_)
          · have hf := (if_pos c4).symm.trans hf
            exact L55 _ _ _ _ _ hf hw (lv_sub hl [0, 1, 2, 3, 4] rfl)
          · have hf := (if_neg c4).symm.trans hf
            refine lv_iload hx hb dX0_firstWorld_36 (lv_at hl 4 rfl) ?_
            refine lv_iload_n hx hb dX0_firstWorld_38 rfl (lv_at hl 1 rfl) ?_
            refine lv_iand hx hb dX0_firstWorld_39 ?_
            refine lv_iload_n hx hb dX0_firstWorld_40 rfl (lv_at hl 1 rfl) ?_
            refine lv_icmp_ne (tgt := 55) hx hb dX0_firstWorld_41 (by decide) (fun c5 => ?_) (fun c5 => ?_)
            · have hf := (if_neg c5).symm.trans hf
              exact L55 _ _ _ _ _ hf hw (lv_sub hl [0, 1, 2, 3, 4] rfl)
            · have hf := (if_pos c5).symm.trans hf
              refine lv_iload hx hb dX0_firstWorld_44 (lv_at hl 4 rfl) ?_
              refine lv_iload_n hx hb dX0_firstWorld_46 rfl (lv_at hl 2 rfl) ?_
              refine lv_iand hx hb dX0_firstWorld_47 ?_
              refine lv_if_ne (tgt := 55) hx hb dX0_firstWorld_48 (by decide) (fun c6 => ?_) (fun c6 => ?_)
              · have hf := (if_neg c6).symm.trans hf
                exact L55 _ _ _ _ _ hf hw (lv_sub hl [0, 1, 2, 3, 4] rfl)
              · have hf := (if_pos c6).symm.trans hf
                refine lv_iconst (v := 1) hx hb dX0_firstWorld_51 (by decide) ?_
                refine lv_goto (tgt := 56) hx hb dX0_firstWorld_52 (by decide) ?_
                exact L56 _ _ _ _ _ _ hf hw (lv_sub hl [0, 1, 2, 3, 4] rfl)
  unfold fX0_firstWorld at hf
  refine lv_bipush (v := (-9)) hx hb dX0_firstWorld_0 (by decide) ?_
  refine lv_istore_n (lv' := [(3, .int (-9 : Int32)), (0, .ref (adr ad a 17)), (1, .int p1), (2, .int p2)]) hx hb dX0_firstWorld_2 rfl hl (by decide) rfl (fun ls hl => ?_)
  refine lv_iconst (v := 0) hx hb dX0_firstWorld_3 (by decide) ?_
  refine lv_istore (lv' := [(4, .int (0 : Int32)), (3, .int (-9 : Int32)), (0, .ref (adr ad a 17)), (1, .int p1), (2, .int p2)]) hx hb dX0_firstWorld_4 hl (by decide) rfl (fun ls hl => ?_)
  exact L6 FU _ _ _ _ _ hf hw (lv_sub hl [2, 3, 4, 1, 0] rfl)
def fX0_heapsOf_32 (τ : Tau) (p1 : Int32) (k4 : Int32 → Int32 → Option Int32) (x_2 : Int32) (x_3 : Int32) : Option Int32 :=
 nm (x_3 + (1 : Int32)) (fun x6 =>
     k4 x_2 x6)
def fX0_heapsOf_4 (τ : Tau) (p1 : Int32) : Nat → Int32 → Int32 → Option Int32
  | 0, _, _ => none
  | n + 1, x_2, x_3 =>
     (if (1024 : Int32) ≤ x_3 then
     some x_2
     else
     (if x_3 < 0 ∨ 1024 ≤ x_3.toNatClampNeg then none else
     (if tA τ 22 x_3.toNatClampNeg ≤ 0 then
     fX0_heapsOf_32 τ p1 (fX0_heapsOf_4 τ p1 n) x_2 x_3
     else
     (if (x_3 &&& p1) = p1 then
     nm (x_2 + (1 : Int32)) (fun x5 =>
     fX0_heapsOf_32 τ p1 (fX0_heapsOf_4 τ p1 n) x5 x_3)
     else
     fX0_heapsOf_32 τ p1 (fX0_heapsOf_4 τ p1 n) x_2 x_3))))
def fX0_heapsOf (τ : Tau) (p1 : Int32) : Option Int32 :=
 fX0_heapsOf_4 τ p1 FU (0 : Int32) (0 : Int32)
set_option maxHeartbeats 4000000 in
set_option maxRecDepth 100000 in
theorem c_X0_heapsOf (l : Launch) (D : va_G) (cA : Nat → ClassId) (st ad : Nat → Nat) (a : Nat)  (τ : Tau) (p1 : Int32) (R : Int32) (hf : fX0_heapsOf τ p1 = some R) : KE ΛX 29 D cA st ad l yX0_heapsOf cX0_heapsOf 4 (some .int) 0 0 [.ref (adr ad a 17), .int p1] a τ (some (.int R)) τ := by
  refine KE.of "KindSayings$Heaps" rfl (by decide) (Nat.le_of_ble_eq_true rfl) (fun p e s m args below meth c A ls Rm Q hE hRm hQ hw hl => ?_)
  obtain ⟨hx, hb, hml, hown, hts, -⟩ := id hE
  have hl : lv_has ls 4 [(0, .ref (adr ad a 17)), (1, .int p1)] := hl
  have L4 : ∀ (n4 : Nat) (x_2 : Int32) (x_3 : Int32) (H : Heap) (locs : List Loc) (ls : Array Slot), fX0_heapsOf_4 τ p1 n4 x_2 x_3 = some R → Wd ΛX 29 D cA ad A s a τ H locs → lv_has ls 4 [(0, .ref (adr ad a 17)), (1, .int p1), (2, .int x_2), (3, .int x_3)] → W p l e Rm s m args below meth c H locs 0 0 Q (F0 m 4 ls []) := by
    intro n4
    induction n4 with
    | zero => intro x_2 x_3 H locs ls hf hw hl; exact absurd hf (by rw [fX0_heapsOf_4]; simp)
    | succ n4 ih4 =>
      have L32 : ∀ (x_2 : Int32) (x_3 : Int32) (H : Heap) (locs : List Loc) (ls : Array Slot), fX0_heapsOf_32 τ p1 (fX0_heapsOf_4 τ p1 n4) x_2 x_3 = some R → Wd ΛX 29 D cA ad A s a τ H locs → lv_has ls 4 [(0, .ref (adr ad a 17)), (1, .int p1), (2, .int x_2), (3, .int x_3)] → W p l e Rm s m args below meth c H locs 0 0 Q (F0 m 32 ls []) := by
        intro x_2 x_3 H locs ls hf hw hl
        unfold fX0_heapsOf_32 at hf
        obtain ⟨x6, ex6, hf⟩ := ks_nm hf
        refine lv_iinc (v := x6) (lv' := [(3, .int x6), (0, .ref (adr ad a 17)), (1, .int p1), (2, .int x_2)]) hx hb dX0_heapsOf_32 hl (k := 3) rfl (by rw [ex6]; rfl) (by decide) rfl (fun ls hl => ?_)
        refine lv_goto (tgt := 4) hx hb dX0_heapsOf_35 (by decide) ?_
        exact ih4 _ _ _ _ _ hf hw (lv_sub hl [1, 2, 3, 0] rfl)
      intro x_2 x_3 H locs ls hf hw hl
      rw [fX0_heapsOf_4] at hf
      refine lv_iload_n hx hb dX0_heapsOf_4 rfl (lv_at hl 3 rfl) ?_
      refine lv_aload_n hx hb dX0_heapsOf_5 rfl (lv_at hl 0 rfl) ?_
      refine ks_getR hE hw 17 1 ltX_17 lyX_17 rfl fd_X0_18 dX0_heapsOf_6 ?_
      refine ks_alen hE hw 22 ltX_22 lyX_22 rfl 1024 rfl dX0_heapsOf_9 ?_
      refine lv_icmp_ge (tgt := 38) hx hb dX0_heapsOf_10 (by decide) (fun c1 => ?_) (fun c1 => ?_)
      · have hf := (if_pos c1).symm.trans hf
        refine lv_iload_n hx hb dX0_heapsOf_38 rfl (lv_at hl 2 rfl) ?_
        replace hf := Option.some.inj hf
        subst hf
        exact ke_iret hE hw hQ dX0_heapsOf_39 rfl rfl
      · have hf := (if_neg c1).symm.trans hf
        refine lv_aload_n hx hb dX0_heapsOf_13 rfl (lv_at hl 0 rfl) ?_
        refine ks_getR hE hw 17 1 ltX_17 lyX_17 rfl fd_X0_18 dX0_heapsOf_14 ?_
        refine lv_iload_n hx hb dX0_heapsOf_17 rfl (lv_at hl 3 rfl) ?_
        obtain ⟨b2, hf⟩ := ks_ok hf
        refine ks_iald hE hw 22 ltX_22 lyX_22 b2 dX0_heapsOf_18 ?_
        refine lv_if_le (tgt := 32) hx hb dX0_heapsOf_19 (by decide) (fun c3 => ?_) (fun c3 => ?_)
        · have hf := (if_pos c3).symm.trans hf
          exact L32 _ _ _ _ _ hf hw (lv_sub hl [0, 1, 2, 3] rfl)
        · have hf := (if_neg c3).symm.trans hf
          refine lv_iload_n hx hb dX0_heapsOf_22 rfl (lv_at hl 3 rfl) ?_
          refine lv_iload_n hx hb dX0_heapsOf_23 rfl (lv_at hl 1 rfl) ?_
          refine lv_iand hx hb dX0_heapsOf_24 ?_
          refine lv_iload_n hx hb dX0_heapsOf_25 rfl (lv_at hl 1 rfl) ?_
          refine lv_icmp_ne (tgt := 32) hx hb dX0_heapsOf_26 (by decide) (fun c4 => ?_) (fun c4 => ?_)
          · have hf := (if_neg c4).symm.trans hf
            exact L32 _ _ _ _ _ hf hw (lv_sub hl [0, 1, 2, 3] rfl)
          · have hf := (if_pos c4).symm.trans hf
            obtain ⟨x5, ex5, hf⟩ := ks_nm hf
            refine lv_iinc (v := x5) (lv' := [(2, .int x5), (0, .ref (adr ad a 17)), (1, .int p1), (3, .int x_3)]) hx hb dX0_heapsOf_29 hl (k := 2) rfl (by rw [ex5]; rfl) (by decide) rfl (fun ls hl => ?_)
            exact L32 _ _ _ _ _ hf hw (lv_sub hl [1, 2, 0, 3] rfl)
  unfold fX0_heapsOf at hf
  refine lv_iconst (v := 0) hx hb dX0_heapsOf_0 (by decide) ?_
  refine lv_istore_n (lv' := [(2, .int (0 : Int32)), (0, .ref (adr ad a 17)), (1, .int p1)]) hx hb dX0_heapsOf_1 rfl hl (by decide) rfl (fun ls hl => ?_)
  refine lv_iconst (v := 0) hx hb dX0_heapsOf_2 (by decide) ?_
  refine lv_istore_n (lv' := [(3, .int (0 : Int32)), (2, .int (0 : Int32)), (0, .ref (adr ad a 17)), (1, .int p1)]) hx hb dX0_heapsOf_3 rfl hl (by decide) rfl (fun ls hl => ?_)
  exact L4 FU _ _ _ _ _ hf hw (lv_sub hl [2, 3, 1, 0] rfl)
def fX0_fewestClashing_61 (τ : Tau) (p1 : Int32) (k5 : Int32 → Int32 → Option Int32) (x_2 : Int32) (x_3 : Int32) : Option Int32 :=
 nm (x_3 + (1 : Int32)) (fun x10 =>
     k5 x_2 x10)
def fX0_fewestClashing_59 (τ : Tau) (p1 : Int32) (k5 : Int32 → Int32 → Option Int32) (x_3 : Int32) : Option Int32 :=
 fX0_fewestClashing_61 τ p1 k5 x_3 x_3
def fX0_fewestClashing_35 (τ : Tau) (p1 : Int32) (k5 : Int32 → Int32 → Option Int32) (x_2 : Int32) (x_3 : Int32) (z_0 : Int32) : Option Int32 :=
 (if z_0 = 0 then
     fX0_fewestClashing_61 τ p1 k5 x_2 x_3
     else
    (if x_2 = (-9 : Int32) then
     fX0_fewestClashing_59 τ p1 k5 x_3
     else
     nm (fJ6_bitCount_0f7a4 x_3) (fun r7 =>
     nm (fJ6_bitCount_0f7a4 x_2) (fun r8 =>
    (if r8 ≤ r7 then
     fX0_fewestClashing_61 τ p1 k5 x_2 x_3
     else
     fX0_fewestClashing_59 τ p1 k5 x_3)))))
def fX0_fewestClashing_34 (τ : Tau) (p1 : Int32) (k5 : Int32 → Int32 → Option Int32) (x_2 : Int32) (x_3 : Int32) : Option Int32 :=
 fX0_fewestClashing_35 τ p1 k5 x_2 x_3 (0 : Int32)
def fX0_fewestClashing_5 (τ : Tau) (p1 : Int32) : Nat → Int32 → Int32 → Option Int32
  | 0, _, _ => none
  | n + 1, x_2, x_3 =>
     (if (1024 : Int32) ≤ x_3 then
     some x_2
     else
     (if (x_3 &&& p1) = x_3 then
     (if x_3 < 0 ∨ 1024 ≤ x_3.toNatClampNeg then none else
     (if tA τ 24 x_3.toNatClampNeg = 0 then
     fX0_fewestClashing_35 τ p1 (fX0_fewestClashing_5 τ p1 n) x_2 x_3 (1 : Int32)
     else
     fX0_fewestClashing_34 τ p1 (fX0_fewestClashing_5 τ p1 n) x_2 x_3))
     else
     fX0_fewestClashing_34 τ p1 (fX0_fewestClashing_5 τ p1 n) x_2 x_3))
def fX0_fewestClashing (τ : Tau) (p1 : Int32) : Option Int32 :=
 fX0_fewestClashing_5 τ p1 FU (-9 : Int32) (0 : Int32)
set_option maxHeartbeats 4000000 in
set_option maxRecDepth 100000 in
theorem c_X0_fewestClashing (l : Launch) (D : va_G) (cA : Nat → ClassId) (st ad : Nat → Nat) (a : Nat)  (τ : Tau) (p1 : Int32) (R : Int32) (hf : fX0_fewestClashing τ p1 = some R) : KE ΛX 29 D cA st ad l yX0_fewestClashing cX0_fewestClashing 5 (some .int) 1 20 [.ref (adr ad a 17), .int p1] a τ (some (.int R)) τ := by
  refine KE.of "KindSayings$Heaps" rfl (by decide) (Nat.le_of_ble_eq_true rfl) (fun p e s m args below meth c A ls Rm Q hE hRm hQ hw hl => ?_)
  obtain ⟨hx, hb, hml, hown, hts, -⟩ := id hE
  have hl : lv_has ls 5 [(0, .ref (adr ad a 17)), (1, .int p1)] := hl
  have L5 : ∀ (n5 : Nat) (x_2 : Int32) (x_3 : Int32) (H : Heap) (locs : List Loc) (ls : Array Slot), fX0_fewestClashing_5 τ p1 n5 x_2 x_3 = some R → Wd ΛX 29 D cA ad A s a τ H locs → lv_has ls 5 [(0, .ref (adr ad a 17)), (1, .int p1), (2, .int x_2), (3, .int x_3)] → W p l e Rm s m args below meth c H locs 0 0 Q (F0 m 5 ls []) := by
    intro n5
    induction n5 with
    | zero => intro x_2 x_3 H locs ls hf hw hl; exact absurd hf (by rw [fX0_fewestClashing_5]; simp)
    | succ n5 ih5 =>
      have L61 : ∀ (x_2 : Int32) (x_3 : Int32) (H : Heap) (locs : List Loc) (ls : Array Slot), fX0_fewestClashing_61 τ p1 (fX0_fewestClashing_5 τ p1 n5) x_2 x_3 = some R → Wd ΛX 29 D cA ad A s a τ H locs → lv_has ls 5 [(0, .ref (adr ad a 17)), (1, .int p1), (2, .int x_2), (3, .int x_3)] → W p l e Rm s m args below meth c H locs 0 0 Q (F0 m 61 ls []) := by
        intro x_2 x_3 H locs ls hf hw hl
        unfold fX0_fewestClashing_61 at hf
        obtain ⟨x10, ex10, hf⟩ := ks_nm hf
        refine lv_iinc (v := x10) (lv' := [(3, .int x10), (0, .ref (adr ad a 17)), (1, .int p1), (2, .int x_2)]) hx hb dX0_fewestClashing_61 hl (k := 3) rfl (by rw [ex10]; rfl) (by decide) rfl (fun ls hl => ?_)
        refine lv_goto (tgt := 5) hx hb dX0_fewestClashing_64 (by decide) ?_
        exact ih5 _ _ _ _ _ hf hw (lv_sub hl [1, 2, 3, 0] rfl)
      have L59 : ∀ (x_3 : Int32) (H : Heap) (locs : List Loc) (ls : Array Slot), fX0_fewestClashing_59 τ p1 (fX0_fewestClashing_5 τ p1 n5) x_3 = some R → Wd ΛX 29 D cA ad A s a τ H locs → lv_has ls 5 [(0, .ref (adr ad a 17)), (1, .int p1), (3, .int x_3)] → W p l e Rm s m args below meth c H locs 0 0 Q (F0 m 59 ls []) := by
        intro x_3 H locs ls hf hw hl
        unfold fX0_fewestClashing_59 at hf
        refine lv_iload_n hx hb dX0_fewestClashing_59 rfl (lv_at hl 2 rfl) ?_
        refine lv_istore_n (lv' := [(2, .int x_3), (0, .ref (adr ad a 17)), (1, .int p1), (3, .int x_3)]) hx hb dX0_fewestClashing_60 rfl hl (by decide) rfl (fun ls hl => ?_)
        exact L61 _ _ _ _ _ hf hw (lv_sub hl [1, 2, 0, 3] rfl)
      have L35 : ∀ (x_2 : Int32) (x_3 : Int32) (z_0 : Int32) (H : Heap) (locs : List Loc) (ls : Array Slot), fX0_fewestClashing_35 τ p1 (fX0_fewestClashing_5 τ p1 n5) x_2 x_3 z_0 = some R → Wd ΛX 29 D cA ad A s a τ H locs → lv_has ls 5 [(0, .ref (adr ad a 17)), (1, .int p1), (2, .int x_2), (3, .int x_3)] → W p l e Rm s m args below meth c H locs 0 0 Q (F0 m 35 ls [.int z_0]) := by
        intro x_2 x_3 z_0 H locs ls hf hw hl
        unfold fX0_fewestClashing_35 at hf
        refine lv_istore (lv' := [(4, .int z_0), (0, .ref (adr ad a 17)), (1, .int p1), (2, .int x_2), (3, .int x_3)]) hx hb dX0_fewestClashing_35 hl (by decide) rfl (fun ls hl => ?_)
        refine lv_iload hx hb dX0_fewestClashing_37 (lv_at hl 0 rfl) ?_
        refine lv_if_eq (tgt := 61) hx hb dX0_fewestClashing_39 (by decide) (fun c5 => ?_) (fun c5 => ?_)
        · have hf := (if_pos c5).symm.trans hf
          exact L61 _ _ _ _ _ hf hw (lv_sub hl [1, 2, 3, 4] rfl)
        · have hf := (if_neg c5).symm.trans hf
          refine lv_iload_n hx hb dX0_fewestClashing_42 rfl (lv_at hl 3 rfl) ?_
          refine lv_bipush (v := (-9)) hx hb dX0_fewestClashing_43 (by decide) ?_
          refine lv_icmp_eq (tgt := 59) hx hb dX0_fewestClashing_45 (by decide) (fun c6 => ?_) (fun c6 => ?_)
          · have hf := (if_pos c6).symm.trans hf
            exact L59 _ _ _ _ hf hw (lv_sub hl [1, 2, 4] rfl)
          · have hf := (if_neg c6).symm.trans hf
            refine lv_iload_n hx hb dX0_fewestClashing_48 rfl (lv_at hl 4 rfl) ?_
            obtain ⟨r7, er7, hf⟩ := ks_nm hf
            refine ke_S hE hw hl.1 cl_X0_105 [.int x_3] (c_J6_bitCount_0f7a4 l D cA st ad a _ _ _ er7.symm) rfl (ke_room hRm rfl rfl) ke_cnt (Nat.le_of_ble_eq_true rfl) rfl dX0_fewestClashing_49 (fun H locs hw => ?_)
            refine W.eq (g2 := F0 m 52 ls (.int r7 :: [])) rfl ?_
            refine lv_iload_n hx hb dX0_fewestClashing_52 rfl (lv_at hl 3 rfl) ?_
            obtain ⟨r8, er8, hf⟩ := ks_nm hf
            refine ke_S hE hw hl.1 cl_X0_105 [.int x_2] (c_J6_bitCount_0f7a4 l D cA st ad a _ _ _ er8.symm) rfl (ke_room hRm rfl rfl) ke_cnt (Nat.le_of_ble_eq_true rfl) rfl dX0_fewestClashing_53 (fun H locs hw => ?_)
            refine W.eq (g2 := F0 m 56 ls (.int r8 :: .int r7 :: [])) rfl ?_
            refine lv_icmp_ge (tgt := 61) hx hb dX0_fewestClashing_56 (by decide) (fun c9 => ?_) (fun c9 => ?_)
            · have hf := (if_pos c9).symm.trans hf
              exact L61 _ _ _ _ _ hf hw (lv_sub hl [1, 2, 3, 4] rfl)
            · have hf := (if_neg c9).symm.trans hf
              exact L59 _ _ _ _ hf hw (lv_sub hl [1, 2, 4] rfl)
      have L34 : ∀ (x_2 : Int32) (x_3 : Int32) (H : Heap) (locs : List Loc) (ls : Array Slot), fX0_fewestClashing_34 τ p1 (fX0_fewestClashing_5 τ p1 n5) x_2 x_3 = some R → Wd ΛX 29 D cA ad A s a τ H locs → lv_has ls 5 [(0, .ref (adr ad a 17)), (1, .int p1), (2, .int x_2), (3, .int x_3)] → W p l e Rm s m args below meth c H locs 0 0 Q (F0 m 34 ls []) := by
        intro x_2 x_3 H locs ls hf hw hl
        unfold fX0_fewestClashing_34 at hf
        refine lv_iconst (v := 0) hx hb dX0_fewestClashing_34 (by decide) ?_
        exact L35 _ _ _ _ _ _ hf hw (lv_sub hl [0, 1, 2, 3] rfl)
      intro x_2 x_3 H locs ls hf hw hl
      rw [fX0_fewestClashing_5] at hf
      refine lv_iload_n hx hb dX0_fewestClashing_5 rfl (lv_at hl 3 rfl) ?_
      refine lv_aload_n hx hb dX0_fewestClashing_6 rfl (lv_at hl 0 rfl) ?_
      refine ks_getR hE hw 17 3 ltX_17 lyX_17 rfl fd_X0_25 dX0_fewestClashing_7 ?_
      refine ks_alen hE hw 24 ltX_24 lyX_24 rfl 1024 rfl dX0_fewestClashing_10 ?_
      refine lv_icmp_ge (tgt := 67) hx hb dX0_fewestClashing_11 (by decide) (fun c1 => ?_) (fun c1 => ?_)
      · have hf := (if_pos c1).symm.trans hf
        refine lv_iload_n hx hb dX0_fewestClashing_67 rfl (lv_at hl 2 rfl) ?_
        replace hf := Option.some.inj hf
        subst hf
        exact ke_iret hE hw hQ dX0_fewestClashing_68 rfl rfl
      · have hf := (if_neg c1).symm.trans hf
        refine lv_iload_n hx hb dX0_fewestClashing_14 rfl (lv_at hl 3 rfl) ?_
        refine lv_iload_n hx hb dX0_fewestClashing_15 rfl (lv_at hl 1 rfl) ?_
        refine lv_iand hx hb dX0_fewestClashing_16 ?_
        refine lv_iload_n hx hb dX0_fewestClashing_17 rfl (lv_at hl 3 rfl) ?_
        refine lv_icmp_ne (tgt := 34) hx hb dX0_fewestClashing_18 (by decide) (fun c2 => ?_) (fun c2 => ?_)
        · have hf := (if_neg c2).symm.trans hf
          exact L34 _ _ _ _ _ hf hw (lv_sub hl [0, 1, 2, 3] rfl)
        · have hf := (if_pos c2).symm.trans hf
          refine lv_aload_n hx hb dX0_fewestClashing_21 rfl (lv_at hl 0 rfl) ?_
          refine ks_getR hE hw 17 3 ltX_17 lyX_17 rfl fd_X0_25 dX0_fewestClashing_22 ?_
          refine lv_iload_n hx hb dX0_fewestClashing_25 rfl (lv_at hl 3 rfl) ?_
          obtain ⟨b3, hf⟩ := ks_ok hf
          refine ks_iald hE hw 24 ltX_24 lyX_24 b3 dX0_fewestClashing_26 ?_
          refine lv_if_ne (tgt := 34) hx hb dX0_fewestClashing_27 (by decide) (fun c4 => ?_) (fun c4 => ?_)
          · have hf := (if_neg c4).symm.trans hf
            exact L34 _ _ _ _ _ hf hw (lv_sub hl [0, 1, 2, 3] rfl)
          · have hf := (if_pos c4).symm.trans hf
            refine lv_iconst (v := 1) hx hb dX0_fewestClashing_30 (by decide) ?_
            refine lv_goto (tgt := 35) hx hb dX0_fewestClashing_31 (by decide) ?_
            exact L35 _ _ _ _ _ _ hf hw (lv_sub hl [0, 1, 2, 3] rfl)
  unfold fX0_fewestClashing at hf
  refine lv_bipush (v := (-9)) hx hb dX0_fewestClashing_0 (by decide) ?_
  refine lv_istore_n (lv' := [(2, .int (-9 : Int32)), (0, .ref (adr ad a 17)), (1, .int p1)]) hx hb dX0_fewestClashing_2 rfl hl (by decide) rfl (fun ls hl => ?_)
  refine lv_iconst (v := 0) hx hb dX0_fewestClashing_3 (by decide) ?_
  refine lv_istore_n (lv' := [(3, .int (0 : Int32)), (2, .int (-9 : Int32)), (0, .ref (adr ad a 17)), (1, .int p1)]) hx hb dX0_fewestClashing_4 rfl hl (by decide) rfl (fun ls hl => ?_)
  exact L5 FU _ _ _ _ _ hf hw (lv_sub hl [2, 3, 1, 0] rfl)
def fX0_thingsIn_136 (τ : Tau) (p1 : Int32) (p2 : Int32) (k65 : Int32 → Int32 → Int32 → Int32 → Option Int32) (x_3 : Int32) (x_4 : Int32) (x_5 : Int32) (x_6 : Int32) : Option Int32 :=
 nm (x_4 - x_5) (fun x17 =>
     nm (x_6 + (1 : Int32)) (fun x18 =>
     k65 x_3 x17 x_5 x18))
def fX0_thingsIn_84 (τ : Tau) (p1 : Int32) (p2 : Int32) (k65 : Int32 → Int32 → Int32 → Int32 → Option Int32) : Nat → Int32 → Int32 → Int32 → Int32 → Option Int32
  | 0, _, _, _, _ => none
  | n + 1, x_3, x_4, x_5, x_6 =>
     (if x_5 ≤ 0 then
     fX0_thingsIn_136 τ p1 p2 k65 x_3 x_4 x_5 x_6
     else
     Option.bind (fX0_rowsOf ((tI τ 17 6 - x_6) - (1 : Int32)) (x_4 - x_5)) (fun r12 =>
     (if x_3 < r12 then
     fX0_thingsIn_136 τ p1 p2 k65 x_3 x_4 x_5 x_6
     else
     Option.bind (fX0_rowsOf ((tI τ 17 6 - x_6) - (1 : Int32)) (x_4 - x_5)) (fun r14 =>
     nm (x_3 - r14) (fun x15 =>
     nm (x_5 + (-1 : Int32)) (fun x16 =>
     fX0_thingsIn_84 τ p1 p2 k65 n x15 x_4 x16 x_6))))))
def fX0_thingsIn_65 (τ : Tau) (p1 : Int32) (p2 : Int32) : Nat → Int32 → Int32 → Int32 → Int32 → Option Int32
  | 0, _, _, _, _ => none
  | n + 1, x_3, x_4, x_5, x_6 =>
     (if p2 < x_6 then
     some x_5
     else
     (if tI τ 17 6 ≤ x_6 then
     some x_5
     else
     fX0_thingsIn_84 τ p1 p2 (fX0_thingsIn_65 τ p1 p2 n) FU x_3 x_4 x_4 x_6))
def fX0_thingsIn_52 (τ : Tau) (p1 : Int32) (p2 : Int32) (x_3 : Int32) (x_4 : Int32) : Option Int32 :=
 (if 0 ≤ p2 then
     fX0_thingsIn_65 τ p1 p2 FU x_3 x_4 (0 : Int32) (0 : Int32)
     else
     some x_4)
def fX0_thingsIn_12 (τ : Tau) (p1 : Int32) (p2 : Int32) : Nat → Int32 → Int32 → Option Int32
  | 0, _, _ => none
  | n + 1, x_3, x_4 =>
     (if tI τ 17 7 ≤ x_4 then
     fX0_thingsIn_52 τ p1 p2 x_3 x_4
     else
     Option.bind (fX0_rowsOf (tI τ 17 6) x_4) (fun r3 =>
     (if x_3 < r3 then
     fX0_thingsIn_52 τ p1 p2 x_3 x_4
     else
     Option.bind (fX0_rowsOf (tI τ 17 6) x_4) (fun r5 =>
     nm (x_3 - r5) (fun x6 =>
     nm (x_4 + (1 : Int32)) (fun x7 =>
     fX0_thingsIn_12 τ p1 p2 n x6 x7))))))
def fX0_thingsIn (τ : Tau) (p1 : Int32) (p2 : Int32) : Option Int32 :=
 (if 0 ≤ p1 then
 fX0_thingsIn_12 τ p1 p2 FU p1 (0 : Int32)
 else
 some (-9 : Int32))
set_option maxHeartbeats 4000000 in
set_option maxRecDepth 100000 in
theorem c_X0_thingsIn (l : Launch) (D : va_G) (cA : Nat → ClassId) (st ad : Nat → Nat) (a : Nat)  (τ : Tau) (p1 : Int32) (p2 : Int32) (R : Int32) (hf : fX0_thingsIn τ p1 p2 = some R) : KE ΛX 29 D cA st ad l yX0_thingsIn cX0_thingsIn 7 (some .int) 2 44 [.ref (adr ad a 17), .int p1, .int p2] a τ (some (.int R)) τ := by
  refine KE.of "KindSayings$Heaps" rfl (by decide) (Nat.le_of_ble_eq_true rfl) (fun p e s m args below meth c A ls Rm Q hE hRm hQ hw hl => ?_)
  obtain ⟨hx, hb, hml, hown, hts, -⟩ := id hE
  have hl : lv_has ls 7 [(0, .ref (adr ad a 17)), (1, .int p1), (2, .int p2)] := hl
  have L65 : ∀ (n65 : Nat) (x_3 : Int32) (x_4 : Int32) (x_5 : Int32) (x_6 : Int32) (H : Heap) (locs : List Loc) (ls : Array Slot), fX0_thingsIn_65 τ p1 p2 n65 x_3 x_4 x_5 x_6 = some R → Wd ΛX 29 D cA ad A s a τ H locs → lv_has ls 7 [(0, .ref (adr ad a 17)), (2, .int p2), (3, .int x_3), (4, .int x_4), (5, .int x_5), (6, .int x_6)] → W p l e Rm s m args below meth c H locs 0 0 Q (F0 m 65 ls []) := by
    intro n65
    induction n65 with
    | zero => intro x_3 x_4 x_5 x_6 H locs ls hf hw hl; exact absurd hf (by rw [fX0_thingsIn_65]; simp)
    | succ n65 ih65 =>
      have L136 : ∀ (x_3 : Int32) (x_4 : Int32) (x_5 : Int32) (x_6 : Int32) (H : Heap) (locs : List Loc) (ls : Array Slot), fX0_thingsIn_136 τ p1 p2 (fX0_thingsIn_65 τ p1 p2 n65) x_3 x_4 x_5 x_6 = some R → Wd ΛX 29 D cA ad A s a τ H locs → lv_has ls 7 [(0, .ref (adr ad a 17)), (2, .int p2), (3, .int x_3), (4, .int x_4), (5, .int x_5), (6, .int x_6)] → W p l e Rm s m args below meth c H locs 0 0 Q (F0 m 136 ls []) := by
        intro x_3 x_4 x_5 x_6 H locs ls hf hw hl
        unfold fX0_thingsIn_136 at hf
        refine lv_iload hx hb dX0_thingsIn_136 (lv_at hl 3 rfl) ?_
        refine lv_iload hx hb dX0_thingsIn_138 (lv_at hl 4 rfl) ?_
        refine lv_isub hx hb dX0_thingsIn_140 ?_
        obtain ⟨x17, ex17, hf⟩ := ks_nm hf
        refine W.eq (g2 := F0 m 141 ls (.int x17 :: [])) (by rw [ex17]) ?_
        refine lv_istore (lv' := [(4, .int x17), (0, .ref (adr ad a 17)), (2, .int p2), (3, .int x_3), (5, .int x_5), (6, .int x_6)]) hx hb dX0_thingsIn_141 hl (by decide) rfl (fun ls hl => ?_)
        obtain ⟨x18, ex18, hf⟩ := ks_nm hf
        refine lv_iinc (v := x18) (lv' := [(6, .int x18), (4, .int x17), (0, .ref (adr ad a 17)), (2, .int p2), (3, .int x_3), (5, .int x_5)]) hx hb dX0_thingsIn_143 hl (k := 5) rfl (by rw [ex18]; rfl) (by decide) rfl (fun ls hl => ?_)
        refine lv_goto (tgt := 65) hx hb dX0_thingsIn_146 (by decide) ?_
        exact ih65 _ _ _ _ _ _ _ hf hw (lv_sub hl [2, 3, 4, 1, 5, 0] rfl)
      have L84 : ∀ (n84 : Nat) (x_3 : Int32) (x_4 : Int32) (x_5 : Int32) (x_6 : Int32) (H : Heap) (locs : List Loc) (ls : Array Slot), fX0_thingsIn_84 τ p1 p2 (fX0_thingsIn_65 τ p1 p2 n65) n84 x_3 x_4 x_5 x_6 = some R → Wd ΛX 29 D cA ad A s a τ H locs → lv_has ls 7 [(0, .ref (adr ad a 17)), (2, .int p2), (3, .int x_3), (4, .int x_4), (5, .int x_5), (6, .int x_6)] → W p l e Rm s m args below meth c H locs 0 0 Q (F0 m 84 ls []) := by
        intro n84
        induction n84 with
        | zero => intro x_3 x_4 x_5 x_6 H locs ls hf hw hl; exact absurd hf (by rw [fX0_thingsIn_84]; simp)
        | succ n84 ih84 =>
          intro x_3 x_4 x_5 x_6 H locs ls hf hw hl
          rw [fX0_thingsIn_84] at hf
          refine lv_iload hx hb dX0_thingsIn_84 (lv_at hl 4 rfl) ?_
          refine lv_if_le (tgt := 136) hx hb dX0_thingsIn_86 (by decide) (fun c11 => ?_) (fun c11 => ?_)
          · have hf := (if_pos c11).symm.trans hf
            exact L136 _ _ _ _ _ _ _ hf hw (lv_sub hl [0, 1, 2, 3, 4, 5] rfl)
          · have hf := (if_neg c11).symm.trans hf
            refine lv_iload_n hx hb dX0_thingsIn_89 rfl (lv_at hl 2 rfl) ?_
            refine lv_aload_n hx hb dX0_thingsIn_90 rfl (lv_at hl 0 rfl) ?_
            refine ks_getI hE hw 17 6 ltX_17 lyX_17 rfl fd_X0_48 dX0_thingsIn_91 ?_
            refine lv_iload hx hb dX0_thingsIn_94 (lv_at hl 5 rfl) ?_
            refine lv_isub hx hb dX0_thingsIn_96 ?_
            refine lv_iconst (v := 1) hx hb dX0_thingsIn_97 (by decide) ?_
            refine lv_isub hx hb dX0_thingsIn_98 ?_
            refine lv_iload hx hb dX0_thingsIn_99 (lv_at hl 3 rfl) ?_
            refine lv_iload hx hb dX0_thingsIn_101 (lv_at hl 4 rfl) ?_
            refine lv_isub hx hb dX0_thingsIn_103 ?_
            obtain ⟨r12, er12, hf⟩ := ks_bind hf
            refine ke_S hE hw hl.1 cl_X0_110 [.int ((tI τ 17 6 - x_6) - (1 : Int32)), .int (x_4 - x_5)] (c_X0_rowsOf l D cA st ad a _ _ _ _ er12) rfl (ke_room hRm rfl rfl) ke_cnt (Nat.le_of_ble_eq_true rfl) rfl dX0_thingsIn_104 (fun H locs hw => ?_)
            refine W.eq (g2 := F0 m 107 ls (.int r12 :: .int x_3 :: [])) rfl ?_
            refine lv_icmp_lt (tgt := 136) hx hb dX0_thingsIn_107 (by decide) (fun c13 => ?_) (fun c13 => ?_)
            · have hf := (if_pos c13).symm.trans hf
              exact L136 _ _ _ _ _ _ _ hf hw (lv_sub hl [0, 1, 2, 3, 4, 5] rfl)
            · have hf := (if_neg c13).symm.trans hf
              refine lv_iload_n hx hb dX0_thingsIn_110 rfl (lv_at hl 2 rfl) ?_
              refine lv_aload_n hx hb dX0_thingsIn_111 rfl (lv_at hl 0 rfl) ?_
              refine ks_getI hE hw 17 6 ltX_17 lyX_17 rfl fd_X0_48 dX0_thingsIn_112 ?_
              refine lv_iload hx hb dX0_thingsIn_115 (lv_at hl 5 rfl) ?_
              refine lv_isub hx hb dX0_thingsIn_117 ?_
              refine lv_iconst (v := 1) hx hb dX0_thingsIn_118 (by decide) ?_
              refine lv_isub hx hb dX0_thingsIn_119 ?_
              refine lv_iload hx hb dX0_thingsIn_120 (lv_at hl 3 rfl) ?_
              refine lv_iload hx hb dX0_thingsIn_122 (lv_at hl 4 rfl) ?_
              refine lv_isub hx hb dX0_thingsIn_124 ?_
              obtain ⟨r14, er14, hf⟩ := ks_bind hf
              refine ke_S hE hw hl.1 cl_X0_110 [.int ((tI τ 17 6 - x_6) - (1 : Int32)), .int (x_4 - x_5)] (c_X0_rowsOf l D cA st ad a _ _ _ _ er14) rfl (ke_room hRm rfl rfl) ke_cnt (Nat.le_of_ble_eq_true rfl) rfl dX0_thingsIn_125 (fun H locs hw => ?_)
              refine W.eq (g2 := F0 m 128 ls (.int r14 :: .int x_3 :: [])) rfl ?_
              refine lv_isub hx hb dX0_thingsIn_128 ?_
              obtain ⟨x15, ex15, hf⟩ := ks_nm hf
              refine W.eq (g2 := F0 m 129 ls (.int x15 :: [])) (by rw [ex15]) ?_
              refine lv_istore_n (lv' := [(3, .int x15), (0, .ref (adr ad a 17)), (2, .int p2), (4, .int x_4), (5, .int x_5), (6, .int x_6)]) hx hb dX0_thingsIn_129 rfl hl (by decide) rfl (fun ls hl => ?_)
              obtain ⟨x16, ex16, hf⟩ := ks_nm hf
              refine lv_iinc (v := x16) (lv' := [(5, .int x16), (3, .int x15), (0, .ref (adr ad a 17)), (2, .int p2), (4, .int x_4), (6, .int x_6)]) hx hb dX0_thingsIn_130 hl (k := 4) rfl (by rw [ex16]; rfl) (by decide) rfl (fun ls hl => ?_)
              refine lv_goto (tgt := 84) hx hb dX0_thingsIn_133 (by decide) ?_
              exact ih84 _ _ _ _ _ _ _ hf hw (lv_sub hl [2, 3, 1, 4, 0, 5] rfl)
      intro x_3 x_4 x_5 x_6 H locs ls hf hw hl
      rw [fX0_thingsIn_65] at hf
      refine lv_iload hx hb dX0_thingsIn_65 (lv_at hl 5 rfl) ?_
      refine lv_iload_n hx hb dX0_thingsIn_67 rfl (lv_at hl 1 rfl) ?_
      refine lv_icmp_gt (tgt := 149) hx hb dX0_thingsIn_68 (by decide) (fun c9 => ?_) (fun c9 => ?_)
      · have hf := (if_pos c9).symm.trans hf
        refine lv_iload hx hb dX0_thingsIn_149 (lv_at hl 4 rfl) ?_
        replace hf := Option.some.inj hf
        subst hf
        exact ke_iret hE hw hQ dX0_thingsIn_151 rfl rfl
      · have hf := (if_neg c9).symm.trans hf
        refine lv_iload hx hb dX0_thingsIn_71 (lv_at hl 5 rfl) ?_
        refine lv_aload_n hx hb dX0_thingsIn_73 rfl (lv_at hl 0 rfl) ?_
        refine ks_getI hE hw 17 6 ltX_17 lyX_17 rfl fd_X0_48 dX0_thingsIn_74 ?_
        refine lv_icmp_ge (tgt := 149) hx hb dX0_thingsIn_77 (by decide) (fun c10 => ?_) (fun c10 => ?_)
        · have hf := (if_pos c10).symm.trans hf
          refine lv_iload hx hb dX0_thingsIn_149 (lv_at hl 4 rfl) ?_
          replace hf := Option.some.inj hf
          subst hf
          exact ke_iret hE hw hQ dX0_thingsIn_151 rfl rfl
        · have hf := (if_neg c10).symm.trans hf
          refine lv_iload hx hb dX0_thingsIn_80 (lv_at hl 3 rfl) ?_
          refine lv_istore (lv' := [(5, .int x_4), (0, .ref (adr ad a 17)), (2, .int p2), (3, .int x_3), (4, .int x_4), (6, .int x_6)]) hx hb dX0_thingsIn_82 hl (by decide) rfl (fun ls hl => ?_)
          exact L84 FU _ _ _ _ _ _ _ hf hw (lv_sub hl [1, 2, 3, 4, 0, 5] rfl)
  have L52 : ∀ (x_3 : Int32) (x_4 : Int32) (H : Heap) (locs : List Loc) (ls : Array Slot), fX0_thingsIn_52 τ p1 p2 x_3 x_4 = some R → Wd ΛX 29 D cA ad A s a τ H locs → lv_has ls 7 [(0, .ref (adr ad a 17)), (2, .int p2), (3, .int x_3), (4, .int x_4)] → W p l e Rm s m args below meth c H locs 0 0 Q (F0 m 52 ls []) := by
    intro x_3 x_4 H locs ls hf hw hl
    unfold fX0_thingsIn_52 at hf
    refine lv_iload_n hx hb dX0_thingsIn_52 rfl (lv_at hl 1 rfl) ?_
    refine lv_if_ge (tgt := 59) hx hb dX0_thingsIn_53 (by decide) (fun c8 => ?_) (fun c8 => ?_)
    · have hf := (if_pos c8).symm.trans hf
      refine lv_iconst (v := 0) hx hb dX0_thingsIn_59 (by decide) ?_
      refine lv_istore (lv' := [(5, .int (0 : Int32)), (0, .ref (adr ad a 17)), (2, .int p2), (3, .int x_3), (4, .int x_4)]) hx hb dX0_thingsIn_60 hl (by decide) rfl (fun ls hl => ?_)
      refine lv_iconst (v := 0) hx hb dX0_thingsIn_62 (by decide) ?_
      refine lv_istore (lv' := [(6, .int (0 : Int32)), (5, .int (0 : Int32)), (0, .ref (adr ad a 17)), (2, .int p2), (3, .int x_3), (4, .int x_4)]) hx hb dX0_thingsIn_63 hl (by decide) rfl (fun ls hl => ?_)
      exact L65 FU _ _ _ _ _ _ _ hf hw (lv_sub hl [2, 3, 4, 5, 1, 0] rfl)
    · have hf := (if_neg c8).symm.trans hf
      refine lv_iload hx hb dX0_thingsIn_56 (lv_at hl 3 rfl) ?_
      replace hf := Option.some.inj hf
      subst hf
      exact ke_iret hE hw hQ dX0_thingsIn_58 rfl rfl
  have L12 : ∀ (n12 : Nat) (x_3 : Int32) (x_4 : Int32) (H : Heap) (locs : List Loc) (ls : Array Slot), fX0_thingsIn_12 τ p1 p2 n12 x_3 x_4 = some R → Wd ΛX 29 D cA ad A s a τ H locs → lv_has ls 7 [(0, .ref (adr ad a 17)), (2, .int p2), (3, .int x_3), (4, .int x_4)] → W p l e Rm s m args below meth c H locs 0 0 Q (F0 m 12 ls []) := by
    intro n12
    induction n12 with
    | zero => intro x_3 x_4 H locs ls hf hw hl; exact absurd hf (by rw [fX0_thingsIn_12]; simp)
    | succ n12 ih12 =>
      intro x_3 x_4 H locs ls hf hw hl
      rw [fX0_thingsIn_12] at hf
      refine lv_iload hx hb dX0_thingsIn_12 (lv_at hl 3 rfl) ?_
      refine lv_aload_n hx hb dX0_thingsIn_14 rfl (lv_at hl 0 rfl) ?_
      refine ks_getI hE hw 17 7 ltX_17 lyX_17 rfl fd_X0_52 dX0_thingsIn_15 ?_
      refine lv_icmp_ge (tgt := 52) hx hb dX0_thingsIn_18 (by decide) (fun c2 => ?_) (fun c2 => ?_)
      · have hf := (if_pos c2).symm.trans hf
        exact L52 _ _ _ _ _ hf hw (lv_sub hl [0, 1, 2, 3] rfl)
      · have hf := (if_neg c2).symm.trans hf
        refine lv_iload_n hx hb dX0_thingsIn_21 rfl (lv_at hl 2 rfl) ?_
        refine lv_aload_n hx hb dX0_thingsIn_22 rfl (lv_at hl 0 rfl) ?_
        refine ks_getI hE hw 17 6 ltX_17 lyX_17 rfl fd_X0_48 dX0_thingsIn_23 ?_
        refine lv_iload hx hb dX0_thingsIn_26 (lv_at hl 3 rfl) ?_
        obtain ⟨r3, er3, hf⟩ := ks_bind hf
        refine ke_S hE hw hl.1 cl_X0_110 [.int (tI τ 17 6), .int x_4] (c_X0_rowsOf l D cA st ad a _ _ _ _ er3) rfl (ke_room hRm rfl rfl) ke_cnt (Nat.le_of_ble_eq_true rfl) rfl dX0_thingsIn_28 (fun H locs hw => ?_)
        refine W.eq (g2 := F0 m 31 ls (.int r3 :: .int x_3 :: [])) rfl ?_
        refine lv_icmp_lt (tgt := 52) hx hb dX0_thingsIn_31 (by decide) (fun c4 => ?_) (fun c4 => ?_)
        · have hf := (if_pos c4).symm.trans hf
          exact L52 _ _ _ _ _ hf hw (lv_sub hl [0, 1, 2, 3] rfl)
        · have hf := (if_neg c4).symm.trans hf
          refine lv_iload_n hx hb dX0_thingsIn_34 rfl (lv_at hl 2 rfl) ?_
          refine lv_aload_n hx hb dX0_thingsIn_35 rfl (lv_at hl 0 rfl) ?_
          refine ks_getI hE hw 17 6 ltX_17 lyX_17 rfl fd_X0_48 dX0_thingsIn_36 ?_
          refine lv_iload hx hb dX0_thingsIn_39 (lv_at hl 3 rfl) ?_
          obtain ⟨r5, er5, hf⟩ := ks_bind hf
          refine ke_S hE hw hl.1 cl_X0_110 [.int (tI τ 17 6), .int x_4] (c_X0_rowsOf l D cA st ad a _ _ _ _ er5) rfl (ke_room hRm rfl rfl) ke_cnt (Nat.le_of_ble_eq_true rfl) rfl dX0_thingsIn_41 (fun H locs hw => ?_)
          refine W.eq (g2 := F0 m 44 ls (.int r5 :: .int x_3 :: [])) rfl ?_
          refine lv_isub hx hb dX0_thingsIn_44 ?_
          obtain ⟨x6, ex6, hf⟩ := ks_nm hf
          refine W.eq (g2 := F0 m 45 ls (.int x6 :: [])) (by rw [ex6]) ?_
          refine lv_istore_n (lv' := [(3, .int x6), (0, .ref (adr ad a 17)), (2, .int p2), (4, .int x_4)]) hx hb dX0_thingsIn_45 rfl hl (by decide) rfl (fun ls hl => ?_)
          obtain ⟨x7, ex7, hf⟩ := ks_nm hf
          refine lv_iinc (v := x7) (lv' := [(4, .int x7), (3, .int x6), (0, .ref (adr ad a 17)), (2, .int p2)]) hx hb dX0_thingsIn_46 hl (k := 3) rfl (by rw [ex7]; rfl) (by decide) rfl (fun ls hl => ?_)
          refine lv_goto (tgt := 12) hx hb dX0_thingsIn_49 (by decide) ?_
          exact ih12 _ _ _ _ _ hf hw (lv_sub hl [2, 3, 1, 0] rfl)
  unfold fX0_thingsIn at hf
  refine lv_iload_n hx hb dX0_thingsIn_0 rfl (lv_at hl 1 rfl) ?_
  refine lv_if_ge (tgt := 7) hx hb dX0_thingsIn_1 (by decide) (fun c1 => ?_) (fun c1 => ?_)
  · have hf := (if_pos c1).symm.trans hf
    refine lv_iload_n hx hb dX0_thingsIn_7 rfl (lv_at hl 1 rfl) ?_
    refine lv_istore_n (lv' := [(3, .int p1), (0, .ref (adr ad a 17)), (1, .int p1), (2, .int p2)]) hx hb dX0_thingsIn_8 rfl hl (by decide) rfl (fun ls hl => ?_)
    refine lv_iconst (v := 0) hx hb dX0_thingsIn_9 (by decide) ?_
    refine lv_istore (lv' := [(4, .int (0 : Int32)), (3, .int p1), (0, .ref (adr ad a 17)), (1, .int p1), (2, .int p2)]) hx hb dX0_thingsIn_10 hl (by decide) rfl (fun ls hl => ?_)
    exact L12 FU _ _ _ _ _ hf hw (lv_sub hl [2, 4, 1, 0] rfl)
  · have hf := (if_neg c1).symm.trans hf
    refine lv_bipush (v := (-9)) hx hb dX0_thingsIn_4 (by decide) ?_
    replace hf := Option.some.inj hf
    subst hf
    exact ke_iret hE hw hQ dX0_thingsIn_6 rfl rfl
def fX0_factsOf_106 (p1 : Int32) (τ : Tau) (x_2 : Int64) (x_4 : Int64) : Option (Int64 × Tau) :=
 nm (((x_4 ^^^ (-1 : Int64)) &&& (4294901760 : Int64)) <<< ((16 : Int32).toInt64 &&& 63)) (fun x13 =>
     nm ((((x_4 ^^^ (-1 : Int64)) &&& (-281474976710656 : Int64)).toUInt64 >>> ((48 : Int32).toInt64.toUInt64 &&& Int64.toUInt64 63)).toInt64) (fun x14 =>
     some ((((x_2 &&& (-281470681808896 : Int64)) ||| x13) ||| x14), τ)))
def fX0_factsOf_91 (p1 : Int32) (k29 : Tau → Int64 → Int64 → Int32 → Int32 → Option (Int64 × Tau)) (τ : Tau) (x_2 : Int64) (x_4 : Int64) (x_7 : Int32) : Option (Int64 × Tau) :=
 Option.bind (fX5_advance τ) (fun r10 =>
     nm (bI r10.1) (fun x11 =>
     nm (x_7 + (1 : Int32)) (fun x12 =>
     k29 r10.2 x_2 x_4 x11 x12)))
def fX0_factsOf_29 (p1 : Int32) : Nat → Tau → Int64 → Int64 → Int32 → Int32 → Option (Int64 × Tau)
  | 0, _, _, _, _, _ => none
  | n + 1, τ, x_2, x_4, x_6, x_7 =>
     (if tI τ 17 8 ≤ x_7 then
     fX0_factsOf_106 p1 τ x_2 x_4
     else
     (if nI (tI τ 26 0).toNatClampNeg ≤ x_7 then
     fX0_factsOf_106 p1 τ x_2 x_4
     else
     (if x_6 = 0 then
     fX0_factsOf_106 p1 τ x_2 x_4
     else
     (if x_7 < 0 ∨ (tI τ 26 0).toNatClampNeg ≤ x_7.toNatClampNeg then none else
     (if (tA τ 26 x_7.toNatClampNeg &&& p1) = p1 then
     Option.bind (fX5_witnessed τ) (fun r7 =>
     nm (x_2 &&& r7) (fun x8 =>
     nm (x_4 ||| r7) (fun x9 =>
     fX0_factsOf_91 p1 (fX0_factsOf_29 p1 n) τ x8 x9 x_7)))
     else
     fX0_factsOf_91 p1 (fX0_factsOf_29 p1 n) τ x_2 x_4 x_7)))))
def fX0_factsOf  (τ : Tau) (p1 : Int32) : Option (Int64 × Tau) :=
 Option.bind (fX5_begin0 τ (tI τ 17 6) (tI τ 17 7)) (fun r1 =>
 fX0_factsOf_29 p1 FU r1 (-1 : Int64) (0 : Int64) (1 : Int32) (0 : Int32))
set_option maxHeartbeats 4000000 in
set_option maxRecDepth 100000 in
theorem c_X0_factsOf (l : Launch) (D : va_G) (cA : Nat → ClassId) (st ad : Nat → Nat) (a : Nat)  (τ : Tau) (p1 : Int32) (R : (Int64 × Tau)) (hf : fX0_factsOf τ p1 = some R) : KE ΛX 29 D cA st ad l yX0_factsOf cX0_factsOf 11 (some .long) 2 47 [.ref (adr ad a 17), .int p1] a τ (some (.long R.1)) R.2 := by
  refine KE.of "KindSayings$Heaps" rfl (by decide) (Nat.le_of_ble_eq_true rfl) (fun p e s m args below meth c A ls Rm Q hE hRm hQ hw hl => ?_)
  obtain ⟨hx, hb, hml, hown, hts, -⟩ := id hE
  have hl : lv_has ls 11 [(0, .ref (adr ad a 17)), (1, .int p1)] := hl
  have L106 : ∀ (τ : Tau) (x_2 : Int64) (x_4 : Int64) (H : Heap) (locs : List Loc) (ls : Array Slot), fX0_factsOf_106 p1 τ x_2 x_4 = some R → Wd ΛX 29 D cA ad A s a τ H locs → lv_has ls 11 [(2, .long x_2), (4, .long x_4)] → W p l e Rm s m args below meth c H locs 0 0 Q (F0 m 106 ls []) := by
    intro τ x_2 x_4 H locs ls hf hw hl
    unfold fX0_factsOf_106 at hf
    refine lv_lload hx hb dX0_factsOf_106 (lv_at hl 1 rfl) ?_
    refine lv_ldc2 hx hb hown (hts _ w_731) dX0_factsOf_108 ?_
    refine lv_lxor hx hb dX0_factsOf_111 ?_
    refine lv_ldc2 hx hb hown (hts _ w_736) dX0_factsOf_112 ?_
    refine lv_land hx hb dX0_factsOf_115 ?_
    refine lv_bipush (v := 16) hx hb dX0_factsOf_116 (by decide) ?_
    refine lv_lshl hx hb dX0_factsOf_118 rfl ?_
    obtain ⟨x13, ex13, hf⟩ := ks_nm hf
    refine W.eq (g2 := F0 m 119 ls (.long x13 :: [])) (by rw [ex13]) ?_
    refine lv_lstore (lv' := [(7, .long x13), (2, .long x_2), (4, .long x_4)]) hx hb dX0_factsOf_119 hl (by decide) rfl (fun ls hl => ?_)
    refine lv_lload hx hb dX0_factsOf_121 (lv_at hl 2 rfl) ?_
    refine lv_ldc2 hx hb hown (hts _ w_731) dX0_factsOf_123 ?_
    refine lv_lxor hx hb dX0_factsOf_126 ?_
    refine lv_ldc2 hx hb hown (hts _ w_737) dX0_factsOf_127 ?_
    refine lv_land hx hb dX0_factsOf_130 ?_
    refine lv_bipush (v := 48) hx hb dX0_factsOf_131 (by decide) ?_
    refine lv_lushr hx hb dX0_factsOf_133 rfl ?_
    obtain ⟨x14, ex14, hf⟩ := ks_nm hf
    refine W.eq (g2 := F0 m 134 ls (.long x14 :: [])) (by rw [ex14]) ?_
    refine lv_lstore (lv' := [(9, .long x14), (7, .long x13), (2, .long x_2), (4, .long x_4)]) hx hb dX0_factsOf_134 hl (by decide) rfl (fun ls hl => ?_)
    refine lv_lload_n hx hb dX0_factsOf_136 rfl (lv_at hl 2 rfl) ?_
    refine lv_ldc2 hx hb hown (hts _ w_738) dX0_factsOf_137 ?_
    refine lv_land hx hb dX0_factsOf_140 ?_
    refine lv_lload hx hb dX0_factsOf_141 (lv_at hl 1 rfl) ?_
    refine lv_lor hx hb dX0_factsOf_143 ?_
    refine lv_lload hx hb dX0_factsOf_144 (lv_at hl 0 rfl) ?_
    refine lv_lor hx hb dX0_factsOf_146 ?_
    replace hf := Option.some.inj hf
    subst hf
    exact ke_lret hE hw hQ dX0_factsOf_147 rfl rfl
  have L29 : ∀ (n29 : Nat) (τ : Tau) (x_2 : Int64) (x_4 : Int64) (x_6 : Int32) (x_7 : Int32) (H : Heap) (locs : List Loc) (ls : Array Slot), fX0_factsOf_29 p1 n29 τ x_2 x_4 x_6 x_7 = some R → Wd ΛX 29 D cA ad A s a τ H locs → lv_has ls 11 [(0, .ref (adr ad a 17)), (1, .int p1), (2, .long x_2), (4, .long x_4), (6, .int x_6), (7, .int x_7)] → W p l e Rm s m args below meth c H locs 0 0 Q (F0 m 29 ls []) := by
    intro n29
    induction n29 with
    | zero => intro τ x_2 x_4 x_6 x_7 H locs ls hf hw hl; exact absurd hf (by rw [fX0_factsOf_29]; simp)
    | succ n29 ih29 =>
      have L91 : ∀ (τ : Tau) (x_2 : Int64) (x_4 : Int64) (x_7 : Int32) (H : Heap) (locs : List Loc) (ls : Array Slot), fX0_factsOf_91 p1 (fX0_factsOf_29 p1 n29) τ x_2 x_4 x_7 = some R → Wd ΛX 29 D cA ad A s a τ H locs → lv_has ls 11 [(0, .ref (adr ad a 17)), (1, .int p1), (2, .long x_2), (4, .long x_4), (7, .int x_7)] → W p l e Rm s m args below meth c H locs 0 0 Q (F0 m 91 ls []) := by
        intro τ x_2 x_4 x_7 H locs ls hf hw hl
        unfold fX0_factsOf_91 at hf
        refine lv_aload_n hx hb dX0_factsOf_91 rfl (lv_at hl 0 rfl) ?_
        refine ks_getR hE hw 17 0 ltX_17 lyX_17 rfl fd_X0_12 dX0_factsOf_92 ?_
        obtain ⟨r10, er10, hf⟩ := ks_bind hf
        refine ke_V hE hw hl.1 cl_X0_97 18 ltX_18 lyX_18 rfl [] (c_X5_advance l D cA st ad a _ _ er10) rfl (ke_room hRm rfl rfl) ke_cnt (Nat.le_of_ble_eq_true rfl) rfl dX0_factsOf_95 (fun H locs hw => ?_)
        refine W.eq (g2 := F0 m 98 ls (.int (bI r10.1) :: [])) rfl ?_
        obtain ⟨x11, ex11, hf⟩ := ks_nm hf
        refine W.eq (g2 := F0 m 98 ls (.int x11 :: [])) (by rw [ex11]) ?_
        refine lv_istore (lv' := [(6, .int x11), (0, .ref (adr ad a 17)), (1, .int p1), (2, .long x_2), (4, .long x_4), (7, .int x_7)]) hx hb dX0_factsOf_98 hl (by decide) rfl (fun ls hl => ?_)
        obtain ⟨x12, ex12, hf⟩ := ks_nm hf
        refine lv_iinc (v := x12) (lv' := [(7, .int x12), (6, .int x11), (0, .ref (adr ad a 17)), (1, .int p1), (2, .long x_2), (4, .long x_4)]) hx hb dX0_factsOf_100 hl (k := 5) rfl (by rw [ex12]; rfl) (by decide) rfl (fun ls hl => ?_)
        refine lv_goto (tgt := 29) hx hb dX0_factsOf_103 (by decide) ?_
        exact ih29 _ _ _ _ _ _ _ _ hf hw (lv_sub hl [2, 3, 4, 5, 1, 0] rfl)
      intro τ x_2 x_4 x_6 x_7 H locs ls hf hw hl
      rw [fX0_factsOf_29] at hf
      refine lv_iload hx hb dX0_factsOf_29 (lv_at hl 5 rfl) ?_
      refine lv_aload_n hx hb dX0_factsOf_31 rfl (lv_at hl 0 rfl) ?_
      refine ks_getI hE hw 17 8 ltX_17 lyX_17 rfl fd_X0_59 dX0_factsOf_32 ?_
      refine lv_icmp_ge (tgt := 106) hx hb dX0_factsOf_35 (by decide) (fun c2 => ?_) (fun c2 => ?_)
      · have hf := (if_pos c2).symm.trans hf
        exact L106 _ _ _ _ _ _ hf hw (lv_sub hl [2, 3] rfl)
      · have hf := (if_neg c2).symm.trans hf
        refine lv_iload hx hb dX0_factsOf_38 (lv_at hl 5 rfl) ?_
        refine lv_aload_n hx hb dX0_factsOf_40 rfl (lv_at hl 0 rfl) ?_
        refine ks_getR hE hw 17 5 ltX_17 lyX_17 rfl fd_X0_32 dX0_factsOf_41 ?_
        refine ks_alen hE hw 26 ltX_26 lyX_26 rfl _ rfl dX0_factsOf_44 ?_
        refine lv_icmp_ge (tgt := 106) hx hb dX0_factsOf_45 (by decide) (fun c3 => ?_) (fun c3 => ?_)
        · have hf := (if_pos c3).symm.trans hf
          exact L106 _ _ _ _ _ _ hf hw (lv_sub hl [2, 3] rfl)
        · have hf := (if_neg c3).symm.trans hf
          refine lv_iload hx hb dX0_factsOf_48 (lv_at hl 4 rfl) ?_
          refine lv_if_eq (tgt := 106) hx hb dX0_factsOf_50 (by decide) (fun c4 => ?_) (fun c4 => ?_)
          · have hf := (if_pos c4).symm.trans hf
            exact L106 _ _ _ _ _ _ hf hw (lv_sub hl [2, 3] rfl)
          · have hf := (if_neg c4).symm.trans hf
            refine lv_aload_n hx hb dX0_factsOf_53 rfl (lv_at hl 0 rfl) ?_
            refine ks_getR hE hw 17 5 ltX_17 lyX_17 rfl fd_X0_32 dX0_factsOf_54 ?_
            refine lv_iload hx hb dX0_factsOf_57 (lv_at hl 5 rfl) ?_
            obtain ⟨b5, hf⟩ := ks_ok hf
            refine ks_cald hE hw 26 ltX_26 lyX_26 b5 dX0_factsOf_59 ?_
            refine lv_iload_n hx hb dX0_factsOf_60 rfl (lv_at hl 1 rfl) ?_
            refine lv_iand hx hb dX0_factsOf_61 ?_
            refine lv_iload_n hx hb dX0_factsOf_62 rfl (lv_at hl 1 rfl) ?_
            refine lv_icmp_ne (tgt := 91) hx hb dX0_factsOf_63 (by decide) (fun c6 => ?_) (fun c6 => ?_)
            · have hf := (if_neg c6).symm.trans hf
              exact L91 _ _ _ _ _ _ _ hf hw (lv_sub hl [0, 1, 2, 3, 5] rfl)
            · have hf := (if_pos c6).symm.trans hf
              refine lv_aload_n hx hb dX0_factsOf_66 rfl (lv_at hl 0 rfl) ?_
              refine ks_getR hE hw 17 0 ltX_17 lyX_17 rfl fd_X0_12 dX0_factsOf_67 ?_
              refine lv_aload_n hx hb dX0_factsOf_70 rfl (lv_at hl 0 rfl) ?_
              refine ks_getR hE hw 17 4 ltX_17 lyX_17 rfl fd_X0_28 dX0_factsOf_71 ?_
              obtain ⟨r7, er7, hf⟩ := ks_bind hf
              refine ke_V hE hw hl.1 cl_X0_115 18 ltX_18 lyX_18 rfl [.ref (adr ad a 25)] (c_X5_witnessed l D cA st ad a _ _ er7) rfl (ke_room hRm rfl rfl) ke_cnt (Nat.le_of_ble_eq_true rfl) rfl dX0_factsOf_74 (fun H locs hw => ?_)
              refine W.eq (g2 := F0 m 77 ls (.long r7 :: [])) rfl ?_
              refine lv_lstore (lv' := [(8, .long r7), (0, .ref (adr ad a 17)), (1, .int p1), (2, .long x_2), (4, .long x_4), (6, .int x_6), (7, .int x_7)]) hx hb dX0_factsOf_77 hl (by decide) rfl (fun ls hl => ?_)
              refine lv_lload_n hx hb dX0_factsOf_79 rfl (lv_at hl 3 rfl) ?_
              refine lv_lload hx hb dX0_factsOf_80 (lv_at hl 0 rfl) ?_
              refine lv_land hx hb dX0_factsOf_82 ?_
              obtain ⟨x8, ex8, hf⟩ := ks_nm hf
              refine W.eq (g2 := F0 m 83 ls (.long x8 :: [])) (by rw [ex8]) ?_
              refine lv_lstore_n (lv' := [(2, .long x8), (8, .long r7), (0, .ref (adr ad a 17)), (1, .int p1), (4, .long x_4), (6, .int x_6), (7, .int x_7)]) hx hb dX0_factsOf_83 rfl hl (by decide) rfl (fun ls hl => ?_)
              refine lv_lload hx hb dX0_factsOf_84 (lv_at hl 4 rfl) ?_
              refine lv_lload hx hb dX0_factsOf_86 (lv_at hl 1 rfl) ?_
              refine lv_lor hx hb dX0_factsOf_88 ?_
              obtain ⟨x9, ex9, hf⟩ := ks_nm hf
              refine W.eq (g2 := F0 m 89 ls (.long x9 :: [])) (by rw [ex9]) ?_
              refine lv_lstore (lv' := [(4, .long x9), (2, .long x8), (8, .long r7), (0, .ref (adr ad a 17)), (1, .int p1), (6, .int x_6), (7, .int x_7)]) hx hb dX0_factsOf_89 hl (by decide) rfl (fun ls hl => ?_)
              exact L91 _ _ _ _ _ _ _ hf hw (lv_sub hl [3, 4, 1, 0, 6] rfl)
  unfold fX0_factsOf at hf
  refine lv_ldc2 hx hb hown (hts _ w_731) dX0_factsOf_0 ?_
  refine lv_lstore_n (lv' := [(2, .long (-1 : Int64)), (0, .ref (adr ad a 17)), (1, .int p1)]) hx hb dX0_factsOf_3 rfl hl (by decide) rfl (fun ls hl => ?_)
  refine lv_lconst (v := 0) hx hb dX0_factsOf_4 (by decide) ?_
  refine lv_lstore (lv' := [(4, .long (0 : Int64)), (2, .long (-1 : Int64)), (0, .ref (adr ad a 17)), (1, .int p1)]) hx hb dX0_factsOf_5 hl (by decide) rfl (fun ls hl => ?_)
  refine lv_aload_n hx hb dX0_factsOf_7 rfl (lv_at hl 2 rfl) ?_
  refine ks_getR hE hw 17 0 ltX_17 lyX_17 rfl fd_X0_12 dX0_factsOf_8 ?_
  refine lv_aload_n hx hb dX0_factsOf_11 rfl (lv_at hl 2 rfl) ?_
  refine ks_getI hE hw 17 6 ltX_17 lyX_17 rfl fd_X0_48 dX0_factsOf_12 ?_
  refine lv_aload_n hx hb dX0_factsOf_15 rfl (lv_at hl 2 rfl) ?_
  refine ks_getI hE hw 17 7 ltX_17 lyX_17 rfl fd_X0_52 dX0_factsOf_16 ?_
  refine lv_null hx hb dX0_factsOf_19 ?_
  obtain ⟨r1, er1, hf⟩ := ks_bind hf
  refine ke_V hE hw hl.1 cl_X0_85 18 ltX_18 lyX_18 rfl [.int (tI τ 17 6), .int (tI τ 17 7), .null] (c_X5_begin0 l D cA st ad a _ _ _ _ er1) rfl (ke_room hRm rfl rfl) ke_cnt (Nat.le_of_ble_eq_true rfl) rfl dX0_factsOf_20 (fun H locs hw => ?_)
  refine W.eq (g2 := F0 m 23 ls ([])) rfl ?_
  refine lv_iconst (v := 1) hx hb dX0_factsOf_23 (by decide) ?_
  refine lv_istore (lv' := [(6, .int (1 : Int32)), (4, .long (0 : Int64)), (2, .long (-1 : Int64)), (0, .ref (adr ad a 17)), (1, .int p1)]) hx hb dX0_factsOf_24 hl (by decide) rfl (fun ls hl => ?_)
  refine lv_iconst (v := 0) hx hb dX0_factsOf_26 (by decide) ?_
  refine lv_istore (lv' := [(7, .int (0 : Int32)), (6, .int (1 : Int32)), (4, .long (0 : Int64)), (2, .long (-1 : Int64)), (0, .ref (adr ad a 17)), (1, .int p1)]) hx hb dX0_factsOf_27 hl (by decide) rfl (fun ls hl => ?_)
  exact L29 FU _ _ _ _ _ _ _ _ hf hw (lv_sub hl [4, 5, 3, 2, 1, 0] rfl)
