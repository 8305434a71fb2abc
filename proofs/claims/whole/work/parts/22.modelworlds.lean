def fX7_isFact_62 (τ : Tau) (p1 : Int32) (p2 : Int32) (p3 : Int32) (k9 : Int32 → Int32 → Int32 → Option Bool) (x_4 : Int32) (x_5 : Int32) (x_6 : Int32) : Option Bool :=
 nm (x_6 + (1 : Int32)) (fun x15 =>
     k9 x_4 x_5 x15)
def fX7_isFact_9 (τ : Tau) (p1 : Int32) (p2 : Int32) (p3 : Int32) : Nat → Int32 → Int32 → Int32 → Option Bool
  | 0, _, _, _ => none
  | n + 1, x_4, x_5, x_6 =>
     nm (fX7_sorts τ) (fun r1 =>
     (if r1 ≤ x_6 then
     (if p1 = 0 then
     (if x_5 = 0 then
     some true
     else
     some false)
     else
     (if p1 = (1 : Int32) then
     (if x_4 ≤ 0 then
     some false
     else
     some true)
     else
     (if p1 = (2 : Int32) then
     (if x_4 = 0 then
     some true
     else
     some false)
     else
     (if x_5 ≤ 0 then
     some false
     else
     some true))))
     else
     (if x_6 < 0 ∨ 16 ≤ x_6.toNatClampNeg then none else
     (if tA τ 6 x_6.toNatClampNeg ≤ 0 then
     fX7_isFact_62 τ p1 p2 p3 (fX7_isFact_9 τ p1 p2 p3 n) x_4 x_5 x_6
     else
     (if ((x_6 >>> (p2 &&& 31)) &&& (1 : Int32)) = (1 : Int32) then
     nm (x_4 + ((x_6 >>> (p3 &&& 31)) &&& (1 : Int32))) (fun x13 =>
     nm (x_5 + ((1 : Int32) - ((x_6 >>> (p3 &&& 31)) &&& (1 : Int32)))) (fun x14 =>
     fX7_isFact_62 τ p1 p2 p3 (fX7_isFact_9 τ p1 p2 p3 n) x13 x14 x_6))
     else
     fX7_isFact_62 τ p1 p2 p3 (fX7_isFact_9 τ p1 p2 p3 n) x_4 x_5 x_6)))))
def fX7_isFact (τ : Tau) (p1 : Int32) (p2 : Int32) (p3 : Int32) : Option Bool :=
 fX7_isFact_9 τ p1 p2 p3 FU (0 : Int32) (0 : Int32) (0 : Int32)
set_option maxHeartbeats 4000000 in
set_option maxRecDepth 100000 in
theorem c_X7_isFact (l : Launch) (D : va_G) (cA : Nat → ClassId) (st ad : Nat → Nat) (a : Nat)  (τ : Tau) (p1 : Int32) (p2 : Int32) (p3 : Int32) (R : Bool) (hf : fX7_isFact τ p1 p2 p3 = some R) : KE ΛM 12 D cA st ad l yX7_isFact cX7_isFact 7 (some .boolean) 1 20 [.ref (adr ad a 0), .int p1, .int p2, .int p3] a τ (some (.int (bI R))) τ := by
  refine KE.of "KindSayingsModel" rfl (by decide) (Nat.le_of_ble_eq_true rfl) (fun p e s m args below meth c A ls Rm Q hE hRm hQ hw hl => ?_)
  obtain ⟨hx, hb, hml, hown, hts, -⟩ := id hE
  have hl : lv_has ls 7 [(0, .ref (adr ad a 0)), (1, .int p1), (2, .int p2), (3, .int p3)] := hl
  have L9 : ∀ (n9 : Nat) (x_4 : Int32) (x_5 : Int32) (x_6 : Int32) (H : Heap) (locs : List Loc) (ls : Array Slot), fX7_isFact_9 τ p1 p2 p3 n9 x_4 x_5 x_6 = some R → Wd ΛM 12 D cA ad A s a τ H locs → lv_has ls 7 [(0, .ref (adr ad a 0)), (1, .int p1), (2, .int p2), (3, .int p3), (4, .int x_4), (5, .int x_5), (6, .int x_6)] → W p l e Rm s m args below meth c H locs 0 0 Q (F0 m 9 ls []) := by
    intro n9
    induction n9 with
    | zero => intro x_4 x_5 x_6 H locs ls hf hw hl; exact absurd hf (by rw [fX7_isFact_9]; simp)
    | succ n9 ih9 =>
      have L62 : ∀ (x_4 : Int32) (x_5 : Int32) (x_6 : Int32) (H : Heap) (locs : List Loc) (ls : Array Slot), fX7_isFact_62 τ p1 p2 p3 (fX7_isFact_9 τ p1 p2 p3 n9) x_4 x_5 x_6 = some R → Wd ΛM 12 D cA ad A s a τ H locs → lv_has ls 7 [(0, .ref (adr ad a 0)), (1, .int p1), (2, .int p2), (3, .int p3), (4, .int x_4), (5, .int x_5), (6, .int x_6)] → W p l e Rm s m args below meth c H locs 0 0 Q (F0 m 62 ls []) := by
        intro x_4 x_5 x_6 H locs ls hf hw hl
        unfold fX7_isFact_62 at hf
        obtain ⟨x15, ex15, hf⟩ := ks_nm hf
        refine lv_iinc (v := x15) (lv' := [(6, .int x15), (0, .ref (adr ad a 0)), (1, .int p1), (2, .int p2), (3, .int p3), (4, .int x_4), (5, .int x_5)]) hx hb dX7_isFact_62 hl (k := 6) rfl (by rw [ex15]; rfl) (by decide) rfl (fun ls hl => ?_)
        refine lv_goto (tgt := 9) hx hb dX7_isFact_65 (by decide) ?_
        exact ih9 _ _ _ _ _ _ hf hw (lv_sub hl [1, 2, 3, 4, 5, 6, 0] rfl)
      intro x_4 x_5 x_6 H locs ls hf hw hl
      rw [fX7_isFact_9] at hf
      refine lv_iload hx hb dX7_isFact_9 (lv_at hl 6 rfl) ?_
      refine lv_aload_n hx hb dX7_isFact_11 rfl (lv_at hl 0 rfl) ?_
      obtain ⟨r1, er1, hf⟩ := ks_nm hf
      refine ke_V hE hw hl.1 cl_X7_60 0 ltM_0 lyM_0 rfl [] (c_X7_sorts l D cA st ad a _ _ er1.symm) rfl (ke_room hRm rfl rfl) ke_cnt (Nat.le_of_ble_eq_true rfl) rfl dX7_isFact_12 (fun H locs hw => ?_)
      refine W.eq (g2 := F0 m 15 ls (.int r1 :: .int x_6 :: [])) rfl ?_
      refine lv_icmp_ge (tgt := 68) hx hb dX7_isFact_15 (by decide) (fun c2 => ?_) (fun c2 => ?_)
      · have hf := (if_pos c2).symm.trans hf
        refine lv_iload_n hx hb dX7_isFact_68 rfl (lv_at hl 1 rfl) ?_
        refine lv_if_ne (tgt := 85) hx hb dX7_isFact_69 (by decide) (fun c3 => ?_) (fun c3 => ?_)
        · have hf := (if_neg c3).symm.trans hf
          refine lv_iload_n hx hb dX7_isFact_85 rfl (lv_at hl 1 rfl) ?_
          refine lv_iconst (v := 1) hx hb dX7_isFact_86 (by decide) ?_
          refine lv_icmp_ne (tgt := 103) hx hb dX7_isFact_87 (by decide) (fun c4 => ?_) (fun c4 => ?_)
          · have hf := (if_neg c4).symm.trans hf
            refine lv_iload_n hx hb dX7_isFact_103 rfl (lv_at hl 1 rfl) ?_
            refine lv_iconst (v := 2) hx hb dX7_isFact_104 (by decide) ?_
            refine lv_icmp_ne (tgt := 121) hx hb dX7_isFact_105 (by decide) (fun c5 => ?_) (fun c5 => ?_)
            · have hf := (if_neg c5).symm.trans hf
              refine lv_iload hx hb dX7_isFact_121 (lv_at hl 5 rfl) ?_
              refine lv_if_le (tgt := 130) hx hb dX7_isFact_123 (by decide) (fun c6 => ?_) (fun c6 => ?_)
              · have hf := (if_pos c6).symm.trans hf
                refine lv_iconst (v := 0) hx hb dX7_isFact_130 (by decide) ?_
                replace hf := Option.some.inj hf
                subst hf
                exact ke_zret hE hw hQ (Or.inl rfl) dX7_isFact_131 rfl rfl
              · have hf := (if_neg c6).symm.trans hf
                refine lv_iconst (v := 1) hx hb dX7_isFact_126 (by decide) ?_
                refine lv_goto (tgt := 131) hx hb dX7_isFact_127 (by decide) ?_
                replace hf := Option.some.inj hf
                subst hf
                exact ke_zret hE hw hQ (Or.inr rfl) dX7_isFact_131 rfl rfl
            · have hf := (if_pos c5).symm.trans hf
              refine lv_iload hx hb dX7_isFact_108 (lv_at hl 4 rfl) ?_
              refine lv_if_ne (tgt := 117) hx hb dX7_isFact_110 (by decide) (fun c7 => ?_) (fun c7 => ?_)
              · have hf := (if_neg c7).symm.trans hf
                refine lv_iconst (v := 0) hx hb dX7_isFact_117 (by decide) ?_
                refine lv_goto (tgt := 131) hx hb dX7_isFact_118 (by decide) ?_
                replace hf := Option.some.inj hf
                subst hf
                exact ke_zret hE hw hQ (Or.inl rfl) dX7_isFact_131 rfl rfl
              · have hf := (if_pos c7).symm.trans hf
                refine lv_iconst (v := 1) hx hb dX7_isFact_113 (by decide) ?_
                refine lv_goto (tgt := 131) hx hb dX7_isFact_114 (by decide) ?_
                replace hf := Option.some.inj hf
                subst hf
                exact ke_zret hE hw hQ (Or.inr rfl) dX7_isFact_131 rfl rfl
          · have hf := (if_pos c4).symm.trans hf
            refine lv_iload hx hb dX7_isFact_90 (lv_at hl 4 rfl) ?_
            refine lv_if_le (tgt := 99) hx hb dX7_isFact_92 (by decide) (fun c8 => ?_) (fun c8 => ?_)
            · have hf := (if_pos c8).symm.trans hf
              refine lv_iconst (v := 0) hx hb dX7_isFact_99 (by decide) ?_
              refine lv_goto (tgt := 131) hx hb dX7_isFact_100 (by decide) ?_
              replace hf := Option.some.inj hf
              subst hf
              exact ke_zret hE hw hQ (Or.inl rfl) dX7_isFact_131 rfl rfl
            · have hf := (if_neg c8).symm.trans hf
              refine lv_iconst (v := 1) hx hb dX7_isFact_95 (by decide) ?_
              refine lv_goto (tgt := 131) hx hb dX7_isFact_96 (by decide) ?_
              replace hf := Option.some.inj hf
              subst hf
              exact ke_zret hE hw hQ (Or.inr rfl) dX7_isFact_131 rfl rfl
        · have hf := (if_pos c3).symm.trans hf
          refine lv_iload hx hb dX7_isFact_72 (lv_at hl 5 rfl) ?_
          refine lv_if_ne (tgt := 81) hx hb dX7_isFact_74 (by decide) (fun c9 => ?_) (fun c9 => ?_)
          · have hf := (if_neg c9).symm.trans hf
            refine lv_iconst (v := 0) hx hb dX7_isFact_81 (by decide) ?_
            refine lv_goto (tgt := 131) hx hb dX7_isFact_82 (by decide) ?_
            replace hf := Option.some.inj hf
            subst hf
            exact ke_zret hE hw hQ (Or.inl rfl) dX7_isFact_131 rfl rfl
          · have hf := (if_pos c9).symm.trans hf
            refine lv_iconst (v := 1) hx hb dX7_isFact_77 (by decide) ?_
            refine lv_goto (tgt := 131) hx hb dX7_isFact_78 (by decide) ?_
            replace hf := Option.some.inj hf
            subst hf
            exact ke_zret hE hw hQ (Or.inr rfl) dX7_isFact_131 rfl rfl
      · have hf := (if_neg c2).symm.trans hf
        refine lv_aload_n hx hb dX7_isFact_18 rfl (lv_at hl 0 rfl) ?_
        refine ks_getR hE hw 0 19 ltM_0 lyM_0 rfl fd_X7_35 dX7_isFact_19 ?_
        refine lv_iload hx hb dX7_isFact_22 (lv_at hl 6 rfl) ?_
        obtain ⟨b10, hf⟩ := ks_ok hf
        refine ks_iald hE hw 6 ltM_6 lyM_6 b10 dX7_isFact_24 ?_
        refine lv_if_le (tgt := 62) hx hb dX7_isFact_25 (by decide) (fun c11 => ?_) (fun c11 => ?_)
        · have hf := (if_pos c11).symm.trans hf
          exact L62 _ _ _ _ _ _ hf hw (lv_sub hl [0, 1, 2, 3, 4, 5, 6] rfl)
        · have hf := (if_neg c11).symm.trans hf
          refine lv_iload hx hb dX7_isFact_28 (lv_at hl 6 rfl) ?_
          refine lv_iload_n hx hb dX7_isFact_30 rfl (lv_at hl 2 rfl) ?_
          refine lv_ishr hx hb dX7_isFact_31 ?_
          refine lv_iconst (v := 1) hx hb dX7_isFact_32 (by decide) ?_
          refine lv_iand hx hb dX7_isFact_33 ?_
          refine lv_iconst (v := 1) hx hb dX7_isFact_34 (by decide) ?_
          refine lv_icmp_ne (tgt := 62) hx hb dX7_isFact_35 (by decide) (fun c12 => ?_) (fun c12 => ?_)
          · have hf := (if_neg c12).symm.trans hf
            exact L62 _ _ _ _ _ _ hf hw (lv_sub hl [0, 1, 2, 3, 4, 5, 6] rfl)
          · have hf := (if_pos c12).symm.trans hf
            refine lv_iload hx hb dX7_isFact_38 (lv_at hl 4 rfl) ?_
            refine lv_iload hx hb dX7_isFact_40 (lv_at hl 6 rfl) ?_
            refine lv_iload_n hx hb dX7_isFact_42 rfl (lv_at hl 3 rfl) ?_
            refine lv_ishr hx hb dX7_isFact_43 ?_
            refine lv_iconst (v := 1) hx hb dX7_isFact_44 (by decide) ?_
            refine lv_iand hx hb dX7_isFact_45 ?_
            refine lv_iadd hx hb dX7_isFact_46 ?_
            obtain ⟨x13, ex13, hf⟩ := ks_nm hf
            refine W.eq (g2 := F0 m 47 ls (.int x13 :: [])) (by rw [ex13]) ?_
            refine lv_istore (lv' := [(4, .int x13), (0, .ref (adr ad a 0)), (1, .int p1), (2, .int p2), (3, .int p3), (5, .int x_5), (6, .int x_6)]) hx hb dX7_isFact_47 hl (by decide) rfl (fun ls hl => ?_)
            refine lv_iload hx hb dX7_isFact_49 (lv_at hl 5 rfl) ?_
            refine lv_iconst (v := 1) hx hb dX7_isFact_51 (by decide) ?_
            refine lv_iload hx hb dX7_isFact_52 (lv_at hl 6 rfl) ?_
            refine lv_iload_n hx hb dX7_isFact_54 rfl (lv_at hl 4 rfl) ?_
            refine lv_ishr hx hb dX7_isFact_55 ?_
            refine lv_iconst (v := 1) hx hb dX7_isFact_56 (by decide) ?_
            refine lv_iand hx hb dX7_isFact_57 ?_
            refine lv_isub hx hb dX7_isFact_58 ?_
            refine lv_iadd hx hb dX7_isFact_59 ?_
            obtain ⟨x14, ex14, hf⟩ := ks_nm hf
            refine W.eq (g2 := F0 m 60 ls (.int x14 :: [])) (by rw [ex14]) ?_
            refine lv_istore (lv' := [(5, .int x14), (4, .int x13), (0, .ref (adr ad a 0)), (1, .int p1), (2, .int p2), (3, .int p3), (6, .int x_6)]) hx hb dX7_isFact_60 hl (by decide) rfl (fun ls hl => ?_)
            exact L62 _ _ _ _ _ _ hf hw (lv_sub hl [2, 3, 4, 5, 1, 0, 6] rfl)
  unfold fX7_isFact at hf
  refine lv_iconst (v := 0) hx hb dX7_isFact_0 (by decide) ?_
  refine lv_istore (lv' := [(4, .int (0 : Int32)), (0, .ref (adr ad a 0)), (1, .int p1), (2, .int p2), (3, .int p3)]) hx hb dX7_isFact_1 hl (by decide) rfl (fun ls hl => ?_)
  refine lv_iconst (v := 0) hx hb dX7_isFact_3 (by decide) ?_
  refine lv_istore (lv' := [(5, .int (0 : Int32)), (4, .int (0 : Int32)), (0, .ref (adr ad a 0)), (1, .int p1), (2, .int p2), (3, .int p3)]) hx hb dX7_isFact_4 hl (by decide) rfl (fun ls hl => ?_)
  refine lv_iconst (v := 0) hx hb dX7_isFact_6 (by decide) ?_
  refine lv_istore (lv' := [(6, .int (0 : Int32)), (5, .int (0 : Int32)), (4, .int (0 : Int32)), (0, .ref (adr ad a 0)), (1, .int p1), (2, .int p2), (3, .int p3)]) hx hb dX7_isFact_7 hl (by decide) rfl (fun ls hl => ?_)
  exact L9 FU _ _ _ _ _ _ hf hw (lv_sub hl [3, 4, 5, 6, 2, 1, 0] rfl)
def fX7_takes_187 (k119 : Tau → Int32 → Int32 → Option Tau) (k126 : Tau → Int32 → Int32 → Int32 → Option Tau) (k137 : Tau → Int32 → Int32 → Int32 → Int32 → Option Tau) (τ : Tau) (x_1 : Int32) (x_2 : Int32) (x_3 : Int32) (x_4 : Int32) (z_0 : Int64) (z_1 : Int64) (z_2 : Int32) : Option Tau :=
 (if z_2 < 0 ∨ 1024 ≤ z_2.toNatClampNeg then none else
     nm (sB τ 10 z_2.toNatClampNeg (z_1 &&& z_0)) (fun t30 =>
     nm (x_4 + (1 : Int32)) (fun x31 =>
     k137 t30 x_1 x_2 x_3 x31)))
def fX7_takes_137 (k119 : Tau → Int32 → Int32 → Option Tau) (k126 : Tau → Int32 → Int32 → Int32 → Option Tau) : Nat → Tau → Int32 → Int32 → Int32 → Int32 → Option Tau
  | 0, _, _, _, _, _ => none
  | n + 1, τ, x_1, x_2, x_3, x_4 =>
     (if tI τ 0 1 ≤ x_4 then
     nm (x_3 + (1 : Int32)) (fun x25 =>
     k126 τ x_1 x_2 x25)
     else
     (if x_1 < 0 ∨ 1024 ≤ x_1.toNatClampNeg then none else
     Option.bind (fX7_isFact τ x_2 x_3 x_4) (fun r27 =>
     (if bI r27 = 0 then
     fX7_takes_187 k119 k126 (fX7_takes_137 k119 k126 n) τ x_1 x_2 x_3 x_4 (((1 : Int64) <<< (((((16 : Int32) * x_2) + ((4 : Int32) * x_3)) + x_4).toInt64 &&& 63)) ^^^ (-1 : Int64)) (tB τ 10 x_1.toNatClampNeg) x_1
     else
     fX7_takes_187 k119 k126 (fX7_takes_137 k119 k126 n) τ x_1 x_2 x_3 x_4 (-1 : Int64) (tB τ 10 x_1.toNatClampNeg) x_1))))
def fX7_takes_126 (k119 : Tau → Int32 → Int32 → Option Tau) : Nat → Tau → Int32 → Int32 → Int32 → Option Tau
  | 0, _, _, _, _ => none
  | n + 1, τ, x_1, x_2, x_3 =>
     (if tI τ 0 1 ≤ x_3 then
     nm (x_2 + (1 : Int32)) (fun x23 =>
     k119 τ x_1 x23)
     else
     fX7_takes_137 k119 (fX7_takes_126 k119 n) FU τ x_1 x_2 x_3 (0 : Int32))
def fX7_takes_119  : Nat → Tau → Int32 → Int32 → Option Tau
  | 0, _, _, _ => none
  | n + 1, τ, x_1, x_2 =>
     (if (4 : Int32) ≤ x_2 then
     some τ
     else
     fX7_takes_126 (fX7_takes_119 n) FU τ x_1 x_2 (0 : Int32))
def fX7_takes_97  (τ : Tau) (x_1 : Int32) : Option Tau :=
 (if x_1 < 0 ∨ 1024 ≤ x_1.toNatClampNeg then none else
    (if x_1 < 0 ∨ 1024 ≤ x_1.toNatClampNeg then none else
     nm (sA τ 7 x_1.toNatClampNeg (tA τ 7 x_1.toNatClampNeg + (1 : Int32))) (fun t19 =>
     nm (sI t19 0 18 (tI t19 0 18 + (1 : Int32))) (fun t20 =>
     fX7_takes_119 FU t20 x_1 (0 : Int32)))))
def fX7_takes_59  : Nat → Tau → Int32 → Int32 → Option Tau
  | 0, _, _, _ => none
  | n + 1, τ, x_1, x_2 =>
     (if (16 : Int32) ≤ x_2 then
     (if x_1 < 0 ∨ 1024 ≤ x_1.toNatClampNeg then none else
     nm (sB τ 10 x_1.toNatClampNeg (-1 : Int64)) (fun t12 =>
     fX7_takes_97 t12 x_1))
     else
     (if x_2 < 0 ∨ 16 ≤ x_2.toNatClampNeg then none else
     (if (((16 : Int32) * x_1) + x_2) < 0 ∨ 16384 ≤ (((16 : Int32) * x_1) + x_2).toNatClampNeg then none else
     nm (sA τ 9 (((16 : Int32) * x_1) + x_2).toNatClampNeg (tA τ 6 x_2.toNatClampNeg)) (fun t15 =>
     nm (x_2 + (1 : Int32)) (fun x16 =>
     fX7_takes_59 n t15 x_1 x16)))))
def fX7_takes_30 (k4 : Tau → Int32 → Int32 → Option Tau) (τ : Tau) (x_2 : Int32) (z_0 : Int32) (z_1 : Int32) : Option Tau :=
 nm (z_1 ||| z_0) (fun x8 =>
     nm (x_2 + (1 : Int32)) (fun x9 =>
     k4 τ x8 x9))
def fX7_takes_4  : Nat → Tau → Int32 → Int32 → Option Tau
  | 0, _, _, _ => none
  | n + 1, τ, x_1, x_2 =>
     (if (10 : Int32) ≤ x_2 then
     (if x_1 < 0 ∨ 1024 ≤ x_1.toNatClampNeg then none else
     (if tA τ 7 x_1.toNatClampNeg = 0 then
     (if x_1 < 0 ∨ 1024 ≤ x_1.toNatClampNeg then none else
     nm (sA τ 8 x_1.toNatClampNeg (tI τ 0 18)) (fun t5 =>
     fX7_takes_59 FU t5 x_1 (0 : Int32)))
     else
     fX7_takes_97 τ x_1))
     else
     Option.bind (fX7_isSo 6 τ x_2) (fun r6 =>
     (if bI r6 = 0 then
     fX7_takes_30 (fX7_takes_4 n) τ x_2 (0 : Int32) x_1
     else
     fX7_takes_30 (fX7_takes_4 n) τ x_2 ((1 : Int32) <<< (x_2 &&& 31)) x_1)))
def fX7_takes  (τ : Tau) : Option Tau :=
 fX7_takes_4 FU τ (0 : Int32) (0 : Int32)
set_option maxHeartbeats 4000000 in
set_option maxRecDepth 100000 in
theorem c_X7_takes (l : Launch) (D : va_G) (cA : Nat → ClassId) (st ad : Nat → Nat) (a : Nat)  (τ : Tau) (R : Tau) (hf : fX7_takes τ = some R) : KE ΛM 12 D cA st ad l yX7_takes cX7_takes 5 none 3 72 [.ref (adr ad a 0)] a τ (none) R := by
  refine KE.of "KindSayingsModel" rfl (by decide) (Nat.le_of_ble_eq_true rfl) (fun p e s m args below meth c A ls Rm Q hE hRm hQ hw hl => ?_)
  obtain ⟨hx, hb, hml, hown, hts, -⟩ := id hE
  have hl : lv_has ls 5 [(0, .ref (adr ad a 0))] := hl
  have L119 : ∀ (n119 : Nat) (τ : Tau) (x_1 : Int32) (x_2 : Int32) (H : Heap) (locs : List Loc) (ls : Array Slot), fX7_takes_119 n119 τ x_1 x_2 = some R → Wd ΛM 12 D cA ad A s a τ H locs → lv_has ls 5 [(0, .ref (adr ad a 0)), (1, .int x_1), (2, .int x_2)] → W p l e Rm s m args below meth c H locs 0 0 Q (F0 m 119 ls []) := by
    intro n119
    induction n119 with
    | zero => intro τ x_1 x_2 H locs ls hf hw hl; exact absurd hf (by rw [fX7_takes_119]; simp)
    | succ n119 ih119 =>
      have L126 : ∀ (n126 : Nat) (τ : Tau) (x_1 : Int32) (x_2 : Int32) (x_3 : Int32) (H : Heap) (locs : List Loc) (ls : Array Slot), fX7_takes_126 (fX7_takes_119 n119) n126 τ x_1 x_2 x_3 = some R → Wd ΛM 12 D cA ad A s a τ H locs → lv_has ls 5 [(0, .ref (adr ad a 0)), (1, .int x_1), (2, .int x_2), (3, .int x_3)] → W p l e Rm s m args below meth c H locs 0 0 Q (F0 m 126 ls []) := by
        intro n126
        induction n126 with
        | zero => intro τ x_1 x_2 x_3 H locs ls hf hw hl; exact absurd hf (by rw [fX7_takes_126]; simp)
        | succ n126 ih126 =>
          have L137 : ∀ (n137 : Nat) (τ : Tau) (x_1 : Int32) (x_2 : Int32) (x_3 : Int32) (x_4 : Int32) (H : Heap) (locs : List Loc) (ls : Array Slot), fX7_takes_137 (fX7_takes_119 n119) (fX7_takes_126 (fX7_takes_119 n119) n126) n137 τ x_1 x_2 x_3 x_4 = some R → Wd ΛM 12 D cA ad A s a τ H locs → lv_has ls 5 [(0, .ref (adr ad a 0)), (1, .int x_1), (2, .int x_2), (3, .int x_3), (4, .int x_4)] → W p l e Rm s m args below meth c H locs 0 0 Q (F0 m 137 ls []) := by
            intro n137
            induction n137 with
            | zero => intro τ x_1 x_2 x_3 x_4 H locs ls hf hw hl; exact absurd hf (by rw [fX7_takes_137]; simp)
            | succ n137 ih137 =>
              have L187 : ∀ (τ : Tau) (x_1 : Int32) (x_2 : Int32) (x_3 : Int32) (x_4 : Int32) (z_0 : Int64) (z_1 : Int64) (z_2 : Int32) (H : Heap) (locs : List Loc) (ls : Array Slot), fX7_takes_187 (fX7_takes_119 n119) (fX7_takes_126 (fX7_takes_119 n119) n126) (fX7_takes_137 (fX7_takes_119 n119) (fX7_takes_126 (fX7_takes_119 n119) n126) n137) τ x_1 x_2 x_3 x_4 z_0 z_1 z_2 = some R → Wd ΛM 12 D cA ad A s a τ H locs → lv_has ls 5 [(0, .ref (adr ad a 0)), (1, .int x_1), (2, .int x_2), (3, .int x_3), (4, .int x_4)] → W p l e Rm s m args below meth c H locs 0 0 Q (F0 m 187 ls [.long z_0, .long z_1, .int z_2, .ref (adr ad a 10)]) := by
                intro τ x_1 x_2 x_3 x_4 z_0 z_1 z_2 H locs ls hf hw hl
                unfold fX7_takes_187 at hf
                refine lv_land hx hb dX7_takes_187 ?_
                obtain ⟨b29, hf⟩ := ks_ok hf
                obtain ⟨t30, et30, hf⟩ := ks_nm hf
                refine ks_last hE hw 10 ltM_10 lyM_10 b29 dX7_takes_188 (fun H locs hw => ?_)
                rw [← et30] at hw
                obtain ⟨x31, ex31, hf⟩ := ks_nm hf
                refine lv_iinc (v := x31) (lv' := [(4, .int x31), (0, .ref (adr ad a 0)), (1, .int x_1), (2, .int x_2), (3, .int x_3)]) hx hb dX7_takes_189 hl (k := 4) rfl (by rw [ex31]; rfl) (by decide) rfl (fun ls hl => ?_)
                refine lv_goto (tgt := 137) hx hb dX7_takes_192 (by decide) ?_
                exact ih137 _ _ _ _ _ _ _ _ hf hw (lv_sub hl [1, 2, 3, 4, 0] rfl)
              intro τ x_1 x_2 x_3 x_4 H locs ls hf hw hl
              rw [fX7_takes_137] at hf
              refine lv_iload hx hb dX7_takes_137 (lv_at hl 4 rfl) ?_
              refine lv_aload_n hx hb dX7_takes_139 rfl (lv_at hl 0 rfl) ?_
              refine ks_getI hE hw 0 1 ltM_0 lyM_0 rfl fd_X7_7 dX7_takes_140 ?_
              refine lv_icmp_ge (tgt := 195) hx hb dX7_takes_143 (by decide) (fun c24 => ?_) (fun c24 => ?_)
              · have hf := (if_pos c24).symm.trans hf
                obtain ⟨x25, ex25, hf⟩ := ks_nm hf
                refine lv_iinc (v := x25) (lv' := [(3, .int x25), (0, .ref (adr ad a 0)), (1, .int x_1), (2, .int x_2), (4, .int x_4)]) hx hb dX7_takes_195 hl (k := 3) rfl (by rw [ex25]; rfl) (by decide) rfl (fun ls hl => ?_)
                refine lv_goto (tgt := 126) hx hb dX7_takes_198 (by decide) ?_
                exact ih126 _ _ _ _ _ _ _ hf hw (lv_sub hl [1, 2, 3, 0] rfl)
              · have hf := (if_neg c24).symm.trans hf
                refine lv_aload_n hx hb dX7_takes_146 rfl (lv_at hl 0 rfl) ?_
                refine ks_getR hE hw 0 23 ltM_0 lyM_0 rfl fd_X7_47 dX7_takes_147 ?_
                refine lv_iload_n hx hb dX7_takes_150 rfl (lv_at hl 1 rfl) ?_
                refine lv_dup2_11 hx hb dX7_takes_151 rfl rfl ?_
                obtain ⟨b26, hf⟩ := ks_ok hf
                refine ks_lald hE hw 10 ltM_10 lyM_10 b26 dX7_takes_152 ?_
                refine lv_aload_n hx hb dX7_takes_153 rfl (lv_at hl 0 rfl) ?_
                refine lv_iload_n hx hb dX7_takes_154 rfl (lv_at hl 2 rfl) ?_
                refine lv_iload_n hx hb dX7_takes_155 rfl (lv_at hl 3 rfl) ?_
                refine lv_iload hx hb dX7_takes_156 (lv_at hl 4 rfl) ?_
                obtain ⟨r27, er27, hf⟩ := ks_bind hf
                refine ke_V hE hw hl.1 cl_X7_172 0 ltM_0 lyM_0 rfl [.int x_2, .int x_3, .int x_4] (c_X7_isFact l D cA st ad a _ _ _ _ _ er27) rfl (ke_room hRm rfl rfl) ke_cnt (Nat.le_of_ble_eq_true rfl) rfl dX7_takes_158 (fun H locs hw => ?_)
                refine W.eq (g2 := F0 m 161 ls (.int (bI r27) :: .long (tB τ 10 x_1.toNatClampNeg) :: .int x_1 :: .ref (adr ad a 10) :: [])) rfl ?_
                refine lv_if_eq (tgt := 170) hx hb dX7_takes_161 (by decide) (fun c28 => ?_) (fun c28 => ?_)
                · have hf := (if_pos c28).symm.trans hf
                  refine lv_lconst (v := 1) hx hb dX7_takes_170 (by decide) ?_
                  refine lv_bipush (v := 16) hx hb dX7_takes_171 (by decide) ?_
                  refine lv_iload_n hx hb dX7_takes_173 rfl (lv_at hl 2 rfl) ?_
                  refine lv_imul hx hb dX7_takes_174 ?_
                  refine lv_iconst (v := 4) hx hb dX7_takes_175 (by decide) ?_
                  refine lv_iload_n hx hb dX7_takes_176 rfl (lv_at hl 3 rfl) ?_
                  refine lv_imul hx hb dX7_takes_177 ?_
                  refine lv_iadd hx hb dX7_takes_178 ?_
                  refine lv_iload hx hb dX7_takes_179 (lv_at hl 4 rfl) ?_
                  refine lv_iadd hx hb dX7_takes_181 ?_
                  refine lv_lshl hx hb dX7_takes_182 rfl ?_
                  refine lv_ldc2 hx hb hown (hts _ w_889) dX7_takes_183 ?_
                  refine lv_lxor hx hb dX7_takes_186 ?_
                  exact L187 _ _ _ _ _ _ _ _ _ _ _ hf hw (lv_sub hl [0, 1, 2, 3, 4] rfl)
                · have hf := (if_neg c28).symm.trans hf
                  refine lv_ldc2 hx hb hown (hts _ w_889) dX7_takes_164 ?_
                  refine lv_goto (tgt := 187) hx hb dX7_takes_167 (by decide) ?_
                  exact L187 _ _ _ _ _ _ _ _ _ _ _ hf hw (lv_sub hl [0, 1, 2, 3, 4] rfl)
          intro τ x_1 x_2 x_3 H locs ls hf hw hl
          rw [fX7_takes_126] at hf
          refine lv_iload_n hx hb dX7_takes_126 rfl (lv_at hl 3 rfl) ?_
          refine lv_aload_n hx hb dX7_takes_127 rfl (lv_at hl 0 rfl) ?_
          refine ks_getI hE hw 0 1 ltM_0 lyM_0 rfl fd_X7_7 dX7_takes_128 ?_
          refine lv_icmp_ge (tgt := 201) hx hb dX7_takes_131 (by decide) (fun c22 => ?_) (fun c22 => ?_)
          · have hf := (if_pos c22).symm.trans hf
            obtain ⟨x23, ex23, hf⟩ := ks_nm hf
            refine lv_iinc (v := x23) (lv' := [(2, .int x23), (0, .ref (adr ad a 0)), (1, .int x_1), (3, .int x_3)]) hx hb dX7_takes_201 hl (k := 2) rfl (by rw [ex23]; rfl) (by decide) rfl (fun ls hl => ?_)
            refine lv_goto (tgt := 119) hx hb dX7_takes_204 (by decide) ?_
            exact ih119 _ _ _ _ _ _ hf hw (lv_sub hl [1, 2, 0] rfl)
          · have hf := (if_neg c22).symm.trans hf
            refine lv_iconst (v := 0) hx hb dX7_takes_134 (by decide) ?_
            refine lv_istore (lv' := [(4, .int (0 : Int32)), (0, .ref (adr ad a 0)), (1, .int x_1), (2, .int x_2), (3, .int x_3)]) hx hb dX7_takes_135 hl (by decide) rfl (fun ls hl => ?_)
            exact L137 FU _ _ _ _ _ _ _ _ hf hw (lv_sub hl [1, 2, 3, 4, 0] rfl)
      intro τ x_1 x_2 H locs ls hf hw hl
      rw [fX7_takes_119] at hf
      refine lv_iload_n hx hb dX7_takes_119 rfl (lv_at hl 2 rfl) ?_
      refine lv_iconst (v := 4) hx hb dX7_takes_120 (by decide) ?_
      refine lv_icmp_ge (tgt := 207) hx hb dX7_takes_121 (by decide) (fun c21 => ?_) (fun c21 => ?_)
      · have hf := (if_pos c21).symm.trans hf
        replace hf := Option.some.inj hf
        subst hf
        exact ke_vret hE hw hQ dX7_takes_207 rfl
      · have hf := (if_neg c21).symm.trans hf
        refine lv_iconst (v := 0) hx hb dX7_takes_124 (by decide) ?_
        refine lv_istore_n (lv' := [(3, .int (0 : Int32)), (0, .ref (adr ad a 0)), (1, .int x_1), (2, .int x_2)]) hx hb dX7_takes_125 rfl hl (by decide) rfl (fun ls hl => ?_)
        exact L126 FU _ _ _ _ _ _ _ hf hw (lv_sub hl [1, 2, 3, 0] rfl)
  have L97 : ∀ (τ : Tau) (x_1 : Int32) (H : Heap) (locs : List Loc) (ls : Array Slot), fX7_takes_97 τ x_1 = some R → Wd ΛM 12 D cA ad A s a τ H locs → lv_has ls 5 [(0, .ref (adr ad a 0)), (1, .int x_1)] → W p l e Rm s m args below meth c H locs 0 0 Q (F0 m 97 ls []) := by
    intro τ x_1 H locs ls hf hw hl
    unfold fX7_takes_97 at hf
    refine lv_aload_n hx hb dX7_takes_97 rfl (lv_at hl 0 rfl) ?_
    refine ks_getR hE hw 0 20 ltM_0 lyM_0 rfl fd_X7_38 dX7_takes_98 ?_
    refine lv_iload_n hx hb dX7_takes_101 rfl (lv_at hl 1 rfl) ?_
    refine lv_dup2_11 hx hb dX7_takes_102 rfl rfl ?_
    obtain ⟨b17, hf⟩ := ks_ok hf
    refine ks_iald hE hw 7 ltM_7 lyM_7 b17 dX7_takes_103 ?_
    refine lv_iconst (v := 1) hx hb dX7_takes_104 (by decide) ?_
    refine lv_iadd hx hb dX7_takes_105 ?_
    obtain ⟨b18, hf⟩ := ks_ok hf
    obtain ⟨t19, et19, hf⟩ := ks_nm hf
    refine ks_iast hE hw 7 ltM_7 lyM_7 b18 dX7_takes_106 (fun H locs hw => ?_)
    rw [← et19] at hw
    refine lv_aload_n hx hb dX7_takes_107 rfl (lv_at hl 0 rfl) ?_
    refine lv_dup hx hb dX7_takes_108 rfl ?_
    refine ks_getI hE hw 0 18 ltM_0 lyM_0 rfl fd_X7_79 dX7_takes_109 ?_
    refine lv_iconst (v := 1) hx hb dX7_takes_112 (by decide) ?_
    refine lv_iadd hx hb dX7_takes_113 ?_
    obtain ⟨t20, et20, hf⟩ := ks_nm hf
    refine ks_putI hE hw 0 18 ltM_0 lyM_0 rfl fw_X7_79 rfl rfl dX7_takes_114 (fun H locs hw => ?_)
    rw [← et20] at hw
    refine lv_iconst (v := 0) hx hb dX7_takes_117 (by decide) ?_
    refine lv_istore_n (lv' := [(2, .int (0 : Int32)), (0, .ref (adr ad a 0)), (1, .int x_1)]) hx hb dX7_takes_118 rfl hl (by decide) rfl (fun ls hl => ?_)
    exact L119 FU _ _ _ _ _ _ hf hw (lv_sub hl [1, 2, 0] rfl)
  have L59 : ∀ (n59 : Nat) (τ : Tau) (x_1 : Int32) (x_2 : Int32) (H : Heap) (locs : List Loc) (ls : Array Slot), fX7_takes_59 n59 τ x_1 x_2 = some R → Wd ΛM 12 D cA ad A s a τ H locs → lv_has ls 5 [(0, .ref (adr ad a 0)), (1, .int x_1), (2, .int x_2)] → W p l e Rm s m args below meth c H locs 0 0 Q (F0 m 59 ls []) := by
    intro n59
    induction n59 with
    | zero => intro τ x_1 x_2 H locs ls hf hw hl; exact absurd hf (by rw [fX7_takes_59]; simp)
    | succ n59 ih59 =>
      intro τ x_1 x_2 H locs ls hf hw hl
      rw [fX7_takes_59] at hf
      refine lv_iload_n hx hb dX7_takes_59 rfl (lv_at hl 2 rfl) ?_
      refine lv_bipush (v := 16) hx hb dX7_takes_60 (by decide) ?_
      refine lv_icmp_ge (tgt := 88) hx hb dX7_takes_62 (by decide) (fun c10 => ?_) (fun c10 => ?_)
      · have hf := (if_pos c10).symm.trans hf
        refine lv_aload_n hx hb dX7_takes_88 rfl (lv_at hl 0 rfl) ?_
        refine ks_getR hE hw 0 23 ltM_0 lyM_0 rfl fd_X7_47 dX7_takes_89 ?_
        refine lv_iload_n hx hb dX7_takes_92 rfl (lv_at hl 1 rfl) ?_
        refine lv_ldc2 hx hb hown (hts _ w_889) dX7_takes_93 ?_
        obtain ⟨b11, hf⟩ := ks_ok hf
        obtain ⟨t12, et12, hf⟩ := ks_nm hf
        refine ks_last hE hw 10 ltM_10 lyM_10 b11 dX7_takes_96 (fun H locs hw => ?_)
        rw [← et12] at hw
        exact L97 _ _ _ _ _ hf hw (lv_sub hl [0, 1] rfl)
      · have hf := (if_neg c10).symm.trans hf
        refine lv_aload_n hx hb dX7_takes_65 rfl (lv_at hl 0 rfl) ?_
        refine ks_getR hE hw 0 22 ltM_0 lyM_0 rfl fd_X7_44 dX7_takes_66 ?_
        refine lv_bipush (v := 16) hx hb dX7_takes_69 (by decide) ?_
        refine lv_iload_n hx hb dX7_takes_71 rfl (lv_at hl 1 rfl) ?_
        refine lv_imul hx hb dX7_takes_72 ?_
        refine lv_iload_n hx hb dX7_takes_73 rfl (lv_at hl 2 rfl) ?_
        refine lv_iadd hx hb dX7_takes_74 ?_
        refine lv_aload_n hx hb dX7_takes_75 rfl (lv_at hl 0 rfl) ?_
        refine ks_getR hE hw 0 19 ltM_0 lyM_0 rfl fd_X7_35 dX7_takes_76 ?_
        refine lv_iload_n hx hb dX7_takes_79 rfl (lv_at hl 2 rfl) ?_
        obtain ⟨b13, hf⟩ := ks_ok hf
        refine ks_iald hE hw 6 ltM_6 lyM_6 b13 dX7_takes_80 ?_
        obtain ⟨b14, hf⟩ := ks_ok hf
        obtain ⟨t15, et15, hf⟩ := ks_nm hf
        refine ks_iast hE hw 9 ltM_9 lyM_9 b14 dX7_takes_81 (fun H locs hw => ?_)
        rw [← et15] at hw
        obtain ⟨x16, ex16, hf⟩ := ks_nm hf
        refine lv_iinc (v := x16) (lv' := [(2, .int x16), (0, .ref (adr ad a 0)), (1, .int x_1)]) hx hb dX7_takes_82 hl (k := 2) rfl (by rw [ex16]; rfl) (by decide) rfl (fun ls hl => ?_)
        refine lv_goto (tgt := 59) hx hb dX7_takes_85 (by decide) ?_
        exact ih59 _ _ _ _ _ _ hf hw (lv_sub hl [1, 2, 0] rfl)
  have L4 : ∀ (n4 : Nat) (τ : Tau) (x_1 : Int32) (x_2 : Int32) (H : Heap) (locs : List Loc) (ls : Array Slot), fX7_takes_4 n4 τ x_1 x_2 = some R → Wd ΛM 12 D cA ad A s a τ H locs → lv_has ls 5 [(0, .ref (adr ad a 0)), (1, .int x_1), (2, .int x_2)] → W p l e Rm s m args below meth c H locs 0 0 Q (F0 m 4 ls []) := by
    intro n4
    induction n4 with
    | zero => intro τ x_1 x_2 H locs ls hf hw hl; exact absurd hf (by rw [fX7_takes_4]; simp)
    | succ n4 ih4 =>
      have L30 : ∀ (τ : Tau) (x_2 : Int32) (z_0 : Int32) (z_1 : Int32) (H : Heap) (locs : List Loc) (ls : Array Slot), fX7_takes_30 (fX7_takes_4 n4) τ x_2 z_0 z_1 = some R → Wd ΛM 12 D cA ad A s a τ H locs → lv_has ls 5 [(0, .ref (adr ad a 0)), (2, .int x_2)] → W p l e Rm s m args below meth c H locs 0 0 Q (F0 m 30 ls [.int z_0, .int z_1]) := by
        intro τ x_2 z_0 z_1 H locs ls hf hw hl
        unfold fX7_takes_30 at hf
        refine lv_ior hx hb dX7_takes_30 ?_
        obtain ⟨x8, ex8, hf⟩ := ks_nm hf
        refine W.eq (g2 := F0 m 31 ls (.int x8 :: [])) (by rw [ex8]) ?_
        refine lv_istore_n (lv' := [(1, .int x8), (0, .ref (adr ad a 0)), (2, .int x_2)]) hx hb dX7_takes_31 rfl hl (by decide) rfl (fun ls hl => ?_)
        obtain ⟨x9, ex9, hf⟩ := ks_nm hf
        refine lv_iinc (v := x9) (lv' := [(2, .int x9), (1, .int x8), (0, .ref (adr ad a 0))]) hx hb dX7_takes_32 hl (k := 2) rfl (by rw [ex9]; rfl) (by decide) rfl (fun ls hl => ?_)
        refine lv_goto (tgt := 4) hx hb dX7_takes_35 (by decide) ?_
        exact ih4 _ _ _ _ _ _ hf hw (lv_sub hl [2, 1, 0] rfl)
      intro τ x_1 x_2 H locs ls hf hw hl
      rw [fX7_takes_4] at hf
      refine lv_iload_n hx hb dX7_takes_4 rfl (lv_at hl 2 rfl) ?_
      refine lv_bipush (v := 10) hx hb dX7_takes_5 (by decide) ?_
      refine lv_icmp_ge (tgt := 38) hx hb dX7_takes_7 (by decide) (fun c1 => ?_) (fun c1 => ?_)
      · have hf := (if_pos c1).symm.trans hf
        refine lv_aload_n hx hb dX7_takes_38 rfl (lv_at hl 0 rfl) ?_
        refine ks_getR hE hw 0 20 ltM_0 lyM_0 rfl fd_X7_38 dX7_takes_39 ?_
        refine lv_iload_n hx hb dX7_takes_42 rfl (lv_at hl 1 rfl) ?_
        obtain ⟨b2, hf⟩ := ks_ok hf
        refine ks_iald hE hw 7 ltM_7 lyM_7 b2 dX7_takes_43 ?_
        refine lv_if_ne (tgt := 97) hx hb dX7_takes_44 (by decide) (fun c3 => ?_) (fun c3 => ?_)
        · have hf := (if_neg c3).symm.trans hf
          exact L97 _ _ _ _ _ hf hw (lv_sub hl [0, 1] rfl)
        · have hf := (if_pos c3).symm.trans hf
          refine lv_aload_n hx hb dX7_takes_47 rfl (lv_at hl 0 rfl) ?_
          refine ks_getR hE hw 0 21 ltM_0 lyM_0 rfl fd_X7_41 dX7_takes_48 ?_
          refine lv_iload_n hx hb dX7_takes_51 rfl (lv_at hl 1 rfl) ?_
          refine lv_aload_n hx hb dX7_takes_52 rfl (lv_at hl 0 rfl) ?_
          refine ks_getI hE hw 0 18 ltM_0 lyM_0 rfl fd_X7_79 dX7_takes_53 ?_
          obtain ⟨b4, hf⟩ := ks_ok hf
          obtain ⟨t5, et5, hf⟩ := ks_nm hf
          refine ks_iast hE hw 8 ltM_8 lyM_8 b4 dX7_takes_56 (fun H locs hw => ?_)
          rw [← et5] at hw
          refine lv_iconst (v := 0) hx hb dX7_takes_57 (by decide) ?_
          refine lv_istore_n (lv' := [(2, .int (0 : Int32)), (0, .ref (adr ad a 0)), (1, .int x_1)]) hx hb dX7_takes_58 rfl hl (by decide) rfl (fun ls hl => ?_)
          exact L59 FU _ _ _ _ _ _ hf hw (lv_sub hl [1, 2, 0] rfl)
      · have hf := (if_neg c1).symm.trans hf
        refine lv_iload_n hx hb dX7_takes_10 rfl (lv_at hl 1 rfl) ?_
        refine lv_aload_n hx hb dX7_takes_11 rfl (lv_at hl 0 rfl) ?_
        refine lv_iload_n hx hb dX7_takes_12 rfl (lv_at hl 2 rfl) ?_
        refine lv_aload_n hx hb dX7_takes_13 rfl (lv_at hl 0 rfl) ?_
        refine ks_getR hE hw 0 19 ltM_0 lyM_0 rfl fd_X7_35 dX7_takes_14 ?_
        obtain ⟨r6, er6, hf⟩ := ks_bind hf
        refine ke_V hE hw hl.1 cl_X7_94 0 ltM_0 lyM_0 rfl [.int x_2, .ref (adr ad a 6)] (c_X7_isSo l D cA st ad a _ _ _ _ row_6 er6) rfl (ke_room hRm rfl rfl) ke_cnt (Nat.le_of_ble_eq_true rfl) rfl dX7_takes_17 (fun H locs hw => ?_)
        refine W.eq (g2 := F0 m 20 ls (.int (bI r6) :: .int x_1 :: [])) rfl ?_
        refine lv_if_eq (tgt := 29) hx hb dX7_takes_20 (by decide) (fun c7 => ?_) (fun c7 => ?_)
        · have hf := (if_pos c7).symm.trans hf
          refine lv_iconst (v := 0) hx hb dX7_takes_29 (by decide) ?_
          exact L30 _ _ _ _ _ _ _ hf hw (lv_sub hl [0, 2] rfl)
        · have hf := (if_neg c7).symm.trans hf
          refine lv_iconst (v := 1) hx hb dX7_takes_23 (by decide) ?_
          refine lv_iload_n hx hb dX7_takes_24 rfl (lv_at hl 2 rfl) ?_
          refine lv_ishl hx hb dX7_takes_25 ?_
          refine lv_goto (tgt := 30) hx hb dX7_takes_26 (by decide) ?_
          exact L30 _ _ _ _ _ _ _ hf hw (lv_sub hl [0, 2] rfl)
  unfold fX7_takes at hf
  refine lv_iconst (v := 0) hx hb dX7_takes_0 (by decide) ?_
  refine lv_istore_n (lv' := [(1, .int (0 : Int32)), (0, .ref (adr ad a 0))]) hx hb dX7_takes_1 rfl hl (by decide) rfl (fun ls hl => ?_)
  refine lv_iconst (v := 0) hx hb dX7_takes_2 (by decide) ?_
  refine lv_istore_n (lv' := [(2, .int (0 : Int32)), (1, .int (0 : Int32)), (0, .ref (adr ad a 0))]) hx hb dX7_takes_3 rfl hl (by decide) rfl (fun ls hl => ?_)
  exact L4 FU _ _ _ _ _ _ hf hw (lv_sub hl [2, 1, 0] rfl)
def fX7_loads_176 (k49 : Tau → Int32 → Int32 → Option Tau) (k88 : Tau → Int32 → Int32 → Int32 → Option Tau) (τ : Tau) (x_1 : Int32) (x_2 : Int32) (x_3 : Int32) : Option Tau :=
 k88 τ x_1 x_2 x_3
def fX7_loads_147 (k49 : Tau → Int32 → Int32 → Option Tau) (k88 : Tau → Int32 → Int32 → Int32 → Option Tau) (τ : Tau) (x_1 : Int32) (x_2 : Int32) (x_4 : Int32) (x_5 : Int32) (z_0 : Int32) : Option Tau :=
 (if z_0 = 0 then
     fX7_loads_176 k49 k88 τ x_1 x_2 z_0
     else
    (if x_5 < 0 ∨ 16 ≤ x_5.toNatClampNeg then none else
    (if x_5 < 0 ∨ 16 ≤ x_5.toNatClampNeg then none else
     nm (sA τ 6 x_5.toNatClampNeg (tA τ 6 x_5.toNatClampNeg - (1 : Int32))) (fun t32 =>
    (if (x_5 + (1 : Int32)) < 0 ∨ 16 ≤ (x_5 + (1 : Int32)).toNatClampNeg then none else
     nm (sA t32 6 (x_5 + (1 : Int32)).toNatClampNeg (x_4 + (1 : Int32))) (fun t34 =>
     fX7_loads_176 k49 k88 t34 x_1 x_2 z_0))))))
def fX7_loads_137 (k49 : Tau → Int32 → Int32 → Option Tau) (k88 : Tau → Int32 → Int32 → Int32 → Option Tau) (τ : Tau) (x_1 : Int32) (x_2 : Int32) (x_4 : Int32) (x_5 : Int32) : Option Tau :=
 (if x_5 < 0 then
     fX7_loads_147 k49 k88 τ x_1 x_2 x_4 x_5 (0 : Int32)
     else
     fX7_loads_147 k49 k88 τ x_1 x_2 x_4 x_5 (1 : Int32))
def fX7_loads_116 (k49 : Tau → Int32 → Int32 → Option Tau) (k88 : Tau → Int32 → Int32 → Int32 → Option Tau) : Nat → Tau → Int32 → Int32 → Int32 → Int32 → Option Tau
  | 0, _, _, _, _, _ => none
  | n + 1, τ, x_1, x_2, x_4, x_5 =>
     (if x_5 < 0 then
     fX7_loads_137 k49 k88 τ x_1 x_2 x_4 x_5
     else
     (if x_5 < 0 ∨ 16 ≤ x_5.toNatClampNeg then none else
     (if tA τ 6 x_5.toNatClampNeg = 0 then
     nm (x_5 + (-1 : Int32)) (fun x27 =>
     fX7_loads_116 k49 k88 n τ x_1 x_2 x_4 x27)
     else
     fX7_loads_137 k49 k88 τ x_1 x_2 x_4 x_5)))
def fX7_loads_88 (k49 : Tau → Int32 → Int32 → Option Tau) : Nat → Tau → Int32 → Int32 → Int32 → Option Tau
  | 0, _, _, _, _ => none
  | n + 1, τ, x_1, x_2, x_3 =>
     (if x_3 = 0 then
     nm (x_2 + (1 : Int32)) (fun x17 =>
     k49 τ x_1 x17)
     else
     Option.bind (fX7_takes τ) (fun r18 =>
     (if x_1 < 0 ∨ 16 ≤ x_1.toNatClampNeg then none else
     nm (tA r18 6 x_1.toNatClampNeg) (fun x20 =>
     (if x_1 < 0 ∨ 16 ≤ x_1.toNatClampNeg then none else
     nm (sA r18 6 x_1.toNatClampNeg (0 : Int32)) (fun t22 =>
     nm (x_1 - (1 : Int32)) (fun x23 =>
     fX7_loads_116 k49 (fX7_loads_88 k49 n) FU t22 x_1 x_2 x20 x23)))))))
def fX7_loads_79 (k49 : Tau → Int32 → Int32 → Option Tau) (k59 : Tau → Int32 → Int32 → Int32 → Option Tau) (τ : Tau) (x_1 : Int32) (x_2 : Int32) (x_3 : Int32) (z_0 : Int32) (z_1 : Int32) : Option Tau :=
 (if z_1 < 0 ∨ 16 ≤ z_1.toNatClampNeg then none else
     nm (sA τ 6 z_1.toNatClampNeg z_0) (fun t14 =>
     nm (x_3 + (1 : Int32)) (fun x15 =>
     k59 t14 x_1 x_2 x15)))
def fX7_loads_59 (k49 : Tau → Int32 → Int32 → Option Tau) : Nat → Tau → Int32 → Int32 → Int32 → Option Tau
  | 0, _, _, _, _ => none
  | n + 1, τ, x_1, x_2, x_3 =>
     (if (16 : Int32) ≤ x_3 then
     fX7_loads_88 k49 FU τ x_1 x_2 (1 : Int32)
     else
     (if x_3 = 0 then
     fX7_loads_79 k49 (fX7_loads_59 k49 n) τ x_1 x_2 x_3 x_2 x_3
     else
     fX7_loads_79 k49 (fX7_loads_59 k49 n) τ x_1 x_2 x_3 (0 : Int32) x_3))
def fX7_loads_49  : Nat → Tau → Int32 → Int32 → Option Tau
  | 0, _, _, _ => none
  | n + 1, τ, x_1, x_2 =>
     (if tI τ 0 2 < x_2 then
     some τ
     else
     fX7_loads_59 (fX7_loads_49 n) FU τ x_1 x_2 (0 : Int32))
def fX7_loads_20  : Nat → Tau → Int32 → Option Tau
  | 0, _, _ => none
  | n + 1, τ, x_1 =>
     (if (1024 : Int32) ≤ x_1 then
     nm (fX7_sorts τ) (fun r5 =>
     nm (r5 - (1 : Int32)) (fun x6 =>
     fX7_loads_49 FU τ x6 (0 : Int32)))
     else
     (if x_1 < 0 ∨ 1024 ≤ x_1.toNatClampNeg then none else
     nm (sA τ 7 x_1.toNatClampNeg (0 : Int32)) (fun t8 =>
     nm (x_1 + (1 : Int32)) (fun x9 =>
     fX7_loads_20 n t8 x9))))
def fX7_loads  (τ : Tau) : Option Tau :=
 (if tI τ 0 17 = 0 then
 nm (sI τ 0 17 (1 : Int32)) (fun t2 =>
 nm (sI t2 0 18 (0 : Int32)) (fun t3 =>
 fX7_loads_20 FU t3 (0 : Int32)))
 else
 some τ)
set_option maxHeartbeats 4000000 in
set_option maxRecDepth 100000 in
theorem c_X7_loads (l : Launch) (D : va_G) (cA : Nat → ClassId) (st ad : Nat → Nat) (a : Nat)  (τ : Tau) (R : Tau) (hf : fX7_loads τ = some R) : KE ΛM 12 D cA st ad l yX7_loads cX7_loads 6 none 4 96 [.ref (adr ad a 0)] a τ (none) R := by
  refine KE.of "KindSayingsModel" rfl (by decide) (Nat.le_of_ble_eq_true rfl) (fun p e s m args below meth c A ls Rm Q hE hRm hQ hw hl => ?_)
  obtain ⟨hx, hb, hml, hown, hts, -⟩ := id hE
  have hl : lv_has ls 6 [(0, .ref (adr ad a 0))] := hl
  have L49 : ∀ (n49 : Nat) (τ : Tau) (x_1 : Int32) (x_2 : Int32) (H : Heap) (locs : List Loc) (ls : Array Slot), fX7_loads_49 n49 τ x_1 x_2 = some R → Wd ΛM 12 D cA ad A s a τ H locs → lv_has ls 6 [(0, .ref (adr ad a 0)), (1, .int x_1), (2, .int x_2)] → W p l e Rm s m args below meth c H locs 0 0 Q (F0 m 49 ls []) := by
    intro n49
    induction n49 with
    | zero => intro τ x_1 x_2 H locs ls hf hw hl; exact absurd hf (by rw [fX7_loads_49]; simp)
    | succ n49 ih49 =>
      have L88 : ∀ (n88 : Nat) (τ : Tau) (x_1 : Int32) (x_2 : Int32) (x_3 : Int32) (H : Heap) (locs : List Loc) (ls : Array Slot), fX7_loads_88 (fX7_loads_49 n49) n88 τ x_1 x_2 x_3 = some R → Wd ΛM 12 D cA ad A s a τ H locs → lv_has ls 6 [(0, .ref (adr ad a 0)), (1, .int x_1), (2, .int x_2), (3, .int x_3)] → W p l e Rm s m args below meth c H locs 0 0 Q (F0 m 88 ls []) := by
        intro n88
        induction n88 with
        | zero => intro τ x_1 x_2 x_3 H locs ls hf hw hl; exact absurd hf (by rw [fX7_loads_88]; simp)
        | succ n88 ih88 =>
          have L176 : ∀ (τ : Tau) (x_1 : Int32) (x_2 : Int32) (x_3 : Int32) (H : Heap) (locs : List Loc) (ls : Array Slot), fX7_loads_176 (fX7_loads_49 n49) (fX7_loads_88 (fX7_loads_49 n49) n88) τ x_1 x_2 x_3 = some R → Wd ΛM 12 D cA ad A s a τ H locs → lv_has ls 6 [(0, .ref (adr ad a 0)), (1, .int x_1), (2, .int x_2), (3, .int x_3)] → W p l e Rm s m args below meth c H locs 0 0 Q (F0 m 176 ls []) := by
            intro τ x_1 x_2 x_3 H locs ls hf hw hl
            unfold fX7_loads_176 at hf
            refine lv_goto (tgt := 88) hx hb dX7_loads_176 (by decide) ?_
            exact ih88 _ _ _ _ _ _ _ hf hw (lv_sub hl [0, 1, 2, 3] rfl)
          have L147 : ∀ (τ : Tau) (x_1 : Int32) (x_2 : Int32) (x_4 : Int32) (x_5 : Int32) (z_0 : Int32) (H : Heap) (locs : List Loc) (ls : Array Slot), fX7_loads_147 (fX7_loads_49 n49) (fX7_loads_88 (fX7_loads_49 n49) n88) τ x_1 x_2 x_4 x_5 z_0 = some R → Wd ΛM 12 D cA ad A s a τ H locs → lv_has ls 6 [(0, .ref (adr ad a 0)), (1, .int x_1), (2, .int x_2), (4, .int x_4), (5, .int x_5)] → W p l e Rm s m args below meth c H locs 0 0 Q (F0 m 147 ls [.int z_0]) := by
            intro τ x_1 x_2 x_4 x_5 z_0 H locs ls hf hw hl
            unfold fX7_loads_147 at hf
            refine lv_istore_n (lv' := [(3, .int z_0), (0, .ref (adr ad a 0)), (1, .int x_1), (2, .int x_2), (4, .int x_4), (5, .int x_5)]) hx hb dX7_loads_147 rfl hl (by decide) rfl (fun ls hl => ?_)
            refine lv_iload_n hx hb dX7_loads_148 rfl (lv_at hl 0 rfl) ?_
            refine lv_if_eq (tgt := 176) hx hb dX7_loads_149 (by decide) (fun c29 => ?_) (fun c29 => ?_)
            · have hf := (if_pos c29).symm.trans hf
              exact L176 _ _ _ _ _ _ _ hf hw (lv_sub hl [1, 2, 3, 0] rfl)
            · have hf := (if_neg c29).symm.trans hf
              refine lv_aload_n hx hb dX7_loads_152 rfl (lv_at hl 1 rfl) ?_
              refine ks_getR hE hw 0 19 ltM_0 lyM_0 rfl fd_X7_35 dX7_loads_153 ?_
              refine lv_iload hx hb dX7_loads_156 (lv_at hl 5 rfl) ?_
              refine lv_dup2_11 hx hb dX7_loads_158 rfl rfl ?_
              obtain ⟨b30, hf⟩ := ks_ok hf
              refine ks_iald hE hw 6 ltM_6 lyM_6 b30 dX7_loads_159 ?_
              refine lv_iconst (v := 1) hx hb dX7_loads_160 (by decide) ?_
              refine lv_isub hx hb dX7_loads_161 ?_
              obtain ⟨b31, hf⟩ := ks_ok hf
              obtain ⟨t32, et32, hf⟩ := ks_nm hf
              refine ks_iast hE hw 6 ltM_6 lyM_6 b31 dX7_loads_162 (fun H locs hw => ?_)
              rw [← et32] at hw
              refine lv_aload_n hx hb dX7_loads_163 rfl (lv_at hl 1 rfl) ?_
              refine ks_getR hE hw 0 19 ltM_0 lyM_0 rfl fd_X7_35 dX7_loads_164 ?_
              refine lv_iload hx hb dX7_loads_167 (lv_at hl 5 rfl) ?_
              refine lv_iconst (v := 1) hx hb dX7_loads_169 (by decide) ?_
              refine lv_iadd hx hb dX7_loads_170 ?_
              refine lv_iload hx hb dX7_loads_171 (lv_at hl 4 rfl) ?_
              refine lv_iconst (v := 1) hx hb dX7_loads_173 (by decide) ?_
              refine lv_iadd hx hb dX7_loads_174 ?_
              obtain ⟨b33, hf⟩ := ks_ok hf
              obtain ⟨t34, et34, hf⟩ := ks_nm hf
              refine ks_iast hE hw 6 ltM_6 lyM_6 b33 dX7_loads_175 (fun H locs hw => ?_)
              rw [← et34] at hw
              exact L176 _ _ _ _ _ _ _ hf hw (lv_sub hl [1, 2, 3, 0] rfl)
          have L137 : ∀ (τ : Tau) (x_1 : Int32) (x_2 : Int32) (x_4 : Int32) (x_5 : Int32) (H : Heap) (locs : List Loc) (ls : Array Slot), fX7_loads_137 (fX7_loads_49 n49) (fX7_loads_88 (fX7_loads_49 n49) n88) τ x_1 x_2 x_4 x_5 = some R → Wd ΛM 12 D cA ad A s a τ H locs → lv_has ls 6 [(0, .ref (adr ad a 0)), (1, .int x_1), (2, .int x_2), (4, .int x_4), (5, .int x_5)] → W p l e Rm s m args below meth c H locs 0 0 Q (F0 m 137 ls []) := by
            intro τ x_1 x_2 x_4 x_5 H locs ls hf hw hl
            unfold fX7_loads_137 at hf
            refine lv_iload hx hb dX7_loads_137 (lv_at hl 4 rfl) ?_
            refine lv_if_lt (tgt := 146) hx hb dX7_loads_139 (by decide) (fun c28 => ?_) (fun c28 => ?_)
            · have hf := (if_pos c28).symm.trans hf
              refine lv_iconst (v := 0) hx hb dX7_loads_146 (by decide) ?_
              exact L147 _ _ _ _ _ _ _ _ _ hf hw (lv_sub hl [0, 1, 2, 3, 4] rfl)
            · have hf := (if_neg c28).symm.trans hf
              refine lv_iconst (v := 1) hx hb dX7_loads_142 (by decide) ?_
              refine lv_goto (tgt := 147) hx hb dX7_loads_143 (by decide) ?_
              exact L147 _ _ _ _ _ _ _ _ _ hf hw (lv_sub hl [0, 1, 2, 3, 4] rfl)
          have L116 : ∀ (n116 : Nat) (τ : Tau) (x_1 : Int32) (x_2 : Int32) (x_4 : Int32) (x_5 : Int32) (H : Heap) (locs : List Loc) (ls : Array Slot), fX7_loads_116 (fX7_loads_49 n49) (fX7_loads_88 (fX7_loads_49 n49) n88) n116 τ x_1 x_2 x_4 x_5 = some R → Wd ΛM 12 D cA ad A s a τ H locs → lv_has ls 6 [(0, .ref (adr ad a 0)), (1, .int x_1), (2, .int x_2), (4, .int x_4), (5, .int x_5)] → W p l e Rm s m args below meth c H locs 0 0 Q (F0 m 116 ls []) := by
            intro n116
            induction n116 with
            | zero => intro τ x_1 x_2 x_4 x_5 H locs ls hf hw hl; exact absurd hf (by rw [fX7_loads_116]; simp)
            | succ n116 ih116 =>
              intro τ x_1 x_2 x_4 x_5 H locs ls hf hw hl
              rw [fX7_loads_116] at hf
              refine lv_iload hx hb dX7_loads_116 (lv_at hl 4 rfl) ?_
              refine lv_if_lt (tgt := 137) hx hb dX7_loads_118 (by decide) (fun c24 => ?_) (fun c24 => ?_)
              · have hf := (if_pos c24).symm.trans hf
                exact L137 _ _ _ _ _ _ _ _ hf hw (lv_sub hl [0, 1, 2, 3, 4] rfl)
              · have hf := (if_neg c24).symm.trans hf
                refine lv_aload_n hx hb dX7_loads_121 rfl (lv_at hl 0 rfl) ?_
                refine ks_getR hE hw 0 19 ltM_0 lyM_0 rfl fd_X7_35 dX7_loads_122 ?_
                refine lv_iload hx hb dX7_loads_125 (lv_at hl 4 rfl) ?_
                obtain ⟨b25, hf⟩ := ks_ok hf
                refine ks_iald hE hw 6 ltM_6 lyM_6 b25 dX7_loads_127 ?_
                refine lv_if_ne (tgt := 137) hx hb dX7_loads_128 (by decide) (fun c26 => ?_) (fun c26 => ?_)
                · have hf := (if_neg c26).symm.trans hf
                  exact L137 _ _ _ _ _ _ _ _ hf hw (lv_sub hl [0, 1, 2, 3, 4] rfl)
                · have hf := (if_pos c26).symm.trans hf
                  obtain ⟨x27, ex27, hf⟩ := ks_nm hf
                  refine lv_iinc (v := x27) (lv' := [(5, .int x27), (0, .ref (adr ad a 0)), (1, .int x_1), (2, .int x_2), (4, .int x_4)]) hx hb dX7_loads_131 hl (k := 4) rfl (by rw [ex27]; rfl) (by decide) rfl (fun ls hl => ?_)
                  refine lv_goto (tgt := 116) hx hb dX7_loads_134 (by decide) ?_
                  exact ih116 _ _ _ _ _ _ _ _ hf hw (lv_sub hl [1, 2, 3, 4, 0] rfl)
          intro τ x_1 x_2 x_3 H locs ls hf hw hl
          rw [fX7_loads_88] at hf
          refine lv_iload_n hx hb dX7_loads_88 rfl (lv_at hl 3 rfl) ?_
          refine lv_if_eq (tgt := 179) hx hb dX7_loads_89 (by decide) (fun c16 => ?_) (fun c16 => ?_)
          · have hf := (if_pos c16).symm.trans hf
            obtain ⟨x17, ex17, hf⟩ := ks_nm hf
            refine lv_iinc (v := x17) (lv' := [(2, .int x17), (0, .ref (adr ad a 0)), (1, .int x_1), (3, .int x_3)]) hx hb dX7_loads_179 hl (k := 2) rfl (by rw [ex17]; rfl) (by decide) rfl (fun ls hl => ?_)
            refine lv_goto (tgt := 49) hx hb dX7_loads_182 (by decide) ?_
            exact ih49 _ _ _ _ _ _ hf hw (lv_sub hl [1, 2, 0] rfl)
          · have hf := (if_neg c16).symm.trans hf
            refine lv_aload_n hx hb dX7_loads_92 rfl (lv_at hl 0 rfl) ?_
            obtain ⟨r18, er18, hf⟩ := ks_bind hf
            refine ke_V hE hw hl.1 cl_X7_175 0 ltM_0 lyM_0 rfl [] (c_X7_takes l D cA st ad a _ _ er18) rfl (ke_room hRm rfl rfl) ke_cnt (Nat.le_of_ble_eq_true rfl) rfl dX7_loads_93 (fun H locs hw => ?_)
            refine W.eq (g2 := F0 m 96 ls ([])) rfl ?_
            refine lv_aload_n hx hb dX7_loads_96 rfl (lv_at hl 0 rfl) ?_
            refine ks_getR hE hw 0 19 ltM_0 lyM_0 rfl fd_X7_35 dX7_loads_97 ?_
            refine lv_iload_n hx hb dX7_loads_100 rfl (lv_at hl 1 rfl) ?_
            obtain ⟨b19, hf⟩ := ks_ok hf
            refine ks_iald hE hw 6 ltM_6 lyM_6 b19 dX7_loads_101 ?_
            obtain ⟨x20, ex20, hf⟩ := ks_nm hf
            refine W.eq (g2 := F0 m 102 ls (.int x20 :: [])) (by rw [ex20]) ?_
            refine lv_istore (lv' := [(4, .int x20), (0, .ref (adr ad a 0)), (1, .int x_1), (2, .int x_2), (3, .int x_3)]) hx hb dX7_loads_102 hl (by decide) rfl (fun ls hl => ?_)
            refine lv_aload_n hx hb dX7_loads_104 rfl (lv_at hl 1 rfl) ?_
            refine ks_getR hE hw 0 19 ltM_0 lyM_0 rfl fd_X7_35 dX7_loads_105 ?_
            refine lv_iload_n hx hb dX7_loads_108 rfl (lv_at hl 2 rfl) ?_
            refine lv_iconst (v := 0) hx hb dX7_loads_109 (by decide) ?_
            obtain ⟨b21, hf⟩ := ks_ok hf
            obtain ⟨t22, et22, hf⟩ := ks_nm hf
            refine ks_iast hE hw 6 ltM_6 lyM_6 b21 dX7_loads_110 (fun H locs hw => ?_)
            rw [← et22] at hw
            refine lv_iload_n hx hb dX7_loads_111 rfl (lv_at hl 2 rfl) ?_
            refine lv_iconst (v := 1) hx hb dX7_loads_112 (by decide) ?_
            refine lv_isub hx hb dX7_loads_113 ?_
            obtain ⟨x23, ex23, hf⟩ := ks_nm hf
            refine W.eq (g2 := F0 m 114 ls (.int x23 :: [])) (by rw [ex23]) ?_
            refine lv_istore (lv' := [(5, .int x23), (4, .int x20), (0, .ref (adr ad a 0)), (1, .int x_1), (2, .int x_2), (3, .int x_3)]) hx hb dX7_loads_114 hl (by decide) rfl (fun ls hl => ?_)
            exact L116 FU _ _ _ _ _ _ _ _ hf hw (lv_sub hl [2, 3, 4, 1, 0] rfl)
      have L59 : ∀ (n59 : Nat) (τ : Tau) (x_1 : Int32) (x_2 : Int32) (x_3 : Int32) (H : Heap) (locs : List Loc) (ls : Array Slot), fX7_loads_59 (fX7_loads_49 n49) n59 τ x_1 x_2 x_3 = some R → Wd ΛM 12 D cA ad A s a τ H locs → lv_has ls 6 [(0, .ref (adr ad a 0)), (1, .int x_1), (2, .int x_2), (3, .int x_3)] → W p l e Rm s m args below meth c H locs 0 0 Q (F0 m 59 ls []) := by
        intro n59
        induction n59 with
        | zero => intro τ x_1 x_2 x_3 H locs ls hf hw hl; exact absurd hf (by rw [fX7_loads_59]; simp)
        | succ n59 ih59 =>
          have L79 : ∀ (τ : Tau) (x_1 : Int32) (x_2 : Int32) (x_3 : Int32) (z_0 : Int32) (z_1 : Int32) (H : Heap) (locs : List Loc) (ls : Array Slot), fX7_loads_79 (fX7_loads_49 n49) (fX7_loads_59 (fX7_loads_49 n49) n59) τ x_1 x_2 x_3 z_0 z_1 = some R → Wd ΛM 12 D cA ad A s a τ H locs → lv_has ls 6 [(0, .ref (adr ad a 0)), (1, .int x_1), (2, .int x_2), (3, .int x_3)] → W p l e Rm s m args below meth c H locs 0 0 Q (F0 m 79 ls [.int z_0, .int z_1, .ref (adr ad a 6)]) := by
            intro τ x_1 x_2 x_3 z_0 z_1 H locs ls hf hw hl
            unfold fX7_loads_79 at hf
            obtain ⟨b13, hf⟩ := ks_ok hf
            obtain ⟨t14, et14, hf⟩ := ks_nm hf
            refine ks_iast hE hw 6 ltM_6 lyM_6 b13 dX7_loads_79 (fun H locs hw => ?_)
            rw [← et14] at hw
            obtain ⟨x15, ex15, hf⟩ := ks_nm hf
            refine lv_iinc (v := x15) (lv' := [(3, .int x15), (0, .ref (adr ad a 0)), (1, .int x_1), (2, .int x_2)]) hx hb dX7_loads_80 hl (k := 3) rfl (by rw [ex15]; rfl) (by decide) rfl (fun ls hl => ?_)
            refine lv_goto (tgt := 59) hx hb dX7_loads_83 (by decide) ?_
            exact ih59 _ _ _ _ _ _ _ hf hw (lv_sub hl [1, 2, 3, 0] rfl)
          intro τ x_1 x_2 x_3 H locs ls hf hw hl
          rw [fX7_loads_59] at hf
          refine lv_iload_n hx hb dX7_loads_59 rfl (lv_at hl 3 rfl) ?_
          refine lv_bipush (v := 16) hx hb dX7_loads_60 (by decide) ?_
          refine lv_icmp_ge (tgt := 86) hx hb dX7_loads_62 (by decide) (fun c11 => ?_) (fun c11 => ?_)
          · have hf := (if_pos c11).symm.trans hf
            refine lv_iconst (v := 1) hx hb dX7_loads_86 (by decide) ?_
            refine lv_istore_n (lv' := [(3, .int (1 : Int32)), (0, .ref (adr ad a 0)), (1, .int x_1), (2, .int x_2)]) hx hb dX7_loads_87 rfl hl (by decide) rfl (fun ls hl => ?_)
            exact L88 FU _ _ _ _ _ _ _ hf hw (lv_sub hl [1, 2, 3, 0] rfl)
          · have hf := (if_neg c11).symm.trans hf
            refine lv_aload_n hx hb dX7_loads_65 rfl (lv_at hl 0 rfl) ?_
            refine ks_getR hE hw 0 19 ltM_0 lyM_0 rfl fd_X7_35 dX7_loads_66 ?_
            refine lv_iload_n hx hb dX7_loads_69 rfl (lv_at hl 3 rfl) ?_
            refine lv_iload_n hx hb dX7_loads_70 rfl (lv_at hl 3 rfl) ?_
            refine lv_if_ne (tgt := 78) hx hb dX7_loads_71 (by decide) (fun c12 => ?_) (fun c12 => ?_)
            · have hf := (if_neg c12).symm.trans hf
              refine lv_iconst (v := 0) hx hb dX7_loads_78 (by decide) ?_
              exact L79 _ _ _ _ _ _ _ _ _ hf hw (lv_sub hl [0, 1, 2, 3] rfl)
            · have hf := (if_pos c12).symm.trans hf
              refine lv_iload_n hx hb dX7_loads_74 rfl (lv_at hl 2 rfl) ?_
              refine lv_goto (tgt := 79) hx hb dX7_loads_75 (by decide) ?_
              exact L79 _ _ _ _ _ _ _ _ _ hf hw (lv_sub hl [0, 1, 2, 3] rfl)
      intro τ x_1 x_2 H locs ls hf hw hl
      rw [fX7_loads_49] at hf
      refine lv_iload_n hx hb dX7_loads_49 rfl (lv_at hl 2 rfl) ?_
      refine lv_aload_n hx hb dX7_loads_50 rfl (lv_at hl 0 rfl) ?_
      refine ks_getI hE hw 0 2 ltM_0 lyM_0 rfl fd_X7_13 dX7_loads_51 ?_
      refine lv_icmp_gt (tgt := 185) hx hb dX7_loads_54 (by decide) (fun c10 => ?_) (fun c10 => ?_)
      · have hf := (if_pos c10).symm.trans hf
        replace hf := Option.some.inj hf
        subst hf
        exact ke_vret hE hw hQ dX7_loads_185 rfl
      · have hf := (if_neg c10).symm.trans hf
        refine lv_iconst (v := 0) hx hb dX7_loads_57 (by decide) ?_
        refine lv_istore_n (lv' := [(3, .int (0 : Int32)), (0, .ref (adr ad a 0)), (1, .int x_1), (2, .int x_2)]) hx hb dX7_loads_58 rfl hl (by decide) rfl (fun ls hl => ?_)
        exact L59 FU _ _ _ _ _ _ _ hf hw (lv_sub hl [1, 2, 3, 0] rfl)
  have L20 : ∀ (n20 : Nat) (τ : Tau) (x_1 : Int32) (H : Heap) (locs : List Loc) (ls : Array Slot), fX7_loads_20 n20 τ x_1 = some R → Wd ΛM 12 D cA ad A s a τ H locs → lv_has ls 6 [(0, .ref (adr ad a 0)), (1, .int x_1)] → W p l e Rm s m args below meth c H locs 0 0 Q (F0 m 20 ls []) := by
    intro n20
    induction n20 with
    | zero => intro τ x_1 H locs ls hf hw hl; exact absurd hf (by rw [fX7_loads_20]; simp)
    | succ n20 ih20 =>
      intro τ x_1 H locs ls hf hw hl
      rw [fX7_loads_20] at hf
      refine lv_iload_n hx hb dX7_loads_20 rfl (lv_at hl 1 rfl) ?_
      refine lv_sipush (v := 1024) hx hb dX7_loads_21 (by decide) ?_
      refine lv_icmp_ge (tgt := 40) hx hb dX7_loads_24 (by decide) (fun c4 => ?_) (fun c4 => ?_)
      · have hf := (if_pos c4).symm.trans hf
        refine lv_aload_n hx hb dX7_loads_40 rfl (lv_at hl 0 rfl) ?_
        obtain ⟨r5, er5, hf⟩ := ks_nm hf
        refine ke_V hE hw hl.1 cl_X7_60 0 ltM_0 lyM_0 rfl [] (c_X7_sorts l D cA st ad a _ _ er5.symm) rfl (ke_room hRm rfl rfl) ke_cnt (Nat.le_of_ble_eq_true rfl) rfl dX7_loads_41 (fun H locs hw => ?_)
        refine W.eq (g2 := F0 m 44 ls (.int r5 :: [])) rfl ?_
        refine lv_iconst (v := 1) hx hb dX7_loads_44 (by decide) ?_
        refine lv_isub hx hb dX7_loads_45 ?_
        obtain ⟨x6, ex6, hf⟩ := ks_nm hf
        refine W.eq (g2 := F0 m 46 ls (.int x6 :: [])) (by rw [ex6]) ?_
        refine lv_istore_n (lv' := [(1, .int x6), (0, .ref (adr ad a 0))]) hx hb dX7_loads_46 rfl hl (by decide) rfl (fun ls hl => ?_)
        refine lv_iconst (v := 0) hx hb dX7_loads_47 (by decide) ?_
        refine lv_istore_n (lv' := [(2, .int (0 : Int32)), (1, .int x6), (0, .ref (adr ad a 0))]) hx hb dX7_loads_48 rfl hl (by decide) rfl (fun ls hl => ?_)
        exact L49 FU _ _ _ _ _ _ hf hw (lv_sub hl [2, 1, 0] rfl)
      · have hf := (if_neg c4).symm.trans hf
        refine lv_aload_n hx hb dX7_loads_27 rfl (lv_at hl 0 rfl) ?_
        refine ks_getR hE hw 0 20 ltM_0 lyM_0 rfl fd_X7_38 dX7_loads_28 ?_
        refine lv_iload_n hx hb dX7_loads_31 rfl (lv_at hl 1 rfl) ?_
        refine lv_iconst (v := 0) hx hb dX7_loads_32 (by decide) ?_
        obtain ⟨b7, hf⟩ := ks_ok hf
        obtain ⟨t8, et8, hf⟩ := ks_nm hf
        refine ks_iast hE hw 7 ltM_7 lyM_7 b7 dX7_loads_33 (fun H locs hw => ?_)
        rw [← et8] at hw
        obtain ⟨x9, ex9, hf⟩ := ks_nm hf
        refine lv_iinc (v := x9) (lv' := [(1, .int x9), (0, .ref (adr ad a 0))]) hx hb dX7_loads_34 hl (k := 1) rfl (by rw [ex9]; rfl) (by decide) rfl (fun ls hl => ?_)
        refine lv_goto (tgt := 20) hx hb dX7_loads_37 (by decide) ?_
        exact ih20 _ _ _ _ _ hf hw (lv_sub hl [1, 0] rfl)
  unfold fX7_loads at hf
  refine lv_aload_n hx hb dX7_loads_0 rfl (lv_at hl 0 rfl) ?_
  refine ks_getI hE hw 0 17 ltM_0 lyM_0 rfl fd_X7_68 dX7_loads_1 ?_
  refine lv_if_eq (tgt := 8) hx hb dX7_loads_4 (by decide) (fun c1 => ?_) (fun c1 => ?_)
  · have hf := (if_pos c1).symm.trans hf
    refine lv_aload_n hx hb dX7_loads_8 rfl (lv_at hl 0 rfl) ?_
    refine lv_iconst (v := 1) hx hb dX7_loads_9 (by decide) ?_
    obtain ⟨t2, et2, hf⟩ := ks_nm hf
    refine ks_putI hE hw 0 17 ltM_0 lyM_0 rfl fw_X7_68 (nar_bool (Or.inr rfl)).1 (nar_bool (Or.inr rfl)).2 dX7_loads_10 (fun H locs hw => ?_)
    rw [← et2] at hw
    refine lv_aload_n hx hb dX7_loads_13 rfl (lv_at hl 0 rfl) ?_
    refine lv_iconst (v := 0) hx hb dX7_loads_14 (by decide) ?_
    obtain ⟨t3, et3, hf⟩ := ks_nm hf
    refine ks_putI hE hw 0 18 ltM_0 lyM_0 rfl fw_X7_79 rfl rfl dX7_loads_15 (fun H locs hw => ?_)
    rw [← et3] at hw
    refine lv_iconst (v := 0) hx hb dX7_loads_18 (by decide) ?_
    refine lv_istore_n (lv' := [(1, .int (0 : Int32)), (0, .ref (adr ad a 0))]) hx hb dX7_loads_19 rfl hl (by decide) rfl (fun ls hl => ?_)
    exact L20 FU _ _ _ _ _ hf hw (lv_sub hl [1, 0] rfl)
  · have hf := (if_neg c1).symm.trans hf
    replace hf := Option.some.inj hf
    subst hf
    exact ke_vret hE hw hQ dX7_loads_7 rfl
def fX7_worlds  (τ : Tau) : Option (Int32 × Tau) :=
 nm (sI τ 0 0 (0 : Int32)) (fun t1 =>
 Option.bind (fX7_loads t1) (fun r2 =>
 some (tI r2 0 18, r2)))
set_option maxHeartbeats 4000000 in
set_option maxRecDepth 100000 in
theorem c_X7_worlds (l : Launch) (D : va_G) (cA : Nat → ClassId) (st ad : Nat → Nat) (a : Nat)  (τ : Tau) (R : (Int32 × Tau)) (hf : fX7_worlds τ = some R) : KE ΛM 12 D cA st ad l yX7_worlds cX7_worlds 1 (some .int) 5 121 [.ref (adr ad a 0)] a τ (some (.int R.1)) R.2 := by
  refine KE.of "KindSayingsModel" rfl (by decide) (Nat.le_of_ble_eq_true rfl) (fun p e s m args below meth c A ls Rm Q hE hRm hQ hw hl => ?_)
  obtain ⟨hx, hb, hml, hown, hts, -⟩ := id hE
  have hl : lv_has ls 1 [(0, .ref (adr ad a 0))] := hl
  unfold fX7_worlds at hf
  refine lv_aload_n hx hb dX7_worlds_0 rfl (lv_at hl 0 rfl) ?_
  refine lv_iconst (v := 0) hx hb dX7_worlds_1 (by decide) ?_
  obtain ⟨t1, et1, hf⟩ := ks_nm hf
  refine ks_putI hE hw 0 0 ltM_0 lyM_0 rfl fw_X7_57 rfl rfl dX7_worlds_2 (fun H locs hw => ?_)
  rw [← et1] at hw
  refine lv_aload_n hx hb dX7_worlds_5 rfl (lv_at hl 0 rfl) ?_
  obtain ⟨r2, er2, hf⟩ := ks_bind hf
  refine ke_V hE hw hl.1 cl_X7_76 0 ltM_0 lyM_0 rfl [] (c_X7_loads l D cA st ad a _ _ er2) rfl (ke_room hRm rfl rfl) ke_cnt (Nat.le_of_ble_eq_true rfl) rfl dX7_worlds_6 (fun H locs hw => ?_)
  refine W.eq (g2 := F0 m 9 ls ([])) rfl ?_
  refine lv_aload_n hx hb dX7_worlds_9 rfl (lv_at hl 0 rfl) ?_
  refine ks_getI hE hw 0 18 ltM_0 lyM_0 rfl fd_X7_79 dX7_worlds_10 ?_
  replace hf := Option.some.inj hf
  subst hf
  exact ke_iret hE hw hQ dX7_worlds_13 rfl rfl
def fX7_isIn  (p1 : Int32) (p2 : Int32) : Bool :=
 (if (p1 &&& (p2 ^^^ (-1 : Int32))) = 0 then
 true
 else
 false)
set_option maxHeartbeats 4000000 in
set_option maxRecDepth 100000 in
theorem c_X7_isIn (l : Launch) (D : va_G) (cA : Nat → ClassId) (st ad : Nat → Nat) (a : Nat)  (τ : Tau) (p1 : Int32) (p2 : Int32) (R : Bool) (hf : fX7_isIn p1 p2 = R) : KE ΛM 12 D cA st ad l yX7_isIn cX7_isIn 2 (some .boolean) 0 0 [.int p1, .int p2] a τ (some (.int (bI R))) τ := by
  refine KE.of "KindSayingsModel" rfl (by decide) (Nat.le_of_ble_eq_true rfl) (fun p e s m args below meth c A ls Rm Q hE hRm hQ hw hl => ?_)
  obtain ⟨hx, hb, hml, hown, hts, -⟩ := id hE
  have hl : lv_has ls 2 [(0, .int p1), (1, .int p2)] := hl
  unfold fX7_isIn at hf
  refine lv_iload_n hx hb dX7_isIn_0 rfl (lv_at hl 0 rfl) ?_
  refine lv_iload_n hx hb dX7_isIn_1 rfl (lv_at hl 1 rfl) ?_
  refine lv_iconst (v := (-1)) hx hb dX7_isIn_2 (by decide) ?_
  refine lv_ixor hx hb dX7_isIn_3 ?_
  refine lv_iand hx hb dX7_isIn_4 ?_
  refine lv_if_ne (tgt := 12) hx hb dX7_isIn_5 (by decide) (fun c1 => ?_) (fun c1 => ?_)
  · have hf := (if_neg c1).symm.trans hf
    refine lv_iconst (v := 0) hx hb dX7_isIn_12 (by decide) ?_
    subst hf
    exact ke_zret hE hw hQ (Or.inl rfl) dX7_isIn_13 rfl rfl
  · have hf := (if_pos c1).symm.trans hf
    refine lv_iconst (v := 1) hx hb dX7_isIn_8 (by decide) ?_
    refine lv_goto (tgt := 13) hx hb dX7_isIn_9 (by decide) ?_
    subst hf
    exact ke_zret hE hw hQ (Or.inr rfl) dX7_isIn_13 rfl rfl
def fX7_canBe_30 (τ : Tau) (p1 : Int32) (k4 : Int32 → Int32 → Option Int32) (x_3 : Int32) (z_0 : Int32) (z_1 : Int32) : Option Int32 :=
 nm (z_1 + z_0) (fun x5 =>
     nm (x_3 + (1 : Int32)) (fun x6 =>
     k4 x5 x6))
def fX7_canBe_4 (τ : Tau) (p1 : Int32) : Nat → Int32 → Int32 → Option Int32
  | 0, _, _ => none
  | n + 1, x_2, x_3 =>
     (if (1024 : Int32) ≤ x_3 then
     some x_2
     else
     nm (fX7_isIn p1 x_3) (fun r2 =>
     (if bI r2 = 0 then
     fX7_canBe_30 τ p1 (fX7_canBe_4 τ p1 n) x_3 (0 : Int32) x_2
     else
     (if x_3 < 0 ∨ 1024 ≤ x_3.toNatClampNeg then none else
     fX7_canBe_30 τ p1 (fX7_canBe_4 τ p1 n) x_3 (tA τ 7 x_3.toNatClampNeg) x_2))))
def fX7_canBe (τ : Tau) (p1 : Int32) : Option Int32 :=
 fX7_canBe_4 τ p1 FU (0 : Int32) (0 : Int32)
set_option maxHeartbeats 4000000 in
set_option maxRecDepth 100000 in
theorem c_X7_canBe (l : Launch) (D : va_G) (cA : Nat → ClassId) (st ad : Nat → Nat) (a : Nat)  (τ : Tau) (p1 : Int32) (R : Int32) (hf : fX7_canBe τ p1 = some R) : KE ΛM 12 D cA st ad l yX7_canBe cX7_canBe 4 (some .int) 1 21 [.ref (adr ad a 0), .int p1] a τ (some (.int R)) τ := by
  refine KE.of "KindSayingsModel" rfl (by decide) (Nat.le_of_ble_eq_true rfl) (fun p e s m args below meth c A ls Rm Q hE hRm hQ hw hl => ?_)
  obtain ⟨hx, hb, hml, hown, hts, -⟩ := id hE
  have hl : lv_has ls 4 [(0, .ref (adr ad a 0)), (1, .int p1)] := hl
  have L4 : ∀ (n4 : Nat) (x_2 : Int32) (x_3 : Int32) (H : Heap) (locs : List Loc) (ls : Array Slot), fX7_canBe_4 τ p1 n4 x_2 x_3 = some R → Wd ΛM 12 D cA ad A s a τ H locs → lv_has ls 4 [(0, .ref (adr ad a 0)), (1, .int p1), (2, .int x_2), (3, .int x_3)] → W p l e Rm s m args below meth c H locs 0 0 Q (F0 m 4 ls []) := by
    intro n4
    induction n4 with
    | zero => intro x_2 x_3 H locs ls hf hw hl; exact absurd hf (by rw [fX7_canBe_4]; simp)
    | succ n4 ih4 =>
      have L30 : ∀ (x_3 : Int32) (z_0 : Int32) (z_1 : Int32) (H : Heap) (locs : List Loc) (ls : Array Slot), fX7_canBe_30 τ p1 (fX7_canBe_4 τ p1 n4) x_3 z_0 z_1 = some R → Wd ΛM 12 D cA ad A s a τ H locs → lv_has ls 4 [(0, .ref (adr ad a 0)), (1, .int p1), (3, .int x_3)] → W p l e Rm s m args below meth c H locs 0 0 Q (F0 m 30 ls [.int z_0, .int z_1]) := by
        intro x_3 z_0 z_1 H locs ls hf hw hl
        unfold fX7_canBe_30 at hf
        refine lv_iadd hx hb dX7_canBe_30 ?_
        obtain ⟨x5, ex5, hf⟩ := ks_nm hf
        refine W.eq (g2 := F0 m 31 ls (.int x5 :: [])) (by rw [ex5]) ?_
        refine lv_istore_n (lv' := [(2, .int x5), (0, .ref (adr ad a 0)), (1, .int p1), (3, .int x_3)]) hx hb dX7_canBe_31 rfl hl (by decide) rfl (fun ls hl => ?_)
        obtain ⟨x6, ex6, hf⟩ := ks_nm hf
        refine lv_iinc (v := x6) (lv' := [(3, .int x6), (2, .int x5), (0, .ref (adr ad a 0)), (1, .int p1)]) hx hb dX7_canBe_32 hl (k := 3) rfl (by rw [ex6]; rfl) (by decide) rfl (fun ls hl => ?_)
        refine lv_goto (tgt := 4) hx hb dX7_canBe_35 (by decide) ?_
        exact ih4 _ _ _ _ _ hf hw (lv_sub hl [2, 3, 1, 0] rfl)
      intro x_2 x_3 H locs ls hf hw hl
      rw [fX7_canBe_4] at hf
      refine lv_iload_n hx hb dX7_canBe_4 rfl (lv_at hl 3 rfl) ?_
      refine lv_sipush (v := 1024) hx hb dX7_canBe_5 (by decide) ?_
      refine lv_icmp_ge (tgt := 38) hx hb dX7_canBe_8 (by decide) (fun c1 => ?_) (fun c1 => ?_)
      · have hf := (if_pos c1).symm.trans hf
        refine lv_iload_n hx hb dX7_canBe_38 rfl (lv_at hl 2 rfl) ?_
        replace hf := Option.some.inj hf
        subst hf
        exact ke_iret hE hw hQ dX7_canBe_39 rfl rfl
      · have hf := (if_neg c1).symm.trans hf
        refine lv_iload_n hx hb dX7_canBe_11 rfl (lv_at hl 2 rfl) ?_
        refine lv_iload_n hx hb dX7_canBe_12 rfl (lv_at hl 1 rfl) ?_
        refine lv_iload_n hx hb dX7_canBe_13 rfl (lv_at hl 3 rfl) ?_
        obtain ⟨r2, er2, hf⟩ := ks_nm hf
        refine ke_S hE hw hl.1 cl_X7_178 [.int p1, .int x_3] (c_X7_isIn l D cA st ad a _ _ _ _ er2.symm) rfl (ke_room hRm rfl rfl) ke_cnt (Nat.le_of_ble_eq_true rfl) rfl dX7_canBe_14 (fun H locs hw => ?_)
        refine W.eq (g2 := F0 m 17 ls (.int (bI r2) :: .int x_2 :: [])) rfl ?_
        refine lv_if_eq (tgt := 29) hx hb dX7_canBe_17 (by decide) (fun c3 => ?_) (fun c3 => ?_)
        · have hf := (if_pos c3).symm.trans hf
          refine lv_iconst (v := 0) hx hb dX7_canBe_29 (by decide) ?_
          exact L30 _ _ _ _ _ _ hf hw (lv_sub hl [0, 1, 3] rfl)
        · have hf := (if_neg c3).symm.trans hf
          refine lv_aload_n hx hb dX7_canBe_20 rfl (lv_at hl 0 rfl) ?_
          refine ks_getR hE hw 0 20 ltM_0 lyM_0 rfl fd_X7_38 dX7_canBe_21 ?_
          refine lv_iload_n hx hb dX7_canBe_24 rfl (lv_at hl 3 rfl) ?_
          obtain ⟨b4, hf⟩ := ks_ok hf
          refine ks_iald hE hw 7 ltM_7 lyM_7 b4 dX7_canBe_25 ?_
          refine lv_goto (tgt := 30) hx hb dX7_canBe_26 (by decide) ?_
          exact L30 _ _ _ _ _ _ hf hw (lv_sub hl [0, 1, 3] rfl)
  unfold fX7_canBe at hf
  refine lv_iconst (v := 0) hx hb dX7_canBe_0 (by decide) ?_
  refine lv_istore_n (lv' := [(2, .int (0 : Int32)), (0, .ref (adr ad a 0)), (1, .int p1)]) hx hb dX7_canBe_1 rfl hl (by decide) rfl (fun ls hl => ?_)
  refine lv_iconst (v := 0) hx hb dX7_canBe_2 (by decide) ?_
  refine lv_istore_n (lv' := [(3, .int (0 : Int32)), (2, .int (0 : Int32)), (0, .ref (adr ad a 0)), (1, .int p1)]) hx hb dX7_canBe_3 rfl hl (by decide) rfl (fun ls hl => ?_)
  exact L4 FU _ _ _ _ _ hf hw (lv_sub hl [2, 3, 1, 0] rfl)
def fX7_can  (τ : Tau) (p1 : Int32) : Option (Int32 × Tau) :=
 nm (sI τ 0 0 (0 : Int32)) (fun t1 =>
 nm (fX7_isSet p1) (fun r2 =>
 (if bI r2 = 0 then
 some ((-1 : Int32), t1)
 else
 Option.bind (fX7_loads t1) (fun r4 =>
 Option.bind (fX7_canBe r4 p1) (fun r5 =>
 some (r5, r4))))))
set_option maxHeartbeats 4000000 in
set_option maxRecDepth 100000 in
theorem c_X7_can (l : Launch) (D : va_G) (cA : Nat → ClassId) (st ad : Nat → Nat) (a : Nat)  (τ : Tau) (p1 : Int32) (R : (Int32 × Tau)) (hf : fX7_can τ p1 = some R) : KE ΛM 12 D cA st ad l yX7_can cX7_can 2 (some .int) 5 121 [.ref (adr ad a 0), .int p1] a τ (some (.int R.1)) R.2 := by
  refine KE.of "KindSayingsModel" rfl (by decide) (Nat.le_of_ble_eq_true rfl) (fun p e s m args below meth c A ls Rm Q hE hRm hQ hw hl => ?_)
  obtain ⟨hx, hb, hml, hown, hts, -⟩ := id hE
  have hl : lv_has ls 2 [(0, .ref (adr ad a 0)), (1, .int p1)] := hl
  unfold fX7_can at hf
  refine lv_aload_n hx hb dX7_can_0 rfl (lv_at hl 0 rfl) ?_
  refine lv_iconst (v := 0) hx hb dX7_can_1 (by decide) ?_
  obtain ⟨t1, et1, hf⟩ := ks_nm hf
  refine ks_putI hE hw 0 0 ltM_0 lyM_0 rfl fw_X7_57 rfl rfl dX7_can_2 (fun H locs hw => ?_)
  rw [← et1] at hw
  refine lv_iload_n hx hb dX7_can_5 rfl (lv_at hl 1 rfl) ?_
  obtain ⟨r2, er2, hf⟩ := ks_nm hf
  refine ke_S hE hw hl.1 cl_X7_182 [.int p1] (c_X7_isSet l D cA st ad a _ _ _ er2.symm) rfl (ke_room hRm rfl rfl) ke_cnt (Nat.le_of_ble_eq_true rfl) rfl dX7_can_6 (fun H locs hw => ?_)
  refine W.eq (g2 := F0 m 9 ls (.int (bI r2) :: [])) rfl ?_
  refine lv_if_ne (tgt := 14) hx hb dX7_can_9 (by decide) (fun c3 => ?_) (fun c3 => ?_)
  · have hf := (if_neg c3).symm.trans hf
    refine lv_aload_n hx hb dX7_can_14 rfl (lv_at hl 0 rfl) ?_
    obtain ⟨r4, er4, hf⟩ := ks_bind hf
    refine ke_V hE hw hl.1 cl_X7_76 0 ltM_0 lyM_0 rfl [] (c_X7_loads l D cA st ad a _ _ er4) rfl (ke_room hRm rfl rfl) ke_cnt (Nat.le_of_ble_eq_true rfl) rfl dX7_can_15 (fun H locs hw => ?_)
    refine W.eq (g2 := F0 m 18 ls ([])) rfl ?_
    refine lv_aload_n hx hb dX7_can_18 rfl (lv_at hl 0 rfl) ?_
    refine lv_iload_n hx hb dX7_can_19 rfl (lv_at hl 1 rfl) ?_
    obtain ⟨r5, er5, hf⟩ := ks_bind hf
    refine ke_V hE hw hl.1 cl_X7_185 0 ltM_0 lyM_0 rfl [.int p1] (c_X7_canBe l D cA st ad a _ _ _ er5) rfl (ke_room hRm rfl rfl) ke_cnt (Nat.le_of_ble_eq_true rfl) rfl dX7_can_20 (fun H locs hw => ?_)
    refine W.eq (g2 := F0 m 23 ls (.int r5 :: [])) rfl ?_
    replace hf := Option.some.inj hf
    subst hf
    exact ke_iret hE hw hQ dX7_can_23 rfl rfl
  · have hf := (if_pos c3).symm.trans hf
    refine lv_iconst (v := (-1)) hx hb dX7_can_12 (by decide) ?_
    replace hf := Option.some.inj hf
    subst hf
    exact ke_iret hE hw hQ dX7_can_13 rfl rfl
def fX7_firstOf_86 (τ : Tau) (p1 : Int32) (p2 : Int32) (k6 : Int32 → Int32 → Option Int32) (x_4 : Int32) (z_0 : Int32) : Option Int32 :=
 nm (x_4 + (1 : Int32)) (fun x13 =>
     k6 z_0 x13)
def fX7_firstOf_85 (τ : Tau) (p1 : Int32) (p2 : Int32) (k6 : Int32 → Int32 → Option Int32) (x_3 : Int32) (x_4 : Int32) : Option Int32 :=
 fX7_firstOf_86 τ p1 p2 k6 x_4 x_3
def fX7_firstOf_80 (τ : Tau) (p1 : Int32) (p2 : Int32) (k6 : Int32 → Int32 → Option Int32) (x_4 : Int32) : Option Int32 :=
 fX7_firstOf_86 τ p1 p2 k6 x_4 x_4
def fX7_firstOf_51 (τ : Tau) (p1 : Int32) (p2 : Int32) (k6 : Int32 → Int32 → Option Int32) (x_3 : Int32) (x_4 : Int32) (z_0 : Int32) : Option Int32 :=
 (if z_0 = 0 then
     fX7_firstOf_85 τ p1 p2 k6 x_3 x_4
     else
    (if x_3 = (-9 : Int32) then
     fX7_firstOf_80 τ p1 p2 k6 x_4
     else
    (if x_4 < 0 ∨ 1024 ≤ x_4.toNatClampNeg then none else
    (if x_3 < 0 ∨ 1024 ≤ x_3.toNatClampNeg then none else
    (if tA τ 8 x_3.toNatClampNeg ≤ tA τ 8 x_4.toNatClampNeg then
     fX7_firstOf_85 τ p1 p2 k6 x_3 x_4
     else
     fX7_firstOf_80 τ p1 p2 k6 x_4)))))
def fX7_firstOf_50 (τ : Tau) (p1 : Int32) (p2 : Int32) (k6 : Int32 → Int32 → Option Int32) (x_3 : Int32) (x_4 : Int32) : Option Int32 :=
 fX7_firstOf_51 τ p1 p2 k6 x_3 x_4 (0 : Int32)
def fX7_firstOf_46 (τ : Tau) (p1 : Int32) (p2 : Int32) (k6 : Int32 → Int32 → Option Int32) (x_3 : Int32) (x_4 : Int32) : Option Int32 :=
 fX7_firstOf_51 τ p1 p2 k6 x_3 x_4 (1 : Int32)
def fX7_firstOf_6 (τ : Tau) (p1 : Int32) (p2 : Int32) : Nat → Int32 → Int32 → Option Int32
  | 0, _, _ => none
  | n + 1, x_3, x_4 =>
     (if (1024 : Int32) ≤ x_4 then
     some x_3
     else
     (if x_4 < 0 ∨ 1024 ≤ x_4.toNatClampNeg then none else
     (if tA τ 7 x_4.toNatClampNeg ≤ 0 then
     fX7_firstOf_50 τ p1 p2 (fX7_firstOf_6 τ p1 p2 n) x_3 x_4
     else
     nm (fX7_isIn p1 x_4) (fun r4 =>
     (if bI r4 = 0 then
     fX7_firstOf_50 τ p1 p2 (fX7_firstOf_6 τ p1 p2 n) x_3 x_4
     else
     (if p2 < 0 then
     fX7_firstOf_46 τ p1 p2 (fX7_firstOf_6 τ p1 p2 n) x_3 x_4
     else
     (if ((x_4 >>> (p2 &&& 31)) &&& (1 : Int32)) = 0 then
     fX7_firstOf_46 τ p1 p2 (fX7_firstOf_6 τ p1 p2 n) x_3 x_4
     else
     fX7_firstOf_50 τ p1 p2 (fX7_firstOf_6 τ p1 p2 n) x_3 x_4)))))))
def fX7_firstOf (τ : Tau) (p1 : Int32) (p2 : Int32) : Option Int32 :=
 fX7_firstOf_6 τ p1 p2 FU (-9 : Int32) (0 : Int32)
set_option maxHeartbeats 4000000 in
set_option maxRecDepth 100000 in
theorem c_X7_firstOf (l : Launch) (D : va_G) (cA : Nat → ClassId) (st ad : Nat → Nat) (a : Nat)  (τ : Tau) (p1 : Int32) (p2 : Int32) (R : Int32) (hf : fX7_firstOf τ p1 p2 = some R) : KE ΛM 12 D cA st ad l yX7_firstOf cX7_firstOf 6 (some .int) 1 21 [.ref (adr ad a 0), .int p1, .int p2] a τ (some (.int R)) τ := by
  refine KE.of "KindSayingsModel" rfl (by decide) (Nat.le_of_ble_eq_true rfl) (fun p e s m args below meth c A ls Rm Q hE hRm hQ hw hl => ?_)
  obtain ⟨hx, hb, hml, hown, hts, -⟩ := id hE
  have hl : lv_has ls 6 [(0, .ref (adr ad a 0)), (1, .int p1), (2, .int p2)] := hl
  have L6 : ∀ (n6 : Nat) (x_3 : Int32) (x_4 : Int32) (H : Heap) (locs : List Loc) (ls : Array Slot), fX7_firstOf_6 τ p1 p2 n6 x_3 x_4 = some R → Wd ΛM 12 D cA ad A s a τ H locs → lv_has ls 6 [(0, .ref (adr ad a 0)), (1, .int p1), (2, .int p2), (3, .int x_3), (4, .int x_4)] → W p l e Rm s m args below meth c H locs 0 0 Q (F0 m 6 ls []) := by
    intro n6
    induction n6 with
    | zero => intro x_3 x_4 H locs ls hf hw hl; exact absurd hf (by rw [fX7_firstOf_6]; simp)
    | succ n6 ih6 =>
      have L86 : ∀ (x_4 : Int32) (z_0 : Int32) (H : Heap) (locs : List Loc) (ls : Array Slot), fX7_firstOf_86 τ p1 p2 (fX7_firstOf_6 τ p1 p2 n6) x_4 z_0 = some R → Wd ΛM 12 D cA ad A s a τ H locs → lv_has ls 6 [(0, .ref (adr ad a 0)), (1, .int p1), (2, .int p2), (4, .int x_4)] → W p l e Rm s m args below meth c H locs 0 0 Q (F0 m 86 ls [.int z_0]) := by
        intro x_4 z_0 H locs ls hf hw hl
        unfold fX7_firstOf_86 at hf
        refine lv_istore_n (lv' := [(3, .int z_0), (0, .ref (adr ad a 0)), (1, .int p1), (2, .int p2), (4, .int x_4)]) hx hb dX7_firstOf_86 rfl hl (by decide) rfl (fun ls hl => ?_)
        obtain ⟨x13, ex13, hf⟩ := ks_nm hf
        refine lv_iinc (v := x13) (lv' := [(4, .int x13), (3, .int z_0), (0, .ref (adr ad a 0)), (1, .int p1), (2, .int p2)]) hx hb dX7_firstOf_87 hl (k := 4) rfl (by rw [ex13]; rfl) (by decide) rfl (fun ls hl => ?_)
        refine lv_goto (tgt := 6) hx hb dX7_firstOf_90 (by decide) ?_
        exact ih6 _ _ _ _ _ hf hw (lv_sub hl [2, 3, 4, 1, 0] rfl)
      have L85 : ∀ (x_3 : Int32) (x_4 : Int32) (H : Heap) (locs : List Loc) (ls : Array Slot), fX7_firstOf_85 τ p1 p2 (fX7_firstOf_6 τ p1 p2 n6) x_3 x_4 = some R → Wd ΛM 12 D cA ad A s a τ H locs → lv_has ls 6 [(0, .ref (adr ad a 0)), (1, .int p1), (2, .int p2), (3, .int x_3), (4, .int x_4)] → W p l e Rm s m args below meth c H locs 0 0 Q (F0 m 85 ls []) := by
        intro x_3 x_4 H locs ls hf hw hl
        unfold fX7_firstOf_85 at hf
        refine lv_iload_n hx hb dX7_firstOf_85 rfl (lv_at hl 3 rfl) ?_
        exact L86 _ _ _ _ _ hf hw (lv_sub hl [0, 1, 2, 4] rfl)
      have L80 : ∀ (x_4 : Int32) (H : Heap) (locs : List Loc) (ls : Array Slot), fX7_firstOf_80 τ p1 p2 (fX7_firstOf_6 τ p1 p2 n6) x_4 = some R → Wd ΛM 12 D cA ad A s a τ H locs → lv_has ls 6 [(0, .ref (adr ad a 0)), (1, .int p1), (2, .int p2), (4, .int x_4)] → W p l e Rm s m args below meth c H locs 0 0 Q (F0 m 80 ls []) := by
        intro x_4 H locs ls hf hw hl
        unfold fX7_firstOf_80 at hf
        refine lv_iload hx hb dX7_firstOf_80 (lv_at hl 3 rfl) ?_
        refine lv_goto (tgt := 86) hx hb dX7_firstOf_82 (by decide) ?_
        exact L86 _ _ _ _ _ hf hw (lv_sub hl [0, 1, 2, 3] rfl)
      have L51 : ∀ (x_3 : Int32) (x_4 : Int32) (z_0 : Int32) (H : Heap) (locs : List Loc) (ls : Array Slot), fX7_firstOf_51 τ p1 p2 (fX7_firstOf_6 τ p1 p2 n6) x_3 x_4 z_0 = some R → Wd ΛM 12 D cA ad A s a τ H locs → lv_has ls 6 [(0, .ref (adr ad a 0)), (1, .int p1), (2, .int p2), (3, .int x_3), (4, .int x_4)] → W p l e Rm s m args below meth c H locs 0 0 Q (F0 m 51 ls [.int z_0]) := by
        intro x_3 x_4 z_0 H locs ls hf hw hl
        unfold fX7_firstOf_51 at hf
        refine lv_istore (lv' := [(5, .int z_0), (0, .ref (adr ad a 0)), (1, .int p1), (2, .int p2), (3, .int x_3), (4, .int x_4)]) hx hb dX7_firstOf_51 hl (by decide) rfl (fun ls hl => ?_)
        refine lv_iload hx hb dX7_firstOf_53 (lv_at hl 0 rfl) ?_
        refine lv_if_eq (tgt := 85) hx hb dX7_firstOf_55 (by decide) (fun c8 => ?_) (fun c8 => ?_)
        · have hf := (if_pos c8).symm.trans hf
          exact L85 _ _ _ _ _ hf hw (lv_sub hl [1, 2, 3, 4, 5] rfl)
        · have hf := (if_neg c8).symm.trans hf
          refine lv_iload_n hx hb dX7_firstOf_58 rfl (lv_at hl 4 rfl) ?_
          refine lv_bipush (v := (-9)) hx hb dX7_firstOf_59 (by decide) ?_
          refine lv_icmp_eq (tgt := 80) hx hb dX7_firstOf_61 (by decide) (fun c9 => ?_) (fun c9 => ?_)
          · have hf := (if_pos c9).symm.trans hf
            exact L80 _ _ _ _ hf hw (lv_sub hl [1, 2, 3, 5] rfl)
          · have hf := (if_neg c9).symm.trans hf
            refine lv_aload_n hx hb dX7_firstOf_64 rfl (lv_at hl 1 rfl) ?_
            refine ks_getR hE hw 0 21 ltM_0 lyM_0 rfl fd_X7_41 dX7_firstOf_65 ?_
            refine lv_iload hx hb dX7_firstOf_68 (lv_at hl 5 rfl) ?_
            obtain ⟨b10, hf⟩ := ks_ok hf
            refine ks_iald hE hw 8 ltM_8 lyM_8 b10 dX7_firstOf_70 ?_
            refine lv_aload_n hx hb dX7_firstOf_71 rfl (lv_at hl 1 rfl) ?_
            refine ks_getR hE hw 0 21 ltM_0 lyM_0 rfl fd_X7_41 dX7_firstOf_72 ?_
            refine lv_iload_n hx hb dX7_firstOf_75 rfl (lv_at hl 4 rfl) ?_
            obtain ⟨b11, hf⟩ := ks_ok hf
            refine ks_iald hE hw 8 ltM_8 lyM_8 b11 dX7_firstOf_76 ?_
            refine lv_icmp_ge (tgt := 85) hx hb dX7_firstOf_77 (by decide) (fun c12 => ?_) (fun c12 => ?_)
            · have hf := (if_pos c12).symm.trans hf
              exact L85 _ _ _ _ _ hf hw (lv_sub hl [1, 2, 3, 4, 5] rfl)
            · have hf := (if_neg c12).symm.trans hf
              exact L80 _ _ _ _ hf hw (lv_sub hl [1, 2, 3, 5] rfl)
      have L50 : ∀ (x_3 : Int32) (x_4 : Int32) (H : Heap) (locs : List Loc) (ls : Array Slot), fX7_firstOf_50 τ p1 p2 (fX7_firstOf_6 τ p1 p2 n6) x_3 x_4 = some R → Wd ΛM 12 D cA ad A s a τ H locs → lv_has ls 6 [(0, .ref (adr ad a 0)), (1, .int p1), (2, .int p2), (3, .int x_3), (4, .int x_4)] → W p l e Rm s m args below meth c H locs 0 0 Q (F0 m 50 ls []) := by
        intro x_3 x_4 H locs ls hf hw hl
        unfold fX7_firstOf_50 at hf
        refine lv_iconst (v := 0) hx hb dX7_firstOf_50 (by decide) ?_
        exact L51 _ _ _ _ _ _ hf hw (lv_sub hl [0, 1, 2, 3, 4] rfl)
      have L46 : ∀ (x_3 : Int32) (x_4 : Int32) (H : Heap) (locs : List Loc) (ls : Array Slot), fX7_firstOf_46 τ p1 p2 (fX7_firstOf_6 τ p1 p2 n6) x_3 x_4 = some R → Wd ΛM 12 D cA ad A s a τ H locs → lv_has ls 6 [(0, .ref (adr ad a 0)), (1, .int p1), (2, .int p2), (3, .int x_3), (4, .int x_4)] → W p l e Rm s m args below meth c H locs 0 0 Q (F0 m 46 ls []) := by
        intro x_3 x_4 H locs ls hf hw hl
        unfold fX7_firstOf_46 at hf
        refine lv_iconst (v := 1) hx hb dX7_firstOf_46 (by decide) ?_
        refine lv_goto (tgt := 51) hx hb dX7_firstOf_47 (by decide) ?_
        exact L51 _ _ _ _ _ _ hf hw (lv_sub hl [0, 1, 2, 3, 4] rfl)
      intro x_3 x_4 H locs ls hf hw hl
      rw [fX7_firstOf_6] at hf
      refine lv_iload hx hb dX7_firstOf_6 (lv_at hl 4 rfl) ?_
      refine lv_sipush (v := 1024) hx hb dX7_firstOf_8 (by decide) ?_
      refine lv_icmp_ge (tgt := 93) hx hb dX7_firstOf_11 (by decide) (fun c1 => ?_) (fun c1 => ?_)
      · have hf := (if_pos c1).symm.trans hf
        refine lv_iload_n hx hb dX7_firstOf_93 rfl (lv_at hl 3 rfl) ?_
        replace hf := Option.some.inj hf
        subst hf
        exact ke_iret hE hw hQ dX7_firstOf_94 rfl rfl
      · have hf := (if_neg c1).symm.trans hf
        refine lv_aload_n hx hb dX7_firstOf_14 rfl (lv_at hl 0 rfl) ?_
        refine ks_getR hE hw 0 20 ltM_0 lyM_0 rfl fd_X7_38 dX7_firstOf_15 ?_
        refine lv_iload hx hb dX7_firstOf_18 (lv_at hl 4 rfl) ?_
        obtain ⟨b2, hf⟩ := ks_ok hf
        refine ks_iald hE hw 7 ltM_7 lyM_7 b2 dX7_firstOf_20 ?_
        refine lv_if_le (tgt := 50) hx hb dX7_firstOf_21 (by decide) (fun c3 => ?_) (fun c3 => ?_)
        · have hf := (if_pos c3).symm.trans hf
          exact L50 _ _ _ _ _ hf hw (lv_sub hl [0, 1, 2, 3, 4] rfl)
        · have hf := (if_neg c3).symm.trans hf
          refine lv_iload_n hx hb dX7_firstOf_24 rfl (lv_at hl 1 rfl) ?_
          refine lv_iload hx hb dX7_firstOf_25 (lv_at hl 4 rfl) ?_
          obtain ⟨r4, er4, hf⟩ := ks_nm hf
          refine ke_S hE hw hl.1 cl_X7_178 [.int p1, .int x_4] (c_X7_isIn l D cA st ad a _ _ _ _ er4.symm) rfl (ke_room hRm rfl rfl) ke_cnt (Nat.le_of_ble_eq_true rfl) rfl dX7_firstOf_27 (fun H locs hw => ?_)
          refine W.eq (g2 := F0 m 30 ls (.int (bI r4) :: [])) rfl ?_
          refine lv_if_eq (tgt := 50) hx hb dX7_firstOf_30 (by decide) (fun c5 => ?_) (fun c5 => ?_)
          · have hf := (if_pos c5).symm.trans hf
            exact L50 _ _ _ _ _ hf hw (lv_sub hl [0, 1, 2, 3, 4] rfl)
          · have hf := (if_neg c5).symm.trans hf
            refine lv_iload_n hx hb dX7_firstOf_33 rfl (lv_at hl 2 rfl) ?_
            refine lv_if_lt (tgt := 46) hx hb dX7_firstOf_34 (by decide) (fun c6 => ?_) (fun c6 => ?_)
            · have hf := (if_pos c6).symm.trans hf
              exact L46 _ _ _ _ _ hf hw (lv_sub hl [0, 1, 2, 3, 4] rfl)
            · have hf := (if_neg c6).symm.trans hf
              refine lv_iload hx hb dX7_firstOf_37 (lv_at hl 4 rfl) ?_
              refine lv_iload_n hx hb dX7_firstOf_39 rfl (lv_at hl 2 rfl) ?_
              refine lv_ishr hx hb dX7_firstOf_40 ?_
              refine lv_iconst (v := 1) hx hb dX7_firstOf_41 (by decide) ?_
              refine lv_iand hx hb dX7_firstOf_42 ?_
              refine lv_if_ne (tgt := 50) hx hb dX7_firstOf_43 (by decide) (fun c7 => ?_) (fun c7 => ?_)
              · have hf := (if_neg c7).symm.trans hf
                exact L50 _ _ _ _ _ hf hw (lv_sub hl [0, 1, 2, 3, 4] rfl)
              · have hf := (if_pos c7).symm.trans hf
                exact L46 _ _ _ _ _ hf hw (lv_sub hl [0, 1, 2, 3, 4] rfl)
  unfold fX7_firstOf at hf
  refine lv_bipush (v := (-9)) hx hb dX7_firstOf_0 (by decide) ?_
  refine lv_istore_n (lv' := [(3, .int (-9 : Int32)), (0, .ref (adr ad a 0)), (1, .int p1), (2, .int p2)]) hx hb dX7_firstOf_2 rfl hl (by decide) rfl (fun ls hl => ?_)
  refine lv_iconst (v := 0) hx hb dX7_firstOf_3 (by decide) ?_
  refine lv_istore (lv' := [(4, .int (0 : Int32)), (3, .int (-9 : Int32)), (0, .ref (adr ad a 0)), (1, .int p1), (2, .int p2)]) hx hb dX7_firstOf_4 hl (by decide) rfl (fun ls hl => ?_)
  exact L6 FU _ _ _ _ _ hf hw (lv_sub hl [2, 3, 4, 1, 0] rfl)
def fX7_told_48 (τ : Tau) (p1 : Int32) (p2 : Int32) (k14 : Int32 → Int32 → Option Int32) (x_4 : Int32) (z_0 : Int32) (z_1 : Int32) : Option Int32 :=
 nm (z_1 + z_0) (fun x5 =>
     nm (x_4 + (1 : Int32)) (fun x6 =>
     k14 x5 x6))
def fX7_told_32 (τ : Tau) (p1 : Int32) (p2 : Int32) (k14 : Int32 → Int32 → Option Int32) (x_4 : Int32) (z_0 : Int32) : Option Int32 :=
 (if (((16 : Int32) * p1) + x_4) < 0 ∨ 16384 ≤ (((16 : Int32) * p1) + x_4).toNatClampNeg then none else
     fX7_told_48 τ p1 p2 k14 x_4 (tA τ 9 (((16 : Int32) * p1) + x_4).toNatClampNeg) z_0)
def fX7_told_14 (τ : Tau) (p1 : Int32) (p2 : Int32) : Nat → Int32 → Int32 → Option Int32
  | 0, _, _ => none
  | n + 1, x_3, x_4 =>
     (if (16 : Int32) ≤ x_4 then
     some x_3
     else
     (if p2 < 0 then
     fX7_told_32 τ p1 p2 (fX7_told_14 τ p1 p2 n) x_4 x_3
     else
     (if x_4 = p2 then
     fX7_told_32 τ p1 p2 (fX7_told_14 τ p1 p2 n) x_4 x_3
     else
     fX7_told_48 τ p1 p2 (fX7_told_14 τ p1 p2 n) x_4 (0 : Int32) x_3)))
def fX7_told (τ : Tau) (p1 : Int32) (p2 : Int32) : Option Int32 :=
 (if p1 = (-9 : Int32) then
 some (-9 : Int32)
 else
 fX7_told_14 τ p1 p2 FU (0 : Int32) (0 : Int32))
set_option maxHeartbeats 4000000 in
set_option maxRecDepth 100000 in
theorem c_X7_told (l : Launch) (D : va_G) (cA : Nat → ClassId) (st ad : Nat → Nat) (a : Nat)  (τ : Tau) (p1 : Int32) (p2 : Int32) (R : Int32) (hf : fX7_told τ p1 p2 = some R) : KE ΛM 12 D cA st ad l yX7_told cX7_told 5 (some .int) 0 0 [.ref (adr ad a 0), .int p1, .int p2] a τ (some (.int R)) τ := by
  refine KE.of "KindSayingsModel" rfl (by decide) (Nat.le_of_ble_eq_true rfl) (fun p e s m args below meth c A ls Rm Q hE hRm hQ hw hl => ?_)
  obtain ⟨hx, hb, hml, hown, hts, -⟩ := id hE
  have hl : lv_has ls 5 [(0, .ref (adr ad a 0)), (1, .int p1), (2, .int p2)] := hl
  have L14 : ∀ (n14 : Nat) (x_3 : Int32) (x_4 : Int32) (H : Heap) (locs : List Loc) (ls : Array Slot), fX7_told_14 τ p1 p2 n14 x_3 x_4 = some R → Wd ΛM 12 D cA ad A s a τ H locs → lv_has ls 5 [(0, .ref (adr ad a 0)), (1, .int p1), (2, .int p2), (3, .int x_3), (4, .int x_4)] → W p l e Rm s m args below meth c H locs 0 0 Q (F0 m 14 ls []) := by
    intro n14
    induction n14 with
    | zero => intro x_3 x_4 H locs ls hf hw hl; exact absurd hf (by rw [fX7_told_14]; simp)
    | succ n14 ih14 =>
      have L48 : ∀ (x_4 : Int32) (z_0 : Int32) (z_1 : Int32) (H : Heap) (locs : List Loc) (ls : Array Slot), fX7_told_48 τ p1 p2 (fX7_told_14 τ p1 p2 n14) x_4 z_0 z_1 = some R → Wd ΛM 12 D cA ad A s a τ H locs → lv_has ls 5 [(0, .ref (adr ad a 0)), (1, .int p1), (2, .int p2), (4, .int x_4)] → W p l e Rm s m args below meth c H locs 0 0 Q (F0 m 48 ls [.int z_0, .int z_1]) := by
        intro x_4 z_0 z_1 H locs ls hf hw hl
        unfold fX7_told_48 at hf
        refine lv_iadd hx hb dX7_told_48 ?_
        obtain ⟨x5, ex5, hf⟩ := ks_nm hf
        refine W.eq (g2 := F0 m 49 ls (.int x5 :: [])) (by rw [ex5]) ?_
        refine lv_istore_n (lv' := [(3, .int x5), (0, .ref (adr ad a 0)), (1, .int p1), (2, .int p2), (4, .int x_4)]) hx hb dX7_told_49 rfl hl (by decide) rfl (fun ls hl => ?_)
        obtain ⟨x6, ex6, hf⟩ := ks_nm hf
        refine lv_iinc (v := x6) (lv' := [(4, .int x6), (3, .int x5), (0, .ref (adr ad a 0)), (1, .int p1), (2, .int p2)]) hx hb dX7_told_50 hl (k := 4) rfl (by rw [ex6]; rfl) (by decide) rfl (fun ls hl => ?_)
        refine lv_goto (tgt := 14) hx hb dX7_told_53 (by decide) ?_
        exact ih14 _ _ _ _ _ hf hw (lv_sub hl [2, 3, 4, 1, 0] rfl)
      have L32 : ∀ (x_4 : Int32) (z_0 : Int32) (H : Heap) (locs : List Loc) (ls : Array Slot), fX7_told_32 τ p1 p2 (fX7_told_14 τ p1 p2 n14) x_4 z_0 = some R → Wd ΛM 12 D cA ad A s a τ H locs → lv_has ls 5 [(0, .ref (adr ad a 0)), (1, .int p1), (2, .int p2), (4, .int x_4)] → W p l e Rm s m args below meth c H locs 0 0 Q (F0 m 32 ls [.int z_0]) := by
        intro x_4 z_0 H locs ls hf hw hl
        unfold fX7_told_32 at hf
        refine lv_aload_n hx hb dX7_told_32 rfl (lv_at hl 0 rfl) ?_
        refine ks_getR hE hw 0 22 ltM_0 lyM_0 rfl fd_X7_44 dX7_told_33 ?_
        refine lv_bipush (v := 16) hx hb dX7_told_36 (by decide) ?_
        refine lv_iload_n hx hb dX7_told_38 rfl (lv_at hl 1 rfl) ?_
        refine lv_imul hx hb dX7_told_39 ?_
        refine lv_iload hx hb dX7_told_40 (lv_at hl 3 rfl) ?_
        refine lv_iadd hx hb dX7_told_42 ?_
        obtain ⟨b7, hf⟩ := ks_ok hf
        refine ks_iald hE hw 9 ltM_9 lyM_9 b7 dX7_told_43 ?_
        refine lv_goto (tgt := 48) hx hb dX7_told_44 (by decide) ?_
        exact L48 _ _ _ _ _ _ hf hw (lv_sub hl [0, 1, 2, 3] rfl)
      intro x_3 x_4 H locs ls hf hw hl
      rw [fX7_told_14] at hf
      refine lv_iload hx hb dX7_told_14 (lv_at hl 4 rfl) ?_
      refine lv_bipush (v := 16) hx hb dX7_told_16 (by decide) ?_
      refine lv_icmp_ge (tgt := 56) hx hb dX7_told_18 (by decide) (fun c2 => ?_) (fun c2 => ?_)
      · have hf := (if_pos c2).symm.trans hf
        refine lv_iload_n hx hb dX7_told_56 rfl (lv_at hl 3 rfl) ?_
        replace hf := Option.some.inj hf
        subst hf
        exact ke_iret hE hw hQ dX7_told_57 rfl rfl
      · have hf := (if_neg c2).symm.trans hf
        refine lv_iload_n hx hb dX7_told_21 rfl (lv_at hl 3 rfl) ?_
        refine lv_iload_n hx hb dX7_told_22 rfl (lv_at hl 2 rfl) ?_
        refine lv_if_lt (tgt := 32) hx hb dX7_told_23 (by decide) (fun c3 => ?_) (fun c3 => ?_)
        · have hf := (if_pos c3).symm.trans hf
          exact L32 _ _ _ _ _ hf hw (lv_sub hl [0, 1, 2, 4] rfl)
        · have hf := (if_neg c3).symm.trans hf
          refine lv_iload hx hb dX7_told_26 (lv_at hl 4 rfl) ?_
          refine lv_iload_n hx hb dX7_told_28 rfl (lv_at hl 2 rfl) ?_
          refine lv_icmp_ne (tgt := 47) hx hb dX7_told_29 (by decide) (fun c4 => ?_) (fun c4 => ?_)
          · have hf := (if_neg c4).symm.trans hf
            refine lv_iconst (v := 0) hx hb dX7_told_47 (by decide) ?_
            exact L48 _ _ _ _ _ _ hf hw (lv_sub hl [0, 1, 2, 4] rfl)
          · have hf := (if_pos c4).symm.trans hf
            exact L32 _ _ _ _ _ hf hw (lv_sub hl [0, 1, 2, 4] rfl)
  unfold fX7_told at hf
  refine lv_iload_n hx hb dX7_told_0 rfl (lv_at hl 1 rfl) ?_
  refine lv_bipush (v := (-9)) hx hb dX7_told_1 (by decide) ?_
  refine lv_icmp_ne (tgt := 9) hx hb dX7_told_3 (by decide) (fun c1 => ?_) (fun c1 => ?_)
  · have hf := (if_neg c1).symm.trans hf
    refine lv_iconst (v := 0) hx hb dX7_told_9 (by decide) ?_
    refine lv_istore_n (lv' := [(3, .int (0 : Int32)), (0, .ref (adr ad a 0)), (1, .int p1), (2, .int p2)]) hx hb dX7_told_10 rfl hl (by decide) rfl (fun ls hl => ?_)
    refine lv_iconst (v := 0) hx hb dX7_told_11 (by decide) ?_
    refine lv_istore (lv' := [(4, .int (0 : Int32)), (3, .int (0 : Int32)), (0, .ref (adr ad a 0)), (1, .int p1), (2, .int p2)]) hx hb dX7_told_12 hl (by decide) rfl (fun ls hl => ?_)
    exact L14 FU _ _ _ _ _ hf hw (lv_sub hl [2, 3, 4, 1, 0] rfl)
  · have hf := (if_pos c1).symm.trans hf
    refine lv_bipush (v := (-9)) hx hb dX7_told_6 (by decide) ?_
    replace hf := Option.some.inj hf
    subst hf
    exact ke_iret hE hw hQ dX7_told_8 rfl rfl
def fX7_least  (τ : Tau) (p1 : Int32) (p2 : Int32) : Option (Int32 × Tau) :=
 nm (sI τ 0 0 (0 : Int32)) (fun t1 =>
 nm (fX7_isSet p1) (fun r2 =>
 (if bI r2 = 0 then
 some ((-1 : Int32), t1)
 else
 nm (fX7_sorts t1) (fun r4 =>
 nm (fX7_in p2 (-1 : Int32) (r4 - (1 : Int32))) (fun r5 =>
 (if bI r5 = 0 then
 some ((-1 : Int32), t1)
 else
 Option.bind (fX7_loads t1) (fun r7 =>
 Option.bind (fX7_firstOf r7 p1 (-1 : Int32)) (fun r8 =>
 Option.bind (fX7_told r7 r8 p2) (fun r9 =>
 some (r9, r7))))))))))
set_option maxHeartbeats 4000000 in
set_option maxRecDepth 100000 in
theorem c_X7_least (l : Launch) (D : va_G) (cA : Nat → ClassId) (st ad : Nat → Nat) (a : Nat)  (τ : Tau) (p1 : Int32) (p2 : Int32) (R : (Int32 × Tau)) (hf : fX7_least τ p1 p2 = some R) : KE ΛM 12 D cA st ad l yX7_least cX7_least 3 (some .int) 5 121 [.ref (adr ad a 0), .int p1, .int p2] a τ (some (.int R.1)) R.2 := by
  refine KE.of "KindSayingsModel" rfl (by decide) (Nat.le_of_ble_eq_true rfl) (fun p e s m args below meth c A ls Rm Q hE hRm hQ hw hl => ?_)
  obtain ⟨hx, hb, hml, hown, hts, -⟩ := id hE
  have hl : lv_has ls 3 [(0, .ref (adr ad a 0)), (1, .int p1), (2, .int p2)] := hl
  unfold fX7_least at hf
  refine lv_aload_n hx hb dX7_least_0 rfl (lv_at hl 0 rfl) ?_
  refine lv_iconst (v := 0) hx hb dX7_least_1 (by decide) ?_
  obtain ⟨t1, et1, hf⟩ := ks_nm hf
  refine ks_putI hE hw 0 0 ltM_0 lyM_0 rfl fw_X7_57 rfl rfl dX7_least_2 (fun H locs hw => ?_)
  rw [← et1] at hw
  refine lv_iload_n hx hb dX7_least_5 rfl (lv_at hl 1 rfl) ?_
  obtain ⟨r2, er2, hf⟩ := ks_nm hf
  refine ke_S hE hw hl.1 cl_X7_182 [.int p1] (c_X7_isSet l D cA st ad a _ _ _ er2.symm) rfl (ke_room hRm rfl rfl) ke_cnt (Nat.le_of_ble_eq_true rfl) rfl dX7_least_6 (fun H locs hw => ?_)
  refine W.eq (g2 := F0 m 9 ls (.int (bI r2) :: [])) rfl ?_
  refine lv_if_eq (tgt := 26) hx hb dX7_least_9 (by decide) (fun c3 => ?_) (fun c3 => ?_)
  · have hf := (if_pos c3).symm.trans hf
    refine lv_iconst (v := (-1)) hx hb dX7_least_26 (by decide) ?_
    replace hf := Option.some.inj hf
    subst hf
    exact ke_iret hE hw hQ dX7_least_27 rfl rfl
  · have hf := (if_neg c3).symm.trans hf
    refine lv_iload_n hx hb dX7_least_12 rfl (lv_at hl 2 rfl) ?_
    refine lv_iconst (v := (-1)) hx hb dX7_least_13 (by decide) ?_
    refine lv_aload_n hx hb dX7_least_14 rfl (lv_at hl 0 rfl) ?_
    obtain ⟨r4, er4, hf⟩ := ks_nm hf
    refine ke_V hE hw hl.1 cl_X7_60 0 ltM_0 lyM_0 rfl [] (c_X7_sorts l D cA st ad a _ _ er4.symm) rfl (ke_room hRm rfl rfl) ke_cnt (Nat.le_of_ble_eq_true rfl) rfl dX7_least_15 (fun H locs hw => ?_)
    refine W.eq (g2 := F0 m 18 ls (.int r4 :: .int (-1 : Int32) :: .int p2 :: [])) rfl ?_
    refine lv_iconst (v := 1) hx hb dX7_least_18 (by decide) ?_
    refine lv_isub hx hb dX7_least_19 ?_
    obtain ⟨r5, er5, hf⟩ := ks_nm hf
    refine ke_S hE hw hl.1 cl_X7_72 [.int p2, .int (-1 : Int32), .int (r4 - (1 : Int32))] (c_X7_in l D cA st ad a _ _ _ _ _ er5.symm) rfl (ke_room hRm rfl rfl) ke_cnt (Nat.le_of_ble_eq_true rfl) rfl dX7_least_20 (fun H locs hw => ?_)
    refine W.eq (g2 := F0 m 23 ls (.int (bI r5) :: [])) rfl ?_
    refine lv_if_ne (tgt := 28) hx hb dX7_least_23 (by decide) (fun c6 => ?_) (fun c6 => ?_)
    · have hf := (if_neg c6).symm.trans hf
      refine lv_aload_n hx hb dX7_least_28 rfl (lv_at hl 0 rfl) ?_
      obtain ⟨r7, er7, hf⟩ := ks_bind hf
      refine ke_V hE hw hl.1 cl_X7_76 0 ltM_0 lyM_0 rfl [] (c_X7_loads l D cA st ad a _ _ er7) rfl (ke_room hRm rfl rfl) ke_cnt (Nat.le_of_ble_eq_true rfl) rfl dX7_least_29 (fun H locs hw => ?_)
      refine W.eq (g2 := F0 m 32 ls ([])) rfl ?_
      refine lv_aload_n hx hb dX7_least_32 rfl (lv_at hl 0 rfl) ?_
      refine lv_aload_n hx hb dX7_least_33 rfl (lv_at hl 0 rfl) ?_
      refine lv_iload_n hx hb dX7_least_34 rfl (lv_at hl 1 rfl) ?_
      refine lv_iconst (v := (-1)) hx hb dX7_least_35 (by decide) ?_
      obtain ⟨r8, er8, hf⟩ := ks_bind hf
      refine ke_V hE hw hl.1 cl_X7_188 0 ltM_0 lyM_0 rfl [.int p1, .int (-1 : Int32)] (c_X7_firstOf l D cA st ad a _ _ _ _ er8) rfl (ke_room hRm rfl rfl) ke_cnt (Nat.le_of_ble_eq_true rfl) rfl dX7_least_36 (fun H locs hw => ?_)
      refine W.eq (g2 := F0 m 39 ls (.int r8 :: .ref (adr ad a 0) :: [])) rfl ?_
      refine lv_iload_n hx hb dX7_least_39 rfl (lv_at hl 2 rfl) ?_
      obtain ⟨r9, er9, hf⟩ := ks_bind hf
      refine ke_V hE hw hl.1 cl_X7_192 0 ltM_0 lyM_0 rfl [.int r8, .int p2] (c_X7_told l D cA st ad a _ _ _ _ er9) rfl (ke_room hRm rfl rfl) ke_cnt (Nat.le_of_ble_eq_true rfl) rfl dX7_least_40 (fun H locs hw => ?_)
      refine W.eq (g2 := F0 m 43 ls (.int r9 :: [])) rfl ?_
      replace hf := Option.some.inj hf
      subst hf
      exact ke_iret hE hw hQ dX7_least_43 rfl rfl
    · have hf := (if_pos c6).symm.trans hf
      refine lv_iconst (v := (-1)) hx hb dX7_least_26 (by decide) ?_
      replace hf := Option.some.inj hf
      subst hf
      exact ke_iret hE hw hQ dX7_least_27 rfl rfl
def fX7_follows  (τ : Tau) (p1 : Int32) (p2 : Int32) : Option (Int32 × Tau) :=
 nm (sI τ 0 0 (0 : Int32)) (fun t1 =>
 nm (fX7_isSet p1) (fun r2 =>
 (if bI r2 = 0 then
 some ((-1 : Int32), t1)
 else
 nm (fX7_isSaying p2) (fun r4 =>
 (if bI r4 = 0 then
 some ((-1 : Int32), t1)
 else
 Option.bind (fX7_loads t1) (fun r6 =>
 Option.bind (fX7_firstOf r6 p1 p2) (fun r7 =>
 (if r7 = (-9 : Int32) then
 some ((1 : Int32), r6)
 else
 some ((0 : Int32), r6)))))))))
set_option maxHeartbeats 4000000 in
set_option maxRecDepth 100000 in
theorem c_X7_follows (l : Launch) (D : va_G) (cA : Nat → ClassId) (st ad : Nat → Nat) (a : Nat)  (τ : Tau) (p1 : Int32) (p2 : Int32) (R : (Int32 × Tau)) (hf : fX7_follows τ p1 p2 = some R) : KE ΛM 12 D cA st ad l yX7_follows cX7_follows 3 (some .int) 5 121 [.ref (adr ad a 0), .int p1, .int p2] a τ (some (.int R.1)) R.2 := by
  refine KE.of "KindSayingsModel" rfl (by decide) (Nat.le_of_ble_eq_true rfl) (fun p e s m args below meth c A ls Rm Q hE hRm hQ hw hl => ?_)
  obtain ⟨hx, hb, hml, hown, hts, -⟩ := id hE
  have hl : lv_has ls 3 [(0, .ref (adr ad a 0)), (1, .int p1), (2, .int p2)] := hl
  unfold fX7_follows at hf
  refine lv_aload_n hx hb dX7_follows_0 rfl (lv_at hl 0 rfl) ?_
  refine lv_iconst (v := 0) hx hb dX7_follows_1 (by decide) ?_
  obtain ⟨t1, et1, hf⟩ := ks_nm hf
  refine ks_putI hE hw 0 0 ltM_0 lyM_0 rfl fw_X7_57 rfl rfl dX7_follows_2 (fun H locs hw => ?_)
  rw [← et1] at hw
  refine lv_iload_n hx hb dX7_follows_5 rfl (lv_at hl 1 rfl) ?_
  obtain ⟨r2, er2, hf⟩ := ks_nm hf
  refine ke_S hE hw hl.1 cl_X7_182 [.int p1] (c_X7_isSet l D cA st ad a _ _ _ er2.symm) rfl (ke_room hRm rfl rfl) ke_cnt (Nat.le_of_ble_eq_true rfl) rfl dX7_follows_6 (fun H locs hw => ?_)
  refine W.eq (g2 := F0 m 9 ls (.int (bI r2) :: [])) rfl ?_
  refine lv_if_eq (tgt := 19) hx hb dX7_follows_9 (by decide) (fun c3 => ?_) (fun c3 => ?_)
  · have hf := (if_pos c3).symm.trans hf
    refine lv_iconst (v := (-1)) hx hb dX7_follows_19 (by decide) ?_
    replace hf := Option.some.inj hf
    subst hf
    exact ke_iret hE hw hQ dX7_follows_20 rfl rfl
  · have hf := (if_neg c3).symm.trans hf
    refine lv_iload_n hx hb dX7_follows_12 rfl (lv_at hl 2 rfl) ?_
    obtain ⟨r4, er4, hf⟩ := ks_nm hf
    refine ke_S hE hw hl.1 cl_X7_90 [.int p2] (c_X7_isSaying l D cA st ad a _ _ _ er4.symm) rfl (ke_room hRm rfl rfl) ke_cnt (Nat.le_of_ble_eq_true rfl) rfl dX7_follows_13 (fun H locs hw => ?_)
    refine W.eq (g2 := F0 m 16 ls (.int (bI r4) :: [])) rfl ?_
    refine lv_if_ne (tgt := 21) hx hb dX7_follows_16 (by decide) (fun c5 => ?_) (fun c5 => ?_)
    · have hf := (if_neg c5).symm.trans hf
      refine lv_aload_n hx hb dX7_follows_21 rfl (lv_at hl 0 rfl) ?_
      obtain ⟨r6, er6, hf⟩ := ks_bind hf
      refine ke_V hE hw hl.1 cl_X7_76 0 ltM_0 lyM_0 rfl [] (c_X7_loads l D cA st ad a _ _ er6) rfl (ke_room hRm rfl rfl) ke_cnt (Nat.le_of_ble_eq_true rfl) rfl dX7_follows_22 (fun H locs hw => ?_)
      refine W.eq (g2 := F0 m 25 ls ([])) rfl ?_
      refine lv_aload_n hx hb dX7_follows_25 rfl (lv_at hl 0 rfl) ?_
      refine lv_iload_n hx hb dX7_follows_26 rfl (lv_at hl 1 rfl) ?_
      refine lv_iload_n hx hb dX7_follows_27 rfl (lv_at hl 2 rfl) ?_
      obtain ⟨r7, er7, hf⟩ := ks_bind hf
      refine ke_V hE hw hl.1 cl_X7_188 0 ltM_0 lyM_0 rfl [.int p1, .int p2] (c_X7_firstOf l D cA st ad a _ _ _ _ er7) rfl (ke_room hRm rfl rfl) ke_cnt (Nat.le_of_ble_eq_true rfl) rfl dX7_follows_28 (fun H locs hw => ?_)
      refine W.eq (g2 := F0 m 31 ls (.int r7 :: [])) rfl ?_
      refine lv_bipush (v := (-9)) hx hb dX7_follows_31 (by decide) ?_
      refine lv_icmp_ne (tgt := 40) hx hb dX7_follows_33 (by decide) (fun c8 => ?_) (fun c8 => ?_)
      · have hf := (if_neg c8).symm.trans hf
        refine lv_iconst (v := 0) hx hb dX7_follows_40 (by decide) ?_
        replace hf := Option.some.inj hf
        subst hf
        exact ke_iret hE hw hQ dX7_follows_41 rfl rfl
      · have hf := (if_pos c8).symm.trans hf
        refine lv_iconst (v := 1) hx hb dX7_follows_36 (by decide) ?_
        refine lv_goto (tgt := 41) hx hb dX7_follows_37 (by decide) ?_
        replace hf := Option.some.inj hf
        subst hf
        exact ke_iret hE hw hQ dX7_follows_41 rfl rfl
    · have hf := (if_pos c5).symm.trans hf
      refine lv_iconst (v := (-1)) hx hb dX7_follows_19 (by decide) ?_
      replace hf := Option.some.inj hf
      subst hf
      exact ke_iret hE hw hQ dX7_follows_20 rfl rfl
def fX7_against  (τ : Tau) (p1 : Int32) (p2 : Int32) (p3 : Int32) : Option (Int32 × Tau) :=
 nm (sI τ 0 0 (0 : Int32)) (fun t1 =>
 nm (fX7_isSet p1) (fun r2 =>
 (if bI r2 = 0 then
 some ((-1 : Int32), t1)
 else
 nm (fX7_isSaying p2) (fun r4 =>
 (if bI r4 = 0 then
 some ((-1 : Int32), t1)
 else
 nm (fX7_sorts t1) (fun r6 =>
 nm (fX7_in p3 (-1 : Int32) (r6 - (1 : Int32))) (fun r7 =>
 (if bI r7 = 0 then
 some ((-1 : Int32), t1)
 else
 Option.bind (fX7_loads t1) (fun r9 =>
 Option.bind (fX7_firstOf r9 p1 p2) (fun r10 =>
 Option.bind (fX7_told r9 r10 p3) (fun r11 =>
 some (r11, r9))))))))))))
set_option maxHeartbeats 4000000 in
set_option maxRecDepth 100000 in
theorem c_X7_against (l : Launch) (D : va_G) (cA : Nat → ClassId) (st ad : Nat → Nat) (a : Nat)  (τ : Tau) (p1 : Int32) (p2 : Int32) (p3 : Int32) (R : (Int32 × Tau)) (hf : fX7_against τ p1 p2 p3 = some R) : KE ΛM 12 D cA st ad l yX7_against cX7_against 4 (some .int) 5 121 [.ref (adr ad a 0), .int p1, .int p2, .int p3] a τ (some (.int R.1)) R.2 := by
  refine KE.of "KindSayingsModel" rfl (by decide) (Nat.le_of_ble_eq_true rfl) (fun p e s m args below meth c A ls Rm Q hE hRm hQ hw hl => ?_)
  obtain ⟨hx, hb, hml, hown, hts, -⟩ := id hE
  have hl : lv_has ls 4 [(0, .ref (adr ad a 0)), (1, .int p1), (2, .int p2), (3, .int p3)] := hl
  unfold fX7_against at hf
  refine lv_aload_n hx hb dX7_against_0 rfl (lv_at hl 0 rfl) ?_
  refine lv_iconst (v := 0) hx hb dX7_against_1 (by decide) ?_
  obtain ⟨t1, et1, hf⟩ := ks_nm hf
  refine ks_putI hE hw 0 0 ltM_0 lyM_0 rfl fw_X7_57 rfl rfl dX7_against_2 (fun H locs hw => ?_)
  rw [← et1] at hw
  refine lv_iload_n hx hb dX7_against_5 rfl (lv_at hl 1 rfl) ?_
  obtain ⟨r2, er2, hf⟩ := ks_nm hf
  refine ke_S hE hw hl.1 cl_X7_182 [.int p1] (c_X7_isSet l D cA st ad a _ _ _ er2.symm) rfl (ke_room hRm rfl rfl) ke_cnt (Nat.le_of_ble_eq_true rfl) rfl dX7_against_6 (fun H locs hw => ?_)
  refine W.eq (g2 := F0 m 9 ls (.int (bI r2) :: [])) rfl ?_
  refine lv_if_eq (tgt := 33) hx hb dX7_against_9 (by decide) (fun c3 => ?_) (fun c3 => ?_)
  · have hf := (if_pos c3).symm.trans hf
    refine lv_iconst (v := (-1)) hx hb dX7_against_33 (by decide) ?_
    replace hf := Option.some.inj hf
    subst hf
    exact ke_iret hE hw hQ dX7_against_34 rfl rfl
  · have hf := (if_neg c3).symm.trans hf
    refine lv_iload_n hx hb dX7_against_12 rfl (lv_at hl 2 rfl) ?_
    obtain ⟨r4, er4, hf⟩ := ks_nm hf
    refine ke_S hE hw hl.1 cl_X7_90 [.int p2] (c_X7_isSaying l D cA st ad a _ _ _ er4.symm) rfl (ke_room hRm rfl rfl) ke_cnt (Nat.le_of_ble_eq_true rfl) rfl dX7_against_13 (fun H locs hw => ?_)
    refine W.eq (g2 := F0 m 16 ls (.int (bI r4) :: [])) rfl ?_
    refine lv_if_eq (tgt := 33) hx hb dX7_against_16 (by decide) (fun c5 => ?_) (fun c5 => ?_)
    · have hf := (if_pos c5).symm.trans hf
      refine lv_iconst (v := (-1)) hx hb dX7_against_33 (by decide) ?_
      replace hf := Option.some.inj hf
      subst hf
      exact ke_iret hE hw hQ dX7_against_34 rfl rfl
    · have hf := (if_neg c5).symm.trans hf
      refine lv_iload_n hx hb dX7_against_19 rfl (lv_at hl 3 rfl) ?_
      refine lv_iconst (v := (-1)) hx hb dX7_against_20 (by decide) ?_
      refine lv_aload_n hx hb dX7_against_21 rfl (lv_at hl 0 rfl) ?_
      obtain ⟨r6, er6, hf⟩ := ks_nm hf
      refine ke_V hE hw hl.1 cl_X7_60 0 ltM_0 lyM_0 rfl [] (c_X7_sorts l D cA st ad a _ _ er6.symm) rfl (ke_room hRm rfl rfl) ke_cnt (Nat.le_of_ble_eq_true rfl) rfl dX7_against_22 (fun H locs hw => ?_)
      refine W.eq (g2 := F0 m 25 ls (.int r6 :: .int (-1 : Int32) :: .int p3 :: [])) rfl ?_
      refine lv_iconst (v := 1) hx hb dX7_against_25 (by decide) ?_
      refine lv_isub hx hb dX7_against_26 ?_
      obtain ⟨r7, er7, hf⟩ := ks_nm hf
      refine ke_S hE hw hl.1 cl_X7_72 [.int p3, .int (-1 : Int32), .int (r6 - (1 : Int32))] (c_X7_in l D cA st ad a _ _ _ _ _ er7.symm) rfl (ke_room hRm rfl rfl) ke_cnt (Nat.le_of_ble_eq_true rfl) rfl dX7_against_27 (fun H locs hw => ?_)
      refine W.eq (g2 := F0 m 30 ls (.int (bI r7) :: [])) rfl ?_
      refine lv_if_ne (tgt := 35) hx hb dX7_against_30 (by decide) (fun c8 => ?_) (fun c8 => ?_)
      · have hf := (if_neg c8).symm.trans hf
        refine lv_aload_n hx hb dX7_against_35 rfl (lv_at hl 0 rfl) ?_
        obtain ⟨r9, er9, hf⟩ := ks_bind hf
        refine ke_V hE hw hl.1 cl_X7_76 0 ltM_0 lyM_0 rfl [] (c_X7_loads l D cA st ad a _ _ er9) rfl (ke_room hRm rfl rfl) ke_cnt (Nat.le_of_ble_eq_true rfl) rfl dX7_against_36 (fun H locs hw => ?_)
        refine W.eq (g2 := F0 m 39 ls ([])) rfl ?_
        refine lv_aload_n hx hb dX7_against_39 rfl (lv_at hl 0 rfl) ?_
        refine lv_aload_n hx hb dX7_against_40 rfl (lv_at hl 0 rfl) ?_
        refine lv_iload_n hx hb dX7_against_41 rfl (lv_at hl 1 rfl) ?_
        refine lv_iload_n hx hb dX7_against_42 rfl (lv_at hl 2 rfl) ?_
        obtain ⟨r10, er10, hf⟩ := ks_bind hf
        refine ke_V hE hw hl.1 cl_X7_188 0 ltM_0 lyM_0 rfl [.int p1, .int p2] (c_X7_firstOf l D cA st ad a _ _ _ _ er10) rfl (ke_room hRm rfl rfl) ke_cnt (Nat.le_of_ble_eq_true rfl) rfl dX7_against_43 (fun H locs hw => ?_)
        refine W.eq (g2 := F0 m 46 ls (.int r10 :: .ref (adr ad a 0) :: [])) rfl ?_
        refine lv_iload_n hx hb dX7_against_46 rfl (lv_at hl 3 rfl) ?_
        obtain ⟨r11, er11, hf⟩ := ks_bind hf
        refine ke_V hE hw hl.1 cl_X7_192 0 ltM_0 lyM_0 rfl [.int r10, .int p3] (c_X7_told l D cA st ad a _ _ _ _ er11) rfl (ke_room hRm rfl rfl) ke_cnt (Nat.le_of_ble_eq_true rfl) rfl dX7_against_47 (fun H locs hw => ?_)
        refine W.eq (g2 := F0 m 50 ls (.int r11 :: [])) rfl ?_
        replace hf := Option.some.inj hf
        subst hf
        exact ke_iret hE hw hQ dX7_against_50 rfl rfl
      · have hf := (if_pos c8).symm.trans hf
        refine lv_iconst (v := (-1)) hx hb dX7_against_33 (by decide) ?_
        replace hf := Option.some.inj hf
        subst hf
        exact ke_iret hE hw hQ dX7_against_34 rfl rfl
def fX7_unsaid_62 (p1 : Int32) (k22 : Tau → Int32 → Int32 → Option (Int32 × Tau)) (τ : Tau) (x_3 : Int32) (z_0 : Int32) (z_1 : Int32) : Option (Int32 × Tau) :=
 nm (z_1 ||| z_0) (fun x9 =>
     nm (x_3 + (1 : Int32)) (fun x10 =>
     k22 τ x9 x10))
def fX7_unsaid_61 (p1 : Int32) (k22 : Tau → Int32 → Int32 → Option (Int32 × Tau)) (τ : Tau) (x_3 : Int32) (z_0 : Int32) : Option (Int32 × Tau) :=
 fX7_unsaid_62 p1 k22 τ x_3 (0 : Int32) z_0
def fX7_unsaid_22 (p1 : Int32) : Nat → Tau → Int32 → Int32 → Option (Int32 × Tau)
  | 0, _, _, _ => none
  | n + 1, τ, x_2, x_3 =>
     (if (10 : Int32) ≤ x_3 then
     some (x_2, τ)
     else
     (if ((p1 >>> (x_3 &&& 31)) &&& (1 : Int32)) = (1 : Int32) then
     Option.bind (fX7_firstOf τ (p1 &&& (((1 : Int32) <<< (x_3 &&& 31)) ^^^ (-1 : Int32))) x_3) (fun r7 =>
     (if r7 = (-9 : Int32) then
     fX7_unsaid_62 p1 (fX7_unsaid_22 p1 n) τ x_3 ((1 : Int32) <<< (x_3 &&& 31)) x_2
     else
     fX7_unsaid_61 p1 (fX7_unsaid_22 p1 n) τ x_3 x_2))
     else
     fX7_unsaid_61 p1 (fX7_unsaid_22 p1 n) τ x_3 x_2))
def fX7_unsaid  (τ : Tau) (p1 : Int32) : Option (Int32 × Tau) :=
 nm (sI τ 0 0 (0 : Int32)) (fun t1 =>
 nm (fX7_isSet p1) (fun r2 =>
 (if bI r2 = 0 then
 some ((-1 : Int32), t1)
 else
 Option.bind (fX7_loads t1) (fun r4 =>
 fX7_unsaid_22 p1 FU r4 (0 : Int32) (0 : Int32)))))
set_option maxHeartbeats 4000000 in
set_option maxRecDepth 100000 in
theorem c_X7_unsaid (l : Launch) (D : va_G) (cA : Nat → ClassId) (st ad : Nat → Nat) (a : Nat)  (τ : Tau) (p1 : Int32) (R : (Int32 × Tau)) (hf : fX7_unsaid τ p1 = some R) : KE ΛM 12 D cA st ad l yX7_unsaid cX7_unsaid 4 (some .int) 5 121 [.ref (adr ad a 0), .int p1] a τ (some (.int R.1)) R.2 := by
  refine KE.of "KindSayingsModel" rfl (by decide) (Nat.le_of_ble_eq_true rfl) (fun p e s m args below meth c A ls Rm Q hE hRm hQ hw hl => ?_)
  obtain ⟨hx, hb, hml, hown, hts, -⟩ := id hE
  have hl : lv_has ls 4 [(0, .ref (adr ad a 0)), (1, .int p1)] := hl
  have L22 : ∀ (n22 : Nat) (τ : Tau) (x_2 : Int32) (x_3 : Int32) (H : Heap) (locs : List Loc) (ls : Array Slot), fX7_unsaid_22 p1 n22 τ x_2 x_3 = some R → Wd ΛM 12 D cA ad A s a τ H locs → lv_has ls 4 [(0, .ref (adr ad a 0)), (1, .int p1), (2, .int x_2), (3, .int x_3)] → W p l e Rm s m args below meth c H locs 0 0 Q (F0 m 22 ls []) := by
    intro n22
    induction n22 with
    | zero => intro τ x_2 x_3 H locs ls hf hw hl; exact absurd hf (by rw [fX7_unsaid_22]; simp)
    | succ n22 ih22 =>
      have L62 : ∀ (τ : Tau) (x_3 : Int32) (z_0 : Int32) (z_1 : Int32) (H : Heap) (locs : List Loc) (ls : Array Slot), fX7_unsaid_62 p1 (fX7_unsaid_22 p1 n22) τ x_3 z_0 z_1 = some R → Wd ΛM 12 D cA ad A s a τ H locs → lv_has ls 4 [(0, .ref (adr ad a 0)), (1, .int p1), (3, .int x_3)] → W p l e Rm s m args below meth c H locs 0 0 Q (F0 m 62 ls [.int z_0, .int z_1]) := by
        intro τ x_3 z_0 z_1 H locs ls hf hw hl
        unfold fX7_unsaid_62 at hf
        refine lv_ior hx hb dX7_unsaid_62 ?_
        obtain ⟨x9, ex9, hf⟩ := ks_nm hf
        refine W.eq (g2 := F0 m 63 ls (.int x9 :: [])) (by rw [ex9]) ?_
        refine lv_istore_n (lv' := [(2, .int x9), (0, .ref (adr ad a 0)), (1, .int p1), (3, .int x_3)]) hx hb dX7_unsaid_63 rfl hl (by decide) rfl (fun ls hl => ?_)
        obtain ⟨x10, ex10, hf⟩ := ks_nm hf
        refine lv_iinc (v := x10) (lv' := [(3, .int x10), (2, .int x9), (0, .ref (adr ad a 0)), (1, .int p1)]) hx hb dX7_unsaid_64 hl (k := 3) rfl (by rw [ex10]; rfl) (by decide) rfl (fun ls hl => ?_)
        refine lv_goto (tgt := 22) hx hb dX7_unsaid_67 (by decide) ?_
        exact ih22 _ _ _ _ _ _ hf hw (lv_sub hl [2, 3, 1, 0] rfl)
      have L61 : ∀ (τ : Tau) (x_3 : Int32) (z_0 : Int32) (H : Heap) (locs : List Loc) (ls : Array Slot), fX7_unsaid_61 p1 (fX7_unsaid_22 p1 n22) τ x_3 z_0 = some R → Wd ΛM 12 D cA ad A s a τ H locs → lv_has ls 4 [(0, .ref (adr ad a 0)), (1, .int p1), (3, .int x_3)] → W p l e Rm s m args below meth c H locs 0 0 Q (F0 m 61 ls [.int z_0]) := by
        intro τ x_3 z_0 H locs ls hf hw hl
        unfold fX7_unsaid_61 at hf
        refine lv_iconst (v := 0) hx hb dX7_unsaid_61 (by decide) ?_
        exact L62 _ _ _ _ _ _ _ hf hw (lv_sub hl [0, 1, 2] rfl)
      intro τ x_2 x_3 H locs ls hf hw hl
      rw [fX7_unsaid_22] at hf
      refine lv_iload_n hx hb dX7_unsaid_22 rfl (lv_at hl 3 rfl) ?_
      refine lv_bipush (v := 10) hx hb dX7_unsaid_23 (by decide) ?_
      refine lv_icmp_ge (tgt := 70) hx hb dX7_unsaid_25 (by decide) (fun c5 => ?_) (fun c5 => ?_)
      · have hf := (if_pos c5).symm.trans hf
        refine lv_iload_n hx hb dX7_unsaid_70 rfl (lv_at hl 2 rfl) ?_
        replace hf := Option.some.inj hf
        subst hf
        exact ke_iret hE hw hQ dX7_unsaid_71 rfl rfl
      · have hf := (if_neg c5).symm.trans hf
        refine lv_iload_n hx hb dX7_unsaid_28 rfl (lv_at hl 2 rfl) ?_
        refine lv_iload_n hx hb dX7_unsaid_29 rfl (lv_at hl 1 rfl) ?_
        refine lv_iload_n hx hb dX7_unsaid_30 rfl (lv_at hl 3 rfl) ?_
        refine lv_ishr hx hb dX7_unsaid_31 ?_
        refine lv_iconst (v := 1) hx hb dX7_unsaid_32 (by decide) ?_
        refine lv_iand hx hb dX7_unsaid_33 ?_
        refine lv_iconst (v := 1) hx hb dX7_unsaid_34 (by decide) ?_
        refine lv_icmp_ne (tgt := 61) hx hb dX7_unsaid_35 (by decide) (fun c6 => ?_) (fun c6 => ?_)
        · have hf := (if_neg c6).symm.trans hf
          exact L61 _ _ _ _ _ _ hf hw (lv_sub hl [0, 1, 3] rfl)
        · have hf := (if_pos c6).symm.trans hf
          refine lv_aload_n hx hb dX7_unsaid_38 rfl (lv_at hl 0 rfl) ?_
          refine lv_iload_n hx hb dX7_unsaid_39 rfl (lv_at hl 1 rfl) ?_
          refine lv_iconst (v := 1) hx hb dX7_unsaid_40 (by decide) ?_
          refine lv_iload_n hx hb dX7_unsaid_41 rfl (lv_at hl 3 rfl) ?_
          refine lv_ishl hx hb dX7_unsaid_42 ?_
          refine lv_iconst (v := (-1)) hx hb dX7_unsaid_43 (by decide) ?_
          refine lv_ixor hx hb dX7_unsaid_44 ?_
          refine lv_iand hx hb dX7_unsaid_45 ?_
          refine lv_iload_n hx hb dX7_unsaid_46 rfl (lv_at hl 3 rfl) ?_
          obtain ⟨r7, er7, hf⟩ := ks_bind hf
          refine ke_V hE hw hl.1 cl_X7_188 0 ltM_0 lyM_0 rfl [.int (p1 &&& (((1 : Int32) <<< (x_3 &&& 31)) ^^^ (-1 : Int32))), .int x_3] (c_X7_firstOf l D cA st ad a _ _ _ _ er7) rfl (ke_room hRm rfl rfl) ke_cnt (Nat.le_of_ble_eq_true rfl) rfl dX7_unsaid_47 (fun H locs hw => ?_)
          refine W.eq (g2 := F0 m 50 ls (.int r7 :: .int x_2 :: [])) rfl ?_
          refine lv_bipush (v := (-9)) hx hb dX7_unsaid_50 (by decide) ?_
          refine lv_icmp_ne (tgt := 61) hx hb dX7_unsaid_52 (by decide) (fun c8 => ?_) (fun c8 => ?_)
          · have hf := (if_neg c8).symm.trans hf
            exact L61 _ _ _ _ _ _ hf hw (lv_sub hl [0, 1, 3] rfl)
          · have hf := (if_pos c8).symm.trans hf
            refine lv_iconst (v := 1) hx hb dX7_unsaid_55 (by decide) ?_
            refine lv_iload_n hx hb dX7_unsaid_56 rfl (lv_at hl 3 rfl) ?_
            refine lv_ishl hx hb dX7_unsaid_57 ?_
            refine lv_goto (tgt := 62) hx hb dX7_unsaid_58 (by decide) ?_
            exact L62 _ _ _ _ _ _ _ hf hw (lv_sub hl [0, 1, 3] rfl)
  unfold fX7_unsaid at hf
  refine lv_aload_n hx hb dX7_unsaid_0 rfl (lv_at hl 0 rfl) ?_
  refine lv_iconst (v := 0) hx hb dX7_unsaid_1 (by decide) ?_
  obtain ⟨t1, et1, hf⟩ := ks_nm hf
  refine ks_putI hE hw 0 0 ltM_0 lyM_0 rfl fw_X7_57 rfl rfl dX7_unsaid_2 (fun H locs hw => ?_)
  rw [← et1] at hw
  refine lv_iload_n hx hb dX7_unsaid_5 rfl (lv_at hl 1 rfl) ?_
  obtain ⟨r2, er2, hf⟩ := ks_nm hf
  refine ke_S hE hw hl.1 cl_X7_182 [.int p1] (c_X7_isSet l D cA st ad a _ _ _ er2.symm) rfl (ke_room hRm rfl rfl) ke_cnt (Nat.le_of_ble_eq_true rfl) rfl dX7_unsaid_6 (fun H locs hw => ?_)
  refine W.eq (g2 := F0 m 9 ls (.int (bI r2) :: [])) rfl ?_
  refine lv_if_ne (tgt := 14) hx hb dX7_unsaid_9 (by decide) (fun c3 => ?_) (fun c3 => ?_)
  · have hf := (if_neg c3).symm.trans hf
    refine lv_aload_n hx hb dX7_unsaid_14 rfl (lv_at hl 0 rfl) ?_
    obtain ⟨r4, er4, hf⟩ := ks_bind hf
    refine ke_V hE hw hl.1 cl_X7_76 0 ltM_0 lyM_0 rfl [] (c_X7_loads l D cA st ad a _ _ er4) rfl (ke_room hRm rfl rfl) ke_cnt (Nat.le_of_ble_eq_true rfl) rfl dX7_unsaid_15 (fun H locs hw => ?_)
    refine W.eq (g2 := F0 m 18 ls ([])) rfl ?_
    refine lv_iconst (v := 0) hx hb dX7_unsaid_18 (by decide) ?_
    refine lv_istore_n (lv' := [(2, .int (0 : Int32)), (0, .ref (adr ad a 0)), (1, .int p1)]) hx hb dX7_unsaid_19 rfl hl (by decide) rfl (fun ls hl => ?_)
    refine lv_iconst (v := 0) hx hb dX7_unsaid_20 (by decide) ?_
    refine lv_istore_n (lv' := [(3, .int (0 : Int32)), (2, .int (0 : Int32)), (0, .ref (adr ad a 0)), (1, .int p1)]) hx hb dX7_unsaid_21 rfl hl (by decide) rfl (fun ls hl => ?_)
    exact L22 FU _ _ _ _ _ _ hf hw (lv_sub hl [2, 3, 1, 0] rfl)
  · have hf := (if_pos c3).symm.trans hf
    refine lv_iconst (v := (-1)) hx hb dX7_unsaid_12 (by decide) ?_
    replace hf := Option.some.inj hf
    subst hf
    exact ke_iret hE hw hQ dX7_unsaid_13 rfl rfl
def fX7_ones_4 (p1 : Int32) : Nat → Int32 → Int32 → Option Int32
  | 0, _, _ => none
  | n + 1, x_1, x_2 =>
     (if (10 : Int32) ≤ x_2 then
     some x_1
     else
     nm (x_1 + ((p1 >>> (x_2 &&& 31)) &&& (1 : Int32))) (fun x2 =>
     nm (x_2 + (1 : Int32)) (fun x3 =>
     fX7_ones_4 p1 n x2 x3)))
def fX7_ones  (p1 : Int32) : Option Int32 :=
 fX7_ones_4 p1 FU (0 : Int32) (0 : Int32)
set_option maxHeartbeats 4000000 in
set_option maxRecDepth 100000 in
theorem c_X7_ones (l : Launch) (D : va_G) (cA : Nat → ClassId) (st ad : Nat → Nat) (a : Nat)  (τ : Tau) (p1 : Int32) (R : Int32) (hf : fX7_ones p1 = some R) : KE ΛM 12 D cA st ad l yX7_ones cX7_ones 3 (some .int) 0 0 [.int p1] a τ (some (.int R)) τ := by
  refine KE.of "KindSayingsModel" rfl (by decide) (Nat.le_of_ble_eq_true rfl) (fun p e s m args below meth c A ls Rm Q hE hRm hQ hw hl => ?_)
  obtain ⟨hx, hb, hml, hown, hts, -⟩ := id hE
  have hl : lv_has ls 3 [(0, .int p1)] := hl
  have L4 : ∀ (n4 : Nat) (x_1 : Int32) (x_2 : Int32) (H : Heap) (locs : List Loc) (ls : Array Slot), fX7_ones_4 p1 n4 x_1 x_2 = some R → Wd ΛM 12 D cA ad A s a τ H locs → lv_has ls 3 [(0, .int p1), (1, .int x_1), (2, .int x_2)] → W p l e Rm s m args below meth c H locs 0 0 Q (F0 m 4 ls []) := by
    intro n4
    induction n4 with
    | zero => intro x_1 x_2 H locs ls hf hw hl; exact absurd hf (by rw [fX7_ones_4]; simp)
    | succ n4 ih4 =>
      intro x_1 x_2 H locs ls hf hw hl
      rw [fX7_ones_4] at hf
      refine lv_iload_n hx hb dX7_ones_4 rfl (lv_at hl 2 rfl) ?_
      refine lv_bipush (v := 10) hx hb dX7_ones_5 (by decide) ?_
      refine lv_icmp_ge (tgt := 24) hx hb dX7_ones_7 (by decide) (fun c1 => ?_) (fun c1 => ?_)
      · have hf := (if_pos c1).symm.trans hf
        refine lv_iload_n hx hb dX7_ones_24 rfl (lv_at hl 1 rfl) ?_
        replace hf := Option.some.inj hf
        subst hf
        exact ke_iret hE hw hQ dX7_ones_25 rfl rfl
      · have hf := (if_neg c1).symm.trans hf
        refine lv_iload_n hx hb dX7_ones_10 rfl (lv_at hl 1 rfl) ?_
        refine lv_iload_n hx hb dX7_ones_11 rfl (lv_at hl 0 rfl) ?_
        refine lv_iload_n hx hb dX7_ones_12 rfl (lv_at hl 2 rfl) ?_
        refine lv_ishr hx hb dX7_ones_13 ?_
        refine lv_iconst (v := 1) hx hb dX7_ones_14 (by decide) ?_
        refine lv_iand hx hb dX7_ones_15 ?_
        refine lv_iadd hx hb dX7_ones_16 ?_
        obtain ⟨x2, ex2, hf⟩ := ks_nm hf
        refine W.eq (g2 := F0 m 17 ls (.int x2 :: [])) (by rw [ex2]) ?_
        refine lv_istore_n (lv' := [(1, .int x2), (0, .int p1), (2, .int x_2)]) hx hb dX7_ones_17 rfl hl (by decide) rfl (fun ls hl => ?_)
        obtain ⟨x3, ex3, hf⟩ := ks_nm hf
        refine lv_iinc (v := x3) (lv' := [(2, .int x3), (1, .int x2), (0, .int p1)]) hx hb dX7_ones_18 hl (k := 2) rfl (by rw [ex3]; rfl) (by decide) rfl (fun ls hl => ?_)
        refine lv_goto (tgt := 4) hx hb dX7_ones_21 (by decide) ?_
        exact ih4 _ _ _ _ _ hf hw (lv_sub hl [2, 1, 0] rfl)
  unfold fX7_ones at hf
  refine lv_iconst (v := 0) hx hb dX7_ones_0 (by decide) ?_
  refine lv_istore_n (lv' := [(1, .int (0 : Int32)), (0, .int p1)]) hx hb dX7_ones_1 rfl hl (by decide) rfl (fun ls hl => ?_)
  refine lv_iconst (v := 0) hx hb dX7_ones_2 (by decide) ?_
  refine lv_istore_n (lv' := [(2, .int (0 : Int32)), (1, .int (0 : Int32)), (0, .int p1)]) hx hb dX7_ones_3 rfl hl (by decide) rfl (fun ls hl => ?_)
  exact L4 FU _ _ _ _ _ hf hw (lv_sub hl [2, 1, 0] rfl)
def fX7_clash_87 (p1 : Int32) (p2 : Int32) (k43 : Tau → Int32 → Int32 → Option (Int32 × Tau)) (τ : Tau) (x_4 : Int32) (z_0 : Int32) : Option (Int32 × Tau) :=
 nm (x_4 + (-1 : Int32)) (fun x19 =>
     k43 τ z_0 x19)
def fX7_clash_86 (p1 : Int32) (p2 : Int32) (k43 : Tau → Int32 → Int32 → Option (Int32 × Tau)) (τ : Tau) (x_3 : Int32) (x_4 : Int32) : Option (Int32 × Tau) :=
 fX7_clash_87 p1 p2 k43 τ x_4 x_3
def fX7_clash_43 (p1 : Int32) (p2 : Int32) : Nat → Tau → Int32 → Int32 → Option (Int32 × Tau)
  | 0, _, _, _ => none
  | n + 1, τ, x_3, x_4 =>
     (if x_4 < 0 then
     (if p2 = 0 then
     Option.bind (fX7_ones x_3) (fun r11 =>
     some (r11, τ))
     else
     some (x_3, τ))
     else
     nm (fX7_isIn x_4 p1) (fun r12 =>
     (if bI r12 = 0 then
     fX7_clash_86 p1 p2 (fX7_clash_43 p1 p2 n) τ x_3 x_4
     else
     Option.bind (fX7_ones x_4) (fun r14 =>
     Option.bind (fX7_ones x_3) (fun r15 =>
     (if r15 < r14 then
     fX7_clash_86 p1 p2 (fX7_clash_43 p1 p2 n) τ x_3 x_4
     else
     Option.bind (fX7_firstOf τ x_4 (-1 : Int32)) (fun r17 =>
     (if r17 = (-9 : Int32) then
     fX7_clash_87 p1 p2 (fX7_clash_43 p1 p2 n) τ x_4 x_4
     else
     fX7_clash_86 p1 p2 (fX7_clash_43 p1 p2 n) τ x_3 x_4))))))))
def fX7_clash  (τ : Tau) (p1 : Int32) (p2 : Int32) : Option (Int32 × Tau) :=
 nm (sI τ 0 0 (0 : Int32)) (fun t1 =>
 nm (fX7_isSet p1) (fun r2 =>
 (if bI r2 = 0 then
 some ((-1 : Int32), t1)
 else
 nm (fX7_in p2 (0 : Int32) (1 : Int32)) (fun r4 =>
 (if bI r4 = 0 then
 some ((-1 : Int32), t1)
 else
 Option.bind (fX7_loads t1) (fun r6 =>
 Option.bind (fX7_canBe r6 p1) (fun r7 =>
 (if r7 ≤ 0 then
 fX7_clash_43 p1 p2 FU r6 p1 p1
 else
 some ((-9 : Int32), r6)))))))))
set_option maxHeartbeats 4000000 in
set_option maxRecDepth 100000 in
theorem c_X7_clash (l : Launch) (D : va_G) (cA : Nat → ClassId) (st ad : Nat → Nat) (a : Nat)  (τ : Tau) (p1 : Int32) (p2 : Int32) (R : (Int32 × Tau)) (hf : fX7_clash τ p1 p2 = some R) : KE ΛM 12 D cA st ad l yX7_clash cX7_clash 5 (some .int) 5 121 [.ref (adr ad a 0), .int p1, .int p2] a τ (some (.int R.1)) R.2 := by
  refine KE.of "KindSayingsModel" rfl (by decide) (Nat.le_of_ble_eq_true rfl) (fun p e s m args below meth c A ls Rm Q hE hRm hQ hw hl => ?_)
  obtain ⟨hx, hb, hml, hown, hts, -⟩ := id hE
  have hl : lv_has ls 5 [(0, .ref (adr ad a 0)), (1, .int p1), (2, .int p2)] := hl
  have L43 : ∀ (n43 : Nat) (τ : Tau) (x_3 : Int32) (x_4 : Int32) (H : Heap) (locs : List Loc) (ls : Array Slot), fX7_clash_43 p1 p2 n43 τ x_3 x_4 = some R → Wd ΛM 12 D cA ad A s a τ H locs → lv_has ls 5 [(0, .ref (adr ad a 0)), (1, .int p1), (2, .int p2), (3, .int x_3), (4, .int x_4)] → W p l e Rm s m args below meth c H locs 0 0 Q (F0 m 43 ls []) := by
    intro n43
    induction n43 with
    | zero => intro τ x_3 x_4 H locs ls hf hw hl; exact absurd hf (by rw [fX7_clash_43]; simp)
    | succ n43 ih43 =>
      have L87 : ∀ (τ : Tau) (x_4 : Int32) (z_0 : Int32) (H : Heap) (locs : List Loc) (ls : Array Slot), fX7_clash_87 p1 p2 (fX7_clash_43 p1 p2 n43) τ x_4 z_0 = some R → Wd ΛM 12 D cA ad A s a τ H locs → lv_has ls 5 [(0, .ref (adr ad a 0)), (1, .int p1), (2, .int p2), (4, .int x_4)] → W p l e Rm s m args below meth c H locs 0 0 Q (F0 m 87 ls [.int z_0]) := by
        intro τ x_4 z_0 H locs ls hf hw hl
        unfold fX7_clash_87 at hf
        refine lv_istore_n (lv' := [(3, .int z_0), (0, .ref (adr ad a 0)), (1, .int p1), (2, .int p2), (4, .int x_4)]) hx hb dX7_clash_87 rfl hl (by decide) rfl (fun ls hl => ?_)
        obtain ⟨x19, ex19, hf⟩ := ks_nm hf
        refine lv_iinc (v := x19) (lv' := [(4, .int x19), (3, .int z_0), (0, .ref (adr ad a 0)), (1, .int p1), (2, .int p2)]) hx hb dX7_clash_88 hl (k := 4) rfl (by rw [ex19]; rfl) (by decide) rfl (fun ls hl => ?_)
        refine lv_goto (tgt := 43) hx hb dX7_clash_91 (by decide) ?_
        exact ih43 _ _ _ _ _ _ hf hw (lv_sub hl [2, 3, 4, 1, 0] rfl)
      have L86 : ∀ (τ : Tau) (x_3 : Int32) (x_4 : Int32) (H : Heap) (locs : List Loc) (ls : Array Slot), fX7_clash_86 p1 p2 (fX7_clash_43 p1 p2 n43) τ x_3 x_4 = some R → Wd ΛM 12 D cA ad A s a τ H locs → lv_has ls 5 [(0, .ref (adr ad a 0)), (1, .int p1), (2, .int p2), (3, .int x_3), (4, .int x_4)] → W p l e Rm s m args below meth c H locs 0 0 Q (F0 m 86 ls []) := by
        intro τ x_3 x_4 H locs ls hf hw hl
        unfold fX7_clash_86 at hf
        refine lv_iload_n hx hb dX7_clash_86 rfl (lv_at hl 3 rfl) ?_
        exact L87 _ _ _ _ _ _ hf hw (lv_sub hl [0, 1, 2, 4] rfl)
      intro τ x_3 x_4 H locs ls hf hw hl
      rw [fX7_clash_43] at hf
      refine lv_iload hx hb dX7_clash_43 (lv_at hl 4 rfl) ?_
      refine lv_if_lt (tgt := 94) hx hb dX7_clash_45 (by decide) (fun c9 => ?_) (fun c9 => ?_)
      · have hf := (if_pos c9).symm.trans hf
        refine lv_iload_n hx hb dX7_clash_94 rfl (lv_at hl 2 rfl) ?_
        refine lv_if_ne (tgt := 105) hx hb dX7_clash_95 (by decide) (fun c10 => ?_) (fun c10 => ?_)
        · have hf := (if_neg c10).symm.trans hf
          refine lv_iload_n hx hb dX7_clash_105 rfl (lv_at hl 3 rfl) ?_
          replace hf := Option.some.inj hf
          subst hf
          exact ke_iret hE hw hQ dX7_clash_106 rfl rfl
        · have hf := (if_pos c10).symm.trans hf
          refine lv_iload_n hx hb dX7_clash_98 rfl (lv_at hl 3 rfl) ?_
          obtain ⟨r11, er11, hf⟩ := ks_bind hf
          refine ke_S hE hw hl.1 cl_X7_195 [.int x_3] (c_X7_ones l D cA st ad a _ _ _ er11) rfl (ke_room hRm rfl rfl) ke_cnt (Nat.le_of_ble_eq_true rfl) rfl dX7_clash_99 (fun H locs hw => ?_)
          refine W.eq (g2 := F0 m 102 ls (.int r11 :: [])) rfl ?_
          refine lv_goto (tgt := 106) hx hb dX7_clash_102 (by decide) ?_
          replace hf := Option.some.inj hf
          subst hf
          exact ke_iret hE hw hQ dX7_clash_106 rfl rfl
      · have hf := (if_neg c9).symm.trans hf
        refine lv_iload hx hb dX7_clash_48 (lv_at hl 4 rfl) ?_
        refine lv_iload_n hx hb dX7_clash_50 rfl (lv_at hl 1 rfl) ?_
        obtain ⟨r12, er12, hf⟩ := ks_nm hf
        refine ke_S hE hw hl.1 cl_X7_178 [.int x_4, .int p1] (c_X7_isIn l D cA st ad a _ _ _ _ er12.symm) rfl (ke_room hRm rfl rfl) ke_cnt (Nat.le_of_ble_eq_true rfl) rfl dX7_clash_51 (fun H locs hw => ?_)
        refine W.eq (g2 := F0 m 54 ls (.int (bI r12) :: [])) rfl ?_
        refine lv_if_eq (tgt := 86) hx hb dX7_clash_54 (by decide) (fun c13 => ?_) (fun c13 => ?_)
        · have hf := (if_pos c13).symm.trans hf
          exact L86 _ _ _ _ _ _ hf hw (lv_sub hl [0, 1, 2, 3, 4] rfl)
        · have hf := (if_neg c13).symm.trans hf
          refine lv_iload hx hb dX7_clash_57 (lv_at hl 4 rfl) ?_
          obtain ⟨r14, er14, hf⟩ := ks_bind hf
          refine ke_S hE hw hl.1 cl_X7_195 [.int x_4] (c_X7_ones l D cA st ad a _ _ _ er14) rfl (ke_room hRm rfl rfl) ke_cnt (Nat.le_of_ble_eq_true rfl) rfl dX7_clash_59 (fun H locs hw => ?_)
          refine W.eq (g2 := F0 m 62 ls (.int r14 :: [])) rfl ?_
          refine lv_iload_n hx hb dX7_clash_62 rfl (lv_at hl 3 rfl) ?_
          obtain ⟨r15, er15, hf⟩ := ks_bind hf
          refine ke_S hE hw hl.1 cl_X7_195 [.int x_3] (c_X7_ones l D cA st ad a _ _ _ er15) rfl (ke_room hRm rfl rfl) ke_cnt (Nat.le_of_ble_eq_true rfl) rfl dX7_clash_63 (fun H locs hw => ?_)
          refine W.eq (g2 := F0 m 66 ls (.int r15 :: .int r14 :: [])) rfl ?_
          refine lv_icmp_gt (tgt := 86) hx hb dX7_clash_66 (by decide) (fun c16 => ?_) (fun c16 => ?_)
          · have hf := (if_pos c16).symm.trans hf
            exact L86 _ _ _ _ _ _ hf hw (lv_sub hl [0, 1, 2, 3, 4] rfl)
          · have hf := (if_neg c16).symm.trans hf
            refine lv_aload_n hx hb dX7_clash_69 rfl (lv_at hl 0 rfl) ?_
            refine lv_iload hx hb dX7_clash_70 (lv_at hl 4 rfl) ?_
            refine lv_iconst (v := (-1)) hx hb dX7_clash_72 (by decide) ?_
            obtain ⟨r17, er17, hf⟩ := ks_bind hf
            refine ke_V hE hw hl.1 cl_X7_188 0 ltM_0 lyM_0 rfl [.int x_4, .int (-1 : Int32)] (c_X7_firstOf l D cA st ad a _ _ _ _ er17) rfl (ke_room hRm rfl rfl) ke_cnt (Nat.le_of_ble_eq_true rfl) rfl dX7_clash_73 (fun H locs hw => ?_)
            refine W.eq (g2 := F0 m 76 ls (.int r17 :: [])) rfl ?_
            refine lv_bipush (v := (-9)) hx hb dX7_clash_76 (by decide) ?_
            refine lv_icmp_ne (tgt := 86) hx hb dX7_clash_78 (by decide) (fun c18 => ?_) (fun c18 => ?_)
            · have hf := (if_neg c18).symm.trans hf
              exact L86 _ _ _ _ _ _ hf hw (lv_sub hl [0, 1, 2, 3, 4] rfl)
            · have hf := (if_pos c18).symm.trans hf
              refine lv_iload hx hb dX7_clash_81 (lv_at hl 4 rfl) ?_
              refine lv_goto (tgt := 87) hx hb dX7_clash_83 (by decide) ?_
              exact L87 _ _ _ _ _ _ hf hw (lv_sub hl [0, 1, 2, 4] rfl)
  unfold fX7_clash at hf
  refine lv_aload_n hx hb dX7_clash_0 rfl (lv_at hl 0 rfl) ?_
  refine lv_iconst (v := 0) hx hb dX7_clash_1 (by decide) ?_
  obtain ⟨t1, et1, hf⟩ := ks_nm hf
  refine ks_putI hE hw 0 0 ltM_0 lyM_0 rfl fw_X7_57 rfl rfl dX7_clash_2 (fun H locs hw => ?_)
  rw [← et1] at hw
  refine lv_iload_n hx hb dX7_clash_5 rfl (lv_at hl 1 rfl) ?_
  obtain ⟨r2, er2, hf⟩ := ks_nm hf
  refine ke_S hE hw hl.1 cl_X7_182 [.int p1] (c_X7_isSet l D cA st ad a _ _ _ er2.symm) rfl (ke_room hRm rfl rfl) ke_cnt (Nat.le_of_ble_eq_true rfl) rfl dX7_clash_6 (fun H locs hw => ?_)
  refine W.eq (g2 := F0 m 9 ls (.int (bI r2) :: [])) rfl ?_
  refine lv_if_eq (tgt := 21) hx hb dX7_clash_9 (by decide) (fun c3 => ?_) (fun c3 => ?_)
  · have hf := (if_pos c3).symm.trans hf
    refine lv_iconst (v := (-1)) hx hb dX7_clash_21 (by decide) ?_
    replace hf := Option.some.inj hf
    subst hf
    exact ke_iret hE hw hQ dX7_clash_22 rfl rfl
  · have hf := (if_neg c3).symm.trans hf
    refine lv_iload_n hx hb dX7_clash_12 rfl (lv_at hl 2 rfl) ?_
    refine lv_iconst (v := 0) hx hb dX7_clash_13 (by decide) ?_
    refine lv_iconst (v := 1) hx hb dX7_clash_14 (by decide) ?_
    obtain ⟨r4, er4, hf⟩ := ks_nm hf
    refine ke_S hE hw hl.1 cl_X7_72 [.int p2, .int (0 : Int32), .int (1 : Int32)] (c_X7_in l D cA st ad a _ _ _ _ _ er4.symm) rfl (ke_room hRm rfl rfl) ke_cnt (Nat.le_of_ble_eq_true rfl) rfl dX7_clash_15 (fun H locs hw => ?_)
    refine W.eq (g2 := F0 m 18 ls (.int (bI r4) :: [])) rfl ?_
    refine lv_if_ne (tgt := 23) hx hb dX7_clash_18 (by decide) (fun c5 => ?_) (fun c5 => ?_)
    · have hf := (if_neg c5).symm.trans hf
      refine lv_aload_n hx hb dX7_clash_23 rfl (lv_at hl 0 rfl) ?_
      obtain ⟨r6, er6, hf⟩ := ks_bind hf
      refine ke_V hE hw hl.1 cl_X7_76 0 ltM_0 lyM_0 rfl [] (c_X7_loads l D cA st ad a _ _ er6) rfl (ke_room hRm rfl rfl) ke_cnt (Nat.le_of_ble_eq_true rfl) rfl dX7_clash_24 (fun H locs hw => ?_)
      refine W.eq (g2 := F0 m 27 ls ([])) rfl ?_
      refine lv_aload_n hx hb dX7_clash_27 rfl (lv_at hl 0 rfl) ?_
      refine lv_iload_n hx hb dX7_clash_28 rfl (lv_at hl 1 rfl) ?_
      obtain ⟨r7, er7, hf⟩ := ks_bind hf
      refine ke_V hE hw hl.1 cl_X7_185 0 ltM_0 lyM_0 rfl [.int p1] (c_X7_canBe l D cA st ad a _ _ _ er7) rfl (ke_room hRm rfl rfl) ke_cnt (Nat.le_of_ble_eq_true rfl) rfl dX7_clash_29 (fun H locs hw => ?_)
      refine W.eq (g2 := F0 m 32 ls (.int r7 :: [])) rfl ?_
      refine lv_if_le (tgt := 38) hx hb dX7_clash_32 (by decide) (fun c8 => ?_) (fun c8 => ?_)
      · have hf := (if_pos c8).symm.trans hf
        refine lv_iload_n hx hb dX7_clash_38 rfl (lv_at hl 1 rfl) ?_
        refine lv_istore_n (lv' := [(3, .int p1), (0, .ref (adr ad a 0)), (1, .int p1), (2, .int p2)]) hx hb dX7_clash_39 rfl hl (by decide) rfl (fun ls hl => ?_)
        refine lv_iload_n hx hb dX7_clash_40 rfl (lv_at hl 2 rfl) ?_
        refine lv_istore (lv' := [(4, .int p1), (3, .int p1), (0, .ref (adr ad a 0)), (1, .int p1), (2, .int p2)]) hx hb dX7_clash_41 hl (by decide) rfl (fun ls hl => ?_)
        exact L43 FU _ _ _ _ _ _ hf hw (lv_sub hl [2, 3, 4, 1, 0] rfl)
      · have hf := (if_neg c8).symm.trans hf
        refine lv_bipush (v := (-9)) hx hb dX7_clash_35 (by decide) ?_
        replace hf := Option.some.inj hf
        subst hf
        exact ke_iret hE hw hQ dX7_clash_37 rfl rfl
    · have hf := (if_pos c5).symm.trans hf
      refine lv_iconst (v := (-1)) hx hb dX7_clash_21 (by decide) ?_
      replace hf := Option.some.inj hf
      subst hf
      exact ke_iret hE hw hQ dX7_clash_22 rfl rfl
def fX7_ask_99 (p1 : Int32) (k40 : Tau → Int32 → Int32 → Int32 → Int32 → Option (Int32 × Tau)) (τ : Tau) (x_2 : Int32) (x_3 : Int32) (x_4 : Int32) (x_5 : Int32) : Option (Int32 × Tau) :=
 nm (x_5 + (1 : Int32)) (fun x12 =>
     k40 τ x_2 x_3 x_4 x12)
def fX7_ask_92 (p1 : Int32) (k40 : Tau → Int32 → Int32 → Int32 → Int32 → Option (Int32 × Tau)) (τ : Tau) (x_2 : Int32) (x_5 : Int32) (x_7 : Int32) : Option (Int32 × Tau) :=
 fX7_ask_99 p1 k40 τ x_2 x_5 x_7 x_5
def fX7_ask_77 (p1 : Int32) (k40 : Tau → Int32 → Int32 → Int32 → Int32 → Option (Int32 × Tau)) (τ : Tau) (x_2 : Int32) (x_3 : Int32) (x_4 : Int32) (x_5 : Int32) (z_0 : Int32) : Option (Int32 × Tau) :=
 (if x_3 = (-9 : Int32) then
     fX7_ask_92 p1 k40 τ x_2 x_5 z_0
     else
    (if x_4 ≤ z_0 then
     fX7_ask_99 p1 k40 τ x_2 x_3 x_4 x_5
     else
     fX7_ask_92 p1 k40 τ x_2 x_5 z_0))
def fX7_ask_40 (p1 : Int32) : Nat → Tau → Int32 → Int32 → Int32 → Int32 → Option (Int32 × Tau)
  | 0, _, _, _, _, _ => none
  | n + 1, τ, x_2, x_3, x_4, x_5 =>
     (if (10 : Int32) ≤ x_5 then
     some (x_3, τ)
     else
     Option.bind (fX7_canBe τ (p1 ||| ((1 : Int32) <<< (x_5 &&& 31)))) (fun r8 =>
     (if r8 ≤ (x_2 - r8) then
     fX7_ask_77 p1 (fX7_ask_40 p1 n) τ x_2 x_3 x_4 x_5 (x_2 - r8)
     else
     fX7_ask_77 p1 (fX7_ask_40 p1 n) τ x_2 x_3 x_4 x_5 r8)))
def fX7_ask  (τ : Tau) (p1 : Int32) : Option (Int32 × Tau) :=
 nm (sI τ 0 0 (0 : Int32)) (fun t1 =>
 nm (fX7_isSet p1) (fun r2 =>
 (if bI r2 = 0 then
 some ((-1 : Int32), t1)
 else
 Option.bind (fX7_loads t1) (fun r4 =>
 Option.bind (fX7_canBe r4 p1) (fun r5 =>
 (if r5 = 0 then
 some ((-2 : Int32), r4)
 else
 fX7_ask_40 p1 FU r4 r5 (-9 : Int32) (0 : Int32) (0 : Int32)))))))
set_option maxHeartbeats 4000000 in
set_option maxRecDepth 100000 in
theorem c_X7_ask (l : Launch) (D : va_G) (cA : Nat → ClassId) (st ad : Nat → Nat) (a : Nat)  (τ : Tau) (p1 : Int32) (R : (Int32 × Tau)) (hf : fX7_ask τ p1 = some R) : KE ΛM 12 D cA st ad l yX7_ask cX7_ask 8 (some .int) 5 121 [.ref (adr ad a 0), .int p1] a τ (some (.int R.1)) R.2 := by
  refine KE.of "KindSayingsModel" rfl (by decide) (Nat.le_of_ble_eq_true rfl) (fun p e s m args below meth c A ls Rm Q hE hRm hQ hw hl => ?_)
  obtain ⟨hx, hb, hml, hown, hts, -⟩ := id hE
  have hl : lv_has ls 8 [(0, .ref (adr ad a 0)), (1, .int p1)] := hl
  have L40 : ∀ (n40 : Nat) (τ : Tau) (x_2 : Int32) (x_3 : Int32) (x_4 : Int32) (x_5 : Int32) (H : Heap) (locs : List Loc) (ls : Array Slot), fX7_ask_40 p1 n40 τ x_2 x_3 x_4 x_5 = some R → Wd ΛM 12 D cA ad A s a τ H locs → lv_has ls 8 [(0, .ref (adr ad a 0)), (1, .int p1), (2, .int x_2), (3, .int x_3), (4, .int x_4), (5, .int x_5)] → W p l e Rm s m args below meth c H locs 0 0 Q (F0 m 40 ls []) := by
    intro n40
    induction n40 with
    | zero => intro τ x_2 x_3 x_4 x_5 H locs ls hf hw hl; exact absurd hf (by rw [fX7_ask_40]; simp)
    | succ n40 ih40 =>
      have L99 : ∀ (τ : Tau) (x_2 : Int32) (x_3 : Int32) (x_4 : Int32) (x_5 : Int32) (H : Heap) (locs : List Loc) (ls : Array Slot), fX7_ask_99 p1 (fX7_ask_40 p1 n40) τ x_2 x_3 x_4 x_5 = some R → Wd ΛM 12 D cA ad A s a τ H locs → lv_has ls 8 [(0, .ref (adr ad a 0)), (1, .int p1), (2, .int x_2), (3, .int x_3), (4, .int x_4), (5, .int x_5)] → W p l e Rm s m args below meth c H locs 0 0 Q (F0 m 99 ls []) := by
        intro τ x_2 x_3 x_4 x_5 H locs ls hf hw hl
        unfold fX7_ask_99 at hf
        obtain ⟨x12, ex12, hf⟩ := ks_nm hf
        refine lv_iinc (v := x12) (lv' := [(5, .int x12), (0, .ref (adr ad a 0)), (1, .int p1), (2, .int x_2), (3, .int x_3), (4, .int x_4)]) hx hb dX7_ask_99 hl (k := 5) rfl (by rw [ex12]; rfl) (by decide) rfl (fun ls hl => ?_)
        refine lv_goto (tgt := 40) hx hb dX7_ask_102 (by decide) ?_
        exact ih40 _ _ _ _ _ _ _ _ hf hw (lv_sub hl [1, 2, 3, 4, 5, 0] rfl)
      have L92 : ∀ (τ : Tau) (x_2 : Int32) (x_5 : Int32) (x_7 : Int32) (H : Heap) (locs : List Loc) (ls : Array Slot), fX7_ask_92 p1 (fX7_ask_40 p1 n40) τ x_2 x_5 x_7 = some R → Wd ΛM 12 D cA ad A s a τ H locs → lv_has ls 8 [(0, .ref (adr ad a 0)), (1, .int p1), (2, .int x_2), (5, .int x_5), (7, .int x_7)] → W p l e Rm s m args below meth c H locs 0 0 Q (F0 m 92 ls []) := by
        intro τ x_2 x_5 x_7 H locs ls hf hw hl
        unfold fX7_ask_92 at hf
        refine lv_iload hx hb dX7_ask_92 (lv_at hl 3 rfl) ?_
        refine lv_istore_n (lv' := [(3, .int x_5), (0, .ref (adr ad a 0)), (1, .int p1), (2, .int x_2), (5, .int x_5), (7, .int x_7)]) hx hb dX7_ask_94 rfl hl (by decide) rfl (fun ls hl => ?_)
        refine lv_iload hx hb dX7_ask_95 (lv_at hl 5 rfl) ?_
        refine lv_istore (lv' := [(4, .int x_7), (3, .int x_5), (0, .ref (adr ad a 0)), (1, .int p1), (2, .int x_2), (5, .int x_5), (7, .int x_7)]) hx hb dX7_ask_97 hl (by decide) rfl (fun ls hl => ?_)
        exact L99 _ _ _ _ _ _ _ _ hf hw (lv_sub hl [2, 3, 4, 1, 0, 5] rfl)
      have L77 : ∀ (τ : Tau) (x_2 : Int32) (x_3 : Int32) (x_4 : Int32) (x_5 : Int32) (z_0 : Int32) (H : Heap) (locs : List Loc) (ls : Array Slot), fX7_ask_77 p1 (fX7_ask_40 p1 n40) τ x_2 x_3 x_4 x_5 z_0 = some R → Wd ΛM 12 D cA ad A s a τ H locs → lv_has ls 8 [(0, .ref (adr ad a 0)), (1, .int p1), (2, .int x_2), (3, .int x_3), (4, .int x_4), (5, .int x_5)] → W p l e Rm s m args below meth c H locs 0 0 Q (F0 m 77 ls [.int z_0]) := by
        intro τ x_2 x_3 x_4 x_5 z_0 H locs ls hf hw hl
        unfold fX7_ask_77 at hf
        refine lv_istore (lv' := [(7, .int z_0), (0, .ref (adr ad a 0)), (1, .int p1), (2, .int x_2), (3, .int x_3), (4, .int x_4), (5, .int x_5)]) hx hb dX7_ask_77 hl (by decide) rfl (fun ls hl => ?_)
        refine lv_iload_n hx hb dX7_ask_79 rfl (lv_at hl 4 rfl) ?_
        refine lv_bipush (v := (-9)) hx hb dX7_ask_80 (by decide) ?_
        refine lv_icmp_eq (tgt := 92) hx hb dX7_ask_82 (by decide) (fun c10 => ?_) (fun c10 => ?_)
        · have hf := (if_pos c10).symm.trans hf
          exact L92 _ _ _ _ _ _ _ hf hw (lv_sub hl [1, 2, 3, 6, 0] rfl)
        · have hf := (if_neg c10).symm.trans hf
          refine lv_iload hx hb dX7_ask_85 (lv_at hl 0 rfl) ?_
          refine lv_iload hx hb dX7_ask_87 (lv_at hl 5 rfl) ?_
          refine lv_icmp_ge (tgt := 99) hx hb dX7_ask_89 (by decide) (fun c11 => ?_) (fun c11 => ?_)
          · have hf := (if_pos c11).symm.trans hf
            exact L99 _ _ _ _ _ _ _ _ hf hw (lv_sub hl [1, 2, 3, 4, 5, 6] rfl)
          · have hf := (if_neg c11).symm.trans hf
            exact L92 _ _ _ _ _ _ _ hf hw (lv_sub hl [1, 2, 3, 6, 0] rfl)
      intro τ x_2 x_3 x_4 x_5 H locs ls hf hw hl
      rw [fX7_ask_40] at hf
      refine lv_iload hx hb dX7_ask_40 (lv_at hl 5 rfl) ?_
      refine lv_bipush (v := 10) hx hb dX7_ask_42 (by decide) ?_
      refine lv_icmp_ge (tgt := 105) hx hb dX7_ask_44 (by decide) (fun c7 => ?_) (fun c7 => ?_)
      · have hf := (if_pos c7).symm.trans hf
        refine lv_iload_n hx hb dX7_ask_105 rfl (lv_at hl 3 rfl) ?_
        replace hf := Option.some.inj hf
        subst hf
        exact ke_iret hE hw hQ dX7_ask_106 rfl rfl
      · have hf := (if_neg c7).symm.trans hf
        refine lv_aload_n hx hb dX7_ask_47 rfl (lv_at hl 0 rfl) ?_
        refine lv_iload_n hx hb dX7_ask_48 rfl (lv_at hl 1 rfl) ?_
        refine lv_iconst (v := 1) hx hb dX7_ask_49 (by decide) ?_
        refine lv_iload hx hb dX7_ask_50 (lv_at hl 5 rfl) ?_
        refine lv_ishl hx hb dX7_ask_52 ?_
        refine lv_ior hx hb dX7_ask_53 ?_
        obtain ⟨r8, er8, hf⟩ := ks_bind hf
        refine ke_V hE hw hl.1 cl_X7_185 0 ltM_0 lyM_0 rfl [.int (p1 ||| ((1 : Int32) <<< (x_5 &&& 31)))] (c_X7_canBe l D cA st ad a _ _ _ er8) rfl (ke_room hRm rfl rfl) ke_cnt (Nat.le_of_ble_eq_true rfl) rfl dX7_ask_54 (fun H locs hw => ?_)
        refine W.eq (g2 := F0 m 57 ls (.int r8 :: [])) rfl ?_
        refine lv_istore (lv' := [(6, .int r8), (0, .ref (adr ad a 0)), (1, .int p1), (2, .int x_2), (3, .int x_3), (4, .int x_4), (5, .int x_5)]) hx hb dX7_ask_57 hl (by decide) rfl (fun ls hl => ?_)
        refine lv_iload hx hb dX7_ask_59 (lv_at hl 0 rfl) ?_
        refine lv_iload_n hx hb dX7_ask_61 rfl (lv_at hl 3 rfl) ?_
        refine lv_iload hx hb dX7_ask_62 (lv_at hl 0 rfl) ?_
        refine lv_isub hx hb dX7_ask_64 ?_
        refine lv_icmp_le (tgt := 73) hx hb dX7_ask_65 (by decide) (fun c9 => ?_) (fun c9 => ?_)
        · have hf := (if_pos c9).symm.trans hf
          refine lv_iload_n hx hb dX7_ask_73 rfl (lv_at hl 3 rfl) ?_
          refine lv_iload hx hb dX7_ask_74 (lv_at hl 0 rfl) ?_
          refine lv_isub hx hb dX7_ask_76 ?_
          exact L77 _ _ _ _ _ _ _ _ _ hf hw (lv_sub hl [1, 2, 3, 4, 5, 6] rfl)
        · have hf := (if_neg c9).symm.trans hf
          refine lv_iload hx hb dX7_ask_68 (lv_at hl 0 rfl) ?_
          refine lv_goto (tgt := 77) hx hb dX7_ask_70 (by decide) ?_
          exact L77 _ _ _ _ _ _ _ _ _ hf hw (lv_sub hl [1, 2, 3, 4, 5, 6] rfl)
  unfold fX7_ask at hf
  refine lv_aload_n hx hb dX7_ask_0 rfl (lv_at hl 0 rfl) ?_
  refine lv_iconst (v := 0) hx hb dX7_ask_1 (by decide) ?_
  obtain ⟨t1, et1, hf⟩ := ks_nm hf
  refine ks_putI hE hw 0 0 ltM_0 lyM_0 rfl fw_X7_57 rfl rfl dX7_ask_2 (fun H locs hw => ?_)
  rw [← et1] at hw
  refine lv_iload_n hx hb dX7_ask_5 rfl (lv_at hl 1 rfl) ?_
  obtain ⟨r2, er2, hf⟩ := ks_nm hf
  refine ke_S hE hw hl.1 cl_X7_182 [.int p1] (c_X7_isSet l D cA st ad a _ _ _ er2.symm) rfl (ke_room hRm rfl rfl) ke_cnt (Nat.le_of_ble_eq_true rfl) rfl dX7_ask_6 (fun H locs hw => ?_)
  refine W.eq (g2 := F0 m 9 ls (.int (bI r2) :: [])) rfl ?_
  refine lv_if_ne (tgt := 14) hx hb dX7_ask_9 (by decide) (fun c3 => ?_) (fun c3 => ?_)
  · have hf := (if_neg c3).symm.trans hf
    refine lv_aload_n hx hb dX7_ask_14 rfl (lv_at hl 0 rfl) ?_
    obtain ⟨r4, er4, hf⟩ := ks_bind hf
    refine ke_V hE hw hl.1 cl_X7_76 0 ltM_0 lyM_0 rfl [] (c_X7_loads l D cA st ad a _ _ er4) rfl (ke_room hRm rfl rfl) ke_cnt (Nat.le_of_ble_eq_true rfl) rfl dX7_ask_15 (fun H locs hw => ?_)
    refine W.eq (g2 := F0 m 18 ls ([])) rfl ?_
    refine lv_aload_n hx hb dX7_ask_18 rfl (lv_at hl 0 rfl) ?_
    refine lv_iload_n hx hb dX7_ask_19 rfl (lv_at hl 1 rfl) ?_
    obtain ⟨r5, er5, hf⟩ := ks_bind hf
    refine ke_V hE hw hl.1 cl_X7_185 0 ltM_0 lyM_0 rfl [.int p1] (c_X7_canBe l D cA st ad a _ _ _ er5) rfl (ke_room hRm rfl rfl) ke_cnt (Nat.le_of_ble_eq_true rfl) rfl dX7_ask_20 (fun H locs hw => ?_)
    refine W.eq (g2 := F0 m 23 ls (.int r5 :: [])) rfl ?_
    refine lv_istore_n (lv' := [(2, .int r5), (0, .ref (adr ad a 0)), (1, .int p1)]) hx hb dX7_ask_23 rfl hl (by decide) rfl (fun ls hl => ?_)
    refine lv_iload_n hx hb dX7_ask_24 rfl (lv_at hl 0 rfl) ?_
    refine lv_if_ne (tgt := 31) hx hb dX7_ask_25 (by decide) (fun c6 => ?_) (fun c6 => ?_)
    · have hf := (if_neg c6).symm.trans hf
      refine lv_bipush (v := (-9)) hx hb dX7_ask_31 (by decide) ?_
      refine lv_istore_n (lv' := [(3, .int (-9 : Int32)), (2, .int r5), (0, .ref (adr ad a 0)), (1, .int p1)]) hx hb dX7_ask_33 rfl hl (by decide) rfl (fun ls hl => ?_)
      refine lv_iconst (v := 0) hx hb dX7_ask_34 (by decide) ?_
      refine lv_istore (lv' := [(4, .int (0 : Int32)), (3, .int (-9 : Int32)), (2, .int r5), (0, .ref (adr ad a 0)), (1, .int p1)]) hx hb dX7_ask_35 hl (by decide) rfl (fun ls hl => ?_)
      refine lv_iconst (v := 0) hx hb dX7_ask_37 (by decide) ?_
      refine lv_istore (lv' := [(5, .int (0 : Int32)), (4, .int (0 : Int32)), (3, .int (-9 : Int32)), (2, .int r5), (0, .ref (adr ad a 0)), (1, .int p1)]) hx hb dX7_ask_38 hl (by decide) rfl (fun ls hl => ?_)
      exact L40 FU _ _ _ _ _ _ _ _ hf hw (lv_sub hl [4, 5, 3, 2, 1, 0] rfl)
    · have hf := (if_pos c6).symm.trans hf
      refine lv_bipush (v := (-2)) hx hb dX7_ask_28 (by decide) ?_
      replace hf := Option.some.inj hf
      subst hf
      exact ke_iret hE hw hQ dX7_ask_30 rfl rfl
  · have hf := (if_pos c3).symm.trans hf
    refine lv_iconst (v := (-1)) hx hb dX7_ask_12 (by decide) ?_
    replace hf := Option.some.inj hf
    subst hf
    exact ke_iret hE hw hQ dX7_ask_13 rfl rfl
def fX7_heaps_52 (p1 : Int32) (k22 : Tau → Int32 → Int32 → Option (Int32 × Tau)) (τ : Tau) (x_3 : Int32) (z_0 : Int32) (z_1 : Int32) : Option (Int32 × Tau) :=
 nm (z_1 + z_0) (fun x10 =>
     nm (x_3 + (1 : Int32)) (fun x11 =>
     k22 τ x10 x11))
def fX7_heaps_51 (p1 : Int32) (k22 : Tau → Int32 → Int32 → Option (Int32 × Tau)) (τ : Tau) (x_3 : Int32) (z_0 : Int32) : Option (Int32 × Tau) :=
 fX7_heaps_52 p1 k22 τ x_3 (0 : Int32) z_0
def fX7_heaps_22 (p1 : Int32) : Nat → Tau → Int32 → Int32 → Option (Int32 × Tau)
  | 0, _, _, _ => none
  | n + 1, τ, x_2, x_3 =>
     (if (1024 : Int32) ≤ x_3 then
     some (x_2, τ)
     else
     (if x_3 < 0 ∨ 1024 ≤ x_3.toNatClampNeg then none else
     (if tA τ 7 x_3.toNatClampNeg ≤ 0 then
     fX7_heaps_51 p1 (fX7_heaps_22 p1 n) τ x_3 x_2
     else
     nm (fX7_isIn p1 x_3) (fun r8 =>
     (if bI r8 = 0 then
     fX7_heaps_51 p1 (fX7_heaps_22 p1 n) τ x_3 x_2
     else
     fX7_heaps_52 p1 (fX7_heaps_22 p1 n) τ x_3 (1 : Int32) x_2)))))
def fX7_heaps  (τ : Tau) (p1 : Int32) : Option (Int32 × Tau) :=
 nm (sI τ 0 0 (0 : Int32)) (fun t1 =>
 nm (fX7_isSet p1) (fun r2 =>
 (if bI r2 = 0 then
 some ((-1 : Int32), t1)
 else
 Option.bind (fX7_loads t1) (fun r4 =>
 fX7_heaps_22 p1 FU r4 (0 : Int32) (0 : Int32)))))
set_option maxHeartbeats 4000000 in
set_option maxRecDepth 100000 in
theorem c_X7_heaps (l : Launch) (D : va_G) (cA : Nat → ClassId) (st ad : Nat → Nat) (a : Nat)  (τ : Tau) (p1 : Int32) (R : (Int32 × Tau)) (hf : fX7_heaps τ p1 = some R) : KE ΛM 12 D cA st ad l yX7_heaps cX7_heaps 4 (some .int) 5 121 [.ref (adr ad a 0), .int p1] a τ (some (.int R.1)) R.2 := by
  refine KE.of "KindSayingsModel" rfl (by decide) (Nat.le_of_ble_eq_true rfl) (fun p e s m args below meth c A ls Rm Q hE hRm hQ hw hl => ?_)
  obtain ⟨hx, hb, hml, hown, hts, -⟩ := id hE
  have hl : lv_has ls 4 [(0, .ref (adr ad a 0)), (1, .int p1)] := hl
  have L22 : ∀ (n22 : Nat) (τ : Tau) (x_2 : Int32) (x_3 : Int32) (H : Heap) (locs : List Loc) (ls : Array Slot), fX7_heaps_22 p1 n22 τ x_2 x_3 = some R → Wd ΛM 12 D cA ad A s a τ H locs → lv_has ls 4 [(0, .ref (adr ad a 0)), (1, .int p1), (2, .int x_2), (3, .int x_3)] → W p l e Rm s m args below meth c H locs 0 0 Q (F0 m 22 ls []) := by
    intro n22
    induction n22 with
    | zero => intro τ x_2 x_3 H locs ls hf hw hl; exact absurd hf (by rw [fX7_heaps_22]; simp)
    | succ n22 ih22 =>
      have L52 : ∀ (τ : Tau) (x_3 : Int32) (z_0 : Int32) (z_1 : Int32) (H : Heap) (locs : List Loc) (ls : Array Slot), fX7_heaps_52 p1 (fX7_heaps_22 p1 n22) τ x_3 z_0 z_1 = some R → Wd ΛM 12 D cA ad A s a τ H locs → lv_has ls 4 [(0, .ref (adr ad a 0)), (1, .int p1), (3, .int x_3)] → W p l e Rm s m args below meth c H locs 0 0 Q (F0 m 52 ls [.int z_0, .int z_1]) := by
        intro τ x_3 z_0 z_1 H locs ls hf hw hl
        unfold fX7_heaps_52 at hf
        refine lv_iadd hx hb dX7_heaps_52 ?_
        obtain ⟨x10, ex10, hf⟩ := ks_nm hf
        refine W.eq (g2 := F0 m 53 ls (.int x10 :: [])) (by rw [ex10]) ?_
        refine lv_istore_n (lv' := [(2, .int x10), (0, .ref (adr ad a 0)), (1, .int p1), (3, .int x_3)]) hx hb dX7_heaps_53 rfl hl (by decide) rfl (fun ls hl => ?_)
        obtain ⟨x11, ex11, hf⟩ := ks_nm hf
        refine lv_iinc (v := x11) (lv' := [(3, .int x11), (2, .int x10), (0, .ref (adr ad a 0)), (1, .int p1)]) hx hb dX7_heaps_54 hl (k := 3) rfl (by rw [ex11]; rfl) (by decide) rfl (fun ls hl => ?_)
        refine lv_goto (tgt := 22) hx hb dX7_heaps_57 (by decide) ?_
        exact ih22 _ _ _ _ _ _ hf hw (lv_sub hl [2, 3, 1, 0] rfl)
      have L51 : ∀ (τ : Tau) (x_3 : Int32) (z_0 : Int32) (H : Heap) (locs : List Loc) (ls : Array Slot), fX7_heaps_51 p1 (fX7_heaps_22 p1 n22) τ x_3 z_0 = some R → Wd ΛM 12 D cA ad A s a τ H locs → lv_has ls 4 [(0, .ref (adr ad a 0)), (1, .int p1), (3, .int x_3)] → W p l e Rm s m args below meth c H locs 0 0 Q (F0 m 51 ls [.int z_0]) := by
        intro τ x_3 z_0 H locs ls hf hw hl
        unfold fX7_heaps_51 at hf
        refine lv_iconst (v := 0) hx hb dX7_heaps_51 (by decide) ?_
        exact L52 _ _ _ _ _ _ _ hf hw (lv_sub hl [0, 1, 2] rfl)
      intro τ x_2 x_3 H locs ls hf hw hl
      rw [fX7_heaps_22] at hf
      refine lv_iload_n hx hb dX7_heaps_22 rfl (lv_at hl 3 rfl) ?_
      refine lv_sipush (v := 1024) hx hb dX7_heaps_23 (by decide) ?_
      refine lv_icmp_ge (tgt := 60) hx hb dX7_heaps_26 (by decide) (fun c5 => ?_) (fun c5 => ?_)
      · have hf := (if_pos c5).symm.trans hf
        refine lv_iload_n hx hb dX7_heaps_60 rfl (lv_at hl 2 rfl) ?_
        replace hf := Option.some.inj hf
        subst hf
        exact ke_iret hE hw hQ dX7_heaps_61 rfl rfl
      · have hf := (if_neg c5).symm.trans hf
        refine lv_iload_n hx hb dX7_heaps_29 rfl (lv_at hl 2 rfl) ?_
        refine lv_aload_n hx hb dX7_heaps_30 rfl (lv_at hl 0 rfl) ?_
        refine ks_getR hE hw 0 20 ltM_0 lyM_0 rfl fd_X7_38 dX7_heaps_31 ?_
        refine lv_iload_n hx hb dX7_heaps_34 rfl (lv_at hl 3 rfl) ?_
        obtain ⟨b6, hf⟩ := ks_ok hf
        refine ks_iald hE hw 7 ltM_7 lyM_7 b6 dX7_heaps_35 ?_
        refine lv_if_le (tgt := 51) hx hb dX7_heaps_36 (by decide) (fun c7 => ?_) (fun c7 => ?_)
        · have hf := (if_pos c7).symm.trans hf
          exact L51 _ _ _ _ _ _ hf hw (lv_sub hl [0, 1, 3] rfl)
        · have hf := (if_neg c7).symm.trans hf
          refine lv_iload_n hx hb dX7_heaps_39 rfl (lv_at hl 1 rfl) ?_
          refine lv_iload_n hx hb dX7_heaps_40 rfl (lv_at hl 3 rfl) ?_
          obtain ⟨r8, er8, hf⟩ := ks_nm hf
          refine ke_S hE hw hl.1 cl_X7_178 [.int p1, .int x_3] (c_X7_isIn l D cA st ad a _ _ _ _ er8.symm) rfl (ke_room hRm rfl rfl) ke_cnt (Nat.le_of_ble_eq_true rfl) rfl dX7_heaps_41 (fun H locs hw => ?_)
          refine W.eq (g2 := F0 m 44 ls (.int (bI r8) :: .int x_2 :: [])) rfl ?_
          refine lv_if_eq (tgt := 51) hx hb dX7_heaps_44 (by decide) (fun c9 => ?_) (fun c9 => ?_)
          · have hf := (if_pos c9).symm.trans hf
            exact L51 _ _ _ _ _ _ hf hw (lv_sub hl [0, 1, 3] rfl)
          · have hf := (if_neg c9).symm.trans hf
            refine lv_iconst (v := 1) hx hb dX7_heaps_47 (by decide) ?_
            refine lv_goto (tgt := 52) hx hb dX7_heaps_48 (by decide) ?_
            exact L52 _ _ _ _ _ _ _ hf hw (lv_sub hl [0, 1, 3] rfl)
  unfold fX7_heaps at hf
  refine lv_aload_n hx hb dX7_heaps_0 rfl (lv_at hl 0 rfl) ?_
  refine lv_iconst (v := 0) hx hb dX7_heaps_1 (by decide) ?_
  obtain ⟨t1, et1, hf⟩ := ks_nm hf
  refine ks_putI hE hw 0 0 ltM_0 lyM_0 rfl fw_X7_57 rfl rfl dX7_heaps_2 (fun H locs hw => ?_)
  rw [← et1] at hw
  refine lv_iload_n hx hb dX7_heaps_5 rfl (lv_at hl 1 rfl) ?_
  obtain ⟨r2, er2, hf⟩ := ks_nm hf
  refine ke_S hE hw hl.1 cl_X7_182 [.int p1] (c_X7_isSet l D cA st ad a _ _ _ er2.symm) rfl (ke_room hRm rfl rfl) ke_cnt (Nat.le_of_ble_eq_true rfl) rfl dX7_heaps_6 (fun H locs hw => ?_)
  refine W.eq (g2 := F0 m 9 ls (.int (bI r2) :: [])) rfl ?_
  refine lv_if_ne (tgt := 14) hx hb dX7_heaps_9 (by decide) (fun c3 => ?_) (fun c3 => ?_)
  · have hf := (if_neg c3).symm.trans hf
    refine lv_aload_n hx hb dX7_heaps_14 rfl (lv_at hl 0 rfl) ?_
    obtain ⟨r4, er4, hf⟩ := ks_bind hf
    refine ke_V hE hw hl.1 cl_X7_76 0 ltM_0 lyM_0 rfl [] (c_X7_loads l D cA st ad a _ _ er4) rfl (ke_room hRm rfl rfl) ke_cnt (Nat.le_of_ble_eq_true rfl) rfl dX7_heaps_15 (fun H locs hw => ?_)
    refine W.eq (g2 := F0 m 18 ls ([])) rfl ?_
    refine lv_iconst (v := 0) hx hb dX7_heaps_18 (by decide) ?_
    refine lv_istore_n (lv' := [(2, .int (0 : Int32)), (0, .ref (adr ad a 0)), (1, .int p1)]) hx hb dX7_heaps_19 rfl hl (by decide) rfl (fun ls hl => ?_)
    refine lv_iconst (v := 0) hx hb dX7_heaps_20 (by decide) ?_
    refine lv_istore_n (lv' := [(3, .int (0 : Int32)), (2, .int (0 : Int32)), (0, .ref (adr ad a 0)), (1, .int p1)]) hx hb dX7_heaps_21 rfl hl (by decide) rfl (fun ls hl => ?_)
    exact L22 FU _ _ _ _ _ _ hf hw (lv_sub hl [2, 3, 1, 0] rfl)
  · have hf := (if_pos c3).symm.trans hf
    refine lv_iconst (v := (-1)) hx hb dX7_heaps_12 (by decide) ?_
    replace hf := Option.some.inj hf
    subst hf
    exact ke_iret hE hw hQ dX7_heaps_13 rfl rfl
def fX7_twin_89 (p1 : Int32) (k20 : Tau → Int32 → Option (Int32 × Tau)) (τ : Tau) (x_2 : Int32) (x_3 : Int32) : Option (Int32 × Tau) :=
 (if x_3 = 0 then
     nm (x_2 + (1 : Int32)) (fun x14 =>
     k20 τ x14)
     else
     some (x_2, τ))
def fX7_twin_82 (p1 : Int32) (k20 : Tau → Int32 → Option (Int32 × Tau)) (k40 : Tau → Int32 → Int32 → Int32 → Option (Int32 × Tau)) (τ : Tau) (x_2 : Int32) (x_4 : Int32) (z_0 : Int32) : Option (Int32 × Tau) :=
 nm (x_4 + (1 : Int32)) (fun x12 =>
     k40 τ x_2 z_0 x12)
def fX7_twin_77 (p1 : Int32) (k20 : Tau → Int32 → Option (Int32 × Tau)) (k40 : Tau → Int32 → Int32 → Int32 → Option (Int32 × Tau)) (τ : Tau) (x_2 : Int32) (x_4 : Int32) : Option (Int32 × Tau) :=
 fX7_twin_82 p1 k20 k40 τ x_2 x_4 (1 : Int32)
def fX7_twin_40 (p1 : Int32) (k20 : Tau → Int32 → Option (Int32 × Tau)) : Nat → Tau → Int32 → Int32 → Int32 → Option (Int32 × Tau)
  | 0, _, _, _, _ => none
  | n + 1, τ, x_2, x_3, x_4 =>
     (if (1024 : Int32) ≤ x_4 then
     fX7_twin_89 p1 k20 τ x_2 x_3
     else
     (if x_3 = 0 then
     fX7_twin_89 p1 k20 τ x_2 x_3
     else
     (if x_4 < 0 ∨ 1024 ≤ x_4.toNatClampNeg then none else
     (if tA τ 7 x_4.toNatClampNeg = 0 then
     fX7_twin_77 p1 k20 (fX7_twin_40 p1 k20 n) τ x_2 x_4
     else
     (if ((x_4 >>> (p1 &&& 31)) &&& (1 : Int32)) = ((x_4 >>> (x_2 &&& 31)) &&& (1 : Int32)) then
     fX7_twin_77 p1 k20 (fX7_twin_40 p1 k20 n) τ x_2 x_4
     else
     fX7_twin_82 p1 k20 (fX7_twin_40 p1 k20 n) τ x_2 x_4 (0 : Int32))))))
def fX7_twin_36 (p1 : Int32) (k20 : Tau → Int32 → Option (Int32 × Tau)) (τ : Tau) (x_2 : Int32) (z_0 : Int32) : Option (Int32 × Tau) :=
 fX7_twin_40 p1 k20 FU τ x_2 z_0 (0 : Int32)
def fX7_twin_20 (p1 : Int32) : Nat → Tau → Int32 → Option (Int32 × Tau)
  | 0, _, _ => none
  | n + 1, τ, x_2 =>
     (if (10 : Int32) ≤ x_2 then
     some ((-9 : Int32), τ)
     else
     (if x_2 = p1 then
     fX7_twin_36 p1 (fX7_twin_20 p1 n) τ x_2 (0 : Int32)
     else
     fX7_twin_36 p1 (fX7_twin_20 p1 n) τ x_2 (1 : Int32)))
def fX7_twin  (τ : Tau) (p1 : Int32) : Option (Int32 × Tau) :=
 nm (sI τ 0 0 (0 : Int32)) (fun t1 =>
 nm (fX7_isSaying p1) (fun r2 =>
 (if bI r2 = 0 then
 some ((-1 : Int32), t1)
 else
 Option.bind (fX7_loads t1) (fun r4 =>
 fX7_twin_20 p1 FU r4 (0 : Int32)))))
set_option maxHeartbeats 4000000 in
set_option maxRecDepth 100000 in
theorem c_X7_twin (l : Launch) (D : va_G) (cA : Nat → ClassId) (st ad : Nat → Nat) (a : Nat)  (τ : Tau) (p1 : Int32) (R : (Int32 × Tau)) (hf : fX7_twin τ p1 = some R) : KE ΛM 12 D cA st ad l yX7_twin cX7_twin 5 (some .int) 5 121 [.ref (adr ad a 0), .int p1] a τ (some (.int R.1)) R.2 := by
  refine KE.of "KindSayingsModel" rfl (by decide) (Nat.le_of_ble_eq_true rfl) (fun p e s m args below meth c A ls Rm Q hE hRm hQ hw hl => ?_)
  obtain ⟨hx, hb, hml, hown, hts, -⟩ := id hE
  have hl : lv_has ls 5 [(0, .ref (adr ad a 0)), (1, .int p1)] := hl
  have L20 : ∀ (n20 : Nat) (τ : Tau) (x_2 : Int32) (H : Heap) (locs : List Loc) (ls : Array Slot), fX7_twin_20 p1 n20 τ x_2 = some R → Wd ΛM 12 D cA ad A s a τ H locs → lv_has ls 5 [(0, .ref (adr ad a 0)), (1, .int p1), (2, .int x_2)] → W p l e Rm s m args below meth c H locs 0 0 Q (F0 m 20 ls []) := by
    intro n20
    induction n20 with
    | zero => intro τ x_2 H locs ls hf hw hl; exact absurd hf (by rw [fX7_twin_20]; simp)
    | succ n20 ih20 =>
      have L89 : ∀ (τ : Tau) (x_2 : Int32) (x_3 : Int32) (H : Heap) (locs : List Loc) (ls : Array Slot), fX7_twin_89 p1 (fX7_twin_20 p1 n20) τ x_2 x_3 = some R → Wd ΛM 12 D cA ad A s a τ H locs → lv_has ls 5 [(0, .ref (adr ad a 0)), (1, .int p1), (2, .int x_2), (3, .int x_3)] → W p l e Rm s m args below meth c H locs 0 0 Q (F0 m 89 ls []) := by
        intro τ x_2 x_3 H locs ls hf hw hl
        unfold fX7_twin_89 at hf
        refine lv_iload_n hx hb dX7_twin_89 rfl (lv_at hl 3 rfl) ?_
        refine lv_if_eq (tgt := 95) hx hb dX7_twin_90 (by decide) (fun c13 => ?_) (fun c13 => ?_)
        · have hf := (if_pos c13).symm.trans hf
          obtain ⟨x14, ex14, hf⟩ := ks_nm hf
          refine lv_iinc (v := x14) (lv' := [(2, .int x14), (0, .ref (adr ad a 0)), (1, .int p1), (3, .int x_3)]) hx hb dX7_twin_95 hl (k := 2) rfl (by rw [ex14]; rfl) (by decide) rfl (fun ls hl => ?_)
          refine lv_goto (tgt := 20) hx hb dX7_twin_98 (by decide) ?_
          exact ih20 _ _ _ _ _ hf hw (lv_sub hl [1, 2, 0] rfl)
        · have hf := (if_neg c13).symm.trans hf
          refine lv_iload_n hx hb dX7_twin_93 rfl (lv_at hl 2 rfl) ?_
          replace hf := Option.some.inj hf
          subst hf
          exact ke_iret hE hw hQ dX7_twin_94 rfl rfl
      have L40 : ∀ (n40 : Nat) (τ : Tau) (x_2 : Int32) (x_3 : Int32) (x_4 : Int32) (H : Heap) (locs : List Loc) (ls : Array Slot), fX7_twin_40 p1 (fX7_twin_20 p1 n20) n40 τ x_2 x_3 x_4 = some R → Wd ΛM 12 D cA ad A s a τ H locs → lv_has ls 5 [(0, .ref (adr ad a 0)), (1, .int p1), (2, .int x_2), (3, .int x_3), (4, .int x_4)] → W p l e Rm s m args below meth c H locs 0 0 Q (F0 m 40 ls []) := by
        intro n40
        induction n40 with
        | zero => intro τ x_2 x_3 x_4 H locs ls hf hw hl; exact absurd hf (by rw [fX7_twin_40]; simp)
        | succ n40 ih40 =>
          have L82 : ∀ (τ : Tau) (x_2 : Int32) (x_4 : Int32) (z_0 : Int32) (H : Heap) (locs : List Loc) (ls : Array Slot), fX7_twin_82 p1 (fX7_twin_20 p1 n20) (fX7_twin_40 p1 (fX7_twin_20 p1 n20) n40) τ x_2 x_4 z_0 = some R → Wd ΛM 12 D cA ad A s a τ H locs → lv_has ls 5 [(0, .ref (adr ad a 0)), (1, .int p1), (2, .int x_2), (4, .int x_4)] → W p l e Rm s m args below meth c H locs 0 0 Q (F0 m 82 ls [.int z_0]) := by
            intro τ x_2 x_4 z_0 H locs ls hf hw hl
            unfold fX7_twin_82 at hf
            refine lv_istore_n (lv' := [(3, .int z_0), (0, .ref (adr ad a 0)), (1, .int p1), (2, .int x_2), (4, .int x_4)]) hx hb dX7_twin_82 rfl hl (by decide) rfl (fun ls hl => ?_)
            obtain ⟨x12, ex12, hf⟩ := ks_nm hf
            refine lv_iinc (v := x12) (lv' := [(4, .int x12), (3, .int z_0), (0, .ref (adr ad a 0)), (1, .int p1), (2, .int x_2)]) hx hb dX7_twin_83 hl (k := 4) rfl (by rw [ex12]; rfl) (by decide) rfl (fun ls hl => ?_)
            refine lv_goto (tgt := 40) hx hb dX7_twin_86 (by decide) ?_
            exact ih40 _ _ _ _ _ _ _ hf hw (lv_sub hl [2, 3, 4, 1, 0] rfl)
          have L77 : ∀ (τ : Tau) (x_2 : Int32) (x_4 : Int32) (H : Heap) (locs : List Loc) (ls : Array Slot), fX7_twin_77 p1 (fX7_twin_20 p1 n20) (fX7_twin_40 p1 (fX7_twin_20 p1 n20) n40) τ x_2 x_4 = some R → Wd ΛM 12 D cA ad A s a τ H locs → lv_has ls 5 [(0, .ref (adr ad a 0)), (1, .int p1), (2, .int x_2), (4, .int x_4)] → W p l e Rm s m args below meth c H locs 0 0 Q (F0 m 77 ls []) := by
            intro τ x_2 x_4 H locs ls hf hw hl
            unfold fX7_twin_77 at hf
            refine lv_iconst (v := 1) hx hb dX7_twin_77 (by decide) ?_
            refine lv_goto (tgt := 82) hx hb dX7_twin_78 (by decide) ?_
            exact L82 _ _ _ _ _ _ _ hf hw (lv_sub hl [0, 1, 2, 3] rfl)
          intro τ x_2 x_3 x_4 H locs ls hf hw hl
          rw [fX7_twin_40] at hf
          refine lv_iload hx hb dX7_twin_40 (lv_at hl 4 rfl) ?_
          refine lv_sipush (v := 1024) hx hb dX7_twin_42 (by decide) ?_
          refine lv_icmp_ge (tgt := 89) hx hb dX7_twin_45 (by decide) (fun c7 => ?_) (fun c7 => ?_)
          · have hf := (if_pos c7).symm.trans hf
            exact L89 _ _ _ _ _ _ hf hw (lv_sub hl [0, 1, 2, 3] rfl)
          · have hf := (if_neg c7).symm.trans hf
            refine lv_iload_n hx hb dX7_twin_48 rfl (lv_at hl 3 rfl) ?_
            refine lv_if_eq (tgt := 89) hx hb dX7_twin_49 (by decide) (fun c8 => ?_) (fun c8 => ?_)
            · have hf := (if_pos c8).symm.trans hf
              exact L89 _ _ _ _ _ _ hf hw (lv_sub hl [0, 1, 2, 3] rfl)
            · have hf := (if_neg c8).symm.trans hf
              refine lv_aload_n hx hb dX7_twin_52 rfl (lv_at hl 0 rfl) ?_
              refine ks_getR hE hw 0 20 ltM_0 lyM_0 rfl fd_X7_38 dX7_twin_53 ?_
              refine lv_iload hx hb dX7_twin_56 (lv_at hl 4 rfl) ?_
              obtain ⟨b9, hf⟩ := ks_ok hf
              refine ks_iald hE hw 7 ltM_7 lyM_7 b9 dX7_twin_58 ?_
              refine lv_if_eq (tgt := 77) hx hb dX7_twin_59 (by decide) (fun c10 => ?_) (fun c10 => ?_)
              · have hf := (if_pos c10).symm.trans hf
                exact L77 _ _ _ _ _ _ hf hw (lv_sub hl [0, 1, 2, 4] rfl)
              · have hf := (if_neg c10).symm.trans hf
                refine lv_iload hx hb dX7_twin_62 (lv_at hl 4 rfl) ?_
                refine lv_iload_n hx hb dX7_twin_64 rfl (lv_at hl 1 rfl) ?_
                refine lv_ishr hx hb dX7_twin_65 ?_
                refine lv_iconst (v := 1) hx hb dX7_twin_66 (by decide) ?_
                refine lv_iand hx hb dX7_twin_67 ?_
                refine lv_iload hx hb dX7_twin_68 (lv_at hl 4 rfl) ?_
                refine lv_iload_n hx hb dX7_twin_70 rfl (lv_at hl 2 rfl) ?_
                refine lv_ishr hx hb dX7_twin_71 ?_
                refine lv_iconst (v := 1) hx hb dX7_twin_72 (by decide) ?_
                refine lv_iand hx hb dX7_twin_73 ?_
                refine lv_icmp_ne (tgt := 81) hx hb dX7_twin_74 (by decide) (fun c11 => ?_) (fun c11 => ?_)
                · have hf := (if_neg c11).symm.trans hf
                  refine lv_iconst (v := 0) hx hb dX7_twin_81 (by decide) ?_
                  exact L82 _ _ _ _ _ _ _ hf hw (lv_sub hl [0, 1, 2, 4] rfl)
                · have hf := (if_pos c11).symm.trans hf
                  exact L77 _ _ _ _ _ _ hf hw (lv_sub hl [0, 1, 2, 4] rfl)
      have L36 : ∀ (τ : Tau) (x_2 : Int32) (z_0 : Int32) (H : Heap) (locs : List Loc) (ls : Array Slot), fX7_twin_36 p1 (fX7_twin_20 p1 n20) τ x_2 z_0 = some R → Wd ΛM 12 D cA ad A s a τ H locs → lv_has ls 5 [(0, .ref (adr ad a 0)), (1, .int p1), (2, .int x_2)] → W p l e Rm s m args below meth c H locs 0 0 Q (F0 m 36 ls [.int z_0]) := by
        intro τ x_2 z_0 H locs ls hf hw hl
        unfold fX7_twin_36 at hf
        refine lv_istore_n (lv' := [(3, .int z_0), (0, .ref (adr ad a 0)), (1, .int p1), (2, .int x_2)]) hx hb dX7_twin_36 rfl hl (by decide) rfl (fun ls hl => ?_)
        refine lv_iconst (v := 0) hx hb dX7_twin_37 (by decide) ?_
        refine lv_istore (lv' := [(4, .int (0 : Int32)), (3, .int z_0), (0, .ref (adr ad a 0)), (1, .int p1), (2, .int x_2)]) hx hb dX7_twin_38 hl (by decide) rfl (fun ls hl => ?_)
        exact L40 FU _ _ _ _ _ _ _ hf hw (lv_sub hl [2, 3, 4, 1, 0] rfl)
      intro τ x_2 H locs ls hf hw hl
      rw [fX7_twin_20] at hf
      refine lv_iload_n hx hb dX7_twin_20 rfl (lv_at hl 2 rfl) ?_
      refine lv_bipush (v := 10) hx hb dX7_twin_21 (by decide) ?_
      refine lv_icmp_ge (tgt := 101) hx hb dX7_twin_23 (by decide) (fun c5 => ?_) (fun c5 => ?_)
      · have hf := (if_pos c5).symm.trans hf
        refine lv_bipush (v := (-9)) hx hb dX7_twin_101 (by decide) ?_
        replace hf := Option.some.inj hf
        subst hf
        exact ke_iret hE hw hQ dX7_twin_103 rfl rfl
      · have hf := (if_neg c5).symm.trans hf
        refine lv_iload_n hx hb dX7_twin_26 rfl (lv_at hl 2 rfl) ?_
        refine lv_iload_n hx hb dX7_twin_27 rfl (lv_at hl 1 rfl) ?_
        refine lv_icmp_eq (tgt := 35) hx hb dX7_twin_28 (by decide) (fun c6 => ?_) (fun c6 => ?_)
        · have hf := (if_pos c6).symm.trans hf
          refine lv_iconst (v := 0) hx hb dX7_twin_35 (by decide) ?_
          exact L36 _ _ _ _ _ _ hf hw (lv_sub hl [0, 1, 2] rfl)
        · have hf := (if_neg c6).symm.trans hf
          refine lv_iconst (v := 1) hx hb dX7_twin_31 (by decide) ?_
          refine lv_goto (tgt := 36) hx hb dX7_twin_32 (by decide) ?_
          exact L36 _ _ _ _ _ _ hf hw (lv_sub hl [0, 1, 2] rfl)
  unfold fX7_twin at hf
  refine lv_aload_n hx hb dX7_twin_0 rfl (lv_at hl 0 rfl) ?_
  refine lv_iconst (v := 0) hx hb dX7_twin_1 (by decide) ?_
  obtain ⟨t1, et1, hf⟩ := ks_nm hf
  refine ks_putI hE hw 0 0 ltM_0 lyM_0 rfl fw_X7_57 rfl rfl dX7_twin_2 (fun H locs hw => ?_)
  rw [← et1] at hw
  refine lv_iload_n hx hb dX7_twin_5 rfl (lv_at hl 1 rfl) ?_
  obtain ⟨r2, er2, hf⟩ := ks_nm hf
  refine ke_S hE hw hl.1 cl_X7_90 [.int p1] (c_X7_isSaying l D cA st ad a _ _ _ er2.symm) rfl (ke_room hRm rfl rfl) ke_cnt (Nat.le_of_ble_eq_true rfl) rfl dX7_twin_6 (fun H locs hw => ?_)
  refine W.eq (g2 := F0 m 9 ls (.int (bI r2) :: [])) rfl ?_
  refine lv_if_ne (tgt := 14) hx hb dX7_twin_9 (by decide) (fun c3 => ?_) (fun c3 => ?_)
  · have hf := (if_neg c3).symm.trans hf
    refine lv_aload_n hx hb dX7_twin_14 rfl (lv_at hl 0 rfl) ?_
    obtain ⟨r4, er4, hf⟩ := ks_bind hf
    refine ke_V hE hw hl.1 cl_X7_76 0 ltM_0 lyM_0 rfl [] (c_X7_loads l D cA st ad a _ _ er4) rfl (ke_room hRm rfl rfl) ke_cnt (Nat.le_of_ble_eq_true rfl) rfl dX7_twin_15 (fun H locs hw => ?_)
    refine W.eq (g2 := F0 m 18 ls ([])) rfl ?_
    refine lv_iconst (v := 0) hx hb dX7_twin_18 (by decide) ?_
    refine lv_istore_n (lv' := [(2, .int (0 : Int32)), (0, .ref (adr ad a 0)), (1, .int p1)]) hx hb dX7_twin_19 rfl hl (by decide) rfl (fun ls hl => ?_)
    exact L20 FU _ _ _ _ _ hf hw (lv_sub hl [1, 2, 0] rfl)
  · have hf := (if_pos c3).symm.trans hf
    refine lv_iconst (v := (-1)) hx hb dX7_twin_12 (by decide) ?_
    replace hf := Option.some.inj hf
    subst hf
    exact ke_iret hE hw hQ dX7_twin_13 rfl rfl
