def fX7_moods  (τ : Tau) (p1 : Int32) : (Int32 × Tau) :=
 nm (sI τ 0 0 (0 : Int32)) (fun t1 =>
 nm (fX7_in p1 (0 : Int32) (511 : Int32)) (fun r2 =>
 (if bI r2 = 0 then
 ((-1 : Int32), t1)
 else
 nm (tI t1 0 3) (fun x4 =>
 nm (sI t1 0 3 p1) (fun t5 =>
 (x4, t5))))))
set_option maxHeartbeats 4000000 in
set_option maxRecDepth 100000 in
theorem c_X7_moods (l : Launch) (D : va_G) (cA : Nat → ClassId) (st ad : Nat → Nat) (a : Nat)  (τ : Tau) (p1 : Int32) (R : (Int32 × Tau)) (hf : fX7_moods τ p1 = R) : KE ΛM 12 D cA st ad l yX7_moods cX7_moods 3 (some .int) 1 22 [.ref (adr ad a 0), .int p1] a τ (some (.int R.1)) R.2 := by
  refine KE.of "KindSayingsModel" rfl (by decide) (Nat.le_of_ble_eq_true rfl) (fun p e s m args below meth c A ls Rm Q hE hRm hQ hw hl => ?_)
  obtain ⟨hx, hb, hml, hown, hts, -⟩ := id hE
  have hl : lv_has ls 3 [(0, .ref (adr ad a 0)), (1, .int p1)] := hl
  unfold fX7_moods at hf
  refine lv_aload_n hx hb dX7_moods_0 rfl (lv_at hl 0 rfl) ?_
  refine lv_iconst (v := 0) hx hb dX7_moods_1 (by decide) ?_
  obtain ⟨t1, et1, hf⟩ := ks_nm hf
  refine ks_putI hE hw 0 0 ltM_0 lyM_0 rfl fw_X7_57 rfl rfl dX7_moods_2 (fun H locs hw => ?_)
  rw [← et1] at hw
  refine lv_iload_n hx hb dX7_moods_5 rfl (lv_at hl 1 rfl) ?_
  refine lv_iconst (v := 0) hx hb dX7_moods_6 (by decide) ?_
  refine lv_sipush (v := 511) hx hb dX7_moods_7 (by decide) ?_
  obtain ⟨r2, er2, hf⟩ := ks_nm hf
  refine ke_S hE hw hl.1 cl_X7_72 [.int p1, .int (0 : Int32), .int (511 : Int32)] (c_X7_in l D cA st ad a _ _ _ _ _ er2.symm) rfl (ke_room hRm rfl rfl) ke_cnt (Nat.le_of_ble_eq_true rfl) rfl dX7_moods_10 (fun H locs hw => ?_)
  refine W.eq (g2 := F0 m 13 ls (.int (bI r2) :: [])) rfl ?_
  refine lv_if_ne (tgt := 18) hx hb dX7_moods_13 (by decide) (fun c3 => ?_) (fun c3 => ?_)
  · have hf := (if_neg c3).symm.trans hf
    refine lv_aload_n hx hb dX7_moods_18 rfl (lv_at hl 0 rfl) ?_
    refine ks_getI hE hw 0 3 ltM_0 lyM_0 rfl fd_X7_16 dX7_moods_19 ?_
    obtain ⟨x4, ex4, hf⟩ := ks_nm hf
    refine W.eq (g2 := F0 m 22 ls (.int x4 :: [])) (by rw [ex4]) ?_
    refine lv_istore_n (lv' := [(2, .int x4), (0, .ref (adr ad a 0)), (1, .int p1)]) hx hb dX7_moods_22 rfl hl (by decide) rfl (fun ls hl => ?_)
    refine lv_aload_n hx hb dX7_moods_23 rfl (lv_at hl 1 rfl) ?_
    refine lv_iload_n hx hb dX7_moods_24 rfl (lv_at hl 2 rfl) ?_
    obtain ⟨t5, et5, hf⟩ := ks_nm hf
    refine ks_putI hE hw 0 3 ltM_0 lyM_0 rfl fw_X7_16 rfl rfl dX7_moods_25 (fun H locs hw => ?_)
    rw [← et5] at hw
    refine lv_iload_n hx hb dX7_moods_28 rfl (lv_at hl 0 rfl) ?_
    subst hf
    exact ke_iret hE hw hQ dX7_moods_29 rfl rfl
  · have hf := (if_pos c3).symm.trans hf
    refine lv_iconst (v := (-1)) hx hb dX7_moods_16 (by decide) ?_
    subst hf
    exact ke_iret hE hw hQ dX7_moods_17 rfl rfl
def fX7_isBy (τ : Tau) (p1 : Int32) (p2 : Int32) : Option Bool :=
 (if p1 < 0 ∨ 64 ≤ p1.toNatClampNeg then none else
 (if tA τ 11 p1.toNatClampNeg = (-9 : Int32) then
 some false
 else
 (if p1 < 0 ∨ 64 ≤ p1.toNatClampNeg then none else
 (if p2 ≤ tA τ 11 p1.toNatClampNeg then
 some false
 else
 some true))))
set_option maxHeartbeats 4000000 in
set_option maxRecDepth 100000 in
theorem c_X7_isBy (l : Launch) (D : va_G) (cA : Nat → ClassId) (st ad : Nat → Nat) (a : Nat)  (τ : Tau) (p1 : Int32) (p2 : Int32) (R : Bool) (hf : fX7_isBy τ p1 p2 = some R) : KE ΛM 12 D cA st ad l yX7_isBy cX7_isBy 3 (some .boolean) 0 0 [.ref (adr ad a 0), .int p1, .int p2] a τ (some (.int (bI R))) τ := by
  refine KE.of "KindSayingsModel" rfl (by decide) (Nat.le_of_ble_eq_true rfl) (fun p e s m args below meth c A ls Rm Q hE hRm hQ hw hl => ?_)
  obtain ⟨hx, hb, hml, hown, hts, -⟩ := id hE
  have hl : lv_has ls 3 [(0, .ref (adr ad a 0)), (1, .int p1), (2, .int p2)] := hl
  unfold fX7_isBy at hf
  refine lv_aload_n hx hb dX7_isBy_0 rfl (lv_at hl 0 rfl) ?_
  refine ks_getR hE hw 0 24 ltM_0 lyM_0 rfl fd_X7_51 dX7_isBy_1 ?_
  refine lv_iload_n hx hb dX7_isBy_4 rfl (lv_at hl 1 rfl) ?_
  obtain ⟨b1, hf⟩ := ks_ok hf
  refine ks_iald hE hw 11 ltM_11 lyM_11 b1 dX7_isBy_5 ?_
  refine lv_bipush (v := (-9)) hx hb dX7_isBy_6 (by decide) ?_
  refine lv_icmp_eq (tgt := 25) hx hb dX7_isBy_8 (by decide) (fun c2 => ?_) (fun c2 => ?_)
  · have hf := (if_pos c2).symm.trans hf
    refine lv_iconst (v := 0) hx hb dX7_isBy_25 (by decide) ?_
    replace hf := Option.some.inj hf
    subst hf
    exact ke_zret hE hw hQ (Or.inl rfl) dX7_isBy_26 rfl rfl
  · have hf := (if_neg c2).symm.trans hf
    refine lv_aload_n hx hb dX7_isBy_11 rfl (lv_at hl 0 rfl) ?_
    refine ks_getR hE hw 0 24 ltM_0 lyM_0 rfl fd_X7_51 dX7_isBy_12 ?_
    refine lv_iload_n hx hb dX7_isBy_15 rfl (lv_at hl 1 rfl) ?_
    obtain ⟨b3, hf⟩ := ks_ok hf
    refine ks_iald hE hw 11 ltM_11 lyM_11 b3 dX7_isBy_16 ?_
    refine lv_iload_n hx hb dX7_isBy_17 rfl (lv_at hl 2 rfl) ?_
    refine lv_icmp_ge (tgt := 25) hx hb dX7_isBy_18 (by decide) (fun c4 => ?_) (fun c4 => ?_)
    · have hf := (if_pos c4).symm.trans hf
      refine lv_iconst (v := 0) hx hb dX7_isBy_25 (by decide) ?_
      replace hf := Option.some.inj hf
      subst hf
      exact ke_zret hE hw hQ (Or.inl rfl) dX7_isBy_26 rfl rfl
    · have hf := (if_neg c4).symm.trans hf
      refine lv_iconst (v := 1) hx hb dX7_isBy_21 (by decide) ?_
      refine lv_goto (tgt := 26) hx hb dX7_isBy_22 (by decide) ?_
      replace hf := Option.some.inj hf
      subst hf
      exact ke_zret hE hw hQ (Or.inr rfl) dX7_isBy_26 rfl rfl
def fX7_isShown_291 (p1 : Int32) (p2 : Int32) (p3 : Int32) (p4 : Int32) (p5 : Int32) (k166 : Tau → Int32 → Int32 → Option (Bool × Tau)) (τ : Tau) (x_7 : Int32) (x_8 : Int32) : Option (Bool × Tau) :=
 nm (x_8 + (1 : Int32)) (fun x25 =>
     k166 τ x_7 x25)
def fX7_isShown_253 (p1 : Int32) (p2 : Int32) (p3 : Int32) (p4 : Int32) (p5 : Int32) (k166 : Tau → Int32 → Int32 → Option (Bool × Tau)) (τ : Tau) (x_7 : Int32) (x_8 : Int32) (x_9 : Int32) (z_0 : Int32) : Option (Bool × Tau) :=
 Option.bind (fX7_isBy τ x_9 p5) (fun r19 =>
    (if bI r19 = 0 then
     fX7_isShown_291 p1 p2 p3 p4 p5 k166 τ x_7 x_8
     else
     Option.bind (fX7_isBy τ z_0 p5) (fun r21 =>
    (if bI r21 = 0 then
     fX7_isShown_291 p1 p2 p3 p4 p5 k166 τ x_7 x_8
     else
     nm (sI τ 0 27 x_9) (fun t23 =>
     nm (sI t23 0 28 z_0) (fun t24 =>
     some (true, t24)))))))
def fX7_isShown_244 (p1 : Int32) (p2 : Int32) (p3 : Int32) (p4 : Int32) (p5 : Int32) (k166 : Tau → Int32 → Int32 → Option (Bool × Tau)) (τ : Tau) (x_7 : Int32) (x_8 : Int32) (x_9 : Int32) (z_0 : Int32) (z_1 : Int32) : Option (Bool × Tau) :=
 fX7_isShown_253 p1 p2 p3 p4 p5 k166 τ x_7 x_8 x_9 (((z_1 * z_0) + ((4 : Int32) * x_8)) + p4)
def fX7_isShown_239 (p1 : Int32) (p2 : Int32) (p3 : Int32) (p4 : Int32) (p5 : Int32) (k166 : Tau → Int32 → Int32 → Option (Bool × Tau)) (τ : Tau) (x_7 : Int32) (x_8 : Int32) (x_9 : Int32) (z_0 : Int32) : Option (Bool × Tau) :=
 fX7_isShown_244 p1 p2 p3 p4 p5 k166 τ x_7 x_8 x_9 (2 : Int32) z_0
def fX7_isShown_201 (p1 : Int32) (p2 : Int32) (p3 : Int32) (p4 : Int32) (p5 : Int32) (k166 : Tau → Int32 → Int32 → Option (Bool × Tau)) (τ : Tau) (x_7 : Int32) (x_8 : Int32) (z_0 : Int32) (z_1 : Int32) : Option (Bool × Tau) :=
 nm (((z_1 * z_0) + ((4 : Int32) * p3)) + x_8) (fun x15 =>
    (if p1 = (6 : Int32) then
     fX7_isShown_253 p1 p2 p3 p4 p5 k166 τ x_7 x_8 x15 (((4 : Int32) * p4) + x_8)
     else
    (if p1 = (1 : Int32) then
     fX7_isShown_239 p1 p2 p3 p4 p5 k166 τ x_7 x_8 x15 (16 : Int32)
     else
    (if p1 = (3 : Int32) then
     fX7_isShown_239 p1 p2 p3 p4 p5 k166 τ x_7 x_8 x15 (16 : Int32)
     else
     fX7_isShown_244 p1 p2 p3 p4 p5 k166 τ x_7 x_8 x15 (0 : Int32) (16 : Int32)))))
def fX7_isShown_166 (p1 : Int32) (p2 : Int32) (p3 : Int32) (p4 : Int32) (p5 : Int32) : Nat → Tau → Int32 → Int32 → Option (Bool × Tau)
  | 0, _, _, _ => none
  | n + 1, τ, x_7, x_8 =>
     (if tI τ 0 1 ≤ x_8 then
     some (false, τ)
     else
     (if x_7 = 0 then
     some (false, τ)
     else
     (if (2 : Int32) ≤ p1 then
     (if (4 : Int32) ≤ p1 then
     fX7_isShown_201 p1 p2 p3 p4 p5 (fX7_isShown_166 p1 p2 p3 p4 p5 n) τ x_7 x_8 (3 : Int32) (16 : Int32)
     else
     fX7_isShown_201 p1 p2 p3 p4 p5 (fX7_isShown_166 p1 p2 p3 p4 p5 n) τ x_7 x_8 (1 : Int32) (16 : Int32))
     else
     fX7_isShown_201 p1 p2 p3 p4 p5 (fX7_isShown_166 p1 p2 p3 p4 p5 n) τ x_7 x_8 (0 : Int32) (16 : Int32))))
def fX7_isShown_161 (p1 : Int32) (p2 : Int32) (p3 : Int32) (p4 : Int32) (p5 : Int32) (τ : Tau) (z_0 : Int32) : Option (Bool × Tau) :=
 fX7_isShown_166 p1 p2 p3 p4 p5 FU τ z_0 (0 : Int32)
def fX7_isShown_160 (p1 : Int32) (p2 : Int32) (p3 : Int32) (p4 : Int32) (p5 : Int32) (τ : Tau) : Option (Bool × Tau) :=
 fX7_isShown_161 p1 p2 p3 p4 p5 τ (0 : Int32)
def fX7_isShown_156 (p1 : Int32) (p2 : Int32) (p3 : Int32) (p4 : Int32) (p5 : Int32) (τ : Tau) : Option (Bool × Tau) :=
 fX7_isShown_161 p1 p2 p3 p4 p5 τ (1 : Int32)
def fX7_isShown_145 (p1 : Int32) (p2 : Int32) (p3 : Int32) (p4 : Int32) (p5 : Int32) (τ : Tau) : Option (Bool × Tau) :=
 (if p1 = (6 : Int32) then
    (if p2 = (3 : Int32) then
     fX7_isShown_156 p1 p2 p3 p4 p5 τ
     else
     fX7_isShown_160 p1 p2 p3 p4 p5 τ)
     else
     fX7_isShown_160 p1 p2 p3 p4 p5 τ)
def fX7_isShown_135 (p1 : Int32) (p2 : Int32) (p3 : Int32) (p4 : Int32) (p5 : Int32) (τ : Tau) : Option (Bool × Tau) :=
 (if p1 = (3 : Int32) then
    (if p2 = (3 : Int32) then
     fX7_isShown_156 p1 p2 p3 p4 p5 τ
     else
     fX7_isShown_145 p1 p2 p3 p4 p5 τ)
     else
     fX7_isShown_145 p1 p2 p3 p4 p5 τ)
def fX7_isShown_125 (p1 : Int32) (p2 : Int32) (p3 : Int32) (p4 : Int32) (p5 : Int32) (τ : Tau) : Option (Bool × Tau) :=
 (if p1 = (2 : Int32) then
    (if p2 = (1 : Int32) then
     fX7_isShown_156 p1 p2 p3 p4 p5 τ
     else
     fX7_isShown_135 p1 p2 p3 p4 p5 τ)
     else
     fX7_isShown_135 p1 p2 p3 p4 p5 τ)
def fX7_isShown_115 (p1 : Int32) (p2 : Int32) (p3 : Int32) (p4 : Int32) (p5 : Int32) (τ : Tau) : Option (Bool × Tau) :=
 (if p1 = (1 : Int32) then
    (if p2 = (2 : Int32) then
     fX7_isShown_156 p1 p2 p3 p4 p5 τ
     else
     fX7_isShown_125 p1 p2 p3 p4 p5 τ)
     else
     fX7_isShown_125 p1 p2 p3 p4 p5 τ)
def fX7_isShown_83 (p1 : Int32) (p2 : Int32) (p3 : Int32) (p4 : Int32) (p5 : Int32) (τ : Tau) (z_0 : Int32) : Option (Bool × Tau) :=
 (if z_0 = (-9 : Int32) then
    (if p1 = 0 then
    (if p2 = 0 then
     fX7_isShown_156 p1 p2 p3 p4 p5 τ
     else
     fX7_isShown_115 p1 p2 p3 p4 p5 τ)
     else
     fX7_isShown_115 p1 p2 p3 p4 p5 τ)
     else
     nm (sI τ 0 27 z_0) (fun t9 =>
     Option.bind (fX7_isBy t9 z_0 p5) (fun r10 =>
     some (r10, t9))))
def fX7_isShown_81 (p1 : Int32) (p2 : Int32) (p3 : Int32) (p4 : Int32) (p5 : Int32) (τ : Tau) : Option (Bool × Tau) :=
 fX7_isShown_83 p1 p2 p3 p4 p5 τ (-9 : Int32)
def fX7_isShown_61 (p1 : Int32) (p2 : Int32) (p3 : Int32) (p4 : Int32) (p5 : Int32) (τ : Tau) : Option (Bool × Tau) :=
 (if p1 = (8 : Int32) then
    (if p2 = (1 : Int32) then
     fX7_isShown_83 p1 p2 p3 p4 p5 τ (((4 : Int32) * p3) + p4)
     else
     fX7_isShown_81 p1 p2 p3 p4 p5 τ)
     else
     fX7_isShown_81 p1 p2 p3 p4 p5 τ)
def fX7_isShown_39 (p1 : Int32) (p2 : Int32) (p3 : Int32) (p4 : Int32) (p5 : Int32) (τ : Tau) : Option (Bool × Tau) :=
 (if p1 = (5 : Int32) then
    (if p2 = (1 : Int32) then
     fX7_isShown_83 p1 p2 p3 p4 p5 τ (((16 : Int32) + ((4 : Int32) * p4)) + p3)
     else
     fX7_isShown_61 p1 p2 p3 p4 p5 τ)
     else
     fX7_isShown_61 p1 p2 p3 p4 p5 τ)
def fX7_isShown  (τ : Tau) (p1 : Int32) (p2 : Int32) (p3 : Int32) (p4 : Int32) (p5 : Int32) : Option (Bool × Tau) :=
 nm (sI τ 0 26 p1) (fun t1 =>
 nm (sI t1 0 27 (-9 : Int32)) (fun t2 =>
 nm (sI t2 0 28 (-9 : Int32)) (fun t3 =>
 (if p1 = (4 : Int32) then
 (if p2 = (2 : Int32) then
 fX7_isShown_83 p1 p2 p3 p4 p5 t3 (((32 : Int32) + ((4 : Int32) * p4)) + p3)
 else
 fX7_isShown_39 p1 p2 p3 p4 p5 t3)
 else
 fX7_isShown_39 p1 p2 p3 p4 p5 t3))))
set_option maxHeartbeats 4000000 in
set_option maxRecDepth 100000 in
theorem c_X7_isShown (l : Launch) (D : va_G) (cA : Nat → ClassId) (st ad : Nat → Nat) (a : Nat)  (τ : Tau) (p1 : Int32) (p2 : Int32) (p3 : Int32) (p4 : Int32) (p5 : Int32) (R : (Bool × Tau)) (hf : fX7_isShown τ p1 p2 p3 p4 p5 = some R) : KE ΛM 12 D cA st ad l yX7_isShown cX7_isShown 11 (some .boolean) 1 22 [.ref (adr ad a 0), .int p1, .int p2, .int p3, .int p4, .int p5] a τ (some (.int (bI R.1))) R.2 := by
  refine KE.of "KindSayingsModel" rfl (by decide) (Nat.le_of_ble_eq_true rfl) (fun p e s m args below meth c A ls Rm Q hE hRm hQ hw hl => ?_)
  obtain ⟨hx, hb, hml, hown, hts, -⟩ := id hE
  have hl : lv_has ls 11 [(0, .ref (adr ad a 0)), (1, .int p1), (2, .int p2), (3, .int p3), (4, .int p4), (5, .int p5)] := hl
  have L166 : ∀ (n166 : Nat) (τ : Tau) (x_7 : Int32) (x_8 : Int32) (H : Heap) (locs : List Loc) (ls : Array Slot), fX7_isShown_166 p1 p2 p3 p4 p5 n166 τ x_7 x_8 = some R → Wd ΛM 12 D cA ad A s a τ H locs → lv_has ls 11 [(0, .ref (adr ad a 0)), (1, .int p1), (3, .int p3), (4, .int p4), (5, .int p5), (7, .int x_7), (8, .int x_8)] → W p l e Rm s m args below meth c H locs 0 0 Q (F0 m 166 ls []) := by
    intro n166
    induction n166 with
    | zero => intro τ x_7 x_8 H locs ls hf hw hl; exact absurd hf (by rw [fX7_isShown_166]; simp)
    | succ n166 ih166 =>
      have L291 : ∀ (τ : Tau) (x_7 : Int32) (x_8 : Int32) (H : Heap) (locs : List Loc) (ls : Array Slot), fX7_isShown_291 p1 p2 p3 p4 p5 (fX7_isShown_166 p1 p2 p3 p4 p5 n166) τ x_7 x_8 = some R → Wd ΛM 12 D cA ad A s a τ H locs → lv_has ls 11 [(0, .ref (adr ad a 0)), (1, .int p1), (3, .int p3), (4, .int p4), (5, .int p5), (7, .int x_7), (8, .int x_8)] → W p l e Rm s m args below meth c H locs 0 0 Q (F0 m 291 ls []) := by
        intro τ x_7 x_8 H locs ls hf hw hl
        unfold fX7_isShown_291 at hf
        obtain ⟨x25, ex25, hf⟩ := ks_nm hf
        refine lv_iinc (v := x25) (lv' := [(8, .int x25), (0, .ref (adr ad a 0)), (1, .int p1), (3, .int p3), (4, .int p4), (5, .int p5), (7, .int x_7)]) hx hb dX7_isShown_291 hl (k := 6) rfl (by rw [ex25]; rfl) (by decide) rfl (fun ls hl => ?_)
        refine lv_goto (tgt := 166) hx hb dX7_isShown_294 (by decide) ?_
        exact ih166 _ _ _ _ _ _ hf hw (lv_sub hl [1, 2, 3, 4, 5, 6, 0] rfl)
      have L253 : ∀ (τ : Tau) (x_7 : Int32) (x_8 : Int32) (x_9 : Int32) (z_0 : Int32) (H : Heap) (locs : List Loc) (ls : Array Slot), fX7_isShown_253 p1 p2 p3 p4 p5 (fX7_isShown_166 p1 p2 p3 p4 p5 n166) τ x_7 x_8 x_9 z_0 = some R → Wd ΛM 12 D cA ad A s a τ H locs → lv_has ls 11 [(0, .ref (adr ad a 0)), (1, .int p1), (3, .int p3), (4, .int p4), (5, .int p5), (7, .int x_7), (8, .int x_8), (9, .int x_9)] → W p l e Rm s m args below meth c H locs 0 0 Q (F0 m 253 ls [.int z_0]) := by
        intro τ x_7 x_8 x_9 z_0 H locs ls hf hw hl
        unfold fX7_isShown_253 at hf
        refine lv_istore (lv' := [(10, .int z_0), (0, .ref (adr ad a 0)), (1, .int p1), (3, .int p3), (4, .int p4), (5, .int p5), (7, .int x_7), (8, .int x_8), (9, .int x_9)]) hx hb dX7_isShown_253 hl (by decide) rfl (fun ls hl => ?_)
        refine lv_aload_n hx hb dX7_isShown_255 rfl (lv_at hl 1 rfl) ?_
        refine lv_iload hx hb dX7_isShown_256 (lv_at hl 8 rfl) ?_
        refine lv_iload hx hb dX7_isShown_258 (lv_at hl 5 rfl) ?_
        obtain ⟨r19, er19, hf⟩ := ks_bind hf
        refine ke_V hE hw hl.1 cl_X7_207 0 ltM_0 lyM_0 rfl [.int x_9, .int p5] (c_X7_isBy l D cA st ad a _ _ _ _ er19) rfl (ke_room hRm rfl rfl) ke_cnt (Nat.le_of_ble_eq_true rfl) rfl dX7_isShown_260 (fun H locs hw => ?_)
        refine W.eq (g2 := F0 m 263 ls (.int (bI r19) :: [])) rfl ?_
        refine lv_if_eq (tgt := 291) hx hb dX7_isShown_263 (by decide) (fun c20 => ?_) (fun c20 => ?_)
        · have hf := (if_pos c20).symm.trans hf
          exact L291 _ _ _ _ _ _ hf hw (lv_sub hl [1, 2, 3, 4, 5, 6, 7] rfl)
        · have hf := (if_neg c20).symm.trans hf
          refine lv_aload_n hx hb dX7_isShown_266 rfl (lv_at hl 1 rfl) ?_
          refine lv_iload hx hb dX7_isShown_267 (lv_at hl 0 rfl) ?_
          refine lv_iload hx hb dX7_isShown_269 (lv_at hl 5 rfl) ?_
          obtain ⟨r21, er21, hf⟩ := ks_bind hf
          refine ke_V hE hw hl.1 cl_X7_207 0 ltM_0 lyM_0 rfl [.int z_0, .int p5] (c_X7_isBy l D cA st ad a _ _ _ _ er21) rfl (ke_room hRm rfl rfl) ke_cnt (Nat.le_of_ble_eq_true rfl) rfl dX7_isShown_271 (fun H locs hw => ?_)
          refine W.eq (g2 := F0 m 274 ls (.int (bI r21) :: [])) rfl ?_
          refine lv_if_eq (tgt := 291) hx hb dX7_isShown_274 (by decide) (fun c22 => ?_) (fun c22 => ?_)
          · have hf := (if_pos c22).symm.trans hf
            exact L291 _ _ _ _ _ _ hf hw (lv_sub hl [1, 2, 3, 4, 5, 6, 7] rfl)
          · have hf := (if_neg c22).symm.trans hf
            refine lv_aload_n hx hb dX7_isShown_277 rfl (lv_at hl 1 rfl) ?_
            refine lv_iload hx hb dX7_isShown_278 (lv_at hl 8 rfl) ?_
            obtain ⟨t23, et23, hf⟩ := ks_nm hf
            refine ks_putI hE hw 0 27 ltM_0 lyM_0 rfl fw_X7_201 rfl rfl dX7_isShown_280 (fun H locs hw => ?_)
            rw [← et23] at hw
            refine lv_aload_n hx hb dX7_isShown_283 rfl (lv_at hl 1 rfl) ?_
            refine lv_iload hx hb dX7_isShown_284 (lv_at hl 0 rfl) ?_
            obtain ⟨t24, et24, hf⟩ := ks_nm hf
            refine ks_putI hE hw 0 28 ltM_0 lyM_0 rfl fw_X7_204 rfl rfl dX7_isShown_286 (fun H locs hw => ?_)
            rw [← et24] at hw
            refine lv_iconst (v := 1) hx hb dX7_isShown_289 (by decide) ?_
            replace hf := Option.some.inj hf
            subst hf
            exact ke_zret hE hw hQ (Or.inr rfl) dX7_isShown_290 rfl rfl
      have L244 : ∀ (τ : Tau) (x_7 : Int32) (x_8 : Int32) (x_9 : Int32) (z_0 : Int32) (z_1 : Int32) (H : Heap) (locs : List Loc) (ls : Array Slot), fX7_isShown_244 p1 p2 p3 p4 p5 (fX7_isShown_166 p1 p2 p3 p4 p5 n166) τ x_7 x_8 x_9 z_0 z_1 = some R → Wd ΛM 12 D cA ad A s a τ H locs → lv_has ls 11 [(0, .ref (adr ad a 0)), (1, .int p1), (3, .int p3), (4, .int p4), (5, .int p5), (7, .int x_7), (8, .int x_8), (9, .int x_9)] → W p l e Rm s m args below meth c H locs 0 0 Q (F0 m 244 ls [.int z_0, .int z_1]) := by
        intro τ x_7 x_8 x_9 z_0 z_1 H locs ls hf hw hl
        unfold fX7_isShown_244 at hf
        refine lv_imul hx hb dX7_isShown_244 ?_
        refine lv_iconst (v := 4) hx hb dX7_isShown_245 (by decide) ?_
        refine lv_iload hx hb dX7_isShown_246 (lv_at hl 6 rfl) ?_
        refine lv_imul hx hb dX7_isShown_248 ?_
        refine lv_iadd hx hb dX7_isShown_249 ?_
        refine lv_iload hx hb dX7_isShown_250 (lv_at hl 3 rfl) ?_
        refine lv_iadd hx hb dX7_isShown_252 ?_
        exact L253 _ _ _ _ _ _ _ _ hf hw (lv_sub hl [0, 1, 2, 3, 4, 5, 6, 7] rfl)
      have L239 : ∀ (τ : Tau) (x_7 : Int32) (x_8 : Int32) (x_9 : Int32) (z_0 : Int32) (H : Heap) (locs : List Loc) (ls : Array Slot), fX7_isShown_239 p1 p2 p3 p4 p5 (fX7_isShown_166 p1 p2 p3 p4 p5 n166) τ x_7 x_8 x_9 z_0 = some R → Wd ΛM 12 D cA ad A s a τ H locs → lv_has ls 11 [(0, .ref (adr ad a 0)), (1, .int p1), (3, .int p3), (4, .int p4), (5, .int p5), (7, .int x_7), (8, .int x_8), (9, .int x_9)] → W p l e Rm s m args below meth c H locs 0 0 Q (F0 m 239 ls [.int z_0]) := by
        intro τ x_7 x_8 x_9 z_0 H locs ls hf hw hl
        unfold fX7_isShown_239 at hf
        refine lv_iconst (v := 2) hx hb dX7_isShown_239 (by decide) ?_
        refine lv_goto (tgt := 244) hx hb dX7_isShown_240 (by decide) ?_
        exact L244 _ _ _ _ _ _ _ _ _ hf hw (lv_sub hl [0, 1, 2, 3, 4, 5, 6, 7] rfl)
      have L201 : ∀ (τ : Tau) (x_7 : Int32) (x_8 : Int32) (z_0 : Int32) (z_1 : Int32) (H : Heap) (locs : List Loc) (ls : Array Slot), fX7_isShown_201 p1 p2 p3 p4 p5 (fX7_isShown_166 p1 p2 p3 p4 p5 n166) τ x_7 x_8 z_0 z_1 = some R → Wd ΛM 12 D cA ad A s a τ H locs → lv_has ls 11 [(0, .ref (adr ad a 0)), (1, .int p1), (3, .int p3), (4, .int p4), (5, .int p5), (7, .int x_7), (8, .int x_8)] → W p l e Rm s m args below meth c H locs 0 0 Q (F0 m 201 ls [.int z_0, .int z_1]) := by
        intro τ x_7 x_8 z_0 z_1 H locs ls hf hw hl
        unfold fX7_isShown_201 at hf
        refine lv_imul hx hb dX7_isShown_201 ?_
        refine lv_iconst (v := 4) hx hb dX7_isShown_202 (by decide) ?_
        refine lv_iload_n hx hb dX7_isShown_203 rfl (lv_at hl 2 rfl) ?_
        refine lv_imul hx hb dX7_isShown_204 ?_
        refine lv_iadd hx hb dX7_isShown_205 ?_
        refine lv_iload hx hb dX7_isShown_206 (lv_at hl 6 rfl) ?_
        refine lv_iadd hx hb dX7_isShown_208 ?_
        obtain ⟨x15, ex15, hf⟩ := ks_nm hf
        refine W.eq (g2 := F0 m 209 ls (.int x15 :: [])) (by rw [ex15]) ?_
        refine lv_istore (lv' := [(9, .int x15), (0, .ref (adr ad a 0)), (1, .int p1), (3, .int p3), (4, .int p4), (5, .int p5), (7, .int x_7), (8, .int x_8)]) hx hb dX7_isShown_209 hl (by decide) rfl (fun ls hl => ?_)
        refine lv_iload_n hx hb dX7_isShown_211 rfl (lv_at hl 2 rfl) ?_
        refine lv_bipush (v := 6) hx hb dX7_isShown_212 (by decide) ?_
        refine lv_icmp_ne (tgt := 227) hx hb dX7_isShown_214 (by decide) (fun c16 => ?_) (fun c16 => ?_)
        · have hf := (if_neg c16).symm.trans hf
          refine lv_bipush (v := 16) hx hb dX7_isShown_227 (by decide) ?_
          refine lv_iload_n hx hb dX7_isShown_229 rfl (lv_at hl 2 rfl) ?_
          refine lv_iconst (v := 1) hx hb dX7_isShown_230 (by decide) ?_
          refine lv_icmp_eq (tgt := 239) hx hb dX7_isShown_231 (by decide) (fun c17 => ?_) (fun c17 => ?_)
          · have hf := (if_pos c17).symm.trans hf
            exact L239 _ _ _ _ _ _ _ _ hf hw (lv_sub hl [1, 2, 3, 4, 5, 6, 7, 0] rfl)
          · have hf := (if_neg c17).symm.trans hf
            refine lv_iload_n hx hb dX7_isShown_234 rfl (lv_at hl 2 rfl) ?_
            refine lv_iconst (v := 3) hx hb dX7_isShown_235 (by decide) ?_
            refine lv_icmp_ne (tgt := 243) hx hb dX7_isShown_236 (by decide) (fun c18 => ?_) (fun c18 => ?_)
            · have hf := (if_neg c18).symm.trans hf
              refine lv_iconst (v := 0) hx hb dX7_isShown_243 (by decide) ?_
              exact L244 _ _ _ _ _ _ _ _ _ hf hw (lv_sub hl [1, 2, 3, 4, 5, 6, 7, 0] rfl)
            · have hf := (if_pos c18).symm.trans hf
              exact L239 _ _ _ _ _ _ _ _ hf hw (lv_sub hl [1, 2, 3, 4, 5, 6, 7, 0] rfl)
        · have hf := (if_pos c16).symm.trans hf
          refine lv_iconst (v := 4) hx hb dX7_isShown_217 (by decide) ?_
          refine lv_iload hx hb dX7_isShown_218 (lv_at hl 4 rfl) ?_
          refine lv_imul hx hb dX7_isShown_220 ?_
          refine lv_iload hx hb dX7_isShown_221 (lv_at hl 7 rfl) ?_
          refine lv_iadd hx hb dX7_isShown_223 ?_
          refine lv_goto (tgt := 253) hx hb dX7_isShown_224 (by decide) ?_
          exact L253 _ _ _ _ _ _ _ _ hf hw (lv_sub hl [1, 2, 3, 4, 5, 6, 7, 0] rfl)
      intro τ x_7 x_8 H locs ls hf hw hl
      rw [fX7_isShown_166] at hf
      refine lv_iload hx hb dX7_isShown_166 (lv_at hl 6 rfl) ?_
      refine lv_aload_n hx hb dX7_isShown_168 rfl (lv_at hl 0 rfl) ?_
      refine ks_getI hE hw 0 1 ltM_0 lyM_0 rfl fd_X7_7 dX7_isShown_169 ?_
      refine lv_icmp_ge (tgt := 297) hx hb dX7_isShown_172 (by decide) (fun c11 => ?_) (fun c11 => ?_)
      · have hf := (if_pos c11).symm.trans hf
        refine lv_iconst (v := 0) hx hb dX7_isShown_297 (by decide) ?_
        replace hf := Option.some.inj hf
        subst hf
        exact ke_zret hE hw hQ (Or.inl rfl) dX7_isShown_298 rfl rfl
      · have hf := (if_neg c11).symm.trans hf
        refine lv_iload hx hb dX7_isShown_175 (lv_at hl 5 rfl) ?_
        refine lv_if_eq (tgt := 297) hx hb dX7_isShown_177 (by decide) (fun c12 => ?_) (fun c12 => ?_)
        · have hf := (if_pos c12).symm.trans hf
          refine lv_iconst (v := 0) hx hb dX7_isShown_297 (by decide) ?_
          replace hf := Option.some.inj hf
          subst hf
          exact ke_zret hE hw hQ (Or.inl rfl) dX7_isShown_298 rfl rfl
        · have hf := (if_neg c12).symm.trans hf
          refine lv_bipush (v := 16) hx hb dX7_isShown_180 (by decide) ?_
          refine lv_iload_n hx hb dX7_isShown_182 rfl (lv_at hl 1 rfl) ?_
          refine lv_iconst (v := 2) hx hb dX7_isShown_183 (by decide) ?_
          refine lv_icmp_ge (tgt := 191) hx hb dX7_isShown_184 (by decide) (fun c13 => ?_) (fun c13 => ?_)
          · have hf := (if_pos c13).symm.trans hf
            refine lv_iload_n hx hb dX7_isShown_191 rfl (lv_at hl 1 rfl) ?_
            refine lv_iconst (v := 4) hx hb dX7_isShown_192 (by decide) ?_
            refine lv_icmp_ge (tgt := 200) hx hb dX7_isShown_193 (by decide) (fun c14 => ?_) (fun c14 => ?_)
            · have hf := (if_pos c14).symm.trans hf
              refine lv_iconst (v := 3) hx hb dX7_isShown_200 (by decide) ?_
              exact L201 _ _ _ _ _ _ _ _ hf hw (lv_sub hl [0, 1, 2, 3, 4, 5, 6] rfl)
            · have hf := (if_neg c14).symm.trans hf
              refine lv_iconst (v := 1) hx hb dX7_isShown_196 (by decide) ?_
              refine lv_goto (tgt := 201) hx hb dX7_isShown_197 (by decide) ?_
              exact L201 _ _ _ _ _ _ _ _ hf hw (lv_sub hl [0, 1, 2, 3, 4, 5, 6] rfl)
          · have hf := (if_neg c13).symm.trans hf
            refine lv_iconst (v := 0) hx hb dX7_isShown_187 (by decide) ?_
            refine lv_goto (tgt := 201) hx hb dX7_isShown_188 (by decide) ?_
            exact L201 _ _ _ _ _ _ _ _ hf hw (lv_sub hl [0, 1, 2, 3, 4, 5, 6] rfl)
  have L161 : ∀ (τ : Tau) (z_0 : Int32) (H : Heap) (locs : List Loc) (ls : Array Slot), fX7_isShown_161 p1 p2 p3 p4 p5 τ z_0 = some R → Wd ΛM 12 D cA ad A s a τ H locs → lv_has ls 11 [(0, .ref (adr ad a 0)), (1, .int p1), (3, .int p3), (4, .int p4), (5, .int p5)] → W p l e Rm s m args below meth c H locs 0 0 Q (F0 m 161 ls [.int z_0]) := by
    intro τ z_0 H locs ls hf hw hl
    unfold fX7_isShown_161 at hf
    refine lv_istore (lv' := [(7, .int z_0), (0, .ref (adr ad a 0)), (1, .int p1), (3, .int p3), (4, .int p4), (5, .int p5)]) hx hb dX7_isShown_161 hl (by decide) rfl (fun ls hl => ?_)
    refine lv_iconst (v := 0) hx hb dX7_isShown_163 (by decide) ?_
    refine lv_istore (lv' := [(8, .int (0 : Int32)), (7, .int z_0), (0, .ref (adr ad a 0)), (1, .int p1), (3, .int p3), (4, .int p4), (5, .int p5)]) hx hb dX7_isShown_164 hl (by decide) rfl (fun ls hl => ?_)
    exact L166 FU _ _ _ _ _ _ hf hw (lv_sub hl [2, 3, 4, 5, 6, 1, 0] rfl)
  have L160 : ∀ (τ : Tau) (H : Heap) (locs : List Loc) (ls : Array Slot), fX7_isShown_160 p1 p2 p3 p4 p5 τ = some R → Wd ΛM 12 D cA ad A s a τ H locs → lv_has ls 11 [(0, .ref (adr ad a 0)), (1, .int p1), (3, .int p3), (4, .int p4), (5, .int p5)] → W p l e Rm s m args below meth c H locs 0 0 Q (F0 m 160 ls []) := by
    intro τ H locs ls hf hw hl
    unfold fX7_isShown_160 at hf
    refine lv_iconst (v := 0) hx hb dX7_isShown_160 (by decide) ?_
    exact L161 _ _ _ _ _ hf hw (lv_sub hl [0, 1, 2, 3, 4] rfl)
  have L156 : ∀ (τ : Tau) (H : Heap) (locs : List Loc) (ls : Array Slot), fX7_isShown_156 p1 p2 p3 p4 p5 τ = some R → Wd ΛM 12 D cA ad A s a τ H locs → lv_has ls 11 [(0, .ref (adr ad a 0)), (1, .int p1), (3, .int p3), (4, .int p4), (5, .int p5)] → W p l e Rm s m args below meth c H locs 0 0 Q (F0 m 156 ls []) := by
    intro τ H locs ls hf hw hl
    unfold fX7_isShown_156 at hf
    refine lv_iconst (v := 1) hx hb dX7_isShown_156 (by decide) ?_
    refine lv_goto (tgt := 161) hx hb dX7_isShown_157 (by decide) ?_
    exact L161 _ _ _ _ _ hf hw (lv_sub hl [0, 1, 2, 3, 4] rfl)
  have L145 : ∀ (τ : Tau) (H : Heap) (locs : List Loc) (ls : Array Slot), fX7_isShown_145 p1 p2 p3 p4 p5 τ = some R → Wd ΛM 12 D cA ad A s a τ H locs → lv_has ls 11 [(0, .ref (adr ad a 0)), (1, .int p1), (2, .int p2), (3, .int p3), (4, .int p4), (5, .int p5)] → W p l e Rm s m args below meth c H locs 0 0 Q (F0 m 145 ls []) := by
    intro τ H locs ls hf hw hl
    unfold fX7_isShown_145 at hf
    refine lv_iload_n hx hb dX7_isShown_145 rfl (lv_at hl 1 rfl) ?_
    refine lv_bipush (v := 6) hx hb dX7_isShown_146 (by decide) ?_
    refine lv_icmp_ne (tgt := 160) hx hb dX7_isShown_148 (by decide) (fun c32 => ?_) (fun c32 => ?_)
    · have hf := (if_neg c32).symm.trans hf
      exact L160 _ _ _ _ hf hw (lv_sub hl [0, 1, 3, 4, 5] rfl)
    · have hf := (if_pos c32).symm.trans hf
      refine lv_iload_n hx hb dX7_isShown_151 rfl (lv_at hl 2 rfl) ?_
      refine lv_iconst (v := 3) hx hb dX7_isShown_152 (by decide) ?_
      refine lv_icmp_ne (tgt := 160) hx hb dX7_isShown_153 (by decide) (fun c33 => ?_) (fun c33 => ?_)
      · have hf := (if_neg c33).symm.trans hf
        exact L160 _ _ _ _ hf hw (lv_sub hl [0, 1, 3, 4, 5] rfl)
      · have hf := (if_pos c33).symm.trans hf
        exact L156 _ _ _ _ hf hw (lv_sub hl [0, 1, 3, 4, 5] rfl)
  have L135 : ∀ (τ : Tau) (H : Heap) (locs : List Loc) (ls : Array Slot), fX7_isShown_135 p1 p2 p3 p4 p5 τ = some R → Wd ΛM 12 D cA ad A s a τ H locs → lv_has ls 11 [(0, .ref (adr ad a 0)), (1, .int p1), (2, .int p2), (3, .int p3), (4, .int p4), (5, .int p5)] → W p l e Rm s m args below meth c H locs 0 0 Q (F0 m 135 ls []) := by
    intro τ H locs ls hf hw hl
    unfold fX7_isShown_135 at hf
    refine lv_iload_n hx hb dX7_isShown_135 rfl (lv_at hl 1 rfl) ?_
    refine lv_iconst (v := 3) hx hb dX7_isShown_136 (by decide) ?_
    refine lv_icmp_ne (tgt := 145) hx hb dX7_isShown_137 (by decide) (fun c30 => ?_) (fun c30 => ?_)
    · have hf := (if_neg c30).symm.trans hf
      exact L145 _ _ _ _ hf hw (lv_sub hl [0, 1, 2, 3, 4, 5] rfl)
    · have hf := (if_pos c30).symm.trans hf
      refine lv_iload_n hx hb dX7_isShown_140 rfl (lv_at hl 2 rfl) ?_
      refine lv_iconst (v := 3) hx hb dX7_isShown_141 (by decide) ?_
      refine lv_icmp_eq (tgt := 156) hx hb dX7_isShown_142 (by decide) (fun c31 => ?_) (fun c31 => ?_)
      · have hf := (if_pos c31).symm.trans hf
        exact L156 _ _ _ _ hf hw (lv_sub hl [0, 1, 3, 4, 5] rfl)
      · have hf := (if_neg c31).symm.trans hf
        exact L145 _ _ _ _ hf hw (lv_sub hl [0, 1, 2, 3, 4, 5] rfl)
  have L125 : ∀ (τ : Tau) (H : Heap) (locs : List Loc) (ls : Array Slot), fX7_isShown_125 p1 p2 p3 p4 p5 τ = some R → Wd ΛM 12 D cA ad A s a τ H locs → lv_has ls 11 [(0, .ref (adr ad a 0)), (1, .int p1), (2, .int p2), (3, .int p3), (4, .int p4), (5, .int p5)] → W p l e Rm s m args below meth c H locs 0 0 Q (F0 m 125 ls []) := by
    intro τ H locs ls hf hw hl
    unfold fX7_isShown_125 at hf
    refine lv_iload_n hx hb dX7_isShown_125 rfl (lv_at hl 1 rfl) ?_
    refine lv_iconst (v := 2) hx hb dX7_isShown_126 (by decide) ?_
    refine lv_icmp_ne (tgt := 135) hx hb dX7_isShown_127 (by decide) (fun c28 => ?_) (fun c28 => ?_)
    · have hf := (if_neg c28).symm.trans hf
      exact L135 _ _ _ _ hf hw (lv_sub hl [0, 1, 2, 3, 4, 5] rfl)
    · have hf := (if_pos c28).symm.trans hf
      refine lv_iload_n hx hb dX7_isShown_130 rfl (lv_at hl 2 rfl) ?_
      refine lv_iconst (v := 1) hx hb dX7_isShown_131 (by decide) ?_
      refine lv_icmp_eq (tgt := 156) hx hb dX7_isShown_132 (by decide) (fun c29 => ?_) (fun c29 => ?_)
      · have hf := (if_pos c29).symm.trans hf
        exact L156 _ _ _ _ hf hw (lv_sub hl [0, 1, 3, 4, 5] rfl)
      · have hf := (if_neg c29).symm.trans hf
        exact L135 _ _ _ _ hf hw (lv_sub hl [0, 1, 2, 3, 4, 5] rfl)
  have L115 : ∀ (τ : Tau) (H : Heap) (locs : List Loc) (ls : Array Slot), fX7_isShown_115 p1 p2 p3 p4 p5 τ = some R → Wd ΛM 12 D cA ad A s a τ H locs → lv_has ls 11 [(0, .ref (adr ad a 0)), (1, .int p1), (2, .int p2), (3, .int p3), (4, .int p4), (5, .int p5)] → W p l e Rm s m args below meth c H locs 0 0 Q (F0 m 115 ls []) := by
    intro τ H locs ls hf hw hl
    unfold fX7_isShown_115 at hf
    refine lv_iload_n hx hb dX7_isShown_115 rfl (lv_at hl 1 rfl) ?_
    refine lv_iconst (v := 1) hx hb dX7_isShown_116 (by decide) ?_
    refine lv_icmp_ne (tgt := 125) hx hb dX7_isShown_117 (by decide) (fun c26 => ?_) (fun c26 => ?_)
    · have hf := (if_neg c26).symm.trans hf
      exact L125 _ _ _ _ hf hw (lv_sub hl [0, 1, 2, 3, 4, 5] rfl)
    · have hf := (if_pos c26).symm.trans hf
      refine lv_iload_n hx hb dX7_isShown_120 rfl (lv_at hl 2 rfl) ?_
      refine lv_iconst (v := 2) hx hb dX7_isShown_121 (by decide) ?_
      refine lv_icmp_eq (tgt := 156) hx hb dX7_isShown_122 (by decide) (fun c27 => ?_) (fun c27 => ?_)
      · have hf := (if_pos c27).symm.trans hf
        exact L156 _ _ _ _ hf hw (lv_sub hl [0, 1, 3, 4, 5] rfl)
      · have hf := (if_neg c27).symm.trans hf
        exact L125 _ _ _ _ hf hw (lv_sub hl [0, 1, 2, 3, 4, 5] rfl)
  have L83 : ∀ (τ : Tau) (z_0 : Int32) (H : Heap) (locs : List Loc) (ls : Array Slot), fX7_isShown_83 p1 p2 p3 p4 p5 τ z_0 = some R → Wd ΛM 12 D cA ad A s a τ H locs → lv_has ls 11 [(0, .ref (adr ad a 0)), (1, .int p1), (2, .int p2), (3, .int p3), (4, .int p4), (5, .int p5)] → W p l e Rm s m args below meth c H locs 0 0 Q (F0 m 83 ls [.int z_0]) := by
    intro τ z_0 H locs ls hf hw hl
    unfold fX7_isShown_83 at hf
    refine lv_istore (lv' := [(6, .int z_0), (0, .ref (adr ad a 0)), (1, .int p1), (2, .int p2), (3, .int p3), (4, .int p4), (5, .int p5)]) hx hb dX7_isShown_83 hl (by decide) rfl (fun ls hl => ?_)
    refine lv_iload hx hb dX7_isShown_85 (lv_at hl 0 rfl) ?_
    refine lv_bipush (v := (-9)) hx hb dX7_isShown_87 (by decide) ?_
    refine lv_icmp_eq (tgt := 107) hx hb dX7_isShown_89 (by decide) (fun c6 => ?_) (fun c6 => ?_)
    · have hf := (if_pos c6).symm.trans hf
      refine lv_iload_n hx hb dX7_isShown_107 rfl (lv_at hl 2 rfl) ?_
      refine lv_if_ne (tgt := 115) hx hb dX7_isShown_108 (by decide) (fun c7 => ?_) (fun c7 => ?_)
      · have hf := (if_neg c7).symm.trans hf
        exact L115 _ _ _ _ hf hw (lv_sub hl [1, 2, 3, 4, 5, 6] rfl)
      · have hf := (if_pos c7).symm.trans hf
        refine lv_iload_n hx hb dX7_isShown_111 rfl (lv_at hl 3 rfl) ?_
        refine lv_if_eq (tgt := 156) hx hb dX7_isShown_112 (by decide) (fun c8 => ?_) (fun c8 => ?_)
        · have hf := (if_pos c8).symm.trans hf
          exact L156 _ _ _ _ hf hw (lv_sub hl [1, 2, 4, 5, 6] rfl)
        · have hf := (if_neg c8).symm.trans hf
          exact L115 _ _ _ _ hf hw (lv_sub hl [1, 2, 3, 4, 5, 6] rfl)
    · have hf := (if_neg c6).symm.trans hf
      refine lv_aload_n hx hb dX7_isShown_92 rfl (lv_at hl 1 rfl) ?_
      refine lv_iload hx hb dX7_isShown_93 (lv_at hl 0 rfl) ?_
      obtain ⟨t9, et9, hf⟩ := ks_nm hf
      refine ks_putI hE hw 0 27 ltM_0 lyM_0 rfl fw_X7_201 rfl rfl dX7_isShown_95 (fun H locs hw => ?_)
      rw [← et9] at hw
      refine lv_aload_n hx hb dX7_isShown_98 rfl (lv_at hl 1 rfl) ?_
      refine lv_iload hx hb dX7_isShown_99 (lv_at hl 0 rfl) ?_
      refine lv_iload hx hb dX7_isShown_101 (lv_at hl 6 rfl) ?_
      obtain ⟨r10, er10, hf⟩ := ks_bind hf
      refine ke_V hE hw hl.1 cl_X7_207 0 ltM_0 lyM_0 rfl [.int z_0, .int p5] (c_X7_isBy l D cA st ad a _ _ _ _ er10) rfl (ke_room hRm rfl rfl) ke_cnt (Nat.le_of_ble_eq_true rfl) rfl dX7_isShown_103 (fun H locs hw => ?_)
      refine W.eq (g2 := F0 m 106 ls (.int (bI r10) :: [])) rfl ?_
      replace hf := Option.some.inj hf
      subst hf
      exact ke_zret hE hw hQ (bI01 _) dX7_isShown_106 rfl rfl
  have L81 : ∀ (τ : Tau) (H : Heap) (locs : List Loc) (ls : Array Slot), fX7_isShown_81 p1 p2 p3 p4 p5 τ = some R → Wd ΛM 12 D cA ad A s a τ H locs → lv_has ls 11 [(0, .ref (adr ad a 0)), (1, .int p1), (2, .int p2), (3, .int p3), (4, .int p4), (5, .int p5)] → W p l e Rm s m args below meth c H locs 0 0 Q (F0 m 81 ls []) := by
    intro τ H locs ls hf hw hl
    unfold fX7_isShown_81 at hf
    refine lv_bipush (v := (-9)) hx hb dX7_isShown_81 (by decide) ?_
    exact L83 _ _ _ _ _ hf hw (lv_sub hl [0, 1, 2, 3, 4, 5] rfl)
  have L61 : ∀ (τ : Tau) (H : Heap) (locs : List Loc) (ls : Array Slot), fX7_isShown_61 p1 p2 p3 p4 p5 τ = some R → Wd ΛM 12 D cA ad A s a τ H locs → lv_has ls 11 [(0, .ref (adr ad a 0)), (1, .int p1), (2, .int p2), (3, .int p3), (4, .int p4), (5, .int p5)] → W p l e Rm s m args below meth c H locs 0 0 Q (F0 m 61 ls []) := by
    intro τ H locs ls hf hw hl
    unfold fX7_isShown_61 at hf
    refine lv_iload_n hx hb dX7_isShown_61 rfl (lv_at hl 1 rfl) ?_
    refine lv_bipush (v := 8) hx hb dX7_isShown_62 (by decide) ?_
    refine lv_icmp_ne (tgt := 81) hx hb dX7_isShown_64 (by decide) (fun c36 => ?_) (fun c36 => ?_)
    · have hf := (if_neg c36).symm.trans hf
      exact L81 _ _ _ _ hf hw (lv_sub hl [0, 1, 2, 3, 4, 5] rfl)
    · have hf := (if_pos c36).symm.trans hf
      refine lv_iload_n hx hb dX7_isShown_67 rfl (lv_at hl 2 rfl) ?_
      refine lv_iconst (v := 1) hx hb dX7_isShown_68 (by decide) ?_
      refine lv_icmp_ne (tgt := 81) hx hb dX7_isShown_69 (by decide) (fun c37 => ?_) (fun c37 => ?_)
      · have hf := (if_neg c37).symm.trans hf
        exact L81 _ _ _ _ hf hw (lv_sub hl [0, 1, 2, 3, 4, 5] rfl)
      · have hf := (if_pos c37).symm.trans hf
        refine lv_iconst (v := 4) hx hb dX7_isShown_72 (by decide) ?_
        refine lv_iload_n hx hb dX7_isShown_73 rfl (lv_at hl 3 rfl) ?_
        refine lv_imul hx hb dX7_isShown_74 ?_
        refine lv_iload hx hb dX7_isShown_75 (lv_at hl 4 rfl) ?_
        refine lv_iadd hx hb dX7_isShown_77 ?_
        refine lv_goto (tgt := 83) hx hb dX7_isShown_78 (by decide) ?_
        exact L83 _ _ _ _ _ hf hw (lv_sub hl [0, 1, 2, 3, 4, 5] rfl)
  have L39 : ∀ (τ : Tau) (H : Heap) (locs : List Loc) (ls : Array Slot), fX7_isShown_39 p1 p2 p3 p4 p5 τ = some R → Wd ΛM 12 D cA ad A s a τ H locs → lv_has ls 11 [(0, .ref (adr ad a 0)), (1, .int p1), (2, .int p2), (3, .int p3), (4, .int p4), (5, .int p5)] → W p l e Rm s m args below meth c H locs 0 0 Q (F0 m 39 ls []) := by
    intro τ H locs ls hf hw hl
    unfold fX7_isShown_39 at hf
    refine lv_iload_n hx hb dX7_isShown_39 rfl (lv_at hl 1 rfl) ?_
    refine lv_iconst (v := 5) hx hb dX7_isShown_40 (by decide) ?_
    refine lv_icmp_ne (tgt := 61) hx hb dX7_isShown_41 (by decide) (fun c34 => ?_) (fun c34 => ?_)
    · have hf := (if_neg c34).symm.trans hf
      exact L61 _ _ _ _ hf hw (lv_sub hl [0, 1, 2, 3, 4, 5] rfl)
    · have hf := (if_pos c34).symm.trans hf
      refine lv_iload_n hx hb dX7_isShown_44 rfl (lv_at hl 2 rfl) ?_
      refine lv_iconst (v := 1) hx hb dX7_isShown_45 (by decide) ?_
      refine lv_icmp_ne (tgt := 61) hx hb dX7_isShown_46 (by decide) (fun c35 => ?_) (fun c35 => ?_)
      · have hf := (if_neg c35).symm.trans hf
        exact L61 _ _ _ _ hf hw (lv_sub hl [0, 1, 2, 3, 4, 5] rfl)
      · have hf := (if_pos c35).symm.trans hf
        refine lv_bipush (v := 16) hx hb dX7_isShown_49 (by decide) ?_
        refine lv_iconst (v := 4) hx hb dX7_isShown_51 (by decide) ?_
        refine lv_iload hx hb dX7_isShown_52 (lv_at hl 4 rfl) ?_
        refine lv_imul hx hb dX7_isShown_54 ?_
        refine lv_iadd hx hb dX7_isShown_55 ?_
        refine lv_iload_n hx hb dX7_isShown_56 rfl (lv_at hl 3 rfl) ?_
        refine lv_iadd hx hb dX7_isShown_57 ?_
        refine lv_goto (tgt := 83) hx hb dX7_isShown_58 (by decide) ?_
        exact L83 _ _ _ _ _ hf hw (lv_sub hl [0, 1, 2, 3, 4, 5] rfl)
  unfold fX7_isShown at hf
  refine lv_aload_n hx hb dX7_isShown_0 rfl (lv_at hl 0 rfl) ?_
  refine lv_iload_n hx hb dX7_isShown_1 rfl (lv_at hl 1 rfl) ?_
  obtain ⟨t1, et1, hf⟩ := ks_nm hf
  refine ks_putI hE hw 0 26 ltM_0 lyM_0 rfl fw_X7_198 rfl rfl dX7_isShown_2 (fun H locs hw => ?_)
  rw [← et1] at hw
  refine lv_aload_n hx hb dX7_isShown_5 rfl (lv_at hl 0 rfl) ?_
  refine lv_bipush (v := (-9)) hx hb dX7_isShown_6 (by decide) ?_
  obtain ⟨t2, et2, hf⟩ := ks_nm hf
  refine ks_putI hE hw 0 27 ltM_0 lyM_0 rfl fw_X7_201 rfl rfl dX7_isShown_8 (fun H locs hw => ?_)
  rw [← et2] at hw
  refine lv_aload_n hx hb dX7_isShown_11 rfl (lv_at hl 0 rfl) ?_
  refine lv_bipush (v := (-9)) hx hb dX7_isShown_12 (by decide) ?_
  obtain ⟨t3, et3, hf⟩ := ks_nm hf
  refine ks_putI hE hw 0 28 ltM_0 lyM_0 rfl fw_X7_204 rfl rfl dX7_isShown_14 (fun H locs hw => ?_)
  rw [← et3] at hw
  refine lv_iload_n hx hb dX7_isShown_17 rfl (lv_at hl 1 rfl) ?_
  refine lv_iconst (v := 4) hx hb dX7_isShown_18 (by decide) ?_
  refine lv_icmp_ne (tgt := 39) hx hb dX7_isShown_19 (by decide) (fun c4 => ?_) (fun c4 => ?_)
  · have hf := (if_neg c4).symm.trans hf
    exact L39 _ _ _ _ hf hw (lv_sub hl [0, 1, 2, 3, 4, 5] rfl)
  · have hf := (if_pos c4).symm.trans hf
    refine lv_iload_n hx hb dX7_isShown_22 rfl (lv_at hl 2 rfl) ?_
    refine lv_iconst (v := 2) hx hb dX7_isShown_23 (by decide) ?_
    refine lv_icmp_ne (tgt := 39) hx hb dX7_isShown_24 (by decide) (fun c5 => ?_) (fun c5 => ?_)
    · have hf := (if_neg c5).symm.trans hf
      exact L39 _ _ _ _ hf hw (lv_sub hl [0, 1, 2, 3, 4, 5] rfl)
    · have hf := (if_pos c5).symm.trans hf
      refine lv_bipush (v := 32) hx hb dX7_isShown_27 (by decide) ?_
      refine lv_iconst (v := 4) hx hb dX7_isShown_29 (by decide) ?_
      refine lv_iload hx hb dX7_isShown_30 (lv_at hl 4 rfl) ?_
      refine lv_imul hx hb dX7_isShown_32 ?_
      refine lv_iadd hx hb dX7_isShown_33 ?_
      refine lv_iload_n hx hb dX7_isShown_34 rfl (lv_at hl 3 rfl) ?_
      refine lv_iadd hx hb dX7_isShown_35 ?_
      refine lv_goto (tgt := 83) hx hb dX7_isShown_36 (by decide) ?_
      exact L83 _ _ _ _ _ hf hw (lv_sub hl [0, 1, 2, 3, 4, 5] rfl)
def fX7_isTold_44 (τ : Tau) (p1 : Int32) (p2 : Int32) (k5 : Int32 → Int32 → Option Bool) (x_4 : Int32) (z_0 : Int32) (z_1 : Int32) : Option Bool :=
 nm (z_1 ||| z_0) (fun x6 =>
     nm (x_4 + (1 : Int32)) (fun x7 =>
     k5 x6 x7))
def fX7_isTold_43 (τ : Tau) (p1 : Int32) (p2 : Int32) (k5 : Int32 → Int32 → Option Bool) (x_4 : Int32) (z_0 : Int32) : Option Bool :=
 fX7_isTold_44 τ p1 p2 k5 x_4 (0 : Int32) z_0
def fX7_isTold_5 (τ : Tau) (p1 : Int32) (p2 : Int32) : Nat → Int32 → Int32 → Option Bool
  | 0, _, _ => none
  | n + 1, x_3, x_4 =>
     (if (10 : Int32) ≤ x_4 then
     (if x_3 = 0 ∨ x_3 = 1 then
     some (decide (x_3 = 1)) else none)
     else
     (if ((p1 >>> (x_4 &&& 31)) &&& (1 : Int32)) = (1 : Int32) then
     (if (((6 : Int32) * x_4) + (5 : Int32)) < 0 ∨ 60 ≤ (((6 : Int32) * x_4) + (5 : Int32)).toNatClampNeg then none else
     (if tA τ 3 (((6 : Int32) * x_4) + (5 : Int32)).toNatClampNeg = p2 then
     fX7_isTold_44 τ p1 p2 (fX7_isTold_5 τ p1 p2 n) x_4 (1 : Int32) x_3
     else
     fX7_isTold_43 τ p1 p2 (fX7_isTold_5 τ p1 p2 n) x_4 x_3))
     else
     fX7_isTold_43 τ p1 p2 (fX7_isTold_5 τ p1 p2 n) x_4 x_3))
def fX7_isTold (τ : Tau) (p1 : Int32) (p2 : Int32) : Option Bool :=
 fX7_isTold_5 τ p1 p2 FU (0 : Int32) (0 : Int32)
set_option maxHeartbeats 4000000 in
set_option maxRecDepth 100000 in
theorem c_X7_isTold (l : Launch) (D : va_G) (cA : Nat → ClassId) (st ad : Nat → Nat) (a : Nat)  (τ : Tau) (p1 : Int32) (p2 : Int32) (R : Bool) (hf : fX7_isTold τ p1 p2 = some R) : KE ΛM 12 D cA st ad l yX7_isTold cX7_isTold 5 (some .boolean) 0 0 [.ref (adr ad a 0), .int p1, .int p2] a τ (some (.int (bI R))) τ := by
  refine KE.of "KindSayingsModel" rfl (by decide) (Nat.le_of_ble_eq_true rfl) (fun p e s m args below meth c A ls Rm Q hE hRm hQ hw hl => ?_)
  obtain ⟨hx, hb, hml, hown, hts, -⟩ := id hE
  have hl : lv_has ls 5 [(0, .ref (adr ad a 0)), (1, .int p1), (2, .int p2)] := hl
  have L5 : ∀ (n5 : Nat) (x_3 : Int32) (x_4 : Int32) (H : Heap) (locs : List Loc) (ls : Array Slot), fX7_isTold_5 τ p1 p2 n5 x_3 x_4 = some R → Wd ΛM 12 D cA ad A s a τ H locs → lv_has ls 5 [(0, .ref (adr ad a 0)), (1, .int p1), (2, .int p2), (3, .int x_3), (4, .int x_4)] → W p l e Rm s m args below meth c H locs 0 0 Q (F0 m 5 ls []) := by
    intro n5
    induction n5 with
    | zero => intro x_3 x_4 H locs ls hf hw hl; exact absurd hf (by rw [fX7_isTold_5]; simp)
    | succ n5 ih5 =>
      have L44 : ∀ (x_4 : Int32) (z_0 : Int32) (z_1 : Int32) (H : Heap) (locs : List Loc) (ls : Array Slot), fX7_isTold_44 τ p1 p2 (fX7_isTold_5 τ p1 p2 n5) x_4 z_0 z_1 = some R → Wd ΛM 12 D cA ad A s a τ H locs → lv_has ls 5 [(0, .ref (adr ad a 0)), (1, .int p1), (2, .int p2), (4, .int x_4)] → W p l e Rm s m args below meth c H locs 0 0 Q (F0 m 44 ls [.int z_0, .int z_1]) := by
        intro x_4 z_0 z_1 H locs ls hf hw hl
        unfold fX7_isTold_44 at hf
        refine lv_ior hx hb dX7_isTold_44 ?_
        obtain ⟨x6, ex6, hf⟩ := ks_nm hf
        refine W.eq (g2 := F0 m 45 ls (.int x6 :: [])) (by rw [ex6]) ?_
        refine lv_istore_n (lv' := [(3, .int x6), (0, .ref (adr ad a 0)), (1, .int p1), (2, .int p2), (4, .int x_4)]) hx hb dX7_isTold_45 rfl hl (by decide) rfl (fun ls hl => ?_)
        obtain ⟨x7, ex7, hf⟩ := ks_nm hf
        refine lv_iinc (v := x7) (lv' := [(4, .int x7), (3, .int x6), (0, .ref (adr ad a 0)), (1, .int p1), (2, .int p2)]) hx hb dX7_isTold_46 hl (k := 4) rfl (by rw [ex7]; rfl) (by decide) rfl (fun ls hl => ?_)
        refine lv_goto (tgt := 5) hx hb dX7_isTold_49 (by decide) ?_
        exact ih5 _ _ _ _ _ hf hw (lv_sub hl [2, 3, 4, 1, 0] rfl)
      have L43 : ∀ (x_4 : Int32) (z_0 : Int32) (H : Heap) (locs : List Loc) (ls : Array Slot), fX7_isTold_43 τ p1 p2 (fX7_isTold_5 τ p1 p2 n5) x_4 z_0 = some R → Wd ΛM 12 D cA ad A s a τ H locs → lv_has ls 5 [(0, .ref (adr ad a 0)), (1, .int p1), (2, .int p2), (4, .int x_4)] → W p l e Rm s m args below meth c H locs 0 0 Q (F0 m 43 ls [.int z_0]) := by
        intro x_4 z_0 H locs ls hf hw hl
        unfold fX7_isTold_43 at hf
        refine lv_iconst (v := 0) hx hb dX7_isTold_43 (by decide) ?_
        exact L44 _ _ _ _ _ _ hf hw (lv_sub hl [0, 1, 2, 3] rfl)
      intro x_3 x_4 H locs ls hf hw hl
      rw [fX7_isTold_5] at hf
      refine lv_iload hx hb dX7_isTold_5 (lv_at hl 4 rfl) ?_
      refine lv_bipush (v := 10) hx hb dX7_isTold_7 (by decide) ?_
      refine lv_icmp_ge (tgt := 52) hx hb dX7_isTold_9 (by decide) (fun c1 => ?_) (fun c1 => ?_)
      · have hf := (if_pos c1).symm.trans hf
        refine lv_iload_n hx hb dX7_isTold_52 rfl (lv_at hl 3 rfl) ?_
        obtain ⟨b2, hf⟩ := ks_need hf
        replace hf := Option.some.inj hf
        subst hf
        exact ke_zret hE hw hQ b2 dX7_isTold_53 (bI_of b2) rfl
      · have hf := (if_neg c1).symm.trans hf
        refine lv_iload_n hx hb dX7_isTold_12 rfl (lv_at hl 3 rfl) ?_
        refine lv_iload_n hx hb dX7_isTold_13 rfl (lv_at hl 1 rfl) ?_
        refine lv_iload hx hb dX7_isTold_14 (lv_at hl 4 rfl) ?_
        refine lv_ishr hx hb dX7_isTold_16 ?_
        refine lv_iconst (v := 1) hx hb dX7_isTold_17 (by decide) ?_
        refine lv_iand hx hb dX7_isTold_18 ?_
        refine lv_iconst (v := 1) hx hb dX7_isTold_19 (by decide) ?_
        refine lv_icmp_ne (tgt := 43) hx hb dX7_isTold_20 (by decide) (fun c3 => ?_) (fun c3 => ?_)
        · have hf := (if_neg c3).symm.trans hf
          exact L43 _ _ _ _ _ hf hw (lv_sub hl [0, 1, 2, 4] rfl)
        · have hf := (if_pos c3).symm.trans hf
          refine lv_aload_n hx hb dX7_isTold_23 rfl (lv_at hl 0 rfl) ?_
          refine ks_getR hE hw 0 13 ltM_0 lyM_0 rfl fd_X7_26 dX7_isTold_24 ?_
          refine lv_bipush (v := 6) hx hb dX7_isTold_27 (by decide) ?_
          refine lv_iload hx hb dX7_isTold_29 (lv_at hl 4 rfl) ?_
          refine lv_imul hx hb dX7_isTold_31 ?_
          refine lv_iconst (v := 5) hx hb dX7_isTold_32 (by decide) ?_
          refine lv_iadd hx hb dX7_isTold_33 ?_
          obtain ⟨b4, hf⟩ := ks_ok hf
          refine ks_iald hE hw 3 ltM_3 lyM_3 b4 dX7_isTold_34 ?_
          refine lv_iload_n hx hb dX7_isTold_35 rfl (lv_at hl 2 rfl) ?_
          refine lv_icmp_ne (tgt := 43) hx hb dX7_isTold_36 (by decide) (fun c5 => ?_) (fun c5 => ?_)
          · have hf := (if_neg c5).symm.trans hf
            exact L43 _ _ _ _ _ hf hw (lv_sub hl [0, 1, 2, 4] rfl)
          · have hf := (if_pos c5).symm.trans hf
            refine lv_iconst (v := 1) hx hb dX7_isTold_39 (by decide) ?_
            refine lv_goto (tgt := 44) hx hb dX7_isTold_40 (by decide) ?_
            exact L44 _ _ _ _ _ _ hf hw (lv_sub hl [0, 1, 2, 4] rfl)
  unfold fX7_isTold at hf
  refine lv_iconst (v := 0) hx hb dX7_isTold_0 (by decide) ?_
  refine lv_istore_n (lv' := [(3, .int (0 : Int32)), (0, .ref (adr ad a 0)), (1, .int p1), (2, .int p2)]) hx hb dX7_isTold_1 rfl hl (by decide) rfl (fun ls hl => ?_)
  refine lv_iconst (v := 0) hx hb dX7_isTold_2 (by decide) ?_
  refine lv_istore (lv' := [(4, .int (0 : Int32)), (3, .int (0 : Int32)), (0, .ref (adr ad a 0)), (1, .int p1), (2, .int p2)]) hx hb dX7_isTold_3 hl (by decide) rfl (fun ls hl => ?_)
  exact L5 FU _ _ _ _ _ hf hw (lv_sub hl [2, 3, 4, 1, 0] rfl)
def fX7_shows_259 (p1 : Int32) (k90 : Tau → Int32 → Option Tau) (τ : Tau) (x_2 : Int32) (z_0 : Int32) (z_1 : Int32) : Option Tau :=
 nm (sI τ 0 25 (z_1 + z_0)) (fun t31 =>
     k90 t31 x_2)
def fX7_shows_239 (p1 : Int32) (k90 : Tau → Int32 → Option Tau) (k98 : Tau → Int32 → Int32 → Option Tau) (τ : Tau) (x_2 : Int32) (x_3 : Int32) : Option Tau :=
 nm (x_3 + (1 : Int32)) (fun x30 =>
     k98 τ x_2 x30)
def fX7_shows_220 (p1 : Int32) (k90 : Tau → Int32 → Option Tau) (k98 : Tau → Int32 → Int32 → Option Tau) (τ : Tau) (x_2 : Int32) (x_3 : Int32) (x_5 : Int32) : Option Tau :=
 (if x_5 = 0 then
     fX7_shows_239 p1 k90 k98 τ x_2 x_3
     else
    (if x_3 < 0 ∨ 64 ≤ x_3.toNatClampNeg then none else
     nm (sA τ 11 x_3.toNatClampNeg (tI τ 0 25 + (1 : Int32))) (fun t29 =>
     fX7_shows_239 p1 k90 k98 t29 (1 : Int32) x_3)))
def fX7_shows_212 (p1 : Int32) (k90 : Tau → Int32 → Option Tau) (k98 : Tau → Int32 → Int32 → Option Tau) (k150 : Tau → Int32 → Int32 → Int32 → Int32 → Int32 → Option Tau) (τ : Tau) (x_2 : Int32) (x_3 : Int32) (x_4 : Int32) (x_6 : Int32) (z_0 : Int32) : Option Tau :=
 nm (x_6 + (1 : Int32)) (fun x26 =>
     k150 τ x_2 x_3 x_4 z_0 x26)
def fX7_shows_211 (p1 : Int32) (k90 : Tau → Int32 → Option Tau) (k98 : Tau → Int32 → Int32 → Option Tau) (k150 : Tau → Int32 → Int32 → Int32 → Int32 → Int32 → Option Tau) (τ : Tau) (x_2 : Int32) (x_3 : Int32) (x_4 : Int32) (x_6 : Int32) : Option Tau :=
 fX7_shows_212 p1 k90 k98 k150 τ x_2 x_3 x_4 x_6 (0 : Int32)
def fX7_shows_150 (p1 : Int32) (k90 : Tau → Int32 → Option Tau) (k98 : Tau → Int32 → Int32 → Option Tau) : Nat → Tau → Int32 → Int32 → Int32 → Int32 → Int32 → Option Tau
  | 0, _, _, _, _, _, _ => none
  | n + 1, τ, x_2, x_3, x_4, x_5, x_6 =>
     (if (9 : Int32) ≤ x_6 then
     fX7_shows_220 p1 k90 k98 τ x_2 x_3 x_5
     else
     (if x_4 = 0 then
     fX7_shows_220 p1 k90 k98 τ x_2 x_3 x_5
     else
     (if x_5 = 0 then
     (if ((tI τ 0 3 >>> (x_6 &&& 31)) &&& (1 : Int32)) = (1 : Int32) then
     Option.bind (fX7_isShown τ x_6 (x_3 / (16 : Int32)) ((x_3 / (4 : Int32)) - (x_3 / (4 : Int32)) / (4 : Int32) * (4 : Int32)) (x_3 - x_3 / (4 : Int32) * (4 : Int32)) (tI τ 0 25 + (1 : Int32))) (fun r24 =>
     (if bI r24.1 = 0 then
     fX7_shows_211 p1 k90 k98 (fX7_shows_150 p1 k90 k98 n) r24.2 x_2 x_3 x_4 x_6
     else
     fX7_shows_212 p1 k90 k98 (fX7_shows_150 p1 k90 k98 n) r24.2 x_2 x_3 x_4 x_6 (1 : Int32)))
     else
     fX7_shows_211 p1 k90 k98 (fX7_shows_150 p1 k90 k98 n) τ x_2 x_3 x_4 x_6)
     else
     fX7_shows_220 p1 k90 k98 τ x_2 x_3 x_5)))
def fX7_shows_142 (p1 : Int32) (k90 : Tau → Int32 → Option Tau) (k98 : Tau → Int32 → Int32 → Option Tau) (τ : Tau) (x_2 : Int32) (x_3 : Int32) (z_0 : Int32) : Option Tau :=
 fX7_shows_150 p1 k90 k98 FU τ x_2 x_3 z_0 (0 : Int32) (0 : Int32)
def fX7_shows_141 (p1 : Int32) (k90 : Tau → Int32 → Option Tau) (k98 : Tau → Int32 → Int32 → Option Tau) (τ : Tau) (x_2 : Int32) (x_3 : Int32) : Option Tau :=
 fX7_shows_142 p1 k90 k98 τ x_2 x_3 (0 : Int32)
def fX7_shows_98 (p1 : Int32) (k90 : Tau → Int32 → Option Tau) : Nat → Tau → Int32 → Int32 → Option Tau
  | 0, _, _, _ => none
  | n + 1, τ, x_2, x_3 =>
     (if (64 : Int32) ≤ x_3 then
     (if x_2 = 0 then
     fX7_shows_259 p1 k90 τ x_2 (0 : Int32) (tI τ 0 25)
     else
     fX7_shows_259 p1 k90 τ x_2 (1 : Int32) (tI τ 0 25))
     else
     (if tI τ 0 1 ≤ ((x_3 / (4 : Int32)) - (x_3 / (4 : Int32)) / (4 : Int32) * (4 : Int32)) then
     fX7_shows_141 p1 k90 (fX7_shows_98 p1 k90 n) τ x_2 x_3
     else
     (if tI τ 0 1 ≤ (x_3 - x_3 / (4 : Int32) * (4 : Int32)) then
     fX7_shows_141 p1 k90 (fX7_shows_98 p1 k90 n) τ x_2 x_3
     else
     (if x_3 < 0 ∨ 64 ≤ x_3.toNatClampNeg then none else
     (if tA τ 11 x_3.toNatClampNeg = (-9 : Int32) then
     fX7_shows_142 p1 k90 (fX7_shows_98 p1 k90 n) τ x_2 x_3 (1 : Int32)
     else
     fX7_shows_141 p1 k90 (fX7_shows_98 p1 k90 n) τ x_2 x_3)))))
def fX7_shows_90 (p1 : Int32) : Nat → Tau → Int32 → Option Tau
  | 0, _, _ => none
  | n + 1, τ, x_2 =>
     (if x_2 = 0 then
     some τ
     else
     fX7_shows_98 p1 (fX7_shows_90 p1 n) FU τ (0 : Int32) (0 : Int32))
def fX7_shows_76 (p1 : Int32) (k2 : Tau → Int32 → Option Tau) (τ : Tau) (x_2 : Int32) (z_0 : Int32) (z_1 : Int32) : Option Tau :=
 (if z_1 < 0 ∨ 64 ≤ z_1.toNatClampNeg then none else
     nm (sA τ 11 z_1.toNatClampNeg z_0) (fun t11 =>
     nm (x_2 + (1 : Int32)) (fun x12 =>
     k2 t11 x12)))
def fX7_shows_70 (p1 : Int32) (k2 : Tau → Int32 → Option Tau) (τ : Tau) (x_2 : Int32) (z_0 : Int32) : Option Tau :=
 fX7_shows_76 p1 k2 τ x_2 (0 : Int32) z_0
def fX7_shows_51 (p1 : Int32) (k2 : Tau → Int32 → Option Tau) (τ : Tau) (x_2 : Int32) (z_0 : Int32) : Option Tau :=
 (if z_0 = 0 then
     Option.bind (fX7_isTold τ p1 x_2) (fun r8 =>
    (if bI r8 = 0 then
     fX7_shows_76 p1 k2 τ x_2 (-9 : Int32) x_2
     else
     fX7_shows_70 p1 k2 τ x_2 x_2))
     else
     fX7_shows_70 p1 k2 τ x_2 x_2)
def fX7_shows_50 (p1 : Int32) (k2 : Tau → Int32 → Option Tau) (τ : Tau) (x_2 : Int32) : Option Tau :=
 fX7_shows_51 p1 k2 τ x_2 (0 : Int32)
def fX7_shows_2 (p1 : Int32) : Nat → Tau → Int32 → Option Tau
  | 0, _, _ => none
  | n + 1, τ, x_2 =>
     (if (64 : Int32) ≤ x_2 then
     nm (sI τ 0 25 (0 : Int32)) (fun t2 =>
     fX7_shows_90 p1 FU t2 (1 : Int32))
     else
     (if (16 : Int32) ≤ x_2 then
     fX7_shows_50 p1 (fX7_shows_2 p1 n) τ x_2
     else
     (if (x_2 / (4 : Int32)) = (x_2 - x_2 / (4 : Int32) * (4 : Int32)) then
     (if tI τ 0 1 ≤ (x_2 / (4 : Int32)) then
     fX7_shows_50 p1 (fX7_shows_2 p1 n) τ x_2
     else
     (if ((tI τ 0 3 >>> ((7 : Int32) &&& 31)) &&& (1 : Int32)) = (1 : Int32) then
     fX7_shows_51 p1 (fX7_shows_2 p1 n) τ x_2 (1 : Int32)
     else
     fX7_shows_50 p1 (fX7_shows_2 p1 n) τ x_2))
     else
     fX7_shows_50 p1 (fX7_shows_2 p1 n) τ x_2)))
def fX7_shows  (τ : Tau) (p1 : Int32) : Option Tau :=
 fX7_shows_2 p1 FU τ (0 : Int32)
set_option maxHeartbeats 4000000 in
set_option maxRecDepth 100000 in
theorem c_X7_shows (l : Launch) (D : va_G) (cA : Nat → ClassId) (st ad : Nat → Nat) (a : Nat)  (τ : Tau) (p1 : Int32) (R : Tau) (hf : fX7_shows τ p1 = some R) : KE ΛM 12 D cA st ad l yX7_shows cX7_shows 7 none 2 52 [.ref (adr ad a 0), .int p1] a τ (none) R := by
  refine KE.of "KindSayingsModel" rfl (by decide) (Nat.le_of_ble_eq_true rfl) (fun p e s m args below meth c A ls Rm Q hE hRm hQ hw hl => ?_)
  obtain ⟨hx, hb, hml, hown, hts, -⟩ := id hE
  have hl : lv_has ls 7 [(0, .ref (adr ad a 0)), (1, .int p1)] := hl
  have L90 : ∀ (n90 : Nat) (τ : Tau) (x_2 : Int32) (H : Heap) (locs : List Loc) (ls : Array Slot), fX7_shows_90 p1 n90 τ x_2 = some R → Wd ΛM 12 D cA ad A s a τ H locs → lv_has ls 7 [(0, .ref (adr ad a 0)), (2, .int x_2)] → W p l e Rm s m args below meth c H locs 0 0 Q (F0 m 90 ls []) := by
    intro n90
    induction n90 with
    | zero => intro τ x_2 H locs ls hf hw hl; exact absurd hf (by rw [fX7_shows_90]; simp)
    | succ n90 ih90 =>
      have L259 : ∀ (τ : Tau) (x_2 : Int32) (z_0 : Int32) (z_1 : Int32) (H : Heap) (locs : List Loc) (ls : Array Slot), fX7_shows_259 p1 (fX7_shows_90 p1 n90) τ x_2 z_0 z_1 = some R → Wd ΛM 12 D cA ad A s a τ H locs → lv_has ls 7 [(0, .ref (adr ad a 0)), (2, .int x_2)] → W p l e Rm s m args below meth c H locs 0 0 Q (F0 m 259 ls [.int z_0, .int z_1, .ref (adr ad a 0)]) := by
        intro τ x_2 z_0 z_1 H locs ls hf hw hl
        unfold fX7_shows_259 at hf
        refine lv_iadd hx hb dX7_shows_259 ?_
        obtain ⟨t31, et31, hf⟩ := ks_nm hf
        refine ks_putI hE hw 0 25 ltM_0 lyM_0 rfl fw_X7_213 rfl rfl dX7_shows_260 (fun H locs hw => ?_)
        rw [← et31] at hw
        refine lv_goto (tgt := 90) hx hb dX7_shows_263 (by decide) ?_
        exact ih90 _ _ _ _ _ hf hw (lv_sub hl [0, 1] rfl)
      have L98 : ∀ (n98 : Nat) (τ : Tau) (x_2 : Int32) (x_3 : Int32) (H : Heap) (locs : List Loc) (ls : Array Slot), fX7_shows_98 p1 (fX7_shows_90 p1 n90) n98 τ x_2 x_3 = some R → Wd ΛM 12 D cA ad A s a τ H locs → lv_has ls 7 [(0, .ref (adr ad a 0)), (2, .int x_2), (3, .int x_3)] → W p l e Rm s m args below meth c H locs 0 0 Q (F0 m 98 ls []) := by
        intro n98
        induction n98 with
        | zero => intro τ x_2 x_3 H locs ls hf hw hl; exact absurd hf (by rw [fX7_shows_98]; simp)
        | succ n98 ih98 =>
          have L239 : ∀ (τ : Tau) (x_2 : Int32) (x_3 : Int32) (H : Heap) (locs : List Loc) (ls : Array Slot), fX7_shows_239 p1 (fX7_shows_90 p1 n90) (fX7_shows_98 p1 (fX7_shows_90 p1 n90) n98) τ x_2 x_3 = some R → Wd ΛM 12 D cA ad A s a τ H locs → lv_has ls 7 [(0, .ref (adr ad a 0)), (2, .int x_2), (3, .int x_3)] → W p l e Rm s m args below meth c H locs 0 0 Q (F0 m 239 ls []) := by
            intro τ x_2 x_3 H locs ls hf hw hl
            unfold fX7_shows_239 at hf
            obtain ⟨x30, ex30, hf⟩ := ks_nm hf
            refine lv_iinc (v := x30) (lv' := [(3, .int x30), (0, .ref (adr ad a 0)), (2, .int x_2)]) hx hb dX7_shows_239 hl (k := 2) rfl (by rw [ex30]; rfl) (by decide) rfl (fun ls hl => ?_)
            refine lv_goto (tgt := 98) hx hb dX7_shows_242 (by decide) ?_
            exact ih98 _ _ _ _ _ _ hf hw (lv_sub hl [1, 2, 0] rfl)
          have L220 : ∀ (τ : Tau) (x_2 : Int32) (x_3 : Int32) (x_5 : Int32) (H : Heap) (locs : List Loc) (ls : Array Slot), fX7_shows_220 p1 (fX7_shows_90 p1 n90) (fX7_shows_98 p1 (fX7_shows_90 p1 n90) n98) τ x_2 x_3 x_5 = some R → Wd ΛM 12 D cA ad A s a τ H locs → lv_has ls 7 [(0, .ref (adr ad a 0)), (2, .int x_2), (3, .int x_3), (5, .int x_5)] → W p l e Rm s m args below meth c H locs 0 0 Q (F0 m 220 ls []) := by
            intro τ x_2 x_3 x_5 H locs ls hf hw hl
            unfold fX7_shows_220 at hf
            refine lv_iload hx hb dX7_shows_220 (lv_at hl 3 rfl) ?_
            refine lv_if_eq (tgt := 239) hx hb dX7_shows_222 (by decide) (fun c27 => ?_) (fun c27 => ?_)
            · have hf := (if_pos c27).symm.trans hf
              exact L239 _ _ _ _ _ _ hf hw (lv_sub hl [0, 1, 2] rfl)
            · have hf := (if_neg c27).symm.trans hf
              refine lv_aload_n hx hb dX7_shows_225 rfl (lv_at hl 0 rfl) ?_
              refine ks_getR hE hw 0 24 ltM_0 lyM_0 rfl fd_X7_51 dX7_shows_226 ?_
              refine lv_iload_n hx hb dX7_shows_229 rfl (lv_at hl 2 rfl) ?_
              refine lv_aload_n hx hb dX7_shows_230 rfl (lv_at hl 0 rfl) ?_
              refine ks_getI hE hw 0 25 ltM_0 lyM_0 rfl fd_X7_213 dX7_shows_231 ?_
              refine lv_iconst (v := 1) hx hb dX7_shows_234 (by decide) ?_
              refine lv_iadd hx hb dX7_shows_235 ?_
              obtain ⟨b28, hf⟩ := ks_ok hf
              obtain ⟨t29, et29, hf⟩ := ks_nm hf
              refine ks_iast hE hw 11 ltM_11 lyM_11 b28 dX7_shows_236 (fun H locs hw => ?_)
              rw [← et29] at hw
              refine lv_iconst (v := 1) hx hb dX7_shows_237 (by decide) ?_
              refine lv_istore_n (lv' := [(2, .int (1 : Int32)), (0, .ref (adr ad a 0)), (3, .int x_3), (5, .int x_5)]) hx hb dX7_shows_238 rfl hl (by decide) rfl (fun ls hl => ?_)
              exact L239 _ _ _ _ _ _ hf hw (lv_sub hl [1, 0, 2] rfl)
          have L150 : ∀ (n150 : Nat) (τ : Tau) (x_2 : Int32) (x_3 : Int32) (x_4 : Int32) (x_5 : Int32) (x_6 : Int32) (H : Heap) (locs : List Loc) (ls : Array Slot), fX7_shows_150 p1 (fX7_shows_90 p1 n90) (fX7_shows_98 p1 (fX7_shows_90 p1 n90) n98) n150 τ x_2 x_3 x_4 x_5 x_6 = some R → Wd ΛM 12 D cA ad A s a τ H locs → lv_has ls 7 [(0, .ref (adr ad a 0)), (2, .int x_2), (3, .int x_3), (4, .int x_4), (5, .int x_5), (6, .int x_6)] → W p l e Rm s m args below meth c H locs 0 0 Q (F0 m 150 ls []) := by
            intro n150
            induction n150 with
            | zero => intro τ x_2 x_3 x_4 x_5 x_6 H locs ls hf hw hl; exact absurd hf (by rw [fX7_shows_150]; simp)
            | succ n150 ih150 =>
              have L212 : ∀ (τ : Tau) (x_2 : Int32) (x_3 : Int32) (x_4 : Int32) (x_6 : Int32) (z_0 : Int32) (H : Heap) (locs : List Loc) (ls : Array Slot), fX7_shows_212 p1 (fX7_shows_90 p1 n90) (fX7_shows_98 p1 (fX7_shows_90 p1 n90) n98) (fX7_shows_150 p1 (fX7_shows_90 p1 n90) (fX7_shows_98 p1 (fX7_shows_90 p1 n90) n98) n150) τ x_2 x_3 x_4 x_6 z_0 = some R → Wd ΛM 12 D cA ad A s a τ H locs → lv_has ls 7 [(0, .ref (adr ad a 0)), (2, .int x_2), (3, .int x_3), (4, .int x_4), (6, .int x_6)] → W p l e Rm s m args below meth c H locs 0 0 Q (F0 m 212 ls [.int z_0]) := by
                intro τ x_2 x_3 x_4 x_6 z_0 H locs ls hf hw hl
                unfold fX7_shows_212 at hf
                refine lv_istore (lv' := [(5, .int z_0), (0, .ref (adr ad a 0)), (2, .int x_2), (3, .int x_3), (4, .int x_4), (6, .int x_6)]) hx hb dX7_shows_212 hl (by decide) rfl (fun ls hl => ?_)
                obtain ⟨x26, ex26, hf⟩ := ks_nm hf
                refine lv_iinc (v := x26) (lv' := [(6, .int x26), (5, .int z_0), (0, .ref (adr ad a 0)), (2, .int x_2), (3, .int x_3), (4, .int x_4)]) hx hb dX7_shows_214 hl (k := 5) rfl (by rw [ex26]; rfl) (by decide) rfl (fun ls hl => ?_)
                refine lv_goto (tgt := 150) hx hb dX7_shows_217 (by decide) ?_
                exact ih150 _ _ _ _ _ _ _ _ _ hf hw (lv_sub hl [2, 3, 4, 5, 1, 0] rfl)
              have L211 : ∀ (τ : Tau) (x_2 : Int32) (x_3 : Int32) (x_4 : Int32) (x_6 : Int32) (H : Heap) (locs : List Loc) (ls : Array Slot), fX7_shows_211 p1 (fX7_shows_90 p1 n90) (fX7_shows_98 p1 (fX7_shows_90 p1 n90) n98) (fX7_shows_150 p1 (fX7_shows_90 p1 n90) (fX7_shows_98 p1 (fX7_shows_90 p1 n90) n98) n150) τ x_2 x_3 x_4 x_6 = some R → Wd ΛM 12 D cA ad A s a τ H locs → lv_has ls 7 [(0, .ref (adr ad a 0)), (2, .int x_2), (3, .int x_3), (4, .int x_4), (6, .int x_6)] → W p l e Rm s m args below meth c H locs 0 0 Q (F0 m 211 ls []) := by
                intro τ x_2 x_3 x_4 x_6 H locs ls hf hw hl
                unfold fX7_shows_211 at hf
                refine lv_iconst (v := 0) hx hb dX7_shows_211 (by decide) ?_
                exact L212 _ _ _ _ _ _ _ _ _ hf hw (lv_sub hl [0, 1, 2, 3, 4] rfl)
              intro τ x_2 x_3 x_4 x_5 x_6 H locs ls hf hw hl
              rw [fX7_shows_150] at hf
              refine lv_iload hx hb dX7_shows_150 (lv_at hl 5 rfl) ?_
              refine lv_bipush (v := 9) hx hb dX7_shows_152 (by decide) ?_
              refine lv_icmp_ge (tgt := 220) hx hb dX7_shows_154 (by decide) (fun c20 => ?_) (fun c20 => ?_)
              · have hf := (if_pos c20).symm.trans hf
                exact L220 _ _ _ _ _ _ _ hf hw (lv_sub hl [0, 1, 2, 4] rfl)
              · have hf := (if_neg c20).symm.trans hf
                refine lv_iload hx hb dX7_shows_157 (lv_at hl 3 rfl) ?_
                refine lv_if_eq (tgt := 220) hx hb dX7_shows_159 (by decide) (fun c21 => ?_) (fun c21 => ?_)
                · have hf := (if_pos c21).symm.trans hf
                  exact L220 _ _ _ _ _ _ _ hf hw (lv_sub hl [0, 1, 2, 4] rfl)
                · have hf := (if_neg c21).symm.trans hf
                  refine lv_iload hx hb dX7_shows_162 (lv_at hl 4 rfl) ?_
                  refine lv_if_ne (tgt := 220) hx hb dX7_shows_164 (by decide) (fun c22 => ?_) (fun c22 => ?_)
                  · have hf := (if_neg c22).symm.trans hf
                    exact L220 _ _ _ _ _ _ _ hf hw (lv_sub hl [0, 1, 2, 4] rfl)
                  · have hf := (if_pos c22).symm.trans hf
                    refine lv_aload_n hx hb dX7_shows_167 rfl (lv_at hl 0 rfl) ?_
                    refine ks_getI hE hw 0 3 ltM_0 lyM_0 rfl fd_X7_16 dX7_shows_168 ?_
                    refine lv_iload hx hb dX7_shows_171 (lv_at hl 5 rfl) ?_
                    refine lv_ishr hx hb dX7_shows_173 ?_
                    refine lv_iconst (v := 1) hx hb dX7_shows_174 (by decide) ?_
                    refine lv_iand hx hb dX7_shows_175 ?_
                    refine lv_iconst (v := 1) hx hb dX7_shows_176 (by decide) ?_
                    refine lv_icmp_ne (tgt := 211) hx hb dX7_shows_177 (by decide) (fun c23 => ?_) (fun c23 => ?_)
                    · have hf := (if_neg c23).symm.trans hf
                      exact L211 _ _ _ _ _ _ _ _ hf hw (lv_sub hl [0, 1, 2, 3, 5] rfl)
                    · have hf := (if_pos c23).symm.trans hf
                      refine lv_aload_n hx hb dX7_shows_180 rfl (lv_at hl 0 rfl) ?_
                      refine lv_iload hx hb dX7_shows_181 (lv_at hl 5 rfl) ?_
                      refine lv_iload_n hx hb dX7_shows_183 rfl (lv_at hl 2 rfl) ?_
                      refine lv_bipush (v := 16) hx hb dX7_shows_184 (by decide) ?_
                      refine lv_idiv hx hb dX7_shows_186 (by decide) ?_
                      refine lv_iload_n hx hb dX7_shows_187 rfl (lv_at hl 2 rfl) ?_
                      refine lv_iconst (v := 4) hx hb dX7_shows_188 (by decide) ?_
                      refine lv_idiv hx hb dX7_shows_189 (by decide) ?_
                      refine lv_iconst (v := 4) hx hb dX7_shows_190 (by decide) ?_
                      refine lv_irem hx hb dX7_shows_191 (by decide) ?_
                      refine lv_iload_n hx hb dX7_shows_192 rfl (lv_at hl 2 rfl) ?_
                      refine lv_iconst (v := 4) hx hb dX7_shows_193 (by decide) ?_
                      refine lv_irem hx hb dX7_shows_194 (by decide) ?_
                      refine lv_aload_n hx hb dX7_shows_195 rfl (lv_at hl 0 rfl) ?_
                      refine ks_getI hE hw 0 25 ltM_0 lyM_0 rfl fd_X7_213 dX7_shows_196 ?_
                      refine lv_iconst (v := 1) hx hb dX7_shows_199 (by decide) ?_
                      refine lv_iadd hx hb dX7_shows_200 ?_
                      obtain ⟨r24, er24, hf⟩ := ks_bind hf
                      refine ke_V hE hw hl.1 cl_X7_216 0 ltM_0 lyM_0 rfl [.int x_6, .int (x_3 / (16 : Int32)), .int ((x_3 / (4 : Int32)) - (x_3 / (4 : Int32)) / (4 : Int32) * (4 : Int32)), .int (x_3 - x_3 / (4 : Int32) * (4 : Int32)), .int (tI τ 0 25 + (1 : Int32))] (c_X7_isShown l D cA st ad a _ _ _ _ _ _ _ er24) rfl (ke_room hRm rfl rfl) ke_cnt (Nat.le_of_ble_eq_true rfl) rfl dX7_shows_201 (fun H locs hw => ?_)
                      refine W.eq (g2 := F0 m 204 ls (.int (bI r24.1) :: [])) rfl ?_
                      refine lv_if_eq (tgt := 211) hx hb dX7_shows_204 (by decide) (fun c25 => ?_) (fun c25 => ?_)
                      · have hf := (if_pos c25).symm.trans hf
                        exact L211 _ _ _ _ _ _ _ _ hf hw (lv_sub hl [0, 1, 2, 3, 5] rfl)
                      · have hf := (if_neg c25).symm.trans hf
                        refine lv_iconst (v := 1) hx hb dX7_shows_207 (by decide) ?_
                        refine lv_goto (tgt := 212) hx hb dX7_shows_208 (by decide) ?_
                        exact L212 _ _ _ _ _ _ _ _ _ hf hw (lv_sub hl [0, 1, 2, 3, 5] rfl)
          have L142 : ∀ (τ : Tau) (x_2 : Int32) (x_3 : Int32) (z_0 : Int32) (H : Heap) (locs : List Loc) (ls : Array Slot), fX7_shows_142 p1 (fX7_shows_90 p1 n90) (fX7_shows_98 p1 (fX7_shows_90 p1 n90) n98) τ x_2 x_3 z_0 = some R → Wd ΛM 12 D cA ad A s a τ H locs → lv_has ls 7 [(0, .ref (adr ad a 0)), (2, .int x_2), (3, .int x_3)] → W p l e Rm s m args below meth c H locs 0 0 Q (F0 m 142 ls [.int z_0]) := by
            intro τ x_2 x_3 z_0 H locs ls hf hw hl
            unfold fX7_shows_142 at hf
            refine lv_istore (lv' := [(4, .int z_0), (0, .ref (adr ad a 0)), (2, .int x_2), (3, .int x_3)]) hx hb dX7_shows_142 hl (by decide) rfl (fun ls hl => ?_)
            refine lv_iconst (v := 0) hx hb dX7_shows_144 (by decide) ?_
            refine lv_istore (lv' := [(5, .int (0 : Int32)), (4, .int z_0), (0, .ref (adr ad a 0)), (2, .int x_2), (3, .int x_3)]) hx hb dX7_shows_145 hl (by decide) rfl (fun ls hl => ?_)
            refine lv_iconst (v := 0) hx hb dX7_shows_147 (by decide) ?_
            refine lv_istore (lv' := [(6, .int (0 : Int32)), (5, .int (0 : Int32)), (4, .int z_0), (0, .ref (adr ad a 0)), (2, .int x_2), (3, .int x_3)]) hx hb dX7_shows_148 hl (by decide) rfl (fun ls hl => ?_)
            exact L150 FU _ _ _ _ _ _ _ _ _ hf hw (lv_sub hl [3, 4, 5, 2, 1, 0] rfl)
          have L141 : ∀ (τ : Tau) (x_2 : Int32) (x_3 : Int32) (H : Heap) (locs : List Loc) (ls : Array Slot), fX7_shows_141 p1 (fX7_shows_90 p1 n90) (fX7_shows_98 p1 (fX7_shows_90 p1 n90) n98) τ x_2 x_3 = some R → Wd ΛM 12 D cA ad A s a τ H locs → lv_has ls 7 [(0, .ref (adr ad a 0)), (2, .int x_2), (3, .int x_3)] → W p l e Rm s m args below meth c H locs 0 0 Q (F0 m 141 ls []) := by
            intro τ x_2 x_3 H locs ls hf hw hl
            unfold fX7_shows_141 at hf
            refine lv_iconst (v := 0) hx hb dX7_shows_141 (by decide) ?_
            exact L142 _ _ _ _ _ _ _ hf hw (lv_sub hl [0, 1, 2] rfl)
          intro τ x_2 x_3 H locs ls hf hw hl
          rw [fX7_shows_98] at hf
          refine lv_iload_n hx hb dX7_shows_98 rfl (lv_at hl 2 rfl) ?_
          refine lv_bipush (v := 64) hx hb dX7_shows_99 (by decide) ?_
          refine lv_icmp_ge (tgt := 245) hx hb dX7_shows_101 (by decide) (fun c14 => ?_) (fun c14 => ?_)
          · have hf := (if_pos c14).symm.trans hf
            refine lv_aload_n hx hb dX7_shows_245 rfl (lv_at hl 0 rfl) ?_
            refine lv_dup hx hb dX7_shows_246 rfl ?_
            refine ks_getI hE hw 0 25 ltM_0 lyM_0 rfl fd_X7_213 dX7_shows_247 ?_
            refine lv_iload_n hx hb dX7_shows_250 rfl (lv_at hl 1 rfl) ?_
            refine lv_if_eq (tgt := 258) hx hb dX7_shows_251 (by decide) (fun c15 => ?_) (fun c15 => ?_)
            · have hf := (if_pos c15).symm.trans hf
              refine lv_iconst (v := 0) hx hb dX7_shows_258 (by decide) ?_
              exact L259 _ _ _ _ _ _ _ hf hw (lv_sub hl [0, 1] rfl)
            · have hf := (if_neg c15).symm.trans hf
              refine lv_iconst (v := 1) hx hb dX7_shows_254 (by decide) ?_
              refine lv_goto (tgt := 259) hx hb dX7_shows_255 (by decide) ?_
              exact L259 _ _ _ _ _ _ _ hf hw (lv_sub hl [0, 1] rfl)
          · have hf := (if_neg c14).symm.trans hf
            refine lv_iload_n hx hb dX7_shows_104 rfl (lv_at hl 2 rfl) ?_
            refine lv_iconst (v := 4) hx hb dX7_shows_105 (by decide) ?_
            refine lv_idiv hx hb dX7_shows_106 (by decide) ?_
            refine lv_iconst (v := 4) hx hb dX7_shows_107 (by decide) ?_
            refine lv_irem hx hb dX7_shows_108 (by decide) ?_
            refine lv_aload_n hx hb dX7_shows_109 rfl (lv_at hl 0 rfl) ?_
            refine ks_getI hE hw 0 1 ltM_0 lyM_0 rfl fd_X7_7 dX7_shows_110 ?_
            refine lv_icmp_ge (tgt := 141) hx hb dX7_shows_113 (by decide) (fun c16 => ?_) (fun c16 => ?_)
            · have hf := (if_pos c16).symm.trans hf
              exact L141 _ _ _ _ _ _ hf hw (lv_sub hl [0, 1, 2] rfl)
            · have hf := (if_neg c16).symm.trans hf
              refine lv_iload_n hx hb dX7_shows_116 rfl (lv_at hl 2 rfl) ?_
              refine lv_iconst (v := 4) hx hb dX7_shows_117 (by decide) ?_
              refine lv_irem hx hb dX7_shows_118 (by decide) ?_
              refine lv_aload_n hx hb dX7_shows_119 rfl (lv_at hl 0 rfl) ?_
              refine ks_getI hE hw 0 1 ltM_0 lyM_0 rfl fd_X7_7 dX7_shows_120 ?_
              refine lv_icmp_ge (tgt := 141) hx hb dX7_shows_123 (by decide) (fun c17 => ?_) (fun c17 => ?_)
              · have hf := (if_pos c17).symm.trans hf
                exact L141 _ _ _ _ _ _ hf hw (lv_sub hl [0, 1, 2] rfl)
              · have hf := (if_neg c17).symm.trans hf
                refine lv_aload_n hx hb dX7_shows_126 rfl (lv_at hl 0 rfl) ?_
                refine ks_getR hE hw 0 24 ltM_0 lyM_0 rfl fd_X7_51 dX7_shows_127 ?_
                refine lv_iload_n hx hb dX7_shows_130 rfl (lv_at hl 2 rfl) ?_
                obtain ⟨b18, hf⟩ := ks_ok hf
                refine ks_iald hE hw 11 ltM_11 lyM_11 b18 dX7_shows_131 ?_
                refine lv_bipush (v := (-9)) hx hb dX7_shows_132 (by decide) ?_
                refine lv_icmp_ne (tgt := 141) hx hb dX7_shows_134 (by decide) (fun c19 => ?_) (fun c19 => ?_)
                · have hf := (if_neg c19).symm.trans hf
                  exact L141 _ _ _ _ _ _ hf hw (lv_sub hl [0, 1, 2] rfl)
                · have hf := (if_pos c19).symm.trans hf
                  refine lv_iconst (v := 1) hx hb dX7_shows_137 (by decide) ?_
                  refine lv_goto (tgt := 142) hx hb dX7_shows_138 (by decide) ?_
                  exact L142 _ _ _ _ _ _ _ hf hw (lv_sub hl [0, 1, 2] rfl)
      intro τ x_2 H locs ls hf hw hl
      rw [fX7_shows_90] at hf
      refine lv_iload_n hx hb dX7_shows_90 rfl (lv_at hl 1 rfl) ?_
      refine lv_if_eq (tgt := 266) hx hb dX7_shows_91 (by decide) (fun c13 => ?_) (fun c13 => ?_)
      · have hf := (if_pos c13).symm.trans hf
        replace hf := Option.some.inj hf
        subst hf
        exact ke_vret hE hw hQ dX7_shows_266 rfl
      · have hf := (if_neg c13).symm.trans hf
        refine lv_iconst (v := 0) hx hb dX7_shows_94 (by decide) ?_
        refine lv_istore_n (lv' := [(2, .int (0 : Int32)), (0, .ref (adr ad a 0))]) hx hb dX7_shows_95 rfl hl (by decide) rfl (fun ls hl => ?_)
        refine lv_iconst (v := 0) hx hb dX7_shows_96 (by decide) ?_
        refine lv_istore_n (lv' := [(3, .int (0 : Int32)), (2, .int (0 : Int32)), (0, .ref (adr ad a 0))]) hx hb dX7_shows_97 rfl hl (by decide) rfl (fun ls hl => ?_)
        exact L98 FU _ _ _ _ _ _ hf hw (lv_sub hl [2, 1, 0] rfl)
  have L2 : ∀ (n2 : Nat) (τ : Tau) (x_2 : Int32) (H : Heap) (locs : List Loc) (ls : Array Slot), fX7_shows_2 p1 n2 τ x_2 = some R → Wd ΛM 12 D cA ad A s a τ H locs → lv_has ls 7 [(0, .ref (adr ad a 0)), (1, .int p1), (2, .int x_2)] → W p l e Rm s m args below meth c H locs 0 0 Q (F0 m 2 ls []) := by
    intro n2
    induction n2 with
    | zero => intro τ x_2 H locs ls hf hw hl; exact absurd hf (by rw [fX7_shows_2]; simp)
    | succ n2 ih2 =>
      have L76 : ∀ (τ : Tau) (x_2 : Int32) (z_0 : Int32) (z_1 : Int32) (H : Heap) (locs : List Loc) (ls : Array Slot), fX7_shows_76 p1 (fX7_shows_2 p1 n2) τ x_2 z_0 z_1 = some R → Wd ΛM 12 D cA ad A s a τ H locs → lv_has ls 7 [(0, .ref (adr ad a 0)), (1, .int p1), (2, .int x_2)] → W p l e Rm s m args below meth c H locs 0 0 Q (F0 m 76 ls [.int z_0, .int z_1, .ref (adr ad a 11)]) := by
        intro τ x_2 z_0 z_1 H locs ls hf hw hl
        unfold fX7_shows_76 at hf
        obtain ⟨b10, hf⟩ := ks_ok hf
        obtain ⟨t11, et11, hf⟩ := ks_nm hf
        refine ks_iast hE hw 11 ltM_11 lyM_11 b10 dX7_shows_76 (fun H locs hw => ?_)
        rw [← et11] at hw
        obtain ⟨x12, ex12, hf⟩ := ks_nm hf
        refine lv_iinc (v := x12) (lv' := [(2, .int x12), (0, .ref (adr ad a 0)), (1, .int p1)]) hx hb dX7_shows_77 hl (k := 2) rfl (by rw [ex12]; rfl) (by decide) rfl (fun ls hl => ?_)
        refine lv_goto (tgt := 2) hx hb dX7_shows_80 (by decide) ?_
        exact ih2 _ _ _ _ _ hf hw (lv_sub hl [1, 2, 0] rfl)
      have L70 : ∀ (τ : Tau) (x_2 : Int32) (z_0 : Int32) (H : Heap) (locs : List Loc) (ls : Array Slot), fX7_shows_70 p1 (fX7_shows_2 p1 n2) τ x_2 z_0 = some R → Wd ΛM 12 D cA ad A s a τ H locs → lv_has ls 7 [(0, .ref (adr ad a 0)), (1, .int p1), (2, .int x_2)] → W p l e Rm s m args below meth c H locs 0 0 Q (F0 m 70 ls [.int z_0, .ref (adr ad a 11)]) := by
        intro τ x_2 z_0 H locs ls hf hw hl
        unfold fX7_shows_70 at hf
        refine lv_iconst (v := 0) hx hb dX7_shows_70 (by decide) ?_
        refine lv_goto (tgt := 76) hx hb dX7_shows_71 (by decide) ?_
        exact L76 _ _ _ _ _ _ _ hf hw (lv_sub hl [0, 1, 2] rfl)
      have L51 : ∀ (τ : Tau) (x_2 : Int32) (z_0 : Int32) (H : Heap) (locs : List Loc) (ls : Array Slot), fX7_shows_51 p1 (fX7_shows_2 p1 n2) τ x_2 z_0 = some R → Wd ΛM 12 D cA ad A s a τ H locs → lv_has ls 7 [(0, .ref (adr ad a 0)), (1, .int p1), (2, .int x_2)] → W p l e Rm s m args below meth c H locs 0 0 Q (F0 m 51 ls [.int z_0]) := by
        intro τ x_2 z_0 H locs ls hf hw hl
        unfold fX7_shows_51 at hf
        refine lv_istore_n (lv' := [(3, .int z_0), (0, .ref (adr ad a 0)), (1, .int p1), (2, .int x_2)]) hx hb dX7_shows_51 rfl hl (by decide) rfl (fun ls hl => ?_)
        refine lv_aload_n hx hb dX7_shows_52 rfl (lv_at hl 1 rfl) ?_
        refine ks_getR hE hw 0 24 ltM_0 lyM_0 rfl fd_X7_51 dX7_shows_53 ?_
        refine lv_iload_n hx hb dX7_shows_56 rfl (lv_at hl 3 rfl) ?_
        refine lv_iload_n hx hb dX7_shows_57 rfl (lv_at hl 0 rfl) ?_
        refine lv_if_ne (tgt := 70) hx hb dX7_shows_58 (by decide) (fun c7 => ?_) (fun c7 => ?_)
        · have hf := (if_neg c7).symm.trans hf
          exact L70 _ _ _ _ _ _ hf hw (lv_sub hl [1, 2, 3] rfl)
        · have hf := (if_pos c7).symm.trans hf
          refine lv_aload_n hx hb dX7_shows_61 rfl (lv_at hl 1 rfl) ?_
          refine lv_iload_n hx hb dX7_shows_62 rfl (lv_at hl 2 rfl) ?_
          refine lv_iload_n hx hb dX7_shows_63 rfl (lv_at hl 3 rfl) ?_
          obtain ⟨r8, er8, hf⟩ := ks_bind hf
          refine ke_V hE hw hl.1 cl_X7_210 0 ltM_0 lyM_0 rfl [.int p1, .int x_2] (c_X7_isTold l D cA st ad a _ _ _ _ er8) rfl (ke_room hRm rfl rfl) ke_cnt (Nat.le_of_ble_eq_true rfl) rfl dX7_shows_64 (fun H locs hw => ?_)
          refine W.eq (g2 := F0 m 67 ls (.int (bI r8) :: .int x_2 :: .ref (adr ad a 11) :: [])) rfl ?_
          refine lv_if_eq (tgt := 74) hx hb dX7_shows_67 (by decide) (fun c9 => ?_) (fun c9 => ?_)
          · have hf := (if_pos c9).symm.trans hf
            refine lv_bipush (v := (-9)) hx hb dX7_shows_74 (by decide) ?_
            exact L76 _ _ _ _ _ _ _ hf hw (lv_sub hl [1, 2, 3] rfl)
          · have hf := (if_neg c9).symm.trans hf
            exact L70 _ _ _ _ _ _ hf hw (lv_sub hl [1, 2, 3] rfl)
      have L50 : ∀ (τ : Tau) (x_2 : Int32) (H : Heap) (locs : List Loc) (ls : Array Slot), fX7_shows_50 p1 (fX7_shows_2 p1 n2) τ x_2 = some R → Wd ΛM 12 D cA ad A s a τ H locs → lv_has ls 7 [(0, .ref (adr ad a 0)), (1, .int p1), (2, .int x_2)] → W p l e Rm s m args below meth c H locs 0 0 Q (F0 m 50 ls []) := by
        intro τ x_2 H locs ls hf hw hl
        unfold fX7_shows_50 at hf
        refine lv_iconst (v := 0) hx hb dX7_shows_50 (by decide) ?_
        exact L51 _ _ _ _ _ _ hf hw (lv_sub hl [0, 1, 2] rfl)
      intro τ x_2 H locs ls hf hw hl
      rw [fX7_shows_2] at hf
      refine lv_iload_n hx hb dX7_shows_2 rfl (lv_at hl 2 rfl) ?_
      refine lv_bipush (v := 64) hx hb dX7_shows_3 (by decide) ?_
      refine lv_icmp_ge (tgt := 83) hx hb dX7_shows_5 (by decide) (fun c1 => ?_) (fun c1 => ?_)
      · have hf := (if_pos c1).symm.trans hf
        refine lv_aload_n hx hb dX7_shows_83 rfl (lv_at hl 0 rfl) ?_
        refine lv_iconst (v := 0) hx hb dX7_shows_84 (by decide) ?_
        obtain ⟨t2, et2, hf⟩ := ks_nm hf
        refine ks_putI hE hw 0 25 ltM_0 lyM_0 rfl fw_X7_213 rfl rfl dX7_shows_85 (fun H locs hw => ?_)
        rw [← et2] at hw
        refine lv_iconst (v := 1) hx hb dX7_shows_88 (by decide) ?_
        refine lv_istore_n (lv' := [(2, .int (1 : Int32)), (0, .ref (adr ad a 0)), (1, .int p1)]) hx hb dX7_shows_89 rfl hl (by decide) rfl (fun ls hl => ?_)
        exact L90 FU _ _ _ _ _ hf hw (lv_sub hl [1, 0] rfl)
      · have hf := (if_neg c1).symm.trans hf
        refine lv_iload_n hx hb dX7_shows_8 rfl (lv_at hl 2 rfl) ?_
        refine lv_bipush (v := 16) hx hb dX7_shows_9 (by decide) ?_
        refine lv_icmp_ge (tgt := 50) hx hb dX7_shows_11 (by decide) (fun c3 => ?_) (fun c3 => ?_)
        · have hf := (if_pos c3).symm.trans hf
          exact L50 _ _ _ _ _ hf hw (lv_sub hl [0, 1, 2] rfl)
        · have hf := (if_neg c3).symm.trans hf
          refine lv_iload_n hx hb dX7_shows_14 rfl (lv_at hl 2 rfl) ?_
          refine lv_iconst (v := 4) hx hb dX7_shows_15 (by decide) ?_
          refine lv_idiv hx hb dX7_shows_16 (by decide) ?_
          refine lv_iload_n hx hb dX7_shows_17 rfl (lv_at hl 2 rfl) ?_
          refine lv_iconst (v := 4) hx hb dX7_shows_18 (by decide) ?_
          refine lv_irem hx hb dX7_shows_19 (by decide) ?_
          refine lv_icmp_ne (tgt := 50) hx hb dX7_shows_20 (by decide) (fun c4 => ?_) (fun c4 => ?_)
          · have hf := (if_neg c4).symm.trans hf
            exact L50 _ _ _ _ _ hf hw (lv_sub hl [0, 1, 2] rfl)
          · have hf := (if_pos c4).symm.trans hf
            refine lv_iload_n hx hb dX7_shows_23 rfl (lv_at hl 2 rfl) ?_
            refine lv_iconst (v := 4) hx hb dX7_shows_24 (by decide) ?_
            refine lv_idiv hx hb dX7_shows_25 (by decide) ?_
            refine lv_aload_n hx hb dX7_shows_26 rfl (lv_at hl 0 rfl) ?_
            refine ks_getI hE hw 0 1 ltM_0 lyM_0 rfl fd_X7_7 dX7_shows_27 ?_
            refine lv_icmp_ge (tgt := 50) hx hb dX7_shows_30 (by decide) (fun c5 => ?_) (fun c5 => ?_)
            · have hf := (if_pos c5).symm.trans hf
              exact L50 _ _ _ _ _ hf hw (lv_sub hl [0, 1, 2] rfl)
            · have hf := (if_neg c5).symm.trans hf
              refine lv_aload_n hx hb dX7_shows_33 rfl (lv_at hl 0 rfl) ?_
              refine ks_getI hE hw 0 3 ltM_0 lyM_0 rfl fd_X7_16 dX7_shows_34 ?_
              refine lv_bipush (v := 7) hx hb dX7_shows_37 (by decide) ?_
              refine lv_ishr hx hb dX7_shows_39 ?_
              refine lv_iconst (v := 1) hx hb dX7_shows_40 (by decide) ?_
              refine lv_iand hx hb dX7_shows_41 ?_
              refine lv_iconst (v := 1) hx hb dX7_shows_42 (by decide) ?_
              refine lv_icmp_ne (tgt := 50) hx hb dX7_shows_43 (by decide) (fun c6 => ?_) (fun c6 => ?_)
              · have hf := (if_neg c6).symm.trans hf
                exact L50 _ _ _ _ _ hf hw (lv_sub hl [0, 1, 2] rfl)
              · have hf := (if_pos c6).symm.trans hf
                refine lv_iconst (v := 1) hx hb dX7_shows_46 (by decide) ?_
                refine lv_goto (tgt := 51) hx hb dX7_shows_47 (by decide) ?_
                exact L51 _ _ _ _ _ _ hf hw (lv_sub hl [0, 1, 2] rfl)
  unfold fX7_shows at hf
  refine lv_iconst (v := 0) hx hb dX7_shows_0 (by decide) ?_
  refine lv_istore_n (lv' := [(2, .int (0 : Int32)), (0, .ref (adr ad a 0)), (1, .int p1)]) hx hb dX7_shows_1 rfl hl (by decide) rfl (fun ls hl => ?_)
  exact L2 FU _ _ _ _ _ hf hw (lv_sub hl [1, 2, 0] rfl)
def fX7_isAsked (τ : Tau) (p1 : Int32) (p2 : Int32) (p3 : Int32) (p4 : Int32) : Bool :=
 nm (fX7_isSet p1) (fun r1 =>
 (if bI r1 = 0 then
 false
 else
 nm (fX7_in p2 (0 : Int32) (3 : Int32)) (fun r3 =>
 (if bI r3 = 0 then
 false
 else
 nm (fX7_in p3 (0 : Int32) (tI τ 0 1 - (1 : Int32))) (fun r5 =>
 (if bI r5 = 0 then
 false
 else
 nm (fX7_in p4 (0 : Int32) (tI τ 0 1 - (1 : Int32))) (fun r7 =>
 (if bI r7 = 0 then
 false
 else
 true))))))))
set_option maxHeartbeats 4000000 in
set_option maxRecDepth 100000 in
theorem c_X7_isAsked (l : Launch) (D : va_G) (cA : Nat → ClassId) (st ad : Nat → Nat) (a : Nat)  (τ : Tau) (p1 : Int32) (p2 : Int32) (p3 : Int32) (p4 : Int32) (R : Bool) (hf : fX7_isAsked τ p1 p2 p3 p4 = R) : KE ΛM 12 D cA st ad l yX7_isAsked cX7_isAsked 5 (some .boolean) 2 42 [.ref (adr ad a 0), .int p1, .int p2, .int p3, .int p4] a τ (some (.int (bI R))) τ := by
  refine KE.of "KindSayingsModel" rfl (by decide) (Nat.le_of_ble_eq_true rfl) (fun p e s m args below meth c A ls Rm Q hE hRm hQ hw hl => ?_)
  obtain ⟨hx, hb, hml, hown, hts, -⟩ := id hE
  have hl : lv_has ls 5 [(0, .ref (adr ad a 0)), (1, .int p1), (2, .int p2), (3, .int p3), (4, .int p4)] := hl
  unfold fX7_isAsked at hf
  refine lv_iload_n hx hb dX7_isAsked_0 rfl (lv_at hl 1 rfl) ?_
  obtain ⟨r1, er1, hf⟩ := ks_nm hf
  refine ke_S hE hw hl.1 cl_X7_182 [.int p1] (c_X7_isSet l D cA st ad a _ _ _ er1.symm) rfl (ke_room hRm rfl rfl) ke_cnt (Nat.le_of_ble_eq_true rfl) rfl dX7_isAsked_1 (fun H locs hw => ?_)
  refine W.eq (g2 := F0 m 4 ls (.int (bI r1) :: [])) rfl ?_
  refine lv_if_eq (tgt := 49) hx hb dX7_isAsked_4 (by decide) (fun c2 => ?_) (fun c2 => ?_)
  · have hf := (if_pos c2).symm.trans hf
    refine lv_iconst (v := 0) hx hb dX7_isAsked_49 (by decide) ?_
    subst hf
    exact ke_zret hE hw hQ (Or.inl rfl) dX7_isAsked_50 rfl rfl
  · have hf := (if_neg c2).symm.trans hf
    refine lv_iload_n hx hb dX7_isAsked_7 rfl (lv_at hl 2 rfl) ?_
    refine lv_iconst (v := 0) hx hb dX7_isAsked_8 (by decide) ?_
    refine lv_iconst (v := 3) hx hb dX7_isAsked_9 (by decide) ?_
    obtain ⟨r3, er3, hf⟩ := ks_nm hf
    refine ke_S hE hw hl.1 cl_X7_72 [.int p2, .int (0 : Int32), .int (3 : Int32)] (c_X7_in l D cA st ad a _ _ _ _ _ er3.symm) rfl (ke_room hRm rfl rfl) ke_cnt (Nat.le_of_ble_eq_true rfl) rfl dX7_isAsked_10 (fun H locs hw => ?_)
    refine W.eq (g2 := F0 m 13 ls (.int (bI r3) :: [])) rfl ?_
    refine lv_if_eq (tgt := 49) hx hb dX7_isAsked_13 (by decide) (fun c4 => ?_) (fun c4 => ?_)
    · have hf := (if_pos c4).symm.trans hf
      refine lv_iconst (v := 0) hx hb dX7_isAsked_49 (by decide) ?_
      subst hf
      exact ke_zret hE hw hQ (Or.inl rfl) dX7_isAsked_50 rfl rfl
    · have hf := (if_neg c4).symm.trans hf
      refine lv_iload_n hx hb dX7_isAsked_16 rfl (lv_at hl 3 rfl) ?_
      refine lv_iconst (v := 0) hx hb dX7_isAsked_17 (by decide) ?_
      refine lv_aload_n hx hb dX7_isAsked_18 rfl (lv_at hl 0 rfl) ?_
      refine ks_getI hE hw 0 1 ltM_0 lyM_0 rfl fd_X7_7 dX7_isAsked_19 ?_
      refine lv_iconst (v := 1) hx hb dX7_isAsked_22 (by decide) ?_
      refine lv_isub hx hb dX7_isAsked_23 ?_
      obtain ⟨r5, er5, hf⟩ := ks_nm hf
      refine ke_S hE hw hl.1 cl_X7_72 [.int p3, .int (0 : Int32), .int (tI τ 0 1 - (1 : Int32))] (c_X7_in l D cA st ad a _ _ _ _ _ er5.symm) rfl (ke_room hRm rfl rfl) ke_cnt (Nat.le_of_ble_eq_true rfl) rfl dX7_isAsked_24 (fun H locs hw => ?_)
      refine W.eq (g2 := F0 m 27 ls (.int (bI r5) :: [])) rfl ?_
      refine lv_if_eq (tgt := 49) hx hb dX7_isAsked_27 (by decide) (fun c6 => ?_) (fun c6 => ?_)
      · have hf := (if_pos c6).symm.trans hf
        refine lv_iconst (v := 0) hx hb dX7_isAsked_49 (by decide) ?_
        subst hf
        exact ke_zret hE hw hQ (Or.inl rfl) dX7_isAsked_50 rfl rfl
      · have hf := (if_neg c6).symm.trans hf
        refine lv_iload hx hb dX7_isAsked_30 (lv_at hl 4 rfl) ?_
        refine lv_iconst (v := 0) hx hb dX7_isAsked_32 (by decide) ?_
        refine lv_aload_n hx hb dX7_isAsked_33 rfl (lv_at hl 0 rfl) ?_
        refine ks_getI hE hw 0 1 ltM_0 lyM_0 rfl fd_X7_7 dX7_isAsked_34 ?_
        refine lv_iconst (v := 1) hx hb dX7_isAsked_37 (by decide) ?_
        refine lv_isub hx hb dX7_isAsked_38 ?_
        obtain ⟨r7, er7, hf⟩ := ks_nm hf
        refine ke_S hE hw hl.1 cl_X7_72 [.int p4, .int (0 : Int32), .int (tI τ 0 1 - (1 : Int32))] (c_X7_in l D cA st ad a _ _ _ _ _ er7.symm) rfl (ke_room hRm rfl rfl) ke_cnt (Nat.le_of_ble_eq_true rfl) rfl dX7_isAsked_39 (fun H locs hw => ?_)
        refine W.eq (g2 := F0 m 42 ls (.int (bI r7) :: [])) rfl ?_
        refine lv_if_eq (tgt := 49) hx hb dX7_isAsked_42 (by decide) (fun c8 => ?_) (fun c8 => ?_)
        · have hf := (if_pos c8).symm.trans hf
          refine lv_iconst (v := 0) hx hb dX7_isAsked_49 (by decide) ?_
          subst hf
          exact ke_zret hE hw hQ (Or.inl rfl) dX7_isAsked_50 rfl rfl
        · have hf := (if_neg c8).symm.trans hf
          refine lv_iconst (v := 1) hx hb dX7_isAsked_45 (by decide) ?_
          refine lv_goto (tgt := 50) hx hb dX7_isAsked_46 (by decide) ?_
          subst hf
          exact ke_zret hE hw hQ (Or.inr rfl) dX7_isAsked_50 rfl rfl
def fX7_round  (τ : Tau) (p1 : Int32) (p2 : Int32) (p3 : Int32) (p4 : Int32) : Option (Int32 × Tau) :=
 nm (sI τ 0 0 (0 : Int32)) (fun t1 =>
 nm (fX7_isAsked t1 p1 p2 p3 p4) (fun r2 =>
 (if bI r2 = 0 then
 some ((-1 : Int32), t1)
 else
 Option.bind (fX7_shows t1 p1) (fun r4 =>
 (if ((((16 : Int32) * p2) + ((4 : Int32) * p3)) + p4) < 0 ∨ 64 ≤ ((((16 : Int32) * p2) + ((4 : Int32) * p3)) + p4).toNatClampNeg then none else
 some (tA r4 11 ((((16 : Int32) * p2) + ((4 : Int32) * p3)) + p4).toNatClampNeg, r4))))))
set_option maxHeartbeats 4000000 in
set_option maxRecDepth 100000 in
theorem c_X7_round (l : Launch) (D : va_G) (cA : Nat → ClassId) (st ad : Nat → Nat) (a : Nat)  (τ : Tau) (p1 : Int32) (p2 : Int32) (p3 : Int32) (p4 : Int32) (R : (Int32 × Tau)) (hf : fX7_round τ p1 p2 p3 p4 = some R) : KE ΛM 12 D cA st ad l yX7_round cX7_round 5 (some .int) 3 78 [.ref (adr ad a 0), .int p1, .int p2, .int p3, .int p4] a τ (some (.int R.1)) R.2 := by
  refine KE.of "KindSayingsModel" rfl (by decide) (Nat.le_of_ble_eq_true rfl) (fun p e s m args below meth c A ls Rm Q hE hRm hQ hw hl => ?_)
  obtain ⟨hx, hb, hml, hown, hts, -⟩ := id hE
  have hl : lv_has ls 5 [(0, .ref (adr ad a 0)), (1, .int p1), (2, .int p2), (3, .int p3), (4, .int p4)] := hl
  unfold fX7_round at hf
  refine lv_aload_n hx hb dX7_round_0 rfl (lv_at hl 0 rfl) ?_
  refine lv_iconst (v := 0) hx hb dX7_round_1 (by decide) ?_
  obtain ⟨t1, et1, hf⟩ := ks_nm hf
  refine ks_putI hE hw 0 0 ltM_0 lyM_0 rfl fw_X7_57 rfl rfl dX7_round_2 (fun H locs hw => ?_)
  rw [← et1] at hw
  refine lv_aload_n hx hb dX7_round_5 rfl (lv_at hl 0 rfl) ?_
  refine lv_iload_n hx hb dX7_round_6 rfl (lv_at hl 1 rfl) ?_
  refine lv_iload_n hx hb dX7_round_7 rfl (lv_at hl 2 rfl) ?_
  refine lv_iload_n hx hb dX7_round_8 rfl (lv_at hl 3 rfl) ?_
  refine lv_iload hx hb dX7_round_9 (lv_at hl 4 rfl) ?_
  obtain ⟨r2, er2, hf⟩ := ks_nm hf
  refine ke_V hE hw hl.1 cl_X7_220 0 ltM_0 lyM_0 rfl [.int p1, .int p2, .int p3, .int p4] (c_X7_isAsked l D cA st ad a _ _ _ _ _ _ er2.symm) rfl (ke_room hRm rfl rfl) ke_cnt (Nat.le_of_ble_eq_true rfl) rfl dX7_round_11 (fun H locs hw => ?_)
  refine W.eq (g2 := F0 m 14 ls (.int (bI r2) :: [])) rfl ?_
  refine lv_if_ne (tgt := 19) hx hb dX7_round_14 (by decide) (fun c3 => ?_) (fun c3 => ?_)
  · have hf := (if_neg c3).symm.trans hf
    refine lv_aload_n hx hb dX7_round_19 rfl (lv_at hl 0 rfl) ?_
    refine lv_iload_n hx hb dX7_round_20 rfl (lv_at hl 1 rfl) ?_
    obtain ⟨r4, er4, hf⟩ := ks_bind hf
    refine ke_V hE hw hl.1 cl_X7_224 0 ltM_0 lyM_0 rfl [.int p1] (c_X7_shows l D cA st ad a _ _ _ er4) rfl (ke_room hRm rfl rfl) ke_cnt (Nat.le_of_ble_eq_true rfl) rfl dX7_round_21 (fun H locs hw => ?_)
    refine W.eq (g2 := F0 m 24 ls ([])) rfl ?_
    refine lv_aload_n hx hb dX7_round_24 rfl (lv_at hl 0 rfl) ?_
    refine ks_getR hE hw 0 24 ltM_0 lyM_0 rfl fd_X7_51 dX7_round_25 ?_
    refine lv_bipush (v := 16) hx hb dX7_round_28 (by decide) ?_
    refine lv_iload_n hx hb dX7_round_30 rfl (lv_at hl 2 rfl) ?_
    refine lv_imul hx hb dX7_round_31 ?_
    refine lv_iconst (v := 4) hx hb dX7_round_32 (by decide) ?_
    refine lv_iload_n hx hb dX7_round_33 rfl (lv_at hl 3 rfl) ?_
    refine lv_imul hx hb dX7_round_34 ?_
    refine lv_iadd hx hb dX7_round_35 ?_
    refine lv_iload hx hb dX7_round_36 (lv_at hl 4 rfl) ?_
    refine lv_iadd hx hb dX7_round_38 ?_
    obtain ⟨b5, hf⟩ := ks_ok hf
    refine ks_iald hE hw 11 ltM_11 lyM_11 b5 dX7_round_39 ?_
    replace hf := Option.some.inj hf
    subst hf
    exact ke_iret hE hw hQ dX7_round_40 rfl rfl
  · have hf := (if_pos c3).symm.trans hf
    refine lv_iconst (v := (-1)) hx hb dX7_round_17 (by decide) ?_
    replace hf := Option.some.inj hf
    subst hf
    exact ke_iret hE hw hQ dX7_round_18 rfl rfl
def fX7_by_162 (p1 : Int32) (p2 : Int32) (p3 : Int32) (p4 : Int32) (p5 : Int32) (k97 : Tau → Int32 → Int32 → Option (Int32 × Tau)) (τ : Tau) (x_7 : Int32) (x_8 : Int32) : Option (Int32 × Tau) :=
 nm (x_8 + (1 : Int32)) (fun x21 =>
     k97 τ x_7 x21)
def fX7_by_97 (p1 : Int32) (p2 : Int32) (p3 : Int32) (p4 : Int32) (p5 : Int32) : Nat → Tau → Int32 → Int32 → Option (Int32 × Tau)
  | 0, _, _, _ => none
  | n + 1, τ, x_7, x_8 =>
     (if (9 : Int32) ≤ x_8 then
     some ((-9 : Int32), τ)
     else
     (if ((tI τ 0 3 >>> (x_8 &&& 31)) &&& (1 : Int32)) = (1 : Int32) then
     Option.bind (fX7_isShown τ x_8 p2 p3 p4 x_7) (fun r17 =>
     (if bI r17.1 = 0 then
     fX7_by_162 p1 p2 p3 p4 p5 (fX7_by_97 p1 p2 p3 p4 p5 n) r17.2 x_7 x_8
     else
     (if p5 = 0 then
     some (tI r17.2 0 26, r17.2)
     else
     (if p5 = (1 : Int32) then
     some (tI r17.2 0 27, r17.2)
     else
     some (tI r17.2 0 28, r17.2)))))
     else
     fX7_by_162 p1 p2 p3 p4 p5 (fX7_by_97 p1 p2 p3 p4 p5 n) τ x_7 x_8))
def fX7_by  (τ : Tau) (p1 : Int32) (p2 : Int32) (p3 : Int32) (p4 : Int32) (p5 : Int32) : Option (Int32 × Tau) :=
 nm (sI τ 0 0 (0 : Int32)) (fun t1 =>
 nm (fX7_isAsked t1 p1 p2 p3 p4) (fun r2 =>
 (if bI r2 = 0 then
 some ((-1 : Int32), t1)
 else
 nm (fX7_in p5 (0 : Int32) (2 : Int32)) (fun r4 =>
 (if bI r4 = 0 then
 some ((-1 : Int32), t1)
 else
 Option.bind (fX7_shows t1 p1) (fun r6 =>
 nm ((((16 : Int32) * p2) + ((4 : Int32) * p3)) + p4) (fun x7 =>
 (if x7 < 0 ∨ 64 ≤ x7.toNatClampNeg then none else
 nm (tA r6 11 x7.toNatClampNeg) (fun x9 =>
 (if x9 = (-9 : Int32) then
 some ((-9 : Int32), r6)
 else
 Option.bind (fX7_isTold r6 p1 x7) (fun r11 =>
 (if bI r11 = 0 then
 (if x9 = 0 then
 (if p5 = 0 then
 some ((7 : Int32), r6)
 else
 some ((-9 : Int32), r6))
 else
 fX7_by_97 p1 p2 p3 p4 p5 FU r6 x9 (0 : Int32))
 else
 some ((-9 : Int32), r6)))))))))))))
set_option maxHeartbeats 4000000 in
set_option maxRecDepth 100000 in
theorem c_X7_by (l : Launch) (D : va_G) (cA : Nat → ClassId) (st ad : Nat → Nat) (a : Nat)  (τ : Tau) (p1 : Int32) (p2 : Int32) (p3 : Int32) (p4 : Int32) (p5 : Int32) (R : (Int32 × Tau)) (hf : fX7_by τ p1 p2 p3 p4 p5 = some R) : KE ΛM 12 D cA st ad l yX7_by cX7_by 9 (some .int) 3 78 [.ref (adr ad a 0), .int p1, .int p2, .int p3, .int p4, .int p5] a τ (some (.int R.1)) R.2 := by
  refine KE.of "KindSayingsModel" rfl (by decide) (Nat.le_of_ble_eq_true rfl) (fun p e s m args below meth c A ls Rm Q hE hRm hQ hw hl => ?_)
  obtain ⟨hx, hb, hml, hown, hts, -⟩ := id hE
  have hl : lv_has ls 9 [(0, .ref (adr ad a 0)), (1, .int p1), (2, .int p2), (3, .int p3), (4, .int p4), (5, .int p5)] := hl
  have L97 : ∀ (n97 : Nat) (τ : Tau) (x_7 : Int32) (x_8 : Int32) (H : Heap) (locs : List Loc) (ls : Array Slot), fX7_by_97 p1 p2 p3 p4 p5 n97 τ x_7 x_8 = some R → Wd ΛM 12 D cA ad A s a τ H locs → lv_has ls 9 [(0, .ref (adr ad a 0)), (2, .int p2), (3, .int p3), (4, .int p4), (5, .int p5), (7, .int x_7), (8, .int x_8)] → W p l e Rm s m args below meth c H locs 0 0 Q (F0 m 97 ls []) := by
    intro n97
    induction n97 with
    | zero => intro τ x_7 x_8 H locs ls hf hw hl; exact absurd hf (by rw [fX7_by_97]; simp)
    | succ n97 ih97 =>
      have L162 : ∀ (τ : Tau) (x_7 : Int32) (x_8 : Int32) (H : Heap) (locs : List Loc) (ls : Array Slot), fX7_by_162 p1 p2 p3 p4 p5 (fX7_by_97 p1 p2 p3 p4 p5 n97) τ x_7 x_8 = some R → Wd ΛM 12 D cA ad A s a τ H locs → lv_has ls 9 [(0, .ref (adr ad a 0)), (2, .int p2), (3, .int p3), (4, .int p4), (5, .int p5), (7, .int x_7), (8, .int x_8)] → W p l e Rm s m args below meth c H locs 0 0 Q (F0 m 162 ls []) := by
        intro τ x_7 x_8 H locs ls hf hw hl
        unfold fX7_by_162 at hf
        obtain ⟨x21, ex21, hf⟩ := ks_nm hf
        refine lv_iinc (v := x21) (lv' := [(8, .int x21), (0, .ref (adr ad a 0)), (2, .int p2), (3, .int p3), (4, .int p4), (5, .int p5), (7, .int x_7)]) hx hb dX7_by_162 hl (k := 6) rfl (by rw [ex21]; rfl) (by decide) rfl (fun ls hl => ?_)
        refine lv_goto (tgt := 97) hx hb dX7_by_165 (by decide) ?_
        exact ih97 _ _ _ _ _ _ hf hw (lv_sub hl [1, 2, 3, 4, 5, 6, 0] rfl)
      intro τ x_7 x_8 H locs ls hf hw hl
      rw [fX7_by_97] at hf
      refine lv_iload hx hb dX7_by_97 (lv_at hl 6 rfl) ?_
      refine lv_bipush (v := 9) hx hb dX7_by_99 (by decide) ?_
      refine lv_icmp_ge (tgt := 168) hx hb dX7_by_101 (by decide) (fun c15 => ?_) (fun c15 => ?_)
      · have hf := (if_pos c15).symm.trans hf
        refine lv_bipush (v := (-9)) hx hb dX7_by_168 (by decide) ?_
        replace hf := Option.some.inj hf
        subst hf
        exact ke_iret hE hw hQ dX7_by_170 rfl rfl
      · have hf := (if_neg c15).symm.trans hf
        refine lv_aload_n hx hb dX7_by_104 rfl (lv_at hl 0 rfl) ?_
        refine ks_getI hE hw 0 3 ltM_0 lyM_0 rfl fd_X7_16 dX7_by_105 ?_
        refine lv_iload hx hb dX7_by_108 (lv_at hl 6 rfl) ?_
        refine lv_ishr hx hb dX7_by_110 ?_
        refine lv_iconst (v := 1) hx hb dX7_by_111 (by decide) ?_
        refine lv_iand hx hb dX7_by_112 ?_
        refine lv_iconst (v := 1) hx hb dX7_by_113 (by decide) ?_
        refine lv_icmp_ne (tgt := 162) hx hb dX7_by_114 (by decide) (fun c16 => ?_) (fun c16 => ?_)
        · have hf := (if_neg c16).symm.trans hf
          exact L162 _ _ _ _ _ _ hf hw (lv_sub hl [0, 1, 2, 3, 4, 5, 6] rfl)
        · have hf := (if_pos c16).symm.trans hf
          refine lv_aload_n hx hb dX7_by_117 rfl (lv_at hl 0 rfl) ?_
          refine lv_iload hx hb dX7_by_118 (lv_at hl 6 rfl) ?_
          refine lv_iload_n hx hb dX7_by_120 rfl (lv_at hl 1 rfl) ?_
          refine lv_iload_n hx hb dX7_by_121 rfl (lv_at hl 2 rfl) ?_
          refine lv_iload hx hb dX7_by_122 (lv_at hl 3 rfl) ?_
          refine lv_iload hx hb dX7_by_124 (lv_at hl 5 rfl) ?_
          obtain ⟨r17, er17, hf⟩ := ks_bind hf
          refine ke_V hE hw hl.1 cl_X7_216 0 ltM_0 lyM_0 rfl [.int x_8, .int p2, .int p3, .int p4, .int x_7] (c_X7_isShown l D cA st ad a _ _ _ _ _ _ _ er17) rfl (ke_room hRm rfl rfl) ke_cnt (Nat.le_of_ble_eq_true rfl) rfl dX7_by_126 (fun H locs hw => ?_)
          refine W.eq (g2 := F0 m 129 ls (.int (bI r17.1) :: [])) rfl ?_
          refine lv_if_eq (tgt := 162) hx hb dX7_by_129 (by decide) (fun c18 => ?_) (fun c18 => ?_)
          · have hf := (if_pos c18).symm.trans hf
            exact L162 _ _ _ _ _ _ hf hw (lv_sub hl [0, 1, 2, 3, 4, 5, 6] rfl)
          · have hf := (if_neg c18).symm.trans hf
            refine lv_iload hx hb dX7_by_132 (lv_at hl 4 rfl) ?_
            refine lv_if_ne (tgt := 144) hx hb dX7_by_134 (by decide) (fun c19 => ?_) (fun c19 => ?_)
            · have hf := (if_neg c19).symm.trans hf
              refine lv_iload hx hb dX7_by_144 (lv_at hl 4 rfl) ?_
              refine lv_iconst (v := 1) hx hb dX7_by_146 (by decide) ?_
              refine lv_icmp_ne (tgt := 157) hx hb dX7_by_147 (by decide) (fun c20 => ?_) (fun c20 => ?_)
              · have hf := (if_neg c20).symm.trans hf
                refine lv_aload_n hx hb dX7_by_157 rfl (lv_at hl 0 rfl) ?_
                refine ks_getI hE hw 0 28 ltM_0 lyM_0 rfl fd_X7_204 dX7_by_158 ?_
                replace hf := Option.some.inj hf
                subst hf
                exact ke_iret hE hw hQ dX7_by_161 rfl rfl
              · have hf := (if_pos c20).symm.trans hf
                refine lv_aload_n hx hb dX7_by_150 rfl (lv_at hl 0 rfl) ?_
                refine ks_getI hE hw 0 27 ltM_0 lyM_0 rfl fd_X7_201 dX7_by_151 ?_
                refine lv_goto (tgt := 161) hx hb dX7_by_154 (by decide) ?_
                replace hf := Option.some.inj hf
                subst hf
                exact ke_iret hE hw hQ dX7_by_161 rfl rfl
            · have hf := (if_pos c19).symm.trans hf
              refine lv_aload_n hx hb dX7_by_137 rfl (lv_at hl 0 rfl) ?_
              refine ks_getI hE hw 0 26 ltM_0 lyM_0 rfl fd_X7_198 dX7_by_138 ?_
              refine lv_goto (tgt := 161) hx hb dX7_by_141 (by decide) ?_
              replace hf := Option.some.inj hf
              subst hf
              exact ke_iret hE hw hQ dX7_by_161 rfl rfl
  unfold fX7_by at hf
  refine lv_aload_n hx hb dX7_by_0 rfl (lv_at hl 0 rfl) ?_
  refine lv_iconst (v := 0) hx hb dX7_by_1 (by decide) ?_
  obtain ⟨t1, et1, hf⟩ := ks_nm hf
  refine ks_putI hE hw 0 0 ltM_0 lyM_0 rfl fw_X7_57 rfl rfl dX7_by_2 (fun H locs hw => ?_)
  rw [← et1] at hw
  refine lv_aload_n hx hb dX7_by_5 rfl (lv_at hl 0 rfl) ?_
  refine lv_iload_n hx hb dX7_by_6 rfl (lv_at hl 1 rfl) ?_
  refine lv_iload_n hx hb dX7_by_7 rfl (lv_at hl 2 rfl) ?_
  refine lv_iload_n hx hb dX7_by_8 rfl (lv_at hl 3 rfl) ?_
  refine lv_iload hx hb dX7_by_9 (lv_at hl 4 rfl) ?_
  obtain ⟨r2, er2, hf⟩ := ks_nm hf
  refine ke_V hE hw hl.1 cl_X7_220 0 ltM_0 lyM_0 rfl [.int p1, .int p2, .int p3, .int p4] (c_X7_isAsked l D cA st ad a _ _ _ _ _ _ er2.symm) rfl (ke_room hRm rfl rfl) ke_cnt (Nat.le_of_ble_eq_true rfl) rfl dX7_by_11 (fun H locs hw => ?_)
  refine W.eq (g2 := F0 m 14 ls (.int (bI r2) :: [])) rfl ?_
  refine lv_if_eq (tgt := 27) hx hb dX7_by_14 (by decide) (fun c3 => ?_) (fun c3 => ?_)
  · have hf := (if_pos c3).symm.trans hf
    refine lv_iconst (v := (-1)) hx hb dX7_by_27 (by decide) ?_
    replace hf := Option.some.inj hf
    subst hf
    exact ke_iret hE hw hQ dX7_by_28 rfl rfl
  · have hf := (if_neg c3).symm.trans hf
    refine lv_iload hx hb dX7_by_17 (lv_at hl 5 rfl) ?_
    refine lv_iconst (v := 0) hx hb dX7_by_19 (by decide) ?_
    refine lv_iconst (v := 2) hx hb dX7_by_20 (by decide) ?_
    obtain ⟨r4, er4, hf⟩ := ks_nm hf
    refine ke_S hE hw hl.1 cl_X7_72 [.int p5, .int (0 : Int32), .int (2 : Int32)] (c_X7_in l D cA st ad a _ _ _ _ _ er4.symm) rfl (ke_room hRm rfl rfl) ke_cnt (Nat.le_of_ble_eq_true rfl) rfl dX7_by_21 (fun H locs hw => ?_)
    refine W.eq (g2 := F0 m 24 ls (.int (bI r4) :: [])) rfl ?_
    refine lv_if_ne (tgt := 29) hx hb dX7_by_24 (by decide) (fun c5 => ?_) (fun c5 => ?_)
    · have hf := (if_neg c5).symm.trans hf
      refine lv_aload_n hx hb dX7_by_29 rfl (lv_at hl 0 rfl) ?_
      refine lv_iload_n hx hb dX7_by_30 rfl (lv_at hl 1 rfl) ?_
      obtain ⟨r6, er6, hf⟩ := ks_bind hf
      refine ke_V hE hw hl.1 cl_X7_224 0 ltM_0 lyM_0 rfl [.int p1] (c_X7_shows l D cA st ad a _ _ _ er6) rfl (ke_room hRm rfl rfl) ke_cnt (Nat.le_of_ble_eq_true rfl) rfl dX7_by_31 (fun H locs hw => ?_)
      refine W.eq (g2 := F0 m 34 ls ([])) rfl ?_
      refine lv_bipush (v := 16) hx hb dX7_by_34 (by decide) ?_
      refine lv_iload_n hx hb dX7_by_36 rfl (lv_at hl 2 rfl) ?_
      refine lv_imul hx hb dX7_by_37 ?_
      refine lv_iconst (v := 4) hx hb dX7_by_38 (by decide) ?_
      refine lv_iload_n hx hb dX7_by_39 rfl (lv_at hl 3 rfl) ?_
      refine lv_imul hx hb dX7_by_40 ?_
      refine lv_iadd hx hb dX7_by_41 ?_
      refine lv_iload hx hb dX7_by_42 (lv_at hl 4 rfl) ?_
      refine lv_iadd hx hb dX7_by_44 ?_
      obtain ⟨x7, ex7, hf⟩ := ks_nm hf
      refine W.eq (g2 := F0 m 45 ls (.int x7 :: [])) (by rw [ex7]) ?_
      refine lv_istore (lv' := [(6, .int x7), (0, .ref (adr ad a 0)), (1, .int p1), (2, .int p2), (3, .int p3), (4, .int p4), (5, .int p5)]) hx hb dX7_by_45 hl (by decide) rfl (fun ls hl => ?_)
      refine lv_aload_n hx hb dX7_by_47 rfl (lv_at hl 1 rfl) ?_
      refine ks_getR hE hw 0 24 ltM_0 lyM_0 rfl fd_X7_51 dX7_by_48 ?_
      refine lv_iload hx hb dX7_by_51 (lv_at hl 0 rfl) ?_
      obtain ⟨b8, hf⟩ := ks_ok hf
      refine ks_iald hE hw 11 ltM_11 lyM_11 b8 dX7_by_53 ?_
      obtain ⟨x9, ex9, hf⟩ := ks_nm hf
      refine W.eq (g2 := F0 m 54 ls (.int x9 :: [])) (by rw [ex9]) ?_
      refine lv_istore (lv' := [(7, .int x9), (6, .int x7), (0, .ref (adr ad a 0)), (1, .int p1), (2, .int p2), (3, .int p3), (4, .int p4), (5, .int p5)]) hx hb dX7_by_54 hl (by decide) rfl (fun ls hl => ?_)
      refine lv_iload hx hb dX7_by_56 (lv_at hl 0 rfl) ?_
      refine lv_bipush (v := (-9)) hx hb dX7_by_58 (by decide) ?_
      refine lv_icmp_eq (tgt := 73) hx hb dX7_by_60 (by decide) (fun c10 => ?_) (fun c10 => ?_)
      · have hf := (if_pos c10).symm.trans hf
        refine lv_bipush (v := (-9)) hx hb dX7_by_73 (by decide) ?_
        replace hf := Option.some.inj hf
        subst hf
        exact ke_iret hE hw hQ dX7_by_75 rfl rfl
      · have hf := (if_neg c10).symm.trans hf
        refine lv_aload_n hx hb dX7_by_63 rfl (lv_at hl 2 rfl) ?_
        refine lv_iload_n hx hb dX7_by_64 rfl (lv_at hl 3 rfl) ?_
        refine lv_iload hx hb dX7_by_65 (lv_at hl 1 rfl) ?_
        obtain ⟨r11, er11, hf⟩ := ks_bind hf
        refine ke_V hE hw hl.1 cl_X7_210 0 ltM_0 lyM_0 rfl [.int p1, .int x7] (c_X7_isTold l D cA st ad a _ _ _ _ er11) rfl (ke_room hRm rfl rfl) ke_cnt (Nat.le_of_ble_eq_true rfl) rfl dX7_by_67 (fun H locs hw => ?_)
        refine W.eq (g2 := F0 m 70 ls (.int (bI r11) :: [])) rfl ?_
        refine lv_if_eq (tgt := 76) hx hb dX7_by_70 (by decide) (fun c12 => ?_) (fun c12 => ?_)
        · have hf := (if_pos c12).symm.trans hf
          refine lv_iload hx hb dX7_by_76 (lv_at hl 0 rfl) ?_
          refine lv_if_ne (tgt := 94) hx hb dX7_by_78 (by decide) (fun c13 => ?_) (fun c13 => ?_)
          · have hf := (if_neg c13).symm.trans hf
            refine lv_iconst (v := 0) hx hb dX7_by_94 (by decide) ?_
            refine lv_istore (lv' := [(8, .int (0 : Int32)), (7, .int x9), (6, .int x7), (0, .ref (adr ad a 0)), (1, .int p1), (2, .int p2), (3, .int p3), (4, .int p4), (5, .int p5)]) hx hb dX7_by_95 hl (by decide) rfl (fun ls hl => ?_)
            exact L97 FU _ _ _ _ _ _ hf hw (lv_sub hl [3, 5, 6, 7, 8, 1, 0] rfl)
          · have hf := (if_pos c13).symm.trans hf
            refine lv_iload hx hb dX7_by_81 (lv_at hl 7 rfl) ?_
            refine lv_if_ne (tgt := 91) hx hb dX7_by_83 (by decide) (fun c14 => ?_) (fun c14 => ?_)
            · have hf := (if_neg c14).symm.trans hf
              refine lv_bipush (v := (-9)) hx hb dX7_by_91 (by decide) ?_
              replace hf := Option.some.inj hf
              subst hf
              exact ke_iret hE hw hQ dX7_by_93 rfl rfl
            · have hf := (if_pos c14).symm.trans hf
              refine lv_bipush (v := 7) hx hb dX7_by_86 (by decide) ?_
              refine lv_goto (tgt := 93) hx hb dX7_by_88 (by decide) ?_
              replace hf := Option.some.inj hf
              subst hf
              exact ke_iret hE hw hQ dX7_by_93 rfl rfl
        · have hf := (if_neg c12).symm.trans hf
          refine lv_bipush (v := (-9)) hx hb dX7_by_73 (by decide) ?_
          replace hf := Option.some.inj hf
          subst hf
          exact ke_iret hE hw hQ dX7_by_75 rfl rfl
    · have hf := (if_pos c5).symm.trans hf
      refine lv_iconst (v := (-1)) hx hb dX7_by_27 (by decide) ?_
      replace hf := Option.some.inj hf
      subst hf
      exact ke_iret hE hw hQ dX7_by_28 rfl rfl
def fX7_shown_297 (p1 : Int32) (p2 : Int32) (k236 : Tau → Int32 → Int64 → Int32 → Option (Int32 × Tau)) (τ : Tau) (x_4 : Int64) (x_6 : Int32) (z_0 : Int32) (z_1 : Int32) : Option (Int32 × Tau) :=
 nm (z_1 + z_0) (fun x41 =>
     nm (x_6 + (1 : Int32)) (fun x42 =>
     k236 τ x41 x_4 x42))
def fX7_shown_296 (p1 : Int32) (p2 : Int32) (k236 : Tau → Int32 → Int64 → Int32 → Option (Int32 × Tau)) (τ : Tau) (x_4 : Int64) (x_6 : Int32) (z_0 : Int32) : Option (Int32 × Tau) :=
 fX7_shown_297 p1 p2 k236 τ x_4 x_6 (0 : Int32) z_0
def fX7_shown_236 (p1 : Int32) (p2 : Int32) : Nat → Tau → Int32 → Int64 → Int32 → Option (Int32 × Tau)
  | 0, _, _, _, _ => none
  | n + 1, τ, x_3, x_4, x_6 =>
     (if (64 : Int32) ≤ x_6 then
     some (x_3, τ)
     else
     (if tI τ 0 1 ≤ ((x_6 / (4 : Int32)) - (x_6 / (4 : Int32)) / (4 : Int32) * (4 : Int32)) then
     fX7_shown_296 p1 p2 (fX7_shown_236 p1 p2 n) τ x_4 x_6 x_3
     else
     (if tI τ 0 1 ≤ (x_6 - x_6 / (4 : Int32) * (4 : Int32)) then
     fX7_shown_296 p1 p2 (fX7_shown_236 p1 p2 n) τ x_4 x_6 x_3
     else
     (if lg_cmp ((x_4 >>> (x_6.toInt64 &&& 63)) &&& (1 : Int64)) (1 : Int64) = 0 then
     (if x_6 < 0 ∨ 64 ≤ x_6.toNatClampNeg then none else
     (if tA τ 11 x_6.toNatClampNeg = (-9 : Int32) then
     fX7_shown_297 p1 p2 (fX7_shown_236 p1 p2 n) τ x_4 x_6 (1 : Int32) x_3
     else
     fX7_shown_296 p1 p2 (fX7_shown_236 p1 p2 n) τ x_4 x_6 x_3))
     else
     fX7_shown_296 p1 p2 (fX7_shown_236 p1 p2 n) τ x_4 x_6 x_3))))
def fX7_shown_224 (p1 : Int32) (p2 : Int32) (k182 : Tau → Int32 → Int64 → Int32 → Option (Int32 × Tau)) (τ : Tau) (x_3 : Int32) (x_6 : Int32) (z_0 : Int64) (z_1 : Int64) : Option (Int32 × Tau) :=
 nm (z_1 &&& z_0) (fun x33 =>
     nm (x_6 + (1 : Int32)) (fun x34 =>
     k182 τ x_3 x33 x34))
def fX7_shown_221 (p1 : Int32) (p2 : Int32) (k182 : Tau → Int32 → Int64 → Int32 → Option (Int32 × Tau)) (τ : Tau) (x_3 : Int32) (x_6 : Int32) (z_0 : Int64) : Option (Int32 × Tau) :=
 fX7_shown_224 p1 p2 k182 τ x_3 x_6 (-1 : Int64) z_0
def fX7_shown_182 (p1 : Int32) (p2 : Int32) : Nat → Tau → Int32 → Int64 → Int32 → Option (Int32 × Tau)
  | 0, _, _, _, _ => none
  | n + 1, τ, x_3, x_4, x_6 =>
     (if (1024 : Int32) ≤ x_6 then
     fX7_shown_236 p1 p2 FU τ x_3 x_4 (0 : Int32)
     else
     (if x_6 < 0 ∨ 1024 ≤ x_6.toNatClampNeg then none else
     (if tA τ 7 x_6.toNatClampNeg ≤ 0 then
     fX7_shown_221 p1 p2 (fX7_shown_182 p1 p2 n) τ x_3 x_6 x_4
     else
     nm (fX7_isIn p1 x_6) (fun r30 =>
     (if bI r30 = 0 then
     fX7_shown_221 p1 p2 (fX7_shown_182 p1 p2 n) τ x_3 x_6 x_4
     else
     (if x_6 < 0 ∨ 1024 ≤ x_6.toNatClampNeg then none else
     fX7_shown_224 p1 p2 (fX7_shown_182 p1 p2 n) τ x_3 x_6 (tB τ 10 x_6.toNatClampNeg) x_4))))))
def fX7_shown_160 (p1 : Int32) (p2 : Int32) (k135 : Tau → Int32 → Int32 → Option (Int32 × Tau)) (τ : Tau) (x_4 : Int32) (z_0 : Int32) (z_1 : Int32) : Option (Int32 × Tau) :=
 nm (z_1 + z_0) (fun x25 =>
     nm (x_4 + (1 : Int32)) (fun x26 =>
     k135 τ x25 x26))
def fX7_shown_135 (p1 : Int32) (p2 : Int32) : Nat → Tau → Int32 → Int32 → Option (Int32 × Tau)
  | 0, _, _, _ => none
  | n + 1, τ, x_3, x_4 =>
     (if (64 : Int32) ≤ x_4 then
     some (x_3, τ)
     else
     (if x_4 < 0 ∨ 64 ≤ x_4.toNatClampNeg then none else
     (if tA τ 11 x_4.toNatClampNeg = (-9 : Int32) then
     fX7_shown_160 p1 p2 (fX7_shown_135 p1 p2 n) τ x_4 (0 : Int32) x_3
     else
     fX7_shown_160 p1 p2 (fX7_shown_135 p1 p2 n) τ x_4 (1 : Int32) x_3)))
def fX7_shown_118 (p1 : Int32) (p2 : Int32) (k48 : Tau → Int32 → Int32 → Option (Int32 × Tau)) (τ : Tau) (x_4 : Int32) (z_0 : Int32) (z_1 : Int32) : Option (Int32 × Tau) :=
 nm (z_1 ||| z_0) (fun x16 =>
     nm (x_4 + (1 : Int32)) (fun x17 =>
     k48 τ x16 x17))
def fX7_shown_117 (p1 : Int32) (p2 : Int32) (k48 : Tau → Int32 → Int32 → Option (Int32 × Tau)) (τ : Tau) (x_4 : Int32) (z_0 : Int32) : Option (Int32 × Tau) :=
 fX7_shown_118 p1 p2 k48 τ x_4 (0 : Int32) z_0
def fX7_shown_113 (p1 : Int32) (p2 : Int32) (k48 : Tau → Int32 → Int32 → Option (Int32 × Tau)) (τ : Tau) (x_4 : Int32) (z_0 : Int32) : Option (Int32 × Tau) :=
 fX7_shown_118 p1 p2 k48 τ x_4 (1 : Int32) z_0
def fX7_shown_83 (p1 : Int32) (p2 : Int32) (k48 : Tau → Int32 → Int32 → Option (Int32 × Tau)) (τ : Tau) (x_4 : Int32) (z_0 : Int32) : Option (Int32 × Tau) :=
 (if ((16 : Int32) + x_4) < 0 ∨ 64 ≤ ((16 : Int32) + x_4).toNatClampNeg then none else
    (if tA τ 11 ((16 : Int32) + x_4).toNatClampNeg = (-9 : Int32) then
     fX7_shown_117 p1 p2 k48 τ x_4 z_0
     else
    (if ((32 : Int32) + x_4) < 0 ∨ 64 ≤ ((32 : Int32) + x_4).toNatClampNeg then none else
    (if tA τ 11 ((32 : Int32) + x_4).toNatClampNeg = (-9 : Int32) then
     fX7_shown_117 p1 p2 k48 τ x_4 z_0
     else
     fX7_shown_113 p1 p2 k48 τ x_4 z_0))))
def fX7_shown_48 (p1 : Int32) (p2 : Int32) : Nat → Tau → Int32 → Int32 → Option (Int32 × Tau)
  | 0, _, _, _ => none
  | n + 1, τ, x_3, x_4 =>
     (if (16 : Int32) ≤ x_4 then
     some (x_3, τ)
     else
     (if x_4 < 0 ∨ 64 ≤ x_4.toNatClampNeg then none else
     (if tA τ 11 x_4.toNatClampNeg = (-9 : Int32) then
     fX7_shown_83 p1 p2 (fX7_shown_48 p1 p2 n) τ x_4 x_3
     else
     (if ((48 : Int32) + x_4) < 0 ∨ 64 ≤ ((48 : Int32) + x_4).toNatClampNeg then none else
     (if tA τ 11 ((48 : Int32) + x_4).toNatClampNeg = (-9 : Int32) then
     fX7_shown_83 p1 p2 (fX7_shown_48 p1 p2 n) τ x_4 x_3
     else
     fX7_shown_113 p1 p2 (fX7_shown_48 p1 p2 n) τ x_4 x_3)))))
def fX7_shown  (τ : Tau) (p1 : Int32) (p2 : Int32) : Option (Int32 × Tau) :=
 nm (sI τ 0 0 (0 : Int32)) (fun t1 =>
 nm (fX7_isSet p1) (fun r2 =>
 (if bI r2 = 0 then
 some ((-1 : Int32), t1)
 else
 nm (fX7_in p2 (0 : Int32) (3 : Int32)) (fun r4 =>
 (if bI r4 = 0 then
 some ((-1 : Int32), t1)
 else
 Option.bind (fX7_shows t1 p1) (fun r6 =>
 (if p2 = (1 : Int32) then
 some (tI r6 0 25, r6)
 else
 (if p2 = (2 : Int32) then
 fX7_shown_48 p1 p2 FU r6 (0 : Int32) (0 : Int32)
 else
 (if p2 = 0 then
 fX7_shown_135 p1 p2 FU r6 (0 : Int32) (0 : Int32)
 else
 Option.bind (fX7_loads r6) (fun r10 =>
 fX7_shown_182 p1 p2 FU r10 (0 : Int32) (-1 : Int64) (0 : Int32)))))))))))
set_option maxHeartbeats 4000000 in
set_option maxRecDepth 100000 in
theorem c_X7_shown (l : Launch) (D : va_G) (cA : Nat → ClassId) (st ad : Nat → Nat) (a : Nat)  (τ : Tau) (p1 : Int32) (p2 : Int32) (R : (Int32 × Tau)) (hf : fX7_shown τ p1 p2 = some R) : KE ΛM 12 D cA st ad l yX7_shown cX7_shown 7 (some .int) 5 121 [.ref (adr ad a 0), .int p1, .int p2] a τ (some (.int R.1)) R.2 := by
  refine KE.of "KindSayingsModel" rfl (by decide) (Nat.le_of_ble_eq_true rfl) (fun p e s m args below meth c A ls Rm Q hE hRm hQ hw hl => ?_)
  obtain ⟨hx, hb, hml, hown, hts, -⟩ := id hE
  have hl : lv_has ls 7 [(0, .ref (adr ad a 0)), (1, .int p1), (2, .int p2)] := hl
  have L236 : ∀ (n236 : Nat) (τ : Tau) (x_3 : Int32) (x_4 : Int64) (x_6 : Int32) (H : Heap) (locs : List Loc) (ls : Array Slot), fX7_shown_236 p1 p2 n236 τ x_3 x_4 x_6 = some R → Wd ΛM 12 D cA ad A s a τ H locs → lv_has ls 7 [(0, .ref (adr ad a 0)), (3, .int x_3), (4, .long x_4), (6, .int x_6)] → W p l e Rm s m args below meth c H locs 0 0 Q (F0 m 236 ls []) := by
    intro n236
    induction n236 with
    | zero => intro τ x_3 x_4 x_6 H locs ls hf hw hl; exact absurd hf (by rw [fX7_shown_236]; simp)
    | succ n236 ih236 =>
      have L297 : ∀ (τ : Tau) (x_4 : Int64) (x_6 : Int32) (z_0 : Int32) (z_1 : Int32) (H : Heap) (locs : List Loc) (ls : Array Slot), fX7_shown_297 p1 p2 (fX7_shown_236 p1 p2 n236) τ x_4 x_6 z_0 z_1 = some R → Wd ΛM 12 D cA ad A s a τ H locs → lv_has ls 7 [(0, .ref (adr ad a 0)), (4, .long x_4), (6, .int x_6)] → W p l e Rm s m args below meth c H locs 0 0 Q (F0 m 297 ls [.int z_0, .int z_1]) := by
        intro τ x_4 x_6 z_0 z_1 H locs ls hf hw hl
        unfold fX7_shown_297 at hf
        refine lv_iadd hx hb dX7_shown_297 ?_
        obtain ⟨x41, ex41, hf⟩ := ks_nm hf
        refine W.eq (g2 := F0 m 298 ls (.int x41 :: [])) (by rw [ex41]) ?_
        refine lv_istore_n (lv' := [(3, .int x41), (0, .ref (adr ad a 0)), (4, .long x_4), (6, .int x_6)]) hx hb dX7_shown_298 rfl hl (by decide) rfl (fun ls hl => ?_)
        obtain ⟨x42, ex42, hf⟩ := ks_nm hf
        refine lv_iinc (v := x42) (lv' := [(6, .int x42), (3, .int x41), (0, .ref (adr ad a 0)), (4, .long x_4)]) hx hb dX7_shown_299 hl (k := 3) rfl (by rw [ex42]; rfl) (by decide) rfl (fun ls hl => ?_)
        refine lv_goto (tgt := 236) hx hb dX7_shown_302 (by decide) ?_
        exact ih236 _ _ _ _ _ _ _ hf hw (lv_sub hl [2, 1, 3, 0] rfl)
      have L296 : ∀ (τ : Tau) (x_4 : Int64) (x_6 : Int32) (z_0 : Int32) (H : Heap) (locs : List Loc) (ls : Array Slot), fX7_shown_296 p1 p2 (fX7_shown_236 p1 p2 n236) τ x_4 x_6 z_0 = some R → Wd ΛM 12 D cA ad A s a τ H locs → lv_has ls 7 [(0, .ref (adr ad a 0)), (4, .long x_4), (6, .int x_6)] → W p l e Rm s m args below meth c H locs 0 0 Q (F0 m 296 ls [.int z_0]) := by
        intro τ x_4 x_6 z_0 H locs ls hf hw hl
        unfold fX7_shown_296 at hf
        refine lv_iconst (v := 0) hx hb dX7_shown_296 (by decide) ?_
        exact L297 _ _ _ _ _ _ _ _ hf hw (lv_sub hl [0, 1, 2] rfl)
      intro τ x_3 x_4 x_6 H locs ls hf hw hl
      rw [fX7_shown_236] at hf
      refine lv_iload hx hb dX7_shown_236 (lv_at hl 3 rfl) ?_
      refine lv_bipush (v := 64) hx hb dX7_shown_238 (by decide) ?_
      refine lv_icmp_ge (tgt := 305) hx hb dX7_shown_240 (by decide) (fun c35 => ?_) (fun c35 => ?_)
      · have hf := (if_pos c35).symm.trans hf
        refine lv_iload_n hx hb dX7_shown_305 rfl (lv_at hl 1 rfl) ?_
        replace hf := Option.some.inj hf
        subst hf
        exact ke_iret hE hw hQ dX7_shown_306 rfl rfl
      · have hf := (if_neg c35).symm.trans hf
        refine lv_iload_n hx hb dX7_shown_243 rfl (lv_at hl 1 rfl) ?_
        refine lv_iload hx hb dX7_shown_244 (lv_at hl 3 rfl) ?_
        refine lv_iconst (v := 4) hx hb dX7_shown_246 (by decide) ?_
        refine lv_idiv hx hb dX7_shown_247 (by decide) ?_
        refine lv_iconst (v := 4) hx hb dX7_shown_248 (by decide) ?_
        refine lv_irem hx hb dX7_shown_249 (by decide) ?_
        refine lv_aload_n hx hb dX7_shown_250 rfl (lv_at hl 0 rfl) ?_
        refine ks_getI hE hw 0 1 ltM_0 lyM_0 rfl fd_X7_7 dX7_shown_251 ?_
        refine lv_icmp_ge (tgt := 296) hx hb dX7_shown_254 (by decide) (fun c36 => ?_) (fun c36 => ?_)
        · have hf := (if_pos c36).symm.trans hf
          exact L296 _ _ _ _ _ _ _ hf hw (lv_sub hl [0, 2, 3] rfl)
        · have hf := (if_neg c36).symm.trans hf
          refine lv_iload hx hb dX7_shown_257 (lv_at hl 3 rfl) ?_
          refine lv_iconst (v := 4) hx hb dX7_shown_259 (by decide) ?_
          refine lv_irem hx hb dX7_shown_260 (by decide) ?_
          refine lv_aload_n hx hb dX7_shown_261 rfl (lv_at hl 0 rfl) ?_
          refine ks_getI hE hw 0 1 ltM_0 lyM_0 rfl fd_X7_7 dX7_shown_262 ?_
          refine lv_icmp_ge (tgt := 296) hx hb dX7_shown_265 (by decide) (fun c37 => ?_) (fun c37 => ?_)
          · have hf := (if_pos c37).symm.trans hf
            exact L296 _ _ _ _ _ _ _ hf hw (lv_sub hl [0, 2, 3] rfl)
          · have hf := (if_neg c37).symm.trans hf
            refine lv_lload hx hb dX7_shown_268 (lv_at hl 2 rfl) ?_
            refine lv_iload hx hb dX7_shown_270 (lv_at hl 3 rfl) ?_
            refine lv_lshr hx hb dX7_shown_272 rfl ?_
            refine lv_lconst (v := 1) hx hb dX7_shown_273 (by decide) ?_
            refine lv_land hx hb dX7_shown_274 ?_
            refine lv_lconst (v := 1) hx hb dX7_shown_275 (by decide) ?_
            refine W.lcmp hx hb dX7_shown_276 ?_
            refine lv_if_ne (tgt := 296) hx hb dX7_shown_277 (by decide) (fun c38 => ?_) (fun c38 => ?_)
            · have hf := (if_neg c38).symm.trans hf
              exact L296 _ _ _ _ _ _ _ hf hw (lv_sub hl [0, 2, 3] rfl)
            · have hf := (if_pos c38).symm.trans hf
              refine lv_aload_n hx hb dX7_shown_280 rfl (lv_at hl 0 rfl) ?_
              refine ks_getR hE hw 0 24 ltM_0 lyM_0 rfl fd_X7_51 dX7_shown_281 ?_
              refine lv_iload hx hb dX7_shown_284 (lv_at hl 3 rfl) ?_
              obtain ⟨b39, hf⟩ := ks_ok hf
              refine ks_iald hE hw 11 ltM_11 lyM_11 b39 dX7_shown_286 ?_
              refine lv_bipush (v := (-9)) hx hb dX7_shown_287 (by decide) ?_
              refine lv_icmp_ne (tgt := 296) hx hb dX7_shown_289 (by decide) (fun c40 => ?_) (fun c40 => ?_)
              · have hf := (if_neg c40).symm.trans hf
                exact L296 _ _ _ _ _ _ _ hf hw (lv_sub hl [0, 2, 3] rfl)
              · have hf := (if_pos c40).symm.trans hf
                refine lv_iconst (v := 1) hx hb dX7_shown_292 (by decide) ?_
                refine lv_goto (tgt := 297) hx hb dX7_shown_293 (by decide) ?_
                exact L297 _ _ _ _ _ _ _ _ hf hw (lv_sub hl [0, 2, 3] rfl)
  have L182 : ∀ (n182 : Nat) (τ : Tau) (x_3 : Int32) (x_4 : Int64) (x_6 : Int32) (H : Heap) (locs : List Loc) (ls : Array Slot), fX7_shown_182 p1 p2 n182 τ x_3 x_4 x_6 = some R → Wd ΛM 12 D cA ad A s a τ H locs → lv_has ls 7 [(0, .ref (adr ad a 0)), (1, .int p1), (3, .int x_3), (4, .long x_4), (6, .int x_6)] → W p l e Rm s m args below meth c H locs 0 0 Q (F0 m 182 ls []) := by
    intro n182
    induction n182 with
    | zero => intro τ x_3 x_4 x_6 H locs ls hf hw hl; exact absurd hf (by rw [fX7_shown_182]; simp)
    | succ n182 ih182 =>
      have L224 : ∀ (τ : Tau) (x_3 : Int32) (x_6 : Int32) (z_0 : Int64) (z_1 : Int64) (H : Heap) (locs : List Loc) (ls : Array Slot), fX7_shown_224 p1 p2 (fX7_shown_182 p1 p2 n182) τ x_3 x_6 z_0 z_1 = some R → Wd ΛM 12 D cA ad A s a τ H locs → lv_has ls 7 [(0, .ref (adr ad a 0)), (1, .int p1), (3, .int x_3), (6, .int x_6)] → W p l e Rm s m args below meth c H locs 0 0 Q (F0 m 224 ls [.long z_0, .long z_1]) := by
        intro τ x_3 x_6 z_0 z_1 H locs ls hf hw hl
        unfold fX7_shown_224 at hf
        refine lv_land hx hb dX7_shown_224 ?_
        obtain ⟨x33, ex33, hf⟩ := ks_nm hf
        refine W.eq (g2 := F0 m 225 ls (.long x33 :: [])) (by rw [ex33]) ?_
        refine lv_lstore (lv' := [(4, .long x33), (0, .ref (adr ad a 0)), (1, .int p1), (3, .int x_3), (6, .int x_6)]) hx hb dX7_shown_225 hl (by decide) rfl (fun ls hl => ?_)
        obtain ⟨x34, ex34, hf⟩ := ks_nm hf
        refine lv_iinc (v := x34) (lv' := [(6, .int x34), (4, .long x33), (0, .ref (adr ad a 0)), (1, .int p1), (3, .int x_3)]) hx hb dX7_shown_227 hl (k := 4) rfl (by rw [ex34]; rfl) (by decide) rfl (fun ls hl => ?_)
        refine lv_goto (tgt := 182) hx hb dX7_shown_230 (by decide) ?_
        exact ih182 _ _ _ _ _ _ _ hf hw (lv_sub hl [2, 3, 4, 1, 0] rfl)
      have L221 : ∀ (τ : Tau) (x_3 : Int32) (x_6 : Int32) (z_0 : Int64) (H : Heap) (locs : List Loc) (ls : Array Slot), fX7_shown_221 p1 p2 (fX7_shown_182 p1 p2 n182) τ x_3 x_6 z_0 = some R → Wd ΛM 12 D cA ad A s a τ H locs → lv_has ls 7 [(0, .ref (adr ad a 0)), (1, .int p1), (3, .int x_3), (6, .int x_6)] → W p l e Rm s m args below meth c H locs 0 0 Q (F0 m 221 ls [.long z_0]) := by
        intro τ x_3 x_6 z_0 H locs ls hf hw hl
        unfold fX7_shown_221 at hf
        refine lv_ldc2 hx hb hown (hts _ w_889) dX7_shown_221 ?_
        exact L224 _ _ _ _ _ _ _ _ hf hw (lv_sub hl [0, 1, 2, 3] rfl)
      intro τ x_3 x_4 x_6 H locs ls hf hw hl
      rw [fX7_shown_182] at hf
      refine lv_iload hx hb dX7_shown_182 (lv_at hl 4 rfl) ?_
      refine lv_sipush (v := 1024) hx hb dX7_shown_184 (by decide) ?_
      refine lv_icmp_ge (tgt := 233) hx hb dX7_shown_187 (by decide) (fun c27 => ?_) (fun c27 => ?_)
      · have hf := (if_pos c27).symm.trans hf
        refine lv_iconst (v := 0) hx hb dX7_shown_233 (by decide) ?_
        refine lv_istore (lv' := [(6, .int (0 : Int32)), (0, .ref (adr ad a 0)), (1, .int p1), (3, .int x_3), (4, .long x_4)]) hx hb dX7_shown_234 hl (by decide) rfl (fun ls hl => ?_)
        exact L236 FU _ _ _ _ _ _ _ hf hw (lv_sub hl [1, 3, 4, 0] rfl)
      · have hf := (if_neg c27).symm.trans hf
        refine lv_lload hx hb dX7_shown_190 (lv_at hl 3 rfl) ?_
        refine lv_aload_n hx hb dX7_shown_192 rfl (lv_at hl 0 rfl) ?_
        refine ks_getR hE hw 0 20 ltM_0 lyM_0 rfl fd_X7_38 dX7_shown_193 ?_
        refine lv_iload hx hb dX7_shown_196 (lv_at hl 4 rfl) ?_
        obtain ⟨b28, hf⟩ := ks_ok hf
        refine ks_iald hE hw 7 ltM_7 lyM_7 b28 dX7_shown_198 ?_
        refine lv_if_le (tgt := 221) hx hb dX7_shown_199 (by decide) (fun c29 => ?_) (fun c29 => ?_)
        · have hf := (if_pos c29).symm.trans hf
          exact L221 _ _ _ _ _ _ _ hf hw (lv_sub hl [0, 1, 2, 4] rfl)
        · have hf := (if_neg c29).symm.trans hf
          refine lv_iload_n hx hb dX7_shown_202 rfl (lv_at hl 1 rfl) ?_
          refine lv_iload hx hb dX7_shown_203 (lv_at hl 4 rfl) ?_
          obtain ⟨r30, er30, hf⟩ := ks_nm hf
          refine ke_S hE hw hl.1 cl_X7_178 [.int p1, .int x_6] (c_X7_isIn l D cA st ad a _ _ _ _ er30.symm) rfl (ke_room hRm rfl rfl) ke_cnt (Nat.le_of_ble_eq_true rfl) rfl dX7_shown_205 (fun H locs hw => ?_)
          refine W.eq (g2 := F0 m 208 ls (.int (bI r30) :: .long x_4 :: [])) rfl ?_
          refine lv_if_eq (tgt := 221) hx hb dX7_shown_208 (by decide) (fun c31 => ?_) (fun c31 => ?_)
          · have hf := (if_pos c31).symm.trans hf
            exact L221 _ _ _ _ _ _ _ hf hw (lv_sub hl [0, 1, 2, 4] rfl)
          · have hf := (if_neg c31).symm.trans hf
            refine lv_aload_n hx hb dX7_shown_211 rfl (lv_at hl 0 rfl) ?_
            refine ks_getR hE hw 0 23 ltM_0 lyM_0 rfl fd_X7_47 dX7_shown_212 ?_
            refine lv_iload hx hb dX7_shown_215 (lv_at hl 4 rfl) ?_
            obtain ⟨b32, hf⟩ := ks_ok hf
            refine ks_lald hE hw 10 ltM_10 lyM_10 b32 dX7_shown_217 ?_
            refine lv_goto (tgt := 224) hx hb dX7_shown_218 (by decide) ?_
            exact L224 _ _ _ _ _ _ _ _ hf hw (lv_sub hl [0, 1, 2, 4] rfl)
  have L135 : ∀ (n135 : Nat) (τ : Tau) (x_3 : Int32) (x_4 : Int32) (H : Heap) (locs : List Loc) (ls : Array Slot), fX7_shown_135 p1 p2 n135 τ x_3 x_4 = some R → Wd ΛM 12 D cA ad A s a τ H locs → lv_has ls 7 [(0, .ref (adr ad a 0)), (3, .int x_3), (4, .int x_4)] → W p l e Rm s m args below meth c H locs 0 0 Q (F0 m 135 ls []) := by
    intro n135
    induction n135 with
    | zero => intro τ x_3 x_4 H locs ls hf hw hl; exact absurd hf (by rw [fX7_shown_135]; simp)
    | succ n135 ih135 =>
      have L160 : ∀ (τ : Tau) (x_4 : Int32) (z_0 : Int32) (z_1 : Int32) (H : Heap) (locs : List Loc) (ls : Array Slot), fX7_shown_160 p1 p2 (fX7_shown_135 p1 p2 n135) τ x_4 z_0 z_1 = some R → Wd ΛM 12 D cA ad A s a τ H locs → lv_has ls 7 [(0, .ref (adr ad a 0)), (4, .int x_4)] → W p l e Rm s m args below meth c H locs 0 0 Q (F0 m 160 ls [.int z_0, .int z_1]) := by
        intro τ x_4 z_0 z_1 H locs ls hf hw hl
        unfold fX7_shown_160 at hf
        refine lv_iadd hx hb dX7_shown_160 ?_
        obtain ⟨x25, ex25, hf⟩ := ks_nm hf
        refine W.eq (g2 := F0 m 161 ls (.int x25 :: [])) (by rw [ex25]) ?_
        refine lv_istore_n (lv' := [(3, .int x25), (0, .ref (adr ad a 0)), (4, .int x_4)]) hx hb dX7_shown_161 rfl hl (by decide) rfl (fun ls hl => ?_)
        obtain ⟨x26, ex26, hf⟩ := ks_nm hf
        refine lv_iinc (v := x26) (lv' := [(4, .int x26), (3, .int x25), (0, .ref (adr ad a 0))]) hx hb dX7_shown_162 hl (k := 2) rfl (by rw [ex26]; rfl) (by decide) rfl (fun ls hl => ?_)
        refine lv_goto (tgt := 135) hx hb dX7_shown_165 (by decide) ?_
        exact ih135 _ _ _ _ _ _ hf hw (lv_sub hl [2, 1, 0] rfl)
      intro τ x_3 x_4 H locs ls hf hw hl
      rw [fX7_shown_135] at hf
      refine lv_iload hx hb dX7_shown_135 (lv_at hl 2 rfl) ?_
      refine lv_bipush (v := 64) hx hb dX7_shown_137 (by decide) ?_
      refine lv_icmp_ge (tgt := 168) hx hb dX7_shown_139 (by decide) (fun c22 => ?_) (fun c22 => ?_)
      · have hf := (if_pos c22).symm.trans hf
        refine lv_iload_n hx hb dX7_shown_168 rfl (lv_at hl 1 rfl) ?_
        replace hf := Option.some.inj hf
        subst hf
        exact ke_iret hE hw hQ dX7_shown_169 rfl rfl
      · have hf := (if_neg c22).symm.trans hf
        refine lv_iload_n hx hb dX7_shown_142 rfl (lv_at hl 1 rfl) ?_
        refine lv_aload_n hx hb dX7_shown_143 rfl (lv_at hl 0 rfl) ?_
        refine ks_getR hE hw 0 24 ltM_0 lyM_0 rfl fd_X7_51 dX7_shown_144 ?_
        refine lv_iload hx hb dX7_shown_147 (lv_at hl 2 rfl) ?_
        obtain ⟨b23, hf⟩ := ks_ok hf
        refine ks_iald hE hw 11 ltM_11 lyM_11 b23 dX7_shown_149 ?_
        refine lv_bipush (v := (-9)) hx hb dX7_shown_150 (by decide) ?_
        refine lv_icmp_ne (tgt := 159) hx hb dX7_shown_152 (by decide) (fun c24 => ?_) (fun c24 => ?_)
        · have hf := (if_neg c24).symm.trans hf
          refine lv_iconst (v := 1) hx hb dX7_shown_159 (by decide) ?_
          exact L160 _ _ _ _ _ _ _ hf hw (lv_sub hl [0, 2] rfl)
        · have hf := (if_pos c24).symm.trans hf
          refine lv_iconst (v := 0) hx hb dX7_shown_155 (by decide) ?_
          refine lv_goto (tgt := 160) hx hb dX7_shown_156 (by decide) ?_
          exact L160 _ _ _ _ _ _ _ hf hw (lv_sub hl [0, 2] rfl)
  have L48 : ∀ (n48 : Nat) (τ : Tau) (x_3 : Int32) (x_4 : Int32) (H : Heap) (locs : List Loc) (ls : Array Slot), fX7_shown_48 p1 p2 n48 τ x_3 x_4 = some R → Wd ΛM 12 D cA ad A s a τ H locs → lv_has ls 7 [(0, .ref (adr ad a 0)), (3, .int x_3), (4, .int x_4)] → W p l e Rm s m args below meth c H locs 0 0 Q (F0 m 48 ls []) := by
    intro n48
    induction n48 with
    | zero => intro τ x_3 x_4 H locs ls hf hw hl; exact absurd hf (by rw [fX7_shown_48]; simp)
    | succ n48 ih48 =>
      have L118 : ∀ (τ : Tau) (x_4 : Int32) (z_0 : Int32) (z_1 : Int32) (H : Heap) (locs : List Loc) (ls : Array Slot), fX7_shown_118 p1 p2 (fX7_shown_48 p1 p2 n48) τ x_4 z_0 z_1 = some R → Wd ΛM 12 D cA ad A s a τ H locs → lv_has ls 7 [(0, .ref (adr ad a 0)), (4, .int x_4)] → W p l e Rm s m args below meth c H locs 0 0 Q (F0 m 118 ls [.int z_0, .int z_1]) := by
        intro τ x_4 z_0 z_1 H locs ls hf hw hl
        unfold fX7_shown_118 at hf
        refine lv_ior hx hb dX7_shown_118 ?_
        obtain ⟨x16, ex16, hf⟩ := ks_nm hf
        refine W.eq (g2 := F0 m 119 ls (.int x16 :: [])) (by rw [ex16]) ?_
        refine lv_istore_n (lv' := [(3, .int x16), (0, .ref (adr ad a 0)), (4, .int x_4)]) hx hb dX7_shown_119 rfl hl (by decide) rfl (fun ls hl => ?_)
        obtain ⟨x17, ex17, hf⟩ := ks_nm hf
        refine lv_iinc (v := x17) (lv' := [(4, .int x17), (3, .int x16), (0, .ref (adr ad a 0))]) hx hb dX7_shown_120 hl (k := 2) rfl (by rw [ex17]; rfl) (by decide) rfl (fun ls hl => ?_)
        refine lv_goto (tgt := 48) hx hb dX7_shown_123 (by decide) ?_
        exact ih48 _ _ _ _ _ _ hf hw (lv_sub hl [2, 1, 0] rfl)
      have L117 : ∀ (τ : Tau) (x_4 : Int32) (z_0 : Int32) (H : Heap) (locs : List Loc) (ls : Array Slot), fX7_shown_117 p1 p2 (fX7_shown_48 p1 p2 n48) τ x_4 z_0 = some R → Wd ΛM 12 D cA ad A s a τ H locs → lv_has ls 7 [(0, .ref (adr ad a 0)), (4, .int x_4)] → W p l e Rm s m args below meth c H locs 0 0 Q (F0 m 117 ls [.int z_0]) := by
        intro τ x_4 z_0 H locs ls hf hw hl
        unfold fX7_shown_117 at hf
        refine lv_iconst (v := 0) hx hb dX7_shown_117 (by decide) ?_
        exact L118 _ _ _ _ _ _ _ hf hw (lv_sub hl [0, 1] rfl)
      have L113 : ∀ (τ : Tau) (x_4 : Int32) (z_0 : Int32) (H : Heap) (locs : List Loc) (ls : Array Slot), fX7_shown_113 p1 p2 (fX7_shown_48 p1 p2 n48) τ x_4 z_0 = some R → Wd ΛM 12 D cA ad A s a τ H locs → lv_has ls 7 [(0, .ref (adr ad a 0)), (4, .int x_4)] → W p l e Rm s m args below meth c H locs 0 0 Q (F0 m 113 ls [.int z_0]) := by
        intro τ x_4 z_0 H locs ls hf hw hl
        unfold fX7_shown_113 at hf
        refine lv_iconst (v := 1) hx hb dX7_shown_113 (by decide) ?_
        refine lv_goto (tgt := 118) hx hb dX7_shown_114 (by decide) ?_
        exact L118 _ _ _ _ _ _ _ hf hw (lv_sub hl [0, 1] rfl)
      have L83 : ∀ (τ : Tau) (x_4 : Int32) (z_0 : Int32) (H : Heap) (locs : List Loc) (ls : Array Slot), fX7_shown_83 p1 p2 (fX7_shown_48 p1 p2 n48) τ x_4 z_0 = some R → Wd ΛM 12 D cA ad A s a τ H locs → lv_has ls 7 [(0, .ref (adr ad a 0)), (4, .int x_4)] → W p l e Rm s m args below meth c H locs 0 0 Q (F0 m 83 ls [.int z_0]) := by
        intro τ x_4 z_0 H locs ls hf hw hl
        unfold fX7_shown_83 at hf
        refine lv_aload_n hx hb dX7_shown_83 rfl (lv_at hl 0 rfl) ?_
        refine ks_getR hE hw 0 24 ltM_0 lyM_0 rfl fd_X7_51 dX7_shown_84 ?_
        refine lv_bipush (v := 16) hx hb dX7_shown_87 (by decide) ?_
        refine lv_iload hx hb dX7_shown_89 (lv_at hl 1 rfl) ?_
        refine lv_iadd hx hb dX7_shown_91 ?_
        obtain ⟨b18, hf⟩ := ks_ok hf
        refine ks_iald hE hw 11 ltM_11 lyM_11 b18 dX7_shown_92 ?_
        refine lv_bipush (v := (-9)) hx hb dX7_shown_93 (by decide) ?_
        refine lv_icmp_eq (tgt := 117) hx hb dX7_shown_95 (by decide) (fun c19 => ?_) (fun c19 => ?_)
        · have hf := (if_pos c19).symm.trans hf
          exact L117 _ _ _ _ _ _ hf hw (lv_sub hl [0, 1] rfl)
        · have hf := (if_neg c19).symm.trans hf
          refine lv_aload_n hx hb dX7_shown_98 rfl (lv_at hl 0 rfl) ?_
          refine ks_getR hE hw 0 24 ltM_0 lyM_0 rfl fd_X7_51 dX7_shown_99 ?_
          refine lv_bipush (v := 32) hx hb dX7_shown_102 (by decide) ?_
          refine lv_iload hx hb dX7_shown_104 (lv_at hl 1 rfl) ?_
          refine lv_iadd hx hb dX7_shown_106 ?_
          obtain ⟨b20, hf⟩ := ks_ok hf
          refine ks_iald hE hw 11 ltM_11 lyM_11 b20 dX7_shown_107 ?_
          refine lv_bipush (v := (-9)) hx hb dX7_shown_108 (by decide) ?_
          refine lv_icmp_eq (tgt := 117) hx hb dX7_shown_110 (by decide) (fun c21 => ?_) (fun c21 => ?_)
          · have hf := (if_pos c21).symm.trans hf
            exact L117 _ _ _ _ _ _ hf hw (lv_sub hl [0, 1] rfl)
          · have hf := (if_neg c21).symm.trans hf
            exact L113 _ _ _ _ _ _ hf hw (lv_sub hl [0, 1] rfl)
      intro τ x_3 x_4 H locs ls hf hw hl
      rw [fX7_shown_48] at hf
      refine lv_iload hx hb dX7_shown_48 (lv_at hl 2 rfl) ?_
      refine lv_bipush (v := 16) hx hb dX7_shown_50 (by decide) ?_
      refine lv_icmp_ge (tgt := 126) hx hb dX7_shown_52 (by decide) (fun c11 => ?_) (fun c11 => ?_)
      · have hf := (if_pos c11).symm.trans hf
        refine lv_iload_n hx hb dX7_shown_126 rfl (lv_at hl 1 rfl) ?_
        replace hf := Option.some.inj hf
        subst hf
        exact ke_iret hE hw hQ dX7_shown_127 rfl rfl
      · have hf := (if_neg c11).symm.trans hf
        refine lv_iload_n hx hb dX7_shown_55 rfl (lv_at hl 1 rfl) ?_
        refine lv_aload_n hx hb dX7_shown_56 rfl (lv_at hl 0 rfl) ?_
        refine ks_getR hE hw 0 24 ltM_0 lyM_0 rfl fd_X7_51 dX7_shown_57 ?_
        refine lv_iload hx hb dX7_shown_60 (lv_at hl 2 rfl) ?_
        obtain ⟨b12, hf⟩ := ks_ok hf
        refine ks_iald hE hw 11 ltM_11 lyM_11 b12 dX7_shown_62 ?_
        refine lv_bipush (v := (-9)) hx hb dX7_shown_63 (by decide) ?_
        refine lv_icmp_eq (tgt := 83) hx hb dX7_shown_65 (by decide) (fun c13 => ?_) (fun c13 => ?_)
        · have hf := (if_pos c13).symm.trans hf
          exact L83 _ _ _ _ _ _ hf hw (lv_sub hl [0, 2] rfl)
        · have hf := (if_neg c13).symm.trans hf
          refine lv_aload_n hx hb dX7_shown_68 rfl (lv_at hl 0 rfl) ?_
          refine ks_getR hE hw 0 24 ltM_0 lyM_0 rfl fd_X7_51 dX7_shown_69 ?_
          refine lv_bipush (v := 48) hx hb dX7_shown_72 (by decide) ?_
          refine lv_iload hx hb dX7_shown_74 (lv_at hl 2 rfl) ?_
          refine lv_iadd hx hb dX7_shown_76 ?_
          obtain ⟨b14, hf⟩ := ks_ok hf
          refine ks_iald hE hw 11 ltM_11 lyM_11 b14 dX7_shown_77 ?_
          refine lv_bipush (v := (-9)) hx hb dX7_shown_78 (by decide) ?_
          refine lv_icmp_ne (tgt := 113) hx hb dX7_shown_80 (by decide) (fun c15 => ?_) (fun c15 => ?_)
          · have hf := (if_neg c15).symm.trans hf
            exact L113 _ _ _ _ _ _ hf hw (lv_sub hl [0, 2] rfl)
          · have hf := (if_pos c15).symm.trans hf
            exact L83 _ _ _ _ _ _ hf hw (lv_sub hl [0, 2] rfl)
  unfold fX7_shown at hf
  refine lv_aload_n hx hb dX7_shown_0 rfl (lv_at hl 0 rfl) ?_
  refine lv_iconst (v := 0) hx hb dX7_shown_1 (by decide) ?_
  obtain ⟨t1, et1, hf⟩ := ks_nm hf
  refine ks_putI hE hw 0 0 ltM_0 lyM_0 rfl fw_X7_57 rfl rfl dX7_shown_2 (fun H locs hw => ?_)
  rw [← et1] at hw
  refine lv_iload_n hx hb dX7_shown_5 rfl (lv_at hl 1 rfl) ?_
  obtain ⟨r2, er2, hf⟩ := ks_nm hf
  refine ke_S hE hw hl.1 cl_X7_182 [.int p1] (c_X7_isSet l D cA st ad a _ _ _ er2.symm) rfl (ke_room hRm rfl rfl) ke_cnt (Nat.le_of_ble_eq_true rfl) rfl dX7_shown_6 (fun H locs hw => ?_)
  refine W.eq (g2 := F0 m 9 ls (.int (bI r2) :: [])) rfl ?_
  refine lv_if_eq (tgt := 21) hx hb dX7_shown_9 (by decide) (fun c3 => ?_) (fun c3 => ?_)
  · have hf := (if_pos c3).symm.trans hf
    refine lv_iconst (v := (-1)) hx hb dX7_shown_21 (by decide) ?_
    replace hf := Option.some.inj hf
    subst hf
    exact ke_iret hE hw hQ dX7_shown_22 rfl rfl
  · have hf := (if_neg c3).symm.trans hf
    refine lv_iload_n hx hb dX7_shown_12 rfl (lv_at hl 2 rfl) ?_
    refine lv_iconst (v := 0) hx hb dX7_shown_13 (by decide) ?_
    refine lv_iconst (v := 3) hx hb dX7_shown_14 (by decide) ?_
    obtain ⟨r4, er4, hf⟩ := ks_nm hf
    refine ke_S hE hw hl.1 cl_X7_72 [.int p2, .int (0 : Int32), .int (3 : Int32)] (c_X7_in l D cA st ad a _ _ _ _ _ er4.symm) rfl (ke_room hRm rfl rfl) ke_cnt (Nat.le_of_ble_eq_true rfl) rfl dX7_shown_15 (fun H locs hw => ?_)
    refine W.eq (g2 := F0 m 18 ls (.int (bI r4) :: [])) rfl ?_
    refine lv_if_ne (tgt := 23) hx hb dX7_shown_18 (by decide) (fun c5 => ?_) (fun c5 => ?_)
    · have hf := (if_neg c5).symm.trans hf
      refine lv_aload_n hx hb dX7_shown_23 rfl (lv_at hl 0 rfl) ?_
      refine lv_iload_n hx hb dX7_shown_24 rfl (lv_at hl 1 rfl) ?_
      obtain ⟨r6, er6, hf⟩ := ks_bind hf
      refine ke_V hE hw hl.1 cl_X7_224 0 ltM_0 lyM_0 rfl [.int p1] (c_X7_shows l D cA st ad a _ _ _ er6) rfl (ke_room hRm rfl rfl) ke_cnt (Nat.le_of_ble_eq_true rfl) rfl dX7_shown_25 (fun H locs hw => ?_)
      refine W.eq (g2 := F0 m 28 ls ([])) rfl ?_
      refine lv_iload_n hx hb dX7_shown_28 rfl (lv_at hl 2 rfl) ?_
      refine lv_iconst (v := 1) hx hb dX7_shown_29 (by decide) ?_
      refine lv_icmp_ne (tgt := 38) hx hb dX7_shown_30 (by decide) (fun c7 => ?_) (fun c7 => ?_)
      · have hf := (if_neg c7).symm.trans hf
        refine lv_iconst (v := 0) hx hb dX7_shown_38 (by decide) ?_
        refine lv_istore_n (lv' := [(3, .int (0 : Int32)), (0, .ref (adr ad a 0)), (1, .int p1), (2, .int p2)]) hx hb dX7_shown_39 rfl hl (by decide) rfl (fun ls hl => ?_)
        refine lv_iload_n hx hb dX7_shown_40 rfl (lv_at hl 3 rfl) ?_
        refine lv_iconst (v := 2) hx hb dX7_shown_41 (by decide) ?_
        refine lv_icmp_ne (tgt := 128) hx hb dX7_shown_42 (by decide) (fun c8 => ?_) (fun c8 => ?_)
        · have hf := (if_neg c8).symm.trans hf
          refine lv_iload_n hx hb dX7_shown_128 rfl (lv_at hl 3 rfl) ?_
          refine lv_if_ne (tgt := 170) hx hb dX7_shown_129 (by decide) (fun c9 => ?_) (fun c9 => ?_)
          · have hf := (if_neg c9).symm.trans hf
            refine lv_aload_n hx hb dX7_shown_170 rfl (lv_at hl 1 rfl) ?_
            obtain ⟨r10, er10, hf⟩ := ks_bind hf
            refine ke_V hE hw hl.1 cl_X7_76 0 ltM_0 lyM_0 rfl [] (c_X7_loads l D cA st ad a _ _ er10) rfl (ke_room hRm rfl rfl) ke_cnt (Nat.le_of_ble_eq_true rfl) rfl dX7_shown_171 (fun H locs hw => ?_)
            refine W.eq (g2 := F0 m 174 ls ([])) rfl ?_
            refine lv_ldc2 hx hb hown (hts _ w_889) dX7_shown_174 ?_
            refine lv_lstore (lv' := [(4, .long (-1 : Int64)), (3, .int (0 : Int32)), (0, .ref (adr ad a 0)), (1, .int p1), (2, .int p2)]) hx hb dX7_shown_177 hl (by decide) rfl (fun ls hl => ?_)
            refine lv_iconst (v := 0) hx hb dX7_shown_179 (by decide) ?_
            refine lv_istore (lv' := [(6, .int (0 : Int32)), (4, .long (-1 : Int64)), (3, .int (0 : Int32)), (0, .ref (adr ad a 0)), (1, .int p1), (2, .int p2)]) hx hb dX7_shown_180 hl (by decide) rfl (fun ls hl => ?_)
            exact L182 FU _ _ _ _ _ _ _ hf hw (lv_sub hl [3, 4, 2, 1, 0] rfl)
          · have hf := (if_pos c9).symm.trans hf
            refine lv_iconst (v := 0) hx hb dX7_shown_132 (by decide) ?_
            refine lv_istore (lv' := [(4, .int (0 : Int32)), (3, .int (0 : Int32)), (0, .ref (adr ad a 0)), (1, .int p1), (2, .int p2)]) hx hb dX7_shown_133 hl (by decide) rfl (fun ls hl => ?_)
            exact L135 FU _ _ _ _ _ _ hf hw (lv_sub hl [2, 1, 0] rfl)
        · have hf := (if_pos c8).symm.trans hf
          refine lv_iconst (v := 0) hx hb dX7_shown_45 (by decide) ?_
          refine lv_istore (lv' := [(4, .int (0 : Int32)), (3, .int (0 : Int32)), (0, .ref (adr ad a 0)), (1, .int p1), (2, .int p2)]) hx hb dX7_shown_46 hl (by decide) rfl (fun ls hl => ?_)
          exact L48 FU _ _ _ _ _ _ hf hw (lv_sub hl [2, 1, 0] rfl)
      · have hf := (if_pos c7).symm.trans hf
        refine lv_aload_n hx hb dX7_shown_33 rfl (lv_at hl 0 rfl) ?_
        refine ks_getI hE hw 0 25 ltM_0 lyM_0 rfl fd_X7_213 dX7_shown_34 ?_
        replace hf := Option.some.inj hf
        subst hf
        exact ke_iret hE hw hQ dX7_shown_37 rfl rfl
    · have hf := (if_pos c5).symm.trans hf
      refine lv_iconst (v := (-1)) hx hb dX7_shown_21 (by decide) ?_
      replace hf := Option.some.inj hf
      subst hf
      exact ke_iret hE hw hQ dX7_shown_22 rfl rfl
def fX7_count_39 (p1 : Int32) (k9 : Tau → Int32 → Int32 → Option (Int32 × Tau)) (τ : Tau) (x_3 : Int32) (z_0 : Int32) (z_1 : Int32) : Option (Int32 × Tau) :=
 nm (z_1 ||| z_0) (fun x11 =>
     nm (x_3 + (1 : Int32)) (fun x12 =>
     k9 τ x11 x12))
def fX7_count_9 (p1 : Int32) : Nat → Tau → Int32 → Int32 → Option (Int32 × Tau)
  | 0, _, _, _ => none
  | n + 1, τ, x_2, x_3 =>
     (if (10 : Int32) ≤ x_3 then
     (if p1 = 0 then
     some (tI τ 0 1, τ)
     else
     (if p1 = (1 : Int32) then
     some (tI τ 0 2, τ)
     else
     (if p1 = (2 : Int32) then
     Option.bind (fX7_all 1 τ) (fun r8 =>
     some (r8, τ))
     else
     (if p1 = (3 : Int32) then
     some (tI τ 0 6, τ)
     else
     (if p1 = (4 : Int32) then
     some (x_2, τ)
     else
     some ((-1 : Int32), τ))))))
     else
     (if (((6 : Int32) * x_3) + (5 : Int32)) < 0 ∨ 60 ≤ (((6 : Int32) * x_3) + (5 : Int32)).toNatClampNeg then none else
     (if tA τ 3 (((6 : Int32) * x_3) + (5 : Int32)).toNatClampNeg = (-9 : Int32) then
     fX7_count_39 p1 (fX7_count_9 p1 n) τ x_3 (0 : Int32) x_2
     else
     fX7_count_39 p1 (fX7_count_9 p1 n) τ x_3 ((1 : Int32) <<< (x_3 &&& 31)) x_2)))
def fX7_count  (τ : Tau) (p1 : Int32) : Option (Int32 × Tau) :=
 nm (sI τ 0 0 (0 : Int32)) (fun t1 =>
 fX7_count_9 p1 FU t1 (0 : Int32) (0 : Int32))
set_option maxHeartbeats 4000000 in
set_option maxRecDepth 100000 in
theorem c_X7_count (l : Launch) (D : va_G) (cA : Nat → ClassId) (st ad : Nat → Nat) (a : Nat)  (τ : Tau) (p1 : Int32) (R : (Int32 × Tau)) (hf : fX7_count τ p1 = some R) : KE ΛM 12 D cA st ad l yX7_count cX7_count 4 (some .int) 2 43 [.ref (adr ad a 0), .int p1] a τ (some (.int R.1)) R.2 := by
  refine KE.of "KindSayingsModel" rfl (by decide) (Nat.le_of_ble_eq_true rfl) (fun p e s m args below meth c A ls Rm Q hE hRm hQ hw hl => ?_)
  obtain ⟨hx, hb, hml, hown, hts, -⟩ := id hE
  have hl : lv_has ls 4 [(0, .ref (adr ad a 0)), (1, .int p1)] := hl
  have L9 : ∀ (n9 : Nat) (τ : Tau) (x_2 : Int32) (x_3 : Int32) (H : Heap) (locs : List Loc) (ls : Array Slot), fX7_count_9 p1 n9 τ x_2 x_3 = some R → Wd ΛM 12 D cA ad A s a τ H locs → lv_has ls 4 [(0, .ref (adr ad a 0)), (1, .int p1), (2, .int x_2), (3, .int x_3)] → W p l e Rm s m args below meth c H locs 0 0 Q (F0 m 9 ls []) := by
    intro n9
    induction n9 with
    | zero => intro τ x_2 x_3 H locs ls hf hw hl; exact absurd hf (by rw [fX7_count_9]; simp)
    | succ n9 ih9 =>
      have L39 : ∀ (τ : Tau) (x_3 : Int32) (z_0 : Int32) (z_1 : Int32) (H : Heap) (locs : List Loc) (ls : Array Slot), fX7_count_39 p1 (fX7_count_9 p1 n9) τ x_3 z_0 z_1 = some R → Wd ΛM 12 D cA ad A s a τ H locs → lv_has ls 4 [(0, .ref (adr ad a 0)), (1, .int p1), (3, .int x_3)] → W p l e Rm s m args below meth c H locs 0 0 Q (F0 m 39 ls [.int z_0, .int z_1]) := by
        intro τ x_3 z_0 z_1 H locs ls hf hw hl
        unfold fX7_count_39 at hf
        refine lv_ior hx hb dX7_count_39 ?_
        obtain ⟨x11, ex11, hf⟩ := ks_nm hf
        refine W.eq (g2 := F0 m 40 ls (.int x11 :: [])) (by rw [ex11]) ?_
        refine lv_istore_n (lv' := [(2, .int x11), (0, .ref (adr ad a 0)), (1, .int p1), (3, .int x_3)]) hx hb dX7_count_40 rfl hl (by decide) rfl (fun ls hl => ?_)
        obtain ⟨x12, ex12, hf⟩ := ks_nm hf
        refine lv_iinc (v := x12) (lv' := [(3, .int x12), (2, .int x11), (0, .ref (adr ad a 0)), (1, .int p1)]) hx hb dX7_count_41 hl (k := 3) rfl (by rw [ex12]; rfl) (by decide) rfl (fun ls hl => ?_)
        refine lv_goto (tgt := 9) hx hb dX7_count_44 (by decide) ?_
        exact ih9 _ _ _ _ _ _ hf hw (lv_sub hl [2, 3, 1, 0] rfl)
      intro τ x_2 x_3 H locs ls hf hw hl
      rw [fX7_count_9] at hf
      refine lv_iload_n hx hb dX7_count_9 rfl (lv_at hl 3 rfl) ?_
      refine lv_bipush (v := 10) hx hb dX7_count_10 (by decide) ?_
      refine lv_icmp_ge (tgt := 47) hx hb dX7_count_12 (by decide) (fun c2 => ?_) (fun c2 => ?_)
      · have hf := (if_pos c2).symm.trans hf
        refine lv_iload_n hx hb dX7_count_47 rfl (lv_at hl 1 rfl) ?_
        refine lv_if_ne (tgt := 58) hx hb dX7_count_48 (by decide) (fun c3 => ?_) (fun c3 => ?_)
        · have hf := (if_neg c3).symm.trans hf
          refine lv_iload_n hx hb dX7_count_58 rfl (lv_at hl 1 rfl) ?_
          refine lv_iconst (v := 1) hx hb dX7_count_59 (by decide) ?_
          refine lv_icmp_ne (tgt := 70) hx hb dX7_count_60 (by decide) (fun c4 => ?_) (fun c4 => ?_)
          · have hf := (if_neg c4).symm.trans hf
            refine lv_iload_n hx hb dX7_count_70 rfl (lv_at hl 1 rfl) ?_
            refine lv_iconst (v := 2) hx hb dX7_count_71 (by decide) ?_
            refine lv_icmp_ne (tgt := 86) hx hb dX7_count_72 (by decide) (fun c5 => ?_) (fun c5 => ?_)
            · have hf := (if_neg c5).symm.trans hf
              refine lv_iload_n hx hb dX7_count_86 rfl (lv_at hl 1 rfl) ?_
              refine lv_iconst (v := 3) hx hb dX7_count_87 (by decide) ?_
              refine lv_icmp_ne (tgt := 98) hx hb dX7_count_88 (by decide) (fun c6 => ?_) (fun c6 => ?_)
              · have hf := (if_neg c6).symm.trans hf
                refine lv_iload_n hx hb dX7_count_98 rfl (lv_at hl 1 rfl) ?_
                refine lv_iconst (v := 4) hx hb dX7_count_99 (by decide) ?_
                refine lv_icmp_ne (tgt := 107) hx hb dX7_count_100 (by decide) (fun c7 => ?_) (fun c7 => ?_)
                · have hf := (if_neg c7).symm.trans hf
                  refine lv_iconst (v := (-1)) hx hb dX7_count_107 (by decide) ?_
                  replace hf := Option.some.inj hf
                  subst hf
                  exact ke_iret hE hw hQ dX7_count_108 rfl rfl
                · have hf := (if_pos c7).symm.trans hf
                  refine lv_iload_n hx hb dX7_count_103 rfl (lv_at hl 2 rfl) ?_
                  refine lv_goto (tgt := 108) hx hb dX7_count_104 (by decide) ?_
                  replace hf := Option.some.inj hf
                  subst hf
                  exact ke_iret hE hw hQ dX7_count_108 rfl rfl
              · have hf := (if_pos c6).symm.trans hf
                refine lv_aload_n hx hb dX7_count_91 rfl (lv_at hl 0 rfl) ?_
                refine ks_getI hE hw 0 6 ltM_0 lyM_0 rfl fd_X7_98 dX7_count_92 ?_
                refine lv_goto (tgt := 108) hx hb dX7_count_95 (by decide) ?_
                replace hf := Option.some.inj hf
                subst hf
                exact ke_iret hE hw hQ dX7_count_108 rfl rfl
            · have hf := (if_pos c5).symm.trans hf
              refine lv_aload_n hx hb dX7_count_75 rfl (lv_at hl 0 rfl) ?_
              refine lv_aload_n hx hb dX7_count_76 rfl (lv_at hl 0 rfl) ?_
              refine ks_getR hE hw 0 4 ltM_0 lyM_0 rfl fd_X7_19 dX7_count_77 ?_
              obtain ⟨r8, er8, hf⟩ := ks_bind hf
              refine ke_V hE hw hl.1 cl_X7_82 0 ltM_0 lyM_0 rfl [.ref (adr ad a 1)] (c_X7_all l D cA st ad a _ _ _ row_1 er8) rfl (ke_room hRm rfl rfl) ke_cnt (Nat.le_of_ble_eq_true rfl) rfl dX7_count_80 (fun H locs hw => ?_)
              refine W.eq (g2 := F0 m 83 ls (.int r8 :: [])) rfl ?_
              refine lv_goto (tgt := 108) hx hb dX7_count_83 (by decide) ?_
              replace hf := Option.some.inj hf
              subst hf
              exact ke_iret hE hw hQ dX7_count_108 rfl rfl
          · have hf := (if_pos c4).symm.trans hf
            refine lv_aload_n hx hb dX7_count_63 rfl (lv_at hl 0 rfl) ?_
            refine ks_getI hE hw 0 2 ltM_0 lyM_0 rfl fd_X7_13 dX7_count_64 ?_
            refine lv_goto (tgt := 108) hx hb dX7_count_67 (by decide) ?_
            replace hf := Option.some.inj hf
            subst hf
            exact ke_iret hE hw hQ dX7_count_108 rfl rfl
        · have hf := (if_pos c3).symm.trans hf
          refine lv_aload_n hx hb dX7_count_51 rfl (lv_at hl 0 rfl) ?_
          refine ks_getI hE hw 0 1 ltM_0 lyM_0 rfl fd_X7_7 dX7_count_52 ?_
          refine lv_goto (tgt := 108) hx hb dX7_count_55 (by decide) ?_
          replace hf := Option.some.inj hf
          subst hf
          exact ke_iret hE hw hQ dX7_count_108 rfl rfl
      · have hf := (if_neg c2).symm.trans hf
        refine lv_iload_n hx hb dX7_count_15 rfl (lv_at hl 2 rfl) ?_
        refine lv_aload_n hx hb dX7_count_16 rfl (lv_at hl 0 rfl) ?_
        refine ks_getR hE hw 0 13 ltM_0 lyM_0 rfl fd_X7_26 dX7_count_17 ?_
        refine lv_bipush (v := 6) hx hb dX7_count_20 (by decide) ?_
        refine lv_iload_n hx hb dX7_count_22 rfl (lv_at hl 3 rfl) ?_
        refine lv_imul hx hb dX7_count_23 ?_
        refine lv_iconst (v := 5) hx hb dX7_count_24 (by decide) ?_
        refine lv_iadd hx hb dX7_count_25 ?_
        obtain ⟨b9, hf⟩ := ks_ok hf
        refine ks_iald hE hw 3 ltM_3 lyM_3 b9 dX7_count_26 ?_
        refine lv_bipush (v := (-9)) hx hb dX7_count_27 (by decide) ?_
        refine lv_icmp_ne (tgt := 36) hx hb dX7_count_29 (by decide) (fun c10 => ?_) (fun c10 => ?_)
        · have hf := (if_neg c10).symm.trans hf
          refine lv_iconst (v := 1) hx hb dX7_count_36 (by decide) ?_
          refine lv_iload_n hx hb dX7_count_37 rfl (lv_at hl 3 rfl) ?_
          refine lv_ishl hx hb dX7_count_38 ?_
          exact L39 _ _ _ _ _ _ _ hf hw (lv_sub hl [0, 1, 3] rfl)
        · have hf := (if_pos c10).symm.trans hf
          refine lv_iconst (v := 0) hx hb dX7_count_32 (by decide) ?_
          refine lv_goto (tgt := 39) hx hb dX7_count_33 (by decide) ?_
          exact L39 _ _ _ _ _ _ _ hf hw (lv_sub hl [0, 1, 3] rfl)
  unfold fX7_count at hf
  refine lv_aload_n hx hb dX7_count_0 rfl (lv_at hl 0 rfl) ?_
  refine lv_iconst (v := 0) hx hb dX7_count_1 (by decide) ?_
  obtain ⟨t1, et1, hf⟩ := ks_nm hf
  refine ks_putI hE hw 0 0 ltM_0 lyM_0 rfl fw_X7_57 rfl rfl dX7_count_2 (fun H locs hw => ?_)
  rw [← et1] at hw
  refine lv_iconst (v := 0) hx hb dX7_count_5 (by decide) ?_
  refine lv_istore_n (lv' := [(2, .int (0 : Int32)), (0, .ref (adr ad a 0)), (1, .int p1)]) hx hb dX7_count_6 rfl hl (by decide) rfl (fun ls hl => ?_)
  refine lv_iconst (v := 0) hx hb dX7_count_7 (by decide) ?_
  refine lv_istore_n (lv' := [(3, .int (0 : Int32)), (2, .int (0 : Int32)), (0, .ref (adr ad a 0)), (1, .int p1)]) hx hb dX7_count_8 rfl hl (by decide) rfl (fun ls hl => ?_)
  exact L9 FU _ _ _ _ _ _ hf hw (lv_sub hl [2, 3, 1, 0] rfl)
