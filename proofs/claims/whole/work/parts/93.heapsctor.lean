/-! Heaps() (written by wip/tools/ctor2.py) -/
set_option maxHeartbeats 4000000 in
set_option maxRecDepth 100000 in
theorem b_X6_has (Λz : Lay) (nz : Nat) (l : Launch) (D : va_G) (cA : Nat → ClassId) (st ad : Nat → Nat) (a : Nat)  (τ : Tau) (p1 : Int32) (p2 : Int32) (R : Bool) (hf : fX6_has p1 p2 = R) : KE Λz nz D cA st ad l yX6_has cX6_has 2 (some .boolean) 0 0 [.int p1, .int p2] a τ (some (.int (bI R))) τ := by
  refine KE.of "KindSayings" rfl (by decide) (Nat.le_of_ble_eq_true rfl) (fun p e s m args below meth c A ls Rm Q hE hRm hQ hw hl => ?_)
  obtain ⟨hx, hb, hml, hown, hts, -⟩ := id hE
  have hl : lv_has ls 2 [(0, .int p1), (1, .int p2)] := hl
  unfold fX6_has at hf
  refine lv_iload_n hx hb dX6_has_0 rfl (lv_at hl 0 rfl) ?_
  refine lv_iload_n hx hb dX6_has_1 rfl (lv_at hl 1 rfl) ?_
  refine lv_ishr hx hb dX6_has_2 ?_
  refine lv_iconst (v := 1) hx hb dX6_has_3 (by decide) ?_
  refine lv_iand hx hb dX6_has_4 ?_
  refine lv_if_eq (tgt := 12) hx hb dX6_has_5 (by decide) (fun c1 => ?_) (fun c1 => ?_)
  · have hf := (if_pos c1).symm.trans hf
    refine lv_iconst (v := 0) hx hb dX6_has_12 (by decide) ?_
    subst hf
    exact ke_zret hE hw hQ (Or.inl rfl) dX6_has_13 rfl rfl
  · have hf := (if_neg c1).symm.trans hf
    refine lv_iconst (v := 1) hx hb dX6_has_8 (by decide) ?_
    refine lv_goto (tgt := 13) hx hb dX6_has_9 (by decide) ?_
    subst hf
    exact ke_zret hE hw hQ (Or.inr rfl) dX6_has_13 rfl rfl
set_option maxHeartbeats 4000000 in
set_option maxRecDepth 100000 in
theorem b_X6_factNumber (Λz : Lay) (nz : Nat) (l : Launch) (D : va_G) (cA : Nat → ClassId) (st ad : Nat → Nat) (a : Nat)  (τ : Tau) (p1 : Int32) (p2 : Int32) (p3 : Int32) (R : Int32) (hf : fX6_factNumber p1 p2 p3 = R) : KE Λz nz D cA st ad l yX6_factNumber cX6_factNumber 3 (some .int) 0 0 [.int p1, .int p2, .int p3] a τ (some (.int R)) τ := by
  refine KE.of "KindSayings" rfl (by decide) (Nat.le_of_ble_eq_true rfl) (fun p e s m args below meth c A ls Rm Q hE hRm hQ hw hl => ?_)
  obtain ⟨hx, hb, hml, hown, hts, -⟩ := id hE
  have hl : lv_has ls 3 [(0, .int p1), (1, .int p2), (2, .int p3)] := hl
  unfold fX6_factNumber at hf
  refine lv_bipush (v := 16) hx hb dX6_factNumber_0 (by decide) ?_
  refine lv_iload_n hx hb dX6_factNumber_2 rfl (lv_at hl 0 rfl) ?_
  refine lv_imul hx hb dX6_factNumber_3 ?_
  refine lv_iconst (v := 4) hx hb dX6_factNumber_4 (by decide) ?_
  refine lv_iload_n hx hb dX6_factNumber_5 rfl (lv_at hl 1 rfl) ?_
  refine lv_imul hx hb dX6_factNumber_6 ?_
  refine lv_iadd hx hb dX6_factNumber_7 ?_
  refine lv_iload_n hx hb dX6_factNumber_8 rfl (lv_at hl 2 rfl) ?_
  refine lv_iadd hx hb dX6_factNumber_9 ?_
  subst hf
  exact ke_iret hE hw hQ dX6_factNumber_10 rfl rfl
set_option maxHeartbeats 4000000 in
set_option maxRecDepth 100000 in
theorem b_X0_witnessOf (Λz : Lay) (nz : Nat) (l : Launch) (D : va_G) (cA : Nat → ClassId) (st ad : Nat → Nat) (a : Nat)  (τ : Tau) (p1 : Int32) (R : Int64) (hf : fX0_witnessOf p1 = some R) : KE Λz nz D cA st ad l yX0_witnessOf cX0_witnessOf 5 (some .long) 1 22 [.int p1] a τ (some (.long R)) τ := by
  refine KE.of "KindSayings$Heaps" rfl (by decide) (Nat.le_of_ble_eq_true rfl) (fun p e s m args below meth c A ls Rm Q hE hRm hQ hw hl => ?_)
  obtain ⟨hx, hb, hml, hown, hts, -⟩ := id hE
  have hl : lv_has ls 5 [(0, .int p1)] := hl
  have L4 : ∀ (n4 : Nat) (x_1 : Int64) (x_3 : Int32) (H : Heap) (locs : List Loc) (ls : Array Slot), fX0_witnessOf_4 p1 n4 x_1 x_3 = some R → Wd Λz nz D cA ad A s a τ H locs → lv_has ls 5 [(0, .int p1), (1, .long x_1), (3, .int x_3)] → W p l e Rm s m args below meth c H locs 0 0 Q (F0 m 4 ls []) := by
    intro n4
    induction n4 with
    | zero => intro x_1 x_3 H locs ls hf hw hl; exact absurd hf (by rw [fX0_witnessOf_4]; simp)
    | succ n4 ih4 =>
      have L57 : ∀ (x_1 : Int64) (x_3 : Int32) (H : Heap) (locs : List Loc) (ls : Array Slot), fX0_witnessOf_57 p1 (fX0_witnessOf_4 p1 n4) x_1 x_3 = some R → Wd Λz nz D cA ad A s a τ H locs → lv_has ls 5 [(0, .int p1), (1, .long x_1), (3, .int x_3)] → W p l e Rm s m args below meth c H locs 0 0 Q (F0 m 57 ls []) := by
        intro x_1 x_3 H locs ls hf hw hl
        unfold fX0_witnessOf_57 at hf
        obtain ⟨x10, ex10, hf⟩ := ks_nm hf
        refine lv_iinc (v := x10) (lv' := [(3, .int x10), (0, .int p1), (1, .long x_1)]) hx hb dX0_witnessOf_57 hl (k := 2) rfl (by rw [ex10]; rfl) (by decide) rfl (fun ls hl => ?_)
        refine lv_goto (tgt := 4) hx hb dX0_witnessOf_60 (by decide) ?_
        exact ih4 _ _ _ _ _ hf hw (lv_sub hl [1, 2, 0] rfl)
      have L12 : ∀ (n12 : Nat) (x_1 : Int64) (x_3 : Int32) (x_4 : Int32) (H : Heap) (locs : List Loc) (ls : Array Slot), fX0_witnessOf_12 p1 (fX0_witnessOf_4 p1 n4) n12 x_1 x_3 x_4 = some R → Wd Λz nz D cA ad A s a τ H locs → lv_has ls 5 [(0, .int p1), (1, .long x_1), (3, .int x_3), (4, .int x_4)] → W p l e Rm s m args below meth c H locs 0 0 Q (F0 m 12 ls []) := by
        intro n12
        induction n12 with
        | zero => intro x_1 x_3 x_4 H locs ls hf hw hl; exact absurd hf (by rw [fX0_witnessOf_12]; simp)
        | succ n12 ih12 =>
          have L42 : ∀ (x_3 : Int32) (x_4 : Int32) (z_0 : Int32) (z_1 : Int64) (z_2 : Int64) (H : Heap) (locs : List Loc) (ls : Array Slot), fX0_witnessOf_42 p1 (fX0_witnessOf_4 p1 n4) (fX0_witnessOf_12 p1 (fX0_witnessOf_4 p1 n4) n12) x_3 x_4 z_0 z_1 z_2 = some R → Wd Λz nz D cA ad A s a τ H locs → lv_has ls 5 [(0, .int p1), (3, .int x_3), (4, .int x_4)] → W p l e Rm s m args below meth c H locs 0 0 Q (F0 m 42 ls [.int z_0, .long z_1, .long z_2]) := by
            intro x_3 x_4 z_0 z_1 z_2 H locs ls hf hw hl
            unfold fX0_witnessOf_42 at hf
            refine lv_iload_n hx hb dX0_witnessOf_42 rfl (lv_at hl 1 rfl) ?_
            refine lv_iload hx hb dX0_witnessOf_43 (lv_at hl 2 rfl) ?_
            obtain ⟨r7, er7, hf⟩ := ks_nm hf
            refine ke_SN hE hw hl.1 cl_X0_44 [.int z_0, .int x_3, .int x_4] (b_X6_factNumber Λz nz l D cA st ad a _ _ _ _ _ er7.symm) rfl (ke_room hRm rfl rfl) ke_cnt (Nat.le_of_ble_eq_true rfl) rfl dX0_witnessOf_45 (fun H locs hw => ?_)
            refine W.eq (g2 := F0 m 48 ls (.int r7 :: .long z_1 :: .long z_2 :: [])) rfl ?_
            refine lv_lshl hx hb dX0_witnessOf_48 rfl ?_
            refine lv_lor hx hb dX0_witnessOf_49 ?_
            obtain ⟨x8, ex8, hf⟩ := ks_nm hf
            refine W.eq (g2 := F0 m 50 ls (.long x8 :: [])) (by rw [ex8]) ?_
            refine lv_lstore_n (lv' := [(1, .long x8), (0, .int p1), (3, .int x_3), (4, .int x_4)]) hx hb dX0_witnessOf_50 rfl hl (by decide) rfl (fun ls hl => ?_)
            obtain ⟨x9, ex9, hf⟩ := ks_nm hf
            refine lv_iinc (v := x9) (lv' := [(4, .int x9), (1, .long x8), (0, .int p1), (3, .int x_3)]) hx hb dX0_witnessOf_51 hl (k := 3) rfl (by rw [ex9]; rfl) (by decide) rfl (fun ls hl => ?_)
            refine lv_goto (tgt := 12) hx hb dX0_witnessOf_54 (by decide) ?_
            exact ih12 _ _ _ _ _ _ hf hw (lv_sub hl [2, 1, 3, 0] rfl)
          intro x_1 x_3 x_4 H locs ls hf hw hl
          rw [fX0_witnessOf_12] at hf
          refine lv_iload hx hb dX0_witnessOf_12 (lv_at hl 3 rfl) ?_
          refine lv_iconst (v := 4) hx hb dX0_witnessOf_14 (by decide) ?_
          refine lv_icmp_ge (tgt := 57) hx hb dX0_witnessOf_15 (by decide) (fun c2 => ?_) (fun c2 => ?_)
          · have hf := (if_pos c2).symm.trans hf
            exact L57 _ _ _ _ _ hf hw (lv_sub hl [0, 1, 2] rfl)
          · have hf := (if_neg c2).symm.trans hf
            refine lv_iload_n hx hb dX0_witnessOf_18 rfl (lv_at hl 0 rfl) ?_
            refine lv_iload_n hx hb dX0_witnessOf_19 rfl (lv_at hl 2 rfl) ?_
            obtain ⟨r3, er3, hf⟩ := ks_nm hf
            refine ke_SN hE hw hl.1 cl_X0_40 [.int p1, .int x_3] (b_X6_has Λz nz l D cA st ad a _ _ _ _ er3.symm) rfl (ke_room hRm rfl rfl) ke_cnt (Nat.le_of_ble_eq_true rfl) rfl dX0_witnessOf_20 (fun H locs hw => ?_)
            refine W.eq (g2 := F0 m 23 ls (.int (bI r3) :: [])) rfl ?_
            refine lv_if_eq (tgt := 57) hx hb dX0_witnessOf_23 (by decide) (fun c4 => ?_) (fun c4 => ?_)
            · have hf := (if_pos c4).symm.trans hf
              exact L57 _ _ _ _ _ hf hw (lv_sub hl [0, 1, 2] rfl)
            · have hf := (if_neg c4).symm.trans hf
              refine lv_lload_n hx hb dX0_witnessOf_26 rfl (lv_at hl 1 rfl) ?_
              refine lv_lconst (v := 1) hx hb dX0_witnessOf_27 (by decide) ?_
              refine lv_iload_n hx hb dX0_witnessOf_28 rfl (lv_at hl 0 rfl) ?_
              refine lv_iload hx hb dX0_witnessOf_29 (lv_at hl 3 rfl) ?_
              obtain ⟨r5, er5, hf⟩ := ks_nm hf
              refine ke_SN hE hw hl.1 cl_X0_40 [.int p1, .int x_4] (b_X6_has Λz nz l D cA st ad a _ _ _ _ er5.symm) rfl (ke_room hRm rfl rfl) ke_cnt (Nat.le_of_ble_eq_true rfl) rfl dX0_witnessOf_31 (fun H locs hw => ?_)
              refine W.eq (g2 := F0 m 34 ls (.int (bI r5) :: .long (1 : Int64) :: .long x_1 :: [])) rfl ?_
              refine lv_if_eq (tgt := 41) hx hb dX0_witnessOf_34 (by decide) (fun c6 => ?_) (fun c6 => ?_)
              · have hf := (if_pos c6).symm.trans hf
                refine lv_iconst (v := 3) hx hb dX0_witnessOf_41 (by decide) ?_
                exact L42 _ _ _ _ _ _ _ _ hf hw (lv_sub hl [0, 2, 3] rfl)
              · have hf := (if_neg c6).symm.trans hf
                refine lv_iconst (v := 1) hx hb dX0_witnessOf_37 (by decide) ?_
                refine lv_goto (tgt := 42) hx hb dX0_witnessOf_38 (by decide) ?_
                exact L42 _ _ _ _ _ _ _ _ hf hw (lv_sub hl [0, 2, 3] rfl)
      intro x_1 x_3 H locs ls hf hw hl
      rw [fX0_witnessOf_4] at hf
      refine lv_iload_n hx hb dX0_witnessOf_4 rfl (lv_at hl 2 rfl) ?_
      refine lv_iconst (v := 4) hx hb dX0_witnessOf_5 (by decide) ?_
      refine lv_icmp_ge (tgt := 63) hx hb dX0_witnessOf_6 (by decide) (fun c1 => ?_) (fun c1 => ?_)
      · have hf := (if_pos c1).symm.trans hf
        refine lv_lload_n hx hb dX0_witnessOf_63 rfl (lv_at hl 1 rfl) ?_
        replace hf := Option.some.inj hf
        subst hf
        exact ke_lret hE hw hQ dX0_witnessOf_64 rfl rfl
      · have hf := (if_neg c1).symm.trans hf
        refine lv_iconst (v := 0) hx hb dX0_witnessOf_9 (by decide) ?_
        refine lv_istore (lv' := [(4, .int (0 : Int32)), (0, .int p1), (1, .long x_1), (3, .int x_3)]) hx hb dX0_witnessOf_10 hl (by decide) rfl (fun ls hl => ?_)
        exact L12 FU _ _ _ _ _ _ hf hw (lv_sub hl [1, 2, 3, 0] rfl)
  unfold fX0_witnessOf at hf
  refine lv_lconst (v := 0) hx hb dX0_witnessOf_0 (by decide) ?_
  refine lv_lstore_n (lv' := [(1, .long (0 : Int64)), (0, .int p1)]) hx hb dX0_witnessOf_1 rfl hl (by decide) rfl (fun ls hl => ?_)
  refine lv_iconst (v := 0) hx hb dX0_witnessOf_2 (by decide) ?_
  refine lv_istore_n (lv' := [(3, .int (0 : Int32)), (1, .long (0 : Int64)), (0, .int p1)]) hx hb dX0_witnessOf_3 rfl hl (by decide) rfl (fun ls hl => ?_)
  exact L4 FU _ _ _ _ _ hf hw (lv_sub hl [2, 1, 0] rfl)
section GX
variable {p : Program} {l : Launch} {e : Env} {R : Room} {s : State} {m : MethodId} {args : Array Value} {below : List Frame} {meth : Method} {c : Code} {H : Heap} {locs : List Loc} {cells slots : Nat} {Q : State → Prop}
variable {D : va_G} {cA : Nat → ClassId} {st : Nat → Nat} {cc : ByteArray} {nL : Nat} {own : String} {ret : Option FieldType} {A : Nat → Prop} {ws : va_W} {pc : Nat} {ls : Array Slot} {rest : List Value}
theorem g_alen (E : Bd D cA st p s m args meth c cc nL own ret A) (hw : GW D A s ws H locs) (q0 t : Nat) {a : Nat} {x : vp_A} {ty : FieldType} (ha : ws[q0]? = some (a, .inl (cA t, x))) (ht : (tyl cA)[t]? = some (cA t, ty)) (v : Int32) (hv : nI x.1 = v) (hdg : decode cc pc = .ok (.arraylength, 1))
    (kk : W p l e R s m args below meth c H locs cells slots Q (F0 m (pc + 1) ls (.int v :: rest))) : W p l e R s m args below meth c H locs cells slots Q (F0 m pc ls (.ref a :: rest)) :=
  va_alen E.1 E.2.1 E.2.2.2.2.2.1 hw.1 q0 t ha ht hv hdg kk
theorem g_last (E : Bd D cA st p s m args meth c cc nL own ret A) (hw : GW D A s ws H locs) (q0 : Nat) {a n : Nat} {f : Nat → Int64} (ha : ws[q0]? = some (a, .inl (cA 1, n, .inr (.inl f)))) {i : Int32} {x : Int64} (hin : vp_in i n) (hdg : decode cc pc = .ok (.lastore, 1))
    (kk : ∀ (H1 : Heap) (locs1 : List Loc), GW D A s (ws.set q0 (a, .inl (cA 1, n, .inr (.inl (vp_updL f i.toNatClampNeg x))))) H1 locs1 → W p l e R s m args below meth c H1 locs1 cells slots Q (F0 m (pc + 1) ls rest)) : W p l e R s m args below meth c H locs cells slots Q (F0 m pc ls (.long x :: .int i :: .ref a :: rest)) :=
  va_last E.1 E.2.1 E.2.2.2.2.2.1 hw.1 hw.2.1 hw.2.2 q0 1 ha rfl hin hdg (fun H1 locs1 hP hD hS => kk H1 locs1 ⟨hP, hD, hS⟩)
theorem g_astq (E : Bd D cA st p s m args meth c cc nL own ret A) (hw : GW D A s ws H locs) (q0 qk : Nat) {a n v : Nat} {vs : List Value} {f : Nat → Option Nat} (ha : ws[q0]? = some (a, .inl (cA 3, n, .inr (.inr (.inr (.inr f)))))) (hv : ws[qk]? = some (v, .inr (3, vs))) {i : Int32} (hin : vp_in i n) (hdg : decode cc pc = .ok (.aastore, 1))
    (kk : ∀ (H1 : Heap) (locs1 : List Loc), GW D A s (ws.set q0 (a, .inl (cA 3, n, .inr (.inr (.inr (.inr (va_up f i.toNatClampNeg (some v)))))))) H1 locs1 → W p l e R s m args below meth c H1 locs1 cells slots Q (F0 m (pc + 1) ls rest)) : W p l e R s m args below meth c H locs cells slots Q (F0 m pc ls (.ref v :: .int i :: .ref a :: rest)) :=
  va_astq (r := (RX3, TX3, 6)) E.1 E.2.1 E.2.2.2.2.2.1 hw.1 hw.2.1 hw.2.2 q0 3 qk 3 ha rfl hv rfl hin hdg (fun H1 locs1 hP hD hS => kk H1 locs1 ⟨hP, hD, hS⟩)
end GX
def wiv (j : Nat) : Int64 := (fX0_witnessOf (nI j)).getD 0
theorem wiv_ok : ∀ j, j < 16 → fX0_witnessOf (nI j) = some (wiv j) := by decide +kernel
def wiF (i : Nat) : Nat → Int64 := fun j => if j < i then wiv j else 0
theorem wiF_up (i : Nat) : vp_updL (wiF i) i (wiv i) = wiF (i + 1) := by
  funext j
  unfold vp_updL wiF
  by_cases e : j = i
  · subst e; simp
  · have : (j < i + 1) ↔ (j < i) := by omega
    simp [e, this]
def tz : Tau := (fun _ _ => 0, fun _ _ => 0, fun _ _ => 0, fun _ _ => 0)
set_option maxHeartbeats 4000000 in
set_option maxRecDepth 100000 in
theorem k_X0_init (l : Launch) (D : va_G) (cA : Nat → ClassId) (st : Nat → Nat) (h0 : Nat) : GC D cA st l yX0_init cX0_init 2 2 46 9 3123 [.ref h0] [(h0, .inr (0, [.null, .null, .null, .null, .null, .null, .int 0, .int 0, .int 0, .int 0]))] (fun v w1 => v = none ∧ ∃ q1 t1 t2 t3 q2 q3 q4 q5 q6, w1 = [(h0, .inr (0, [.ref q1, .ref q2, .ref q3, .ref q4, .ref q5, .ref q6, .int 0, .int 0, .int 0, .int 0])), (q1, .inr (5, [.ref t1, .ref t2, .ref t3, .int 0, .int 0, .int 0])), (t1, .inl (cA 0, 6, .inl (fun _ => 0))), (t2, .inl (cA 0, 16, .inl (fun _ => 0))), (t3, .inl (cA 0, 7, .inl (fun _ => 0))), (q2, .inl (cA 0, 1024, .inl (fun _ => 0))), (q3, .inl (cA 0, 1024, .inl (fun _ => 0))), (q4, .inl (cA 0, 1024, .inl (fun _ => 0))), (q5, .inl (cA 1, 16, .inr (.inl (wiF 16)))), (q6, .inl (cA 2, 0, .inl (fun _ => 0)))]) := by
  refine GC.of "KindSayings$Heaps" rfl (by decide) (Nat.le_of_ble_eq_true rfl) (fun p e s m args below meth c A ls R Q E hO hR hC hQ hw hl hin => ?_)
  obtain ⟨hx, hb, hml, hown, hts, -⟩ := id E
  have hl : lv_has ls 2 [(0, .ref h0)] := hl
  refine lv_aload_n hx hb dX0_init_0 rfl (lv_at hl 0 rfl) ?_
  refine g_objInit E hl.1 w_191 (by rw [hR.1]; decide) (by rw [hR.2]; exact Nat.le_of_ble_eq_true rfl) dX0_init_1 ?_
  refine lv_aload_n hx hb dX0_init_4 rfl (lv_at hl 0 rfl) ?_
  refine g_new E hw (ci := 5) (C := RX5) (T := TX5) (N := 6) rfl inG5 tyX5 tyX5_ok w_192 w_193 w_71 [.null, .null, .null, .int 0, .int 0, .int 0] (fun j hj => by rcases (show j = 0 ∨ j = 1 ∨ j = 2 ∨ j = 3 ∨ j = 4 ∨ j = 5 by omega) with rfl | rfl | rfl | rfl | rfl | rfl <;> rfl) (by rw [hC.1]; omega) (by rw [hC.2]; omega) dX0_init_5 (fun q1 H hw => ?_)
  have hw : GW D A s [(h0, .inr (0, [.null, .null, .null, .null, .null, .null, .int 0, .int 0, .int 0, .int 0])), (q1, .inr (5, [.null, .null, .null, .int 0, .int 0, .int 0]))] H _ := hw
  refine lv_dup hx hb dX0_init_8 rfl ?_
  refine g_callIN E hO hw hl.1 ci_0_11 (k_X5_init l D cA st q1) (wc := [(q1, .inr (5, [.null, .null, .null, .int 0, .int 0, .int 0]))]) (wr := [(h0, .inr (0, [.null, .null, .null, .null, .null, .null, .int 0, .int 0, .int 0, .int 0]))]) (isC := [1]) (isR := [0]) rfl (by decide) rfl (by decide) (by decide) ⟨by rw [hR.1]; decide, by rw [hR.2]; decide⟩ ⟨by rw [hC.1]; omega, by rw [hC.2]; omega⟩ (Nat.le_of_ble_eq_true rfl) dX0_init_9 (fun v w1 H locs hp hw => ?_)
  obtain ⟨rfl, t1, t2, t3, rfl⟩ := hp
  have hw : GW D A s [(h0, .inr (0, [.null, .null, .null, .null, .null, .null, .int 0, .int 0, .int 0, .int 0])), (q1, .inr (5, [.ref t1, .ref t2, .ref t3, .int 0, .int 0, .int 0])), (t1, .inl (cA 0, 6, .inl (fun _ => 0))), (t2, .inl (cA 0, 16, .inl (fun _ => 0))), (t3, .inl (cA 0, 7, .inl (fun _ => 0)))] H _ := hw
  refine W.eq (g2 := F0 m 12 ls [.ref q1, .ref h0]) rfl ?_
  refine g_putF E hw (hin rfl) 0 rfl rfl inG0 tyX0 tyX0_ok nmX0 0 (by decide) w_226 rfl rfl (ty := .object "KindSayings$Walk") (v := .ref q1) (by decide +kernel) rfl rfl (Nat.le_of_ble_eq_true rfl) dX0_init_12 (fun H locs hw => ?_)
  have hw : GW D A s [(h0, .inr (0, [.ref q1, .null, .null, .null, .null, .null, .int 0, .int 0, .int 0, .int 0])), (q1, .inr (5, [.ref t1, .ref t2, .ref t3, .int 0, .int 0, .int 0])), (t1, .inl (cA 0, 6, .inl (fun _ => 0))), (t2, .inl (cA 0, 16, .inl (fun _ => 0))), (t3, .inl (cA 0, 7, .inl (fun _ => 0)))] H _ := hw
  refine lv_aload_n hx hb dX0_init_15 rfl (lv_at hl 0 rfl) ?_
  refine lv_sipush (v := 1024) hx hb dX0_init_16 (by decide) ?_
  refine g_newI E hw (N := 1024) (by decide) rfl (by decide) (by rw [hC.1]; omega) (by rw [hC.2]; omega) dX0_init_19 (fun q2 H hw => ?_)
  have hw : GW D A s [(h0, .inr (0, [.ref q1, .null, .null, .null, .null, .null, .int 0, .int 0, .int 0, .int 0])), (q1, .inr (5, [.ref t1, .ref t2, .ref t3, .int 0, .int 0, .int 0])), (t1, .inl (cA 0, 6, .inl (fun _ => 0))), (t2, .inl (cA 0, 16, .inl (fun _ => 0))), (t3, .inl (cA 0, 7, .inl (fun _ => 0))), (q2, .inl (cA 0, 1024, .inl (fun _ => 0)))] H _ := hw
  refine g_putF E hw (hin rfl) 0 rfl rfl inG0 tyX0 tyX0_ok nmX0 1 (by decide) w_227 rfl rfl (ty := .array .int) (v := .ref q2) (by decide +kernel) rfl rfl (Nat.le_of_ble_eq_true rfl) dX0_init_21 (fun H locs hw => ?_)
  have hw : GW D A s [(h0, .inr (0, [.ref q1, .ref q2, .null, .null, .null, .null, .int 0, .int 0, .int 0, .int 0])), (q1, .inr (5, [.ref t1, .ref t2, .ref t3, .int 0, .int 0, .int 0])), (t1, .inl (cA 0, 6, .inl (fun _ => 0))), (t2, .inl (cA 0, 16, .inl (fun _ => 0))), (t3, .inl (cA 0, 7, .inl (fun _ => 0))), (q2, .inl (cA 0, 1024, .inl (fun _ => 0)))] H _ := hw
  refine lv_aload_n hx hb dX0_init_24 rfl (lv_at hl 0 rfl) ?_
  refine lv_sipush (v := 1024) hx hb dX0_init_25 (by decide) ?_
  refine g_newI E hw (N := 1024) (by decide) rfl (by decide) (by rw [hC.1]; omega) (by rw [hC.2]; omega) dX0_init_28 (fun q3 H hw => ?_)
  have hw : GW D A s [(h0, .inr (0, [.ref q1, .ref q2, .null, .null, .null, .null, .int 0, .int 0, .int 0, .int 0])), (q1, .inr (5, [.ref t1, .ref t2, .ref t3, .int 0, .int 0, .int 0])), (t1, .inl (cA 0, 6, .inl (fun _ => 0))), (t2, .inl (cA 0, 16, .inl (fun _ => 0))), (t3, .inl (cA 0, 7, .inl (fun _ => 0))), (q2, .inl (cA 0, 1024, .inl (fun _ => 0))), (q3, .inl (cA 0, 1024, .inl (fun _ => 0)))] H _ := hw
  refine g_putF E hw (hin rfl) 0 rfl rfl inG0 tyX0 tyX0_ok nmX0 2 (by decide) w_228 rfl rfl (ty := .array .int) (v := .ref q3) (by decide +kernel) rfl rfl (Nat.le_of_ble_eq_true rfl) dX0_init_30 (fun H locs hw => ?_)
  have hw : GW D A s [(h0, .inr (0, [.ref q1, .ref q2, .ref q3, .null, .null, .null, .int 0, .int 0, .int 0, .int 0])), (q1, .inr (5, [.ref t1, .ref t2, .ref t3, .int 0, .int 0, .int 0])), (t1, .inl (cA 0, 6, .inl (fun _ => 0))), (t2, .inl (cA 0, 16, .inl (fun _ => 0))), (t3, .inl (cA 0, 7, .inl (fun _ => 0))), (q2, .inl (cA 0, 1024, .inl (fun _ => 0))), (q3, .inl (cA 0, 1024, .inl (fun _ => 0)))] H _ := hw
  refine lv_aload_n hx hb dX0_init_33 rfl (lv_at hl 0 rfl) ?_
  refine lv_sipush (v := 1024) hx hb dX0_init_34 (by decide) ?_
  refine g_newI E hw (N := 1024) (by decide) rfl (by decide) (by rw [hC.1]; omega) (by rw [hC.2]; omega) dX0_init_37 (fun q4 H hw => ?_)
  have hw : GW D A s [(h0, .inr (0, [.ref q1, .ref q2, .ref q3, .null, .null, .null, .int 0, .int 0, .int 0, .int 0])), (q1, .inr (5, [.ref t1, .ref t2, .ref t3, .int 0, .int 0, .int 0])), (t1, .inl (cA 0, 6, .inl (fun _ => 0))), (t2, .inl (cA 0, 16, .inl (fun _ => 0))), (t3, .inl (cA 0, 7, .inl (fun _ => 0))), (q2, .inl (cA 0, 1024, .inl (fun _ => 0))), (q3, .inl (cA 0, 1024, .inl (fun _ => 0))), (q4, .inl (cA 0, 1024, .inl (fun _ => 0)))] H _ := hw
  refine g_putF E hw (hin rfl) 0 rfl rfl inG0 tyX0 tyX0_ok nmX0 3 (by decide) w_229 rfl rfl (ty := .array .int) (v := .ref q4) (by decide +kernel) rfl rfl (Nat.le_of_ble_eq_true rfl) dX0_init_39 (fun H locs hw => ?_)
  have hw : GW D A s [(h0, .inr (0, [.ref q1, .ref q2, .ref q3, .ref q4, .null, .null, .int 0, .int 0, .int 0, .int 0])), (q1, .inr (5, [.ref t1, .ref t2, .ref t3, .int 0, .int 0, .int 0])), (t1, .inl (cA 0, 6, .inl (fun _ => 0))), (t2, .inl (cA 0, 16, .inl (fun _ => 0))), (t3, .inl (cA 0, 7, .inl (fun _ => 0))), (q2, .inl (cA 0, 1024, .inl (fun _ => 0))), (q3, .inl (cA 0, 1024, .inl (fun _ => 0))), (q4, .inl (cA 0, 1024, .inl (fun _ => 0)))] H _ := hw
  refine lv_aload_n hx hb dX0_init_42 rfl (lv_at hl 0 rfl) ?_
  refine lv_bipush (v := 16) hx hb dX0_init_43 (by decide) ?_
  refine g_newL E hw (N := 16) (by decide) rfl (by decide) (by rw [hC.1]; omega) (by rw [hC.2]; omega) dX0_init_45 (fun q5 H hw => ?_)
  have hw : GW D A s [(h0, .inr (0, [.ref q1, .ref q2, .ref q3, .ref q4, .null, .null, .int 0, .int 0, .int 0, .int 0])), (q1, .inr (5, [.ref t1, .ref t2, .ref t3, .int 0, .int 0, .int 0])), (t1, .inl (cA 0, 6, .inl (fun _ => 0))), (t2, .inl (cA 0, 16, .inl (fun _ => 0))), (t3, .inl (cA 0, 7, .inl (fun _ => 0))), (q2, .inl (cA 0, 1024, .inl (fun _ => 0))), (q3, .inl (cA 0, 1024, .inl (fun _ => 0))), (q4, .inl (cA 0, 1024, .inl (fun _ => 0))), (q5, .inl (cA 1, 16, .inr (.inl (fun _ => 0))))] H _ := hw
  refine g_putF E hw (hin rfl) 0 rfl rfl inG0 tyX0 tyX0_ok nmX0 4 (by decide) w_230 rfl rfl (ty := .array .long) (v := .ref q5) (by decide +kernel) rfl rfl (Nat.le_of_ble_eq_true rfl) dX0_init_47 (fun H locs hw => ?_)
  have hw : GW D A s [(h0, .inr (0, [.ref q1, .ref q2, .ref q3, .ref q4, .ref q5, .null, .int 0, .int 0, .int 0, .int 0])), (q1, .inr (5, [.ref t1, .ref t2, .ref t3, .int 0, .int 0, .int 0])), (t1, .inl (cA 0, 6, .inl (fun _ => 0))), (t2, .inl (cA 0, 16, .inl (fun _ => 0))), (t3, .inl (cA 0, 7, .inl (fun _ => 0))), (q2, .inl (cA 0, 1024, .inl (fun _ => 0))), (q3, .inl (cA 0, 1024, .inl (fun _ => 0))), (q4, .inl (cA 0, 1024, .inl (fun _ => 0))), (q5, .inl (cA 1, 16, .inr (.inl (fun _ => 0))))] H _ := hw
  refine lv_aload_n hx hb dX0_init_50 rfl (lv_at hl 0 rfl) ?_
  refine lv_iconst (v := 0) hx hb dX0_init_51 (by decide) ?_
  refine g_newC E hw (N := 0) (by decide) rfl (by decide) (by rw [hC.1]; omega) (by rw [hC.2]; omega) dX0_init_52 (fun q6 H hw => ?_)
  have hw : GW D A s [(h0, .inr (0, [.ref q1, .ref q2, .ref q3, .ref q4, .ref q5, .null, .int 0, .int 0, .int 0, .int 0])), (q1, .inr (5, [.ref t1, .ref t2, .ref t3, .int 0, .int 0, .int 0])), (t1, .inl (cA 0, 6, .inl (fun _ => 0))), (t2, .inl (cA 0, 16, .inl (fun _ => 0))), (t3, .inl (cA 0, 7, .inl (fun _ => 0))), (q2, .inl (cA 0, 1024, .inl (fun _ => 0))), (q3, .inl (cA 0, 1024, .inl (fun _ => 0))), (q4, .inl (cA 0, 1024, .inl (fun _ => 0))), (q5, .inl (cA 1, 16, .inr (.inl (fun _ => 0)))), (q6, .inl (cA 2, 0, .inl (fun _ => 0)))] H _ := hw
  refine g_put E hw 0 rfl rfl inG0 tyX0 tyX0_ok nmX0 5 (by decide) w_231 rfl (ty := .array .char) (v := .ref q6) (by decide +kernel) rfl rfl (Nat.le_of_ble_eq_true rfl) dX0_init_54 (fun H locs hw => ?_)
  have hw : GW D A s [(h0, .inr (0, [.ref q1, .ref q2, .ref q3, .ref q4, .ref q5, .ref q6, .int 0, .int 0, .int 0, .int 0])), (q1, .inr (5, [.ref t1, .ref t2, .ref t3, .int 0, .int 0, .int 0])), (t1, .inl (cA 0, 6, .inl (fun _ => 0))), (t2, .inl (cA 0, 16, .inl (fun _ => 0))), (t3, .inl (cA 0, 7, .inl (fun _ => 0))), (q2, .inl (cA 0, 1024, .inl (fun _ => 0))), (q3, .inl (cA 0, 1024, .inl (fun _ => 0))), (q4, .inl (cA 0, 1024, .inl (fun _ => 0))), (q5, .inl (cA 1, 16, .inr (.inl (fun _ => 0)))), (q6, .inl (cA 2, 0, .inl (fun _ => 0)))] H _ := hw
  refine lv_iconst (v := 0) hx hb dX0_init_57 (by decide) ?_
  refine lv_istore_n (lv' := [(1, .int 0), (0, .ref h0)]) hx hb dX0_init_58 rfl hl (by decide) rfl (fun ls hl => ?_)
  have loop : ∀ n i H locs ls, i + n = 16 → GW D A s [(h0, .inr (0, [.ref q1, .ref q2, .ref q3, .ref q4, .ref q5, .ref q6, .int 0, .int 0, .int 0, .int 0])), (q1, .inr (5, [.ref t1, .ref t2, .ref t3, .int 0, .int 0, .int 0])), (t1, .inl (cA 0, 6, .inl (fun _ => 0))), (t2, .inl (cA 0, 16, .inl (fun _ => 0))), (t3, .inl (cA 0, 7, .inl (fun _ => 0))), (q2, .inl (cA 0, 1024, .inl (fun _ => 0))), (q3, .inl (cA 0, 1024, .inl (fun _ => 0))), (q4, .inl (cA 0, 1024, .inl (fun _ => 0))), (q5, .inl (cA 1, 16, .inr (.inl (wiF i)))), (q6, .inl (cA 2, 0, .inl (fun _ => 0)))] H locs → lv_has ls 2 [(1, .int (nI i)), (0, .ref h0)] → W p l e R s m args below meth c H locs 9 3123 Q (F0 m 59 ls []) := by
    intro n
    have body : ∀ i H locs ls, i ≤ 16 → GW D A s [(h0, .inr (0, [.ref q1, .ref q2, .ref q3, .ref q4, .ref q5, .ref q6, .int 0, .int 0, .int 0, .int 0])), (q1, .inr (5, [.ref t1, .ref t2, .ref t3, .int 0, .int 0, .int 0])), (t1, .inl (cA 0, 6, .inl (fun _ => 0))), (t2, .inl (cA 0, 16, .inl (fun _ => 0))), (t3, .inl (cA 0, 7, .inl (fun _ => 0))), (q2, .inl (cA 0, 1024, .inl (fun _ => 0))), (q3, .inl (cA 0, 1024, .inl (fun _ => 0))), (q4, .inl (cA 0, 1024, .inl (fun _ => 0))), (q5, .inl (cA 1, 16, .inr (.inl (wiF i)))), (q6, .inl (cA 2, 0, .inl (fun _ => 0)))] H locs → lv_has ls 2 [(1, .int (nI i)), (0, .ref h0)] → (i < 16 → ∀ H locs ls, GW D A s [(h0, .inr (0, [.ref q1, .ref q2, .ref q3, .ref q4, .ref q5, .ref q6, .int 0, .int 0, .int 0, .int 0])), (q1, .inr (5, [.ref t1, .ref t2, .ref t3, .int 0, .int 0, .int 0])), (t1, .inl (cA 0, 6, .inl (fun _ => 0))), (t2, .inl (cA 0, 16, .inl (fun _ => 0))), (t3, .inl (cA 0, 7, .inl (fun _ => 0))), (q2, .inl (cA 0, 1024, .inl (fun _ => 0))), (q3, .inl (cA 0, 1024, .inl (fun _ => 0))), (q4, .inl (cA 0, 1024, .inl (fun _ => 0))), (q5, .inl (cA 1, 16, .inr (.inl (wiF (i + 1))))), (q6, .inl (cA 2, 0, .inl (fun _ => 0)))] H locs → lv_has ls 2 [(1, .int (nI (i + 1))), (0, .ref h0)] → W p l e R s m args below meth c H locs 9 3123 Q (F0 m 59 ls [])) → W p l e R s m args below meth c H locs 9 3123 Q (F0 m 59 ls []) := by
      intro i H locs ls hi hw hl next
      refine lv_iload_n hx hb dX0_init_59 rfl (lv_at hl 0 rfl) ?_
      refine lv_aload_n hx hb dX0_init_60 rfl (lv_at hl 1 rfl) ?_
      refine g_get E hw 0 rfl rfl inG0 4 (by decide) w_230 rfl dX0_init_61 ?_
      refine g_alen E hw 8 1 rfl rfl 16 rfl dX0_init_64 ?_
      refine lv_icmp_ge (tgt := 84) hx hb dX0_init_65 (by decide) (fun c5 => ?_) (fun c5 => ?_)
      · have : i = 16 := by
          by_cases h : i < 16
          · exact absurd c5 (nI_ge (b := 16) h (by omega))
          · omega
        subst this
        exact g_vret E hw (Nat.le_refl _) (Nat.le_refl _) hQ dX0_init_84 ⟨rfl, q1, t1, t2, t3, q2, q3, q4, q5, q6, rfl⟩
      · have hlt : i < 16 := by
          by_cases h : i < 16
          · exact h
          · exact absurd (show (16 : Int32) ≤ nI i from nI_le (a := 16) (by omega) (by omega)) c5
        refine lv_aload_n hx hb dX0_init_68 rfl (lv_at hl 1 rfl) ?_
        refine g_get E hw 0 rfl rfl inG0 4 (by decide) w_230 rfl dX0_init_69 ?_
        refine lv_iload_n hx hb dX0_init_72 rfl (lv_at hl 0 rfl) ?_
        refine lv_iload_n hx hb dX0_init_73 rfl (lv_at hl 0 rfl) ?_
        refine g_callS (Λ := ΛX) (n := 0) (ad := fun _ => 0) (aa := 0) (τ := tz) (wr := [(h0, .inr (0, [.ref q1, .ref q2, .ref q3, .ref q4, .ref q5, .ref q6, .int 0, .int 0, .int 0, .int 0])), (q1, .inr (5, [.ref t1, .ref t2, .ref t3, .int 0, .int 0, .int 0])), (t1, .inl (cA 0, 6, .inl (fun _ => 0))), (t2, .inl (cA 0, 16, .inl (fun _ => 0))), (t3, .inl (cA 0, 7, .inl (fun _ => 0))), (q2, .inl (cA 0, 1024, .inl (fun _ => 0))), (q3, .inl (cA 0, 1024, .inl (fun _ => 0))), (q4, .inl (cA 0, 1024, .inl (fun _ => 0))), (q5, .inl (cA 1, 16, .inr (.inl (wiF i)))), (q6, .inl (cA 2, 0, .inl (fun _ => 0)))]) (isC := []) (isR := [0, 1, 2, 3, 4, 5, 6, 7, 8, 9]) E hw hl.1 cl_X0_36 [.int (nI i)] (b_X0_witnessOf ΛX 0 l D cA st (fun _ => 0) 0 tz (nI i) (wiv i) (wiv_ok i hlt)) rfl (by decide) rfl (by decide) (by decide) rfl ⟨by rw [hR.1]; decide, by rw [hR.2]; decide⟩ ⟨by rw [hC.1]; omega, by rw [hC.2]; omega⟩ (Nat.le_of_ble_eq_true rfl) rfl dX0_init_74 (fun v a' τ' H locs hp hw => ?_)
        obtain ⟨rfl, rfl, rfl⟩ := hp
        have hw : GW D A s [(h0, .inr (0, [.ref q1, .ref q2, .ref q3, .ref q4, .ref q5, .ref q6, .int 0, .int 0, .int 0, .int 0])), (q1, .inr (5, [.ref t1, .ref t2, .ref t3, .int 0, .int 0, .int 0])), (t1, .inl (cA 0, 6, .inl (fun _ => 0))), (t2, .inl (cA 0, 16, .inl (fun _ => 0))), (t3, .inl (cA 0, 7, .inl (fun _ => 0))), (q2, .inl (cA 0, 1024, .inl (fun _ => 0))), (q3, .inl (cA 0, 1024, .inl (fun _ => 0))), (q4, .inl (cA 0, 1024, .inl (fun _ => 0))), (q5, .inl (cA 1, 16, .inr (.inl (wiF i)))), (q6, .inl (cA 2, 0, .inl (fun _ => 0)))] H _ := hw
        refine W.eq (g2 := F0 m 77 ls (.long (wiv i) :: .int (nI i) :: .ref q5 :: [])) rfl ?_
        refine g_last E hw 8 rfl (nI_in hlt (by decide)) dX0_init_77 (fun H locs hw => ?_)
        rw [nI_clamp (show i < 2 ^ 31 by omega), wiF_up] at hw
        have hw : GW D A s [(h0, .inr (0, [.ref q1, .ref q2, .ref q3, .ref q4, .ref q5, .ref q6, .int 0, .int 0, .int 0, .int 0])), (q1, .inr (5, [.ref t1, .ref t2, .ref t3, .int 0, .int 0, .int 0])), (t1, .inl (cA 0, 6, .inl (fun _ => 0))), (t2, .inl (cA 0, 16, .inl (fun _ => 0))), (t3, .inl (cA 0, 7, .inl (fun _ => 0))), (q2, .inl (cA 0, 1024, .inl (fun _ => 0))), (q3, .inl (cA 0, 1024, .inl (fun _ => 0))), (q4, .inl (cA 0, 1024, .inl (fun _ => 0))), (q5, .inl (cA 1, 16, .inr (.inl (wiF (i + 1))))), (q6, .inl (cA 2, 0, .inl (fun _ => 0)))] H _ := hw
        refine lv_iinc (v := nI (i + 1)) (lv' := [(1, .int (nI (i + 1))), (0, .ref h0)]) hx hb dX0_init_78 hl (k := 0) rfl (by rw [← nI_1]; rfl) (by decide) rfl (fun ls hl => ?_)
        refine lv_goto (tgt := 59) hx hb dX0_init_81 (by decide) ?_
        exact next hlt H _ ls hw hl
    induction n with
    | zero => intro i H locs ls hi hw hl; exact body i H locs ls (by omega) hw hl (fun h => absurd h (by omega))
    | succ n ih => intro i H locs ls hi hw hl; exact body i H locs ls (by omega) hw hl (fun h H locs ls hw hl => ih (i + 1) H locs ls (by omega) hw hl)
  have hw : GW D A s [(h0, .inr (0, [.ref q1, .ref q2, .ref q3, .ref q4, .ref q5, .ref q6, .int 0, .int 0, .int 0, .int 0])), (q1, .inr (5, [.ref t1, .ref t2, .ref t3, .int 0, .int 0, .int 0])), (t1, .inl (cA 0, 6, .inl (fun _ => 0))), (t2, .inl (cA 0, 16, .inl (fun _ => 0))), (t3, .inl (cA 0, 7, .inl (fun _ => 0))), (q2, .inl (cA 0, 1024, .inl (fun _ => 0))), (q3, .inl (cA 0, 1024, .inl (fun _ => 0))), (q4, .inl (cA 0, 1024, .inl (fun _ => 0))), (q5, .inl (cA 1, 16, .inr (.inl (wiF 0)))), (q6, .inl (cA 2, 0, .inl (fun _ => 0)))] H _ := hw
  refine W.widen (k := 9) (n := 3123) (by omega) (by omega) ?_
  exact loop 16 0 _ _ _ rfl hw hl
