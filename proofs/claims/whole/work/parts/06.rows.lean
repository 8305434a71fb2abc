/-! rows for arrays, tables, calls and ends over the typed memory -/
section KA
variable {p : Program} {l : Launch} {e : Env} {R : Room} {s : State} {m : MethodId} {args : Array Value} {below : List Frame} {meth : Method} {c : Code} {H : Heap} {locs : List Loc} {cells slots : Nat} {Q : State → Prop}
variable {Λ : Lay} {n : Nat} {D : va_G} {cA : Nat → ClassId} {st ad : Nat → Nat} {cc : ByteArray} {nL : Nat} {own : String} {ret : Option FieldType} {A : Nat → Prop} {a : Nat} {τ : Tau} {pc : Nat} {ls : Array Slot} {rest : List Value}
theorem wl_at1 {k t : Nat} {o : List Nat} (hk : k < n) (hΛ : Λ k = (1, t, o)) : (wl Λ n cA ad a τ)[k]? = some (adr ad a k, .inl (cA t, alen τ k o, .inl (tA τ k))) := by
  rw [wl_get hk]; unfold ent; rw [hΛ]; rfl
theorem wl_at2 {k t : Nat} {o : List Nat} (hk : k < n) (hΛ : Λ k = (2, t, o)) : (wl Λ n cA ad a τ)[k]? = some (adr ad a k, .inl (cA t, alen τ k o, .inr (.inl (tB τ k)))) := by
  rw [wl_get hk]; unfold ent; rw [hΛ]; rfl
theorem wl_at3 {k t : Nat} {o : List Nat} (hk : k < n) (hΛ : Λ k = (3, t, o)) : (wl Λ n cA ad a τ)[k]? = some (adr ad a k, .inl (cA t, alen τ k o, .inr (.inr (.inr (.inr (fun i => some (adr ad 0 (i + 2)))))))) := by
  rw [wl_get hk]; unfold ent; rw [hΛ]; rfl
theorem ks_iald (E : Bd D cA st p s m args meth c cc nL own ret A) (hw : Wd Λ n D cA ad A s a τ H locs) (k : Nat) {o : List Nat} (hk : k < n) (hΛ : Λ k = (1, 0, o)) {i : Int32} (hin : vp_in i (alen τ k o)) (hdg : decode cc pc = .ok (.iaload, 1))
    (kk : W p l e R s m args below meth c H locs cells slots Q (F0 m (pc + 1) ls (.int (tA τ k i.toNatClampNeg) :: rest))) : W p l e R s m args below meth c H locs cells slots Q (F0 m pc ls (.int i :: .ref (adr ad a k) :: rest)) :=
  va_iald E.1 E.2.1 E.2.2.2.2.2.1 hw.1 k 0 (wl_at1 hk hΛ) rfl hin hdg kk
theorem ks_cald (E : Bd D cA st p s m args meth c cc nL own ret A) (hw : Wd Λ n D cA ad A s a τ H locs) (k : Nat) {o : List Nat} (hk : k < n) (hΛ : Λ k = (1, 2, o)) {i : Int32} (hin : vp_in i (alen τ k o)) (hdg : decode cc pc = .ok (.caload, 1))
    (kk : W p l e R s m args below meth c H locs cells slots Q (F0 m (pc + 1) ls (.int (tA τ k i.toNatClampNeg) :: rest))) : W p l e R s m args below meth c H locs cells slots Q (F0 m pc ls (.int i :: .ref (adr ad a k) :: rest)) :=
  va_cald E.1 E.2.1 E.2.2.2.2.2.1 hw.1 k 2 (wl_at1 hk hΛ) rfl hin hdg kk
theorem ks_lald (E : Bd D cA st p s m args meth c cc nL own ret A) (hw : Wd Λ n D cA ad A s a τ H locs) (k : Nat) {o : List Nat} (hk : k < n) (hΛ : Λ k = (2, 1, o)) {i : Int32} (hin : vp_in i (alen τ k o)) (hdg : decode cc pc = .ok (.laload, 1))
    (kk : W p l e R s m args below meth c H locs cells slots Q (F0 m (pc + 1) ls (.long (tB τ k i.toNatClampNeg) :: rest))) : W p l e R s m args below meth c H locs cells slots Q (F0 m pc ls (.int i :: .ref (adr ad a k) :: rest)) :=
  va_lald E.1 E.2.1 E.2.2.2.2.2.1 hw.1 k 1 (wl_at2 hk hΛ) rfl hin hdg kk
theorem ks_aald (E : Bd D cA st p s m args meth c cc nL own ret A) (hw : Wd Λ n D cA ad A s a τ H locs) (k : Nat) (hk : k < n) (hΛ : Λ k = (3, 3, [10])) {i : Int32} (hin : vp_in i 10) (hdg : decode cc pc = .ok (.aaload, 1))
    (kk : W p l e R s m args below meth c H locs cells slots Q (F0 m (pc + 1) ls (.ref (adr ad a (i.toNatClampNeg + 2)) :: rest))) : W p l e R s m args below meth c H locs cells slots Q (F0 m pc ls (.int i :: .ref (adr ad a k) :: rest)) := by
  have h10 : i.toNatClampNeg < 10 := Nat.not_le.mp fun q => hin (Or.inr q)
  have e : adr ad 0 (i.toNatClampNeg + 2) = adr ad a (i.toNatClampNeg + 2) := by
    have : i.toNatClampNeg + 2 ≠ 26 := by omega
    simp [adr, this]
  refine va_aldq E.1 E.2.1 E.2.2.2.2.2.1 hw.1 k 3 (wl_at3 hk hΛ) rfl hin hdg ?_
  rw [e]
  exact kk
theorem ks_iast (E : Bd D cA st p s m args meth c cc nL own ret A) (hw : Wd Λ n D cA ad A s a τ H locs) (k : Nat) {o : List Nat} (hk : k < n) (hΛ : Λ k = (1, 0, o)) {i x : Int32} (hin : vp_in i (alen τ k o)) (hdg : decode cc pc = .ok (.iastore, 1))
    (kk : ∀ H1 locs1, Wd Λ n D cA ad A s a (sA τ k i.toNatClampNeg x) H1 locs1 → W p l e R s m args below meth c H1 locs1 cells slots Q (F0 m (pc + 1) ls rest)) : W p l e R s m args below meth c H locs cells slots Q (F0 m pc ls (.int x :: .int i :: .ref (adr ad a k) :: rest)) := by
  refine va_iast E.1 E.2.1 E.2.2.2.2.2.1 hw.1 hw.2.1 hw.2.2 k 0 (wl_at1 hk hΛ) rfl hin hdg (fun H1 locs1 hP hD hS => ?_)
  rw [wl_set (τ' := sA τ k i.toNatClampNeg x) (ent_sA hΛ x) (fun q hq => ent_oA q hq)] at hP hD
  exact kk H1 locs1 ⟨hP, hD, hS⟩
theorem ks_cast (E : Bd D cA st p s m args meth c cc nL own ret A) (hw : Wd Λ n D cA ad A s a τ H locs) (k : Nat) {o : List Nat} (hk : k < n) (hΛ : Λ k = (1, 2, o)) {i x : Int32} (hin : vp_in i (alen τ k o)) (hdg : decode cc pc = .ok (.castore, 1))
    (kk : ∀ H1 locs1, Wd Λ n D cA ad A s a (sA τ k i.toNatClampNeg (vp_nar .char x)) H1 locs1 → W p l e R s m args below meth c H1 locs1 cells slots Q (F0 m (pc + 1) ls rest)) : W p l e R s m args below meth c H locs cells slots Q (F0 m pc ls (.int x :: .int i :: .ref (adr ad a k) :: rest)) := by
  refine va_cast E.1 E.2.1 E.2.2.2.2.2.1 hw.1 hw.2.1 hw.2.2 k 2 (wl_at1 hk hΛ) rfl hin hdg (fun H1 locs1 hP hD hS => ?_)
  rw [wl_set (τ' := sA τ k i.toNatClampNeg (vp_nar .char x)) (ent_sA hΛ (vp_nar .char x)) (fun q hq => ent_oA q hq)] at hP hD
  exact kk H1 locs1 ⟨hP, hD, hS⟩
theorem ks_last (E : Bd D cA st p s m args meth c cc nL own ret A) (hw : Wd Λ n D cA ad A s a τ H locs) (k : Nat) {o : List Nat} (hk : k < n) (hΛ : Λ k = (2, 1, o)) {i : Int32} {x : Int64} (hin : vp_in i (alen τ k o)) (hdg : decode cc pc = .ok (.lastore, 1))
    (kk : ∀ H1 locs1, Wd Λ n D cA ad A s a (sB τ k i.toNatClampNeg x) H1 locs1 → W p l e R s m args below meth c H1 locs1 cells slots Q (F0 m (pc + 1) ls rest)) : W p l e R s m args below meth c H locs cells slots Q (F0 m pc ls (.long x :: .int i :: .ref (adr ad a k) :: rest)) := by
  refine va_last E.1 E.2.1 E.2.2.2.2.2.1 hw.1 hw.2.1 hw.2.2 k 1 (wl_at2 hk hΛ) rfl hin hdg (fun H1 locs1 hP hD hS => ?_)
  rw [wl_set (τ' := sB τ k i.toNatClampNeg x) (ent_sB hΛ x) (fun q hq => ent_oB q hq)] at hP hD
  exact kk H1 locs1 ⟨hP, hD, hS⟩
theorem ks_alen (E : Bd D cA st p s m args meth c cc nL own ret A) (hw : Wd Λ n D cA ad A s a τ H locs) (k : Nat) {g t : Nat} {o : List Nat} (hk : k < n) (hΛ : Λ k = (g + 1, t, o)) {ty : FieldType} (ht : (tyl cA)[t]? = some (cA t, ty)) (v : Int32) (hv : nI (alen τ k o) = v) (hdg : decode cc pc = .ok (.arraylength, 1))
    (kk : W p l e R s m args below meth c H locs cells slots Q (F0 m (pc + 1) ls (.int v :: rest))) : W p l e R s m args below meth c H locs cells slots Q (F0 m pc ls (.ref (adr ad a k) :: rest)) := by
  have h : ∃ x : vp_A, x.1 = alen τ k o ∧ (wl Λ n cA ad a τ)[k]? = some (adr ad a k, .inl (cA t, x)) := by
    rw [wl_get hk]
    unfold ent
    rw [hΛ]
    match g with
    | 0 => exact ⟨_, rfl, rfl⟩
    | 1 => exact ⟨_, rfl, rfl⟩
    | g + 2 => exact ⟨_, rfl, rfl⟩
  obtain ⟨x, hx, hw0⟩ := h
  exact va_alen E.1 E.2.1 E.2.2.2.2.2.1 hw.1 k t hw0 ht (by rw [hx]; exact hv) hdg kk
-- static rows of numbers
theorem ks_gs0 (E : Bd D cA st p s m args meth c cc nL own ret A) (hw : Wd Λ n D cA ad A s a τ H locs) {idx : Nat} (hf : (own, idx, "KindSayings", "WORDS", "[J") ∈ nestF) (hdg : decode cc pc = .ok (.getstatic idx, 3))
    (kk : W p l e R s m args below meth c H locs cells slots Q (F0 m (pc + 3) ls (.ref (st 0) :: rest))) : W p l e R s m args below meth c H locs cells slots Q (F0 m pc ls rest) := by
  obtain ⟨hx, hb, hml, hown, hts, hK, hZ, hN, -⟩ := E
  exact va_getsN hx hb hZ.1.1 hw.2.2 hown (va_Nw.use rfl (hN.2 _ hf)) (fun _ h => h) hdg kk
theorem ks_gs1 (E : Bd D cA st p s m args meth c cc nL own ret A) (hw : Wd Λ n D cA ad A s a τ H locs) {idx : Nat} (hf : (own, idx, "KindSayings", "MOOD_SHOWS", "[I") ∈ nestF) (hdg : decode cc pc = .ok (.getstatic idx, 3))
    (kk : W p l e R s m args below meth c H locs cells slots Q (F0 m (pc + 3) ls (.ref (st 1) :: rest))) : W p l e R s m args below meth c H locs cells slots Q (F0 m pc ls rest) := by
  obtain ⟨hx, hb, hml, hown, hts, hK, hZ, hN, -⟩ := E
  exact va_getsN hx hb hZ.2.1.1 hw.2.2 hown (va_Nw.use rfl (hN.2 _ hf)) (fun _ h => h) hdg kk
theorem ks_gs2 (E : Bd D cA st p s m args meth c cc nL own ret A) (hw : Wd Λ n D cA ad A s a τ H locs) {idx : Nat} (hf : (own, idx, "KindSayings", "MOOD_FIRST", "[I") ∈ nestF) (hdg : decode cc pc = .ok (.getstatic idx, 3))
    (kk : W p l e R s m args below meth c H locs cells slots Q (F0 m (pc + 3) ls (.ref (st 2) :: rest))) : W p l e R s m args below meth c H locs cells slots Q (F0 m pc ls rest) := by
  obtain ⟨hx, hb, hml, hown, hts, hK, hZ, hN, -⟩ := E
  exact va_getsN hx hb hZ.2.2.1.1 hw.2.2 hown (va_Nw.use rfl (hN.2 _ hf)) (fun _ h => h) hdg kk
theorem ks_gs3 (E : Bd D cA st p s m args meth c cc nL own ret A) (hw : Wd Λ n D cA ad A s a τ H locs) {idx : Nat} (hf : (own, idx, "KindSayings", "MOOD_SECOND", "[I") ∈ nestF) (hdg : decode cc pc = .ok (.getstatic idx, 3))
    (kk : W p l e R s m args below meth c H locs cells slots Q (F0 m (pc + 3) ls (.ref (st 3) :: rest))) : W p l e R s m args below meth c H locs cells slots Q (F0 m pc ls rest) := by
  obtain ⟨hx, hb, hml, hown, hts, hK, hZ, hN, -⟩ := E
  exact va_getsN hx hb hZ.2.2.2.1 hw.2.2 hown (va_Nw.use rfl (hN.2 _ hf)) (fun _ h => h) hdg kk
theorem ks_ts0 (E : Bd D cA st p s m args meth c cc nL own ret A) (hw : Wd Λ n D cA ad A s a τ H locs) {i : Int32} (hin : vp_in i 9) (hdg : decode cc pc = .ok (.laload, 1))
    (kk : W p l e R s m args below meth c H locs cells slots Q (F0 m (pc + 1) ls (.long (vWORDS i.toNatClampNeg) :: rest))) : W p l e R s m args below meth c H locs cells slots Q (F0 m pc ls (.int i :: .ref (st 0) :: rest)) :=
  va_tl E.1 E.2.1 E.2.2.2.2.2.2.1.1.2 hw.2.2 hin rfl hdg kk
theorem ks_ts1 (E : Bd D cA st p s m args meth c cc nL own ret A) (hw : Wd Λ n D cA ad A s a τ H locs) {i : Int32} (hin : vp_in i 9) (hdg : decode cc pc = .ok (.iaload, 1))
    (kk : W p l e R s m args below meth c H locs cells slots Q (F0 m (pc + 1) ls (.int (vSHOWS i.toNatClampNeg) :: rest))) : W p l e R s m args below meth c H locs cells slots Q (F0 m pc ls (.int i :: .ref (st 1) :: rest)) :=
  va_ti E.1 E.2.1 E.2.2.2.2.2.2.1.2.1.2 hw.2.2 hin rfl hdg kk
theorem ks_ts2 (E : Bd D cA st p s m args meth c cc nL own ret A) (hw : Wd Λ n D cA ad A s a τ H locs) {i : Int32} (hin : vp_in i 9) (hdg : decode cc pc = .ok (.iaload, 1))
    (kk : W p l e R s m args below meth c H locs cells slots Q (F0 m (pc + 1) ls (.int (vFIRST i.toNatClampNeg) :: rest))) : W p l e R s m args below meth c H locs cells slots Q (F0 m pc ls (.int i :: .ref (st 2) :: rest)) :=
  va_ti E.1 E.2.1 E.2.2.2.2.2.2.1.2.2.1.2 hw.2.2 hin rfl hdg kk
theorem ks_ts3 (E : Bd D cA st p s m args meth c cc nL own ret A) (hw : Wd Λ n D cA ad A s a τ H locs) {i : Int32} (hin : vp_in i 9) (hdg : decode cc pc = .ok (.iaload, 1))
    (kk : W p l e R s m args below meth c H locs cells slots Q (F0 m (pc + 1) ls (.int (vSECOND i.toNatClampNeg) :: rest))) : W p l e R s m args below meth c H locs cells slots Q (F0 m pc ls (.int i :: .ref (st 3) :: rest)) :=
  va_ti E.1 E.2.1 E.2.2.2.2.2.2.1.2.2.2.2 hw.2.2 hin rfl hdg kk
theorem ks_tlen0 (E : Bd D cA st p s m args meth c cc nL own ret A) (hw : Wd Λ n D cA ad A s a τ H locs) (hdg : decode cc pc = .ok (.arraylength, 1))
    (kk : W p l e R s m args below meth c H locs cells slots Q (F0 m (pc + 1) ls (.int 9 :: rest))) : W p l e R s m args below meth c H locs cells slots Q (F0 m pc ls (.ref (st 0) :: rest)) := va_tlen E.1 E.2.1 E.2.2.2.2.2.2.1.1.2 hw.2.2 rfl hdg kk
theorem ks_tlen1 (E : Bd D cA st p s m args meth c cc nL own ret A) (hw : Wd Λ n D cA ad A s a τ H locs) (hdg : decode cc pc = .ok (.arraylength, 1))
    (kk : W p l e R s m args below meth c H locs cells slots Q (F0 m (pc + 1) ls (.int 9 :: rest))) : W p l e R s m args below meth c H locs cells slots Q (F0 m pc ls (.ref (st 1) :: rest)) := va_tlen E.1 E.2.1 E.2.2.2.2.2.2.1.2.1.2 hw.2.2 rfl hdg kk
theorem ks_tlen2 (E : Bd D cA st p s m args meth c cc nL own ret A) (hw : Wd Λ n D cA ad A s a τ H locs) (hdg : decode cc pc = .ok (.arraylength, 1))
    (kk : W p l e R s m args below meth c H locs cells slots Q (F0 m (pc + 1) ls (.int 9 :: rest))) : W p l e R s m args below meth c H locs cells slots Q (F0 m pc ls (.ref (st 2) :: rest)) := va_tlen E.1 E.2.1 E.2.2.2.2.2.2.1.2.2.1.2 hw.2.2 rfl hdg kk
theorem ks_tlen3 (E : Bd D cA st p s m args meth c cc nL own ret A) (hw : Wd Λ n D cA ad A s a τ H locs) (hdg : decode cc pc = .ok (.arraylength, 1))
    (kk : W p l e R s m args below meth c H locs cells slots Q (F0 m (pc + 1) ls (.int 9 :: rest))) : W p l e R s m args below meth c H locs cells slots Q (F0 m pc ls (.ref (st 3) :: rest)) := va_tlen E.1 E.2.1 E.2.2.2.2.2.2.1.2.2.2.2 hw.2.2 rfl hdg kk
-- ends
theorem KPost.to {post : Option Value → Nat → Tau → Prop} (E : Bd D cA st p s m args meth c cc nL own ret A) (hw : Wd Λ n D cA ad A s a τ H locs) {v : Option Value} (h : post v a τ) : ∀ t : State, t.heap = H → s.WarmedH t.vm → KPost Λ n D cA ad A post args s (.returned v) t := by
  intro t ht hW
  exact ⟨⟨v, a, τ, rfl, h, by rw [ht]; exact hw.1, hw.2.1, va_K.moved hW.alike E.2.2.2.2.2.1⟩, hw.2.2.F ht⟩
theorem ks_iret {post : Option Value → Nat → Tau → Prop} (E : Bd D cA st p s m args meth c cc nL own (some .int) A) (hw : Wd Λ n D cA ad A s a τ H locs) {v : Int32} (hdg : decode cc pc = .ok (.ireturn, 1)) (h : post (some (.int v)) a τ) :
    W p l e R s m args below meth c H locs cells slots (MQ below (KPost Λ n D cA ad A post) args s cells slots A) (F0 m pc ls [.int v]) :=
  W.iret (v := v) E.1 E.2.1 E.2.2.2.2.2.2.2.2.2.2 (KPost.to E hw h) hw.2.2.2.2 hdg E.2.2.2.2.2.2.2.2.2.1
theorem ks_zret {post : Option Value → Nat → Tau → Prop} (E : Bd D cA st p s m args meth c cc nL own (some .boolean) A) (hw : Wd Λ n D cA ad A s a τ H locs) {v : Int32} (hn : narrow .boolean (.int v) = .int v) (hdg : decode cc pc = .ok (.ireturn, 1)) (h : post (some (.int v)) a τ) :
    W p l e R s m args below meth c H locs cells slots (MQ below (KPost Λ n D cA ad A post) args s cells slots A) (F0 m pc ls [.int v]) :=
  W.zret (v := v) E.1 E.2.1 E.2.2.2.2.2.2.2.2.2.2 hn (KPost.to E hw h) hw.2.2.2.2 hdg E.2.2.2.2.2.2.2.2.2.1
theorem ks_lret {post : Option Value → Nat → Tau → Prop} (E : Bd D cA st p s m args meth c cc nL own (some .long) A) (hw : Wd Λ n D cA ad A s a τ H locs) {v : Int64} (hdg : decode cc pc = .ok (.lreturn, 1)) (h : post (some (.long v)) a τ) :
    W p l e R s m args below meth c H locs cells slots (MQ below (KPost Λ n D cA ad A post) args s cells slots A) (F0 m pc ls [.long v]) :=
  W.lret (v := v) E.1 E.2.1 E.2.2.2.2.2.2.2.2.2.2 (KPost.to E hw h) hw.2.2.2.2 hdg E.2.2.2.2.2.2.2.2.2.1
theorem ks_vret {post : Option Value → Nat → Tau → Prop} (E : Bd D cA st p s m args meth c cc nL own none A) (hw : Wd Λ n D cA ad A s a τ H locs) (hdg : decode cc pc = .ok (.return_, 1)) (h : post none a τ) :
    W p l e R s m args below meth c H locs cells slots (MQ below (KPost Λ n D cA ad A post) args s cells slots A) (F0 m pc ls []) :=
  W.vret E.1 E.2.1 E.2.2.2.2.2.2.2.2.2.2 (KPost.to E hw h) hw.2.2.2.2 hdg E.2.2.2.2.2.2.2.2.2.1
theorem ks_aret {post : Option Value → Nat → Tau → Prop} {C : String} (E : Bd D cA st p s m args meth c cc nL own (some (.object C)) A) (hw : Wd Λ n D cA ad A s a τ H locs) {v : Value} (hv : v = .null ∨ ∃ q, v = .ref q) (hdg : decode cc pc = .ok (.areturn, 1)) (h : post (some v) a τ) :
    W p l e R s m args below meth c H locs cells slots (MQ below (KPost Λ n D cA ad A post) args s cells slots A) (F0 m pc ls [v]) :=
  W.aret (v := v) E.1 E.2.1 E.2.2.2.2.2.2.2.2.2.2 (Or.inl ⟨C, rfl⟩) hv (KPost.to E hw h) hw.2.2.2.2 hdg E.2.2.2.2.2.2.2.2.2.1
-- calls
theorem ks_back {mc ms : Nat} {st0 : List Value} {x : Array Value} {post : Option Value → Nat → Tau → Prop}
    (hr : va_Run p l e R s m args below meth c H locs cells slots mc ms (F0 m pc ls st0) rest (KPost Λ n D cA ad A post x) A) (hw : Wd Λ n D cA ad A s a τ H locs)
    (kk : ∀ (v : Option Value) (a' : Nat) (τ' : Tau) H1 locs1, post v a' τ' → Wd Λ n D cA ad A s a' τ' H1 locs1 → W p l e R s m args below meth c H1 locs1 (cells + mc) (slots + ms) Q (F0 m (pc + 3) ls (v.toList ++ rest))) : W p l e R s m args below meth c H locs cells slots Q (F0 m pc ls st0) := by
  intro T hT X
  obtain ⟨v, st₀, t, T', L, h0, X', hL, e1, e2, ⟨⟨v', a', τ', hv, hp, hP, hD, hK⟩, hz, hk⟩, stp⟩ := hr T hT X
  cases hv
  rw [h0] at hz hk
  have hS := hw.2.2
  obtain ⟨t2, a1, b1⟩ := kk v a' τ' T'.heap (locs ++ L) hp ⟨by rw [e1]; exact hP, hD, Nat.le_trans hS.1 (by rw [e1]; exact hz), fun q h1 h2 => by rw [e1, hk q (Nat.lt_of_lt_of_le h1 hS.1) h2]; exact hS.2.1 q h1 h2, fun q hq => by
      rcases List.mem_append.mp hq with h | h
      · exact hS.2.2 q h
      · exact hL q h⟩ T' rfl X'
  exact ⟨t2, stp t2 a1, b1⟩
theorem ks_pre (E : Bd D cA st p s m args meth c cc nL own ret A) (hw : Wd Λ n D cA ad A s a τ H locs) (As : List Value) : PreS s H (KPre Λ n D cA st ad A H.size As a τ) As :=
  ⟨KPre.blind, fun U hU hW => ⟨rfl, by rw [hU], fun q h => E.2.2.2.2.2.2.2.2.1 q (Nat.le_trans hw.2.2.1 h), ⟨by rw [hU]; exact hw.1, hw.2.1, va_K.moved hW.alike E.2.2.2.2.2.1⟩, by rw [hU]; exact ZT.moved hW.alike (E.2.2.2.2.2.2.1.kept (fun q h1 h2 => hw.2.2.2.1 q h1 h2)), NW.warm hW E.2.2.2.2.2.2.2.1⟩⟩
/-- a static method of ours or of the JDK, by its words -/
def kCs (own : String) (idx : Nat) (y : MethodName) (b : ByteArray) (maxL : Nat) (ret : Option FieldType) (np : Nat) : Prop :=
  Cond.methodLink own idx y ∈ Gd ∧ Cond.static y ∈ Gd ∧ Cond.initialized y.cls ∈ Gd ∧ Cond.code y b maxL ret ∈ Gd ∧ y.cls ≠ "java/lang/invoke/MethodHandle" ∧ y.cls ≠ "java/lang/invoke/VarHandle" ∧ (parseMethodDescriptor y.desc).map (fun d => d.parameters.length) = some np
def kCsN (own : String) (idx : Nat) (y : MethodName) (b : ByteArray) (maxL : Nat) (ret : Option FieldType) (np : Nat) : Prop :=
  (own, idx, y) ∈ nestM ∧ Cond.static y ∈ Gd ∧ Cond.initialized y.cls ∈ Gd ∧ Cond.code y b maxL ret ∈ Gd ∧ y.cls ≠ "java/lang/invoke/MethodHandle" ∧ y.cls ≠ "java/lang/invoke/VarHandle" ∧ (parseMethodDescriptor y.desc).map (fun d => d.parameters.length) = some np
def kCv (own : String) (idx : Nat) (y : MethodName) (b : ByteArray) (maxL : Nat) (ret : Option FieldType) (np : Nat) : Prop :=
  Cond.methodLink own idx y ∈ Gd ∧ Cond.instanceMethod y ∈ Gd ∧ Cond.selects y.cls y y ∈ Gd ∧ Cond.initialized y.cls ∈ Gd ∧ Cond.code y b maxL ret ∈ Gd ∧ y.cls ≠ "java/lang/invoke/MethodHandle" ∧ y.cls ≠ "java/lang/invoke/VarHandle" ∧ (parseMethodDescriptor y.desc).map (fun d => d.parameters.length) = some np
theorem Gd_cons {w : Cond} : GoodIn (w :: Gd) Gd := fun v hv => ⟨List.mem_cons_of_mem _ hv, good_of_word (Gd_good v hv)⟩
theorem Gd_code {y : MethodName} {b : ByteArray} {maxL : Nat} {r : Option FieldType} (h : Cond.code y b maxL r ∈ Gd) : GoodIn Gd (Cond.code y b maxL r :: Gd) := fun v hv => by
  rcases List.mem_cons.mp hv with e | e
  · exact ⟨by rw [e]; exact h, good_of_word (Gd_good v (by rw [e]; exact h))⟩
  · exact ⟨e, good_of_word (Gd_good v e)⟩
theorem Gd_app {ws vs : List Cond} (h : ∀ w ∈ ws, w ∈ Gd) (h2 : GoodIn Gd vs) : GoodIn Gd (ws ++ vs) := fun v hv => by
  rcases List.mem_append.mp hv with e | e
  · exact ⟨h v e, good_of_word (Gd_good v (h v e))⟩
  · exact h2 v e
theorem ks_callS {y : MethodName} {b : ByteArray} {maxL np fr lo mc ms idx : Nat} {rt : Option FieldType} {post : Option Value → Nat → Tau → Prop} (E : Bd D cA st p s m args meth c cc nL own ret A) (hw : Wd Λ n D cA ad A s a τ H locs) (hls : ls.size = nL) (hc : kCs own idx y b maxL rt np) (As : List Value) (hM : KC Λ n D cA st ad l y b maxL rt fr lo mc ms As a τ post)
    (hn : As.length = np) (hR : fr + 1 ≤ R.frames ∧ 8 + (maxL + 11) + lo ≤ R.locals) (hf : cells + mc ≤ R.cells ∧ slots + ms ≤ R.slots) (hcat : (rest.map fun v => v.category).sum ≤ 8) {st0 : List Value} (hst : st0 = As.reverse ++ rest) (hdg : decode cc pc = .ok (.invokestatic idx, 3))
    (kk : ∀ (v : Option Value) (a' : Nat) (τ' : Tau) H1 locs1, post v a' τ' → Wd Λ n D cA ad A s a' τ' H1 locs1 → W p l e R s m args below meth c H1 locs1 (cells + mc) (slots + ms) Q (F0 m (pc + 3) ls (v.toList ++ rest))) : W p l e R s m args below meth c H locs cells slots Q (F0 m pc ls st0) := by
  obtain ⟨hx, hb, hml, hown, hts, -⟩ := id E
  obtain ⟨h1, h2, h3, h4, h5⟩ := hc
  exact ks_back (va_runS (As := As) (rest := rest) ⟨hx, hb, hml, hown, hts⟩ (hM A H.size) (va_cwS np hts (Gd_app (fun w hw => by simp only [List.mem_cons, List.not_mem_nil, or_false] at hw; rcases hw with rfl | rfl | rfl <;> assumption) (Gd_code h4)) rfl rfl rfl h5 hR) (ks_pre E hw As) rfl hn hls hst (lv_room hcat) hdg hf) hw kk
theorem ks_callSN {y : MethodName} {b : ByteArray} {maxL np fr lo mc ms idx : Nat} {rt : Option FieldType} {post : Option Value → Nat → Tau → Prop} (E : Bd D cA st p s m args meth c cc nL own ret A) (hw : Wd Λ n D cA ad A s a τ H locs) (hls : ls.size = nL) (hc : kCsN own idx y b maxL rt np) (As : List Value) (hM : KC Λ n D cA st ad l y b maxL rt fr lo mc ms As a τ post)
    (hn : As.length = np) (hR : fr + 1 ≤ R.frames ∧ 8 + (maxL + 11) + lo ≤ R.locals) (hf : cells + mc ≤ R.cells ∧ slots + ms ≤ R.slots) (hcat : (rest.map fun v => v.category).sum ≤ 8) {st0 : List Value} (hst : st0 = As.reverse ++ rest) (hdg : decode cc pc = .ok (.invokestatic idx, 3))
    (kk : ∀ (v : Option Value) (a' : Nat) (τ' : Tau) H1 locs1, post v a' τ' → Wd Λ n D cA ad A s a' τ' H1 locs1 → W p l e R s m args below meth c H1 locs1 (cells + mc) (slots + ms) Q (F0 m (pc + 3) ls (v.toList ++ rest))) : W p l e R s m args below meth c H locs cells slots Q (F0 m pc ls st0) := by
  obtain ⟨hx, hb, hml, hown, hts, -, -, hN, -⟩ := id E
  obtain ⟨h1, h2, h3, h4, h5⟩ := hc
  exact ks_back (va_runSN (As := As) (rest := rest) ⟨hx, hb, hml, hown, hts⟩ (hM A H.size) ⟨va_cnB np hts (Gd_code h4) rfl rfl rfl (hN.1 _ h1) (hts _ h3) h5 hR, hts _ h2, trivial⟩ (ks_pre E hw As) rfl hn hls hst (lv_room hcat) hdg hf) hw kk
theorem ks_callV {y : MethodName} {b : ByteArray} {maxL np fr lo mc ms idx : Nat} {rt : Option FieldType} {post : Option Value → Nat → Tau → Prop} (E : Bd D cA st p s m args meth c cc nL own ret A) (hw : Wd Λ n D cA ad A s a τ H locs) (hls : ls.size = nL) (hc : kCv own idx y b maxL rt np) (k : Nat) {ci : Nat} {ts : List Nat} (hk : k < n) (hΛ : Λ k = (0, ci, ts)) {T : u_T} {N : Nat} (hci : classes[ci]? = some (y.cls, T, N))
    (As : List Value) (hM : KC Λ n D cA st ad l y b maxL rt fr lo mc ms (.ref (adr ad a k) :: As) a τ post)
    (hn : As.length = np) (hR : fr + 1 ≤ R.frames ∧ 8 + (maxL + 11) + lo ≤ R.locals) (hf : cells + mc ≤ R.cells ∧ slots + ms ≤ R.slots) (hcat : (rest.map fun v => v.category).sum ≤ 8) {st0 : List Value} (hst : st0 = As.reverse ++ .ref (adr ad a k) :: rest) (hdg : decode cc pc = .ok (.invokevirtual idx, 3))
    (kk : ∀ (v : Option Value) (a' : Nat) (τ' : Tau) H1 locs1, post v a' τ' → Wd Λ n D cA ad A s a' τ' H1 locs1 → W p l e R s m args below meth c H1 locs1 (cells + mc) (slots + ms) Q (F0 m (pc + 3) ls (v.toList ++ rest))) : W p l e R s m args below meth c H locs cells slots Q (F0 m pc ls st0) := by
  obtain ⟨hx, hb, hml, hown, hts, hK, -, hN, -⟩ := id E
  obtain ⟨h1, h2, h3, h4, h5, h6⟩ := hc
  have he : (wl Λ n cA ad a τ)[k]? = some (adr ad a k, .inr (ci, flds ad a τ k 0 ts)) := by
    rw [wl_get hk]
    unfold ent
    rw [hΛ]
    rfl
  exact ks_back (va_runV (As := As) (rest := rest) ⟨hx, hb, hml, hown, hts⟩ (hM A H.size) (cwV np hts (Gd_app (fun w hw => by simp only [List.mem_cons, List.not_mem_nil, or_false] at hw; rcases hw with rfl | rfl | rfl | rfl <;> assumption) (Gd_code h5)) rfl rfl rfl ⟨rfl, h6⟩ hR) ⟨KPre.blind, va_recv hK hw.1 hci he, (ks_pre E hw (.ref (adr ad a k) :: As)).2⟩ rfl hn hls hst (lv_room hcat) hdg hf) hw kk
end KA
-- the pure side's small words
def nm {α β : Type} (x : α) (f : α → β) : β := f x
theorem ks_nm {α β : Type} {x : α} {f : α → β} {r : β} (h : nm x f = r) : ∃ y, y = x ∧ f y = r := ⟨x, rfl, h⟩
theorem ks_bind {α β : Type} {x : Option α} {f : α → Option β} {r : β} (h : x.bind f = some r) : ∃ y, x = some y ∧ f y = some r := by
  cases x with
  | none => cases h
  | some y => exact ⟨y, rfl, h⟩
theorem ks_ok {c : Prop} [Decidable c] {α : Type} {x : Option α} {r : α} (h : (if c then none else x) = some r) : ¬ c ∧ x = some r := by
  by_cases hc : c
  · rw [if_pos hc] at h; cases h
  · rw [if_neg hc] at h; exact ⟨hc, h⟩
theorem ks_need {c : Prop} [Decidable c] {α : Type} {x : Option α} {r : α} (h : (if c then x else none) = some r) : c ∧ x = some r := by
  by_cases hc : c
  · rw [if_pos hc] at h; exact ⟨hc, h⟩
  · rw [if_neg hc] at h; cases h
theorem nar_bool {x : Int32} (h : x = 0 ∨ x = 1) : narrow .boolean (.int x) = .int x ∧ fits .boolean (.int x) = true := by
  rcases h with rfl | rfl <;> exact ⟨by decide +kernel, by decide +kernel⟩
