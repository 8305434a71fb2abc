/-! worlds told as lists of cells: contracts, rows, calls -/
section GA
def GW (D : va_G) (A : Nat → Prop) (s : State) (ws : va_W) (H : Heap) (locs : List Loc) : Prop := va_P D classes ws H ∧ va_D A ws ∧ va_S A s.heap H locs
variable (D : va_G) (cA : Nat → ClassId) (st : Nat → Nat)
def GPre (A : Nat → Prop) (sz : Nat) (As : List Value) (ws : va_W) : Array Value → State → Prop :=
  va_Pc As (fun U => U.heap.size = sz ∧ (∀ q, sz ≤ q → A q) ∧ (va_P D classes ws U.heap ∧ va_D A ws ∧ va_K D classes (tyl cA) U) ∧ ZT st A U U.heap ∧ NW U ∧ va_AO "KindSayings$Saying" U)
def GPost (A : Nat → Prop) (post : Option Value → va_W → Prop) : Array Value → State → Outcome → State → Prop :=
  fun _ s oc t => (∃ (v : Option Value) (w1 : va_W), oc = .returned v ∧ post v w1 ∧ va_P D classes w1 t.heap ∧ va_D A w1 ∧ va_K D classes (tyl cA) t) ∧ va_F A s t
/-- a contract over cells told one by one -/
def GC (l : Launch) (y : MethodName) (b : ByteArray) (maxL : Nat) (fr lo mc ms : Nat) (As : List Value) (ws : va_W) (post : Option Value → va_W → Prop) : Prop :=
  ∀ (A : Nat → Prop) (sz : Nat), Met l y (Cond.code y b maxL none :: Gd) { frames := fr, cells := mc, slots := ms, locals := lo } (GPre D cA st A sz As ws) (GPost D cA A post) mc ms A
end GA
section GB
variable {D : va_G} {cA : Nat → ClassId} {st : Nat → Nat}
theorem GPre.blind {A : Nat → Prop} {sz : Nat} {As : List Value} {ws : va_W} : FrameBlind (GPre D cA st A sz As ws) := by
  intro x U g mk h
  obtain ⟨h1, h2, h3, h4, h5, h6, h7⟩ := h
  exact ⟨h1, h2, h3, ⟨h4.1, h4.2.1, va_K.moved (u := U) (U := U.calling g mk x) (Vm.Alike.refl U.vm) h4.2.2⟩, ZT.moved (u := U) (U := U.calling g mk x) (Vm.Alike.refl U.vm) h5, NW.same (u := U) (U := U.calling g mk x) rfl h6, va_AO.moved (u := U) (U := U.calling g mk x) (Vm.Alike.refl U.vm) h7⟩
theorem GC.of {l : Launch} {y : MethodName} {b : ByteArray} {maxL fr lo mc ms : Nat} {As : List Value} {ws : va_W} {post : Option Value → va_W → Prop} (own : String) (ho : y.cls = own)
    (hy : plainName y.cls = true) (hL : (lg_sl As).length ≤ maxL)
    (body : ∀ (p : Program) (e : Env) (s : State) (m : MethodId) (args : Array Value) (below : List Frame) (meth : Method) (c : Code) (A : Nat → Prop) (ls : Array Slot) (Rm : Room) (Q : State → Prop),
      Bd D cA st p s m args meth c b maxL own none A → va_AO "KindSayings$Saying" s → (Rm.frames = fr ∧ Rm.locals = lo) → (Rm.cells = mc ∧ Rm.slots = ms) → Q = MQ below (GPost D cA A post) args s mc ms A → GW D A s ws s.heap [] → lv_has ls maxL (lv_args 0 As) → (y.name = "<init>" → meth.name = "<init>") →
      W p l e Rm s m args below meth c s.heap [] 0 0 Q (F0 m 0 ls [])) :
    GC D cA st l y b maxL fr lo mc ms As ws post := by
  subst ho
  intro A sz
  refine Met.ofW (cc := b) (maxL := maxL) (ret := none) hy rfl ?_
  intro p e s m args below meth c s₁ B hml hv
  obtain ⟨rfl, hsz, hA, hQ, hZ, hN, hO⟩ := hv
  have hts := atoms_spec (ws := Cond.code y b maxL none :: Gd) B.pre
  have hl := lv_entry As (n := maxL) hL
  rw [lg_entry_eq]
  subst hsz
  exact body p e s m As.toArray below meth c A _ _ _ ⟨B.exec, B.bytes, hml, findClass_of_methodNamed B.named, fun w hw => hts w (List.mem_cons_of_mem _ hw), hQ.2.2, hZ, hN, hA, B.notSynchronized, B.returns⟩ hO ⟨rfl, rfl⟩ ⟨rfl, rfl⟩ rfl ⟨hQ.1, hQ.2.1, va_S.rf⟩ hl
    (fun h => (name_of_methodNamed B.named B.method).1.trans h)
end GB
section GR
variable {p : Program} {l : Launch} {e : Env} {R : Room} {s : State} {m : MethodId} {args : Array Value} {below : List Frame} {meth : Method} {c : Code} {H : Heap} {locs : List Loc} {cells slots : Nat} {Q : State → Prop}
variable {D : va_G} {cA : Nat → ClassId} {st : Nat → Nat} {cc : ByteArray} {nL : Nat} {own : String} {ret : Option FieldType} {A : Nat → Prop} {ws : va_W} {pc : Nat} {ls : Array Slot} {rest : List Value}
theorem g_objInit (E : Bd D cA st p s m args meth c cc nL own ret A) (hls : ls.size = nL) {idx a : Nat} (hl : Cond.methodLink own idx objectInit ∈ Gd) (h2 : 1 ≤ R.frames) (h3 : (rest.map fun v => v.category).sum + 12 ≤ R.locals) (hdg : decode cc pc = .ok (.invokespecial idx, 3))
    (kk : W p l e R s m args below meth c H locs cells slots Q (F0 m (pc + 3) ls rest)) : W p l e R s m args below meth c H locs cells slots Q (F0 m pc ls (.ref a :: rest)) := by
  obtain ⟨hx, hb, hml, hown, hts, -⟩ := id E
  refine W.objInit hx hb hown (hts _ hl) (hts _ w_83) (hts _ w_84) rfl (by rw [hml]; exact hls) rfl hdg h2 (by show 2 * 0 + _ + 12 ≤ _; omega) ?_
  exact W.eq (g2 := F0 m (pc + 3) ls rest) rfl kk
theorem g_new (E : Bd D cA st p s m args meth c cc nL own ret A) (hw : GW D A s ws H locs) {C : String} {T : u_T} {N ci idx : Nat} (hc : classes[ci]? = some (C, T, N)) (hin : ∀ w ∈ u_ws C T N, w ∈ Gd) (ty : Nat → FieldType) (hty : ∀ k, k < N → parseFieldDescriptor (T k).2.2.1 = some (ty k))
    (h1 : Cond.classLink own idx C ∈ Gd) (h2 : Cond.instantiable C N ∈ Gd) (h3 : Cond.initialized C ∈ Gd) (fs : List Value) (hfs : ∀ j, j < N → defaultValue (ty j) = vp_V fs j) (hcells : cells + 1 ≤ R.cells) (hslots : slots + N ≤ R.slots) (hdg : decode cc pc = .ok (.new idx, 3))
    (kk : ∀ (q : Nat) (H1 : Heap), GW D A s (ws ++ [(q, .inr (ci, fs))]) H1 locs → W p l e R s m args below meth c H1 locs (cells + 1) (slots + N) Q (F0 m (pc + 3) ls (.ref q :: rest))) : W p l e R s m args below meth c H locs cells slots Q (F0 m pc ls rest) := by
  obtain ⟨hx, hb, hml, hown, hts, hK, hZ, hN, hA, -⟩ := id E
  obtain ⟨hP, hD, hS⟩ := hw
  exact va_new (ci := ci) (fs := fs) (C := C) (T := T) (N := N) hx hb hts hin ty hty hown (hts _ h1) (hts _ h2) (hts _ h3) hK hP hD hS hA hc hfs hcells hslots hdg (fun q H1 hP hD hS => kk q H1 ⟨hP, hD, hS⟩)
theorem g_RAi {U : State} {c1 c2 : ClassId} (h1 : va_RA U c1 .int) (h2 : va_RA U c2 .int) : c1 = c2 := Option.some.inj (h1.symm.trans h2)
theorem g_RAl {U : State} {c1 c2 : ClassId} (h1 : va_RA U c1 .long) (h2 : va_RA U c2 .long) : c1 = c2 := Option.some.inj (h1.symm.trans h2)
theorem g_RAq {U : State} {C : String} {c1 c2 : ClassId} (h1 : va_RA U c1 (.object C)) (h2 : va_RA U c2 (.object C)) : c1 = c2 := by
  obtain ⟨_, _, _, _, _, a⟩ := h1
  obtain ⟨_, _, _, _, _, b⟩ := h2
  exact Option.some.inj (a.symm.trans b)
theorem g_newI (E : Bd D cA st p s m args meth c cc nL own ret A) (hw : GW D A s ws H locs) {x : Int32} {N : Nat} (hn : ¬ x < 0) (hN : x.toNatClampNeg = N) (hby : N * 4 ≤ 536870912) (hcells : cells + 1 ≤ R.cells) (hslots : slots + N ≤ R.slots) (hdg : decode cc pc = .ok (.newarray .int, 2))
    (kk : ∀ (q : Nat) (H1 : Heap), GW D A s (ws ++ [(q, .inl (cA 0, N, .inl (fun _ => 0)))]) H1 locs → W p l e R s m args below meth c H1 locs (cells + 1) (slots + N) Q (F0 m (pc + 2) ls (.ref q :: rest))) : W p l e R s m args below meth c H locs cells slots Q (F0 m pc ls (.int x :: rest)) := by
  obtain ⟨hx, hb, hml, hown, hts, hK, hZ, hNw, hA, -⟩ := id E
  obtain ⟨hP, hD, hS⟩ := hw
  refine va_newa (atype := .int) (a0 := (N, .inl (fun _ => 0))) (N' := N) hx hb (hts _ w_126) rfl hK hP hD hS hA (fun _ => rfl) hn hN hby hcells hslots hdg (fun q c2 H1 hK1 hP1 hD1 hS1 => ?_)
  have hc2 : c2 = cA 0 := g_RAi (hK1.2 4 (c2, .int) rfl).2 (hK1.2 0 (cA 0, .int) rfl).2
  subst hc2
  exact kk q H1 ⟨hP1, hD1, hS1⟩
theorem g_newC (E : Bd D cA st p s m args meth c cc nL own ret A) (hw : GW D A s ws H locs) {x : Int32} {N : Nat} (hn : ¬ x < 0) (hN : x.toNatClampNeg = N) (hby : N * 2 ≤ 536870912) (hcells : cells + 1 ≤ R.cells) (hslots : slots + N ≤ R.slots) (hdg : decode cc pc = .ok (.newarray .char, 2))
    (kk : ∀ (q : Nat) (H1 : Heap), GW D A s (ws ++ [(q, .inl (cA 2, N, .inl (fun _ => 0)))]) H1 locs → W p l e R s m args below meth c H1 locs (cells + 1) (slots + N) Q (F0 m (pc + 2) ls (.ref q :: rest))) : W p l e R s m args below meth c H locs cells slots Q (F0 m pc ls (.int x :: rest)) := by
  obtain ⟨hx, hb, hml, hown, hts, hK, hZ, hNw, hA, -⟩ := id E
  obtain ⟨hP, hD, hS⟩ := hw
  refine va_newa (atype := .char) (a0 := (N, .inl (fun _ => 0))) (N' := N) hx hb (hts _ w_127) rfl hK hP hD hS hA (fun _ => rfl) hn hN hby hcells hslots hdg (fun q c2 H1 hK1 hP1 hD1 hS1 => ?_)
  have hc2 : c2 = cA 2 := va_RA_char (hK1.2 4 (c2, .char) rfl).2 (hK1.2 2 (cA 2, .char) rfl).2
  subst hc2
  exact kk q H1 ⟨hP1, hD1, hS1⟩
theorem g_newL (E : Bd D cA st p s m args meth c cc nL own ret A) (hw : GW D A s ws H locs) {x : Int32} {N : Nat} (hn : ¬ x < 0) (hN : x.toNatClampNeg = N) (hby : N * 8 ≤ 536870912) (hcells : cells + 1 ≤ R.cells) (hslots : slots + N ≤ R.slots) (hdg : decode cc pc = .ok (.newarray .long, 2))
    (kk : ∀ (q : Nat) (H1 : Heap), GW D A s (ws ++ [(q, .inl (cA 1, N, .inr (.inl (fun _ => 0))))]) H1 locs → W p l e R s m args below meth c H1 locs (cells + 1) (slots + N) Q (F0 m (pc + 2) ls (.ref q :: rest))) : W p l e R s m args below meth c H locs cells slots Q (F0 m pc ls (.int x :: rest)) := by
  obtain ⟨hx, hb, hml, hown, hts, hK, hZ, hNw, hA, -⟩ := id E
  obtain ⟨hP, hD, hS⟩ := hw
  refine va_newa (atype := .long) (a0 := (N, .inr (.inl (fun _ => 0)))) (N' := N) hx hb (hts _ w_259) rfl hK hP hD hS hA (fun _ => rfl) hn hN hby hcells hslots hdg (fun q c2 H1 hK1 hP1 hD1 hS1 => ?_)
  have hc2 : c2 = cA 1 := g_RAl (hK1.2 4 (c2, .long) rfl).2 (hK1.2 1 (cA 1, .long) rfl).2
  subst hc2
  exact kk q H1 ⟨hP1, hD1, hS1⟩
theorem g_newQ (E : Bd D cA st p s m args meth c cc nL own ret A) (hO : va_AO "KindSayings$Saying" s) (hw : GW D A s ws H locs) {x : Int32} {N idx : Nat} (h1 : Cond.classLink own idx "KindSayings$Saying" ∈ Gd) (hn : ¬ x < 0) (hN : x.toNatClampNeg = N) (hby : N * 4 ≤ 536870912) (hcells : cells + 1 ≤ R.cells) (hslots : slots + N ≤ R.slots) (hdg : decode cc pc = .ok (.anewarray idx, 3))
    (kk : ∀ (q : Nat) (H1 : Heap), GW D A s (ws ++ [(q, .inl (cA 3, N, .inr (.inr (.inr (.inr (fun _ => none))))))]) H1 locs → W p l e R s m args below meth c H1 locs (cells + 1) (slots + N) Q (F0 m (pc + 3) ls (.ref q :: rest))) : W p l e R s m args below meth c H locs cells slots Q (F0 m pc ls (.int x :: rest)) := by
  obtain ⟨hx, hb, hml, hown, hts, hK, hZ, hNw, hA, -⟩ := id E
  obtain ⟨hP, hD, hS⟩ := hw
  refine va_newq (N' := N) hx hb hown (hts _ h1) hO hK hP hD hS hA hn hN hby hcells hslots hdg (fun q c2 H1 hK1 hP1 hD1 hS1 => ?_)
  have hc2 : c2 = cA 3 := g_RAq (hK1.2 4 (c2, .object "KindSayings$Saying") rfl).2 (hK1.2 3 (cA 3, .object "KindSayings$Saying") rfl).2
  subst hc2
  exact kk q H1 ⟨hP1, hD1, hS1⟩
/-- a final field, in a constructor -/
theorem g_putF (E : Bd D cA st p s m args meth c cc nL own ret A) (hw : GW D A s ws H locs) (hin2 : meth.name = "<init>") (q0 : Nat) {C : String} {T : u_T} {N ci idx a : Nat} {fs : List Value} (he : ws[q0]? = some (a, .inr (ci, fs))) (hc : classes[ci]? = some (C, T, N)) (hin : ∀ w ∈ u_ws C T N, w ∈ Gd) (ty0 : Nat → FieldType) (hty : ∀ k, k < N → parseFieldDescriptor (T k).2.2.1 = some (ty0 k)) (hnm : ∀ a, a < N → ∀ b, b < N → a ≠ b → (T a).2.1 ≠ (T b).2.1)
    (k : Nat) (hk : k < N) (hlk : Cond.fieldLink own idx (T k).1 (T k).2.1 (T k).2.2.1 ∈ Gd) (hfin : (T k).2.2.2 = true) (hdecl : (T k).1 = own) {ty : FieldType} {v : Value} (hd : parseFieldDescriptor (T k).2.2.1 = some ty) (hn : narrow ty v = v) (hfit : fits ty v = true) (hl : k < fs.length) (hdg : decode cc pc = .ok (.putfield idx, 3))
    (kk : ∀ (H1 : Heap) (locs1 : List Loc), GW D A s (ws.set q0 (a, .inr (ci, fs.set k v))) H1 locs1 → W p l e R s m args below meth c H1 locs1 cells slots Q (F0 m (pc + 3) ls rest)) : W p l e R s m args below meth c H locs cells slots Q (F0 m pc ls (v :: .ref a :: rest)) := by
  obtain ⟨hx, hb, hml, hown, hts, hK, hZ, hNw, hA, -⟩ := id E
  obtain ⟨hP, hD, hS⟩ := hw
  exact va_putF (ty := ty) hx hb hts hin ty0 hty hnm hown hK hP hD hS q0 he hc k hk (hts _ hlk) (fun _ h => h) hfin hin2 hdecl hd hn hfit hl hdg (fun H1 locs1 hP hD hS => kk H1 locs1 ⟨hP, hD, hS⟩)
theorem g_put (E : Bd D cA st p s m args meth c cc nL own ret A) (hw : GW D A s ws H locs) (q0 : Nat) {C : String} {T : u_T} {N ci idx a : Nat} {fs : List Value} (he : ws[q0]? = some (a, .inr (ci, fs))) (hc : classes[ci]? = some (C, T, N)) (hin : ∀ w ∈ u_ws C T N, w ∈ Gd) (ty0 : Nat → FieldType) (hty : ∀ k, k < N → parseFieldDescriptor (T k).2.2.1 = some (ty0 k)) (hnm : ∀ a, a < N → ∀ b, b < N → a ≠ b → (T a).2.1 ≠ (T b).2.1)
    (k : Nat) (hk : k < N) (hlk : Cond.fieldLink own idx (T k).1 (T k).2.1 (T k).2.2.1 ∈ Gd) (hfin : (T k).2.2.2 = false) {ty : FieldType} {v : Value} (hd : parseFieldDescriptor (T k).2.2.1 = some ty) (hn : narrow ty v = v) (hfit : fits ty v = true) (hl : k < fs.length) (hdg : decode cc pc = .ok (.putfield idx, 3))
    (kk : ∀ (H1 : Heap) (locs1 : List Loc), GW D A s (ws.set q0 (a, .inr (ci, fs.set k v))) H1 locs1 → W p l e R s m args below meth c H1 locs1 cells slots Q (F0 m (pc + 3) ls rest)) : W p l e R s m args below meth c H locs cells slots Q (F0 m pc ls (v :: .ref a :: rest)) := by
  obtain ⟨hx, hb, hml, hown, hts, hK, hZ, hNw, hA, -⟩ := id E
  obtain ⟨hP, hD, hS⟩ := hw
  exact va_put (ty := ty) hx hb hts hin ty0 hty hnm hown hK hP hD hS q0 he hc k hk (hts _ hlk) (fun _ h => h) hfin hd hn hfit hl hdg (fun H1 locs1 hP hD hS => kk H1 locs1 ⟨hP, hD, hS⟩)
theorem g_get (E : Bd D cA st p s m args meth c cc nL own ret A) (hw : GW D A s ws H locs) (q0 : Nat) {C : String} {T : u_T} {N ci idx a : Nat} {fs : List Value} (he : ws[q0]? = some (a, .inr (ci, fs))) (hc : classes[ci]? = some (C, T, N)) (hin : ∀ w ∈ u_ws C T N, w ∈ Gd) (k : Nat) (hk : k < N) (hlk : Cond.fieldLink own idx (T k).1 (T k).2.1 (T k).2.2.1 ∈ Gd) {v : Value} (hv : fs[k]? = some v) (hdg : decode cc pc = .ok (.getfield idx, 3))
    (kk : W p l e R s m args below meth c H locs cells slots Q (F0 m (pc + 3) ls (v :: rest))) : W p l e R s m args below meth c H locs cells slots Q (F0 m pc ls (.ref a :: rest)) := by
  obtain ⟨hx, hb, hml, hown, hts, hK, hZ, hNw, hA, -⟩ := id E
  exact va_get hx hb hts hin hown hK hw.1 q0 he hc k hk (hts _ hlk) (fun _ h => h) hv hdg kk
theorem va_Run.mono {mc ms : Nat} {g : JFrame} {Qa Qb : State → Outcome → State → Prop} {free : Addr → Prop} (h : va_Run p l e R s m args below meth c H locs cells slots mc ms g rest Qa free) (hq : ∀ st oc t, Qa st oc t → Qb st oc t) : va_Run p l e R s m args below meth c H locs cells slots mc ms g rest Qb free := by
  intro T hT X
  obtain ⟨v, st₀, t, T', L, h0, X', hL, e1, e2, q, stp⟩ := h T hT X
  exact ⟨v, st₀, t, T', L, h0, X', hL, e1, e2, hq _ _ _ q, stp⟩
theorem g_back {wc wr : va_W} {isC isR : List Nat} {mc ms : Nat} {st0 : List Value} {x : Array Value} {post : Option Value → va_W → Prop}
    (hr : va_Run p l e R s m args below meth c H locs cells slots mc ms (F0 m pc ls st0) rest (GPost D cA (va_A wc H.size) post x) (va_A wc H.size)) (hw : GW D A s ws H locs) (hA : ∀ q, s.heap.size ≤ q → A q)
    (hC : isC.map (fun i => ws[i]?) = wc.map some) (hR : isR.map (fun i => ws[i]?) = wr.map some) (hn : va_nd isR = true) (hdis : ∀ i ∈ isR, i ∉ isC)
    (kk : ∀ (v : Option Value) (w1 : va_W) H1 locs1, post v w1 → GW D A s (wr ++ w1) H1 locs1 → W p l e R s m args below meth c H1 locs1 (cells + mc) (slots + ms) Q (F0 m (pc + 3) ls (v.toList ++ rest))) : W p l e R s m args below meth c H locs cells slots Q (F0 m pc ls st0) := by
  intro T hT X
  obtain ⟨hP, hD, hS⟩ := hw
  obtain ⟨v, st₀, t, T', L, h0, X', hL, e1, e2, ⟨⟨v', w1, hv, hp, hP1, hD1, hK1⟩, hz, hk⟩, stp⟩ := hr T hT X
  cases hv
  rw [h0] at hz hk
  have hF := va_free hD hS hA isC hC
  have hP1' : va_P D classes w1 T'.heap := by rw [e1]; exact hP1
  obtain ⟨jP, jD⟩ := va_join hP hD isC isR hC hR hn hdis (fun q h1 h2 => by rw [e1]; exact hk q h1 h2) hF hP1' hD1
  obtain ⟨t2, a1, b1⟩ := kk v w1 T'.heap (locs ++ L) hp ⟨jP, jD, Nat.le_trans hS.1 (by rw [e1]; exact hz), fun q h1 h2 => by rw [e1, hk q (Nat.lt_of_lt_of_le h1 hS.1) (fun z => h2 (hF q z))]; exact hS.2.1 q h1 h2, fun q hq => by
      rcases List.mem_append.mp hq with h | h
      · exact hS.2.2 q h
      · exact hF _ (hL q h)⟩ T' rfl X'
  exact ⟨t2, stp t2 a1, b1⟩
theorem g_fm {wc : va_W} {isC : List Nat} (hC : isC.map (fun i => ws[i]?) = wc.map some) : isC.filterMap (fun i => ws[i]?) = wc := by
  have : isC.filterMap (fun i => ws[i]?) = (isC.map (fun i => ws[i]?)).filterMap id := by rw [List.filterMap_map]; rfl
  rw [this, hC, List.filterMap_map]
  simp
theorem g_pre (E : Bd D cA st p s m args meth c cc nL own ret A) (hO : va_AO "KindSayings$Saying" s) (hw : GW D A s ws H locs) {wc : va_W} {isC : List Nat} (hC : isC.map (fun i => ws[i]?) = wc.map some) (hnC : va_nd isC = true) (As : List Value) : PreS s H (GPre D cA st (va_A wc H.size) H.size As wc) As := by
  obtain ⟨hx, hb, hml, hown, hts, hK, hZ, hNw, hA, -⟩ := id E
  obtain ⟨hP, hD, hS⟩ := hw
  have hF := va_free hD hS hA isC hC
  have hPc := hP.sub isC (g_fm hC)
  have hDc := (hD.sub isC hnC hC).self (sz := H.size)
  exact ⟨GPre.blind, fun U hU hW => ⟨rfl, by rw [hU], fun q h => Or.inr h, ⟨by rw [hU]; exact hPc, hDc, va_K.moved hW.alike hK⟩, by rw [hU]; exact ZT.moved hW.alike ((hZ.kept (fun q h1 h2 => hS.2.1 q h1 h2)).narrow hF), NW.warm hW hNw, va_AO.moved hW.alike hO⟩⟩
theorem g_preK {Λ : Lay} {n : Nat} {ad : Nat → Nat} {a : Nat} {τ : Tau} (E : Bd D cA st p s m args meth c cc nL own ret A) (hw : GW D A s ws H locs) {isC : List Nat} (hC : isC.map (fun i => ws[i]?) = (wl Λ n cA ad a τ).map some) (hnC : va_nd isC = true) (As : List Value) : PreS s H (KPre Λ n D cA st ad (va_A (wl Λ n cA ad a τ) H.size) H.size As a τ) As := by
  obtain ⟨hx, hb, hml, hown, hts, hK, hZ, hNw, hA, -⟩ := id E
  obtain ⟨hP, hD, hS⟩ := hw
  have hF := va_free hD hS hA isC hC
  have hPc := hP.sub isC (g_fm hC)
  have hDc := (hD.sub isC hnC hC).self (sz := H.size)
  exact ⟨KPre.blind, fun U hU hW => ⟨rfl, by rw [hU], fun q h => Or.inr h, ⟨by rw [hU]; exact hPc, hDc, va_K.moved hW.alike hK⟩, by rw [hU]; exact ZT.moved hW.alike ((hZ.kept (fun q h1 h2 => hS.2.1 q h1 h2)).narrow hF), NW.warm hW hNw⟩⟩
theorem KPost.g {Λ : Lay} {n : Nat} {ad : Nat → Nat} {B : Nat → Prop} {post : Option Value → Nat → Tau → Prop} {x : Array Value} {u : State} {oc : Outcome} {t : State} (h : KPost Λ n D cA ad B post x u oc t) : GPost D cA B (fun v w1 => ∃ a' τ', w1 = wl Λ n cA ad a' τ' ∧ post v a' τ') x u oc t := by
  obtain ⟨⟨v, a', τ', h1, h2, h3, h4, h5⟩, h6⟩ := h
  exact ⟨⟨v, _, h1, ⟨a', τ', rfl, h2⟩, h3, h4, h5⟩, h6⟩
-- a constructor of ours is called
def kCi (own : String) (idx : Nat) (y : MethodName) (b : ByteArray) (maxL np : Nat) : Prop :=
  Cond.methodLink own idx y ∈ Gd ∧ Cond.instanceMethod y ∈ Gd ∧ Cond.initialized y.cls ∈ Gd ∧ Cond.code y b maxL none ∈ Gd ∧ y.name = "<init>" ∧ (y.cls ≠ "java/lang/invoke/MethodHandle" ∧ y.cls ≠ "java/lang/invoke/VarHandle") ∧ (parseMethodDescriptor y.desc).map (fun d => d.parameters.length) = some np
def kCiN (own : String) (idx : Nat) (y : MethodName) (b : ByteArray) (maxL np : Nat) : Prop :=
  (own, idx, y) ∈ nestM ∧ Cond.instanceMethod y ∈ Gd ∧ Cond.initialized y.cls ∈ Gd ∧ Cond.code y b maxL none ∈ Gd ∧ y.name = "<init>" ∧ (y.cls ≠ "java/lang/invoke/MethodHandle" ∧ y.cls ≠ "java/lang/invoke/VarHandle") ∧ (parseMethodDescriptor y.desc).map (fun d => d.parameters.length) = some np
theorem g_callIN {y : MethodName} {b : ByteArray} {maxL fr lo mc ms idx : Nat} {wc wr : va_W} {isC isR : List Nat} {post : Option Value → va_W → Prop} (E : Bd D cA st p s m args meth c cc nL own ret A) (hO : va_AO "KindSayings$Saying" s) (hw : GW D A s ws H locs) (hls : ls.size = nL) (hc : kCiN own idx y b maxL 0) {a : Nat} (hM : GC D cA st l y b maxL fr lo mc ms [.ref a] wc post)
    (hC : isC.map (fun i => ws[i]?) = wc.map some) (hnC : va_nd isC = true) (hRr : isR.map (fun i => ws[i]?) = wr.map some) (hn : va_nd isR = true) (hdis : ∀ i ∈ isR, i ∉ isC)
    (hR : fr + 1 ≤ R.frames ∧ 8 + (maxL + 11) + lo ≤ R.locals) (hf : cells + mc ≤ R.cells ∧ slots + ms ≤ R.slots) (hcat : (rest.map fun v => v.category).sum ≤ 8) (hdg : decode cc pc = .ok (.invokespecial idx, 3))
    (kk : ∀ (v : Option Value) (w1 : va_W) H1 locs1, post v w1 → GW D A s (wr ++ w1) H1 locs1 → W p l e R s m args below meth c H1 locs1 (cells + mc) (slots + ms) Q (F0 m (pc + 3) ls (v.toList ++ rest))) : W p l e R s m args below meth c H locs cells slots Q (F0 m pc ls (.ref a :: rest)) := by
  obtain ⟨hx, hb, hml, hown, hts, hK, hZ, hNw, hA, -⟩ := id E
  obtain ⟨h1, h2, h3, h4, h5, h6, h7⟩ := hc
  exact g_back (va_runIN (As := []) (rest := rest) ⟨hx, hb, hml, hown, hts⟩ (hM (va_A wc H.size) H.size) ⟨va_cnB 0 hts (Gd_code h4) rfl rfl rfl (hNw.1 _ h1) (hts _ h3) ⟨h6.1, h6.2, h7⟩ hR, h5, hts _ h2⟩ (g_pre E hO hw hC hnC [.ref a]) rfl rfl hls rfl (lv_room hcat) hdg hf) hw hA hC hRr hn hdis kk
theorem g_callI {y : MethodName} {b : ByteArray} {maxL fr lo mc ms idx : Nat} {wc wr : va_W} {isC isR : List Nat} {post : Option Value → va_W → Prop} (E : Bd D cA st p s m args meth c cc nL own ret A) (hO : va_AO "KindSayings$Saying" s) (hw : GW D A s ws H locs) (hls : ls.size = nL) (hc : kCi own idx y b maxL 0) {a : Nat} (hM : GC D cA st l y b maxL fr lo mc ms [.ref a] wc post)
    (hC : isC.map (fun i => ws[i]?) = wc.map some) (hnC : va_nd isC = true) (hRr : isR.map (fun i => ws[i]?) = wr.map some) (hn : va_nd isR = true) (hdis : ∀ i ∈ isR, i ∉ isC)
    (hR : fr + 1 ≤ R.frames ∧ 8 + (maxL + 11) + lo ≤ R.locals) (hf : cells + mc ≤ R.cells ∧ slots + ms ≤ R.slots) (hcat : (rest.map fun v => v.category).sum ≤ 8) (hdg : decode cc pc = .ok (.invokespecial idx, 3))
    (kk : ∀ (v : Option Value) (w1 : va_W) H1 locs1, post v w1 → GW D A s (wr ++ w1) H1 locs1 → W p l e R s m args below meth c H1 locs1 (cells + mc) (slots + ms) Q (F0 m (pc + 3) ls (v.toList ++ rest))) : W p l e R s m args below meth c H locs cells slots Q (F0 m pc ls (.ref a :: rest)) := by
  obtain ⟨hx, hb, hml, hown, hts, hK, hZ, hNw, hA, -⟩ := id E
  obtain ⟨h1, h2, h3, h4, h5, h6, h7⟩ := hc
  exact g_back (va_runI (As := []) (rest := rest) ⟨hx, hb, hml, hown, hts⟩ (hM (va_A wc H.size) H.size) (cwI 0 hts (Gd_code h4) rfl rfl rfl (hts _ h3) (hts _ h1) (hts _ h2) h5 ⟨h6.1, h6.2, h7⟩ hR) (g_pre E hO hw hC hnC [.ref a]) rfl rfl hls rfl (lv_room hcat) hdg hf) hw hA hC hRr hn hdis kk
/-- a method of ours whose contract speaks of a memory, where more than that memory is there -/
theorem g_callV {Λ : Lay} {n : Nat} {ad : Nat → Nat} {aa : Nat} {τ : Tau} {y : MethodName} {b : ByteArray} {maxL np fr lo mc ms idx : Nat} {rt : Option FieldType} {post : Option Value → Nat → Tau → Prop} {wr : va_W} {isC isR : List Nat} (E : Bd D cA st p s m args meth c cc nL own ret A) (hw : GW D A s ws H locs) (hls : ls.size = nL) (hc : kCv own idx y b maxL rt np) (k : Nat) {ci : Nat} {ts : List Nat} (hk : k < n) (hΛ : Λ k = (0, ci, ts)) {T : u_T} {N : Nat} (hci : classes[ci]? = some (y.cls, T, N))
    (As : List Value) (hM : KC Λ n D cA st ad l y b maxL rt fr lo mc ms (.ref (adr ad aa k) :: As) aa τ post)
    (hC : isC.map (fun i => ws[i]?) = (wl Λ n cA ad aa τ).map some) (hnC : va_nd isC = true) (hRr : isR.map (fun i => ws[i]?) = wr.map some) (hnR : va_nd isR = true) (hdis : ∀ i ∈ isR, i ∉ isC)
    (hn : As.length = np) (hR : fr + 1 ≤ R.frames ∧ 8 + (maxL + 11) + lo ≤ R.locals) (hf : cells + mc ≤ R.cells ∧ slots + ms ≤ R.slots) (hcat : (rest.map fun v => v.category).sum ≤ 8) {st0 : List Value} (hst : st0 = As.reverse ++ .ref (adr ad aa k) :: rest) (hdg : decode cc pc = .ok (.invokevirtual idx, 3))
    (kk : ∀ (v : Option Value) (a' : Nat) (τ' : Tau) H1 locs1, post v a' τ' → GW D A s (wr ++ wl Λ n cA ad a' τ') H1 locs1 → W p l e R s m args below meth c H1 locs1 (cells + mc) (slots + ms) Q (F0 m (pc + 3) ls (v.toList ++ rest))) : W p l e R s m args below meth c H locs cells slots Q (F0 m pc ls st0) := by
  obtain ⟨hx, hb, hml, hown, hts, hK, hZ, hNw, hA, -⟩ := id E
  obtain ⟨h1, h2, h3, h4, h5, h6⟩ := hc
  have hPc := hw.1.sub isC (g_fm hC)
  have he : (wl Λ n cA ad aa τ)[k]? = some (adr ad aa k, .inr (ci, flds ad aa τ k 0 ts)) := by
    rw [wl_get hk]
    unfold ent
    rw [hΛ]
    rfl
  refine g_back ((va_runV (As := As) (rest := rest) ⟨hx, hb, hml, hown, hts⟩ (hM (va_A (wl Λ n cA ad aa τ) H.size) H.size) (cwV np hts (Gd_app (fun w hw => by simp only [List.mem_cons, List.not_mem_nil, or_false] at hw; rcases hw with rfl | rfl | rfl | rfl <;> assumption) (Gd_code h5)) rfl rfl rfl ⟨rfl, h6⟩ hR) ⟨KPre.blind, va_recv hK hPc hci he, (g_preK E hw hC hnC (.ref (adr ad aa k) :: As)).2⟩ rfl hn hls hst (lv_room hcat) hdg hf).mono (fun st oc t h => KPost.g h)) hw hA hC hRr hnR hdis (fun v w1 H1 locs1 hp hw1 => ?_)
  obtain ⟨a', τ', rfl, hp⟩ := hp
  exact kk v a' τ' H1 locs1 hp hw1
theorem g_callS {Λ : Lay} {n : Nat} {ad : Nat → Nat} {aa : Nat} {τ : Tau} {y : MethodName} {b : ByteArray} {maxL np fr lo mc ms idx : Nat} {rt : Option FieldType} {post : Option Value → Nat → Tau → Prop} {wr : va_W} {isC isR : List Nat} (E : Bd D cA st p s m args meth c cc nL own ret A) (hw : GW D A s ws H locs) (hls : ls.size = nL) (hc : kCs own idx y b maxL rt np)
    (As : List Value) (hM : KC Λ n D cA st ad l y b maxL rt fr lo mc ms As aa τ post)
    (hC : isC.map (fun i => ws[i]?) = (wl Λ n cA ad aa τ).map some) (hnC : va_nd isC = true) (hRr : isR.map (fun i => ws[i]?) = wr.map some) (hnR : va_nd isR = true) (hdis : ∀ i ∈ isR, i ∉ isC)
    (hn : As.length = np) (hR : fr + 1 ≤ R.frames ∧ 8 + (maxL + 11) + lo ≤ R.locals) (hf : cells + mc ≤ R.cells ∧ slots + ms ≤ R.slots) (hcat : (rest.map fun v => v.category).sum ≤ 8) {st0 : List Value} (hst : st0 = As.reverse ++ rest) (hdg : decode cc pc = .ok (.invokestatic idx, 3))
    (kk : ∀ (v : Option Value) (a' : Nat) (τ' : Tau) H1 locs1, post v a' τ' → GW D A s (wr ++ wl Λ n cA ad a' τ') H1 locs1 → W p l e R s m args below meth c H1 locs1 (cells + mc) (slots + ms) Q (F0 m (pc + 3) ls (v.toList ++ rest))) : W p l e R s m args below meth c H locs cells slots Q (F0 m pc ls st0) := by
  obtain ⟨hx, hb, hml, hown, hts, hK, hZ, hNw, hA, -⟩ := id E
  obtain ⟨h1, h2, h3, h4, h5⟩ := hc
  refine g_back ((va_runS (As := As) (rest := rest) ⟨hx, hb, hml, hown, hts⟩ (hM (va_A (wl Λ n cA ad aa τ) H.size) H.size) (va_cwS np hts (Gd_app (fun w hw => by simp only [List.mem_cons, List.not_mem_nil, or_false] at hw; rcases hw with rfl | rfl | rfl <;> assumption) (Gd_code h4)) rfl rfl rfl h5 hR) (g_preK E hw hC hnC As) rfl hn hls hst (lv_room hcat) hdg hf).mono (fun st oc t h => KPost.g h)) hw hA hC hRr hnR hdis (fun v w1 H1 locs1 hp hw1 => ?_)
  obtain ⟨a', τ', rfl, hp⟩ := hp
  exact kk v a' τ' H1 locs1 hp hw1
theorem GPost.to {post : Option Value → va_W → Prop} (E : Bd D cA st p s m args meth c cc nL own ret A) (hw : GW D A s ws H locs) {v : Option Value} (h : post v ws) : ∀ t : State, t.heap = H → s.WarmedH t.vm → GPost D cA A post args s (.returned v) t := by
  intro t ht hW
  exact ⟨⟨v, ws, rfl, h, by rw [ht]; exact hw.1, hw.2.1, va_K.moved hW.alike E.2.2.2.2.2.1⟩, hw.2.2.F ht⟩
theorem g_vret {mc ms : Nat} {post : Option Value → va_W → Prop} (E : Bd D cA st p s m args meth c cc nL own none A) (hw : GW D A s ws H locs) (h1 : cells ≤ mc) (h2 : slots ≤ ms) (hQ : Q = MQ below (GPost D cA A post) args s mc ms A) (hdg : decode cc pc = .ok (.return_, 1)) (h : post none ws) :
    W p l e R s m args below meth c H locs cells slots Q (F0 m pc ls []) := by
  rw [hQ]
  refine W.widen (k := mc) (n := ms) h1 h2 ?_
  exact W.vret E.1 E.2.1 E.2.2.2.2.2.2.2.2.2.2 (GPost.to E hw h) hw.2.2.2.2 hdg E.2.2.2.2.2.2.2.2.2.1
end GR
