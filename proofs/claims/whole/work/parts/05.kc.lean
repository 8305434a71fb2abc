/-! contracts and rows over the typed memory -/
abbrev classes : List vw_C := [(RX0, TX0, 10), (RX1, TX1, 8), (RX2, TX2, 6), (RX3, TX3, 6), (RX4, TX4, 7), (RX5, TX5, 6), (RX6, TX6, 8), (RX7, TX7, 29)]
def tyl (cA : Nat → ClassId) : List (ClassId × FieldType) := [(cA 0, .int), (cA 1, .long), (cA 2, .char), (cA 3, .object "KindSayings$Saying")]
def tyOf : Nat → FieldType
  | 0 => .int
  | 1 => .long
  | 2 => .char
  | _ => .object "KindSayings$Saying"
def vWORDS : Nat → Int64 := fun j => [6384748, 1936682341, 28271, 1836020596, 465557353332, 1786082164, 1836020325, 1702258030, 7237492].getD j 0
def vSHOWS : Nat → Int32 := fun j => [0, 2, 1, 3, 2, 1, 3, 0, 1].getD j 0
def vFIRST : Nat → Int32 := fun j => [0, 0, 1, 1, 2, 1, 3, -9, 0].getD j 0
def vSECOND : Nat → Int32 := fun j => [0, 2, 0, 2, -9, -9, 0, -9, -9].getD j 0
/-- the four static rows of numbers, that nobody writes -/
def ZT (st : Nat → Nat) (A : Nat → Prop) (U : State) (H : Heap) : Prop :=
  (va_Z "KindSayings" "WORDS" "[J" (.ref (st 0)) A U H ∧ va_T .long (st 0) 9 (fun j => .long (vWORDS j)) A U H) ∧
  (va_Z "KindSayings" "MOOD_SHOWS" "[I" (.ref (st 1)) A U H ∧ va_T .int (st 1) 9 (fun j => .int (vSHOWS j)) A U H) ∧
  (va_Z "KindSayings" "MOOD_FIRST" "[I" (.ref (st 2)) A U H ∧ va_T .int (st 2) 9 (fun j => .int (vFIRST j)) A U H) ∧
  (va_Z "KindSayings" "MOOD_SECOND" "[I" (.ref (st 3)) A U H ∧ va_T .int (st 3) 9 (fun j => .int (vSECOND j)) A U H)
theorem ZT.moved {st : Nat → Nat} {A : Nat → Prop} {u U : State} {H : Heap} (hvm : u.vm.Alike U.vm) (h : ZT st A u H) : ZT st A U H :=
  ⟨⟨h.1.1.moved hvm, h.1.2.moved hvm⟩, ⟨h.2.1.1.moved hvm, h.2.1.2.moved hvm⟩, ⟨h.2.2.1.1.moved hvm, h.2.2.1.2.moved hvm⟩, ⟨h.2.2.2.1.moved hvm, h.2.2.2.2.moved hvm⟩⟩
theorem ZT.kept {st : Nat → Nat} {A : Nat → Prop} {U : State} {H H1 : Heap} (h : ZT st A U H) (hq : ∀ a : Nat, a < H.size → ¬ A a → H1[a]? = H[a]?) : ZT st A U H1 :=
  ⟨⟨h.1.1.kept hq, h.1.2.kept hq⟩, ⟨h.2.1.1.kept hq, h.2.1.2.kept hq⟩, ⟨h.2.2.1.1.kept hq, h.2.2.1.2.kept hq⟩, ⟨h.2.2.2.1.kept hq, h.2.2.2.2.kept hq⟩⟩
theorem ZT.narrow {st : Nat → Nat} {A B : Nat → Prop} {U : State} {H : Heap} (h : ZT st A U H) (hq : ∀ q, B q → A q) : ZT st B U H :=
  ⟨⟨h.1.1.narrow hq, h.1.2.narrow hq⟩, ⟨h.2.1.1.narrow hq, h.2.1.2.narrow hq⟩, ⟨h.2.2.1.1.narrow hq, h.2.2.1.2.narrow hq⟩, ⟨h.2.2.2.1.narrow hq, h.2.2.2.2.narrow hq⟩⟩
/-- the words about nest mates -/
def nestM : List (String × Nat × MethodName) := [("KindSayings", 21, ⟨"KindSayings$Reader", "<init>", "()V"⟩), ("KindSayings$Reader", 11, ⟨"KindSayings$Tokens", "<init>", "()V"⟩), ("KindSayings$Reader", 20, ⟨"KindSayings$Saying", "<init>", "()V"⟩), ("KindSayings$Heaps", 11, ⟨"KindSayings$Walk", "<init>", "()V"⟩), ("KindSayings$Heaps", 40, ⟨"KindSayings", "has", "(II)Z"⟩), ("KindSayings$Heaps", 44, ⟨"KindSayings", "factNumber", "(III)I"⟩), ("KindSayings", 35, ⟨"KindSayings$Proof", "<init>", "()V"⟩), ("KindSayings", 50, ⟨"KindSayings$Saying", "<init>", "()V"⟩), ("KindSayings$Saying", 18, ⟨"KindSayings", "sortsOfKind", "(II)I"⟩), ("KindSayings$Saying", 28, ⟨"KindSayings", "factNumber", "(III)I"⟩), ("KindSayings$Reader", 107, ⟨"KindSayings", "sortsOfKind", "(II)I"⟩), ("KindSayings$Reader", 110, ⟨"KindSayings", "everySort", "(I)I"⟩), ("KindSayings$Reader", 116, ⟨"KindSayings", "factNumber", "(III)I"⟩), ("KindSayings$Proof", 29, ⟨"KindSayings", "has", "(II)Z"⟩), ("KindSayings$Proof", 79, ⟨"KindSayings", "factNumber", "(III)I"⟩)]
def nestF : List (String × Nat × String × String × String) := [("KindSayings$Tokens", 60, "KindSayings", "WORDS", "[J"), ("KindSayings$Proof", 66, "KindSayings", "MOOD_SHOWS", "[I"), ("KindSayings$Proof", 73, "KindSayings", "MOOD_FIRST", "[I"), ("KindSayings$Proof", 76, "KindSayings", "MOOD_SECOND", "[I")]
def NW (U : State) : Prop := (∀ q ∈ nestM, va_Nw (.methodLinkNest q.1 q.2.1 q.2.2 "KindSayings") U) ∧ (∀ q ∈ nestF, va_Nw (.fieldLinkNest q.1 q.2.1 q.2.2.1 q.2.2.2.1 q.2.2.2.2 "KindSayings") U)
theorem NW.warm {s U : State} (hW : s.WarmedH U.vm) (h : NW s) : NW U := ⟨fun q hq => va_Nw.warmM hW (h.1 q hq), fun q hq => va_Nw.warmF hW (h.2 q hq)⟩
theorem NW.same {u U : State} (e : u.vm = U.vm) (h : NW u) : NW U := ⟨fun q hq => va_Nw.same rfl e (h.1 q hq), fun q hq => va_Nw.same rfl e (h.2 q hq)⟩
section KC
variable (Λ : Lay) (n : Nat) (D : va_G) (cA : Nat → ClassId) (st ad : Nat → Nat)
def WQ (a : Nat) (τ : Tau) (A : Nat → Prop) (U : State) : Prop := va_P D classes (wl Λ n cA ad a τ) U.heap ∧ va_D A (wl Λ n cA ad a τ) ∧ va_K D classes (tyl cA) U
def KPre (A : Nat → Prop) (sz : Nat) (As : List Value) (a : Nat) (τ : Tau) : Array Value → State → Prop :=
  va_Pc As (fun U => U.heap.size = sz ∧ (∀ q, sz ≤ q → A q) ∧ WQ Λ n D cA ad a τ A U ∧ ZT st A U U.heap ∧ NW U)
def KPost (A : Nat → Prop) (post : Option Value → Nat → Tau → Prop) : Array Value → State → Outcome → State → Prop :=
  fun _ s oc t => (∃ (v : Option Value) (a' : Nat) (τ' : Tau), oc = .returned v ∧ post v a' τ' ∧ WQ Λ n D cA ad a' τ' A t) ∧ va_F A s t
/-- a contract: from every world that is this memory, the method returns, and 'post' holds of answer and memory -/
def KC (l : Launch) (y : MethodName) (b : ByteArray) (maxL : Nat) (ret : Option FieldType) (fr lo mc ms : Nat) (As : List Value) (a : Nat) (τ : Tau) (post : Option Value → Nat → Tau → Prop) : Prop :=
  ∀ (A : Nat → Prop) (sz : Nat), Met l y (Cond.code y b maxL ret :: Gd) { frames := fr, cells := mc, slots := ms, locals := lo } (KPre Λ n D cA st ad A sz As a τ) (KPost Λ n D cA ad A post) mc ms A
def Bd (p : Program) (s : State) (m : MethodId) (args : Array Value) (meth : Method) (c : Code) (cc : ByteArray) (nL : Nat) (own : String) (ret : Option FieldType) (A : Nat → Prop) : Prop :=
  p.tables.exec = Jvm.exec ∧ c.code = cc ∧ c.maxLocals = nL ∧ s.vm.findClass own = some m.cls ∧ (∀ w ∈ Gd, w.before args s = true) ∧ va_K D classes (tyl cA) s ∧ ZT st A s s.heap ∧ NW s ∧ (∀ q, s.heap.size ≤ q → A q) ∧ meth.locks = false ∧ meth.sig.returnType = ret
def Wd (A : Nat → Prop) (s : State) (a : Nat) (τ : Tau) (H : Heap) (locs : List Loc) : Prop :=
  va_P D classes (wl Λ n cA ad a τ) H ∧ va_D A (wl Λ n cA ad a τ) ∧ va_S A s.heap H locs
end KC
section KR
variable {Λ : Lay} {n : Nat} {D : va_G} {cA : Nat → ClassId} {st ad : Nat → Nat}
theorem KPre.blind {A : Nat → Prop} {sz : Nat} {As : List Value} {a : Nat} {τ : Tau} : FrameBlind (KPre Λ n D cA st ad A sz As a τ) := by
  intro x U g mk h
  obtain ⟨h1, h2, h3, h4, h5, h6⟩ := h
  exact ⟨h1, h2, h3, ⟨h4.1, h4.2.1, va_K.moved (u := U) (U := U.calling g mk x) (Vm.Alike.refl U.vm) h4.2.2⟩, ZT.moved (u := U) (U := U.calling g mk x) (Vm.Alike.refl U.vm) h5, NW.same (u := U) (U := U.calling g mk x) rfl h6⟩
theorem KC.of {l : Launch} {y : MethodName} {b : ByteArray} {maxL : Nat} {ret : Option FieldType} {fr lo mc ms : Nat} {As : List Value} {a : Nat} {τ : Tau} {post : Option Value → Nat → Tau → Prop}
    (hy : plainName y.cls = true) (hL : (lg_sl As).length ≤ maxL)
    (body : ∀ (p : Program) (e : Env) (s : State) (m : MethodId) (args : Array Value) (below : List Frame) (meth : Method) (c : Code) (A : Nat → Prop) (ls : Array Slot),
      Bd D cA st p s m args meth c b maxL y.cls ret A → Wd Λ n D cA ad A s a τ s.heap [] → lv_has ls maxL (lv_args 0 As) → (y.name = "<init>" → meth.name = "<init>") →
      W p l e { frames := fr, cells := mc, slots := ms, locals := lo } s m args below meth c s.heap [] 0 0 (MQ below (KPost Λ n D cA ad A post) args s mc ms A) (F0 m 0 ls [])) :
    KC Λ n D cA st ad l y b maxL ret fr lo mc ms As a τ post := by
  intro A sz
  refine Met.ofW (cc := b) (maxL := maxL) (ret := ret) hy rfl ?_
  intro p e s m args below meth c s₁ B hml hv
  obtain ⟨rfl, hsz, hA, hQ, hZ, hN⟩ := hv
  have hts := atoms_spec (ws := Cond.code y b maxL ret :: Gd) B.pre
  have hl := lv_entry As (n := maxL) hL
  rw [lg_entry_eq]
  subst hsz
  exact body p e s m As.toArray below meth c A _ ⟨B.exec, B.bytes, hml, findClass_of_methodNamed B.named, fun w hw => hts w (List.mem_cons_of_mem _ hw), hQ.2.2, hZ, hN, hA, B.notSynchronized, B.returns⟩ ⟨hQ.1, hQ.2.1, va_S.rf⟩ hl
    (fun h => (name_of_methodNamed B.named B.method).1.trans h)
end KR
section KW
variable {p : Program} {l : Launch} {e : Env} {R : Room} {s : State} {m : MethodId} {args : Array Value} {below : List Frame} {meth : Method} {c : Code} {H : Heap} {locs : List Loc} {cells slots : Nat} {Q : State → Prop}
variable {Λ : Lay} {n : Nat} {D : va_G} {cA : Nat → ClassId} {st ad : Nat → Nat} {cc : ByteArray} {nL : Nat} {own : String} {ret : Option FieldType} {A : Nat → Prop} {a : Nat} {τ : Tau} {pc : Nat} {ls : Array Slot} {rest : List Value}
/-- a field of a class of ours as the constant pool names it -/
def kFd (own : String) (idx ci j : Nat) : Prop := ∃ (C : String) (T : u_T) (N : Nat), classes[ci]? = some (C, T, N) ∧ j < N ∧ Cond.fieldLink own idx (T j).1 (T j).2.1 (T j).2.2.1 ∈ Gd ∧ (∀ w ∈ u_ws C T N, w ∈ Gd)
/-- the same, of a field that may be written -/
def kFw (own : String) (idx ci j : Nat) (ty : FieldType) : Prop := ∃ (C : String) (T : u_T) (N : Nat) (ty0 : Nat → FieldType), classes[ci]? = some (C, T, N) ∧ j < N ∧ Cond.fieldLink own idx (T j).1 (T j).2.1 (T j).2.2.1 ∈ Gd ∧ (∀ w ∈ u_ws C T N, w ∈ Gd) ∧ (∀ k, k < N → parseFieldDescriptor (T k).2.2.1 = some (ty0 k)) ∧ (∀ a, a < N → ∀ b, b < N → a ≠ b → (T a).2.1 ≠ (T b).2.1) ∧ (T j).2.2.2 = false ∧ parseFieldDescriptor (T j).2.2.1 = some ty
theorem ks_get (E : Bd D cA st p s m args meth c cc nL own ret A) (hw : Wd Λ n D cA ad A s a τ H locs) (k j : Nat) {ci idx t : Nat} {ts : List Nat} (hk : k < n) (hΛ : Λ k = (0, ci, ts)) (ht : ts[j]? = some t) (hf : kFd own idx ci j) (hdg : decode cc pc = .ok (.getfield idx, 3))
    (kk : W p l e R s m args below meth c H locs cells slots Q (F0 m (pc + 3) ls (fval ad a τ k j t :: rest))) : W p l e R s m args below meth c H locs cells slots Q (F0 m pc ls (.ref (adr ad a k) :: rest)) := by
  obtain ⟨hx, hb, hml, hown, hts, hK, -⟩ := E
  obtain ⟨C, T, N, hc, hj, hlk, hin⟩ := hf
  have he : (wl Λ n cA ad a τ)[k]? = some (adr ad a k, .inr (ci, flds ad a τ k 0 ts)) := by
    rw [wl_get hk]
    unfold ent
    rw [hΛ]
    rfl
  have hv : (flds ad a τ k 0 ts)[j]? = some (fval ad a τ k j t) := by rw [flds_get ts 0 j t ht, Nat.zero_add]
  exact va_get hx hb hts hin hown hK hw.1 k he hc j hj (hts _ hlk) (fun _ h => h) hv hdg kk
theorem ks_getI (E : Bd D cA st p s m args meth c cc nL own ret A) (hw : Wd Λ n D cA ad A s a τ H locs) (k j : Nat) {ci idx : Nat} {ts : List Nat} (hk : k < n) (hΛ : Λ k = (0, ci, ts)) (ht : ts[j]? = some 0) (hf : kFd own idx ci j) (hdg : decode cc pc = .ok (.getfield idx, 3))
    (kk : W p l e R s m args below meth c H locs cells slots Q (F0 m (pc + 3) ls (.int (tI τ k j) :: rest))) : W p l e R s m args below meth c H locs cells slots Q (F0 m pc ls (.ref (adr ad a k) :: rest)) := ks_get E hw k j hk hΛ ht hf hdg kk
theorem ks_getL (E : Bd D cA st p s m args meth c cc nL own ret A) (hw : Wd Λ n D cA ad A s a τ H locs) (k j : Nat) {ci idx : Nat} {ts : List Nat} (hk : k < n) (hΛ : Λ k = (0, ci, ts)) (ht : ts[j]? = some 1) (hf : kFd own idx ci j) (hdg : decode cc pc = .ok (.getfield idx, 3))
    (kk : W p l e R s m args below meth c H locs cells slots Q (F0 m (pc + 3) ls (.long (tL τ k j) :: rest))) : W p l e R s m args below meth c H locs cells slots Q (F0 m pc ls (.ref (adr ad a k) :: rest)) := ks_get E hw k j hk hΛ ht hf hdg kk
theorem ks_getR (E : Bd D cA st p s m args meth c cc nL own ret A) (hw : Wd Λ n D cA ad A s a τ H locs) (k j : Nat) {ci idx t : Nat} {ts : List Nat} (hk : k < n) (hΛ : Λ k = (0, ci, ts)) (ht : ts[j]? = some (t + 2)) (hf : kFd own idx ci j) (hdg : decode cc pc = .ok (.getfield idx, 3))
    (kk : W p l e R s m args below meth c H locs cells slots Q (F0 m (pc + 3) ls (.ref (adr ad a t) :: rest))) : W p l e R s m args below meth c H locs cells slots Q (F0 m pc ls (.ref (adr ad a k) :: rest)) := ks_get E hw k j hk hΛ ht hf hdg kk
theorem ks_putI (E : Bd D cA st p s m args meth c cc nL own ret A) (hw : Wd Λ n D cA ad A s a τ H locs) (k j : Nat) {ci idx : Nat} {ts : List Nat} {ty : FieldType} {v : Int32} (hk : k < n) (hΛ : Λ k = (0, ci, ts)) (ht : ts[j]? = some 0) (hf : kFw own idx ci j ty) (hn : narrow ty (.int v) = .int v) (hfit : fits ty (.int v) = true) (hdg : decode cc pc = .ok (.putfield idx, 3))
    (kk : ∀ H1 locs1, Wd Λ n D cA ad A s a (sI τ k j v) H1 locs1 → W p l e R s m args below meth c H1 locs1 cells slots Q (F0 m (pc + 3) ls rest)) : W p l e R s m args below meth c H locs cells slots Q (F0 m pc ls (.int v :: .ref (adr ad a k) :: rest)) := by
  obtain ⟨hx, hb, hml, hown, hts, hK, -⟩ := E
  obtain ⟨C, T, N, ty0, hc, hj, hlk, hin, hty, hnm, hfin, hd⟩ := hf
  have he : (wl Λ n cA ad a τ)[k]? = some (adr ad a k, .inr (ci, flds ad a τ k 0 ts)) := by
    rw [wl_get hk]
    unfold ent
    rw [hΛ]
    rfl
  have hlen : j < (flds ad a τ k 0 ts).length := by rw [flds_len]; exact (List.getElem?_eq_some_iff.mp ht).1
  refine va_put hx hb hts hin ty0 hty hnm hown hK hw.1 hw.2.1 hw.2.2 k he hc j hj (hts _ hlk) (fun _ h => h) hfin hd hn hfit hlen hdg (fun H1 locs1 hP hD hS => ?_)
  rw [wl_set (τ' := sI τ k j v) (ent_sI hΛ ht v) (fun q hq => ent_oI q hq)] at hP hD
  exact kk H1 locs1 ⟨hP, hD, hS⟩
theorem ks_putL (E : Bd D cA st p s m args meth c cc nL own ret A) (hw : Wd Λ n D cA ad A s a τ H locs) (k j : Nat) {ci idx : Nat} {ts : List Nat} {v : Int64} (hk : k < n) (hΛ : Λ k = (0, ci, ts)) (ht : ts[j]? = some 1) (hf : kFw own idx ci j .long) (hdg : decode cc pc = .ok (.putfield idx, 3))
    (kk : ∀ H1 locs1, Wd Λ n D cA ad A s a (sL τ k j v) H1 locs1 → W p l e R s m args below meth c H1 locs1 cells slots Q (F0 m (pc + 3) ls rest)) : W p l e R s m args below meth c H locs cells slots Q (F0 m pc ls (.long v :: .ref (adr ad a k) :: rest)) := by
  obtain ⟨hx, hb, hml, hown, hts, hK, -⟩ := E
  obtain ⟨C, T, N, ty0, hc, hj, hlk, hin, hty, hnm, hfin, hd⟩ := hf
  have he : (wl Λ n cA ad a τ)[k]? = some (adr ad a k, .inr (ci, flds ad a τ k 0 ts)) := by
    rw [wl_get hk]
    unfold ent
    rw [hΛ]
    rfl
  have hlen : j < (flds ad a τ k 0 ts).length := by rw [flds_len]; exact (List.getElem?_eq_some_iff.mp ht).1
  refine va_put hx hb hts hin ty0 hty hnm hown hK hw.1 hw.2.1 hw.2.2 k he hc j hj (hts _ hlk) (fun _ h => h) hfin hd rfl rfl hlen hdg (fun H1 locs1 hP hD hS => ?_)
  rw [wl_set (τ' := sL τ k j v) (ent_sL hΛ ht v) (fun q hq => ent_oL q hq)] at hP hD
  exact kk H1 locs1 ⟨hP, hD, hS⟩
end KW
