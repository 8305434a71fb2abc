/-! the usual contract (nothing made, the memory behind it is one that is told), its start, its calls, its ends -/
section KE
variable {Λ : Lay} {n : Nat} {D : va_G} {cA : Nat → ClassId} {st ad : Nat → Nat}
/-- returns v0, the memory is τ0 then, nothing made -/
def KE (Λ : Lay) (n : Nat) (D : va_G) (cA : Nat → ClassId) (st ad : Nat → Nat) (l : Launch) (y : MethodName) (b : ByteArray) (maxL : Nat) (ret : Option FieldType) (fr lo : Nat) (As : List Value) (a : Nat) (τ : Tau) (v0 : Option Value) (τ0 : Tau) : Prop :=
  KC Λ n D cA st ad l y b maxL ret fr lo 0 0 As a τ (fun v a' τ' => v = v0 ∧ a' = a ∧ τ' = τ0)
theorem KE.of {l : Launch} {y : MethodName} {b : ByteArray} {maxL : Nat} {ret : Option FieldType} {fr lo : Nat} {As : List Value} {a : Nat} {τ τ0 : Tau} {v0 : Option Value} (own : String) (ho : y.cls = own)
    (hy : plainName y.cls = true) (hL : (lg_sl As).length ≤ maxL)
    (body : ∀ (p : Program) (e : Env) (s : State) (m : MethodId) (args : Array Value) (below : List Frame) (meth : Method) (c : Code) (A : Nat → Prop) (ls : Array Slot) (Rm : Room) (Q : State → Prop),
      Bd D cA st p s m args meth c b maxL own ret A → Rm.frames = fr ∧ Rm.locals = lo → Q = MQ below (KPost Λ n D cA ad A (fun v a' τ' => v = v0 ∧ a' = a ∧ τ' = τ0)) args s 0 0 A → Wd Λ n D cA ad A s a τ s.heap [] → lv_has ls maxL (lv_args 0 As) →
      W p l e Rm s m args below meth c s.heap [] 0 0 Q (F0 m 0 ls [])) :
    KE Λ n D cA st ad l y b maxL ret fr lo As a τ v0 τ0 := by
  subst ho
  exact KC.of hy hL (fun p e s m args below meth c A ls E hw hl _ => body p e s m args below meth c A ls _ _ E ⟨rfl, rfl⟩ rfl hw hl)
end KE
section KEr
variable {p : Program} {l : Launch} {e : Env} {R : Room} {s : State} {m : MethodId} {args : Array Value} {below : List Frame} {meth : Method} {c : Code} {H : Heap} {locs : List Loc} {cells slots : Nat} {Q : State → Prop}
variable {Λ : Lay} {n : Nat} {D : va_G} {cA : Nat → ClassId} {st ad : Nat → Nat} {cc : ByteArray} {nL : Nat} {own : String} {ret : Option FieldType} {A : Nat → Prop} {a : Nat} {τ : Tau} {pc : Nat} {ls : Array Slot} {rest : List Value}
theorem ke_room {Rm : Room} {F L fr lo maxL : Nat} (h : Rm.frames = F ∧ Rm.locals = L) (h1 : Nat.ble (fr + 1) F = true) (h2 : Nat.ble (8 + (maxL + 11) + lo) L = true) : fr + 1 ≤ Rm.frames ∧ 8 + (maxL + 11) + lo ≤ Rm.locals := by
  rw [h.1, h.2]
  exact ⟨Nat.le_of_ble_eq_true h1, Nat.le_of_ble_eq_true h2⟩
theorem ke_iret {v : Int32} {v0 : Option Value} {τ0 : Tau} (E : Bd D cA st p s m args meth c cc nL own (some .int) A) (hw : Wd Λ n D cA ad A s a τ H locs) (hQ : Q = MQ below (KPost Λ n D cA ad A (fun v a' τ' => v = v0 ∧ a' = a ∧ τ' = τ0)) args s 0 0 A) (hdg : decode cc pc = .ok (.ireturn, 1)) (hv : some (.int v) = v0) (ht : τ = τ0) :
    W p l e R s m args below meth c H locs 0 0 Q (F0 m pc ls [.int v]) := by
  rw [hQ]; exact ks_iret E hw hdg ⟨hv, rfl, ht⟩
theorem ke_zret {v : Int32} {v0 : Option Value} {τ0 : Tau} (E : Bd D cA st p s m args meth c cc nL own (some .boolean) A) (hw : Wd Λ n D cA ad A s a τ H locs) (hQ : Q = MQ below (KPost Λ n D cA ad A (fun v a' τ' => v = v0 ∧ a' = a ∧ τ' = τ0)) args s 0 0 A) (hz : v = 0 ∨ v = 1) (hdg : decode cc pc = .ok (.ireturn, 1)) (hv : some (.int v) = v0) (ht : τ = τ0) :
    W p l e R s m args below meth c H locs 0 0 Q (F0 m pc ls [.int v]) := by
  rw [hQ]; exact ks_zret E hw (nar_bool hz).1 hdg ⟨hv, rfl, ht⟩
theorem ke_lret {v : Int64} {v0 : Option Value} {τ0 : Tau} (E : Bd D cA st p s m args meth c cc nL own (some .long) A) (hw : Wd Λ n D cA ad A s a τ H locs) (hQ : Q = MQ below (KPost Λ n D cA ad A (fun v a' τ' => v = v0 ∧ a' = a ∧ τ' = τ0)) args s 0 0 A) (hdg : decode cc pc = .ok (.lreturn, 1)) (hv : some (.long v) = v0) (ht : τ = τ0) :
    W p l e R s m args below meth c H locs 0 0 Q (F0 m pc ls [.long v]) := by
  rw [hQ]; exact ks_lret E hw hdg ⟨hv, rfl, ht⟩
theorem ke_vret {τ0 : Tau} (E : Bd D cA st p s m args meth c cc nL own none A) (hw : Wd Λ n D cA ad A s a τ H locs) (hQ : Q = MQ below (KPost Λ n D cA ad A (fun v a' τ' => v = none ∧ a' = a ∧ τ' = τ0)) args s 0 0 A) (hdg : decode cc pc = .ok (.return_, 1)) (ht : τ = τ0) :
    W p l e R s m args below meth c H locs 0 0 Q (F0 m pc ls []) := by
  rw [hQ]; exact ks_vret E hw hdg ⟨rfl, rfl, ht⟩
theorem ke_aret {C : String} {v : Value} {v0 : Option Value} {τ0 : Tau} (E : Bd D cA st p s m args meth c cc nL own (some (.object C)) A) (hw : Wd Λ n D cA ad A s a τ H locs) (hQ : Q = MQ below (KPost Λ n D cA ad A (fun v a' τ' => v = v0 ∧ a' = a ∧ τ' = τ0)) args s 0 0 A) (hz : v = .null ∨ ∃ q, v = .ref q) (hdg : decode cc pc = .ok (.areturn, 1)) (hv : some v = v0) (ht : τ = τ0) :
    W p l e R s m args below meth c H locs 0 0 Q (F0 m pc ls [v]) := by
  rw [hQ]; exact ks_aret E hw hz hdg ⟨hv, rfl, ht⟩
theorem ke_S {y : MethodName} {b : ByteArray} {maxL np fr lo idx : Nat} {rt : Option FieldType} {v0 : Option Value} {τ0 : Tau} (E : Bd D cA st p s m args meth c cc nL own ret A) (hw : Wd Λ n D cA ad A s a τ H locs) (hls : ls.size = nL) (hc : kCs own idx y b maxL rt np) (As : List Value) (hM : KE Λ n D cA st ad l y b maxL rt fr lo As a τ v0 τ0)
    (hn : As.length = np) (hR : fr + 1 ≤ R.frames ∧ 8 + (maxL + 11) + lo ≤ R.locals) (hf : cells ≤ R.cells ∧ slots ≤ R.slots) (hcat : (rest.map fun v => v.category).sum ≤ 8) {st0 : List Value} (hst : st0 = As.reverse ++ rest) (hdg : decode cc pc = .ok (.invokestatic idx, 3))
    (kk : ∀ H1 locs1, Wd Λ n D cA ad A s a τ0 H1 locs1 → W p l e R s m args below meth c H1 locs1 cells slots Q (F0 m (pc + 3) ls (v0.toList ++ rest))) : W p l e R s m args below meth c H locs cells slots Q (F0 m pc ls st0) :=
  ks_callS E hw hls hc As hM hn hR hf hcat hst hdg (fun v a' τ' H1 locs1 hp hw1 => by obtain ⟨h1, h2, h3⟩ := hp; subst h1; subst h2; subst h3; exact kk H1 locs1 hw1)
theorem ke_SN {y : MethodName} {b : ByteArray} {maxL np fr lo idx : Nat} {rt : Option FieldType} {v0 : Option Value} {τ0 : Tau} (E : Bd D cA st p s m args meth c cc nL own ret A) (hw : Wd Λ n D cA ad A s a τ H locs) (hls : ls.size = nL) (hc : kCsN own idx y b maxL rt np) (As : List Value) (hM : KE Λ n D cA st ad l y b maxL rt fr lo As a τ v0 τ0)
    (hn : As.length = np) (hR : fr + 1 ≤ R.frames ∧ 8 + (maxL + 11) + lo ≤ R.locals) (hf : cells ≤ R.cells ∧ slots ≤ R.slots) (hcat : (rest.map fun v => v.category).sum ≤ 8) {st0 : List Value} (hst : st0 = As.reverse ++ rest) (hdg : decode cc pc = .ok (.invokestatic idx, 3))
    (kk : ∀ H1 locs1, Wd Λ n D cA ad A s a τ0 H1 locs1 → W p l e R s m args below meth c H1 locs1 cells slots Q (F0 m (pc + 3) ls (v0.toList ++ rest))) : W p l e R s m args below meth c H locs cells slots Q (F0 m pc ls st0) :=
  ks_callSN E hw hls hc As hM hn hR hf hcat hst hdg (fun v a' τ' H1 locs1 hp hw1 => by obtain ⟨h1, h2, h3⟩ := hp; subst h1; subst h2; subst h3; exact kk H1 locs1 hw1)
theorem ke_V {y : MethodName} {b : ByteArray} {maxL np fr lo idx : Nat} {rt : Option FieldType} {v0 : Option Value} {τ0 : Tau} (E : Bd D cA st p s m args meth c cc nL own ret A) (hw : Wd Λ n D cA ad A s a τ H locs) (hls : ls.size = nL) (hc : kCv own idx y b maxL rt np) (k : Nat) {ci : Nat} {ts : List Nat} (hk : k < n) (hΛ : Λ k = (0, ci, ts)) {T : u_T} {N : Nat} (hci : classes[ci]? = some (y.cls, T, N))
    (As : List Value) (hM : KE Λ n D cA st ad l y b maxL rt fr lo (.ref (adr ad a k) :: As) a τ v0 τ0)
    (hn : As.length = np) (hR : fr + 1 ≤ R.frames ∧ 8 + (maxL + 11) + lo ≤ R.locals) (hf : cells ≤ R.cells ∧ slots ≤ R.slots) (hcat : (rest.map fun v => v.category).sum ≤ 8) {st0 : List Value} (hst : st0 = As.reverse ++ .ref (adr ad a k) :: rest) (hdg : decode cc pc = .ok (.invokevirtual idx, 3))
    (kk : ∀ H1 locs1, Wd Λ n D cA ad A s a τ0 H1 locs1 → W p l e R s m args below meth c H1 locs1 cells slots Q (F0 m (pc + 3) ls (v0.toList ++ rest))) : W p l e R s m args below meth c H locs cells slots Q (F0 m pc ls st0) :=
  ks_callV E hw hls hc k hk hΛ hci As hM hn hR hf hcat hst hdg (fun v a' τ' H1 locs1 hp hw1 => by obtain ⟨h1, h2, h3⟩ := hp; subst h1; subst h2; subst h3; exact kk H1 locs1 hw1)
theorem ke_cnt {R : Room} : 0 ≤ R.cells ∧ 0 ≤ R.slots := ⟨Nat.zero_le _, Nat.zero_le _⟩
theorem ks_sw {x : Int32} {k : Int} {y : Int32} (h : ¬ x = y) (hy : y.toInt = k) : x.toInt ≠ k := fun e => h (Int32.toInt_inj.mp (e.trans hy.symm))
end KEr
/-! the two layouts -/
def ΛXl : List (Nat × Nat × List Nat) := [(0, 6, [3, 14, 15, 19, 29, 0, 0, 0]), (3, 3, [10]),
  (0, 3, [0, 0, 0, 0, 0, 0]), (0, 3, [0, 0, 0, 0, 0, 0]), (0, 3, [0, 0, 0, 0, 0, 0]), (0, 3, [0, 0, 0, 0, 0, 0]), (0, 3, [0, 0, 0, 0, 0, 0]),
  (0, 3, [0, 0, 0, 0, 0, 0]), (0, 3, [0, 0, 0, 0, 0, 0]), (0, 3, [0, 0, 0, 0, 0, 0]), (0, 3, [0, 0, 0, 0, 0, 0]), (0, 3, [0, 0, 0, 0, 0, 0]),
  (1, 0, [16]), (0, 2, [16, 18, 0, 0, 0, 0]), (0, 4, [17, 0, 0, 0, 0, 0, 0]), (1, 2, [80]), (0, 3, [0, 0, 0, 0, 0, 0]),
  (0, 0, [20, 24, 25, 26, 27, 28, 0, 0, 0, 0]), (0, 5, [21, 22, 23, 0, 0, 0]), (1, 0, [6]), (1, 0, [16]), (1, 0, [7]),
  (1, 0, [1024]), (1, 0, [1024]), (1, 0, [1024]), (2, 1, [16]), (1, 2, []), (0, 1, [30, 1, 1, 0, 0, 0, 0, 0]), (1, 0, [64])]
def ΛX : Lay := fun k => ΛXl.getD k (0, 99, [])
def ΛMl : List (Nat × Nat × List Nat) := [(0, 7, [0, 0, 0, 0, 3, 4, 0, 0, 0, 0, 0, 0, 0, 5, 6, 7, 0, 0, 0, 8, 9, 10, 11, 12, 13, 0, 0, 0, 0]),
  (1, 0, [16]), (1, 0, [80]), (1, 0, [60]), (1, 0, [60]), (1, 0, [60]), (1, 0, [16]), (1, 0, [1024]), (1, 0, [1024]), (1, 0, [16384]), (2, 1, [1024]), (1, 0, [64])]
def ΛM : Lay := fun k => ΛMl.getD k (0, 99, [])
/-- one of the ten sayings, or the draft -/
def isSay (q : Nat) : Prop := (2 ≤ q ∧ q < 12) ∨ q = 16
theorem say_lay {q : Nat} (h : isSay q) : ΛX q = (0, 3, [0, 0, 0, 0, 0, 0]) := by
  rcases h with h | h
  · have : q = 2 ∨ q = 3 ∨ q = 4 ∨ q = 5 ∨ q = 6 ∨ q = 7 ∨ q = 8 ∨ q = 9 ∨ q = 10 ∨ q = 11 := by omega
    rcases this with rfl | rfl | rfl | rfl | rfl | rfl | rfl | rfl | rfl | rfl <;> rfl
  · subst h; rfl
theorem say_lt {q : Nat} (h : isSay q) : q < 29 := by rcases h with h | h <;> omega
theorem say_16 : isSay 16 := Or.inr rfl
theorem say_at {i : Int32} (h : ¬ (i < 0 ∨ 10 ≤ i.toNatClampNeg)) : isSay (i.toNatClampNeg + 2) := Or.inl (by omega)
/-- the reference's rows of things by sorts -/
def isRow (q : Nat) : Prop := q = 1 ∨ q = 6
theorem row_lay {q : Nat} (h : isRow q) : ΛM q = (1, 0, [16]) := by rcases h with rfl | rfl <;> rfl
theorem row_lt {q : Nat} (h : isRow q) : q < 12 := by rcases h with rfl | rfl <;> omega
theorem row_1 : isRow 1 := Or.inl rfl
theorem row_6 : isRow 6 := Or.inr rfl
