/-! a call of the law: one side is taken out, the other stays (written by wip/tools/law2.py) -/
section LC
abbrev LA (s : State) : Nat → Prop := fun q => s.heap.size ≤ q
theorem wl_len {Λ : Lay} {n : Nat} {cA : Nat → ClassId} {ad : Nat → Nat} {a : Nat} {τ : Tau} : (wl Λ n cA ad a τ).length = n := by simp [wl]
theorem map_left (U V : va_W) {n : Nat} (h : U.length = n) : (List.range n).map (fun i => (U ++ V)[i]?) = U.map some := by
  apply List.ext_getElem
  · simp [h]
  · intro i h1 h2
    simp at h1 h2
    simp [List.getElem?_append_left h2]
theorem map_right (U V : va_W) {n k : Nat} (h : U.length = n) (h2 : V.length = k) : ((List.range k).map (· + n)).map (fun i => (U ++ V)[i]?) = V.map some := by
  apply List.ext_getElem
  · simp [h2]
  · intro i h1 h3
    simp at h1 h3
    simp [List.getElem?_append_right, h, h3]
variable {p : Program} {l : Launch} {e : Env} {R : Room} {s : State} {m : MethodId} {args : Array Value} {below : List Frame} {meth : Method} {c : Code} {H : Heap} {locs : List Loc} {cells slots : Nat} {Q : State → Prop}
variable {D : va_G} {cA : Nat → ClassId} {st adx adm : Nat → Nat} {cc : ByteArray} {nL : Nat} {own : String} {rr : Option FieldType} {ax am : Nat} {τx τm : Tau} {pc : Nat} {ls : Array Slot} {rest : List Value}
theorem lx_K {y : MethodName} {b : ByteArray} {maxL np fr lo mc ms idx : Nat} {rt : Option FieldType} {post : Option Value → Nat → Tau → Prop} (E : Bd D cA st p s m args meth c cc nL own rr (LA s)) (hw : GW D (LA s) s (wl ΛX 29 cA adx ax τx ++ wl ΛM 12 cA adm am τm) H locs) (hls : ls.size = nL) (hc : kCv own idx y b maxL rt np) (hci : classes[6]? = some (y.cls, TX6, 8))
    (As : List Value) (hM : KC ΛX 29 D cA st adx l y b maxL rt fr lo mc ms (.ref (adr adx ax 0) :: As) ax τx post) (hn : As.length = np) (hR : fr + 1 ≤ R.frames ∧ 8 + (maxL + 11) + lo ≤ R.locals) (hf : cells + mc ≤ R.cells ∧ slots + ms ≤ R.slots) (hcat : (rest.map fun v => v.category).sum ≤ 8) {st0 : List Value} (hst : st0 = As.reverse ++ .ref (adr adx ax 0) :: rest) (hdg : decode cc pc = .ok (.invokevirtual idx, 3))
    (kk : ∀ (v : Option Value) (a' : Nat) (τ' : Tau) H1 locs1, post v a' τ' → GW D (LA s) s (wl ΛM 12 cA adm am τm ++ wl ΛX 29 cA adx a' τ') H1 locs1 → W p l e R s m args below meth c H1 locs1 (cells + mc) (slots + ms) Q (F0 m (pc + 3) ls (v.toList ++ rest))) : W p l e R s m args below meth c H locs cells slots Q (F0 m pc ls st0) :=
  g_callV (isC := List.range 29) (isR := (List.range 12).map (· + 29)) E hw hls hc 0 (by decide) lyX_0 hci As hM (map_left _ _ wl_len) (by decide) (map_right _ _ wl_len wl_len) (by decide) (by decide) hn hR hf hcat hst hdg kk
theorem lx_E {y : MethodName} {b : ByteArray} {maxL np fr lo idx : Nat} {rt : Option FieldType} {v0 : Option Value} {τ0 : Tau} (E : Bd D cA st p s m args meth c cc nL own rr (LA s)) (hw : GW D (LA s) s (wl ΛX 29 cA adx ax τx ++ wl ΛM 12 cA adm am τm) H locs) (hls : ls.size = nL) (hc : kCv own idx y b maxL rt np) (hci : classes[6]? = some (y.cls, TX6, 8))
    (As : List Value) (hM : KE ΛX 29 D cA st adx l y b maxL rt fr lo (.ref (adr adx ax 0) :: As) ax τx v0 τ0) (hn : As.length = np) (hR : fr + 1 ≤ R.frames ∧ 8 + (maxL + 11) + lo ≤ R.locals) (hf : cells ≤ R.cells ∧ slots ≤ R.slots) (hcat : (rest.map fun v => v.category).sum ≤ 8) {st0 : List Value} (hst : st0 = As.reverse ++ .ref (adr adx ax 0) :: rest) (hdg : decode cc pc = .ok (.invokevirtual idx, 3))
    (kk : ∀ H1 locs1, GW D (LA s) s (wl ΛM 12 cA adm am τm ++ wl ΛX 29 cA adx ax τ0) H1 locs1 → W p l e R s m args below meth c H1 locs1 cells slots Q (F0 m (pc + 3) ls (v0.toList ++ rest))) : W p l e R s m args below meth c H locs cells slots Q (F0 m pc ls st0) :=
  lx_K E hw hls hc hci As hM hn hR hf hcat hst hdg (fun v a' τ' H1 locs1 hp hw1 => by obtain ⟨h1, h2, h3⟩ := hp; subst h1; subst h2; subst h3; exact kk H1 locs1 hw1)
theorem lx_A {y : MethodName} {b : ByteArray} {maxL np fr lo Sn idx : Nat} {rt : Option FieldType} {v0 : Option Value} {τ0 : Tau} (E : Bd D cA st p s m args meth c cc nL own rr (LA s)) (hw : GW D (LA s) s (wl ΛX 29 cA adx ax τx ++ wl ΛM 12 cA adm am τm) H locs) (hls : ls.size = nL) (hc : kCv own idx y b maxL rt np) (hci : classes[6]? = some (y.cls, TX6, 8))
    (As : List Value) (hM : KA ΛX 29 D cA st adx l y b maxL rt fr lo Sn (.ref (adr adx ax 0) :: As) ax τx v0 τ0) (hn : As.length = np) (hR : fr + 1 ≤ R.frames ∧ 8 + (maxL + 11) + lo ≤ R.locals) (hf : cells + 1 ≤ R.cells ∧ slots + Sn ≤ R.slots) (hcat : (rest.map fun v => v.category).sum ≤ 8) {st0 : List Value} (hst : st0 = As.reverse ++ .ref (adr adx ax 0) :: rest) (hdg : decode cc pc = .ok (.invokevirtual idx, 3))
    (kk : ∀ a' H1 locs1, GW D (LA s) s (wl ΛM 12 cA adm am τm ++ wl ΛX 29 cA adx a' τ0) H1 locs1 → W p l e R s m args below meth c H1 locs1 (cells + 1) (slots + Sn) Q (F0 m (pc + 3) ls (v0.toList ++ rest))) : W p l e R s m args below meth c H locs cells slots Q (F0 m pc ls st0) :=
  lx_K E hw hls hc hci As hM hn hR hf hcat hst hdg (fun v a' τ' H1 locs1 hp hw1 => by obtain ⟨h1, h3⟩ := hp; subst h1; subst h3; exact kk a' H1 locs1 hw1)
theorem lm_E {y : MethodName} {b : ByteArray} {maxL np fr lo idx : Nat} {rt : Option FieldType} {v0 : Option Value} {τ0 : Tau} (E : Bd D cA st p s m args meth c cc nL own rr (LA s)) (hw : GW D (LA s) s (wl ΛM 12 cA adm am τm ++ wl ΛX 29 cA adx ax τx) H locs) (hls : ls.size = nL) (hc : kCv own idx y b maxL rt np) (hci : classes[7]? = some (y.cls, TX7, 29))
    (As : List Value) (hM : KE ΛM 12 D cA st adm l y b maxL rt fr lo (.ref (adr adm am 0) :: As) am τm v0 τ0) (hn : As.length = np) (hR : fr + 1 ≤ R.frames ∧ 8 + (maxL + 11) + lo ≤ R.locals) (hf : cells ≤ R.cells ∧ slots ≤ R.slots) (hcat : (rest.map fun v => v.category).sum ≤ 8) {st0 : List Value} (hst : st0 = As.reverse ++ .ref (adr adm am 0) :: rest) (hdg : decode cc pc = .ok (.invokevirtual idx, 3))
    (kk : ∀ H1 locs1, GW D (LA s) s (wl ΛX 29 cA adx ax τx ++ wl ΛM 12 cA adm am τ0) H1 locs1 → W p l e R s m args below meth c H1 locs1 cells slots Q (F0 m (pc + 3) ls (v0.toList ++ rest))) : W p l e R s m args below meth c H locs cells slots Q (F0 m pc ls st0) :=
  g_callV (isC := List.range 12) (isR := (List.range 29).map (· + 12)) E hw hls hc 0 (by decide) lyM_0 hci As hM (map_left _ _ wl_len) (by decide) (map_right _ _ wl_len wl_len) (by decide) (by decide) hn hR hf hcat hst hdg (fun v a' τ' H1 locs1 hp hw1 => by obtain ⟨h1, h2, h3⟩ := hp; subst h1; subst h2; subst h3; exact kk H1 locs1 hw1)
theorem sh_need {τx r τx1 : Tau} {p1 : Int32} {Sn : Nat} (er : fX6_work τx p1 = some r) (hSn : tI τx1 26 0 ≠ tI τx 26 0 → mkNeed τx ≤ Sn) (z : tI τx1 26 0 ≠ tI r 26 0) : mkNeed r ≤ Sn := by
  have hwf := fr_X6_work _ _ _ er
  have h26 : tI r 26 0 = tI τx 26 0 := (hwf.1 26 0 (by decide)).1
  have h17 : tI r 17 8 = tI τx 17 8 := (hwf.1 17 8 (by decide)).1
  have hmk : mkNeed r = mkNeed τx := by unfold mkNeed; rw [h26, h17]
  rw [hmk]
  exact hSn (fun y => z (by rw [h26]; exact y))
end LC
