/-! contracts of what may make the marks anew: one row more at most, of Sn places at most -/
def mkNeed (τ : Tau) : Nat := if tI τ 17 8 ≤ nI (tI τ 26 0).toNatClampNeg then 0 else (tI τ 17 8).toNatClampNeg
section KAd
def KA (Λ : Lay) (n : Nat) (D : va_G) (cA : Nat → ClassId) (st ad : Nat → Nat) (l : Launch) (y : MethodName) (b : ByteArray) (maxL : Nat) (ret : Option FieldType) (fr lo Sn : Nat) (As : List Value) (a : Nat) (τ : Tau) (v0 : Option Value) (τ0 : Tau) : Prop :=
  KC Λ n D cA st ad l y b maxL ret fr lo 1 Sn As a τ (fun v _ τ' => v = v0 ∧ τ' = τ0)
variable {Λ : Lay} {n : Nat} {D : va_G} {cA : Nat → ClassId} {st ad : Nat → Nat}
theorem KA.of {l : Launch} {y : MethodName} {b : ByteArray} {maxL : Nat} {ret : Option FieldType} {fr lo Sn : Nat} {As : List Value} {a : Nat} {τ τ0 : Tau} {v0 : Option Value} (own : String) (ho : y.cls = own)
    (hy : plainName y.cls = true) (hL : (lg_sl As).length ≤ maxL)
    (body : ∀ (p : Program) (e : Env) (s : State) (m : MethodId) (args : Array Value) (below : List Frame) (meth : Method) (c : Code) (A : Nat → Prop) (ls : Array Slot) (Rm : Room) (Q : State → Prop),
      Bd D cA st p s m args meth c b maxL own ret A → Rm.frames = fr ∧ Rm.locals = lo → Q = MQ below (KPost Λ n D cA ad A (fun v _ τ' => v = v0 ∧ τ' = τ0)) args s 1 Sn A → Rm.cells = 1 ∧ Rm.slots = Sn → Wd Λ n D cA ad A s a τ s.heap [] → lv_has ls maxL (lv_args 0 As) →
      W p l e Rm s m args below meth c s.heap [] 0 0 Q (F0 m 0 ls [])) :
    KA Λ n D cA st ad l y b maxL ret fr lo Sn As a τ v0 τ0 := by
  subst ho
  exact KC.of hy hL (fun p e s m args below meth c A ls E hw hl _ => body p e s m args below meth c A ls _ _ E ⟨rfl, rfl⟩ rfl ⟨rfl, rfl⟩ hw hl)
end KAd
section KAr
variable {p : Program} {l : Launch} {e : Env} {R : Room} {s : State} {m : MethodId} {args : Array Value} {below : List Frame} {meth : Method} {c : Code} {H : Heap} {locs : List Loc} {Q : State → Prop}
variable {Λ : Lay} {n : Nat} {D : va_G} {cA : Nat → ClassId} {st ad : Nat → Nat} {cc : ByteArray} {nL : Nat} {own : String} {ret : Option FieldType} {A : Nat → Prop} {a : Nat} {τ : Tau} {pc : Nat} {ls : Array Slot} {rest : List Value} {Sn : Nat}
theorem ka_cnt (h : R.cells = 1 ∧ R.slots = Sn) : 1 ≤ R.cells ∧ Sn ≤ R.slots := ⟨Nat.le_of_eq h.1.symm, Nat.le_of_eq h.2.symm⟩
theorem ka_iret {v : Int32} {v0 : Option Value} {τ0 : Tau} (E : Bd D cA st p s m args meth c cc nL own (some .int) A) (hw : Wd Λ n D cA ad A s a τ H locs) (hQ : Q = MQ below (KPost Λ n D cA ad A (fun v _ τ' => v = v0 ∧ τ' = τ0)) args s 1 Sn A) (hdg : decode cc pc = .ok (.ireturn, 1)) (hv : some (.int v) = v0) (ht : τ = τ0) :
    W p l e R s m args below meth c H locs 1 Sn Q (F0 m pc ls [.int v]) := by
  rw [hQ]; exact ks_iret E hw hdg ⟨hv, ht⟩
theorem ka_vret {τ0 : Tau} (E : Bd D cA st p s m args meth c cc nL own none A) (hw : Wd Λ n D cA ad A s a τ H locs) (hQ : Q = MQ below (KPost Λ n D cA ad A (fun v _ τ' => v = none ∧ τ' = τ0)) args s 1 Sn A) (hdg : decode cc pc = .ok (.return_, 1)) (ht : τ = τ0) :
    W p l e R s m args below meth c H locs 1 Sn Q (F0 m pc ls []) := by
  rw [hQ]; exact ks_vret E hw hdg ⟨rfl, ht⟩
theorem ka_aret {C : String} {v : Value} {v0 : Option Value} {τ0 : Tau} (E : Bd D cA st p s m args meth c cc nL own (some (.object C)) A) (hw : Wd Λ n D cA ad A s a τ H locs) (hQ : Q = MQ below (KPost Λ n D cA ad A (fun v _ τ' => v = v0 ∧ τ' = τ0)) args s 1 Sn A) (hz : v = .null ∨ ∃ q, v = .ref q) (hdg : decode cc pc = .ok (.areturn, 1)) (hv : some v = v0) (ht : τ = τ0) :
    W p l e R s m args below meth c H locs 1 Sn Q (F0 m pc ls [v]) := by
  rw [hQ]; exact ks_aret E hw hz hdg ⟨hv, ht⟩
theorem ka_V {y : MethodName} {b : ByteArray} {maxL np fr lo idx : Nat} {rt : Option FieldType} {v0 : Option Value} {τ0 : Tau} (E : Bd D cA st p s m args meth c cc nL own ret A) (hw : Wd Λ n D cA ad A s a τ H locs) (hls : ls.size = nL) (hc : kCv own idx y b maxL rt np) (k : Nat) {ci : Nat} {ts : List Nat} (hk : k < n) (hΛ : Λ k = (0, ci, ts)) {T : u_T} {N : Nat} (hci : classes[ci]? = some (y.cls, T, N))
    (As : List Value) (hM : KA Λ n D cA st ad l y b maxL rt fr lo Sn (.ref (adr ad a k) :: As) a τ v0 τ0)
    (hn : As.length = np) (hR : fr + 1 ≤ R.frames ∧ 8 + (maxL + 11) + lo ≤ R.locals) (hC : R.cells = 1 ∧ R.slots = Sn) (hcat : (rest.map fun v => v.category).sum ≤ 8) {st0 : List Value} (hst : st0 = As.reverse ++ .ref (adr ad a k) :: rest) (hdg : decode cc pc = .ok (.invokevirtual idx, 3))
    (kk : ∀ a' H1 locs1, Wd Λ n D cA ad A s a' τ0 H1 locs1 → W p l e R s m args below meth c H1 locs1 1 Sn Q (F0 m (pc + 3) ls (v0.toList ++ rest))) : W p l e R s m args below meth c H locs 0 0 Q (F0 m pc ls st0) :=
  ks_callV E hw hls hc k hk hΛ hci As hM hn hR (by rw [hC.1, hC.2]; omega) hcat hst hdg (fun v a' τ' H1 locs1 hp hw1 => by
    obtain ⟨h1, h2⟩ := hp; subst h1; subst h2
    rw [Nat.zero_add, Nat.zero_add]
    exact kk a' H1 locs1 hw1)
theorem va_RA_char {U : State} {c1 c2 : ClassId} (h1 : va_RA U c1 .char) (h2 : va_RA U c2 .char) : c1 = c2 := Option.some.inj (h1.symm.trans h2)
theorem lay_no28 : ∀ k, k < 29 → k ≠ 17 → 28 ∉ (ΛX k).2.2 := by decide +kernel
theorem ent_sN {cA : Nat → ClassId} {ad : Nat → Nat} {a q : Nat} {τ : Tau} {x : Int32} {k : Nat} (hk : k < 29) (h17 : k ≠ 17) (h26 : k ≠ 26) : ent ΛX cA ad q (sN τ x) k = ent ΛX cA ad a τ k := by
  rw [ent_c (τ := τ) (τ' := sN τ x) (fun i => by rw [tI_sN]; simp [h26]) (fun _ => rfl) (by funext i; rw [tA_sN]; simp [h26]) rfl]
  have h := lay_no28 k hk h17
  unfold ent
  generalize ΛX k = z at h
  obtain ⟨g, ci, ts⟩ := z
  match g with
  | 0 => simp only [entOf]; rw [flds_a ts 0 h]
  | 1 => rfl
  | 2 => rfl
  | g + 3 => rfl
theorem ks_newMarks (E : Bd D cA st p s m args meth c cc nL own ret A) (hw : Wd ΛX 29 D cA ad A s a τ H locs) {x : Int32} {idx : Nat} (hx0 : ¬ (x < 0 ∨ 1000000 ≤ x.toNatClampNeg)) (hSn : x.toNatClampNeg ≤ Sn) (hC : R.cells = 1 ∧ R.slots = Sn)
    (hac : Cond.arrayClass .char ∈ Gd) (hlk : Cond.fieldLink own idx (TX0 5).1 (TX0 5).2.1 (TX0 5).2.2.1 ∈ Gd) (d1 : decode cc pc = .ok (.newarray .char, 2)) (d2 : decode cc (pc + 2) = .ok (.putfield idx, 3))
    (kk : ∀ a' H1 locs1, Wd ΛX 29 D cA ad A s a' (sN τ x) H1 locs1 → W p l e R s m args below meth c H1 locs1 1 Sn Q (F0 m (pc + 5) ls rest)) : W p l e R s m args below meth c H locs 0 0 Q (F0 m pc ls (.int x :: .ref (adr ad a 17) :: rest)) := by
  obtain ⟨hx, hb, hml, hown, hts, hK, hZ, hN, hA, -⟩ := id E
  obtain ⟨hP, hD, hS⟩ := hw
  have hlt : x.toNatClampNeg < 1000000 := Nat.not_le.mp fun z => hx0 (Or.inr z)
  refine va_newa (atype := .char) (a0 := (x.toNatClampNeg, .inl (fun _ => 0))) (N' := x.toNatClampNeg) hx hb (hts _ hac) rfl hK hP hD hS hA (fun _ => rfl) (fun z => hx0 (Or.inl z)) rfl (by show x.toNatClampNeg * 2 ≤ _; omega) (by rw [hC.1]; omega) (by rw [hC.2]; omega) d1 (fun q c2 H1 hK1 hP1 hD1 hS1 => ?_)
  have hc2 : c2 = cA 2 := va_RA_char (hK1.2 4 (c2, .char) rfl).2 (hK1.2 2 (cA 2, .char) rfl).2
  subst hc2
  have hlen : (wl ΛX 29 cA ad a τ).length = 29 := by simp [wl]
  have he : ((wl ΛX 29 cA ad a τ) ++ [(q, (.inl (cA 2, (x.toNatClampNeg, .inl (fun _ => 0))) : va_E))])[17]? = some (adr ad a 17, .inr (0, flds ad a τ 17 0 [20, 24, 25, 26, 27, 28, 0, 0, 0, 0])) := by
    rw [List.getElem?_append_left (by rw [hlen]; omega), wl_get (by omega)]
    rfl
  refine va_put (ty := .array .char) hx hb hts inG0 tyX0 tyX0_ok nmX0 hown hK1 hP1 hD1 hS1 17 he rfl 5 (by decide) (hts _ hlk) (fun _ h => h) rfl (by decide +kernel) rfl rfl (Nat.le_of_ble_eq_true rfl) d2 (fun H2 locs2 hP2 hD2 hS2 => ?_)
  have hg : ∀ (k : Nat) (r : Nat × va_E), (wl ΛX 29 cA ad q (sN τ x))[k]? = some r → (((wl ΛX 29 cA ad a τ) ++ [(q, (.inl (cA 2, (x.toNatClampNeg, .inl (fun _ => 0))) : va_E))]).set 17 (adr ad a 17, .inr (0, (flds ad a τ 17 0 [20, 24, 25, 26, 27, 28, 0, 0, 0, 0]).set 5 (.ref q))))[if k = 26 then 29 else k]? = some r := by
    intro k r hk
    have hkl : k < 29 := by
      have := (List.getElem?_eq_some_iff.mp hk).1
      simpa [wl] using this
    rw [wl_get hkl] at hk
    by_cases h26 : k = 26
    · subst h26
      rw [if_pos rfl, List.getElem?_set_ne (by omega), List.getElem?_append_right (by rw [hlen]; omega), hlen]
      rw [← hk]
      rfl
    · rw [if_neg h26]
      by_cases h17 : k = 17
      · subst h17
        rw [List.getElem?_set_self (by rw [List.length_append, hlen]; omega)]
        rw [← hk]
        rfl
      · rw [List.getElem?_set_ne (Ne.symm h17), List.getElem?_append_left (by rw [hlen]; omega), wl_get hkl, ← hk, ent_sN (a := a) hkl h17 h26]
        simp [adr, h26]
  refine W.widen (k := 1) (n := Sn) (by omega) (by omega) ?_
  refine kk q H2 locs2 ⟨hP2.by _ hg, hD2.by _ hg (fun i j hi hj e => ?_), hS2⟩
  have hi' : i < 29 := by simpa [wl] using hi
  have hj' : j < 29 := by simpa [wl] using hj
  by_cases h1 : i = 26 <;> by_cases h2 : j = 26 <;> simp only [h1, h2, if_true, if_false] at e <;> omega
end KAr
theorem mk_le {τ : Tau} {Sn : Nat} (h : mkNeed τ ≤ Sn) (c : ¬ tI τ 17 8 ≤ nI (tI τ 26 0).toNatClampNeg) : (tI τ 17 8).toNatClampNeg ≤ Sn := by
  rw [mkNeed, if_neg c] at h
  exact h
