/-! THE CLAIM OUT OF ONE WALK OF THE LAW'S BODY. Your part is whole_start (and what it stands on); all else here is the same for every law, but numbers. -/
def R_law : String := "KindSayingsLaw"
def lw_P (b : Addr) (xs : List Int32) (args : Array Value) (s : State) : Prop := args = #[.ref b] ∧ s.IntsAt b xs ∧ xs.length ≤ 3072 ∧ (Jvm.Cond.and given_1 narrow_1).before args s = true
def lw_Q (_ : Array Value) (s : State) (o : Outcome) (t : State) : Prop := o = .returned (some (.int 1)) ∧ Framed s o t [] 600000 7302250
def lw_Z (below : List Frame) (a : Array Value) (s : State) : State → Prop := fun t => ∃ o, t.status = .running ∧ Ended t below o ∧ lw_Q a s o t
/-- the law's own end, with 1 on the stack, nothing written that was there before, its room as the claim has it -/
theorem lw_ret {p : Program} {l : Launch} {e : Env} {s : State} {m : MethodId} {below : List Frame} {meth : Method} {c : Code} {b : Nat} (hx : p.tables.exec = Jvm.exec) (hb : c.code = code) (hr : meth.sig.returnType = ret) (hlocks : meth.locks = false) {pc : Nat} {H : Heap} {ls : Array Slot} (hdg : decode code pc = .ok (.ireturn, 1)) : W p l e room_1 s m #[Value.ref b] below meth c H [] 600000 7302250 (lw_Z below #[Value.ref b] s) (F0 m pc ls [.int 1]) := by
  intro T hT X
  obtain ⟨fs, hret, hrun, hended, hW, hframe⟩ := X.leave (v := some (.int 1)) (hlocks := hlocks) (fun h => by rw [hr] at h; cases h)
  have hmeth' : T.vm.method? m = some meth := X.method'
  refine ⟨T.setFrames fs, ?_, .returned (some (.int 1)), hrun, hended, rfl, ⟨_, rfl⟩, hW, hframe⟩
  jvm_step X.here [X.here.top, hx, hb, hdg, hmeth', hr, ret, narrow_b1]
  (try refine ⟨rfl, ?_⟩); (try refine ⟨rfl, ?_⟩)
  first | (intro acts; rw [hret _ acts rfl rfl rfl]) | rw [hret _ _ rfl rfl rfl]
  exact Steps.refl _
/-- what holds at the law's entry: the machine, the code, the tables' words (any of lw_tbl by 'hts w (by decide +kernel)'), the script of L ints xs at the cell b, what the Statement gives of the start (any of its parts by flat_of_before) -/
def lw_At (p : Program) (s : State) (m : MethodId) (meth : Method) (c : Code) (b L : Nat) (xs : Nat → Int32) : Prop :=
  p.tables.exec = Jvm.exec ∧ c.code = code ∧ meth.sig.returnType = ret ∧ c.maxLocals = 4 ∧ s.vm.findClass R_law = some m.cls ∧ (∀ w ∈ lw_tbl, w.before #[Value.ref b] s = true) ∧ va_X b L xs s s.heap ∧ b < s.heap.size ∧ meth.locks = false ∧ (Jvm.Cond.and given_1 narrow_1).before #[Value.ref b] s = true
-- ===== MINE =====
/-! the law from its entry; the claim (written by wip/tools/law3.py; its first and last rows are the printed skeleton) -/
theorem Tb_1 (i : Nat) {w : Cond} (h : tables_1_1[i]? = some w) : w ∈ lw_tbl := List.mem_append_right _ (List.mem_append_left _ (List.mem_of_getElem? h))
theorem Tb_2 (i : Nat) {w : Cond} (h : tables_1_2[i]? = some w) : w ∈ lw_tbl := List.mem_append_right _ (List.mem_append_right _ (List.mem_append_left _ (List.mem_of_getElem? h)))
theorem Tb_3 (i : Nat) {w : Cond} (h : tables_1_3[i]? = some w) : w ∈ lw_tbl := List.mem_append_right _ (List.mem_append_right _ (List.mem_append_right _ (List.mem_append_left _ (List.mem_of_getElem? h))))
theorem Tb_4 (i : Nat) {w : Cond} (h : tables_1_4[i]? = some w) : w ∈ lw_tbl := List.mem_append_right _ (List.mem_append_right _ (List.mem_append_right _ (List.mem_append_right _ (List.mem_append_left _ (List.mem_of_getElem? h)))))
theorem Tb_5 (i : Nat) {w : Cond} (h : tables_1_5[i]? = some w) : w ∈ lw_tbl := List.mem_append_right _ (List.mem_append_right _ (List.mem_append_right _ (List.mem_append_right _ (List.mem_append_right _ ((List.mem_of_getElem? h))))))
theorem nest_m : ∀ q ∈ nestM, Cond.methodLinkNest q.1 q.2.1 q.2.2 "KindSayings" ∈ lw_tbl := List.forall_mem_cons.mpr ⟨Tb_1 24 rfl, List.forall_mem_cons.mpr ⟨Tb_1 30 rfl, List.forall_mem_cons.mpr ⟨Tb_1 65 rfl, List.forall_mem_cons.mpr ⟨Tb_1 129 rfl, List.forall_mem_cons.mpr ⟨Tb_1 155 rfl, List.forall_mem_cons.mpr ⟨Tb_1 158 rfl, List.forall_mem_cons.mpr ⟨Tb_1 197 rfl, List.forall_mem_cons.mpr ⟨Tb_1 227 rfl, List.forall_mem_cons.mpr ⟨Tb_1 236 rfl, List.forall_mem_cons.mpr ⟨Tb_2 3 rfl, List.forall_mem_cons.mpr ⟨Tb_2 188 rfl, List.forall_mem_cons.mpr ⟨Tb_2 189 rfl, List.forall_mem_cons.mpr ⟨Tb_2 194 rfl, List.forall_mem_cons.mpr ⟨Tb_3 110 rfl, List.forall_mem_cons.mpr ⟨Tb_3 145 rfl, fun _ h => absurd h List.not_mem_nil⟩⟩⟩⟩⟩⟩⟩⟩⟩⟩⟩⟩⟩⟩⟩
theorem nest_f : ∀ q ∈ nestF, Cond.fieldLinkNest q.1 q.2.1 q.2.2.1 q.2.2.2.1 q.2.2.2.2 "KindSayings" ∈ lw_tbl := List.forall_mem_cons.mpr ⟨Tb_2 135 rfl, List.forall_mem_cons.mpr ⟨Tb_3 135 rfl, List.forall_mem_cons.mpr ⟨Tb_3 141 rfl, List.forall_mem_cons.mpr ⟨Tb_3 143 rfl, fun _ h => absurd h List.not_mem_nil⟩⟩⟩⟩
theorem t_eqi {args : Array Value} {s : State} {tm : Term} {z : Int32} (h : (Cond.eq tm (.int z)).before args s = true) : tm.eval args s none [] s = some (.int z) := by
  cases hv : tm.eval args s none [] s with
  | none => simp [Cond.before, Cond.holds, Cond.value, hv] at h
  | some w =>
    have hz : (Term.int z).eval args s none [] s = some (.int z) := rfl
    simp only [Cond.before, Cond.holds, Cond.value, hv, hz] at h
    cases w <;> simp_all
theorem t_eql {args : Array Value} {s : State} {tm : Term} {z : Int64} (h : (Cond.eq tm (.long z)).before args s = true) : tm.eval args s none [] s = some (.long z) := by
  cases hv : tm.eval args s none [] s with
  | none => simp [Cond.before, Cond.holds, Cond.value, hv] at h
  | some w =>
    have hz : (Term.long z).eval args s none [] s = some (.long z) := rfl
    simp only [Cond.before, Cond.holds, Cond.value, hv, hz] at h
    cases w <;> simp_all
set_option maxRecDepth 100000 in
theorem z_0 {s : State} {b : Nat} (hts : ∀ w ∈ lw_tbl, w.before #[Value.ref b] s = true) (hgv : (Jvm.Cond.and given_1 narrow_1).before #[Value.ref b] s = true) : ∃ t, va_Z "KindSayings" "WORDS" "[J" (.ref t) (LA s) s s.heap ∧ va_T .long t 9 (fun j => .long (vWORDS j)) (LA s) s s.heap := by
  have hs := flat_of_before _ hgv
  have hA : ∀ a : Nat, a < s.heap.size → ¬ LA s a := fun a h => Nat.not_le.mpr h
  obtain ⟨t, ht, hT⟩ := va_Tof (tm := .static "KindSayings" "WORDS" "[J") (ty := .long) (N := 9) (f := fun j => .long (vWORDS j)) (A := LA s) (by decide) (hs _ (by decide +kernel)) (t_eqi (hs _ (by decide +kernel))) (fun j hj => by
    have : j = 0 ∨ j = 1 ∨ j = 2 ∨ j = 3 ∨ j = 4 ∨ j = 5 ∨ j = 6 ∨ j = 7 ∨ j = 8 := by omega
    rcases this with rfl | rfl | rfl | rfl | rfl | rfl | rfl | rfl | rfl <;> exact t_eql (hs _ (by decide +kernel))) hA
  exact ⟨t, va_Zof (hts _ (Tb_2 136 rfl)) (hts _ (Gd_tbl _ w_66)) ht hA, hT⟩
set_option maxRecDepth 100000 in
theorem z_1 {s : State} {b : Nat} (hts : ∀ w ∈ lw_tbl, w.before #[Value.ref b] s = true) (hgv : (Jvm.Cond.and given_1 narrow_1).before #[Value.ref b] s = true) : ∃ t, va_Z "KindSayings" "MOOD_SHOWS" "[I" (.ref t) (LA s) s s.heap ∧ va_T .int t 9 (fun j => .int (vSHOWS j)) (LA s) s s.heap := by
  have hs := flat_of_before _ hgv
  have hA : ∀ a : Nat, a < s.heap.size → ¬ LA s a := fun a h => Nat.not_le.mpr h
  obtain ⟨t, ht, hT⟩ := va_Tof (tm := .static "KindSayings" "MOOD_SHOWS" "[I") (ty := .int) (N := 9) (f := fun j => .int (vSHOWS j)) (A := LA s) (by decide) (hs _ (by decide +kernel)) (t_eqi (hs _ (by decide +kernel))) (fun j hj => by
    have : j = 0 ∨ j = 1 ∨ j = 2 ∨ j = 3 ∨ j = 4 ∨ j = 5 ∨ j = 6 ∨ j = 7 ∨ j = 8 := by omega
    rcases this with rfl | rfl | rfl | rfl | rfl | rfl | rfl | rfl | rfl <;> exact t_eqi (hs _ (by decide +kernel))) hA
  exact ⟨t, va_Zof (hts _ (Tb_3 136 rfl)) (hts _ (Gd_tbl _ w_66)) ht hA, hT⟩
set_option maxRecDepth 100000 in
theorem z_2 {s : State} {b : Nat} (hts : ∀ w ∈ lw_tbl, w.before #[Value.ref b] s = true) (hgv : (Jvm.Cond.and given_1 narrow_1).before #[Value.ref b] s = true) : ∃ t, va_Z "KindSayings" "MOOD_FIRST" "[I" (.ref t) (LA s) s s.heap ∧ va_T .int t 9 (fun j => .int (vFIRST j)) (LA s) s s.heap := by
  have hs := flat_of_before _ hgv
  have hA : ∀ a : Nat, a < s.heap.size → ¬ LA s a := fun a h => Nat.not_le.mpr h
  obtain ⟨t, ht, hT⟩ := va_Tof (tm := .static "KindSayings" "MOOD_FIRST" "[I") (ty := .int) (N := 9) (f := fun j => .int (vFIRST j)) (A := LA s) (by decide) (hs _ (by decide +kernel)) (t_eqi (hs _ (by decide +kernel))) (fun j hj => by
    have : j = 0 ∨ j = 1 ∨ j = 2 ∨ j = 3 ∨ j = 4 ∨ j = 5 ∨ j = 6 ∨ j = 7 ∨ j = 8 := by omega
    rcases this with rfl | rfl | rfl | rfl | rfl | rfl | rfl | rfl | rfl <;> exact t_eqi (hs _ (by decide +kernel))) hA
  exact ⟨t, va_Zof (hts _ (Tb_3 142 rfl)) (hts _ (Gd_tbl _ w_66)) ht hA, hT⟩
set_option maxRecDepth 100000 in
theorem z_3 {s : State} {b : Nat} (hts : ∀ w ∈ lw_tbl, w.before #[Value.ref b] s = true) (hgv : (Jvm.Cond.and given_1 narrow_1).before #[Value.ref b] s = true) : ∃ t, va_Z "KindSayings" "MOOD_SECOND" "[I" (.ref t) (LA s) s s.heap ∧ va_T .int t 9 (fun j => .int (vSECOND j)) (LA s) s s.heap := by
  have hs := flat_of_before _ hgv
  have hA : ∀ a : Nat, a < s.heap.size → ¬ LA s a := fun a h => Nat.not_le.mpr h
  obtain ⟨t, ht, hT⟩ := va_Tof (tm := .static "KindSayings" "MOOD_SECOND" "[I") (ty := .int) (N := 9) (f := fun j => .int (vSECOND j)) (A := LA s) (by decide) (hs _ (by decide +kernel)) (t_eqi (hs _ (by decide +kernel))) (fun j hj => by
    have : j = 0 ∨ j = 1 ∨ j = 2 ∨ j = 3 ∨ j = 4 ∨ j = 5 ∨ j = 6 ∨ j = 7 ∨ j = 8 := by omega
    rcases this with rfl | rfl | rfl | rfl | rfl | rfl | rfl | rfl | rfl <;> exact t_eqi (hs _ (by decide +kernel))) hA
  exact ⟨t, va_Zof (hts _ (Tb_3 144 rfl)) (hts _ (Gd_tbl _ w_66)) ht hA, hT⟩
theorem ci_L_9 : kCi "KindSayingsLaw" 9 yX6_init cX6_init 2 0 := ⟨w_79, w_80, w_66, w_81, rfl, by decide, by decide +kernel⟩
theorem ci_L_12 : kCi "KindSayingsLaw" 12 yX7_init cX7_init 1 0 := ⟨w_754, w_755, w_73, w_756, rfl, by decide, by decide +kernel⟩
set_option maxHeartbeats 4000000 in
set_option maxRecDepth 100000 in
theorem law_loop {p : Program} {e : Env} {s : State} {m : MethodId} {below : List Frame} {meth : Method} {c : Code} (l : Launch) {b L : Nat} {xs : Nat → Int32} (hL : L ≤ 3072) (C0 : lw_At p s m meth c b L xs) {D : va_G} {cA : Nat → ClassId} {st adx adm : Nat → Nat} (E : Bd D cA st p s m #[Value.ref b] meth c code 4 "KindSayingsLaw" ret (LA s)) :
    ∀ (n i ax : Nat) (τx : Tau) (am : Nat) (τm : Tau) (K N md ml len : Nat) (d : Nat → Sd) (cw tx : Nat → Nat) (H : Heap) (locs : List Loc) (ls : Array Slot) (cells slots : Nat), L ≤ i + 6 * n + 5 → i ≤ 4000 → Rel τx τm K N md ml d cw len tx → GW D (LA s) s (wl ΛX 29 cA adx ax τx ++ wl ΛM 12 cA adm am τm) H locs →
      lv_has ls 4 [(0, .ref b), (1, .ref (adr adx ax 0)), (2, .ref (adr adm am 0)), (3, .int (nI i))] → cells + n ≤ 600000 → slots ≤ 50000 + Fs ml → W p l e room_1 s m #[Value.ref b] below meth c H locs cells slots (lw_Z below #[Value.ref b] s) (F0 m 18 ls []) := by
  obtain ⟨hx, hb, hret, hml, hown, hts, hX, hbl, hlocks, hgv⟩ := id C0
  have hbA : ¬ LA s b := Nat.not_le.mpr hbl
  have fin : ∀ (ml : Nat) (H : Heap) (locs : List Loc) (ls : Array Slot) (cells slots : Nat), (∀ q ∈ locs, s.heap.size ≤ q.base) → cells ≤ 600000 → slots ≤ 50000 + Fs ml → W p l e room_1 s m #[Value.ref b] below meth c H locs cells slots (lw_Z below #[Value.ref b] s) (F0 m 882 ls []) := by
    intro ml H locs ls cells slots h1 h2 h3
    have hF := Fs_max ml
    refine va_forget h1 ?_
    refine W.widen (k := 600000) (n := 7302250) h2 (by omega) ?_
    refine lv_iconst (v := 1) hx hb dL_882 (by decide) ?_
    exact lw_ret hx hb hret hlocks dL_883
  have body : ∀ (i ax : Nat) (τx : Tau) (am : Nat) (τm : Tau) (K N md ml len : Nat) (d : Nat → Sd) (cw tx : Nat → Nat) (H : Heap) (locs : List Loc) (ls : Array Slot) (cells slots : Nat), i ≤ 4000 → Rel τx τm K N md ml d cw len tx → GW D (LA s) s (wl ΛX 29 cA adx ax τx ++ wl ΛM 12 cA adm am τm) H locs →
      lv_has ls 4 [(0, .ref b), (1, .ref (adr adx ax 0)), (2, .ref (adr adm am 0)), (3, .int (nI i))] → cells ≤ 600000 → slots ≤ 50000 + Fs ml → (i + 6 ≤ L → cells + 1 ≤ 600000 ∧ NX p l e s m b below meth c D cA adx adm i ml cells slots (lw_Z below #[Value.ref b] s)) → W p l e room_1 s m #[Value.ref b] below meth c H locs cells slots (lw_Z below #[Value.ref b] s) (F0 m 18 ls []) := by
    intro i ax τx am τm K N md ml len d cw tx H locs ls cells slots hi hr hw hl hcb hsb next
    refine lv_iload_n hx hb dL_18 rfl (lv_at hl 3 rfl) ?_
    refine lv_aload_n hx hb dL_19 rfl (lv_at hl 0 rfl) ?_
    refine va_slen hx hb hX hbl hbA hw.2.2 dL_20 ?_
    refine lv_bipush (v := 6) hx hb dL_21 (by decide) ?_
    refine lv_isub hx hb dL_23 ?_
    have hsub : ∀ x : Int32, x = Int32.ofNat L - 6 → (x < nI i ↔ L < i + 6) := by
      intro x ex
      have e : x.toInt = (L : Int) - 6 := by
        rw [ex]
        exact pk_sub_toInt (a := L) (b := 6) (by omega) (by omega)
      rw [i32_lt, e, nI_toInt (by omega)]
      omega
    refine lv_icmp_gt (tgt := 882) hx hb dL_24 (by decide) (fun _ => ?_) (fun z => ?_)
    · exact fin ml _ _ _ _ _ hw.2.2.2.2 hcb hsb
    · have hi6 : i + 6 ≤ L := by
        by_cases q : L < i + 6
        · exact absurd ((hsub _ rfl).mpr q) z
        · omega
      obtain ⟨hc1, nx⟩ := next hi6
      refine lv_aload_n hx hb dL_27 rfl (lv_at hl 0 rfl) ?_
      refine lv_iload_n hx hb dL_28 rfl (lv_at hl 3 rfl) ?_
      refine va_sld hx hb hX hbl hbA hw.2.2 (nI_in (show i < L by omega) (by omega)) dL_29 ?_
      refine lv_bipush (v := 31) hx hb dL_30 (by decide) ?_
      refine lv_iand hx hb dL_32 ?_
      refine lv_topi (fun v ev => ?_)
      by_cases c0 : v = (0 : Int32)
      · refine lv_tableIn (tgt := 144) hx hb dL_33 (by rw [c0]; decide) (by rw [c0]; decide) (by rw [c0]; rfl) (by decide) ?_
        exact lc_0 E hX hbl hr hw hl hi6 hL (by omega) hsb nx
      by_cases c1 : v = (1 : Int32)
      · refine lv_tableIn (tgt := 167) hx hb dL_33 (by rw [c1]; decide) (by rw [c1]; decide) (by rw [c1]; rfl) (by decide) ?_
        exact lc_1 E hX hbl hr hw hl hi6 hL (by omega) hsb nx
      by_cases c2 : v = (2 : Int32)
      · refine lv_tableIn (tgt := 190) hx hb dL_33 (by rw [c2]; decide) (by rw [c2]; decide) (by rw [c2]; rfl) (by decide) ?_
        exact lc_2 E hX hbl hr hw hl hi6 hL (by omega) hsb nx
      by_cases c3 : v = (3 : Int32)
      · refine lv_tableIn (tgt := 203) hx hb dL_33 (by rw [c3]; decide) (by rw [c3]; decide) (by rw [c3]; rfl) (by decide) ?_
        exact lc_3 E hX hbl hr hw hl hi6 hL (by omega) hsb nx
      by_cases c4 : v = (4 : Int32)
      · refine lv_tableIn (tgt := 236) hx hb dL_33 (by rw [c4]; decide) (by rw [c4]; decide) (by rw [c4]; rfl) (by decide) ?_
        exact lc_4 E hX hbl hr hw hl hi6 hL (by omega) hsb nx
      by_cases c5 : v = (5 : Int32)
      · refine lv_tableIn (tgt := 259) hx hb dL_33 (by rw [c5]; decide) (by rw [c5]; decide) (by rw [c5]; rfl) (by decide) ?_
        exact lc_5 E hX hbl hr hw hl hi6 hL (by omega) hsb nx
      by_cases c6 : v = (6 : Int32)
      · refine lv_tableIn (tgt := 292) hx hb dL_33 (by rw [c6]; decide) (by rw [c6]; decide) (by rw [c6]; rfl) (by decide) ?_
        exact lc_6 E hX hbl hr hw hl hi6 hL (by omega) hsb nx
      by_cases c7 : v = (7 : Int32)
      · refine lv_tableIn (tgt := 355) hx hb dL_33 (by rw [c7]; decide) (by rw [c7]; decide) (by rw [c7]; rfl) (by decide) ?_
        exact lc_7 E hX hbl hr hw hl hi6 hL (by omega) hsb nx
      by_cases c8 : v = (8 : Int32)
      · refine lv_tableIn (tgt := 368) hx hb dL_33 (by rw [c8]; decide) (by rw [c8]; decide) (by rw [c8]; rfl) (by decide) ?_
        exact lc_8 E hX hbl hr hw hl hi6 hL (by omega) hsb nx
      by_cases c9 : v = (9 : Int32)
      · refine lv_tableIn (tgt := 391) hx hb dL_33 (by rw [c9]; decide) (by rw [c9]; decide) (by rw [c9]; rfl) (by decide) ?_
        exact lc_9 E hX hbl hr hw hl hi6 hL (by omega) hsb nx
      by_cases c10 : v = (10 : Int32)
      · refine lv_tableIn (tgt := 424) hx hb dL_33 (by rw [c10]; decide) (by rw [c10]; decide) (by rw [c10]; rfl) (by decide) ?_
        exact lc_10 E hX hbl hr hw hl hi6 hL (by omega) hsb nx
      by_cases c11 : v = (11 : Int32)
      · refine lv_tableIn (tgt := 447) hx hb dL_33 (by rw [c11]; decide) (by rw [c11]; decide) (by rw [c11]; rfl) (by decide) ?_
        exact lc_11 E hX hbl hr hw hl hi6 hL (by omega) hsb nx
      by_cases c12 : v = (12 : Int32)
      · refine lv_tableIn (tgt := 480) hx hb dL_33 (by rw [c12]; decide) (by rw [c12]; decide) (by rw [c12]; rfl) (by decide) ?_
        exact lc_12 E hX hbl hr hw hl hi6 hL (by omega) hsb nx
      by_cases c13 : v = (13 : Int32)
      · refine lv_tableIn (tgt := 513) hx hb dL_33 (by rw [c13]; decide) (by rw [c13]; decide) (by rw [c13]; rfl) (by decide) ?_
        exact lc_13 E hX hbl hr hw hl hi6 hL (by omega) hsb nx
      by_cases c14 : v = (14 : Int32)
      · refine lv_tableIn (tgt := 556) hx hb dL_33 (by rw [c14]; decide) (by rw [c14]; decide) (by rw [c14]; rfl) (by decide) ?_
        exact lc_14 E hX hbl hr hw hl hi6 hL (by omega) hsb nx
      by_cases c15 : v = (15 : Int32)
      · refine lv_tableIn (tgt := 579) hx hb dL_33 (by rw [c15]; decide) (by rw [c15]; decide) (by rw [c15]; rfl) (by decide) ?_
        exact lc_15 E hX hbl hr hw hl hi6 hL (by omega) hsb nx
      by_cases c16 : v = (16 : Int32)
      · refine lv_tableIn (tgt := 612) hx hb dL_33 (by rw [c16]; decide) (by rw [c16]; decide) (by rw [c16]; rfl) (by decide) ?_
        exact lc_16 E hX hbl hr hw hl hi6 hL (by omega) hsb nx
      by_cases c17 : v = (17 : Int32)
      · refine lv_tableIn (tgt := 635) hx hb dL_33 (by rw [c17]; decide) (by rw [c17]; decide) (by rw [c17]; rfl) (by decide) ?_
        exact lc_17 E hX hbl hr hw hl hi6 hL (by omega) hsb nx
      by_cases c18 : v = (18 : Int32)
      · refine lv_tableIn (tgt := 658) hx hb dL_33 (by rw [c18]; decide) (by rw [c18]; decide) (by rw [c18]; rfl) (by decide) ?_
        exact lc_18 E hX hbl hr hw hl hi6 hL (by omega) hsb nx
      by_cases c19 : v = (19 : Int32)
      · refine lv_tableIn (tgt := 681) hx hb dL_33 (by rw [c19]; decide) (by rw [c19]; decide) (by rw [c19]; rfl) (by decide) ?_
        exact lc_19 E hX hbl hr hw hl hi6 hL (by omega) hsb nx
      by_cases c20 : v = (20 : Int32)
      · refine lv_tableIn (tgt := 704) hx hb dL_33 (by rw [c20]; decide) (by rw [c20]; decide) (by rw [c20]; rfl) (by decide) ?_
        exact lc_20 E hX hbl hr hw hl hi6 hL (by omega) hsb nx
      by_cases c21 : v = (21 : Int32)
      · refine lv_tableIn (tgt := 757) hx hb dL_33 (by rw [c21]; decide) (by rw [c21]; decide) (by rw [c21]; rfl) (by decide) ?_
        exact lc_21 E hX hbl hr hw hl hi6 hL (by omega) hsb nx
      by_cases c22 : v = (22 : Int32)
      · refine lv_tableIn (tgt := 820) hx hb dL_33 (by rw [c22]; decide) (by rw [c22]; decide) (by rw [c22]; rfl) (by decide) ?_
        exact lc_22 E hX hbl hr hw hl hi6 hL (by omega) hsb nx
      by_cases c23 : v = (23 : Int32)
      · refine lv_tableIn (tgt := 853) hx hb dL_33 (by rw [c23]; decide) (by rw [c23]; decide) (by rw [c23]; rfl) (by decide) ?_
        exact lc_23 E hX hbl hr hw hl hi6 hL (by omega) hsb nx
      refine lv_tableOut (tgt := 876) hx hb dL_33 (by have := ks_sw c0 (k := 0) (by decide); have := ks_sw c1 (k := 1) (by decide); have := ks_sw c2 (k := 2) (by decide); have := ks_sw c3 (k := 3) (by decide); have := ks_sw c4 (k := 4) (by decide); have := ks_sw c5 (k := 5) (by decide); have := ks_sw c6 (k := 6) (by decide); have := ks_sw c7 (k := 7) (by decide); have := ks_sw c8 (k := 8) (by decide); have := ks_sw c9 (k := 9) (by decide); have := ks_sw c10 (k := 10) (by decide); have := ks_sw c11 (k := 11) (by decide); have := ks_sw c12 (k := 12) (by decide); have := ks_sw c13 (k := 13) (by decide); have := ks_sw c14 (k := 14) (by decide); have := ks_sw c15 (k := 15) (by decide); have := ks_sw c16 (k := 16) (by decide); have := ks_sw c17 (k := 17) (by decide); have := ks_sw c18 (k := 18) (by decide); have := ks_sw c19 (k := 19) (by decide); have := ks_sw c20 (k := 20) (by decide); have := ks_sw c21 (k := 21) (by decide); have := ks_sw c22 (k := 22) (by decide); have := ks_sw c23 (k := 23) (by decide); omega) (by decide) ?_
      exact nx _ _ _ _ _ _ _ _ _ _ _ _ _ _ _ _ _ hr hw hl (Nat.le_succ _) (Nat.le_refl _)
  intro n
  induction n with
  | zero =>
    intro i ax τx am τm K N md ml len d cw tx H locs ls cells slots hn hi hr hw hl hcb hsb
    exact body i ax τx am τm K N md ml len d cw tx H locs ls cells slots hi hr hw hl hcb hsb (fun h => by omega)
  | succ n ih =>
    intro i ax τx am τm K N md ml len d cw tx H locs ls cells slots hn hi hr hw hl hcb hsb
    refine body i ax τx am τm K N md ml len d cw tx H locs ls cells slots hi hr hw hl (by omega) hsb (fun h6 => ⟨by omega, ?_⟩)
    intro ax1 τx1 am1 τm1 K1 N1 md1 ml1 len1 d1 cw1 tx1 H1 locs1 ls1 cells1 slots1 hr1 hw1 hl1 hc1 hs1
    refine lv_iinc (v := nI (i + 6)) (lv' := [(3, .int (nI (i + 6))), (0, .ref b), (1, .ref (adr adx ax1 0)), (2, .ref (adr adm am1 0))]) hx hb dL_876 hl1 (k := 3) rfl (by rw [← nI_add]; rfl) (by decide) rfl (fun ls hl => ?_)
    refine lv_goto (tgt := 18) hx hb dL_879 (by decide) ?_
    exact ih (i + 6) ax1 τx1 am1 τm1 K1 N1 md1 ml1 len1 d1 cw1 tx1 H1 locs1 ls cells1 slots1 (by omega) (by omega) hr1 hw1 (lv_sub hl [1, 2, 3, 0] rfl) (by omega) (by omega)
set_option maxHeartbeats 4000000 in
set_option maxRecDepth 100000 in
theorem whole_start {p : Program} {e : Env} {s : State} {m : MethodId} {below : List Frame} {meth : Method} {c : Code} (l : Launch) (hflags : l.flags = flags0) {b L : Nat} {xs : Nat → Int32} (hL : L ≤ 3072) (C0 : lw_At p s m meth c b L xs) : W p l e room_1 s m #[Value.ref b] below meth c s.heap [] 0 0 (lw_Z below #[Value.ref b] s) (entryFrame m ([Value.ref b] : List Value).toArray 4) := by
  obtain ⟨hx, hb, hret, hml, hown, hts, hX, hbl, hlocks, hgv⟩ := id C0
  obtain ⟨k0, i0, hk0⟩ := u_known (C := RX0) (T := TX0) (N := 10) (n := 10) hts inX0 (hts _ (Gd_tbl _ w_187))
  obtain ⟨k1, i1, hk1⟩ := u_known (C := RX1) (T := TX1) (N := 8) (n := 8) hts inX1 (hts _ (Gd_tbl _ w_261))
  obtain ⟨k2, i2, hk2⟩ := u_known (C := RX2) (T := TX2) (N := 6) (n := 6) hts inX2 (hts _ (Gd_tbl _ w_88))
  obtain ⟨k3, i3, hk3⟩ := u_known (C := RX3) (T := TX3) (N := 6) (n := 6) hts inX3 (hts _ (Gd_tbl _ w_129))
  obtain ⟨k4, i4, hk4⟩ := u_known (C := RX4) (T := TX4) (N := 7) (n := 7) hts inX4 (hts _ (Gd_tbl _ w_94))
  obtain ⟨k5, i5, hk5⟩ := u_known (C := RX5) (T := TX5) (N := 6) (n := 6) hts inX5 (hts _ (Gd_tbl _ w_193))
  obtain ⟨k6, i6, hk6⟩ := u_known (C := RX6) (T := TX6) (N := 8) (n := 8) hts inX6 (hts _ (Gd_tbl _ w_78))
  obtain ⟨k7, i7, hk7⟩ := u_known (C := RX7) (T := TX7) (N := 29) (n := 29) hts inX7 (hts _ (Gd_tbl _ w_753))
  obtain ⟨dC, dI, hKc⟩ : ∃ (dC : Nat → ClassId) (dI : Nat → Nat → Nat), ∀ (k : Nat) (q : vw_C), classes[k]? = some q → u_Kn s q.1 q.2.1 q.2.2 (dC k) (dI k) := by
    refine ⟨fun k => if k = 0 then k0 else if k = 1 then k1 else if k = 2 then k2 else if k = 3 then k3 else if k = 4 then k4 else if k = 5 then k5 else if k = 6 then k6 else k7, fun k => if k = 0 then i0 else if k = 1 then i1 else if k = 2 then i2 else if k = 3 then i3 else if k = 4 then i4 else if k = 5 then i5 else if k = 6 then i6 else i7, ?_⟩
    intro k q hq
    match k, hq with
    | 0, hq => cases hq; exact hk0
    | 1, hq => cases hq; exact hk1
    | 2, hq => cases hq; exact hk2
    | 3, hq => cases hq; exact hk3
    | 4, hq => cases hq; exact hk4
    | 5, hq => cases hq; exact hk5
    | 6, hq => cases hq; exact hk6
    | 7, hq => cases hq; exact hk7
    | k + 8, hq => simp [classes] at hq
  obtain ⟨c0, kA0, co0, f01, f02, f03⟩ := Cond.arrayClass_spec (hts _ (Gd_tbl _ w_126))
  obtain ⟨c1, kA1, co1, f11, f12, f13⟩ := Cond.arrayClass_spec (hts _ (Gd_tbl _ w_259))
  obtain ⟨c2, kA2, co2, f21, f22, f23⟩ := Cond.arrayClass_spec (hts _ (Gd_tbl _ w_127))
  have hO : va_AO "KindSayings$Saying" s := va_AO.of (hts _ (Tb_1 21 rfl))
  obtain ⟨co3, c3, kA3, f31, f32, f33, f34, f35⟩ := Cond.arrayOver_spec hO
  obtain ⟨cA, hcA⟩ : ∃ cA : Nat → ClassId, ∀ (k : Nat) (q : ClassId × FieldType), (tyl cA)[k]? = some q → ArrOfT s q.1 q.2 ∧ va_RA s q.1 q.2 := by
    refine ⟨fun t => if t = 0 then c0 else if t = 1 then c1 else if t = 2 then c2 else c3, ?_⟩
    intro k q hq
    match k, hq with
    | 0, hq => cases hq; exact ⟨fun n z => ⟨fun k h => (by cases h), kA0, f02, co0, f03⟩, f01⟩
    | 1, hq => cases hq; exact ⟨fun n z => ⟨fun k h => (by cases h), kA1, f12, co1, f13⟩, f11⟩
    | 2, hq => cases hq; exact ⟨fun n z => ⟨fun k h => (by cases h), kA2, f22, co2, f23⟩, f21⟩
    | 3, hq => cases hq; exact ⟨fun n z => ⟨fun k h => (by cases h), kA3, f33, co3, f34⟩, kA3, co3, f33, f34, f31, f35⟩
    | k + 4, hq => simp [tyl] at hq
  obtain ⟨t0, hz0⟩ := z_0 hts hgv
  obtain ⟨t1, hz1⟩ := z_1 hts hgv
  obtain ⟨t2, hz2⟩ := z_2 hts hgv
  obtain ⟨t3, hz3⟩ := z_3 hts hgv
  have E : Bd (dC, dI) cA (fun k => if k = 0 then t0 else if k = 1 then t1 else if k = 2 then t2 else t3) p s m #[Value.ref b] meth c code 4 "KindSayingsLaw" ret (LA s) :=
    ⟨hx, hb, hml, hown, fun w hw => hts w (Gd_tbl w hw), ⟨hKc, hcA⟩, ⟨hz0, hz1, hz2, hz3⟩, ⟨fun q hq => va_Nw.of rfl (hts _ (nest_m q hq)), fun q hq => va_Nw.of rfl (hts _ (nest_f q hq))⟩, fun _ h => h, hlocks, hret⟩
  generalize (fun k => if k = 0 then t0 else if k = 1 then t1 else if k = 2 then t2 else t3) = st at E
  obtain ⟨Rx, Rm, ex, em, hrel⟩ := start_rel
  have hl := lv_entry ([.ref b]) (n := 4) (Nat.le_of_ble_eq_true rfl)
  rw [lg_entry_eq]
  generalize (lg_sl ([.ref b]) ++ List.replicate (4 - (lg_sl ([.ref b])).length) Slot.unset).toArray = ls at hl ⊢
  have hl : lv_has ls 4 [(0, .ref b)] := hl
  have hw : GW (dC, dI) (LA s) s [] s.heap [] := ⟨fun k q h => by simp at h, ⟨fun i j p q h => by simp at h, fun k q h => by simp at h⟩, va_S.rf⟩
  refine g_new E hw (ci := 6) (C := RX6) (T := TX6) (N := 8) rfl inG6 tyX6 tyX6_ok w_77 w_78 w_66 [.null, .null, .null, .null, .null, .int 0, .int 0, .int 0] (fun j hj => by rcases (show j = 0 ∨ j = 1 ∨ j = 2 ∨ j = 3 ∨ j = 4 ∨ j = 5 ∨ j = 6 ∨ j = 7 by omega) with rfl | rfl | rfl | rfl | rfl | rfl | rfl | rfl <;> rfl) (by decide) (by decide) dL_0 (fun q1 H hw => ?_)
  have hw : GW (dC, dI) (LA s) s [(q1, .inr (6, [.null, .null, .null, .null, .null, .int 0, .int 0, .int 0]))] H _ := hw
  refine lv_dup hx hb dL_3 rfl ?_
  refine g_callI E hO hw hl.1 ci_L_9 (k_X6_init l (dC, dI) cA st q1 Rx ex) (wc := [(q1, .inr (6, [.null, .null, .null, .null, .null, .int 0, .int 0, .int 0]))]) (wr := []) (isC := [0]) (isR := []) rfl (by decide) rfl (by decide) (by decide) ⟨by decide, by decide⟩ ⟨by decide, by decide⟩ (Nat.le_of_ble_eq_true rfl) dL_4 (fun v w1 H locs hp hw => ?_)
  obtain ⟨rfl, adx, ax, hq1, rfl⟩ := hp
  have hw : GW (dC, dI) (LA s) s (wl ΛX 29 cA adx ax Rx) H _ := hw
  refine W.eq (g2 := F0 m 7 ls [.ref q1]) rfl ?_
  refine lv_astore_n (lv' := [(1, .ref q1), (0, .ref b)]) hx hb dL_7 rfl hl (by decide) rfl (fun ls hl => ?_)
  refine g_new E hw (ci := 7) (C := RX7) (T := TX7) (N := 29) rfl inG7 tyX7 tyX7_ok w_752 w_753 w_73 [.int 0, .int 0, .int 0, .int 0, .null, .null, .int 0, .int 0, .int 0, .int 0, .int 0, .int 0, .int 0, .null, .null, .null, .int 0, .int 0, .int 0, .null, .null, .null, .null, .null, .null, .int 0, .int 0, .int 0, .int 0] (fun j hj => by rcases (show j = 0 ∨ j = 1 ∨ j = 2 ∨ j = 3 ∨ j = 4 ∨ j = 5 ∨ j = 6 ∨ j = 7 ∨ j = 8 ∨ j = 9 ∨ j = 10 ∨ j = 11 ∨ j = 12 ∨ j = 13 ∨ j = 14 ∨ j = 15 ∨ j = 16 ∨ j = 17 ∨ j = 18 ∨ j = 19 ∨ j = 20 ∨ j = 21 ∨ j = 22 ∨ j = 23 ∨ j = 24 ∨ j = 25 ∨ j = 26 ∨ j = 27 ∨ j = 28 by omega) with rfl | rfl | rfl | rfl | rfl | rfl | rfl | rfl | rfl | rfl | rfl | rfl | rfl | rfl | rfl | rfl | rfl | rfl | rfl | rfl | rfl | rfl | rfl | rfl | rfl | rfl | rfl | rfl | rfl <;> rfl) (by decide) (by decide) dL_8 (fun q2 H hw => ?_)
  refine lv_dup hx hb dL_11 rfl ?_
  refine g_callI E hO hw hl.1 ci_L_12 (k_X7_init l (dC, dI) cA st q2 Rm em) (wc := [(q2, .inr (7, [.int 0, .int 0, .int 0, .int 0, .null, .null, .int 0, .int 0, .int 0, .int 0, .int 0, .int 0, .int 0, .null, .null, .null, .int 0, .int 0, .int 0, .null, .null, .null, .null, .null, .null, .int 0, .int 0, .int 0, .int 0]))]) (wr := wl ΛX 29 cA adx ax Rx) (isC := (List.range 1).map (· + 29)) (isR := List.range 29) (map_right _ _ wl_len rfl) (by decide) (map_left _ _ wl_len) (by decide) (by decide) ⟨by decide, by decide⟩ ⟨by decide, by decide⟩ (Nat.le_of_ble_eq_true rfl) dL_12 (fun v w1 H locs hp hw9 => ?_)
  obtain ⟨rfl, adm, am, hq2, rfl⟩ := hp
  refine W.eq (g2 := F0 m 15 ls [.ref q2]) rfl ?_
  refine lv_astore_n (lv' := [(2, .ref q2), (1, .ref q1), (0, .ref b)]) hx hb dL_15 rfl hl (by decide) rfl (fun ls hl => ?_)
  refine lv_iconst (v := 0) hx hb dL_16 (by decide) ?_
  refine lv_istore_n (lv' := [(3, .int 0), (2, .ref q2), (1, .ref q1), (0, .ref b)]) hx hb dL_17 rfl hl (by decide) rfl (fun ls hl => ?_)
  subst hq1
  subst hq2
  exact law_loop l hL C0 E 512 0 ax Rx am Rm 3 4 255 0 0 (fun _ => fstD 3) (fun _ => 0) (fun _ => 0) H _ ls _ _ (by omega) (by omega) hrel hw9 (lv_sub hl [3, 2, 1, 0] rfl) (by decide) (by decide +kernel)
-- ===== END OF MINE =====
set_option maxHeartbeats 4000000 in
theorem lw_walk (l : Launch) (hflags : l.flags = flags0) (b : Addr) (xs : List Int32) : MetFree l x (headSpec (Jvm.Cond.code x code maxLocals ret :: tables_1) room_1) (lw_P b xs) (fun _ _ _ _ _ => True) lw_Q := by
  refine MetFree.of_bodyS (code := code) (maxLocals := maxLocals) (ret := ret) (by decide) ?_ ?_
  · intro args s m h hn
    obtain ⟨meth, c, h1, h2, h3, h4, h5, h6, -, -⟩ := Cond.code_spec hn (atoms_spec (ws := Jvm.Cond.code x code maxLocals ret :: tables_1) h _ List.mem_cons_self)
    exact ⟨meth, c, h1, h2, h3, h4, h5, h6⟩
  · intro p e s m args below meth c s₁ B hml0 hP _
    obtain ⟨rfl, hx, hbd, hgv⟩ := hP
    obtain ⟨scr, harrAt, hlist, hof, hsmall⟩ := hx
    obtain ⟨hcb, hkn, -, -⟩ := State.arrayAt?_spec harrAt
    have hown : s.vm.findClass R_law = some m.cls := findClass_of_methodNamed B.named
    have hts0 : ∀ c ∈ (Jvm.Cond.code x code maxLocals ret :: tables_1), c.before #[Value.ref b] s = true := atoms_spec (ws := Jvm.Cond.code x code maxLocals ret :: tables_1) B.pre
    have hts : ∀ w ∈ lw_tbl, w.before #[Value.ref b] s = true := k2_hts_sels lw_privs (fun w hw => hts0 w (List.mem_cons_of_mem _ hw)) lw_privs_ok
    have hml : c.maxLocals = 4 := B.maxLocals_eq (hts0 _ List.mem_cons_self)
    have X₀ : Stand p l e room_1 s m #[Value.ref b] below meth c s₁ [] 0 0 := Stand.of_body B
    have hh0 : s₁.heap = s.heap := by rw [B.state]; rfl
    have hsz : scr.slots.size = xs.length := by rw [← Array.length_toList, hlist, List.length_map]
    have hval : ∀ j : Nat, j < xs.length → scr.slots[j]? = some (.int (xs.getD j 0)) := fun j hj => by
      rw [← Array.getElem?_toList, hlist]
      simp [hj]
    have hbl : b < s.heap.size := (Array.getElem?_eq_some_iff.mp hcb).1
    have hX : va_X b xs.length (fun j => xs.getD j 0) s s.heap := ⟨scr, hcb, hof, hkn, hsz, hval⟩
    have K : W p l e room_1 s m #[Value.ref b] below meth c s₁.heap [] 0 0 (lw_Z below #[Value.ref b] s) (entryFrame m ([Value.ref b] : List Value).toArray 4) := by
      rw [hh0]
      exact whole_start l hflags hbd ⟨B.exec, B.bytes, B.returns, hml, hown, hts, hX, hbl, B.notSynchronized, hgv⟩
    obtain ⟨t, a1, o, b1, b2, b3⟩ := K s₁ rfl X₀
    exact ⟨t, o, a1, b1, b2, b3⟩
theorem lw_pre_spec {args : Array Value} {s : State} (h : (Jvm.Cond.and given_1 narrow_1).before args s = true) (hr : rest_1_c.before args s = true) : ∃ (b : Addr) (xs : List Int32), lw_P b xs args s := by
  have hs := flat_of_before _ h
  have hq := flat_of_before _ hr
  have hc : (Cond.count 1).before args s = true := hs _ (by decide +kernel)
  have harr : (Cond.arrayOf (.arg 0) .int).before args s = true := hs _ (by decide +kernel)
  have hle : (Cond.le (.length (.arg 0)) (.int 3072)).before args s = true := hs _ (by decide +kernel)
  have hlen : (Cond.isInt (.length (.arg 0))).before args s = true := hq _ (by decide +kernel)
  have hall : (Cond.all (.arg 0) (.isInt (.elem (.arg 0) (.index 0)))).before args s = true := hq _ (by decide +kernel)
  obtain ⟨b, xs, hb, hx⟩ := State.ints_of_pre rfl harr hlen hall
  have hsm : xs.length < 2 ^ 31 := hx.choose_spec.2.2.2
  have hev : (Term.length (.arg 0)).eval args s none [] s = some (.int xs.length.toInt32) := hx.length_eval hb
  have hv := Cond.le_ints hev (show (Term.int 3072).eval args s none [] s = some (.int 3072) from rfl)
  have hd : xs.length.toInt32 ≤ 3072 := by
    simpa [Cond.before, Cond.holds, hv] using hle
  have hN : xs.length ≤ 3072 := (Int32.ofNat_le_ofNat hsm (by decide)).mp (show Int32.ofNat xs.length ≤ Int32.ofNat 3072 from hd)
  exact ⟨b, xs, Cond.one_arg hc (show args[0]? = some (.ref b) from hb), hx, hN, h⟩
theorem lw_comes (l : Launch) (hflags : l.flags = flags0) : Comes l x (Jvm.Cond.code x code maxLocals ret :: tables_1) room_1 (fun tb e args s => Calls_1 tb e args s ∧ rest_1 tb e args s ∧ Pre_1 tb e args s)
    (fun _ _ args s o t => lw_Q args s o t) := by
  intro p e ha hc hk s m args below hf hfit hheap happ hpre
  obtain ⟨b, xs, hP⟩ := lw_pre_spec hpre.2.2 hpre.2.1
  obtain ⟨k, o, h1, h2, h3, hQ⟩ := lw_walk l hflags b xs p e ha hc hk s m args below hf ((Spec.applies_iff_loose hf).mp happ).1 hP trivial
  exact ⟨k, o, h1, h2, h3, hQ⟩
theorem lw_frame {s t : State} {o : Outcome} {args : Array Value} (h : Framed s o t [] 600000 7302250) :
    Framed s o t (fieldLocs frame_1_writes args s ++ arrayLocs frame_1_arrays args s ++ staticLocs frame_1_statics s) 600000 7302250 := h
theorem lw_limb (L : Cond) (hL : ∀ (args : Array Value) (s t : State), L.after args s (.returned (some (.int 1))) t = true) :
    ArmFor flags0 classFile x code maxLocals ret World_1 tables_1 room_1 Calls_1 rest_1 Pre_1
      (fun tb e a s o t => postC L tb e a s o t ∧ Framed s o t (fieldLocs frame_1_writes a s ++ arrayLocs frame_1_arrays a s ++ staticLocs frame_1_statics s) 600000 7302250) := by
  intro l hflags _ _ p e ha hc hk s m args below hf hfit hheap happ hpre
  obtain ⟨k, o, h1, h2, h3, rfl, hF⟩ := lw_comes l hflags p e ha hc hk s m args below hf hfit hheap happ hpre
  exact ⟨k, _, h1, h2, h3, hL args s _, lw_frame hF⟩
theorem i_vc : Claimed_1_1 ∧ Claimed_1_2 := ⟨lw_limb limb_1_1 (fun args s t => by simp [limb_1_1, Cond.after, Cond.holds, Cond.value]), lw_limb limb_1_2 (fun args s t => Cond.after_iff.mpr (by
  first | (rw [show limb_1_2 = Cond.eq .result (.int 1) from rfl, Cond.eq_ints (x := 1) (y := 1) rfl rfl]; simp; done) | (simp [limb_1_2, Cond.value, Term.eval]; done)))⟩
