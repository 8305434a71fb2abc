/-! the 24 cases of the law (written by wip/tools/law2.py) -/
/-- the law goes on behind a case -/
def NX (p : Program) (l : Launch) (e : Env) (s : State) (m : MethodId) (b : Nat) (below : List Frame) (meth : Method) (c : Code) (D : va_G) (cA : Nat → ClassId) (adx adm : Nat → Nat) (i ml cells slots : Nat) (Q : State → Prop) : Prop :=
  ∀ (ax : Nat) (τx : Tau) (am : Nat) (τm : Tau) (K N md ml' len : Nat) (d : Nat → Sd) (cw tx : Nat → Nat) (H : Heap) (locs : List Loc) (ls : Array Slot) (cells' slots' : Nat), Rel τx τm K N md ml' d cw len tx → GW D (LA s) s (wl ΛX 29 cA adx ax τx ++ wl ΛM 12 cA adm am τm) H locs →
    lv_has ls 4 [(0, .ref b), (1, .ref (adr adx ax 0)), (2, .ref (adr adm am 0)), (3, .int (nI i))] → cells' ≤ cells + 1 → slots' + Fs ml ≤ slots + Fs ml' → W p l e room_1 s m #[Value.ref b] below meth c H locs cells' slots' Q (F0 m 876 ls [])
section LK
variable {p : Program} {l : Launch} {e : Env} {s : State} {m : MethodId} {b : Nat} {below : List Frame} {meth : Method} {c : Code} {H : Heap} {locs : List Loc} {cells slots : Nat} {Q : State → Prop}
variable {D : va_G} {cA : Nat → ClassId} {st adx adm : Nat → Nat} {ax am L i : Nat} {xs : Nat → Int32} {τx τm : Tau} {ls : Array Slot} {K N md ml len : Nat} {d : Nat → Sd} {cw tx : Nat → Nat}
set_option maxHeartbeats 4000000 in
set_option maxRecDepth 100000 in
theorem lc_0 (E : Bd D cA st p s m #[Value.ref b] meth c code 4 "KindSayingsLaw" ret (LA s)) (hX : va_X b L xs s s.heap) (hbl : b < s.heap.size) (hr : Rel τx τm K N md ml d cw len tx) (hw : GW D (LA s) s (wl ΛX 29 cA adx ax τx ++ wl ΛM 12 cA adm am τm) H locs) (hl : lv_has ls 4 [(0, .ref b), (1, .ref (adr adx ax 0)), (2, .ref (adr adm am 0)), (3, .int (nI i))]) (hi : i + 6 ≤ L) (hL : L ≤ 3072) (hcb : cells + 1 ≤ 600000) (hsb : slots ≤ 50000 + Fs ml) (next : NX p l e s m b below meth c D cA adx adm i ml cells slots Q) : W p l e room_1 s m #[Value.ref b] below meth c H locs cells slots Q (F0 m 144 ls []) := by
  obtain ⟨hx, hb, hml, hown, hts, -⟩ := id E
  have hbA : ¬ LA s b := Nat.not_le.mpr hbl
  have hin : ∀ j : Nat, j < 6 → vp_in (nI i + nI j) L := fun j hj => by rw [nI_add]; exact nI_in (show i + j < L by omega) (by omega)
  have hFm := Fs_max ml
  obtain ⟨v, τx1, τm1, z0, z1, z2, ex, em, hr1⟩ := st_kinds hr (xs (nI i + nI 1).toNatClampNeg)
  refine lv_aload_n hx hb dL_144 rfl (lv_at hl 1 rfl) ?_
  refine lv_aload_n hx hb dL_145 rfl (lv_at hl 0 rfl) ?_
  refine lv_iload_n hx hb dL_146 rfl (lv_at hl 3 rfl) ?_
  refine lv_iconst (v := 1) hx hb dL_147 (by decide) ?_
  refine lv_iadd hx hb dL_148 ?_
  refine va_sld hx hb hX hbl hbA hw.2.2 (hin 1 (by omega)) dL_149 ?_
  refine lx_E E hw hl.1 cl_L_13 rfl [.int (xs (nI i + nI 1).toNatClampNeg)] (c_X6_kinds l D cA st adx ax τx (xs (nI i + nI 1).toNatClampNeg) (v, τx1) ex) rfl ⟨Nat.le_of_ble_eq_true rfl, Nat.le_of_ble_eq_true rfl⟩ ⟨by show cells ≤ 600000; omega, by show slots ≤ 7302250; omega⟩ (Nat.le_of_ble_eq_true rfl) rfl dL_150 (fun H locs hw => ?_)
  refine W.eq (g2 := F0 m 153 ls (.int v :: [])) rfl ?_
  refine lv_aload_n hx hb dL_153 rfl (lv_at hl 2 rfl) ?_
  refine lv_aload_n hx hb dL_154 rfl (lv_at hl 0 rfl) ?_
  refine lv_iload_n hx hb dL_155 rfl (lv_at hl 3 rfl) ?_
  refine lv_iconst (v := 1) hx hb dL_156 (by decide) ?_
  refine lv_iadd hx hb dL_157 ?_
  refine va_sld hx hb hX hbl hbA hw.2.2 (hin 1 (by omega)) dL_158 ?_
  refine lm_E E hw hl.1 cl_L_17 rfl [.int (xs (nI i + nI 1).toNatClampNeg)] (c_X7_kinds l D cA st adm am τm (xs (nI i + nI 1).toNatClampNeg) (v, τm1) em) rfl ⟨Nat.le_of_ble_eq_true rfl, Nat.le_of_ble_eq_true rfl⟩ ⟨by show cells ≤ 600000; omega, by show slots ≤ 7302250; omega⟩ (Nat.le_of_ble_eq_true rfl) rfl dL_159 (fun H locs hw => ?_)
  refine W.eq (g2 := F0 m 162 ls (.int v :: .int v :: [])) rfl ?_
  refine lv_icmp_eq (tgt := 876) hx hb dL_162 (by decide) (fun _ => ?_) (fun z => absurd rfl z)
  exact next _ _ _ _ _ _ _ _ _ _ _ _ _ _ _ _ _ hr1 hw hl (by omega) (by omega)
set_option maxHeartbeats 4000000 in
set_option maxRecDepth 100000 in
theorem lc_1 (E : Bd D cA st p s m #[Value.ref b] meth c code 4 "KindSayingsLaw" ret (LA s)) (hX : va_X b L xs s s.heap) (hbl : b < s.heap.size) (hr : Rel τx τm K N md ml d cw len tx) (hw : GW D (LA s) s (wl ΛX 29 cA adx ax τx ++ wl ΛM 12 cA adm am τm) H locs) (hl : lv_has ls 4 [(0, .ref b), (1, .ref (adr adx ax 0)), (2, .ref (adr adm am 0)), (3, .int (nI i))]) (hi : i + 6 ≤ L) (hL : L ≤ 3072) (hcb : cells + 1 ≤ 600000) (hsb : slots ≤ 50000 + Fs ml) (next : NX p l e s m b below meth c D cA adx adm i ml cells slots Q) : W p l e room_1 s m #[Value.ref b] below meth c H locs cells slots Q (F0 m 167 ls []) := by
  obtain ⟨hx, hb, hml, hown, hts, -⟩ := id E
  have hbA : ¬ LA s b := Nat.not_le.mpr hbl
  have hin : ∀ j : Nat, j < 6 → vp_in (nI i + nI j) L := fun j hj => by rw [nI_add]; exact nI_in (show i + j < L by omega) (by omega)
  have hFm := Fs_max ml
  obtain ⟨v, τx1, τm1, z0, ex, em, hr1⟩ := st_most hr (xs (nI i + nI 1).toNatClampNeg)
  refine lv_aload_n hx hb dL_167 rfl (lv_at hl 1 rfl) ?_
  refine lv_aload_n hx hb dL_168 rfl (lv_at hl 0 rfl) ?_
  refine lv_iload_n hx hb dL_169 rfl (lv_at hl 3 rfl) ?_
  refine lv_iconst (v := 1) hx hb dL_170 (by decide) ?_
  refine lv_iadd hx hb dL_171 ?_
  refine va_sld hx hb hX hbl hbA hw.2.2 (hin 1 (by omega)) dL_172 ?_
  refine lx_E E hw hl.1 cl_L_18 rfl [.int (xs (nI i + nI 1).toNatClampNeg)] (c_X6_most l D cA st adx ax τx (xs (nI i + nI 1).toNatClampNeg) (v, τx1) ex) rfl ⟨Nat.le_of_ble_eq_true rfl, Nat.le_of_ble_eq_true rfl⟩ ⟨by show cells ≤ 600000; omega, by show slots ≤ 7302250; omega⟩ (Nat.le_of_ble_eq_true rfl) rfl dL_173 (fun H locs hw => ?_)
  refine W.eq (g2 := F0 m 176 ls (.int v :: [])) rfl ?_
  refine lv_aload_n hx hb dL_176 rfl (lv_at hl 2 rfl) ?_
  refine lv_aload_n hx hb dL_177 rfl (lv_at hl 0 rfl) ?_
  refine lv_iload_n hx hb dL_178 rfl (lv_at hl 3 rfl) ?_
  refine lv_iconst (v := 1) hx hb dL_179 (by decide) ?_
  refine lv_iadd hx hb dL_180 ?_
  refine va_sld hx hb hX hbl hbA hw.2.2 (hin 1 (by omega)) dL_181 ?_
  refine lm_E E hw hl.1 cl_L_21 rfl [.int (xs (nI i + nI 1).toNatClampNeg)] (c_X7_most l D cA st adm am τm (xs (nI i + nI 1).toNatClampNeg) (v, τm1) em) rfl ⟨Nat.le_of_ble_eq_true rfl, Nat.le_of_ble_eq_true rfl⟩ ⟨by show cells ≤ 600000; omega, by show slots ≤ 7302250; omega⟩ (Nat.le_of_ble_eq_true rfl) rfl dL_182 (fun H locs hw => ?_)
  refine W.eq (g2 := F0 m 185 ls (.int v :: .int v :: [])) rfl ?_
  refine lv_icmp_eq (tgt := 876) hx hb dL_185 (by decide) (fun _ => ?_) (fun z => absurd rfl z)
  exact next _ _ _ _ _ _ _ _ _ _ _ _ _ _ _ _ _ hr1 hw hl (by omega) (by omega)
set_option maxHeartbeats 4000000 in
set_option maxRecDepth 100000 in
theorem lc_2 (E : Bd D cA st p s m #[Value.ref b] meth c code 4 "KindSayingsLaw" ret (LA s)) (hX : va_X b L xs s s.heap) (hbl : b < s.heap.size) (hr : Rel τx τm K N md ml d cw len tx) (hw : GW D (LA s) s (wl ΛX 29 cA adx ax τx ++ wl ΛM 12 cA adm am τm) H locs) (hl : lv_has ls 4 [(0, .ref b), (1, .ref (adr adx ax 0)), (2, .ref (adr adm am 0)), (3, .int (nI i))]) (hi : i + 6 ≤ L) (hL : L ≤ 3072) (hcb : cells + 1 ≤ 600000) (hsb : slots ≤ 50000 + Fs ml) (next : NX p l e s m b below meth c D cA adx adm i ml cells slots Q) : W p l e room_1 s m #[Value.ref b] below meth c H locs cells slots Q (F0 m 190 ls []) := by
  obtain ⟨hx, hb, hml, hown, hts, -⟩ := id E
  have hbA : ¬ LA s b := Nat.not_le.mpr hbl
  have hin : ∀ j : Nat, j < 6 → vp_in (nI i + nI j) L := fun j hj => by rw [nI_add]; exact nI_in (show i + j < L by omega) (by omega)
  have hFm := Fs_max ml
  obtain ⟨τm1, em, hr1⟩ := st_worlds hr
  refine lv_aload_n hx hb dL_190 rfl (lv_at hl 1 rfl) ?_
  refine lx_E E hw hl.1 cl_L_22 rfl [] (c_X6_worlds l D cA st adx ax τx (fX6_worlds τx) rfl) rfl ⟨Nat.le_of_ble_eq_true rfl, Nat.le_of_ble_eq_true rfl⟩ ⟨by show cells ≤ 600000; omega, by show slots ≤ 7302250; omega⟩ (Nat.le_of_ble_eq_true rfl) rfl dL_191 (fun H locs hw => ?_)
  refine W.eq (g2 := F0 m 194 ls (.int (fX6_worlds τx) :: [])) rfl ?_
  refine lv_aload_n hx hb dL_194 rfl (lv_at hl 2 rfl) ?_
  refine lm_E E hw hl.1 cl_L_26 rfl [] (c_X7_worlds l D cA st adm am τm  ((fX6_worlds τx), τm1) em) rfl ⟨Nat.le_of_ble_eq_true rfl, Nat.le_of_ble_eq_true rfl⟩ ⟨by show cells ≤ 600000; omega, by show slots ≤ 7302250; omega⟩ (Nat.le_of_ble_eq_true rfl) rfl dL_195 (fun H locs hw => ?_)
  refine W.eq (g2 := F0 m 198 ls (.int (fX6_worlds τx) :: .int (fX6_worlds τx) :: [])) rfl ?_
  refine lv_icmp_eq (tgt := 876) hx hb dL_198 (by decide) (fun _ => ?_) (fun z => absurd rfl z)
  exact next _ _ _ _ _ _ _ _ _ _ _ _ _ _ _ _ _ hr1 hw hl (by omega) (by omega)
set_option maxHeartbeats 4000000 in
set_option maxRecDepth 100000 in
theorem lc_3 (E : Bd D cA st p s m #[Value.ref b] meth c code 4 "KindSayingsLaw" ret (LA s)) (hX : va_X b L xs s s.heap) (hbl : b < s.heap.size) (hr : Rel τx τm K N md ml d cw len tx) (hw : GW D (LA s) s (wl ΛX 29 cA adx ax τx ++ wl ΛM 12 cA adm am τm) H locs) (hl : lv_has ls 4 [(0, .ref b), (1, .ref (adr adx ax 0)), (2, .ref (adr adm am 0)), (3, .int (nI i))]) (hi : i + 6 ≤ L) (hL : L ≤ 3072) (hcb : cells + 1 ≤ 600000) (hsb : slots ≤ 50000 + Fs ml) (next : NX p l e s m b below meth c D cA adx adm i ml cells slots Q) : W p l e room_1 s m #[Value.ref b] below meth c H locs cells slots Q (F0 m 203 ls []) := by
  obtain ⟨hx, hb, hml, hown, hts, -⟩ := id E
  have hbA : ¬ LA s b := Nat.not_le.mpr hbl
  have hin : ∀ j : Nat, j < 6 → vp_in (nI i + nI j) L := fun j hj => by rw [nI_add]; exact nI_in (show i + j < L by omega) (by omega)
  have hFm := Fs_max ml
  obtain ⟨v, τx1, τm1, z0, ex, em, hr1⟩ := st_put hr (xs (nI i + nI 1).toNatClampNeg) (xs (nI i + nI 2).toNatClampNeg)
  refine lv_aload_n hx hb dL_203 rfl (lv_at hl 1 rfl) ?_
  refine lv_aload_n hx hb dL_204 rfl (lv_at hl 0 rfl) ?_
  refine lv_iload_n hx hb dL_205 rfl (lv_at hl 3 rfl) ?_
  refine lv_iconst (v := 1) hx hb dL_206 (by decide) ?_
  refine lv_iadd hx hb dL_207 ?_
  refine va_sld hx hb hX hbl hbA hw.2.2 (hin 1 (by omega)) dL_208 ?_
  refine lv_aload_n hx hb dL_209 rfl (lv_at hl 0 rfl) ?_
  refine lv_iload_n hx hb dL_210 rfl (lv_at hl 3 rfl) ?_
  refine lv_iconst (v := 2) hx hb dL_211 (by decide) ?_
  refine lv_iadd hx hb dL_212 ?_
  refine va_sld hx hb hX hbl hbA hw.2.2 (hin 2 (by omega)) dL_213 ?_
  refine lx_E E hw hl.1 cl_L_27 rfl [.int (xs (nI i + nI 1).toNatClampNeg), .int (xs (nI i + nI 2).toNatClampNeg)] (c_X6_put l D cA st adx ax τx (xs (nI i + nI 1).toNatClampNeg) (xs (nI i + nI 2).toNatClampNeg) (v, τx1) ex) rfl ⟨Nat.le_of_ble_eq_true rfl, Nat.le_of_ble_eq_true rfl⟩ ⟨by show cells ≤ 600000; omega, by show slots ≤ 7302250; omega⟩ (Nat.le_of_ble_eq_true rfl) rfl dL_214 (fun H locs hw => ?_)
  refine W.eq (g2 := F0 m 217 ls (.int v :: [])) rfl ?_
  refine lv_aload_n hx hb dL_217 rfl (lv_at hl 2 rfl) ?_
  refine lv_aload_n hx hb dL_218 rfl (lv_at hl 0 rfl) ?_
  refine lv_iload_n hx hb dL_219 rfl (lv_at hl 3 rfl) ?_
  refine lv_iconst (v := 1) hx hb dL_220 (by decide) ?_
  refine lv_iadd hx hb dL_221 ?_
  refine va_sld hx hb hX hbl hbA hw.2.2 (hin 1 (by omega)) dL_222 ?_
  refine lv_aload_n hx hb dL_223 rfl (lv_at hl 0 rfl) ?_
  refine lv_iload_n hx hb dL_224 rfl (lv_at hl 3 rfl) ?_
  refine lv_iconst (v := 2) hx hb dL_225 (by decide) ?_
  refine lv_iadd hx hb dL_226 ?_
  refine va_sld hx hb hX hbl hbA hw.2.2 (hin 2 (by omega)) dL_227 ?_
  refine lm_E E hw hl.1 cl_L_31 rfl [.int (xs (nI i + nI 1).toNatClampNeg), .int (xs (nI i + nI 2).toNatClampNeg)] (c_X7_put l D cA st adm am τm (xs (nI i + nI 1).toNatClampNeg) (xs (nI i + nI 2).toNatClampNeg) (v, τm1) em) rfl ⟨Nat.le_of_ble_eq_true rfl, Nat.le_of_ble_eq_true rfl⟩ ⟨by show cells ≤ 600000; omega, by show slots ≤ 7302250; omega⟩ (Nat.le_of_ble_eq_true rfl) rfl dL_228 (fun H locs hw => ?_)
  refine W.eq (g2 := F0 m 231 ls (.int v :: .int v :: [])) rfl ?_
  refine lv_icmp_eq (tgt := 876) hx hb dL_231 (by decide) (fun _ => ?_) (fun z => absurd rfl z)
  exact next _ _ _ _ _ _ _ _ _ _ _ _ _ _ _ _ _ hr1 hw hl (by omega) (by omega)
set_option maxHeartbeats 4000000 in
set_option maxRecDepth 100000 in
theorem lc_4 (E : Bd D cA st p s m #[Value.ref b] meth c code 4 "KindSayingsLaw" ret (LA s)) (hX : va_X b L xs s s.heap) (hbl : b < s.heap.size) (hr : Rel τx τm K N md ml d cw len tx) (hw : GW D (LA s) s (wl ΛX 29 cA adx ax τx ++ wl ΛM 12 cA adm am τm) H locs) (hl : lv_has ls 4 [(0, .ref b), (1, .ref (adr adx ax 0)), (2, .ref (adr adm am 0)), (3, .int (nI i))]) (hi : i + 6 ≤ L) (hL : L ≤ 3072) (hcb : cells + 1 ≤ 600000) (hsb : slots ≤ 50000 + Fs ml) (next : NX p l e s m b below meth c D cA adx adm i ml cells slots Q) : W p l e room_1 s m #[Value.ref b] below meth c H locs cells slots Q (F0 m 236 ls []) := by
  obtain ⟨hx, hb, hml, hown, hts, -⟩ := id E
  have hbA : ¬ LA s b := Nat.not_le.mpr hbl
  have hin : ∀ j : Nat, j < 6 → vp_in (nI i + nI j) L := fun j hj => by rw [nI_add]; exact nI_in (show i + j < L by omega) (by omega)
  have hFm := Fs_max ml
  obtain ⟨v, τm1, ex, em, hr1⟩ := st_holds hr (xs (nI i + nI 1).toNatClampNeg)
  refine lv_aload_n hx hb dL_236 rfl (lv_at hl 1 rfl) ?_
  refine lv_aload_n hx hb dL_237 rfl (lv_at hl 0 rfl) ?_
  refine lv_iload_n hx hb dL_238 rfl (lv_at hl 3 rfl) ?_
  refine lv_iconst (v := 1) hx hb dL_239 (by decide) ?_
  refine lv_iadd hx hb dL_240 ?_
  refine va_sld hx hb hX hbl hbA hw.2.2 (hin 1 (by omega)) dL_241 ?_
  refine lx_E E hw hl.1 cl_L_32 rfl [.int (xs (nI i + nI 1).toNatClampNeg)] (c_X6_holds l D cA st adx ax τx (xs (nI i + nI 1).toNatClampNeg) v ex) rfl ⟨Nat.le_of_ble_eq_true rfl, Nat.le_of_ble_eq_true rfl⟩ ⟨by show cells ≤ 600000; omega, by show slots ≤ 7302250; omega⟩ (Nat.le_of_ble_eq_true rfl) rfl dL_242 (fun H locs hw => ?_)
  refine W.eq (g2 := F0 m 245 ls (.int v :: [])) rfl ?_
  refine lv_aload_n hx hb dL_245 rfl (lv_at hl 2 rfl) ?_
  refine lv_aload_n hx hb dL_246 rfl (lv_at hl 0 rfl) ?_
  refine lv_iload_n hx hb dL_247 rfl (lv_at hl 3 rfl) ?_
  refine lv_iconst (v := 1) hx hb dL_248 (by decide) ?_
  refine lv_iadd hx hb dL_249 ?_
  refine va_sld hx hb hX hbl hbA hw.2.2 (hin 1 (by omega)) dL_250 ?_
  refine lm_E E hw hl.1 cl_L_35 rfl [.int (xs (nI i + nI 1).toNatClampNeg)] (c_X7_holds l D cA st adm am τm (xs (nI i + nI 1).toNatClampNeg) (v, τm1) em) rfl ⟨Nat.le_of_ble_eq_true rfl, Nat.le_of_ble_eq_true rfl⟩ ⟨by show cells ≤ 600000; omega, by show slots ≤ 7302250; omega⟩ (Nat.le_of_ble_eq_true rfl) rfl dL_251 (fun H locs hw => ?_)
  refine W.eq (g2 := F0 m 254 ls (.int v :: .int v :: [])) rfl ?_
  refine lv_icmp_eq (tgt := 876) hx hb dL_254 (by decide) (fun _ => ?_) (fun z => absurd rfl z)
  exact next _ _ _ _ _ _ _ _ _ _ _ _ _ _ _ _ _ hr1 hw hl (by omega) (by omega)
set_option maxHeartbeats 4000000 in
set_option maxRecDepth 100000 in
theorem lc_5 (E : Bd D cA st p s m #[Value.ref b] meth c code 4 "KindSayingsLaw" ret (LA s)) (hX : va_X b L xs s s.heap) (hbl : b < s.heap.size) (hr : Rel τx τm K N md ml d cw len tx) (hw : GW D (LA s) s (wl ΛX 29 cA adx ax τx ++ wl ΛM 12 cA adm am τm) H locs) (hl : lv_has ls 4 [(0, .ref b), (1, .ref (adr adx ax 0)), (2, .ref (adr adm am 0)), (3, .int (nI i))]) (hi : i + 6 ≤ L) (hL : L ≤ 3072) (hcb : cells + 1 ≤ 600000) (hsb : slots ≤ 50000 + Fs ml) (next : NX p l e s m b below meth c D cA adx adm i ml cells slots Q) : W p l e room_1 s m #[Value.ref b] below meth c H locs cells slots Q (F0 m 259 ls []) := by
  obtain ⟨hx, hb, hml, hown, hts, -⟩ := id E
  have hbA : ¬ LA s b := Nat.not_le.mpr hbl
  have hin : ∀ j : Nat, j < 6 → vp_in (nI i + nI j) L := fun j hj => by rw [nI_add]; exact nI_in (show i + j < L by omega) (by omega)
  have hFm := Fs_max ml
  obtain ⟨v, τm1, ex, em, hr1⟩ := st_size hr (xs (nI i + nI 1).toNatClampNeg) (xs (nI i + nI 2).toNatClampNeg)
  refine lv_aload_n hx hb dL_259 rfl (lv_at hl 1 rfl) ?_
  refine lv_aload_n hx hb dL_260 rfl (lv_at hl 0 rfl) ?_
  refine lv_iload_n hx hb dL_261 rfl (lv_at hl 3 rfl) ?_
  refine lv_iconst (v := 1) hx hb dL_262 (by decide) ?_
  refine lv_iadd hx hb dL_263 ?_
  refine va_sld hx hb hX hbl hbA hw.2.2 (hin 1 (by omega)) dL_264 ?_
  refine lv_aload_n hx hb dL_265 rfl (lv_at hl 0 rfl) ?_
  refine lv_iload_n hx hb dL_266 rfl (lv_at hl 3 rfl) ?_
  refine lv_iconst (v := 2) hx hb dL_267 (by decide) ?_
  refine lv_iadd hx hb dL_268 ?_
  refine va_sld hx hb hX hbl hbA hw.2.2 (hin 2 (by omega)) dL_269 ?_
  refine lx_E E hw hl.1 cl_L_36 rfl [.int (xs (nI i + nI 1).toNatClampNeg), .int (xs (nI i + nI 2).toNatClampNeg)] (c_X6_size l D cA st adx ax τx (xs (nI i + nI 1).toNatClampNeg) (xs (nI i + nI 2).toNatClampNeg) v ex) rfl ⟨Nat.le_of_ble_eq_true rfl, Nat.le_of_ble_eq_true rfl⟩ ⟨by show cells ≤ 600000; omega, by show slots ≤ 7302250; omega⟩ (Nat.le_of_ble_eq_true rfl) rfl dL_270 (fun H locs hw => ?_)
  refine W.eq (g2 := F0 m 273 ls (.int v :: [])) rfl ?_
  refine lv_aload_n hx hb dL_273 rfl (lv_at hl 2 rfl) ?_
  refine lv_aload_n hx hb dL_274 rfl (lv_at hl 0 rfl) ?_
  refine lv_iload_n hx hb dL_275 rfl (lv_at hl 3 rfl) ?_
  refine lv_iconst (v := 1) hx hb dL_276 (by decide) ?_
  refine lv_iadd hx hb dL_277 ?_
  refine va_sld hx hb hX hbl hbA hw.2.2 (hin 1 (by omega)) dL_278 ?_
  refine lv_aload_n hx hb dL_279 rfl (lv_at hl 0 rfl) ?_
  refine lv_iload_n hx hb dL_280 rfl (lv_at hl 3 rfl) ?_
  refine lv_iconst (v := 2) hx hb dL_281 (by decide) ?_
  refine lv_iadd hx hb dL_282 ?_
  refine va_sld hx hb hX hbl hbA hw.2.2 (hin 2 (by omega)) dL_283 ?_
  refine lm_E E hw hl.1 cl_L_39 rfl [.int (xs (nI i + nI 1).toNatClampNeg), .int (xs (nI i + nI 2).toNatClampNeg)] (c_X7_size l D cA st adm am τm (xs (nI i + nI 1).toNatClampNeg) (xs (nI i + nI 2).toNatClampNeg) (v, τm1) em) rfl ⟨Nat.le_of_ble_eq_true rfl, Nat.le_of_ble_eq_true rfl⟩ ⟨by show cells ≤ 600000; omega, by show slots ≤ 7302250; omega⟩ (Nat.le_of_ble_eq_true rfl) rfl dL_284 (fun H locs hw => ?_)
  refine W.eq (g2 := F0 m 287 ls (.int v :: .int v :: [])) rfl ?_
  refine lv_icmp_eq (tgt := 876) hx hb dL_287 (by decide) (fun _ => ?_) (fun z => absurd rfl z)
  exact next _ _ _ _ _ _ _ _ _ _ _ _ _ _ _ _ _ hr1 hw hl (by omega) (by omega)
set_option maxHeartbeats 4000000 in
set_option maxRecDepth 100000 in
theorem lc_6 (E : Bd D cA st p s m #[Value.ref b] meth c code 4 "KindSayingsLaw" ret (LA s)) (hX : va_X b L xs s s.heap) (hbl : b < s.heap.size) (hr : Rel τx τm K N md ml d cw len tx) (hw : GW D (LA s) s (wl ΛX 29 cA adx ax τx ++ wl ΛM 12 cA adm am τm) H locs) (hl : lv_has ls 4 [(0, .ref b), (1, .ref (adr adx ax 0)), (2, .ref (adr adm am 0)), (3, .int (nI i))]) (hi : i + 6 ≤ L) (hL : L ≤ 3072) (hcb : cells + 1 ≤ 600000) (hsb : slots ≤ 50000 + Fs ml) (next : NX p l e s m b below meth c D cA adx adm i ml cells slots Q) : W p l e room_1 s m #[Value.ref b] below meth c H locs cells slots Q (F0 m 292 ls []) := by
  obtain ⟨hx, hb, hml, hown, hts, -⟩ := id E
  have hbA : ¬ LA s b := Nat.not_le.mpr hbl
  have hin : ∀ j : Nat, j < 6 → vp_in (nI i + nI j) L := fun j hj => by rw [nI_add]; exact nI_in (show i + j < L by omega) (by omega)
  have hFm := Fs_max ml
  refine lv_aload_n hx hb dL_292 rfl (lv_at hl 1 rfl) ?_
  refine lv_aload_n hx hb dL_293 rfl (lv_at hl 0 rfl) ?_
  refine lv_iload_n hx hb dL_294 rfl (lv_at hl 3 rfl) ?_
  refine lv_iconst (v := 1) hx hb dL_295 (by decide) ?_
  refine lv_iadd hx hb dL_296 ?_
  refine va_sld hx hb hX hbl hbA hw.2.2 (hin 1 (by omega)) dL_297 ?_
  refine lv_i2l hx hb dL_298 rfl ?_
  refine lv_bipush (v := 32) hx hb dL_299 (by decide) ?_
  refine lv_lshl hx hb dL_301 rfl ?_
  refine lv_aload_n hx hb dL_302 rfl (lv_at hl 0 rfl) ?_
  refine lv_iload_n hx hb dL_303 rfl (lv_at hl 3 rfl) ?_
  refine lv_iconst (v := 2) hx hb dL_304 (by decide) ?_
  refine lv_iadd hx hb dL_305 ?_
  refine va_sld hx hb hX hbl hbA hw.2.2 (hin 2 (by omega)) dL_306 ?_
  refine lv_i2l hx hb dL_307 rfl ?_
  refine lv_ldc2 hx hb hown (hts _ w_1076) dL_308 ?_
  refine lv_land hx hb dL_311 ?_
  refine lv_lor hx hb dL_312 ?_
  refine lv_topl (fun lv elv => ?_)
  obtain ⟨v, τx1, τm1, z0, z1, ex, em, hr1⟩ := st_type hr lv (xs (nI i + nI 3).toNatClampNeg)
  refine lv_aload_n hx hb dL_313 rfl (lv_at hl 0 rfl) ?_
  refine lv_iload_n hx hb dL_314 rfl (lv_at hl 3 rfl) ?_
  refine lv_iconst (v := 3) hx hb dL_315 (by decide) ?_
  refine lv_iadd hx hb dL_316 ?_
  refine va_sld hx hb hX hbl hbA hw.2.2 (hin 3 (by omega)) dL_317 ?_
  refine lx_E E hw hl.1 cl_L_42 rfl [.long lv, .int (xs (nI i + nI 3).toNatClampNeg)] (c_X6_type l D cA st adx ax τx lv (xs (nI i + nI 3).toNatClampNeg) (v, τx1) ex) rfl ⟨Nat.le_of_ble_eq_true rfl, Nat.le_of_ble_eq_true rfl⟩ ⟨by show cells ≤ 600000; omega, by show slots ≤ 7302250; omega⟩ (Nat.le_of_ble_eq_true rfl) rfl dL_318 (fun H locs hw => ?_)
  refine W.eq (g2 := F0 m 321 ls (.int v :: [])) rfl ?_
  refine lv_aload_n hx hb dL_321 rfl (lv_at hl 2 rfl) ?_
  refine lv_aload_n hx hb dL_322 rfl (lv_at hl 0 rfl) ?_
  refine lv_iload_n hx hb dL_323 rfl (lv_at hl 3 rfl) ?_
  refine lv_iconst (v := 1) hx hb dL_324 (by decide) ?_
  refine lv_iadd hx hb dL_325 ?_
  refine va_sld hx hb hX hbl hbA hw.2.2 (hin 1 (by omega)) dL_326 ?_
  refine lv_i2l hx hb dL_327 rfl ?_
  refine lv_bipush (v := 32) hx hb dL_328 (by decide) ?_
  refine lv_lshl hx hb dL_330 rfl ?_
  refine lv_aload_n hx hb dL_331 rfl (lv_at hl 0 rfl) ?_
  refine lv_iload_n hx hb dL_332 rfl (lv_at hl 3 rfl) ?_
  refine lv_iconst (v := 2) hx hb dL_333 (by decide) ?_
  refine lv_iadd hx hb dL_334 ?_
  refine va_sld hx hb hX hbl hbA hw.2.2 (hin 2 (by omega)) dL_335 ?_
  refine lv_i2l hx hb dL_336 rfl ?_
  refine lv_ldc2 hx hb hown (hts _ w_1076) dL_337 ?_
  refine lv_land hx hb dL_340 ?_
  refine lv_lor hx hb dL_341 ?_
  refine lv_topl (fun lv2 elv2 => ?_)
  rw [show lv2 = lv from elv2.trans elv.symm]
  refine lv_aload_n hx hb dL_342 rfl (lv_at hl 0 rfl) ?_
  refine lv_iload_n hx hb dL_343 rfl (lv_at hl 3 rfl) ?_
  refine lv_iconst (v := 3) hx hb dL_344 (by decide) ?_
  refine lv_iadd hx hb dL_345 ?_
  refine va_sld hx hb hX hbl hbA hw.2.2 (hin 3 (by omega)) dL_346 ?_
  refine lm_E E hw hl.1 cl_L_46 rfl [.long lv, .int (xs (nI i + nI 3).toNatClampNeg)] (c_X7_type l D cA st adm am τm lv (xs (nI i + nI 3).toNatClampNeg) (v, τm1) em) rfl ⟨Nat.le_of_ble_eq_true rfl, Nat.le_of_ble_eq_true rfl⟩ ⟨by show cells ≤ 600000; omega, by show slots ≤ 7302250; omega⟩ (Nat.le_of_ble_eq_true rfl) rfl dL_347 (fun H locs hw => ?_)
  refine W.eq (g2 := F0 m 350 ls (.int v :: .int v :: [])) rfl ?_
  refine lv_icmp_eq (tgt := 876) hx hb dL_350 (by decide) (fun _ => ?_) (fun z => absurd rfl z)
  exact next _ _ _ _ _ _ _ _ _ _ _ _ _ _ _ _ _ hr1 hw hl (by omega) (by omega)
set_option maxHeartbeats 4000000 in
set_option maxRecDepth 100000 in
theorem lc_7 (E : Bd D cA st p s m #[Value.ref b] meth c code 4 "KindSayingsLaw" ret (LA s)) (hX : va_X b L xs s s.heap) (hbl : b < s.heap.size) (hr : Rel τx τm K N md ml d cw len tx) (hw : GW D (LA s) s (wl ΛX 29 cA adx ax τx ++ wl ΛM 12 cA adm am τm) H locs) (hl : lv_has ls 4 [(0, .ref b), (1, .ref (adr adx ax 0)), (2, .ref (adr adm am 0)), (3, .int (nI i))]) (hi : i + 6 ≤ L) (hL : L ≤ 3072) (hcb : cells + 1 ≤ 600000) (hsb : slots ≤ 50000 + Fs ml) (next : NX p l e s m b below meth c D cA adx adm i ml cells slots Q) : W p l e room_1 s m #[Value.ref b] below meth c H locs cells slots Q (F0 m 355 ls []) := by
  obtain ⟨hx, hb, hml, hown, hts, -⟩ := id E
  have hbA : ¬ LA s b := Nat.not_le.mpr hbl
  have hin : ∀ j : Nat, j < 6 → vp_in (nI i + nI j) L := fun j hj => by rw [nI_add]; exact nI_in (show i + j < L by omega) (by omega)
  have hFm := Fs_max ml
  obtain ⟨v, τx1, τm1, ex, em, hr1⟩ := st_clear hr
  refine lv_aload_n hx hb dL_355 rfl (lv_at hl 1 rfl) ?_
  refine lx_E E hw hl.1 cl_L_47 rfl [] (c_X6_clear l D cA st adx ax τx  (v, τx1) ex) rfl ⟨Nat.le_of_ble_eq_true rfl, Nat.le_of_ble_eq_true rfl⟩ ⟨by show cells ≤ 600000; omega, by show slots ≤ 7302250; omega⟩ (Nat.le_of_ble_eq_true rfl) rfl dL_356 (fun H locs hw => ?_)
  refine W.eq (g2 := F0 m 359 ls (.int v :: [])) rfl ?_
  refine lv_aload_n hx hb dL_359 rfl (lv_at hl 2 rfl) ?_
  refine lm_E E hw hl.1 cl_L_50 rfl [] (c_X7_clear l D cA st adm am τm  (v, τm1) em) rfl ⟨Nat.le_of_ble_eq_true rfl, Nat.le_of_ble_eq_true rfl⟩ ⟨by show cells ≤ 600000; omega, by show slots ≤ 7302250; omega⟩ (Nat.le_of_ble_eq_true rfl) rfl dL_360 (fun H locs hw => ?_)
  refine W.eq (g2 := F0 m 363 ls (.int v :: .int v :: [])) rfl ?_
  refine lv_icmp_eq (tgt := 876) hx hb dL_363 (by decide) (fun _ => ?_) (fun z => absurd rfl z)
  exact next _ _ _ _ _ _ _ _ _ _ _ _ _ _ _ _ _ hr1 hw hl (by omega) (by omega)
set_option maxHeartbeats 4000000 in
set_option maxRecDepth 100000 in
theorem lc_8 (E : Bd D cA st p s m #[Value.ref b] meth c code 4 "KindSayingsLaw" ret (LA s)) (hX : va_X b L xs s s.heap) (hbl : b < s.heap.size) (hr : Rel τx τm K N md ml d cw len tx) (hw : GW D (LA s) s (wl ΛX 29 cA adx ax τx ++ wl ΛM 12 cA adm am τm) H locs) (hl : lv_has ls 4 [(0, .ref b), (1, .ref (adr adx ax 0)), (2, .ref (adr adm am 0)), (3, .int (nI i))]) (hi : i + 6 ≤ L) (hL : L ≤ 3072) (hcb : cells + 1 ≤ 600000) (hsb : slots ≤ 50000 + Fs ml) (next : NX p l e s m b below meth c D cA adx adm i ml cells slots Q) : W p l e room_1 s m #[Value.ref b] below meth c H locs cells slots Q (F0 m 368 ls []) := by
  obtain ⟨hx, hb, hml, hown, hts, -⟩ := id E
  have hbA : ¬ LA s b := Nat.not_le.mpr hbl
  have hin : ∀ j : Nat, j < 6 → vp_in (nI i + nI j) L := fun j hj => by rw [nI_add]; exact nI_in (show i + j < L by omega) (by omega)
  have hFm := Fs_max ml
  obtain ⟨v, τx1, τm1, z0, z1, ex, em, hr1⟩ := st_read hr (xs (nI i + nI 1).toNatClampNeg)
  refine lv_aload_n hx hb dL_368 rfl (lv_at hl 1 rfl) ?_
  refine lv_aload_n hx hb dL_369 rfl (lv_at hl 0 rfl) ?_
  refine lv_iload_n hx hb dL_370 rfl (lv_at hl 3 rfl) ?_
  refine lv_iconst (v := 1) hx hb dL_371 (by decide) ?_
  refine lv_iadd hx hb dL_372 ?_
  refine va_sld hx hb hX hbl hbA hw.2.2 (hin 1 (by omega)) dL_373 ?_
  refine lx_E E hw hl.1 cl_L_51 rfl [.int (xs (nI i + nI 1).toNatClampNeg)] (c_X6_read l D cA st adx ax τx (xs (nI i + nI 1).toNatClampNeg) (v, τx1) ex) rfl ⟨Nat.le_of_ble_eq_true rfl, Nat.le_of_ble_eq_true rfl⟩ ⟨by show cells ≤ 600000; omega, by show slots ≤ 7302250; omega⟩ (Nat.le_of_ble_eq_true rfl) rfl dL_374 (fun H locs hw => ?_)
  refine W.eq (g2 := F0 m 377 ls (.int v :: [])) rfl ?_
  refine lv_aload_n hx hb dL_377 rfl (lv_at hl 2 rfl) ?_
  refine lv_aload_n hx hb dL_378 rfl (lv_at hl 0 rfl) ?_
  refine lv_iload_n hx hb dL_379 rfl (lv_at hl 3 rfl) ?_
  refine lv_iconst (v := 1) hx hb dL_380 (by decide) ?_
  refine lv_iadd hx hb dL_381 ?_
  refine va_sld hx hb hX hbl hbA hw.2.2 (hin 1 (by omega)) dL_382 ?_
  refine lm_E E hw hl.1 cl_L_54 rfl [.int (xs (nI i + nI 1).toNatClampNeg)] (c_X7_read l D cA st adm am τm (xs (nI i + nI 1).toNatClampNeg) (v, τm1) em) rfl ⟨Nat.le_of_ble_eq_true rfl, Nat.le_of_ble_eq_true rfl⟩ ⟨by show cells ≤ 600000; omega, by show slots ≤ 7302250; omega⟩ (Nat.le_of_ble_eq_true rfl) rfl dL_383 (fun H locs hw => ?_)
  refine W.eq (g2 := F0 m 386 ls (.int v :: .int v :: [])) rfl ?_
  refine lv_icmp_eq (tgt := 876) hx hb dL_386 (by decide) (fun _ => ?_) (fun z => absurd rfl z)
  exact next _ _ _ _ _ _ _ _ _ _ _ _ _ _ _ _ _ hr1 hw hl (by omega) (by omega)
set_option maxHeartbeats 4000000 in
set_option maxRecDepth 100000 in
theorem lc_9 (E : Bd D cA st p s m #[Value.ref b] meth c code 4 "KindSayingsLaw" ret (LA s)) (hX : va_X b L xs s s.heap) (hbl : b < s.heap.size) (hr : Rel τx τm K N md ml d cw len tx) (hw : GW D (LA s) s (wl ΛX 29 cA adx ax τx ++ wl ΛM 12 cA adm am τm) H locs) (hl : lv_has ls 4 [(0, .ref b), (1, .ref (adr adx ax 0)), (2, .ref (adr adm am 0)), (3, .int (nI i))]) (hi : i + 6 ≤ L) (hL : L ≤ 3072) (hcb : cells + 1 ≤ 600000) (hsb : slots ≤ 50000 + Fs ml) (next : NX p l e s m b below meth c D cA adx adm i ml cells slots Q) : W p l e room_1 s m #[Value.ref b] below meth c H locs cells slots Q (F0 m 391 ls []) := by
  obtain ⟨hx, hb, hml, hown, hts, -⟩ := id E
  have hbA : ¬ LA s b := Nat.not_le.mpr hbl
  have hin : ∀ j : Nat, j < 6 → vp_in (nI i + nI j) L := fun j hj => by rw [nI_add]; exact nI_in (show i + j < L by omega) (by omega)
  have hFm := Fs_max ml
  obtain ⟨τm1, em, hr1⟩ := st_about hr (xs (nI i + nI 1).toNatClampNeg) (xs (nI i + nI 2).toNatClampNeg)
  refine lv_aload_n hx hb dL_391 rfl (lv_at hl 1 rfl) ?_
  refine lv_aload_n hx hb dL_392 rfl (lv_at hl 0 rfl) ?_
  refine lv_iload_n hx hb dL_393 rfl (lv_at hl 3 rfl) ?_
  refine lv_iconst (v := 1) hx hb dL_394 (by decide) ?_
  refine lv_iadd hx hb dL_395 ?_
  refine va_sld hx hb hX hbl hbA hw.2.2 (hin 1 (by omega)) dL_396 ?_
  refine lv_aload_n hx hb dL_397 rfl (lv_at hl 0 rfl) ?_
  refine lv_iload_n hx hb dL_398 rfl (lv_at hl 3 rfl) ?_
  refine lv_iconst (v := 2) hx hb dL_399 (by decide) ?_
  refine lv_iadd hx hb dL_400 ?_
  refine va_sld hx hb hX hbl hbA hw.2.2 (hin 2 (by omega)) dL_401 ?_
  refine lx_E E hw hl.1 cl_L_55 rfl [.int (xs (nI i + nI 1).toNatClampNeg), .int (xs (nI i + nI 2).toNatClampNeg)] (c_X6_about l D cA st adx ax τx (xs (nI i + nI 1).toNatClampNeg) (xs (nI i + nI 2).toNatClampNeg) (fX6_about τx (xs (nI i + nI 1).toNatClampNeg) (xs (nI i + nI 2).toNatClampNeg)) rfl) rfl ⟨Nat.le_of_ble_eq_true rfl, Nat.le_of_ble_eq_true rfl⟩ ⟨by show cells ≤ 600000; omega, by show slots ≤ 7302250; omega⟩ (Nat.le_of_ble_eq_true rfl) rfl dL_402 (fun H locs hw => ?_)
  refine W.eq (g2 := F0 m 405 ls (.int (fX6_about τx (xs (nI i + nI 1).toNatClampNeg) (xs (nI i + nI 2).toNatClampNeg)) :: [])) rfl ?_
  refine lv_aload_n hx hb dL_405 rfl (lv_at hl 2 rfl) ?_
  refine lv_aload_n hx hb dL_406 rfl (lv_at hl 0 rfl) ?_
  refine lv_iload_n hx hb dL_407 rfl (lv_at hl 3 rfl) ?_
  refine lv_iconst (v := 1) hx hb dL_408 (by decide) ?_
  refine lv_iadd hx hb dL_409 ?_
  refine va_sld hx hb hX hbl hbA hw.2.2 (hin 1 (by omega)) dL_410 ?_
  refine lv_aload_n hx hb dL_411 rfl (lv_at hl 0 rfl) ?_
  refine lv_iload_n hx hb dL_412 rfl (lv_at hl 3 rfl) ?_
  refine lv_iconst (v := 2) hx hb dL_413 (by decide) ?_
  refine lv_iadd hx hb dL_414 ?_
  refine va_sld hx hb hX hbl hbA hw.2.2 (hin 2 (by omega)) dL_415 ?_
  refine lm_E E hw hl.1 cl_L_58 rfl [.int (xs (nI i + nI 1).toNatClampNeg), .int (xs (nI i + nI 2).toNatClampNeg)] (c_X7_about l D cA st adm am τm (xs (nI i + nI 1).toNatClampNeg) (xs (nI i + nI 2).toNatClampNeg) ((fX6_about τx (xs (nI i + nI 1).toNatClampNeg) (xs (nI i + nI 2).toNatClampNeg)), τm1) em) rfl ⟨Nat.le_of_ble_eq_true rfl, Nat.le_of_ble_eq_true rfl⟩ ⟨by show cells ≤ 600000; omega, by show slots ≤ 7302250; omega⟩ (Nat.le_of_ble_eq_true rfl) rfl dL_416 (fun H locs hw => ?_)
  refine W.eq (g2 := F0 m 419 ls (.int (fX6_about τx (xs (nI i + nI 1).toNatClampNeg) (xs (nI i + nI 2).toNatClampNeg)) :: .int (fX6_about τx (xs (nI i + nI 1).toNatClampNeg) (xs (nI i + nI 2).toNatClampNeg)) :: [])) rfl ?_
  refine lv_icmp_eq (tgt := 876) hx hb dL_419 (by decide) (fun _ => ?_) (fun z => absurd rfl z)
  exact next _ _ _ _ _ _ _ _ _ _ _ _ _ _ _ _ _ hr1 hw hl (by omega) (by omega)
set_option maxHeartbeats 4000000 in
set_option maxRecDepth 100000 in
theorem lc_10 (E : Bd D cA st p s m #[Value.ref b] meth c code 4 "KindSayingsLaw" ret (LA s)) (hX : va_X b L xs s s.heap) (hbl : b < s.heap.size) (hr : Rel τx τm K N md ml d cw len tx) (hw : GW D (LA s) s (wl ΛX 29 cA adx ax τx ++ wl ΛM 12 cA adm am τm) H locs) (hl : lv_has ls 4 [(0, .ref b), (1, .ref (adr adx ax 0)), (2, .ref (adr adm am 0)), (3, .int (nI i))]) (hi : i + 6 ≤ L) (hL : L ≤ 3072) (hcb : cells + 1 ≤ 600000) (hsb : slots ≤ 50000 + Fs ml) (next : NX p l e s m b below meth c D cA adx adm i ml cells slots Q) : W p l e room_1 s m #[Value.ref b] below meth c H locs cells slots Q (F0 m 424 ls []) := by
  obtain ⟨hx, hb, hml, hown, hts, -⟩ := id E
  have hbA : ¬ LA s b := Nat.not_le.mpr hbl
  have hin : ∀ j : Nat, j < 6 → vp_in (nI i + nI j) L := fun j hj => by rw [nI_add]; exact nI_in (show i + j < L by omega) (by omega)
  have hFm := Fs_max ml
  obtain ⟨v, τx1, τm1, ml1, ex, em, hr1, mv⟩ := st_can hr (xs (nI i + nI 1).toNatClampNeg)
  obtain ⟨Sn, hSn, hFs⟩ := room_step hr hr1 mv
  have hF1 := Fs_max ml1
  refine lv_aload_n hx hb dL_424 rfl (lv_at hl 1 rfl) ?_
  refine lv_aload_n hx hb dL_425 rfl (lv_at hl 0 rfl) ?_
  refine lv_iload_n hx hb dL_426 rfl (lv_at hl 3 rfl) ?_
  refine lv_iconst (v := 1) hx hb dL_427 (by decide) ?_
  refine lv_iadd hx hb dL_428 ?_
  refine va_sld hx hb hX hbl hbA hw.2.2 (hin 1 (by omega)) dL_429 ?_
  refine lx_A E hw hl.1 cl_L_59 rfl [.int (xs (nI i + nI 1).toNatClampNeg)] (d_X6_can l D cA st adx ax τx (xs (nI i + nI 1).toNatClampNeg) (v, τx1) Sn hSn ex) rfl ⟨Nat.le_of_ble_eq_true rfl, Nat.le_of_ble_eq_true rfl⟩ ⟨by show cells + 1 ≤ 600000; omega, by show slots + Sn ≤ 7302250; omega⟩ (Nat.le_of_ble_eq_true rfl) rfl dL_430 (fun ax1 H locs hw => ?_)
  have hl : lv_has ls 4 [(0, .ref b), (1, .ref (adr adx ax1 0)), (2, .ref (adr adm am 0)), (3, .int (nI i))] := hl
  refine W.eq (g2 := F0 m 433 ls (.int v :: [])) rfl ?_
  refine lv_aload_n hx hb dL_433 rfl (lv_at hl 2 rfl) ?_
  refine lv_aload_n hx hb dL_434 rfl (lv_at hl 0 rfl) ?_
  refine lv_iload_n hx hb dL_435 rfl (lv_at hl 3 rfl) ?_
  refine lv_iconst (v := 1) hx hb dL_436 (by decide) ?_
  refine lv_iadd hx hb dL_437 ?_
  refine va_sld hx hb hX hbl hbA hw.2.2 (hin 1 (by omega)) dL_438 ?_
  refine lm_E E hw hl.1 cl_L_62 rfl [.int (xs (nI i + nI 1).toNatClampNeg)] (c_X7_can l D cA st adm am τm (xs (nI i + nI 1).toNatClampNeg) (v, τm1) em) rfl ⟨Nat.le_of_ble_eq_true rfl, Nat.le_of_ble_eq_true rfl⟩ ⟨by show cells + 1 ≤ 600000; omega, by show slots + Sn ≤ 7302250; omega⟩ (Nat.le_of_ble_eq_true rfl) rfl dL_439 (fun H locs hw => ?_)
  refine W.eq (g2 := F0 m 442 ls (.int v :: .int v :: [])) rfl ?_
  refine lv_icmp_eq (tgt := 876) hx hb dL_442 (by decide) (fun _ => ?_) (fun z => absurd rfl z)
  exact next _ _ _ _ _ _ _ _ _ _ _ _ _ _ _ _ _ hr1 hw hl (by omega) (by omega)
set_option maxHeartbeats 4000000 in
set_option maxRecDepth 100000 in
theorem lc_11 (E : Bd D cA st p s m #[Value.ref b] meth c code 4 "KindSayingsLaw" ret (LA s)) (hX : va_X b L xs s s.heap) (hbl : b < s.heap.size) (hr : Rel τx τm K N md ml d cw len tx) (hw : GW D (LA s) s (wl ΛX 29 cA adx ax τx ++ wl ΛM 12 cA adm am τm) H locs) (hl : lv_has ls 4 [(0, .ref b), (1, .ref (adr adx ax 0)), (2, .ref (adr adm am 0)), (3, .int (nI i))]) (hi : i + 6 ≤ L) (hL : L ≤ 3072) (hcb : cells + 1 ≤ 600000) (hsb : slots ≤ 50000 + Fs ml) (next : NX p l e s m b below meth c D cA adx adm i ml cells slots Q) : W p l e room_1 s m #[Value.ref b] below meth c H locs cells slots Q (F0 m 447 ls []) := by
  obtain ⟨hx, hb, hml, hown, hts, -⟩ := id E
  have hbA : ¬ LA s b := Nat.not_le.mpr hbl
  have hin : ∀ j : Nat, j < 6 → vp_in (nI i + nI j) L := fun j hj => by rw [nI_add]; exact nI_in (show i + j < L by omega) (by omega)
  have hFm := Fs_max ml
  obtain ⟨v, τx1, τm1, ml1, ex, em, hr1, mv⟩ := st_least hr (xs (nI i + nI 1).toNatClampNeg) (xs (nI i + nI 2).toNatClampNeg)
  obtain ⟨Sn, hSn, hFs⟩ := room_step hr hr1 mv
  have hF1 := Fs_max ml1
  refine lv_aload_n hx hb dL_447 rfl (lv_at hl 1 rfl) ?_
  refine lv_aload_n hx hb dL_448 rfl (lv_at hl 0 rfl) ?_
  refine lv_iload_n hx hb dL_449 rfl (lv_at hl 3 rfl) ?_
  refine lv_iconst (v := 1) hx hb dL_450 (by decide) ?_
  refine lv_iadd hx hb dL_451 ?_
  refine va_sld hx hb hX hbl hbA hw.2.2 (hin 1 (by omega)) dL_452 ?_
  refine lv_aload_n hx hb dL_453 rfl (lv_at hl 0 rfl) ?_
  refine lv_iload_n hx hb dL_454 rfl (lv_at hl 3 rfl) ?_
  refine lv_iconst (v := 2) hx hb dL_455 (by decide) ?_
  refine lv_iadd hx hb dL_456 ?_
  refine va_sld hx hb hX hbl hbA hw.2.2 (hin 2 (by omega)) dL_457 ?_
  refine lx_A E hw hl.1 cl_L_63 rfl [.int (xs (nI i + nI 1).toNatClampNeg), .int (xs (nI i + nI 2).toNatClampNeg)] (d_X6_least l D cA st adx ax τx (xs (nI i + nI 1).toNatClampNeg) (xs (nI i + nI 2).toNatClampNeg) (v, τx1) Sn hSn ex) rfl ⟨Nat.le_of_ble_eq_true rfl, Nat.le_of_ble_eq_true rfl⟩ ⟨by show cells + 1 ≤ 600000; omega, by show slots + Sn ≤ 7302250; omega⟩ (Nat.le_of_ble_eq_true rfl) rfl dL_458 (fun ax1 H locs hw => ?_)
  have hl : lv_has ls 4 [(0, .ref b), (1, .ref (adr adx ax1 0)), (2, .ref (adr adm am 0)), (3, .int (nI i))] := hl
  refine W.eq (g2 := F0 m 461 ls (.int v :: [])) rfl ?_
  refine lv_aload_n hx hb dL_461 rfl (lv_at hl 2 rfl) ?_
  refine lv_aload_n hx hb dL_462 rfl (lv_at hl 0 rfl) ?_
  refine lv_iload_n hx hb dL_463 rfl (lv_at hl 3 rfl) ?_
  refine lv_iconst (v := 1) hx hb dL_464 (by decide) ?_
  refine lv_iadd hx hb dL_465 ?_
  refine va_sld hx hb hX hbl hbA hw.2.2 (hin 1 (by omega)) dL_466 ?_
  refine lv_aload_n hx hb dL_467 rfl (lv_at hl 0 rfl) ?_
  refine lv_iload_n hx hb dL_468 rfl (lv_at hl 3 rfl) ?_
  refine lv_iconst (v := 2) hx hb dL_469 (by decide) ?_
  refine lv_iadd hx hb dL_470 ?_
  refine va_sld hx hb hX hbl hbA hw.2.2 (hin 2 (by omega)) dL_471 ?_
  refine lm_E E hw hl.1 cl_L_66 rfl [.int (xs (nI i + nI 1).toNatClampNeg), .int (xs (nI i + nI 2).toNatClampNeg)] (c_X7_least l D cA st adm am τm (xs (nI i + nI 1).toNatClampNeg) (xs (nI i + nI 2).toNatClampNeg) (v, τm1) em) rfl ⟨Nat.le_of_ble_eq_true rfl, Nat.le_of_ble_eq_true rfl⟩ ⟨by show cells + 1 ≤ 600000; omega, by show slots + Sn ≤ 7302250; omega⟩ (Nat.le_of_ble_eq_true rfl) rfl dL_472 (fun H locs hw => ?_)
  refine W.eq (g2 := F0 m 475 ls (.int v :: .int v :: [])) rfl ?_
  refine lv_icmp_eq (tgt := 876) hx hb dL_475 (by decide) (fun _ => ?_) (fun z => absurd rfl z)
  exact next _ _ _ _ _ _ _ _ _ _ _ _ _ _ _ _ _ hr1 hw hl (by omega) (by omega)
set_option maxHeartbeats 4000000 in
set_option maxRecDepth 100000 in
theorem lc_12 (E : Bd D cA st p s m #[Value.ref b] meth c code 4 "KindSayingsLaw" ret (LA s)) (hX : va_X b L xs s s.heap) (hbl : b < s.heap.size) (hr : Rel τx τm K N md ml d cw len tx) (hw : GW D (LA s) s (wl ΛX 29 cA adx ax τx ++ wl ΛM 12 cA adm am τm) H locs) (hl : lv_has ls 4 [(0, .ref b), (1, .ref (adr adx ax 0)), (2, .ref (adr adm am 0)), (3, .int (nI i))]) (hi : i + 6 ≤ L) (hL : L ≤ 3072) (hcb : cells + 1 ≤ 600000) (hsb : slots ≤ 50000 + Fs ml) (next : NX p l e s m b below meth c D cA adx adm i ml cells slots Q) : W p l e room_1 s m #[Value.ref b] below meth c H locs cells slots Q (F0 m 480 ls []) := by
  obtain ⟨hx, hb, hml, hown, hts, -⟩ := id E
  have hbA : ¬ LA s b := Nat.not_le.mpr hbl
  have hin : ∀ j : Nat, j < 6 → vp_in (nI i + nI j) L := fun j hj => by rw [nI_add]; exact nI_in (show i + j < L by omega) (by omega)
  have hFm := Fs_max ml
  obtain ⟨v, τx1, τm1, ml1, ex, em, hr1, mv⟩ := st_follows hr (xs (nI i + nI 1).toNatClampNeg) (xs (nI i + nI 2).toNatClampNeg)
  obtain ⟨Sn, hSn, hFs⟩ := room_step hr hr1 mv
  have hF1 := Fs_max ml1
  refine lv_aload_n hx hb dL_480 rfl (lv_at hl 1 rfl) ?_
  refine lv_aload_n hx hb dL_481 rfl (lv_at hl 0 rfl) ?_
  refine lv_iload_n hx hb dL_482 rfl (lv_at hl 3 rfl) ?_
  refine lv_iconst (v := 1) hx hb dL_483 (by decide) ?_
  refine lv_iadd hx hb dL_484 ?_
  refine va_sld hx hb hX hbl hbA hw.2.2 (hin 1 (by omega)) dL_485 ?_
  refine lv_aload_n hx hb dL_486 rfl (lv_at hl 0 rfl) ?_
  refine lv_iload_n hx hb dL_487 rfl (lv_at hl 3 rfl) ?_
  refine lv_iconst (v := 2) hx hb dL_488 (by decide) ?_
  refine lv_iadd hx hb dL_489 ?_
  refine va_sld hx hb hX hbl hbA hw.2.2 (hin 2 (by omega)) dL_490 ?_
  refine lx_A E hw hl.1 cl_L_67 rfl [.int (xs (nI i + nI 1).toNatClampNeg), .int (xs (nI i + nI 2).toNatClampNeg)] (d_X6_follows l D cA st adx ax τx (xs (nI i + nI 1).toNatClampNeg) (xs (nI i + nI 2).toNatClampNeg) (v, τx1) Sn hSn ex) rfl ⟨Nat.le_of_ble_eq_true rfl, Nat.le_of_ble_eq_true rfl⟩ ⟨by show cells + 1 ≤ 600000; omega, by show slots + Sn ≤ 7302250; omega⟩ (Nat.le_of_ble_eq_true rfl) rfl dL_491 (fun ax1 H locs hw => ?_)
  have hl : lv_has ls 4 [(0, .ref b), (1, .ref (adr adx ax1 0)), (2, .ref (adr adm am 0)), (3, .int (nI i))] := hl
  refine W.eq (g2 := F0 m 494 ls (.int v :: [])) rfl ?_
  refine lv_aload_n hx hb dL_494 rfl (lv_at hl 2 rfl) ?_
  refine lv_aload_n hx hb dL_495 rfl (lv_at hl 0 rfl) ?_
  refine lv_iload_n hx hb dL_496 rfl (lv_at hl 3 rfl) ?_
  refine lv_iconst (v := 1) hx hb dL_497 (by decide) ?_
  refine lv_iadd hx hb dL_498 ?_
  refine va_sld hx hb hX hbl hbA hw.2.2 (hin 1 (by omega)) dL_499 ?_
  refine lv_aload_n hx hb dL_500 rfl (lv_at hl 0 rfl) ?_
  refine lv_iload_n hx hb dL_501 rfl (lv_at hl 3 rfl) ?_
  refine lv_iconst (v := 2) hx hb dL_502 (by decide) ?_
  refine lv_iadd hx hb dL_503 ?_
  refine va_sld hx hb hX hbl hbA hw.2.2 (hin 2 (by omega)) dL_504 ?_
  refine lm_E E hw hl.1 cl_L_70 rfl [.int (xs (nI i + nI 1).toNatClampNeg), .int (xs (nI i + nI 2).toNatClampNeg)] (c_X7_follows l D cA st adm am τm (xs (nI i + nI 1).toNatClampNeg) (xs (nI i + nI 2).toNatClampNeg) (v, τm1) em) rfl ⟨Nat.le_of_ble_eq_true rfl, Nat.le_of_ble_eq_true rfl⟩ ⟨by show cells + 1 ≤ 600000; omega, by show slots + Sn ≤ 7302250; omega⟩ (Nat.le_of_ble_eq_true rfl) rfl dL_505 (fun H locs hw => ?_)
  refine W.eq (g2 := F0 m 508 ls (.int v :: .int v :: [])) rfl ?_
  refine lv_icmp_eq (tgt := 876) hx hb dL_508 (by decide) (fun _ => ?_) (fun z => absurd rfl z)
  exact next _ _ _ _ _ _ _ _ _ _ _ _ _ _ _ _ _ hr1 hw hl (by omega) (by omega)
set_option maxHeartbeats 4000000 in
set_option maxRecDepth 100000 in
theorem lc_13 (E : Bd D cA st p s m #[Value.ref b] meth c code 4 "KindSayingsLaw" ret (LA s)) (hX : va_X b L xs s s.heap) (hbl : b < s.heap.size) (hr : Rel τx τm K N md ml d cw len tx) (hw : GW D (LA s) s (wl ΛX 29 cA adx ax τx ++ wl ΛM 12 cA adm am τm) H locs) (hl : lv_has ls 4 [(0, .ref b), (1, .ref (adr adx ax 0)), (2, .ref (adr adm am 0)), (3, .int (nI i))]) (hi : i + 6 ≤ L) (hL : L ≤ 3072) (hcb : cells + 1 ≤ 600000) (hsb : slots ≤ 50000 + Fs ml) (next : NX p l e s m b below meth c D cA adx adm i ml cells slots Q) : W p l e room_1 s m #[Value.ref b] below meth c H locs cells slots Q (F0 m 513 ls []) := by
  obtain ⟨hx, hb, hml, hown, hts, -⟩ := id E
  have hbA : ¬ LA s b := Nat.not_le.mpr hbl
  have hin : ∀ j : Nat, j < 6 → vp_in (nI i + nI j) L := fun j hj => by rw [nI_add]; exact nI_in (show i + j < L by omega) (by omega)
  have hFm := Fs_max ml
  obtain ⟨v, τx1, τm1, ml1, ex, em, hr1, mv⟩ := st_against hr (xs (nI i + nI 1).toNatClampNeg) (xs (nI i + nI 2).toNatClampNeg) (xs (nI i + nI 3).toNatClampNeg)
  obtain ⟨Sn, hSn, hFs⟩ := room_step hr hr1 mv
  have hF1 := Fs_max ml1
  refine lv_aload_n hx hb dL_513 rfl (lv_at hl 1 rfl) ?_
  refine lv_aload_n hx hb dL_514 rfl (lv_at hl 0 rfl) ?_
  refine lv_iload_n hx hb dL_515 rfl (lv_at hl 3 rfl) ?_
  refine lv_iconst (v := 1) hx hb dL_516 (by decide) ?_
  refine lv_iadd hx hb dL_517 ?_
  refine va_sld hx hb hX hbl hbA hw.2.2 (hin 1 (by omega)) dL_518 ?_
  refine lv_aload_n hx hb dL_519 rfl (lv_at hl 0 rfl) ?_
  refine lv_iload_n hx hb dL_520 rfl (lv_at hl 3 rfl) ?_
  refine lv_iconst (v := 2) hx hb dL_521 (by decide) ?_
  refine lv_iadd hx hb dL_522 ?_
  refine va_sld hx hb hX hbl hbA hw.2.2 (hin 2 (by omega)) dL_523 ?_
  refine lv_aload_n hx hb dL_524 rfl (lv_at hl 0 rfl) ?_
  refine lv_iload_n hx hb dL_525 rfl (lv_at hl 3 rfl) ?_
  refine lv_iconst (v := 3) hx hb dL_526 (by decide) ?_
  refine lv_iadd hx hb dL_527 ?_
  refine va_sld hx hb hX hbl hbA hw.2.2 (hin 3 (by omega)) dL_528 ?_
  refine lx_A E hw hl.1 cl_L_71 rfl [.int (xs (nI i + nI 1).toNatClampNeg), .int (xs (nI i + nI 2).toNatClampNeg), .int (xs (nI i + nI 3).toNatClampNeg)] (d_X6_against l D cA st adx ax τx (xs (nI i + nI 1).toNatClampNeg) (xs (nI i + nI 2).toNatClampNeg) (xs (nI i + nI 3).toNatClampNeg) (v, τx1) Sn hSn ex) rfl ⟨Nat.le_of_ble_eq_true rfl, Nat.le_of_ble_eq_true rfl⟩ ⟨by show cells + 1 ≤ 600000; omega, by show slots + Sn ≤ 7302250; omega⟩ (Nat.le_of_ble_eq_true rfl) rfl dL_529 (fun ax1 H locs hw => ?_)
  have hl : lv_has ls 4 [(0, .ref b), (1, .ref (adr adx ax1 0)), (2, .ref (adr adm am 0)), (3, .int (nI i))] := hl
  refine W.eq (g2 := F0 m 532 ls (.int v :: [])) rfl ?_
  refine lv_aload_n hx hb dL_532 rfl (lv_at hl 2 rfl) ?_
  refine lv_aload_n hx hb dL_533 rfl (lv_at hl 0 rfl) ?_
  refine lv_iload_n hx hb dL_534 rfl (lv_at hl 3 rfl) ?_
  refine lv_iconst (v := 1) hx hb dL_535 (by decide) ?_
  refine lv_iadd hx hb dL_536 ?_
  refine va_sld hx hb hX hbl hbA hw.2.2 (hin 1 (by omega)) dL_537 ?_
  refine lv_aload_n hx hb dL_538 rfl (lv_at hl 0 rfl) ?_
  refine lv_iload_n hx hb dL_539 rfl (lv_at hl 3 rfl) ?_
  refine lv_iconst (v := 2) hx hb dL_540 (by decide) ?_
  refine lv_iadd hx hb dL_541 ?_
  refine va_sld hx hb hX hbl hbA hw.2.2 (hin 2 (by omega)) dL_542 ?_
  refine lv_aload_n hx hb dL_543 rfl (lv_at hl 0 rfl) ?_
  refine lv_iload_n hx hb dL_544 rfl (lv_at hl 3 rfl) ?_
  refine lv_iconst (v := 3) hx hb dL_545 (by decide) ?_
  refine lv_iadd hx hb dL_546 ?_
  refine va_sld hx hb hX hbl hbA hw.2.2 (hin 3 (by omega)) dL_547 ?_
  refine lm_E E hw hl.1 cl_L_75 rfl [.int (xs (nI i + nI 1).toNatClampNeg), .int (xs (nI i + nI 2).toNatClampNeg), .int (xs (nI i + nI 3).toNatClampNeg)] (c_X7_against l D cA st adm am τm (xs (nI i + nI 1).toNatClampNeg) (xs (nI i + nI 2).toNatClampNeg) (xs (nI i + nI 3).toNatClampNeg) (v, τm1) em) rfl ⟨Nat.le_of_ble_eq_true rfl, Nat.le_of_ble_eq_true rfl⟩ ⟨by show cells + 1 ≤ 600000; omega, by show slots + Sn ≤ 7302250; omega⟩ (Nat.le_of_ble_eq_true rfl) rfl dL_548 (fun H locs hw => ?_)
  refine W.eq (g2 := F0 m 551 ls (.int v :: .int v :: [])) rfl ?_
  refine lv_icmp_eq (tgt := 876) hx hb dL_551 (by decide) (fun _ => ?_) (fun z => absurd rfl z)
  exact next _ _ _ _ _ _ _ _ _ _ _ _ _ _ _ _ _ hr1 hw hl (by omega) (by omega)
set_option maxHeartbeats 4000000 in
set_option maxRecDepth 100000 in
theorem lc_14 (E : Bd D cA st p s m #[Value.ref b] meth c code 4 "KindSayingsLaw" ret (LA s)) (hX : va_X b L xs s s.heap) (hbl : b < s.heap.size) (hr : Rel τx τm K N md ml d cw len tx) (hw : GW D (LA s) s (wl ΛX 29 cA adx ax τx ++ wl ΛM 12 cA adm am τm) H locs) (hl : lv_has ls 4 [(0, .ref b), (1, .ref (adr adx ax 0)), (2, .ref (adr adm am 0)), (3, .int (nI i))]) (hi : i + 6 ≤ L) (hL : L ≤ 3072) (hcb : cells + 1 ≤ 600000) (hsb : slots ≤ 50000 + Fs ml) (next : NX p l e s m b below meth c D cA adx adm i ml cells slots Q) : W p l e room_1 s m #[Value.ref b] below meth c H locs cells slots Q (F0 m 556 ls []) := by
  obtain ⟨hx, hb, hml, hown, hts, -⟩ := id E
  have hbA : ¬ LA s b := Nat.not_le.mpr hbl
  have hin : ∀ j : Nat, j < 6 → vp_in (nI i + nI j) L := fun j hj => by rw [nI_add]; exact nI_in (show i + j < L by omega) (by omega)
  have hFm := Fs_max ml
  obtain ⟨v, τx1, τm1, ml1, ex, em, hr1, mv⟩ := st_unsaid hr (xs (nI i + nI 1).toNatClampNeg)
  obtain ⟨Sn, hSn, hFs⟩ := room_step hr hr1 mv
  have hF1 := Fs_max ml1
  refine lv_aload_n hx hb dL_556 rfl (lv_at hl 1 rfl) ?_
  refine lv_aload_n hx hb dL_557 rfl (lv_at hl 0 rfl) ?_
  refine lv_iload_n hx hb dL_558 rfl (lv_at hl 3 rfl) ?_
  refine lv_iconst (v := 1) hx hb dL_559 (by decide) ?_
  refine lv_iadd hx hb dL_560 ?_
  refine va_sld hx hb hX hbl hbA hw.2.2 (hin 1 (by omega)) dL_561 ?_
  refine lx_A E hw hl.1 cl_L_76 rfl [.int (xs (nI i + nI 1).toNatClampNeg)] (d_X6_unsaid l D cA st adx ax τx (xs (nI i + nI 1).toNatClampNeg) (v, τx1) Sn hSn ex) rfl ⟨Nat.le_of_ble_eq_true rfl, Nat.le_of_ble_eq_true rfl⟩ ⟨by show cells + 1 ≤ 600000; omega, by show slots + Sn ≤ 7302250; omega⟩ (Nat.le_of_ble_eq_true rfl) rfl dL_562 (fun ax1 H locs hw => ?_)
  have hl : lv_has ls 4 [(0, .ref b), (1, .ref (adr adx ax1 0)), (2, .ref (adr adm am 0)), (3, .int (nI i))] := hl
  refine W.eq (g2 := F0 m 565 ls (.int v :: [])) rfl ?_
  refine lv_aload_n hx hb dL_565 rfl (lv_at hl 2 rfl) ?_
  refine lv_aload_n hx hb dL_566 rfl (lv_at hl 0 rfl) ?_
  refine lv_iload_n hx hb dL_567 rfl (lv_at hl 3 rfl) ?_
  refine lv_iconst (v := 1) hx hb dL_568 (by decide) ?_
  refine lv_iadd hx hb dL_569 ?_
  refine va_sld hx hb hX hbl hbA hw.2.2 (hin 1 (by omega)) dL_570 ?_
  refine lm_E E hw hl.1 cl_L_79 rfl [.int (xs (nI i + nI 1).toNatClampNeg)] (c_X7_unsaid l D cA st adm am τm (xs (nI i + nI 1).toNatClampNeg) (v, τm1) em) rfl ⟨Nat.le_of_ble_eq_true rfl, Nat.le_of_ble_eq_true rfl⟩ ⟨by show cells + 1 ≤ 600000; omega, by show slots + Sn ≤ 7302250; omega⟩ (Nat.le_of_ble_eq_true rfl) rfl dL_571 (fun H locs hw => ?_)
  refine W.eq (g2 := F0 m 574 ls (.int v :: .int v :: [])) rfl ?_
  refine lv_icmp_eq (tgt := 876) hx hb dL_574 (by decide) (fun _ => ?_) (fun z => absurd rfl z)
  exact next _ _ _ _ _ _ _ _ _ _ _ _ _ _ _ _ _ hr1 hw hl (by omega) (by omega)
set_option maxHeartbeats 4000000 in
set_option maxRecDepth 100000 in
theorem lc_15 (E : Bd D cA st p s m #[Value.ref b] meth c code 4 "KindSayingsLaw" ret (LA s)) (hX : va_X b L xs s s.heap) (hbl : b < s.heap.size) (hr : Rel τx τm K N md ml d cw len tx) (hw : GW D (LA s) s (wl ΛX 29 cA adx ax τx ++ wl ΛM 12 cA adm am τm) H locs) (hl : lv_has ls 4 [(0, .ref b), (1, .ref (adr adx ax 0)), (2, .ref (adr adm am 0)), (3, .int (nI i))]) (hi : i + 6 ≤ L) (hL : L ≤ 3072) (hcb : cells + 1 ≤ 600000) (hsb : slots ≤ 50000 + Fs ml) (next : NX p l e s m b below meth c D cA adx adm i ml cells slots Q) : W p l e room_1 s m #[Value.ref b] below meth c H locs cells slots Q (F0 m 579 ls []) := by
  obtain ⟨hx, hb, hml, hown, hts, -⟩ := id E
  have hbA : ¬ LA s b := Nat.not_le.mpr hbl
  have hin : ∀ j : Nat, j < 6 → vp_in (nI i + nI j) L := fun j hj => by rw [nI_add]; exact nI_in (show i + j < L by omega) (by omega)
  have hFm := Fs_max ml
  obtain ⟨v, τx1, τm1, ml1, ex, em, hr1, mv⟩ := st_clash hr (xs (nI i + nI 1).toNatClampNeg) (xs (nI i + nI 2).toNatClampNeg)
  obtain ⟨Sn, hSn, hFs⟩ := room_step hr hr1 mv
  have hF1 := Fs_max ml1
  refine lv_aload_n hx hb dL_579 rfl (lv_at hl 1 rfl) ?_
  refine lv_aload_n hx hb dL_580 rfl (lv_at hl 0 rfl) ?_
  refine lv_iload_n hx hb dL_581 rfl (lv_at hl 3 rfl) ?_
  refine lv_iconst (v := 1) hx hb dL_582 (by decide) ?_
  refine lv_iadd hx hb dL_583 ?_
  refine va_sld hx hb hX hbl hbA hw.2.2 (hin 1 (by omega)) dL_584 ?_
  refine lv_aload_n hx hb dL_585 rfl (lv_at hl 0 rfl) ?_
  refine lv_iload_n hx hb dL_586 rfl (lv_at hl 3 rfl) ?_
  refine lv_iconst (v := 2) hx hb dL_587 (by decide) ?_
  refine lv_iadd hx hb dL_588 ?_
  refine va_sld hx hb hX hbl hbA hw.2.2 (hin 2 (by omega)) dL_589 ?_
  refine lx_A E hw hl.1 cl_L_80 rfl [.int (xs (nI i + nI 1).toNatClampNeg), .int (xs (nI i + nI 2).toNatClampNeg)] (d_X6_clash l D cA st adx ax τx (xs (nI i + nI 1).toNatClampNeg) (xs (nI i + nI 2).toNatClampNeg) (v, τx1) Sn hSn ex) rfl ⟨Nat.le_of_ble_eq_true rfl, Nat.le_of_ble_eq_true rfl⟩ ⟨by show cells + 1 ≤ 600000; omega, by show slots + Sn ≤ 7302250; omega⟩ (Nat.le_of_ble_eq_true rfl) rfl dL_590 (fun ax1 H locs hw => ?_)
  have hl : lv_has ls 4 [(0, .ref b), (1, .ref (adr adx ax1 0)), (2, .ref (adr adm am 0)), (3, .int (nI i))] := hl
  refine W.eq (g2 := F0 m 593 ls (.int v :: [])) rfl ?_
  refine lv_aload_n hx hb dL_593 rfl (lv_at hl 2 rfl) ?_
  refine lv_aload_n hx hb dL_594 rfl (lv_at hl 0 rfl) ?_
  refine lv_iload_n hx hb dL_595 rfl (lv_at hl 3 rfl) ?_
  refine lv_iconst (v := 1) hx hb dL_596 (by decide) ?_
  refine lv_iadd hx hb dL_597 ?_
  refine va_sld hx hb hX hbl hbA hw.2.2 (hin 1 (by omega)) dL_598 ?_
  refine lv_aload_n hx hb dL_599 rfl (lv_at hl 0 rfl) ?_
  refine lv_iload_n hx hb dL_600 rfl (lv_at hl 3 rfl) ?_
  refine lv_iconst (v := 2) hx hb dL_601 (by decide) ?_
  refine lv_iadd hx hb dL_602 ?_
  refine va_sld hx hb hX hbl hbA hw.2.2 (hin 2 (by omega)) dL_603 ?_
  refine lm_E E hw hl.1 cl_L_83 rfl [.int (xs (nI i + nI 1).toNatClampNeg), .int (xs (nI i + nI 2).toNatClampNeg)] (c_X7_clash l D cA st adm am τm (xs (nI i + nI 1).toNatClampNeg) (xs (nI i + nI 2).toNatClampNeg) (v, τm1) em) rfl ⟨Nat.le_of_ble_eq_true rfl, Nat.le_of_ble_eq_true rfl⟩ ⟨by show cells + 1 ≤ 600000; omega, by show slots + Sn ≤ 7302250; omega⟩ (Nat.le_of_ble_eq_true rfl) rfl dL_604 (fun H locs hw => ?_)
  refine W.eq (g2 := F0 m 607 ls (.int v :: .int v :: [])) rfl ?_
  refine lv_icmp_eq (tgt := 876) hx hb dL_607 (by decide) (fun _ => ?_) (fun z => absurd rfl z)
  exact next _ _ _ _ _ _ _ _ _ _ _ _ _ _ _ _ _ hr1 hw hl (by omega) (by omega)
set_option maxHeartbeats 4000000 in
set_option maxRecDepth 100000 in
theorem lc_16 (E : Bd D cA st p s m #[Value.ref b] meth c code 4 "KindSayingsLaw" ret (LA s)) (hX : va_X b L xs s s.heap) (hbl : b < s.heap.size) (hr : Rel τx τm K N md ml d cw len tx) (hw : GW D (LA s) s (wl ΛX 29 cA adx ax τx ++ wl ΛM 12 cA adm am τm) H locs) (hl : lv_has ls 4 [(0, .ref b), (1, .ref (adr adx ax 0)), (2, .ref (adr adm am 0)), (3, .int (nI i))]) (hi : i + 6 ≤ L) (hL : L ≤ 3072) (hcb : cells + 1 ≤ 600000) (hsb : slots ≤ 50000 + Fs ml) (next : NX p l e s m b below meth c D cA adx adm i ml cells slots Q) : W p l e room_1 s m #[Value.ref b] below meth c H locs cells slots Q (F0 m 612 ls []) := by
  obtain ⟨hx, hb, hml, hown, hts, -⟩ := id E
  have hbA : ¬ LA s b := Nat.not_le.mpr hbl
  have hin : ∀ j : Nat, j < 6 → vp_in (nI i + nI j) L := fun j hj => by rw [nI_add]; exact nI_in (show i + j < L by omega) (by omega)
  have hFm := Fs_max ml
  obtain ⟨v, τx1, τm1, ml1, ex, em, hr1, mv⟩ := st_ask hr (xs (nI i + nI 1).toNatClampNeg)
  obtain ⟨Sn, hSn, hFs⟩ := room_step hr hr1 mv
  have hF1 := Fs_max ml1
  refine lv_aload_n hx hb dL_612 rfl (lv_at hl 1 rfl) ?_
  refine lv_aload_n hx hb dL_613 rfl (lv_at hl 0 rfl) ?_
  refine lv_iload_n hx hb dL_614 rfl (lv_at hl 3 rfl) ?_
  refine lv_iconst (v := 1) hx hb dL_615 (by decide) ?_
  refine lv_iadd hx hb dL_616 ?_
  refine va_sld hx hb hX hbl hbA hw.2.2 (hin 1 (by omega)) dL_617 ?_
  refine lx_A E hw hl.1 cl_L_84 rfl [.int (xs (nI i + nI 1).toNatClampNeg)] (d_X6_ask l D cA st adx ax τx (xs (nI i + nI 1).toNatClampNeg) (v, τx1) Sn hSn ex) rfl ⟨Nat.le_of_ble_eq_true rfl, Nat.le_of_ble_eq_true rfl⟩ ⟨by show cells + 1 ≤ 600000; omega, by show slots + Sn ≤ 7302250; omega⟩ (Nat.le_of_ble_eq_true rfl) rfl dL_618 (fun ax1 H locs hw => ?_)
  have hl : lv_has ls 4 [(0, .ref b), (1, .ref (adr adx ax1 0)), (2, .ref (adr adm am 0)), (3, .int (nI i))] := hl
  refine W.eq (g2 := F0 m 621 ls (.int v :: [])) rfl ?_
  refine lv_aload_n hx hb dL_621 rfl (lv_at hl 2 rfl) ?_
  refine lv_aload_n hx hb dL_622 rfl (lv_at hl 0 rfl) ?_
  refine lv_iload_n hx hb dL_623 rfl (lv_at hl 3 rfl) ?_
  refine lv_iconst (v := 1) hx hb dL_624 (by decide) ?_
  refine lv_iadd hx hb dL_625 ?_
  refine va_sld hx hb hX hbl hbA hw.2.2 (hin 1 (by omega)) dL_626 ?_
  refine lm_E E hw hl.1 cl_L_87 rfl [.int (xs (nI i + nI 1).toNatClampNeg)] (c_X7_ask l D cA st adm am τm (xs (nI i + nI 1).toNatClampNeg) (v, τm1) em) rfl ⟨Nat.le_of_ble_eq_true rfl, Nat.le_of_ble_eq_true rfl⟩ ⟨by show cells + 1 ≤ 600000; omega, by show slots + Sn ≤ 7302250; omega⟩ (Nat.le_of_ble_eq_true rfl) rfl dL_627 (fun H locs hw => ?_)
  refine W.eq (g2 := F0 m 630 ls (.int v :: .int v :: [])) rfl ?_
  refine lv_icmp_eq (tgt := 876) hx hb dL_630 (by decide) (fun _ => ?_) (fun z => absurd rfl z)
  exact next _ _ _ _ _ _ _ _ _ _ _ _ _ _ _ _ _ hr1 hw hl (by omega) (by omega)
set_option maxHeartbeats 4000000 in
set_option maxRecDepth 100000 in
theorem lc_17 (E : Bd D cA st p s m #[Value.ref b] meth c code 4 "KindSayingsLaw" ret (LA s)) (hX : va_X b L xs s s.heap) (hbl : b < s.heap.size) (hr : Rel τx τm K N md ml d cw len tx) (hw : GW D (LA s) s (wl ΛX 29 cA adx ax τx ++ wl ΛM 12 cA adm am τm) H locs) (hl : lv_has ls 4 [(0, .ref b), (1, .ref (adr adx ax 0)), (2, .ref (adr adm am 0)), (3, .int (nI i))]) (hi : i + 6 ≤ L) (hL : L ≤ 3072) (hcb : cells + 1 ≤ 600000) (hsb : slots ≤ 50000 + Fs ml) (next : NX p l e s m b below meth c D cA adx adm i ml cells slots Q) : W p l e room_1 s m #[Value.ref b] below meth c H locs cells slots Q (F0 m 635 ls []) := by
  obtain ⟨hx, hb, hml, hown, hts, -⟩ := id E
  have hbA : ¬ LA s b := Nat.not_le.mpr hbl
  have hin : ∀ j : Nat, j < 6 → vp_in (nI i + nI j) L := fun j hj => by rw [nI_add]; exact nI_in (show i + j < L by omega) (by omega)
  have hFm := Fs_max ml
  obtain ⟨v, τx1, τm1, ml1, ex, em, hr1, mv⟩ := st_heaps hr (xs (nI i + nI 1).toNatClampNeg)
  obtain ⟨Sn, hSn, hFs⟩ := room_step hr hr1 mv
  have hF1 := Fs_max ml1
  refine lv_aload_n hx hb dL_635 rfl (lv_at hl 1 rfl) ?_
  refine lv_aload_n hx hb dL_636 rfl (lv_at hl 0 rfl) ?_
  refine lv_iload_n hx hb dL_637 rfl (lv_at hl 3 rfl) ?_
  refine lv_iconst (v := 1) hx hb dL_638 (by decide) ?_
  refine lv_iadd hx hb dL_639 ?_
  refine va_sld hx hb hX hbl hbA hw.2.2 (hin 1 (by omega)) dL_640 ?_
  refine lx_A E hw hl.1 cl_L_88 rfl [.int (xs (nI i + nI 1).toNatClampNeg)] (d_X6_heaps l D cA st adx ax τx (xs (nI i + nI 1).toNatClampNeg) (v, τx1) Sn hSn ex) rfl ⟨Nat.le_of_ble_eq_true rfl, Nat.le_of_ble_eq_true rfl⟩ ⟨by show cells + 1 ≤ 600000; omega, by show slots + Sn ≤ 7302250; omega⟩ (Nat.le_of_ble_eq_true rfl) rfl dL_641 (fun ax1 H locs hw => ?_)
  have hl : lv_has ls 4 [(0, .ref b), (1, .ref (adr adx ax1 0)), (2, .ref (adr adm am 0)), (3, .int (nI i))] := hl
  refine W.eq (g2 := F0 m 644 ls (.int v :: [])) rfl ?_
  refine lv_aload_n hx hb dL_644 rfl (lv_at hl 2 rfl) ?_
  refine lv_aload_n hx hb dL_645 rfl (lv_at hl 0 rfl) ?_
  refine lv_iload_n hx hb dL_646 rfl (lv_at hl 3 rfl) ?_
  refine lv_iconst (v := 1) hx hb dL_647 (by decide) ?_
  refine lv_iadd hx hb dL_648 ?_
  refine va_sld hx hb hX hbl hbA hw.2.2 (hin 1 (by omega)) dL_649 ?_
  refine lm_E E hw hl.1 cl_L_91 rfl [.int (xs (nI i + nI 1).toNatClampNeg)] (c_X7_heaps l D cA st adm am τm (xs (nI i + nI 1).toNatClampNeg) (v, τm1) em) rfl ⟨Nat.le_of_ble_eq_true rfl, Nat.le_of_ble_eq_true rfl⟩ ⟨by show cells + 1 ≤ 600000; omega, by show slots + Sn ≤ 7302250; omega⟩ (Nat.le_of_ble_eq_true rfl) rfl dL_650 (fun H locs hw => ?_)
  refine W.eq (g2 := F0 m 653 ls (.int v :: .int v :: [])) rfl ?_
  refine lv_icmp_eq (tgt := 876) hx hb dL_653 (by decide) (fun _ => ?_) (fun z => absurd rfl z)
  exact next _ _ _ _ _ _ _ _ _ _ _ _ _ _ _ _ _ hr1 hw hl (by omega) (by omega)
set_option maxHeartbeats 4000000 in
set_option maxRecDepth 100000 in
theorem lc_18 (E : Bd D cA st p s m #[Value.ref b] meth c code 4 "KindSayingsLaw" ret (LA s)) (hX : va_X b L xs s s.heap) (hbl : b < s.heap.size) (hr : Rel τx τm K N md ml d cw len tx) (hw : GW D (LA s) s (wl ΛX 29 cA adx ax τx ++ wl ΛM 12 cA adm am τm) H locs) (hl : lv_has ls 4 [(0, .ref b), (1, .ref (adr adx ax 0)), (2, .ref (adr adm am 0)), (3, .int (nI i))]) (hi : i + 6 ≤ L) (hL : L ≤ 3072) (hcb : cells + 1 ≤ 600000) (hsb : slots ≤ 50000 + Fs ml) (next : NX p l e s m b below meth c D cA adx adm i ml cells slots Q) : W p l e room_1 s m #[Value.ref b] below meth c H locs cells slots Q (F0 m 658 ls []) := by
  obtain ⟨hx, hb, hml, hown, hts, -⟩ := id E
  have hbA : ¬ LA s b := Nat.not_le.mpr hbl
  have hin : ∀ j : Nat, j < 6 → vp_in (nI i + nI j) L := fun j hj => by rw [nI_add]; exact nI_in (show i + j < L by omega) (by omega)
  have hFm := Fs_max ml
  obtain ⟨v, τx1, τm1, ml1, ex, em, hr1, mv⟩ := st_twin hr (xs (nI i + nI 1).toNatClampNeg)
  obtain ⟨Sn, hSn, hFs⟩ := room_step hr hr1 mv
  have hF1 := Fs_max ml1
  refine lv_aload_n hx hb dL_658 rfl (lv_at hl 1 rfl) ?_
  refine lv_aload_n hx hb dL_659 rfl (lv_at hl 0 rfl) ?_
  refine lv_iload_n hx hb dL_660 rfl (lv_at hl 3 rfl) ?_
  refine lv_iconst (v := 1) hx hb dL_661 (by decide) ?_
  refine lv_iadd hx hb dL_662 ?_
  refine va_sld hx hb hX hbl hbA hw.2.2 (hin 1 (by omega)) dL_663 ?_
  refine lx_A E hw hl.1 cl_L_92 rfl [.int (xs (nI i + nI 1).toNatClampNeg)] (d_X6_twin l D cA st adx ax τx (xs (nI i + nI 1).toNatClampNeg) (v, τx1) Sn hSn ex) rfl ⟨Nat.le_of_ble_eq_true rfl, Nat.le_of_ble_eq_true rfl⟩ ⟨by show cells + 1 ≤ 600000; omega, by show slots + Sn ≤ 7302250; omega⟩ (Nat.le_of_ble_eq_true rfl) rfl dL_664 (fun ax1 H locs hw => ?_)
  have hl : lv_has ls 4 [(0, .ref b), (1, .ref (adr adx ax1 0)), (2, .ref (adr adm am 0)), (3, .int (nI i))] := hl
  refine W.eq (g2 := F0 m 667 ls (.int v :: [])) rfl ?_
  refine lv_aload_n hx hb dL_667 rfl (lv_at hl 2 rfl) ?_
  refine lv_aload_n hx hb dL_668 rfl (lv_at hl 0 rfl) ?_
  refine lv_iload_n hx hb dL_669 rfl (lv_at hl 3 rfl) ?_
  refine lv_iconst (v := 1) hx hb dL_670 (by decide) ?_
  refine lv_iadd hx hb dL_671 ?_
  refine va_sld hx hb hX hbl hbA hw.2.2 (hin 1 (by omega)) dL_672 ?_
  refine lm_E E hw hl.1 cl_L_95 rfl [.int (xs (nI i + nI 1).toNatClampNeg)] (c_X7_twin l D cA st adm am τm (xs (nI i + nI 1).toNatClampNeg) (v, τm1) em) rfl ⟨Nat.le_of_ble_eq_true rfl, Nat.le_of_ble_eq_true rfl⟩ ⟨by show cells + 1 ≤ 600000; omega, by show slots + Sn ≤ 7302250; omega⟩ (Nat.le_of_ble_eq_true rfl) rfl dL_673 (fun H locs hw => ?_)
  refine W.eq (g2 := F0 m 676 ls (.int v :: .int v :: [])) rfl ?_
  refine lv_icmp_eq (tgt := 876) hx hb dL_676 (by decide) (fun _ => ?_) (fun z => absurd rfl z)
  exact next _ _ _ _ _ _ _ _ _ _ _ _ _ _ _ _ _ hr1 hw hl (by omega) (by omega)
set_option maxHeartbeats 4000000 in
set_option maxRecDepth 100000 in
theorem lc_19 (E : Bd D cA st p s m #[Value.ref b] meth c code 4 "KindSayingsLaw" ret (LA s)) (hX : va_X b L xs s s.heap) (hbl : b < s.heap.size) (hr : Rel τx τm K N md ml d cw len tx) (hw : GW D (LA s) s (wl ΛX 29 cA adx ax τx ++ wl ΛM 12 cA adm am τm) H locs) (hl : lv_has ls 4 [(0, .ref b), (1, .ref (adr adx ax 0)), (2, .ref (adr adm am 0)), (3, .int (nI i))]) (hi : i + 6 ≤ L) (hL : L ≤ 3072) (hcb : cells + 1 ≤ 600000) (hsb : slots ≤ 50000 + Fs ml) (next : NX p l e s m b below meth c D cA adx adm i ml cells slots Q) : W p l e room_1 s m #[Value.ref b] below meth c H locs cells slots Q (F0 m 681 ls []) := by
  obtain ⟨hx, hb, hml, hown, hts, -⟩ := id E
  have hbA : ¬ LA s b := Nat.not_le.mpr hbl
  have hin : ∀ j : Nat, j < 6 → vp_in (nI i + nI j) L := fun j hj => by rw [nI_add]; exact nI_in (show i + j < L by omega) (by omega)
  have hFm := Fs_max ml
  obtain ⟨v, τx1, τm1, z0, ex, em, hr1⟩ := st_moods hr (xs (nI i + nI 1).toNatClampNeg)
  refine lv_aload_n hx hb dL_681 rfl (lv_at hl 1 rfl) ?_
  refine lv_aload_n hx hb dL_682 rfl (lv_at hl 0 rfl) ?_
  refine lv_iload_n hx hb dL_683 rfl (lv_at hl 3 rfl) ?_
  refine lv_iconst (v := 1) hx hb dL_684 (by decide) ?_
  refine lv_iadd hx hb dL_685 ?_
  refine va_sld hx hb hX hbl hbA hw.2.2 (hin 1 (by omega)) dL_686 ?_
  refine lx_E E hw hl.1 cl_L_96 rfl [.int (xs (nI i + nI 1).toNatClampNeg)] (c_X6_moods l D cA st adx ax τx (xs (nI i + nI 1).toNatClampNeg) (v, τx1) ex) rfl ⟨Nat.le_of_ble_eq_true rfl, Nat.le_of_ble_eq_true rfl⟩ ⟨by show cells ≤ 600000; omega, by show slots ≤ 7302250; omega⟩ (Nat.le_of_ble_eq_true rfl) rfl dL_687 (fun H locs hw => ?_)
  refine W.eq (g2 := F0 m 690 ls (.int v :: [])) rfl ?_
  refine lv_aload_n hx hb dL_690 rfl (lv_at hl 2 rfl) ?_
  refine lv_aload_n hx hb dL_691 rfl (lv_at hl 0 rfl) ?_
  refine lv_iload_n hx hb dL_692 rfl (lv_at hl 3 rfl) ?_
  refine lv_iconst (v := 1) hx hb dL_693 (by decide) ?_
  refine lv_iadd hx hb dL_694 ?_
  refine va_sld hx hb hX hbl hbA hw.2.2 (hin 1 (by omega)) dL_695 ?_
  refine lm_E E hw hl.1 cl_L_99 rfl [.int (xs (nI i + nI 1).toNatClampNeg)] (c_X7_moods l D cA st adm am τm (xs (nI i + nI 1).toNatClampNeg) (v, τm1) em) rfl ⟨Nat.le_of_ble_eq_true rfl, Nat.le_of_ble_eq_true rfl⟩ ⟨by show cells ≤ 600000; omega, by show slots ≤ 7302250; omega⟩ (Nat.le_of_ble_eq_true rfl) rfl dL_696 (fun H locs hw => ?_)
  refine W.eq (g2 := F0 m 699 ls (.int v :: .int v :: [])) rfl ?_
  refine lv_icmp_eq (tgt := 876) hx hb dL_699 (by decide) (fun _ => ?_) (fun z => absurd rfl z)
  exact next _ _ _ _ _ _ _ _ _ _ _ _ _ _ _ _ _ hr1 hw hl (by omega) (by omega)
set_option maxHeartbeats 4000000 in
set_option maxRecDepth 100000 in
theorem lc_20 (E : Bd D cA st p s m #[Value.ref b] meth c code 4 "KindSayingsLaw" ret (LA s)) (hX : va_X b L xs s s.heap) (hbl : b < s.heap.size) (hr : Rel τx τm K N md ml d cw len tx) (hw : GW D (LA s) s (wl ΛX 29 cA adx ax τx ++ wl ΛM 12 cA adm am τm) H locs) (hl : lv_has ls 4 [(0, .ref b), (1, .ref (adr adx ax 0)), (2, .ref (adr adm am 0)), (3, .int (nI i))]) (hi : i + 6 ≤ L) (hL : L ≤ 3072) (hcb : cells + 1 ≤ 600000) (hsb : slots ≤ 50000 + Fs ml) (next : NX p l e s m b below meth c D cA adx adm i ml cells slots Q) : W p l e room_1 s m #[Value.ref b] below meth c H locs cells slots Q (F0 m 704 ls []) := by
  obtain ⟨hx, hb, hml, hown, hts, -⟩ := id E
  have hbA : ¬ LA s b := Nat.not_le.mpr hbl
  have hin : ∀ j : Nat, j < 6 → vp_in (nI i + nI j) L := fun j hj => by rw [nI_add]; exact nI_in (show i + j < L by omega) (by omega)
  have hFm := Fs_max ml
  obtain ⟨v, τx1, τm1, ml1, ex, em, hr1, mv⟩ := st_round hr (xs (nI i + nI 1).toNatClampNeg) (xs (nI i + nI 2).toNatClampNeg) (xs (nI i + nI 3).toNatClampNeg) (xs (nI i + nI 4).toNatClampNeg)
  have hFs := Fs_mono mv.le
  refine lv_aload_n hx hb dL_704 rfl (lv_at hl 1 rfl) ?_
  refine lv_aload_n hx hb dL_705 rfl (lv_at hl 0 rfl) ?_
  refine lv_iload_n hx hb dL_706 rfl (lv_at hl 3 rfl) ?_
  refine lv_iconst (v := 1) hx hb dL_707 (by decide) ?_
  refine lv_iadd hx hb dL_708 ?_
  refine va_sld hx hb hX hbl hbA hw.2.2 (hin 1 (by omega)) dL_709 ?_
  refine lv_aload_n hx hb dL_710 rfl (lv_at hl 0 rfl) ?_
  refine lv_iload_n hx hb dL_711 rfl (lv_at hl 3 rfl) ?_
  refine lv_iconst (v := 2) hx hb dL_712 (by decide) ?_
  refine lv_iadd hx hb dL_713 ?_
  refine va_sld hx hb hX hbl hbA hw.2.2 (hin 2 (by omega)) dL_714 ?_
  refine lv_aload_n hx hb dL_715 rfl (lv_at hl 0 rfl) ?_
  refine lv_iload_n hx hb dL_716 rfl (lv_at hl 3 rfl) ?_
  refine lv_iconst (v := 3) hx hb dL_717 (by decide) ?_
  refine lv_iadd hx hb dL_718 ?_
  refine va_sld hx hb hX hbl hbA hw.2.2 (hin 3 (by omega)) dL_719 ?_
  refine lv_aload_n hx hb dL_720 rfl (lv_at hl 0 rfl) ?_
  refine lv_iload_n hx hb dL_721 rfl (lv_at hl 3 rfl) ?_
  refine lv_iconst (v := 4) hx hb dL_722 (by decide) ?_
  refine lv_iadd hx hb dL_723 ?_
  refine va_sld hx hb hX hbl hbA hw.2.2 (hin 4 (by omega)) dL_724 ?_
  refine lx_E E hw hl.1 cl_L_100 rfl [.int (xs (nI i + nI 1).toNatClampNeg), .int (xs (nI i + nI 2).toNatClampNeg), .int (xs (nI i + nI 3).toNatClampNeg), .int (xs (nI i + nI 4).toNatClampNeg)] (c_X6_round l D cA st adx ax τx (xs (nI i + nI 1).toNatClampNeg) (xs (nI i + nI 2).toNatClampNeg) (xs (nI i + nI 3).toNatClampNeg) (xs (nI i + nI 4).toNatClampNeg) (v, τx1) ex) rfl ⟨Nat.le_of_ble_eq_true rfl, Nat.le_of_ble_eq_true rfl⟩ ⟨by show cells ≤ 600000; omega, by show slots ≤ 7302250; omega⟩ (Nat.le_of_ble_eq_true rfl) rfl dL_725 (fun H locs hw => ?_)
  refine W.eq (g2 := F0 m 728 ls (.int v :: [])) rfl ?_
  refine lv_aload_n hx hb dL_728 rfl (lv_at hl 2 rfl) ?_
  refine lv_aload_n hx hb dL_729 rfl (lv_at hl 0 rfl) ?_
  refine lv_iload_n hx hb dL_730 rfl (lv_at hl 3 rfl) ?_
  refine lv_iconst (v := 1) hx hb dL_731 (by decide) ?_
  refine lv_iadd hx hb dL_732 ?_
  refine va_sld hx hb hX hbl hbA hw.2.2 (hin 1 (by omega)) dL_733 ?_
  refine lv_aload_n hx hb dL_734 rfl (lv_at hl 0 rfl) ?_
  refine lv_iload_n hx hb dL_735 rfl (lv_at hl 3 rfl) ?_
  refine lv_iconst (v := 2) hx hb dL_736 (by decide) ?_
  refine lv_iadd hx hb dL_737 ?_
  refine va_sld hx hb hX hbl hbA hw.2.2 (hin 2 (by omega)) dL_738 ?_
  refine lv_aload_n hx hb dL_739 rfl (lv_at hl 0 rfl) ?_
  refine lv_iload_n hx hb dL_740 rfl (lv_at hl 3 rfl) ?_
  refine lv_iconst (v := 3) hx hb dL_741 (by decide) ?_
  refine lv_iadd hx hb dL_742 ?_
  refine va_sld hx hb hX hbl hbA hw.2.2 (hin 3 (by omega)) dL_743 ?_
  refine lv_aload_n hx hb dL_744 rfl (lv_at hl 0 rfl) ?_
  refine lv_iload_n hx hb dL_745 rfl (lv_at hl 3 rfl) ?_
  refine lv_iconst (v := 4) hx hb dL_746 (by decide) ?_
  refine lv_iadd hx hb dL_747 ?_
  refine va_sld hx hb hX hbl hbA hw.2.2 (hin 4 (by omega)) dL_748 ?_
  refine lm_E E hw hl.1 cl_L_104 rfl [.int (xs (nI i + nI 1).toNatClampNeg), .int (xs (nI i + nI 2).toNatClampNeg), .int (xs (nI i + nI 3).toNatClampNeg), .int (xs (nI i + nI 4).toNatClampNeg)] (c_X7_round l D cA st adm am τm (xs (nI i + nI 1).toNatClampNeg) (xs (nI i + nI 2).toNatClampNeg) (xs (nI i + nI 3).toNatClampNeg) (xs (nI i + nI 4).toNatClampNeg) (v, τm1) em) rfl ⟨Nat.le_of_ble_eq_true rfl, Nat.le_of_ble_eq_true rfl⟩ ⟨by show cells ≤ 600000; omega, by show slots ≤ 7302250; omega⟩ (Nat.le_of_ble_eq_true rfl) rfl dL_749 (fun H locs hw => ?_)
  refine W.eq (g2 := F0 m 752 ls (.int v :: .int v :: [])) rfl ?_
  refine lv_icmp_eq (tgt := 876) hx hb dL_752 (by decide) (fun _ => ?_) (fun z => absurd rfl z)
  exact next _ _ _ _ _ _ _ _ _ _ _ _ _ _ _ _ _ hr1 hw hl (by omega) (by omega)
set_option maxHeartbeats 4000000 in
set_option maxRecDepth 100000 in
theorem lc_21 (E : Bd D cA st p s m #[Value.ref b] meth c code 4 "KindSayingsLaw" ret (LA s)) (hX : va_X b L xs s s.heap) (hbl : b < s.heap.size) (hr : Rel τx τm K N md ml d cw len tx) (hw : GW D (LA s) s (wl ΛX 29 cA adx ax τx ++ wl ΛM 12 cA adm am τm) H locs) (hl : lv_has ls 4 [(0, .ref b), (1, .ref (adr adx ax 0)), (2, .ref (adr adm am 0)), (3, .int (nI i))]) (hi : i + 6 ≤ L) (hL : L ≤ 3072) (hcb : cells + 1 ≤ 600000) (hsb : slots ≤ 50000 + Fs ml) (next : NX p l e s m b below meth c D cA adx adm i ml cells slots Q) : W p l e room_1 s m #[Value.ref b] below meth c H locs cells slots Q (F0 m 757 ls []) := by
  obtain ⟨hx, hb, hml, hown, hts, -⟩ := id E
  have hbA : ¬ LA s b := Nat.not_le.mpr hbl
  have hin : ∀ j : Nat, j < 6 → vp_in (nI i + nI j) L := fun j hj => by rw [nI_add]; exact nI_in (show i + j < L by omega) (by omega)
  have hFm := Fs_max ml
  obtain ⟨v, τx1, τm1, ml1, ex, em, hr1, mv⟩ := st_by hr (xs (nI i + nI 1).toNatClampNeg) (xs (nI i + nI 2).toNatClampNeg) (xs (nI i + nI 3).toNatClampNeg) (xs (nI i + nI 4).toNatClampNeg) (xs (nI i + nI 5).toNatClampNeg)
  have hFs := Fs_mono mv.le
  refine lv_aload_n hx hb dL_757 rfl (lv_at hl 1 rfl) ?_
  refine lv_aload_n hx hb dL_758 rfl (lv_at hl 0 rfl) ?_
  refine lv_iload_n hx hb dL_759 rfl (lv_at hl 3 rfl) ?_
  refine lv_iconst (v := 1) hx hb dL_760 (by decide) ?_
  refine lv_iadd hx hb dL_761 ?_
  refine va_sld hx hb hX hbl hbA hw.2.2 (hin 1 (by omega)) dL_762 ?_
  refine lv_aload_n hx hb dL_763 rfl (lv_at hl 0 rfl) ?_
  refine lv_iload_n hx hb dL_764 rfl (lv_at hl 3 rfl) ?_
  refine lv_iconst (v := 2) hx hb dL_765 (by decide) ?_
  refine lv_iadd hx hb dL_766 ?_
  refine va_sld hx hb hX hbl hbA hw.2.2 (hin 2 (by omega)) dL_767 ?_
  refine lv_aload_n hx hb dL_768 rfl (lv_at hl 0 rfl) ?_
  refine lv_iload_n hx hb dL_769 rfl (lv_at hl 3 rfl) ?_
  refine lv_iconst (v := 3) hx hb dL_770 (by decide) ?_
  refine lv_iadd hx hb dL_771 ?_
  refine va_sld hx hb hX hbl hbA hw.2.2 (hin 3 (by omega)) dL_772 ?_
  refine lv_aload_n hx hb dL_773 rfl (lv_at hl 0 rfl) ?_
  refine lv_iload_n hx hb dL_774 rfl (lv_at hl 3 rfl) ?_
  refine lv_iconst (v := 4) hx hb dL_775 (by decide) ?_
  refine lv_iadd hx hb dL_776 ?_
  refine va_sld hx hb hX hbl hbA hw.2.2 (hin 4 (by omega)) dL_777 ?_
  refine lv_aload_n hx hb dL_778 rfl (lv_at hl 0 rfl) ?_
  refine lv_iload_n hx hb dL_779 rfl (lv_at hl 3 rfl) ?_
  refine lv_iconst (v := 5) hx hb dL_780 (by decide) ?_
  refine lv_iadd hx hb dL_781 ?_
  refine va_sld hx hb hX hbl hbA hw.2.2 (hin 5 (by omega)) dL_782 ?_
  refine lx_E E hw hl.1 cl_L_105 rfl [.int (xs (nI i + nI 1).toNatClampNeg), .int (xs (nI i + nI 2).toNatClampNeg), .int (xs (nI i + nI 3).toNatClampNeg), .int (xs (nI i + nI 4).toNatClampNeg), .int (xs (nI i + nI 5).toNatClampNeg)] (c_X6_by l D cA st adx ax τx (xs (nI i + nI 1).toNatClampNeg) (xs (nI i + nI 2).toNatClampNeg) (xs (nI i + nI 3).toNatClampNeg) (xs (nI i + nI 4).toNatClampNeg) (xs (nI i + nI 5).toNatClampNeg) (v, τx1) ex) rfl ⟨Nat.le_of_ble_eq_true rfl, Nat.le_of_ble_eq_true rfl⟩ ⟨by show cells ≤ 600000; omega, by show slots ≤ 7302250; omega⟩ (Nat.le_of_ble_eq_true rfl) rfl dL_783 (fun H locs hw => ?_)
  refine W.eq (g2 := F0 m 786 ls (.int v :: [])) rfl ?_
  refine lv_aload_n hx hb dL_786 rfl (lv_at hl 2 rfl) ?_
  refine lv_aload_n hx hb dL_787 rfl (lv_at hl 0 rfl) ?_
  refine lv_iload_n hx hb dL_788 rfl (lv_at hl 3 rfl) ?_
  refine lv_iconst (v := 1) hx hb dL_789 (by decide) ?_
  refine lv_iadd hx hb dL_790 ?_
  refine va_sld hx hb hX hbl hbA hw.2.2 (hin 1 (by omega)) dL_791 ?_
  refine lv_aload_n hx hb dL_792 rfl (lv_at hl 0 rfl) ?_
  refine lv_iload_n hx hb dL_793 rfl (lv_at hl 3 rfl) ?_
  refine lv_iconst (v := 2) hx hb dL_794 (by decide) ?_
  refine lv_iadd hx hb dL_795 ?_
  refine va_sld hx hb hX hbl hbA hw.2.2 (hin 2 (by omega)) dL_796 ?_
  refine lv_aload_n hx hb dL_797 rfl (lv_at hl 0 rfl) ?_
  refine lv_iload_n hx hb dL_798 rfl (lv_at hl 3 rfl) ?_
  refine lv_iconst (v := 3) hx hb dL_799 (by decide) ?_
  refine lv_iadd hx hb dL_800 ?_
  refine va_sld hx hb hX hbl hbA hw.2.2 (hin 3 (by omega)) dL_801 ?_
  refine lv_aload_n hx hb dL_802 rfl (lv_at hl 0 rfl) ?_
  refine lv_iload_n hx hb dL_803 rfl (lv_at hl 3 rfl) ?_
  refine lv_iconst (v := 4) hx hb dL_804 (by decide) ?_
  refine lv_iadd hx hb dL_805 ?_
  refine va_sld hx hb hX hbl hbA hw.2.2 (hin 4 (by omega)) dL_806 ?_
  refine lv_aload_n hx hb dL_807 rfl (lv_at hl 0 rfl) ?_
  refine lv_iload_n hx hb dL_808 rfl (lv_at hl 3 rfl) ?_
  refine lv_iconst (v := 5) hx hb dL_809 (by decide) ?_
  refine lv_iadd hx hb dL_810 ?_
  refine va_sld hx hb hX hbl hbA hw.2.2 (hin 5 (by omega)) dL_811 ?_
  refine lm_E E hw hl.1 cl_L_109 rfl [.int (xs (nI i + nI 1).toNatClampNeg), .int (xs (nI i + nI 2).toNatClampNeg), .int (xs (nI i + nI 3).toNatClampNeg), .int (xs (nI i + nI 4).toNatClampNeg), .int (xs (nI i + nI 5).toNatClampNeg)] (c_X7_by l D cA st adm am τm (xs (nI i + nI 1).toNatClampNeg) (xs (nI i + nI 2).toNatClampNeg) (xs (nI i + nI 3).toNatClampNeg) (xs (nI i + nI 4).toNatClampNeg) (xs (nI i + nI 5).toNatClampNeg) (v, τm1) em) rfl ⟨Nat.le_of_ble_eq_true rfl, Nat.le_of_ble_eq_true rfl⟩ ⟨by show cells ≤ 600000; omega, by show slots ≤ 7302250; omega⟩ (Nat.le_of_ble_eq_true rfl) rfl dL_812 (fun H locs hw => ?_)
  refine W.eq (g2 := F0 m 815 ls (.int v :: .int v :: [])) rfl ?_
  refine lv_icmp_eq (tgt := 876) hx hb dL_815 (by decide) (fun _ => ?_) (fun z => absurd rfl z)
  exact next _ _ _ _ _ _ _ _ _ _ _ _ _ _ _ _ _ hr1 hw hl (by omega) (by omega)
set_option maxHeartbeats 4000000 in
set_option maxRecDepth 100000 in
theorem lc_22 (E : Bd D cA st p s m #[Value.ref b] meth c code 4 "KindSayingsLaw" ret (LA s)) (hX : va_X b L xs s s.heap) (hbl : b < s.heap.size) (hr : Rel τx τm K N md ml d cw len tx) (hw : GW D (LA s) s (wl ΛX 29 cA adx ax τx ++ wl ΛM 12 cA adm am τm) H locs) (hl : lv_has ls 4 [(0, .ref b), (1, .ref (adr adx ax 0)), (2, .ref (adr adm am 0)), (3, .int (nI i))]) (hi : i + 6 ≤ L) (hL : L ≤ 3072) (hcb : cells + 1 ≤ 600000) (hsb : slots ≤ 50000 + Fs ml) (next : NX p l e s m b below meth c D cA adx adm i ml cells slots Q) : W p l e room_1 s m #[Value.ref b] below meth c H locs cells slots Q (F0 m 820 ls []) := by
  obtain ⟨hx, hb, hml, hown, hts, -⟩ := id E
  have hbA : ¬ LA s b := Nat.not_le.mpr hbl
  have hin : ∀ j : Nat, j < 6 → vp_in (nI i + nI j) L := fun j hj => by rw [nI_add]; exact nI_in (show i + j < L by omega) (by omega)
  have hFm := Fs_max ml
  obtain ⟨v, τx1, τm1, ml1, ex, em, hr1, mv⟩ := st_shown hr (xs (nI i + nI 1).toNatClampNeg) (xs (nI i + nI 2).toNatClampNeg)
  obtain ⟨Sn, hSn, hFs⟩ := room_step hr hr1 mv
  have hF1 := Fs_max ml1
  refine lv_aload_n hx hb dL_820 rfl (lv_at hl 1 rfl) ?_
  refine lv_aload_n hx hb dL_821 rfl (lv_at hl 0 rfl) ?_
  refine lv_iload_n hx hb dL_822 rfl (lv_at hl 3 rfl) ?_
  refine lv_iconst (v := 1) hx hb dL_823 (by decide) ?_
  refine lv_iadd hx hb dL_824 ?_
  refine va_sld hx hb hX hbl hbA hw.2.2 (hin 1 (by omega)) dL_825 ?_
  refine lv_aload_n hx hb dL_826 rfl (lv_at hl 0 rfl) ?_
  refine lv_iload_n hx hb dL_827 rfl (lv_at hl 3 rfl) ?_
  refine lv_iconst (v := 2) hx hb dL_828 (by decide) ?_
  refine lv_iadd hx hb dL_829 ?_
  refine va_sld hx hb hX hbl hbA hw.2.2 (hin 2 (by omega)) dL_830 ?_
  refine lx_A E hw hl.1 cl_L_110 rfl [.int (xs (nI i + nI 1).toNatClampNeg), .int (xs (nI i + nI 2).toNatClampNeg)] (d_X6_shown l D cA st adx ax τx (xs (nI i + nI 1).toNatClampNeg) (xs (nI i + nI 2).toNatClampNeg) (v, τx1) Sn (fun r er z => sh_need er hSn z) ex) rfl ⟨Nat.le_of_ble_eq_true rfl, Nat.le_of_ble_eq_true rfl⟩ ⟨by show cells + 1 ≤ 600000; omega, by show slots + Sn ≤ 7302250; omega⟩ (Nat.le_of_ble_eq_true rfl) rfl dL_831 (fun ax1 H locs hw => ?_)
  have hl : lv_has ls 4 [(0, .ref b), (1, .ref (adr adx ax1 0)), (2, .ref (adr adm am 0)), (3, .int (nI i))] := hl
  refine W.eq (g2 := F0 m 834 ls (.int v :: [])) rfl ?_
  refine lv_aload_n hx hb dL_834 rfl (lv_at hl 2 rfl) ?_
  refine lv_aload_n hx hb dL_835 rfl (lv_at hl 0 rfl) ?_
  refine lv_iload_n hx hb dL_836 rfl (lv_at hl 3 rfl) ?_
  refine lv_iconst (v := 1) hx hb dL_837 (by decide) ?_
  refine lv_iadd hx hb dL_838 ?_
  refine va_sld hx hb hX hbl hbA hw.2.2 (hin 1 (by omega)) dL_839 ?_
  refine lv_aload_n hx hb dL_840 rfl (lv_at hl 0 rfl) ?_
  refine lv_iload_n hx hb dL_841 rfl (lv_at hl 3 rfl) ?_
  refine lv_iconst (v := 2) hx hb dL_842 (by decide) ?_
  refine lv_iadd hx hb dL_843 ?_
  refine va_sld hx hb hX hbl hbA hw.2.2 (hin 2 (by omega)) dL_844 ?_
  refine lm_E E hw hl.1 cl_L_113 rfl [.int (xs (nI i + nI 1).toNatClampNeg), .int (xs (nI i + nI 2).toNatClampNeg)] (c_X7_shown l D cA st adm am τm (xs (nI i + nI 1).toNatClampNeg) (xs (nI i + nI 2).toNatClampNeg) (v, τm1) em) rfl ⟨Nat.le_of_ble_eq_true rfl, Nat.le_of_ble_eq_true rfl⟩ ⟨by show cells + 1 ≤ 600000; omega, by show slots + Sn ≤ 7302250; omega⟩ (Nat.le_of_ble_eq_true rfl) rfl dL_845 (fun H locs hw => ?_)
  refine W.eq (g2 := F0 m 848 ls (.int v :: .int v :: [])) rfl ?_
  refine lv_icmp_eq (tgt := 876) hx hb dL_848 (by decide) (fun _ => ?_) (fun z => absurd rfl z)
  exact next _ _ _ _ _ _ _ _ _ _ _ _ _ _ _ _ _ hr1 hw hl (by omega) (by omega)
set_option maxHeartbeats 4000000 in
set_option maxRecDepth 100000 in
theorem lc_23 (E : Bd D cA st p s m #[Value.ref b] meth c code 4 "KindSayingsLaw" ret (LA s)) (hX : va_X b L xs s s.heap) (hbl : b < s.heap.size) (hr : Rel τx τm K N md ml d cw len tx) (hw : GW D (LA s) s (wl ΛX 29 cA adx ax τx ++ wl ΛM 12 cA adm am τm) H locs) (hl : lv_has ls 4 [(0, .ref b), (1, .ref (adr adx ax 0)), (2, .ref (adr adm am 0)), (3, .int (nI i))]) (hi : i + 6 ≤ L) (hL : L ≤ 3072) (hcb : cells + 1 ≤ 600000) (hsb : slots ≤ 50000 + Fs ml) (next : NX p l e s m b below meth c D cA adx adm i ml cells slots Q) : W p l e room_1 s m #[Value.ref b] below meth c H locs cells slots Q (F0 m 853 ls []) := by
  obtain ⟨hx, hb, hml, hown, hts, -⟩ := id E
  have hbA : ¬ LA s b := Nat.not_le.mpr hbl
  have hin : ∀ j : Nat, j < 6 → vp_in (nI i + nI j) L := fun j hj => by rw [nI_add]; exact nI_in (show i + j < L by omega) (by omega)
  have hFm := Fs_max ml
  obtain ⟨v, τm1, ex, em, hr1⟩ := st_count hr (xs (nI i + nI 1).toNatClampNeg)
  refine lv_aload_n hx hb dL_853 rfl (lv_at hl 1 rfl) ?_
  refine lv_aload_n hx hb dL_854 rfl (lv_at hl 0 rfl) ?_
  refine lv_iload_n hx hb dL_855 rfl (lv_at hl 3 rfl) ?_
  refine lv_iconst (v := 1) hx hb dL_856 (by decide) ?_
  refine lv_iadd hx hb dL_857 ?_
  refine va_sld hx hb hX hbl hbA hw.2.2 (hin 1 (by omega)) dL_858 ?_
  refine lx_E E hw hl.1 cl_L_114 rfl [.int (xs (nI i + nI 1).toNatClampNeg)] (c_X6_count l D cA st adx ax τx (xs (nI i + nI 1).toNatClampNeg) v ex) rfl ⟨Nat.le_of_ble_eq_true rfl, Nat.le_of_ble_eq_true rfl⟩ ⟨by show cells ≤ 600000; omega, by show slots ≤ 7302250; omega⟩ (Nat.le_of_ble_eq_true rfl) rfl dL_859 (fun H locs hw => ?_)
  refine W.eq (g2 := F0 m 862 ls (.int v :: [])) rfl ?_
  refine lv_aload_n hx hb dL_862 rfl (lv_at hl 2 rfl) ?_
  refine lv_aload_n hx hb dL_863 rfl (lv_at hl 0 rfl) ?_
  refine lv_iload_n hx hb dL_864 rfl (lv_at hl 3 rfl) ?_
  refine lv_iconst (v := 1) hx hb dL_865 (by decide) ?_
  refine lv_iadd hx hb dL_866 ?_
  refine va_sld hx hb hX hbl hbA hw.2.2 (hin 1 (by omega)) dL_867 ?_
  refine lm_E E hw hl.1 cl_L_117 rfl [.int (xs (nI i + nI 1).toNatClampNeg)] (c_X7_count l D cA st adm am τm (xs (nI i + nI 1).toNatClampNeg) (v, τm1) em) rfl ⟨Nat.le_of_ble_eq_true rfl, Nat.le_of_ble_eq_true rfl⟩ ⟨by show cells ≤ 600000; omega, by show slots ≤ 7302250; omega⟩ (Nat.le_of_ble_eq_true rfl) rfl dL_868 (fun H locs hw => ?_)
  refine W.eq (g2 := F0 m 871 ls (.int v :: .int v :: [])) rfl ?_
  refine lv_icmp_eq (tgt := 876) hx hb dL_871 (by decide) (fun _ => ?_) (fun z => absurd rfl z)
  exact next _ _ _ _ _ _ _ _ _ _ _ _ _ _ _ _ _ hr1 hw hl (by omega) (by omega)
end LK
