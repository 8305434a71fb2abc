/-! One world for each side, held as a typed memory: int fields, long fields, int arrays, long arrays, by the number of the object. -/
abbrev Tau : Type := (Nat → Nat → Int32) × (Nat → Nat → Int64) × (Nat → Nat → Int32) × (Nat → Nat → Int64)
def tI (τ : Tau) (k j : Nat) : Int32 := τ.1 k j
def tL (τ : Tau) (k j : Nat) : Int64 := τ.2.1 k j
def tA (τ : Tau) (k j : Nat) : Int32 := τ.2.2.1 k j
def tB (τ : Tau) (k j : Nat) : Int64 := τ.2.2.2 k j
def up2 {α : Type} (f : Nat → Nat → α) (k j : Nat) (v : α) : Nat → Nat → α := fun a b => if a = k ∧ b = j then v else f a b
def sI (τ : Tau) (k j : Nat) (v : Int32) : Tau := (up2 τ.1 k j v, τ.2.1, τ.2.2.1, τ.2.2.2)
def sL (τ : Tau) (k j : Nat) (v : Int64) : Tau := (τ.1, up2 τ.2.1 k j v, τ.2.2.1, τ.2.2.2)
def sA (τ : Tau) (k j : Nat) (v : Int32) : Tau := (τ.1, τ.2.1, up2 τ.2.2.1 k j v, τ.2.2.2)
def sB (τ : Tau) (k j : Nat) (v : Int64) : Tau := (τ.1, τ.2.1, τ.2.2.1, up2 τ.2.2.2 k j v)
abbrev Lay : Type := Nat → Nat × Nat × List Nat
def adr (ad : Nat → Nat) (a k : Nat) : Nat := if k = 26 then a else ad k
def fval (ad : Nat → Nat) (a : Nat) (τ : Tau) (k j : Nat) : Nat → Value
  | 0 => .int (tI τ k j)
  | 1 => .long (tL τ k j)
  | t + 2 => .ref (adr ad a t)
def flds (ad : Nat → Nat) (a : Nat) (τ : Tau) (k : Nat) : Nat → List Nat → List Value
  | _, [] => []
  | j, t :: ts => fval ad a τ k j t :: flds ad a τ k (j + 1) ts
def alen (τ : Tau) (k : Nat) : List Nat → Nat
  | n :: _ => n
  | [] => (tI τ k 0).toNatClampNeg
def entOf (cA : Nat → ClassId) (ad : Nat → Nat) (a : Nat) (τ : Tau) (k : Nat) : Nat × Nat × List Nat → va_E
  | (0, ci, ts) => .inr (ci, flds ad a τ k 0 ts)
  | (1, t, o) => .inl (cA t, alen τ k o, .inl (tA τ k))
  | (2, t, o) => .inl (cA t, alen τ k o, .inr (.inl (tB τ k)))
  | (_, t, o) => .inl (cA t, alen τ k o, .inr (.inr (.inr (.inr (fun i => some (adr ad 0 (i + 2)))))))
def ent (Λ : Lay) (cA : Nat → ClassId) (ad : Nat → Nat) (a : Nat) (τ : Tau) (k : Nat) : va_E := entOf cA ad a τ k (Λ k)
def wl (Λ : Lay) (n : Nat) (cA : Nat → ClassId) (ad : Nat → Nat) (a : Nat) (τ : Tau) : va_W := (List.range n).map fun k => (adr ad a k, ent Λ cA ad a τ k)
theorem wl_get {Λ : Lay} {n : Nat} {cA : Nat → ClassId} {ad : Nat → Nat} {a : Nat} {τ : Tau} {k : Nat} (hk : k < n) : (wl Λ n cA ad a τ)[k]? = some (adr ad a k, ent Λ cA ad a τ k) := by
  simp [wl, hk]
theorem wl_set {Λ : Lay} {n : Nat} {cA : Nat → ClassId} {ad : Nat → Nat} {a : Nat} {τ τ' : Tau} {k : Nat} {e : va_E} (he : ent Λ cA ad a τ' k = e) (ho : ∀ j, j ≠ k → ent Λ cA ad a τ' j = ent Λ cA ad a τ j) : (wl Λ n cA ad a τ).set k (adr ad a k, e) = wl Λ n cA ad a τ' := by
  apply List.ext_getElem?
  intro j
  by_cases hj : j = k
  · subst hj
    by_cases hn : j < n
    · rw [List.getElem?_set_self (by simp [wl, hn]), wl_get hn, he]
    · rw [List.getElem?_eq_none (by simp [wl]; omega), List.getElem?_eq_none (by simp [wl]; omega)]
  · rw [List.getElem?_set_ne (Ne.symm hj)]
    by_cases hn : j < n
    · rw [wl_get hn, wl_get hn, ho j hj]
    · rw [List.getElem?_eq_none (by simp [wl]; omega), List.getElem?_eq_none (by simp [wl]; omega)]
theorem fval_c {ad : Nat → Nat} {a : Nat} {τ τ' : Tau} {k j : Nat} (h1 : tI τ' k j = tI τ k j) (h2 : tL τ' k j = tL τ k j) : ∀ t, fval ad a τ' k j t = fval ad a τ k j t
  | 0 => by simp [fval, h1]
  | 1 => by simp [fval, h2]
  | t + 2 => rfl
theorem flds_c {ad : Nat → Nat} {a : Nat} {τ τ' : Tau} {k : Nat} : ∀ (ts : List Nat) (j : Nat), (∀ i, j ≤ i → tI τ' k i = tI τ k i) → (∀ i, j ≤ i → tL τ' k i = tL τ k i) → flds ad a τ' k j ts = flds ad a τ k j ts
  | [], _, _, _ => rfl
  | t :: ts, j, h1, h2 => by
    rw [flds, flds, fval_c (h1 j (Nat.le_refl _)) (h2 j (Nat.le_refl _)), flds_c ts (j + 1) (fun i hi => h1 i (by omega)) (fun i hi => h2 i (by omega))]
theorem flds_get {ad : Nat → Nat} {a : Nat} {τ : Tau} {k : Nat} : ∀ (ts : List Nat) (j0 j t : Nat), ts[j]? = some t → (flds ad a τ k j0 ts)[j]? = some (fval ad a τ k (j0 + j) t)
  | [], _, _, _, h => by simp at h
  | u :: ts, j0, 0, t, h => by
    simp at h
    subst h
    simp [flds]
  | u :: ts, j0, j + 1, t, h => by
    rw [List.getElem?_cons_succ] at h
    rw [flds, List.getElem?_cons_succ, flds_get ts (j0 + 1) j t h]
    congr 2
    omega
theorem flds_len {ad : Nat → Nat} {a : Nat} {τ : Tau} {k : Nat} : ∀ (ts : List Nat) (j0 : Nat), (flds ad a τ k j0 ts).length = ts.length
  | [], _ => rfl
  | u :: ts, j0 => by rw [flds, List.length_cons, List.length_cons, flds_len ts]
theorem flds_set {ad : Nat → Nat} {a : Nat} {τ τ' : Tau} {k : Nat} : ∀ (ts : List Nat) (j0 j t : Nat), ts[j]? = some t → (∀ i, i ≠ j0 + j → tI τ' k i = tI τ k i) → (∀ i, i ≠ j0 + j → tL τ' k i = tL τ k i) → (flds ad a τ k j0 ts).set j (fval ad a τ' k (j0 + j) t) = flds ad a τ' k j0 ts
  | [], _, _, _, h, _, _ => by simp at h
  | u :: ts, j0, 0, t, h, h1, h2 => by
    simp at h
    subst h
    rw [flds, flds, List.set_cons_zero, flds_c ts (j0 + 1) (fun i hi => h1 i (by omega)) (fun i hi => h2 i (by omega))]
    rfl
  | u :: ts, j0, j + 1, t, h, h1, h2 => by
    rw [List.getElem?_cons_succ] at h
    rw [flds, flds, List.set_cons_succ, fval_c (h1 j0 (by omega)) (h2 j0 (by omega))]
    congr 1
    have e := flds_set (ad := ad) (a := a) (τ := τ) (τ' := τ') (k := k) ts (j0 + 1) j t h (fun i hi => h1 i (by omega)) (fun i hi => h2 i (by omega))
    rw [show j0 + (j + 1) = j0 + 1 + j by omega]
    exact e
theorem alen_c {τ τ' : Tau} {k : Nat} (h : tI τ' k 0 = tI τ k 0) : ∀ o, alen τ' k o = alen τ k o
  | [] => by simp [alen, h]
  | _ :: _ => rfl
theorem ent_c {Λ : Lay} {cA : Nat → ClassId} {ad : Nat → Nat} {a : Nat} {τ τ' : Tau} {k : Nat} (h1 : ∀ i, tI τ' k i = tI τ k i) (h2 : ∀ i, tL τ' k i = tL τ k i) (h3 : tA τ' k = tA τ k) (h4 : tB τ' k = tB τ k) : ent Λ cA ad a τ' k = ent Λ cA ad a τ k := by
  unfold ent
  generalize Λ k = x
  obtain ⟨g, ci, ts⟩ := x
  match g with
  | 0 => simp only [entOf]; rw [flds_c ts 0 (fun i _ => h1 i) (fun i _ => h2 i)]
  | 1 => simp only [entOf]; rw [alen_c (h1 0), h3]
  | 2 => simp only [entOf]; rw [alen_c (h1 0), h4]
  | g + 3 => simp only [entOf]; rw [alen_c (h1 0)]
-- what the four writers leave
theorem tI_sI (τ : Tau) (k j : Nat) (v : Int32) (a b : Nat) : tI (sI τ k j v) a b = if a = k ∧ b = j then v else tI τ a b := rfl
theorem tL_sI (τ : Tau) (k j : Nat) (v : Int32) (a b : Nat) : tL (sI τ k j v) a b = tL τ a b := rfl
theorem tA_sI (τ : Tau) (k j : Nat) (v : Int32) (a : Nat) : tA (sI τ k j v) a = tA τ a := rfl
theorem tB_sI (τ : Tau) (k j : Nat) (v : Int32) (a : Nat) : tB (sI τ k j v) a = tB τ a := rfl
theorem tI_sL (τ : Tau) (k j : Nat) (v : Int64) (a b : Nat) : tI (sL τ k j v) a b = tI τ a b := rfl
theorem tL_sL (τ : Tau) (k j : Nat) (v : Int64) (a b : Nat) : tL (sL τ k j v) a b = if a = k ∧ b = j then v else tL τ a b := rfl
theorem tA_sL (τ : Tau) (k j : Nat) (v : Int64) (a : Nat) : tA (sL τ k j v) a = tA τ a := rfl
theorem tB_sL (τ : Tau) (k j : Nat) (v : Int64) (a : Nat) : tB (sL τ k j v) a = tB τ a := rfl
theorem tI_sA (τ : Tau) (k j : Nat) (v : Int32) (a b : Nat) : tI (sA τ k j v) a b = tI τ a b := rfl
theorem tL_sA (τ : Tau) (k j : Nat) (v : Int32) (a b : Nat) : tL (sA τ k j v) a b = tL τ a b := rfl
theorem tA_sA (τ : Tau) (k j : Nat) (v : Int32) (a b : Nat) : tA (sA τ k j v) a b = if a = k ∧ b = j then v else tA τ a b := rfl
theorem tB_sA (τ : Tau) (k j : Nat) (v : Int32) (a : Nat) : tB (sA τ k j v) a = tB τ a := rfl
theorem tI_sB (τ : Tau) (k j : Nat) (v : Int64) (a b : Nat) : tI (sB τ k j v) a b = tI τ a b := rfl
theorem tL_sB (τ : Tau) (k j : Nat) (v : Int64) (a b : Nat) : tL (sB τ k j v) a b = tL τ a b := rfl
theorem tA_sB (τ : Tau) (k j : Nat) (v : Int64) (a : Nat) : tA (sB τ k j v) a = tA τ a := rfl
theorem tB_sB (τ : Tau) (k j : Nat) (v : Int64) (a b : Nat) : tB (sB τ k j v) a b = if a = k ∧ b = j then v else tB τ a b := rfl
theorem ent_sI {Λ : Lay} {cA : Nat → ClassId} {ad : Nat → Nat} {a : Nat} {τ : Tau} {k ci : Nat} {ts : List Nat} (hΛ : Λ k = (0, ci, ts)) {j : Nat} (hj : ts[j]? = some 0) (v : Int32) : ent Λ cA ad a (sI τ k j v) k = .inr (ci, (flds ad a τ k 0 ts).set j (.int v)) := by
  unfold ent
  rw [hΛ]
  simp only [entOf]
  have e := flds_set (ad := ad) (a := a) (τ := τ) (τ' := sI τ k j v) (k := k) ts 0 j 0 hj (fun i hi => by rw [tI_sI]; simp; omega) (fun i hi => rfl)
  rw [← e]
  simp [fval, tI_sI]
theorem ent_sL {Λ : Lay} {cA : Nat → ClassId} {ad : Nat → Nat} {a : Nat} {τ : Tau} {k ci : Nat} {ts : List Nat} (hΛ : Λ k = (0, ci, ts)) {j : Nat} (hj : ts[j]? = some 1) (v : Int64) : ent Λ cA ad a (sL τ k j v) k = .inr (ci, (flds ad a τ k 0 ts).set j (.long v)) := by
  unfold ent
  rw [hΛ]
  simp only [entOf]
  have e := flds_set (ad := ad) (a := a) (τ := τ) (τ' := sL τ k j v) (k := k) ts 0 j 1 hj (fun i hi => rfl) (fun i hi => by rw [tL_sL]; simp; omega)
  rw [← e]
  simp [fval, tL_sL]
theorem ent_oI {Λ : Lay} {cA : Nat → ClassId} {ad : Nat → Nat} {a : Nat} {τ : Tau} {k j : Nat} {v : Int32} (q : Nat) (hq : q ≠ k) : ent Λ cA ad a (sI τ k j v) q = ent Λ cA ad a τ q := ent_c (fun i => by rw [tI_sI]; simp [hq]) (fun _ => rfl) rfl rfl
theorem ent_oL {Λ : Lay} {cA : Nat → ClassId} {ad : Nat → Nat} {a : Nat} {τ : Tau} {k j : Nat} {v : Int64} (q : Nat) (hq : q ≠ k) : ent Λ cA ad a (sL τ k j v) q = ent Λ cA ad a τ q := ent_c (fun _ => rfl) (fun i => by rw [tL_sL]; simp [hq]) rfl rfl
theorem ent_oA {Λ : Lay} {cA : Nat → ClassId} {ad : Nat → Nat} {a : Nat} {τ : Tau} {k j : Nat} {v : Int32} (q : Nat) (hq : q ≠ k) : ent Λ cA ad a (sA τ k j v) q = ent Λ cA ad a τ q := ent_c (fun _ => rfl) (fun _ => rfl) (by funext i; rw [tA_sA]; simp [hq]) rfl
theorem ent_oB {Λ : Lay} {cA : Nat → ClassId} {ad : Nat → Nat} {a : Nat} {τ : Tau} {k j : Nat} {v : Int64} (q : Nat) (hq : q ≠ k) : ent Λ cA ad a (sB τ k j v) q = ent Λ cA ad a τ q := ent_c (fun _ => rfl) (fun _ => rfl) rfl (by funext i; rw [tB_sB]; simp [hq])
theorem ent_sA {Λ : Lay} {cA : Nat → ClassId} {ad : Nat → Nat} {a : Nat} {τ : Tau} {k t : Nat} {o : List Nat} (hΛ : Λ k = (1, t, o)) {j : Nat} (v : Int32) : ent Λ cA ad a (sA τ k j v) k = .inl (cA t, alen τ k o, .inl (upd (tA τ k) j v)) := by
  unfold ent
  rw [hΛ]
  simp only [entOf]
  rw [alen_c (τ := τ) (τ' := sA τ k j v) rfl, show tA (sA τ k j v) k = upd (tA τ k) j v by funext i; rw [tA_sA]; simp [upd]]
theorem ent_sB {Λ : Lay} {cA : Nat → ClassId} {ad : Nat → Nat} {a : Nat} {τ : Tau} {k t : Nat} {o : List Nat} (hΛ : Λ k = (2, t, o)) {j : Nat} (v : Int64) : ent Λ cA ad a (sB τ k j v) k = .inl (cA t, alen τ k o, .inr (.inl (vp_updL (tB τ k) j v))) := by
  unfold ent
  rw [hΛ]
  simp only [entOf]
  rw [alen_c (τ := τ) (τ' := sB τ k j v) rfl, show tB (sB τ k j v) k = vp_updL (tB τ k) j v by funext i; rw [tB_sB]; simp [vp_updL]]
/-- a row of so many zeros in the place of the marks -/
def sN (τ : Tau) (x : Int32) : Tau := (up2 τ.1 26 0 x, τ.2.1, fun a b => if a = 26 then 0 else τ.2.2.1 a b, τ.2.2.2)
theorem tI_sN (τ : Tau) (x : Int32) (a b : Nat) : tI (sN τ x) a b = if a = 26 ∧ b = 0 then x else tI τ a b := rfl
theorem tL_sN (τ : Tau) (x : Int32) (a b : Nat) : tL (sN τ x) a b = tL τ a b := rfl
theorem tA_sN (τ : Tau) (x : Int32) (a b : Nat) : tA (sN τ x) a b = if a = 26 then 0 else tA τ a b := rfl
theorem tB_sN (τ : Tau) (x : Int32) (a : Nat) : tB (sN τ x) a = tB τ a := rfl
theorem flds_a {ad : Nat → Nat} {a a' : Nat} {τ : Tau} {k : Nat} : ∀ (ts : List Nat) (j : Nat), 28 ∉ ts → flds ad a' τ k j ts = flds ad a τ k j ts
  | [], _, _ => rfl
  | t :: ts, j, h => by
    rw [flds, flds, flds_a ts (j + 1) (fun z => h (List.mem_cons_of_mem _ z))]
    congr 1
    match t with
    | 0 => rfl
    | 1 => rfl
    | t + 2 =>
      have : t ≠ 26 := fun z => h (by rw [z]; exact List.mem_cons_self)
      simp [fval, adr, this]
