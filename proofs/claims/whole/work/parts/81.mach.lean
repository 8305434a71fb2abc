/-! a reader with two stacks, over tokens alone, beside the descent: where the token is, is a part wanted, values, signs, how many are open -/
abbrev MSt : Type := PSt × Bool × List Nat × List Nat × Nat
section MC
variable (K len : Nat) (tx : Nat → Nat)
def ngv (v : Nat) : Nat := (2 ^ (2 ^ K) - 1) &&& (v ^^^ (2 ^ 31 - 1))
def ngTop : List Nat → List Nat
  | [] => []
  | v :: vs => ngv K v :: vs
def popB : List Nat → List Nat → Nat → List Nat × List Nat × Nat
  | [], vs, o => (vs, [], o)
  | c :: os, vs, o => if c = 33 then popB os (ngTop K vs) (o - 1) else (vs, c :: os, o)
def jnv (c a b : Nat) : Nat := if c = 38 then a &&& b else a ||| b
def jn (c : Nat) : List Nat → List Nat
  | b :: a :: vs => jnv c a b :: vs
  | vs => vs
def popJ (P : Nat → Bool) : List Nat → List Nat → List Nat × List Nat
  | [], vs => ([], vs)
  | c :: os, vs => if P c = true then popJ P os (jn c vs) else (c :: os, vs)
def opP (c t : Nat) : Bool := decide (t = 38 ∨ (c = 124 ∧ t = 124))
def noP (t : Nat) : Bool := decide (t ≠ 40)
def mstep (M : MSt) : Option MSt :=
  if M.1.2.2 = none then
    if M.2.1 = true then
      if isPt K len tx M.1 M.2.2.2.2 = true then
        if (psT len tx M.1).1 = 4 then
          some (psAdv len tx (M.1.1, M.1.2.1 + 1, M.1.2.2), false, popB K M.2.2.2.1 (bitsTo (fun j => j.testBit (psT len tx M.1).2.1) (2 ^ K) :: M.2.2.1) M.2.2.2.2)
        else some (psAdv len tx (M.1.1, M.1.2.1 + 1, M.1.2.2), true, M.2.2.1, (psT len tx M.1).2.1 :: M.2.2.2.1, M.2.2.2.2 + 1)
      else some (psFail M.1, true, M.2.2)
    else if psSg len tx M.1 38 = true ∨ psSg len tx M.1 124 = true then
      some (psAdv len tx M.1, true, (popJ (opP (psT len tx M.1).2.1) M.2.2.2.1 M.2.2.1).2, (psT len tx M.1).2.1 :: (popJ (opP (psT len tx M.1).2.1) M.2.2.2.1 M.2.2.1).1, M.2.2.2.2)
    else if psSg len tx M.1 41 = true ∧ 40 ∈ M.2.2.2.1 then
      some (psAdv len tx M.1, false, popB K (popJ noP M.2.2.2.1 M.2.2.1).1.tail (popJ noP M.2.2.2.1 M.2.2.1).2 (M.2.2.2.2 - 1))
    else none
  else none
def mitr : Nat → MSt → Option MSt
  | 0, M => some M
  | n + 1, M => Option.bind (mstep K len tx M) (mitr n)
def Rch (A B : MSt) : Prop := ∃ n, mitr K len tx n A = some B
/-- the fault with which a reader that stopped here ends -/
def mfin (M : MSt) : Option Nat := match M.1.2.2 with
  | some f => some f
  | none => if 40 ∈ M.2.2.2.1 then some M.1.1 else none
def Bad (A : MSt) (f : Nat) : Prop := ∃ F, Rch K len tx A F ∧ mstep K len tx F = none ∧ mfin F = some f
end MC
section MD
variable {K len : Nat} {tx : Nat → Nat}
theorem mitr_add : ∀ n m A B, mitr K len tx n A = some B → mitr K len tx (n + m) A = mitr K len tx m B
  | 0, m, A, B, h => by
    rw [mitr] at h
    cases h
    rw [Nat.zero_add]
  | n + 1, m, A, B, h => by
    rw [mitr] at h
    rw [show n + 1 + m = n + m + 1 by omega, mitr]
    cases hs : mstep K len tx A with
    | none => rw [hs] at h; cases h
    | some C =>
      rw [hs, Option.bind_some] at h
      rw [Option.bind_some]
      exact mitr_add n m C B h
theorem Rch.rf {A : MSt} : Rch K len tx A A := ⟨0, rfl⟩
theorem Rch.tr {A B C : MSt} (h : Rch K len tx A B) (g : Rch K len tx B C) : Rch K len tx A C := by
  obtain ⟨n, h⟩ := h
  obtain ⟨m, g⟩ := g
  exact ⟨n + m, by rw [mitr_add n m A B h, g]⟩
theorem Rch.one {A B : MSt} (h : mstep K len tx A = some B) : Rch K len tx A B := ⟨1, by rw [mitr, h]; rfl⟩
theorem Bad.on {A B : MSt} {f : Nat} (h : Rch K len tx A B) (g : Bad K len tx B f) : Bad K len tx A f := by
  obtain ⟨F, a, b, c⟩ := g
  exact ⟨F, h.tr a, b, c⟩
/-- values and signs that wait: a meet over a base -/
def MF (v : Nat) (vs os ws xs : List Nat) : Prop := (ws = v :: vs ∧ xs = os) ∨ ∃ a b, ws = b :: a :: vs ∧ xs = 38 :: os ∧ v = a &&& b
def UF (v : Nat) (vs os ws xs : List Nat) : Prop := MF v vs os ws xs ∨ ∃ u m, v = u ||| m ∧ MF m (u :: vs) (124 :: os) ws xs
theorem MF.pop {P : Nat → Bool} {v : Nat} {vs os ws xs : List Nat} (hP : P 38 = true) (h : MF v vs os ws xs) : popJ P xs ws = popJ P os (v :: vs) := by
  rcases h with ⟨rfl, rfl⟩ | ⟨a, b, rfl, rfl, rfl⟩
  · rfl
  · rw [popJ, if_pos hP]
    rfl
theorem UF.pop {P : Nat → Bool} {v : Nat} {vs os ws xs : List Nat} (hP : P 38 = true) (hQ : P 124 = true) (h : UF v vs os ws xs) : popJ P xs ws = popJ P os (v :: vs) := by
  rcases h with h | ⟨u, m, rfl, h⟩
  · exact h.pop hP
  · rw [h.pop hP, popJ, if_pos hQ]
    rfl
theorem popJ_stop {P : Nat → Bool} {os : List Nat} (h : ∀ c, os.head? = some c → P c = false) (vs : List Nat) : popJ P os vs = (os, vs) := by
  cases os with
  | nil => rfl
  | cons c os => rw [popJ, h c rfl, if_neg (by decide)]
theorem popB_stop {os : List Nat} (h : os.head? ≠ some 33) (vs : List Nat) (o : Nat) : popB K os vs o = (vs, os, o) := by
  cases os with
  | nil => rfl
  | cons c os => rw [popB, if_neg (fun z => h (by rw [z]; rfl))]
theorem UF.mem {v c : Nat} {vs os ws xs : List Nat} (h : UF v vs os ws xs) (hc : c ∈ os) : c ∈ xs := by
  rcases h with (⟨_, rfl⟩ | ⟨a, b, _, rfl, _⟩) | ⟨u, m, _, (⟨_, rfl⟩ | ⟨a, b, _, rfl, _⟩)⟩
  · exact hc
  · exact List.mem_cons_of_mem _ hc
  · exact List.mem_cons_of_mem _ hc
  · exact List.mem_cons_of_mem _ (List.mem_cons_of_mem _ hc)
theorem UF.nil {v c : Nat} {ws xs : List Nat} (h : UF v [] [] ws xs) (hc : c ∈ xs) : c = 38 ∨ c = 124 := by
  rcases h with (⟨_, rfl⟩ | ⟨a, b, _, rfl, _⟩) | ⟨u, m, _, (⟨_, rfl⟩ | ⟨a, b, _, rfl, _⟩)⟩ <;> simp at hc <;> omega
/-- a reader of parts and the machine -/
def DP (K len : Nat) (tx : Nat → Nat) (pp : PSt → Nat → Nat × PSt) (p : Nat) : Prop :=
  ∀ s vs os, s.2.2 = none → s.2.1 ≤ 24 → ((pp s p).2.2.2 = none → Rch K len tx (s, true, vs, os, p) ((pp s p).2, false, popB K os ((pp s p).1 :: vs) p)) ∧ ∀ f, (pp s p).2.2.2 = some f → Bad K len tx (s, true, vs, os, p) f
theorem psSg_v {s : PSt} {c : Nat} (h : psSg len tx s c = true) : (psT len tx s).2.1 = c := (of_decide_eq_true h).2
theorem psSg_u {s : PSt} {c e : Nat} (h : psSg len tx s c = true) (hne : c ≠ e) : ¬ psSg len tx s e = true := fun z => hne ((psSg_v h).symm.trans (psSg_v z))
theorem bad_here {s : PSt} {w : Bool} {r : List Nat × List Nat × Nat} {f : Nat} (h : s.2.2 = some f) : Bad K len tx (s, w, r) f := by
  refine ⟨(s, w, r), Rch.rf, ?_, ?_⟩
  · unfold mstep
    rw [if_neg (fun z => by have z : s.2.2 = none := z; rw [h] at z; cases z)]
  · unfold mfin
    show (match s.2.2 with | some f => some f | none => _) = some f
    rw [h]
theorem d_meetL {pp : PSt → Nat → Nat × PSt} {p : Nat} (h : DP K len tx pp p) (hq : PQ pp p) {vs os : List Nat} (h38 : os.head? ≠ some 38) :
    ∀ n s v ws xs, s.2.1 ≤ 24 → 24 < n + s.2.1 → s.2.2 = none → MF v vs os ws xs →
      ((pMeetL len tx pp p n s v).2.2.2 = none → ∃ ws' xs', MF (pMeetL len tx pp p n s v).1 vs os ws' xs' ∧ Rch K len tx (s, false, ws, xs, p) ((pMeetL len tx pp p n s v).2, false, ws', xs', p) ∧ ¬ psSg len tx (pMeetL len tx pp p n s v).2 38 = true) ∧
      ∀ f, (pMeetL len tx pp p n s v).2.2.2 = some f → Bad K len tx (s, false, ws, xs, p) f := by
  intro n
  induction n with
  | zero => intro s v ws xs h1 h2; omega
  | succ n ih =>
    intro s v ws xs h1 h2 h3 hF
    rw [pMeetL]
    by_cases c : psSg len tx s 38 = true
    · rw [if_pos ⟨h3, c⟩]
      have st : mstep K len tx (s, false, ws, xs, p) = some (psAdv len tx s, true, v :: vs, 38 :: os, p) := by
        unfold mstep
        rw [if_pos (show s.2.2 = none from h3), if_neg (show ¬ false = true by decide), if_pos (Or.inl c)]
        show some (psAdv len tx s, true, (popJ (opP (psT len tx s).2.1) xs ws).2, (psT len tx s).2.1 :: (popJ (opP (psT len tx s).2.1) xs ws).1, p) = _
        rw [psSg_v c, hF.pop (P := opP 38) (by decide), popJ_stop (P := opP 38) (fun c hc => by
          refine decide_eq_false (fun z => ?_)
          rcases z with z | z
          · rw [z] at hc; exact h38 hc
          · omega)]
      obtain ⟨g1, g2⟩ := h (psAdv len tx s) (v :: vs) (38 :: os) h3 h1
      obtain ⟨_, q2, q3⟩ := hq (psAdv len tx s) h1
      cases hr : (pp (psAdv len tx s) p).2.2.2 with
      | none =>
        have g1 := g1 hr
        rw [popB_stop (by simp)] at g1
        obtain ⟨_, q4⟩ := q3 hr
        have q4 : s.2.1 < (pp (psAdv len tx s) p).2.2.1 := q4
        obtain ⟨k1, k2⟩ := ih (pp (psAdv len tx s) p).2 (v &&& (pp (psAdv len tx s) p).1) _ _ q2 (by omega) hr (Or.inr ⟨v, (pp (psAdv len tx s) p).1, rfl, rfl, rfl⟩)
        have r0 := (Rch.one st).tr g1
        refine ⟨fun z => ?_, fun f z => Bad.on r0 (k2 f z)⟩
        obtain ⟨ws', xs', m1, m2, m3⟩ := k1 z
        exact ⟨ws', xs', m1, r0.tr m2, m3⟩
      | some f =>
        have e : ∀ v', pMeetL len tx pp p n (pp (psAdv len tx s) p).2 v' = (v', (pp (psAdv len tx s) p).2) := by
          intro v'
          cases n with
          | zero => rfl
          | succ n => rw [pMeetL, if_neg (fun z => by rw [hr] at z; cases z.1)]
        show ((pMeetL len tx pp p n (pp (psAdv len tx s) p).2 (v &&& (pp (psAdv len tx s) p).1)).2.2.2 = none → _) ∧ ∀ f, (pMeetL len tx pp p n (pp (psAdv len tx s) p).2 (v &&& (pp (psAdv len tx s) p).1)).2.2.2 = some f → _
        rw [e]
        refine ⟨fun z => ?_, fun f' z => ?_⟩
        · have z : (pp (psAdv len tx s) p).2.2.2 = none := z
          rw [hr] at z; cases z
        · exact Bad.on (Rch.one st) (g2 f' z)
    · rw [if_neg (fun z => c z.2)]
      refine ⟨fun _ => ⟨ws, xs, hF, Rch.rf, c⟩, fun f z => ?_⟩
      have z : s.2.2 = some f := z
      rw [h3] at z; cases z
/-- the same of a meet -/
def DM (K len : Nat) (tx : Nat → Nat) (pp : PSt → Nat → Nat × PSt) (p : Nat) : Prop :=
  ∀ s vs os, s.2.2 = none → s.2.1 ≤ 24 → os.head? ≠ some 33 → os.head? ≠ some 38 →
    ((pp s p).2.2.2 = none → ∃ ws xs, MF (pp s p).1 vs os ws xs ∧ Rch K len tx (s, true, vs, os, p) ((pp s p).2, false, ws, xs, p) ∧ ¬ psSg len tx (pp s p).2 38 = true) ∧ ∀ f, (pp s p).2.2.2 = some f → Bad K len tx (s, true, vs, os, p) f
theorem d_meet {pp : PSt → Nat → Nat × PSt} {p : Nat} (h : DP K len tx pp p) (hq : PQ pp p) : DM K len tx (pMeet len tx pp) p := by
  intro s vs os h1 h2 h33 h38
  obtain ⟨g1, g2⟩ := h s vs os h1 h2
  obtain ⟨_, q2, q3⟩ := hq s h2
  unfold pMeet
  cases hr : (pp s p).2.2.2 with
  | none =>
    have g1 := g1 hr
    rw [popB_stop h33] at g1
    obtain ⟨k1, k2⟩ := d_meetL h hq (vs := vs) h38 80 (pp s p).2 (pp s p).1 _ _ q2 (by omega) hr (Or.inl ⟨rfl, rfl⟩)
    refine ⟨fun z => ?_, fun f z => Bad.on g1 (k2 f z)⟩
    obtain ⟨ws', xs', m1, m2, m3⟩ := k1 z
    exact ⟨ws', xs', m1, g1.tr m2, m3⟩
  | some f =>
    have e : pMeetL len tx pp p 80 (pp s p).2 (pp s p).1 = ((pp s p).1, (pp s p).2) := by
      rw [pMeetL, if_neg (fun z => by rw [hr] at z; cases z.1)]
    show ((pMeetL len tx pp p 80 (pp s p).2 (pp s p).1).2.2.2 = none → _) ∧ ∀ f, (pMeetL len tx pp p 80 (pp s p).2 (pp s p).1).2.2.2 = some f → _
    rw [e]
    refine ⟨fun z => ?_, fun f' z => g2 f' z⟩
    have z : (pp s p).2.2.2 = none := z
    rw [hr] at z; cases z
theorem d_unionL {pp : PSt → Nat → Nat × PSt} {p : Nat} (h : DP K len tx pp p) (hq : PQ pp p) {vs os : List Nat} (h38 : os.head? ≠ some 38) (h124 : os.head? ≠ some 124) :
    ∀ n s v ws xs, s.2.1 ≤ 24 → 24 < n + s.2.1 → s.2.2 = none → ¬ psSg len tx s 38 = true → UF v vs os ws xs →
      ((pUnionL len tx pp p n s v).2.2.2 = none → ∃ ws' xs', UF (pUnionL len tx pp p n s v).1 vs os ws' xs' ∧ Rch K len tx (s, false, ws, xs, p) ((pUnionL len tx pp p n s v).2, false, ws', xs', p) ∧ ¬ psSg len tx (pUnionL len tx pp p n s v).2 38 = true ∧ ¬ psSg len tx (pUnionL len tx pp p n s v).2 124 = true) ∧
      ∀ f, (pUnionL len tx pp p n s v).2.2.2 = some f → Bad K len tx (s, false, ws, xs, p) f := by
  intro n
  induction n with
  | zero => intro s v ws xs h1 h2; omega
  | succ n ih =>
    intro s v ws xs h1 h2 h3 h4 hF
    rw [pUnionL]
    by_cases c : psSg len tx s 124 = true
    · rw [if_pos ⟨h3, c⟩]
      have st : mstep K len tx (s, false, ws, xs, p) = some (psAdv len tx s, true, v :: vs, 124 :: os, p) := by
        unfold mstep
        rw [if_pos (show s.2.2 = none from h3), if_neg (show ¬ false = true by decide), if_pos (Or.inr c)]
        show some (psAdv len tx s, true, (popJ (opP (psT len tx s).2.1) xs ws).2, (psT len tx s).2.1 :: (popJ (opP (psT len tx s).2.1) xs ws).1, p) = _
        rw [psSg_v c, hF.pop (P := opP 124) (by decide) (by decide), popJ_stop (P := opP 124) (fun c hc => by
          refine decide_eq_false (fun z => ?_)
          rcases z with z | z
          · rw [z] at hc; exact h38 hc
          · rw [z.2] at hc; exact h124 hc)]
      obtain ⟨g1, g2⟩ := d_meet h hq (psAdv len tx s) (v :: vs) (124 :: os) h3 h1 (by simp) (by simp)
      obtain ⟨_, q2, q3⟩ := meet_q (len := len) (tx := tx) hq (psAdv len tx s) h1
      cases hr : (pMeet len tx pp (psAdv len tx s) p).2.2.2 with
      | none =>
        obtain ⟨ws1, xs1, n1, n2, n3⟩ := g1 hr
        obtain ⟨_, q4⟩ := q3 hr
        have q4 : s.2.1 < (pMeet len tx pp (psAdv len tx s) p).2.2.1 := q4
        obtain ⟨k1, k2⟩ := ih (pMeet len tx pp (psAdv len tx s) p).2 (v ||| (pMeet len tx pp (psAdv len tx s) p).1) ws1 xs1 q2 (by omega) hr n3 (Or.inr ⟨v, _, rfl, n1⟩)
        have r0 := (Rch.one st).tr n2
        refine ⟨fun z => ?_, fun f z => Bad.on r0 (k2 f z)⟩
        obtain ⟨ws', xs', m1, m2, m3⟩ := k1 z
        exact ⟨ws', xs', m1, r0.tr m2, m3⟩
      | some f =>
        have e : ∀ v', pUnionL len tx pp p n (pMeet len tx pp (psAdv len tx s) p).2 v' = (v', (pMeet len tx pp (psAdv len tx s) p).2) := by
          intro v'
          cases n with
          | zero => rfl
          | succ n => rw [pUnionL, if_neg (fun z => by rw [hr] at z; cases z.1)]
        show ((pUnionL len tx pp p n (pMeet len tx pp (psAdv len tx s) p).2 (v ||| (pMeet len tx pp (psAdv len tx s) p).1)).2.2.2 = none → _) ∧ ∀ f, (pUnionL len tx pp p n (pMeet len tx pp (psAdv len tx s) p).2 (v ||| (pMeet len tx pp (psAdv len tx s) p).1)).2.2.2 = some f → _
        rw [e]
        refine ⟨fun z => ?_, fun f' z => ?_⟩
        · have z : (pMeet len tx pp (psAdv len tx s) p).2.2.2 = none := z
          rw [hr] at z; cases z
        · exact Bad.on (Rch.one st) (g2 f' z)
    · rw [if_neg (fun z => c z.2)]
      refine ⟨fun _ => ⟨ws, xs, hF, Rch.rf, h4, c⟩, fun f z => ?_⟩
      have z : s.2.2 = some f := z
      rw [h3] at z; cases z
def DU (K len : Nat) (tx : Nat → Nat) (pp : PSt → Nat → Nat × PSt) (p : Nat) : Prop :=
  ∀ s vs os, s.2.2 = none → s.2.1 ≤ 24 → os.head? ≠ some 33 → os.head? ≠ some 38 → os.head? ≠ some 124 →
    ((pp s p).2.2.2 = none → ∃ ws xs, UF (pp s p).1 vs os ws xs ∧ Rch K len tx (s, true, vs, os, p) ((pp s p).2, false, ws, xs, p) ∧ ¬ psSg len tx (pp s p).2 38 = true ∧ ¬ psSg len tx (pp s p).2 124 = true) ∧ ∀ f, (pp s p).2.2.2 = some f → Bad K len tx (s, true, vs, os, p) f
theorem d_union {pp : PSt → Nat → Nat × PSt} {p : Nat} (h : DP K len tx pp p) (hq : PQ pp p) : DU K len tx (pUnion len tx pp) p := by
  intro s vs os h1 h2 h33 h38 h124
  obtain ⟨g1, g2⟩ := d_meet h hq s vs os h1 h2 h33 h38
  obtain ⟨_, q2, q3⟩ := meet_q (len := len) (tx := tx) hq s h2
  unfold pUnion
  cases hr : (pMeet len tx pp s p).2.2.2 with
  | none =>
    obtain ⟨ws1, xs1, n1, n2, n3⟩ := g1 hr
    obtain ⟨k1, k2⟩ := d_unionL h hq (vs := vs) h38 h124 80 (pMeet len tx pp s p).2 (pMeet len tx pp s p).1 ws1 xs1 q2 (by omega) hr n3 (Or.inl n1)
    refine ⟨fun z => ?_, fun f z => Bad.on n2 (k2 f z)⟩
    obtain ⟨ws', xs', m1, m2, m3⟩ := k1 z
    exact ⟨ws', xs', m1, n2.tr m2, m3⟩
  | some f =>
    have e : pUnionL len tx pp p 80 (pMeet len tx pp s p).2 (pMeet len tx pp s p).1 = ((pMeet len tx pp s p).1, (pMeet len tx pp s p).2) := by
      rw [pUnionL, if_neg (fun z => by rw [hr] at z; cases z.1)]
    show ((pUnionL len tx pp p 80 (pMeet len tx pp s p).2 (pMeet len tx pp s p).1).2.2.2 = none → _) ∧ ∀ f, (pUnionL len tx pp p 80 (pMeet len tx pp s p).2 (pMeet len tx pp s p).1).2.2.2 = some f → _
    rw [e]
    refine ⟨fun z => ?_, fun f' z => g2 f' z⟩
    have z : (pMeet len tx pp s p).2.2.2 = none := z
    rw [hr] at z; cases z
theorem psFail_f {s : PSt} (h : s.2.2 = none) : psFail s = (s.1, s.2.1, some s.1) := by
  unfold psFail
  rw [h]
theorem d_part (hK : K ≤ 4) : ∀ n p, p ≤ 8 → 9 ≤ n + p → DP K len tx (pPart K len tx n) p := by
  intro n
  induction n with
  | zero => intro p h1 h2; omega
  | succ n ih =>
    intro p h1 h2 s vs os h3 h4
    rw [pPart]
    cases hpt : isPt K len tx s p with
    | false =>
      rw [if_neg (show ¬ false = true by decide), if_neg (psFail_n s)]
      refine ⟨fun z => absurd z (psFail_n s), fun f z => ?_⟩
      have st : mstep K len tx (s, true, vs, os, p) = some (psFail s, true, vs, os, p) := by
        unfold mstep
        rw [if_pos (show s.2.2 = none from h3), if_pos rfl, if_neg (by rw [hpt]; decide)]
      exact Bad.on (Rch.one st) (bad_here z)
    | true =>
      rw [if_pos rfl, if_pos h3]
      have hp24 : s.2.1 < 24 := by
        unfold isPt at hpt
        exact of_decide_eq_true (Bool.and_eq_true_iff.mp hpt).1
      by_cases k4 : (psT len tx s).1 = 4
      · rw [if_pos k4]
        have st : mstep K len tx (s, true, vs, os, p) = some (psAdv len tx (s.1, s.2.1 + 1, s.2.2), false, popB K os (bitsTo (fun j => j.testBit (psT len tx s).2.1) (2 ^ K) :: vs) p) := by
          unfold mstep
          rw [if_pos (show s.2.2 = none from h3), if_pos rfl, if_pos hpt, if_pos k4]
        refine ⟨fun _ => Rch.one st, fun f z => ?_⟩
        have z : s.2.2 = some f := z
        rw [h3] at z; cases z
      · rw [if_neg k4]
        have hor : (psSg len tx s 33 || psSg len tx s 40) = true ∧ p < 8 := by
          unfold isPt at hpt
          have := (Bool.and_eq_true_iff.mp hpt).2
          rw [decide_eq_false (fun z => k4 z.1), Bool.false_or] at this
          obtain ⟨a, b⟩ := Bool.and_eq_true_iff.mp this
          exact ⟨a, of_decide_eq_true b⟩
        have st : mstep K len tx (s, true, vs, os, p) = some (psAdv len tx (s.1, s.2.1 + 1, s.2.2), true, vs, (psT len tx s).2.1 :: os, p + 1) := by
          unfold mstep
          rw [if_pos (show s.2.2 = none from h3), if_pos rfl, if_pos hpt, if_neg k4]
        have hd := ih (p + 1) (by omega) (by omega)
        have hq := part_q (len := len) (tx := tx) hK n (p + 1) (by omega) (by omega)
        by_cases k33 : psSg len tx s 33 = true
        · rw [if_pos k33]
          rw [psSg_v k33] at st
          obtain ⟨g1, g2⟩ := hd (psAdv len tx (s.1, s.2.1 + 1, s.2.2)) vs (33 :: os) h3 (by show s.2.1 + 1 ≤ 24; omega)
          exact ⟨fun z => (Rch.one st).tr (g1 z), fun f z => Bad.on (Rch.one st) (g2 f z)⟩
        · rw [if_neg k33]
          have k40 : psSg len tx s 40 = true := by
            rw [Bool.eq_false_iff.mpr k33, Bool.false_or] at hor
            exact hor.1
          rw [psSg_v k40] at st
          obtain ⟨g1, g2⟩ := d_union hd hq (psAdv len tx (s.1, s.2.1 + 1, s.2.2)) vs (40 :: os) h3 (by show s.2.1 + 1 ≤ 24; omega) (by simp) (by simp) (by simp)
          have eb : ∀ u, psPass len tx u 41 = psB len tx (psSg len tx u 41) u := fun _ => rfl
          generalize hr : pUnion len tx (pPart K len tx n) (psAdv len tx (s.1, s.2.1 + 1, s.2.2)) (p + 1) = r at *
          show ((psPass len tx r.2 41).2.2 = none → Rch K len tx (s, true, vs, os, p) (psPass len tx r.2 41, false, popB K os (r.1 :: vs) p)) ∧ ∀ f, (psPass len tx r.2 41).2.2 = some f → _
          rw [eb]
          cases hf : r.2.2.2 with
          | none =>
            obtain ⟨ws, xs, m1, m2, m3, m4⟩ := g1 hf
            have r0 := (Rch.one st).tr m2
            have h40 : 40 ∈ xs := m1.mem List.mem_cons_self
            have base : ∀ o, mstep K len tx (r.2, false, ws, xs, o) = (if psSg len tx r.2 41 = true ∧ 40 ∈ xs then some (psAdv len tx r.2, false, popB K (popJ noP xs ws).1.tail (popJ noP xs ws).2 (o - 1)) else none) := by
              intro o
              unfold mstep
              rw [if_pos (show r.2.2.2 = none from hf), if_neg (show ¬ false = true by decide), if_neg (fun z => z.elim m3 m4)]
            unfold psB
            by_cases k41 : psSg len tx r.2 41 = true
            · rw [if_pos k41, if_pos hf]
              have st2 := base (p + 1)
              rw [if_pos ⟨k41, h40⟩, m1.pop (P := noP) (by decide) (by decide), popJ_stop (P := noP) (fun c hc => by cases hc; decide)] at st2
              refine ⟨fun _ => r0.tr (Rch.one st2), fun f z => ?_⟩
              have z : r.2.2.2 = some f := z
              rw [hf] at z; cases z
            · rw [if_neg k41]
              refine ⟨fun z => absurd z (psFail_n _), fun f z => ?_⟩
              rw [psFail_f hf] at z
              refine Bad.on r0 ⟨_, Rch.rf, ?_, ?_⟩
              · rw [base, if_neg (fun y => k41 y.1)]
              · unfold mfin
                show (match r.2.2.2 with | some f => some f | none => if 40 ∈ xs then some r.2.1 else none) = some f
                rw [hf]
                show (if 40 ∈ xs then some r.2.1 else none) = some f
                rw [if_pos h40]
                exact z
          | some f =>
            have e : (psB len tx (psSg len tx r.2 41) r.2) = r.2 := by
              unfold psB psFail
              rw [hf]
              cases psSg len tx r.2 41 <;> simp
            rw [e]
            refine ⟨fun z => ?_, fun f' z => Bad.on (Rch.one st) (g2 f' z)⟩
            rw [hf] at z; cases z
/-- a whole side -/
theorem d_side (hK : K ≤ 4) (s : PSt) (h1 : s.2.2 = none) (h2 : s.2.1 ≤ 24) :
    ∃ F, Rch K len tx (s, true, [], [], 0) F ∧ mstep K len tx F = none ∧ ((pUnion len tx (pPart K len tx 12) s 0).2.2.2 = none → mfin F = none ∧ F.1 = (pUnion len tx (pPart K len tx 12) s 0).2 ∧ F.2.1 = false ∧ popJ (fun _ => true) F.2.2.2.1 F.2.2.1 = ([], [(pUnion len tx (pPart K len tx 12) s 0).1])) ∧
      ∀ f, (pUnion len tx (pPart K len tx 12) s 0).2.2.2 = some f → mfin F = some f := by
  obtain ⟨g1, g2⟩ := d_union (d_part (len := len) (tx := tx) hK 12 0 (by omega) (by omega)) (part_q hK 12 0 (by omega) (by omega)) s [] [] h1 h2 (by simp) (by simp) (by simp)
  generalize hr : pUnion len tx (pPart K len tx 12) s 0 = r at *
  cases hf : r.2.2.2 with
  | none =>
    obtain ⟨ws, xs, m1, m2, m3, m4⟩ := g1 hf
    have h40 : ¬ 40 ∈ xs := fun z => by
      have := m1.nil z
      omega
    refine ⟨_, m2, ?_, fun _ => ⟨?_, rfl, rfl, ?_⟩, fun f z => by cases z⟩
    · unfold mstep
      rw [if_pos (show r.2.2.2 = none from hf), if_neg (show ¬ false = true by decide), if_neg (fun z => z.elim m3 m4), if_neg (fun z => h40 z.2)]
    · unfold mfin
      show (match r.2.2.2 with | some f => some f | none => if 40 ∈ xs then some r.2.1 else none) = none
      rw [hf]
      show (if 40 ∈ xs then some r.2.1 else none) = none
      rw [if_neg h40]
    · show popJ (fun _ => true) xs ws = _
      rw [m1.pop rfl rfl]
      rfl
  | some f =>
    obtain ⟨F, a, b, c⟩ := g2 f hf
    refine ⟨F, a, b, fun z => (by cases z), fun f' z => ?_⟩
    cases z
    exact c
end MD
