/-! a whole text: its head, its two sides, its end; the class's side -/
section HD
variable (K len : Nat) (tx : Nat → Nat)
def h0 : PSt := (skp len tx 0, 0, none)
def hT : Bool := decide ((psT len tx (h0 len tx)).1 = 2 ∧ (psT len tx (h0 len tx)).2.1 = 8)
def h1 : PSt := if hT len tx = true then psAdv len tx (h0 len tx) else h0 len tx
def hW : Bool := decide ((psT len tx (h1 len tx)).1 = 2 ∧ (psT len tx (h1 len tx)).2.1 ≠ 8)
def h2 : PSt := if hW len tx = true then psAdv len tx (h1 len tx) else psFail (h1 len tx)
def wd : Nat := (psT len tx (h1 len tx)).2.1
def hN : Bool := hW len tx && decide (wd len tx = 4 ∨ wd len tx = 5)
def hO : Bool := decide ((psT len tx (h2 len tx)).1 = 3 ∧ (psT len tx (h2 len tx)).2.1 ≤ 6)
def h3 : PSt := if hN len tx = true then (if hO len tx = true then psAdv len tx (h2 len tx) else psFail (h2 len tx)) else h2 len tx
def hnum : Nat := if hN len tx = true then (psT len tx (h2 len tx)).2.1 else 0
def s1 : Nat × PSt := pUnion len tx (pPart K len tx 12) (h3 len tx) 0
def h4 : PSt := psPass len tx (s1 K len tx).2 58
def s2 : Nat × PSt := pUnion len tx (pPart K len tx 12) (h4 K len tx) 0
def hE : Bool := decide ((psT len tx (s2 K len tx).2).1 = 0)
def h5 : PSt := if hE K len tx = true then (s2 K len tx).2 else psFail (s2 K len tx).2
def l1 : Int32 := pLone len tx (h3 len tx) (s1 K len tx).2
def l2 : Int32 := pLone len tx (h4 K len tx) (s2 K len tx).2
def factOf (w : Nat) (T : Bool) (x y : Int32) : Int32 :=
  if x = -9 then -9 else if y = -9 then -9 else if w = 0 then fX6_factNumber (if T = true then 3 else 0) x y else if w = 1 then fX6_factNumber (if T = true then 2 else 1) x y else if w = 2 then fX6_factNumber (if T = true then 1 else 2) x y else -9
def dn : Sd := (wd len tx, hnum len tx, (s1 K len tx).1, (s2 K len tx).1, hT len tx, factOf (wd len tx) (hT len tx) (l1 K len tx) (l2 K len tx))
end HD
section XH
variable {K len : Nat} {tx : Nat → Nat}
theorem psFail_id {s : PSt} (h : s.2.2 ≠ none) : psFail s = s := by
  unfold psFail
  split
  · rename_i z; exact absurd z h
  · rfl
theorem psB_f {b : Bool} {s : PSt} (h : s.2.2 ≠ none) : psB len tx b s = s := by
  unfold psB
  cases b with
  | true => rw [if_pos rfl, if_neg h]
  | false => rw [if_neg (by decide), psFail_id h]
theorem pMeetL_f {pp : PSt → Nat → Nat × PSt} {p : Nat} {s : PSt} (h : s.2.2 ≠ none) (n v : Nat) : pMeetL len tx pp p n s v = (v, s) := by
  cases n with
  | zero => rfl
  | succ n => rw [pMeetL, if_neg (fun z => h z.1)]
theorem pUnionL_f {pp : PSt → Nat → Nat × PSt} {p : Nat} {s : PSt} (h : s.2.2 ≠ none) (n v : Nat) : pUnionL len tx pp p n s v = (v, s) := by
  cases n with
  | zero => rfl
  | succ n => rw [pUnionL, if_neg (fun z => h z.1)]
theorem pPart_f {s : PSt} (h : s.2.2 ≠ none) (n p : Nat) : (pPart K len tx n s p).2 = s := by
  cases n with
  | zero => exact psFail_id h
  | succ n =>
    rw [pPart]
    have e : (if isPt K len tx s p = true then s else psFail s) = s := by
      split
      · rfl
      · exact psFail_id h
    show (if (if isPt K len tx s p = true then s else psFail s).2.2 = none then _ else (0, if isPt K len tx s p = true then s else psFail s)).2 = s
    rw [e, if_neg h]
theorem pUnion_f {s : PSt} (h : s.2.2 ≠ none) (n p : Nat) : (pUnion len tx (pPart K len tx n) s p).2 = s := by
  have e1 : (pMeet len tx (pPart K len tx n) s p).2 = s := by
    unfold pMeet
    show (pMeetL len tx (pPart K len tx n) p 80 (pPart K len tx n s p).2 (pPart K len tx n s p).1).2 = s
    rw [pPart_f h, pMeetL_f h]
  unfold pUnion
  show (pUnionL len tx (pPart K len tx n) p 80 (pMeet len tx (pPart K len tx n) s p).2 (pMeet len tx (pPart K len tx n) s p).1).2 = s
  rw [e1, pUnionL_f h]
/-- the values are sets of sorts -/
def PV (K : Nat) (pp : PSt → Nat → Nat × PSt) : Prop := ∀ s p, (pp s p).1 < 2 ^ 2 ^ K
theorem meetL_v {pp : PSt → Nat → Nat × PSt} (h : PV K pp) (p : Nat) : ∀ n s v, v < 2 ^ 2 ^ K → (pMeetL len tx pp p n s v).1 < 2 ^ 2 ^ K := by
  intro n
  induction n with
  | zero => intro s v hv; exact hv
  | succ n ih =>
    intro s v hv
    rw [pMeetL]
    split
    · exact ih _ _ (Nat.lt_of_le_of_lt Nat.and_le_left hv)
    · exact hv
theorem meet_v {pp : PSt → Nat → Nat × PSt} (h : PV K pp) : PV K (pMeet len tx pp) := fun s p => meetL_v h p 80 _ _ (h s p)
theorem unionL_v {pp : PSt → Nat → Nat × PSt} (h : PV K pp) (p : Nat) : ∀ n s v, v < 2 ^ 2 ^ K → (pUnionL len tx pp p n s v).1 < 2 ^ 2 ^ K := by
  intro n
  induction n with
  | zero => intro s v hv; exact hv
  | succ n ih =>
    intro s v hv
    rw [pUnionL]
    split
    · exact ih _ _ (Nat.or_lt_two_pow hv (meet_v h _ _))
    · exact hv
theorem union_v {pp : PSt → Nat → Nat × PSt} (h : PV K pp) : PV K (pUnion len tx pp) := fun s p => unionL_v h p 80 _ _ (meet_v h s p)
theorem part_v : ∀ n, PV K (pPart K len tx n) := by
  intro n
  induction n with
  | zero => intro s p; exact Nat.two_pow_pos _
  | succ n ih =>
    intro s p
    rw [pPart]
    have h0 : 0 < 2 ^ 2 ^ K := Nat.two_pow_pos _
    generalize (if isPt K len tx s p = true then s else psFail s) = s1
    show (if s1.2.2 = none then _ else (0, s1)).1 < _
    split
    · split
      · exact bitsTo_lt _ _
      · split
        · have : (2 ^ 2 ^ K - 1) &&& ((pPart K len tx n (psAdv len tx (s1.1, s1.2.1 + 1, s1.2.2)) (p + 1)).1 ^^^ (2 ^ 31 - 1)) ≤ 2 ^ 2 ^ K - 1 := Nat.and_le_left
          exact Nat.lt_of_le_of_lt this (by omega)
        · exact union_v ih _ _
    · exact h0
theorem RS.fr {τ τ' : Tau} {s : PSt} {F : List (Nat × Nat)} {A : List Nat} (h : RS K len tx τ s) (hF : Fr F A τ τ') (h13 : ∀ j, 2 ≤ j ∧ j ≤ 4 → (13, j) ∉ F) (h14 : ∀ j, (1 ≤ j ∧ j ≤ 4) ∨ j = 6 → (14, j) ∉ F) (hA : 15 ∉ A) : RS K len tx τ' s := by
  obtain ⟨a1, a2, a3, a4, a5, a6, a7, a8⟩ := h
  refine ⟨a1.fr hF (h14 1 (by omega)) hA, ?_, by rw [(hF.1 13 2 (h13 2 (by omega))).1, a3], by rw [(hF.1 13 3 (h13 3 (by omega))).1, a4], by rw [(hF.1 13 4 (h13 4 (by omega))).1, a5], a6, a7, a8⟩
  unfold TX
  rw [(hF.1 14 2 (h14 2 (by omega))).1, (hF.1 14 3 (h14 3 (by omega))).1, (hF.1 14 4 (h14 4 (by omega))).1, (hF.1 14 6 (h14 6 (by omega))).1]
  exact a2
abbrev drF : List (Nat × Nat) := [(13, 2), (13, 3), (13, 4), (13, 5), (14, 2), (14, 3), (14, 4), (14, 5), (14, 6), (16, 0), (16, 1), (16, 2), (16, 3), (16, 4), (16, 5)]
theorem x_val2 {τ : Tau} {s : PSt} (h : RS K len tx τ s) (e : (psT len tx s).1 = 2) : tI τ 14 3 = nI (psT len tx s).2.1 ∧ (psT len tx s).2.1 < 9 := by
  obtain ⟨_, _, _, _, t2, _⟩ := h.2.1
  refine ⟨(t2 e).2, ?_⟩
  have e : (tok len tx s.1).1 = 2 := e
  show (tok len tx s.1).2.1 < 9
  rcases tok_inf h.hb s.1 with ⟨z, _⟩ | ⟨_, _, z | ⟨_, z⟩ | z | ⟨z, _⟩ | ⟨z, _⟩⟩
  · omega
  · omega
  · exact z
  · omega
  · omega
  · omega
theorem x_rdNum {τ : Tau} {s : PSt} (h : RS K len tx τ s) :
    ∃ τ', fX2_readNumber τ = some τ' ∧ RS K len tx τ' (if decide ((psT len tx s).1 = 3 ∧ (psT len tx s).2.1 ≤ 6) = true then (if s.2.2 = none then psAdv len tx s else s) else psFail s) ∧ Fr ((16, 1) :: rdF) [] τ τ' ∧ (decide ((psT len tx s).1 = 3 ∧ (psT len tx s).2.1 ≤ 6) = true → tI τ' 16 1 = nI (psT len tx s).2.1) := by
  have f1 : Fr [(16, 1)] [] τ (sI τ 16 1 (tI τ 14 3)) := Fr.sI (by decide)
  have R1 := h.fr f1 (fun j _ => by simp) (fun j _ => by simp) (by decide)
  have v1 : tI (sI τ 16 1 (tI τ 14 3)) 16 1 = tI τ 14 3 := by rw [tI_sI, if_pos ⟨rfl, rfl⟩]
  unfold fX2_readNumber
  rw [nm_i]
  generalize sI τ 16 1 (tI τ 14 3) = τ1 at *
  have v3 : (psT len tx s).1 = 3 → tI τ 14 3 = nI (min 1000 (psT len tx s).2.1) := fun e => (h.2.1.2.2.2.2.2.1 e).2
  have v3' : (psT len tx s).1 = 3 → tI τ1 14 3 = nI (min 1000 (psT len tx s).2.1) := fun e => by rw [(f1.1 14 3 (by decide)).1]; exact v3 e
  by_cases k3 : (psT len tx s).1 = 3
  · rw [if_pos (show tI τ1 14 2 = (3 : Int32) from (x_kd R1 (k := 3) (by omega)).mpr k3), v3' k3]
    by_cases k6 : (psT len tx s).2.1 ≤ 6
    · rw [if_pos (show nI (min 1000 (psT len tx s).2.1) ≤ (6 : Int32) from nI_le (b := 6) (by omega) (by omega)), decide_eq_true ⟨k3, k6⟩, if_pos rfl]
      obtain ⟨τ2, e2, x2⟩ := xs_pass R1 (p := nI 3) (b := true) (by rw [x_kd R1 (k := 3) (by omega)]; exact ⟨fun _ => rfl, fun _ => k3⟩) (fun _ => by have : (tok len tx s.1).1 = 3 := k3; omega)
      unfold fX2_readNumber_41
      rw [show (3 : Int32) = nI 3 from rfl, e2, Option.bind_some]
      refine ⟨τ2, rfl, x2.1, (f1.wk (by decide) (by decide)).tr (x2.2.1.wk (by decide) (by decide)), fun _ => ?_⟩
      rw [(x2.2.1.1 16 1 (by decide)).1, v1, v3 k3, Nat.min_eq_right (by omega)]
    · rw [if_neg (show ¬ nI (min 1000 (psT len tx s).2.1) ≤ (6 : Int32) from nI_ge (a := 6) (by omega) (by omega)), decide_eq_false (fun z => k6 z.2), if_neg (by decide), nm_i]
      have x1 := xs_fail R1
      obtain ⟨τ2, e2, x2⟩ := xs_pass x1.1 (p := nI 3) (b := true) (by rw [x_kd x1.1 (k := 3) (by omega)]; unfold psT; rw [psFail_1]; exact ⟨fun _ => rfl, fun _ => k3⟩) (fun _ => by rw [psFail_1]; have : (tok len tx s.1).1 = 3 := k3; omega)
      rw [psB_f (psFail_n s)] at x2
      unfold fX2_readNumber_41
      rw [show (3 : Int32) = nI 3 from rfl, e2, Option.bind_some]
      exact ⟨τ2, rfl, x2.1, (f1.wk (by decide) (by decide)).tr ((x1.tr x2).2.1.wk (by decide) (by decide)), fun z => by cases z⟩
  · rw [if_neg (show ¬ tI τ1 14 2 = (3 : Int32) from fun z => k3 ((x_kd R1 (k := 3) (by omega)).mp z)), decide_eq_false (fun z => k3 z.1), if_neg (by decide)]
    obtain ⟨τ2, e2, x2⟩ := xs_pass R1 (p := nI 3) (b := false) (by rw [x_kd R1 (k := 3) (by omega)]; exact ⟨fun z => absurd z k3, fun z => by cases z⟩) (fun z => by cases z)
    unfold fX2_readNumber_41
    rw [show (3 : Int32) = nI 3 from rfl, e2, Option.bind_some]
    exact ⟨τ2, rfl, x2.1, (f1.wk (by decide) (by decide)).tr (x2.2.1.wk (by decide) (by decide)), fun z => by cases z⟩
theorem h1_n : (h1 len tx).2.2 = none := by
  unfold h1
  split <;> rfl
abbrev hdF : List (Nat × Nat) := (16, 0) :: (16, 1) :: (16, 5) :: rdF
theorem x_head52 {τ : Tau} (h : RS K len tx τ (h1 len tx)) :
    ∃ τ', fX2_readHead_52 τ = some τ' ∧ RS K len tx τ' (h3 len tx) ∧ Fr ((16, 0) :: (16, 1) :: rdF) [] τ τ' ∧ ((h3 len tx).2.2 = none → tI τ' 16 0 = nI (wd len tx) ∧ tI τ' 16 1 = nI (hnum len tx) ∧ hW len tx = true) := by
  have hn := h1_n (len := len) (tx := tx)
  have f1 : Fr [(16, 0), (16, 1)] [] τ (sI (sI τ 16 0 (tI τ 14 3)) 16 1 0) := (Fr.sI (by decide)).tr (Fr.sI (by decide))
  have R1 := h.fr f1 (fun j _ => by simp) (fun j _ => by simp) (by decide)
  have v0 : tI (sI (sI τ 16 0 (tI τ 14 3)) 16 1 0) 16 0 = tI τ 14 3 := by rw [tI_sI, if_neg (by omega), tI_sI, if_pos ⟨rfl, rfl⟩]
  have v1 : tI (sI (sI τ 16 0 (tI τ 14 3)) 16 1 0) 16 1 = nI 0 := by rw [tI_sI, if_pos ⟨rfl, rfl⟩]; rfl
  have v3 : tI (sI (sI τ 16 0 (tI τ 14 3)) 16 1 0) 14 3 = tI τ 14 3 := (f1.1 14 3 (by decide)).1
  unfold fX2_readHead_52
  rw [nm_i, nm_i]
  generalize sI (sI τ 16 0 (tI τ 14 3)) 16 1 0 = τ1 at *
  -- what comes behind a word that can't be
  have bad : ∀ τ2, RS K len tx τ2 (psFail (h1 len tx)) → Fr ((16, 0) :: (16, 1) :: rdF) [] τ τ2 → h3 len tx = psFail (h1 len tx) → ∃ τ', (if tI τ2 16 0 = (4 : Int32) then fX2_readHead_128 τ2 else if tI τ2 16 0 = (5 : Int32) then fX2_readHead_128 τ2 else some τ2) = some τ' ∧ RS K len tx τ' (h3 len tx) ∧ Fr ((16, 0) :: (16, 1) :: rdF) [] τ τ' ∧ ((h3 len tx).2.2 = none → tI τ' 16 0 = nI (wd len tx) ∧ tI τ' 16 1 = nI (hnum len tx) ∧ hW len tx = true) := by
    intro τ2 R2 f2 e3
    have hb : (h3 len tx).2.2 ≠ none := by rw [e3]; exact psFail_n _
    have num : ∃ τ', fX2_readHead_128 τ2 = some τ' ∧ RS K len tx τ' (h3 len tx) ∧ Fr ((16, 0) :: (16, 1) :: rdF) [] τ τ' ∧ ((h3 len tx).2.2 = none → tI τ' 16 0 = nI (wd len tx) ∧ tI τ' 16 1 = nI (hnum len tx) ∧ hW len tx = true) := by
      obtain ⟨τ3, e, R3, f3, _⟩ := x_rdNum R2
      have e4 : (if decide ((psT len tx (psFail (h1 len tx))).1 = 3 ∧ (psT len tx (psFail (h1 len tx))).2.1 ≤ 6) = true then (if (psFail (h1 len tx)).2.2 = none then psAdv len tx (psFail (h1 len tx)) else psFail (h1 len tx)) else psFail (psFail (h1 len tx))) = psFail (h1 len tx) := by
        rw [if_neg (psFail_n _), psFail_id (psFail_n _)]
        split <;> rfl
      rw [e4] at R3
      unfold fX2_readHead_128
      rw [e, Option.bind_some]
      exact ⟨τ3, rfl, by rw [e3]; exact R3, f2.tr (f3.wk (by decide) (by decide)), fun z => absurd z hb⟩
    split
    · exact num
    · split
      · exact num
      · exact ⟨τ2, rfl, by rw [e3]; exact R2, f2, fun z => absurd z hb⟩
  by_cases k2 : (psT len tx (h1 len tx)).1 = 2
  · obtain ⟨w1, w2⟩ := x_val2 h k2
    rw [if_pos (show tI τ1 14 2 = (2 : Int32) from (x_kd R1 (k := 2) (by omega)).mpr k2), v3, w1]
    have k2' : (tok len tx (h1 len tx).1).1 = 2 := k2
    by_cases k8 : (psT len tx (h1 len tx)).2.1 = 8
    · rw [if_pos (show nI (psT len tx (h1 len tx)).2.1 = (8 : Int32) by rw [k8]; rfl), nm_i]
      have x1 := xs_fail R1
      obtain ⟨τ2, e2, x2⟩ := xs_pass x1.1 (p := nI 2) (b := true) (by rw [x_kd x1.1 (k := 2) (by omega)]; unfold psT; rw [psFail_1]; exact ⟨fun _ => rfl, fun _ => k2⟩) (fun _ => by rw [psFail_1]; omega)
      rw [psB_f (psFail_n _)] at x2
      unfold fX2_readHead_101
      rw [show (2 : Int32) = nI 2 from rfl, e2, Option.bind_some]
      have hw : hW len tx = false := decide_eq_false (fun z => z.2 k8)
      refine bad τ2 x2.1 ((f1.wk (by decide) (by decide)).tr ((x1.tr x2).2.1.wk (by decide) (by decide))) ?_
      unfold h3 hN h2
      rw [hw, Bool.false_and, if_neg (by decide), if_neg (by decide)]
    · rw [if_neg (show ¬ nI (psT len tx (h1 len tx)).2.1 = (8 : Int32) from fun z => k8 (nI_inj (b := 8) (by omega) (by omega) z))]
      obtain ⟨τ2, e2, x2⟩ := xs_pass R1 (p := nI 2) (b := true) (by rw [x_kd R1 (k := 2) (by omega)]; exact ⟨fun _ => rfl, fun _ => k2⟩) (fun _ => by omega)
      have hw : hW len tx = true := decide_eq_true ⟨k2, k8⟩
      have e3 : psB len tx true (h1 len tx) = h2 len tx := by
        unfold psB h2
        rw [if_pos rfl, if_pos hn, hw, if_pos rfl]
      rw [e3] at x2
      have u0 : tI τ2 16 0 = nI (wd len tx) := by rw [(x2.2.1.1 16 0 (by decide)).1, v0, w1]; rfl
      have u1 : tI τ2 16 1 = nI 0 := by rw [(x2.2.1.1 16 1 (by decide)).1, v1]
      have f2 : Fr ((16, 0) :: (16, 1) :: rdF) [] τ τ2 := (f1.wk (by decide) (by decide)).tr (x2.2.1.wk (by decide) (by decide))
      unfold fX2_readHead_101
      rw [show (2 : Int32) = nI 2 from rfl, e2, Option.bind_some, u0]
      have w2' : wd len tx < 9 := w2
      have h2n : (h2 len tx).2.2 = none := by
        unfold h2
        rw [hw, if_pos rfl]
        exact hn
      have num : (wd len tx = 4 ∨ wd len tx = 5) → ∃ τ', fX2_readHead_128 τ2 = some τ' ∧ RS K len tx τ' (h3 len tx) ∧ Fr ((16, 0) :: (16, 1) :: rdF) [] τ τ' ∧ ((h3 len tx).2.2 = none → tI τ' 16 0 = nI (wd len tx) ∧ tI τ' 16 1 = nI (hnum len tx) ∧ hW len tx = true) := by
        intro h45
        obtain ⟨τ3, e, R3, f3, g3⟩ := x_rdNum x2.1
        have hN' : hN len tx = true := by
          unfold hN
          rw [hw, Bool.true_and, decide_eq_true h45]
        have e5 : h3 len tx = (if decide ((psT len tx (h2 len tx)).1 = 3 ∧ (psT len tx (h2 len tx)).2.1 ≤ 6) = true then (if (h2 len tx).2.2 = none then psAdv len tx (h2 len tx) else h2 len tx) else psFail (h2 len tx)) := by
          unfold h3 hO
          rw [hN', if_pos rfl, if_pos h2n]
        unfold fX2_readHead_128
        rw [e, Option.bind_some]
        refine ⟨τ3, rfl, by rw [e5]; exact R3, f2.tr (f3.wk (by decide) (by decide)), fun z => ⟨by rw [(f3.1 16 0 (by decide)).1, u0], ?_, hw⟩⟩
        unfold hnum
        rw [hN', if_pos rfl]
        refine g3 ?_
        cases ho : decide ((psT len tx (h2 len tx)).1 = 3 ∧ (psT len tx (h2 len tx)).2.1 ≤ 6) with
        | true => rfl
        | false =>
          rw [e5, ho, if_neg (by decide)] at z
          exact absurd z (psFail_n _)
      by_cases w4 : wd len tx = 4
      · rw [if_pos (show nI (wd len tx) = (4 : Int32) by rw [w4]; rfl)]
        exact num (Or.inl w4)
      · rw [if_neg (show ¬ nI (wd len tx) = (4 : Int32) from fun z => w4 (nI_inj (b := 4) (by omega) (by omega) z))]
        by_cases w5 : wd len tx = 5
        · rw [if_pos (show nI (wd len tx) = (5 : Int32) by rw [w5]; rfl)]
          exact num (Or.inr w5)
        · rw [if_neg (show ¬ nI (wd len tx) = (5 : Int32) from fun z => w5 (nI_inj (b := 5) (by omega) (by omega) z))]
          have hN' : hN len tx = false := by
            unfold hN
            rw [hw, Bool.true_and, decide_eq_false (by omega)]
          have e5 : h3 len tx = h2 len tx := by
            unfold h3
            rw [hN', if_neg (by decide)]
          refine ⟨τ2, rfl, by rw [e5]; exact x2.1, f2, fun _ => ⟨u0, ?_, hw⟩⟩
          unfold hnum
          rw [hN', if_neg (by decide), u1]
  · rw [if_neg (show ¬ tI τ1 14 2 = (2 : Int32) from fun z => k2 ((x_kd R1 (k := 2) (by omega)).mp z))]
    obtain ⟨τ2, e2, x2⟩ := xs_pass R1 (p := nI 2) (b := false) (by rw [x_kd R1 (k := 2) (by omega)]; exact ⟨fun z => absurd z k2, fun z => by cases z⟩) (fun z => by cases z)
    have hw : hW len tx = false := decide_eq_false (fun z => k2 z.1)
    unfold fX2_readHead_101
    rw [show (2 : Int32) = nI 2 from rfl, e2, Option.bind_some]
    refine bad τ2 ?_ ((f1.wk (by decide) (by decide)).tr (x2.2.1.wk (by decide) (by decide))) ?_
    · have := x2.1
      unfold psB at this
      rw [if_neg (by decide)] at this
      exact this
    · unfold h3 hN h2
      rw [hw, Bool.false_and, if_neg (by decide), if_neg (by decide)]
theorem x_head {τ : Tau} (h : RS K len tx τ (h0 len tx)) :
    ∃ τ', fX2_readHead τ = some τ' ∧ RS K len tx τ' (h3 len tx) ∧ Fr hdF [] τ τ' ∧ ((h3 len tx).2.2 = none → tI τ' 16 0 = nI (wd len tx) ∧ tI τ' 16 1 = nI (hnum len tx) ∧ tI τ' 16 5 = bI (hT len tx) ∧ hW len tx = true) ∧ tI τ' 16 5 = bI (hT len tx) := by
  have e : fX2_readHead τ = fX2_readHead_32 τ (bI (hT len tx)) := by
    unfold fX2_readHead fX2_readHead_31 hT
    by_cases k2 : (psT len tx (h0 len tx)).1 = 2
    · obtain ⟨w1, w2⟩ := x_val2 h k2
      rw [if_pos (show tI τ 14 2 = (2 : Int32) from (x_kd h (k := 2) (by omega)).mpr k2), w1]
      by_cases k8 : (psT len tx (h0 len tx)).2.1 = 8
      · rw [if_pos (show nI (psT len tx (h0 len tx)).2.1 = (8 : Int32) by rw [k8]; rfl), decide_eq_true ⟨k2, k8⟩]; rfl
      · rw [if_neg (show ¬ nI (psT len tx (h0 len tx)).2.1 = (8 : Int32) from fun z => k8 (nI_inj (b := 8) (by omega) (by omega) z)), decide_eq_false (fun z => k8 z.2)]; rfl
    · rw [if_neg (show ¬ tI τ 14 2 = (2 : Int32) from fun z => k2 ((x_kd h (k := 2) (by omega)).mp z)), decide_eq_false (fun z => k2 z.1)]; rfl
  have f1 : Fr [(16, 5)] [] τ (sI τ 16 5 (bI (hT len tx))) := Fr.sI (by decide)
  have R1 := h.fr f1 (fun j _ => by simp) (fun j _ => by simp) (by decide)
  have v5 : tI (sI τ 16 5 (bI (hT len tx))) 16 5 = bI (hT len tx) := by rw [tI_sI, if_pos ⟨rfl, rfl⟩]
  rw [e]
  unfold fX2_readHead_32
  rw [if_pos (show bI (hT len tx) = 0 ∨ bI (hT len tx) = 1 by cases hT len tx <;> decide), nm_i, v5]
  generalize sI τ 16 5 (bI (hT len tx)) = τ1 at *
  have go : ∀ τ2, RS K len tx τ2 (h1 len tx) → Fr ((16, 5) :: rdF) [] τ τ2 → tI τ2 16 5 = bI (hT len tx) → ∃ τ', fX2_readHead_52 τ2 = some τ' ∧ RS K len tx τ' (h3 len tx) ∧ Fr hdF [] τ τ' ∧ ((h3 len tx).2.2 = none → tI τ' 16 0 = nI (wd len tx) ∧ tI τ' 16 1 = nI (hnum len tx) ∧ tI τ' 16 5 = bI (hT len tx) ∧ hW len tx = true) ∧ tI τ' 16 5 = bI (hT len tx) := by
    intro τ2 R2 f2 v2
    obtain ⟨τ3, e3, R3, f3, g3⟩ := x_head52 R2
    have v3 : tI τ3 16 5 = bI (hT len tx) := by rw [(f3.1 16 5 (by decide)).1, v2]
    refine ⟨τ3, e3, R3, (f2.wk (by decide) (by decide)).tr (f3.wk (by decide) (by decide)), fun z => ?_, v3⟩
    obtain ⟨a, b, c⟩ := g3 z
    exact ⟨a, b, v3, c⟩
  cases ht : hT len tx with
  | false =>
    rw [show bI false = (0 : Int32) from rfl, if_pos rfl]
    rw [ht] at v5 go
    have e1 : h1 len tx = h0 len tx := by unfold h1; rw [ht, if_neg (by decide)]
    exact go τ1 (by rw [e1]; exact R1) (f1.wk (by decide) (by decide)) v5
  | true =>
    rw [show bI true = (1 : Int32) from rfl, if_neg (by decide)]
    rw [ht] at v5 go
    have e1 : h1 len tx = psAdv len tx (h0 len tx) := by unfold h1; rw [ht, if_pos rfl]
    have hk : (tok len tx (h0 len tx).1).1 ≠ 0 := by
      have := (of_decide_eq_true ht).1
      unfold psT at this
      omega
    obtain ⟨τ2, e2, x2⟩ := xs_adv R1 hk
    rw [e2, Option.bind_some]
    exact go τ2 (by rw [e1]; exact x2.1) ((f1.wk (by decide) (by decide)).tr (x2.2.1.wk (by decide) (by decide))) (by rw [(x2.2.1.1 16 5 (by decide)).1, v5])
end XH
