/-! one token: both sides take the same -/
section TK3
variable {len : Nat} {tx : Nat → Nat}
def isSg (c : Nat) : Bool := decide (c = 58 ∨ c = 124 ∨ c = 38 ∨ c = 33 ∨ c = 40 ∨ c = 41)
/-- what begins at q: its kind (0 end, 1 bad, 2 word, 3 number, 4 letter, 5 sign), its value, where it ends -/
def tok (len : Nat) (tx : Nat → Nat) (q : Nat) : Nat × Nat × Nat :=
  if ¬ q < len then (0, 0, q)
  else if isLow (tx q) = true then match wdK (pack tx q (ends isLow len tx 80 q - q)) with
    | some k => (2, k, ends isLow len tx 80 q)
    | none => (1, 0, ends isLow len tx 80 q)
  else if isFig (tx q) = true then (if tx q = 48 ∧ 2 ≤ ends isFig len tx 80 q - q then (1, 0, ends isFig len tx 80 q) else (3, val tx q (ends isFig len tx 80 q - q), ends isFig len tx 80 q))
  else if 65 ≤ tx q ∧ tx q ≤ 68 then (4, tx q - 65, q + 1)
  else if isSg (tx q) = true then (5, tx q, q + 1) else (1, 0, q + 1)
def skp (len : Nat) (tx : Nat → Nat) (p : Nat) : Nat := ends (fun c => decide (c = 32)) len tx 80 p
def TX (τ : Tau) (place : Nat) (t : Nat × Nat × Nat) : Prop :=
  tI τ 14 4 = nI place ∧ tI τ 14 6 = nI t.2.2 ∧ (t.1 = 0 → tI τ 14 2 = nI 0) ∧ (t.1 = 1 → tI τ 14 2 = nI 1) ∧ (t.1 = 2 → tI τ 14 2 = nI 2 ∧ tI τ 14 3 = nI t.2.1) ∧ (t.1 = 3 → tI τ 14 2 = nI 3 ∧ tI τ 14 3 = nI (min 1000 t.2.1)) ∧ (t.1 = 4 → tI τ 14 2 = nI 4 ∧ tI τ 14 3 = nI t.2.1) ∧ (t.1 = 5 → tI τ 14 2 = nI t.2.1)
def TM (τ : Tau) (place : Nat) (t : Nat × Nat × Nat) : Prop :=
  tI τ 0 9 = nI place ∧ tI τ 0 7 = nI t.2.2 ∧ (t.1 = 0 → tI τ 0 8 = nI 0) ∧ (t.1 = 1 → tI τ 0 8 = nI 4) ∧ (t.1 = 2 → tI τ 0 8 = nI 1 ∧ tI τ 0 10 = nI t.2.1) ∧ (t.1 = 3 → tI τ 0 8 = nI 2 ∧ ∃ m, tI τ 0 10 = nI m ∧ Nm m t.2.1) ∧ (t.1 = 4 → tI τ 0 8 = nI 3 ∧ tI τ 0 10 = nI (65 + t.2.1)) ∧ (t.1 = 5 → tI τ 0 8 = nI 3 ∧ tI τ 0 10 = nI t.2.1)
theorem x_sign : ∀ c, c < 256 → ∀ τ : Tau, fX4_takeSign_38 (nI c) τ = (if isSg c = true then sI τ 14 2 (nI c) else sI τ 14 2 1) := by
  intro c hc τ
  unfold fX4_takeSign_38 fX4_takeSign_74 isSg
  have q : ∀ k : Nat, k < 256 → ((nI c = nI k) ↔ c = k) := fun k hk => nI_eq (by omega) (by omega)
  rw [show (58 : Int32) = nI 58 from rfl, show (124 : Int32) = nI 124 from rfl, show (38 : Int32) = nI 38 from rfl, show (33 : Int32) = nI 33 from rfl, show (40 : Int32) = nI 40 from rfl, show (41 : Int32) = nI 41 from rfl]
  simp only [nm_i]
  by_cases h1 : c = 58
  · rw [if_pos ((q 58 (by omega)).mpr h1), if_pos (decide_eq_true (by omega))]
  rw [if_neg (fun z => h1 ((q 58 (by omega)).mp z))]
  by_cases h2 : c = 124
  · rw [if_pos ((q 124 (by omega)).mpr h2), if_pos (decide_eq_true (by omega))]
  rw [if_neg (fun z => h2 ((q 124 (by omega)).mp z))]
  by_cases h3 : c = 38
  · rw [if_pos ((q 38 (by omega)).mpr h3), if_pos (decide_eq_true (by omega))]
  rw [if_neg (fun z => h3 ((q 38 (by omega)).mp z))]
  by_cases h4 : c = 33
  · rw [if_pos ((q 33 (by omega)).mpr h4), if_pos (decide_eq_true (by omega))]
  rw [if_neg (fun z => h4 ((q 33 (by omega)).mp z))]
  by_cases h5 : c = 40
  · rw [if_pos ((q 40 (by omega)).mpr h5), if_pos (decide_eq_true (by omega))]
  rw [if_neg (fun z => h5 ((q 40 (by omega)).mp z))]
  by_cases h6 : c = 41
  · rw [if_pos ((q 41 (by omega)).mpr h6), if_pos (decide_eq_true (by omega))]
  rw [if_neg (fun z => h6 ((q 41 (by omega)).mp z)), if_neg (fun z => absurd (of_decide_eq_true z) (by omega))]
end TK3
