/-! the descent, over tokens alone: where the token at hand begins, how many parts were read, the fault -/
abbrev PSt : Type := Nat × Nat × Option Nat
section PA
variable (K len : Nat) (tx : Nat → Nat)
def psT (s : PSt) : Nat × Nat × Nat := tok len tx s.1
def psAdv (s : PSt) : PSt := (skp len tx (tok len tx s.1).2.2, s.2)
def psFail (s : PSt) : PSt := match s.2.2 with
  | none => (s.1, s.2.1, some s.1)
  | some _ => s
/-- is the token the sign c -/
def psSg (s : PSt) (c : Nat) : Bool := decide ((psT len tx s).1 = 5 ∧ (psT len tx s).2.1 = c)
def psPass (s : PSt) (c : Nat) : PSt := if psSg len tx s c = true then (if s.2.2 = none then psAdv len tx s else s) else psFail s
def pMeetL (part : PSt → Nat → Nat × PSt) (p : Nat) : Nat → PSt → Nat → Nat × PSt
  | 0, s, v => (v, s)
  | n + 1, s, v => if s.2.2 = none ∧ psSg len tx s 38 = true then
      let r := part (psAdv len tx s) p
      pMeetL part p n r.2 (v &&& r.1)
    else (v, s)
def pMeet (part : PSt → Nat → Nat × PSt) (s : PSt) (p : Nat) : Nat × PSt :=
  let r := part s p
  pMeetL len tx part p 80 r.2 r.1
def pUnionL (part : PSt → Nat → Nat × PSt) (p : Nat) : Nat → PSt → Nat → Nat × PSt
  | 0, s, v => (v, s)
  | n + 1, s, v => if s.2.2 = none ∧ psSg len tx s 124 = true then
      let r := pMeet len tx part (psAdv len tx s) p
      pUnionL part p n r.2 (v ||| r.1)
    else (v, s)
def pUnion (part : PSt → Nat → Nat × PSt) (s : PSt) (p : Nat) : Nat × PSt :=
  let r := pMeet len tx part s p
  pUnionL len tx part p 80 r.2 r.1
def isPt (s : PSt) (p : Nat) : Bool := decide (s.2.1 < 24) && (decide ((psT len tx s).1 = 4 ∧ (psT len tx s).2.1 < K) || ((psSg len tx s 33 || psSg len tx s 40) && decide (p < 8)))
/-- one part: a letter, ! and a part, ( a union ) -/
def pPart : Nat → PSt → Nat → Nat × PSt
  | 0, s, _ => (0, psFail s)
  | n + 1, s, p =>
    let s1 := if isPt K len tx s p = true then s else psFail s
    if s1.2.2 = none then
      let s2 := psAdv len tx (s1.1, s1.2.1 + 1, s1.2.2)
      if (psT len tx s).1 = 4 then (bitsTo (fun j => j.testBit (psT len tx s).2.1) (2 ^ K), s2)
      else if psSg len tx s 33 = true then
        let r := pPart n s2 (p + 1)
        ((2 ^ (2 ^ K) - 1) &&& (r.1 ^^^ (2 ^ 31 - 1)), r.2)
      else
        let r := pUnion len tx (pPart n) s2 (p + 1)
        (r.1, psPass len tx r.2 41)
    else (0, s1)
end PA
