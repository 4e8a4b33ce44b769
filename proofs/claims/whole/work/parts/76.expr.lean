/-! ===== expressions: the plain machine's steps ===== -/
abbrev Sk : Type := List (Nat × ev_S)
def tpk : Sk → Nat
  | [] => 0
  | x :: _ => x.1
/-- what may stand before the beginning of a test -/
def cTB (k : Nat) : Bool := decide (k = 21 ∨ k = 23 ∨ (1 ≤ bnd k ∧ bnd k ≤ 3))
def sg (q : Nat → Nat) (n f b : Nat) : Bool := decide (tkS q n f = 3 ∧ q f = b)
def nxt (q : Nat → Nat) (n f : Nat) : Nat := tkF q n (tkT q n f)
/-- which join the token is; 0: none -/
def jnK (q : Nat → Nat) (n f : Nat) : Nat := if tkS q n f = 1 then (if wdx q n f cs_9 = some 0 then 12 else if wdx q n f cs_9 = some 1 then 13 else 0) else if sg q n f 37 = true then 7 else if sg q n f 42 = true then 5 else if sg q n f 43 = true then 3 else if sg q n f 45 = true then 4 else if sg q n f 47 = true then 6 else if sg q n f 60 = true then 8 else if sg q n f 61 = true then 10 else if sg q n f 62 = true then 9 else 0
def nbT (q : Nat → Nat) (n f : Nat) : Nat := nbN q f (tkT q n f - f)
/-- a leaf: where it fails, or the token behind it and its value -/
def lfE (q : Nat → Nat) (n : Nat) (ord : Bool) (f : Nat) : Nat ⊕ (Nat × ev_S) :=
  if tkS q n f = 2 then (if nbT q n f ≤ 1000 then .inr (nxt q n f, fun _ => some (Int32.toInt64 (nI (nbT q n f)))) else .inl f)
  else if ord = false then (match wdx q n f cs_8 with
    | none => .inl f
    | some j => .inr (nxt q n f, fun W => some (W j)))
  else (match wdx q n f cs_7 with
    | none => .inl f
    | some j => if j < 4 then .inr (nxt q n f, fun W => some (W j)) else if tkS q n (nxt q n f) = 2 ∧ nbT q n (nxt q n f) ≤ 5 then .inr (nxt q n (nxt q n f), fun W => some (W (4 + (j - 4) * 6 + nbT q n (nxt q n f)))) else .inl (nxt q n f))
/-- expecting: token, waiting, leaves, brackets; behind: also the operand, and whether it is a test in brackets -/
abbrev StE : Type := Nat × Sk × Nat × Nat
abbrev StB : Type := Nat × Sk × ev_S × Bool × Nat × Nat
def zS : ev_S := fun _ => none
def stE (q : Nat → Nat) (n : Nat) (ord : Bool) (s : StE) : Nat ⊕ (StE ⊕ StB) :=
  if wdx q n s.1 cs_6 = some 0 then (if cTB (tpk s.2.1) = true then (if tpk s.2.1 = 11 then .inr (.inl (nxt q n s.1, s.2.1.tail, s.2.2)) else .inr (.inl (nxt q n s.1, (11, zS) :: s.2.1, s.2.2))) else .inl s.1)
  else if sg q n s.1 40 = true then (if cTB (tpk s.2.1) = true ∧ s.2.2.2 < 8 then .inr (.inl (nxt q n s.1, (23, zS) :: s.2.1, s.2.2.1, s.2.2.2 + 1)) else .inl s.1)
  else if sg q n s.1 91 = true then (if s.2.2.2 < 8 then .inr (.inl (nxt q n s.1, (22, zS) :: s.2.1, s.2.2.1, s.2.2.2 + 1)) else .inl s.1)
  else if s.2.2.1 < 50 then (match lfE q n ord s.1 with
    | .inl f => .inl f
    | .inr (f, v) => .inr (.inr (f, s.2.1, v, false, s.2.2.1 + 1, s.2.2.2)))
  else .inl s.1
/-- outcomes behind: 0 failed, 1 done, 2 a bracket too many behind a test (the class fails, the reference ends; the token is the sign that closes) -/
def stB (q : Nat → Nat) (n : Nat) (s : StB) : (Nat × ev_S) ⊕ (StE ⊕ StB) :=
  let f := s.1; let A := s.2.1; let v := s.2.2.1; let td := s.2.2.2.1; let lv := s.2.2.2.2.1; let br := s.2.2.2.2.2
  let k := jnK q n f; let u := bnd k
  if 5 ≤ u ∧ td = false then .inr (.inl (nxt q n f, (k, (fo u A v).2) :: (fo u A v).1, lv, br))
  else
    let A1 := (fo 5 A v).1; let v1 := (fo 5 A v).2
    let isT := td = true ∨ bnd (tpk A1) = 4
    if u = 4 ∧ td = false ∧ cTB (tpk A1) = true then .inr (.inl (nxt q n f, (k, v1) :: A1, lv, br))
    else if (u = 1 ∨ u = 2) ∧ isT then .inr (.inl (nxt q n f, (k, (fo u A1 v1).2) :: (fo u A1 v1).1, lv, br))
    else if sg q n f 41 = true ∧ isT then (if tpk (fo 1 A1 v1).1 = 23 then .inr (.inr (nxt q n f, (fo 1 A1 v1).1.tail, (fo 1 A1 v1).2, true, lv, br - 1)) else .inl (2, (fo 1 A1 v1).2))
    else if sg q n f 93 = true ∧ tpk A1 = 22 then .inr (.inr (nxt q n f, A1.tail, v1, false, lv, br - 1))
    else if tpk A1 = 20 then .inl (1, v1)
    else if isT then (if tpk (fo 1 A1 v1).1 = 21 then .inl (1, (fo 1 A1 v1).2) else .inl (0, v1))
    else .inl (0, v1)
/-- the whole run: outcome, place, value -/
def xrun (q : Nat → Nat) (n : Nat) (ord : Bool) : Nat → StE ⊕ StB → Nat × Nat × ev_S × Nat
  | 0, .inl s => (0, s.1, zS, s.2.2.1)
  | 0, .inr s => (0, s.1, zS, s.2.2.2.2.1)
  | m + 1, .inl s => match stE q n ord s with
    | .inl f => (0, f, zS, s.2.2.1)
    | .inr t => xrun q n ord m t
  | m + 1, .inr s => match stB q n s with
    | .inl o => (o.1, s.1, o.2, s.2.2.2.2.1)
    | .inr t => xrun q n ord m t
