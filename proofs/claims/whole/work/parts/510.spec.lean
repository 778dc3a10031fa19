/-! THE DOCUMENT'S STATE AND A DAY, as numbers and functions -/
/-- a scene: at, stiff, who, since; stayed, day, claps -/
abbrev Sc : Type := (Int → Int) × (Int → Int) × (Int → Int) × (Int → Int) × Int × Int × Int
abbrev cAt (s : Sc) : Int → Int := s.1
abbrev cSt (s : Sc) : Int → Int := s.2.1
abbrev cWh (s : Sc) : Int → Int := s.2.2.1
abbrev cSi (s : Sc) : Int → Int := s.2.2.2.1
abbrev cSy (s : Sc) : Int := s.2.2.2.2.1
abbrev cDy (s : Sc) : Int := s.2.2.2.2.2.1
abbrev cCl (s : Sc) : Int := s.2.2.2.2.2.2
/-- what is told: side, fades, pens, winds; way, strong, mark -/
abbrev Td : Type := Int × Int × Int × Int × (Int → Int) × (Int → Int) × (Int → Int)
abbrev tSd (t : Td) : Int := t.1
abbrev tFd (t : Td) : Int := t.2.1
abbrev tPn (t : Td) : Int := t.2.2.1
abbrev tWn (t : Td) : Int := t.2.2.2.1
abbrev tWy (t : Td) : Int → Int := t.2.2.2.2.1
abbrev tSg (t : Td) : Int → Int := t.2.2.2.2.2.1
abbrev tMk (t : Td) : Int → Int := t.2.2.2.2.2.2
/-- a rule: what its text comes to, by the twelve words; none: no rule in force -/
abbrev Ru : Type := Option ((Int → Int) → Int)
def nCl (t : Td) : Nat := (tSd t * tSd t).toNat
def wOn (t : Td) (d : Int) : Int := if tWn t = 0 then 0 else tWy t (Int.tmod d (tWn t))
def fOn (t : Td) (d : Int) : Int := if tWn t = 0 then 0 else tSg t (Int.tmod d (tWn t))
def besS (side c b : Int) : Int :=
  if Int.tdiv c side + (if b = 0 then -1 else if b = 2 then 1 else 0) < 0 then -1
  else if Int.tmod c side + (if b = 1 then 1 else if b = 3 then -1 else 0) < 0 then -1
  else if Int.tdiv c side + (if b = 0 then -1 else if b = 2 then 1 else 0) = side then -1
  else if Int.tmod c side + (if b = 1 then 1 else if b = 3 then -1 else 0) = side then -1
  else side * (Int.tdiv c side + (if b = 0 then -1 else if b = 2 then 1 else 0)) + (Int.tmod c side + (if b = 1 then 1 else if b = 3 then -1 else 0))
def inkS (t : Td) (s : Sc) (q : Int) : Int := cnt (fun c => cWh s c = q) (nCl t) 0
def askS (t : Td) (s : Sc) (q : Int) : Int → Int := fun k =>
  if k = 0 then q else if k = 1 then Int.tdiv (cAt s q) (tSd t) else if k = 2 then Int.tmod (cAt s q) (tSd t) else if k = 3 then cSt s q
  else if k = 4 then wOn t (cDy s) else if k = 5 then fOn t (cDy s) else if k = 6 then inkS t s q
  else if k = 7 then (if cWh s (cAt s q) = -1 then 0 else 1) else if k = 8 then (if cWh s (cAt s q) = q then 1 else 0)
  else if k = 9 then tMk t (cAt s q) else if k = 10 then fOn t (cDy s + 1) else cDy s
def wrS (t : Td) (r : Ru) (s : Sc) (q : Int) : Bool := !(decide (zand (zshr (cSy s) q) 1 = 1)) && (match r with | none => true | some f => decide (0 < f (askS t s q)))
def setF (P : Int → Bool) : Nat → Int → Int → Int
  | 0, _, a => a
  | k + 1, q, a => setF P k (q + 1) (zor a (if P q = true then zshl 1 q else 0))
def setS (t : Td) (r : Ru) (s : Sc) : Int := setF (wrS t r s) (tPn t).toNat 0 0
def posS (t : Td) (s : Sc) (q : Int) : Int :=
  if tPn t ≤ q then cAt s q else if zand (zshr (cSy s) q) 1 = 1 then cAt s q else if fOn t (cDy s) < cSt s q then cAt s q
  else if besS (tSd t) (cAt s q) (wOn t (cDy s)) = -1 then cAt s q else besS (tSd t) (cAt s q) (wOn t (cDy s))
/-- how many of a set are in a cell, and the last of them -/
def nAt (w : Int) (p : Int → Int) (c : Int) (k : Nat) (q : Int) : Int := cnt (fun q => zand (zshr w q) 1 = 1 ∧ p q = c) k q
def lastAt (w : Int) (p : Int → Int) (c : Int) : Nat → Int → Int → Int
  | 0, _, l => l
  | k + 1, q, l => lastAt w p c k (q + 1) (if zand (zshr w q) 1 = 1 ∧ p q = c then q else l)
def clapN (w : Int) (p : Int → Int) (pens : Nat) : Nat → Int → Int
  | 0, _ => 0
  | k + 1, c => (if 1 < nAt w p c pens 0 then 1 else 0) + clapN w p pens k (c + 1)
def who1 (w : Int) (p : Int → Int) (pens : Nat) (W : Int → Int) (c : Int) : Int := if nAt w p c pens 0 = 0 then W c else if nAt w p c pens 0 = 1 then lastAt w p c pens 0 (-1) else -1
def sin1 (w : Int) (p : Int → Int) (pens : Nat) (D : Int → Int) (d : Int) (c : Int) : Int := if nAt w p c pens 0 = 0 then D c else if nAt w p c pens 0 = 1 then d else -1
def who2 (W D : Int → Int) (d f : Int) (c : Int) : Int := if W c ≠ -1 ∧ f < d - D c then -1 else W c
def sin2 (W D : Int → Int) (d f : Int) (c : Int) : Int := if W c ≠ -1 ∧ f < d - D c then -1 else D c
/-- a day, once it is known who writes -/
def dayW (t : Td) (w : Int) (s : Sc) : Sc :=
  (posS t s, cSt s,
   who2 (who1 w (posS t s) (tPn t).toNat (cWh s)) (sin1 w (posS t s) (tPn t).toNat (cSi s) (cDy s)) (cDy s + 1) (tFd t),
   sin2 (who1 w (posS t s) (tPn t).toNat (cWh s)) (sin1 w (posS t s) (tPn t).toNat (cSi s) (cDy s)) (cDy s + 1) (tFd t),
   cSy s, cDy s + 1, cCl s + clapN w (posS t s) (tPn t).toNat (nCl t) 0)
def dayS (t : Td) (r : Ru) (s : Sc) : Sc := dayW t (setS t r s) s
/-- n days -/
def daysS (t : Td) (r : Ru) : Nat → Sc → Sc
  | 0, s => s
  | n + 1, s => daysS t r n (dayS t r s)
def likeS (t : Td) (s : Sc) : Int := cnt (fun c => (cWh s c ≠ -1) = (tMk t c = 1)) (nCl t) 0
/-- in range -/
def TdOk (t : Td) : Prop := (tSd t = 0 ∨ (2 ≤ tSd t ∧ tSd t ≤ 6)) ∧ (0 ≤ tFd t ∧ tFd t ≤ 60) ∧ (0 ≤ tPn t ∧ tPn t ≤ 5) ∧ (0 ≤ tWn t ∧ tWn t ≤ 12) ∧ (∀ i, 0 ≤ i → i < tWn t → (0 ≤ tWy t i ∧ tWy t i ≤ 3) ∧ (0 ≤ tSg t i ∧ tSg t i ≤ 9)) ∧ ∀ c, 0 ≤ c → c < 36 → (tMk t c = 0 ∨ tMk t c = 1)
def ScOk (t : Td) (s : Sc) : Prop := (∀ q, 0 ≤ q → q < tPn t → (0 ≤ cAt s q ∧ cAt s q < tSd t * tSd t) ∧ (0 ≤ cSt s q ∧ cSt s q ≤ 9)) ∧ (∀ c, 0 ≤ c → c < tSd t * tSd t → (cWh s c = -1 ∧ cSi s c = -1) ∨ ((0 ≤ cWh s c ∧ cWh s c < tPn t) ∧ (0 ≤ cSi s c ∧ cSi s c ≤ cDy s))) ∧ (0 ≤ cSy s ∧ cSy s < 32)
/-- a scene that goes on for some days yet -/
def ScRm (s : Sc) (n : Nat) : Prop := (0 ≤ cDy s ∧ cDy s + n ≤ 100000) ∧ (0 ≤ cCl s ∧ cCl s + 36 * n ≤ 100000000)
