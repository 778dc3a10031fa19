/-! RULES: a row of entries, and what it comes to -/
/-- the class's number of an entry's kind -/
def kc (k : Int) : Int := if k = 4 then 7 else if k = 5 then 8 else if k = 6 then 9 else if k = 7 then 10 else if k = 8 then 11 else if k = 9 then 14 else if k = 10 then 12 else if k = 11 then 13 else if k = 13 then 4 else if k = 14 then 5 else if k = 15 then 6 else if k = 16 then 15 else if k = 17 then 16 else k
noncomputable def encC (c : Int × Int) : Int := zor (kc c.1) (zshl c.2 5)
/-- entries that stand in a row of the class -/
def SgC (f : Int → Int) : Int → List (Int × Int) → Prop
  | _, [] => True
  | o, c :: cs => f o = encC c ∧ SgC f (o + 1) cs
/-- entries that stand in two rows of the reference -/
def SgR (f g : Int → Int) : Int → List (Int × Int) → Prop
  | _, [] => True
  | o, c :: cs => (f o = c.1 ∧ g o = c.2) ∧ SgR f g (o + 1) cs
theorem SgC.app {f : Int → Int} : ∀ (a : List (Int × Int)) (b : List (Int × Int)) (o : Int), SgC f o (a ++ b) ↔ SgC f o a ∧ SgC f (o + (a.length : Int)) b := by
  intro a
  induction a with
  | nil => intro b o; simp [SgC]
  | cons c cs ih =>
    intro b o
    have e : o + 1 + (cs.length : Int) = o + ((c :: cs).length : Int) := by simp only [List.length_cons]; omega
    show (f o = encC c ∧ SgC f (o + 1) (cs ++ b)) ↔ (f o = encC c ∧ SgC f (o + 1) cs) ∧ SgC f (o + ((c :: cs).length : Int)) b
    rw [ih b (o + 1), e, and_assoc]
theorem SgR.app {f g : Int → Int} : ∀ (a : List (Int × Int)) (b : List (Int × Int)) (o : Int), SgR f g o (a ++ b) ↔ SgR f g o a ∧ SgR f g (o + (a.length : Int)) b := by
  intro a
  induction a with
  | nil => intro b o; simp [SgR]
  | cons c cs ih =>
    intro b o
    have e : o + 1 + (cs.length : Int) = o + ((c :: cs).length : Int) := by simp only [List.length_cons]; omega
    show ((f o = c.1 ∧ g o = c.2) ∧ SgR f g (o + 1) (cs ++ b)) ↔ ((f o = c.1 ∧ g o = c.2) ∧ SgR f g (o + 1) cs) ∧ SgR f g (o + ((c :: cs).length : Int)) b
    rw [ih b (o + 1), e]; exact and_assoc.symm
theorem SgC.eq {f g : Int → Int} : ∀ (a : List (Int × Int)) (o : Int), SgC f o a → (∀ i, o ≤ i → i < o + (a.length : Int) → g i = f i) → SgC g o a := by
  intro a
  induction a with
  | nil => intro o _ _; trivial
  | cons c cs ih =>
    intro o h e
    simp only [List.length_cons] at e
    exact ⟨(e o (by omega) (by omega)).trans h.1, ih (o + 1) h.2 (fun i x y => e i (by omega) (by omega))⟩
theorem SgR.eq {f g f' g' : Int → Int} : ∀ (a : List (Int × Int)) (o : Int), SgR f g o a → (∀ i, o ≤ i → i < o + (a.length : Int) → f' i = f i ∧ g' i = g i) → SgR f' g' o a := by
  intro a
  induction a with
  | nil => intro o _ _; trivial
  | cons c cs ih =>
    intro o h e
    simp only [List.length_cons] at e
    have e0 := e o (by omega) (by omega)
    exact ⟨⟨e0.1.trans h.1.1, e0.2.trans h.1.2⟩, ih (o + 1) h.2 (fun i x y => e i (by omega) (by omega))⟩
theorem SgC.snoc {f : Int → Int} {a : List (Int × Int)} {o : Int} {c : Int × Int} (h : SgC f o a) (hc : f (o + (a.length : Int)) = encC c) : SgC f o (a ++ [c]) := (SgC.app a [c] o).2 ⟨h, hc, trivial⟩
theorem SgR.snoc {f g : Int → Int} {a : List (Int × Int)} {o : Int} {c : Int × Int} (h : SgR f g o a) (hc : f (o + (a.length : Int)) = c.1 ∧ g (o + (a.length : Int)) = c.2) : SgR f g o (a ++ [c]) := (SgR.app a [c] o).2 ⟨h, hc, trivial⟩
/-- what joins two -/
noncomputable def jn (k a b : Int) : Int := if k = 2 then w64 (a + b) else if k = 3 then w64 (a - b) else if k = 4 then (if 0 ≤ zcmp a b then 0 else 1) else if k = 5 then (if 0 < zcmp a b then 0 else 1) else if k = 6 then (if zcmp a b = 0 then 1 else 0) else if k = 7 then (if zcmp a b < 0 then 0 else 1) else if k = 8 then (if zcmp a b ≤ 0 then 0 else 1) else if k = 10 then zandl a b else if k = 11 then zorl a b else if k = 13 then w64 (a * b) else if k = 14 then (if zcmp b 0 = 0 then 0 else w64 (Int.tdiv a b)) else (if zcmp b 0 = 0 then 0 else Int.tmod a b)
def isJn (k : Int) : Prop := (2 ≤ k ∧ k ≤ 8) ∨ k = 10 ∨ k = 11 ∨ (13 ≤ k ∧ k ≤ 15)
/-- one entry on a stack -/
noncomputable def stp (w : Int → Int) (c : Int × Int) (s : List Int) : List Int := if c.1 = 0 then c.2 :: s else if c.1 = 1 then w c.2 :: s else if c.1 = 9 then (match s with | a :: s' => w64 (1 - a) :: s' | [] => []) else (match s with | b :: a :: s' => jn c.1 a b :: s' | _ => [])
noncomputable def runs (w : Int → Int) : List (Int × Int) → List Int → List Int
  | [], s => s
  | c :: cs, s => runs w cs (stp w c s)
/-- no entry wants more than there is, none is laid beyond a height -/
def fits : List (Int × Int) → Int → Int → Prop
  | [], _, _ => True
  | c :: cs, h, m => if c.1 = 0 then (0 ≤ c.2 ∧ c.2 ≤ 99999) ∧ h + 1 ≤ m ∧ fits cs (h + 1) m else if c.1 = 1 then (0 ≤ c.2 ∧ c.2 < 12) ∧ h + 1 ≤ m ∧ fits cs (h + 1) m else if c.1 = 9 then c.2 = 0 ∧ 1 ≤ h ∧ fits cs h m else (isJn c.1 ∧ c.2 = 0) ∧ 2 ≤ h ∧ fits cs (h - 1) m
theorem runs.app {w : Int → Int} : ∀ (a b : List (Int × Int)) (s : List Int), runs w (a ++ b) s = runs w b (runs w a s) := by
  intro a
  induction a with
  | nil => intro b s; rfl
  | cons c cs ih => intro b s; exact ih b (stp w c s)
/-- how high the stack is behind a row -/
def hgt : List (Int × Int) → Int → Int
  | [], h => h
  | c :: cs, h => hgt cs (if c.1 = 0 then h + 1 else if c.1 = 1 then h + 1 else if c.1 = 9 then h else h - 1)
theorem hgt.app : ∀ (a b : List (Int × Int)) (h : Int), hgt (a ++ b) h = hgt b (hgt a h) := by
  intro a
  induction a with
  | nil => intro b h; rfl
  | cons c cs ih => intro b h; exact ih b _
theorem fits.app : ∀ (a b : List (Int × Int)) (h m : Int), fits (a ++ b) h m ↔ fits a h m ∧ fits b (hgt a h) m := by
  intro a
  induction a with
  | nil => intro b h m; simp [fits, hgt]
  | cons c cs ih =>
    intro b h m
    show fits (c :: (cs ++ b)) h m ↔ fits (c :: cs) h m ∧ fits b (hgt (c :: cs) h) m
    by_cases z0 : c.1 = 0
    · simp only [fits, hgt, if_pos z0, ih]; exact ⟨fun u => ⟨⟨u.1, u.2.1, u.2.2.1⟩, u.2.2.2⟩, fun u => ⟨u.1.1, u.1.2.1, u.1.2.2, u.2⟩⟩
    by_cases z1 : c.1 = 1
    · simp only [fits, hgt, if_neg z0, if_pos z1, ih]; exact ⟨fun u => ⟨⟨u.1, u.2.1, u.2.2.1⟩, u.2.2.2⟩, fun u => ⟨u.1.1, u.1.2.1, u.1.2.2, u.2⟩⟩
    by_cases z9 : c.1 = 9
    · simp only [fits, hgt, if_neg z0, if_neg z1, if_pos z9, ih]; exact ⟨fun u => ⟨⟨u.1, u.2.1, u.2.2.1⟩, u.2.2.2⟩, fun u => ⟨u.1.1, u.1.2.1, u.1.2.2, u.2⟩⟩
    · simp only [fits, hgt, if_neg z0, if_neg z1, if_neg z9, ih]; exact ⟨fun u => ⟨⟨u.1, u.2.1, u.2.2.1⟩, u.2.2.2⟩, fun u => ⟨u.1.1, u.1.2.1, u.1.2.2, u.2⟩⟩
/-- a row that lays one value: by the words, with so much room -/
def Ex (a : List (Int × Int)) (v : (Int → Int) → Int) (m : Int) : Prop := (∀ w s, runs w a s = v w :: s) ∧ ∀ h l, 0 ≤ h → h + m ≤ l → fits a h l ∧ hgt a h = h + 1
theorem Ex.mono {a : List (Int × Int)} {v : (Int → Int) → Int} {m m' : Int} (h : Ex a v m) (hm : m ≤ m') : Ex a v m' := ⟨h.1, fun x l u y => h.2 x l u (by omega)⟩
theorem Ex.num {n : Int} (hn : 0 ≤ n ∧ n ≤ 99999) : Ex [(0, n)] (fun _ => n) 1 := ⟨fun w s => rfl, fun h l _ y => ⟨⟨hn, y, trivial⟩, rfl⟩⟩
theorem Ex.word {k : Int} (hk : 0 ≤ k ∧ k < 12) : Ex [(1, k)] (fun w => w k) 1 := ⟨fun w s => rfl, fun h l _ y => ⟨⟨hk, y, trivial⟩, rfl⟩⟩
theorem Ex.no {a : List (Int × Int)} {v : (Int → Int) → Int} {m : Int} (h : Ex a v m) : Ex (a ++ [(9, 0)]) (fun w => w64 (1 - v w)) m := by
  refine ⟨fun w s => ?_, fun x l u y => ?_⟩
  · rw [runs.app, h.1]; rfl
  · obtain ⟨f1, f2⟩ := h.2 x l u y
    rw [fits.app, hgt.app, f2]
    exact ⟨⟨f1, ⟨rfl, by omega, trivial⟩⟩, rfl⟩
theorem Ex.join {a b : List (Int × Int)} {v v' : (Int → Int) → Int} {m m' k : Int} (h : Ex a v m) (h' : Ex b v' m') (hk : isJn k) (hm : m' + 1 ≤ m) : Ex (a ++ b ++ [(k, 0)]) (fun w => jn k (v w) (v' w)) m := by
  have n0 : ¬ k = 0 := by unfold isJn at hk; omega
  have n1 : ¬ k = 1 := by unfold isJn at hk; omega
  have n9 : ¬ k = 9 := by unfold isJn at hk; omega
  refine ⟨fun w s => ?_, fun x l u y => ?_⟩
  · rw [runs.app, runs.app, h.1, h'.1]
    show stp w (k, 0) (v' w :: v w :: s) = _
    unfold stp
    rw [if_neg n0, if_neg n1, if_neg n9]
  · obtain ⟨f1, f2⟩ := h.2 x l u (by omega)
    obtain ⟨g1, g2⟩ := h'.2 (x + 1) l (by omega) (by omega)
    simp only [fits.app, hgt.app, f2, g2]
    refine ⟨⟨⟨f1, g1⟩, ?_⟩, ?_⟩
    · show (if k = 0 then _ else _)
      rw [if_neg n0, if_neg n1, if_neg n9]
      exact ⟨⟨hk, rfl⟩, by omega, trivial⟩
    · show (if k = 0 then _ else _) = _
      rw [if_neg n0, if_neg n1, if_neg n9]; omega
theorem jn01 {k a b : Int} (hk : 4 ≤ k ∧ k ≤ 8) : jn k a b = 0 ∨ jn k a b = 1 := by
  unfold jn
  rw [if_neg (by omega), if_neg (by omega)]
  have h : k = 4 ∨ k = 5 ∨ k = 6 ∨ k = 7 ∨ k = 8 := by omega
  rcases h with u | u | u | u | u <;> subst u <;> simp <;> omega
