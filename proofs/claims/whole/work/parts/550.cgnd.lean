/-! THE CLASS'S CELLS: 1 is the object, 2 .. 175 its parts -/
abbrev ShN0 (S : ZS) : Prop := (S.1 1 = 11 ∧ S.1 2 = 8 ∧ (S.1 3 = 100 ∧ S.2.1 3 = 400) ∧ (S.1 4 = 100 ∧ S.2.1 4 = 401) ∧ (S.1 5 = 100 ∧ S.2.1 5 = 401) ∧ S.1 6 = 7 ∧ S.1 7 = 9 ∧ (S.1 8 = 100 ∧ S.2.1 8 = 5)) ∧ ((S.1 9 = 100 ∧ S.2.1 9 = 5) ∧ (S.1 10 = 100 ∧ S.2.1 10 = 12) ∧ (S.1 11 = 100 ∧ S.2.1 11 = 12) ∧ (S.1 12 = 100 ∧ S.2.1 12 = 36) ∧ S.1 13 = 5 ∧ (S.1 14 = 100 ∧ S.2.1 14 = 400) ∧ (S.1 15 = 104 ∧ S.2.1 15 = 6) ∧ S.1 16 = 10) ∧ (S.1 17 = 9 ∧ (S.1 18 = 100 ∧ S.2.1 18 = 5) ∧ (S.1 19 = 100 ∧ S.2.1 19 = 5) ∧ (S.1 20 = 100 ∧ S.2.1 20 = 12) ∧ (S.1 21 = 100 ∧ S.2.1 21 = 12) ∧ (S.1 22 = 100 ∧ S.2.1 22 = 36) ∧ S.1 23 = 6 ∧ (S.1 24 = 100 ∧ S.2.1 24 = 5)) ∧ ((S.1 25 = 100 ∧ S.2.1 25 = 5) ∧ (S.1 26 = 100 ∧ S.2.1 26 = 36) ∧ (S.1 27 = 100 ∧ S.2.1 27 = 36) ∧ (S.1 28 = 105 ∧ S.2.1 28 = 20) ∧ (S.1 29 = 100 ∧ S.2.1 29 = 10) ∧ (S.1 30 = 100 ∧ S.2.1 30 = 10) ∧ (S.1 31 = 100 ∧ S.2.1 31 = 10) ∧ (S.1 132 = 106 ∧ S.2.1 132 = 4)) ∧ (S.1 133 = 0 ∧ (S.1 134 = 100 ∧ S.2.1 134 = 12) ∧ (S.1 135 = 100 ∧ S.2.1 135 = 5) ∧ (S.1 136 = 101 ∧ S.2.1 136 = 40) ∧ S.1 137 = 1 ∧ S.1 138 = 0 ∧ (S.1 139 = 100 ∧ S.2.1 139 = 12) ∧ (S.1 140 = 100 ∧ S.2.1 140 = 5)) ∧ ((S.1 141 = 101 ∧ S.2.1 141 = 40) ∧ S.1 142 = 6 ∧ (S.1 143 = 100 ∧ S.2.1 143 = 5) ∧ (S.1 144 = 100 ∧ S.2.1 144 = 5) ∧ (S.1 145 = 100 ∧ S.2.1 145 = 36) ∧ (S.1 146 = 100 ∧ S.2.1 146 = 36) ∧ S.1 147 = 9 ∧ (S.1 148 = 100 ∧ S.2.1 148 = 5)) ∧ ((S.1 149 = 100 ∧ S.2.1 149 = 5) ∧ (S.1 150 = 100 ∧ S.2.1 150 = 12) ∧ (S.1 151 = 100 ∧ S.2.1 151 = 12) ∧ (S.1 152 = 100 ∧ S.2.1 152 = 36) ∧ (S.1 153 = 100 ∧ S.2.1 153 = 16) ∧ (S.1 154 = 100 ∧ S.2.1 154 = 16) ∧ S.1 155 = 2 ∧ S.1 156 = 0) ∧ ((S.1 157 = 100 ∧ S.2.1 157 = 12) ∧ (S.1 158 = 100 ∧ S.2.1 158 = 5) ∧ (S.1 159 = 101 ∧ S.2.1 159 = 40) ∧ S.1 160 = 6 ∧ (S.1 161 = 100 ∧ S.2.1 161 = 5) ∧ (S.1 162 = 100 ∧ S.2.1 162 = 5) ∧ (S.1 163 = 100 ∧ S.2.1 163 = 36) ∧ (S.1 164 = 100 ∧ S.2.1 164 = 36)) ∧ ((S.1 165 = 100 ∧ S.2.1 165 = 216) ∧ S.1 166 = 3 ∧ S.1 167 = 9 ∧ (S.1 168 = 100 ∧ S.2.1 168 = 5) ∧ (S.1 169 = 100 ∧ S.2.1 169 = 5) ∧ (S.1 170 = 100 ∧ S.2.1 170 = 12) ∧ (S.1 171 = 100 ∧ S.2.1 171 = 12) ∧ (S.1 172 = 100 ∧ S.2.1 172 = 36)) ∧ ((S.1 173 = 100 ∧ S.2.1 173 = 36) ∧ (S.1 174 = 100 ∧ S.2.1 174 = 2) ∧ (S.1 175 = 100 ∧ S.2.1 175 = 2))
abbrev PtN0 (M : ZM) : Prop := (M 1 0 = 2 ∧ M 1 1 = 6 ∧ M 1 2 = 13 ∧ M 1 3 = 15 ∧ M 1 5 = 16 ∧ M 1 6 = 132 ∧ M 1 7 = 133 ∧ M 1 8 = 137) ∧ (M 1 9 = 155 ∧ M 1 10 = 166 ∧ M 2 0 = 3 ∧ M 2 2 = 4 ∧ M 2 3 = 5 ∧ M 6 0 = 7 ∧ M 7 5 = 8 ∧ M 7 6 = 9) ∧ (M 7 7 = 10 ∧ M 7 8 = 11 ∧ M 7 9 = 12 ∧ M 13 0 = 14 ∧ M 17 5 = 18 ∧ M 17 6 = 19 ∧ M 17 7 = 20 ∧ M 17 8 = 21) ∧ (M 17 9 = 22 ∧ M 23 0 = 24 ∧ M 23 1 = 25 ∧ M 23 2 = 26 ∧ M 23 3 = 27 ∧ M 16 0 = 17 ∧ M 16 1 = 23 ∧ M 16 2 = 28) ∧ (M 16 4 = 29 ∧ M 16 5 = 30 ∧ M 16 6 = 31 ∧ M 133 0 = 134 ∧ M 133 1 = 135 ∧ M 133 2 = 136 ∧ M 137 0 = 138 ∧ M 137 1 = 142) ∧ (M 137 2 = 147 ∧ M 137 3 = 153 ∧ M 137 4 = 154 ∧ M 138 0 = 139 ∧ M 138 1 = 140 ∧ M 138 2 = 141 ∧ M 142 0 = 143 ∧ M 142 1 = 144) ∧ (M 142 2 = 145 ∧ M 142 3 = 146 ∧ M 147 5 = 148 ∧ M 147 6 = 149 ∧ M 147 7 = 150 ∧ M 147 8 = 151 ∧ M 147 9 = 152 ∧ M 155 0 = 156) ∧ (M 155 1 = 160 ∧ M 155 2 = 165 ∧ M 156 0 = 157 ∧ M 156 1 = 158 ∧ M 156 2 = 159 ∧ M 160 0 = 161 ∧ M 160 1 = 162 ∧ M 160 2 = 163) ∧ (M 160 3 = 164 ∧ M 166 0 = 167 ∧ M 166 1 = 173 ∧ M 166 2 = 174 ∧ M 166 3 = 175 ∧ M 167 5 = 168 ∧ M 167 6 = 169 ∧ M 167 7 = 170) ∧ (M 167 8 = 171 ∧ M 167 9 = 172)
def ShN (S : ZS) : Prop := ShN0 S
def PtN (M : ZM) : Prop := PtN0 M
theorem ShN.o {S : ZS} (h : ShN S) : ShN0 S := h
theorem PtN.o {M : ZM} (h : PtN M) : PtN0 M := h
/-- the fields that hold parts -/
def pkN (x j : Int) : Prop := (x = 1 ∧ (j = 0 ∨ j = 1 ∨ j = 2 ∨ j = 3 ∨ j = 5 ∨ j = 6 ∨ j = 7 ∨ j = 8 ∨ j = 9 ∨ j = 10)) ∨ (x = 2 ∧ (j = 0 ∨ j = 2 ∨ j = 3)) ∨ (x = 6 ∧ (j = 0)) ∨ (x = 7 ∧ (j = 5 ∨ j = 6 ∨ j = 7 ∨ j = 8 ∨ j = 9)) ∨ (x = 13 ∧ (j = 0)) ∨ (x = 17 ∧ (j = 5 ∨ j = 6 ∨ j = 7 ∨ j = 8 ∨ j = 9)) ∨ (x = 23 ∧ (j = 0 ∨ j = 1 ∨ j = 2 ∨ j = 3)) ∨ (x = 16 ∧ (j = 0 ∨ j = 1 ∨ j = 2 ∨ j = 4 ∨ j = 5 ∨ j = 6)) ∨ (x = 133 ∧ (j = 0 ∨ j = 1 ∨ j = 2)) ∨ (x = 137 ∧ (j = 0 ∨ j = 1 ∨ j = 2 ∨ j = 3 ∨ j = 4)) ∨ (x = 138 ∧ (j = 0 ∨ j = 1 ∨ j = 2)) ∨ (x = 142 ∧ (j = 0 ∨ j = 1 ∨ j = 2 ∨ j = 3)) ∨ (x = 147 ∧ (j = 5 ∨ j = 6 ∨ j = 7 ∨ j = 8 ∨ j = 9)) ∨ (x = 155 ∧ (j = 0 ∨ j = 1 ∨ j = 2)) ∨ (x = 156 ∧ (j = 0 ∨ j = 1 ∨ j = 2)) ∨ (x = 160 ∧ (j = 0 ∨ j = 1 ∨ j = 2 ∨ j = 3)) ∨ (x = 166 ∧ (j = 0 ∨ j = 1 ∨ j = 2 ∨ j = 3)) ∨ (x = 167 ∧ (j = 5 ∨ j = 6 ∨ j = 7 ∨ j = 8 ∨ j = 9))
theorem PtN.j {M M' : ZM} (h : PtN M) (q : ∀ x j, pkN x j → M' x j = M x j) : PtN M' := by
  have h := h.o
  show PtN0 M'
  unfold PtN0
  rw [q 1 0 (by unfold pkN; decide), q 1 1 (by unfold pkN; decide), q 1 2 (by unfold pkN; decide), q 1 3 (by unfold pkN; decide), q 1 5 (by unfold pkN; decide), q 1 6 (by unfold pkN; decide), q 1 7 (by unfold pkN; decide), q 1 8 (by unfold pkN; decide), q 1 9 (by unfold pkN; decide), q 1 10 (by unfold pkN; decide), q 2 0 (by unfold pkN; decide), q 2 2 (by unfold pkN; decide), q 2 3 (by unfold pkN; decide), q 6 0 (by unfold pkN; decide), q 7 5 (by unfold pkN; decide), q 7 6 (by unfold pkN; decide), q 7 7 (by unfold pkN; decide), q 7 8 (by unfold pkN; decide), q 7 9 (by unfold pkN; decide), q 13 0 (by unfold pkN; decide), q 17 5 (by unfold pkN; decide), q 17 6 (by unfold pkN; decide), q 17 7 (by unfold pkN; decide), q 17 8 (by unfold pkN; decide), q 17 9 (by unfold pkN; decide), q 23 0 (by unfold pkN; decide), q 23 1 (by unfold pkN; decide), q 23 2 (by unfold pkN; decide), q 23 3 (by unfold pkN; decide), q 16 0 (by unfold pkN; decide), q 16 1 (by unfold pkN; decide), q 16 2 (by unfold pkN; decide), q 16 4 (by unfold pkN; decide), q 16 5 (by unfold pkN; decide), q 16 6 (by unfold pkN; decide), q 133 0 (by unfold pkN; decide), q 133 1 (by unfold pkN; decide), q 133 2 (by unfold pkN; decide), q 137 0 (by unfold pkN; decide), q 137 1 (by unfold pkN; decide), q 137 2 (by unfold pkN; decide), q 137 3 (by unfold pkN; decide), q 137 4 (by unfold pkN; decide), q 138 0 (by unfold pkN; decide), q 138 1 (by unfold pkN; decide), q 138 2 (by unfold pkN; decide), q 142 0 (by unfold pkN; decide), q 142 1 (by unfold pkN; decide), q 142 2 (by unfold pkN; decide), q 142 3 (by unfold pkN; decide), q 147 5 (by unfold pkN; decide), q 147 6 (by unfold pkN; decide), q 147 7 (by unfold pkN; decide), q 147 8 (by unfold pkN; decide), q 147 9 (by unfold pkN; decide), q 155 0 (by unfold pkN; decide), q 155 1 (by unfold pkN; decide), q 155 2 (by unfold pkN; decide), q 156 0 (by unfold pkN; decide), q 156 1 (by unfold pkN; decide), q 156 2 (by unfold pkN; decide), q 160 0 (by unfold pkN; decide), q 160 1 (by unfold pkN; decide), q 160 2 (by unfold pkN; decide), q 160 3 (by unfold pkN; decide), q 166 0 (by unfold pkN; decide), q 166 1 (by unfold pkN; decide), q 166 2 (by unfold pkN; decide), q 166 3 (by unfold pkN; decide), q 167 5 (by unfold pkN; decide), q 167 6 (by unfold pkN; decide), q 167 7 (by unfold pkN; decide), q 167 8 (by unfold pkN; decide), q 167 9 (by unfold pkN; decide)]
  exact h
theorem in_7 : ShN Q1.1 := by
  show ShN0 Q1.1
  repeat' apply And.intro
  all_goals decide +kernel
theorem in_8 : PtN Q1.2 := by
  show PtN0 Q1.2
  repeat' apply And.intro
  all_goals decide +kernel
def NW (S : ZS) (M : ZM) : Prop := ShN S ∧ PtN M
/-- what no question changes -/
def FQ (M M' : ZM) : Prop := ∀ x, (x ≤ 137 ∨ 176 ≤ x) → M' x = M x
theorem FQ.refl (M : ZM) : FQ M M := fun _ _ => rfl
theorem FQ.trans {M M' M'' : ZM} (h : FQ M M') (h' : FQ M' M'') : FQ M M'' := fun x y => (h' x y).trans (h x y)
section
variable {S : ZS} {M : ZM}
theorem zCpy_at {M : ZM} {a b n j : Int} (h1 : 0 ≤ j) (h2 : j < n) : zCpy M a b n b j = M a j := by
  unfold zCpy; rw [if_pos ⟨rfl, h1, h2⟩]
theorem c_copyScene {a b : Int} (ha : ShC S a) (hb : ShC S b) (pa : PtC M a) (pb : PtC M b) (hd : a + 4 < b ∨ b + 4 < a) : ∃ M', pX6_copyFrom S M b a = some M' ∧ (∀ x, (x < b ∨ b + 4 < x) → M' x = M x) ∧ (∀ j, j ≠ 4 → j ≠ 5 → j ≠ 6 → M' b j = M b j) ∧ (M' b 4 = M a 4 ∧ M' b 5 = M a 5 ∧ M' b 6 = M a 6) ∧ (∀ j, 0 ≤ j → j < 5 → M' (b + 1) j = M (a + 1) j ∧ M' (b + 2) j = M (a + 2) j) ∧ (∀ j, 0 ≤ j → j < 36 → M' (b + 3) j = M (a + 3) j ∧ M' (b + 4) j = M (a + 4) j) := by
  have n1 : ∀ {c n : Int} {M : ZM}, zCpy M c (b + 1) n a = M a := fun {c n M} => zCpy_ne (by omega)
  have n2 : ∀ {c n : Int} {M : ZM}, zCpy M c (b + 2) n a = M a := fun {c n M} => zCpy_ne (by omega)
  have n3 : ∀ {c n : Int} {M : ZM}, zCpy M c (b + 3) n a = M a := fun {c n M} => zCpy_ne (by omega)
  have n4 : ∀ {c n : Int} {M : ZM}, zCpy M c (b + 4) n a = M a := fun {c n M} => zCpy_ne (by omega)
  have m1 : ∀ {c n : Int} {M : ZM}, zCpy M c (b + 1) n b = M b := fun {c n M} => zCpy_ne (by omega)
  have m2 : ∀ {c n : Int} {M : ZM}, zCpy M c (b + 2) n b = M b := fun {c n M} => zCpy_ne (by omega)
  have m3 : ∀ {c n : Int} {M : ZM}, zCpy M c (b + 3) n b = M b := fun {c n M} => zCpy_ne (by omega)
  have m4 : ∀ {c n : Int} {M : ZM}, zCpy M c (b + 4) n b = M b := fun {c n M} => zCpy_ne (by omega)
  have u1 : ∀ {i v : Int} {M : ZM}, upM M b i v a = M a := fun {i v M} => upM_r (by omega)
  refine ⟨upM (upM (upM (zCpy (zCpy (zCpy (zCpy M (a + 1) (b + 1) 5) (a + 2) (b + 2) 5) (a + 3) (b + 3) 36) (a + 4) (b + 4) 36) b 4 (M a 4)) b 5 (M a 5)) b 6 (M a 6), ?_, fun x h => ?_, fun j h1 h2 h3 => ?_, ⟨?_, ?_, ?_⟩, fun j h1 h2 => ⟨?_, ?_⟩, fun j h1 h2 => ⟨?_, ?_⟩⟩
  · simp [pX6_copyFrom, pX6_copyFrom_14, pX6_copyFrom_28, pX6_copyFrom_43, pX6_copyFrom_58, ha, hb, pa, pb, zlet, n1, n2, n3, n4, m1, m2, m3, m4, u1]
  · rw [upM_r (by omega), upM_r (by omega), upM_r (by omega), zCpy_ne (by omega), zCpy_ne (by omega), zCpy_ne (by omega), zCpy_ne (by omega)]
  · rw [upM_i h3, upM_i h2, upM_i h1, m4, m3, m2, m1]
  · rw [upM_i (by decide), upM_i (by decide), upM_s]
  · rw [upM_i (by decide), upM_s]
  · rw [upM_s]
  · rw [upM_r (by omega), upM_r (by omega), upM_r (by omega), zCpy_ne (by omega), zCpy_ne (by omega), zCpy_ne (by omega), zCpy_at h1 h2]
  · rw [upM_r (by omega), upM_r (by omega), upM_r (by omega), zCpy_ne (by omega), zCpy_ne (by omega), zCpy_at h1 h2, zCpy_ne (by omega)]
  · rw [upM_r (by omega), upM_r (by omega), upM_r (by omega), zCpy_ne (by omega), zCpy_at h1 h2, zCpy_ne (by omega), zCpy_ne (by omega)]
  · rw [upM_r (by omega), upM_r (by omega), upM_r (by omega), zCpy_at h1 h2, zCpy_ne (by omega), zCpy_ne (by omega), zCpy_ne (by omega)]
theorem c_copyTold {a b : Int} (ha : ShT S a) (hb : ShT S b) (pa : PtT M a) (pb : PtT M b) (hd : a + 5 < b ∨ b + 5 < a) : ∃ M', pX9_copyFrom S M b a = some M' ∧ (∀ x, (x < b ∨ b + 5 < x) → M' x = M x) ∧ (∀ j, 5 ≤ j → M' b j = M b j) ∧ (∀ j, 0 ≤ j → j < 5 → M' b j = M a j) ∧ (∀ j, 0 ≤ j → j < 5 → M' (b + 1) j = M (a + 1) j ∧ M' (b + 2) j = M (a + 2) j) ∧ (∀ j, 0 ≤ j → j < 12 → M' (b + 3) j = M (a + 3) j ∧ M' (b + 4) j = M (a + 4) j) ∧ (∀ j, 0 ≤ j → j < 36 → M' (b + 5) j = M (a + 5) j) := by
  have n1 : ∀ {c n : Int} {M : ZM}, zCpy M c (b + 1) n a = M a := fun {c n M} => zCpy_ne (by omega)
  have n2 : ∀ {c n : Int} {M : ZM}, zCpy M c (b + 2) n a = M a := fun {c n M} => zCpy_ne (by omega)
  have n3 : ∀ {c n : Int} {M : ZM}, zCpy M c (b + 3) n a = M a := fun {c n M} => zCpy_ne (by omega)
  have n4 : ∀ {c n : Int} {M : ZM}, zCpy M c (b + 4) n a = M a := fun {c n M} => zCpy_ne (by omega)
  have n5 : ∀ {c n : Int} {M : ZM}, zCpy M c (b + 5) n a = M a := fun {c n M} => zCpy_ne (by omega)
  have m1 : ∀ {c n : Int} {M : ZM}, zCpy M c (b + 1) n b = M b := fun {c n M} => zCpy_ne (by omega)
  have m2 : ∀ {c n : Int} {M : ZM}, zCpy M c (b + 2) n b = M b := fun {c n M} => zCpy_ne (by omega)
  have m3 : ∀ {c n : Int} {M : ZM}, zCpy M c (b + 3) n b = M b := fun {c n M} => zCpy_ne (by omega)
  have m4 : ∀ {c n : Int} {M : ZM}, zCpy M c (b + 4) n b = M b := fun {c n M} => zCpy_ne (by omega)
  have m5 : ∀ {c n : Int} {M : ZM}, zCpy M c (b + 5) n b = M b := fun {c n M} => zCpy_ne (by omega)
  have u1 : ∀ {i v : Int} {M : ZM}, upM M b i v a = M a := fun {i v M} => upM_r (by omega)
  generalize hM0 : upM (upM (upM (upM (upM M b 0 (M a 0)) b 1 (M a 1)) b 2 (M a 2)) b 3 (M a 3)) b 4 (M a 4) = M0
  have q1 : ∀ x, x ≠ b → M0 x = M x := fun x h => by rw [← hM0, upM_r h, upM_r h, upM_r h, upM_r h, upM_r h]
  have q2 : ∀ j, 5 ≤ j → M0 b j = M b j := fun j h => by rw [← hM0, upM_i (by omega), upM_i (by omega), upM_i (by omega), upM_i (by omega), upM_i (by omega)]
  have q3 : ∀ j, 0 ≤ j → j < 5 → M0 b j = M a j := fun j h1 h2 => by
    have : j = 0 ∨ j = 1 ∨ j = 2 ∨ j = 3 ∨ j = 4 := by omega
    rw [← hM0]
    rcases this with rfl | rfl | rfl | rfl | rfl <;> simp [upM_ap]
  have pb0 : PtT M0 b := by
    unfold PtT
    rw [q2 5 (by decide), q2 6 (by decide), q2 7 (by decide), q2 8 (by decide), q2 9 (by decide)]; exact pb
  have pa0 : PtT M0 a := by unfold PtT; rw [q1 a (by omega)]; exact pa
  have e0 : pX9_copyFrom S M b a = some (zCpy (zCpy (zCpy (zCpy (zCpy M0 (a + 1) (b + 1) 5) (a + 2) (b + 2) 5) (a + 3) (b + 3) 12) (a + 4) (b + 4) 12) (a + 5) (b + 5) 36) := by
    simp only [pX9_copyFrom, pX9_copyFrom_32, zlet, ha, hb, u1, if_true, hM0]
    simp [pX9_copyFrom_54, pX9_copyFrom_68, pX9_copyFrom_83, pX9_copyFrom_98, pX9_copyFrom_113, ha, hb, pa0, pb0, zlet, n1, n2, n3, n4, n5, m1, m2, m3, m4, m5]
  refine ⟨_, e0, fun x h => ?_, fun j h => ?_, fun j h1 h2 => ?_, fun j h1 h2 => ⟨?_, ?_⟩, fun j h1 h2 => ⟨?_, ?_⟩, fun j h1 h2 => ?_⟩
  · rw [zCpy_ne (by omega), zCpy_ne (by omega), zCpy_ne (by omega), zCpy_ne (by omega), zCpy_ne (by omega), q1 x (by omega)]
  · rw [m5, m4, m3, m2, m1, q2 j h]
  · rw [m5, m4, m3, m2, m1, q3 j h1 h2]
  · rw [zCpy_ne (by omega), zCpy_ne (by omega), zCpy_ne (by omega), zCpy_ne (by omega), zCpy_at h1 h2, q1 _ (by omega)]
  · rw [zCpy_ne (by omega), zCpy_ne (by omega), zCpy_ne (by omega), zCpy_at h1 h2, zCpy_ne (by omega), q1 _ (by omega)]
  · rw [zCpy_ne (by omega), zCpy_ne (by omega), zCpy_at h1 h2, zCpy_ne (by omega), zCpy_ne (by omega), q1 _ (by omega)]
  · rw [zCpy_ne (by omega), zCpy_at h1 h2, zCpy_ne (by omega), zCpy_ne (by omega), zCpy_ne (by omega), q1 _ (by omega)]
  · rw [zCpy_at h1 h2, zCpy_ne (by omega), zCpy_ne (by omega), zCpy_ne (by omega), zCpy_ne (by omega), q1 _ (by omega)]
variable {t : Td} {s : Sc}
/-- a scene's rows, told anew from others -/
theorem CS.rows {M M' : ZM} {a b : Int} (h : CS M t a s) (ho : TdOk t) (e0 : M' b 4 = M a 4 ∧ M' b 5 = M a 5 ∧ M' b 6 = M a 6) (e1 : ∀ j, 0 ≤ j → j < 5 → M' (b + 1) j = M (a + 1) j ∧ M' (b + 2) j = M (a + 2) j) (e2 : ∀ j, 0 ≤ j → j < 36 → M' (b + 3) j = M (a + 3) j ∧ M' (b + 4) j = M (a + 4) j) : CS M' t b s := by
  obtain ⟨h1, h2, h3, h4, h5, h6⟩ := h
  have hp := ho.2.2.1
  have hb := sq_b ho.1
  refine ⟨fun q x y => ?_, fun c x y => ?_, fun c x y => ?_, by rw [e0.1]; exact h4, by rw [e0.2.1]; exact h5, by rw [e0.2.2]; exact h6⟩
  · rw [(e1 q x (by omega)).1, (e1 q x (by omega)).2]; exact h1 q x y
  · rw [(e2 c x (by omega)).1, (e2 c x (by omega)).2]; exact h2 c x y
  · rw [(e2 c (by omega) y).1]; exact h3 c x y
/-- all that a question rests on in the class -/
def CQ (S : ZS) (M : ZM) (t : Td) (s : Sc) (e : Int) (r : Ru) : Prop := NW S M ∧ CT M 17 t ∧ CS M t 23 s ∧ (CRu S M e 133 r ∧ CRu S M e 138 r ∧ CRu S M e 156 r) ∧ ((M 16 9 = -1 ∧ e = 0) ∨ ((0 ≤ M 16 9 ∧ M 16 9 ≤ 5) ∧ e = M 15 (M 16 9))) ∧ TdOk t ∧ ScGo t s 200
theorem CQ.fq {M M' : ZM} {e : Int} {r : Ru} (h : CQ S M t s e r) (hn : NW S M') (f : FQ M M') : CQ S M' t s e r := by
  obtain ⟨h1, h2, h3, ⟨h4, h5, h6⟩, h7, h8⟩ := h
  refine ⟨hn, h2.eq (fun b _ _ => f b (by omega)), h3.eq (fun b _ _ => f b (by omega)), ⟨h4.eq (fun x y => f x (by omega)), h5.eq (fun x y => f x (by omega)), h6.eq (fun x y => f x (by omega))⟩, ?_, h8⟩
  rw [f 16 (by omega), f 15 (by omega)]; exact h7
theorem NW.fr {M M' : ZM} {b d : Int} (h : NW S M) (f : FrC b d M M') (hb : (b = 142 ∧ d = 138) ∨ (b = 160 ∧ d = 156) ∨ (b = 23 ∧ d = 133)) : NW S M' := by
  refine ⟨h.1, h.2.j (fun x j k => ?_)⟩
  unfold pkN at k
  by_cases z : x = b
  · subst z
    exact f.2 j (by omega) (by omega)
  · rw [f.1 x z (by omega) (by omega) (by omega) (by omega) (by omega) (by omega)]
theorem FQ.fr {M M' : ZM} {b d : Int} (f : FrC b d M M') (hb : (b = 142 ∧ d = 138) ∨ (b = 160 ∧ d = 156)) : FQ M M' := fun x y => f.1 x (by omega) (by omega) (by omega) (by omega) (by omega) (by omega) (by omega)
theorem shC_of (h : ShN S) : ShC S 23 ∧ ShC S 142 ∧ ShC S 160 := by
  have h := h.o
  refine ⟨?_, ?_, ?_⟩ <;> simp [h]
theorem shT_of (h : ShN S) : ShT S 7 ∧ ShT S 17 ∧ ShT S 147 ∧ ShT S 167 := by
  have h := h.o
  refine ⟨?_, ?_, ?_, ?_⟩ <;> simp [h]
theorem shD_of (h : ShN S) : ShD S 133 ∧ ShD S 138 ∧ ShD S 156 := by
  have h := h.o
  refine ⟨?_, ?_, ?_⟩ <;> simp [h]
theorem ptC_of (h : PtN M) : PtC M 23 ∧ PtC M 142 ∧ PtC M 160 := by
  have h := h.o
  refine ⟨?_, ?_, ?_⟩ <;> simp [h]
theorem ptT_of (h : PtN M) : PtT M 7 ∧ PtT M 17 ∧ PtT M 147 ∧ PtT M 167 := by
  have h := h.o
  refine ⟨?_, ?_, ?_, ?_⟩ <;> simp [h]
theorem ptD_of (h : PtN M) : PtD M 133 ∧ PtD M 138 ∧ PtD M 156 := by
  have h := h.o
  refine ⟨?_, ?_, ?_⟩ <;> simp [h]
theorem sep_1 : Sep 17 142 138 := by unfold Sep; omega
theorem sep_2 : Sep 17 160 156 := by unfold Sep; omega
theorem sep_3 : Sep 17 23 133 := by unfold Sep; omega
theorem sep_4 : Sep 147 142 138 := by unfold Sep; omega
theorem CQ.cd1 {e : Int} {r : Ru} (h : CQ S M t s e r) {s' : Sc} (hc : CS M t 142 s') : CD S M 17 142 138 t s' := ⟨sep_1, ⟨(shT_of h.1.1).2.1, (ptT_of h.1.2).2.1, h.2.1⟩, ⟨(shC_of h.1.1).2.1, (ptC_of h.1.2).2.1⟩, ⟨(shD_of h.1.1).2.1, (ptD_of h.1.2).2.1⟩, hc⟩
theorem CQ.cd2 {e : Int} {r : Ru} (h : CQ S M t s e r) {s' : Sc} (hc : CS M t 160 s') : CD S M 17 160 156 t s' := ⟨sep_2, ⟨(shT_of h.1.1).2.1, (ptT_of h.1.2).2.1, h.2.1⟩, ⟨(shC_of h.1.1).2.2, (ptC_of h.1.2).2.2⟩, ⟨(shD_of h.1.1).2.2, (ptD_of h.1.2).2.2⟩, hc⟩
theorem CQ.trial {e : Int} {r : Ru} (h : CQ S M t s e r) : ∃ M', pX6_copyFrom S M 142 23 = some M' ∧ CQ S M' t s e r ∧ CS M' t 142 s ∧ FQ M M' := by
  obtain ⟨M', a1, a2, a3, a4, a5, a6⟩ := c_copyScene (S := S) (M := M) (a := 23) (b := 142) (shC_of h.1.1).1 (shC_of h.1.1).2.1 (ptC_of h.1.2).1 (ptC_of h.1.2).2.1 (by omega)
  have f : FQ M M' := fun x y => a2 x (by omega)
  have hn : NW S M' := ⟨h.1.1, h.1.2.j (fun x j k => by
    unfold pkN at k
    by_cases z : x = 142
    · subst z; exact a3 j (by omega) (by omega) (by omega)
    · rw [a2 x (by omega)])⟩
  exact ⟨M', a1, h.fq hn f, h.2.2.1.rows h.2.2.2.2.2.1 a4 a5 a6, f⟩
theorem CQ.trialJ {e : Int} {r : Ru} (h : CQ S M t s e r) : ∃ M', pX6_copyFrom S M 160 23 = some M' ∧ CQ S M' t s e r ∧ CS M' t 160 s ∧ FQ M M' ∧ ∀ x, (x < 160 ∨ 164 < x) → M' x = M x := by
  obtain ⟨M', a1, a2, a3, a4, a5, a6⟩ := c_copyScene (S := S) (M := M) (a := 23) (b := 160) (shC_of h.1.1).1 (shC_of h.1.1).2.2 (ptC_of h.1.2).1 (ptC_of h.1.2).2.2 (by omega)
  have f : FQ M M' := fun x y => a2 x (by omega)
  have hn : NW S M' := ⟨h.1.1, h.1.2.j (fun x j k => by
    unfold pkN at k
    by_cases z : x = 160
    · subst z; exact a3 j (by omega) (by omega) (by omega)
    · rw [a2 x (by omega)])⟩
  exact ⟨M', a1, h.fq hn f, h.2.2.1.rows h.2.2.2.2.2.1 a4 a5 a6, f, fun x y => a2 x (by omega)⟩
end
