def NW (S : ZS) (M : ZM) : Prop := ShN S ∧ PtN M
/-- what no question changes -/
def FQ (M M' : ZM) : Prop := ∀ x, (x ≤ 137 ∨ 176 ≤ x) → M' x = M x
theorem FQ.refl (M : ZM) : FQ M M := fun _ _ => rfl
theorem FQ.trans {M M' M'' : ZM} (h : FQ M M') (h' : FQ M' M'') : FQ M M'' := fun x y => (h' x y).trans (h x y)
section
variable {S : ZS} {M : ZM}
theorem zCpy_at {M : ZM} {a b n j : Int} (h1 : 0 ≤ j) (h2 : j < n) : zCpy M a b n b j = M a j := by
  unfold zCpy; rw [if_pos ⟨rfl, h1, h2⟩]
theorem c_copyScene {a b : Int} (ha : ShC S a) (hb : ShC S b) (pa : PtC M a) (pb : PtC M b) (hd : a + 4 < b ∨ b + 4 < a) : ∃ M', pX6_copyFrom S M b a = some M' ∧ (∀ x, (x < b ∨ b + 4 < x) → M' x = M x) ∧ (∀ j, j ≠ 4 → j ≠ 5 → j ≠ 6 → M' b j = M b j) ∧ (M' b 4 = M a 4 ∧ M' b 5 = M a 5 ∧ M' b 6 = M a 6) ∧ (∀ j, 0 ≤ j → j < 5 → M' (b + 1) j = M (a + 1) j ∧ M' (b + 2) j = M (a + 2) j) ∧ (∀ j, 0 ≤ j → j < 36 → M' (b + 3) j = M (a + 3) j ∧ M' (b + 4) j = M (a + 4) j) := by
  have n1 : ∀ {c n : Int} {M : ZM}, zCpy M c (b + 1) n a = M a := fun {c n M} => zCpy_ne (by omega)
  have n2 : ∀ {c n : Int} {M : ZM}, zCpy M c (b + 2) n a = M a := fun {c n M} => zCpy_ne (by omega)
  have n3 : ∀ {c n : Int} {M : ZM}, zCpy M c (b + 3) n a = M a := fun {c n M} => zCpy_ne (by omega)
  have n4 : ∀ {c n : Int} {M : ZM}, zCpy M c (b + 4) n a = M a := fun {c n M} => zCpy_ne (by omega)
  have m1 : ∀ {c n : Int} {M : ZM}, zCpy M c (b + 1) n b = M b := fun {c n M} => zCpy_ne (by omega)
  have m2 : ∀ {c n : Int} {M : ZM}, zCpy M c (b + 2) n b = M b := fun {c n M} => zCpy_ne (by omega)
  have m3 : ∀ {c n : Int} {M : ZM}, zCpy M c (b + 3) n b = M b := fun {c n M} => zCpy_ne (by omega)
  have m4 : ∀ {c n : Int} {M : ZM}, zCpy M c (b + 4) n b = M b := fun {c n M} => zCpy_ne (by omega)
  have u1 : ∀ {i v : Int} {M : ZM}, upM M b i v a = M a := fun {i v M} => upM_r (by omega)
  refine ⟨upM (upM (upM (zCpy (zCpy (zCpy (zCpy M (a + 1) (b + 1) 5) (a + 2) (b + 2) 5) (a + 3) (b + 3) 36) (a + 4) (b + 4) 36) b 4 (M a 4)) b 5 (M a 5)) b 6 (M a 6), ?_, fun x h => ?_, fun j h1 h2 h3 => ?_, ⟨?_, ?_, ?_⟩, fun j h1 h2 => ⟨?_, ?_⟩, fun j h1 h2 => ⟨?_, ?_⟩⟩
  · simp [pX6_copyFrom, pX6_copyFrom_14, pX6_copyFrom_28, pX6_copyFrom_43, pX6_copyFrom_58, ha, hb, pa, pb, zlet, n1, n2, n3, n4, m1, m2, m3, m4, u1]
  · rw [upM_r (by omega), upM_r (by omega), upM_r (by omega), zCpy_ne (by omega), zCpy_ne (by omega), zCpy_ne (by omega), zCpy_ne (by omega)]
  · rw [upM_i h3, upM_i h2, upM_i h1, m4, m3, m2, m1]
  · rw [upM_i (by decide), upM_i (by decide), upM_s]
  · rw [upM_i (by decide), upM_s]
  · rw [upM_s]
  · rw [upM_r (by omega), upM_r (by omega), upM_r (by omega), zCpy_ne (by omega), zCpy_ne (by omega), zCpy_ne (by omega), zCpy_at h1 h2]
  · rw [upM_r (by omega), upM_r (by omega), upM_r (by omega), zCpy_ne (by omega), zCpy_ne (by omega), zCpy_at h1 h2, zCpy_ne (by omega)]
  · rw [upM_r (by omega), upM_r (by omega), upM_r (by omega), zCpy_ne (by omega), zCpy_at h1 h2, zCpy_ne (by omega), zCpy_ne (by omega)]
  · rw [upM_r (by omega), upM_r (by omega), upM_r (by omega), zCpy_at h1 h2, zCpy_ne (by omega), zCpy_ne (by omega), zCpy_ne (by omega)]
end
