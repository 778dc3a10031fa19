/-! a told is copied -/
theorem zc5_n {a b : Int} (hd : a + 5 < b ∨ b + 5 < a) : (∀ {c n : Int} {M : ZM}, zCpy M c (b + 1) n a = M a) ∧ (∀ {c n : Int} {M : ZM}, zCpy M c (b + 2) n a = M a) ∧ (∀ {c n : Int} {M : ZM}, zCpy M c (b + 3) n a = M a) ∧ (∀ {c n : Int} {M : ZM}, zCpy M c (b + 4) n a = M a) ∧ (∀ {c n : Int} {M : ZM}, zCpy M c (b + 5) n a = M a) :=
  ⟨fun {c n M} => zCpy_ne (by omega), fun {c n M} => zCpy_ne (by omega), fun {c n M} => zCpy_ne (by omega), fun {c n M} => zCpy_ne (by omega), fun {c n M} => zCpy_ne (by omega)⟩
theorem zc5_m {b : Int} : (∀ {c n : Int} {M : ZM}, zCpy M c (b + 1) n b = M b) ∧ (∀ {c n : Int} {M : ZM}, zCpy M c (b + 2) n b = M b) ∧ (∀ {c n : Int} {M : ZM}, zCpy M c (b + 3) n b = M b) ∧ (∀ {c n : Int} {M : ZM}, zCpy M c (b + 4) n b = M b) ∧ (∀ {c n : Int} {M : ZM}, zCpy M c (b + 5) n b = M b) :=
  ⟨fun {c n M} => zCpy_ne (by omega), fun {c n M} => zCpy_ne (by omega), fun {c n M} => zCpy_ne (by omega), fun {c n M} => zCpy_ne (by omega), fun {c n M} => zCpy_ne (by omega)⟩
theorem zc5_r {a b : Int} (hd : a + 5 < b ∨ b + 5 < a) (M0 : ZM) {M' : ZM} (h : zCpy (zCpy (zCpy (zCpy (zCpy M0 (a + 1) (b + 1) 5) (a + 2) (b + 2) 5) (a + 3) (b + 3) 12) (a + 4) (b + 4) 12) (a + 5) (b + 5) 36 = M') : (∀ x, (x ≤ b ∨ b + 5 < x) → M' x = M0 x) ∧ (∀ j, 0 ≤ j → j < 5 → M' (b + 1) j = M0 (a + 1) j ∧ M' (b + 2) j = M0 (a + 2) j) ∧ (∀ j, 0 ≤ j → j < 12 → M' (b + 3) j = M0 (a + 3) j ∧ M' (b + 4) j = M0 (a + 4) j) ∧ (∀ j, 0 ≤ j → j < 36 → M' (b + 5) j = M0 (a + 5) j) := by
  subst h
  refine ⟨fun x h => ?_, fun j h1 h2 => ⟨?_, ?_⟩, fun j h1 h2 => ⟨?_, ?_⟩, fun j h1 h2 => ?_⟩
  · rw [zCpy_ne (by omega), zCpy_ne (by omega), zCpy_ne (by omega), zCpy_ne (by omega), zCpy_ne (by omega)]
  · rw [zCpy_ne (by omega), zCpy_ne (by omega), zCpy_ne (by omega), zCpy_ne (by omega), zCpy_at h1 h2]
  · rw [zCpy_ne (by omega), zCpy_ne (by omega), zCpy_ne (by omega), zCpy_at h1 h2, zCpy_ne (by omega)]
  · rw [zCpy_ne (by omega), zCpy_ne (by omega), zCpy_at h1 h2, zCpy_ne (by omega), zCpy_ne (by omega)]
  · rw [zCpy_ne (by omega), zCpy_at h1 h2, zCpy_ne (by omega), zCpy_ne (by omega), zCpy_ne (by omega)]
  · rw [zCpy_at h1 h2, zCpy_ne (by omega), zCpy_ne (by omega), zCpy_ne (by omega), zCpy_ne (by omega)]
theorem up5 {M M0 : ZM} {a b : Int} (hM0 : upM (upM (upM (upM (upM M b 0 (M a 0)) b 1 (M a 1)) b 2 (M a 2)) b 3 (M a 3)) b 4 (M a 4) = M0) : (∀ x, x ≠ b → M0 x = M x) ∧ (∀ j, 5 ≤ j → M0 b j = M b j) ∧ (∀ j, 0 ≤ j → j < 5 → M0 b j = M a j) := by
  refine ⟨fun x h => by rw [← hM0, upM_r h, upM_r h, upM_r h, upM_r h, upM_r h], fun j h => by rw [← hM0, upM_i (by omega), upM_i (by omega), upM_i (by omega), upM_i (by omega), upM_i (by omega)], fun j h1 h2 => ?_⟩
  have : j = 0 ∨ j = 1 ∨ j = 2 ∨ j = 3 ∨ j = 4 := by omega
  rw [← hM0]
  rcases this with rfl | rfl | rfl | rfl | rfl <;> simp [upM_ap]
section
variable {S : ZS} {M : ZM}
theorem c_copyTold {a b : Int} (ha : ShT S a) (hb : ShT S b) (pa : PtT M a) (pb : PtT M b) (hd : a + 5 < b ∨ b + 5 < a) : ∃ M', pX9_copyFrom S M b a = some M' ∧ (∀ x, (x < b ∨ b + 5 < x) → M' x = M x) ∧ (∀ j, 5 ≤ j → M' b j = M b j) ∧ (∀ j, 0 ≤ j → j < 5 → M' b j = M a j) ∧ (∀ j, 0 ≤ j → j < 5 → M' (b + 1) j = M (a + 1) j ∧ M' (b + 2) j = M (a + 2) j) ∧ (∀ j, 0 ≤ j → j < 12 → M' (b + 3) j = M (a + 3) j ∧ M' (b + 4) j = M (a + 4) j) ∧ (∀ j, 0 ≤ j → j < 36 → M' (b + 5) j = M (a + 5) j) := by
  have hab : a ≠ b := by clear ha hb pa pb; omega
  obtain ⟨n1, n2, n3, n4, n5⟩ := zc5_n hd
  obtain ⟨m1, m2, m3, m4, m5⟩ := zc5_m (b := b)
  have u1 : ∀ {i v : Int} {M : ZM}, upM M b i v a = M a := fun {i v M} => upM_r hab
  generalize hM0 : upM (upM (upM (upM (upM M b 0 (M a 0)) b 1 (M a 1)) b 2 (M a 2)) b 3 (M a 3)) b 4 (M a 4) = M0
  obtain ⟨q1, q2, q3⟩ := up5 hM0
  have pb0 : PtT M0 b := by
    unfold PtT
    rw [q2 5 (by decide), q2 6 (by decide), q2 7 (by decide), q2 8 (by decide), q2 9 (by decide)]; exact pb
  have pa0 : PtT M0 a := by unfold PtT; rw [q1 a hab]; exact pa
  generalize hM' : zCpy (zCpy (zCpy (zCpy (zCpy M0 (a + 1) (b + 1) 5) (a + 2) (b + 2) 5) (a + 3) (b + 3) 12) (a + 4) (b + 4) 12) (a + 5) (b + 5) 36 = M'
  have e0 : pX9_copyFrom S M b a = some M' := by
    simp only [pX9_copyFrom, pX9_copyFrom_32, zlet, ha, hb, u1, if_true, hM0]
    simp [pX9_copyFrom_54, pX9_copyFrom_68, pX9_copyFrom_83, pX9_copyFrom_98, pX9_copyFrom_113, ha, hb, pa, pa0, pb0, zlet, n1, n2, n3, n4, n5, m1, m2, m3, m4, m5, hM']
  obtain ⟨r1, r2, r3, r4⟩ := zc5_r hd M0 hM'
  clear hM' hM0 pa0 pb0 n1 n2 n3 n4 n5 m1 m2 m3 m4 m5 ha hb pa pb
  refine ⟨M', by assumption, fun x h => ?_, fun j h => ?_, fun j h1 h2 => ?_, fun j h1 h2 => ⟨?_, ?_⟩, fun j h1 h2 => ⟨?_, ?_⟩, fun j h1 h2 => ?_⟩
  · rw [r1 x (by omega), q1 x (by omega)]
  · rw [r1 b (by omega), q2 j h]
  · rw [r1 b (by omega), q3 j h1 h2]
  · rw [(r2 j h1 h2).1, q1 _ (by omega)]
  · rw [(r2 j h1 h2).2, q1 _ (by omega)]
  · rw [(r3 j h1 h2).1, q1 _ (by omega)]
  · rw [(r3 j h1 h2).2, q1 _ (by omega)]
  · rw [r4 j h1 h2, q1 _ (by omega)]
end
