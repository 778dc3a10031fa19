/-! A NEW WORLD -/
def Ext (S S' : ZS) (n : Int) : Prop := S'.2.2 = S.2.2 + n ∧ ∀ x, x ≤ S.2.2 → S'.1 x = S.1 x ∧ S'.2.1 x = S.2.1 x
theorem Ext.refl (S : ZS) : Ext S S 0 := ⟨by omega, fun _ _ => ⟨rfl, rfl⟩⟩
theorem Ext.trans {S S' S'' : ZS} {n m : Int} (hn : 0 ≤ n) (h : Ext S S' n) (h' : Ext S' S'' m) : Ext S S'' (n + m) := ⟨by rw [h'.1, h.1]; omega, fun x y => by
  have := h'.2 x (by rw [h.1]; omega)
  rw [this.1, this.2]; exact h.2 x y⟩
theorem zNS (S : ZS) (k n : Int) : Ext S (zNewS S k n) 1 ∧ (zNewS S k n).1 (S.2.2 + 1) = k ∧ (zNewS S k n).2.1 (S.2.2 + 1) = n := by
  refine ⟨⟨rfl, fun x y => ⟨?_, ?_⟩⟩, ?_, ?_⟩
  · show (if x = S.2.2 + 1 then k else S.1 x) = S.1 x; rw [if_neg (by omega)]
  · show (if x = S.2.2 + 1 then n else S.2.1 x) = S.2.1 x; rw [if_neg (by omega)]
  · show (if S.2.2 + 1 = S.2.2 + 1 then k else S.1 (S.2.2 + 1)) = k; rw [if_pos rfl]
  · show (if S.2.2 + 1 = S.2.2 + 1 then n else S.2.1 (S.2.2 + 1)) = n; rw [if_pos rfl]
theorem zNM {S : ZS} {M : ZM} {x : Int} (h : x ≤ S.2.2) : zNewM S M x = M x := by
  funext j
  show (if x = S.2.2 + 1 then 0 else M x j) = M x j
  rw [if_neg (by omega)]
def AL (S S' : ZS) (k n : Int) : Prop := Ext S S' 1 ∧ S'.1 (S.2.2 + 1) = k ∧ S'.2.1 (S.2.2 + 1) = n
theorem AL.mk (S : ZS) (k n : Int) : AL S (zNewS S k n) k n := zNS S k n
section
variable {S : ZS} {M : ZM}
theorem w_init6 {a : Int} (h1 : 1 ≤ a) (ha : a ≤ S.2.2) (hk : S.1 a = 6) (hs : S.2.2 < 1999999990) : ∃ S' M', pX6_init S M a = some (S', M') ∧ Ext S S' 4 ∧ (∀ x, x ≤ S.2.2 → x ≠ a → M' x = M x) ∧ ((S'.1 (S.2.2 + 1) = 100 ∧ S'.2.1 (S.2.2 + 1) = 5) ∧ (S'.1 (S.2.2 + 2) = 100 ∧ S'.2.1 (S.2.2 + 2) = 5) ∧ (S'.1 (S.2.2 + 3) = 100 ∧ S'.2.1 (S.2.2 + 3) = 36) ∧ (S'.1 (S.2.2 + 4) = 100 ∧ S'.2.1 (S.2.2 + 4) = 36)) ∧ (M' a 0 = S.2.2 + 1 ∧ M' a 1 = S.2.2 + 2 ∧ M' a 2 = S.2.2 + 3 ∧ M' a 3 = S.2.2 + 4) := by
  have A1 := AL.mk S 100 5
  generalize hS1 : zNewS S 100 5 = S1 at A1
  have A2 := AL.mk S1 100 5
  generalize hS2 : zNewS S1 100 5 = S2 at A2
  have A3 := AL.mk S2 100 36
  generalize hS3 : zNewS S2 100 36 = S3 at A3
  have A4 := AL.mk S3 100 36
  generalize hS4 : zNewS S3 100 36 = S4 at A4
  have c1 : S1.2.2 = S.2.2 + 1 := A1.1.1
  have c2 : S2.2.2 = S.2.2 + 2 := by have := A2.1.1; omega
  have c3 : S3.2.2 = S.2.2 + 3 := by have := A3.1.1; omega
  have c4 : S4.2.2 = S.2.2 + 4 := by have := A4.1.1; omega
  have L1 : ∀ x, x ≤ S.2.2 → x ≤ S1.2.2 := fun x y => by omega
  have e1 : S1.2.2 + 1 = S.2.2 + 2 := by omega
  have d1 : S1.2.2 < 2000000000 := by omega
  have L2 : ∀ x, x ≤ S.2.2 → x ≤ S2.2.2 := fun x y => by omega
  have e2 : S2.2.2 + 1 = S.2.2 + 3 := by omega
  have d2 : S2.2.2 < 2000000000 := by omega
  have L3 : ∀ x, x ≤ S.2.2 → x ≤ S3.2.2 := fun x y => by omega
  have e3 : S3.2.2 + 1 = S.2.2 + 4 := by omega
  have d3 : S3.2.2 < 2000000000 := by omega
  have d0 : S.2.2 < 2000000000 := by omega
  have v1 : S.2.2 + 1 ≤ S1.2.2 := by omega
  have v2 : S.2.2 + 2 ≤ S2.2.2 := by omega
  have v3 : S.2.2 + 3 ≤ S3.2.2 := by omega
  have ne : ∀ x i, x ≤ S.2.2 → 0 < i → x ≠ S.2.2 + i := fun x i y z => by omega
  have E3 : Ext S3 S4 1 := A4.1
  have E2 : Ext S2 S4 2 := A3.1.trans (by decide) E3
  have E1 : Ext S1 S4 3 := A2.1.trans (by decide) E2
  have E0 : Ext S S4 4 := A1.1.trans (by decide) E1
  have g1 : S1.1 (S.2.2 + 1) = 100 ∧ S1.2.1 (S.2.2 + 1) = 5 := A1.2
  have g2 : S2.1 (S.2.2 + 2) = 100 ∧ S2.2.1 (S.2.2 + 2) = 5 := by have := A2.2; rw [e1] at this; exact this
  have g3 : S3.1 (S.2.2 + 3) = 100 ∧ S3.2.1 (S.2.2 + 3) = 36 := by have := A3.2; rw [e2] at this; exact this
  have g4 : S4.1 (S.2.2 + 4) = 100 ∧ S4.2.1 (S.2.2 + 4) = 36 := by have := A4.2; rw [e3] at this; exact this
  have f1 : S4.1 (S.2.2 + 1) = 100 ∧ S4.2.1 (S.2.2 + 1) = 5 := ⟨(E1.2 _ v1).1.trans g1.1, (E1.2 _ v1).2.trans g1.2⟩
  have f2 : S4.1 (S.2.2 + 2) = 100 ∧ S4.2.1 (S.2.2 + 2) = 5 := ⟨(E2.2 _ v2).1.trans g2.1, (E2.2 _ v2).2.trans g2.2⟩
  have f3 : S4.1 (S.2.2 + 3) = 100 ∧ S4.2.1 (S.2.2 + 3) = 36 := ⟨(E3.2 _ v3).1.trans g3.1, (E3.2 _ v3).2.trans g3.2⟩
  have f4 := g4
  generalize hM1 : upM (zNewM S M) a 0 (S.2.2 + 1) = M1
  generalize hM2 : upM (zNewM S1 M1) a 1 (S.2.2 + 2) = M2
  generalize hM3 : upM (zNewM S2 M2) a 2 (S.2.2 + 3) = M3
  generalize hM4 : upM (zNewM S3 M3) a 3 (S.2.2 + 4) = M4
  have t1 : S1.1 a = 6 := (A1.1.2 a ha).1.trans hk
  have t2 : S2.1 a = 6 := (A2.1.2 a (L1 a ha)).1.trans t1
  have t3 : S3.1 a = 6 := (A3.1.2 a (L2 a ha)).1.trans t2
  have t4 : S4.1 a = 6 := (A4.1.2 a (L3 a ha)).1.trans t3
  have m1 : ∀ x, x ≤ S.2.2 → x ≠ a → M1 x = M x := fun x y z => by rw [← hM1, upM_r z, zNM y]
  have m2 : ∀ x, x ≤ S.2.2 → x ≠ a → M2 x = M x := fun x y z => by rw [← hM2, upM_r z, zNM (L1 x y), m1 x y z]
  have m3 : ∀ x, x ≤ S.2.2 → x ≠ a → M3 x = M x := fun x y z => by rw [← hM3, upM_r z, zNM (L2 x y), m2 x y z]
  have m4 : ∀ x, x ≤ S.2.2 → x ≠ a → M4 x = M x := fun x y z => by rw [← hM4, upM_r z, zNM (L3 x y), m3 x y z]
  have a11 : M1 a 0 = S.2.2 + 1 := by rw [← hM1, upM_s]
  have a21 : M2 a 0 = S.2.2 + 1 := by rw [← hM2, upM_i (by decide), zNM (L1 a ha)]; exact a11
  have a22 : M2 a 1 = S.2.2 + 2 := by rw [← hM2, upM_s]
  have a31 : M3 a 0 = S.2.2 + 1 := by rw [← hM3, upM_i (by decide), zNM (L2 a ha)]; exact a21
  have a32 : M3 a 1 = S.2.2 + 2 := by rw [← hM3, upM_i (by decide), zNM (L2 a ha)]; exact a22
  have a33 : M3 a 2 = S.2.2 + 3 := by rw [← hM3, upM_s]
  have a41 : M4 a 0 = S.2.2 + 1 := by rw [← hM4, upM_i (by decide), zNM (L3 a ha)]; exact a31
  have a42 : M4 a 1 = S.2.2 + 2 := by rw [← hM4, upM_i (by decide), zNM (L3 a ha)]; exact a32
  have a43 : M4 a 2 = S.2.2 + 3 := by rw [← hM4, upM_i (by decide), zNM (L3 a ha)]; exact a33
  have a44 : M4 a 3 = S.2.2 + 4 := by rw [← hM4, upM_s]
  obtain ⟨MF, b1, b2, -⟩ := c_fill (S := S4) (M := M4) (a := S.2.2 + 3) (v := -1) (L := 36) f3.1 f3.2 (by decide)
  have na : a ≠ S.2.2 + 3 := ne a 3 ha (by decide)
  refine ⟨S4, MF, ?_, E0, fun x y z => by rw [b2 x (ne x 3 y (by decide))]; exact m4 x y z, ⟨f1, f2, f3, f4⟩, by rw [b2 a na]; exact ⟨a41, a42, a43, a44⟩⟩
  simp only [pX6_init, pX6_init_18, pX6_init_34, zlet, if_pos h1, if_pos d0, hS1, if_pos t1, hM1, if_pos d1, hS2, if_pos t2, e1, hM2, if_pos d2, hS3, if_pos t3, e2, hM3, if_pos d3, hS4, if_pos t4, e3, hM4, a43, b1, Option.bind_some]
theorem w_init9 {a : Int} (h1 : 1 ≤ a) (ha : a ≤ S.2.2) (hk : S.1 a = 9) (hs : S.2.2 < 1999999990) : ∃ S' M', pX9_init S M a = some (S', M') ∧ Ext S S' 5 ∧ (∀ x, x ≤ S.2.2 → x ≠ a → M' x = M x) ∧ ((S'.1 (S.2.2 + 1) = 100 ∧ S'.2.1 (S.2.2 + 1) = 5) ∧ (S'.1 (S.2.2 + 2) = 100 ∧ S'.2.1 (S.2.2 + 2) = 5) ∧ (S'.1 (S.2.2 + 3) = 100 ∧ S'.2.1 (S.2.2 + 3) = 12) ∧ (S'.1 (S.2.2 + 4) = 100 ∧ S'.2.1 (S.2.2 + 4) = 12) ∧ (S'.1 (S.2.2 + 5) = 100 ∧ S'.2.1 (S.2.2 + 5) = 36)) ∧ (M' a 5 = S.2.2 + 1 ∧ M' a 6 = S.2.2 + 2 ∧ M' a 7 = S.2.2 + 3 ∧ M' a 8 = S.2.2 + 4 ∧ M' a 9 = S.2.2 + 5) := by
  have A1 := AL.mk S 100 5
  generalize hS1 : zNewS S 100 5 = S1 at A1
  have A2 := AL.mk S1 100 5
  generalize hS2 : zNewS S1 100 5 = S2 at A2
  have A3 := AL.mk S2 100 12
  generalize hS3 : zNewS S2 100 12 = S3 at A3
  have A4 := AL.mk S3 100 12
  generalize hS4 : zNewS S3 100 12 = S4 at A4
  have A5 := AL.mk S4 100 36
  generalize hS5 : zNewS S4 100 36 = S5 at A5
  have c1 : S1.2.2 = S.2.2 + 1 := A1.1.1
  have c2 : S2.2.2 = S.2.2 + 2 := by have := A2.1.1; omega
  have c3 : S3.2.2 = S.2.2 + 3 := by have := A3.1.1; omega
  have c4 : S4.2.2 = S.2.2 + 4 := by have := A4.1.1; omega
  have c5 : S5.2.2 = S.2.2 + 5 := by have := A5.1.1; omega
  have L1 : ∀ x, x ≤ S.2.2 → x ≤ S1.2.2 := fun x y => by omega
  have e1 : S1.2.2 + 1 = S.2.2 + 2 := by omega
  have d1 : S1.2.2 < 2000000000 := by omega
  have L2 : ∀ x, x ≤ S.2.2 → x ≤ S2.2.2 := fun x y => by omega
  have e2 : S2.2.2 + 1 = S.2.2 + 3 := by omega
  have d2 : S2.2.2 < 2000000000 := by omega
  have L3 : ∀ x, x ≤ S.2.2 → x ≤ S3.2.2 := fun x y => by omega
  have e3 : S3.2.2 + 1 = S.2.2 + 4 := by omega
  have d3 : S3.2.2 < 2000000000 := by omega
  have L4 : ∀ x, x ≤ S.2.2 → x ≤ S4.2.2 := fun x y => by omega
  have e4 : S4.2.2 + 1 = S.2.2 + 5 := by omega
  have d4 : S4.2.2 < 2000000000 := by omega
  have d0 : S.2.2 < 2000000000 := by omega
  have v1 : S.2.2 + 1 ≤ S1.2.2 := by omega
  have v2 : S.2.2 + 2 ≤ S2.2.2 := by omega
  have v3 : S.2.2 + 3 ≤ S3.2.2 := by omega
  have v4 : S.2.2 + 4 ≤ S4.2.2 := by omega
  have ne : ∀ x i, x ≤ S.2.2 → 0 < i → x ≠ S.2.2 + i := fun x i y z => by omega
  have E4 : Ext S4 S5 1 := A5.1
  have E3 : Ext S3 S5 2 := A4.1.trans (by decide) E4
  have E2 : Ext S2 S5 3 := A3.1.trans (by decide) E3
  have E1 : Ext S1 S5 4 := A2.1.trans (by decide) E2
  have E0 : Ext S S5 5 := A1.1.trans (by decide) E1
  have g1 : S1.1 (S.2.2 + 1) = 100 ∧ S1.2.1 (S.2.2 + 1) = 5 := A1.2
  have g2 : S2.1 (S.2.2 + 2) = 100 ∧ S2.2.1 (S.2.2 + 2) = 5 := by have := A2.2; rw [e1] at this; exact this
  have g3 : S3.1 (S.2.2 + 3) = 100 ∧ S3.2.1 (S.2.2 + 3) = 12 := by have := A3.2; rw [e2] at this; exact this
  have g4 : S4.1 (S.2.2 + 4) = 100 ∧ S4.2.1 (S.2.2 + 4) = 12 := by have := A4.2; rw [e3] at this; exact this
  have g5 : S5.1 (S.2.2 + 5) = 100 ∧ S5.2.1 (S.2.2 + 5) = 36 := by have := A5.2; rw [e4] at this; exact this
  have f1 : S5.1 (S.2.2 + 1) = 100 ∧ S5.2.1 (S.2.2 + 1) = 5 := ⟨(E1.2 _ v1).1.trans g1.1, (E1.2 _ v1).2.trans g1.2⟩
  have f2 : S5.1 (S.2.2 + 2) = 100 ∧ S5.2.1 (S.2.2 + 2) = 5 := ⟨(E2.2 _ v2).1.trans g2.1, (E2.2 _ v2).2.trans g2.2⟩
  have f3 : S5.1 (S.2.2 + 3) = 100 ∧ S5.2.1 (S.2.2 + 3) = 12 := ⟨(E3.2 _ v3).1.trans g3.1, (E3.2 _ v3).2.trans g3.2⟩
  have f4 : S5.1 (S.2.2 + 4) = 100 ∧ S5.2.1 (S.2.2 + 4) = 12 := ⟨(E4.2 _ v4).1.trans g4.1, (E4.2 _ v4).2.trans g4.2⟩
  have f5 := g5
  generalize hM1 : upM (zNewM S M) a 5 (S.2.2 + 1) = M1
  generalize hM2 : upM (zNewM S1 M1) a 6 (S.2.2 + 2) = M2
  generalize hM3 : upM (zNewM S2 M2) a 7 (S.2.2 + 3) = M3
  generalize hM4 : upM (zNewM S3 M3) a 8 (S.2.2 + 4) = M4
  generalize hM5 : upM (zNewM S4 M4) a 9 (S.2.2 + 5) = M5
  have t1 : S1.1 a = 9 := (A1.1.2 a ha).1.trans hk
  have t2 : S2.1 a = 9 := (A2.1.2 a (L1 a ha)).1.trans t1
  have t3 : S3.1 a = 9 := (A3.1.2 a (L2 a ha)).1.trans t2
  have t4 : S4.1 a = 9 := (A4.1.2 a (L3 a ha)).1.trans t3
  have t5 : S5.1 a = 9 := (A5.1.2 a (L4 a ha)).1.trans t4
  have m1 : ∀ x, x ≤ S.2.2 → x ≠ a → M1 x = M x := fun x y z => by rw [← hM1, upM_r z, zNM y]
  have m2 : ∀ x, x ≤ S.2.2 → x ≠ a → M2 x = M x := fun x y z => by rw [← hM2, upM_r z, zNM (L1 x y), m1 x y z]
  have m3 : ∀ x, x ≤ S.2.2 → x ≠ a → M3 x = M x := fun x y z => by rw [← hM3, upM_r z, zNM (L2 x y), m2 x y z]
  have m4 : ∀ x, x ≤ S.2.2 → x ≠ a → M4 x = M x := fun x y z => by rw [← hM4, upM_r z, zNM (L3 x y), m3 x y z]
  have m5 : ∀ x, x ≤ S.2.2 → x ≠ a → M5 x = M x := fun x y z => by rw [← hM5, upM_r z, zNM (L4 x y), m4 x y z]
  have a11 : M1 a 5 = S.2.2 + 1 := by rw [← hM1, upM_s]
  have a21 : M2 a 5 = S.2.2 + 1 := by rw [← hM2, upM_i (by decide), zNM (L1 a ha)]; exact a11
  have a22 : M2 a 6 = S.2.2 + 2 := by rw [← hM2, upM_s]
  have a31 : M3 a 5 = S.2.2 + 1 := by rw [← hM3, upM_i (by decide), zNM (L2 a ha)]; exact a21
  have a32 : M3 a 6 = S.2.2 + 2 := by rw [← hM3, upM_i (by decide), zNM (L2 a ha)]; exact a22
  have a33 : M3 a 7 = S.2.2 + 3 := by rw [← hM3, upM_s]
  have a41 : M4 a 5 = S.2.2 + 1 := by rw [← hM4, upM_i (by decide), zNM (L3 a ha)]; exact a31
  have a42 : M4 a 6 = S.2.2 + 2 := by rw [← hM4, upM_i (by decide), zNM (L3 a ha)]; exact a32
  have a43 : M4 a 7 = S.2.2 + 3 := by rw [← hM4, upM_i (by decide), zNM (L3 a ha)]; exact a33
  have a44 : M4 a 8 = S.2.2 + 4 := by rw [← hM4, upM_s]
  have a51 : M5 a 5 = S.2.2 + 1 := by rw [← hM5, upM_i (by decide), zNM (L4 a ha)]; exact a41
  have a52 : M5 a 6 = S.2.2 + 2 := by rw [← hM5, upM_i (by decide), zNM (L4 a ha)]; exact a42
  have a53 : M5 a 7 = S.2.2 + 3 := by rw [← hM5, upM_i (by decide), zNM (L4 a ha)]; exact a43
  have a54 : M5 a 8 = S.2.2 + 4 := by rw [← hM5, upM_i (by decide), zNM (L4 a ha)]; exact a44
  have a55 : M5 a 9 = S.2.2 + 5 := by rw [← hM5, upM_s]
  refine ⟨S5, M5, ?_, E0, m5, ⟨f1, f2, f3, f4, f5⟩, ⟨a51, a52, a53, a54, a55⟩⟩
  simp only [pX9_init, pX9_init_18, pX9_init_34, zlet, if_pos h1, if_pos d0, hS1, if_pos t1, hM1, if_pos d1, hS2, if_pos t2, e1, hM2, if_pos d2, hS3, if_pos t3, e2, hM3, if_pos d3, hS4, if_pos t4, e3, hM4, if_pos d4, hS5, if_pos t5, e4, hM5]
end
