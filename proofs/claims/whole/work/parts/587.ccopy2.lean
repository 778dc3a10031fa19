/-! A WORLD COPIED in the class: the whole -/
theorem WPt.j {M M' : ZM} {b : Int} (h : WPt M b) (e0 : ∀ j, j ≠ 3 → j < 7 → M' b j = M b j) (e1 : ∀ j, 5 ≤ j → M' (b + 1) j = M (b + 1) j) (e7 : ∀ j, j < 4 → M' (b + 7) j = M (b + 7) j) (e12 : M' (b + 12) = M (b + 12)) (ei : ∀ i, 0 ≤ i → i < 20 → M' (b + 16 + 5 * i) = M (b + 16 + 5 * i)) : WPt M' b := by
  obtain ⟨h1, h2, h3, h4, h5⟩ := h
  refine ⟨?_, ?_, ?_, fun i x y => by unfold PtC; rw [ei i x y]; exact h4 i x y, by unfold PA at *; rw [e12]; exact h5⟩
  · rw [e0 0 (by decide) (by decide), e0 1 (by decide) (by decide), e0 2 (by decide) (by decide), e0 4 (by decide) (by decide), e0 5 (by decide) (by decide), e0 6 (by decide) (by decide)]; exact h1
  · unfold PtT; rw [e1 5 (by decide), e1 6 (by decide), e1 7 (by decide), e1 8 (by decide), e1 9 (by decide)]; exact h2
  · unfold PtC; rw [e7 0 (by decide), e7 1 (by decide), e7 2 (by decide), e7 3 (by decide)]; exact h3
/-- the last of it: the notes and three numbers -/
theorem c_cpEnd {S : ZS} {M : ZM} {a b : Int} (ha : WSh S a) (hb : WSh S b) (pa : M a 4 = a + 13 ∧ M a 5 = a + 14 ∧ M a 6 = a + 15) (pb : M b 4 = b + 13 ∧ M b 5 = b + 14 ∧ M b 6 = b + 15) (hd : a + 115 < b ∨ b + 115 < a) : ∃ M', pX10_copyFrom_67 S M b a = some M' ∧ (∀ x, x ≠ b → x ≠ b + 13 → x ≠ b + 14 → x ≠ b + 15 → M' x = M x) ∧ (∀ j, j < 7 → M' b j = M b j) ∧ (M' b 7 = M a 7 ∧ M' b 8 = M a 8 ∧ M' b 9 = M a 9) ∧ ∀ j, 0 ≤ j → j < 10 → M' (b + 13) j = M (a + 13) j ∧ M' (b + 14) j = M (a + 14) j ∧ M' (b + 15) j = M (a + 15) j := by
  have ka := ha.1
  have kb := hb.1
  obtain ⟨-, -, -, -, x13, x14, x15, -⟩ := ha
  obtain ⟨-, -, -, -, y13, y14, y15, -⟩ := hb
  have dz : ∀ i j : Int, 0 ≤ i → i < 16 → 0 ≤ j → j < 16 → a + i ≠ b + j := fun i j u v w x => by clear pa pb ka kb x13 x14 x15 y13 y14 y15; omega
  have nb : ∀ i : Int, 0 < i → b ≠ b + i := fun i u => by clear pa pb ka kb x13 x14 x15 y13 y14 y15; omega
  have na : ∀ i : Int, 0 ≤ i → i < 16 → a ≠ b + i := fun i u v => by clear pa pb ka kb x13 x14 x15 y13 y14 y15; omega
  have nab : a ≠ b := by clear pa pb ka kb x13 x14 x15 y13 y14 y15; omega
  have d1 : b + 13 ≠ b + 14 ∧ b + 13 ≠ b + 15 ∧ b + 14 ≠ b + 13 ∧ b + 14 ≠ b + 15 ∧ b + 15 ≠ b + 13 ∧ b + 15 ≠ b + 14 := by clear pa pb ka kb x13 x14 x15 y13 y14 y15; omega
  have d2 : b + 13 ≠ b ∧ b + 14 ≠ b ∧ b + 15 ≠ b := by clear pa pb ka kb x13 x14 x15 y13 y14 y15; omega
  obtain ⟨t1, t2, t3, t4, t5, t6⟩ := d1
  obtain ⟨s1, s2, s3⟩ := d2
  generalize hM1 : zCpy M (a + 13) (b + 13) 10 = M1
  generalize hM2 : zCpy M1 (a + 14) (b + 14) 10 = M2
  generalize hM3 : zCpy M2 (a + 15) (b + 15) 10 = M3
  have r1 : ∀ x, x ≠ b + 13 → M1 x = M x := fun x u => by rw [← hM1, zCpy_ne u]
  have r2 : ∀ x, x ≠ b + 14 → M2 x = M1 x := fun x u => by rw [← hM2, zCpy_ne u]
  have r3 : ∀ x, x ≠ b + 15 → M3 x = M2 x := fun x u => by rw [← hM3, zCpy_ne u]
  have ea1 : M1 a = M a := r1 a (na 13 (by decide) (by decide))
  have ea2 : M2 a = M a := (r2 a (na 14 (by decide) (by decide))).trans ea1
  have ea3 : M3 a = M a := (r3 a (na 15 (by decide) (by decide))).trans ea2
  have eb1 : M1 b = M b := r1 b (nb 13 (by decide))
  have eb2 : M2 b = M b := (r2 b (nb 14 (by decide))).trans eb1
  have eb3 : M3 b = M b := (r3 b (nb 15 (by decide))).trans eb2
  generalize hM4 : upM M3 b 7 (M a 7) = M4
  generalize hM5 : upM M4 b 8 (M a 8) = M5
  generalize hM6 : upM M5 b 9 (M a 9) = M6
  have q4 : ∀ x, x ≠ b → M4 x = M3 x := fun x u => by rw [← hM4, upM_r u]
  have q5 : ∀ x, x ≠ b → M5 x = M4 x := fun x u => by rw [← hM5, upM_r u]
  have q6 : ∀ x, x ≠ b → M6 x = M5 x := fun x u => by rw [← hM6, upM_r u]
  have ea4 : M4 a = M a := (q4 a nab).trans ea3
  have ea5 : M5 a = M a := (q5 a nab).trans ea4
  have q : ∀ x, x ≠ b → M6 x = M3 x := fun x u => by rw [q6 x u, q5 x u, q4 x u]
  refine ⟨M6, ?_, fun x u1 u2 u3 u4 => by rw [q x u1, r3 x u4, r2 x u3, r1 x u2], fun j u => ?_, ⟨?_, ?_, ?_⟩, fun j u v => ⟨?_, ?_, ?_⟩⟩
  · simp only [pX10_copyFrom_67, pX10_copyFrom_82, pX10_copyFrom_97, pX10_copyFrom_112, if_pos ka, if_pos kb, pa, pb, x13, x14, x15, y13, y14, y15, zlet, hM1, hM2, hM3, ea1, ea2, ea3, eb1, eb2, eb3, hM4, ea4, hM5, ea5, hM6, Int.le_refl, and_self, if_true, show (0 : Int) ≤ 10 by decide]
  · have n7 : j ≠ 7 := by clear pa pb ka kb x13 x14 x15 y13 y14 y15; omega
    have n8 : j ≠ 8 := by clear pa pb ka kb x13 x14 x15 y13 y14 y15; omega
    have n9 : j ≠ 9 := by clear pa pb ka kb x13 x14 x15 y13 y14 y15; omega
    rw [← hM6, upM_i n9, ← hM5, upM_i n8, ← hM4, upM_i n7, eb3]
  · rw [← hM6, upM_i (by decide), ← hM5, upM_i (by decide), ← hM4, upM_s]
  · rw [← hM6, upM_i (by decide), ← hM5, upM_s]
  · rw [← hM6, upM_s]
  · rw [q _ s1, r3 _ t2, r2 _ t1, ← hM1, zCpy_at u v]
  · rw [q _ s2, r3 _ t4, ← hM2, zCpy_at u v, r1 _ (dz 14 13 (by decide) (by decide) (by decide) (by decide))]
  · rw [q _ s3, ← hM3, zCpy_at u v, r2 _ (dz 15 14 (by decide) (by decide) (by decide) (by decide)), r1 _ (dz 15 13 (by decide) (by decide) (by decide) (by decide))]
theorem c_cpWorld {S : ZS} {M : ZM} {a b nR : Int} {w : Wd} (ha : WSh S a) (hb : WSh S b) (pa : WPt M a) (pb : WPt M b) (hd : a + 115 < b ∨ b + 115 < a) (hw : WOk nR w) (hC : CWd M a w) : ∃ M', pX10_copyFrom S M b a = some M' ∧ WPt M' b ∧ CWd M' b w ∧ ∀ x, (x < b ∨ b + 115 < x) → M' x = M x := by
  have ho := hw.1
  have hk := hw.2.2.2.2.2.2.1
  have hq := hw.2.2.2.1.1
  have hpn := hw.1.2.2.1
  have hd1 : a + 1 + 5 < b + 1 ∨ b + 1 + 5 < a + 1 := by omega
  have hd7 : a + 7 + 4 < b + 7 ∨ b + 7 + 4 < a + 7 := by omega
  have pt : ∀ q, q < tPn (wT w) → q < 5 := fun q u => by omega
  have pn : ∀ q, q < (wN w).1 → q < 10 := fun q u => by omega
  clear hpn hq
  have kB : ∀ x, (x < b ∨ b + 115 < x) → (x < b + 1 ∨ b + 1 + 5 < x) ∧ (x < b + 7 ∨ b + 7 + 4 < x) ∧ x ≠ b ∧ (x < b + 16 ∨ b + 115 < x) ∧ x ≠ b + 13 ∧ x ≠ b + 14 ∧ x ≠ b + 15 := fun x u => by omega
  have kA : ∀ i, 0 ≤ i → i ≤ 115 → (a + i < b ∨ b + 115 < a + i) := fun i u v => by omega
  have kA' : ∀ x, a ≤ x → x ≤ a + 115 → (x < b ∨ b + 115 < x) := fun x u v => by omega
  have z0 : b < b + 1 ∨ b + 1 + 5 < b := by omega
  have z1 : b < b + 7 ∨ b + 7 + 4 < b := by omega
  have z2 : ∀ i : Int, 6 < i → b + i < b + 1 ∨ b + 1 + 5 < b + i := fun i u => by omega
  have z3 : ∀ i : Int, i < 7 ∨ 11 < i → b + i < b + 7 ∨ b + 7 + 4 < b + i := fun i u => by omega
  have z4 : ∀ i : Int, i ≠ 0 → b + i ≠ b := fun i u => by omega
  have z5 : ∀ i : Int, i < 16 → b + i < b + 16 ∨ b + 115 < b + i := fun i u => by omega
  have z6 : ∀ i : Int, i < 13 ∨ 15 < i → b + i ≠ b + 13 ∧ b + i ≠ b + 14 ∧ b + i ≠ b + 15 := fun i u => by omega
  have z7 : b ≠ b + 13 ∧ b ≠ b + 14 ∧ b ≠ b + 15 := by omega
  have z8 : b < b + 16 ∨ b + 115 < b := by omega
  have zi : ∀ i : Int, b + 16 + 5 * i = b + (16 + 5 * i) := fun i => by omega
  have z9 : ∀ i : Int, 0 ≤ i → (16 : Int) ≤ 16 + 5 * i := fun i u => by omega
  have nab : a ≠ b := by omega
  obtain ⟨M1, a1, a2, a3, a4, a5, a6, a7⟩ := c_copyTold (S := S) (M := M) (a := a + 1) (b := b + 1) ha.2.1 hb.2.1 pa.2.1 pb.2.1 hd1
  have eA1 : ∀ x, a ≤ x → x ≤ a + 115 → M1 x = M x := fun x u v => a2 x (kB x (kA' x u v)).1
  have e10 : M1 b = M b := a2 b z0
  have pb1 : WPt M1 b := pb.j (fun j _ _ => by rw [e10]) a3 (fun j _ => by rw [a2 _ (z2 7 (by decide))]) (a2 _ (z2 12 (by decide))) (fun i u v => by rw [zi]; exact a2 _ (z2 _ (Int.lt_of_lt_of_le (by decide) (z9 i u))))
  have pa1 : WPt M1 a := pa.eq eA1
  have c1 : CT M1 (b + 1) (wT w) := hC.1.rows ho a4 a6 a7
  have c2 : ∀ q, 0 ≤ q → q < tPn (wT w) → M1 (b + 2) q = wA w q ∧ M1 (b + 3) q = wS w q := fun q u v => by
    have h5 := a5 q u (pt q v)
    rw [show b + 1 + 1 = b + 2 by rw [Int.add_assoc]; rfl, show b + 1 + 2 = b + 3 by rw [Int.add_assoc]; rfl, show a + 1 + 1 = a + 2 by rw [Int.add_assoc]; rfl, show a + 1 + 2 = a + 3 by rw [Int.add_assoc]; rfl] at h5
    rw [h5.1, h5.2]; exact hC.2.1 q u v
  have hC1 : CWd M1 a w := hC.eq pa.2.2.2.2 hk.2 eA1
  obtain ⟨M2, b1, b2, b3, b4, b5, b6⟩ := c_copyScene (S := S) (M := M1) (a := a + 7) (b := b + 7) ha.2.2.1 hb.2.2.1 pa1.2.2.1 pb1.2.2.1 hd7
  have eA2 : ∀ x, a ≤ x → x ≤ a + 115 → M2 x = M1 x := fun x u v => b2 x (kB x (kA' x u v)).2.1
  have e20 : M2 b = M1 b := b2 b z1
  have n4 : ∀ j : Int, j < 4 → j ≠ 4 ∧ j ≠ 5 ∧ j ≠ 6 := fun j u => by clear a4 b4 hC hC1 c1 pa pb pa1 pb1 ha hb; omega
  have pb2 : WPt M2 b := pb1.j (fun j _ _ => by rw [e20]) (fun j _ => by rw [b2 _ (z3 1 (by decide))]) (fun j u => b3 j (n4 j u).1 (n4 j u).2.1 (n4 j u).2.2) (b2 _ (z3 12 (by decide))) (fun i u v => by rw [zi]; exact b2 _ (z3 _ (Or.inr (Int.lt_of_lt_of_le (by decide) (z9 i u)))))
  have pa2 : WPt M2 a := pa1.eq eA2
  have hC2 : CWd M2 a w := hC1.eq pa1.2.2.2.2 hk.2 eA2
  have c3 : CS M2 (wT w) (b + 7) (wC w) := hC1.2.2.1.rows ho b4 b5 b6
  have eK : M2 a 3 = wK w := hC2.2.2.2.2.1.2.2
  generalize hM3 : upM M2 b 3 (wK w) = M3
  have q3 : ∀ x, x ≠ b → M3 x = M2 x := fun x u => by rw [← hM3, upM_r u]
  have eA3 : ∀ x, a ≤ x → x ≤ a + 115 → M3 x = M2 x := fun x u v => q3 x (kB x (kA' x u v)).2.2.1
  have e30 : ∀ j, j ≠ 3 → M3 b j = M2 b j := fun j u => by rw [← hM3, upM_i u]
  have e33 : M3 b 3 = wK w := by rw [← hM3, upM_s]
  have pb3 : WPt M3 b := pb2.j (fun j u _ => e30 j u) (fun j _ => by rw [q3 _ (z4 1 (by decide))]) (fun j _ => by rw [q3 _ (z4 7 (by decide))]) (q3 _ (z4 12 (by decide))) (fun i u v => by rw [zi]; exact q3 _ (z4 _ (fun w => absurd (w ▸ z9 i u) (by decide))))
  have pa3 : WPt M3 a := pa2.eq eA3
  have hC3 : CWd M3 a w := hC2.eq pa2.2.2.2.2 hk.2 eA3
  obtain ⟨M4, g1, g2, g3, g4⟩ := c_cpPast (S := S) ha hb hd ho (P := wP w) hk (wK w).toNat zFU M3 0 pa3 pb3 e33 hC3.2.2.2.2.2 (fun j u v => absurd (Int.lt_of_le_of_lt u v) (Int.lt_irrefl 0)) (by rw [Int.toNat_of_nonneg hk.1, Int.zero_add]) (Int.le_refl 0) (zFU_gt (by have := hk; clear a4 b4 hC hC1 hC2 hC3 c1 pa pb pa1 pb1 pa2 pb2 pa3 pb3 ha hb; omega))
  have eA4 : ∀ x, a ≤ x → x ≤ a + 115 → M4 x = M3 x := fun x u v => g3 x (kB x (kA' x u v)).2.2.2.1
  have hC4 : CWd M4 a w := hC3.eq pa3.2.2.2.2 hk.2 eA4
  have pa4 : WPt M4 a := pa3.eq eA4
  obtain ⟨M5, h1, h2, h3, h4, h5⟩ := c_cpEnd (S := S) (M := M4) ha hb pa4.1.2.2.2 g2.1.2.2.2 hd
  have y : ∀ i, i < 13 ∨ 15 < i → i ≠ 0 → M5 (b + i) = M4 (b + i) := fun i u v => h2 _ (z4 i v) (z6 i u).1 (z6 i u).2.1 (z6 i u).2.2
  have y' : ∀ i, i < 13 → i ≠ 0 → M5 (b + i) = M3 (b + i) := fun i u v => by rw [y i (Or.inl u) v, g3 _ (z5 i (Int.lt_of_lt_of_le u (by decide)))]
  have y'' : ∀ i, i < 7 → i ≠ 0 → M5 (b + i) = M1 (b + i) := fun i u v => by rw [y' i (Int.lt_of_lt_of_le u (by decide)) v, q3 _ (z4 i v), b2 _ (z3 i (Or.inl u))]
  have y7 : ∀ i, i < 13 → i ≠ 0 → M5 (b + i) = M2 (b + i) := fun i u v => by rw [y' i u v, q3 _ (z4 i v)]
  refine ⟨M5, ?_, g2.j (fun j u v => h3 j v) (fun j _ => by rw [y 1 (by decide) (by decide)]) (fun j _ => by rw [y 7 (by decide) (by decide)]) (y 12 (by decide) (by decide)) (fun i u v => by rw [zi]; exact y _ (Or.inr (Int.lt_of_lt_of_le (by decide) (z9 i u))) (fun w => absurd (w ▸ z9 i u) (by decide))), ⟨?_, ?_, ?_, ⟨?_, fun i u v => ?_⟩, ⟨?_, ?_, ?_⟩, fun i u v => ?_⟩, fun x u => ?_⟩
  · have t1 := ha.1
    have t2 := hb.1
    have t3 : S.1 (b + 1) = 9 := hb.2.1.1
    have t4 : S.1 (b + 7) = 6 := hb.2.2.1.1
    have o1 := pb.1.1
    have o2 := pa.1.1
    have o3 := pb1.1.2.1
    have o4 := pa1.1.2.1
    simp only [pX10_copyFrom, pX10_copyFrom_22, if_pos t1, if_pos t2, o1, o2, o3, o4, if_pos t3, if_pos t4, a1, b1, Option.bind_some, zlet, eK, hM3, g1, h1]
  · refine c1.eq (fun x u v => ?_)
    have : ∃ i, x = b + i ∧ i < 7 ∧ i ≠ 0 := ⟨x - b, by clear a4 b4 hC hC1 hC2 hC3 hC4 c1 c3 pa pb pa1 pb1 pa2 pb2 pa3 pb3 pa4 ha hb h4; omega, by clear a4 b4 hC hC1 hC2 hC3 hC4 c1 c3 pa pb pa1 pb1 pa2 pb2 pa3 pb3 pa4 ha hb h4; omega, by clear a4 b4 hC hC1 hC2 hC3 hC4 c1 c3 pa pb pa1 pb1 pa2 pb2 pa3 pb3 pa4 ha hb h4; omega⟩
    obtain ⟨i, rfl, i1, i2⟩ := this
    exact y'' i i1 i2
  · intro q u v
    rw [y'' 2 (by decide) (by decide), y'' 3 (by decide) (by decide)]; exact c2 q u v
  · refine c3.eq (fun x u v => ?_)
    have : ∃ i, x = b + i ∧ i < 13 ∧ i ≠ 0 := ⟨x - b, by clear a4 b4 hC hC1 hC2 hC3 hC4 c1 c3 pa pb pa1 pb1 pa2 pb2 pa3 pb3 pa4 ha hb h4; omega, by clear a4 b4 hC hC1 hC2 hC3 hC4 c1 c3 pa pb pa1 pb1 pa2 pb2 pa3 pb3 pa4 ha hb h4; omega, by clear a4 b4 hC hC1 hC2 hC3 hC4 c1 c3 pa pb pa1 pb1 pa2 pb2 pa3 pb3 pa4 ha hb h4; omega⟩
    obtain ⟨i, rfl, i1, i2⟩ := this
    exact y7 i i1 i2
  · rw [h4.1]; exact hC4.2.2.2.1.1
  · have h5' := h5 i u (pn i v)
    rw [h5'.1, h5'.2.1, h5'.2.2]; exact hC4.2.2.2.1.2 i u v
  · rw [h4.2.1]; exact hC4.2.2.2.2.1.1
  · rw [h4.2.2]; exact hC4.2.2.2.2.1.2.1
  · rw [h3 3 (by decide), g3 b z8]; exact e33
  · rw [y 12 (by decide) (by decide)]
    have i20 : i < 20 := Int.lt_of_lt_of_le v hk.2
    obtain ⟨z, t1, t2⟩ := g2.2.2.2.2.1 i u i20
    have := g4 i u v
    rw [t2] at this ⊢
    refine this.eq (fun x x1 x2 => ?_)
    have : ∃ i, x = b + i ∧ 15 < i ∧ i ≠ 0 := ⟨x - b, by clear this a4 b4 hC hC1 hC2 hC3 hC4 c1 c3 pa pb pa1 pb1 pa2 pb2 pa3 pb3 pa4 ha hb h4; omega, by clear this a4 b4 hC hC1 hC2 hC3 hC4 c1 c3 pa pb pa1 pb1 pa2 pb2 pa3 pb3 pa4 ha hb h4; omega, by clear this a4 b4 hC hC1 hC2 hC3 hC4 c1 c3 pa pb pa1 pb1 pa2 pb2 pa3 pb3 pa4 ha hb h4; omega⟩
    obtain ⟨i, rfl, i1, i2⟩ := this
    exact y i (Or.inr i1) i2
  · obtain ⟨u1, u2, u3, u4, u5, u6, u7⟩ := kB x u
    rw [h2 x u3 u5 u6 u7, g3 x u4, q3 x u3, b2 x u2, a2 x u1]
