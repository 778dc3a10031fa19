/-! A WORLD COPIED in the class -/
section
variable {S : ZS} {M : ZM}
theorem CT.rows {M M' : ZM} {a b : Int} {t : Td} (h : CT M a t) (ho : TdOk t) (e0 : ∀ j, 0 ≤ j → j < 5 → M' b j = M a j) (e2 : ∀ j, 0 ≤ j → j < 12 → M' (b + 3) j = M (a + 3) j ∧ M' (b + 4) j = M (a + 4) j) (e3 : ∀ j, 0 ≤ j → j < 36 → M' (b + 5) j = M (a + 5) j) : CT M' b t := by
  obtain ⟨h0, h1, h2, h3, h4, h5, h6⟩ := h
  have hw := ho.2.2.2.1
  refine ⟨by rw [e0 0 (by decide) (by decide)]; exact h0, by rw [e0 1 (by decide) (by decide)]; exact h1, by rw [e0 2 (by decide) (by decide)]; exact h2, by rw [e0 3 (by decide) (by decide)]; exact h3, by rw [e0 4 (by decide) (by decide)]; exact h4, fun i x y => ?_, fun c x y => ?_⟩
  · have := e2 i x (by clear h0 h1 h2 h3 h4; omega)
    rw [this.1, this.2]; exact h5 i x y
  · rw [e3 c x y]; exact h6 c x y
/-- a row of the past is another: the world's rows stay -/
theorem WPt.sc {M' : ZM} {b z : Int} (h : WPt M b) (hz : 0 ≤ z ∧ z < 20) (e : ∀ x, (x < b + 16 + 5 * z ∨ b + 16 + 5 * z + 4 < x) → M' x = M x) (e' : ∀ j, j ≠ 4 → j ≠ 5 → j ≠ 6 → M' (b + 16 + 5 * z) j = M (b + 16 + 5 * z) j) : WPt M' b := by
  have x0 := e b (by omega)
  have x1 := e (b + 1) (by omega)
  have x7 := e (b + 7) (by omega)
  have x12 := e (b + 12) (by omega)
  have xi : ∀ i, i ≠ z → M' (b + 16 + 5 * i) = M (b + 16 + 5 * i) := fun i y => e _ (by omega)
  obtain ⟨h1, h2, h3, h4, h5⟩ := h
  refine ⟨by rw [x0]; exact h1, by unfold PtT; rw [x1]; exact h2, by unfold PtC; rw [x7]; exact h3, fun i x y => ?_, by unfold PA at *; rw [x12]; exact h5⟩
  by_cases q : i = z
  · subst q
    have := h4 i x y
    unfold PtC at *
    rw [e' 0 (by decide) (by decide) (by decide), e' 1 (by decide) (by decide) (by decide), e' 2 (by decide) (by decide) (by decide), e' 3 (by decide) (by decide) (by decide)]; exact this
  · unfold PtC; rw [xi i q]; exact h4 i x y
theorem c_cpPast {a b K : Int} (ha : WSh S a) (hb : WSh S b) (hd : a + 115 < b ∨ b + 115 < a) {t : Td} (ho : TdOk t) {P : Int → Sc} (hK : 0 ≤ K ∧ K ≤ 20) : ∀ (k fuel : Nat) (M : ZM) (i : Int), WPt M a → WPt M b → M b 3 = K → (∀ j, 0 ≤ j → j < K → CS M t (M (a + 12) j) (P j)) → (∀ j, 0 ≤ j → j < i → CS M t (M (b + 12) j) (P j)) → i + k = K → 0 ≤ i → k < fuel → ∃ M', pX10_copyFrom_32 S fuel M b a i = pX10_copyFrom_67 S M' b a ∧ WPt M' b ∧ (∀ x, (x < b + 16 ∨ b + 115 < x) → M' x = M x) ∧ (∀ j, 0 ≤ j → j < K → CS M' t (M' (b + 12) j) (P j)) := by
  have ka := ha.1
  have kb := hb.1
  have k12a := ha.2.2.2.1
  have k12b := hb.2.2.2.1
  have hca := ha.2.2.2.2.2.2.2
  have hcb := hb.2.2.2.2.2.2.2
  clear ha hb
  intro k
  induction k with
  | zero =>
    intro fuel M i pa pb h3 hs hq hi h0 hf
    obtain ⟨f, rfl⟩ : ∃ f, fuel = f + 1 := ⟨fuel - 1, by omega⟩
    have hKi : K ≤ i := by omega
    have hlt : ∀ j, j < K → j < i := fun j y => by omega
    refine ⟨M, ?_, pb, fun _ _ => rfl, fun j x y => hq j x (hlt j y)⟩
    simp only [pX10_copyFrom_32, if_pos kb, h3, if_pos hKi]
  | succ k ih =>
    intro fuel M i pa pb h3 hs hq hi h0 hf
    obtain ⟨f, rfl⟩ : ∃ f, fuel = f + 1 := ⟨fuel - 1, by omega⟩
    have w2 : w32 (i + 1) = i + 1 := w32_i (by omega) (by omega)
    have n1 : ¬ K ≤ i := by omega
    have n2 : ¬ 20 ≤ i := by omega
    have i20 : i < 20 := by omega
    have iK : i < K := by omega
    have hf' : k < f := by omega
    have hik : i + 1 + (k : Int) = K := by omega
    have hi1 : 0 ≤ i + 1 := by omega
    obtain ⟨u, u1, u2⟩ := pa.2.2.2.2.1 i h0 i20
    obtain ⟨v, v1, v2⟩ := pb.2.2.2.2.1 i h0 i20
    have hdis : b + 16 + 5 * v + 4 < a + 16 + 5 * u ∨ a + 16 + 5 * u + 4 < b + 16 + 5 * v := by omega
    have sa := hca u u1.1 u1.2
    have sb := hcb v v1.1 v1.2
    have ta := pa.2.2.2.1 u u1.1 u1.2
    have tb := pb.2.2.2.1 v v1.1 v1.2
    obtain ⟨M1, a1, a2, a3, a4, a5, a6⟩ := c_copyScene (S := S) (M := M) (a := a + 16 + 5 * u) (b := b + 16 + 5 * v) sa sb ta tb hdis.symm
    have s6 := sb.1
    clear sa sb ta tb
    have e12b : M1 (b + 12) = M (b + 12) := a2 _ (by clear a4 s6; omega)
    have ea : ∀ x, a ≤ x → x ≤ a + 115 → M1 x = M x := fun x y z => a2 x (by clear a4 s6; omega)
    have e3 : M1 b 3 = K := by rw [a2 b (by clear a4 s6; omega)]; exact h3
    have e12a : M1 (a + 12) = M (a + 12) := ea _ (by clear a4 s6; omega) (by clear a4 s6; omega)
    have pb1 : WPt M1 b := pb.sc v1 a2 a3
    have pa1 : WPt M1 a := pa.eq ea
    have q0 : b + 12 ≠ b + 16 := by clear a4 s6; omega
    obtain ⟨M', g1, g2, g3, g4⟩ := ih f M1 (i + 1) pa1 pb1 e3 (fun j x y => by
      rw [e12a]
      have j20 : j < 20 := by clear a4 s6; omega
      obtain ⟨z, z1, z2⟩ := pa.2.2.2.2.1 j x j20
      have := hs j x y
      rw [z2] at this ⊢
      exact this.eq (fun c c1 c2 => ea c (by clear a4 s6; omega) (by clear a4 s6; omega))) (fun j x y => by
      rw [e12b]
      have j20 : j < 20 := by clear a4 s6; omega
      by_cases q : j = i
      · subst q
        have := hs j x iK
        rw [u2] at this
        rw [v2]
        exact this.rows ho a4 a5 a6
      · have hz := pb.2.2.2.2.2 j i x j20 h0 i20 q
        obtain ⟨z, z1, z2⟩ := pb.2.2.2.2.1 j x j20
        have := hq j x (by clear a4 s6; omega)
        rw [z2] at this hz ⊢
        rw [v2] at hz
        exact this.eq (fun c c1 c2 => a2 c (by clear a4 s6; omega))) hik hi1 hf'
    refine ⟨M', ?_, g2, fun x y => ?_, g4⟩
    · have hb2 := pb.1.2.2.1
      have ha2 := pa.1.2.2.1
      simp only [pX10_copyFrom_32, if_pos kb, if_pos ka, h3, if_neg n1, if_neg n2, hb2, ha2, k12a, k12b, h0, i20, v2, u2, s6, a1, Option.bind_some, w2, g1, and_self, if_true]
    · rw [g3 x y]; exact a2 x (by clear a4 s6; omega)
end
