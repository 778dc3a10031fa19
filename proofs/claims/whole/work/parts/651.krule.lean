/-! RULE: the class's call -/
def FX (M M' : ZM) : Prop := ∀ x, (x < 2 ∨ (5 < x ∧ x < 13) ∨ 14 < x) → M' x = M x
section
variable {S : ZS} {M : ZM} {T : Int} {B : Int → Int}
theorem c_faultS (h : NW S M) (hT : TOk T B) (ht : CTp M T B) : ∃ M2, pX5_faultOf S M 13 2 = pX5_faultOf_16 S zFU M2 13 2 0 ∧ CJ S M2 T B (sk T B 0) [] 0 ∧ FX M M2 := by
  obtain ⟨M1, a1, a2, a3⟩ := c_cutP h hT ht
  generalize hM3 : upM (upM M1 13 1 0) 13 2 0 = M3
  have e1 : ∀ x, x ≠ 13 → M3 x = M1 x := fun x y => by rw [← hM3, upM_r y, upM_r y]
  have e2 : ∀ j, j ≠ 1 → j ≠ 2 → M3 13 j = M1 13 j := fun j y z => by rw [← hM3, upM_i z, upM_i y]
  refine ⟨M3, ?_, ⟨a2.d (fun x y _ => e1 x y) e2, ⟨?_, trivial⟩, ?_⟩, fun x y => ?_⟩
  · simp only [pX5_faultOf, h.1.o, if_true, a1, Option.bind_some, zlet, hM3]
  · rw [← hM3, upM_i (by decide), upM_s]; rfl
  · rw [← hM3, upM_s]
  · rw [e1 x (by omega), a3.1 x (by omega) (by omega) (by omega) (by omega)]
theorem c_orders {n : Int} (h : S.1 13 = 5 ∧ S.1 14 = 100 ∧ S.2.1 14 = 400) (e0 : M 13 0 = 14) (e1 : M 13 1 = n) (hn : 0 ≤ n ∧ n < 400) (hs : 214 ≤ S.2.2 ∧ S.2.2 < 1999999990) : pX5_orders S M 13 = some (S.2.2 + 1, zNewS S 100 n, zCpy (zNewM S M) 14 (S.2.2 + 1) n) := by
  have A1 := AL.mk S 100 n
  generalize hS1 : zNewS S 100 n = S1 at *
  have f1 : S1.1 14 = 100 := (A1.1.2 14 (by omega)).1.trans h.2.1
  have f2 : S1.2.1 14 = 400 := (A1.1.2 14 (by omega)).2.trans h.2.2
  have f3 : S1.1 (S.2.2 + 1) = 100 := A1.2.1
  have f4 : S1.2.1 (S.2.2 + 1) = n := A1.2.2
  have g1 : ¬ n = 400 := by omega
  have g2 : n ≤ 400 := by omega
  have g3 : S.2.2 < 2000000000 := by omega
  simp only [pX5_orders, pJ7_copyOf_59c91, pJ7_copyOf_59c91_31, h, if_true, e0, e1, if_neg g1, hn, and_self, g2, g3, zlet, hS1, f1, f2, f3, f4, Int.le_refl, Option.bind_some]
/-- a rule with a fault -/
theorem k_ruleF {M3 : ZM} {nR f : Int} (h : NW S M) (h3 : NW S M3) (e4 : M 1 4 = nR) (hn : nR < 6) (hx : pX5_faultOf S M 13 2 = some (f, M3)) (hf : 0 < f ∧ f ≤ 9000) : pX11_rule S M 1 = some (-2 - f, S, upM M3 2 1 0) := by
  have g1 : M 1 2 = 13 ∧ M 1 0 = 2 := by simp [h.2.o]
  have g2 : M3 1 0 = 2 := by simp [h3.2.o]
  have g3 : ¬ f = 0 := by omega
  have w1 : w32 (-2 - f) = -2 - f := w32_i (by omega) (by omega)
  simp only [pX11_rule, h.1.o, if_true, e4, if_pos hn, g1, hx, Option.bind_some, g2, zlet, if_neg g3, w1]
/-- six rules: no more -/
theorem k_ruleX (h : NW S M) (e4 : M 1 4 = 6) : pX11_rule S M 1 = some (-1, S, M) := by
  simp only [pX11_rule, h.1.o, if_true, e4, Int.lt_irrefl, if_false]
/-- a rule is made -/
theorem k_ruleG {M3 : ZM} {nR n : Int} (h : NW S M) (h3 : NW S M3) (e4 : M 1 4 = nR) (e4' : M3 1 4 = nR) (hn : 0 ≤ nR ∧ nR < 6) (hx : pX5_faultOf S M 13 2 = some (0, M3)) (e1 : M3 13 1 = n) (hn2 : 0 ≤ n ∧ n < 400) (hs : 214 ≤ S.2.2 ∧ S.2.2 < 1999999700) : ∃ S' M', pX11_rule S M 1 = some (nR, S', M') ∧ (SE S S' S.2.2 ∧ S'.2.2 = S.2.2 + 2) ∧ (S'.1 (S.2.2 + 1) = 4 ∧ S'.1 (S.2.2 + 2) = 100 ∧ S'.2.1 (S.2.2 + 2) = n) ∧ (M' (S.2.2 + 1) 0 = S.2.2 + 2 ∧ ∀ i, 0 ≤ i → i < n → M' (S.2.2 + 2) i = M3 14 i) ∧ (M' 15 nR = S.2.2 + 1 ∧ ∀ j, j ≠ nR → M' 15 j = M3 15 j) ∧ (M' 1 4 = nR + 1 ∧ ∀ j, j ≠ 4 → M' 1 j = M3 1 j) ∧ (M' 2 1 = 0 ∧ ∀ j, j ≠ 1 → M' 2 j = M3 2 j) ∧ ∀ x, x ≤ S.2.2 → x ≠ 1 → x ≠ 2 → x ≠ 15 → M' x = M3 x := by
  have g1 : M 1 2 = 13 ∧ M 1 0 = 2 := by simp [h.2.o]
  have g2 : M3 1 0 = 2 ∧ M3 1 2 = 13 ∧ M3 1 3 = 15 ∧ M3 13 0 = 14 := by simp [h3.2.o]
  have s1 : S.1 1 = 11 ∧ S.1 13 = 5 ∧ S.1 14 = 100 ∧ S.2.1 14 = 400 ∧ S.1 15 = 104 ∧ S.2.1 15 = 6 ∧ S.1 2 = 8 := by simp [h.1.o]
  obtain ⟨s11, s13, s14, s14', s15, s15', s2⟩ := s1
  generalize hM7 : upM M3 2 1 0 = M7
  have m7 : ∀ x, x ≠ 2 → M7 x = M3 x := fun x y => by rw [← hM7, upM_r y]
  have m7' : M7 2 1 = 0 ∧ ∀ j, j ≠ 1 → M7 2 j = M3 2 j := by rw [← hM7]; exact ⟨upM_s _ _ _ _, fun j y => upM_i y⟩
  generalize hM8 : zNewM S M7 = M8
  have m8 : ∀ x, x ≤ S.2.2 → M8 x = M7 x := fun x y => by rw [← hM8]; exact zNM y
  have A1 := AL.mk S 4 0
  generalize hS1 : zNewS S 4 0 = S1 at A1
  have c1 : S1.2.2 = S.2.2 + 1 := A1.1.1
  have t1 : ∀ x, x ≤ 214 → S1.1 x = S.1 x ∧ S1.2.1 x = S.2.1 x := fun x y => A1.1.2 x (by omega)
  have or1 := c_orders (S := S1) (M := M8) (n := n) ⟨(t1 13 (by decide)).1.trans s13, (t1 14 (by decide)).1.trans s14, (t1 14 (by decide)).2.trans s14'⟩ (by rw [m8 13 (by omega), m7 13 (by decide)]; exact g2.2.2.2) (by rw [m8 13 (by omega), m7 13 (by decide)]; exact e1) hn2 (by omega)
  have A2 := AL.mk S1 100 n
  generalize hS2 : zNewS S1 100 n = S2 at A2 or1
  have A3 := A2.2
  rw [show S1.2.2 + 1 = S.2.2 + 2 by omega] at or1 A3
  have c2 : S2.2.2 = S.2.2 + 2 := by have := A2.1.1; omega
  have t2 : ∀ x, x ≤ S.2.2 + 1 → S2.1 x = S1.1 x ∧ S2.2.1 x = S1.2.1 x := fun x y => A2.1.2 x (by omega)
  generalize hM9 : zCpy (zNewM S1 M8) 14 (S.2.2 + 2) n = M9 at or1
  have m9 : ∀ x, x ≤ S.2.2 + 1 → M9 x = M8 x := fun x y => by rw [← hM9, zCpy_ne (by omega)]; exact zNM (by omega)
  have m9' : ∀ i, 0 ≤ i → i < n → M9 (S.2.2 + 2) i = M3 14 i := fun i x y => by
    rw [← hM9, zCpy_at x y, zNM (by omega), m8 14 (by omega), m7 14 (by decide)]
  have k4 : S2.1 (S.2.2 + 1) = 4 := (t2 _ (by omega)).1.trans A1.2.1
  generalize hM10 : upM M9 (S.2.2 + 1) 0 (S.2.2 + 2) = M10
  have in4 : pX4_init S2 M9 (S.2.2 + 1) (S.2.2 + 2) = some M10 := by
    have i1 : 1 ≤ S.2.2 + 1 := by omega
    simp only [pX4_init, i1, if_true, k4, zlet, hM10]
  have m10 : ∀ x, x ≠ S.2.2 + 1 → M10 x = M9 x := fun x y => by rw [← hM10, upM_r y]
  generalize hM11 : upM M10 15 nR (S.2.2 + 1) = M11
  have m11 : ∀ x, x ≠ 15 → M11 x = M10 x := fun x y => by rw [← hM11, upM_r y]
  generalize hM12 : upM M11 1 4 (nR + 1) = M12
  have m12 : ∀ x, x ≠ 1 → M12 x = M11 x := fun x y => by rw [← hM12, upM_r y]
  have low : ∀ x, x ≤ S.2.2 → M10 x = M7 x := fun x y => by rw [m10 x (by omega), m9 x (by omega), m8 x y]
  have e14 : M11 1 4 = nR := by rw [m11 1 (by decide), low 1 (by omega), m7 1 (by decide)]; exact e4'
  have e14' : M12 1 4 = nR + 1 := by rw [← hM12, upM_s]
  have g7 : M7 1 3 = 15 ∧ M7 1 4 = nR := by rw [m7 1 (by decide)]; exact ⟨g2.2.2.1, e4'⟩
  have g8 : M8 1 2 = 13 := by rw [m8 1 (by omega), m7 1 (by decide)]; exact g2.2.1
  have w1 : w32 (nR + 1) = nR + 1 := w32_i (by omega) (by omega)
  have w2 : w32 (nR + 1 - 1) = nR := by rw [show nR + 1 - 1 = nR by omega]; exact w32_i (by omega) (by omega)
  have u1 : S1.1 1 = 11 := (t1 1 (by decide)).1.trans s11
  have u2 : S1.1 13 = 5 := (t1 13 (by decide)).1.trans s13
  have u3 : S2.1 15 = 104 := ((t2 15 (by omega)).1.trans (t1 15 (by decide)).1).trans s15
  have u4 : S2.2.1 15 = 6 := ((t2 15 (by omega)).2.trans (t1 15 (by decide)).2).trans s15'
  have u5 : S2.1 1 = 11 := ((t2 1 (by omega)).1.trans (t1 1 (by decide)).1).trans s11
  have v1 : S.2.2 < 2000000000 := by omega
  have v2 : 1 ≤ S.2.2 + 1 := by omega
  refine ⟨S2, M12, ?_, ⟨fun x y => ?_, c2⟩, ⟨k4, A3.1, A3.2⟩, ⟨?_, fun i x y => ?_⟩, ⟨?_, fun j y => ?_⟩, ⟨e14', fun j y => ?_⟩, ⟨?_, fun j y => ?_⟩, fun x y z1 z2 z3 => ?_⟩
  · simp only [pX11_rule, pX11_rule_63, s11, s13, s2, if_true, e4, hn.2, g1, hx, Option.bind_some, g2, zlet, hM7, v1, hM8, hS1, u1, g8, u2, or1, v2, in4, g7, u3, u4, hn.1, and_self, k4, or_true, hM11, u5, e14, w1, hM12, e14', w2]
  · have a := t2 x (by omega)
    have b := A1.1.2 x y
    exact ⟨a.1.trans b.1, a.2.trans b.2⟩
  · rw [m12 _ (by omega), m11 _ (by omega), ← hM10, upM_s]
  · rw [m12 _ (by omega), m11 _ (by omega), m10 _ (by omega)]; exact m9' i x y
  · rw [m12 _ (by decide), ← hM11, upM_s]
  · rw [m12 _ (by decide), ← hM11, upM_i y, low 15 (by omega), m7 15 (by decide)]
  · rw [← hM12, upM_i y, m11 1 (by decide), low 1 (by omega), m7 1 (by decide)]
  · rw [m12 _ (by decide), m11 _ (by decide), low 2 (by omega)]; exact m7'.1
  · rw [m12 _ (by decide), m11 _ (by decide), low 2 (by omega)]; exact m7'.2 j y
  · rw [m12 _ z1, m11 _ z3, low x y, m7 x z2]
end
