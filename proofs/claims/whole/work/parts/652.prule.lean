/-! RULE: the reference's call; both -/
/-- what a rule read leaves as it was in the reference -/
def FRl (j : Int) (R R' : ZM) : Prop := ((∀ x, (x < 176 ∨ (176 < x ∧ x < 197) ∨ 203 < x) → R' x = R x) ∧ ∀ i, (i < 20 ∨ 28 < i) → R' 176 i = R 176 i) ∧ (∀ i, (i < 300 * j ∨ 300 * j + 300 ≤ i) → R' 197 i = R 197 i ∧ R' 198 i = R 198 i) ∧ (∀ i, (i < 12 * j ∨ 12 * j + 12 ≤ i) → R' 200 i = R 200 i ∧ R' 201 i = R 201 i ∧ R' 202 i = R 202 i) ∧ (∀ i, i ≠ j → R' 199 i = R 199 i) ∧ R' 176 20 = 0
section
variable {S Z : ZS} {R M : ZM} {T : Int} {B : Int → Int} {j nR n : Int}
theorem r_ruleS (hS : ShW Z) (hM : PtW R) (hT : TOk T B) (ht : RTp R T B) (e24 : R 176 24 = nR) (e29 : R 176 29 = 12) (hn : 0 ≤ nR ∧ nR < 6) : ∃ R1, pX12_rule Z R 176 = pX12_rule_27 Z zFU R1 176 0 1 ∧ RJ Z R1 T B 0 [] 0 nR ∧ R1 176 26 = 0 ∧ (∀ x, x ≠ 176 → R1 x = R x) ∧ ∀ i, (i < 21 ∨ 27 < i ∨ i = 24) → R1 176 i = R 176 i := by
  have hb := hT.1
  obtain ⟨R1, a1, a2, a3, a4, a5, a6, a7, a8⟩ := r_starts (M := upM R 176 23 nR) hS
  have e1 : ∀ x, x ≠ 176 → R1 x = R x := fun x y => by rw [a2 x y, upM_r y]
  have e2 : ∀ i, (i < 21 ∨ 27 < i ∨ i = 24) → R1 176 i = R 176 i := fun i y => by rw [a3 i (by omega) (by omega) (by omega) (by omega) (by omega), upM_i (by omega)]
  have n6 : ¬ nR = 6 := by omega
  refine ⟨R1, ?_, ⟨⟨hS, hM.j (fun i x => e2 i (by omega)), ⟨by rw [e2 20 (by omega)]; exact ht.1, by rw [e1 196 (by decide)]; exact ht.2⟩, ⟨Int.le_refl _, hb.1⟩, a5, a4⟩, ⟨⟨?_, by rw [e2 29 (by omega)]; exact e29⟩, hn⟩, ⟨a6, trivial⟩, a8⟩, a7, e1, e2⟩
  · simp only [pX12_rule, hS.o, if_true, e24, if_neg n6, zlet, a1, Option.bind_some]
  · rw [a3 23 (by decide) (by decide) (by decide) (by decide) (by decide), upM_s]
theorem r_ruleE (hS : ShW Z) (hM : PtW R) (e23 : R 176 23 = j) (hj : 0 ≤ j ∧ j < 6) (e24 : R 176 24 = nR) (hn : 0 ≤ nR ∧ nR < 6) (F : Nat) : ∃ R', pX12_rule_27 Z (F + 1) R 176 n 0 = some (if R 176 22 ≤ 0 then w32 (R' 176 24 - 1) else w32 (-2 - R 176 22), R') ∧ R' 176 24 = (nR + if R 176 22 = 0 then 1 else 0) ∧ R' 176 20 = 0 ∧ R' 199 j = n ∧ (∀ i, i ≠ j → R' 199 i = R 199 i) ∧ (∀ x, x ≠ 176 → x ≠ 199 → R' x = R x) ∧ ∀ i, i ≠ 20 → i ≠ 24 → R' 176 i = R 176 i := by
  generalize hR1 : upM R 176 20 0 = R1
  have a1 : ∀ x, x ≠ 176 → R1 x = R x := fun x y => by rw [← hR1, upM_r y]
  have a2 : ∀ i, i ≠ 20 → R1 176 i = R 176 i := fun i y => by rw [← hR1, upM_i y]
  have a3 : R1 176 20 = 0 := by rw [← hR1, upM_s]
  have p1 : PtW R1 := hM.j (fun i x => a2 i (by omega))
  generalize hR2 : upM R1 199 j n = R2
  have b1 : ∀ x, x ≠ 199 → R2 x = R1 x := fun x y => by rw [← hR2, upM_r y]
  have b22 : R2 176 22 = R 176 22 := by rw [b1 176 (by decide), a2 22 (by decide)]
  have b24 : R2 176 24 = nR := by rw [b1 176 (by decide), a2 24 (by decide)]; exact e24
  have c23 : R1 176 23 = j := by rw [a2 23 (by decide)]; exact e23
  have w1 : w32 (nR + (if R 176 22 = 0 then (1 : Int) else 0)) = nR + (if R 176 22 = 0 then (1 : Int) else 0) := by
    split
    · exact w32_i (by omega) (by omega)
    · exact w32_i (by omega) (by omega)
  generalize hR3 : upM R2 176 24 (nR + (if R 176 22 = 0 then (1 : Int) else 0)) = R3
  have d1 : ∀ x, x ≠ 176 → R3 x = R2 x := fun x y => by rw [← hR3, upM_r y]
  have d2 : ∀ i, i ≠ 24 → R3 176 i = R2 176 i := fun i y => by rw [← hR3, upM_i y]
  have d22 : R3 176 22 = R 176 22 := by rw [d2 22 (by decide)]; exact b22
  refine ⟨R3, ?_, by rw [← hR3, upM_s], by rw [d2 20 (by decide), b1 176 (by decide)]; exact a3, by rw [d1 199 (by decide), ← hR2, upM_s], fun i y => by rw [d1 199 (by decide), ← hR2, upM_i y, a1 199 (by decide)], fun x y z => by rw [d1 x y, b1 x z, a1 x y], fun i y z => by rw [d2 i z, b1 176 (by decide), a2 i y]⟩
  by_cases z : R 176 22 ≤ 0
  · simp only [pX12_rule_27, pX12_rule_79, pX12_rule_106, if_true, hS.o, zlet, hR1, p1.o, c23, hj, and_self, hR2, b22, b24, w1, hR3, d22, if_pos z]
  · simp only [pX12_rule_27, pX12_rule_79, pX12_rule_106, if_true, hS.o, zlet, hR1, p1.o, c23, hj, and_self, hR2, b22, b24, w1, hR3, d22, if_neg z]
theorem r_ruleX (hS : ShW Z) (e24 : R 176 24 = 6) : pX12_rule Z R 176 = some (-1, R) := by
  simp only [pX12_rule, hS.o, if_true, e24]
/-- a rule is read, in both -/
theorem p_rule (hT : TOk T B) (h : NW S M) (ht : CTp M T B) (hZ : ShW Z) (hR : PtW R) (hr : RTp R T B) (e24 : R 176 24 = nR) (e29 : R 176 29 = 12) (hn : 0 ≤ nR ∧ nR < 6) : (∃ f M3 R', (0 < f ∧ f ≤ 9000) ∧ (pX5_faultOf S M 13 2 = some (f, M3) ∧ NW S M3 ∧ FX M M3) ∧ (pX12_rule Z R 176 = some (-2 - f, R') ∧ FRl nR R R' ∧ R' 176 24 = nR)) ∨ (∃ M3 R' cl, (pX5_faultOf S M 13 2 = some (0, M3) ∧ NW S M3 ∧ FX M M3 ∧ M3 13 1 = ln (flC cl) ∧ SgC (M3 14) 0 (flC cl) ∧ ln (flC cl) < 400 ∧ ∀ c, c ∈ cl → ClOk c) ∧ (pX12_rule Z R 176 = some (nR, R') ∧ FRl nR R R' ∧ R' 176 24 = nR + 1 ∧ RHd R' nR cl)) := by
  obtain ⟨M2, a1, a2, a3⟩ := c_faultS h hT ht
  obtain ⟨R1, b1, b2, b3, b4, b5⟩ := r_ruleS hZ hR hT hr e24 e29 hn
  have f24 : R1 176 24 = nR := by rw [b5 24 (by omega)]; exact e24
  have fx : ∀ M3, FD M2 M3 → FX M M3 := fun M3 f x y => by rw [f.1 x (by omega) (by omega) (by omega), a3 x y]
  have fr : ∀ R2 R3 : ZM, FLc nR R1 R2 → R3 176 20 = 0 → (∀ i, i ≠ nR → R3 199 i = R2 199 i) → (∀ x, x ≠ 176 → x ≠ 199 → R3 x = R2 x) → (∀ i, i ≠ 20 → i ≠ 24 → R3 176 i = R2 176 i) → FRl nR R R3 := fun R2 R3 f g1 g2 g3 g4 => by
    refine ⟨⟨fun x y => ?_, fun i y => ?_⟩, fun i y => ?_, fun i y => ?_, fun i y => ?_, g1⟩
    · rw [g3 x (by omega) (by omega), f.1 x (by omega) (by omega) (by omega) (by omega) (by omega) (by omega) (by omega), b4 x (by omega)]
    · rw [g4 i (by omega) (by omega), f.2.1 i (by omega) (by omega) (by omega) (by omega) (by omega) (by omega), b5 i (by omega)]
    · rw [g3 197 (by decide) (by decide), g3 198 (by decide) (by decide), ← b4 197 (by decide), ← b4 198 (by decide)]; exact f.2.2.1 i y
    · rw [g3 200 (by decide) (by decide), g3 201 (by decide) (by decide), g3 202 (by decide) (by decide), ← b4 200 (by decide), ← b4 201 (by decide), ← b4 202 (by decide)]; exact f.2.2.2 i y
    · rw [g2 i y, f.1 199 (by decide) (by decide) (by decide) (by decide) (by decide) (by decide) (by decide), b4 199 (by decide)]
  have en : ∀ R2 : ZM, FLc nR R1 R2 → PtW R2 ∧ R2 176 23 = nR ∧ R2 176 24 = nR := fun R2 f => ⟨b2.1.2.1.flc f, by rw [f.2.1 23 (by decide) (by decide) (by decide) (by decide) (by decide) (by decide)]; exact b2.2.1.1.1, by rw [f.2.1 24 (by decide) (by decide) (by decide) (by decide) (by decide) (by decide)]; exact f24⟩
  have h0 : ln (flR []) = 0 := rfl
  rcases p_rules (S := S) (Z := Z) (j := nR) hT 13 zFU zFU M2 R1 0 (sk T B 0) 0 0 0 [] rfl (by decide) (by decide) (zFU_gt (by decide)) (zFU_gt (by decide)) a2 b2 rfl (by decide) (by rw [h0]; decide) b3 trivial (fun c hc => absurd hc List.not_mem_nil) with u | u
  · obtain ⟨f, M3, R2, n', F', hf, ⟨u1, u2⟩, ⟨u3, u4, u5⟩⟩ := u
    obtain ⟨p2, e2, e3⟩ := en R2 u5
    obtain ⟨R3, v1, v2, v3, v4, v5, v6, v7⟩ := r_ruleE (n := n') hZ p2 e2 hn e3 hn F'
    have nf : ¬ f ≤ 0 := by omega
    have nf0 : ¬ f = 0 := by omega
    rw [u4, if_neg nf, w32_i (by omega) (by omega)] at v1
    rw [u4, if_neg nf0, Int.add_zero] at v2
    exact Or.inl ⟨f, M3, R3, hf, ⟨a1.trans u1, a2.1.1.fd u2, fx M3 u2⟩, ⟨(b1.trans u3).trans v1, fr R2 R3 u5 v3 v5 v6 v7, v2⟩⟩
  · obtain ⟨M3, R2, cl, F', ⟨u1, u2, u3, u4⟩, ⟨v1, v2, v3, v4, v5⟩, ⟨w1, w2⟩, hok⟩ := u
    obtain ⟨p2, e2, e3⟩ := en R2 v3
    obtain ⟨R3, x1, x2, x3, x4, x5, x6, x7⟩ := r_ruleE (n := (cl.length : Int)) hZ p2 e2 hn e3 hn F'
    rw [v2, if_pos rfl] at x2
    rw [v2, if_pos (Int.le_refl 0), x2, show nR + 1 - 1 = nR by omega, w32_i (by omega) (by omega)] at x1
    have e := flC_ln cl
    have g7 : R3 197 = R2 197 ∧ R3 198 = R2 198 := ⟨x6 197 (by decide) (by decide), x6 198 (by decide) (by decide)⟩
    refine Or.inr ⟨M3, R3, cl, ⟨a1.trans u1, a2.1.1.fd u2, fx M3 u2, u3, u4, by omega, hok⟩, ⟨(b1.trans v1).trans x1, fr R2 R3 v3 x3 x5 x6 x7, x2, ⟨x4, ?_, w1, by rw [← flR_ln]; exact w2, hok⟩⟩⟩
    refine RRow.cl cl 0 0 (RRow.eq cl 0 0 v4 (fun i _ _ => by rw [x6 200 (by decide) (by decide), x6 201 (by decide) (by decide), x6 202 (by decide) (by decide)]; exact ⟨rfl, rfl, rfl⟩)) ?_
    rw [Int.add_zero, g7.1, g7.2]; exact v5
end
