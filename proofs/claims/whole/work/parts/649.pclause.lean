/-! A RULE READ: a clause, in both -/
def BadCl (M : ZM) (x : Option (Int × ZM)) (j : Int) (R : ZM) (y : Option ZM) : Prop := ∃ f M' R', (0 < f ∧ f ≤ 9000) ∧ (x = some (0, M') ∧ M' 2 5 = f ∧ FD M M' ∧ (0 ≤ M' 13 1 ∧ M' 13 1 ≤ 400)) ∧ (y = some R' ∧ R' 176 22 = f ∧ FLc j R R' ∧ (0 ≤ R' 176 21 ∧ R' 176 21 ≤ 900))
def GoodCl (S Z : ZS) (T : Int) (B : Int → Int) (M : ZM) (x : Option (Int × ZM)) (j : Int) (R : ZM) (y : Option ZM) (LC LR : List (Int × Int)) (q n : Int) : Prop := ∃ M' R' p' q' c P' C', (x = some (1, M') ∧ CJ S M' T B q' (LC ++ clC c) P' ∧ FD M M') ∧ (y = some R' ∧ RJ Z R' T B p' (LR ++ (c.1 ++ c.2)) P' j ∧ FLc j R R') ∧ (R' 176 26 = 0 ∧ ClOk c) ∧ (q' = sk T B p' ∧ q < q') ∧ (R' 200 (12 * j + n) = ln LR ∧ R' 201 (12 * j + n) = ln LR + ln c.1 ∧ R' 202 (12 * j + n) = ln LR + ln c.1 + ln c.2) ∧ (∀ i, i ≠ 12 * j + n → R' 200 i = R 200 i ∧ R' 201 i = R 201 i ∧ R' 202 i = R 202 i) ∧ (0 ≤ C' ∧ 3 * C' ≤ P' ∧ P' ≤ 60) ∧ (ln LR + ln c.1 + ln c.2 ≤ 2 * P' + 8 * C' ∧ n < 12)
section
variable {S Z : ZS} {R M : ZM} {T : Int} {B : Int → Int} {p q P j : Int} {L : List (Int × Int)}
theorem FD.f {v : Int} : FD M (upM M 2 5 v) := ⟨fun _ a _ _ => upM_r a, fun _ _ a => upM_i a, fun _ _ _ => by rw [upM_r (by decide)]⟩
/-- a clause that does not begin -/
theorem p_clX (hT : TOk T B) {LC LR : List (Int × Int)} {n : Int} (hc : CJ S M T B q LC P) (hr : RJ Z R T B p LR P j) (hq : q = sk T B p) (hl : ln LC ≤ 400) (hx : tk T B q ≠ 270 ∨ n = 12) : BadCl M (pX5_takeClause S M 13 2 n) j R (pX12_ruleClause Z R 176 n) := by
  have hb := hT.1
  have hqT := hc.1.2.2.1
  obtain ⟨s1, s2⟩ := hr.sk hT
  rw [← hq] at s1 s2
  have f1 : FP R (upM R 176 21 q) := FP.p
  generalize upM R 176 21 q = R1 at *
  have e21 : R1 176 21 = q := s2.1.2.2.2.2.2
  have e22 : R1 176 22 = 0 := s2.1.2.2.2.2.1
  have st := r_stood s2.1.1 s2.1.2.1 hT s2.1.2.2.1 (w := 5) (by decide) (by rw [e21]; omega)
  rw [e21] at st
  have ct := c_token hc.1
  have f2 : ∀ v, FP R (upM R1 176 22 v) := fun v => f1.trans ⟨fun x a => upM_r a, fun j _ a => upM_i a⟩
  have e13 : (LC.length : Int) = ln LC := rfl
  have nl := ln_nn LC
  have m13 : ∀ v, 0 ≤ (upM M 2 5 v) 13 1 ∧ (upM M 2 5 v) 13 1 ≤ 400 := fun v => by rw [upM_r (by decide), hc.2.1.1, e13]; omega
  have c5 : 256 + (cw 5 : Int) = 270 := by decide
  rw [c5] at st
  by_cases x : tk T B q = 270
  · have y : n = 12 := by
      rcases hx with u | u
      · exact absurd x u
      · exact u
    have fc := c_fail hT hc.1 (k := 4) (by decide)
    have fr := r_fails (M := R1) (k := 4) (q := q) hr.1.1 (by omega) (by decide)
    rw [if_pos e22] at fr
    refine ⟨1 + 8 * q + 4, upM M 2 5 (1 + 8 * q + 4), upM R1 176 22 (1 + 8 * q + 4), by omega, ⟨?_, upM_s _ _ _ _, FD.f, m13 _⟩, ⟨?_, upM_s _ _ _ _, FLc.of (FJ.g (FG.fp (f2 _))), by rw [upM_i (by decide), e21]; omega⟩⟩
    · simp only [pX5_takeClause, hc.1.1.1.o, if_true, ct, Option.bind_some, if_pos x, y, show ¬ (12 : Int) < 12 by decide, if_false, fc, true_or]
    · simp only [pX12_ruleClause, hr.1.1.o, if_true, s1, Option.bind_some, st, if_pos x, y, show ¬ (1 : Int) = 0 by decide, if_false, e21, fr]
  · have fc := c_fail hT hc.1 (k := 0) (by decide)
    have fr := r_fails (M := R1) (k := 0) (q := q) hr.1.1 (by omega) (by decide)
    rw [if_pos e22] at fr
    refine ⟨1 + 8 * q + 0, upM M 2 5 (1 + 8 * q + 0), upM R1 176 22 (1 + 8 * q + 0), by omega, ⟨?_, upM_s _ _ _ _, FD.f, m13 _⟩, ⟨?_, upM_s _ _ _ _, FLc.of (FJ.g (FG.fp (f2 _))), by rw [upM_i (by decide), e21]; omega⟩⟩
    · simp only [pX5_takeClause, hc.1.1.1.o, if_true, ct, Option.bind_some, if_neg x, fc, true_or]
    · simp only [pX12_ruleClause, hr.1.1.o, if_true, s1, Option.bind_some, st, if_neg x, e21, fr]
/-- a clause begins, in the reference -/
theorem r_clB (hT : TOk T B) {LR : List (Int × Int)} {n : Int} (hr : RJ Z R T B p LR P j) (hq : q = sk T B p) (hn : 0 ≤ n ∧ n < 12) (x : tk T B q = 270) : q + 5 = eot T B q ∧ q < T ∧ ∃ R', RJ Z R' T B (q + 5) LR P j ∧ FLc j R R' ∧ R' 176 26 = R 176 26 ∧ R' 200 (12 * j + n) = ln LR ∧ (∀ i, i ≠ 12 * j + n → R' 200 i = R 200 i) ∧ (R' 201 = R 201 ∧ R' 202 = R 202) ∧ ∀ R2, pX12_sum Z R' 176 = some R2 → PtW R2 → pX12_ruleClause Z R 176 n = pX12_ruleClause_83 Z (upM R2 201 (12 * j + n) (R2 176 25)) 176 (12 * j + n) := by
  have hb := hT.1
  have hj := hr.2.1.2
  have hp := hr.1.2.2.2.1
  have hs := sk_b (B := B) hp.2
  obtain ⟨s1, s2⟩ := hr.sk hT
  rw [← hq] at s1 s2 hs
  have f1 : FP R (upM R 176 21 q) := FP.p
  generalize upM R 176 21 q = R1 at *
  have e21 : R1 176 21 = q := s2.1.2.2.2.2.2
  have st := r_stood s2.1.1 s2.1.2.1 hT s2.1.2.2.1 (w := 5) (by decide) (by rw [e21]; omega)
  rw [e21, if_pos (by rw [x]; decide)] at st
  obtain ⟨l1, l2⟩ := tk_len hT (q := q) (w := 5) (by decide) (by omega) (by rw [x]; decide)
  rw [show zSl 5 = 5 by decide +kernel] at l1
  have he := eot_b (B := B) (p := q) ⟨by omega, l2⟩
  refine ⟨l1, l2, ?_⟩
  have w1 : w32 (q + 5) = q + 5 := w32_i (by omega) (by omega)
  have r2 := s2.at (v := q + 5) (by omega)
  have f2 : FP R1 (upM R1 176 21 (q + 5)) := FP.p
  generalize hR2 : upM R1 176 21 (q + 5) = R2 at *
  have e23 : R2 176 23 = j := r2.2.1.1.1
  have e25 : R2 176 25 = ln LR := r2.2.2.1.1
  have w2 : w32 (12 * j) = 12 * j := w32_i (by omega) (by omega)
  have w3 : w32 (12 * j + n) = 12 * j + n := w32_i (by omega) (by omega)
  have b1 : 0 ≤ 12 * j + n := by omega
  have b2 : 12 * j + n < 72 := by omega
  have f3 := f1.trans f2
  refine ⟨upM R2 200 (12 * j + n) (ln LR), r2.row (Or.inl rfl), (FLc.of (FJ.g (FG.fp f3))).trans (FLc.row (Or.inl rfl) (by omega)), by rw [upM_r (by decide), f3.2 26 (by decide) (by decide)], upM_s _ _ _ _, fun i hi => by rw [upM_i hi, f3.1 200 (by decide)], ⟨by rw [upM_r (by decide), f3.1 201 (by decide)], by rw [upM_r (by decide), f3.1 202 (by decide)]⟩, fun R3 h3 p3 => ?_⟩
  have n12 : ¬ n = 12 := by omega
  simp only [pX12_ruleClause, hr.1.1.o, if_true, s1, Option.bind_some, st, show ¬ (1 : Int) = 0 by decide, if_false, if_neg n12, e21, w1, hR2, e23, e25, r2.1.2.1.o, w2, w3, b1, b2, and_self, zlet, h3, p3.o]
/-- a clause, in both -/
theorem p_clause (hT : TOk T B) {LC LR : List (Int × Int)} {n C : Int} (hc : CJ S M T B q LC P) (hr : RJ Z R T B p LR P j) (hq : q = sk T B p) (hn : 0 ≤ n ∧ n ≤ 12) (hC : 0 ≤ C ∧ 3 * C ≤ P ∧ P ≤ 60) (hL : ln LR ≤ 2 * P + 8 * C) (hLC : ln LC ≤ ln LR + n) (h26 : R 176 26 = 0) : BadCl M (pX5_takeClause S M 13 2 n) j R (pX12_ruleClause Z R 176 n) ∨ GoodCl S Z T B M (pX5_takeClause S M 13 2 n) j R (pX12_ruleClause Z R 176 n) LC LR q n := by
  have hb := hT.1
  have hqT := hc.1.2.2.1
  have hj := hr.2.1.2
  by_cases hx : tk T B q ≠ 270 ∨ n = 12
  · exact Or.inl (p_clX hT hc hr hq (by omega) hx)
  have x : tk T B q = 270 := Decidable.byContradiction fun u => hx (Or.inl u)
  have n12 : n ≠ 12 := fun u => hx (Or.inr u)
  obtain ⟨l1, l2, R1, r1, g1, e26, e200, o200, ⟨o201, o202⟩, hsum⟩ := r_clB hT (n := n) hr hq (by omega) x
  have ct := c_token hc.1
  obtain ⟨M1, a1, a2, a3⟩ := c_advance hT hc.1 l2
  have c1 := hc.fc a2 a3
  have d1 : FD M M1 := FD.c a3
  have enx : nx T B q = sk T B (q + 5) := by unfold nx; rw [← l1]
  have hnx := nx_b (T := T) (B := B) (q := q) ⟨hqT.1, l2⟩
  have n13 : n < 12 := by omega
  have xc : pX5_takeClause S M 13 2 n = (pX5_takeSum S M1 13 2).bind fun q8 => if q8.1 = 0 then (some (0, q8.2)) else ((pX8_takes S q8.2 2 271).bind fun q12 => if q12.1 = 0 then (pX5_takeClause_65 S q12.2 13 q12.1) else ((qX5_takeTest S q12.2 13 2 0).bind fun q20 => if q20.1 = 0 then (some (0, q20.2)) else (pX5_takeClause_65 S q20.2 13 q12.1))) := by
    simp only [pX5_takeClause, hc.1.1.1.o, if_true, ct, Option.bind_some, if_pos x, if_pos n13, a1]
  have b1 : 0 ≤ 12 * j + n := by omega
  have b2 : 12 * j + n < 72 := by omega
  have hi : 12 * j ≤ 12 * j + n ∧ 12 * j + n < 12 * j + 12 := by omega
  rcases p_sum hT c1 r1 enx (by omega) (by omega) (by omega) (by omega) with u | u
  · obtain ⟨f, M2, R2, hf, ⟨u1, u2, u3, u4⟩, ⟨u5, u6, u7, u8⟩⟩ := u
    have p2 : PtW R2 := r1.1.2.1.fg u7
    have xr := hsum R2 u5 p2
    have g2 : FLc j R2 (upM R2 201 (12 * j + n) (R2 176 25)) := FLc.row (Or.inr (Or.inl rfl)) hi
    have p3 : PtW (upM R2 201 (12 * j + n) (R2 176 25)) := p2.flc g2
    have g3 : FLc j R (upM R2 201 (12 * j + n) (R2 176 25)) := (g1.trans (FLc.of (FJ.g u7))).trans g2
    have k22 : (upM R2 201 (12 * j + n) (R2 176 25)) 176 22 = f := by rw [upM_r (by decide)]; exact u6
    have k21 : (upM R2 201 (12 * j + n) (R2 176 25)) 176 21 = R2 176 21 := by rw [upM_r (by decide)]
    generalize upM R2 201 (12 * j + n) (R2 176 25) = R3 at *
    have x83 : pX12_ruleClause_83 Z R3 176 (12 * j + n) = some (upM R3 202 (12 * j + n) (R3 176 25)) := by
      have hf' : ¬ R3 176 22 = 0 := by rw [k22]; omega
      simp only [pX12_ruleClause_83, hr.1.1.o, if_true, if_neg hf', r_104 hr.1.1 p3 b1 b2]
    exact Or.inl ⟨f, M2, _, hf, ⟨by simp only [xc, u1, Option.bind_some, if_true], u2, d1.trans u3, u4⟩, ⟨xr.trans x83, by rw [upM_r (by decide)]; exact k22, g3.trans (FLc.row (Or.inr (Or.inr rfl)) hi), by rw [upM_r (by decide), k21]; omega⟩⟩
  · obtain ⟨M2, R2, q', c, v, P', ⟨u1, u2, u3⟩, ⟨u5, u6, u7⟩, ev, ⟨z1, z2⟩, ⟨z3, z4⟩, z5⟩ := u
    have p2 : PtW R2 := r1.1.2.1.fg u7
    have xr := hsum R2 u5 p2
    have e25 : R2 176 25 = ln LR + ln c := by rw [← ln_app]; exact u6.2.2.1.1
    rw [e25] at xr
    have g3 : FLc j R (upM R2 201 (12 * j + n) (ln LR + ln c)) := (g1.trans (FLc.of (FJ.g u7))).trans (FLc.row (Or.inr (Or.inl rfl)) hi)
    have r3 := u6.row (x := 201) (i := 12 * j + n) (v := ln LR + ln c) (Or.inr (Or.inl rfl))
    have k26 : (upM R2 201 (12 * j + n) (ln LR + ln c)) 176 26 = 0 := by rw [upM_r (by decide), u7.2.1 26 (by decide) (by decide) (by decide) (by decide), e26]; exact h26
    have k200 : ∀ i, (upM R2 201 (12 * j + n) (ln LR + ln c)) 200 i = R1 200 i := fun i => by rw [upM_r (by decide), u7.1 200 (by decide) (by decide) (by decide)]
    have k201 : (upM R2 201 (12 * j + n) (ln LR + ln c)) 201 (12 * j + n) = ln LR + ln c := upM_s _ _ _ _
    have k201' : ∀ i, i ≠ 12 * j + n → (upM R2 201 (12 * j + n) (ln LR + ln c)) 201 i = R 201 i := fun i hi => by rw [upM_i hi, u7.1 201 (by decide) (by decide) (by decide), o201]
    have k202 : (upM R2 201 (12 * j + n) (ln LR + ln c)) 202 = R 202 := by rw [upM_r (by decide), u7.1 202 (by decide) (by decide) (by decide), o202]
    generalize upM R2 201 (12 * j + n) (ln LR + ln c) = R3 at *
    have e22 : R3 176 22 = 0 := r3.1.2.2.2.2.1
    have hq' := u2.1.2.2.1
    have hsk : q' = sk T B q' := z2.symm
    have ct2 := c_takes hT u2 (k := 271) (by decide)
    have rt := r_takes hT r3 hsk (w := 16) (by decide)
    rw [show 256 + (cw 16 : Int) = 271 by decide] at rt
    have L1 := ln_app LR c
    have L2 := ln_app LC c
    have dM : FD M M2 := d1.trans u3
    by_cases y : tk T B q' = 271
    · obtain ⟨l3, M3, t1, t2, t3⟩ := ct2.1 y
      obtain ⟨R4, t4, t5, t6⟩ := rt.1 y
      obtain ⟨r5, g5⟩ := t5.st (R' := upM R4 176 28 0) (fun x a _ => upM_r a) (fun i _ a => upM_i a)
      have k28 : (upM R4 176 28 0) 176 28 = 0 := upM_s _ _ _ _
      have m26 : (upM R4 176 28 0) 176 26 = 0 := by rw [upM_i (by decide), t6.2 26 (by decide) (by decide)]; exact k26
      have m200 : ∀ x, x ≠ 176 → (upM R4 176 28 0) x = R3 x := fun x a => by rw [upM_r a, t6.1 x a]
      have g4 : FLc j R (upM R4 176 28 0) := g3.trans ((FLc.of (FJ.g (FG.fp t6))).trans (FLc.of g5))
      generalize hR5 : upM R4 176 28 0 = R5 at *
      have enx2 : nx T B q' = sk T B (eot T B q') := rfl
      have hnx2 := nx_b (T := T) (B := B) (q := q') ⟨hq'.1, l3⟩
      have xt : pX12_test Z R4 176 = pX12_test_9 Z zFU R5 176 1 1 := by simp only [pX12_test, hr.1.1.o, if_true, zlet, hR5]
      have x83 : pX12_ruleClause_83 Z R3 176 (12 * j + n) = (pX12_test_9 Z zFU R5 176 1 1).bind fun q23 => pX12_ruleClause_104 Z q23 176 (12 * j + n) := by
        simp only [pX12_ruleClause_83, hr.1.1.o, if_true, e22, t4, Option.bind_some, show ¬ (1 : Int) = 0 by decide, if_false, xt]
      have zf := zFU_gt (n := 3000) (by decide)
      have dM3 : FD M M3 := dM.trans t3
      rcases p_test hT M3 R5 (eot T B q') (nx T B q') P' C (LC ++ c) (LR ++ c) 0 zFU t2 r5 enx2 (by omega) (by omega) (by omega) (by omega) ⟨m26, k28⟩ (by decide) (Or.inl rfl) (by omega) with u | u
      · obtain ⟨f, M4, R6, hf, ⟨v1, v2, v3, v4⟩, ⟨v5, v6, v7, v8⟩⟩ := u
        have p6 : PtW R6 := r5.1.2.1.fj v7
        exact Or.inl ⟨f, M4, upM R6 202 (12 * j + n) (R6 176 25), hf, ⟨by simp only [xc, u1, Option.bind_some, show ¬ (1 : Int) = 0 by decide, if_false, t1, v1, if_true], v2, dM3.trans v3, v4⟩, ⟨by rw [xr, x83, v5, Option.bind_some]; exact r_104 hr.1.1 p6 b1 b2, by rw [upM_r (by decide)]; exact v6, (g4.trans (FLc.of v7)).trans (FLc.row (Or.inr (Or.inr rfl)) hi), by rw [upM_r (by decide)]; omega⟩⟩
      · obtain ⟨M4, R6, q2, c2, v2, P2, C2, F2, ⟨v1, v4, v3⟩, ⟨v5, v6, v7⟩, ⟨v8, v9, -⟩, ⟨v11, v12⟩, ⟨v13, v14, v15⟩, ⟨⟨v16, v17⟩, v18⟩, v19⟩ := u
        have hq2 := v4.1.2.2.1
        have te := r_tEnd hr.1.1 v6.1.2.1 v9 (F := F2) (by omega)
        have ne2 := ex_ne v11
        have L3 := ln_app (LC ++ c) c2
        have L4 := ln_app (LR ++ c) c2
        have n4 := ln_nn c2
        obtain ⟨M5, w1, w2, w3⟩ := c_add v4 (show ln (LC ++ c ++ c2) < 400 by omega) (17, 0)
        have w1' : pX5_addOrder S M4 13 16 0 = some M5 := w1
        have ecl : clC (c, c2) = c ++ c2 ++ [(17, 0)] := by
          show c ++ c2 ++ [((if c2.length = 0 then 16 else 17 : Int), (0 : Int))] = _
          rw [if_neg ne2]
        have e25' : R6 176 25 = ln LR + ln c + ln c2 := by rw [← L1, ← L4]; exact v6.2.2.1.1
        have g6 : FLc j R R6 := g4.trans (FLc.of v7)
        have x200 : R6 200 = R3 200 := by rw [v7.1 200 (by decide) (by decide) (by decide) (by decide), m200 200 (by decide)]
        have x201 : R6 201 = R3 201 := by rw [v7.1 201 (by decide) (by decide) (by decide) (by decide), m200 201 (by decide)]
        have x202 : R6 202 = R3 202 := by rw [v7.1 202 (by decide) (by decide) (by decide) (by decide), m200 202 (by decide)]
        refine Or.inr ⟨M5, upM R6 202 (12 * j + n) (ln LR + ln c + ln c2), q2, q2, (c, c2), P2, C2, ⟨?_, ?_, (dM3.trans v3).trans w3⟩, ⟨?_, ?_, g6.trans (FLc.row (Or.inr (Or.inr rfl)) hi)⟩, ⟨?_, ⟨v, ev⟩, Or.inr ⟨v2, v11.mono (by decide), v12⟩⟩, ⟨v14.symm, by omega⟩, ⟨?_, ?_, upM_s _ _ _ _⟩, fun i hi => ⟨?_, ?_, ?_⟩, by omega, ?_, n13⟩
        · simp only [xc, u1, Option.bind_some, show ¬ (1 : Int) = 0 by decide, if_false, t1, v1, pX5_takeClause_65, pX5_takeClause_77, hc.1.1.1.o, if_true, w1']
        · rw [ecl, ← List.append_assoc, ← List.append_assoc]; exact w2
        · rw [xr, x83, v5, te, Option.bind_some, r_104 hr.1.1 v6.1.2.1 b1 b2, e25']
        · rw [← List.append_assoc]; exact v6.row (Or.inr (Or.inr rfl))
        · rw [upM_r (by decide)]; exact v8
        · rw [upM_r (by decide), x200, k200]; exact e200
        · rw [upM_r (by decide), x201]; exact k201
        · rw [upM_r (by decide), x200, k200]; exact o200 i hi
        · rw [upM_r (by decide), x201]; exact k201' i hi
        · rw [upM_i hi, x202, k202]
        · show ln LR + ln c + ln c2 ≤ 2 * P2 + 8 * C2
          omega
    · have t1 := ct2.2 y
      obtain ⟨R6, t4, v6, t6⟩ := rt.2 y
      obtain ⟨M5, w1, w2, w3⟩ := c_add u2 (show ln (LC ++ c) < 400 by omega) (16, 0)
      have w1' : pX5_addOrder S M2 13 15 0 = some M5 := w1
      have e25' : R6 176 25 = ln LR + ln c := by rw [← L1]; exact v6.2.2.1.1
      have g6 : FLc j R R6 := g3.trans (FLc.of (FJ.g (FG.fp t6)))
      have x83 : pX12_ruleClause_83 Z R3 176 (12 * j + n) = some (upM R6 202 (12 * j + n) (ln LR + ln c)) := by
        simp only [pX12_ruleClause_83, hr.1.1.o, if_true, e22, t4, Option.bind_some, r_104 hr.1.1 v6.1.2.1 b1 b2, e25']
      have ecl : clC (c, []) = c ++ [(16, 0)] := by
        show c ++ [] ++ [((if ([] : List (Int × Int)).length = 0 then 16 else 17 : Int), (0 : Int))] = _
        rw [List.append_nil]; rfl
      have n00 : ln [] = 0 := rfl
      refine Or.inr ⟨M5, upM R6 202 (12 * j + n) (ln LR + ln c), q', q', (c, []), P', C, ⟨?_, ?_, dM.trans w3⟩, ⟨?_, ?_, g6.trans (FLc.row (Or.inr (Or.inr rfl)) hi)⟩, ⟨?_, ⟨v, ev⟩, Or.inl rfl⟩, ⟨hsk, by omega⟩, ⟨?_, ?_, ?_⟩, fun i hi => ⟨?_, ?_, ?_⟩, by omega, ?_, n13⟩
      · simp only [xc, u1, Option.bind_some, show ¬ (1 : Int) = 0 by decide, if_false, t1, pX5_takeClause_65, pX5_takeClause_77, hc.1.1.1.o, if_true, w1']
      · rw [ecl, ← List.append_assoc]; exact w2
      · rw [xr, x83]
      · show RJ Z _ T B q' (LR ++ (c ++ [])) P' j
        rw [List.append_nil]; exact v6.row (Or.inr (Or.inr rfl))
      · rw [upM_r (by decide), t6.2 26 (by decide) (by decide)]; exact k26
      · rw [upM_r (by decide), t6.1 200 (by decide), k200]; exact e200
      · rw [upM_r (by decide), t6.1 201 (by decide)]; exact k201
      · rw [upM_s]; show ln LR + ln c = ln LR + ln c + ln []; rw [n00, Int.add_zero]
      · rw [upM_r (by decide), t6.1 200 (by decide), k200]; exact o200 i hi
      · rw [upM_r (by decide), t6.1 201 (by decide)]; exact k201' i hi
      · rw [upM_i hi, t6.1 202 (by decide), k202]
      · show ln LR + ln c + ln [] ≤ 2 * P' + 8 * C
        omega
end
