/-! A RULE READ: a fact, in both -/
def GoodF (S Z : ZS) (T : Int) (B : Int → Int) (M : ZM) (x : Option (Int × ZM)) (j : Int) (R : ZM) (y : Option ZM) (LC LR : List (Int × Int)) (q P C d h : Int) (k F : Nat) : Prop := ∃ M' R' p' q' c v P' C' F', (x = some (1, M') ∧ CJ S M' T B q' (LC ++ c) P' ∧ FD M M') ∧ (y = rPost Z F' R' ∧ RJ Z R' T B p' (LR ++ (c ++ List.replicate k (9, 0))) P' j ∧ FJ j R R') ∧ (R' 176 26 = d - k ∧ R' 176 28 = h - k ∧ ∀ i, i < h - k → R' 203 i = R 203 i) ∧ (Ex c v (24 - 2 * d) ∧ ∀ w, v w = 0 ∨ v w = 1) ∧ (q < q' ∧ q' = sk T B p' ∧ (F : Int) - 2 * (q' - q) ≤ (F' : Nat)) ∧ ((C + 1 ≤ C' ∧ 3 * (C' - C) ≤ P' - P) ∧ P' ≤ 60) ∧ ln c + 1 + d * (C' - C) ≤ 2 * (P' - P) + 8 * (C' - C)
def GoodT (S Z : ZS) (T : Int) (B : Int → Int) (M : ZM) (x : Option (Int × ZM)) (j : Int) (R : ZM) (y : Option ZM) (LC LR : List (Int × Int)) (q P C d h N : Int) (F : Nat) : Prop := ∃ M' R' q' c v P' C' F', (x = some (1, M') ∧ CJ S M' T B q' (LC ++ c) P' ∧ FD M M') ∧ (y = rEnd Z F' R' ∧ RJ Z R' T B q' (LR ++ c) P' j ∧ FJ j R R') ∧ (R' 176 26 = d ∧ R' 176 28 = h ∧ ∀ i, i < h → R' 203 i = R 203 i) ∧ (Ex c v (26 - 2 * d) ∧ ∀ w, v w = 0 ∨ v w = 1) ∧ (q < q' ∧ sk T B q' = q' ∧ (F : Int) - 2 * (q' - q) ≤ (F' : Nat)) ∧ ((C + 1 ≤ C' ∧ 3 * (C' - C) ≤ P' - P) ∧ P' ≤ 60) ∧ ln c + 1 + d * (C' - C) ≤ N + 2 * (P' - P) + 8 * (C' - C)
def FactOK (S Z : ZS) (T : Int) (B : Int → Int) (j d : Int) (f : ZS → ZM → Int → Int → Int → Option (Int × ZM)) : Prop := ∀ (M R : ZM) (p q P C : Int) (LC LR : List (Int × Int)) (h : Int) (k F : Nat), CJ S M T B q LC P → RJ Z R T B p LR P j → q = sk T B p → 1 ≤ q → (0 ≤ C ∧ 3 * C ≤ P ∧ P ≤ 60) → ln LR ≤ 2 * P + 8 * C → ln LC ≤ ln LR + 12 → (R 176 26 = d ∧ R 176 28 = h) → (∀ i, h - k ≤ i → i < h → R 203 i = 9) → (h = k ∨ R 203 (h - k - 1) ≠ 9) → ((k : Int) ≤ d ∧ (k : Int) ≤ h ∧ h ≤ 3 * d + 2) → 2 * (T - q) + 2 ≤ (F : Int) → BadT T M (f S M 13 2 d) j R (pX12_test_9 Z F R 176 1 1) ∨ GoodF S Z T B M (f S M 13 2 d) j R (pX12_test_9 Z F R 176 1 1) LC LR q P C d h k F
def TestOK (S Z : ZS) (T : Int) (B : Int → Int) (j d : Int) (f : ZS → ZM → Int → Int → Int → Option (Int × ZM)) : Prop := ∀ (M R : ZM) (p q P C : Int) (LC LR : List (Int × Int)) (h : Int) (F : Nat), CJ S M T B q LC P → RJ Z R T B p LR P j → q = sk T B p → 1 ≤ q → (0 ≤ C ∧ 3 * C ≤ P ∧ P ≤ 60) → ln LR ≤ 2 * P + 8 * C → ln LC ≤ ln LR + 12 → (R 176 26 = d ∧ R 176 28 = h) → (0 ≤ h ∧ h ≤ 3 * d) → (h = 0 ∨ R 203 (h - 1) = 12) → 2 * (T - q) + 2 ≤ (F : Int) → BadT T M (f S M 13 2 d) j R (pX12_test_9 Z F R 176 1 1) ∨ GoodT S Z T B M (f S M 13 2 d) j R (pX12_test_9 Z F R 176 1 1) LC LR q P C d h 0 F
section
variable {S Z : ZS} {R M : ZM} {T : Int} {B : Int → Int} {p q P j : Int} {L : List (Int × Int)}
theorem r_164 (hS : ShW Z) {h d v : Int} (e21 : R 176 21 = v) (e28 : R 176 28 = h + 1) (e26 : R 176 26 = d + 1) (hv : 0 ≤ v ∧ v ≤ 1000) (hh : 0 ≤ h ∧ h ≤ 100) (hd : 0 ≤ d ∧ d ≤ 100) (k9 : ZM → Int → Int → Int → Option ZM) : pX12_test_164 Z k9 R 176 0 1 = k9 (upM (upM (upM R 176 21 (v + 1)) 176 28 h) 176 26 d) 176 0 1 := by
  have w1 : w32 (v + 1) = v + 1 := w32_i (by omega) (by omega)
  have w2 : w32 (h + 1 - 1) = h := by rw [show h + 1 - 1 = h by omega]; exact w32_i (by omega) (by omega)
  have w3 : w32 (d + 1 - 1) = d := by rw [show d + 1 - 1 = d by omega]; exact w32_i (by omega) (by omega)
  have c1 : (upM R 176 21 (v + 1)) 176 28 = h + 1 := by rw [upM_i (by decide)]; exact e28
  have c2 : (upM (upM R 176 21 (v + 1)) 176 28 h) 176 26 = d + 1 := by rw [upM_i (by decide), upM_i (by decide)]; exact e26
  simp only [pX12_test_164, pX12_test_199, hS.o, if_true, zlet, e21, w1, c1, w2, c2, w3]
theorem fact_step (hT : TOk T B) {d : Int} {f1 f2 : ZS → ZM → Int → Int → Int → Option (Int × ZM)} (hd : 0 ≤ d ∧ d ≤ 10) (h1 : d < 10 → FactOK S Z T B j (d + 1) f1) (h2 : d < 10 → TestOK S Z T B j (d + 1) f2) : FactOK S Z T B j d (pX5_takeFact f1 f2) := by
  have hb := hT.1
  intro M R p q P C LC LR h k F hc hr hq hq1 hC hL hLC hst hrow hno hk hF
  have hS := hr.1.1
  have hqT := hc.1.2.2.1
  have n1 := ln_nn LC
  have n2 := ln_nn LR
  have hn : 0 ≤ M 13 1 ∧ M 13 1 ≤ 400 := by
    have e := hc.2.1.1
    unfold ln at *
    omega
  obtain ⟨r1, rf⟩ := r_fact hT hr hq
  have g1 : FJ j R (upM R 176 21 q) := FJ.g (FG.fp FP.p)
  have s26 : (upM R 176 21 q) 176 26 = d := by rw [upM_i (by decide)]; exact hst.1
  have s28 : (upM R 176 21 q) 176 28 = h := by rw [upM_i (by decide)]; exact hst.2
  have s203 : (upM R 176 21 q) 203 = R 203 := upM_r (by decide)
  generalize upM R 176 21 q = R1 at *
  obtain ⟨F, rfl⟩ : ∃ f, F = f + 1 := ⟨F - 1, by omega⟩
  rw [r_loopF hr F, rf]
  have ct := c_token hc.1
  have wd : w32 (d + 1) = d + 1 := w32_i (by omega) (by omega)
  by_cases z : tk T B q = 274
  · -- a denial
    rw [if_pos z]
    have xc : pX5_takeFact f1 f2 S M 13 2 d = pX5_takeFact_29 f1 f2 S M 13 2 d 1 := by
      simp only [pX5_takeFact, pX5_takeFact_15, hc.1.1.1.o, if_true, ct, Option.bind_some, if_pos z, show ¬ (1 : Int) = 0 by decide, if_false]
    obtain ⟨l1, l2⟩ := tk_len hT (w := 17) (by decide) hqT.1 (by rw [z]; decide)
    rw [show zSl 17 = 3 by decide +kernel] at l1
    have he := eot_b (B := B) (p := q) ⟨hqT.1, l2⟩
    have w3 : w32 (q + 3) = q + 3 := w32_i (by omega) (by omega)
    by_cases y : d < 10
    · obtain ⟨M1, a1, a2, a3⟩ := c_advance hT hc.1 l2
      have j1 := hc.fc a2 a3
      obtain ⟨R2, b1, b2, b3, b4, ⟨b5, b6⟩, b7⟩ := r_opens (o := 9) (Or.inl rfl) r1 s28 s26 (by omega) (by omega)
      have h21 : R2 176 21 = q := b2.1.2.2.2.2.2
      have xr : (((pX12_opens Z R1 176 9).bind fun R1 => some ((0 : Int), upM R1 176 21 (w32 (R1 176 21 + 3)))).bind fun q47 => pX12_test_9 Z F q47.2 176 (if q47.1 = 0 then (1 : Int) else 0) 1) = pX12_test_9 Z F (upM R2 176 21 (q + 3)) 176 1 1 := by
        simp only [b1, Option.bind_some, h21, w3, if_true]
      rw [xr]
      have r3 := b2.at (v := q + 3) (by omega)
      have g3 : FJ j R2 (upM R2 176 21 (q + 3)) := FJ.g (FG.fp FP.p)
      have t26 : (upM R2 176 21 (q + 3)) 176 26 = d + 1 := by rw [upM_i (by decide)]; exact b4
      have t28 : (upM R2 176 21 (q + 3)) 176 28 = h + 1 := by rw [upM_i (by decide)]; exact b3
      have t203 : (upM R2 176 21 (q + 3)) 203 = R2 203 := upM_r (by decide)
      generalize upM R2 176 21 (q + 3) = R3 at *
      have enx : nx T B q = sk T B (q + 3) := by unfold nx; rw [← l1]
      have hs := sk_b (T := T) (B := B) (p := q + 3) (by omega)
      rw [← enx] at hs
      have IH := h1 y M1 R3 (q + 3) (nx T B q) P C LC LR (h + 1) (k + 1) F j1 r3 enx (by omega) hC hL hLC ⟨t26, t28⟩ (fun i u v => by
        rw [t203]
        by_cases e : i = h
        · rw [e]; exact b5
        · rw [b6 i e, s203]; exact hrow i (by omega) (by omega)) (by
        rcases hno with u | u
        · exact Or.inl (by omega)
        · refine Or.inr ?_
          rw [t203, show h + 1 - ((k + 1 : Nat) : Int) - 1 = h - (k : Int) - 1 by omega, b6 _ (by omega), s203]; exact u) (by omega) (by omega)
      have xc2 : pX5_takeFact f1 f2 S M 13 2 d = (f1 S M1 13 2 (d + 1)).bind fun q22 => (pX5_addOrder S q22.2 13 14 0).bind fun q25 => if q22.1 = 0 ∨ q22.1 = 1 then some (q22.1, q25) else none := by
        rw [xc]
        simp only [pX5_takeFact_29, if_pos y, hc.1.1.1.o, if_true, a1, Option.bind_some, show ¬ (1 : Int) = 0 by decide, if_false, wd]
      rw [xc2]
      rcases IH with u | u
      · obtain ⟨f, M', R', h0, ⟨u1, u2, u3, u4⟩, ⟨u5, u6, u7, u8⟩⟩ := u
        obtain ⟨M4, c1, c2, c3, c4⟩ := c_addF (k := 14) (v := 0) (j1.1.1.fd u3) u4
        refine Or.inl ⟨f, M4, R', h0, ⟨?_, by rw [c2]; exact u2, ((FD.c a3).trans u3).trans c3, c4⟩, ⟨u5, u6, ((g1.trans b7).trans g3).trans u7, u8⟩⟩
        simp only [u1, Option.bind_some, c1, true_or, if_true]
      · obtain ⟨M', R', p', q', c, v, P', C', F', ⟨u1, u2, u3⟩, ⟨u4, u5, u6⟩, ⟨u7, u8, u9⟩, ⟨u10, u11⟩, ⟨u12, u13, u14⟩, ⟨⟨u15, u16⟩, u17⟩, u18⟩ := u
        have e : (d + 1) * (C' - C) = d * (C' - C) + (C' - C) := by rw [Int.add_mul, Int.one_mul]
        rw [e] at u18
        have dn : 0 ≤ d * (C' - C) := Int.mul_nonneg hd.1 (by omega)
        have lc := ln_app LC c
        have lo := ln_app c [(9, 0)]
        rw [ln_one] at lo
        obtain ⟨M4, c1, c2, c3⟩ := c_add u2 (by show ln (LC ++ c) < 400; omega) (9, 0)
        have c1' : pX5_addOrder S M' 13 14 0 = some M4 := c1
        rw [List.append_assoc] at c2
        have eR : c ++ List.replicate (k + 1) ((9 : Int), (0 : Int)) = c ++ [(9, 0)] ++ List.replicate k (9, 0) := by rw [List.replicate_succ, List.append_assoc]; rfl
        rw [eR] at u5
        refine Or.inr ⟨M4, R', p', q', c ++ [(9, 0)], fun w => w64 (1 - v w), P', C', F', ⟨?_, c2, ((FD.c a3).trans u3).trans c3⟩, ⟨u4, u5, ((g1.trans b7).trans g3).trans u6⟩, ⟨by omega, by omega, fun i hi => ?_⟩, ⟨(u10.no).mono (by omega), fun w => jnN (u11 w)⟩, ⟨by omega, u13, by omega⟩, ⟨⟨u15, u16⟩, u17⟩, by omega⟩
        · simp only [u1, Option.bind_some, c1', or_true, if_true]
        · rw [u9 i (by omega), t203, b6 i (by omega), s203]
    · obtain ⟨R2, b1, b2, b3, b4⟩ := r_opensX hT (o := 9) (Or.inl rfl) r1 s28 (by omega) (by omega)
      have xr : (((pX12_opens Z R1 176 9).bind fun R1 => some ((0 : Int), upM R1 176 21 (w32 (R1 176 21 + 3)))).bind fun q47 => pX12_test_9 Z F q47.2 176 (if q47.1 = 0 then (1 : Int) else 0) 1) = pX12_test_9 Z F (upM R2 176 21 (q + 3)) 176 1 1 := by
        simp only [b1, Option.bind_some, b3, w3, if_true]
      rw [xr]
      obtain ⟨F, rfl⟩ : ∃ f, F = f + 1 := ⟨F - 1, by omega⟩
      have e22 : (upM R2 176 21 (q + 3)) 176 22 = 1 + 8 * q + 2 := by rw [upM_i (by decide)]; exact b2
      refine Or.inl ⟨1 + 8 * q + 2, upM M 2 5 (1 + 8 * q + 2), upM R2 176 21 (q + 3), by omega, ⟨?_, upM_s _ _ _ _, FD.c FC.u5, by rw [upM_r (by decide)]; exact hn⟩, ⟨r_loopX hS (by omega) F 1, e22, (g1.trans b4).trans (FJ.g (FG.fp FP.p)), by rw [upM_s]; omega⟩⟩
      rw [xc]
      simp only [pX5_takeFact_29, if_neg y, hc.1.1.1.o, if_true, c_fail hT hc.1 (k := 2) (by decide), Option.bind_some, true_or]
  rw [if_neg z]
  by_cases z2 : bt T B q = 91
  · -- a bracket
    rw [if_pos z2]
    have t91 := (tk_sg1 hT hqT.1 (c := 91) (by decide)).2 z2
    obtain ⟨l1, l2⟩ := eot_sg1 (T := T) (B := B) (q := q) (c := 91) (by decide) z2
    have xc : pX5_takeFact f1 f2 S M 13 2 d = pX5_takeFact_29 f1 f2 S M 13 2 d 0 := by
      simp only [pX5_takeFact, pX5_takeFact_15, hc.1.1.1.o, if_true, ct, Option.bind_some, if_neg z, if_pos t91]
    have w3 : w32 (q + 1) = q + 1 := w32_i (by omega) (by omega)
    by_cases y : d < 10
    · obtain ⟨M1, a1, a2, a3⟩ := c_advance hT hc.1 l2.2
      have j1 := hc.fc a2 a3
      obtain ⟨R2, b1, b2, b3, b4, ⟨b5, b6⟩, b7⟩ := r_opens (o := 12) (Or.inr rfl) r1 s28 s26 (by omega) (by omega)
      have h21 : R2 176 21 = q := b2.1.2.2.2.2.2
      have xr : (((pX12_opens Z R1 176 12).bind fun R1 => some ((0 : Int), upM R1 176 21 (w32 (R1 176 21 + 1)))).bind fun q47 => pX12_test_9 Z F q47.2 176 (if q47.1 = 0 then (1 : Int) else 0) 1) = pX12_test_9 Z F (upM R2 176 21 (q + 1)) 176 1 1 := by
        simp only [b1, Option.bind_some, h21, w3, if_true]
      rw [xr]
      have r3 := b2.at (v := q + 1) (by omega)
      have g3 : FJ j R2 (upM R2 176 21 (q + 1)) := FJ.g (FG.fp FP.p)
      have t26 : (upM R2 176 21 (q + 1)) 176 26 = d + 1 := by rw [upM_i (by decide)]; exact b4
      have t28 : (upM R2 176 21 (q + 1)) 176 28 = h + 1 := by rw [upM_i (by decide)]; exact b3
      have t203 : (upM R2 176 21 (q + 1)) 203 = R2 203 := upM_r (by decide)
      generalize upM R2 176 21 (q + 1) = R3 at *
      have enx : nx T B q = sk T B (q + 1) := by unfold nx; rw [← l1]
      have hs := sk_b (T := T) (B := B) (p := q + 1) (by omega)
      rw [← enx] at hs
      have IH := h2 y M1 R3 (q + 1) (nx T B q) P C LC LR (h + 1) F j1 r3 enx (by omega) hC hL hLC ⟨t26, t28⟩ (by omega) (Or.inr (by rw [show h + 1 - 1 = h by omega, t203]; exact b5)) (by omega)
      have xc2 : pX5_takeFact f1 f2 S M 13 2 d = (f2 S M1 13 2 (d + 1)).bind fun q11 => if q11.1 = 0 then (pX5_takeFact_101 f1 f2 S q11.2) else ((pX8_takes S q11.2 2 93).bind fun q16 => if q16.1 = 0 then ((pX8_fail S q16.2 2 0).bind fun q19 => if q19.1 = 0 then (pX5_takeFact_101 f1 f2 S q19.2) else (pX5_takeFact_97 f1 f2 S q19.2)) else (pX5_takeFact_97 f1 f2 S q16.2)) := by
        rw [xc]
        simp only [pX5_takeFact_29, if_pos y, hc.1.1.1.o, if_true, a1, Option.bind_some, wd]
      rw [xc2]
      rcases IH with u | u
      · obtain ⟨f, M', R', h0, ⟨u1, u2, u3, u4⟩, ⟨u5, u6, u7, u8⟩⟩ := u
        refine Or.inl ⟨f, M', R', h0, ⟨?_, u2, (FD.c a3).trans u3, u4⟩, ⟨u5, u6, ((g1.trans b7).trans g3).trans u7, u8⟩⟩
        simp only [u1, Option.bind_some, if_true, pX5_takeFact_101, pX5_takeFact_102, true_or]
      · obtain ⟨M', R', q', c, v, P', C', F', ⟨u1, u2, u3⟩, ⟨u4, u5, u6⟩, ⟨u7, u8, u9⟩, ⟨u10, u11⟩, ⟨u12, u13, u14⟩, ⟨⟨u15, u16⟩, u17⟩, u18⟩ := u
        have e : (d + 1) * (C' - C) = d * (C' - C) + (C' - C) := by rw [Int.add_mul, Int.one_mul]
        rw [e] at u18
        have dn : 0 ≤ d * (C' - C) := Int.mul_nonneg hd.1 (by omega)
        have hq' := u2.1.2.2.1
        have lc := ln_app LC c
        have lr := ln_app LR c
        have nc := ln_nn c
        obtain ⟨F'', rfl⟩ : ∃ f, F' = f + 1 := ⟨F' - 1, by omega⟩
        have tp := r_top u5.1.1 u5.1.2.1 u8 (by omega)
        rw [if_neg (by omega), show h + 1 - 1 = h by omega, u9 h (by omega), t203, b5] at tp
        have bh := u5.byte hT
        have fJ : FJ j R R' := ((g1.trans b7).trans g3).trans u6
        have fD : FD M M' := (FD.c a3).trans u3
        have sg := tk_sg1 hT hq'.1 (c := 93) (by decide)
        have ct' := c_takes hT u2 (k := 93) (by decide)
        rw [u4]
        by_cases x : bt T B q' = 93
        · obtain ⟨m1, m2⟩ := eot_sg1 (T := T) (B := B) (q := q') (c := 93) (by decide) x
          obtain ⟨-, M4, c1, c2, c3⟩ := ct'.1 (sg.2 x)
          have hs2 := sk_b (T := T) (B := B) (p := q' + 1) (by omega)
          have enx2 : nx T B q' = sk T B (q' + 1) := by unfold nx; rw [← m1]
          have xe : rEnd Z (F'' + 1) R' = pX12_test_9 Z (F'' + 1) (upM (upM (upM R' 176 21 (q' + 1)) 176 28 h) 176 26 d) 176 0 1 := by
            have e164 := r_164 (R := R') hS u5.1.2.2.2.2.2 u8 u7 (by omega) (by omega) (by omega) (pX12_test_9 Z (F'' + 1))
            simp only [rEnd, tp, Option.bind_some, if_true, bh, if_pos x, e164]
          have v1 := u5.at (v := q' + 1) (by omega)
          have gv : FJ j R' (upM R' 176 21 (q' + 1)) := FJ.g (FG.fp FP.p)
          obtain ⟨v2, v3⟩ := v1.st (R' := upM (upM (upM R' 176 21 (q' + 1)) 176 28 h) 176 26 d) (fun x a _ => by rw [upM_r a, upM_r a]) (fun i a b => by rw [upM_i a, upM_i b])
          have y26 : (upM (upM (upM R' 176 21 (q' + 1)) 176 28 h) 176 26 d) 176 26 = d := upM_s _ _ _ _
          have y28 : (upM (upM (upM R' 176 21 (q' + 1)) 176 28 h) 176 26 d) 176 28 = h := by rw [upM_i (by decide), upM_s]
          have y203 : (upM (upM (upM R' 176 21 (q' + 1)) 176 28 h) 176 26 d) 203 = R' 203 := by rw [upM_r (by decide), upM_r (by decide), upM_r (by decide)]
          rw [xe]
          generalize upM (upM (upM R' 176 21 (q' + 1)) 176 28 h) 176 26 d = R5 at *
          rw [r_loopW v2 F'']
          have z203 : ∀ i, i < h → R5 203 i = R 203 i := fun i a => by rw [y203, u9 i (by omega), t203, b6 i (by omega), s203]
          obtain ⟨R6, o1, o2, o3, o4, o5, o6⟩ := r_answ (o := 9) (by decide) k zFU R5 (LR ++ c) h d (zFU_gt (by omega)) v2 (by omega) y28 y26 (by omega) (by omega) (fun i a b => by rw [z203 i b]; exact hrow i a b) (by
            rcases hno with w | w
            · exact Or.inl w
            · exact Or.inr (by rw [z203 _ (by omega)]; exact w))
          have o1' : pX12_answers Z R5 176 9 = some R6 := o1
          rw [if_pos rfl] at o4
          rw [List.append_assoc] at o2
          refine Or.inr ⟨M4, R6, q' + 1, nx T B q', c, v, P', C', F'', ⟨?_, c2, fD.trans c3⟩, ⟨by rw [o1', Option.bind_some], o2, ((fJ.trans gv).trans v3).trans o6⟩, ⟨o4, o3, fun i hi => by rw [o5, z203 i (by omega)]⟩, ⟨u10.mono (by omega), u11⟩, ⟨by omega, enx2, by omega⟩, ⟨⟨u15, u16⟩, u17⟩, by omega⟩
          simp only [u1, Option.bind_some, show ¬ (1 : Int) = 0 by decide, if_false, c1, pX5_takeFact_97, pX5_takeFact_102, or_true, if_true]
        · have c1 := ct'.2 (fun w => x (sg.1 w))
          have e22 : (upM R' 176 22 (1 + 8 * q' + 0)) 176 22 = 1 + 8 * q' + 0 := upM_s _ _ _ _
          have fl := r_fails (M := R') (k := 0) (q := q') hS (by omega) (by decide)
          rw [if_pos u5.1.2.2.2.2.1] at fl
          have h21' := u5.1.2.2.2.2.2
          have gf : FJ j R' (upM R' 176 22 (1 + 8 * q' + 0)) := FJ.g (FG.fp FP.f)
          have y21 : (upM R' 176 22 (1 + 8 * q' + 0)) 176 21 = q' := by rw [upM_i (by decide)]; exact h21'
          have y28 : (upM R' 176 22 (1 + 8 * q' + 0)) 176 28 = h + 1 := by rw [upM_i (by decide)]; exact u8
          have y26 : (upM R' 176 22 (1 + 8 * q' + 0)) 176 26 = d + 1 := by rw [upM_i (by decide)]; exact u7
          generalize upM R' 176 22 (1 + 8 * q' + 0) = R4 at *
          have e164 := r_164 (R := R4) hS y21 y28 y26 (by omega) (by omega) (by omega) (pX12_test_9 Z (F'' + 1))
          have xe : rEnd Z (F'' + 1) R' = pX12_test_9 Z (F'' + 1) (upM (upM (upM R4 176 21 (q' + 1)) 176 28 h) 176 26 d) 176 0 1 := by
            simp only [rEnd, tp, Option.bind_some, if_true, bh, if_neg x, h21', fl, e164]
          have k1 : ∀ i, i ≠ 21 → i ≠ 26 → i ≠ 28 → (upM (upM (upM R4 176 21 (q' + 1)) 176 28 h) 176 26 d) 176 i = R4 176 i := fun i a b c => by rw [upM_i b, upM_i c, upM_i a]
          have k2 : ∀ x, x ≠ 176 → (upM (upM (upM R4 176 21 (q' + 1)) 176 28 h) 176 26 d) x = R4 x := fun x a => by rw [upM_r a, upM_r a, upM_r a]
          have k3 : (upM (upM (upM R4 176 21 (q' + 1)) 176 28 h) 176 26 d) 176 21 = q' + 1 := by rw [upM_i (by decide), upM_i (by decide), upM_s]
          rw [xe]
          generalize upM (upM (upM R4 176 21 (q' + 1)) 176 28 h) 176 26 d = R5 at *
          have e22' : R5 176 22 = 1 + 8 * q' + 0 := by rw [k1 22 (by decide) (by decide) (by decide)]; exact e22
          have g5 : FJ j R4 R5 := ⟨fun x a _ _ _ => k2 x a, fun i a _ _ b _ c => k1 i a b c, fun i _ => by rw [k2 197 (by decide), k2 198 (by decide)]; exact ⟨rfl, rfl⟩⟩
          have hn' : 0 ≤ M' 13 1 ∧ M' 13 1 ≤ 400 := by
            have e := u2.2.1.1
            have l2 := ln_nn (LC ++ c)
            have l3 : ln (LC ++ c) ≤ 400 := by omega
            unfold ln at l2 l3
            omega
          refine Or.inl ⟨1 + 8 * q' + 0, upM M' 2 5 (1 + 8 * q' + 0), R5, by omega, ⟨?_, upM_s _ _ _ _, fD.trans (FD.c FC.u5), by rw [upM_r (by decide)]; exact hn'⟩, ⟨r_loopX hS (by omega) F'' 0, e22', (fJ.trans gf).trans g5, by omega⟩⟩
          simp only [u1, Option.bind_some, show ¬ (1 : Int) = 0 by decide, if_false, c1, if_true, c_fail hT u2.1 (k := 0) (by decide), pX5_takeFact_101, pX5_takeFact_102, true_or]
    · obtain ⟨R2, b1, b2, b3, b4⟩ := r_opensX hT (o := 12) (Or.inr rfl) r1 s28 (by omega) (by omega)
      have xr : (((pX12_opens Z R1 176 12).bind fun R1 => some ((0 : Int), upM R1 176 21 (w32 (R1 176 21 + 1)))).bind fun q47 => pX12_test_9 Z F q47.2 176 (if q47.1 = 0 then (1 : Int) else 0) 1) = pX12_test_9 Z F (upM R2 176 21 (q + 1)) 176 1 1 := by
        simp only [b1, Option.bind_some, b3, w3, if_true]
      rw [xr]
      obtain ⟨F, rfl⟩ : ∃ f, F = f + 1 := ⟨F - 1, by omega⟩
      have e22 : (upM R2 176 21 (q + 1)) 176 22 = 1 + 8 * q + 2 := by rw [upM_i (by decide)]; exact b2
      refine Or.inl ⟨1 + 8 * q + 2, upM M 2 5 (1 + 8 * q + 2), upM R2 176 21 (q + 1), by omega, ⟨?_, upM_s _ _ _ _, FD.c FC.u5, by rw [upM_r (by decide)]; exact hn⟩, ⟨r_loopX hS (by omega) F 1, e22, (g1.trans b4).trans (FJ.g (FG.fp FP.p)), by rw [upM_s]; omega⟩⟩
      rw [xc]
      simp only [pX5_takeFact_29, if_neg y, hc.1.1.1.o, if_true, c_fail hT hc.1 (k := 2) (by decide), Option.bind_some, true_or]
  · -- two sums compared
    rw [if_neg z2]
    have n91 : ¬ tk T B q = 91 := fun u => z2 ((tk_sg1 hT hqT.1 (c := 91) (by decide)).1 u)
    have xc : pX5_takeFact f1 f2 S M 13 2 d = cCpd S M := by
      simp only [pX5_takeFact, pX5_takeFact_15, hc.1.1.1.o, if_true, ct, Option.bind_some, if_neg z, if_neg n91, cCpd, cCmp]
    rw [xc]
    have hqq : q = sk T B q := by rw [hq]; exact (rn_rn (by decide)).symm
    obtain ⟨F, rfl⟩ : ∃ f, F = f + 1 := ⟨F - 1, by omega⟩
    rcases p_cmp hT hc r1 hqq ⟨by omega, hC.2.2⟩ (by omega) hLC hq1 with u | u
    · obtain ⟨f, M', R', h0, ⟨u1, u2, u3, u4⟩, ⟨u5, u6, u7, u8⟩⟩ := u
      refine Or.inl ⟨f, M', R', h0, ⟨u1, u2, u3, u4⟩, ⟨?_, u6, g1.trans (FJ.g u7), by omega⟩⟩
      simp only [u5, Option.bind_some, show ¬ (1 : Int) = 0 by decide, if_false]
      exact r_loopX hS (by rw [u6]; omega) F 0
    · obtain ⟨M', R', q', c, v, P', ⟨u1, u2, u3⟩, ⟨u4, u5, u6⟩, ⟨u7, u8⟩, ⟨u9, u10⟩, ⟨u11, u12⟩, u13⟩ := u
      have y26 : R' 176 26 = d := by rw [u6.2.1 26 (by decide) (by decide) (by decide) (by decide)]; exact s26
      have y28 : R' 176 28 = h := by rw [u6.2.1 28 (by decide) (by decide) (by decide) (by decide)]; exact s28
      have y203 : R' 203 = R 203 := by rw [u6.1 203 (by decide) (by decide) (by decide)]; exact s203
      have lr := ln_app LR c
      have nc := ln_nn c
      have hq' := u2.1.2.2.1
      obtain ⟨R6, o1, o2, o3, o4, o5, o6⟩ := r_answ (o := 9) (by decide) k zFU R' (LR ++ c) h d (zFU_gt (by omega)) u5 (by omega) y28 y26 (by omega) (by omega) (fun i a b => by rw [y203]; exact hrow i a b) (by rw [y203]; exact hno)
      have o1' : pX12_answers Z R' 176 9 = some R6 := o1
      rw [if_pos rfl] at o4
      rw [List.append_assoc] at o2
      have e1 : C + 1 - C = 1 := by omega
      refine Or.inr ⟨M', R6, q', q', c, v, P', C + 1, F, ⟨u1, u2, u3⟩, ⟨?_, o2, (g1.trans (FJ.g u6)).trans o6⟩, ⟨o4, o3, fun i _ => by rw [o5, y203]⟩, ⟨u7.mono (by omega), u8⟩, ⟨u9, u10.symm, by omega⟩, ⟨⟨by omega, by omega⟩, u12⟩, ?_⟩
      · simp only [u4, Option.bind_some, show ¬ (1 : Int) = 0 by decide, if_false, r_loopW u5 F, o1']
      · rw [e1, Int.mul_one]; omega
end
