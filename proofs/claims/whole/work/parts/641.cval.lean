/-! A RULE READ: a value, in the class; both -/
/-- a value at a place: its fault, its entry -/
noncomputable def vlF (T : Int) (B : Int → Int) (q P : Int) : Int := if tk T B q = 304 then 1 + 8 * q + 1 else if ¬ ((256 ≤ tk T B q ∧ tk T B q < 268) ∨ 1000 ≤ tk T B q) then 1 + 8 * q + 0 else if P = 60 then 1 + 8 * q + 3 else 0
noncomputable def vC (t : Int) : Int × Int := if 1000 ≤ t then (0, t - 1000) else (1, t - 256)
/-- the class reads a rule: its orders so far, its count -/
def CJ (S : ZS) (M : ZM) (T : Int) (B : Int → Int) (q : Int) (L : List (Int × Int)) (P : Int) : Prop := CP S M T B q ∧ (M 13 1 = (L.length : Int) ∧ SgC (M 14) 0 L) ∧ M 13 2 = P
/-- only the orders of a rule and the reading are others -/
def FD (M M' : ZM) : Prop := (∀ x, x ≠ 2 → x ≠ 13 → x ≠ 14 → M' x = M x) ∧ (∀ j, j ≠ 4 → j ≠ 5 → M' 2 j = M 2 j) ∧ ∀ j, j ≠ 1 → j ≠ 2 → M' 13 j = M 13 j
section
variable {S : ZS} {R M : ZM} {T : Int} {B : Int → Int} {p q P j : Int} {L : List (Int × Int)}
theorem FD.refl (M : ZM) : FD M M := ⟨fun _ _ _ _ => rfl, fun _ _ _ => rfl, fun _ _ _ => rfl⟩
theorem FD.trans {M M' M'' : ZM} (h : FD M M') (h' : FD M' M'') : FD M M'' := ⟨fun x a b c => (h'.1 x a b c).trans (h.1 x a b c), fun j a b => (h'.2.1 j a b).trans (h.2.1 j a b), fun j a b => (h'.2.2 j a b).trans (h.2.2 j a b)⟩
theorem FD.c {M' : ZM} (h : FC M M') : FD M M' := ⟨fun x a _ _ => h.1 x a, h.2, fun j _ _ => by rw [h.1 13 (by decide)]⟩
theorem NW.fd {M' : ZM} (h : NW S M) (f : FD M M') : NW S M' := h.q (fun x j y => by
  unfold pkN at y
  by_cases z : x = 2
  · subst z; exact f.2.1 j (by omega) (by omega)
  by_cases z3 : x = 13
  · subst z3; exact f.2.2 j (by omega) (by omega)
  · rw [f.1 x z z3 (by omega)])
theorem CP.d {M' : ZM} (h : CP S M T B q) (e : ∀ x, x ≠ 13 → x ≠ 14 → M' x = M x) (e3 : ∀ j, j ≠ 1 → j ≠ 2 → M' 13 j = M 13 j) : CP S M' T B q := by
  obtain ⟨h1, h2, h3, h4, n, i, hc, hi, e4, e5⟩ := h
  refine ⟨h1.fd ⟨fun x _ b c => e x b c, fun j _ _ => by rw [e 2 (by decide) (by decide)], e3⟩, ?_, h3, by rw [e 2 (by decide) (by decide)]; exact h4, n, i, ?_, hi, by rw [e 2 (by decide) (by decide)]; exact e4, by rw [e 5 (by decide) (by decide)]; exact e5⟩
  · unfold CTp at *; rw [e 2 (by decide) (by decide), e 3 (by decide) (by decide)]; exact h2
  · unfold Cut at *; rw [e 4 (by decide) (by decide), e 5 (by decide) (by decide)]; exact hc
theorem CJ.fc {M' : ZM} {q' : Int} (h : CJ S M T B q L P) (hc : CP S M' T B q') (f : FC M M') : CJ S M' T B q' L P := ⟨hc, ⟨by rw [f.1 13 (by decide)]; exact h.2.1.1, by rw [f.1 14 (by decide)]; exact h.2.1.2⟩, by rw [f.1 13 (by decide)]; exact h.2.2⟩
theorem c_add (h : CJ S M T B q L P) (hl : (L.length : Int) < 400) (c : Int × Int) : ∃ M', pX5_addOrder S M 13 (kc c.1) c.2 = some M' ∧ CJ S M' T B q (L ++ [c]) P ∧ FD M M' := by
  obtain ⟨h1, ⟨h2, h3⟩, h4⟩ := h
  have hn0 : 0 ≤ (L.length : Int) := Int.natCast_nonneg _
  generalize hn : (L.length : Int) = n at *
  have w1 : w32 (n + 1) = n + 1 := w32_i (by omega) (by omega)
  generalize hM1 : upM M 14 n (encC c) = M1
  generalize hM2 : upM M1 13 1 (n + 1) = M2
  have e1 : ∀ x, x ≠ 14 → M1 x = M x := fun x y => by rw [← hM1, upM_r y]
  have e2 : ∀ x, x ≠ 13 → M2 x = M1 x := fun x y => by rw [← hM2, upM_r y]
  have e3 : ∀ i, i ≠ 1 → M2 13 i = M 13 i := fun i y => by rw [← hM2, upM_i y, e1 13 (by decide)]
  have e4 : M2 13 1 = n + 1 := by rw [← hM2, upM_s]
  have x14 : M2 14 = upM M 14 n (encC c) 14 := by rw [e2 14 (by decide), hM1]
  have ex : ∀ x, x ≠ 13 → x ≠ 14 → M2 x = M x := fun x y z => by rw [e2 x y, e1 x z]
  refine ⟨M2, ?_, ⟨h1.d ex (fun j a _ => e3 j a), ⟨by rw [e4, List.length_append, ← hn]; rfl, ?_⟩, by rw [e3 2 (by decide)]; exact h4⟩, ⟨fun x _ a b => ex x a b, fun j _ _ => by rw [ex 2 (by decide) (by decide)], fun j a _ => e3 j a⟩⟩
  · have e5 : M1 13 1 = n := by rw [e1 13 (by decide)]; exact h2
    have e6 : zor (kc c.1) (zshl c.2 5) = encC c := rfl
    have e7 : M 13 0 = 14 := by simp [h1.1.2.o]
    simp only [pX5_addOrder, pX5_addOrder_34, h1.1.1.o, if_true, h2, show ¬ 400 ≤ n by omega, if_false, e7, hn0, hl, and_self, e6, zlet, hM1, e5, w1, hM2]
  · refine SgC.snoc (SgC.eq L _ h3 (fun i u v => ?_)) ?_
    · rw [x14, upM_i (by omega)]
    · rw [hn, x14, Int.zero_add, upM_s]
/-- after a fault an order is laid for nothing -/
theorem c_addF (h : NW S M) (hl : 0 ≤ M 13 1 ∧ M 13 1 ≤ 400) {k v : Int} : ∃ M', pX5_addOrder S M 13 k v = some M' ∧ M' 2 = M 2 ∧ FD M M' ∧ (0 ≤ M' 13 1 ∧ M' 13 1 ≤ 400) := by
  by_cases z : 400 ≤ M 13 1
  · refine ⟨M, ?_, rfl, FD.refl M, hl⟩
    simp only [pX5_addOrder, pX5_addOrder_34, h.1.o, if_true, if_pos z]
  · have e7 : M 13 0 = 14 := by simp [h.2.o]
    have w1 : w32 (M 13 1 + 1) = M 13 1 + 1 := w32_i (by omega) (by omega)
    have e5 : (upM M 14 (M 13 1) (zor k (zshl v 5))) 13 1 = M 13 1 := by rw [upM_r (by decide)]
    refine ⟨upM (upM M 14 (M 13 1) (zor k (zshl v 5))) 13 1 (M 13 1 + 1), ?_, by rw [upM_r (by decide), upM_r (by decide)], ⟨fun x _ a b => by rw [upM_r a, upM_r b], fun j _ _ => by rw [upM_r (by decide), upM_r (by decide)], fun j a _ => by rw [upM_i a, upM_r (by decide)]⟩, by rw [upM_s]; omega⟩
    simp only [pX5_addOrder, pX5_addOrder_34, h.1.o, if_true, if_neg z, e7, hl.1, show M 13 1 < 400 by omega, and_self, zlet, e5, w1]
theorem tk_bd (hT : TOk T B) (hq : 0 ≤ q) : -1 ≤ tk T B q ∧ tk T B q ≤ 100999 := by
  by_cases z : isDg (bt T B q)
  · rw [tk_dg z]; have := num_b z; omega
  · refine ⟨?_, by have := tk_nd hT hq z; omega⟩
    by_cases y : T ≤ q
    · rw [tk_end y]; decide
    by_cases z3 : isLt (bt T B q)
    · rw [tk_lt z3]; have := wdF_b (T := T) (B := B) (q := q) (e := rn T B 97 122 q) 19 0 (by decide); unfold wd; omega
    · rw [tk_sg ⟨hq, by omega⟩ z z3]
      have hb := bt_b (p := q) hT
      by_cases y : eot T B q - q = 2
      · rw [if_pos y]
        by_cases x : bt T B q = 60
        · rw [if_pos x]; decide
        · rw [if_neg x]; decide
      · rw [if_neg y]; omega
theorem c_value (hT : TOk T B) (h : CJ S M T B q L P) (hl : (L.length : Int) < 400) (hP : 0 ≤ P ∧ P ≤ 60) : (vlF T B q P ≠ 0 → ∃ M', pX5_takeValue S M 13 2 = some (0, M') ∧ M' 2 5 = vlF T B q P ∧ FD M M' ∧ M' 13 1 = M 13 1) ∧ (vlF T B q P = 0 → ∃ M', pX5_takeValue S M 13 2 = some (1, M') ∧ CJ S M' T B (nx T B q) (L ++ [vC (tk T B q)]) (P + 1) ∧ FD M M') := by
  have hq := h.1.2.2.1
  have hb := hT.1
  have ht := c_token h.1
  have tb := tk_bd hT hq.1
  have w1 : w32 (tk T B q - 256) = tk T B q - 256 := w32_i (by omega) (by omega)
  have wP : w32 (P + 1) = P + 1 := w32_i (by omega) (by omega)
  have f0 := c_fail hT h.1 (k := 0) (by decide)
  have f1 := c_fail hT h.1 (k := 1) (by decide)
  generalize hM1 : upM M 13 2 (P + 1) = M1
  have e1 : ∀ x, x ≠ 13 → M1 x = M x := fun x y => by rw [← hM1, upM_r y]
  have e2 : ∀ i, i ≠ 2 → M1 13 i = M 13 i := fun i y => by rw [← hM1, upM_i y]
  have e3 : M1 13 2 = P + 1 := by rw [← hM1, upM_s]
  have c1 : CP S M1 T B q := h.1.d (fun x a _ => e1 x a) (fun j _ b => e2 j b)
  have j1 : CJ S M1 T B q L (P + 1) := ⟨c1, ⟨by rw [e2 1 (by decide)]; exact h.2.1.1, by rw [e1 14 (by decide)]; exact h.2.1.2⟩, e3⟩
  have d1 : FD M M1 := ⟨fun x _ a _ => e1 x a, fun j _ _ => by rw [e1 2 (by decide)], fun j _ b => e2 j b⟩
  have f3 := c_fail hT c1 (k := 3) (by decide)
  have h2 := h.2.2
  unfold vlF
  by_cases z : tk T B q = 304
  · rw [if_pos z]
    refine ⟨fun _ => ⟨upM M 2 5 (1 + 8 * q + 1), ?_, upM_s _ _ _ _, FD.c FC.u5, by rw [upM_r (by decide)]⟩, fun u => by omega⟩
    simp only [pX5_takeValue, pX5_takeValue_26, h.1.1.1.o, if_true, ht, Option.bind_some, if_pos z, f1, true_or]
  rw [if_neg z]
  by_cases y : (256 ≤ tk T B q ∧ tk T B q < 268) ∨ 1000 ≤ tk T B q
  · rw [if_neg (fun u => u y)]
    have pre : pX5_takeValue S M 13 2 = pX5_takeValue_59 S M 13 2 (tk T B q) (tk T B q - 256) (if 1000 ≤ tk T B q then 0 else 1) := by
      by_cases x : 1000 ≤ tk T B q
      · simp only [pX5_takeValue, pX5_takeValue_26, h.1.1.1.o, if_true, ht, Option.bind_some, if_neg z, w1, show ¬ tk T B q - 256 < 0 by omega, show 12 ≤ tk T B q - 256 by omega, if_false, if_pos x]
      · simp only [pX5_takeValue, pX5_takeValue_26, h.1.1.1.o, if_true, ht, Option.bind_some, if_neg z, w1, show ¬ tk T B q - 256 < 0 by omega, show ¬ 12 ≤ tk T B q - 256 by omega, if_false, if_neg x, show ¬ (1 : Int) = 0 by decide]
    rw [pre]
    by_cases x : P = 60
    · rw [if_pos x]
      refine ⟨fun _ => ⟨upM M1 2 5 (1 + 8 * q + 3), ?_, upM_s _ _ _ _, d1.trans (FD.c FC.u5), by rw [upM_r (by decide), e2 1 (by decide)]⟩, fun u => by omega⟩
      simp only [pX5_takeValue_59, h.1.1.1.o, if_true, h2, wP, zlet, hM1, e3, show ¬ P + 1 ≤ 60 by omega, if_false, f3, Option.bind_some, true_or]
    · rw [if_neg x]
      refine ⟨fun u => absurd rfl u, fun _ => ?_⟩
      have hqT : q < T := by
        rcases Int.lt_or_le q T with u | u
        · exact u
        · rw [tk_end u] at y; omega
      obtain ⟨M2, a1, a2, a3⟩ := c_advance hT c1 hqT
      have j2 := j1.fc a2 a3
      obtain ⟨M3, b1, b2, b3⟩ := c_add j2 hl (vC (tk T B q))
      refine ⟨M3, ?_, b2, (d1.trans (FD.c a3)).trans b3⟩
      by_cases v : 1000 ≤ tk T B q
      · have ev : vC (tk T B q) = (0, tk T B q - 1000) := by unfold vC; rw [if_pos v]
        have w3 : w32 (tk T B q - 1000) = tk T B q - 1000 := w32_i (by omega) (by omega)
        rw [ev, show kc (0, tk T B q - 1000).1 = 0 from rfl] at b1
        simp only [pX5_takeValue_59, pX5_takeValue_99, pX5_takeValue_113, h.1.1.1.o, if_true, h2, wP, zlet, hM1, e3, show P + 1 ≤ 60 by omega, a1, Option.bind_some, if_pos v, w3, b1]
      · have ev : vC (tk T B q) = (1, tk T B q - 256) := by unfold vC; rw [if_neg v]
        rw [ev, show kc (1, tk T B q - 256).1 = 1 from rfl] at b1
        simp only [pX5_takeValue_59, pX5_takeValue_99, pX5_takeValue_113, h.1.1.1.o, if_true, h2, wP, zlet, hM1, e3, show P + 1 ≤ 60 by omega, a1, Option.bind_some, if_neg v, show ¬ (1 : Int) = 0 by decide, if_false, b1]
  · rw [if_pos y]
    refine ⟨fun _ => ⟨upM M 2 5 (1 + 8 * q + 0), ?_, upM_s _ _ _ _, FD.c FC.u5, by rw [upM_r (by decide)]⟩, fun u => by omega⟩
    have y' : (if tk T B q - 256 < 0 then (0 : Int) else if 12 ≤ tk T B q - 256 then 0 else 1) = 0 := by
      by_cases x : tk T B q - 256 < 0
      · rw [if_pos x]
      · rw [if_neg x, if_pos (by omega)]
    simp only [pX5_takeValue, pX5_takeValue_26, h.1.1.1.o, if_true, ht, Option.bind_some, if_neg z, w1, y', show ¬ 1000 ≤ tk T B q by omega, if_false, f0, true_or]
theorem r_value (hT : TOk T B) (h : RJ S R T B p L P j) (hq : q = sk T B p) (hl : (L.length : Int) < 300) (hP : 0 ≤ P ∧ P ≤ 60) : (vlF T B q P ≠ 0 → ∃ R', pX12_value S R 176 = some R' ∧ R' 176 22 = vlF T B q P ∧ FG j R R' ∧ (0 ≤ R' 176 21 ∧ R' 176 21 ≤ T)) ∧ (vlF T B q P = 0 → ∃ R', pX12_value S R 176 = some R' ∧ RJ S R' T B (eot T B q) (L ++ [vC (tk T B q)]) (P + 1) j ∧ FG j R R') := by
  have hb := hT.1
  obtain ⟨b1, j1⟩ := h.sk hT
  rw [← hq] at b1 j1
  have z1 : FG j R (upM R 176 21 q) := FG.fp FP.p
  generalize upM R 176 21 q = R1 at *
  obtain ⟨⟨h1, h2, h3, h4, h5, h6⟩, ⟨⟨a1, a2⟩, a3⟩, b2, c2⟩ := j1
  have wP : w32 (P + 1) = P + 1 := w32_i (by omega) (by omega)
  have d0 := r_isDg h1 h2 hT h3 (by rw [h6]; omega)
  rw [h6] at d0
  have cnt : ∀ R2 : ZM, R2 176 27 = P → R2 176 22 = 0 → pX12_isCounted S R2 176 q = some (upM (if P = 60 then upM R2 176 22 (1 + 8 * q + 3) else R2) 176 27 (P + 1)) := fun R2 x y => by
    rw [r_count h1 (by omega), x, y, wP]
    by_cases u : P = 60
    · rw [if_pos ⟨u, rfl⟩, if_pos u]
    · rw [if_neg (fun v => u v.1), if_neg u]
  by_cases z : isDg (bt T B q)
  · rw [if_pos z] at d0
    obtain ⟨v, d1, d2, d3⟩ := (r_digits h1 h2 hT h3 (by rw [h6]; exact h4)).2 (by rw [h6]; exact z)
    rw [h6, if_pos h5, ← eot_dg z] at d1
    rw [h6, ← eot_dg z] at d2
    have hlt := bt_lt (T := T) (B := B) (p := q) (by unfold isDg at z; omega)
    have he := eot_b (B := B) hlt
    have etk := tk_dg z
    by_cases y : eot T B q - q ≤ 5
    · rw [if_pos y] at d1
      have en : tk T B q = 1000 + v := by rw [etk]; unfold num; rw [if_pos y, d2 y]
      have ev : vC (tk T B q) = (0, v) := by unfold vC; rw [if_pos (by omega), en, show 1000 + v - 1000 = v by omega]
      unfold vlF
      rw [if_neg (by omega), if_neg (fun u => u (Or.inr (by omega))), ev]
      have g2 : FP R1 (upM R1 176 21 (eot T B q)) := FP.p
      have j2 : RJ S (upM R1 176 21 (eot T B q)) T B (eot T B q) L P j := RJ.at ⟨⟨h1, h2, h3, h4, h5, h6⟩, ⟨⟨a1, a2⟩, a3⟩, b2, c2⟩ (by omega)
      generalize upM R1 176 21 (eot T B q) = R2 at *
      have cn := cnt R2 j2.2.2.2 j2.1.2.2.2.2.1
      by_cases x : P = 60
      · rw [if_pos x] at cn ⊢
        have fn : (upM (upM R2 176 22 (1 + 8 * q + 3)) 176 27 (P + 1)) 176 22 ≠ 0 := by rw [upM_i (by decide), upM_s]; omega
        refine ⟨fun _ => ⟨upM (upM R2 176 22 (1 + 8 * q + 3)) 176 27 (P + 1), ?_, by rw [upM_i (by decide), upM_s], ((z1.trans (FG.fp g2)).trans (FG.fp FP.f)).trans (FG.z FZ.c), by rw [upM_i (by decide), upM_i (by decide), j2.1.2.2.2.2.2]; omega⟩, fun u => by omega⟩
        simp only [pX12_value, h.1.1.o, if_true, b1, Option.bind_some, d0, show ¬ (1 : Int) = 0 by decide, if_false, d1, h6, cn, r_entryF h1 fn]
      · rw [if_neg x] at cn ⊢
        have g3 : FZ R2 (upM R2 176 27 (P + 1)) := FZ.c
        have j3 : RJ S (upM R2 176 27 (P + 1)) T B (eot T B q) L (P + 1) j := by
          obtain ⟨⟨k1, k2, k3, k4, k5, k6⟩, k7, k8, k9⟩ := j2
          exact ⟨⟨k1, k2.fz g3, k3.fz g3, k4, by rw [upM_i (by decide)]; exact k5, by rw [upM_i (by decide)]; exact k6⟩, by rw [upM_i (by decide), upM_i (by decide)]; exact k7, by rw [upM_i (by decide), upM_r (by decide), upM_r (by decide)]; exact k8, upM_s _ _ _ _⟩
        generalize upM R2 176 27 (P + 1) = R3 at *
        obtain ⟨R4, e1, e2, e3⟩ := r_entry (a := 0) (b := v) j3 hl
        refine ⟨fun u => absurd rfl u, fun _ => ⟨R4, ?_, e2, ((z1.trans (FG.fp g2)).trans (FG.z g3)).trans e3⟩⟩
        simp only [pX12_value, h.1.1.o, if_true, b1, Option.bind_some, d0, show ¬ (1 : Int) = 0 by decide, if_false, d1, h6, cn, e1]
    · rw [if_neg y] at d1
      have en : tk T B q = 304 := by rw [etk]; unfold num; rw [if_neg y]
      unfold vlF
      rw [if_pos en]
      generalize hR2 : upM (upM R1 176 21 (eot T B q)) 176 22 (1 + 8 * q + 1) = R2 at d1
      have g2 : FP R1 R2 := by rw [← hR2]; exact FP.p.trans FP.f
      have e22 : R2 176 22 = 1 + 8 * q + 1 := by rw [← hR2, upM_s]
      have e21 : R2 176 21 = eot T B q := by rw [← hR2, upM_i (by decide), upM_s]
      have e22' : ¬ R2 176 22 = 0 := by omega
      have cn := r_count (R := R2) h1 (g := q) (by omega)
      rw [if_neg (fun u => e22' u.2)] at cn
      generalize hR3 : upM R2 176 27 (w32 (R2 176 27 + 1)) = R3 at cn
      have g3 : FZ R2 R3 := by rw [← hR3]; exact FZ.c
      have fn : R3 176 22 ≠ 0 := by rw [g3.2 22 (by decide) (by decide)]; exact e22'
      refine ⟨fun _ => ⟨R3, ?_, by rw [g3.2 22 (by decide) (by decide), e22], (z1.trans (FG.fp g2)).trans (FG.z g3), by rw [← hR3, upM_i (by decide), e21]; omega⟩, fun u => by omega⟩
      simp only [pX12_value, h.1.1.o, if_true, b1, Option.bind_some, d0, show ¬ (1 : Int) = 0 by decide, if_false, d1, h6, cn, r_entryF h1 fn]
  · rw [if_neg z] at d0
    have hnd := tk_nd hT h4.1 z
    have l37 := r_val37 h1 h2 hT h3 a2 h6 h4 (g := q) 12 zFU 0 (by decide) (by decide) (zFU_gt (by decide)) (fun i a b => by omega)
    unfold vlF
    rw [if_neg (by omega)]
    by_cases y : 256 ≤ tk T B q ∧ tk T B q < 268
    · rw [if_pos y] at l37
      rw [if_neg (fun u => u (Or.inl y))]
      have ev : vC (tk T B q) = (1, tk T B q - 256) := by unfold vC; rw [if_neg (by omega)]
      rw [ev]
      obtain ⟨o1, -⟩ := wo_of (k := tk T B q - 256) (by omega)
      have o1' : 0 ≤ wo (tk T B q - 256) ∧ wo (tk T B q - 256) < 20 := by omega
      obtain ⟨l1, l2⟩ := wo_len hT h4.1 y
      have he := eot_b (B := B) (p := q) ⟨h4.1, l2⟩
      have w1 : w32 (q + zSl (wo (tk T B q - 256))) = eot T B q := by rw [l1]; exact w32_i (by omega) (by omega)
      have cn := cnt R1 c2 h5
      by_cases x : P = 60
      · rw [if_pos x] at cn ⊢
        generalize hR2 : upM (upM R1 176 22 (1 + 8 * q + 3)) 176 27 (P + 1) = R2 at cn
        have g2 : FG j R1 R2 := by rw [← hR2]; exact (FG.fp FP.f).trans (FG.z FZ.c)
        have e21 : R2 176 21 = q := by rw [← hR2, upM_i (by decide), upM_i (by decide)]; exact h6
        have e22 : R2 176 22 = 1 + 8 * q + 3 := by rw [← hR2, upM_i (by decide), upM_s]
        have fn : (upM R2 176 21 (eot T B q)) 176 22 ≠ 0 := by rw [upM_i (by decide), e22]; omega
        refine ⟨fun _ => ⟨upM R2 176 21 (eot T B q), ?_, by rw [upM_i (by decide), e22], (z1.trans g2).trans (FG.fp FP.p), by rw [upM_s]; omega⟩, fun u => by omega⟩
        simp only [pX12_value, h.1.1.o, if_true, b1, Option.bind_some, d0, h6, l37, pX12_value_62, a2, show ¬ tk T B q - 256 = 12 by omega, if_false, cn, r_wordOf (k := tk T B q - 256) (by omega), o1', and_self, e21, w1, zlet, r_entryF h1 fn]
      · rw [if_neg x] at cn ⊢
        have g2 : FZ R1 (upM R1 176 27 (P + 1)) := FZ.c
        have j2 : RJ S (upM R1 176 27 (P + 1)) T B q L (P + 1) j := ⟨⟨h1, h2.fz g2, h3.fz g2, h4, by rw [upM_i (by decide)]; exact h5, by rw [upM_i (by decide)]; exact h6⟩, by rw [upM_i (by decide), upM_i (by decide)]; exact ⟨⟨a1, a2⟩, a3⟩, by rw [upM_i (by decide), upM_r (by decide), upM_r (by decide)]; exact b2, upM_s _ _ _ _⟩
        generalize hR2 : upM R1 176 27 (P + 1) = R2 at *
        have e21 : R2 176 21 = q := j2.1.2.2.2.2.2
        have g3 : FP R2 (upM R2 176 21 (eot T B q)) := FP.p
        have j3 := j2.at (v := eot T B q) (by omega)
        generalize hR3 : upM R2 176 21 (eot T B q) = R3 at *
        obtain ⟨R4, e1, e2, e3⟩ := r_entry (a := 1) (b := tk T B q - 256) j3 hl
        refine ⟨fun u => absurd rfl u, fun _ => ⟨R4, ?_, e2, ((z1.trans (FG.z g2)).trans (FG.fp g3)).trans e3⟩⟩
        simp only [pX12_value, h.1.1.o, if_true, b1, Option.bind_some, d0, h6, l37, pX12_value_62, a2, show ¬ tk T B q - 256 = 12 by omega, if_false, cn, r_wordOf (k := tk T B q - 256) (by omega), o1', and_self, e21, w1, zlet, hR3, e1]
    · rw [if_neg y] at l37
      rw [if_pos (fun u => by omega)]
      refine ⟨fun _ => ⟨upM R1 176 22 (1 + 8 * q + 0), ?_, upM_s _ _ _ _, z1.trans (FG.fp FP.f), by rw [upM_i (by decide), h6]; exact h4⟩, fun u => by omega⟩
      simp only [pX12_value, h.1.1.o, if_true, b1, Option.bind_some, d0, h6, l37, pX12_value_62, a2, r_fails (M := R1) (k := 0) h1 (show 0 ≤ q ∧ q ≤ 1000 by omega) (by decide), if_pos h5]
end
