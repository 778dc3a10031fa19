/-! ACTS AND SMALLER CALLS: the class -/
section
variable {S : ZS} {M : ZM}
theorem CN.tt {w : Wd} (h : CN S M w) : TT S M 17 (wT w) := ⟨(shT_of h.1.1).2.1, (ptT_of h.1.2).2.1, h.2.2.2.1⟩
theorem CN.cs {w : Wd} (h : CN S M w) : CS M (wT w) 23 (wC w) := h.2.2.2.2.2.1
/-- another scene in the now's place -/
theorem CN.sc {w : Wd} {M' : ZM} {s : Sc} {nR : Int} (h : CN S M w) (hw : WOk nR w) (hN : NW S M') (hC : CS M' (wT w) 23 s) (e1 : ∀ x, (17 ≤ x ∧ x < 23) ∨ (27 < x ∧ x ≤ 131) → M' x = M x) (e2 : M' 16 = M 16) (e3 : ∀ j, j < 4 → M' 23 j = M 23 j) : CN S M' (wSc w s) := by
  obtain ⟨-, hWS, hWP, d1, d2, d3, d4, d5, d6⟩ := h
  have hk := hw.2.2.2.2.2.2.1
  have hPA : PA M' 16 := by
    have := hWP.2.2.2.2
    unfold PA at *
    rw [e1 (16 + 12) (by omega)]; exact this
  refine ⟨hN, hWS, ⟨by rw [e2]; exact hWP.1, ?_, ?_, fun i x y => ?_, hPA⟩, d1.eq (fun x _ _ => e1 x (by omega)), ?_, hC, ?_, by rw [e2]; exact d5, fun i x y => ?_⟩
  · unfold PtT; rw [e1 (16 + 1) (by omega)]; exact hWP.2.1
  · unfold PtC
    have hc := hWP.2.2.1
    rw [show (16 : Int) + 7 = 23 from rfl, e3 0 (by decide), e3 1 (by decide), e3 2 (by decide), e3 3 (by decide)]; exact hc
  · unfold PtC; rw [e1 _ (by omega)]; exact hWP.2.2.2.1 i x y
  · rw [e1 (16 + 2) (by omega), e1 (16 + 3) (by omega)]; exact d2
  · rw [e2, e1 (16 + 13) (by omega), e1 (16 + 14) (by omega), e1 (16 + 15) (by omega)]; exact d4
  · have y' : i < wK w := y
    show CS M' (wT w) (M' 28 i) (wP w i)
    rw [e1 28 (by omega)]
    obtain ⟨v, v1, v2⟩ := hWP.2.2.2.2.1 i x (by omega)
    have v3 : M 28 i = 16 + 16 + 5 * v := v2
    refine (d6 i x y').eq (fun c x1 x2 => ?_)
    have x1' : M 28 i ≤ c := x1
    have x2' : c ≤ M 28 i + 4 := x2
    exact e1 c (by omega)
theorem c_undo {w : Wd} {nR : Int} (hw : WOk nR w) (h : CN S M w) : ∃ M', pX11_undo S M 1 = some (undoA w, M') ∧ CN S M' (undoW w) ∧ FA M M' := by
  have hk := hw.2.2.2.2.2.2.1
  have e3 : M 16 3 = wK w := h.2.2.2.2.2.2.2.1.2.2
  unfold undoA undoW
  by_cases z : wK w = 0
  · rw [if_pos z, if_pos z]
    refine ⟨M, ?_, h, FA.refl M⟩
    simp [pX11_undo, h.1.1.o, h.1.2.o, e3, z]
  · rw [if_neg z, if_neg z]
    have w1 : w32 (wK w - 1) = wK w - 1 := w32_i (by omega) (by omega)
    have hsh := pa_sh h.2.1 h.2.2.1.2.2.2.2 (wK w - 1) (by omega) (by omega)
    have hpt := pa_pt h.2.2.1 (wK w - 1) (by omega) (by omega)
    obtain ⟨v, v1, v2⟩ := h.2.2.1.2.2.2.2.1 (wK w - 1) (by clear hsh hpt; omega) (by clear hsh hpt; omega)
    have v3 : M 28 (wK w - 1) = 16 + 16 + 5 * v := v2
    generalize hA : M 28 (wK w - 1) = A at *
    generalize hM1 : upM M 16 3 (wK w - 1) = M1
    have r1 : ∀ x, x ≠ 16 → M1 x = M x := fun x y => by rw [← hM1, upM_r y]
    have r2 : ∀ j, j ≠ 3 → M1 16 j = M 16 j := fun j y => by rw [← hM1, upM_i y]
    have r3 : M1 16 3 = wK w - 1 := by rw [← hM1, upM_s]
    have n1 : NW S M1 := h.1.q (fun x j y => by
      unfold pkN at y
      by_cases u : x = 16
      · subst u; exact r2 j (by clear hsh hpt; omega)
      · rw [r1 x u])
    have hpt1 : PtC M1 A := by unfold PtC; rw [r1 A (by clear hsh hpt; omega)]; exact hpt
    obtain ⟨M2, a1, a2, a3, a4, a5, a6⟩ := c_copyScene (S := S) (M := M1) (a := A) (b := 23) hsh (shC_of h.1.1).1 hpt1 (ptC_of n1.2).1 (by clear hsh hpt hpt1; omega)
    have hs6 : S.1 A = 6 := hsh.1
    clear hsh hpt hpt1
    have e28 : M1 28 (wK w - 1) = A := by rw [r1 28 (by decide)]; exact hA
    have n2 : NW S M2 := n1.q (fun x j y => by
      unfold pkN at y
      by_cases u : x = 23
      · subst u; exact a3 j (by omega) (by omega) (by omega)
      · rw [a2 x (by omega)])
    have f1 : FA M M2 := fun x y => by rw [a2 x (by omega), r1 x (by omega)]
    have e23 : M2 16 3 = wK w - 1 := by rw [a2 16 (by omega)]; exact r3
    -- the world with one act less, then its scene
    obtain ⟨hN, hWS, hWP, d1, d2, d3, d4, d5, d6⟩ := h
    have hCN1 : CN S M1 (wT w, wA w, wS w, wC w, wN w, wX w, wF w, wK w - 1, wP w) := by
      have hPA : PA M1 16 := by
        have := hWP.2.2.2.2
        unfold PA at *
        rw [r1 (16 + 12) (by omega)]; exact this
      refine ⟨n1, hWS, ⟨?_, ?_, ?_, fun i x y => ?_, hPA⟩, d1.eq (fun x _ _ => r1 x (by omega)), ?_, d3.eq (fun x _ _ => r1 x (by omega)), ?_, ?_, fun i x y => ?_⟩
      · rw [r2 0 (by decide), r2 1 (by decide), r2 2 (by decide), r2 4 (by decide), r2 5 (by decide), r2 6 (by decide)]; exact hWP.1
      · unfold PtT; rw [r1 (16 + 1) (by omega)]; exact hWP.2.1
      · unfold PtC; rw [r1 (16 + 7) (by omega)]; exact hWP.2.2.1
      · unfold PtC; rw [r1 _ (by omega)]; exact hWP.2.2.2.1 i x y
      · rw [r1 (16 + 2) (by omega), r1 (16 + 3) (by omega)]; exact d2
      · rw [r2 7 (by decide), r1 (16 + 13) (by omega), r1 (16 + 14) (by omega), r1 (16 + 15) (by omega)]; exact d4
      · rw [r2 8 (by decide), r2 9 (by decide)]; exact ⟨d5.1, d5.2.1, r3⟩
      · have y' : i < wK w - 1 := y
        show CS M1 (wT w) (M1 28 i) (wP w i)
        rw [r1 28 (by decide)]
        obtain ⟨u, u1, u2⟩ := hWP.2.2.2.2.1 i x (by omega)
        have u3 : M 28 i = 16 + 16 + 5 * u := u2
        refine (d6 i x (by omega)).eq (fun c x1 x2 => ?_)
        have x1' : M 28 i ≤ c := x1
        exact r1 c (by omega)
    have hw1 : WOk nR (wT w, wA w, wS w, wC w, wN w, wX w, wF w, wK w - 1, wP w) := by
      obtain ⟨i1, i2, i3, i4, i5, i6, i7, i8⟩ := hw
      exact ⟨i1, i2, i3, i4, i5, i6, by show 0 ≤ wK w - 1 ∧ wK w - 1 ≤ 20; omega, fun i x y => i8 i x (by have : i < wK w - 1 := y; omega)⟩
    have hcs : CS M2 (wT w) 23 (wP w (wK w - 1)) := by
      have h6 := d6 (wK w - 1) (by omega) (by omega)
      have h6' : CS M (wT w) A (wP w (wK w - 1)) := by rw [← hA]; exact h6
      have : CS M1 (wT w) A (wP w (wK w - 1)) := h6'.eq (fun x x1 x2 => r1 x (by omega))
      exact this.rows hw.1 a4 a5 a6
    refine ⟨M2, ?_, CN.sc hCN1 hw1 n2 hcs (fun x y => a2 x (by omega)) (a2 16 (by omega)) (fun j y => a3 j (by omega) (by omega) (by omega)), f1⟩
    have hk1 : ¬ wK w ≤ 0 := by omega
    simp [pX11_undo, pX10_recall, pX10_recall_33, hN.1.o, hN.2.o, e3, z, hk1, w1, zlet, hM1, n1.2.o, r3, show 0 ≤ wK w - 1 by omega, show wK w - 1 < 20 by omega, show (1 : Int) ≤ wK w by omega, e28, a1, n2.2.o, e23]
/-- all that a call of the class rests on -/
def CG (S : ZS) (M : ZM) (nR : Int) (rl : Int → Ru) (w : Wd) : Prop := CN S M w ∧ CRs S M nR rl ∧ WOk nR w
def eF (M : ZM) (w : Wd) : Int := if wF w = -1 then 0 else M 15 (wF w)
theorem CG.cq {nR : Int} {rl : Int → Ru} {w : Wd} (h : CG S M nR rl w) : CQ S M (wT w) (wC w) (eF M w) (rl (wF w)) := by
  obtain ⟨h1, h2, h3⟩ := h
  have hf := h3.2.2.2.2.2.1
  have e9 : M 16 9 = wF w := h1.2.2.2.2.2.2.2.1.2.1
  have hb := h2.1
  unfold eF
  by_cases z : wF w = -1
  · rw [if_pos z, z, h2.2.2.1]
    refine ⟨h1.1, h1.2.2.2.1, h1.cs, ⟨⟨fun _ => rfl, fun g q => by cases q⟩, ⟨fun _ => rfl, fun g q => by cases q⟩, fun _ => rfl, fun g q => by cases q⟩, Or.inl ⟨by rw [e9]; exact z, rfl⟩, h3.1, h3.2.2.1.go⟩
  · rw [if_neg z]
    exact ⟨h1.1, h1.2.2.2.1, h1.cs, h2.2.2.2 (wF w) (by omega) hf.2, Or.inr ⟨by rw [e9]; omega, by rw [e9]⟩, h3.1, h3.2.2.1.go⟩
theorem CRs.fa {M' : ZM} {nR : Int} {rl : Int → Ru} (h : CRs S M nR rl) (f : FA M M') : CRs S M' nR rl := by
  obtain ⟨h1, h2, h3, h4⟩ := h
  refine ⟨h1, by rw [f 1 (by omega)]; exact h2, h3, fun j x y => ?_⟩
  rw [f 15 (by omega)]
  obtain ⟨a, b, c⟩ := h4 j x y
  exact ⟨a.eq (fun x y => f x (by omega)), b.eq (fun x y => f x (by omega)), c.eq (fun x y => f x (by omega))⟩
theorem CN.fq {M' : ZM} {w : Wd} {nR : Int} (h : CN S M w) (hw : WOk nR w) (hN : NW S M') (f : FQ M M') : CN S M' w := by
  have hk := hw.2.2.2.2.2.2.1
  exact ⟨hN, h.2.1, h.2.2.1.eq (fun x a b => f x (by omega)), h.2.2.2.eq h.2.2.1.2.2.2.2 hk.2 (fun x a b => f x (by omega))⟩
/-- what a call of the class leaves as it was: all but its now and its helpers -/
def FS (M M' : ZM) : Prop := ∀ x, (x < 2 ∨ x = 15 ∨ x = 132 ∨ 176 ≤ x) → M' x = M x
theorem FS.refl (M : ZM) : FS M M := fun _ _ => rfl
theorem FS.q {M M' : ZM} (h : FQ M M') : FS M M' := fun x y => h x (by omega)
theorem FS.a {M M' : ZM} (h : FA M M') : FS M M' := fun x y => h x (by omega)
/-- the end of a call of the class: the tape as it was, too -/
def CE (S : ZS) (M : ZM) (nR : Int) (rl : Int → Ru) (p : Option (Int × ZM)) (v : Int) (w' : Wd) : Prop := ∃ M', p = some (v, M') ∧ CG S M' nR rl w' ∧ FS M M' ∧ (M' 2 = M 2 ∧ M' 3 = M 3)
theorem CG.ask {nR : Int} {rl : Int → Ru} {w : Wd} (h : CG S M nR rl w) {p : Option (Int × ZM)} {v : Int} (k : ∃ M', p = some (v, M') ∧ NW S M' ∧ FQ M M') : CE S M nR rl p v w := by
  obtain ⟨M', a, b, c⟩ := k
  exact ⟨M', a, ⟨h.1.fq h.2.2 b c, h.2.1.fq c, h.2.2⟩, FS.q c, c 2 (by omega), c 3 (by omega)⟩
theorem CG.same {nR : Int} {rl : Int → Ru} {w : Wd} (h : CG S M nR rl w) {p : Option (Int × ZM)} {v : Int} (k : p = some (v, M)) : CE S M nR rl p v w := ⟨M, k, h, FS.refl M, rfl, rfl⟩
theorem CG.act {nR : Int} {rl : Int → Ru} {w w' : Wd} (h : CG S M nR rl w) {M' : ZM} {p : Option (Int × ZM)} {v : Int} (k : p = some (v, M')) (hC : CN S M' w') (f : FA M M') (ho : WOk nR w') : CE S M nR rl p v w' := ⟨M', k, ⟨hC, h.2.1.fa f, ho⟩, FS.a f, f 2 (by omega), f 3 (by omega)⟩
theorem k_undo {nR : Int} {rl : Int → Ru} {w : Wd} (h : CG S M nR rl w) : CE S M nR rl (pX11_undo S M 1) (undoA w) (undoW w) := by
  obtain ⟨M', a1, a2, a3⟩ := c_undo h.2.2 h.1
  exact h.act a1 a2 a3 (undo_ok h.2.2)
theorem k_pen {nR : Int} {rl : Int → Ru} {w : Wd} (h : CG S M nR rl w) {q what : Int} : CE S M nR rl (pX11_pen S M 1 q what) (opPen w q what) w := by
  refine h.same ?_
  have ho := h.2.2.1
  have hp := ho.2.2.1
  have hC := h.1.cs
  have hT := h.1.tt
  unfold opPen
  by_cases g1 : 0 ≤ q ∧ q < tPn (wT w)
  · rw [if_pos g1]
    have e1 : M 24 q = cAt (wC w) q := (hC.1 q g1.1 g1.2).1
    have e2 : M 25 q = cSt (wC w) q := (hC.1 q g1.1 g1.2).2
    have e5 : M 23 4 = cSy (wC w) := hC.2.2.2.1
    have es := c_strokesOf ho (shC_of h.1.1.1).1 (ptC_of h.1.1.2).1 hC (q := q) g1.1
    by_cases w0 : what = 0
    · simp [pX11_pen, h.1.1.1.o, h.1.1.2.o, c_hasPen hT, g1, w0, show q < 5 by omega, e1]
    by_cases w1 : what = 1
    · simp [pX11_pen, h.1.1.1.o, h.1.1.2.o, c_hasPen hT, g1, w1, show q < 5 by omega, e2]
    by_cases w2 : what = 2
    · have hz := zand_01 (zshr (cSy (wC w)) q)
      rcases hz with hz | hz
      · simp [pX11_pen, h.1.1.1.o, h.1.1.2.o, c_hasPen hT, g1, w2, c_isStayed (shC_of h.1.1.1).1, e5, hz]
      · simp [pX11_pen, h.1.1.1.o, h.1.1.2.o, c_hasPen hT, g1, w2, c_isStayed (shC_of h.1.1.1).1, e5, hz]
    by_cases w3 : what = 3
    · simp [pX11_pen, h.1.1.1.o, h.1.1.2.o, c_hasPen hT, g1, w3, es]
    · simp [pX11_pen, h.1.1.1.o, h.1.1.2.o, c_hasPen hT, g1, w0, w1, w2, w3]
  · rw [if_neg g1]
    simp [pX11_pen, h.1.1.1.o, h.1.1.2.o, c_hasPen hT, g1]
theorem k_cell {nR : Int} {rl : Int → Ru} {w : Wd} (h : CG S M nR rl w) {c what : Int} : CE S M nR rl (pX11_cell S M 1 c what) (opCell w c what) w := by
  refine h.same ?_
  have ho := h.2.2.1
  have hb := sq_b ho.1
  have hC := h.1.cs
  have hT := h.1.tt
  unfold opCell
  by_cases g1 : 0 ≤ c ∧ c < tSd (wT w) * tSd (wT w)
  · have e1 : M 26 c = cWh (wC w) c := (hC.2.1 c g1.1 g1.2).1
    have e2 : cWh (wC w) c ≠ -1 → M 27 c = cSi (wC w) c := (hC.2.1 c g1.1 g1.2).2
    have e3 : M 22 c = tMk (wT w) c := hT.2.2.2.2.2.2.2.2 c g1.1 (by omega)
    have g3 : c < 36 := by omega
    by_cases w0 : what = 0
    · simp [pX11_cell, h.1.1.1.o, h.1.1.2.o, c_hasCell hT, g1, w0, g3, e1]
    by_cases w1 : what = 1
    · by_cases z : cWh (wC w) c = -1
      · have hs : cSi (wC w) c = -1 := by
          rcases h.2.2.2.2.1.1.2.1 c g1.1 g1.2 with u | u
          · exact u.2
          · omega
        simp [pX11_cell, pX11_cell_89, h.1.1.1.o, h.1.1.2.o, c_hasCell hT, g1, w1, g3, e1, z, hs]
      · simp [pX11_cell, pX11_cell_89, h.1.1.1.o, h.1.1.2.o, c_hasCell hT, g1, w1, g3, e1, z, e2 z]
    by_cases w2 : what = 2
    · simp [pX11_cell, h.1.1.1.o, h.1.1.2.o, c_hasCell hT, g1, w2, g3, e3]
    · rw [if_neg (fun z => by omega)]
      simp [pX11_cell, h.1.1.1.o, h.1.1.2.o, c_hasCell hT, g1, w0, w1, w2]
  · rw [if_neg (fun z => g1 z.1)]
    simp [pX11_cell, h.1.1.1.o, h.1.1.2.o, c_hasCell hT, g1]
theorem k_day {nR : Int} {rl : Int → Ru} {w : Wd} (h : CG S M nR rl w) : CE S M nR rl (pX11_day S M 1) (opDay (rl (wF w)) w).1 (opDay (rl (wF w)) w).2 := by
  have ho := h.2.2.1
  have hT := h.1.tt
  have e5 : M 23 5 = cDy (wC w) := h.1.cs.2.2.2.2.1
  have hd := h.2.2.2.2.1.2.2.2.1
  have hok := opDay_ok h.2.2 (rl (wF w))
  unfold opDay at hok ⊢
  by_cases g1 : tSd (wT w) ≤ 0
  · rw [if_neg (fun z => by omega)]
    refine h.same ?_
    simp [pX11_day, pX11_day_29, h.1.1.1.o, h.1.1.2.o, c_isThere hT, g1]
  by_cases g2 : cDy (wC w) = 999
  · rw [if_neg (fun z => z.2 g2)]
    refine h.same ?_
    simp [pX11_day, pX11_day_29, h.1.1.1.o, h.1.1.2.o, c_isThere hT, g1, e5, g2]
  · rw [if_pos ⟨by omega, g2⟩] at hok ⊢
    obtain ⟨M1, a1, a2, a3⟩ := c_remember h.2.2 h.1
    have h1 : CG S M1 nR rl (wRem w) := ⟨a2, h.2.1.fa a3, wRem_ok h.2.2⟩
    have hcq := h1.cq
    have hcd : CD S M1 17 23 133 (wT w) (wC w) := ⟨sep_3, a2.tt, ⟨(shC_of a2.1.1).1, (ptC_of a2.1.2).1⟩, ⟨(shD_of a2.1.1).1, (ptD_of a2.1.2).1⟩, a2.cs⟩
    obtain ⟨M2, b1, b2, b3, b4⟩ := c_one ho (h.2.2.sd (by omega)) (n := 199) h.2.2.2.2.1.go hcd hcq.2.2.2.1.1
    have er := c_ruleInForce hcq
    have n2 := a2.1.fr b3 (Or.inr (Or.inr ⟨rfl, rfl⟩))
    have f2 : FA M1 M2 := fun x y => b3.1 x (by omega) (by omega) (by omega) (by omega) (by omega) (by omega) (by omega)
    have hC2 : CN S M2 (wSc (wRem w) (dayS (wT w) (rl (wF w)) (wC w))) := CN.sc a2 (wRem_ok h.2.2) n2 b2.2.2.2.2 (fun x y => b3.1 x (by omega) (by omega) (by omega) (by omega) (by omega) (by omega) (by omega)) (b3.1 16 (by decide) (by decide) (by decide) (by decide) (by decide) (by decide) (by decide)) (fun j y => b3.2 j (by omega) (by omega))
    refine h.act (M' := M2) ?_ hC2 (a3.trans f2) hok
    have b1' : pX0_one S M1 133 17 23 (eF M1 (wRem w)) = some (setS (wT w) (rl (wF w)) (wC w), M2) := b1
    have hlt : cDy (wC w) < 999 := by omega
    simp [pX11_day, h.1.1.1.o, h.1.1.2.o, c_isThere hT, g1, e5, hlt, a1, a2.1.2.o, er, b1']
theorem k_stay {nR : Int} {rl : Int → Ru} {w : Wd} (h : CG S M nR rl w) {q : Int} : CE S M nR rl (pX11_stay S M 1 q) (opStay w q).1 (opStay w q).2 := by
  have hT := h.1.tt
  have hok := opStay_ok h.2.2 q
  unfold opStay at hok ⊢
  by_cases g1 : 0 ≤ q ∧ q < tPn (wT w)
  · rw [if_pos g1] at hok ⊢
    obtain ⟨M1, a1, a2, a3⟩ := c_remember h.2.2 h.1
    have e4 : M1 23 4 = cSy (wC w) := a2.cs.2.2.2.1
    have n2 : NW S (upM M1 23 4 (zxor (cSy (wC w)) (zshl 1 q))) := a2.1.up (by unfold pkN; omega)
    refine h.act (M' := upM M1 23 4 (zxor (cSy (wC w)) (zshl 1 q))) ?_ (CN.sc a2 (wRem_ok h.2.2) n2 (scSy_CS a2.cs) (fun x y => upM_r (by omega)) (upM_r (by decide)) (fun j y => upM_i (by omega))) (a3.trans (fun x y => upM_r (by omega))) hok
    simp [pX11_stay, h.1.1.1.o, h.1.1.2.o, c_hasPen hT, g1, a1, a2.1.2.o, e4, zlet, n2.2.o, upM_s]
  · rw [if_neg g1]
    refine h.same ?_
    simp [pX11_stay, h.1.1.1.o, h.1.1.2.o, c_hasPen hT, g1]
theorem k_set {nR : Int} {rl : Int → Ru} {w : Wd} (h : CG S M nR rl w) {q c : Int} : CE S M nR rl (pX11_set S M 1 q c) (opSet w q c).1 (opSet w q c).2 := by
  have hT := h.1.tt
  have hp := h.2.2.1.2.2.1
  have hok := opSet_ok h.2.2 q c
  unfold opSet at hok ⊢
  by_cases g1 : 0 ≤ q ∧ q < tPn (wT w)
  · have g5 : q < 5 := by omega
    have e1 : M 24 q = cAt (wC w) q := (h.1.cs.1 q g1.1 g1.2).1
    by_cases g2 : 0 ≤ c ∧ c < tSd (wT w) * tSd (wT w)
    · by_cases g3 : cAt (wC w) q = c
      · rw [if_neg (fun z => z.2.2 g3)]
        refine h.same ?_
        simp [pX11_set, pX11_set_44, h.1.1.1.o, h.1.1.2.o, c_hasPen hT, g1, c_hasCell hT, g2, g5, e1, g3]
      · rw [if_pos ⟨g1, g2, g3⟩] at hok ⊢
        obtain ⟨M1, a1, a2, a3⟩ := c_remember h.2.2 h.1
        have e2 : M1 24 q = cAt (wC w) q := (a2.cs.1 q g1.1 g1.2).1
        have n2 : NW S (upM M1 24 q c) := a2.1.up (by unfold pkN; omega)
        refine h.act (M' := upM M1 24 q c) ?_ (CN.sc a2 (wRem_ok h.2.2) n2 (scAt_CS (b := 23) a2.cs) (fun x y => upM_r (by omega)) (upM_r (by decide)) (fun j y => by rw [upM_r (by decide)])) (a3.trans (fun x y => upM_r (by omega))) hok
        simp [pX11_set, h.1.1.1.o, h.1.1.2.o, c_hasPen hT, g1, c_hasCell hT, g2, g5, e1, g3, a1, a2.1.2.o, e2, zlet]
    · rw [if_neg (fun z => g2 z.2.1)]
      refine h.same ?_
      simp [pX11_set, pX11_set_44, h.1.1.1.o, h.1.1.2.o, c_hasPen hT, g1, c_hasCell hT, g2]
  · rw [if_neg (fun z => g1 z.1)]
    refine h.same ?_
    simp [pX11_set, pX11_set_44, h.1.1.1.o, h.1.1.2.o, c_hasPen hT, g1]
theorem k_bend {nR : Int} {rl : Int → Ru} {w : Wd} (h : CG S M nR rl w) {q v : Int} : CE S M nR rl (pX11_bend S M 1 q v) (opBend w q v).1 (opBend w q v).2 := by
  have hT := h.1.tt
  have hp := h.2.2.1.2.2.1
  have hok := opBend_ok h.2.2 q v
  unfold opBend at hok ⊢
  by_cases g1 : 0 ≤ q ∧ q < tPn (wT w)
  · have g5 : q < 5 := by omega
    have e1 : M 25 q = cSt (wC w) q := (h.1.cs.1 q g1.1 g1.2).2
    by_cases g2 : 0 ≤ v ∧ v ≤ 9
    · by_cases g3 : cSt (wC w) q = v
      · rw [if_neg (fun z => z.2.2 g3)]
        refine h.same ?_
        simp [pX11_bend, pX11_bend_40, h.1.1.1.o, h.1.1.2.o, c_hasPen hT, g1, c_within, g2, g5, e1, g3]
      · rw [if_pos ⟨g1, g2, g3⟩] at hok ⊢
        obtain ⟨M1, a1, a2, a3⟩ := c_remember h.2.2 h.1
        have e2 : M1 25 q = cSt (wC w) q := (a2.cs.1 q g1.1 g1.2).2
        have n2 : NW S (upM M1 25 q v) := a2.1.up (by unfold pkN; omega)
        refine h.act (M' := upM M1 25 q v) ?_ (CN.sc a2 (wRem_ok h.2.2) n2 (scSt_CS (b := 23) a2.cs) (fun x y => upM_r (by omega)) (upM_r (by decide)) (fun j y => by rw [upM_r (by decide)])) (a3.trans (fun x y => upM_r (by omega))) hok
        simp [pX11_bend, h.1.1.1.o, h.1.1.2.o, c_hasPen hT, g1, c_within, g2, g5, e1, g3, a1, a2.1.2.o, e2, zlet]
    · rw [if_neg (fun z => g2 z.2.1)]
      refine h.same ?_
      simp [pX11_bend, pX11_bend_40, h.1.1.1.o, h.1.1.2.o, c_hasPen hT, g1, c_within, g2]
  · rw [if_neg (fun z => g1 z.1)]
    refine h.same ?_
    simp [pX11_bend, pX11_bend_40, h.1.1.1.o, h.1.1.2.o, c_hasPen hT, g1]
theorem k_blot {nR : Int} {rl : Int → Ru} {w : Wd} (h : CG S M nR rl w) {c : Int} : CE S M nR rl (pX11_blot S M 1 c) (opBlot w c).1 (opBlot w c).2 := by
  have hT := h.1.tt
  have hb := sq_b h.2.2.1.1
  have hok := opBlot_ok h.2.2 c
  unfold opBlot at hok ⊢
  by_cases g2 : 0 ≤ c ∧ c < tSd (wT w) * tSd (wT w)
  · have g5 : c < 36 := by omega
    have e1 : M 26 c = cWh (wC w) c := (h.1.cs.2.1 c g2.1 g2.2).1
    by_cases g3 : cWh (wC w) c = -1
    · rw [if_neg (fun z => z.2 g3)]
      refine h.same ?_
      simp [pX11_blot, pX11_blot_30, h.1.1.1.o, h.1.1.2.o, c_hasCell hT, g2, g5, e1, g3]
    · rw [if_pos ⟨g2, g3⟩] at hok ⊢
      obtain ⟨M1, a1, a2, a3⟩ := c_remember h.2.2 h.1
      have e2 : M1 26 c = cWh (wC w) c := (a2.cs.2.1 c g2.1 g2.2).1
      have n2 : NW S (upM M1 26 c (-1)) := a2.1.up (by unfold pkN; omega)
      refine h.act (M' := upM M1 26 c (-1)) ?_ (CN.sc a2 (wRem_ok h.2.2) n2 (scWs_CS (b := 23) a2.cs) (fun x y => upM_r (by omega)) (upM_r (by decide)) (fun j y => by rw [upM_r (by decide)])) (a3.trans (fun x y => upM_r (by omega))) hok
      simp [pX11_blot, h.1.1.1.o, h.1.1.2.o, c_hasCell hT, g2, g5, e1, g3, a1, a2.1.2.o, e2, zlet]
  · rw [if_neg (fun z => g2 z.1)]
    refine h.same ?_
    simp [pX11_blot, pX11_blot_30, h.1.1.1.o, h.1.1.2.o, c_hasCell hT, g2]
/-- a number of the now's own -/
theorem CN.u {w w' : Wd} {nR j v : Int} (h : CN S M w) (hw : WOk nR w) (hj : j = 7 ∨ j = 8 ∨ j = 9) (e1 : wT w' = wT w ∧ wA w' = wA w ∧ wS w' = wS w ∧ wC w' = wC w ∧ wK w' = wK w ∧ wP w' = wP w) (hn : upM M 16 j v 16 7 = (wN w').1 ∧ ∀ i, 0 ≤ i → i < (wN w').1 → M 29 i = (wN w').2.1 i ∧ M 30 i = (wN w').2.2.1 i ∧ M 31 i = (wN w').2.2.2 i) (hx : upM M 16 j v 16 8 = wX w' ∧ upM M 16 j v 16 9 = wF w') : CN S (upM M 16 j v) w' := by
  obtain ⟨hN, hWS, hWP, d1, d2, d3, d4, d5, d6⟩ := h
  obtain ⟨i1, i2, i3, i4, i5, i6⟩ := e1
  have hk := hw.2.2.2.2.2.2.1
  have r1 : ∀ x, x ≠ 16 → upM M 16 j v x = M x := fun x y => upM_r y
  have r2 : ∀ i, i < 7 → upM M 16 j v 16 i = M 16 i := fun i y => upM_i (by omega)
  refine ⟨hN.up (by unfold pkN; omega), hWS, ⟨?_, ?_, ?_, fun i x y => ?_, ?_⟩, ?_, ?_, ?_, ?_, ?_, ?_⟩
  · rw [r2 0 (by decide), r2 1 (by decide), r2 2 (by decide), r2 4 (by decide), r2 5 (by decide), r2 6 (by decide)]; exact hWP.1
  · unfold PtT; rw [r1 (16 + 1) (by omega)]; exact hWP.2.1
  · unfold PtC; rw [r1 (16 + 7) (by omega)]; exact hWP.2.2.1
  · unfold PtC; rw [r1 _ (by omega)]; exact hWP.2.2.2.1 i x y
  · have := hWP.2.2.2.2
    unfold PA at *
    rw [r1 (16 + 12) (by omega)]; exact this
  · rw [i1]; exact d1.eq (fun x _ _ => r1 x (by omega))
  · rw [i1, i2, i3, r1 (16 + 2) (by omega), r1 (16 + 3) (by omega)]; exact d2
  · rw [i1, i4]; exact d3.eq (fun x _ _ => r1 x (by omega))
  · refine ⟨hn.1, ?_⟩
    rw [r1 (16 + 13) (by omega), r1 (16 + 14) (by omega), r1 (16 + 15) (by omega)]; exact hn.2
  · rw [i5]; exact ⟨hx.1, hx.2, by rw [r2 3 (by decide)]; exact d5.2.2⟩
  · rw [i1, i5, i6]
    intro i x y
    show CS (upM M 16 j v) (wT w) (upM M 16 j v 28 i) (wP w i)
    rw [r1 28 (by decide)]
    obtain ⟨u, u1, u2⟩ := hWP.2.2.2.2.1 i x (by omega)
    have u3 : M 28 i = 16 + 16 + 5 * u := u2
    refine (d6 i x y).eq (fun c x1 x2 => ?_)
    have x1' : M 28 i ≤ c := x1
    exact r1 c (by omega)
theorem k_force {nR : Int} {rl : Int → Ru} {w : Wd} (h : CG S M nR rl w) {r : Int} : CE S M nR rl (pX11_force S M 1 r) (opForce nR w r).1 (opForce nR w r).2 := by
  have e4 := h.2.1.2.1
  obtain ⟨n1, n2⟩ := h.1.2.2.2.2.2.2.1
  obtain ⟨x1, x2, x3⟩ := h.1.2.2.2.2.2.2.2.1
  have hok := opForce_ok h.2.2 r
  unfold opForce at hok ⊢
  by_cases g : -1 ≤ r ∧ r < nR
  · rw [if_pos g] at hok ⊢
    refine h.act (M' := upM M 16 9 r) ?_ (CN.u h.1 h.2.2 (by decide) ⟨rfl, rfl, rfl, rfl, rfl, rfl⟩ ⟨by rw [upM_i (by decide)]; exact n1, n2⟩ ⟨by rw [upM_i (by decide)]; exact x1, upM_s _ _ _ _⟩) (fun x y => upM_r (by omega)) hok
    simp [pX11_force, h.1.1.1.o, h.1.1.2.o, e4, show ¬ r < -1 by omega, g.2, x2, zlet]
  · rw [if_neg g]
    refine h.same ?_
    by_cases z : r < -1
    · simp [pX11_force, pX11_force_13, z]
    · simp [pX11_force, pX11_force_13, h.1.1.1.o, e4, z, show ¬ r < nR by omega]
theorem k_seed {nR : Int} {rl : Int → Ru} {w : Wd} (h : CG S M nR rl w) {x : Int} (hx : in32 x) : CE S M nR rl (pX11_seed S M 1 x) (opSeed w x).1 (opSeed w x).2 := by
  obtain ⟨n1, n2⟩ := h.1.2.2.2.2.2.2.1
  obtain ⟨x1, x2, x3⟩ := h.1.2.2.2.2.2.2.2.1
  have hok := opSeed_ok h.2.2 hx
  unfold opSeed at hok ⊢
  by_cases g : 0 ≤ x
  · rw [if_pos g] at hok ⊢
    refine h.act (M' := upM M 16 8 x) ?_ (CN.u h.1 h.2.2 (by decide) ⟨rfl, rfl, rfl, rfl, rfl, rfl⟩ ⟨by rw [upM_i (by decide)]; exact n1, n2⟩ ⟨upM_s _ _ _ _, by rw [upM_i (by decide)]; exact x2⟩) (fun x y => upM_r (by omega)) hok
    simp [pX11_seed, h.1.1.1.o, h.1.1.2.o, g, x1, zlet]
  · rw [if_neg g]
    refine h.same ?_
    simp [pX11_seed, g]
theorem k_count {nR : Int} {rl : Int → Ru} {w : Wd} (h : CG S M nR rl w) {T what : Int} (hT : M 2 1 = T) : CE S M nR rl (pX11_count S M 1 what) (opCount nR T w what) w := by
  have ho := h.2.2.1
  have hC := h.1.cs
  obtain ⟨t0, t1, t2, t3, t4, -, -⟩ := h.1.tt.2.2
  have a4 := h.2.1.2.1
  obtain ⟨x1, x2, x3⟩ := h.1.2.2.2.2.2.2.2.1
  have a7 := c_strokes ho (shC_of h.1.1.1).1 (ptC_of h.1.1.2).1 hC
  have a8 := c_like ho h.1.tt (shC_of h.1.1.1).1 (ptC_of h.1.1.2).1 hC
  have a6 : M 23 5 = cDy (wC w) := hC.2.2.2.2.1
  have a9 : M 23 6 = cCl (wC w) := hC.2.2.2.2.2
  have a10 : M 23 4 = cSy (wC w) := hC.2.2.2.1
  have a11 := h.1.2.2.2.2.2.2.1.1
  refine h.same ?_
  by_cases c0 : what = 0
  · subst c0; simp [pX11_count, opCount, h.1.1.1.o, h.1.1.2.o, t0]
  by_cases c1 : what = 1
  · subst c1; simp [pX11_count, opCount, h.1.1.1.o, h.1.1.2.o, t2]
  by_cases c2 : what = 2
  · subst c2; simp [pX11_count, opCount, h.1.1.1.o, h.1.1.2.o, t3]
  by_cases c3 : what = 3
  · subst c3; simp [pX11_count, opCount, h.1.1.1.o, h.1.1.2.o, t4]
  by_cases c4 : what = 4
  · subst c4; simp [pX11_count, opCount, h.1.1.1.o, a4]
  by_cases c5 : what = 5
  · subst c5; simp [pX11_count, opCount, h.1.1.1.o, h.1.1.2.o, x2]
  by_cases c6 : what = 6
  · subst c6; simp [pX11_count, opCount, h.1.1.1.o, h.1.1.2.o, a6]
  by_cases c7 : what = 7
  · subst c7; simp [pX11_count, opCount, h.1.1.1.o, h.1.1.2.o, a7]
  by_cases c8 : what = 8
  · subst c8; simp [pX11_count, opCount, h.1.1.1.o, h.1.1.2.o, a8]
  by_cases c9 : what = 9
  · subst c9; simp [pX11_count, opCount, h.1.1.1.o, h.1.1.2.o, a9]
  by_cases c10 : what = 10
  · subst c10; simp [pX11_count, opCount, h.1.1.1.o, h.1.1.2.o, a10]
  by_cases c11 : what = 11
  · subst c11; simp [pX11_count, opCount, h.1.1.1.o, h.1.1.2.o, a11]
  by_cases c12 : what = 12
  · subst c12; simp [pX11_count, opCount, h.1.1.1.o, h.1.1.2.o, x3]
  by_cases c13 : what = 13
  · subst c13; simp [pX11_count, opCount, h.1.1.1.o, h.1.1.2.o, x1]
  by_cases c14 : what = 14
  · subst c14; simp [pX11_count, opCount, h.1.1.1.o, h.1.1.2.o, hT]
  simp [pX11_count, opCount, c0, c1, c2, c3, c4, c5, c6, c7, c8, c9, c10, c11, c12, c13, c14]
end
