/-! A NEW WORLD: the whole of it -/
def HT (S : ZS) (M : ZM) (a : Int) : Prop := ShT S a ∧ PtT M a
def HC (S : ZS) (M : ZM) (a : Int) : Prop := ShC S a ∧ PtC M a
def K1 (S : ZS) (a k : Int) : Prop := S.1 a = k
def V1 (M : ZM) (a j v : Int) : Prop := M a j = v
/-- a told and a scene made -/
def WD (S0 : ZS) (M0 : ZM) (b : Int) (S : ZS) (M : ZM) : Prop := S.2.2 = b + 11 ∧ SE S0 S S0.2.2 ∧ (∀ x, x ≤ S0.2.2 → M x = M0 x) ∧ K1 S b 10 ∧ HT S M (b + 1) ∧ HC S M (b + 7) ∧ V1 M b 0 (b + 1) ∧ V1 M b 1 (b + 7)
theorem w_told {S : ZS} {M : ZM} {a : Int} (h1 : 1 ≤ a) (ha : a = S.2.2) (hk : K1 S a 9) (hs : S.2.2 < 1999999990) : ∃ S' M', pX9_init S M a = some (S', M') ∧ Ext S S' 5 ∧ (∀ x, x < a → M' x = M x) ∧ HT S' M' a := by
  subst ha
  obtain ⟨S', M', a1, a2, a3, a4, a5⟩ := w_init9 (M := M) h1 (Int.le_refl _) hk hs
  exact ⟨S', M', a1, a2, fun x y => a3 x (by clear a4 a5; omega) (by clear a4 a5; omega), ⟨⟨(a2.2 _ (Int.le_refl _)).1.trans hk, a4⟩, a5⟩⟩
theorem w_scene {S : ZS} {M : ZM} {a : Int} (h1 : 1 ≤ a) (ha : a = S.2.2) (hk : K1 S a 6) (hs : S.2.2 < 1999999990) : ∃ S' M', pX6_init S M a = some (S', M') ∧ Ext S S' 4 ∧ (∀ x, x < a → M' x = M x) ∧ HC S' M' a := by
  subst ha
  obtain ⟨S', M', a1, a2, a3, a4, a5⟩ := w_init6 (M := M) h1 (Int.le_refl _) hk hs
  exact ⟨S', M', a1, a2, fun x y => a3 x (by clear a4 a5; omega) (by clear a4 a5; omega), ⟨⟨(a2.2 _ (Int.le_refl _)).1.trans hk, a4⟩, a5⟩⟩
theorem w_new1 {S0 : ZS} {M0 : ZM} {b : Int} (hb : b = S0.2.2 + 1) (hb1 : 1 ≤ b) (hs : b < 1999999800) : ∃ S' M', pX10_init (zNewS S0 10 0) (zNewM S0 M0) b = pX10_init_2000026 S' M' b ∧ WD S0 M0 b S' M' := by
  have A0 := AL.mk S0 10 0
  have n0 : ∀ x, x ≤ S0.2.2 → zNewM S0 M0 x = M0 x := fun x y => zNM y
  generalize hSa : zNewS S0 10 0 = Sa at A0
  generalize hMa : zNewM S0 M0 = Ma at n0
  have ca : Sa.2.2 = b := by have := A0.1.1; omega
  have A1 := AL.mk Sa 9 0
  have n1 : ∀ x, x ≤ Sa.2.2 → zNewM Sa Ma x = Ma x := fun x y => zNM y
  generalize hSb : zNewS Sa 9 0 = Sb at A1
  generalize hMb : zNewM Sa Ma = Mb at n1
  have cb : Sb.2.2 = b + 1 := by have := A1.1.1; omega
  have k9 : K1 Sb (b + 1) 9 := by have := A1.2.1; rw [ca] at this; exact this
  have ka : K1 Sa b 10 := by have := A0.2.1; rw [← hb] at this; exact this
  obtain ⟨Sc, Mc, a1, a2, a3, hT⟩ := w_told (S := Sb) (M := Mb) (a := b + 1) (by omega) (by omega) k9 (by omega)
  have cc : Sc.2.2 = b + 6 := by have := a2.1; omega
  generalize hMd : upM Mc b 0 (b + 1) = Md
  have fd : ∀ x, x < b → Md x = Ma x := fun x y => by rw [← hMd, upM_r (by omega), a3 x (by omega), n1 x (by omega)]
  have A2 := AL.mk Sc 6 0
  have n2 : ∀ x, x ≤ Sc.2.2 → zNewM Sc Md x = Md x := fun x y => zNM y
  generalize hSd : zNewS Sc 6 0 = Sd at A2
  generalize hMe : zNewM Sc Md = Me at n2
  have cd : Sd.2.2 = b + 7 := by have := A2.1.1; omega
  have rc : Sc.2.2 + 1 = b + 7 := by omega
  have ra : Sa.2.2 + 1 = b + 1 := by omega
  have k6 : K1 Sd (b + 7) 6 := by have := A2.2.1; rw [rc] at this; exact this
  obtain ⟨Se, Mf, b1, b2, b3, hC⟩ := w_scene (S := Sd) (M := Me) (a := b + 7) (by omega) (by omega) k6 (by omega)
  have ce : Se.2.2 = b + 11 := by have := b2.1; omega
  generalize hMg : upM Mf b 1 (b + 7) = Mg
  have E2 : Ext Sc Se 5 := A2.1.trans (by decide) b2
  have E1 : Ext Sa Se 11 := A1.1.trans (by decide) (a2.trans (by decide) E2)
  have E0 : Ext S0 Se 12 := A0.1.trans (by decide) E1
  have y1 : b + 1 ≠ b := by omega
  have y7 : b + 7 ≠ b := by omega
  have v0 : b ≤ Sa.2.2 := by omega
  have vc : b ≤ Sc.2.2 := by omega
  have v1 : b + 1 ≤ Sc.2.2 := by omega
  have v6 : b + 1 + 5 ≤ Sc.2.2 := by omega
  have w1 : b + 1 < b + 7 := by omega
  have w0 : b < b + 7 := by omega
  have r1 : (1 : Int) ≤ b + 1 := by omega
  have r7 : (1 : Int) ≤ b + 7 := by omega
  have d1 : Sa.2.2 < 2000000000 := by omega
  have d2 : Sc.2.2 < 2000000000 := by omega
  have hx : ∀ x, x ≤ S0.2.2 → x < b ∧ x ≠ b ∧ x < b + 7 ∧ x ≤ Sc.2.2 := fun x y => by omega
  have te : K1 Se b 10 := (E1.2 b v0).1.trans ka
  have tc : Sc.1 b = 10 := (E2.2 b vc).1.symm.trans te
  have te' : Se.1 b = 10 := te
  refine ⟨Se, Mg, ?_, ce, E0.2, fun x y => ?_, te, ⟨hT.1.se E2.2 v6, ?_⟩, ⟨hC.1, ?_⟩, ?_, ?_⟩
  · simp only [pX10_init, if_pos hb1, if_pos d1, zlet, ra, hSb, hMb, if_pos r1, a1, Option.bind_some, if_pos tc, hMd, pX10_init_1000015, if_pos d2, rc, hSd, hMe, if_pos r7, b1, if_pos te', hMg]
  · obtain ⟨z1, z2, z3, z4⟩ := hx x y
    rw [← hMg, upM_r z2, b3 x z3, n2 x z4, fd x z1, n0 x y]
  · unfold PtT
    rw [← hMg, upM_r y1, b3 _ w1, n2 _ v1, ← hMd, upM_r y1]; exact hT.2
  · unfold PtC
    rw [← hMg, upM_r y7]; exact hC.2
  · show Mg b 0 = b + 1
    rw [← hMg, upM_i (by decide), b3 b w0, n2 b vc, ← hMd, upM_s]
  · show Mg b 1 = b + 7
    rw [← hMg, upM_s]
theorem w_new2 {S0 : ZS} {M0 : ZM} {b : Int} {Se : ZS} {Mg : ZM} (hb : b = S0.2.2 + 1) (hb1 : 1 ≤ b) (hs : b < 1999999800) (h : WD S0 M0 b Se Mg) : ∃ S' M', pX10_init_2000026 Se Mg b = wStep pX10_init_5000085 0 S' M' b ∧ WJ S0 M0 b 0 S' M' := by
  obtain ⟨ce, hE, hF, hk, hT, hC, o0, o1⟩ := h
  have A3 := AL.mk Se 105 20
  generalize hSf : zNewS Se 105 20 = Sf at A3
  have A4 := AL.mk Sf 100 10
  generalize hSg : zNewS Sf 100 10 = Sg at A4
  have A5 := AL.mk Sg 100 10
  generalize hSh : zNewS Sg 100 10 = Sh at A5
  have A6 := AL.mk Sh 100 10
  generalize hSi : zNewS Sh 100 10 = Si at A6
  have cf : Sf.2.2 = b + 12 := by have := A3.1.1; omega
  have cg : Sg.2.2 = b + 13 := by have := A4.1.1; omega
  have ch : Sh.2.2 = b + 14 := by have := A5.1.1; omega
  have ci : Si.2.2 = b + 15 + 5 * 0 := by have := A6.1.1; omega
  have rf : Se.2.2 + 1 = b + 12 := by omega
  have rg : Sf.2.2 + 1 = b + 13 := by omega
  have rh : Sg.2.2 + 1 = b + 14 := by omega
  have ri : Sh.2.2 + 1 = b + 15 := by omega
  have v1 : b + 1 + 5 ≤ Se.2.2 := by omega
  have v2 : b + 7 + 4 ≤ Se.2.2 := by omega
  have v3 : b + 12 ≤ Sf.2.2 := by omega
  have v4 : b + 13 ≤ Sg.2.2 := by omega
  have v5 : b + 14 ≤ Sh.2.2 := by omega
  have we : b ≤ Se.2.2 := by omega
  have wf : b ≤ Sf.2.2 := by omega
  have wg : b ≤ Sg.2.2 := by omega
  have wh : b ≤ Sh.2.2 := by omega
  have le : ∀ x, x ≤ Se.2.2 → x ≤ Sf.2.2 ∧ x ≤ Sg.2.2 ∧ x ≤ Sh.2.2 := fun x y => by omega
  have x1 : b + 1 ≤ Se.2.2 := by omega
  have x7 : b + 7 ≤ Se.2.2 := by omega
  have y1 : b + 1 ≠ b := by omega
  have y7 : b + 7 ≠ b := by omega
  have hx : ∀ x, x ≤ S0.2.2 → x ≤ Se.2.2 ∧ x ≠ b := fun x y => by omega
  have d3 : Se.2.2 < 2000000000 := by omega
  have d4 : Sf.2.2 < 2000000000 := by omega
  have d5 : Sg.2.2 < 2000000000 := by omega
  have d6 : Sh.2.2 < 2000000000 := by omega
  have E6 : Ext Sh Si 1 := A6.1
  have E5 : Ext Sg Si 2 := A5.1.trans (by decide) E6
  have E4 : Ext Sf Si 3 := A4.1.trans (by decide) E5
  have E3 : Ext Se Si 4 := A3.1.trans (by decide) E4
  have f3 : Sf.1 (b + 12) = 105 ∧ Sf.2.1 (b + 12) = 20 := by have := A3.2; rw [rf] at this; exact this
  have f4 : Sg.1 (b + 13) = 100 ∧ Sg.2.1 (b + 13) = 10 := by have := A4.2; rw [rg] at this; exact this
  have f5 : Sh.1 (b + 14) = 100 ∧ Sh.2.1 (b + 14) = 10 := by have := A5.2; rw [rh] at this; exact this
  have f6 : Si.1 (b + 15) = 100 ∧ Si.2.1 (b + 15) = 10 := by have := A6.2; rw [ri] at this; exact this
  have te : Se.1 b = 10 := hk
  have ti : Si.1 b = 10 := (E3.2 b we).1.trans te
  have tf : Sf.1 b = 10 := (E4.2 b wf).1.symm.trans ti
  have tg : Sg.1 b = 10 := (E5.2 b wg).1.symm.trans ti
  have th : Sh.1 b = 10 := (E6.2 b wh).1.symm.trans ti
  have hWA : WA Si b := ⟨ti, hT.1.se E3.2 v1, hC.1.se E3.2 v2, ⟨(E4.2 _ v3).1.trans f3.1, (E4.2 _ v3).2.trans f3.2⟩, ⟨(E5.2 _ v4).1.trans f4.1, (E5.2 _ v4).2.trans f4.2⟩, ⟨(E6.2 _ v5).1.trans f5.1, (E6.2 _ v5).2.trans f5.2⟩, f6⟩
  generalize hMh : upM (zNewM Se Mg) b 2 (b + 12) = Mh
  generalize hMi : upM (zNewM Sf Mh) b 4 (b + 13) = Mi
  generalize hMj : upM (zNewM Sg Mi) b 5 (b + 14) = Mj
  generalize hMk : upM (zNewM Sh Mj) b 6 (b + 15) = Mk
  generalize hMl : upM Mk b 9 (-1) = Ml
  have gl : ∀ x, x ≤ Se.2.2 → x ≠ b → Ml x = Mg x := fun x y z => by
    rw [← hMl, upM_r z, ← hMk, upM_r z, zNM (le x y).2.2, ← hMj, upM_r z, zNM (le x y).2.1, ← hMi, upM_r z, zNM (le x y).1, ← hMh, upM_r z, zNM y]
  have oh : ∀ j, j ≠ 2 → Mh b j = Mg b j := fun j y => by rw [← hMh, upM_i y, zNM we]
  have oh2 : Mh b 2 = b + 12 := by rw [← hMh, upM_s]
  have oi : ∀ j, j ≠ 4 → Mi b j = Mh b j := fun j y => by rw [← hMi, upM_i y, zNM wf]
  have oi4 : Mi b 4 = b + 13 := by rw [← hMi, upM_s]
  have oj : ∀ j, j ≠ 5 → Mj b j = Mi b j := fun j y => by rw [← hMj, upM_i y, zNM wg]
  have oj5 : Mj b 5 = b + 14 := by rw [← hMj, upM_s]
  have ok : ∀ j, j ≠ 6 → Mk b j = Mj b j := fun j y => by rw [← hMk, upM_i y, zNM wh]
  have ok6 : Mk b 6 = b + 15 := by rw [← hMk, upM_s]
  have ol : ∀ j, j ≠ 9 → Ml b j = Mk b j := fun j y => by rw [← hMl, upM_i y]
  have hWB : WB Ml b := by
    refine ⟨⟨?_, ?_, ?_, ?_, ?_, ?_⟩, ?_, ?_⟩
    · rw [ol 0 (by decide), ok 0 (by decide), oj 0 (by decide), oi 0 (by decide), oh 0 (by decide)]; exact o0
    · rw [ol 1 (by decide), ok 1 (by decide), oj 1 (by decide), oi 1 (by decide), oh 1 (by decide)]; exact o1
    · rw [ol 2 (by decide), ok 2 (by decide), oj 2 (by decide), oi 2 (by decide)]; exact oh2
    · rw [ol 4 (by decide), ok 4 (by decide), oj 4 (by decide)]; exact oi4
    · rw [ol 5 (by decide), ok 5 (by decide)]; exact oj5
    · rw [ol 6 (by decide)]; exact ok6
    · unfold PtT
      rw [gl (b + 1) x1 y1]; exact hT.2
    · unfold PtC
      rw [gl (b + 7) x7 y7]; exact hC.2
  refine ⟨Si, Ml, ?_, ci, fun x y => ?_, fun x y => ?_, hWA, hWB, fun j y z => absurd (Int.lt_of_le_of_lt y z) (Int.lt_irrefl 0)⟩
  · simp only [pX10_init_2000026, zlet, if_pos d3, rf, hSf, if_pos tf, hMh, if_pos d4, rg, hSg, if_pos tg, hMi, pX10_init_3000043, if_pos d5, rh, hSh, if_pos th, hMj, if_pos d6, ri, hSi, if_pos ti, hMk, pX10_init_4000059, hMl, wStep]
  · have := E3.2 x (hx x y).1
    rw [this.1, this.2]; exact hE x y
  · rw [gl x (hx x y).1 (hx x y).2]; exact hF x y
theorem w_new {S0 : ZS} {M0 : ZM} {b : Int} (hb : b = S0.2.2 + 1) (hb1 : 1 ≤ b) (hs : b < 1999999800) : ∃ S' M', pX10_init (zNewS S0 10 0) (zNewM S0 M0) b = some (S', M') ∧ Ext S0 S' 116 ∧ (∀ x, x ≤ S0.2.2 → M' x = M0 x) ∧ WSh S' b ∧ WPt M' b := by
  obtain ⟨Se, Mg, e1, h1⟩ := w_new1 (M0 := M0) hb hb1 hs
  obtain ⟨Si, Ml, e2, h2⟩ := w_new2 hb hb1 hs h1
  obtain ⟨S', M', g1, g2, g3, g4, g5, g6, g7⟩ := w_past hb hb1 hs h2
  have c : S'.2.2 = S0.2.2 + 116 := by omega
  have ne : ∀ i j : Int, i ≠ j → b + 16 + 5 * i ≠ b + 16 + 5 * j := fun i j w => by omega
  refine ⟨S', M', e1.trans (e2.trans g1), ⟨c, g3⟩, g4, ⟨g5.1, g5.2.1, g5.2.2.1, g5.2.2.2.1, g5.2.2.2.2.1, g5.2.2.2.2.2.1, g5.2.2.2.2.2.2, fun i x y => (g7 i x y).1⟩, ⟨g6.1, g6.2.1, g6.2.2, fun i x y => (g7 i x y).2.1, fun i x y => ⟨i, ⟨x, y⟩, (g7 i x y).2.2⟩, fun i j x y z u v => ?_⟩⟩
  rw [(g7 i x y).2.2, (g7 j z u).2.2]; exact ne i j v
