/-! A NEW WORLD: its rows -/
noncomputable def wStep (K : ZS → ZM → Int → Option (ZS × ZM)) (i : Int) (S : ZS) (M : ZM) (x0 : Int) : Option (ZS × ZM) := if S.1 x0 = 10 then if S.2.2 < 2000000000 then zlet (S.2.2 + 1) fun r => zlet (zNewM S M) fun M1 => zlet (zNewS S 6 0) fun S1 => if 1 ≤ r then (pX6_init S1 M1 r).bind fun q => if q.1.1 (M x0 2) = 105 ∧ (0 : Int) ≤ i ∧ i < q.1.2.1 (M x0 2) then if r = 0 ∨ q.1.1 r = 6 then zlet (upM q.2 (M x0 2) i r) fun M2 => K q.1 M2 x0 else none else none else none else none else none
def SE (S S' : ZS) (N : Int) : Prop := ∀ x, x ≤ N → S'.1 x = S.1 x ∧ S'.2.1 x = S.2.1 x
def WA (S : ZS) (b : Int) : Prop := S.1 b = 10 ∧ ShT S (b + 1) ∧ ShC S (b + 7) ∧ (S.1 (b + 12) = 105 ∧ S.2.1 (b + 12) = 20) ∧ (S.1 (b + 13) = 100 ∧ S.2.1 (b + 13) = 10) ∧ (S.1 (b + 14) = 100 ∧ S.2.1 (b + 14) = 10) ∧ (S.1 (b + 15) = 100 ∧ S.2.1 (b + 15) = 10)
def WB (M : ZM) (b : Int) : Prop := (M b 0 = b + 1 ∧ M b 1 = b + 7 ∧ M b 2 = b + 12 ∧ M b 4 = b + 13 ∧ M b 5 = b + 14 ∧ M b 6 = b + 15) ∧ PtT M (b + 1) ∧ PtC M (b + 7)
theorem ShT.se {S S' : ZS} {N a : Int} (e : SE S S' N) (h : ShT S a) (ha : a + 5 ≤ N) : ShT S' a := by
  obtain ⟨h0, h1, h2, h3, h4, h5⟩ := h
  have n0 := e a (by clear h0 h1 h2 h3 h4 h5; omega)
  have n1 := e (a + 1) (by clear h0 h1 h2 h3 h4 h5 n0; omega)
  have n2 := e (a + 2) (by clear h0 h1 h2 h3 h4 h5 n0 n1; omega)
  have n3 := e (a + 3) (by clear h0 h1 h2 h3 h4 h5 n0 n1 n2; omega)
  have n4 := e (a + 4) (by clear h0 h1 h2 h3 h4 h5 n0 n1 n2 n3; omega)
  have n5 := e (a + 5) ha
  exact ⟨n0.1.trans h0, ⟨n1.1.trans h1.1, n1.2.trans h1.2⟩, ⟨n2.1.trans h2.1, n2.2.trans h2.2⟩, ⟨n3.1.trans h3.1, n3.2.trans h3.2⟩, ⟨n4.1.trans h4.1, n4.2.trans h4.2⟩, ⟨n5.1.trans h5.1, n5.2.trans h5.2⟩⟩
theorem ShC.se {S S' : ZS} {N a : Int} (e : SE S S' N) (h : ShC S a) (ha : a + 4 ≤ N) : ShC S' a := by
  obtain ⟨h0, h1, h2, h3, h4⟩ := h
  have n0 := e a (by clear h0 h1 h2 h3 h4; omega)
  have n1 := e (a + 1) (by clear h0 h1 h2 h3 h4 n0; omega)
  have n2 := e (a + 2) (by clear h0 h1 h2 h3 h4 n0 n1; omega)
  have n3 := e (a + 3) (by clear h0 h1 h2 h3 h4 n0 n1 n2; omega)
  have n4 := e (a + 4) ha
  exact ⟨n0.1.trans h0, ⟨n1.1.trans h1.1, n1.2.trans h1.2⟩, ⟨n2.1.trans h2.1, n2.2.trans h2.2⟩, ⟨n3.1.trans h3.1, n3.2.trans h3.2⟩, ⟨n4.1.trans h4.1, n4.2.trans h4.2⟩⟩
theorem WA.se {S S' : ZS} {N b : Int} (e : SE S S' N) (h : WA S b) (hb : b + 15 ≤ N) : WA S' b := by
  have l0 : b ≤ N := by omega
  have l1 : b + 1 + 5 ≤ N := by omega
  have l2 : b + 7 + 4 ≤ N := by omega
  have l3 : b + 12 ≤ N := by omega
  have l4 : b + 13 ≤ N := by omega
  have l5 : b + 14 ≤ N := by omega
  obtain ⟨h0, h1, h2, h3, h4, h5, h6⟩ := h
  exact ⟨(e b l0).1.trans h0, h1.se e l1, h2.se e l2, ⟨(e _ l3).1.trans h3.1, (e _ l3).2.trans h3.2⟩, ⟨(e _ l4).1.trans h4.1, (e _ l4).2.trans h4.2⟩, ⟨(e _ l5).1.trans h5.1, (e _ l5).2.trans h5.2⟩, ⟨(e _ hb).1.trans h6.1, (e _ hb).2.trans h6.2⟩⟩
theorem WB.eq {M M' : ZM} {b : Int} (h : WB M b) (e0 : M' b = M b) (e1 : M' (b + 1) = M (b + 1)) (e2 : M' (b + 7) = M (b + 7)) : WB M' b := by
  unfold WB PtT PtC at *
  rw [e0, e1, e2]; exact h
/-- one row of the past made: its shape, its rows, its place -/
def WC (S : ZS) (M : ZM) (b j : Int) : Prop := ShC S (b + 16 + 5 * j) ∧ PtC M (b + 16 + 5 * j) ∧ M (b + 12) j = b + 16 + 5 * j
def WJ (S0 : ZS) (M0 : ZM) (b i : Int) (S : ZS) (M : ZM) : Prop := S.2.2 = b + 15 + 5 * i ∧ SE S0 S S0.2.2 ∧ (∀ x, x ≤ S0.2.2 → M x = M0 x) ∧ WA S b ∧ WB M b ∧ ∀ j, 0 ≤ j → j < i → WC S M b j
theorem w_step {S0 : ZS} {M0 : ZM} {b i : Int} {S : ZS} {M : ZM} (hb : b = S0.2.2 + 1) (hb1 : 1 ≤ b) (hs : b < 1999999800) (hi : 0 ≤ i ∧ i < 20) (h : WJ S0 M0 b i S M) (K : ZS → ZM → Int → Option (ZS × ZM)) : ∃ S' M', wStep K i S M b = K S' M' b ∧ WJ S0 M0 b (i + 1) S' M' := by
  obtain ⟨hn, hE, hF, hA, hB, hC⟩ := h
  have A1 := AL.mk S 6 0
  have mr : ∀ x, x ≤ S.2.2 → zNewM S M x = M x := fun x y => zNM y
  generalize hS1 : zNewS S 6 0 = S1 at A1
  generalize hM1 : zNewM S M = M1 at mr
  have c1 : S1.2.2 = S.2.2 + 1 := A1.1.1
  have r1 : (1 : Int) ≤ S.2.2 + 1 := by omega
  have er : S.2.2 + 1 = b + 16 + 5 * i := by omega
  have s1 : S.2.2 < 2000000000 := by omega
  have l0 : b ≤ S.2.2 := by omega
  have l1 : b + 1 ≤ S.2.2 := by omega
  have l7 : b + 7 ≤ S.2.2 := by omega
  have l12 : b + 12 ≤ S.2.2 := by omega
  have l15 : b + 15 ≤ S.2.2 := by omega
  have ls : S0.2.2 ≤ S.2.2 := by omega
  obtain ⟨S2, M2, a1, a2, a3, a4, a5⟩ := w_init6 (S := S1) (M := M1) (a := S.2.2 + 1) r1 (by omega) A1.2.1 (by omega)
  have c2 : S2.2.2 = b + 15 + 5 * (i + 1) := by have := a2.1; omega
  have E2 : Ext S S2 5 := A1.1.trans (by decide) a2
  have e2 : SE S S2 S.2.2 := E2.2
  have m2 : ∀ x, x ≤ S.2.2 → M2 x = M x := fun x y => (a3 x (by omega) (by omega)).trans (mr x y)
  have ne0 : b ≠ b + 12 := by omega
  have ne1 : b + 1 ≠ b + 12 := by omega
  have ne7 : b + 7 ≠ b + 12 := by omega
  have nei : ∀ j, 0 ≤ j → b + 16 + 5 * j ≠ b + 12 := fun j y => by omega
  have nex : ∀ x, x ≤ S0.2.2 → x ≠ b + 12 := fun x y => by omega
  have lx : ∀ x, x ≤ S0.2.2 → x ≤ S.2.2 := fun x y => by omega
  have lj : ∀ j, 0 ≤ j → j < i → b + 16 + 5 * j + 4 ≤ S.2.2 := fun j y z => by omega
  have lj' : ∀ j, 0 ≤ j → j < i → b + 16 + 5 * j ≤ S.2.2 := fun j y z => by omega
  have cc : ∀ j, 0 ≤ j → j < i + 1 → j < i ∨ j = i := fun j y z => by omega
  have ni : ∀ j, j < i → j ≠ i := fun j y => by omega
  have u1 : S1.2.2 + 1 = b + 16 + 5 * i + 1 := by omega
  have u2 : S1.2.2 + 2 = b + 16 + 5 * i + 2 := by omega
  have u3 : S1.2.2 + 3 = b + 16 + 5 * i + 3 := by omega
  have u4 : S1.2.2 + 4 = b + 16 + 5 * i + 4 := by omega
  have lr : S.2.2 + 1 ≤ S1.2.2 := by omega
  have e9 : M b 2 = b + 12 := hB.1.2.2.1
  have k12 := hA.2.2.2.1
  have p12 := e2 (b + 12) l12
  have q12 : S2.1 (b + 12) = 105 ∧ S2.2.1 (b + 12) = 20 := ⟨p12.1.trans k12.1, p12.2.trans k12.2⟩
  have q6 : S2.1 (S.2.2 + 1) = 6 := (a2.2 _ lr).1.trans A1.2.1
  rw [er] at a1 q6 a3 a5
  rw [u1, u2, u3, u4] at a4 a5
  have h10 : S.1 b = 10 := hA.1
  refine ⟨S2, upM M2 (b + 12) i (b + 16 + 5 * i), ?_, c2, fun x y => ?_, fun x y => ?_, hA.se e2 l15, hB.eq (by rw [upM_r ne0]; exact m2 b l0) (by rw [upM_r ne1]; exact m2 _ l1) (by rw [upM_r ne7]; exact m2 _ l7), fun j y z => ?_⟩
  · rw [er] at r1
    unfold wStep
    rw [if_pos h10, if_pos s1]
    simp only [zlet, hS1, hM1, er, if_pos r1, a1, Option.bind_some, e9, q12, q6, hi, and_self, or_true, if_true]
  · have := e2 x (lx x y)
    rw [this.1, this.2]; exact hE x y
  · rw [upM_r (nex x y), m2 x (lx x y)]; exact hF x y
  · rcases cc j y z with z | z
    · obtain ⟨w1, w2, w3⟩ := hC j y z
      refine ⟨w1.se e2 (lj j y z), ?_, ?_⟩
      · unfold PtC; rw [upM_r (nei j y), m2 _ (lj' j y z)]; exact w2
      · rw [upM_i (ni j z), m2 _ l12]; exact w3
    · subst z
      refine ⟨⟨q6, a4⟩, ?_, upM_s _ _ _ _⟩
      unfold PtC; rw [upM_r (nei j y)]; exact a5
theorem w_past {S0 : ZS} {M0 : ZM} {b : Int} {S : ZS} {M : ZM} (hb : b = S0.2.2 + 1) (hb1 : 1 ≤ b) (hs : b < 1999999800) (h : WJ S0 M0 b 0 S M) : ∃ S' M', wStep pX10_init_5000085 0 S M b = some (S', M') ∧ WJ S0 M0 b 20 S' M' := by
  obtain ⟨S1, M1, e1, h1⟩ := w_step hb hb1 hs (by decide) h pX10_init_5000085
  obtain ⟨S2, M2, e2, h2⟩ := w_step (i := 1) hb hb1 hs (by decide) h1 pX10_init_6000085
  rw [show pX10_init_5000085 S1 M1 b = wStep pX10_init_6000085 1 S1 M1 b from rfl] at e1
  obtain ⟨S3, M3, e3, h3⟩ := w_step (i := 2) hb hb1 hs (by decide) h2 pX10_init_7000085
  rw [show pX10_init_6000085 S2 M2 b = wStep pX10_init_7000085 2 S2 M2 b from rfl] at e2
  obtain ⟨S4, M4, e4, h4⟩ := w_step (i := 3) hb hb1 hs (by decide) h3 pX10_init_8000085
  rw [show pX10_init_7000085 S3 M3 b = wStep pX10_init_8000085 3 S3 M3 b from rfl] at e3
  obtain ⟨S5, M5, e5, h5⟩ := w_step (i := 4) hb hb1 hs (by decide) h4 pX10_init_9000085
  rw [show pX10_init_8000085 S4 M4 b = wStep pX10_init_9000085 4 S4 M4 b from rfl] at e4
  obtain ⟨S6, M6, e6, h6⟩ := w_step (i := 5) hb hb1 hs (by decide) h5 pX10_init_10000085
  rw [show pX10_init_9000085 S5 M5 b = wStep pX10_init_10000085 5 S5 M5 b from rfl] at e5
  obtain ⟨S7, M7, e7, h7⟩ := w_step (i := 6) hb hb1 hs (by decide) h6 pX10_init_11000085
  rw [show pX10_init_10000085 S6 M6 b = wStep pX10_init_11000085 6 S6 M6 b from rfl] at e6
  obtain ⟨S8, M8, e8, h8⟩ := w_step (i := 7) hb hb1 hs (by decide) h7 pX10_init_12000085
  rw [show pX10_init_11000085 S7 M7 b = wStep pX10_init_12000085 7 S7 M7 b from rfl] at e7
  obtain ⟨S9, M9, e9, h9⟩ := w_step (i := 8) hb hb1 hs (by decide) h8 pX10_init_13000085
  rw [show pX10_init_12000085 S8 M8 b = wStep pX10_init_13000085 8 S8 M8 b from rfl] at e8
  obtain ⟨S10, M10, e10, h10⟩ := w_step (i := 9) hb hb1 hs (by decide) h9 pX10_init_14000085
  rw [show pX10_init_13000085 S9 M9 b = wStep pX10_init_14000085 9 S9 M9 b from rfl] at e9
  obtain ⟨S11, M11, e11, h11⟩ := w_step (i := 10) hb hb1 hs (by decide) h10 pX10_init_15000085
  rw [show pX10_init_14000085 S10 M10 b = wStep pX10_init_15000085 10 S10 M10 b from rfl] at e10
  obtain ⟨S12, M12, e12, h12⟩ := w_step (i := 11) hb hb1 hs (by decide) h11 pX10_init_16000085
  rw [show pX10_init_15000085 S11 M11 b = wStep pX10_init_16000085 11 S11 M11 b from rfl] at e11
  obtain ⟨S13, M13, e13, h13⟩ := w_step (i := 12) hb hb1 hs (by decide) h12 pX10_init_17000085
  rw [show pX10_init_16000085 S12 M12 b = wStep pX10_init_17000085 12 S12 M12 b from rfl] at e12
  obtain ⟨S14, M14, e14, h14⟩ := w_step (i := 13) hb hb1 hs (by decide) h13 pX10_init_18000085
  rw [show pX10_init_17000085 S13 M13 b = wStep pX10_init_18000085 13 S13 M13 b from rfl] at e13
  obtain ⟨S15, M15, e15, h15⟩ := w_step (i := 14) hb hb1 hs (by decide) h14 pX10_init_19000085
  rw [show pX10_init_18000085 S14 M14 b = wStep pX10_init_19000085 14 S14 M14 b from rfl] at e14
  obtain ⟨S16, M16, e16, h16⟩ := w_step (i := 15) hb hb1 hs (by decide) h15 pX10_init_20000085
  rw [show pX10_init_19000085 S15 M15 b = wStep pX10_init_20000085 15 S15 M15 b from rfl] at e15
  obtain ⟨S17, M17, e17, h17⟩ := w_step (i := 16) hb hb1 hs (by decide) h16 pX10_init_21000085
  rw [show pX10_init_20000085 S16 M16 b = wStep pX10_init_21000085 16 S16 M16 b from rfl] at e16
  obtain ⟨S18, M18, e18, h18⟩ := w_step (i := 17) hb hb1 hs (by decide) h17 pX10_init_22000085
  rw [show pX10_init_21000085 S17 M17 b = wStep pX10_init_22000085 17 S17 M17 b from rfl] at e17
  obtain ⟨S19, M19, e19, h19⟩ := w_step (i := 18) hb hb1 hs (by decide) h18 pX10_init_23000085
  rw [show pX10_init_22000085 S18 M18 b = wStep pX10_init_23000085 18 S18 M18 b from rfl] at e18
  obtain ⟨S20, M20, e20, h20⟩ := w_step (i := 19) hb hb1 hs (by decide) h19 pX10_init_24000085
  rw [show pX10_init_23000085 S19 M19 b = wStep pX10_init_24000085 19 S19 M19 b from rfl] at e19
  exact ⟨S20, M20, e1.trans <| e2.trans <| e3.trans <| e4.trans <| e5.trans <| e6.trans <| e7.trans <| e8.trans <| e9.trans <| e10.trans <| e11.trans <| e12.trans <| e13.trans <| e14.trans <| e15.trans <| e16.trans <| e17.trans <| e18.trans <| e19.trans <| e20.trans <| rfl, h20⟩
