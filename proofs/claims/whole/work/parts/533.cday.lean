/-! THE CLASS: who writes, a day, days -/
section
variable {S : ZS}
theorem c_fill_5 {a v L : Int} (hk : S.1 a = 100) (hL : S.2.1 a = L) (hb : L ≤ 1000) : ∀ (k fuel : Nat) (M : ZM) (i : Int), i + k = L → 0 ≤ i → k < fuel →
    ∃ M', pJ7_fill_53178_5 S fuel M a v i L = some M' ∧ (∀ x, x ≠ a → M' x = M x) ∧ (∀ j, i ≤ j → j < L → M' a j = v) ∧ ∀ j, (j < i ∨ L ≤ j) → M' a j = M a j := by
  intro k
  induction k with
  | zero =>
    intro fuel M i h1 h2 h3
    obtain ⟨f, rfl⟩ : ∃ f, fuel = f + 1 := ⟨fuel - 1, by omega⟩
    refine ⟨M, ?_, fun _ _ => rfl, fun j x y => by omega, fun _ _ => rfl⟩
    simp [pJ7_fill_53178_5, show L ≤ i by omega]
  | succ k ih =>
    intro fuel M i h1 h2 h3
    obtain ⟨f, rfl⟩ : ∃ f, fuel = f + 1 := ⟨fuel - 1, by omega⟩
    obtain ⟨M', a1, a2, a3, a4⟩ := ih f (upM M a i v) (i + 1) (by omega) (by omega) (by omega)
    refine ⟨M', ?_, fun x y => (a2 x y).trans (upM_r y), fun j x y => ?_, fun j x => ?_⟩
    · simp only [pJ7_fill_53178_5, hk, hL, zlet]
      rw [if_neg (by omega), if_pos ⟨trivial, h2, by omega⟩, w32_i (by omega) (by omega)]
      exact a1
    · by_cases z : j = i
      · subst z; rw [a4 j (by omega), upM_s]
      · exact a3 j (by omega) y
    · rw [a4 j (by omega), upM_i (by omega)]
theorem c_fill {M : ZM} {a v L : Int} (hk : S.1 a = 100) (hL : S.2.1 a = L) (hb : 0 ≤ L ∧ L ≤ 1000) : ∃ M', pJ7_fill_53178 S M a v = some M' ∧ (∀ x, x ≠ a → M' x = M x) ∧ (∀ j, 0 ≤ j → j < L → M' a j = v) := by
  obtain ⟨M', a1, a2, a3, _⟩ := c_fill_5 (v := v) hk hL hb.2 L.toNat zFU M 0 (by omega) (by omega) (zFU_gt (by omega))
  refine ⟨M', ?_, a2, a3⟩
  simp only [pJ7_fill_53178, hk, hL, if_true]
  exact a1
variable {t : Td} {s : Sc} {a b d : Int}
theorem c_tellDay_66 (ho : TdOk t) (hO : ScOk t s) (hsep : Sep a b d) (hSC : ShC S b) (hSD : ShD S d) : ∀ (k fuel : Nat) (M : ZM) (c : Int), TT S M a t → PtC M b → PtD M d → (∀ i, 0 ≤ i → i < tSd t * tSd t → M (b + 3) i = cWh s i) → (∀ q, 0 ≤ q → q < 5 → 0 ≤ M (d + 2) q ∧ M (d + 2) q ≤ c) → c + k = tSd t * tSd t → 0 ≤ c → k < fuel →
    ∃ M', pX0_tellDay_66 S fuel M d a b c = some M' ∧ (∀ x, x ≠ d + 2 → M' x = M x) ∧ ∀ q, 0 ≤ q → q < 5 → M' (d + 2) q = M (d + 2) q + cnt (fun c => cWh s c = q) k c := by
  have hb := sq_b ho.1
  have hpn := ho.2.2.1
  unfold Sep at hsep
  intro k
  induction k with
  | zero =>
    intro fuel M c hT hP hD hW hq h1 h2 h3
    obtain ⟨f, rfl⟩ : ∃ f, fuel = f + 1 := ⟨fuel - 1, by omega⟩
    have hcc := hT.2.2.2.1
    refine ⟨M, ?_, fun _ _ => rfl, fun q _ _ => by simp [cnt]⟩
    simp [pX0_tellDay_66, hT.1, hcc, show tSd t * tSd t ≤ c by omega]
  | succ k ih =>
    intro fuel M c hT hP hD hW hq h1 h2 h3
    obtain ⟨f, rfl⟩ : ∃ f, fuel = f + 1 := ⟨fuel - 1, by omega⟩
    have hcc := hT.2.2.2.1
    have ew : w32 (c + 1) = c + 1 := w32_i (by omega) (by omega)
    have hc : ¬ tSd t * tSd t ≤ c := by omega
    have hc2 : c < 36 := by omega
    have e1 := hW c h2 (by omega)
    have hwc := hO.2.1 c h2 (by omega)
    have hst : ∃ M1, pX0_tellDay_66 S (f + 1) M d a b c = pX0_tellDay_66 S f M1 d a b (c + 1) ∧ (∀ x, x ≠ d + 2 → M1 x = M x) ∧ ∀ q, 0 ≤ q → q < 5 → M1 (d + 2) q = M (d + 2) q + (if cWh s c = q then 1 else 0) := by
      rcases hwc with ⟨w1, _⟩ | ⟨w1, _⟩
      · refine ⟨M, ?_, fun _ _ => rfl, fun q x y => by rw [if_neg (by omega)]; omega⟩
        rw [pX0_tellDay_66]
        simp [hT.1, hcc, hc, hSC, hP, h2, hc2, e1, w1, pX0_tellDay_104, pX0_tellDay_45, pX0_tellDay_28, pX0_tellDay_14, pX0_tellDay, ew]
      · have hq0 := hq (cWh s c) w1.1 (by omega)
        have w5 : ¬ 5 ≤ cWh s c := by omega
        have w0 : ¬ cWh s c < 0 := by omega
        have w6 : cWh s c < 5 := by omega
        have ew2 : w32 (M (d + 2) (cWh s c) + 1) = M (d + 2) (cWh s c) + 1 := w32_i (by omega) (by omega)
        refine ⟨upM M (d + 2) (cWh s c) (M (d + 2) (cWh s c) + 1), ?_, fun x y => upM_r y, fun q x y => ?_⟩
        · rw [pX0_tellDay_66]
          simp [hT.1, hcc, hc, hSC, hP, h2, hc2, e1, w0, w5, w6, w1.1, hSD, hD, ew2, zlet, pX0_tellDay_104, pX0_tellDay_45, pX0_tellDay_28, pX0_tellDay_14, pX0_tellDay, ew]
        · by_cases z : cWh s c = q
          · rw [if_pos z, ← z, upM_s]
          · rw [if_neg z, upM_i (fun y => z y.symm)]; omega
    obtain ⟨M1, x1, x2, x3⟩ := hst
    obtain ⟨M', a1, a2, a3⟩ := ih f M1 (c + 1) (hT.eq (fun y _ _ => x2 y (by omega))) (by unfold PtC; rw [x2 b (by omega)]; exact hP) (by unfold PtD; rw [x2 d (by omega)]; exact hD) (fun i x y => by rw [x2 _ (by omega)]; exact hW i x y) (fun q x y => by
      have := hq q x y
      rw [x3 q x y]
      split <;> omega) (by omega) (by omega) (by omega)
    refine ⟨M', by rw [x1]; exact a1, fun x y => (a2 x y).trans (x2 x y), fun q x y => ?_⟩
    rw [a3 q x y, x3 q x y]
    simp only [cnt]
    omega
/-- the words of a day; the inks -/
def DayW (M : ZM) (t : Td) (d : Int) (s : Sc) : Prop := M (d + 1) 4 = wOn t (cDy s) ∧ M (d + 1) 5 = fOn t (cDy s) ∧ M (d + 1) 10 = fOn t (cDy s + 1) ∧ M (d + 1) 11 = cDy s ∧ ∀ q, 0 ≤ q → q < 5 → M (d + 2) q = inkS t s q
theorem c_tellDay {M : ZM} (ho : TdOk t) (hO : ScOk t s) (hd : 0 ≤ cDy s ∧ cDy s ≤ 1000000) (hsep : Sep a b d) (hSC : ShC S b) (hSD : ShD S d) (hT : TT S M a t) (hP : PtC M b) (hD : PtD M d) (hC : CS M t b s) :
    ∃ M', pX0_tellDay S M d a b = some M' ∧ (∀ x, x ≠ d + 1 → x ≠ d + 2 → M' x = M x) ∧ DayW M' t d s := by
  have hn := nCl_b ho
  have hsep' := hsep
  unfold Sep at hsep'
  have h5 := hC.2.2.2.2.1
  have hb1 : ∀ {i v : Int} {M : ZM}, upM M (d + 1) i v b = M b := fun {i v M} => upM_r (by omega)
  have hb2 : ∀ {i v : Int} {M : ZM}, upM M (d + 1) i v d = M d := fun {i v M} => upM_r (by omega)
  have hT1 := hT.eq (M' := upM M (d + 1) 4 (wOn t (cDy s))) (fun x _ _ => upM_r (by omega))
  have hT2 := hT1.eq (M' := upM (upM M (d + 1) 4 (wOn t (cDy s))) (d + 1) 5 (fOn t (cDy s))) (fun x _ _ => upM_r (by omega))
  generalize hMe : upM (upM (upM (upM M (d + 1) 4 (wOn t (cDy s))) (d + 1) 5 (fOn t (cDy s))) (d + 1) 10 (fOn t (cDy s + 1))) (d + 1) 11 (cDy s) = Me
  have hme : ∀ x, x ≠ d + 1 → Me x = M x := fun x y => by rw [← hMe, upM_r y, upM_r y, upM_r y, upM_r y]
  obtain ⟨M1, f1, f2, f3⟩ := c_fill (M := Me) (v := 0) hSD.2.2.1.1 hSD.2.2.1.2 (by omega)
  obtain ⟨M2, g1, g2, g3⟩ := c_tellDay_66 ho hO hsep hSC hSD (nCl t) zFU M1 0 (hT.eq (fun x _ _ => by rw [f2 x (by omega), hme x (by omega)])) (by unfold PtC; rw [f2 b (by omega), hme b (by omega)]; exact hP) (by unfold PtD; rw [f2 d (by omega), hme d (by omega)]; exact hD) (fun i x y => by rw [f2 _ (by omega), hme _ (by omega)]; exact (hC.2.1 i x y).1) (fun q x y => by rw [f3 q x y]; omega) (by omega) (by omega) (zFU_gt (by omega))
  refine ⟨M2, ?_, fun x y z => by rw [g2 x z, f2 x z, hme x y], ?_⟩
  · have hd1 : Me d 1 = d + 2 := by rw [hme d (by omega)]; exact hD.2.1
    simp [pX0_tellDay_104, pX0_tellDay_45, pX0_tellDay_28, pX0_tellDay_14, pX0_tellDay, hSD, hSC, hT.1, h5, c_wayOn hT ho hd.1, hD, zlet, hb1, hb2, c_strengthOn hT1 ho hd.1, c_strengthOn hT2 ho (d := cDy s + 1) (by omega), w32_i (x := cDy s + 1) (by omega) (by omega), hMe, hd1, f1, g1]
  · have e1 : M2 (d + 1) = Me (d + 1) := by rw [g2 _ (by omega), f2 _ (by omega)]
    refine ⟨?_, ?_, ?_, ?_, fun q x y => ?_⟩
    · rw [e1, ← hMe, upM_i (by omega), upM_i (by omega), upM_i (by omega), upM_s]
    · rw [e1, ← hMe, upM_i (by omega), upM_i (by omega), upM_s]
    · rw [e1, ← hMe, upM_i (by omega), upM_s]
    · rw [e1, ← hMe, upM_s]
    · rw [g3 q x y, f3 q x y, Int.zero_add]; rfl
theorem c_tellPen {M : ZM} (ho : TdOk t) (hs : 2 ≤ tSd t ∧ tSd t ≤ 6) (hO : ScOk t s) (hsep : Sep a b d) (hSC : ShC S b) (hSD : ShD S d) (hT : TT S M a t) (hP : PtC M b) (hD : PtD M d) (hC : CS M t b s) (hw : DayW M t d s) {q : Int} (hq : 0 ≤ q ∧ q < tPn t) :
    ∃ M', pX0_tellPen S M d a b q = some M' ∧ (∀ x, x ≠ d + 1 → M' x = M x) ∧ (∀ k, 0 ≤ k → k < 12 → M' (d + 1) k = askS t s q k) ∧ DayW M' t d s := by
  have hp := ho.2.2.1
  have hb := sq_b ho.1
  have hsep' := hsep
  unfold Sep at hsep'
  have hat := (hO.1 q hq.1 hq.2).1
  obtain ⟨e1, e2⟩ := hC.1 q hq.1 hq.2
  have e3 := (hC.2.1 _ hat.1 hat.2).1
  have e4 := hT.2.2.2.2.2.2.2.2 (cAt s q) hat.1 (by omega)
  have hb1 : ∀ {i v : Int} {M : ZM}, upM M (d + 1) i v b = M b := fun {i v M} => upM_r (by omega)
  have hb2 : ∀ {i v : Int} {M : ZM}, upM M (d + 1) i v d = M d := fun {i v M} => upM_r (by omega)
  have hb3 : ∀ {i v : Int} {M : ZM}, upM M (d + 1) i v a = M a := fun {i v M} => upM_r (by omega)
  have hb4 : ∀ {i v : Int} {M : ZM}, upM M (d + 1) i v (b + 2) = M (b + 2) := fun {i v M} => upM_r (by omega)
  have hb5 : ∀ {i v : Int} {M : ZM}, upM M (d + 1) i v (d + 2) = M (d + 2) := fun {i v M} => upM_r (by omega)
  have hb6 : ∀ {i v : Int} {M : ZM}, upM M (d + 1) i v (a + 5) = M (a + 5) := fun {i v M} => upM_r (by omega)
  have hT1 := hT.eq (M' := upM M (d + 1) 0 q) (fun x _ _ => upM_r (by omega))
  have hT2 := hT1.eq (M' := upM (upM M (d + 1) 0 q) (d + 1) 1 ((cAt s q).tdiv (tSd t))) (fun x _ _ => upM_r (by omega))
  have hq5 : 0 ≤ q ∧ q < 5 := by omega
  have hat36 : 0 ≤ cAt s q ∧ cAt s q < 36 := by omega
  obtain ⟨w1, w2, w3, w4, w5⟩ := hw
  have eink := w5 q hq5.1 hq5.2
  generalize hMe : upM (upM (upM (upM (upM (upM (upM (upM M (d + 1) 0 q) (d + 1) 1 ((cAt s q).tdiv (tSd t))) (d + 1) 2 ((cAt s q).tmod (tSd t))) (d + 1) 3 (cSt s q)) (d + 1) 6 (inkS t s q)) (d + 1) 7 (if cWh s (cAt s q) = -1 then 0 else 1)) (d + 1) 8 (if cWh s (cAt s q) = q then 1 else 0)) (d + 1) 9 (tMk t (cAt s q)) = Me
  have hme : ∀ x, x ≠ d + 1 → Me x = M x := fun x y => by rw [← hMe]; simp only [upM_r y]
  have hk : ∀ k, 0 ≤ k → k < 12 → Me (d + 1) k = askS t s q k := by
    intro k k1 k2
    have : k = 0 ∨ k = 1 ∨ k = 2 ∨ k = 3 ∨ k = 4 ∨ k = 5 ∨ k = 6 ∨ k = 7 ∨ k = 8 ∨ k = 9 ∨ k = 10 ∨ k = 11 := by omega
    rw [← hMe]
    rcases this with rfl | rfl | rfl | rfl | rfl | rfl | rfl | rfl | rfl | rfl | rfl | rfl <;> simp [upM_ap, askS, w1, w2, w3, w4]
  refine ⟨Me, ?_, hme, hk, ?_⟩
  · rw [← hMe]
    simp [pX0_tellPen_123, pX0_tellPen_108, pX0_tellPen_90, pX0_tellPen_73, pX0_tellPen_48, pX0_tellPen_24, pX0_tellPen, hSC, hSD, hP, hD, hq5, hat36, e1, e3, zlet, hb1, hb2, hb3, hb4, hb5, hb6, hT.1, c_rowOf hT1 hs hat, c_columnOf hT2 hs, e2, eink, hT.2.1, e4]
  · refine ⟨?_, ?_, ?_, ?_, fun i x y => by rw [hme _ (by omega)]; exact w5 i x y⟩
    · rw [hk 4 (by omega) (by omega)]; rfl
    · rw [hk 5 (by omega) (by omega)]; rfl
    · rw [hk 10 (by omega) (by omega)]; rfl
    · rw [hk 11 (by omega) (by omega)]; rfl
/-- the rule asked: what the class's sum comes to -/
def CRu (S : ZS) (M : ZM) (e d : Int) (r : Ru) : Prop := (r = none → e = 0) ∧ ∀ f, r = some f → 214 < e ∧ 214 < M e 0 ∧ S.1 e = 4 ∧ ∀ (M' : ZM) (w : Int → Int), M' e = M e → M' (M e 0) = M (M e 0) → (∀ k, 0 ≤ k → k < 12 → M' (d + 1) k = w k) → ∃ M'', pX4_sum S M' e (d + 1) (d + 3) = some (f w, M'') ∧ ∀ x, x ≠ d + 3 → M'' x = M' x
theorem CRu.eq {M M1 : ZM} {e : Int} {r : Ru} (h : CRu S M e d r) (q : ∀ x, 214 < x → M1 x = M x) : CRu S M1 e d r := by
  refine ⟨h.1, fun f z => ?_⟩
  obtain ⟨h1, h2, h3, h4⟩ := h.2 f z
  have e1 := q e h1
  have e2 := q _ h2
  rw [e1]
  refine ⟨h1, h2, h3, fun M' w x y z => h4 M' w x (y.trans e2) z⟩
theorem c_writersBy_12 (ho : TdOk t) (hs : 2 ≤ tSd t ∧ tSd t ≤ 6) (hO : ScOk t s) (hsep : Sep a b d) (hSC : ShC S b) (hSD : ShD S d) {e : Int} {g : (Int → Int) → Int} : ∀ (k fuel : Nat) (M : ZM) (q w : Int), CRu S M e d (some g) → TT S M a t → PtC M b → PtD M d → CS M t b s → DayW M t d s → q + k = tPn t → 0 ≤ q → in32 w → k < fuel →
    ∃ M', pX0_writersBy_12 S fuel M d a b e w q = some (setF (wrS t (some g) s) k q w, M') ∧ ∀ x, x ≠ d + 1 → x ≠ d + 2 → x ≠ d + 3 → M' x = M x := by
  have hp := ho.2.2.1
  have hsep' := hsep
  unfold Sep at hsep'
  intro k
  induction k with
  | zero =>
    intro fuel M q w hr hT hP hD hC hw h1 h2 h3 h4
    obtain ⟨f, rfl⟩ : ∃ f, fuel = f + 1 := ⟨fuel - 1, by omega⟩
    have hpn := hT.2.2.2.2.2.1
    exact ⟨M, by simp [pX0_writersBy_12, hT.1, hpn, show tPn t ≤ q by omega, setF], fun _ _ _ _ => rfl⟩
  | succ k ih =>
    intro fuel M q w hr hT hP hD hC hw h1 h2 h3 h4
    obtain ⟨f, rfl⟩ : ∃ f, fuel = f + 1 := ⟨fuel - 1, by omega⟩
    have hpn := hT.2.2.2.2.2.1
    have ew : w32 (q + 1) = q + 1 := w32_i (by omega) (by omega)
    have g2 : ¬ tPn t ≤ q := by omega
    have e4 := hC.2.2.2.1
    have hst : ∃ M1, pX0_writersBy_12 S (f + 1) M d a b e w q = pX0_writersBy_12 S f M1 d a b e (zor w (if wrS t (some g) s q = true then zshl 1 q else 0)) (q + 1) ∧ (∀ x, x ≠ d + 1 → x ≠ d + 3 → M1 x = M x) ∧ DayW M1 t d s := by
      by_cases c1 : zand (zshr (cSy s) q) 1 = 1
      · refine ⟨M, ?_, fun _ _ _ => rfl, hw⟩
        rw [pX0_writersBy_12]
        simp [hT.1, hpn, g2, hSC, c_isStayed hSC, e4, c1, pX0_writersBy_64, pX0_writersBy, ew, wrS, zor_0 h3]
      · obtain ⟨M1, a1, a2, a3, a4⟩ := c_tellPen ho hs hO hsep hSC hSD hT hP hD hC hw (q := q) (by omega)
        obtain ⟨r1, r2, r3, r4⟩ := hr.2 g rfl
        have hd0 : M1 d 0 = d + 1 := by rw [a2 d (by omega)]; exact hD.1
        have hd2 : M1 d 2 = d + 3 := by rw [a2 d (by omega)]; exact hD.2.2
        obtain ⟨M2, b1, b2⟩ := r4 M1 (askS t s q) (a2 e (by omega)) (a2 _ (by omega)) a3
        refine ⟨M2, ?_, fun x y z => (b2 x z).trans (a2 x y), ?_⟩
        · rw [pX0_writersBy_12]
          by_cases z : 0 < g (askS t s q)
          · have : ¬ zcmp (g (askS t s q)) 0 ≤ 0 := by unfold zcmp; rw [if_neg (by omega), if_neg (by omega)]; decide
            simp [hT.1, hpn, g2, hSC, hSD, c_isStayed hSC, e4, c1, a1, r3, hd0, hd2, b1, this, pX0_writersBy_64, pX0_writersBy, ew, wrS, z]
          · have : zcmp (g (askS t s q)) 0 ≤ 0 := by unfold zcmp; split <;> (try split) <;> omega
            simp [hT.1, hpn, g2, hSC, hSD, c_isStayed hSC, e4, c1, a1, r3, hd0, hd2, b1, this, pX0_writersBy_64, pX0_writersBy, ew, wrS, z, zor_0 h3]
        · unfold DayW at *
          rw [b2 _ (by omega), b2 _ (by omega)]; exact a4
    obtain ⟨M1, e1, e2, e3⟩ := hst
    obtain ⟨M', a1, a2⟩ := ih f M1 (q + 1) _ (hr.eq (fun x y => e2 x (by omega) (by omega))) (hT.eq (fun x _ _ => e2 x (by omega) (by omega))) (by unfold PtC; rw [e2 b (by omega) (by omega)]; exact hP) (by unfold PtD; rw [e2 d (by omega) (by omega)]; exact hD) (hC.eq (fun x _ _ => e2 x (by omega) (by omega))) e3 (by omega) (by omega) (zor_in _ _) (by omega)
    exact ⟨M', by rw [e1]; exact a1, fun x y z u => (a2 x y z u).trans (e2 x y u)⟩
end
