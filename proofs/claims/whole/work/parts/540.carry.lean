/-! THE REFERENCE: rows carried into an image and back -/
section
variable {S : ZS}
theorem r_carry_o2 (hS : ShR S) {r L : Int} (hk : S.1 r = 100) (hL : S.2.1 r = L) (hr : r ≠ 176 ∧ r ≠ 213) (hb : L ≤ 1700) : ∀ (k fuel : Nat) (M : ZM) (i : Int), i + k = L → 0 ≤ i → 0 ≤ M 176 52 ∧ M 176 52 + k ≤ 10000 → M 176 53 = 0 → PtR M → k < fuel →
    ∃ M', pX12_carryRow_2 S fuel M 176 r i = some M' ∧ (∀ a, a ≠ 176 → a ≠ 213 → M' a = M a) ∧ (∀ j, j ≠ 52 → M' 176 j = M 176 j) ∧ M' 176 52 = M 176 52 + k ∧ (∀ j, i ≤ j → j < L → M' 213 (M 176 52 + (j - i)) = M r j) ∧ (∀ j, (j < M 176 52 ∨ M 176 52 + k ≤ j) → M' 213 j = M 213 j) := by
  intro k
  induction k with
  | zero =>
    intro fuel M i h1 h2 h3 h4 hM h5
    obtain ⟨f, rfl⟩ : ∃ f, fuel = f + 1 := ⟨fuel - 1, by omega⟩
    refine ⟨M, ?_, fun _ _ _ => rfl, fun _ _ => rfl, by omega, fun j x y => by omega, fun _ _ => rfl⟩
    simp [pX12_carryRow_2, hk, hL, show L ≤ i by omega]
  | succ k ih =>
    intro fuel M i h1 h2 h3 h4 hM h5
    obtain ⟨f, rfl⟩ : ∃ f, fuel = f + 1 := ⟨fuel - 1, by omega⟩
    have ew : w32 (i + 1) = i + 1 := w32_i (by omega) (by omega)
    have ew2 : w32 (M 176 52 + 1) = M 176 52 + 1 := w32_i (by omega) (by omega)
    generalize hM1 : upM (upM M 213 (M 176 52) (M r i)) 176 52 (M 176 52 + 1) = M1
    have q1 : ∀ a, a ≠ 176 → a ≠ 213 → M1 a = M a := fun a x y => by rw [← hM1, upM_r x, upM_r y]
    have q2 : ∀ j, j ≠ 52 → M1 176 j = M 176 j := fun j x => by rw [← hM1, upM_i x, upM_r (by decide)]
    have q3 : M1 176 52 = M 176 52 + 1 := by rw [← hM1, upM_s]
    have q4 : M1 213 (M 176 52) = M r i := by rw [← hM1, upM_r (by decide), upM_s]
    have q5 : ∀ j, j ≠ M 176 52 → M1 213 j = M 213 j := fun j x => by rw [← hM1, upM_r (by decide), upM_i x]
    have hP1 : PtR M1 := by
      unfold PtR at *
      simp only [q2 _ (show (1 : Int) ≠ 52 by decide), q2 _ (show (2 : Int) ≠ 52 by decide), q2 _ (show (3 : Int) ≠ 52 by decide), q2 _ (show (4 : Int) ≠ 52 by decide), q2 _ (show (5 : Int) ≠ 52 by decide), q2 _ (show (6 : Int) ≠ 52 by decide), q2 _ (show (7 : Int) ≠ 52 by decide), q2 _ (show (8 : Int) ≠ 52 by decide), q2 _ (show (9 : Int) ≠ 52 by decide), q2 _ (show (10 : Int) ≠ 52 by decide), q2 _ (show (11 : Int) ≠ 52 by decide), q2 _ (show (12 : Int) ≠ 52 by decide), q2 _ (show (13 : Int) ≠ 52 by decide), q2 _ (show (14 : Int) ≠ 52 by decide), q2 _ (show (15 : Int) ≠ 52 by decide), q2 _ (show (16 : Int) ≠ 52 by decide), q2 _ (show (17 : Int) ≠ 52 by decide), q2 _ (show (18 : Int) ≠ 52 by decide), q2 _ (show (19 : Int) ≠ 52 by decide), q2 _ (show (30 : Int) ≠ 52 by decide), q2 _ (show (31 : Int) ≠ 52 by decide), q2 _ (show (32 : Int) ≠ 52 by decide), q2 _ (show (33 : Int) ≠ 52 by decide), q2 _ (show (34 : Int) ≠ 52 by decide), q2 _ (show (35 : Int) ≠ 52 by decide), q2 _ (show (36 : Int) ≠ 52 by decide), q2 _ (show (37 : Int) ≠ 52 by decide), q2 _ (show (38 : Int) ≠ 52 by decide), q2 _ (show (39 : Int) ≠ 52 by decide), q2 _ (show (40 : Int) ≠ 52 by decide), q2 _ (show (41 : Int) ≠ 52 by decide), q2 _ (show (45 : Int) ≠ 52 by decide), q2 _ (show (46 : Int) ≠ 52 by decide), q2 _ (show (47 : Int) ≠ 52 by decide), q2 _ (show (48 : Int) ≠ 52 by decide), q2 _ (show (49 : Int) ≠ 52 by decide), q2 _ (show (50 : Int) ≠ 52 by decide), q2 _ (show (51 : Int) ≠ 52 by decide)]
      exact hM
    obtain ⟨M', a1, a2, a3, a4, a5, a6⟩ := ih f M1 (i + 1) (by omega) (by omega) (by rw [q3]; omega) (by rw [q2 53 (by decide)]; exact h4) hP1 (by omega)
    rw [q3] at a4 a5 a6
    refine ⟨M', ?_, fun a x y => (a2 a x y).trans (q1 a x y), fun j x => (a3 j x).trans (q2 j x), by omega, fun j x y => ?_, fun j x => ?_⟩
    · rw [pX12_carryRow_2]
      have g1 : ¬ L ≤ i := by omega
      have g2 : (0 : Int) ≤ i ∧ i < L := by omega
      have g3 : (0 : Int) ≤ M 176 52 ∧ M 176 52 < 10000 := by omega
      simp [hS, hM, hk, hL, g1, g2, g3, h4, zlet, pX12_carryRow_42, upM_r (show (176 : Int) ≠ 213 by decide), ew, ew2, hM1, a1]
    · by_cases z : j = i
      · subst z
        rw [show M 176 52 + (j - j) = M 176 52 by omega, a6 _ (by omega), q4]
      · have := a5 j (by omega) y
        rw [show M 176 52 + 1 + (j - (i + 1)) = M 176 52 + (j - i) by omega] at this
        rw [this, q1 r hr.1 hr.2]
    · rw [a6 j (by omega), q5 j (by omega)]
theorem PtR.j {M M' : ZM} (h : PtR M) (q : ∀ j, (j < 20 ∨ (30 ≤ j ∧ j ≤ 41) ∨ (45 ≤ j ∧ j ≤ 51)) → M' 176 j = M 176 j) : PtR M' := by
  unfold PtR at *
  rw [q 1 (by decide), q 2 (by decide), q 3 (by decide), q 4 (by decide), q 5 (by decide), q 6 (by decide), q 7 (by decide), q 8 (by decide), q 9 (by decide), q 10 (by decide), q 11 (by decide), q 12 (by decide), q 13 (by decide), q 14 (by decide), q 15 (by decide), q 16 (by decide), q 17 (by decide), q 18 (by decide), q 19 (by decide), q 30 (by decide), q 31 (by decide), q 32 (by decide), q 33 (by decide), q 34 (by decide), q 35 (by decide), q 36 (by decide), q 37 (by decide), q 38 (by decide), q 39 (by decide), q 40 (by decide), q 41 (by decide), q 45 (by decide), q 46 (by decide), q 47 (by decide), q 48 (by decide), q 49 (by decide), q 50 (by decide), q 51 (by decide)]
  exact h
theorem r_carry_i2 (hS : ShR S) {r L : Int} (hk : S.1 r = 100) (hL : S.2.1 r = L) (hr : r ≠ 176 ∧ r ≠ 213) (hb : L ≤ 1700) : ∀ (k fuel : Nat) (M : ZM) (i : Int), i + k = L → 0 ≤ i → 0 ≤ M 176 52 ∧ M 176 52 + k ≤ 10000 → M 176 53 = 1 → PtR M → k < fuel →
    ∃ M', pX12_carryRow_2 S fuel M 176 r i = some M' ∧ (∀ a, a ≠ 176 → a ≠ r → M' a = M a) ∧ (∀ j, j ≠ 52 → M' 176 j = M 176 j) ∧ M' 176 52 = M 176 52 + k ∧ (∀ j, i ≤ j → j < L → M' r j = M 213 (M 176 52 + (j - i))) ∧ (∀ j, j < i → M' r j = M r j) := by
  intro k
  induction k with
  | zero =>
    intro fuel M i h1 h2 h3 h4 hM h5
    obtain ⟨f, rfl⟩ : ∃ f, fuel = f + 1 := ⟨fuel - 1, by omega⟩
    refine ⟨M, ?_, fun _ _ _ => rfl, fun _ _ => rfl, by omega, fun j x y => by omega, fun _ _ => rfl⟩
    simp [pX12_carryRow_2, hk, hL, show L ≤ i by omega]
  | succ k ih =>
    intro fuel M i h1 h2 h3 h4 hM h5
    obtain ⟨f, rfl⟩ : ∃ f, fuel = f + 1 := ⟨fuel - 1, by omega⟩
    have ew : w32 (i + 1) = i + 1 := w32_i (by omega) (by omega)
    have ew2 : w32 (M 176 52 + 1) = M 176 52 + 1 := w32_i (by omega) (by omega)
    generalize hM1 : upM (upM M r i (M 213 (M 176 52))) 176 52 (M 176 52 + 1) = M1
    have q1 : ∀ a, a ≠ 176 → a ≠ r → M1 a = M a := fun a x y => by rw [← hM1, upM_r x, upM_r y]
    have q2 : ∀ j, j ≠ 52 → M1 176 j = M 176 j := fun j x => by rw [← hM1, upM_i x, upM_r (Ne.symm hr.1)]
    have q3 : M1 176 52 = M 176 52 + 1 := by rw [← hM1, upM_s]
    have q4 : M1 r i = M 213 (M 176 52) := by rw [← hM1, upM_r hr.1, upM_s]
    have q5 : ∀ j, j ≠ i → M1 r j = M r j := fun j x => by rw [← hM1, upM_r hr.1, upM_i x]
    obtain ⟨M', a1, a2, a3, a4, a5, a6⟩ := ih f M1 (i + 1) (by omega) (by omega) (by rw [q3]; omega) (by rw [q2 53 (by decide)]; exact h4) (hM.j (fun j x => q2 j (by omega))) (by omega)
    rw [q3] at a4 a5
    refine ⟨M', ?_, fun a x y => (a2 a x y).trans (q1 a x y), fun j x => (a3 j x).trans (q2 j x), by omega, fun j x y => ?_, fun j x => ?_⟩
    · rw [pX12_carryRow_2]
      have g1 : ¬ L ≤ i := by omega
      have g2 : (0 : Int) ≤ i ∧ i < L := by omega
      have g3 : (0 : Int) ≤ M 176 52 ∧ M 176 52 < 10000 := by omega
      simp [hS, hM, hk, hL, g1, g2, g3, h4, zlet, pX12_carryRow_42, upM_r (Ne.symm hr.1), ew, ew2, hM1, a1]
    · by_cases z : j = i
      · subst z
        rw [show M 176 52 + (j - j) = M 176 52 by omega, a6 _ (by omega), q4]
      · have := a5 j (by omega) y
        rw [show M 176 52 + 1 + (j - (i + 1)) = M 176 52 + (j - i) by omega] at this
        rw [this, q1 213 (by decide) (Ne.symm hr.2)]
    · rw [a6 j (by omega), q5 j (by omega)]
theorem r_carry_o (hS : ShR S) {M : ZM} {r L o : Int} (hk : S.1 r = 100 ∧ S.2.1 r = L) (hr : r ≠ 176 ∧ r ≠ 213) (hb : 0 ≤ L ∧ L ≤ 1700) (ho : M 176 52 = o) (hob : 0 ≤ o ∧ o + L ≤ 10000) (h4 : M 176 53 = 0) (hM : PtR M) :
    ∃ M', pX12_carryRow S M 176 r = some M' ∧ (∀ a, a ≠ 176 → a ≠ 213 → M' a = M a) ∧ (∀ j, j ≠ 52 → M' 176 j = M 176 j) ∧ M' 176 52 = o + L ∧ (∀ j, 0 ≤ j → j < L → M' 213 (o + j) = M r j) ∧ (∀ j, (j < o ∨ o + L ≤ j) → M' 213 j = M 213 j) ∧ PtR M' ∧ M' 176 53 = 0 := by
  obtain ⟨M', a1, a2, a3, a4, a5, a6⟩ := r_carry_o2 hS hk.1 hk.2 hr hb.2 L.toNat zFU M 0 (by omega) (by omega) (by omega) h4 hM (zFU_gt (by omega))
  refine ⟨M', a1, a2, a3, by omega, fun j x y => ?_, fun j x => a6 j (by omega), hM.j (fun j x => a3 j (by omega)), by rw [a3 53 (by decide)]; exact h4⟩
  have := a5 j x y
  rw [ho, show o + (j - 0) = o + j by omega] at this
  exact this
theorem r_carry_i (hS : ShR S) {M : ZM} {r L o : Int} (hk : S.1 r = 100 ∧ S.2.1 r = L) (hr : r ≠ 176 ∧ r ≠ 213) (hb : 0 ≤ L ∧ L ≤ 1700) (ho : M 176 52 = o) (hob : 0 ≤ o ∧ o + L ≤ 10000) (h4 : M 176 53 = 1) (hM : PtR M) :
    ∃ M', pX12_carryRow S M 176 r = some M' ∧ (∀ a, a ≠ 176 → a ≠ r → M' a = M a) ∧ (∀ j, j ≠ 52 → M' 176 j = M 176 j) ∧ M' 176 52 = o + L ∧ (∀ j, 0 ≤ j → j < L → M' r j = M 213 (o + j)) ∧ PtR M' ∧ M' 176 53 = 1 := by
  obtain ⟨M', a1, a2, a3, a4, a5, a6⟩ := r_carry_i2 hS hk.1 hk.2 hr hb.2 L.toNat zFU M 0 (by omega) (by omega) (by omega) h4 hM (zFU_gt (by omega))
  refine ⟨M', a1, a2, a3, by omega, fun j x y => ?_, hM.j (fun j x => a3 j (by omega)), by rw [a3 53 (by decide)]; exact h4⟩
  have := a5 j x y
  rw [ho, show o + (j - 0) = o + j by omega] at this
  exact this
/-- the first seven rows as an image's slice -/
def Sl7 (M : ZM) (o : Int) (R : ZM) : Prop := (∀ j, 0 ≤ j → j < 10 → M 213 (o + j) = R 177 j) ∧ (∀ j, 0 ≤ j → j < 5 → M 213 (o + 10 + j) = R 178 j) ∧ (∀ j, 0 ≤ j → j < 5 → M 213 (o + 15 + j) = R 179 j) ∧ (∀ j, 0 ≤ j → j < 36 → M 213 (o + 20 + j) = R 180 j) ∧ (∀ j, 0 ≤ j → j < 36 → M 213 (o + 56 + j) = R 181 j) ∧ (∀ j, 0 ≤ j → j < 12 → M 213 (o + 92 + j) = R 182 j) ∧ (∀ j, 0 ≤ j → j < 12 → M 213 (o + 104 + j) = R 183 j)
theorem r_c7o (hS : ShR S) {M : ZM} (hM : PtR M) {k : Int} (hk : 0 ≤ k ∧ k ≤ 4) : ∃ M', pX12_carriesAll S M 176 k 0 = pX12_carriesAll_70 S M' 176 k ∧ (∀ a, a ≠ 176 → a ≠ 213 → M' a = M a) ∧ (∀ j, j ≠ 52 → j ≠ 53 → M' 176 j = M 176 j) ∧ M' 176 52 = 2000 * k + 116 ∧ M' 176 53 = 0 ∧ PtR M' ∧ Sl7 M' (2000 * k) M ∧ (∀ j, (j < 2000 * k ∨ 2000 * k + 116 ≤ j) → M' 213 j = M 213 j) := by
  generalize hM0 : upM (upM M 176 52 (2000 * k)) 176 53 0 = M0
  have ew : w32 (2000 * k) = 2000 * k := w32_i (by omega) (by omega)
  have q1 : ∀ a, a ≠ 176 → M0 a = M a := fun a x => by rw [← hM0, upM_r x, upM_r x]
  have q2 : ∀ j, j ≠ 52 → j ≠ 53 → M0 176 j = M 176 j := fun j x y => by rw [← hM0, upM_i y, upM_i x]
  have q3 : M0 176 52 = 2000 * k := by rw [← hM0, upM_i (by decide), upM_s]
  have q4 : M0 176 53 = 0 := by rw [← hM0, upM_s]
  have p0 : PtR M0 := hM.j (fun j x => q2 j (by omega) (by omega))
  obtain ⟨M1, a1, a2, a3, a4, a5, a6, p1, g1⟩ := r_carry_o hS (r := 177) hS.2.1 (by decide) (by decide) q3 (by omega) q4 p0
  obtain ⟨M2, b1, b2, b3, b4, b5, b6, p2, g2⟩ := r_carry_o hS (r := 178) hS.2.2.1 (by decide) (by decide) a4 (by omega) g1 p1
  obtain ⟨M3, c1, c2, c3, c4, c5, c6, p3, g3⟩ := r_carry_o hS (r := 179) hS.2.2.2.1 (by decide) (by decide) b4 (by omega) g2 p2
  obtain ⟨M4, d1, d2, d3, d4, d5, d6, p4, g4⟩ := r_carry_o hS (r := 180) hS.2.2.2.2.1 (by decide) (by decide) c4 (by omega) g3 p3
  obtain ⟨M5, e1, e2, e3, e4, e5, e6, p5, g5⟩ := r_carry_o hS (r := 181) hS.2.2.2.2.2.1 (by decide) (by decide) d4 (by omega) g4 p4
  obtain ⟨M6, f1, f2, f3, f4, f5, f6, p6, g6⟩ := r_carry_o hS (r := 182) hS.2.2.2.2.2.2.1 (by decide) (by decide) e4 (by omega) g5 p5
  obtain ⟨M7, h1, h2, h3, h4, h5, h6, p7, g7⟩ := r_carry_o hS (r := 183) hS.2.2.2.2.2.2.2.1 (by decide) (by decide) f4 (by omega) g6 p6
  refine ⟨M7, ?_, fun a x y => by rw [h2 a x y, f2 a x y, e2 a x y, d2 a x y, c2 a x y, b2 a x y, a2 a x y, q1 a x], fun j x y => by rw [h3 j x, f3 j x, e3 j x, d3 j x, c3 j x, b3 j x, a3 j x, q2 j x y], by rw [h4]; omega, g7, p7, ?_, fun j x => by rw [h6 j (by omega), f6 j (by omega), e6 j (by omega), d6 j (by omega), c6 j (by omega), b6 j (by omega), a6 j (by omega), q1 213 (by decide)]⟩
  · simp only [pX12_carriesAll, pX12_carriesAll_30, hS.1, if_true, zlet, ew, true_or, hM0, p0, a1, p1, b1, p2, c1, p3, d1, p4, e1, p5, f1, p6, h1, Option.bind_some]
  · refine ⟨fun j x y => ?_, fun j x y => ?_, fun j x y => ?_, fun j x y => ?_, fun j x y => ?_, fun j x y => ?_, fun j x y => ?_⟩
    · rw [h6 _ (by omega), f6 _ (by omega), e6 _ (by omega), d6 _ (by omega), c6 _ (by omega), b6 _ (by omega), a5 j x y, q1 177 (by decide)]
    · rw [h6 _ (by omega), f6 _ (by omega), e6 _ (by omega), d6 _ (by omega), c6 _ (by omega), b5 j x y, a2 178 (by decide) (by decide), q1 178 (by decide)]
    · rw [h6 _ (by omega), f6 _ (by omega), e6 _ (by omega), d6 _ (by omega), show 2000 * k + 15 + j = 2000 * k + 10 + 5 + j by omega, c5 j x y, b2 179 (by decide) (by decide), a2 179 (by decide) (by decide), q1 179 (by decide)]
    · rw [h6 _ (by omega), f6 _ (by omega), e6 _ (by omega), show 2000 * k + 20 + j = 2000 * k + 10 + 5 + 5 + j by omega, d5 j x y, c2 180 (by decide) (by decide), b2 180 (by decide) (by decide), a2 180 (by decide) (by decide), q1 180 (by decide)]
    · rw [h6 _ (by omega), f6 _ (by omega), show 2000 * k + 56 + j = 2000 * k + 10 + 5 + 5 + 36 + j by omega, e5 j x y, d2 181 (by decide) (by decide), c2 181 (by decide) (by decide), b2 181 (by decide) (by decide), a2 181 (by decide) (by decide), q1 181 (by decide)]
    · rw [h6 _ (by omega), show 2000 * k + 92 + j = 2000 * k + 10 + 5 + 5 + 36 + 36 + j by omega, f5 j x y, e2 182 (by decide) (by decide), d2 182 (by decide) (by decide), c2 182 (by decide) (by decide), b2 182 (by decide) (by decide), a2 182 (by decide) (by decide), q1 182 (by decide)]
    · rw [show 2000 * k + 104 + j = 2000 * k + 10 + 5 + 5 + 36 + 36 + 12 + j by omega, h5 j x y, f2 183 (by decide) (by decide), e2 183 (by decide) (by decide), d2 183 (by decide) (by decide), c2 183 (by decide) (by decide), b2 183 (by decide) (by decide), a2 183 (by decide) (by decide), q1 183 (by decide)]
theorem r_c7i (hS : ShR S) {M : ZM} (hM : PtR M) {k : Int} (hk : 0 ≤ k ∧ k ≤ 4) {R : ZM} (hs : Sl7 M (2000 * k) R) : ∃ M', pX12_carriesAll S M 176 k 1 = pX12_carriesAll_70 S M' 176 k ∧ (∀ a, a ≠ 176 → (a < 177 ∨ 183 < a) → M' a = M a) ∧ (∀ j, j ≠ 52 → j ≠ 53 → M' 176 j = M 176 j) ∧ M' 176 52 = 2000 * k + 116 ∧ M' 176 53 = 1 ∧ PtR M' ∧ (∀ j, 0 ≤ j → j < 10 → M' 177 j = R 177 j) ∧ (∀ j, 0 ≤ j → j < 5 → M' 178 j = R 178 j) ∧ (∀ j, 0 ≤ j → j < 5 → M' 179 j = R 179 j) ∧ (∀ j, 0 ≤ j → j < 36 → M' 180 j = R 180 j) ∧ (∀ j, 0 ≤ j → j < 36 → M' 181 j = R 181 j) ∧ (∀ j, 0 ≤ j → j < 12 → M' 182 j = R 182 j) ∧ (∀ j, 0 ≤ j → j < 12 → M' 183 j = R 183 j) := by
  obtain ⟨s1, s2, s3, s4, s5, s6, s7⟩ := hs
  generalize hM0 : upM (upM M 176 52 (2000 * k)) 176 53 1 = M0
  have ew : w32 (2000 * k) = 2000 * k := w32_i (by omega) (by omega)
  have q1 : ∀ a, a ≠ 176 → M0 a = M a := fun a x => by rw [← hM0, upM_r x, upM_r x]
  have q2 : ∀ j, j ≠ 52 → j ≠ 53 → M0 176 j = M 176 j := fun j x y => by rw [← hM0, upM_i y, upM_i x]
  have q3 : M0 176 52 = 2000 * k := by rw [← hM0, upM_i (by decide), upM_s]
  have q4 : M0 176 53 = 1 := by rw [← hM0, upM_s]
  have p0 : PtR M0 := hM.j (fun j x => q2 j (by omega) (by omega))
  obtain ⟨M1, a1, a2, a3, a4, a5, p1, g1⟩ := r_carry_i hS (r := 177) hS.2.1 (by decide) (by decide) q3 (by omega) q4 p0
  obtain ⟨M2, b1, b2, b3, b4, b5, p2, g2⟩ := r_carry_i hS (r := 178) hS.2.2.1 (by decide) (by decide) a4 (by omega) g1 p1
  obtain ⟨M3, c1, c2, c3, c4, c5, p3, g3⟩ := r_carry_i hS (r := 179) hS.2.2.2.1 (by decide) (by decide) b4 (by omega) g2 p2
  obtain ⟨M4, d1, d2, d3, d4, d5, p4, g4⟩ := r_carry_i hS (r := 180) hS.2.2.2.2.1 (by decide) (by decide) c4 (by omega) g3 p3
  obtain ⟨M5, e1, e2, e3, e4, e5, p5, g5⟩ := r_carry_i hS (r := 181) hS.2.2.2.2.2.1 (by decide) (by decide) d4 (by omega) g4 p4
  obtain ⟨M6, f1, f2, f3, f4, f5, p6, g6⟩ := r_carry_i hS (r := 182) hS.2.2.2.2.2.2.1 (by decide) (by decide) e4 (by omega) g5 p5
  obtain ⟨M7, h1, h2, h3, h4, h5, p7, g7⟩ := r_carry_i hS (r := 183) hS.2.2.2.2.2.2.2.1 (by decide) (by decide) f4 (by omega) g6 p6
  have i213 : M0 213 = M 213 := q1 213 (by decide)
  have i1 : M1 213 = M 213 := (a2 213 (by decide) (by decide)).trans i213
  have i2 : M2 213 = M 213 := (b2 213 (by decide) (by decide)).trans i1
  have i3 : M3 213 = M 213 := (c2 213 (by decide) (by decide)).trans i2
  have i4 : M4 213 = M 213 := (d2 213 (by decide) (by decide)).trans i3
  have i5 : M5 213 = M 213 := (e2 213 (by decide) (by decide)).trans i4
  have i6 : M6 213 = M 213 := (f2 213 (by decide) (by decide)).trans i5
  refine ⟨M7, ?_, fun a x y => by rw [h2 a x (by omega), f2 a x (by omega), e2 a x (by omega), d2 a x (by omega), c2 a x (by omega), b2 a x (by omega), a2 a x (by omega), q1 a x], fun j x y => by rw [h3 j x, f3 j x, e3 j x, d3 j x, c3 j x, b3 j x, a3 j x, q2 j x y], by rw [h4]; omega, g7, p7, ?_⟩
  · simp only [pX12_carriesAll, pX12_carriesAll_30, hS.1, if_true, zlet, ew, or_true, hM0, p0, a1, p1, b1, p2, c1, p3, d1, p4, e1, p5, f1, p6, h1, Option.bind_some]
  · refine ⟨fun j x y => ?_, fun j x y => ?_, fun j x y => ?_, fun j x y => ?_, fun j x y => ?_, fun j x y => ?_, fun j x y => ?_⟩
    · rw [h2 177 (by decide) (by decide), f2 177 (by decide) (by decide), e2 177 (by decide) (by decide), d2 177 (by decide) (by decide), c2 177 (by decide) (by decide), b2 177 (by decide) (by decide), a5 j x y, i213, s1 j x y]
    · rw [h2 178 (by decide) (by decide), f2 178 (by decide) (by decide), e2 178 (by decide) (by decide), d2 178 (by decide) (by decide), c2 178 (by decide) (by decide), b5 j x y, i1, s2 j x y]
    · rw [h2 179 (by decide) (by decide), f2 179 (by decide) (by decide), e2 179 (by decide) (by decide), d2 179 (by decide) (by decide), c5 j x y, i2, show 2000 * k + 10 + 5 + j = 2000 * k + 15 + j by omega, s3 j x y]
    · rw [h2 180 (by decide) (by decide), f2 180 (by decide) (by decide), e2 180 (by decide) (by decide), d5 j x y, i3, show 2000 * k + 10 + 5 + 5 + j = 2000 * k + 20 + j by omega, s4 j x y]
    · rw [h2 181 (by decide) (by decide), f2 181 (by decide) (by decide), e5 j x y, i4, show 2000 * k + 10 + 5 + 5 + 36 + j = 2000 * k + 56 + j by omega, s5 j x y]
    · rw [h2 182 (by decide) (by decide), f5 j x y, i5, show 2000 * k + 10 + 5 + 5 + 36 + 36 + j = 2000 * k + 92 + j by omega, s6 j x y]
    · rw [h5 j x y, i6, show 2000 * k + 10 + 5 + 5 + 36 + 36 + 12 + j = 2000 * k + 104 + j by omega, s7 j x y]
end
