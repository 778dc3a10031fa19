/-! THE REFERENCE: rows carried into an image and back -/
/-- the same, so that omega does not look into them -/
def ShW (S : ZS) : Prop := ShR S
def PtW (M : ZM) : Prop := PtR M
theorem ShW.o {S : ZS} (h : ShW S) : ShR S := h
theorem PtW.o {M : ZM} (h : PtW M) : PtR M := h
theorem PtR.w {M : ZM} (h : PtR M) : PtW M := h
theorem PtR.j {M M' : ZM} (h : PtR M) (q : ∀ j, (j < 20 ∨ (30 ≤ j ∧ j ≤ 41) ∨ (45 ≤ j ∧ j ≤ 51)) → M' 176 j = M 176 j) : PtR M' := by
  unfold PtR at *
  rw [q 1 (by decide), q 2 (by decide), q 3 (by decide), q 4 (by decide), q 5 (by decide), q 6 (by decide), q 7 (by decide), q 8 (by decide), q 9 (by decide), q 10 (by decide), q 11 (by decide), q 12 (by decide), q 13 (by decide), q 14 (by decide), q 15 (by decide), q 16 (by decide), q 17 (by decide), q 18 (by decide), q 19 (by decide), q 30 (by decide), q 31 (by decide), q 32 (by decide), q 33 (by decide), q 34 (by decide), q 35 (by decide), q 36 (by decide), q 37 (by decide), q 38 (by decide), q 39 (by decide), q 40 (by decide), q 41 (by decide), q 45 (by decide), q 46 (by decide), q 47 (by decide), q 48 (by decide), q 49 (by decide), q 50 (by decide), q 51 (by decide)]
  exact h
theorem PtW.j {M M' : ZM} (h : PtW M) (q : ∀ j, (j < 20 ∨ (30 ≤ j ∧ j ≤ 41) ∨ (45 ≤ j ∧ j ≤ 51)) → M' 176 j = M 176 j) : PtW M' := PtR.j h q
section
variable {S : ZS}
theorem r_carry_o2 (hS : ShW S) {r L : Int} (hk : S.1 r = 100) (hL : S.2.1 r = L) (hr : r ≠ 176 ∧ r ≠ 213) (hb : L ≤ 1700) : ∀ (k fuel : Nat) (M : ZM) (i : Int), i + k = L → 0 ≤ i → 0 ≤ M 176 52 ∧ M 176 52 + k ≤ 10000 → M 176 53 = 0 → PtW M → k < fuel →
    ∃ M', pX12_carryRow_2 S fuel M 176 r i = some M' ∧ (∀ a, a ≠ 176 → a ≠ 213 → M' a = M a) ∧ (∀ j, j ≠ 52 → M' 176 j = M 176 j) ∧ M' 176 52 = M 176 52 + k ∧ (∀ j, i ≤ j → j < L → M' 213 (M 176 52 + (j - i)) = M r j) ∧ (∀ j, (j < M 176 52 ∨ M 176 52 + k ≤ j) → M' 213 j = M 213 j) := by
  intro k
  induction k with
  | zero =>
    intro fuel M i h1 h2 h3 h4 hM h5
    obtain ⟨f, rfl⟩ : ∃ f, fuel = f + 1 := ⟨fuel - 1, by omega⟩
    refine ⟨M, ?_, fun _ _ _ => rfl, fun _ _ => rfl, by omega, fun j x y => by omega, fun _ _ => rfl⟩
    simp [pX12_carryRow_2, hk, hL, show L ≤ i by omega]
  | succ k ih =>
    intro fuel M i h1 h2 h3 h4 hM h5
    obtain ⟨f, rfl⟩ : ∃ f, fuel = f + 1 := ⟨fuel - 1, by omega⟩
    have ew : w32 (i + 1) = i + 1 := w32_i (by omega) (by omega)
    have ew2 : w32 (M 176 52 + 1) = M 176 52 + 1 := w32_i (by omega) (by omega)
    generalize hM1 : upM (upM M 213 (M 176 52) (M r i)) 176 52 (M 176 52 + 1) = M1
    have q1 : ∀ a, a ≠ 176 → a ≠ 213 → M1 a = M a := fun a x y => by rw [← hM1, upM_r x, upM_r y]
    have q2 : ∀ j, j ≠ 52 → M1 176 j = M 176 j := fun j x => by rw [← hM1, upM_i x, upM_r (by decide)]
    have q3 : M1 176 52 = M 176 52 + 1 := by rw [← hM1, upM_s]
    have q4 : M1 213 (M 176 52) = M r i := by rw [← hM1, upM_r (by decide), upM_s]
    have q5 : ∀ j, j ≠ M 176 52 → M1 213 j = M 213 j := fun j x => by rw [← hM1, upM_r (by decide), upM_i x]
    have hP1 : PtW M1 := hM.j (fun j x => q2 j (by omega))
    obtain ⟨M', a1, a2, a3, a4, a5, a6⟩ := ih f M1 (i + 1) (by omega) (by omega) (by rw [q3]; omega) (by rw [q2 53 (by decide)]; exact h4) hP1 (by omega)
    rw [q3] at a4 a5 a6
    refine ⟨M', ?_, fun a x y => (a2 a x y).trans (q1 a x y), fun j x => (a3 j x).trans (q2 j x), by omega, fun j x y => ?_, fun j x => ?_⟩
    · rw [pX12_carryRow_2]
      have g1 : ¬ L ≤ i := by omega
      have g2 : (0 : Int) ≤ i ∧ i < L := by omega
      have g3 : (0 : Int) ≤ M 176 52 ∧ M 176 52 < 10000 := by omega
      simp [hS.o, hM.o, hk, hL, g1, g2, g3, h4, zlet, pX12_carryRow_42, upM_r (show (176 : Int) ≠ 213 by decide), ew, ew2, hM1, a1]
    · by_cases z : j = i
      · subst z
        rw [show M 176 52 + (j - j) = M 176 52 by omega, a6 _ (by omega), q4]
      · have := a5 j (by omega) y
        rw [show M 176 52 + 1 + (j - (i + 1)) = M 176 52 + (j - i) by omega] at this
        rw [this, q1 r hr.1 hr.2]
    · rw [a6 j (by omega), q5 j (by omega)]
theorem r_carry_i2 (hS : ShW S) {r L : Int} (hk : S.1 r = 100) (hL : S.2.1 r = L) (hr : r ≠ 176 ∧ r ≠ 213) (hb : L ≤ 1700) : ∀ (k fuel : Nat) (M : ZM) (i : Int), i + k = L → 0 ≤ i → 0 ≤ M 176 52 ∧ M 176 52 + k ≤ 10000 → M 176 53 = 1 → PtW M → k < fuel →
    ∃ M', pX12_carryRow_2 S fuel M 176 r i = some M' ∧ (∀ a, a ≠ 176 → a ≠ r → M' a = M a) ∧ (∀ j, j ≠ 52 → M' 176 j = M 176 j) ∧ M' 176 52 = M 176 52 + k ∧ (∀ j, i ≤ j → j < L → M' r j = M 213 (M 176 52 + (j - i))) ∧ (∀ j, j < i → M' r j = M r j) := by
  intro k
  induction k with
  | zero =>
    intro fuel M i h1 h2 h3 h4 hM h5
    obtain ⟨f, rfl⟩ : ∃ f, fuel = f + 1 := ⟨fuel - 1, by omega⟩
    refine ⟨M, ?_, fun _ _ _ => rfl, fun _ _ => rfl, by omega, fun j x y => by omega, fun _ _ => rfl⟩
    simp [pX12_carryRow_2, hk, hL, show L ≤ i by omega]
  | succ k ih =>
    intro fuel M i h1 h2 h3 h4 hM h5
    obtain ⟨f, rfl⟩ : ∃ f, fuel = f + 1 := ⟨fuel - 1, by omega⟩
    have ew : w32 (i + 1) = i + 1 := w32_i (by omega) (by omega)
    have ew2 : w32 (M 176 52 + 1) = M 176 52 + 1 := w32_i (by omega) (by omega)
    generalize hM1 : upM (upM M r i (M 213 (M 176 52))) 176 52 (M 176 52 + 1) = M1
    have q1 : ∀ a, a ≠ 176 → a ≠ r → M1 a = M a := fun a x y => by rw [← hM1, upM_r x, upM_r y]
    have q2 : ∀ j, j ≠ 52 → M1 176 j = M 176 j := fun j x => by rw [← hM1, upM_i x, upM_r (Ne.symm hr.1)]
    have q3 : M1 176 52 = M 176 52 + 1 := by rw [← hM1, upM_s]
    have q4 : M1 r i = M 213 (M 176 52) := by rw [← hM1, upM_r hr.1, upM_s]
    have q5 : ∀ j, j ≠ i → M1 r j = M r j := fun j x => by rw [← hM1, upM_r hr.1, upM_i x]
    obtain ⟨M', a1, a2, a3, a4, a5, a6⟩ := ih f M1 (i + 1) (by omega) (by omega) (by rw [q3]; omega) (by rw [q2 53 (by decide)]; exact h4) (hM.j (fun j x => q2 j (by omega))) (by omega)
    rw [q3] at a4 a5
    refine ⟨M', ?_, fun a x y => (a2 a x y).trans (q1 a x y), fun j x => (a3 j x).trans (q2 j x), by omega, fun j x y => ?_, fun j x => ?_⟩
    · rw [pX12_carryRow_2]
      have g1 : ¬ L ≤ i := by omega
      have g2 : (0 : Int) ≤ i ∧ i < L := by omega
      have g3 : (0 : Int) ≤ M 176 52 ∧ M 176 52 < 10000 := by omega
      simp [hS.o, hM.o, hk, hL, g1, g2, g3, h4, zlet, pX12_carryRow_42, upM_r (Ne.symm hr.1), ew, ew2, hM1, a1]
    · by_cases z : j = i
      · subst z
        rw [show M 176 52 + (j - j) = M 176 52 by omega, a6 _ (by omega), q4]
      · have := a5 j (by omega) y
        rw [show M 176 52 + 1 + (j - (i + 1)) = M 176 52 + (j - i) by omega] at this
        rw [this, q1 213 (by decide) (Ne.symm hr.2)]
    · rw [a6 j (by omega), q5 j (by omega)]
theorem r_carry_o (hS : ShW S) {M : ZM} {r L o : Int} (hk : S.1 r = 100 ∧ S.2.1 r = L) (hr : r ≠ 176 ∧ r ≠ 213) (hb : 0 ≤ L ∧ L ≤ 1700) (ho : M 176 52 = o) (hob : 0 ≤ o ∧ o + L ≤ 10000) (h4 : M 176 53 = 0) (hM : PtW M) :
    ∃ M', pX12_carryRow S M 176 r = some M' ∧ (∀ a, a ≠ 176 → a ≠ 213 → M' a = M a) ∧ (∀ j, j ≠ 52 → M' 176 j = M 176 j) ∧ M' 176 52 = o + L ∧ (∀ j, 0 ≤ j → j < L → M' 213 (o + j) = M r j) ∧ (∀ j, (j < o ∨ o + L ≤ j) → M' 213 j = M 213 j) ∧ PtW M' ∧ M' 176 53 = 0 := by
  obtain ⟨M', a1, a2, a3, a4, a5, a6⟩ := r_carry_o2 hS hk.1 hk.2 hr hb.2 L.toNat zFU M 0 (by omega) (by omega) (by omega) h4 hM (zFU_gt (by omega))
  refine ⟨M', a1, a2, a3, by omega, fun j x y => ?_, fun j x => a6 j (by omega), hM.j (fun j x => a3 j (by omega)), by rw [a3 53 (by decide)]; exact h4⟩
  have := a5 j x y
  rw [ho, show o + (j - 0) = o + j by omega] at this
  exact this
theorem r_carry_i (hS : ShW S) {M : ZM} {r L o : Int} (hk : S.1 r = 100 ∧ S.2.1 r = L) (hr : r ≠ 176 ∧ r ≠ 213) (hb : 0 ≤ L ∧ L ≤ 1700) (ho : M 176 52 = o) (hob : 0 ≤ o ∧ o + L ≤ 10000) (h4 : M 176 53 = 1) (hM : PtW M) :
    ∃ M', pX12_carryRow S M 176 r = some M' ∧ (∀ a, a ≠ 176 → a ≠ r → M' a = M a) ∧ (∀ j, j ≠ 52 → M' 176 j = M 176 j) ∧ M' 176 52 = o + L ∧ (∀ j, 0 ≤ j → j < L → M' r j = M 213 (o + j)) ∧ PtW M' ∧ M' 176 53 = 1 := by
  obtain ⟨M', a1, a2, a3, a4, a5, a6⟩ := r_carry_i2 hS hk.1 hk.2 hr hb.2 L.toNat zFU M 0 (by omega) (by omega) (by omega) h4 hM (zFU_gt (by omega))
  refine ⟨M', a1, a2, a3, by omega, fun j x y => ?_, hM.j (fun j x => a3 j (by omega)), by rw [a3 53 (by decide)]; exact h4⟩
  have := a5 j x y
  rw [ho, show o + (j - 0) = o + j by omega] at this
  exact this
end
