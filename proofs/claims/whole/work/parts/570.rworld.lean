/-! THE WORLD: as a tuple; the reference's acts -/
/-- told; pens as told; scene; notes; x; in force; acts; past -/
abbrev Wd : Type := Td × (Int → Int) × (Int → Int) × Sc × Nt × Int × Int × Int × (Int → Sc)
abbrev wT (w : Wd) : Td := w.1
abbrev wA (w : Wd) : Int → Int := w.2.1
abbrev wS (w : Wd) : Int → Int := w.2.2.1
abbrev wC (w : Wd) : Sc := w.2.2.2.1
abbrev wN (w : Wd) : Nt := w.2.2.2.2.1
abbrev wX (w : Wd) : Int := w.2.2.2.2.2.1
abbrev wF (w : Wd) : Int := w.2.2.2.2.2.2.1
abbrev wK (w : Wd) : Int := w.2.2.2.2.2.2.2.1
abbrev wP (w : Wd) : Int → Sc := w.2.2.2.2.2.2.2.2
def SOk (t : Td) (s : Sc) : Prop := ScOk t s ∧ ScBd t s ∧ ScLt t s ∧ (0 ≤ cDy s ∧ cDy s ≤ 999) ∧ (0 ≤ cCl s ∧ cCl s ≤ 36 * cDy s)
theorem SOk.go {t : Td} {s : Sc} (h : SOk t s) : ScGo t s 200 := by
  obtain ⟨h1, h2, -, h4, h5⟩ := h
  exact ⟨h1, h2, ⟨h4.1, by omega⟩, h5.1, by omega⟩
def WOk (nR : Int) (w : Wd) : Prop := TdOk (wT w) ∧ TpOk (wT w) (wA w) (wS w) ∧ SOk (wT w) (wC w) ∧ NtOk (wT w) (wN w) ∧ (0 ≤ wX w ∧ wX w ≤ 2147483647) ∧ (-1 ≤ wF w ∧ wF w < nR) ∧ (0 ≤ wK w ∧ wK w ≤ 20) ∧ ∀ i, 0 ≤ i → i < wK w → SOk (wT w) (wP w i)
/-- a scene in a row of the past -/
def PR (V : ZM) (k : Int) (s : Sc) : Prop := (V 206 (85 * k) = cDy s ∧ V 206 (85 * k + 1) = cSy s ∧ V 206 (85 * k + 2) = cCl s) ∧ (∀ q, 0 ≤ q → q < 5 → V 206 (85 * k + 3 + q) = cAt s q ∧ V 206 (85 * k + 8 + q) = cSt s q) ∧ (∀ c, 0 ≤ c → c < 36 → V 206 (85 * k + 13 + c) = cWh s c ∧ V 206 (85 * k + 49 + c) = cSi s c)
/-- the world in the reference's rows (its own, or an image's) -/
def RW (V : ZM) (pm : Int) (w : Wd) : Prop := RTd V (wT w) ∧ RSc V (wC w) ∧ RNt V (wN w) ∧ (V 177 8 = wX w ∧ V 177 9 = wF w) ∧ (∀ q, 0 ≤ q → q < 5 → V 188 q = wA w q ∧ V 189 q = wS w q) ∧ pm = wK w ∧ ∀ i, 0 ≤ i → i < wK w → PR V i (wP w i)
section
variable {S : ZS} {R M : ZM} {t : Td} {s : Sc}
theorem r_moves (hS : ShW S) (hM : PtW M) {v o tb : Int} (ho : M 176 43 = o) (hob : 0 ≤ o ∧ o < 1700) (ht : M 176 44 = tb) : pX12_moves S M 176 v = some (if tb = 0 then v else M 206 o, upM (upM M 206 o (if tb = 0 then v else M 206 o)) 176 43 (o + 1)) := by
  have w1 : w32 (o + 1) = o + 1 := w32_i (by omega) (by omega)
  have e1 : ∀ v, upM M 206 o v 176 = M 176 := fun v => upM_r (by decide)
  by_cases z : tb = 0
  · simp [pX12_moves, pX12_moves_20, hS.o, hM.o, ho, ht, z, hob, zlet, e1, w1]
  · simp [pX12_moves, pX12_moves_20, hS.o, hM.o, ho, ht, z, hob, zlet, e1, w1]
theorem r_mvRow_2 (hS : ShW S) {r L tb : Int} (hk : S.1 r = 100 ∧ S.2.1 r = L) (hr : r ≠ 176 ∧ r ≠ 206) (hL : L ≤ 36) : ∀ (k fuel : Nat) (M : ZM) (i o : Int), PtW M → M 176 44 = tb → M 176 43 = o → i + k = L → 0 ≤ i → (0 ≤ o ∧ o + k ≤ 1700) → k < fuel →
    ∃ M', pX12_movesRow_2 S fuel M 176 r i = some M' ∧ PtW M' ∧ (∀ a, a ≠ 176 → a ≠ 206 → a ≠ r → M' a = M a) ∧ (∀ j, j ≠ 43 → M' 176 j = M 176 j) ∧ M' 176 43 = o + k ∧ (∀ j, i ≤ j → j < L → M' r j = (if tb = 0 then M r j else M 206 (o + (j - i))) ∧ M' 206 (o + (j - i)) = (if tb = 0 then M r j else M 206 (o + (j - i)))) ∧ (∀ j, (j < i ∨ L ≤ j) → M' r j = M r j) ∧ (∀ j, (j < o ∨ o + k ≤ j) → M' 206 j = M 206 j) := by
  intro k
  induction k with
  | zero =>
    intro fuel M i o hM ht ho h1 h2 h3 h4
    obtain ⟨f, rfl⟩ : ∃ f, fuel = f + 1 := ⟨fuel - 1, by omega⟩
    refine ⟨M, ?_, hM, fun _ _ _ _ => rfl, fun _ _ => rfl, by omega, fun j a b => by omega, fun _ _ => rfl, fun _ _ => rfl⟩
    simp [pX12_movesRow_2, hk, show L ≤ i by omega]
  | succ k ih =>
    intro fuel M i o hM ht ho h1 h2 h3 h4
    obtain ⟨f, rfl⟩ : ∃ f, fuel = f + 1 := ⟨fuel - 1, by omega⟩
    have wi : w32 (i + 1) = i + 1 := w32_i (by omega) (by omega)
    have em := r_moves hS hM (v := M r i) ho (by omega) ht
    generalize hv : (if tb = 0 then M r i else M 206 o) = v at em
    generalize hM1 : upM (upM (upM M 206 o v) 176 43 (o + 1)) r i v = M1
    have q1 : ∀ a, a ≠ 176 → a ≠ 206 → a ≠ r → M1 a = M a := fun a x y z => by rw [← hM1, upM_r z, upM_r x, upM_r y]
    have q2 : ∀ j, j ≠ 43 → M1 176 j = M 176 j := fun j x => by rw [← hM1, upM_r (Ne.symm hr.1), upM_i x, upM_r (by decide)]
    have q3 : M1 176 43 = o + 1 := by rw [← hM1, upM_r (Ne.symm hr.1), upM_s]
    have q4 : M1 r i = v := by rw [← hM1, upM_s]
    have q5 : ∀ j, j ≠ i → M1 r j = M r j := fun j x => by rw [← hM1, upM_i x, upM_r hr.1, upM_r hr.2]
    have q6 : M1 206 o = v := by rw [← hM1, upM_r (Ne.symm hr.2), upM_r (by decide), upM_s]
    have q7 : ∀ j, j ≠ o → M1 206 j = M 206 j := fun j x => by rw [← hM1, upM_r (Ne.symm hr.2), upM_r (by decide), upM_i x]
    have p1 : PtW M1 := hM.j (fun j x => q2 j (by omega))
    obtain ⟨M', a1, a0, a2, a3, a4, a5, a6, a7⟩ := ih f M1 (i + 1) (o + 1) p1 (by rw [q2 44 (by decide)]; exact ht) q3 (by omega) (by omega) (by omega) (by omega)
    refine ⟨M', ?_, a0, fun a x y z => (a2 a x y z).trans (q1 a x y z), fun j x => (a3 j x).trans (q2 j x), by omega, fun j x y => ?_, fun j x => by rw [a6 j (by omega), q5 j (by omega)], fun j x => by rw [a7 j (by omega), q7 j (by omega)]⟩
    · rw [← a1, pX12_movesRow_2]
      simp [hk, show ¬ L ≤ i by omega, show i < L by omega, h2, hS.o, em, zlet, hM1, wi]
    · by_cases z : j = i
      · subst z
        rw [show o + (j - j) = o by omega, a6 j (by omega), q4, a7 o (by omega), q6, hv]; exact ⟨rfl, rfl⟩
      · have h5 := a5 j (by omega) y
        rw [show o + 1 + (j - (i + 1)) = o + (j - i) by omega, q5 j z, q7 _ (by omega)] at h5
        exact h5
theorem r_mvRow (hS : ShW S) {M : ZM} {r L tb o : Int} (hk : S.1 r = 100 ∧ S.2.1 r = L) (hr : r ≠ 176 ∧ r ≠ 206) (hL : 0 ≤ L ∧ L ≤ 36) (hM : PtW M) (ht : M 176 44 = tb) (ho : M 176 43 = o) (hob : 0 ≤ o ∧ o + L ≤ 1700) :
    ∃ M', pX12_movesRow S M 176 r = some M' ∧ PtW M' ∧ (∀ a, a ≠ 176 → a ≠ 206 → a ≠ r → M' a = M a) ∧ (∀ j, j ≠ 43 → M' 176 j = M 176 j) ∧ M' 176 43 = o + L ∧ (∀ j, 0 ≤ j → j < L → M' r j = (if tb = 0 then M r j else M 206 (o + j)) ∧ M' 206 (o + j) = (if tb = 0 then M r j else M 206 (o + j))) ∧ (∀ j, (j < o ∨ o + L ≤ j) → M' 206 j = M 206 j) := by
  obtain ⟨M', a1, a0, a2, a3, a4, a5, a6, a7⟩ := r_mvRow_2 hS hk hr hL.2 L.toNat zFU M 0 o hM ht ho (by omega) (by omega) (by omega) (zFU_gt (by omega))
  refine ⟨M', a1, a0, a2, a3, by omega, fun j x y => ?_, fun j x => a7 j (by omega)⟩
  have := a5 j x y
  rw [show o + (j - 0) = o + j by omega] at this
  exact this
/-- the three numbers of a scene go first -/
theorem r_mv3 (hS : ShW S) {tb : Int} : ∀ (k fuel : Nat) (M : ZM) (i o : Int), PtW M → M 176 44 = tb → M 176 43 = o → i + k = 7 → 4 ≤ i → (0 ≤ o ∧ o + k ≤ 1700) → k < fuel →
    ∃ M' f', pX12_movesAll_15 S fuel M 176 i = pX12_movesAll_15 S (f' + 1) M' 176 7 ∧ PtW M' ∧ (∀ a, a ≠ 176 → a ≠ 206 → a ≠ 177 → M' a = M a) ∧ (∀ j, j ≠ 43 → M' 176 j = M 176 j) ∧ M' 176 43 = o + k ∧ (∀ j, i ≤ j → j < 7 → M' 177 j = (if tb = 0 then M 177 j else M 206 (o + (j - i))) ∧ M' 206 (o + (j - i)) = (if tb = 0 then M 177 j else M 206 (o + (j - i)))) ∧ (∀ j, (j < i ∨ 7 ≤ j) → M' 177 j = M 177 j) ∧ (∀ j, (j < o ∨ o + k ≤ j) → M' 206 j = M 206 j) := by
  intro k
  induction k with
  | zero =>
    intro fuel M i o hM ht ho h1 h2 h3 h4
    obtain ⟨f, rfl⟩ : ∃ f, fuel = f + 1 := ⟨fuel - 1, by omega⟩
    have : i = 7 := by omega
    subst this
    exact ⟨M, f, rfl, hM, fun _ _ _ _ => rfl, fun _ _ => rfl, by omega, fun j a b => by omega, fun _ _ => rfl, fun _ _ => rfl⟩
  | succ k ih =>
    intro fuel M i o hM ht ho h1 h2 h3 h4
    obtain ⟨f, rfl⟩ : ∃ f, fuel = f + 1 := ⟨fuel - 1, by omega⟩
    have wi : w32 (i + 1) = i + 1 := w32_i (by omega) (by omega)
    have em := r_moves hS hM (v := M 177 i) ho (by omega) ht
    generalize hv : (if tb = 0 then M 177 i else M 206 o) = v at em
    generalize hM1 : upM (upM (upM M 206 o v) 176 43 (o + 1)) 177 i v = M1
    have q1 : ∀ a, a ≠ 176 → a ≠ 206 → a ≠ 177 → M1 a = M a := fun a x y z => by rw [← hM1, upM_r z, upM_r x, upM_r y]
    have q2 : ∀ j, j ≠ 43 → M1 176 j = M 176 j := fun j x => by rw [← hM1, upM_r (by decide), upM_i x, upM_r (by decide)]
    have q3 : M1 176 43 = o + 1 := by rw [← hM1, upM_r (by decide), upM_s]
    have q4 : M1 177 i = v := by rw [← hM1, upM_s]
    have q5 : ∀ j, j ≠ i → M1 177 j = M 177 j := fun j x => by rw [← hM1, upM_i x, upM_r (by decide), upM_r (by decide)]
    have q6 : M1 206 o = v := by rw [← hM1, upM_r (by decide), upM_r (by decide), upM_s]
    have q7 : ∀ j, j ≠ o → M1 206 j = M 206 j := fun j x => by rw [← hM1, upM_r (by decide), upM_r (by decide), upM_i x]
    have p1 : PtW M1 := hM.j (fun j x => q2 j (by omega))
    obtain ⟨M', f', a1, a0, a2, a3, a4, a5, a6, a7⟩ := ih f M1 (i + 1) (o + 1) p1 (by rw [q2 44 (by decide)]; exact ht) q3 (by omega) (by omega) (by omega) (by omega)
    refine ⟨M', f', ?_, a0, fun a x y z => (a2 a x y z).trans (q1 a x y z), fun j x => (a3 j x).trans (q2 j x), by omega, fun j x y => ?_, fun j x => by rw [a6 j (by omega), q5 j (by omega)], fun j x => by rw [a7 j (by omega), q7 j (by omega)]⟩
    · rw [← a1, pX12_movesAll_15]
      simp [show ¬ 7 ≤ i by omega, hS.o, hM.o, show 0 ≤ i by omega, show i < 10 by omega, em, zlet, hM1, wi]
    · by_cases z : j = i
      · subst z
        rw [show o + (j - j) = o by omega, a6 j (by omega), q4, a7 o (by omega), q6, hv]; exact ⟨rfl, rfl⟩
      · have h5 := a5 j (by omega) y
        rw [show o + 1 + (j - (i + 1)) = o + (j - i) by omega, q5 j z, q7 _ (by omega)] at h5
        exact h5
/-- all of a scene, laid into a row of the past or taken back -/
theorem r_mvAll (hS : ShW S) (hM : PtW M) {k tb : Int} (hk : 0 ≤ k ∧ k < 20) (hb : tb = 0 ∨ tb = 1) : ∃ M', pX12_movesAll S M 176 k tb = some M' ∧ PtW M' ∧ (∀ a, a ≠ 176 → a ≠ 206 → (a < 177 ∨ 181 < a) → M' a = M a) ∧ (∀ j, j ≠ 43 → j ≠ 44 → M' 176 j = M 176 j) ∧ (∀ j, (j < 4 ∨ 7 ≤ j) → M' 177 j = M 177 j) ∧ (∀ j, (j < 85 * k ∨ 85 * k + 85 ≤ j) → M' 206 j = M 206 j) ∧
    (∀ j, 4 ≤ j → j < 7 → M' 177 j = (if tb = 0 then M 177 j else M 206 (85 * k + (j - 4))) ∧ M' 206 (85 * k + (j - 4)) = (if tb = 0 then M 177 j else M 206 (85 * k + (j - 4)))) ∧
    (∀ j, 0 ≤ j → j < 5 → (M' 178 j = (if tb = 0 then M 178 j else M 206 (85 * k + 3 + j)) ∧ M' 206 (85 * k + 3 + j) = (if tb = 0 then M 178 j else M 206 (85 * k + 3 + j))) ∧ (M' 179 j = (if tb = 0 then M 179 j else M 206 (85 * k + 8 + j)) ∧ M' 206 (85 * k + 8 + j) = (if tb = 0 then M 179 j else M 206 (85 * k + 8 + j)))) ∧
    (∀ j, 0 ≤ j → j < 36 → (M' 180 j = (if tb = 0 then M 180 j else M 206 (85 * k + 13 + j)) ∧ M' 206 (85 * k + 13 + j) = (if tb = 0 then M 180 j else M 206 (85 * k + 13 + j))) ∧ (M' 181 j = (if tb = 0 then M 181 j else M 206 (85 * k + 49 + j)) ∧ M' 206 (85 * k + 49 + j) = (if tb = 0 then M 181 j else M 206 (85 * k + 49 + j)))) := by
  have w1 : w32 (85 * k) = 85 * k := w32_i (by omega) (by omega)
  generalize hM0 : upM (upM M 176 43 (85 * k)) 176 44 tb = M0
  have q1 : ∀ a, a ≠ 176 → M0 a = M a := fun a x => by rw [← hM0, upM_r x, upM_r x]
  have q2 : ∀ j, j ≠ 43 → j ≠ 44 → M0 176 j = M 176 j := fun j x y => by rw [← hM0, upM_i y, upM_i x]
  have q3 : M0 176 43 = 85 * k := by rw [← hM0, upM_i (by decide), upM_s]
  have q4 : M0 176 44 = tb := by rw [← hM0, upM_s]
  have p0 : PtW M0 := hM.j (fun j x => q2 j (by omega) (by omega))
  obtain ⟨M1, f', a1, pA, a2, a3, a4, a5, a6, a7⟩ := r_mv3 hS (tb := tb) 3 zFU M0 4 (85 * k) p0 q4 q3 (by omega) (by omega) (by omega) (zFU_gt (by omega))
  rw [show ((3 : Nat) : Int) = 3 from rfl] at a4 a7
  obtain ⟨M2, b1, pB, b2, b3, b4, b5, b6⟩ := r_mvRow hS (M := M1) (r := 178) (L := 5) (tb := tb) (o := 85 * k + 3) hS.o.2.2.1 (by decide) (by decide) pA (by rw [a3 44 (by decide)]; exact q4) a4 (by omega)
  obtain ⟨M3, c1, pC, c2, c3, c4, c5, c6⟩ := r_mvRow hS (M := M2) (r := 179) (L := 5) (tb := tb) (o := 85 * k + 3 + 5) hS.o.2.2.2.1 (by decide) (by decide) pB (by rw [b3 44 (by decide), a3 44 (by decide)]; exact q4) b4 (by omega)
  obtain ⟨M4, d1, pD, d2, d3, d4, d5, d6⟩ := r_mvRow hS (M := M3) (r := 180) (L := 36) (tb := tb) (o := 85 * k + 3 + 5 + 5) hS.o.2.2.2.2.1 (by decide) (by decide) pC (by rw [c3 44 (by decide), b3 44 (by decide), a3 44 (by decide)]; exact q4) c4 (by omega)
  obtain ⟨M5, e1, pE, e2, e3, e4, e5, e6⟩ := r_mvRow hS (M := M4) (r := 181) (L := 36) (tb := tb) (o := 85 * k + 3 + 5 + 5 + 36) hS.o.2.2.2.2.2.1 (by decide) (by decide) pD (by rw [d3 44 (by decide), c3 44 (by decide), b3 44 (by decide), a3 44 (by decide)]; exact q4) d4 (by omega)
  refine ⟨M5, ?_, pE, fun a x y z => by rw [e2 a x y (by omega), d2 a x y (by omega), c2 a x y (by omega), b2 a x y (by omega), a2 a x y (by omega), q1 a x], fun j x y => by rw [e3 j x, d3 j x, c3 j x, b3 j x, a3 j x, q2 j x y], fun j x => by rw [e2 177 (by decide) (by decide) (by decide), d2 177 (by decide) (by decide) (by decide), c2 177 (by decide) (by decide) (by decide), b2 177 (by decide) (by decide) (by decide), a6 j (by omega), q1 177 (by decide)], fun j x => by rw [e6 j (by omega), d6 j (by omega), c6 j (by omega), b6 j (by omega), a7 j (by omega), q1 206 (by decide)], fun j x y => ?_, fun j x y => ⟨?_, ?_⟩, fun j x y => ⟨?_, ?_⟩⟩
  · have hs := hS.o.1
    have e0 : pX12_movesAll S M 176 k tb = pX12_movesAll_15 S zFU M0 176 4 := by
      simp only [pX12_movesAll, hs, if_true, zlet, w1, hb, hM0]
    rw [e0, a1, pX12_movesAll_15]
    simp [hS.o, pA.o, b1, pB.o, c1, pC.o, d1, pD.o, e1]
  · have h5 := a5 j x y
    rw [q1 177 (by decide), q1 206 (by decide)] at h5
    rw [e2 177 (by decide) (by decide) (by decide), d2 177 (by decide) (by decide) (by decide), c2 177 (by decide) (by decide) (by decide), b2 177 (by decide) (by decide) (by decide), e6 _ (by omega), d6 _ (by omega), c6 _ (by omega), b6 _ (by omega)]
    exact h5
  · have h5 := b5 j x y
    rw [a2 178 (by decide) (by decide) (by decide), q1 178 (by decide), a7 _ (by omega), q1 206 (by decide)] at h5
    rw [e2 178 (by decide) (by decide) (by decide), d2 178 (by decide) (by decide) (by decide), c2 178 (by decide) (by decide) (by decide), e6 _ (by omega), d6 _ (by omega), c6 _ (by omega)]
    exact h5
  · have h5 := c5 j x y
    rw [b2 179 (by decide) (by decide) (by decide), a2 179 (by decide) (by decide) (by decide), q1 179 (by decide), b6 _ (by omega), a7 _ (by omega), q1 206 (by decide), show 85 * k + 3 + 5 + j = 85 * k + 8 + j by omega] at h5
    rw [e2 179 (by decide) (by decide) (by decide), d2 179 (by decide) (by decide) (by decide), e6 _ (by omega), d6 _ (by omega)]
    exact h5
  · have h5 := d5 j x y
    rw [c2 180 (by decide) (by decide) (by decide), b2 180 (by decide) (by decide) (by decide), a2 180 (by decide) (by decide) (by decide), q1 180 (by decide), c6 _ (by omega), b6 _ (by omega), a7 _ (by omega), q1 206 (by decide), show 85 * k + 3 + 5 + 5 + j = 85 * k + 13 + j by omega] at h5
    rw [e2 180 (by decide) (by decide) (by decide), e6 _ (by omega)]
    exact h5
  · have h5 := e5 j x y
    rw [d2 181 (by decide) (by decide) (by decide), c2 181 (by decide) (by decide) (by decide), b2 181 (by decide) (by decide) (by decide), a2 181 (by decide) (by decide) (by decide), q1 181 (by decide), d6 _ (by omega), c6 _ (by omega), b6 _ (by omega), a7 _ (by omega), q1 206 (by decide), show 85 * k + 3 + 5 + 5 + 36 + j = 85 * k + 49 + j by omega] at h5
    exact h5
end
