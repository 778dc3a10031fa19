/-! THE WORLD in the class -/
def WSh (S : ZS) (b : Int) : Prop := S.1 b = 10 ∧ ShT S (b + 1) ∧ ShC S (b + 7) ∧ (S.1 (b + 12) = 105 ∧ S.2.1 (b + 12) = 20) ∧ (S.1 (b + 13) = 100 ∧ S.2.1 (b + 13) = 10) ∧ (S.1 (b + 14) = 100 ∧ S.2.1 (b + 14) = 10) ∧ (S.1 (b + 15) = 100 ∧ S.2.1 (b + 15) = 10) ∧ ∀ i, 0 ≤ i → i < 20 → ShC S (b + 16 + 5 * i)
/-- the rows of the past: each a scene of its own -/
def PA (M : ZM) (b : Int) : Prop := (∀ i, 0 ≤ i → i < 20 → ∃ z, (0 ≤ z ∧ z < 20) ∧ M (b + 12) i = b + 16 + 5 * z) ∧ (∀ i j, 0 ≤ i → i < 20 → 0 ≤ j → j < 20 → i ≠ j → M (b + 12) i ≠ M (b + 12) j)
def WPt (M : ZM) (b : Int) : Prop := (M b 0 = b + 1 ∧ M b 1 = b + 7 ∧ M b 2 = b + 12 ∧ M b 4 = b + 13 ∧ M b 5 = b + 14 ∧ M b 6 = b + 15) ∧ PtT M (b + 1) ∧ PtC M (b + 7) ∧ (∀ i, 0 ≤ i → i < 20 → PtC M (b + 16 + 5 * i)) ∧ PA M b
def CWd (M : ZM) (b : Int) (w : Wd) : Prop := CT M (b + 1) (wT w) ∧ (∀ q, 0 ≤ q → q < tPn (wT w) → M (b + 2) q = wA w q ∧ M (b + 3) q = wS w q) ∧ CS M (wT w) (b + 7) (wC w) ∧ (M b 7 = (wN w).1 ∧ ∀ i, 0 ≤ i → i < (wN w).1 → M (b + 13) i = (wN w).2.1 i ∧ M (b + 14) i = (wN w).2.2.1 i ∧ M (b + 15) i = (wN w).2.2.2 i) ∧ (M b 8 = wX w ∧ M b 9 = wF w ∧ M b 3 = wK w) ∧ ∀ i, 0 ≤ i → i < wK w → CS M (wT w) (M (b + 12) i) (wP w i)
theorem WPt.eq {M M' : ZM} {b : Int} (h : WPt M b) (e : ∀ x, b ≤ x → x ≤ b + 115 → M' x = M x) : WPt M' b := by
  obtain ⟨h1, h2, h3, h4, h5⟩ := h
  refine ⟨by rw [e b (by omega) (by omega)]; exact h1, ?_, ?_, fun i x y => ?_, ?_⟩
  · unfold PtT; rw [e (b + 1) (by omega) (by omega)]; exact h2
  · unfold PtC; rw [e (b + 7) (by omega) (by omega)]; exact h3
  · unfold PtC; rw [e (b + 16 + 5 * i) (by omega) (by omega)]; exact h4 i x y
  · unfold PA at *; rw [e (b + 12) (by omega) (by omega)]; exact h5
theorem CWd.eq {M M' : ZM} {b : Int} {w : Wd} (h : CWd M b w) (hp : PA M b) (hk : wK w ≤ 20) (e : ∀ x, b ≤ x → x ≤ b + 115 → M' x = M x) : CWd M' b w := by
  obtain ⟨h1, h2, h3, h4, h5, h6⟩ := h
  refine ⟨h1.eq (fun x _ _ => e x (by omega) (by omega)), ?_, h3.eq (fun x _ _ => e x (by omega) (by omega)), ?_, ?_, fun i x y => ?_⟩
  · rw [e (b + 2) (by omega) (by omega), e (b + 3) (by omega) (by omega)]; exact h2
  · rw [e b (by omega) (by omega), e (b + 13) (by omega) (by omega), e (b + 14) (by omega) (by omega), e (b + 15) (by omega) (by omega)]; exact h4
  · rw [e b (by omega) (by omega)]; exact h5
  · obtain ⟨z, z1, z2⟩ := hp.1 i x (by omega)
    rw [e (b + 12) (by omega) (by omega)]
    refine (h6 i x y).eq (fun u _ _ => ?_)
    rw [z2] at *
    exact e u (by omega) (by omega)
/-- the now of the class -/
def CN (S : ZS) (M : ZM) (w : Wd) : Prop := NW S M ∧ WSh S 16 ∧ WPt M 16 ∧ CWd M 16 w
/-- what an act leaves as it was in the class -/
def FA (M M' : ZM) : Prop := ∀ x, (x < 16 ∨ (131 < x ∧ x < 134) ∨ 136 < x) → M' x = M x
theorem FA.refl (M : ZM) : FA M M := fun _ _ => rfl
theorem FA.trans {M M' M'' : ZM} (h : FA M M') (h' : FA M' M'') : FA M M'' := fun x y => (h' x y).trans (h x y)
section
variable {S : ZS} {M : ZM}
theorem c_drop_9 (hw : WSh S 16) {o : Int} (ho : o = 0 ∨ S.1 o = 6) : ∀ (k fuel : Nat) (M : ZM) (i : Int), M 16 2 = 28 → (∀ j, 0 ≤ j → j < 20 → S.1 (M 28 j) = 6) → i + k = 20 → 1 ≤ i → k < fuel → ∃ M', pX10_dropOldest_9 S fuel M 16 o i = some (upM (upM M' 28 19 o) 16 3 19) ∧ (∀ x, x ≠ 28 → M' x = M x) ∧ (∀ j, i - 1 ≤ j → j < 19 → M' 28 j = M 28 (j + 1)) ∧ (∀ j, (j < i - 1 ∨ 19 ≤ j) → M' 28 j = M 28 j) := by
  have h10 : S.1 16 = 10 := hw.1
  have h28 : S.1 28 = 105 ∧ S.2.1 28 = 20 := hw.2.2.2.1
  clear hw
  intro k
  induction k with
  | zero =>
    intro fuel M i h2 h6 h3 h4 h5
    obtain ⟨f, rfl⟩ : ∃ f, fuel = f + 1 := ⟨fuel - 1, by omega⟩
    refine ⟨M, ?_, fun _ _ => rfl, fun j a b => by omega, fun _ _ => rfl⟩
    simp [pX10_dropOldest_9, show 20 ≤ i by omega, h10, h2, h28, ho, zlet]
  | succ k ih =>
    intro fuel M i h2 h6 h3 h4 h5
    obtain ⟨f, rfl⟩ : ∃ f, fuel = f + 1 := ⟨fuel - 1, by omega⟩
    have w1 : w32 (i - 1) = i - 1 := w32_i (by omega) (by omega)
    have w2 : w32 (i + 1) = i + 1 := w32_i (by omega) (by omega)
    have e6 := h6 i (by omega) (by omega)
    obtain ⟨M', a1, a2, a3, a4⟩ := ih f (upM M 28 (i - 1) (M 28 i)) (i + 1) (by rw [upM_r (by decide)]; exact h2) (fun j x y => by
      by_cases z : j = i - 1
      · rw [z, upM_s]; exact e6
      · rw [upM_i z]; exact h6 j x y) (by omega) (by omega) (by omega)
    refine ⟨M', ?_, fun x y => (a2 x y).trans (upM_r y), fun j a b => ?_, fun j a => ?_⟩
    · rw [← a1, pX10_dropOldest_9]
      simp [show ¬ 20 ≤ i by omega, h10, h2, h28, w1, w2, show 0 ≤ i by omega, show i < 20 by omega, show 0 ≤ i - 1 by omega, show i - 1 < 20 by omega, show (1 : Int) ≤ i by omega, e6, zlet]
    · by_cases z : j = i - 1
      · rw [z, a4 _ (by omega), upM_s, show i - 1 + 1 = i by omega]
      · rw [a3 j (by omega) b, upM_i (by omega)]
    · rw [a4 j (by omega), upM_i (by omega)]
theorem pa_sh (hw : WSh S 16) (hp : PA M 16) : ∀ j, 0 ≤ j → j < 20 → ShC S (M 28 j) := fun j a b => by
  obtain ⟨z, z1, z2⟩ := hp.1 j a b
  have z3 : M 28 j = 16 + 16 + 5 * z := z2
  rw [z3]; exact hw.2.2.2.2.2.2.2 z z1.1 z1.2
theorem pa_pt (h : WPt M 16) : ∀ j, 0 ≤ j → j < 20 → PtC M (M 28 j) := fun j a b => by
  obtain ⟨z, z1, z2⟩ := h.2.2.2.2.1 j a b
  have z3 : M 28 j = 16 + 16 + 5 * z := z2
  rw [z3]; exact h.2.2.2.1 z z1.1 z1.2
/-- a scene is kept in a row of the past -/
theorem c_rem13 {w : Wd} {nR : Int} (hw : WOk nR w) (h : CN S M w) {k : Int} (hk : M 16 3 = k) (hkb : 0 ≤ k ∧ k < 20) {P : Int → Sc} (hP : ∀ i, 0 ≤ i → i < k → CS M (wT w) (M 28 i) (P i)) : ∃ M', pX10_remember_13 S M 16 = some M' ∧ CN S M' (wT w, wA w, wS w, wC w, wN w, wX w, wF w, k + 1, fun i => if i = k then wC w else P i) ∧ FA M M' := by
  obtain ⟨hN, hWS, hWP, hD⟩ := h
  have hsh := pa_sh hWS hWP.2.2.2.2 k hkb.1 hkb.2
  have hpt := pa_pt hWP k hkb.1 hkb.2
  obtain ⟨z, z1, z2⟩ := hWP.2.2.2.2.1 k hkb.1 hkb.2
  have z3 : M 28 k = 16 + 16 + 5 * z := z2
  generalize hA : M 28 k = A at *
  obtain ⟨M1, a1, a2, a3, a4, a5, a6⟩ := c_copyScene (S := S) (M := M) (a := 23) (b := A) (shC_of hN.1).1 hsh (ptC_of hN.2).1 hpt (by clear hsh hpt; omega)
  have hs6 : S.1 A = 6 := hsh.1
  clear hsh hpt
  have w1 : w32 (k + 1) = k + 1 := w32_i (by omega) (by omega)
  have e3 : M1 16 3 = k := by rw [a2 16 (by omega)]; exact hk
  generalize hM2 : upM M1 16 3 (k + 1) = M2
  have r1 : ∀ x, x ≠ 16 → M2 x = M1 x := fun x y => by rw [← hM2, upM_r y]
  have r2 : ∀ j, j ≠ 3 → M2 16 j = M 16 j := fun j y => by rw [← hM2, upM_i y, a2 16 (by omega)]
  have r3 : M2 16 3 = k + 1 := by rw [← hM2, upM_s]
  have r4 : ∀ x, x ≠ 16 → (x < A ∨ A + 4 < x) → M2 x = M x := fun x y u => by rw [r1 x y, a2 x u]
  have f1 : FA M M2 := fun x y => r4 x (by omega) (by omega)
  have n2 : NW S M2 := hN.q (fun x j y => by
    unfold pkN at y
    by_cases u : x = 16
    · subst u; exact r2 j (by omega)
    · rw [r4 x u (by omega)])
  have hPA : PA M2 16 := by
    have := hWP.2.2.2.2
    unfold PA at *
    rw [r4 (16 + 12) (by omega) (by omega)]; exact this
  refine ⟨M2, ?_, ⟨n2, hWS, ⟨?_, ?_, ?_, fun i x y => ?_, hPA⟩, ?_⟩, f1⟩
  · simp [pX10_remember_13, hN.1.o, hN.2.o, hk, hkb, hA, hs6, a1, e3, w1, zlet, hM2]
  · rw [r2 0 (by decide), r2 1 (by decide), r2 2 (by decide), r2 4 (by decide), r2 5 (by decide), r2 6 (by decide)]; exact hWP.1
  · unfold PtT; rw [r4 (16 + 1) (by omega) (by omega)]; exact hWP.2.1
  · unfold PtC; rw [r4 (16 + 7) (by omega) (by omega)]; exact hWP.2.2.1
  · by_cases u : 16 + 16 + 5 * i = A
    · unfold PtC
      rw [u, r1 A (by omega), a3 0 (by decide) (by decide) (by decide), a3 1 (by decide) (by decide) (by decide), a3 2 (by decide) (by decide) (by decide), a3 3 (by decide) (by decide) (by decide), ← u]
      exact hWP.2.2.2.1 i x y
    · unfold PtC; rw [r4 _ (by omega) (by omega)]; exact hWP.2.2.2.1 i x y
  · obtain ⟨d1, d2, d3, d4, d5, d6⟩ := hD
    refine ⟨d1.eq (fun x _ _ => r4 x (by omega) (by omega)), ?_, d3.eq (fun x _ _ => r4 x (by omega) (by omega)), ?_, ?_, fun i x y => ?_⟩
    · rw [r4 (16 + 2) (by omega) (by omega), r4 (16 + 3) (by omega) (by omega)]; exact d2
    · rw [r2 7 (by decide), r4 (16 + 13) (by omega) (by omega), r4 (16 + 14) (by omega) (by omega), r4 (16 + 15) (by omega) (by omega)]; exact d4
    · rw [r2 8 (by decide), r2 9 (by decide)]; exact ⟨d5.1, d5.2.1, r3⟩
    · have y' : i < k + 1 := y
      show CS M2 (wT w) (M2 28 i) (if i = k then wC w else P i)
      rw [r4 28 (by omega) (by omega)]
      by_cases u : i = k
      · rw [if_pos u, u, hA]
        have : CS M1 (wT w) A (wC w) := d3.rows hw.1 a4 a5 a6
        exact this.eq (fun x x1 x2 => r1 x (by omega))
      · rw [if_neg u]
        obtain ⟨v, v1, v2⟩ := hWP.2.2.2.2.1 i x (by omega)
        have v3 : M 28 i = 16 + 16 + 5 * v := v2
        have v4 : M 28 i ≠ M 28 k := hWP.2.2.2.2.2 i k x (by omega) hkb.1 hkb.2 u
        rw [hA] at v4
        refine (hP i x (by omega)).eq (fun c x1 x2 => r4 c (by omega) (by omega))
theorem c_remember {w : Wd} {nR : Int} (hw : WOk nR w) (h : CN S M w) : ∃ M', pX10_remember S M 16 = some M' ∧ CN S M' (wRem w) ∧ FA M M' := by
  have hk := hw.2.2.2.2.2.2.1
  have e3 : M 16 3 = wK w := h.2.2.2.2.2.2.2.1.2.2
  by_cases z : wK w < 20
  · obtain ⟨M', a1, a2, a3⟩ := c_rem13 hw h e3 ⟨hk.1, z⟩ h.2.2.2.2.2.2.2.2
    refine ⟨M', ?_, ?_, a3⟩
    · simp [pX10_remember, h.1.1.o, e3, z, a1]
    · have e : wRem w = (wT w, wA w, wS w, wC w, wN w, wX w, wF w, wK w + 1, fun i => if i = wK w then wC w else wP w i) := by
        unfold wRem psh; rw [if_pos z]
      rw [e]; exact a2
  · have hk20 : wK w = 20 := by omega
    obtain ⟨hN, hWS, hWP, hD⟩ := h
    have hsh := pa_sh hWS hWP.2.2.2.2
    have h28 : M 16 2 = 28 := hWP.1.2.2.1
    obtain ⟨M1, b1, b2, b3, b4⟩ := c_drop_9 hWS (o := M 28 0) (Or.inr (hsh 0 (by decide) (by decide)).1) 19 zFU M 1 h28 (fun j x y => (hsh j x y).1) (by omega) (by omega) (zFU_gt (by omega))
    clear hsh
    generalize hM2 : upM (upM M1 28 19 (M 28 0)) 16 3 19 = M2 at b1
    have r1 : ∀ x, x ≠ 16 → x ≠ 28 → M2 x = M x := fun x y u => by rw [← hM2, upM_r y, upM_r u, b2 x u]
    have r2 : ∀ j, j ≠ 3 → M2 16 j = M 16 j := fun j y => by rw [← hM2, upM_i y, upM_r (by decide), b2 16 (by decide)]
    have r3 : M2 16 3 = 19 := by rw [← hM2, upM_s]
    have r4 : ∀ j, 0 ≤ j → j < 19 → M2 28 j = M 28 (j + 1) := fun j x y => by rw [← hM2, upM_r (by decide), upM_i (by omega), b3 j (by omega) y]
    have r5 : M2 28 19 = M 28 0 := by rw [← hM2, upM_r (by decide), upM_s]
    have n2 : NW S M2 := hN.q (fun x j y => by
      unfold pkN at y
      by_cases u : x = 16
      · subst u; exact r2 j (by omega)
      · rw [r1 x u (by omega)])
    have f0 : FA M M2 := fun x y => r1 x (by omega) (by omega)
    obtain ⟨d1, d2, d3, d4, d5, d6⟩ := hD
    have hPA : PA M2 16 := by
      obtain ⟨u1, u2⟩ := hWP.2.2.2.2
      have ix : ∀ i, 0 ≤ i → i < 20 → ∃ j, (0 ≤ j ∧ j < 20) ∧ M2 28 i = M 28 j ∧ (j = i + 1 ∨ (i = 19 ∧ j = 0)) := fun i x y => by
        by_cases v : i < 19
        · exact ⟨i + 1, by omega, r4 i x v, Or.inl rfl⟩
        · have : i = 19 := by omega
          exact ⟨0, by omega, by rw [this]; exact r5, Or.inr ⟨this, rfl⟩⟩
      refine ⟨fun i x y => ?_, fun i j x y x' y' v => ?_⟩
      · obtain ⟨j, j1, j2, -⟩ := ix i x y
        show ∃ z, (0 ≤ z ∧ z < 20) ∧ M2 28 i = 16 + 16 + 5 * z
        rw [j2]; exact u1 j j1.1 j1.2
      · obtain ⟨i', i1, i2, i3⟩ := ix i x y
        obtain ⟨j', j1, j2, j3⟩ := ix j x' y'
        show M2 28 i ≠ M2 28 j
        rw [i2, j2]; exact u2 i' j' i1.1 i1.2 j1.1 j1.2 (by omega)
    have hCN2 : CN S M2 (wT w, wA w, wS w, wC w, wN w, wX w, wF w, 19, fun i => wP w (i + 1)) := by
      refine ⟨n2, hWS, ⟨?_, ?_, ?_, fun i x y => ?_, hPA⟩, d1.eq (fun x _ _ => r1 x (by omega) (by omega)), ?_, d3.eq (fun x _ _ => r1 x (by omega) (by omega)), ?_, ?_, fun i x y => ?_⟩
      · rw [r2 0 (by decide), r2 1 (by decide), r2 2 (by decide), r2 4 (by decide), r2 5 (by decide), r2 6 (by decide)]; exact hWP.1
      · unfold PtT; rw [r1 (16 + 1) (by omega) (by omega)]; exact hWP.2.1
      · unfold PtC; rw [r1 (16 + 7) (by omega) (by omega)]; exact hWP.2.2.1
      · unfold PtC; rw [r1 _ (by omega) (by omega)]; exact hWP.2.2.2.1 i x y
      · rw [r1 (16 + 2) (by omega) (by omega), r1 (16 + 3) (by omega) (by omega)]; exact d2
      · rw [r2 7 (by decide), r1 (16 + 13) (by omega) (by omega), r1 (16 + 14) (by omega) (by omega), r1 (16 + 15) (by omega) (by omega)]; exact d4
      · rw [r2 8 (by decide), r2 9 (by decide)]; exact ⟨d5.1, d5.2.1, r3⟩
      · have y' : i < 19 := y
        show CS M2 (wT w) (M2 28 i) (wP w (i + 1))
        rw [r4 i x y']
        obtain ⟨v, v1, v2⟩ := hWP.2.2.2.2.1 (i + 1) (by omega) (by omega)
        have v3 : M 28 (i + 1) = 16 + 16 + 5 * v := v2
        refine (d6 (i + 1) (by omega) (by omega)).eq (fun c x1 x2 => ?_)
        have x1' : M 28 (i + 1) ≤ c := x1
        have x2' : c ≤ M 28 (i + 1) + 4 := x2
        exact r1 c (by omega) (by omega)
    have hw2 : WOk nR (wT w, wA w, wS w, wC w, wN w, wX w, wF w, (19 : Int), fun i => wP w (i + 1)) := by
      obtain ⟨i1, i2, i3, i4, i5, i6, i7, i8⟩ := hw
      exact ⟨i1, i2, i3, i4, i5, i6, by show (0 : Int) ≤ 19 ∧ (19 : Int) ≤ 20; decide, fun i x y => i8 (i + 1) (by omega) (by have : i < 19 := y; omega)⟩
    obtain ⟨M', a1, a2, a3⟩ := c_rem13 hw2 hCN2 (k := 19) r3 (by decide) hCN2.2.2.2.2.2.2.2.2
    refine ⟨M', ?_, ?_, f0.trans a3⟩
    · have b1' : pX10_dropOldest S M 16 = some M2 := by
        simp [pX10_dropOldest, hN.1.o, hN.2.o, b1]
      simp [pX10_remember, hN.1.o, e3, hk20, b1', a1]
    · have e : wRem w = (wT w, wA w, wS w, wC w, wN w, wX w, wF w, 20, fun i => if i = 19 then wC w else wP w (i + 1)) := by
        unfold wRem psh; rw [if_neg z]
      rw [e]; exact a2
end
