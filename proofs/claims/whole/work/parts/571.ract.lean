/-! ACTS: as numbers; the reference -/
def psh (k : Int) (P : Int → Sc) (s : Sc) : Int × (Int → Sc) := if k < 20 then (k + 1, fun i => if i = k then s else P i) else (20, fun i => if i = 19 then s else P (i + 1))
def wRem (w : Wd) : Wd := (wT w, wA w, wS w, wC w, wN w, wX w, wF w, (psh (wK w) (wP w) (wC w)).1, (psh (wK w) (wP w) (wC w)).2)
def wSc (w : Wd) (s : Sc) : Wd := (wT w, wA w, wS w, s, wN w, wX w, wF w, wK w, wP w)
theorem wRem_ok {nR : Int} {w : Wd} (h : WOk nR w) : WOk nR (wRem w) := by
  obtain ⟨h1, h2, h3, h4, h5, h6, h7, h8⟩ := h
  refine ⟨h1, h2, h3, h4, h5, h6, ?_, fun i a b => ?_⟩
  · show 0 ≤ (psh (wK w) (wP w) (wC w)).1 ∧ (psh (wK w) (wP w) (wC w)).1 ≤ 20
    unfold psh; split <;> omega
  · show SOk (wT w) ((psh (wK w) (wP w) (wC w)).2 i)
    have b' : i < (psh (wK w) (wP w) (wC w)).1 := b
    unfold psh at b' ⊢
    by_cases z : wK w < 20
    · rw [if_pos z] at b' ⊢
      show SOk (wT w) (if i = wK w then wC w else wP w i)
      by_cases z2 : i = wK w
      · rw [if_pos z2]; exact h3
      · rw [if_neg z2]; exact h8 i a (by have : i < wK w + 1 := b'; omega)
    · rw [if_neg z] at b' ⊢
      show SOk (wT w) (if i = 19 then wC w else wP w (i + 1))
      by_cases z2 : i = 19
      · rw [if_pos z2]; exact h3
      · rw [if_neg z2]; exact h8 (i + 1) (by omega) (by have : i < 20 := b'; omega)
theorem PR.sh {V V' : ZM} {i j : Int} {s : Sc} (h : PR V j s) (e : ∀ z, 85 * i ≤ z → z < 85 * i + 85 → V' 206 z = V 206 (z + 85 * (j - i))) : PR V' i s := by
  obtain ⟨⟨h1, h2, h3⟩, h4, h5⟩ := h
  refine ⟨⟨?_, ?_, ?_⟩, fun q a b => ⟨?_, ?_⟩, fun c a b => ⟨?_, ?_⟩⟩
  · rw [e _ (by omega) (by omega), show 85 * i + 85 * (j - i) = 85 * j by omega]; exact h1
  · rw [e _ (by omega) (by omega), show 85 * i + 1 + 85 * (j - i) = 85 * j + 1 by omega]; exact h2
  · rw [e _ (by omega) (by omega), show 85 * i + 2 + 85 * (j - i) = 85 * j + 2 by omega]; exact h3
  · rw [e _ (by omega) (by omega), show 85 * i + 3 + q + 85 * (j - i) = 85 * j + 3 + q by omega]; exact (h4 q a b).1
  · rw [e _ (by omega) (by omega), show 85 * i + 8 + q + 85 * (j - i) = 85 * j + 8 + q by omega]; exact (h4 q a b).2
  · rw [e _ (by omega) (by omega), show 85 * i + 13 + c + 85 * (j - i) = 85 * j + 13 + c by omega]; exact (h5 c a b).1
  · rw [e _ (by omega) (by omega), show 85 * i + 49 + c + 85 * (j - i) = 85 * j + 49 + c by omega]; exact (h5 c a b).2
theorem PR.eq {V V' : ZM} {i : Int} {s : Sc} (h : PR V i s) (e : ∀ z, 85 * i ≤ z → z < 85 * i + 85 → V' 206 z = V 206 z) : PR V' i s := h.sh (fun z a b => by rw [show z + 85 * (i - i) = z by omega]; exact e z a b)
/-- what an act leaves as it was -/
def FrA (M M' : ZM) : Prop := (∀ a, a ≠ 176 → a ≠ 206 → a ≠ 204 → a ≠ 205 → (a < 177 ∨ 181 < a) → M' a = M a) ∧ (∀ j, j ≠ 42 → j ≠ 43 → j ≠ 44 → M' 176 j = M 176 j) ∧ (∀ j, (j < 4 ∨ 7 ≤ j) → M' 177 j = M 177 j)
theorem FrA.refl (M : ZM) : FrA M M := ⟨fun _ _ _ _ _ _ => rfl, fun _ _ _ _ => rfl, fun _ _ => rfl⟩
theorem FrA.trans {M M' M'' : ZM} (h : FrA M M') (h' : FrA M' M'') : FrA M M'' := ⟨fun a x y z u v => (h'.1 a x y z u v).trans (h.1 a x y z u v), fun j x y z => (h'.2.1 j x y z).trans (h.2.1 j x y z), fun j x => (h'.2.2 j x).trans (h.2.2 j x)⟩
theorem FrA.of {M M' : ZM} (h : FrD M M') : FrA M M' := ⟨fun a x y z u v => h.1 a (by omega) (by omega) (by omega) (by omega) z u, fun j x y z => by rw [h.1 176 (by decide) (by decide) (by decide) (by decide) (by decide) (by decide)], fun j x => h.2.1 j (by omega) (by omega)⟩
section
variable {S : ZS} {R M : ZM}
theorem r_shift (hS : ShW S) : ∀ (k fuel : Nat) (M : ZM) (x : Int), PtW M → x + k = 1700 → 85 ≤ x → k < fuel → ∃ M', pX12_keepsAct_12 S fuel M 176 x = pX12_keepsAct_50 S (upM M' 176 42 (w32 (M' 176 42 - 1))) 176 ∧ (∀ a, a ≠ 206 → M' a = M a) ∧ (∀ j, x - 85 ≤ j → j < 1615 → M' 206 j = M 206 (j + 85)) ∧ (∀ j, (j < x - 85 ∨ 1615 ≤ j) → M' 206 j = M 206 j) := by
  intro k
  induction k with
  | zero =>
    intro fuel M x hM h1 h2 h3
    obtain ⟨f, rfl⟩ : ∃ f, fuel = f + 1 := ⟨fuel - 1, by omega⟩
    refine ⟨M, ?_, fun _ _ => rfl, fun j a b => by omega, fun _ _ => rfl⟩
    simp [pX12_keepsAct_12, show 1700 ≤ x by omega, hS.o, zlet]
  | succ k ih =>
    intro fuel M x hM h1 h2 h3
    obtain ⟨f, rfl⟩ : ∃ f, fuel = f + 1 := ⟨fuel - 1, by omega⟩
    have w1 : w32 (x - 85) = x - 85 := w32_i (by omega) (by omega)
    have w2 : w32 (x + 1) = x + 1 := w32_i (by omega) (by omega)
    obtain ⟨M', a1, a2, a3, a4⟩ := ih f (upM M 206 (x - 85) (M 206 x)) (x + 1) (hM.o.eq (upM_r (by decide))) (by omega) (by omega) (by omega)
    refine ⟨M', ?_, fun a y => (a2 a y).trans (upM_r y), fun j a b => ?_, fun j a => ?_⟩
    · rw [← a1, pX12_keepsAct_12]
      simp [show ¬ 1700 ≤ x by omega, h2, hS.o, hM.o, w1, w2, show 0 ≤ x by omega, show x < 1700 by omega, show 0 ≤ x - 85 by omega, show x - 85 < 1700 by omega, zlet]
    · by_cases z : j = x - 85
      · rw [z, a4 _ (by omega), upM_s, show x - 85 + 85 = x by omega]
      · rw [a3 j (by omega) b, upM_i (by omega)]
    · rw [a4 j (by omega), upM_i (by omega)]
/-- laid into a row of the past, and how many there are -/
theorem r_keep50 (hS : ShW S) (hM : PtW M) {k : Int} (hk : M 176 42 = k) (hkb : 0 ≤ k ∧ k < 20) {s : Sc} (hC : RSc M s) : ∃ M', pX12_keepsAct_50 S M 176 = some M' ∧ PtW M' ∧ FrA M M' ∧ RSc M' s ∧ M' 176 42 = k + 1 ∧ PR M' k s ∧ (∀ j, (j < 85 * k ∨ 85 * k + 85 ≤ j) → M' 206 j = M 206 j) := by
  obtain ⟨M1, a1, a2, a3, a4, a5, a6, a7, a8, a9⟩ := r_mvAll hS hM (k := k) (tb := 0) hkb (Or.inl rfl)
  have w1 : w32 (k + 1) = k + 1 := w32_i (by omega) (by omega)
  have e42 : M1 176 42 = k := by rw [a4 42 (by decide) (by decide)]; exact hk
  have f1 : FrA M M1 := ⟨fun a x y _ _ z => a3 a x y z, fun j _ y z => a4 j y z, a5⟩
  simp only [if_true] at a7 a8 a9
  obtain ⟨c1, c2, c3, c4, c5⟩ := hC
  refine ⟨upM M1 176 42 (k + 1), ?_, a2.j (fun j x => upM_i (by omega)), f1.trans ⟨fun a x _ _ _ _ => upM_r x, fun j x _ _ => upM_i x, fun j _ => by rw [upM_r (by decide)]⟩, ?_, upM_s _ _ _ _, ?_, fun j x => by rw [upM_r (by decide)]; exact a6 j x⟩
  · simp [pX12_keepsAct_50, hS.o, hk, a1, e42, w1, zlet]
  · refine ⟨fun q x y => ?_, fun c x y => ?_, ?_, ?_, ?_⟩
    · rw [upM_r (by decide), upM_r (by decide), (a8 q x y).1.1, (a8 q x y).2.1]; exact c1 q x y
    · rw [upM_r (by decide), upM_r (by decide), (a9 c x y).1.1, (a9 c x y).2.1]; exact c2 c x y
    · rw [upM_r (by decide), (a7 5 (by decide) (by decide)).1]; exact c3
    · rw [upM_r (by decide), (a7 4 (by decide) (by decide)).1]; exact c4
    · rw [upM_r (by decide), (a7 6 (by decide) (by decide)).1]; exact c5
  · refine ⟨⟨?_, ?_, ?_⟩, fun q x y => ⟨?_, ?_⟩, fun c x y => ⟨?_, ?_⟩⟩
    · have := (a7 4 (by decide) (by decide)).2
      rw [show 85 * k + (4 - 4) = 85 * k by omega] at this
      rw [upM_r (by decide), this]; exact c4
    · have := (a7 5 (by decide) (by decide)).2
      rw [show 85 * k + (5 - 4) = 85 * k + 1 by omega] at this
      rw [upM_r (by decide), this]; exact c3
    · have := (a7 6 (by decide) (by decide)).2
      rw [show 85 * k + (6 - 4) = 85 * k + 2 by omega] at this
      rw [upM_r (by decide), this]; exact c5
    · rw [upM_r (by decide), (a8 q x y).1.2]; exact (c1 q x y).1
    · rw [upM_r (by decide), (a8 q x y).2.2]; exact (c1 q x y).2
    · rw [upM_r (by decide), (a9 c x y).1.2]; exact (c2 c x y).1
    · rw [upM_r (by decide), (a9 c x y).2.2]; exact (c2 c x y).2
theorem RW.rest {w : Wd} {M' : ZM} {s : Sc} (h : RW M (M 176 42) w) (f : FrA M M') (hC : RSc M' s) {k : Int} {P : Int → Sc} (hk : M' 176 42 = k) (hP : ∀ i, 0 ≤ i → i < k → PR M' i (P i)) : RW M' (M' 176 42) (wT w, wA w, wS w, s, wN w, wX w, wF w, k, P) := by
  obtain ⟨h1, h2, h3, h4, h5, h6, h7⟩ := h
  refine ⟨h1.eq (fun j x y => f.2.2 j (by omega)) (f.1 _ (by decide) (by decide) (by decide) (by decide) (by decide)) (f.1 _ (by decide) (by decide) (by decide) (by decide) (by decide)) (f.1 _ (by decide) (by decide) (by decide) (by decide) (by decide)), hC, ?_, ⟨by rw [f.2.2 8 (by decide)]; exact h4.1, by rw [f.2.2 9 (by decide)]; exact h4.2⟩, ?_, hk, hP⟩
  · unfold RNt at *
    rw [f.2.2 7 (by decide), f.1 185 (by decide) (by decide) (by decide) (by decide) (by decide), f.1 186 (by decide) (by decide) (by decide) (by decide) (by decide), f.1 187 (by decide) (by decide) (by decide) (by decide) (by decide)]; exact h3
  · rw [f.1 188 (by decide) (by decide) (by decide) (by decide) (by decide), f.1 189 (by decide) (by decide) (by decide) (by decide) (by decide)]; exact h5
theorem r_keepsAct (hS : ShW S) (hM : PtW M) {nR : Int} {w : Wd} (hw : WOk nR w) (h : RW M (M 176 42) w) : ∃ M', pX12_keepsAct S M 176 = some M' ∧ PtW M' ∧ FrA M M' ∧ RW M' (M' 176 42) (wRem w) := by
  have hk := hw.2.2.2.2.2.2.1
  have e42 : M 176 42 = wK w := h.2.2.2.2.2.1
  have hP := h.2.2.2.2.2.2
  by_cases z : wK w < 20
  · obtain ⟨M', a1, a2, a3, a4, a5, a6, a7⟩ := r_keep50 hS hM e42 ⟨hk.1, z⟩ h.2.1
    refine ⟨M', ?_, a2, a3, ?_⟩
    · simp [pX12_keepsAct, hS.o, e42, show ¬ wK w = 20 by omega, a1]
    · have e : wRem w = (wT w, wA w, wS w, wC w, wN w, wX w, wF w, wK w + 1, fun i => if i = wK w then wC w else wP w i) := by
        unfold wRem psh; rw [if_pos z]
      rw [e]
      refine h.rest a3 a4 a5 (fun i x y => ?_)
      by_cases q : i = wK w
      · rw [if_pos q, q]; exact a6
      · rw [if_neg q]; exact (hP i x (by omega)).eq (fun j u v => a7 j (by omega))
  · have hk20 : wK w = 20 := by omega
    obtain ⟨M1, b1, b2, b3, b4⟩ := r_shift hS 1615 zFU M 85 hM (by omega) (by omega) (zFU_gt (by omega))
    have e1 : M1 176 42 = 20 := by rw [b2 176 (by decide), e42, hk20]
    have w1 : w32 (20 - 1) = 19 := by rw [w32_i (by decide) (by decide)]; rfl
    rw [e1, w1] at b1
    generalize hM2 : upM M1 176 42 19 = M2 at b1
    have r2 : ∀ a, a ≠ 176 → M2 a = M1 a := fun a x => by rw [← hM2, upM_r x]
    have r3 : ∀ j, j ≠ 42 → M2 176 j = M 176 j := fun j x => by rw [← hM2, upM_i x, b2 176 (by decide)]
    have p2 : PtW M2 := hM.j (fun j x => r3 j (by omega))
    have c2 : RSc M2 (wC w) := by
      have := h.2.1
      unfold RSc at *
      rw [r2 178 (by decide), r2 179 (by decide), r2 180 (by decide), r2 181 (by decide), r2 177 (by decide), b2 178 (by decide), b2 179 (by decide), b2 180 (by decide), b2 181 (by decide), b2 177 (by decide)]; exact this
    obtain ⟨M', a1, a2, a3, a4, a5, a6, a7⟩ := r_keep50 hS p2 (k := 19) (by rw [← hM2, upM_s]) (by omega) c2
    have f0 : FrA M M2 := ⟨fun a x y _ _ _ => by rw [r2 a x, b2 a y], fun j x _ _ => r3 j x, fun j _ => by rw [r2 177 (by decide), b2 177 (by decide)]⟩
    refine ⟨M', ?_, a2, f0.trans a3, ?_⟩
    · simp [pX12_keepsAct, hS.o, e42, hk20, b1, a1]
    · have e : wRem w = (wT w, wA w, wS w, wC w, wN w, wX w, wF w, 20, fun i => if i = 19 then wC w else wP w (i + 1)) := by
        unfold wRem psh; rw [if_neg z]
      rw [e]
      refine h.rest (f0.trans a3) a4 a5 (fun i x y => ?_)
      by_cases q : i = 19
      · rw [if_pos q, q]; exact a6
      · rw [if_neg q]
        refine (hP (i + 1) (by omega) (by omega)).sh (fun j u v => ?_)
        rw [a7 j (by omega), r2 206 (by decide), b3 j (by omega) (by omega), show j + 85 * (i + 1 - i) = j + 85 by omega]
def undoA (w : Wd) : Int := if wK w = 0 then -2 else wK w - 1
def undoW (w : Wd) : Wd := if wK w = 0 then w else (wT w, wA w, wS w, wP w (wK w - 1), wN w, wX w, wF w, wK w - 1, wP w)
theorem undo_ok {nR : Int} {w : Wd} (h : WOk nR w) : WOk nR (undoW w) := by
  unfold undoW
  by_cases z : wK w = 0
  · rw [if_pos z]; exact h
  · rw [if_neg z]
    obtain ⟨h1, h2, h3, h4, h5, h6, h7, h8⟩ := h
    exact ⟨h1, h2, h8 (wK w - 1) (by omega) (by omega), h4, h5, h6, by show 0 ≤ wK w - 1 ∧ wK w - 1 ≤ 20; omega, fun i a b => h8 i a (by have : i < wK w - 1 := b; omega)⟩
theorem r_undo (hS : ShW S) (hM : PtW M) {nR : Int} {w : Wd} (hw : WOk nR w) (h : RW M (M 176 42) w) : ∃ M', pX12_undo S M 176 = some (undoA w, M') ∧ PtW M' ∧ FrA M M' ∧ RW M' (M' 176 42) (undoW w) := by
  have hk := hw.2.2.2.2.2.2.1
  have e42 : M 176 42 = wK w := h.2.2.2.2.2.1
  have hP := h.2.2.2.2.2.2
  unfold undoA undoW
  by_cases z : wK w = 0
  · rw [if_pos z, if_pos z]
    refine ⟨M, ?_, hM, FrA.refl M, h⟩
    simp [pX12_undo, hS.o, e42, z]
  · rw [if_neg z, if_neg z]
    have w1 : w32 (wK w - 1) = wK w - 1 := w32_i (by omega) (by omega)
    have p1 : PtW (upM M 176 42 (wK w - 1)) := hM.j (fun j x => upM_i (by omega))
    obtain ⟨M1, a1, a2, a3, a4, a5, a6, a7, a8, a9⟩ := r_mvAll hS p1 (k := wK w - 1) (tb := 1) (by omega) (Or.inr rfl)
    simp only [show ¬ (1 : Int) = 0 by decide, if_false] at a7 a8 a9
    have e206 : upM M 176 42 (wK w - 1) 206 = M 206 := upM_r (by decide)
    rw [e206] at a6 a7 a8 a9
    obtain ⟨⟨c1, c2, c3⟩, c4, c5⟩ := hP (wK w - 1) (by omega) (by omega)
    have e43 : M1 176 42 = wK w - 1 := by rw [a4 42 (by decide) (by decide), upM_s]
    have f1 : FrA M M1 := ⟨fun a x y _ _ v => by rw [a3 a x y v, upM_r x], fun j x y v => by rw [a4 j y v, upM_i x], fun j x => by rw [a5 j x, upM_r (by decide)]⟩
    have hall : ∀ j, 0 ≤ j → j < 1700 → M1 206 j = M 206 j := fun j x y => by
      by_cases q : 85 * (wK w - 1) ≤ j ∧ j < 85 * (wK w - 1) + 85
      · by_cases q1 : j < 85 * (wK w - 1) + 3
        · have := (a7 (j - 85 * (wK w - 1) + 4) (by omega) (by omega)).2
          rw [show 85 * (wK w - 1) + (j - 85 * (wK w - 1) + 4 - 4) = j by omega] at this; exact this
        · by_cases q2 : j < 85 * (wK w - 1) + 8
          · have := (a8 (j - (85 * (wK w - 1) + 3)) (by omega) (by omega)).1.2
            rw [show 85 * (wK w - 1) + 3 + (j - (85 * (wK w - 1) + 3)) = j by omega] at this; exact this
          · by_cases q3 : j < 85 * (wK w - 1) + 13
            · have := (a8 (j - (85 * (wK w - 1) + 8)) (by omega) (by omega)).2.2
              rw [show 85 * (wK w - 1) + 8 + (j - (85 * (wK w - 1) + 8)) = j by omega] at this; exact this
            · by_cases q4 : j < 85 * (wK w - 1) + 49
              · have := (a9 (j - (85 * (wK w - 1) + 13)) (by omega) (by omega)).1.2
                rw [show 85 * (wK w - 1) + 13 + (j - (85 * (wK w - 1) + 13)) = j by omega] at this; exact this
              · have := (a9 (j - (85 * (wK w - 1) + 49)) (by omega) (by omega)).2.2
                rw [show 85 * (wK w - 1) + 49 + (j - (85 * (wK w - 1) + 49)) = j by omega] at this; exact this
      · exact a6 j (by omega)
    refine ⟨M1, ?_, a2, f1, h.rest f1 ?_ e43 (fun i x y => (hP i x (by omega)).eq (fun j u v => hall j (by omega) (by omega)))⟩
    · simp [pX12_undo, hS.o, e42, z, w1, zlet, upM_s, a1, e43]
    · refine ⟨fun q x y => ?_, fun c x y => ?_, ?_, ?_, ?_⟩
      · rw [(a8 q x y).1.1, (a8 q x y).2.1]; exact c4 q x y
      · rw [(a9 c x y).1.1, (a9 c x y).2.1]; exact c5 c x y
      · have := (a7 5 (by decide) (by decide)).1
        rw [show 85 * (wK w - 1) + (5 - 4) = 85 * (wK w - 1) + 1 by omega] at this
        rw [this]; exact c2
      · have := (a7 4 (by decide) (by decide)).1
        rw [show 85 * (wK w - 1) + (4 - 4) = 85 * (wK w - 1) by omega] at this
        rw [this]; exact c1
      · have := (a7 6 (by decide) (by decide)).1
        rw [show 85 * (wK w - 1) + (6 - 4) = 85 * (wK w - 1) + 2 by omega] at this
        rw [this]; exact c3
end
