/-- what a day leaves as it was -/
def FrD (M M' : ZM) : Prop := (∀ a, a ≠ 177 → a ≠ 178 → a ≠ 180 → a ≠ 181 → a ≠ 204 → a ≠ 205 → M' a = M a) ∧ (∀ j, j ≠ 4 → j ≠ 6 → M' 177 j = M 177 j) ∧ (∀ j, (j < 0 ∨ 5 ≤ j) → M' 178 j = M 178 j)
theorem FrD.refl (M : ZM) : FrD M M := ⟨fun _ _ _ _ _ _ _ => rfl, fun _ _ _ => rfl, fun _ _ => rfl⟩
theorem FrD.trans {M M' M'' : ZM} (h : FrD M M') (h' : FrD M' M'') : FrD M M'' := ⟨fun a x y z u v w => (h'.1 a x y z u v w).trans (h.1 a x y z u v w), fun j x y => (h'.2.1 j x y).trans (h.2.1 j x y), fun j x => (h'.2.2 j x).trans (h.2.2 j x)⟩
/-- a scene at which days may be reckoned -/
def ScGo (t : Td) (s : Sc) (n : Nat) : Prop := ScOk t s ∧ ScBd t s ∧ ScRm s n
theorem dayW_go {t : Td} {s : Sc} {n : Nat} (hs : 2 ≤ tSd t ∧ tSd t ≤ 6) (ho : TdOk t) (h : ScGo t s (n + 1)) (w : Int) : ScGo t (dayW t w s) n := by
  obtain ⟨h1, h2, h3, h4⟩ := h
  have hb := sq_b ho.1
  have hk := dayW_ok hs ho h1 h2 h3.1 w
  refine ⟨hk.1, hk.2, ⟨?_, ?_⟩⟩
  · show 0 ≤ cDy s + 1 ∧ cDy s + 1 + (n : Int) ≤ 100000
    omega
  · show 0 ≤ cCl s + clapN w (posS t s) (tPn t).toNat (nCl t) 0 ∧ cCl s + clapN w (posS t s) (tPn t).toNat (nCl t) 0 + 36 * (n : Int) ≤ 100000000
    have := clapN_b w (posS t s) (tPn t).toNat (nCl t) 0
    have := nCl_b ho
    omega
section
variable {S : ZS} {M : ZM} {t : Td} {s : Sc}
theorem r_goes_end (hS : ShR S) (hs : 2 ≤ tSd t ∧ tSd t ≤ 6) (ho : TdOk t) {n : Nat} (hO : ScGo t s (n + 1)) (h : RS M t s) {q w : Int} (hq : tPn t ≤ q) (f : Nat) :
    ∃ M', pX12_goes_4 S (f + 1) M 176 w q = some (w, M') ∧ RS M' t (dayW t w s) ∧ FrD M M' := by
  obtain ⟨hO, hB, hR1, hR2⟩ := hO
  have hp := ho.2.2.1
  have hb := sq_b ho.1
  have hn := nCl_b ho
  obtain ⟨M1, a1, a2, a3, a4⟩ := r_drifts hS hs ho hO hR1.1 h
  have hM1 : PtR M1 := h.1.eq (a2 _ (by decide))
  have hT1 : RTd M1 t := h.2.1.eq (fun j _ _ => by rw [a2 _ (by decide)]) (a2 _ (by decide)) (a2 _ (by decide)) (a2 _ (by decide))
  have h6 := h.2.2.2.2.2.2
  have h4 := h.2.2.2.2.2.1
  obtain ⟨M2, b1, b2, b3, b4, b5, b6⟩ := r_strikes_2 hS ho (w := w) (nCl t) zFU M1 0 hM1 hT1 rfl (by rw [a2 _ (by decide), h6]; omega) (by omega) (by omega) (zFU_gt (by omega))
  have hpos : ∀ i : Int, 0 ≤ i → i < ((tPn t).toNat : Int) → M1 178 i = posS t s i := fun i x y => a3 i x (by omega)
  have hM2 : PtR M2 := hM1.eq (b2 _ (by decide) (by decide) (by decide))
  have hT2 : RTd M2 t := hT1.eq (fun j _ _ => b3 j (by omega)) (b2 _ (by decide) (by decide) (by decide)) (b2 _ (by decide) (by decide) (by decide)) (b2 _ (by decide) (by decide) (by decide))
  have e4 : M2 177 4 = cDy s := by rw [b3 4 (by decide), a2 _ (by decide)]; exact h4
  have hW1 : ∀ c, 0 ≤ c → c < 36 → M1 180 c = cWh s c ∧ M1 181 c = cSi s c := fun c x y => by rw [a2 _ (by decide), a2 _ (by decide)]; exact h.2.2.2.1 c x y
  have hnz : ∀ c, tSd t * tSd t ≤ c → nAt w (posS t s) c (tPn t).toNat 0 = 0 := fun c z => nAt_zero _ _ (fun i x y => by
      have := pos_b hs hO x (show i < tPn t by omega)
      omega)
  have hW2 : ∀ c, 0 ≤ c → c < 36 → M2 180 c = who1 w (posS t s) (tPn t).toNat (cWh s) c ∧ M2 181 c = sin1 w (posS t s) (tPn t).toNat (cSi s) (cDy s) c := by
    intro c x y
    by_cases z : c < tSd t * tSd t
    · rw [(b5 c x z).1, (b5 c x z).2, who1_congr hpos, sin1_congr hpos]
      unfold who1 sin1
      rw [(hW1 c x y).1, (hW1 c x y).2, a2 177 (by decide), h4]
      exact ⟨rfl, rfl⟩
    · rw [(b6 c (by omega)).1, (b6 c (by omega)).2, (hW1 c x y).1, (hW1 c x y).2]
      unfold who1 sin1
      rw [hnz c (by omega), if_pos rfl, if_pos rfl]
      exact ⟨rfl, rfl⟩
  generalize hM3e : upM M2 177 4 (cDy s + 1) = M3
  have c2 : ∀ a, a ≠ 177 → M3 a = M2 a := fun a x => by rw [← hM3e, upM_r x]
  have c3 : ∀ j, j ≠ 4 → M3 177 j = M2 177 j := fun j x => by rw [← hM3e, upM_i x]
  have c4 : M3 177 4 = cDy s + 1 := by rw [← hM3e, upM_s]
  have hM3 : PtR M3 := hM2.eq (c2 _ (by decide))
  have hT3 : RTd M3 t := hT2.eq (fun j x y => c3 j (by omega)) (c2 _ (by decide)) (c2 _ (by decide)) (c2 _ (by decide))
  have hok := dayW_ok hs ho hO hB hR1.1 w
  obtain ⟨M4, d1, d2, d3, d4⟩ := r_fades_2 hS ho (W := who1 w (posS t s) (tPn t).toNat (cWh s)) (D := sin1 w (posS t s) (tPn t).toNat (cSi s) (cDy s)) (d := cDy s + 1) (by omega) (fun c x y z => by
      have hW := hO.2.1 c x y
      revert z
      unfold who1 sin1
      by_cases n0 : nAt w (posS t s) c (tPn t).toNat 0 = 0
      · rw [if_pos n0, if_pos n0]; intro z; omega
      · rw [if_neg n0, if_neg n0]
        by_cases n1 : nAt w (posS t s) c (tPn t).toNat 0 = 1
        · rw [if_pos n1, if_pos n1]; intro z; omega
        · rw [if_neg n1, if_neg n1]; intro z; omega) (nCl t) zFU M3 0 hM3 hT3 c4 (fun i x y => by rw [c2 _ (by decide), c2 _ (by decide)]; exact hW2 i x y) (by omega) (by omega) (zFU_gt (by omega))
  refine ⟨M4, ?_, ⟨hM3.eq (d2 _ (by decide) (by decide)), hT3.eq (fun j _ _ => by rw [d2 _ (by decide) (by decide)]) (d2 _ (by decide) (by decide)) (d2 _ (by decide) (by decide)) (d2 _ (by decide) (by decide)), ?_⟩, ?_⟩
  · rw [pX12_goes_4]
    have hpn := h.2.1.2.2.1
    simp [hS, h.1, hpn, hq, a1, pX12_strikes, b1, hM2, e4, w32_i (x := cDy s + 1) (by omega) (by omega), hM3e, zlet, pX12_fades, d1]
  · refine ⟨fun q x y => ?_, fun c x y => ?_, ?_, ?_, ?_⟩
    · rw [d2 _ (by decide) (by decide), c2 _ (by decide), b2 _ (by decide) (by decide) (by decide), d2 _ (by decide) (by decide), c2 _ (by decide), b2 _ (by decide) (by decide) (by decide), a2 179 (by decide), (h.2.2.1 q x y).2]
      refine ⟨?_, rfl⟩
      by_cases z : q < tPn t
      · exact a3 q x z
      · rw [a4 q (by omega), (h.2.2.1 q x y).1]
        show _ = posS t s q
        unfold posS
        rw [if_pos (by omega)]
    · by_cases z : c < tSd t * tSd t
      · exact d3 c x z
      · rw [(d4 c (by omega)).1, (d4 c (by omega)).2, c2 _ (by decide), c2 _ (by decide), (hW2 c x y).1, (hW2 c x y).2]
        have hw := hB (by omega) c (by omega) y
        show _ = who2 _ _ _ _ c ∧ _ = sin2 _ _ _ _ c
        unfold who2 sin2 who1 sin1
        rw [hnz c (by omega)]
        simp [hw.1, hw.2]
    · rw [d2 _ (by decide) (by decide), c3 5 (by decide), b3 5 (by decide), a2 _ (by decide)]; exact h.2.2.2.2.1
    · rw [d2 _ (by decide) (by decide), c4]; rfl
    · rw [d2 _ (by decide) (by decide), c3 6 (by decide), b4, a2 _ (by decide), h6, clapN_congr hpos]; rfl
  · refine ⟨fun a x y z u v w => by rw [d2 a z u, c2 a x, b2 a x z u, a2 a y], fun j x y => by rw [d2 _ (by decide) (by decide), c3 j x, b3 j y, a2 _ (by decide)], fun j x => ?_⟩
    rw [d2 _ (by decide) (by decide), c2 _ (by decide), b2 _ (by decide) (by decide) (by decide), a4 j (by omega)]
theorem r_goes_4 (hS : ShR S) (hs : 2 ≤ tSd t ∧ tSd t ≤ 6) (ho : TdOk t) {n : Nat} (hO : ScGo t s (n + 1)) {r : Ru} : ∀ (k fuel : Nat) (M : ZM) (q w : Int), RRu S M r → RS M t s → q + k = tPn t → 0 ≤ q → k < fuel →
    ∃ M', pX12_goes_4 S fuel M 176 w q = some (setF (wrS t r s) k q w, M') ∧ RS M' t (dayW t (setF (wrS t r s) k q w) s) ∧ FrD M M' := by
  have hp := ho.2.2.1
  intro k
  induction k with
  | zero =>
    intro fuel M q w hr h h1 h2 h3
    obtain ⟨f, rfl⟩ : ∃ f, fuel = f + 1 := ⟨fuel - 1, by omega⟩
    exact r_goes_end hS hs ho hO h (by omega) f
  | succ k ih =>
    intro fuel M q w hr h h1 h2 h3
    obtain ⟨f, rfl⟩ : ∃ f, fuel = f + 1 := ⟨fuel - 1, by omega⟩
    have hd := hO.2.2.1
    obtain ⟨M1, a1, a2⟩ := r_writes hS hs ho hO.1 (by omega) hr h (q := q) (by omega)
    have hpn := h.2.1.2.2.1
    have ew : w32 (q + 1) = q + 1 := w32_i (by omega) (by omega)
    have e : pX12_goes_4 S (f + 1) M 176 w q = pX12_goes_4 S f M1 176 (zor w (if wrS t r s q = true then zshl 1 q else 0)) (q + 1) := by
      rw [pX12_goes_4]
      by_cases z : wrS t r s q = true
      · simp [hS, h.1, hpn, show ¬ tPn t ≤ q by omega, a1, zlet, ew, z]
      · simp [hS, h.1, hpn, show ¬ tPn t ≤ q by omega, a1, zlet, ew, z]
    rw [e]
    obtain ⟨M', b1, b2, b3⟩ := ih f M1 (q + 1) (zor w (if wrS t r s q = true then zshl 1 q else 0)) (hr.eq (fun a x y => a2 a (by omega) (by omega)) (by rw [a2 _ (by decide) (by decide)])) (h.eq (fun a x y => a2 a (by omega) (by omega))) (by omega) (by omega) (by omega)
    refine ⟨M', b1, b2, FrD.trans ⟨fun a x y z u v w => a2 a v w, fun j _ _ => by rw [a2 _ (by decide) (by decide)], fun j _ => by rw [a2 _ (by decide) (by decide)]⟩ b3⟩
theorem r_goes (hS : ShR S) (hs : 2 ≤ tSd t ∧ tSd t ≤ 6) (ho : TdOk t) {n : Nat} (hO : ScGo t s (n + 1)) {r : Ru} (hr : RRu S M r) (h : RS M t s) :
    ∃ M', pX12_goes S M 176 = some (setS t r s, M') ∧ RS M' t (dayS t r s) ∧ FrD M M' ∧ ScGo t (dayS t r s) n := by
  have hp := ho.2.2.1
  obtain ⟨M', a1, a2, a3⟩ := r_goes_4 hS hs ho hO (r := r) (tPn t).toNat zFU M 0 0 hr h (by omega) (by omega) (zFU_gt (by omega))
  exact ⟨M', a1, a2, a3, dayW_go hs ho hO _⟩
theorem RRu.fr {M' : ZM} {r : Ru} (h : RRu S M r) (f : FrD M M') : RRu S M' r := h.eq (fun a x y => f.1 a (by omega) (by omega) (by omega) (by omega) (by omega) (by omega)) (f.2.1 9 (by decide) (by decide))
theorem r_goFor_2 (hS : ShR S) (hs : 2 ≤ tSd t ∧ tSd t ≤ 6) (ho : TdOk t) {m : Nat} {r : Ru} : ∀ (k fuel : Nat) (M : ZM) (s : Sc) (n i : Int), ScGo t s (k + m) → RRu S M r → RS M t s → i + k = n → 0 ≤ i → n ≤ 1000 → k < fuel →
    ∃ M', pX12_goFor_2 S fuel M 176 n i = some M' ∧ RS M' t (daysS t r k s) ∧ FrD M M' ∧ ScGo t (daysS t r k s) m := by
  intro k
  induction k with
  | zero =>
    intro fuel M s n i hO hr h h1 h2 h3 h4
    obtain ⟨f, rfl⟩ : ∃ f, fuel = f + 1 := ⟨fuel - 1, by omega⟩
    refine ⟨M, ?_, h, FrD.refl M, by rw [Nat.zero_add] at hO; exact hO⟩
    simp only [pX12_goFor_2]; rw [if_pos (by omega)]
  | succ k ih =>
    intro fuel M s n i hO hr h h1 h2 h3 h4
    obtain ⟨f, rfl⟩ : ∃ f, fuel = f + 1 := ⟨fuel - 1, by omega⟩
    rw [show k + 1 + m = (k + m) + 1 by omega] at hO
    obtain ⟨M1, a1, a2, a3, a4⟩ := r_goes hS hs ho hO hr h
    obtain ⟨M', b1, b2, b3, b4⟩ := ih f M1 (dayS t r s) n (i + 1) a4 (hr.fr a3) a2 (by omega) (by omega) h3 (by omega)
    refine ⟨M', ?_, b2, a3.trans b3, b4⟩
    simp only [pX12_goFor_2]; rw [if_neg (by omega), if_pos hS.1, a1, Option.bind_some, w32_i (by omega) (by omega), b1]
theorem r_goFor (hS : ShR S) (hs : 2 ≤ tSd t ∧ tSd t ≤ 6) (ho : TdOk t) {m : Nat} {r : Ru} {n : Int} (hn : 0 ≤ n ∧ n ≤ 1000) (hO : ScGo t s (n.toNat + m)) (hr : RRu S M r) (h : RS M t s) :
    ∃ M', pX12_goFor S M 176 n = some M' ∧ RS M' t (daysS t r n.toNat s) ∧ FrD M M' ∧ ScGo t (daysS t r n.toNat s) m :=
  r_goFor_2 hS hs ho n.toNat zFU M s n 0 hO hr h (by omega) (by omega) hn.2 (zFU_gt (by omega))
theorem r_like_4 (hS : ShR S) (ho : TdOk t) (h : RS M t s) : ∀ (k fuel : Nat) (c n0 : Int), c + k = tSd t * tSd t → 0 ≤ c → 0 ≤ n0 ∧ n0 + k ≤ 1000 → k < fuel → pX12_like_4 S fuel M 176 n0 c = some (n0 + cnt (fun c => (cWh s c ≠ -1) = (tMk t c = 1)) k c, M) := by
  have hb := sq_b ho.1
  have hM := h.1
  intro k
  induction k with
  | zero =>
    intro fuel c n0 h1 h2 h3 h4
    obtain ⟨f, rfl⟩ : ∃ f, fuel = f + 1 := ⟨fuel - 1, by omega⟩
    simp [pX12_like_4, r_cells hS hM h.2.1 ho, hS, show tSd t * tSd t ≤ c by omega, cnt]
  | succ k ih =>
    intro fuel c n0 h1 h2 h3 h4
    obtain ⟨f, rfl⟩ : ∃ f, fuel = f + 1 := ⟨fuel - 1, by omega⟩
    have e1 := (h.2.2.2.1 c h2 (by omega)).1
    have e2 := h.2.1.2.2.2.2.2 c h2 (by omega)
    have ew : w32 (c + 1) = c + 1 := w32_i (by omega) (by omega)
    have hc : c < 36 := by omega
    have w0 : w32 (n0 + 0) = n0 + 0 := w32_i (by omega) (by omega)
    have w1 : w32 (n0 + 1) = n0 + 1 := w32_i (by omega) (by omega)
    have i0 := ih f (c + 1) (n0 + 0) (by omega) (by omega) (by omega) (by omega)
    have i1 := ih f (c + 1) (n0 + 1) (by omega) (by omega) (by omega) (by omega)
    rw [pX12_like_4]
    simp only [pX12_like_28, pX12_like_43, r_cells hS hM h.2.1 ho, hS, hM, if_true, Option.bind_some, true_and, e1, e2, ew, cnt]
    rw [if_neg (by omega), if_pos (by omega), if_pos (by omega)]
    by_cases c1 : cWh s c = -1 <;> by_cases c2 : tMk t c = 1
    · simp only [c1, c2, if_true]
      rw [if_neg (by decide), w0, i0]; simp [c1, c2]
    · simp only [c1, c2, if_true, if_false]
      rw [w1, i1]; simp [c1, c2, Int.add_assoc]
    · simp only [c1, c2, if_true, if_false]
      rw [w1, i1]; simp [c1, c2, Int.add_assoc]
    · simp only [c1, c2, if_true, if_false]
      rw [if_neg (by decide), w0, i0]; simp [c1, c2]
theorem r_like (hS : ShR S) (ho : TdOk t) (h : RS M t s) : pX12_like S M 176 = some (likeS t s, M) := by
  have hn := nCl_b ho
  rw [pX12_like, r_like_4 hS ho h (nCl t) zFU 0 0 (by omega) (by omega) (by omega) (zFU_gt (by omega))]
  simp [likeS]
theorem r_strokes (hS : ShR S) (ho : TdOk t) (h : RS M t s) (q : Int) : pX12_strokesOf S M 176 q = some (inkS t s q, M) := r_strokesOf hS h.1 h.2.1 ho (fun c a b => (h.2.2.2.1 c a b).1) q
theorem ink_b (ho : TdOk t) (q : Int) : 0 ≤ inkS t s q ∧ inkS t s q ≤ 36 := by
  have := cnt_b (fun c => cWh s c = q) (nCl t) 0
  have := nCl_b ho
  unfold inkS
  omega
theorem r_allStrokes (hS : ShR S) (ho : TdOk t) (h : RS M t s) : pX12_allStrokes S M 176 = some (tSd t * tSd t - inkS t s (-1), M) := by
  have := ink_b (s := s) ho (-1)
  have := sq_b ho.1
  simp [pX12_allStrokes, hS, r_cells hS h.1 h.2.1 ho, r_strokes hS ho h, w32_i (x := tSd t * tSd t - inkS t s (-1)) (by omega) (by omega)]
end
