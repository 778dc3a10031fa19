/-! RESTS in the class; RAINS in both -/
section
variable {S : ZS} {M : ZM} {t : Td} {s : Sc} {e : Int} {r : Ru}
theorem scSt_CS {v q b : Int} (h : CS M t b s) : CS (upM M (b + 2) q v) t b (scSt s q v) := by
  obtain ⟨h1, h2, h3, h4, h5, h6⟩ := h
  refine ⟨fun i x y => ⟨?_, ?_⟩, fun c x y => ?_, fun c x y => ?_, ?_, ?_, ?_⟩
  · rw [upM_r (by omega)]; exact (h1 i x y).1
  · show _ = if i = q then v else cSt s i
    by_cases z : i = q
    · subst z; rw [upM_s, if_pos rfl]
    · rw [upM_i z, if_neg z]; exact (h1 i x y).2
  · rw [upM_r (by omega), upM_r (by omega)]; exact h2 c x y
  · rw [upM_r (by omega)]; exact h3 c x y
  · rw [upM_r (by omega)]; exact h4
  · rw [upM_r (by omega)]; exact h5
  · rw [upM_r (by omega)]; exact h6
theorem c_rests_3 (hs : 2 ≤ tSd t ∧ tSd t ≤ 6) {x y n what : Int} (hx : 0 ≤ x ∧ x < tPn t) (hy : 0 ≤ y ∧ y < tPn t) (hn : 1 ≤ n ∧ n ≤ 60) : ∀ (k fuel : Nat) (M : ZM) (i : Int), CQ S M t s e r → i + k = 16 → 0 ≤ i → (∀ j, 0 ≤ j → j < i → M 153 j = inkS t (rstS t r s x y n.toNat j) x ∧ M 154 j = inkS t (rstS t r s x y n.toNat j) y) → k < fuel →
    ∃ M', pX1_restsOfTwo_3 S fuel M 137 16 e x y n what i = pX1_restsOfTwo_117 S zFU M' 137 what 0 (-1) 15 ∧ CQ S M' t s e r ∧ FQ M M' ∧ (∀ j, 0 ≤ j → j < 16 → M' 153 j = inkS t (rstS t r s x y n.toNat j) x ∧ M' 154 j = inkS t (rstS t r s x y n.toNat j) y) := by
  intro k
  induction k with
  | zero =>
    intro fuel M i h h1 h2 hv h3
    obtain ⟨f, rfl⟩ : ∃ f, fuel = f + 1 := ⟨fuel - 1, by omega⟩
    refine ⟨M, ?_, h, FQ.refl M, fun j a b => hv j a (by omega)⟩
    simp [pX1_restsOfTwo_3, show 16 ≤ i by omega]
  | succ k ih =>
    intro fuel M i h h1 h2 hv h3
    obtain ⟨f, rfl⟩ : ∃ f, fuel = f + 1 := ⟨fuel - 1, by omega⟩
    have ho := h.ok
    have hp := ho.2.2.1
    have kb := k16_b (k := i) (by omega)
    have w1 : w32 (Int.tdiv i 4) = Int.tdiv i 4 := w32_i (by omega) (by omega)
    have w2 : w32 (Int.tdiv i 4 * 3) = 3 * Int.tdiv i 4 := by rw [w32_i (by omega) (by omega)]; omega
    have w3 : w32 (Int.tmod i 4 * 3) = 3 * Int.tmod i 4 := by rw [w32_i (by omega) (by omega)]; omega
    have w4 : w32 (i + 1) = i + 1 := w32_i (by omega) (by omega)
    have hlt : ¬ 16 ≤ i := by omega
    have hi16 : i < 16 := by omega
    have hx5 : x < 5 := by omega
    have hy5 : y < 5 := by omega
    obtain ⟨M1, a1, a2, a3, a4, a5⟩ := h.trial2
    have k1 : CQ S (upM M1 144 x (3 * Int.tdiv i 4)) t s e r := a2.up (by omega) (by unfold pkN; omega)
    have c1 : CS (upM M1 144 x (3 * Int.tdiv i 4)) t 142 (scSt s x (3 * Int.tdiv i 4)) := scSt_CS (b := 142) a3
    have k2 : CQ S (upM (upM M1 144 x (3 * Int.tdiv i 4)) 144 y (3 * Int.tmod i 4)) t s e r := k1.up (by omega) (by unfold pkN; omega)
    have c2 : CS (upM (upM M1 144 x (3 * Int.tdiv i 4)) 144 y (3 * Int.tmod i 4)) t 142 (scSt (scSt s x (3 * Int.tdiv i 4)) y (3 * Int.tmod i 4)) := scSt_CS (b := 142) c1
    generalize hMa : upM (upM M1 144 x (3 * Int.tdiv i 4)) 144 y (3 * Int.tmod i 4) = Ma at k2 c2
    obtain ⟨M2, b1, b2, b3, b4⟩ := c_pass ho hs (m := 0) (n := n) (by omega) (((h.go.st (q := x) (v := 3 * Int.tdiv i 4) (by omega)).st (q := y) (v := 3 * Int.tmod i 4) (by omega)).le (by omega)) k2.2.2.2.1.2.1 (k2.cd1 c2)
    have f2 := FQ.fr b3 (Or.inl ⟨rfl, rfl⟩)
    have k3 : CQ S M2 t s e r := k2.fq (k2.1.fr b3 (Or.inl ⟨rfl, rfl⟩)) f2
    have hC2 : CS M2 t 142 (rstS t r s x y n.toNat i) := b2.2.2.2.2
    have s1 := c_strokesOf ho (shC_of h.1.1).2.1 (ptC_of k3.1.2).2.1 hC2 (q := x) hx.1
    have k4 : CQ S (upM M2 153 i (inkS t (rstS t r s x y n.toNat i) x)) t s e r := k3.up (by omega) (by unfold pkN; omega)
    have hC3 : CS (upM M2 153 i (inkS t (rstS t r s x y n.toNat i) x)) t 142 (rstS t r s x y n.toNat i) := hC2.eq (fun z _ _ => upM_r (by omega))
    have s2 := c_strokesOf ho (shC_of h.1.1).2.1 (ptC_of k4.1.2).2.1 hC3 (q := y) hy.1
    have k5 : CQ S (upM (upM M2 153 i (inkS t (rstS t r s x y n.toNat i) x)) 154 i (inkS t (rstS t r s x y n.toNat i) y)) t s e r := k4.up (by omega) (by unfold pkN; omega)
    have ha : ∀ z, 146 < z → Ma z = M z := fun z u => by rw [← hMa, upM_r (by omega), upM_r (by omega), a5 z (by omega)]
    have hb : ∀ z, 146 < z → M2 z = M z := fun z u => by rw [b3.1 z (by omega) (by omega) (by omega) (by omega) (by omega) (by omega) (by omega), ha z u]
    have fa : FQ M Ma := fun z u => by rw [← hMa, upM_r (by omega), upM_r (by omega)]; exact a4 z u
    have f5 : FQ M (upM (upM M2 153 i (inkS t (rstS t r s x y n.toNat i) x)) 154 i (inkS t (rstS t r s x y n.toNat i) y)) := fun z u => by rw [upM_r (by omega), upM_r (by omega)]; exact (fa.trans f2) z u
    have e3 : pX1_restsOfTwo_3 S (f + 1) M 137 16 e x y n what i = pX1_restsOfTwo_3 S f (upM (upM M2 153 i (inkS t (rstS t r s x y n.toNat i) x)) 154 i (inkS t (rstS t r s x y n.toNat i) y)) 137 16 e x y n what (i + 1) := by
      rw [pX1_restsOfTwo_3]
      simp [hlt, hi16, h2, h.1.1.o, h.1.2.o, a1, a2.1.2.o, hx.1, hx5, hy.1, hy5, w1, w2, w3, zlet, pX1_restsOfTwo_36, k1.1.2.o, hMa, k2.1.2.o, b1, pX1_restsOfTwo_70, k3.1.2.o, s1, k4.1.2.o, s2, pX1_restsOfTwo_101, w4]
    rw [e3]
    obtain ⟨M', d1, d2, d3, d4⟩ := ih f _ (i + 1) k5 (by omega) (by omega) (fun j u v => by
      by_cases z : j = i
      · subst z
        rw [upM_r (show (153 : Int) ≠ 154 by decide), upM_s, upM_s]; exact ⟨rfl, rfl⟩
      · rw [upM_r (show (153 : Int) ≠ 154 by decide), upM_i z, upM_i z, upM_r (show (154 : Int) ≠ 153 by decide), hb 153 (by omega), hb 154 (by omega)]
        exact hv j u (by omega)) (by omega)
    exact ⟨M', d1, d2, f5.trans d3, d4⟩
theorem c_isRest_2 (h : CQ S M t s e r) {f g : Int → Int} (hf : ∀ j, 0 ≤ j → j < 16 → M 153 j = f j ∧ M 154 j = g j) {c : Int} (hc : 0 ≤ c ∧ c < 16) : ∀ (k fuel : Nat) (i : Int), i + k = 4 → 0 ≤ i → k < fuel → pX1_isRest_2 S fuel M 137 c i = some (if restB f g c k i = true then 1 else 0, M) := by
  have kb := k16_b hc
  intro k
  induction k with
  | zero =>
    intro fuel i h1 h2 h3
    obtain ⟨f, rfl⟩ : ∃ f, fuel = f + 1 := ⟨fuel - 1, by omega⟩
    simp [pX1_isRest_2, show 4 ≤ i by omega, restB]
  | succ k ih =>
    intro fuel i h1 h2 h3
    obtain ⟨fu, rfl⟩ : ∃ f, fuel = f + 1 := ⟨fuel - 1, by omega⟩
    have w1 : w32 (i * 4) = 4 * i := by rw [w32_i (by omega) (by omega)]; omega
    have w2 : w32 (4 * i + Int.tmod c 4) = 4 * i + Int.tmod c 4 := w32_i (by omega) (by omega)
    have w3 : w32 (Int.tdiv c 4) = Int.tdiv c 4 := w32_i (by omega) (by omega)
    have w6 : w32 (Int.tdiv c 4 * 4) = c - Int.tmod c 4 := by rw [w32_i (by omega) (by omega)]; omega
    have w4 : w32 (c - Int.tmod c 4 + i) = c - Int.tmod c 4 + i := w32_i (by omega) (by omega)
    have w5 : w32 (i + 1) = i + 1 := w32_i (by omega) (by omega)
    have e1 := (hf c hc.1 hc.2)
    have e2 := (hf (4 * i + Int.tmod c 4) (by omega) (by omega)).1
    have e3 := (hf (c - Int.tmod c 4 + i) (by omega) (by omega)).2
    have i0 := ih fu (i + 1) (by omega) (by omega) (by omega)
    have g0 : ¬ 4 ≤ i := by omega
    have g1 : 0 ≤ 4 * i + Int.tmod c 4 ∧ 4 * i + Int.tmod c 4 < 16 := by omega
    have g2 : 0 ≤ c - Int.tmod c 4 + i ∧ c - Int.tmod c 4 + i < 16 := by omega
    rw [pX1_isRest_2]
    by_cases c1 : f c < f (4 * i + Int.tmod c 4)
    · simp [h.1.1.o, h.1.2.o, w1, w2, g0, g1, hc, e1, e2, c1, pX1_isRest_49, restB]
    · by_cases c2 : g (c - Int.tmod c 4 + i) ≤ g c
      · simp [h.1.1.o, h.1.2.o, w1, w2, w3, w4, w5, w6, g0, g1, g2, hc, e1, e2, e3, c1, c2, i0, restB]
      · simp [h.1.1.o, h.1.2.o, w1, w2, w3, w4, w5, w6, g0, g1, g2, hc, e1, e2, e3, c1, c2, pX1_isRest_49, restB]
/-- the least, found from the end -/
theorem least_snoc (b : Int → Bool) : ∀ (k : Nat) (i : Int), 0 ≤ i → leastF b (k + 1) i = if leastF b k i = -1 then (if b (i + k) = true then i + k else -1) else leastF b k i := by
  intro k
  induction k with
  | zero => intro i _; simp [leastF]
  | succ k ih =>
    intro i hi
    have e : leastF b (k + 1 + 1) i = if b i = true then i else leastF b (k + 1) (i + 1) := rfl
    have e2 : leastF b (k + 1) i = if b i = true then i else leastF b k (i + 1) := rfl
    rw [e, ih (i + 1) (by omega), e2, show i + 1 + (k : Int) = i + ((k + 1 : Nat) : Int) by omega]
    by_cases z : b i = true
    · rw [if_pos z, if_pos z, if_neg (by omega)]
    · rw [if_neg z, if_neg z]
theorem c_rests_117 (h : CQ S M t s e r) {f g : Int → Int} (hf : ∀ j, 0 ≤ j → j < 16 → M 153 j = f j ∧ M 154 j = g j) {what : Int} : ∀ (k fuel : Nat) (m f0 : Int), k ≤ 16 → 0 ≤ m ∧ m ≤ 16 - k → k < fuel →
    pX1_restsOfTwo_117 S fuel M 137 what m f0 ((k : Int) - 1) = pX1_restsOfTwo_117 S 1 M 137 what (m + cnt (fun c => restB f g c 4 0 = true) k 0) (if leastF (fun c => restB f g c 4 0) k 0 = -1 then f0 else leastF (fun c => restB f g c 4 0) k 0) (-1) := by
  intro k
  induction k with
  | zero =>
    intro fuel m f0 h1 h2 h3
    obtain ⟨fu, rfl⟩ : ∃ f, fuel = f + 1 := ⟨fuel - 1, by omega⟩
    simp [pX1_restsOfTwo_117, cnt, leastF]
  | succ k ih =>
    intro fuel m f0 h1 h2 h3
    obtain ⟨fu, rfl⟩ : ∃ f, fuel = f + 1 := ⟨fuel - 1, by omega⟩
    have w1 : w32 ((k : Int) + -1) = (k : Int) - 1 := by rw [w32_i (by omega) (by omega)]; omega
    have w2 : w32 (m + 1) = m + 1 := w32_i (by omega) (by omega)
    have hr : pX1_isRest S M 137 (k : Int) = some (if restB f g k 4 0 = true then 1 else 0, M) := c_isRest_2 h hf (by omega) 4 zFU 0 (by omega) (by omega) (zFU_gt (by omega))
    have e0 : pX1_restsOfTwo_117 S (fu + 1) M 137 what m f0 (((k + 1 : Nat) : Int) - 1) = pX1_restsOfTwo_117 S fu M 137 what (if restB f g k 4 0 = true then m + 1 else m) (if restB f g k 4 0 = true then (k : Int) else f0) ((k : Int) - 1) := by
      rw [show ((k + 1 : Nat) : Int) - 1 = (k : Int) by omega, pX1_restsOfTwo_117]
      by_cases c1 : restB f g k 4 0 = true
      · simp [show ¬ (k : Int) < 0 by omega, h.1.1.o, hr, c1, w1, w2]
      · simp [show ¬ (k : Int) < 0 by omega, h.1.1.o, hr, c1, w1]
    rw [e0, cnt_snoc, least_snoc _ _ _ (by omega), Int.zero_add]
    have hb := least_b (fun c => restB f g c 4 0) k 0
    by_cases c1 : restB f g k 4 0 = true
    · simp only [c1, if_true]
      rw [ih fu (m + 1) k (by omega) (by omega) (by omega)]
      have e1 : m + 1 + cnt (fun c => restB f g c 4 0 = true) k 0 = m + (cnt (fun c => restB f g c 4 0 = true) k 0 + 1) := by omega
      rw [e1]
      by_cases z : leastF (fun c => restB f g c 4 0) k 0 = -1
      · simp only [z, if_true]; rw [if_neg (by omega)]
      · simp only [z, if_false]
    · simp only [c1, if_false, Bool.false_eq_true]
      rw [ih fu m f0 (by omega) (by omega) (by omega)]
      by_cases z : leastF (fun c => restB f g c 4 0) k 0 = -1
      · simp only [z, if_true, Int.add_zero]
      · simp only [z, if_false, Int.add_zero]
theorem c_two (h : CQ S M t s e r) {x y : Int} : pX11_areTwoPens S M 1 x y = some (if x ≠ y ∧ (0 ≤ x ∧ x < tPn t) ∧ (0 ≤ y ∧ y < tPn t) then 1 else 0, M) := by
  by_cases g0 : x = y
  · simp [pX11_areTwoPens, pX11_areTwoPens_37, pX11_areTwoPens_38, g0]
  · by_cases g1 : 0 ≤ x ∧ x < tPn t
    · by_cases g2 : 0 ≤ y ∧ y < tPn t
      · simp [pX11_areTwoPens, pX11_areTwoPens_38, g0, h.1.1.o, h.1.2.o, c_hasPen h.tt, g1, g2]
      · simp [pX11_areTwoPens, pX11_areTwoPens_37, pX11_areTwoPens_38, g0, h.1.1.o, h.1.2.o, c_hasPen h.tt, g1, g2]
    · simp [pX11_areTwoPens, pX11_areTwoPens_37, pX11_areTwoPens_38, g0, h.1.1.o, h.1.2.o, c_hasPen h.tt, g1]
theorem c_rests (h : CQ S M t s e r) {x y n what : Int} : ∃ M', pX11_rests S M 1 x y n what = some (restsA t r s x y n what, M') ∧ NW S M' ∧ FQ M M' := by
  have ho := h.ok
  unfold restsA
  by_cases g1 : x ≠ y ∧ (0 ≤ x ∧ x < tPn t) ∧ (0 ≤ y ∧ y < tPn t)
  · by_cases g4 : 1 ≤ n ∧ n ≤ 20
    · by_cases g5 : 0 ≤ what ∧ what ≤ 2
      · by_cases gs : tSd t = 0
        · have h0 := (h.go.1.1 x g1.2.1.1 g1.2.1.2).1
          rw [gs] at h0; omega
        have hs : 2 ≤ tSd t ∧ tSd t ≤ 6 := by have := ho.1; omega
        obtain ⟨M', a1, a2, a3, a4⟩ := c_rests_3 hs (what := what) g1.2.1 g1.2.2 (n := n) (by omega) 16 zFU M 0 h (by omega) (by omega) (fun j u v => by omega) (zFU_gt (by omega))
        refine ⟨M', ?_, a2.1, a3⟩
        rw [if_pos ⟨g1.2.1, g1.2.2, g1.1, g4, g5⟩]
        have e0 : pX11_rests S M 1 x y n what = pX1_restsOfTwo_117 S zFU M' 137 what 0 (-1) 15 := by
          rw [← a1]
          simp [pX11_rests, h.1.1.o, h.1.2.o, c_two h, g1, c_within, g4, g5, c_ruleInForce h, pX1_restsOfTwo]
          cases pX1_restsOfTwo_3 S zFU M 137 16 e x y n what 0 with
          | none => rfl
          | some v => rfl
        have e := c_rests_117 a2 (what := what) a4 16 zFU 0 (-1) (by omega) (by omega) (zFU_gt (by omega))
        have eb : (fun c => restB (fun k => inkS t (rstS t r s x y n.toNat k) x) (fun k => inkS t (rstS t r s x y n.toNat k) y) c 4 0) = rstB t r s x y n.toNat := rfl
        have ec : cnt (fun c => restB (fun k => inkS t (rstS t r s x y n.toNat k) x) (fun k => inkS t (rstS t r s x y n.toNat k) y) c 4 0 = true) 16 0 = cnt (fun c => rstB t r s x y n.toNat c = true) 16 0 := rfl
        rw [show (((16 : Nat) : Int) - 1) = 15 from rfl, eb, ec] at e
        rw [e0, e]
        have hl := least_b (rstB t r s x y n.toNat) 16 0
        generalize leastF (rstB t r s x y n.toNat) 16 0 = L at *
        generalize cnt (fun c => rstB t r s x y n.toNat c = true) 16 0 = N at *
        have el : (if L = -1 then -1 else L) = L := by
          split
          · next hz => exact hz.symm
          · rfl
        rw [el, Int.zero_add]
        have w0 : what = 0 ∨ what = 1 ∨ what = 2 := by omega
        rcases hl with hl | hl
        · subst hl
          rcases w0 with rfl | rfl | rfl <;> simp [pX1_restsOfTwo_117]
        · have kb := k16_b (k := L) (by omega)
          have z1 : ¬ L = -1 := by omega
          have w1 : w32 (Int.tdiv L 4) = Int.tdiv L 4 := w32_i (by omega) (by omega)
          have w2 : w32 (Int.tdiv L 4 * 3) = 3 * Int.tdiv L 4 := by rw [w32_i (by omega) (by omega)]; omega
          have w3 : w32 (Int.tmod L 4 * 3) = 3 * Int.tmod L 4 := by rw [w32_i (by omega) (by omega)]; omega
          rcases w0 with rfl | rfl | rfl <;> simp [pX1_restsOfTwo_117, pX1_restsOfTwo_182, z1, w1, w2, w3]
      · refine ⟨M, ?_, h.1, FQ.refl M⟩
        rw [if_neg (fun z => g5 z.2.2.2.2)]
        simp [pX11_rests, pX11_rests_29, h.1.1.o, h.1.2.o, c_two h, g1, c_within, g4, g5]
    · refine ⟨M, ?_, h.1, FQ.refl M⟩
      rw [if_neg (fun z => g4 z.2.2.2.1)]
      simp [pX11_rests, pX11_rests_29, h.1.1.o, h.1.2.o, c_two h, g1, c_within, g4]
  · refine ⟨M, ?_, h.1, FQ.refl M⟩
    rw [if_neg (fun z => g1 ⟨z.2.2.1, z.1, z.2.1⟩)]
    simp only [pX11_rests, pX11_rests_29, h.1.1.o, c_two h, g1, if_true, if_false, Option.bind_some]
end
