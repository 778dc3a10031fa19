/-! WHO WRITES, A DAY, DAYS: THE REFERENCE -/
def ScBd (t : Td) (s : Sc) : Prop := tSd t ≠ 0 → ∀ c, tSd t * tSd t ≤ c → c < 36 → cWh s c = -1 ∧ cSi s c = -1
theorem bes_b {side c b : Int} (hs : 2 ≤ side ∧ side ≤ 6) (hc : 0 ≤ c ∧ c < side * side) : besS side c b = -1 ∨ (0 ≤ besS side c b ∧ besS side c b < side * side) := by
  obtain ⟨⟨a1, a2⟩, ⟨a3, a4⟩, a5⟩ := tdiv_b hs hc
  unfold besS
  generalize hx : (if b = 0 then (-1 : Int) else if b = 2 then 1 else 0) = x
  generalize hy : (if b = 1 then (1 : Int) else if b = 3 then -1 else 0) = y
  have hxb : -1 ≤ x ∧ x ≤ 1 := by rw [← hx]; split <;> (try split) <;> omega
  have hyb : -1 ≤ y ∧ y ≤ 1 := by rw [← hy]; split <;> (try split) <;> omega
  generalize c.tdiv side = r at *
  generalize c.tmod side = l at *
  have h1 : side = 2 ∨ side = 3 ∨ side = 4 ∨ side = 5 ∨ side = 6 := by omega
  by_cases z1 : r + x < 0
  · rw [if_pos z1]; exact Or.inl rfl
  rw [if_neg z1]
  by_cases z2 : l + y < 0
  · rw [if_pos z2]; exact Or.inl rfl
  rw [if_neg z2]
  by_cases z3 : r + x = side
  · rw [if_pos z3]; exact Or.inl rfl
  rw [if_neg z3]
  by_cases z4 : l + y = side
  · rw [if_pos z4]; exact Or.inl rfl
  rw [if_neg z4]
  right
  rcases h1 with rfl | rfl | rfl | rfl | rfl <;> omega
theorem pos_b {t : Td} {s : Sc} (hs : 2 ≤ tSd t ∧ tSd t ≤ 6) (hO : ScOk t s) {q : Int} (h1 : 0 ≤ q) (h2 : q < tPn t) : 0 ≤ posS t s q ∧ posS t s q < tSd t * tSd t := by
  have hq := (hO.1 q h1 h2).1
  have hb := bes_b (b := wOn t (cDy s)) hs hq
  unfold posS
  rw [if_neg (by omega)]
  split
  · exact hq
  split
  · exact hq
  split
  · exact hq
  · rcases hb with hb | hb
    · contradiction
    · exact hb
theorem dayW_ok {t : Td} {s : Sc} (hs : 2 ≤ tSd t ∧ tSd t ≤ 6) (ho : TdOk t) (hO : ScOk t s) (hB : ScBd t s) (hd : 0 ≤ cDy s) (w : Int) : ScOk t (dayW t w s) ∧ ScBd t (dayW t w s) := by
  have hp := ho.2.2.1
  refine ⟨⟨fun q h1 h2 => ⟨pos_b hs hO h1 h2, (hO.1 q h1 h2).2⟩, fun c h1 h2 => ?_, hO.2.2⟩, fun hz c h1 h2 => ?_⟩
  · have hW := hO.2.1 c h1 h2
    have hl := (last_b w (posS t s) c (tPn t).toNat 0 (-1)).1
    have key : (who1 w (posS t s) (tPn t).toNat (cWh s) c = -1 ∧ sin1 w (posS t s) (tPn t).toNat (cSi s) (cDy s) c = -1) ∨ ((0 ≤ who1 w (posS t s) (tPn t).toNat (cWh s) c ∧ who1 w (posS t s) (tPn t).toNat (cWh s) c < tPn t) ∧ 0 ≤ sin1 w (posS t s) (tPn t).toNat (cSi s) (cDy s) c ∧ sin1 w (posS t s) (tPn t).toNat (cSi s) (cDy s) c ≤ cDy s) := by
      unfold who1 sin1
      by_cases n0 : nAt w (posS t s) c (tPn t).toNat 0 = 0
      · rw [if_pos n0, if_pos n0]; exact hW
      · rw [if_neg n0, if_neg n0]
        by_cases n1 : nAt w (posS t s) c (tPn t).toNat 0 = 1
        · rw [if_pos n1, if_pos n1]
          have := (hl (by omega)).1
          right; omega
        · rw [if_neg n1, if_neg n1]; exact Or.inl ⟨rfl, rfl⟩
    show (who2 _ _ _ _ c = -1 ∧ sin2 _ _ _ _ c = -1) ∨ ((0 ≤ who2 _ _ _ _ c ∧ who2 _ _ _ _ c < tPn t) ∧ 0 ≤ sin2 _ _ _ _ c ∧ sin2 _ _ _ _ c ≤ cDy s + 1)
    unfold who2 sin2
    generalize who1 w (posS t s) (tPn t).toNat (cWh s) c = W at *
    generalize sin1 w (posS t s) (tPn t).toNat (cSi s) (cDy s) c = D at *
    split
    · exact Or.inl ⟨rfl, rfl⟩
    · omega
  · have hn : nAt w (posS t s) c (tPn t).toNat 0 = 0 := nAt_zero _ _ (fun i a b => by
      have := pos_b hs hO a (show i < tPn t by omega)
      omega)
    have hW := hB hz c h1 h2
    show who2 _ _ _ _ c = -1 ∧ sin2 _ _ _ _ c = -1
    unfold who2 sin2 who1 sin1
    simp only [hn, if_true]
    simp [hW.1, hW.2]
/-- the rule in force: what the reference's wanted comes to -/
def RRu (S : ZS) (M : ZM) (r : Ru) : Prop := (r = none → M 177 9 = -1) ∧ ∀ f, r = some f → M 177 9 ≠ -1 ∧ ∀ (M' : ZM) (w : Int → Int), PtR M' → (∀ a, 197 ≤ a → a ≤ 202 → M' a = M a) → M' 177 9 = M 177 9 → (∀ k, 0 ≤ k → k < 12 → M' 204 k = w k) → ∃ M'', pX12_wanted S M' 176 = some (f w, M'') ∧ ∀ a, a ≠ 205 → M'' a = M' a
theorem RRu.eq {S : ZS} {M M1 : ZM} {r : Ru} (h : RRu S M r) (e1 : ∀ a, 197 ≤ a → a ≤ 202 → M1 a = M a) (e2 : M1 177 9 = M 177 9) : RRu S M1 r := by
  refine ⟨fun z => by rw [e2]; exact h.1 z, fun f z => ?_⟩
  obtain ⟨h1, h2⟩ := h.2 f z
  refine ⟨by rw [e2]; exact h1, fun M' w a1 a2 a3 a4 => h2 M' w a1 (fun a x y => (a2 a x y).trans (e1 a x y)) (a3.trans e2) a4⟩
section
variable {S : ZS} {M : ZM} {t : Td} {s : Sc}
theorem r_w209 (hS : ShR S) (ho : TdOk t) (hd : 0 ≤ cDy s ∧ cDy s ≤ 1000000) (h : RS M t s) : pX12_writes_209 S M 176 = pX12_writes_243 S (upM (upM M 204 10 (fOn t (cDy s + 1))) 204 11 (cDy s)) 176 := by
  have hM := h.1
  have h4 := h.2.2.2.2.2.1
  have hM1 := (h.up (a := 204) (i := 10) (v := fOn t (cDy s + 1)) (by decide)).1
  have e : upM M 204 10 (fOn t (cDy s + 1)) 177 4 = cDy s := by rw [upM_r (by decide)]; exact h4
  simp [pX12_writes_209, hS, hM, h4, w32_i (x := cDy s + 1) (by omega) (by omega), r_forceOf hS hM h.2.1 ho (d := cDy s + 1) (by omega), zlet, hM1, e]
theorem r_w136 (hS : ShR S) (h : RS M t s) {q : Int} (hq : 0 ≤ q ∧ q < 5) (ha : 0 ≤ cAt s q ∧ cAt s q < 36) : pX12_writes_136 S M 176 q = pX12_writes_209 S (upM (upM (upM M 204 7 (if cWh s (cAt s q) = -1 then 0 else 1)) 204 8 (if cWh s (cAt s q) = q then 1 else 0)) 204 9 (tMk t (cAt s q))) 176 := by
  have hM := h.1
  have e1 : M 178 q = cAt s q := (h.2.2.1 q hq.1 hq.2).1
  have e2 : M 180 (cAt s q) = cWh s (cAt s q) := (h.2.2.2.1 _ ha.1 ha.2).1
  have e3 : M 184 (cAt s q) = tMk t (cAt s q) := h.2.1.2.2.2.2.2 _ ha.1 ha.2
  simp [pX12_writes_136, pX12_writes_162, pX12_writes_189, hS, hM, zlet, upM_r, e1, e2, e3, hq, ha]
theorem r_w106 (hS : ShR S) (ho : TdOk t) (hd : 0 ≤ cDy s) (h : RS M t s) {q : Int} : pX12_writes_106 S M 176 q = pX12_writes_136 S (upM (upM M 204 5 (fOn t (cDy s))) 204 6 (inkS t s q)) 176 q := by
  have hM := h.1
  have h4 := h.2.2.2.2.2.1
  have h1 := h.up (a := 204) (i := 5) (v := fOn t (cDy s)) (by decide)
  simp [pX12_writes_106, hS, hM, h4, r_forceOf hS hM h.2.1 ho hd, zlet, h1.1, r_strokesOf hS h1.1 h1.2.1 ho (s := s) (fun c a b => (h1.2.2.2.1 c a b).1)]
theorem r_w76 (hS : ShR S) (ho : TdOk t) (hd : 0 ≤ cDy s) (h : RS M t s) {q : Int} (hq : 0 ≤ q ∧ q < 5) : pX12_writes_76 S M 176 q = pX12_writes_106 S (upM (upM M 204 3 (cSt s q)) 204 4 (wOn t (cDy s))) 176 q := by
  have hM := h.1
  have e1 : M 179 q = cSt s q := (h.2.2.1 q hq.1 hq.2).2
  have h1 := h.up (a := 204) (i := 3) (v := cSt s q) (by decide)
  have h4 := h1.2.2.2.2.2.1
  simp [pX12_writes_76, hS, hM, e1, hq, h4, r_wayOf hS h1.1 h1.2.1 ho hd, zlet, h1.1]
theorem r_w56 (hS : ShR S) (hs : 2 ≤ tSd t ∧ tSd t ≤ 6) (h : RS M t s) {q : Int} (hq : 0 ≤ q ∧ q < 5) : pX12_writes_56 S M 176 q = pX12_writes_76 S (upM M 204 2 (Int.tmod (cAt s q) (tSd t))) 176 q := by
  have hM := h.1
  have e1 : M 178 q = cAt s q := (h.2.2.1 q hq.1 hq.2).1
  have e0 := h.2.1.1
  simp [pX12_writes_56, hS, hM, e1, hq, e0, show ¬ tSd t = 0 by omega, zlet]
theorem r_writes (hS : ShR S) (hs : 2 ≤ tSd t ∧ tSd t ≤ 6) (ho : TdOk t) (hO : ScOk t s) (hd : 0 ≤ cDy s ∧ cDy s ≤ 1000000) {r : Ru} (hr : RRu S M r) (h : RS M t s) {q : Int} (hq : 0 ≤ q ∧ q < tPn t) :
    ∃ M', pX12_writes S M 176 q = some (if wrS t r s q = true then 1 else 0, M') ∧ ∀ a, a ≠ 204 → a ≠ 205 → M' a = M a := by
  have hp := ho.2.2.1
  have hb := sq_b ho.1
  have hM := h.1
  have hq5 : 0 ≤ q ∧ q < 5 := by omega
  have hat := (hO.1 q hq.1 hq.2).1
  have e1 : M 178 q = cAt s q := (h.2.2.1 q hq5.1 hq5.2).1
  have e0 := h.2.1.1
  have e5 := h.2.2.2.2.1
  by_cases c1 : zand (zshr (cSy s) q) 1 = 1
  · exact ⟨M, by simp [pX12_writes, hS, hM, e5, r_has, c1, wrS], fun _ _ _ => rfl⟩
  · cases r with
    | none => exact ⟨M, by simp [pX12_writes, hS, hM, e5, r_has, c1, wrS, hr.1 rfl], fun _ _ _ => rfl⟩
    | some f =>
      obtain ⟨h9, hw⟩ := hr.2 f rfl
      have hdv := tdiv_b hs hat
      have g1 := h.up (a := 204) (i := 0) (v := q) (by decide)
      have g2 := g1.up (a := 204) (i := 1) (v := Int.tdiv (cAt s q) (tSd t)) (by decide)
      have g3 := g2.up (a := 204) (i := 2) (v := Int.tmod (cAt s q) (tSd t)) (by decide)
      have g4 := (g3.up (a := 204) (i := 3) (v := cSt s q) (by decide)).up (a := 204) (i := 4) (v := wOn t (cDy s)) (by decide)
      have g5 := (g4.up (a := 204) (i := 5) (v := fOn t (cDy s)) (by decide)).up (a := 204) (i := 6) (v := inkS t s q) (by decide)
      have g6 := ((g5.up (a := 204) (i := 7) (v := if cWh s (cAt s q) = -1 then 0 else 1) (by decide)).up (a := 204) (i := 8) (v := if cWh s (cAt s q) = q then 1 else 0) (by decide)).up (a := 204) (i := 9) (v := tMk t (cAt s q)) (by decide)
      have e : pX12_writes S M 176 q = pX12_writes_56 S (upM (upM M 204 0 q) 204 1 (Int.tdiv (cAt s q) (tSd t))) 176 q := by
        have e1' : upM M 204 0 q 178 q = cAt s q := by rw [upM_r (by decide)]; exact e1
        have e0' : upM M 204 0 q 177 0 = tSd t := by rw [upM_r (by decide)]; exact e0
        simp [pX12_writes, hS, hM, e5, r_has, c1, h9, zlet, g1.1, e1', e0', hq5, show ¬ tSd t = 0 by omega, w32_i (x := Int.tdiv (cAt s q) (tSd t)) (by omega) (by omega)]
      have hat36 : 0 ≤ cAt s q ∧ cAt s q < 36 := by omega
      rw [e, r_w56 hS hs g2 hq5, r_w76 hS ho hd.1 g3 hq5, r_w106 hS ho hd.1 g4, r_w136 hS g5 hq5 hat36, r_w209 hS ho hd g6]
      generalize hMe : upM (upM _ 204 10 (fOn t (cDy s + 1))) 204 11 (cDy s) = Me
      have hme : ∀ a, a ≠ 204 → Me a = M a := fun a x => by rw [← hMe]; simp only [upM_r x]
      have hask : ∀ k, 0 ≤ k → k < 12 → Me 204 k = askS t s q k := by
        intro k k1 k2
        have : k = 0 ∨ k = 1 ∨ k = 2 ∨ k = 3 ∨ k = 4 ∨ k = 5 ∨ k = 6 ∨ k = 7 ∨ k = 8 ∨ k = 9 ∨ k = 10 ∨ k = 11 := by omega
        rw [← hMe]
        rcases this with rfl | rfl | rfl | rfl | rfl | rfl | rfl | rfl | rfl | rfl | rfl | rfl <;> simp [upM_ap, askS]
      obtain ⟨M'', w1, w2⟩ := hw Me (askS t s q) (hM.eq (hme 176 (by decide))) (fun a x y => hme a (by omega)) (by rw [hme 177 (by decide)]) hask
      refine ⟨M'', ?_, fun a x y => (w2 a y).trans (hme a x)⟩
      simp only [pX12_writes_243, hS, w1, if_true, Option.bind_some, wrS, c1, decide_false, Bool.not_false, Bool.true_and, decide_eq_true_eq]
      by_cases z : 0 < f (askS t s q)
      · have : ¬ zcmp (f (askS t s q)) 0 ≤ 0 := by unfold zcmp; rw [if_neg (by omega), if_neg (by omega)]; decide
        rw [if_neg this, if_pos z]
      · have : zcmp (f (askS t s q)) 0 ≤ 0 := by unfold zcmp; split <;> (try split) <;> omega
        rw [if_pos this, if_neg z]
end
