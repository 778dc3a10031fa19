/-! GAME: the reference's table -/
section
variable {S : ZS} {R M : ZM} {t : Td} {s : Sc}
theorem RAt.pg (hA : RAt R M) (hR : RS R t s) {x y : Int} (hx : (0 ≤ x ∧ x < 5) ∧ (0 ≤ y ∧ y < 5)) : RPg M t x y (cAt s x, cAt s y, cWh s) := by
  have h := hA.rs hR
  exact ⟨h.1.w, h.2.1, (h.2.2.1 x hx.1.1 hx.1.2).1, (h.2.2.1 y hx.2.1 hx.2.2).1, fun c a b => (h.2.2.2.1 c a b).1⟩
theorem p5_b {n : Nat} (h : n ≤ 4) : 1 ≤ p5 n ∧ p5 n ≤ 625 := by
  rcases p5_s h with h | h | h | h | h <;> omega
theorem r_game_79 (hS : ShW S) (hR : RS R t s) (hs : 2 ≤ tSd t ∧ tSd t ≤ 6) (ho : TdOk t) {x y what : Int} (hx : (0 ≤ x ∧ x < 5) ∧ (0 ≤ y ∧ y < 5)) (hxy : x ≠ y) (hg : gOk t (cAt s x, cAt s y, cWh s)) {n : Nat} (hn : 1 ≤ n ∧ n ≤ 4) : ∀ (k fuel : Nat) (M : ZM) (c : Int), RK R M → RAt R M → c + k = p5 n → 0 ≤ c → (∀ z, 0 ≤ z → z < c → M 208 z = pvG t x y 0 n 0 (cAt s x, cAt s y, cWh s) z) → k < fuel →
    ∃ M', pX12_game_79 S fuel M 176 x y n what (p5 n) c = pX12_game_115 S zFU M' 176 what (p5 n) ((n - 1 : Nat) : Int) ∧ RAt R M' ∧ (∀ z, 0 ≤ z → z < p5 n → M' 208 z = pvG t x y 0 n 0 (cAt s x, cAt s y, cWh s) z) := by
  have hpb := p5_b hn.2
  intro k
  induction k with
  | zero =>
    intro fuel M c hK hA h1 h2 h3 h4
    obtain ⟨f, rfl⟩ : ∃ f, fuel = f + 1 := ⟨fuel - 1, by omega⟩
    have wn : w32 ((n : Int) - 1) = ((n - 1 : Nat) : Int) := by rw [w32_i (by omega) (by omega)]; omega
    refine ⟨M, ?_, hA, fun z a b => h3 z a (by omega)⟩
    simp only [pX12_game_79]
    rw [if_pos (by omega), wn]
  | succ k ih =>
    intro fuel M c hK hA h1 h2 h3 h4
    obtain ⟨f, rfl⟩ : ∃ f, fuel = f + 1 := ⟨fuel - 1, by omega⟩
    have wc : w32 (c + 1) = c + 1 := w32_i (by omega) (by omega)
    have hM : PtW M := (hA.1.pt hR.1).w
    obtain ⟨M1, a1, a2, a3, a4⟩ := r_play_10 hS hR.1.w hs ho hx hxy (n := n) hn.2 (code := c) (by omega) n zFU M 0 (cAt s x, cAt s y, cWh s) hK (hA.pg hR hx) hg (by omega) (zFU_gt (by omega))
    have em : Int.tmod c (p5 n) = c := Int.tmod_eq_of_lt h2 (by omega)
    rw [em] at a1
    have a1' : pX12_playOf S M 176 x y n c (p5 n) = some (pvG t x y 0 n 0 (cAt s x, cAt s y, cWh s) c, M1) := a1
    obtain ⟨M', b1, b2, b3⟩ := ih f (upM M1 208 c (pvG t x y 0 n 0 (cAt s x, cAt s y, cWh s) c)) (c + 1) (a2.eq (fun a z => upM_r (by omega))) (a3.eq (fun a z => upM_r (by omega))) (by omega) (by omega) (fun z u v => by
      by_cases w : z = c
      · rw [w, upM_s]
      · rw [upM_i w, a4 208 (by omega)]; exact h3 z u (by omega)) (by omega)
    refine ⟨M', ?_, b2, b3⟩
    rw [← b1]
    simp only [pX12_game_79]
    rw [if_neg (by omega)]
    simp [hS.o, hM.o, a1', h2, show c < 625 by omega, zlet, wc]
theorem r_game_129 (hS : ShW S) (hR : RS R t s) {k115 : ZM → Int → Int → Int → Int → Option (Int × ZM)} {what N : Int} (hN : 1 ≤ N ∧ N ≤ 125) {kk : Nat} (hk : kk ≤ 4) {T0 : Int → Int} : ∀ (k fuel : Nat) (M : ZM) (c : Int), RAt R M → c + k = N → 0 ≤ c → (∀ z, c ≤ z → z < 5 * N → M 208 z = T0 z) → (∀ z, 0 ≤ z → z < c → M 208 z = T0 (5 * z + bI (decide (kk % 2 = 0)) (fun i => T0 (5 * z + i)) 4 1 0)) → k < fuel →
    ∃ M', pX12_game_129 S k115 fuel M 176 what N kk c = k115 M' 176 what N ((kk : Int) - 1) ∧ RAt R M' ∧ (∀ z, 0 ≤ z → z < N → M' 208 z = T0 (5 * z + bI (decide (kk % 2 = 0)) (fun i => T0 (5 * z + i)) 4 1 0)) := by
  intro k
  induction k with
  | zero =>
    intro fuel M c hA h1 h2 h3 h4 h5
    obtain ⟨f, rfl⟩ : ∃ f, fuel = f + 1 := ⟨fuel - 1, by omega⟩
    have wk : w32 ((kk : Int) + (-1)) = (kk : Int) - 1 := by rw [w32_i (by omega) (by omega)]; omega
    refine ⟨M, ?_, hA, fun z a b => h4 z a (by omega)⟩
    simp only [pX12_game_129]
    rw [if_pos (by omega), wk]
  | succ k ih =>
    intro fuel M c hA h1 h2 h3 h4 h5
    obtain ⟨f, rfl⟩ : ∃ f, fuel = f + 1 := ⟨fuel - 1, by omega⟩
    have wc : w32 (c + 1) = c + 1 := w32_i (by omega) (by omega)
    have w5 : w32 (5 * c) = 5 * c := w32_i (by omega) (by omega)
    have hM : PtW M := (hA.1.pt hR.1).w
    have hmo : decide ((if Int.tmod (kk : Int) 2 = 0 then (1 : Int) else 0) ≠ 0) = decide (kk % 2 = 0) := by
      have : Int.tmod (kk : Int) 2 = ((kk % 2 : Nat) : Int) := by rw [Int.tmod_eq_emod_of_nonneg (by omega)]; omega
      rw [this]
      by_cases z : kk % 2 = 0
      · rw [if_pos (by omega)]; simp [z]
      · rw [if_neg (by omega)]; simp [z]
    have hb := r_bestAt hS hM (f := fun i => T0 (5 * c + i)) (fr := 5 * c) (mo := if Int.tmod (kk : Int) 2 = 0 then (1 : Int) else 0) (by omega) (fun z u v => h3 _ (by omega) (by omega))
    rw [hmo] at hb
    have hbi := (bI_c (m := decide (kk % 2 = 0)) (f := fun i => T0 (5 * c + i)) (fun z _ _ => rfl) 4 1 0 (by omega) (by omega) (by omega)).2
    generalize hB : bI (decide (kk % 2 = 0)) (fun i => T0 (5 * c + i)) 4 1 0 = B at *
    have ev := h3 (5 * c + B) (by omega) (by omega)
    obtain ⟨M', b1, b2, b3⟩ := ih f (upM M 208 c (T0 (5 * c + B))) (c + 1) (hA.eq (fun a z => upM_r (by omega))) (by omega) (by omega) (fun z u v => by rw [upM_i (by omega)]; exact h3 z (by omega) v) (fun z u v => by
      by_cases w : z = c
      · rw [w, upM_s, hB]
      · rw [upM_i w]; exact h4 z u (by omega)) (by omega)
    refine ⟨M', ?_, b2, b3⟩
    rw [← b1]
    simp only [pX12_game_129]
    rw [if_neg (by omega)]
    simp [hS.o, hM.o, pX12_game_163, w5, hb, ev, h2, show c < 625 by omega, show 0 ≤ 5 * c + B by omega, show 5 * c + B < 625 by omega, zlet, wc]
theorem r_game_115 (hS : ShW S) (hR : RS R t s) {x y what : Int} (hw : what = 0 ∨ what = 1) {n : Nat} (hn : 1 ≤ n ∧ n ≤ 4) {g : Gs} : ∀ (j fuel : Nat) (M : ZM) (rem : Nat), RAt R M → rem + j + 1 = n → (∀ z, 0 ≤ z → z < p5 (j + 1) → M 208 z = pvG t x y rem (j + 1) 0 g z) → j < fuel →
    ∃ M', pX12_game_115 S fuel M 176 what (p5 (j + 1)) j = some (if what = 0 then gF t x y n 0 g else bI true (gR t x y (n - 1) 0 g) 4 1 0 - 1, M') ∧ RAt R M' := by
  intro j
  induction j with
  | zero =>
    intro fuel M rem hA h1 h2 h3
    obtain ⟨f, rfl⟩ : ∃ f, fuel = f + 1 := ⟨fuel - 1, by omega⟩
    have hM : PtW M := (hA.1.pt hR.1).w
    have hn1 : n - 1 = rem := by omega
    have hn2 : n = rem + 1 := by omega
    have hv : ∀ z, 0 ≤ z → z < 5 → M 208 (0 + z) = gR t x y rem 0 g z := fun z a b => by
      have e1 : p5 0 = 1 := rfl
      rw [Int.zero_add, h2 z a (by have : p5 (0 + 1) = 5 := rfl; omega)]
      simp only [pvG, e1, gR, Int.tdiv_one]
    have hb := r_bestAt hS hM (mo := 1) (fr := 0) (by omega) hv
    have hbi := (bI_c (m := true) (f := gR t x y rem 0 g) (fun z _ _ => rfl) 4 1 0 (by omega) (by omega) (by omega)).2
    have hd : decide ((1 : Int) ≠ 0) = true := by decide
    rw [hd, Int.zero_add] at hb
    generalize hB : bI true (gR t x y rem 0 g) 4 1 0 = B at *
    have ev := hv B hbi.1 hbi.2
    rw [Int.zero_add] at ev
    have eg : gF t x y n 0 g = gR t x y rem 0 g B := by
      rw [hn2, gF_s, ← hB]; rfl
    refine ⟨M, ?_, hA⟩
    rw [hn1, eg, hB]
    rcases hw with rfl | rfl
    · simp [pX12_game_115, pX12_game_207, hS.o, hM.o, hb, hbi.1, show B < 625 by omega, ev]
    · simp [pX12_game_115, pX12_game_207, hS.o, hb, w32_i (x := B - 1) (by omega) (by omega)]
  | succ j ih =>
    intro fuel M rem hA h1 h2 h3
    obtain ⟨f, rfl⟩ : ∃ f, fuel = f + 1 := ⟨fuel - 1, by omega⟩
    have hp1 := p5_b (n := j + 1) (by omega)
    have hp2 : p5 (j + 1 + 1) = 5 * p5 (j + 1) := rfl
    have hp3 : p5 (j + 1) ≤ 125 := by
      have := p5_b (n := j + 1 + 1) (by omega)
      omega
    have ed : w32 (Int.tdiv (p5 (j + 1 + 1)) 5) = p5 (j + 1) := by
      rw [hp2, Int.mul_tdiv_cancel_left _ (by decide), w32_i (by omega) (by omega)]
    obtain ⟨M1, a1, a2, a3⟩ := r_game_129 hS hR (k115 := pX12_game_115 S f) (what := what) (N := p5 (j + 1)) (by omega) (kk := j + 1) (by omega) (T0 := pvG t x y rem (j + 1 + 1) 0 g) (p5 (j + 1)).toNat zFU M 0 hA (by omega) (by omega) (fun z u v => h2 z u (by omega)) (fun z u v => by omega) (zFU_gt (by omega))
    obtain ⟨M', b1, b2⟩ := ih f M1 (rem + 1) a2 (by omega) (fun z u v => by
      rw [a3 z u v, pv_red t x y rem (j + 1) 0 g z (by omega) u v, Nat.zero_add]) (by omega)
    refine ⟨M', ?_, b2⟩
    rw [← b1]
    have e0 : (((j + 1 : Nat) : Int) - 1) = (j : Int) := by omega
    rw [e0] at a1
    rw [← a1]
    simp only [pX12_game_115]
    rw [if_neg (by omega), ed]
theorem r_game_54 (hS : ShW S) {x y what : Int} {n : Nat} (hn : 1 ≤ n ∧ n ≤ 4) : ∀ (k fuel c : Nat), c + k = n → k < fuel → pX12_game_54 S fuel M 176 x y n what (p5 c) c = (pX12_keepsAll S M 176).bind fun q16 => pX12_game_79 S zFU q16 176 x y n what (p5 n) 0 := by
  intro k
  induction k with
  | zero =>
    intro fuel c h1 h2
    obtain ⟨f, rfl⟩ : ∃ f, fuel = f + 1 := ⟨fuel - 1, by omega⟩
    have e : c = n := by omega
    subst e
    simp [pX12_game_54, hS.o]
  | succ k ih =>
    intro fuel c h1 h2
    obtain ⟨f, rfl⟩ : ∃ f, fuel = f + 1 := ⟨fuel - 1, by omega⟩
    have hp := p5_b (n := c) (by omega)
    have e1 : w32 (p5 c * 5) = p5 (c + 1) := by rw [w32_i (by omega) (by omega)]; show _ = 5 * p5 c; omega
    have e2 : w32 ((c : Int) + 1) = ((c + 1 : Nat) : Int) := by rw [w32_i (by omega) (by omega)]; omega
    simp only [pX12_game_54]
    rw [if_neg (by omega), e1, e2]
    exact ih f (c + 1) (by omega) (by omega)
theorem r_game (hS : ShW S) (hR : RS R t s) (ho : TdOk t) (hG : ScGo t s 200) {x y n what : Int} : ∃ M', pX12_game S R 176 x y n what = some (gameA t s x y n what, M') ∧ RAt R M' := by
  have hp := ho.2.2.1
  unfold gameA
  by_cases g1 : 0 ≤ x ∧ x < tPn t
  · by_cases g2 : 0 ≤ y ∧ y < tPn t
    · by_cases g3 : x = y
      · refine ⟨R, ?_, RAt.refl R⟩
        rw [if_neg (fun z => z.2.2.1 g3)]
        simp [pX12_game, pX12_game_44, hS.o, r_isPen hS.o hR.1 hR.2.1 ho, g1, g2, g3]
      · by_cases g4 : 1 ≤ n ∧ n ≤ 4
        · by_cases g5 : 0 ≤ what ∧ what ≤ 1
          · have h0 := hG.1.1 x g1.1 g1.2
            have h0y := hG.1.1 y g2.1 g2.2
            have hs : 2 ≤ tSd t ∧ tSd t ≤ 6 := by
              rcases ho.1 with z | z
              · rw [z] at h0; omega
              · exact z
            have hg : gOk t (cAt s x, cAt s y, cWh s) := ⟨h0.1, h0y.1⟩
            obtain ⟨M1, a1, a2, a3⟩ := r_keepsAll hS.o hR.1
            have hnn : (n.toNat : Int) = n := by omega
            have hpb := p5_b (n := n.toNat) (by omega)
            obtain ⟨M2, b1, b2, b3⟩ := r_game_79 hS hR hs ho (x := x) (y := y) (what := what) (by omega) g3 hg (n := n.toNat) (by omega) (p5 n.toNat).toNat zFU M1 0 a2 a3 (by omega) (by omega) (fun z u v => by omega) (zFU_gt (by omega))
            obtain ⟨M', c1, c2⟩ := r_game_115 hS hR (x := x) (y := y) (what := what) (by omega) (n := n.toNat) (by omega) (g := (cAt s x, cAt s y, cWh s)) (n.toNat - 1) zFU M2 0 b2 (by omega) (by rw [show n.toNat - 1 + 1 = n.toNat by omega]; exact b3) (zFU_gt (by omega))
            rw [show n.toNat - 1 + 1 = n.toNat by omega] at c1
            refine ⟨M', ?_, c2⟩
            rw [if_pos ⟨g1, g2, g3, g4, g5⟩, ← c1, ← b1, hnn]
            have e54 := r_game_54 (M := R) hS (x := x) (y := y) (what := what) (n := n.toNat) (by omega) n.toNat zFU 0 (by omega) (zFU_gt (by omega))
            rw [hnn] at e54
            have e54' : pX12_game_54 S zFU R 176 x y n what 1 0 = (pX12_keepsAll S R 176).bind fun q16 => pX12_game_79 S zFU q16 176 x y n what (p5 n.toNat) 0 := e54
            simp [pX12_game, hS.o, r_isPen hS.o hR.1 hR.2.1 ho, g1, g2, g3, r_in, g4, g5, e54', a1]
          · refine ⟨R, ?_, RAt.refl R⟩
            rw [if_neg (fun z => g5 z.2.2.2.2)]
            simp [pX12_game, pX12_game_44, hS.o, r_isPen hS.o hR.1 hR.2.1 ho, g1, g2, g3, r_in, g4, g5]
        · refine ⟨R, ?_, RAt.refl R⟩
          rw [if_neg (fun z => g4 z.2.2.2.1)]
          simp [pX12_game, pX12_game_44, hS.o, r_isPen hS.o hR.1 hR.2.1 ho, g1, g2, g3, r_in, g4]
    · refine ⟨R, ?_, RAt.refl R⟩
      rw [if_neg (fun z => g2 z.2.1)]
      simp [pX12_game, pX12_game_44, hS.o, r_isPen hS.o hR.1 hR.2.1 ho, g1, g2]
  · refine ⟨R, ?_, RAt.refl R⟩
    rw [if_neg (fun z => g1 z.1)]
    simp [pX12_game, pX12_game_44, hS.o, r_isPen hS.o hR.1 hR.2.1 ho, g1]
end
