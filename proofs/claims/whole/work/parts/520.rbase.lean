/-! THE REFERENCE'S SMALL METHODS -/
theorem sq_b {s : Int} (h : s = 0 ∨ (2 ≤ s ∧ s ≤ 6)) : 0 ≤ s * s ∧ s * s ≤ 36 := by
  have h1 : s = 0 ∨ s = 2 ∨ s = 3 ∨ s = 4 ∨ s = 5 ∨ s = 6 := by omega
  rcases h1 with rfl | rfl | rfl | rfl | rfl | rfl <;> decide
/-- the reference's rows hold what is told, and a scene -/
def RTd (M : ZM) (t : Td) : Prop := M 177 0 = tSd t ∧ M 177 1 = tFd t ∧ M 177 2 = tPn t ∧ M 177 3 = tWn t ∧ (∀ i, 0 ≤ i → i < 12 → M 182 i = tWy t i ∧ M 183 i = tSg t i) ∧ ∀ c, 0 ≤ c → c < 36 → M 184 c = tMk t c
def RSc (M : ZM) (s : Sc) : Prop := (∀ q, 0 ≤ q → q < 5 → M 178 q = cAt s q ∧ M 179 q = cSt s q) ∧ (∀ c, 0 ≤ c → c < 36 → M 180 c = cWh s c ∧ M 181 c = cSi s c) ∧ M 177 5 = cSy s ∧ M 177 4 = cDy s ∧ M 177 6 = cCl s
theorem PtR.eq {M M' : ZM} (h : PtR M) (e : M' 176 = M 176) : PtR M' := by
  unfold PtR at *
  rw [e]
  exact h
theorem RTd.eq {M M' : ZM} {t : Td} (h : RTd M t) (e1 : ∀ j, 0 ≤ j → j < 4 → M' 177 j = M 177 j) (e2 : M' 182 = M 182) (e3 : M' 183 = M 183) (e4 : M' 184 = M 184) : RTd M' t := by
  unfold RTd at *
  rw [e1 0 (by decide) (by decide), e1 1 (by decide) (by decide), e1 2 (by decide) (by decide), e1 3 (by decide) (by decide), e2, e3, e4]
  exact h
section
variable {S : ZS} {M : ZM} {t : Td}
theorem r_cells (hS : ShR S) (hM : PtR M) (hT : RTd M t) (ho : TdOk t) : pX12_cells S M 176 = some (tSd t * tSd t, M) := by
  have := sq_b ho.1
  have h0 := hT.1
  simp [pX12_cells, hS, hM, h0, w32_i (x := tSd t * tSd t) (by omega) (by omega)]
theorem tmod_pos {a b : Int} (ha : 0 ≤ a) (hb : 0 < b) : 0 ≤ a.tmod b ∧ a.tmod b < b := ⟨Int.tmod_nonneg _ ha, Int.tmod_lt_of_pos a hb⟩
theorem r_wayOf (hS : ShR S) (hM : PtR M) (hT : RTd M t) (ho : TdOk t) {d : Int} (hd : 0 ≤ d) : pX12_wayOf S M 176 d = some (wOn t d, M) := by
  have h3 := hT.2.2.2.1
  have hw := ho.2.2.2.1
  unfold wOn
  by_cases h : tWn t = 0
  · simp [pX12_wayOf_26, pX12_wayOf, hS, hM, h3, h]
  · have hb := tmod_pos hd (show 0 < tWn t by omega)
    have hv := (hT.2.2.2.2.1 _ hb.1 (by omega)).1
    simp [pX12_wayOf_26, pX12_wayOf, hS, hM, h3, h, hb.1, hv, show (d.tmod (tWn t)) < 12 by omega]
theorem r_forceOf (hS : ShR S) (hM : PtR M) (hT : RTd M t) (ho : TdOk t) {d : Int} (hd : 0 ≤ d) : pX12_forceOf S M 176 d = some (fOn t d, M) := by
  have h3 := hT.2.2.2.1
  have hw := ho.2.2.2.1
  unfold fOn
  by_cases h : tWn t = 0
  · simp [pX12_forceOf_26, pX12_forceOf, hS, hM, h3, h]
  · have hb := tmod_pos hd (show 0 < tWn t by omega)
    have hv := (hT.2.2.2.2.1 _ hb.1 (by omega)).2
    simp [pX12_forceOf_26, pX12_forceOf, hS, hM, h3, h, hb.1, hv, show (d.tmod (tWn t)) < 12 by omega]
theorem r_has {s q : Int} : pX12_has S M s q = some (if zand (zshr s q) 1 = 1 then 1 else 0, M) := by
  simp [pX12_has]
theorem tdiv_b {c s : Int} (hs : 2 ≤ s ∧ s ≤ 6) (hc : 0 ≤ c ∧ c < s * s) : (0 ≤ c.tdiv s ∧ c.tdiv s < s) ∧ (0 ≤ c.tmod s ∧ c.tmod s < s) ∧ c = s * c.tdiv s + c.tmod s := by
  have h1 := tmod_pos hc.1 (show 0 < s by omega)
  have h2 := Int.mul_tdiv_add_tmod c s
  have h3 : 0 ≤ c.tdiv s := Int.tdiv_nonneg hc.1 (by omega)
  refine ⟨⟨h3, ?_⟩, h1, by omega⟩
  rcases Int.lt_or_le (c.tdiv s) s with h | h
  · exact h
  · have h4 : s * s ≤ s * c.tdiv s := Int.mul_le_mul_of_nonneg_left h (by omega)
    omega
theorem r_beside (hS : ShR S) (hM : PtR M) (hT : RTd M t) (hs : 2 ≤ tSd t ∧ tSd t ≤ 6) {c b : Int} (hc : 0 ≤ c ∧ c < tSd t * tSd t) : pX12_beside S M 176 c b = some (besS (tSd t) c b, M) := by
  have h0 := hT.1
  obtain ⟨⟨a1, a2⟩, ⟨a3, a4⟩, a5⟩ := tdiv_b hs hc
  have hne : ¬ tSd t = 0 := by omega
  have e1 : w32 (c.tdiv (tSd t)) = c.tdiv (tSd t) := w32_i (by omega) (by omega)
  generalize hx : (if b = 0 then (-1 : Int) else if b = 2 then 1 else 0) = x
  generalize hy : (if b = 1 then (1 : Int) else if b = 3 then -1 else 0) = y
  have hxb : -1 ≤ x ∧ x ≤ 1 := by rw [← hx]; split <;> (try split) <;> omega
  have hyb : -1 ≤ y ∧ y ≤ 1 := by rw [← hy]; split <;> (try split) <;> omega
  have e2 : w32 (c.tdiv (tSd t) + x) = c.tdiv (tSd t) + x := w32_i (by omega) (by omega)
  have e3 : w32 (c.tmod (tSd t) + y) = c.tmod (tSd t) + y := w32_i (by omega) (by omega)
  have m1 : -6 ≤ tSd t * (c.tdiv (tSd t) + x) ∧ tSd t * (c.tdiv (tSd t) + x) ≤ 42 := by
    rw [Int.mul_add]
    have : tSd t * x = -tSd t ∨ tSd t * x = 0 ∨ tSd t * x = tSd t := by
      have : x = -1 ∨ x = 0 ∨ x = 1 := by omega
      rcases this with rfl | rfl | rfl <;> omega
    have := sq_b (Or.inr hs)
    have := Int.mul_nonneg (show 0 ≤ tSd t by omega) a1
    omega
  have e4 : w32 (tSd t * (c.tdiv (tSd t) + x)) = tSd t * (c.tdiv (tSd t) + x) := w32_i (by omega) (by omega)
  have e5 : w32 (tSd t * (c.tdiv (tSd t) + x) + (c.tmod (tSd t) + y)) = tSd t * (c.tdiv (tSd t) + x) + (c.tmod (tSd t) + y) := w32_i (by omega) (by omega)
  unfold besS
  simp only [hx, hy]
  simp [pX12_beside_53, pX12_beside_28, pX12_beside, hS, hM, h0, hne, e1, hx, hy, e2, e3, e4, e5]
theorem r_strokesOf_4 (hS : ShR S) (hM : PtR M) (hT : RTd M t) (ho : TdOk t) (q : Int) : ∀ (k fuel : Nat) (c n0 : Int), c + k = tSd t * tSd t → 0 ≤ c → 0 ≤ n0 ∧ n0 + k ≤ 1000 → k < fuel → pX12_strokesOf_4 S fuel M 176 q n0 c = some (n0 + cnt (fun c => M 180 c = q) k c, M) := by
  have hb := sq_b ho.1
  intro k
  induction k with
  | zero =>
    intro fuel c n0 h1 h2 h3 h4
    obtain ⟨f, rfl⟩ : ∃ f, fuel = f + 1 := ⟨fuel - 1, by omega⟩
    simp only [pX12_strokesOf_4, r_cells hS hM hT ho, hS.1, if_true, Option.bind_some, cnt]
    rw [if_pos (by omega)]
    simp
  | succ k ih =>
    intro fuel c n0 h1 h2 h3 h4
    obtain ⟨f, rfl⟩ : ∃ f, fuel = f + 1 := ⟨fuel - 1, by omega⟩
    simp only [pX12_strokesOf_4, r_cells hS hM hT ho, hS.1, if_true, Option.bind_some, cnt, zlet]
    rw [if_neg (by omega)]
    simp only [hM, hS, true_and]
    rw [if_pos (by omega)]
    rw [w32_i (x := c + 1) (by omega) (by omega)]
    by_cases hq : M 180 c = q
    · simp only [hq, if_true]
      rw [w32_i (by omega) (by omega), ih f (c + 1) (n0 + 1) (by omega) (by omega) (by omega) (by omega)]
      simp only [Int.add_assoc]
    · simp only [hq, if_false]
      rw [w32_i (by omega) (by omega), ih f (c + 1) (n0 + 0) (by omega) (by omega) (by omega) (by omega)]
      simp
theorem cnt_congr {f g : Int → Prop} [DecidablePred f] [DecidablePred g] : ∀ (k : Nat) (c : Int), (∀ i, c ≤ i → i < c + k → (f i ↔ g i)) → cnt f k c = cnt g k c := by
  intro k
  induction k with
  | zero => intro c _; rfl
  | succ k ih =>
    intro c h
    simp only [cnt]
    rw [ih (c + 1) (fun i h1 h2 => h i (by omega) (by omega))]
    have := h c (by omega) (by omega)
    by_cases hf : f c
    · rw [if_pos hf, if_pos (this.mp hf)]
    · rw [if_neg hf, if_neg (fun z => hf (this.mpr z))]
theorem nCl_b (ho : TdOk t) : (nCl t : Int) = tSd t * tSd t ∧ nCl t ≤ 36 := by
  have := sq_b ho.1
  unfold nCl
  omega
theorem zFU_gt {n : Nat} (h : n < 4000) : n < zFU := h
theorem r_strokesOf (hS : ShR S) (hM : PtR M) (hT : RTd M t) (ho : TdOk t) {s : Sc} (hW : ∀ c, 0 ≤ c → c < 36 → M 180 c = cWh s c) (q : Int) : pX12_strokesOf S M 176 q = some (inkS t s q, M) := by
  have hb := nCl_b ho
  unfold pX12_strokesOf
  rw [r_strokesOf_4 hS hM hT ho q (nCl t) zFU 0 0 (by omega) (by omega) (by omega) (zFU_gt (by omega))]
  unfold inkS
  rw [cnt_congr (g := fun c => cWh s c = q) (nCl t) 0 (fun i h1 h2 => by rw [hW i h1 (by omega)])]
  simp
theorem wOn_b (ho : TdOk t) {d : Int} (hd : 0 ≤ d) : (0 ≤ wOn t d ∧ wOn t d ≤ 3) ∧ (0 ≤ fOn t d ∧ fOn t d ≤ 9) := by
  unfold wOn fOn
  have hw := ho.2.2.2.1
  by_cases h : tWn t = 0
  · simp [h]
  · have hb := tmod_pos hd (show 0 < tWn t by omega)
    have := ho.2.2.2.2.1 _ hb.1 hb.2
    simp [h]
    omega
theorem upM_s (M : ZM) (a i v : Int) : upM M a i v a i = v := by simp [upM]
theorem upM_r {M : ZM} {a i v b : Int} (h : b ≠ a) : upM M a i v b = M b := upM_ne h
theorem upM_i {M : ZM} {a i v j : Int} (h : j ≠ i) : upM M a i v a j = M a j := by simp [upM, h]
theorem r_drifts_2 (hS : ShR S) {s : Sc} (hs : 2 ≤ tSd t ∧ tSd t ≤ 6) (ho : TdOk t) (hO : ScOk t s) (hd : 0 ≤ cDy s) : ∀ (k fuel : Nat) (M : ZM) (q : Int), PtR M → RTd M t → M 177 5 = cSy s → M 177 4 = cDy s → (∀ i, 0 ≤ i → i < 5 → M 179 i = cSt s i) → (∀ i, q ≤ i → i < 5 → M 178 i = cAt s i) → q + k = tPn t → 0 ≤ q → k < fuel →
    ∃ M', pX12_drifts_2 S fuel M 176 q = some M' ∧ (∀ a, a ≠ 178 → M' a = M a) ∧ (∀ i, q ≤ i → i < tPn t → M' 178 i = posS t s i) ∧ ∀ i, (i < q ∨ tPn t ≤ i) → M' 178 i = M 178 i := by
  have hp := ho.2.2.1
  intro k
  induction k with
  | zero =>
    intro fuel M q hM hT h5 h4 hSt hAt h1 h2 h3
    obtain ⟨f, rfl⟩ : ∃ f, fuel = f + 1 := ⟨fuel - 1, by omega⟩
    have hpn := hT.2.2.1
    refine ⟨M, ?_, fun a _ => rfl, fun i h6 h7 => by omega, fun i _ => rfl⟩
    simp [pX12_drifts_2, hS, hM, hpn, show tPn t ≤ q by omega]
  | succ k ih =>
    intro fuel M q hM hT h5 h4 hSt hAt h1 h2 h3
    obtain ⟨f, rfl⟩ : ∃ f, fuel = f + 1 := ⟨fuel - 1, by omega⟩
    have hpn := hT.2.2.1
    have hq := hO.1 q h2 (by omega)
    have ea : M 178 q = cAt s q := hAt q (by omega) (by omega)
    have es : M 179 q = cSt s q := hSt q (by omega) (by omega)
    have hstep : ∃ v, v = posS t s q ∧ pX12_drifts_2 S (f + 1) M 176 q = pX12_drifts_2 S f (upM M 178 q v) 176 (q + 1) := by
      refine ⟨_, rfl, ?_⟩
      have ew : w32 (q + 1) = q + 1 := w32_i (by omega) (by omega)
      rw [pX12_drifts_2]
      simp only [pX12_drifts_95, pX12_drifts_75, pX12_drifts_74, pX12_drifts, hS, hM, hpn, h4, h5, ea, es, r_wayOf hS hM hT ho hd, r_forceOf hS hM hT ho hd, r_beside hS hM hT hs hq.1, r_has, true_and, if_true, Option.bind_some, zlet, ew]
      have g1 : (0 : Int) ≤ q ∧ q < 5 := by omega
      have g2 : ¬ tPn t ≤ q := by omega
      unfold posS
      by_cases c1 : zand (zshr (cSy s) q) 1 = 1
      · simp [c1, g1, g2]
      · by_cases c2 : fOn t (cDy s) < cSt s q
        · simp [c1, g1, g2, c2]
        · by_cases c3 : besS (tSd t) (cAt s q) (wOn t (cDy s)) = -1
          · simp [c1, g1, g2, c2, c3]
          · simp [c1, g1, g2, c2, c3]
    obtain ⟨v, hv, he⟩ := hstep
    rw [he]
    obtain ⟨M', e1, e2, e3, e4⟩ := ih f (upM M 178 q v) (q + 1) (hM.eq (upM_r (by decide))) (hT.eq (fun j _ _ => by rw [upM_r (by decide)]) (upM_r (by decide)) (upM_r (by decide)) (upM_r (by decide))) (by rw [upM_r (by decide)]; exact h5) (by rw [upM_r (by decide)]; exact h4) (fun i a b => by rw [upM_r (by decide)]; exact hSt i a b) (fun i a b => by rw [upM_i (by omega)]; exact hAt i (by omega) b) (by omega) (by omega) (by omega)
    refine ⟨M', e1, fun a ha => by rw [e2 a ha, upM_r ha], fun i h6 h7 => ?_, fun i h6 => ?_⟩
    · by_cases hi : i = q
      · subst hi
        rw [e4 i (Or.inl (by omega)), upM_s, hv]
      · exact e3 i (by omega) h7
    · rw [e4 i (by omega), upM_i (by omega)]
end
