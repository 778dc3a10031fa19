/-! THE REFERENCE'S DAY -/
theorem cnt_tail {f g : Int → Prop} [DecidablePred f] [DecidablePred g] (k : Nat) (c : Int) (h : ∀ i, c ≤ i → i < c + k → (f i ↔ g i)) : cnt f k c = cnt g k c := cnt_congr k c h
theorem nAt_congr {w : Int} {p p' : Int → Int} {c : Int} (k : Nat) (q : Int) (h : ∀ i, q ≤ i → i < q + k → p i = p' i) : nAt w p c k q = nAt w p' c k q := by
  unfold nAt
  exact cnt_congr k q (fun i a b => by rw [h i a b])
theorem lastAt_congr {w : Int} {p p' : Int → Int} {c : Int} : ∀ (k : Nat) (q l : Int), (∀ i, q ≤ i → i < q + k → p i = p' i) → lastAt w p c k q l = lastAt w p' c k q l := by
  intro k
  induction k with
  | zero => intro q l _; rfl
  | succ k ih =>
    intro q l h
    simp only [lastAt]
    rw [h q (by omega) (by omega), ih (q + 1) _ (fun i a b => h i (by omega) (by omega))]
theorem clapN_congr {w : Int} {p p' : Int → Int} {n : Nat} (h : ∀ i : Int, 0 ≤ i → i < n → p i = p' i) : ∀ (k : Nat) (c : Int), clapN w p n k c = clapN w p' n k c := by
  intro k
  induction k with
  | zero => intro c; rfl
  | succ k ih =>
    intro c
    simp only [clapN]
    rw [ih, nAt_congr n 0 (fun i a b => h i a (by omega))]
theorem who1_congr {w : Int} {p p' W : Int → Int} {n : Nat} (h : ∀ i : Int, 0 ≤ i → i < n → p i = p' i) (c : Int) : who1 w p n W c = who1 w p' n W c := by
  unfold who1
  rw [nAt_congr n 0 (fun i a b => h i a (by omega)), lastAt_congr n 0 _ (fun i a b => h i a (by omega))]
theorem sin1_congr {w : Int} {p p' D : Int → Int} {d : Int} {n : Nat} (h : ∀ i : Int, 0 ≤ i → i < n → p i = p' i) (c : Int) : sin1 w p n D d c = sin1 w p' n D d c := by
  unfold sin1
  rw [nAt_congr n 0 (fun i a b => h i a (by omega))]
theorem nAt_zero {w : Int} {p : Int → Int} {c : Int} : ∀ (k : Nat) (q : Int), (∀ i, q ≤ i → i < q + k → p i ≠ c) → nAt w p c k q = 0 := by
  intro k
  induction k with
  | zero => intro q _; rfl
  | succ k ih =>
    intro q h
    have e : nAt w p c (k + 1) q = (if zand (zshr w q) 1 = 1 ∧ p q = c then 1 else 0) + nAt w p c k (q + 1) := rfl
    rw [e, ih (q + 1) (fun i a b => h i (by omega) (by omega)), if_neg (fun z => h q (by omega) (by omega) z.2)]
    rfl
theorem clapN_b (w : Int) (p : Int → Int) (n : Nat) : ∀ (k : Nat) (c : Int), 0 ≤ clapN w p n k c ∧ clapN w p n k c ≤ k := by
  intro k
  induction k with
  | zero => intro c; exact ⟨Int.le_refl 0, Int.le_refl 0⟩
  | succ k ih =>
    intro c
    have := ih (c + 1)
    simp only [clapN]
    split <;> omega
/-- pens, told, scene, all together -/
def RS (M : ZM) (t : Td) (s : Sc) : Prop := PtR M ∧ RTd M t ∧ RSc M s
theorem RS.up {M : ZM} {t : Td} {s : Sc} {a i v : Int} (h : RS M t s) (ha : 184 < a) : RS (upM M a i v) t s := by
  obtain ⟨h1, h2, h3⟩ := h
  refine ⟨h1.eq (upM_r (by omega)), h2.eq (fun j _ _ => by rw [upM_r (by omega)]) (upM_r (by omega)) (upM_r (by omega)) (upM_r (by omega)), ?_⟩
  unfold RSc at *
  rw [upM_r (by omega), upM_r (by omega), upM_r (by omega), upM_r (by omega), upM_r (by omega)]
  exact h3
theorem RS.eq {M M' : ZM} {t : Td} {s : Sc} (h : RS M t s) (e : ∀ a, 176 ≤ a → a ≤ 184 → M' a = M a) : RS M' t s := by
  obtain ⟨h1, h2, h3⟩ := h
  refine ⟨h1.eq (e _ (by omega) (by omega)), h2.eq (fun j _ _ => by rw [e _ (by omega) (by omega)]) (e _ (by omega) (by omega)) (e _ (by omega) (by omega)) (e _ (by omega) (by omega)), ?_⟩
  unfold RSc at *
  rw [e _ (by omega) (by omega), e _ (by omega) (by omega), e _ (by omega) (by omega), e _ (by omega) (by omega), e _ (by omega) (by omega)]
  exact h3
section
variable {S : ZS} {M : ZM} {t : Td} {s : Sc}
theorem r_drifts (hS : ShR S) (hs : 2 ≤ tSd t ∧ tSd t ≤ 6) (ho : TdOk t) (hO : ScOk t s) (hd : 0 ≤ cDy s) (h : RS M t s) :
    ∃ M', pX12_drifts S M 176 = some M' ∧ (∀ a, a ≠ 178 → M' a = M a) ∧ (∀ i, 0 ≤ i → i < tPn t → M' 178 i = posS t s i) ∧ ∀ i, (i < 0 ∨ tPn t ≤ i) → M' 178 i = M 178 i := by
  obtain ⟨h1, h2, h3⟩ := h
  have hp := ho.2.2.1
  unfold pX12_drifts
  exact r_drifts_2 hS hs ho hO hd (tPn t).toNat zFU M 0 h1 h2 h3.2.2.1 h3.2.2.2.1 (fun i a b => (h3.1 i a b).2) (fun i a b => (h3.1 i (by omega) b).1) (by omega) (by omega) (zFU_gt (by omega))
theorem r_fades_2 (hS : ShR S) (ho : TdOk t) {W D : Int → Int} {d : Int} (hd : 0 ≤ d ∧ d ≤ 1000000) (hW : ∀ c, 0 ≤ c → c < tSd t * tSd t → W c ≠ -1 → 0 ≤ D c ∧ D c ≤ d) : ∀ (k fuel : Nat) (M : ZM) (c : Int), PtR M → RTd M t → M 177 4 = d → (∀ i, c ≤ i → i < 36 → M 180 i = W i ∧ M 181 i = D i) → c + k = tSd t * tSd t → 0 ≤ c → k < fuel →
    ∃ M', pX12_fades_2 S fuel M 176 c = some M' ∧ (∀ a, a ≠ 180 → a ≠ 181 → M' a = M a) ∧ (∀ i, c ≤ i → i < tSd t * tSd t → M' 180 i = who2 W D d (tFd t) i ∧ M' 181 i = sin2 W D d (tFd t) i) ∧ ∀ i, (i < c ∨ tSd t * tSd t ≤ i) → M' 180 i = M 180 i ∧ M' 181 i = M 181 i := by
  have hb := sq_b ho.1
  have hf := ho.2.1
  intro k
  induction k with
  | zero =>
    intro fuel M c hM hT h4 hR h1 h2 h3
    obtain ⟨f, rfl⟩ : ∃ f, fuel = f + 1 := ⟨fuel - 1, by omega⟩
    refine ⟨M, ?_, fun a _ _ => rfl, fun i a b => by omega, fun i _ => ⟨rfl, rfl⟩⟩
    simp [pX12_fades_2, hS, r_cells hS hM hT ho, show tSd t * tSd t ≤ c by omega]
  | succ k ih =>
    intro fuel M c hM hT h4 hR h1 h2 h3
    obtain ⟨f, rfl⟩ : ∃ f, fuel = f + 1 := ⟨fuel - 1, by omega⟩
    have ew : w32 (c + 1) = c + 1 := w32_i (by omega) (by omega)
    have hfd := hT.2.1
    obtain ⟨g1, g2⟩ := hR c (by omega) (by omega)
    have hst : ∃ M1, pX12_fades_2 S (f + 1) M 176 c = pX12_fades_2 S f M1 176 (c + 1) ∧ (∀ a, a ≠ 180 → a ≠ 181 → M1 a = M a) ∧ (M1 180 c = who2 W D d (tFd t) c ∧ M1 181 c = sin2 W D d (tFd t) c) ∧ ∀ i, i ≠ c → M1 180 i = M 180 i ∧ M1 181 i = M 181 i := by
      have hc : ¬ tSd t * tSd t ≤ c := by omega
      have hc2 : c < 36 := by omega
      by_cases c1 : W c = -1
      · refine ⟨M, ?_, fun _ _ _ => rfl, ?_, fun _ _ => ⟨rfl, rfl⟩⟩
        · rw [pX12_fades_2]
          simp [pX12_fades_48, hS, hM, r_cells hS hM hT ho, hc, hc2, h2, g1, c1, ew]
        · simp [who2, sin2, c1, g1, g2]
      · have hw := hW c h2 (by omega) c1
        have ew2 : w32 (d - D c) = d - D c := w32_i (by omega) (by omega)
        by_cases c2 : tFd t < d - D c
        · refine ⟨upM (upM M 180 c (-1)) 181 c (-1), ?_, fun a x y => by rw [upM_r y, upM_r x], ?_, fun i x => ?_⟩
          · rw [pX12_fades_2]
            have hl := r_lays (v := -1) hS hM (c := c) ⟨h2, by omega⟩
            rw [if_pos rfl] at hl
            simp [pX12_fades_48, hS, hM, r_cells hS hM hT ho, hc, hc2, h2, g1, g2, c1, h4, hfd, ew2, show ¬ d - D c ≤ tFd t by omega, hl, ew]
          · rw [upM_r (by decide), upM_s, upM_s]
            simp [who2, sin2, c1, c2]
          · rw [upM_r (by decide), upM_i x, upM_i x, upM_r (by decide)]
            exact ⟨rfl, rfl⟩
        · refine ⟨M, ?_, fun _ _ _ => rfl, ?_, fun _ _ => ⟨rfl, rfl⟩⟩
          · rw [pX12_fades_2]
            simp [pX12_fades_48, hS, hM, r_cells hS hM hT ho, hc, hc2, h2, g1, g2, c1, h4, hfd, ew2, show d - D c ≤ tFd t by omega, ew]
          · simp [who2, sin2, c2, g1, g2]
    obtain ⟨M1, e1, e2, e3, e4⟩ := hst
    rw [e1]
    have hT1 : RTd M1 t := hT.eq (fun j _ _ => by rw [e2 _ (by decide) (by decide)]) (e2 _ (by decide) (by decide)) (e2 _ (by decide) (by decide)) (e2 _ (by decide) (by decide))
    obtain ⟨M', a1, a2, a3, a4⟩ := ih f M1 (c + 1) (hM.eq (e2 _ (by decide) (by decide))) hT1 (by rw [e2 _ (by decide) (by decide)]; exact h4) (fun i x y => by rw [(e4 i (by omega)).1, (e4 i (by omega)).2]; exact hR i (by omega) y) (by omega) (by omega) (by omega)
    refine ⟨M', a1, fun a x y => (a2 a x y).trans (e2 a x y), fun i x y => ?_, fun i x => ?_⟩
    · by_cases hi : i = c
      · subst hi
        rw [(a4 i (by omega)).1, (a4 i (by omega)).2]
        exact e3
      · exact a3 i (by omega) y
    · rw [(a4 i (by omega)).1, (a4 i (by omega)).2]
      exact e4 i (by omega)
end
