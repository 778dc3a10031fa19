/-! THE REFERENCE'S DAY -/
section
variable {S : ZS} {M : ZM} {t : Td}
theorem r_lays (hS : ShR S) (hM : PtR M) {c v : Int} (hc : 0 ≤ c ∧ c < 36) : pX12_lays S M 176 c v = some (upM (upM M 180 c v) 181 c (if v = -1 then -1 else M 177 4)) := by
  have hM3 : PtR (upM M 180 c v) := hM.eq (upM_r (by decide))
  have h4 : upM M 180 c v 177 4 = M 177 4 := by rw [upM_r (by decide)]
  by_cases hv : v = -1
  · subst hv
    simp [pX12_lays_27, pX12_lays, hS, hM, hc, zlet, hM3]
  · simp [pX12_lays_27, pX12_lays, hS, hM, hc, zlet, hM3, hv, h4]
theorem nAt_b (w : Int) (p : Int → Int) (c : Int) (k : Nat) (q : Int) : 0 ≤ nAt w p c k q ∧ nAt w p c k q ≤ k := cnt_b _ k q
theorem last_b (w : Int) (p : Int → Int) (c : Int) : ∀ (k : Nat) (q l : Int), (1 ≤ nAt w p c k q → (q ≤ lastAt w p c k q l ∧ lastAt w p c k q l < q + k) ∧ zand (zshr w (lastAt w p c k q l)) 1 = 1 ∧ p (lastAt w p c k q l) = c) ∧ (nAt w p c k q ≤ 0 → lastAt w p c k q l = l) := by
  intro k
  induction k with
  | zero =>
    intro q l
    refine ⟨fun h => ?_, fun _ => rfl⟩
    simp [nAt, cnt] at h
  | succ k ih =>
    intro q l
    have en : nAt w p c (k + 1) q = (if zand (zshr w q) 1 = 1 ∧ p q = c then 1 else 0) + nAt w p c k (q + 1) := rfl
    have el : lastAt w p c (k + 1) q l = lastAt w p c k (q + 1) (if zand (zshr w q) 1 = 1 ∧ p q = c then q else l) := rfl
    have hb := nAt_b w p c k (q + 1)
    rw [en, el]
    by_cases h : zand (zshr w q) 1 = 1 ∧ p q = c
    · simp only [if_pos h]
      obtain ⟨i1, i2⟩ := ih (q + 1) q
      by_cases h1 : 1 ≤ nAt w p c k (q + 1)
      · obtain ⟨⟨x1, x2⟩, x3, x4⟩ := i1 h1
        exact ⟨fun _ => ⟨⟨by omega, by omega⟩, x3, x4⟩, fun _ => by omega⟩
      · rw [i2 (by omega)]
        exact ⟨fun _ => ⟨⟨by omega, by omega⟩, h.1, h.2⟩, fun _ => by omega⟩
    · simp only [if_neg h]
      obtain ⟨i1, i2⟩ := ih (q + 1) l
      refine ⟨fun h1 => ?_, fun h1 => i2 (by omega)⟩
      obtain ⟨⟨x1, x2⟩, x3, x4⟩ := i1 (by omega)
      exact ⟨⟨by omega, by omega⟩, x3, x4⟩
theorem r_strikes_18 (hS : ShR S) (hM : PtR M) (hT : RTd M t) (ho : TdOk t) {k2 : ZM → Int → Int → Int → Option ZM} {w c : Int} : ∀ (k fuel : Nat) (n l q : Int), q + k = tPn t → 0 ≤ q → 0 ≤ n ∧ n + k ≤ 100 → k < fuel →
    pX12_strikes_18 S k2 fuel M 176 w c n l q = (if n + nAt w (M 178) c k q ≤ 0 then pX12_strikes_102 S k2 M 176 w c else pX12_strikes_79 S k2 M 176 w c (n + nAt w (M 178) c k q) (if n + nAt w (M 178) c k q = 1 then lastAt w (M 178) c k q l else (-1)) c 176) := by
  have hp := ho.2.2.1
  have hpn := hT.2.2.1
  intro k
  induction k with
  | zero =>
    intro fuel n l q h1 h2 h3 h4
    obtain ⟨f, rfl⟩ : ∃ f, fuel = f + 1 := ⟨fuel - 1, by omega⟩
    rw [pX12_strikes_18]
    simp only [hS, hM, hpn, true_and, if_true, nAt, cnt, lastAt]
    rw [if_pos (by decide), if_pos (by omega)]
    simp
  | succ k ih =>
    intro fuel n l q h1 h2 h3 h4
    obtain ⟨f, rfl⟩ : ∃ f, fuel = f + 1 := ⟨fuel - 1, by omega⟩
    have ew : w32 (q + 1) = q + 1 := w32_i (by omega) (by omega)
    have ew2 : w32 (n + 1) = n + 1 := w32_i (by omega) (by omega)
    have hb := nAt_b w (M 178) c k (q + 1)
    rw [pX12_strikes_18]
    simp only [hS, hM, hpn, true_and, if_true, r_has, Option.bind_some, pX12_strikes_56, ew, ew2]
    rw [if_pos (by decide), if_neg (by omega)]
    have en : nAt w (M 178) c (k + 1) q = (if zand (zshr w q) 1 = 1 ∧ M 178 q = c then 1 else 0) + nAt w (M 178) c k (q + 1) := rfl
    have el : lastAt w (M 178) c (k + 1) q l = lastAt w (M 178) c k (q + 1) (if zand (zshr w q) 1 = 1 ∧ M 178 q = c then q else l) := rfl
    rw [en, el]
    by_cases c1 : zand (zshr w q) 1 = 1
    · by_cases c2 : M 178 q = c
      · simp only [c1, c2, and_self, if_true]
        rw [if_neg (by decide), if_pos (by omega), ih f (n + 1) q (q + 1) (by omega) (by omega) (by omega) (by omega)]
        simp only [Int.add_assoc]
      · simp only [c1, c2, and_false, if_true, if_false]
        rw [if_neg (by decide), if_pos (by omega), ih f n l (q + 1) (by omega) (by omega) (by omega) (by omega)]
        simp only [Int.zero_add]
    · simp only [c1, false_and, if_true, if_false]
      rw [ih f n l (q + 1) (by omega) (by omega) (by omega) (by omega)]
      simp only [Int.zero_add]
theorem r_strikes_2 (hS : ShR S) (ho : TdOk t) {w : Int} {p : Int → Int} : ∀ (k fuel : Nat) (M : ZM) (c : Int), PtR M → RTd M t → M 178 = p → 0 ≤ M 177 6 ∧ M 177 6 + k ≤ 1000000000 → c + k = tSd t * tSd t → 0 ≤ c → k < fuel →
    ∃ M', pX12_strikes_2 S fuel M 176 w c = some M' ∧ (∀ a, a ≠ 177 → a ≠ 180 → a ≠ 181 → M' a = M a) ∧ (∀ j, j ≠ 6 → M' 177 j = M 177 j) ∧ M' 177 6 = M 177 6 + clapN w p (tPn t).toNat k c ∧ (∀ i, c ≤ i → i < tSd t * tSd t → M' 180 i = who1 w p (tPn t).toNat (M 180) i ∧ M' 181 i = sin1 w p (tPn t).toNat (M 181) (M 177 4) i) ∧ ∀ i, (i < c ∨ tSd t * tSd t ≤ i) → M' 180 i = M 180 i ∧ M' 181 i = M 181 i := by
  have hb := sq_b ho.1
  have hp := ho.2.2.1
  intro k
  induction k with
  | zero =>
    intro fuel M c hM hT hP h6 h1 h2 h3
    obtain ⟨f, rfl⟩ : ∃ f, fuel = f + 1 := ⟨fuel - 1, by omega⟩
    refine ⟨M, ?_, fun a _ _ _ => rfl, fun j _ => rfl, by simp [clapN], fun i a b => by omega, fun i _ => ⟨rfl, rfl⟩⟩
    simp [pX12_strikes_2, hS, r_cells hS hM hT ho, show tSd t * tSd t ≤ c by omega]
  | succ k ih =>
    intro fuel M c hM hT hP h6 h1 h2 h3
    obtain ⟨f, rfl⟩ : ∃ f, fuel = f + 1 := ⟨fuel - 1, by omega⟩
    have hnb := nAt_b w p c (tPn t).toNat 0
    have e0 : pX12_strikes_2 S (f + 1) M 176 w c = (if nAt w p c (tPn t).toNat 0 ≤ 0 then pX12_strikes_102 S (pX12_strikes_2 S f) M 176 w c else pX12_strikes_79 S (pX12_strikes_2 S f) M 176 w c (nAt w p c (tPn t).toNat 0) (if nAt w p c (tPn t).toNat 0 = 1 then lastAt w p c (tPn t).toNat 0 (-1) else (-1)) c 176) := by
      rw [pX12_strikes_2]
      simp only [hS, r_cells hS hM hT ho, Option.bind_some, if_true]
      rw [if_neg (by omega), r_strikes_18 hS hM hT ho (tPn t).toNat zFU 0 (-1) 0 (by omega) (by omega) (by omega) (zFU_gt (by omega)), hP]
      simp only [Int.zero_add]
    have ew : w32 (c + 1) = c + 1 := w32_i (by omega) (by omega)
    rw [e0]
    have ec : clapN w p (tPn t).toNat (k + 1) c = (if 1 < nAt w p c (tPn t).toNat 0 then 1 else 0) + clapN w p (tPn t).toNat k (c + 1) := rfl
    by_cases c0 : nAt w p c (tPn t).toNat 0 ≤ 0
    · rw [if_pos c0, pX12_strikes_102, ew]
      obtain ⟨M', a1, a2, a3, a4, a5, a6⟩ := ih f M (c + 1) hM hT hP (by omega) (by omega) (by omega) (by omega)
      refine ⟨M', a1, a2, a3, ?_, fun i x y => ?_, fun i x => a6 i (by omega)⟩
      · rw [a4, ec, if_neg (by omega)]; omega
      · by_cases hi : i = c
        · subst hi
          rw [(a6 i (by omega)).1, (a6 i (by omega)).2]
          unfold who1 sin1
          rw [if_pos (by omega), if_pos (by omega)]
          exact ⟨rfl, rfl⟩
        · exact a5 i (by omega) y
    · rw [if_neg c0]
      generalize hv : (if nAt w p c (tPn t).toNat 0 = 1 then lastAt w p c (tPn t).toNat 0 (-1) else (-1 : Int)) = v
      have hl := r_lays (v := v) hS hM (c := c) ⟨h2, by omega⟩
      generalize hM1 : upM (upM M 180 c v) 181 c (if v = -1 then -1 else M 177 4) = M1 at hl
      have r1 : ∀ a, a ≠ 180 → a ≠ 181 → M1 a = M a := fun a x y => by rw [← hM1, upM_r y, upM_r x]
      have hM1p : PtR M1 := hM.eq (r1 176 (by decide) (by decide))
      have w1 : w32 (M 177 6 + (if nAt w p c (tPn t).toNat 0 ≤ 1 then (0 : Int) else 1)) = M 177 6 + (if nAt w p c (tPn t).toNat 0 ≤ 1 then (0 : Int) else 1) := by
        apply w32_i <;> split <;> omega
      have e1 : pX12_strikes_79 S (pX12_strikes_2 S f) M 176 w c (nAt w p c (tPn t).toNat 0) v c 176 = pX12_strikes_2 S f (upM M1 177 6 (M 177 6 + (if nAt w p c (tPn t).toNat 0 ≤ 1 then (0 : Int) else 1))) 176 w (c + 1) := by
        have h176 : M1 177 6 = M 177 6 := by rw [r1 177 (by decide) (by decide)]
        simp [pX12_strikes_79, pX12_strikes_100, pX12_strikes_102, hS, hl, hM1p, zlet, h176, ew, w1]
      rw [e1]
      generalize hcl : M 177 6 + (if nAt w p c (tPn t).toNat 0 ≤ 1 then (0 : Int) else 1) = cl
      have hclb : 0 ≤ cl ∧ cl ≤ M 177 6 + 1 := by rw [← hcl]; split <;> omega
      generalize hM2 : upM M1 177 6 cl = M2
      have q1 : ∀ a, a ≠ 177 → a ≠ 180 → a ≠ 181 → M2 a = M a := fun a x y z => by rw [← hM2, upM_r x, r1 a y z]
      have q2 : ∀ j, j ≠ 6 → M2 177 j = M 177 j := fun j x => by rw [← hM2, upM_i x, r1 177 (by decide) (by decide)]
      have q3 : M2 177 6 = cl := by rw [← hM2, upM_s]
      have q4 : M2 180 = M1 180 := by rw [← hM2, upM_r (by decide)]
      have q5 : M2 181 = M1 181 := by rw [← hM2, upM_r (by decide)]
      have s1 : M1 180 c = v := by rw [← hM1, upM_r (by decide), upM_s]
      have s2 : M1 181 c = (if v = -1 then -1 else M 177 4) := by rw [← hM1, upM_s]
      have s3 : ∀ i, i ≠ c → M1 180 i = M 180 i := fun i x => by rw [← hM1, upM_r (by decide), upM_i x]
      have s4 : ∀ i, i ≠ c → M1 181 i = M 181 i := fun i x => by rw [← hM1, upM_i x, upM_r (by decide)]
      have hT2 : RTd M2 t := hT.eq (fun j x y => q2 j (by omega)) (q1 182 (by decide) (by decide) (by decide)) (q1 183 (by decide) (by decide) (by decide)) (q1 184 (by decide) (by decide) (by decide))
      obtain ⟨M', a1, a2, a3, a4, a5, a6⟩ := ih f M2 (c + 1) (hM.eq (q1 176 (by decide) (by decide) (by decide))) hT2 (by rw [q1 178 (by decide) (by decide) (by decide)]; exact hP) (by rw [q3]; omega) (by omega) (by omega) (by omega)
      refine ⟨M', a1, fun a x y z => (a2 a x y z).trans (q1 a x y z), fun j x => (a3 j x).trans (q2 j x), ?_, fun i x y => ?_, fun i x => ?_⟩
      · rw [a4, q3, ← hcl, ec]
        by_cases z : nAt w p c (tPn t).toNat 0 ≤ 1
        · rw [if_pos z, if_neg (by omega)]; omega
        · rw [if_neg z, if_pos (by omega)]; omega
      · by_cases hi : i = c
        · subst hi
          rw [(a6 i (by omega)).1, (a6 i (by omega)).2, q4, q5, s1, s2]
          have hn0 : ¬ nAt w p i (tPn t).toNat 0 = 0 := by omega
          simp only [who1, sin1, if_neg hn0, hv]
          refine ⟨trivial, ?_⟩
          by_cases z : nAt w p i (tPn t).toNat 0 = 1
          · have hne : v ≠ -1 := by
              rw [← hv, if_pos z]
              have := ((last_b w p i (tPn t).toNat 0 (-1)).1 (by omega)).1
              omega
            rw [if_neg hne, if_pos z]
          · rw [if_neg z] at hv
            rw [if_pos hv.symm, if_neg z]
        · have a5' := a5 i (by omega) y
          rw [a5'.1, a5'.2]
          unfold who1 sin1
          rw [q4, q5, s3 i hi, s4 i hi, q2 4 (by decide)]
          exact ⟨rfl, rfl⟩
      · rw [(a6 i (by omega)).1, (a6 i (by omega)).2, q4, q5, s3 i (by omega), s4 i (by omega)]
        exact ⟨rfl, rfl⟩
end
