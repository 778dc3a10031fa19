/-! WORDS: the reference, and one word for one run -/
section
variable {T : Int} {B : Int → Int}
theorem eqw_one {j k : Nat} {q e : Int} (hj : j < 19) (hk : k < 19) (h1 : eqw T B j q e) (h2 : eqw T B k q e) : j = k := by
  have lj := (wt_len hj).1
  have lk := (wt_len hk).1
  have e0 := (h1.2 0 (by decide) (by omega)).symm.trans (h2.2 0 (by decide) (by omega))
  have e1 := (h1.2 1 (by decide) (by omega)).symm.trans (h2.2 1 (by decide) (by omega))
  rw [Int.add_zero, Int.add_zero] at e0
  have := w_key ⟨j, hj⟩ ⟨k, hk⟩ (h1.1.symm.trans h2.1) e0 e1
  exact congrArg Fin.val this
theorem wd_eq {k : Nat} {q e : Int} (hk : k < 19) (h : eqw T B k q e) : ∀ (n j : Nat), j + n = 19 → j ≤ k → wdF T B q e n j = 256 + (k : Int) := by
  intro n
  induction n with
  | zero => intro j h1 h2; omega
  | succ n ih =>
    intro j h1 h2
    rw [wdF]
    by_cases z : eqw T B j q e
    · rw [if_pos z, eqw_one (by omega) hk z h]
    · rw [if_neg z]
      have : j ≠ k := fun u => z (by rw [u]; exact h)
      exact ih (j + 1) (by omega) (by omega)
theorem wd_inv {k : Nat} {q e : Int} (hk : k < 19) : ∀ (n j : Nat), wdF T B q e n j = 256 + (k : Int) → eqw T B k q e := by
  intro n
  induction n with
  | zero => intro j h1; simp only [wdF] at h1; omega
  | succ n ih =>
    intro j h1
    rw [wdF] at h1
    by_cases z : eqw T B j q e
    · rw [if_pos z] at h1
      have : j = k := by omega
      rw [← this]; exact z
    · rw [if_neg z] at h1; exact ih (j + 1) h1
theorem wdF_b {q e : Int} : ∀ (n j : Nat), j + n ≤ 19 → 256 ≤ wdF T B q e n j ∧ wdF T B q e n j ≤ 300 := by
  intro n
  induction n with
  | zero => intro j _; simp only [wdF]; omega
  | succ n ih =>
    intro j h
    rw [wdF]
    by_cases z : eqw T B j q e
    · rw [if_pos z]; omega
    · rw [if_neg z]; exact ih (j + 1) (by omega)
theorem eot_lt {q : Int} (h : isLt (bt T B q)) : eot T B q = rn T B 97 122 q := by
  unfold eot
  rw [if_neg (by omega), if_neg (by unfold isDg; omega), if_pos h, rn_y (by decide) h]
theorem eot_dg {q : Int} (h : isDg (bt T B q)) : eot T B q = rn T B 48 57 q := by
  unfold eot
  rw [if_neg (by omega), if_pos h, rn_y (by decide) h]
theorem num_b {q : Int} (h : isDg (bt T B q)) : num T B q (eot T B q) = 304 ∨ (1000 ≤ num T B q (eot T B q) ∧ num T B q (eot T B q) ≤ 100999) := by
  unfold num
  by_cases z : eot T B q - q ≤ 5
  · rw [if_pos z]
    have hr := rn_b (T := T) (B := B) (lo := 48) (hi := 57) (p := q)
    rw [← eot_dg h] at hr
    have h5 : ∀ n : Nat, n < 6 → ((0 : Int) + 1) * (10 : Int) ^ n ≤ 100000 := by decide
    have := (nv_b (f := bt T B) (eot T B q - q).toNat q 0 (fun i a b => by
      have : i < rn T B 48 57 q := by rw [← eot_dg h]; omega
      exact rn_in a this) (by decide) (h5 _ (by omega))).1
    unfold numv
    omega
  · rw [if_neg z]; exact Or.inl rfl
/-- what a token is -/
theorem tk_dg {q : Int} (h : isDg (bt T B q)) : tk T B q = num T B q (eot T B q) := by
  have hl := bt_lt (T := T) (B := B) (p := q) (by omega)
  unfold tk; rw [if_neg (by omega), if_pos h]
theorem tk_lt {q : Int} (h : isLt (bt T B q)) : tk T B q = wd T B q (rn T B 97 122 q) := by
  have hl := bt_lt (T := T) (B := B) (p := q) (by omega)
  unfold tk; rw [if_neg (by omega), if_neg (by unfold isDg; omega), if_pos h, eot_lt h]
theorem tk_end {q : Int} (h : T ≤ q) : tk T B q = 303 := by unfold tk; rw [if_pos h]
theorem tk_sg {q : Int} (hq : 0 ≤ q ∧ q < T) (h1 : ¬ isDg (bt T B q)) (h2 : ¬ isLt (bt T B q)) : tk T B q = if eot T B q - q = 2 then (if bt T B q = 60 then 301 else 302) else bt T B q := by
  unfold tk; rw [if_neg (by omega), if_neg h1, if_neg h2]
theorem tk_w (hT : TOk T B) {k : Nat} {q : Int} (hk : k < 19) (hq : 0 ≤ q) : tk T B q = 256 + (k : Int) ↔ eqw T B k q (rn T B 97 122 q) := by
  have hk' : (k : Int) < 19 := Int.ofNat_lt.2 hk
  constructor
  · intro h
    by_cases z : T ≤ q
    · rw [tk_end z] at h; omega
    by_cases z1 : isDg (bt T B q)
    · rw [tk_dg z1] at h
      have := num_b z1
      omega
    by_cases z2 : isLt (bt T B q)
    · rw [tk_lt z2] at h
      exact wd_inv hk 19 0 h
    · rw [tk_sg (by omega) z1 z2] at h
      have hb := bt_b (p := q) hT
      by_cases y : eot T B q - q = 2
      · rw [if_pos y] at h
        by_cases x : bt T B q = 60
        · rw [if_pos x] at h; omega
        · rw [if_neg x] at h; omega
      · rw [if_neg y] at h; omega
  · intro h
    have hl := (wt_len hk).1
    have : q < rn T B 97 122 q := by have := h.1; omega
    have z2 : isLt (bt T B q) := rn_in (Int.le_refl _) this
    rw [tk_lt z2]
    exact wd_eq hk h 19 0 rfl (Nat.zero_le _)
end
section
variable {S : ZS} {M : ZM} {T : Int} {B : Int → Int}
theorem raw_eq {r c : Int} (h : -128 ≤ r ∧ r ≤ 127) (hc : 97 ≤ c ∧ c ≤ 122) : r = c ↔ r % 256 = c := by omega
theorem r_st63 (hS : ShW S) (hM : PtW M) (hT : TOk T B) (ht : RTp M T B) {w q : Int} (hw : 1 ≤ w ∧ w < 20) (ep : M 176 21 = q) (hq : 0 ≤ q ∧ q + zSl w ≤ T) : ∀ (k fuel : Nat) (i : Int), i + k = zSl w → 0 ≤ i → k + 1 < fuel → ∃ v, pX12_stood_63 S fuel M 176 w 1 i = some (v, M) ∧ (v = 0 ∨ v = 1) ∧ (v = 1 ↔ ∀ j, i ≤ j → j < zSl w → bt T B (q + j) = zSc w j) := by
  have hb := hT.1
  obtain ⟨c1, c2, c3⟩ := cw_of hw
  have hl := (wt_len c1).1
  have hw' : (0 : Int) ≤ w ∧ w < 20 := by omega
  intro k
  induction k with
  | zero =>
    intro fuel i h1 h2 h3
    obtain ⟨f, rfl⟩ : ∃ f, fuel = f + 1 := ⟨fuel - 1, by omega⟩
    refine ⟨1, ?_, Or.inr rfl, ⟨fun _ j a b => by omega, fun _ => rfl⟩⟩
    simp only [pX12_stood_63, hw', show zSl w ≤ i by omega, and_self, if_true, pX12_stood_109, or_true]
  | succ k ih =>
    intro fuel i h1 h2 h3
    obtain ⟨f, rfl⟩ : ∃ f, fuel = f + 1 := ⟨fuel - 1, by omega⟩
    have w1 : w32 (q + i) = q + i := w32_i (by omega) (by omega)
    have w2 : w32 (i + 1) = i + 1 := w32_i (by omega) (by omega)
    have hr := ht.2 (q + i) (by omega) (by omega)
    have hc := c3 i h2 (by omega)
    have hbt : bt T B (q + i) = B (q + i) := bt_in (by omega)
    have hiff := raw_eq hr.2 hc.2
    rw [hr.1, ← hbt] at hiff
    by_cases z : bt T B (q + i) = zSc w i
    · obtain ⟨v, a1, a2, a3⟩ := ih f (i + 1) (by omega) (by omega) (by omega)
      refine ⟨v, ?_, a2, a3.trans ⟨fun u j x y => ?_, fun u j x y => u j (by omega) y⟩⟩
      · rw [← a1]
        simp only [pX12_stood_63, hw', show ¬ zSl w ≤ i by omega, show ¬ (1 : Int) = 0 by decide, if_false, hS.o, hM.o, ep, w1, show 0 ≤ q + i by omega, show q + i < 400 by omega, h2, show i < zSl w by omega, and_self, if_true, hiff.2 z, zlet, w2]
      · by_cases y' : j = i
        · rw [y']; exact z
        · exact u j (by omega) y
    · have z' : ¬ M 196 (q + i) = zSc w i := fun u => z (hiff.1 u)
      obtain ⟨g, rfl⟩ : ∃ g, f = g + 1 := ⟨f - 1, by omega⟩
      refine ⟨0, ?_, Or.inl rfl, ⟨fun u => absurd u (by decide), fun u => absurd (u i (Int.le_refl _) (by omega)) z⟩⟩
      have st : pX12_stood_63 S (g + 1) M 176 w 0 (i + 1) = some (0, M) := by
        by_cases y : zSl w ≤ i + 1
        · simp only [pX12_stood_63, hw', if_pos y, and_self, if_true, pX12_stood_109, true_or]
        · simp only [pX12_stood_63, hw', if_neg y, and_self, if_true, pX12_stood_109, true_or]
      rw [← st, pX12_stood_63]
      simp only [hw', show ¬ zSl w ≤ i by omega, show ¬ (1 : Int) = 0 by decide, if_false, hS.o, hM.o, ep, w1, show 0 ≤ q + i by omega, show q + i < 400 by omega, h2, show i < zSl w by omega, and_self, if_true, if_neg z', zlet, w2]
theorem r_st5 (hS : ShW S) (hM : PtW M) (hT : TOk T B) (ht : RTp M T B) {w : Int} : ∀ (k fuel : Nat) (p : Int), T - p ≤ k → 0 ≤ p → k < fuel → pX12_stood_5 S fuel M 176 w p = pX12_stood_41 S M 176 w (rn T B 97 122 p) := by
  have e1 := ht.1
  have hb := hT.1
  intro k
  induction k with
  | zero =>
    intro fuel p h1 h2 h3
    obtain ⟨f, rfl⟩ : ∃ f, fuel = f + 1 := ⟨fuel - 1, by omega⟩
    have y : T ≤ p := by omega
    simp only [pX12_stood_5, hS.o, e1, if_pos y, if_true, rn_ge y]
  | succ k ih =>
    intro fuel p h1 h2 h3
    obtain ⟨f, rfl⟩ : ∃ f, fuel = f + 1 := ⟨fuel - 1, by omega⟩
    by_cases y : T ≤ p
    · simp only [pX12_stood_5, hS.o, e1, if_pos y, if_true, rn_ge y]
    · have hr := ht.2 p h2 (by omega)
      have hbt : bt T B p = B p := bt_in (by omega)
      have w1 : w32 (p + 1) = p + 1 := w32_i (by omega) (by omega)
      by_cases z : isLt (bt T B p)
      · rw [rn_y (by decide) z, ← ih f (p + 1) (by omega) (by omega) (by omega)]
        have z1 : ¬ M 196 p < 97 := by omega
        have z2 : ¬ 122 < M 196 p := by omega
        simp only [pX12_stood_5, hS.o, hM.o, e1, if_neg y, h2, show p < 400 by omega, and_self, if_true, if_neg z1, if_neg z2, w1]
      · rw [rn_n (by decide) z]
        by_cases z1 : M 196 p < 97
        · simp only [pX12_stood_5, hS.o, hM.o, e1, if_neg y, h2, show p < 400 by omega, and_self, if_true, if_pos z1]
        · have z2 : 122 < M 196 p := by unfold isLt at z; omega
          simp only [pX12_stood_5, hS.o, hM.o, e1, if_neg y, h2, show p < 400 by omega, and_self, if_true, if_neg z1, if_pos z2]
/-- does the word stand here -/
theorem r_stood (hS : ShW S) (hM : PtW M) (hT : TOk T B) (ht : RTp M T B) {w : Int} (hw : 1 ≤ w ∧ w < 20) (hq : 0 ≤ M 176 21 ∧ M 176 21 ≤ T) : pX12_stood S M 176 w = some (if tk T B (M 176 21) = 256 + (cw w : Int) then 1 else 0, M) := by
  have hb := hT.1
  obtain ⟨c1, c2, c3⟩ := cw_of hw
  have hl := (wt_len c1).1
  have hw' : (0 : Int) ≤ w ∧ w < 20 := by omega
  have hr := rn_b (T := T) (B := B) (lo := 97) (hi := 122) (p := M 176 21)
  have w1 : w32 (rn T B 97 122 (M 176 21) - M 176 21) = rn T B 97 122 (M 176 21) - M 176 21 := w32_i (by omega) (by omega)
  have st : pX12_stood S M 176 w = pX12_stood_41 S M 176 w (rn T B 97 122 (M 176 21)) := by
    simp only [pX12_stood, hS.o, if_true]
    exact r_st5 hS hM hT ht (T - M 176 21).toNat zFU (M 176 21) (by omega) hq.1 (zFU_gt (by omega))
  have iff := tk_w hT c1 hq.1
  rw [st]
  by_cases z : rn T B 97 122 (M 176 21) - M 176 21 = zSl w
  · obtain ⟨v, a1, a2, a3⟩ := r_st63 hS hM hT ht hw rfl (by omega) (zSl w).toNat zFU 0 (by omega) (by decide) (zFU_gt (by omega))
    have e : (v = 1) ↔ tk T B (M 176 21) = 256 + (cw w : Int) := a3.trans (Iff.trans ⟨fun u => ⟨z.trans c2, fun i x y => by rw [u i x (by omega)]; exact (c3 i x y).1⟩, fun u j x y => by rw [u.2 j x (by omega)]; exact (c3 j x (by omega)).1.symm⟩ iff.symm)
    have : pX12_stood_41 S M 176 w (rn T B 97 122 (M 176 21)) = some (v, M) := by
      simp only [pX12_stood_41, hS.o, hw', w1, if_pos z, zlet, and_self, if_true, a1]
    rw [this]
    rcases a2 with a2 | a2
    · rw [if_neg (fun u => by have := e.2 u; omega), a2]
    · rw [if_pos (e.1 a2), a2]
  · rw [if_neg (fun u => z ((iff.1 u).1.trans c2.symm))]
    obtain ⟨f, hf⟩ : ∃ f, zFU = f + 1 := ⟨zFU - 1, by have := zFU_gt (n := 1) (by decide); omega⟩
    simp only [pX12_stood_41, hS.o, hw', w1, if_neg z, zlet, and_self, if_true, hf, pX12_stood_63, show ¬ zSl w ≤ 0 by omega, pX12_stood_109, true_or, if_false]
end
