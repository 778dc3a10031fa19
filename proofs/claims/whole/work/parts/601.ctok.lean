/-! TOKENS: the class -/
theorem wt_len {k : Nat} (h : k < 19) : (2 ≤ wln k ∧ wln k ≤ 6) ∧ (0 ≤ wst k ∧ wst k + wln k < 88) ∧ wst (k + 1) = wst k + wln k + 1 := by
  have := w_tab ⟨k, h⟩
  exact ⟨this.2.2.1, this.2.2.2, this.2.1⟩
theorem wt_ch {k : Nat} (h : k < 19) {i : Int} (hi : 0 ≤ i ∧ i < wln k) : zSc 0 (wst k + i) ≠ 32 := by
  have hl := (wt_len h).1
  have := ((w_tab ⟨k, h⟩).1 ⟨i.toNat, by omega⟩).1
  simp only [Int.toNat_of_nonneg hi.1] at this
  exact this hi.2
theorem wt_sp {k : Nat} (h : k < 19) : zSc 0 (wst k + wln k) = 32 := by
  have hl := (wt_len h).1
  have := ((w_tab ⟨k, h⟩).1 ⟨(wln k).toNat, by omega⟩).2
  simp only [Int.toNat_of_nonneg (show 0 ≤ wln k by omega)] at this
  exact this trivial
theorem wst0 : wst 0 = 0 := rfl
theorem wst19 : wst 19 = 88 := rfl
theorem nv_b {f : Int → Int} : ∀ (k : Nat) (p v : Int), (∀ i, p ≤ i → i < p + k → isDg (f i)) → 0 ≤ v → (v + 1) * 10 ^ k ≤ 100000 → (0 ≤ nvF f k p v ∧ nvF f k p v ≤ 99999) ∧ v ≤ 99999 := by
  intro k
  induction k with
  | zero => intro p v _ h1 h2; simp only [nvF, Int.pow_zero] at *; omega
  | succ k ih =>
    intro p v hd h1 h2
    have d := hd p (Int.le_refl _) (by omega)
    have h10 : (0 : Int) ≤ 10 ^ k := Int.le_of_lt (Int.pow_pos (by decide))
    have h3 : (v * 10 + f p - 48 + 1) * 10 ^ k ≤ 100000 := by
      have : (v * 10 + f p - 48 + 1) * 10 ^ k ≤ ((v + 1) * 10) * 10 ^ k := Int.mul_le_mul_of_nonneg_right (by omega) h10
      rw [Int.mul_assoc, show (10 : Int) * 10 ^ k = 10 ^ (k + 1) by rw [Int.pow_succ, Int.mul_comm]] at this
      omega
    have := ih (p + 1) (v * 10 + f p - 48) (fun i a b => hd i (by omega) (by omega)) (by omega) h3
    refine ⟨this.1, ?_⟩
    have h4 : (v + 1) * 1 ≤ (v + 1) * 10 ^ (k + 1) := Int.mul_le_mul_of_nonneg_left (Int.pow_pos (by decide : (0 : Int) < 10)) (by omega)
    omega
section
variable {S : ZS} {M : ZM} {T : Int} {B : Int → Int}
theorem c_byteAt (h : NW S M) (hT : TOk T B) (ht : CTp M T B) {p : Int} : pX8_byteAt S M 2 p = some (bt T B p, M) := by
  have e1 := ht.1
  have hb := hT.1
  by_cases z : p < 0
  · simp only [pX8_byteAt, pX8_byteAt_28, pX8_byteAt_29, if_pos z]
    unfold bt; rw [if_neg (by omega)]
  · by_cases y : T ≤ p
    · simp only [pX8_byteAt, pX8_byteAt_28, pX8_byteAt_29, if_neg z, h.1.o, e1, if_pos y, if_true, bt_out y]
    · have e2 := ht.2 p (by omega) (by omega)
      simp only [pX8_byteAt, pX8_byteAt_28, pX8_byteAt_29, if_neg z, h.1.o, h.2.o, e1, if_neg y, show ¬ 400 ≤ p by omega, show 0 ≤ p by omega, show p < 400 by omega, and_self, if_true, if_false, e2, bt_in (B := B) (show 0 ≤ p ∧ p < T by omega)]
theorem c_isDg {c : Int} : pX8_isDigit S M c = some (if isDg c then 1 else 0, M) := by
  unfold pX8_isDigit isDg
  by_cases z : c < 48
  · rw [if_pos z, if_neg (by omega)]
  · rw [if_neg z]
    by_cases y : 57 < c
    · rw [if_pos y, if_neg (by omega)]
    · rw [if_neg y, if_pos (by omega)]
theorem c_isLt {c : Int} : pX8_isLetter S M c = some (if isLt c then 1 else 0, M) := by
  unfold pX8_isLetter isLt
  by_cases z : c < 97
  · rw [if_pos z, if_neg (by omega)]
  · rw [if_neg z]
    by_cases y : 122 < c
    · rw [if_pos y, if_neg (by omega)]
    · rw [if_neg y, if_pos (by omega)]
theorem c_let (h : NW S M) (hT : TOk T B) (ht : CTp M T B) : ∀ (k fuel : Nat) (p : Int), T - p ≤ k → 0 ≤ p → k < fuel → pX8_endOfToken_79 S fuel M 2 p = some (rn T B 97 122 p, M) := by
  have e1 := ht.1
  have hb := hT.1
  intro k
  induction k with
  | zero =>
    intro fuel p h1 h2 h3
    obtain ⟨f, rfl⟩ : ∃ f, fuel = f + 1 := ⟨fuel - 1, by omega⟩
    have y : T ≤ p := by omega
    simp only [pX8_endOfToken_79, pX8_endOfToken_104, h.1.o, e1, if_pos y, if_true, rn_ge y]
  | succ k ih =>
    intro fuel p h1 h2 h3
    obtain ⟨f, rfl⟩ : ∃ f, fuel = f + 1 := ⟨fuel - 1, by omega⟩
    by_cases y : T ≤ p
    · simp only [pX8_endOfToken_79, pX8_endOfToken_104, h.1.o, e1, if_pos y, if_true, rn_ge y]
    · have w1 : w32 (p + 1) = p + 1 := w32_i (by omega) (by omega)
      by_cases z : isLt (bt T B p)
      · rw [rn_y (by decide) z, ← ih f (p + 1) (by omega) (by omega) (by omega)]
        simp only [pX8_endOfToken_79, h.1.o, e1, if_neg y, if_true, c_byteAt h hT ht, Option.bind_some, c_isLt, if_pos z, w1, show ¬ (1 : Int) = 0 by decide, if_false]
      · rw [rn_n (by decide) z]
        simp only [pX8_endOfToken_79, pX8_endOfToken_104, h.1.o, e1, if_neg y, if_true, c_byteAt h hT ht, Option.bind_some, c_isLt, if_neg z]
theorem c_dig (h : NW S M) (hT : TOk T B) (ht : CTp M T B) : ∀ (k fuel : Nat) (p : Int), T - p ≤ k → 0 ≤ p → k < fuel → pX8_endOfToken_47 S fuel M 2 p = some (rn T B 48 57 p, M) := by
  have e1 := ht.1
  have hb := hT.1
  intro k
  induction k with
  | zero =>
    intro fuel p h1 h2 h3
    obtain ⟨f, rfl⟩ : ∃ f, fuel = f + 1 := ⟨fuel - 1, by omega⟩
    have y : T ≤ p := by omega
    simp only [pX8_endOfToken_47, pX8_endOfToken_104, h.1.o, e1, if_pos y, if_true, rn_ge y]
  | succ k ih =>
    intro fuel p h1 h2 h3
    obtain ⟨f, rfl⟩ : ∃ f, fuel = f + 1 := ⟨fuel - 1, by omega⟩
    by_cases y : T ≤ p
    · simp only [pX8_endOfToken_47, pX8_endOfToken_104, h.1.o, e1, if_pos y, if_true, rn_ge y]
    · have w1 : w32 (p + 1) = p + 1 := w32_i (by omega) (by omega)
      by_cases z : isDg (bt T B p)
      · rw [rn_y (by decide) z, ← ih f (p + 1) (by omega) (by omega) (by omega)]
        simp only [pX8_endOfToken_47, h.1.o, e1, if_neg y, if_true, c_byteAt h hT ht, Option.bind_some, c_isDg, if_pos z, w1, show ¬ (1 : Int) = 0 by decide, if_false]
      · rw [rn_n (by decide) z]
        simp only [pX8_endOfToken_47, pX8_endOfToken_104, h.1.o, e1, if_neg y, if_true, c_byteAt h hT ht, Option.bind_some, c_isDg, if_neg z]
theorem c_eot (h : NW S M) (hT : TOk T B) (ht : CTp M T B) {p : Int} (hp : 0 ≤ p ∧ p < T) : pX8_endOfToken S M 2 p = some (eot T B p, M) := by
  have hb := hT.1
  have w1 : w32 (p + 1) = p + 1 := w32_i (by omega) (by omega)
  have w2 : w32 (p + 1 + 1) = p + 1 + 1 := w32_i (by omega) (by omega)
  have e22 : pX8_endOfToken_22 S M 2 (p + 1) = some (if bt T B (p + 1) = 61 then p + 1 + 1 else p + 1, M) := by
    simp only [pX8_endOfToken_22, h.1.o, if_true, c_byteAt h hT ht, Option.bind_some, w2]
  unfold eot
  by_cases z1 : bt T B p = 60
  · rw [if_pos (Or.inl z1)]
    simp only [pX8_endOfToken, h.1.o, if_true, c_byteAt h hT ht, Option.bind_some, if_pos z1, w1, e22]
  by_cases z2 : bt T B p = 62
  · rw [if_pos (Or.inr z2)]
    simp only [pX8_endOfToken, h.1.o, if_true, c_byteAt h hT ht, Option.bind_some, if_neg z1, if_pos z2, w1, e22]
  rw [if_neg (fun u => u.elim z1 z2)]
  by_cases z3 : isDg (bt T B p)
  · rw [if_pos z3]
    simp only [pX8_endOfToken, h.1.o, if_true, c_byteAt h hT ht, Option.bind_some, if_neg z1, if_neg z2, c_isDg, if_pos z3, show ¬ (1 : Int) = 0 by decide, if_false, w1, c_dig h hT ht (T - (p + 1)).toNat zFU (p + 1) (by omega) (by omega) (zFU_gt (by omega))]
  rw [if_neg z3]
  by_cases z4 : isLt (bt T B p)
  · rw [if_pos z4]
    simp only [pX8_endOfToken, h.1.o, if_true, c_byteAt h hT ht, Option.bind_some, if_neg z1, if_neg z2, c_isDg, if_neg z3, c_isLt, if_pos z4, show ¬ (1 : Int) = 0 by decide, if_false, w1, c_let h hT ht (T - (p + 1)).toNat zFU (p + 1) (by omega) (by omega) (zFU_gt (by omega))]
  · rw [if_neg z4]
    simp only [pX8_endOfToken, pX8_endOfToken_104, h.1.o, if_true, c_byteAt h hT ht, Option.bind_some, if_neg z1, if_neg z2, c_isDg, if_neg z3, c_isLt, if_neg z4, w1]
theorem eot_b {p : Int} (hp : 0 ≤ p ∧ p < T) : p + 1 ≤ eot T B p ∧ eot T B p ≤ T := by
  unfold eot
  by_cases z1 : bt T B p = 60 ∨ bt T B p = 62
  · rw [if_pos z1]
    by_cases z : bt T B (p + 1) = 61
    · rw [if_pos z]
      have := bt_lt (T := T) (B := B) (p := p + 1) (by omega)
      omega
    · rw [if_neg z]; omega
  · rw [if_neg z1]
    by_cases z3 : isDg (bt T B p)
    · rw [if_pos z3]
      have := rn_b (T := T) (B := B) (lo := 48) (hi := 57) (p := p + 1)
      omega
    · rw [if_neg z3]
      by_cases z4 : isLt (bt T B p)
      · rw [if_pos z4]
        have := rn_b (T := T) (B := B) (lo := 97) (hi := 122) (p := p + 1)
        omega
      · rw [if_neg z4]; omega
theorem c_num16 (h : NW S M) (hT : TOk T B) (ht : CTp M T B) {e : Int} : ∀ (k fuel : Nat) (v i : Int), i + k = e → (0 ≤ i ∧ e ≤ 400) → (∀ j, i ≤ j → j < i + k → isDg (bt T B j)) → 0 ≤ v → (v + 1) * 10 ^ k ≤ 100000 → k < fuel → pX8_numberToken_16 S fuel M 2 e v i = some (1000 + nvF (bt T B) k i v, M) := by
  intro k
  induction k with
  | zero =>
    intro fuel v i h1 h2 h3 h4 h5 h6
    obtain ⟨f, rfl⟩ : ∃ f, fuel = f + 1 := ⟨fuel - 1, by omega⟩
    have hb := nv_b 0 i v h3 h4 h5
    simp only [nvF] at *
    have w1 : w32 (1000 + v) = 1000 + v := w32_i (by omega) (by omega)
    simp only [pX8_numberToken_16, show e ≤ i by omega, if_true, w1]
  | succ k ih =>
    intro fuel v i h1 h2 h3 h4 h5 h6
    obtain ⟨f, rfl⟩ : ∃ f, fuel = f + 1 := ⟨fuel - 1, by omega⟩
    have hb := nv_b (k + 1) i v h3 h4 h5
    have d := h3 i (Int.le_refl _) (by omega)
    have h10 : (0 : Int) ≤ 10 ^ k := Int.le_of_lt (Int.pow_pos (by decide))
    have h5' : (v * 10 + bt T B i - 48 + 1) * 10 ^ k ≤ 100000 := by
      have : (v * 10 + bt T B i - 48 + 1) * 10 ^ k ≤ ((v + 1) * 10) * 10 ^ k := Int.mul_le_mul_of_nonneg_right (by omega) h10
      rw [Int.mul_assoc, show (10 : Int) * 10 ^ k = 10 ^ (k + 1) by rw [Int.pow_succ, Int.mul_comm]] at this
      omega
    have w1 : w32 (v * 10) = v * 10 := w32_i (by omega) (by omega)
    have w2 : w32 (v * 10 + bt T B i) = v * 10 + bt T B i := w32_i (by omega) (by omega)
    have w3 : w32 (v * 10 + bt T B i - 48) = v * 10 + bt T B i - 48 := w32_i (by omega) (by omega)
    have w4 : w32 (i + 1) = i + 1 := w32_i (by omega) (by omega)
    have := ih f (v * 10 + bt T B i - 48) (i + 1) (by omega) (by omega) (fun j a b => h3 j (by omega) (by omega)) (by omega) h5' (by omega)
    rw [nvF, ← this]
    simp only [pX8_numberToken_16, show ¬ e ≤ i by omega, if_false, h.1.o, if_true, c_byteAt h hT ht, Option.bind_some, w1, w2, w3, w4]
theorem c_num (h : NW S M) (hT : TOk T B) (ht : CTp M T B) {p e : Int} (hp : 0 ≤ p ∧ p ≤ e ∧ e ≤ 400) (hd : ∀ j, p ≤ j → j < e → isDg (bt T B j)) : pX8_numberToken S M 2 p e = some (num T B p e, M) := by
  have w1 : w32 (e - p) = e - p := w32_i (by omega) (by omega)
  unfold num
  by_cases z : e - p ≤ 5
  · rw [if_pos z]
    simp only [pX8_numberToken, w1, if_pos z]
    refine c_num16 h hT ht (e - p).toNat zFU 0 p (by omega) (by omega) (fun j a b => hd j a (by omega)) (by decide) ?_ (zFU_gt (by omega))
    have h5 : ∀ n : Nat, n < 6 → (10 : Int) ^ n ≤ 100000 := by decide
    have := h5 (e - p).toNat (by omega)
    omega
  · rw [if_neg z]
    simp only [pX8_numberToken, w1, if_neg z]
end
