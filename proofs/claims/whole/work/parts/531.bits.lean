/-! SETS OF PENS AS BITS -/
def bO (b0 b1 b2 b3 b4 : Bool) (q : Int) : Bool := if q = 0 then b0 else if q = 1 then b1 else if q = 2 then b2 else if q = 3 then b3 else b4
theorem setF_congr {P P' : Int → Bool} : ∀ (k : Nat) (q a : Int), (∀ i, q ≤ i → i < q + k → P i = P' i) → setF P k q a = setF P' k q a := by
  intro k
  induction k with
  | zero => intro q a _; rfl
  | succ k ih =>
    intro q a h
    simp only [setF]
    rw [h q (by omega) (by omega), ih (q + 1) _ (fun i x y => h i (by omega) (by omega))]
theorem setF_bO (P : Int → Bool) {n : Nat} (hn : n ≤ 5) : setF P n 0 0 = setF (bO (P 0) (P 1) (P 2) (P 3) (P 4)) n 0 0 := by
  apply setF_congr
  intro i h1 h2
  have : i = 0 ∨ i = 1 ∨ i = 2 ∨ i = 3 ∨ i = 4 := by omega
  rcases this with rfl | rfl | rfl | rfl | rfl <;> rfl
theorem cntB_bO (P : Int → Bool) {n : Nat} (hn : n ≤ 5) : cnt (fun i => P i = true) n 0 = cnt (fun i => bO (P 0) (P 1) (P 2) (P 3) (P 4) i = true) n 0 := by
  apply cnt_congr
  intro i h1 h2
  have : i = 0 ∨ i = 1 ∨ i = 2 ∨ i = 3 ∨ i = 4 := by omega
  rcases this with rfl | rfl | rfl | rfl | rfl <;> exact Iff.rfl
theorem bit_1 : ∀ (b0 b1 b2 b3 b4 : Bool) (n : Fin 6) (q : Fin 5), (zand (zshr (setF (bO b0 b1 b2 b3 b4) n.1 0 0) (q.1 : Int)) 1 = 1) ↔ (q.1 < n.1 ∧ bO b0 b1 b2 b3 b4 (q.1 : Int) = true) := by decide +kernel
theorem bit_2 : ∀ (b0 b1 b2 b3 b4 : Bool) (n : Fin 6) (q : Fin 5), q.1 < n.1 → bO b0 b1 b2 b3 b4 (q.1 : Int) = true → ((setF (bO b0 b1 b2 b3 b4) n.1 0 0 = zshl 1 (q.1 : Int)) ↔ cnt (fun i => bO b0 b1 b2 b3 b4 i = true) n.1 0 = 1) := by decide +kernel
theorem bit_3 : ∀ (b0 b1 b2 b3 b4 : Bool) (n : Fin 6) (q : Fin 5), q.1 < n.1 → bO b0 b1 b2 b3 b4 (q.1 : Int) = true → ((zand (setF (bO b0 b1 b2 b3 b4) n.1 0 0) (w32 (zshl 1 (q.1 : Int) - 1)) = 0) ↔ cnt (fun i => bO b0 b1 b2 b3 b4 i = true) q.1 0 = 0) := by decide +kernel
theorem bit_4 : ∀ (b0 b1 b2 b3 b4 : Bool) (n : Fin 6), 0 ≤ setF (bO b0 b1 b2 b3 b4) n.1 0 0 ∧ setF (bO b0 b1 b2 b3 b4) n.1 0 0 < 32 := by decide +kernel
theorem bit_5 : ∀ (y : Fin 32) (n : Fin 6), zand (zxor (y.1 : Int) (-1)) (w32 (zshl 1 (n.1 : Int) - 1)) = setF (fun q => !(decide (zand (zshr (y.1 : Int) q) 1 = 1))) n.1 0 0 := by decide +kernel
theorem set_1 (P : Int → Bool) {n : Nat} (hn : n ≤ 5) {q : Int} (h1 : 0 ≤ q) (h2 : q < 5) : (zand (zshr (setF P n 0 0) q) 1 = 1) ↔ (q < n ∧ P q = true) := by
  rw [setF_bO P hn]
  have := bit_1 (P 0) (P 1) (P 2) (P 3) (P 4) ⟨n, by omega⟩ ⟨q.toNat, by omega⟩
  simp only [Int.toNat_of_nonneg h1] at this
  rw [this]
  have e : bO (P 0) (P 1) (P 2) (P 3) (P 4) q = P q := by
    have : q = 0 ∨ q = 1 ∨ q = 2 ∨ q = 3 ∨ q = 4 := by omega
    rcases this with rfl | rfl | rfl | rfl | rfl <;> rfl
  rw [e]
  constructor
  · rintro ⟨x, y⟩; exact ⟨by omega, y⟩
  · rintro ⟨x, y⟩; exact ⟨by omega, y⟩
theorem bO_eq (P : Int → Bool) {q : Int} (h1 : 0 ≤ q) (h2 : q < 5) : bO (P 0) (P 1) (P 2) (P 3) (P 4) q = P q := by
  have : q = 0 ∨ q = 1 ∨ q = 2 ∨ q = 3 ∨ q = 4 := by omega
  rcases this with rfl | rfl | rfl | rfl | rfl <;> rfl
theorem set_2 (P : Int → Bool) {n : Nat} (hn : n ≤ 5) {q : Int} (h1 : 0 ≤ q) (h2 : q < n) (hP : P q = true) : (setF P n 0 0 = zshl 1 q) ↔ cnt (fun i => P i = true) n 0 = 1 := by
  rw [setF_bO P hn, cntB_bO P hn]
  have := bit_2 (P 0) (P 1) (P 2) (P 3) (P 4) ⟨n, by omega⟩ ⟨q.toNat, by omega⟩ (by show q.toNat < n; omega) (by
    simp only [Int.toNat_of_nonneg h1]
    rw [bO_eq P h1 (by omega)]; exact hP)
  simp only [Int.toNat_of_nonneg h1] at this
  exact this
theorem set_3 (P : Int → Bool) {n : Nat} (hn : n ≤ 5) {q : Int} (h1 : 0 ≤ q) (h2 : q < n) (hP : P q = true) : (zand (setF P n 0 0) (w32 (zshl 1 q - 1)) = 0) ↔ cnt (fun i => P i = true) q.toNat 0 = 0 := by
  rw [setF_bO P hn, cntB_bO P (n := q.toNat) (by omega)]
  have := bit_3 (P 0) (P 1) (P 2) (P 3) (P 4) ⟨n, by omega⟩ ⟨q.toNat, by omega⟩ (by show q.toNat < n; omega) (by
    simp only [Int.toNat_of_nonneg h1]
    rw [bO_eq P h1 (by omega)]; exact hP)
  simp only [Int.toNat_of_nonneg h1] at this
  exact this
theorem set_4 (P : Int → Bool) {n : Nat} (hn : n ≤ 5) : 0 ≤ setF P n 0 0 ∧ setF P n 0 0 < 32 := by
  rw [setF_bO P hn]
  exact bit_4 (P 0) (P 1) (P 2) (P 3) (P 4) ⟨n, by omega⟩
theorem set_5 {y : Int} (hy : 0 ≤ y ∧ y < 32) {n : Int} (hn : 0 ≤ n ∧ n ≤ 5) : zand (zxor y (-1)) (w32 (zshl 1 n - 1)) = setF (fun q => !(decide (zand (zshr y q) 1 = 1))) n.toNat 0 0 := by
  have := bit_5 ⟨y.toNat, by omega⟩ ⟨n.toNat, by omega⟩
  simp only [Int.toNat_of_nonneg hy.1, Int.toNat_of_nonneg hn.1] at this
  exact this
theorem zor_in (a b : Int) : in32 (zor a b) := i32_in _
theorem zor_0 {a : Int} (h : in32 a) : zor a 0 = a := by
  unfold zor
  rw [show Int32.ofInt 0 = 0 from rfl, Int32.or_zero, i32_to h]
theorem cnt_snoc (f : Int → Prop) [DecidablePred f] : ∀ (k : Nat) (c : Int), cnt f (k + 1) c = cnt f k c + (if f (c + k) then 1 else 0) := by
  intro k
  induction k with
  | zero => intro c; simp [cnt]
  | succ k ih =>
    intro c
    have e : cnt f (k + 1 + 1) c = (if f c then 1 else 0) + cnt f (k + 1) (c + 1) := rfl
    rw [e, ih (c + 1)]
    have e2 : cnt f (k + 1) c = (if f c then 1 else 0) + cnt f k (c + 1) := rfl
    rw [e2, show c + 1 + (k : Int) = c + ((k + 1 : Nat) : Int) by omega]
    omega
theorem nAt_snoc (w : Int) (p : Int → Int) (c : Int) (k : Nat) : nAt w p c (k + 1) 0 = nAt w p c k 0 + (if zand (zshr w k) 1 = 1 ∧ p k = c then 1 else 0) := by
  unfold nAt
  rw [cnt_snoc]
  simp only [Int.zero_add]
theorem lastAt_snoc (w : Int) (p : Int → Int) (c : Int) : ∀ (k : Nat) (q l : Int), lastAt w p c (k + 1) q l = if zand (zshr w (q + k)) 1 = 1 ∧ p (q + k) = c then q + k else lastAt w p c k q l := by
  intro k
  induction k with
  | zero => intro q l; simp [lastAt]
  | succ k ih =>
    intro q l
    have e : lastAt w p c (k + 1 + 1) q l = lastAt w p c (k + 1) (q + 1) (if zand (zshr w q) 1 = 1 ∧ p q = c then q else l) := rfl
    rw [e, ih (q + 1), show q + 1 + (k : Int) = q + ((k + 1 : Nat) : Int) by omega]
    rfl
theorem nAt_le (w : Int) (p : Int → Int) (c : Int) (k : Nat) : ∀ r : Nat, nAt w p c k 0 ≤ nAt w p c (k + r) 0 := by
  intro r
  induction r with
  | zero => exact Int.le_refl _
  | succ r ih =>
    rw [show k + (r + 1) = (k + r) + 1 by omega, nAt_snoc]
    split <;> omega
/-- one place turned from no to yes -/
theorem cnt_flip {f g : Int → Prop} [DecidablePred f] [DecidablePred g] {x : Int} (hf : ¬ f x) (hg : g x) (h : ∀ i, i ≠ x → (f i ↔ g i)) : ∀ (k : Nat) (c : Int), cnt g k c = cnt f k c + (if c ≤ x ∧ x < c + k then 1 else 0) := by
  intro k
  induction k with
  | zero => intro c; simp only [cnt]; rw [if_neg (by omega)]; rfl
  | succ k ih =>
    intro c
    simp only [cnt]
    rw [ih (c + 1)]
    by_cases hc : c = x
    · subst hc
      rw [if_pos hg, if_neg hf, if_neg (by omega), if_pos (by omega)]; omega
    · have := h c hc
      by_cases hfc : f c
      · rw [if_pos hfc, if_pos (this.mp hfc)]
        by_cases z : c + 1 ≤ x ∧ x < c + 1 + k
        · rw [if_pos z, if_pos (by omega)]; omega
        · rw [if_neg z, if_neg (by omega)]
          omega
      · rw [if_neg hfc, if_neg (fun z => hfc (this.mpr z))]
        by_cases z : c + 1 ≤ x ∧ x < c + 1 + k
        · rw [if_pos z, if_pos (by omega)]; omega
        · rw [if_neg z, if_neg (by omega)]; omega
theorem clapN_cnt (w : Int) (p : Int → Int) (n : Nat) : ∀ (k : Nat) (c : Int), clapN w p n k c = cnt (fun c => 1 < nAt w p c n 0) k c := by
  intro k
  induction k with
  | zero => intro c; rfl
  | succ k ih => intro c; simp only [clapN, cnt]; rw [ih]
def whoP (w : Int) (p : Int → Int) (n k : Nat) (W : Int → Int) (c : Int) : Int := if nAt w p c k 0 = 0 then W c else if nAt w p c n 0 = 1 then lastAt w p c k 0 (-1) else -1
def sinP (w : Int) (p : Int → Int) (k : Nat) (D : Int → Int) (d c : Int) : Int := if nAt w p c k 0 = 0 then D c else d
def clapP (w : Int) (p : Int → Int) (n k cells : Nat) : Int := cnt (fun c => 1 < nAt w p c n 0 ∧ 0 < nAt w p c k 0) cells 0
