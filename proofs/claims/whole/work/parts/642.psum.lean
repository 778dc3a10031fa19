/-! A RULE READ: sums, step by step -/
/-- how long a row is -/
def ln (L : List (Int × Int)) : Int := (L.length : Int)
theorem ln_app (a b : List (Int × Int)) : ln (a ++ b) = ln a + ln b := by unfold ln; rw [List.length_append]; exact Int.natCast_add _ _
theorem ln_nn (a : List (Int × Int)) : 0 ≤ ln a := Int.natCast_nonneg _
theorem ln_one (c : Int × Int) : ln [c] = 1 := rfl
theorem ln_nil : ln [] = 0 := rfl
noncomputable def opC (S : ZS) (m : Int) (M : ZM) : Option ZM := if m = 0 then some M else pX5_addOrder S M 13 (kc m) 0
noncomputable def opR (S : ZS) (m : Int) (R : ZM) : Option ZM := if m = 0 then some R else pX12_entry S R 176 m 0
def opL (m : Int) : List (Int × Int) := if m = 0 then [] else [(m, 0)]
def opN (m : Int) : Int := if m = 0 then 0 else 1
def kx (m : Int) : Int := if m = 0 then -1 else kc m
theorem opL_ln (m : Int) : ln (opL m) = opN m := by
  unfold opL opN
  by_cases z : m = 0
  · rw [if_pos z, if_pos z]; rfl
  · rw [if_neg z, if_neg z]; rfl
theorem opN_b (m : Int) : 0 ≤ opN m ∧ opN m ≤ 1 := by
  unfold opN
  by_cases z : m = 0
  · rw [if_pos z]; decide
  · rw [if_neg z]; decide
noncomputable def rTail (S : ZS) (a : Int) (F1 F2 : Nat) (R : ZM) : Option ZM := (pX12_term_8 S F1 R 176).bind fun R1 => (opR S a R1).bind fun R2 => pX12_sum_4 S F2 R2 176
noncomputable def rVal (S : ZS) (m a : Int) (F1 F2 : Nat) (R : ZM) : Option ZM := (pX12_value S R 176).bind fun R1 => (opR S m R1).bind fun R2 => (pX12_blanks S R2 176).bind fun R3 => rTail S a F1 F2 R3
section
variable {S : ZS} {R M : ZM} {T : Int} {B : Int → Int} {p q P j : Int} {L : List (Int × Int)}
/-- a sign of one byte -/
theorem tk_sg1 (hT : TOk T B) (hq : 0 ≤ q) {c : Int} (hc : (0 ≤ c ∧ c < 97) ∧ ¬ isDg c ∧ c ≠ 60 ∧ c ≠ 62) : tk T B q = c ↔ bt T B q = c := by
  constructor
  · intro h
    by_cases y : T ≤ q
    · rw [tk_end y] at h; omega
    by_cases z : isDg (bt T B q)
    · rw [tk_dg z] at h; have := num_b z; omega
    by_cases z3 : isLt (bt T B q)
    · rw [tk_lt z3] at h; have := wdF_b (T := T) (B := B) (q := q) (e := rn T B 97 122 q) 19 0 (by decide); unfold wd at h; omega
    · rw [tk_sg ⟨hq, by omega⟩ z z3] at h
      by_cases x : eot T B q - q = 2
      · rw [if_pos x] at h
        by_cases u : bt T B q = 60
        · rw [if_pos u] at h; omega
        · rw [if_neg u] at h; omega
      · rw [if_neg x] at h; exact h
  · intro h
    have hl := bt_lt (T := T) (B := B) (p := q) (by omega)
    have n1 : ¬ isDg (bt T B q) := by rw [h]; exact hc.2.1
    have n2 : ¬ isLt (bt T B q) := by unfold isLt; omega
    have he : eot T B q = q + 1 := by unfold eot; rw [if_neg (by omega), if_neg n1, if_neg n2]
    rw [tk_sg hl n1 n2, if_neg (by omega), h]
theorem eot_sg1 {c : Int} (hc : (0 ≤ c ∧ c < 97) ∧ ¬ isDg c ∧ c ≠ 60 ∧ c ≠ 62) (h : bt T B q = c) : eot T B q = q + 1 ∧ (0 ≤ q ∧ q < T) := by
  have hl := bt_lt (T := T) (B := B) (p := q) (by omega)
  have n1 : ¬ isDg (bt T B q) := by rw [h]; exact hc.2.1
  have n2 : ¬ isLt (bt T B q) := by unfold isLt; omega
  refine ⟨?_, hl⟩
  unfold eot; rw [if_neg (by omega), if_neg n1, if_neg n2]
theorem p_opC (h : CJ S M T B q L P) (hl : ln L < 400) (m : Int) : ∃ M', opC S m M = some M' ∧ CJ S M' T B q (L ++ opL m) P ∧ FD M M' := by
  unfold opC opL
  by_cases z : m = 0
  · rw [if_pos z, if_pos z, List.append_nil]; exact ⟨M, rfl, h, FD.refl M⟩
  · rw [if_neg z, if_neg z]; exact c_add h hl (m, 0)
theorem p_opR (h : RJ S R T B p L P j) (hl : ln L < 300) (m : Int) : ∃ R', opR S m R = some R' ∧ RJ S R' T B p (L ++ opL m) P j ∧ FG j R R' := by
  unfold opR opL
  by_cases z : m = 0
  · rw [if_pos z, if_pos z, List.append_nil]; exact ⟨R, rfl, h, FG.refl R⟩
  · rw [if_neg z, if_neg z]; exact r_entry h hl
theorem p_opRF (hS : ShW S) (hf : R 176 22 ≠ 0) (m : Int) : opR S m R = some R := by
  unfold opR
  by_cases z : m = 0
  · rw [if_pos z]
  · rw [if_neg z]; exact r_entryF hS hf
theorem r_tailF (hS : ShW S) (hf : R 176 22 ≠ 0) (a : Int) (F1 F2 : Nat) : rTail S a (F1 + 1) (F2 + 1) R = some R := by
  simp only [rTail, pX12_term_8, pX12_term_100, pX12_sum_4, pX12_sum_67, hS.o, if_true, if_neg hf, Option.bind_some, p_opRF hS hf a]
theorem r_valF (hS : ShW S) (hM : PtW R) (hT : TOk T B) (ht : RTp R T B) (h29 : R 176 29 = 12) (hp : 0 ≤ R 176 21 ∧ R 176 21 ≤ T) (hf : R 176 22 ≠ 0) (m a : Int) (F1 F2 : Nat) : ∃ R', rVal S m a (F1 + 1) (F2 + 1) R = some R' ∧ FZ R R' ∧ (0 ≤ R' 176 21 ∧ R' 176 21 ≤ T) := by
  have hb := hT.1
  obtain ⟨R1, a1, a2, a3⟩ := r_valueF hS hM hT ht h29 hp hf
  have f1 : R1 176 22 ≠ 0 := by rw [a2.2 22 (by decide) (by decide)]; exact hf
  have b1 := r_blanks hS (hM.fz a2) hT (ht.fz a2) (by omega)
  have hs := sk_b (B := B) a3.2
  have f2 : (upM R1 176 21 (sk T B (R1 176 21))) 176 22 ≠ 0 := by rw [upM_i (by decide)]; exact f1
  refine ⟨upM R1 176 21 (sk T B (R1 176 21)), ?_, a2.trans FZ.at, by rw [upM_s]; omega⟩
  simp only [rVal, a1, Option.bind_some, p_opRF hS f1 m, b1, r_tailF hS f2]
/-- behind a value's fault the sum ends -/
theorem r_aftF (hS : ShW S) (hM : PtW R) (hT : TOk T B) (ht : RTp R T B) (hp : 0 ≤ R 176 21 ∧ R 176 21 ≤ T) (hf : R 176 22 ≠ 0) (m a : Int) (F1 F2 : Nat) : ∃ R', ((opR S m R).bind fun R2 => (pX12_blanks S R2 176).bind fun R3 => rTail S a (F1 + 1) (F2 + 1) R3) = some R' ∧ FZ R R' ∧ (0 ≤ R' 176 21 ∧ R' 176 21 ≤ T) := by
  have hb := hT.1
  have b1 := r_blanks hS hM hT ht (by omega)
  have hs := sk_b (B := B) hp.2
  have f2 : (upM R 176 21 (sk T B (R 176 21))) 176 22 ≠ 0 := by rw [upM_i (by decide)]; exact hf
  refine ⟨upM R 176 21 (sk T B (R 176 21)), ?_, FZ.at, by rw [upM_s]; omega⟩
  simp only [Option.bind_some, p_opRF hS hf m, b1, r_tailF hS f2]
theorem r_sumV (hS : ShW S) : pX12_sum S R 176 = rVal S 0 0 zFU zFU R := by
  have e : ∀ R, opR S 0 R = some R := fun R => rfl
  simp only [pX12_sum, pX12_term, hS.o, if_true, rVal, rTail, e, Option.bind_assoc, Option.bind_some]
theorem r_sumF (hS : ShW S) (hM : PtW R) (hT : TOk T B) (ht : RTp R T B) (h29 : R 176 29 = 12) (hp : 0 ≤ R 176 21 ∧ R 176 21 ≤ T) (hf : R 176 22 ≠ 0) : ∃ R', pX12_sum S R 176 = some R' ∧ FZ R R' ∧ (0 ≤ R' 176 21 ∧ R' 176 21 ≤ T) := by
  rw [r_sumV hS]; exact r_valF hS hM hT ht h29 hp hf 0 0 3999 3999
/-- the byte where the reference stands -/
theorem RJ.byte (hT : TOk T B) (h : RJ S R T B p L P j) : pX12_byteHere S R 176 = some (bt T B p, R) := by
  obtain ⟨h1, h2, h3, h4, h5, h6⟩ := h.1
  have := r_byteHere h1 h2 hT h3 (by omega)
  rw [h6] at this; exact this
def mK (c : Int) : Int := if c = 42 then 13 else if c = 47 then 14 else if c = 37 then 15 else 0
def aK (c : Int) : Int := if c = 43 then 2 else if c = 45 then 3 else 0
theorem r_tailM (hT : TOk T B) (h : RJ S R T B p L P j) (hk : mK (bt T B p) ≠ 0) (a : Int) (F1 F2 : Nat) : rTail S a (F1 + 1) F2 R = rVal S (mK (bt T B p)) a F1 F2 (upM R 176 21 (p + 1)) := by
  have hb := hT.1
  have bh := h.byte hT
  have h5 := h.1.2.2.2.2.1
  have h6 := h.1.2.2.2.2.2
  have h4 := h.1.2.2.2.1
  have w1 : w32 (p + 1) = p + 1 := w32_i (by omega) (by omega)
  have e : ∀ k R, k ≠ 0 → opR S k R = pX12_entry S R 176 k 0 := fun k R y => if_neg y
  unfold mK at *
  by_cases z : bt T B p = 42
  · rw [if_pos z]
    simp only [rTail, rVal, pX12_term_8, pX12_term_42, pX12_term_72, h.1.1.o, if_true, if_pos h5, bh, Option.bind_some, if_pos z, zlet, h6, w1, e 13 _ (by decide), Option.bind_assoc]
  rw [if_neg z] at hk ⊢
  by_cases y : bt T B p = 47
  · rw [if_pos y]
    simp only [rTail, rVal, pX12_term_8, pX12_term_42, pX12_term_72, h.1.1.o, if_true, if_pos h5, bh, Option.bind_some, if_neg z, if_pos y, zlet, h6, w1, e 14 _ (by decide), Option.bind_assoc]
  rw [if_neg y] at hk ⊢
  by_cases x : bt T B p = 37
  · rw [if_pos x]
    simp only [rTail, rVal, pX12_term_8, pX12_term_42, pX12_term_72, h.1.1.o, if_true, if_pos h5, bh, Option.bind_some, if_neg z, if_neg y, if_pos x, zlet, h6, w1, e 15 _ (by decide), Option.bind_assoc]
  · rw [if_neg x] at hk; exact absurd rfl hk
theorem r_tailN (hT : TOk T B) (h : RJ S R T B p L P j) (hk : mK (bt T B p) = 0) (a : Int) (F1 F2 : Nat) : rTail S a (F1 + 1) F2 R = (opR S a R).bind fun R2 => pX12_sum_4 S F2 R2 176 := by
  have bh := h.byte hT
  have h5 := h.1.2.2.2.2.1
  unfold mK at hk
  have n1 : ¬ bt T B p = 42 := fun u => by rw [if_pos u] at hk; omega
  rw [if_neg n1] at hk
  have n2 : ¬ bt T B p = 47 := fun u => by rw [if_pos u] at hk; omega
  rw [if_neg n2] at hk
  have n3 : ¬ bt T B p = 37 := fun u => by rw [if_pos u] at hk; omega
  simp only [rTail, pX12_term_8, pX12_term_100, h.1.1.o, if_true, if_pos h5, bh, Option.bind_some, if_neg n1, if_neg n2, if_neg n3]
theorem r_sumA (hT : TOk T B) (h : RJ S R T B p L P j) (hk : aK (bt T B p) ≠ 0) (F2 : Nat) : pX12_sum_4 S (F2 + 1) R 176 = rVal S 0 (aK (bt T B p)) zFU F2 (upM R 176 21 (p + 1)) := by
  have hb := hT.1
  have bh := h.byte hT
  have h5 := h.1.2.2.2.2.1
  have h6 := h.1.2.2.2.2.2
  have h4 := h.1.2.2.2.1
  have w1 : w32 (p + 1) = p + 1 := w32_i (by omega) (by omega)
  have e : ∀ k R, k ≠ 0 → opR S k R = pX12_entry S R 176 k 0 := fun k R y => if_neg y
  have e0 : ∀ R, opR S 0 R = some R := fun R => rfl
  unfold aK at *
  by_cases z : bt T B p = 43
  · rw [if_pos z]
    simp only [rTail, rVal, pX12_sum_4, pX12_sum_29, pX12_sum_43, pX12_term, h.1.1.o, if_true, if_pos h5, bh, Option.bind_some, if_pos z, zlet, h6, w1, e 2 _ (by decide), e0, Option.bind_assoc]
  rw [if_neg z] at hk ⊢
  by_cases y : bt T B p = 45
  · rw [if_pos y]
    simp only [rTail, rVal, pX12_sum_4, pX12_sum_29, pX12_sum_43, pX12_term, h.1.1.o, if_true, if_pos h5, bh, Option.bind_some, if_neg z, if_pos y, zlet, h6, w1, e 3 _ (by decide), e0, Option.bind_assoc]
  · rw [if_neg y] at hk; exact absurd rfl hk
theorem r_sumN (hT : TOk T B) (h : RJ S R T B p L P j) (hk : aK (bt T B p) = 0) (F2 : Nat) : pX12_sum_4 S (F2 + 1) R 176 = some R := by
  have bh := h.byte hT
  have h5 := h.1.2.2.2.2.1
  unfold aK at hk
  have n1 : ¬ bt T B p = 43 := fun u => by rw [if_pos u] at hk; omega
  rw [if_neg n1] at hk
  have n2 : ¬ bt T B p = 45 := fun u => by rw [if_pos u] at hk; omega
  simp only [pX12_sum_4, pX12_sum_67, h.1.1.o, if_true, if_pos h5, bh, Option.bind_some, if_neg n1, if_neg n2]
end
