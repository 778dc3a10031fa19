/-! TEXT: what the bytes of a tape say -/
def bt (T : Int) (B : Int → Int) (p : Int) : Int := if 0 ≤ p ∧ p < T then B p else -1
def rnF (f : Int → Int) (lo hi : Int) : Nat → Int → Int
  | 0, p => p
  | k + 1, p => if lo ≤ f p ∧ f p ≤ hi then rnF f lo hi k (p + 1) else p
def rn (T : Int) (B : Int → Int) (lo hi p : Int) : Int := rnF (bt T B) lo hi (T - p).toNat p
section
variable {T : Int} {B : Int → Int} {lo hi p : Int}
theorem bt_out (h : T ≤ p) : bt T B p = -1 := by unfold bt; rw [if_neg (by omega)]
theorem bt_in (h : 0 ≤ p ∧ p < T) : bt T B p = B p := by unfold bt; rw [if_pos h]
theorem bt_b (h : TOk T B) : -1 ≤ bt T B p ∧ bt T B p < 256 := by
  by_cases z : 0 ≤ p ∧ p < T
  · rw [bt_in z]; have := h.2 p z.1 z.2; omega
  · unfold bt; rw [if_neg z]; omega
theorem bt_lt (h : 0 ≤ bt T B p) : 0 ≤ p ∧ p < T := by
  by_cases z : 0 ≤ p ∧ p < T
  · exact z
  · unfold bt at h; rw [if_neg z] at h; omega
theorem rn_ge (h : T ≤ p) : rn T B lo hi p = p := by
  unfold rn; rw [show (T - p).toNat = 0 by omega]; rfl
theorem rn_eq (hl : 0 ≤ lo) : rn T B lo hi p = if lo ≤ bt T B p ∧ bt T B p ≤ hi then rn T B lo hi (p + 1) else p := by
  by_cases z : T ≤ p
  · rw [rn_ge z, bt_out z, if_neg (by omega)]
  · unfold rn
    rw [show (T - p).toNat = (T - (p + 1)).toNat + 1 by omega, rnF]
theorem rn_y (hl : 0 ≤ lo) (h : lo ≤ bt T B p ∧ bt T B p ≤ hi) : rn T B lo hi p = rn T B lo hi (p + 1) := by rw [rn_eq hl, if_pos h]
theorem rn_n (hl : 0 ≤ lo) (h : ¬ (lo ≤ bt T B p ∧ bt T B p ≤ hi)) : rn T B lo hi p = p := by rw [rn_eq hl, if_neg h]
theorem rnF_b {f : Int → Int} : ∀ (k : Nat) (p : Int), p ≤ rnF f lo hi k p ∧ rnF f lo hi k p ≤ p + k ∧ ∀ i, p ≤ i → i < rnF f lo hi k p → lo ≤ f i ∧ f i ≤ hi := by
  intro k
  induction k with
  | zero => intro p; exact ⟨Int.le_refl _, by simp [rnF], fun i a b => by simp [rnF] at b; omega⟩
  | succ k ih =>
    intro p
    unfold rnF
    by_cases z : lo ≤ f p ∧ f p ≤ hi
    · rw [if_pos z]
      obtain ⟨a, b, c⟩ := ih (p + 1)
      refine ⟨by omega, by omega, fun i x y => ?_⟩
      by_cases u : i = p
      · rw [u]; exact z
      · exact c i (by omega) y
    · rw [if_neg z]; exact ⟨Int.le_refl _, by omega, fun i a b => by omega⟩
theorem rn_b : p ≤ rn T B lo hi p ∧ (rn T B lo hi p ≤ T ∨ rn T B lo hi p = p) := by
  by_cases z : T ≤ p
  · rw [rn_ge z]; exact ⟨Int.le_refl _, Or.inr rfl⟩
  · have := rnF_b (f := bt T B) (lo := lo) (hi := hi) (T - p).toNat p
    unfold rn
    exact ⟨this.1, Or.inl (by omega)⟩
theorem rn_in {i : Int} (h1 : p ≤ i) (h2 : i < rn T B lo hi p) : lo ≤ bt T B i ∧ bt T B i ≤ hi := (rnF_b (f := bt T B) (lo := lo) (hi := hi) (T - p).toNat p).2.2 i h1 h2
/-- the end of a run is no part of it -/
theorem rn_end (hl : 0 ≤ lo) : ∀ (k : Nat) (p : Int), T - p ≤ k → ¬ (lo ≤ bt T B (rn T B lo hi p) ∧ bt T B (rn T B lo hi p) ≤ hi) := by
  intro k
  induction k with
  | zero => intro p h; rw [rn_ge (by omega), bt_out (by omega)]; omega
  | succ k ih =>
    intro p h
    by_cases z : lo ≤ bt T B p ∧ bt T B p ≤ hi
    · rw [rn_y hl z]; exact ih (p + 1) (by omega)
    · rw [rn_n hl z]; exact z
theorem rn_rn (hl : 0 ≤ lo) : rn T B lo hi (rn T B lo hi p) = rn T B lo hi p := rn_n hl (rn_end hl (T - p).toNat p (by omega))
end
/-- past the blanks -/
def sk (T : Int) (B : Int → Int) (p : Int) : Int := rn T B 32 32 p
abbrev isDg (c : Int) : Prop := 48 ≤ c ∧ c ≤ 57
abbrev isLt (c : Int) : Prop := 97 ≤ c ∧ c ≤ 122
def eot (T : Int) (B : Int → Int) (p : Int) : Int := if bt T B p = 60 ∨ bt T B p = 62 then (if bt T B (p + 1) = 61 then p + 1 + 1 else p + 1) else if isDg (bt T B p) then rn T B 48 57 (p + 1) else if isLt (bt T B p) then rn T B 97 122 (p + 1) else p + 1
def nvF (f : Int → Int) : Nat → Int → Int → Int
  | 0, _, v => v
  | k + 1, p, v => nvF f k (p + 1) (v * 10 + f p - 48)
def numv (T : Int) (B : Int → Int) (p e : Int) : Int := nvF (bt T B) (e - p).toNat p 0
def num (T : Int) (B : Int → Int) (p e : Int) : Int := if e - p ≤ 5 then 1000 + numv T B p e else 304
/-! words: where each begins in the row of words, and how long it is -/
def wst (k : Nat) : Int := ([0, 4, 8, 15, 21, 25, 31, 35, 40, 45, 50, 55, 59, 63, 68, 74, 77, 80, 84, 88] : List Int).getD k 88
def wln (k : Nat) : Int := ([3, 3, 6, 5, 3, 5, 3, 4, 4, 4, 4, 3, 3, 4, 5, 2, 2, 3, 3] : List Int).getD k 0
def eqw (T : Int) (B : Int → Int) (k : Nat) (q e : Int) : Prop := e - q = wln k ∧ ∀ i, 0 ≤ i → i < wln k → bt T B (q + i) = zSc 0 (wst k + i)
noncomputable def wdF (T : Int) (B : Int → Int) (q e : Int) : Nat → Nat → Int
  | 0, _ => 300
  | n + 1, k => @ite _ (eqw T B k q e) (Classical.propDecidable _) (256 + (k : Int)) (wdF T B q e n (k + 1))
noncomputable def wd (T : Int) (B : Int → Int) (q e : Int) : Int := wdF T B q e 19 0
noncomputable def tk (T : Int) (B : Int → Int) (q : Int) : Int := if T ≤ q then 303 else if isDg (bt T B q) then num T B q (eot T B q) else if isLt (bt T B q) then wd T B q (eot T B q) else if eot T B q - q = 2 then (if bt T B q = 60 then 301 else 302) else bt T B q
noncomputable def nx (T : Int) (B : Int → Int) (q : Int) : Int := sk T B (eot T B q)
theorem w_tab : ∀ k : Fin 19, (∀ i : Fin 7, ((i.1 : Int) < wln k.1 → zSc 0 (wst k.1 + (i.1 : Int)) ≠ 32) ∧ ((i.1 : Int) = wln k.1 → zSc 0 (wst k.1 + (i.1 : Int)) = 32)) ∧ wst (k.1 + 1) = wst k.1 + wln k.1 + 1 ∧ (2 ≤ wln k.1 ∧ wln k.1 ≤ 6) ∧ (0 ≤ wst k.1 ∧ wst k.1 + wln k.1 < 88) := by decide +kernel
theorem w_len : zSl 0 = 88 := by decide +kernel
theorem w_key : ∀ j k : Fin 19, wln j.1 = wln k.1 → zSc 0 (wst j.1) = zSc 0 (wst k.1) → zSc 0 (wst j.1 + 1) = zSc 0 (wst k.1 + 1) → j = k := by decide +kernel
