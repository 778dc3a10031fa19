/-! A NUMBER READ: both -/
/-- a number at a place: its fault, its value, the place behind -/
noncomputable def rdN (T : Int) (B : Int → Int) (q lo hi : Int) : Int × Int × Int := if tk T B q = 304 then (1 + 8 * q + 1, 0, q) else if tk T B q < 1000 then (1 + 8 * q + 0, 0, q) else if lo ≤ tk T B q - 1000 ∧ tk T B q - 1000 ≤ hi then (0, tk T B q - 1000, nx T B q) else (1 + 8 * q + 1, 0, q)
/-- the class reads at q, and there is no fault yet -/
def CP (S : ZS) (M : ZM) (T : Int) (B : Int → Int) (q : Int) : Prop := NW S M ∧ CTp M T B ∧ (0 ≤ q ∧ q ≤ T) ∧ M 2 5 = 0 ∧ ∃ n i, Cut T B M n ∧ (0 ≤ i ∧ i ≤ n) ∧ M 2 4 = i ∧ M 5 i = q
/-- the reference reads at p, and there is no fault yet -/
def RP (S : ZS) (M : ZM) (T : Int) (B : Int → Int) (p : Int) : Prop := ShW S ∧ PtW M ∧ RTp M T B ∧ (0 ≤ p ∧ p ≤ T) ∧ M 176 22 = 0 ∧ M 176 21 = p
def FC (M M' : ZM) : Prop := (∀ x, x ≠ 2 → M' x = M x) ∧ ∀ j, j ≠ 4 → j ≠ 5 → M' 2 j = M 2 j
section
variable {S : ZS} {M : ZM} {T : Int} {B : Int → Int} {q : Int}
theorem FC.refl (M : ZM) : FC M M := ⟨fun _ _ => rfl, fun _ _ _ => rfl⟩
theorem FC.trans {M M' M'' : ZM} (h : FC M M') (h' : FC M' M'') : FC M M'' := ⟨fun x a => (h'.1 x a).trans (h.1 x a), fun j a b => (h'.2 j a b).trans (h.2 j a b)⟩
theorem FC.u4 {v : Int} : FC M (upM M 2 4 v) := ⟨fun x a => upM_r a, fun j a _ => upM_i a⟩
theorem FC.u5 {v : Int} : FC M (upM M 2 5 v) := ⟨fun x a => upM_r a, fun j _ a => upM_i a⟩
theorem NW.fc {M' : ZM} (h : NW S M) (f : FC M M') : NW S M' := h.q (fun x j y => by
  unfold pkN at y
  by_cases z : x = 2
  · subst z; exact f.2 j (by omega) (by omega)
  · rw [f.1 x z])
theorem CTp.fc {M' : ZM} (h : CTp M T B) (f : FC M M') : CTp M' T B := ⟨by rw [f.2 1 (by decide) (by decide)]; exact h.1, by rw [f.1 3 (by decide)]; exact h.2⟩
theorem Cut.fc {M' : ZM} {n : Int} (h : Cut T B M n) (f : FC M M') : Cut T B M' n := by
  unfold Cut at *
  rw [f.1 4 (by decide), f.1 5 (by decide)]; exact h
theorem tk303 (hT : TOk T B) (hq : 0 ≤ q ∧ q < T) : tk T B q ≠ 303 := by
  by_cases z1 : isDg (bt T B q)
  · rw [tk_dg z1]; have := num_b z1; omega
  by_cases z2 : isLt (bt T B q)
  · rw [tk_lt z2]; have := wdF_b (T := T) (B := B) (q := q) (e := rn T B 97 122 q) 19 0 (by decide); unfold wd; omega
  · rw [tk_sg hq z1 z2]
    have hb := bt_b (p := q) hT
    by_cases y : eot T B q - q = 2
    · rw [if_pos y]
      by_cases x : bt T B q = 60
      · rw [if_pos x]; decide
      · rw [if_neg x]; decide
    · rw [if_neg y]; omega
theorem c_token (h : CP S M T B q) : pX8_token S M 2 = some (tk T B q, M) := by
  obtain ⟨h1, h2, h3, h4, n, i, hc, hi, e4, e5⟩ := h
  have hn := hc.1
  have et : M 4 i = tk T B q := by
    by_cases z : i = n
    · rw [z, hc.2.2.2.1, tk_end (by rw [← e5, z, hc.2.2.2.2]; exact Int.le_refl _)]
    · rw [(hc.2.2.1 i hi.1 (by omega)).2.1, e5]
  simp only [pX8_token, pX8_token_32, h1.1.o, h1.2.o, if_true, e4, show ¬ i < 0 by omega, show ¬ 400 < i by omega, if_false, hi.1, show i < 401 by omega, and_self, et]
theorem cp_adv (h : CP S M T B q) (hq : q < T) : ∃ i, M 2 4 = i ∧ w32 (i + 1) = i + 1 ∧ CP S (upM M 2 4 (i + 1)) T B (nx T B q) := by
  obtain ⟨h1, h2, h3, h4, n, i, hc, hi, e4, e5⟩ := h
  have hn := hc.1
  have hin : i < n := by
    have : i ≠ n := fun z => by rw [z, hc.2.2.2.2] at e5; omega
    omega
  have he := eot_b (T := T) (B := B) (p := q) (by omega)
  have hs := sk_b (T := T) (B := B) (p := eot T B q) he.2
  refine ⟨i, e4, w32_i (by omega) (by omega), h1.fc FC.u4, h2.fc FC.u4, ?_, by rw [upM_i (by decide)]; exact h4, n, i + 1, hc.fc FC.u4, by omega, upM_s _ _ _ _, ?_⟩
  · unfold nx; omega
  · rw [upM_r (by decide), (hc.2.2.1 i hi.1 hin).2.2, e5]
theorem c_advance (hT : TOk T B) (h : CP S M T B q) (hq : q < T) : ∃ M', pX8_advance S M 2 = some M' ∧ CP S M' T B (nx T B q) ∧ FC M M' := by
  obtain ⟨i, e4, w1, hc⟩ := cp_adv h hq
  have t := tk303 hT ⟨h.2.2.1.1, hq⟩
  obtain ⟨n, i', hcu, hi, e4', e5⟩ := h.2.2.2.2
  have hn := hcu.1
  have ei : i' = i := e4'.symm.trans e4
  subst ei
  have hin : i' < n := by
    have : i' ≠ n := fun z => by rw [z, hcu.2.2.2.2] at e5; omega
    omega
  have et : M 4 i' = tk T B q := by rw [(hcu.2.2.1 i' hi.1 hin).2.1, e5]
  refine ⟨_, ?_, hc, FC.u4⟩
  simp only [pX8_advance, pX8_advance_42, h.1.1.o, h.1.2.o, if_true, e4, show ¬ i' < 0 by omega, show ¬ 400 ≤ i' by omega, if_false, hi.1, show i' < 401 by omega, and_self, et, if_neg t, w1, zlet]
theorem c_fail (hT : TOk T B) (h : CP S M T B q) {k : Int} (hk : 0 ≤ k ∧ k ≤ 10) : pX8_fail S M 2 k = some (0, upM M 2 5 (1 + 8 * q + k)) := by
  have hb := hT.1
  obtain ⟨h1, h2, h3, h4, n, i, hc, hi, e4, e5⟩ := h
  have hn := hc.1
  have w1 : w32 (8 * q) = 8 * q := w32_i (by omega) (by omega)
  have w2 : w32 (1 + 8 * q) = 1 + 8 * q := w32_i (by omega) (by omega)
  have w3 : w32 (1 + 8 * q + k) = 1 + 8 * q + k := w32_i (by omega) (by omega)
  simp only [pX8_fail, pX8_fail_44, h1.1.o, h1.2.o, if_true, h4, e4, show ¬ i < 0 by omega, show ¬ 400 < i by omega, if_false, hi.1, show i < 401 by omega, and_self, e5, w1, w2, w3, zlet]
theorem c_number (hT : TOk T B) (h : CP S M T B q) {lo hi : Int} (hl : 0 ≤ lo) : ((rdN T B q lo hi).1 ≠ 0 → ∃ M', pX8_takeNumber S M 2 lo hi = some (-1, M') ∧ M' 2 5 = (rdN T B q lo hi).1 ∧ FC M M') ∧ ((rdN T B q lo hi).1 = 0 → (lo ≤ (rdN T B q lo hi).2.1 ∧ (rdN T B q lo hi).2.1 ≤ hi) ∧ ∃ M', pX8_takeNumber S M 2 lo hi = some ((rdN T B q lo hi).2.1, M') ∧ CP S M' T B (rdN T B q lo hi).2.2 ∧ FC M M') := by
  have hb := hT.1
  have hq := h.2.2.1
  have f0 := c_fail hT h (k := 0) (by decide)
  have f1 := c_fail hT h (k := 1) (by decide)
  have e53 : pX8_takeNumber_53 S M 2 = some (-1, upM M 2 5 (1 + 8 * q + 1)) := by
    simp only [pX8_takeNumber_53, h.1.1.o, if_true, f1, Option.bind_some]
  unfold rdN
  by_cases z : tk T B q = 304
  · rw [if_pos z]
    refine ⟨fun _ => ⟨upM M 2 5 (1 + 8 * q + 1), ?_, upM_s _ _ _ _, FC.u5⟩, fun u => by have u' : 1 + 8 * q + 1 = 0 := u; omega⟩
    simp only [pX8_takeNumber, pX8_takeNumber_27, h.1.1.o, if_true, c_token h, Option.bind_some, z, e53]
  rw [if_neg z]
  by_cases z1 : tk T B q < 1000
  · rw [if_pos z1]
    refine ⟨fun _ => ⟨upM M 2 5 (1 + 8 * q + 0), ?_, upM_s _ _ _ _, FC.u5⟩, fun u => by have u' : 1 + 8 * q + 0 = 0 := u; omega⟩
    simp only [pX8_takeNumber, h.1.1.o, if_true, c_token h, Option.bind_some, if_neg z, show ¬ 1000 ≤ tk T B q by omega, if_false, f0]
  rw [if_neg z1]
  have hqT : q < T := by
    rcases Int.lt_or_le q T with u | u
    · exact u
    · rw [tk_end u] at z1; omega
  have hd : isDg (bt T B q) := by
    by_cases z2 : isDg (bt T B q)
    · exact z2
    by_cases z3 : isLt (bt T B q)
    · rw [tk_lt z3] at z1; have := wdF_b (T := T) (B := B) (q := q) (e := rn T B 97 122 q) 19 0 (by decide); unfold wd at z1; omega
    · rw [tk_sg ⟨hq.1, hqT⟩ z2 z3] at z1
      have hb := bt_b (p := q) hT
      by_cases y : eot T B q - q = 2
      · rw [if_pos y] at z1
        by_cases x : bt T B q = 60
        · rw [if_pos x] at z1; omega
        · rw [if_neg x] at z1; omega
      · rw [if_neg y] at z1; omega
  have hnb := num_b hd
  rw [← tk_dg hd] at hnb
  have w1 : w32 (tk T B q - 1000) = tk T B q - 1000 := w32_i (by omega) (by omega)
  have e27 : pX8_takeNumber S M 2 lo hi = pX8_takeNumber_27 S M 2 lo hi (tk T B q) := by
    simp only [pX8_takeNumber, h.1.1.o, if_true, c_token h, Option.bind_some, if_neg z, show 1000 ≤ tk T B q by omega]
  by_cases z2 : lo ≤ tk T B q - 1000 ∧ tk T B q - 1000 ≤ hi
  · rw [if_pos z2]
    obtain ⟨i, e4, w2, hc⟩ := cp_adv h hqT
    refine ⟨fun u => absurd rfl u, fun _ => ⟨z2, upM M 2 4 (i + 1), ?_, hc, FC.u4⟩⟩
    rw [e27]
    simp only [pX8_takeNumber_27, if_neg z, w1, show ¬ tk T B q - 1000 < lo by omega, if_false, z2.2, if_true, h.1.1.o, e4, w2, zlet]
  · rw [if_neg z2]
    refine ⟨fun _ => ⟨upM M 2 5 (1 + 8 * q + 1), ?_, upM_s _ _ _ _, FC.u5⟩, fun u => by have u' : 1 + 8 * q + 1 = 0 := u; omega⟩
    rw [e27]
    by_cases y : tk T B q - 1000 < lo
    · simp only [pX8_takeNumber_27, if_neg z, w1, if_pos y, e53]
    · simp only [pX8_takeNumber_27, if_neg z, w1, if_neg y, show ¬ tk T B q - 1000 ≤ hi by omega, if_false, e53]
end
