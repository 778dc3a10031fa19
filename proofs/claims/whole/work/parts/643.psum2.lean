/-! A RULE READ: a sum, in both -/
/-- what waits to be joined -/
def PMl (m : Int) (c : List (Int × Int)) : Prop := (m = 0 ∧ c = []) ∨ ((13 ≤ m ∧ m ≤ 15) ∧ ∃ v, Ex c v 2)
def PAd (a : Int) (c : List (Int × Int)) : Prop := (a = 0 ∧ c = []) ∨ ((2 ≤ a ∧ a ≤ 3) ∧ ∃ v, Ex c v 3)
/-- both find the same fault -/
def Bad (T : Int) (M : ZM) (x : Option (Int × ZM)) (j : Int) (R : ZM) (y : Option ZM) : Prop := ∃ f M' R', (0 < f ∧ f ≤ 9000) ∧ (x = some (0, M') ∧ M' 2 5 = f ∧ FD M M' ∧ (0 ≤ M' 13 1 ∧ M' 13 1 ≤ 400)) ∧ (y = some R' ∧ R' 176 22 = f ∧ FG j R R' ∧ (0 ≤ R' 176 21 ∧ R' 176 21 ≤ T))
/-- both read the same sum -/
def GoodS (S Z : ZS) (T : Int) (B : Int → Int) (M : ZM) (x : Option (Int × ZM)) (j : Int) (R : ZM) (y : Option ZM) (LC LR : List (Int × Int)) (q P N : Int) : Prop := ∃ M' R' q' c v P', (x = some (1, M') ∧ CJ S M' T B q' (LC ++ c) P' ∧ FD M M') ∧ (y = some R' ∧ RJ Z R' T B q' (LR ++ c) P' j ∧ FG j R R') ∧ Ex c v 3 ∧ (q < q' ∧ sk T B q' = q') ∧ (P < P' ∧ P' ≤ 60) ∧ ln c + 1 ≤ N + 2 * (P' - P)
section
variable {S Z : ZS} {R M : ZM} {T : Int} {B : Int → Int} {p q P j : Int} {L : List (Int × Int)}
theorem PMl.next {m : Int} {c : List (Int × Int)} {t : Int × Int} {v : (Int → Int) → Int} (h : PMl m c) (ht : Ex [t] v 1) : ∃ v', Ex (c ++ [t] ++ opL m) v' 2 := by
  rcases h with ⟨rfl, rfl⟩ | ⟨hm, u, hu⟩
  · exact ⟨v, ht.mono (by decide)⟩
  · unfold opL
    rw [if_neg (by omega)]
    exact ⟨_, Ex.join hu ht (by unfold isJn; omega) (by decide)⟩
theorem PAd.next {a : Int} {c t : List (Int × Int)} {v : (Int → Int) → Int} (h : PAd a c) (ht : Ex t v 2) : ∃ v', Ex (c ++ t ++ opL a) v' 3 := by
  rcases h with ⟨rfl, rfl⟩ | ⟨hm, u, hu⟩
  · refine ⟨v, ?_⟩
    have e : ([] : List (Int × Int)) ++ t ++ opL 0 = t := by show t ++ [] = t; exact List.append_nil t
    rw [e]; exact ht.mono (by decide)
  · unfold opL
    rw [if_neg (by omega)]
    exact ⟨_, Ex.join hu ht (by unfold isJn; omega) (by decide)⟩
theorem Bad.from {M1 R1 : ZM} {x : Option (Int × ZM)} {y : Option ZM} (f : FD M M1) (g : FG j R R1) (h : Bad T M1 x j R1 y) : Bad T M x j R y := by
  obtain ⟨f0, M', R', h0, ⟨h1, h2, h3, h4⟩, ⟨h5, h6, h7, h8⟩⟩ := h
  exact ⟨f0, M', R', h0, ⟨h1, h2, f.trans h3, h4⟩, ⟨h5, h6, g.trans h7, h8⟩⟩
theorem GoodS.from {M1 R1 : ZM} {x : Option (Int × ZM)} {y : Option ZM} {LC LR : List (Int × Int)} {q1 P1 N N1 : Int} (f : FD M M1) (g : FG j R R1) (h : GoodS S Z T B M1 x j R1 y LC LR q1 P1 N1) (hq : q ≤ q1) (hP : P ≤ P1) (hN : N1 - 2 * P1 ≤ N - 2 * P) : GoodS S Z T B M x j R y LC LR q P N := by
  obtain ⟨M', R', q', c, v, P', ⟨h1, h2, h3⟩, ⟨h4, h5, h6⟩, h7, ⟨h8, h9⟩, ⟨h10, h11⟩, h12⟩ := h
  exact ⟨M', R', q', c, v, P', ⟨h1, h2, f.trans h3⟩, ⟨h4, h5, g.trans h6⟩, h7, ⟨by omega, h9⟩, ⟨by omega, h11⟩, by omega⟩
theorem vlF0 (hT : TOk T B) (hq : 0 ≤ q) (h : vlF T B q P = 0) : q < T ∧ P ≠ 60 ∧ ∃ v, Ex [vC (tk T B q)] v 1 := by
  have tb := tk_bd hT hq
  unfold vlF at h
  by_cases z : tk T B q = 304
  · rw [if_pos z] at h; omega
  rw [if_neg z] at h
  by_cases y : (256 ≤ tk T B q ∧ tk T B q < 268) ∨ 1000 ≤ tk T B q
  · rw [if_neg (fun u => u y)] at h
    by_cases x : P = 60
    · rw [if_pos x] at h; omega
    refine ⟨?_, x, ?_⟩
    · rcases Int.lt_or_le q T with u | u
      · exact u
      · rw [tk_end u] at y; omega
    · unfold vC
      by_cases u : 1000 ≤ tk T B q
      · rw [if_pos u]; exact ⟨_, Ex.num (by omega)⟩
      · rw [if_neg u]; exact ⟨_, Ex.word (by omega)⟩
  · rw [if_pos y] at h; omega
theorem kx_n {k : Int} (h : k = 0 ∨ k = 2 ∨ k = 3 ∨ k = 13 ∨ k = 14 ∨ k = 15) : kx k = -1 ↔ k = 0 := by
  rcases h with u | u | u | u | u | u <;> subst u <;> decide
theorem mK_v (c : Int) : mK c = 0 ∨ ((13 ≤ mK c ∧ mK c ≤ 15) ∧ (c = 42 ∨ c = 47 ∨ c = 37)) := by
  unfold mK
  by_cases z : c = 42
  · rw [if_pos z]; omega
  by_cases y : c = 47
  · rw [if_neg z, if_pos y]; omega
  by_cases x : c = 37
  · rw [if_neg z, if_neg y, if_pos x]; omega
  · rw [if_neg z, if_neg y, if_neg x]; omega
theorem aK_v (c : Int) : aK c = 0 ∨ ((2 ≤ aK c ∧ aK c ≤ 3) ∧ (c = 43 ∨ c = 45)) := by
  unfold aK
  by_cases z : c = 43
  · rw [if_pos z]; omega
  by_cases y : c = 45
  · rw [if_neg z, if_pos y]; omega
  · rw [if_neg z, if_neg y]; omega
theorem sk_nx : sk T B (nx T B q) = nx T B q := rn_rn (by decide)
theorem c_mulO (hT : TOk T B) (hq : 0 ≤ q) : pX5_multiplyingOrder S M (tk T B q) = some (kx (mK (bt T B q)), M) := by
  have e1 := tk_sg1 hT hq (c := 42) (by decide)
  have e2 := tk_sg1 hT hq (c := 47) (by decide)
  have e3 := tk_sg1 hT hq (c := 37) (by decide)
  unfold pX5_multiplyingOrder mK
  by_cases z : bt T B q = 42
  · have t := e1.2 z
    rw [t, if_pos z]; rfl
  by_cases y : bt T B q = 47
  · have t := e2.2 y
    rw [t, if_neg z, if_pos y]; rfl
  by_cases x : bt T B q = 37
  · have t := e3.2 x
    rw [t, if_neg z, if_neg y, if_pos x]; rfl
  · rw [if_neg (fun u => x (e3.1 u)), if_neg (fun u => z (e1.1 u)), if_neg (fun u => y (e2.1 u)), if_neg z, if_neg y, if_neg x]; rfl
theorem c_addO (hT : TOk T B) (hq : 0 ≤ q) : pX5_addingOrder S M (tk T B q) = some (kx (aK (bt T B q)), M) := by
  have e1 := tk_sg1 hT hq (c := 43) (by decide)
  have e2 := tk_sg1 hT hq (c := 45) (by decide)
  unfold pX5_addingOrder aK
  by_cases z : bt T B q = 43
  · have t := e1.2 z
    rw [t, if_pos z]; rfl
  by_cases y : bt T B q = 45
  · have t := e2.2 y
    rw [t, if_neg z, if_pos y]; rfl
  · rw [if_neg (fun u => z (e1.1 u)), if_neg (fun u => y (e2.1 u)), if_neg z, if_neg y]; rfl
theorem c_s36M (hT : TOk T B) (h : CJ S M T B q L P) (hk : mK (bt T B q) ≠ 0) (k7 : ZM → Int → Int → Int → Int → Int → Option (Int × ZM)) (a i : Int) : pX5_takeSum_36 S k7 M 13 2 (kx a) i = (pX8_advance S M 2).bind fun M1 => k7 M1 13 2 (kx (mK (bt T B q))) (kx a) (w32 (i + 1)) := by
  have hq := h.1.2.2.1
  have hv := mK_v (bt T B q)
  have n1 : ¬ kx (mK (bt T B q)) = -1 := fun u => hk ((kx_n (by omega)).1 u)
  simp only [pX5_takeSum_36, pX5_takeSum_75, h.1.1.1.o, if_true, c_token h.1, Option.bind_some, c_mulO hT hq.1, if_neg n1]
theorem c_s36N (hT : TOk T B) (h : CJ S M T B q L P) (hk : mK (bt T B q) = 0) (k7 : ZM → Int → Int → Int → Int → Int → Option (Int × ZM)) {a i : Int} (ha : a = 0 ∨ a = 2 ∨ a = 3) : pX5_takeSum_36 S k7 M 13 2 (kx a) i = (opC S a M).bind fun M1 => pX5_takeSum_60 S k7 M1 13 2 (-1) i := by
  have hq := h.1.2.2.1
  have n0 : kx (mK (bt T B q)) = -1 := by rw [hk]; rfl
  unfold opC
  by_cases z : a = 0
  · have n1 : kx a = -1 := (kx_n (by omega)).2 z
    rw [if_pos z]
    simp only [pX5_takeSum_36, h.1.1.1.o, if_true, c_token h.1, Option.bind_some, c_mulO hT hq.1, n0, n1]
  · have n1 : ¬ kx a = -1 := fun u => z ((kx_n (by omega)).1 u)
    have n2 : kx a = kc a := if_neg z
    rw [if_neg z]
    rw [n2] at n1 ⊢
    simp only [pX5_takeSum_36, h.1.1.1.o, if_true, c_token h.1, Option.bind_some, c_mulO hT hq.1, n0, if_neg n1]
theorem c_s60A (hT : TOk T B) (h : CJ S M T B q L P) (hk : aK (bt T B q) ≠ 0) (k7 : ZM → Int → Int → Int → Int → Int → Option (Int × ZM)) (i : Int) : pX5_takeSum_60 S k7 M 13 2 (-1) i = (pX8_advance S M 2).bind fun M1 => k7 M1 13 2 (-1) (kx (aK (bt T B q))) (w32 (i + 1)) := by
  have hq := h.1.2.2.1
  have hv := aK_v (bt T B q)
  have n1 : ¬ kx (aK (bt T B q)) = -1 := fun u => hk ((kx_n (by omega)).1 u)
  simp only [pX5_takeSum_60, pX5_takeSum_75, h.1.1.1.o, if_true, c_token h.1, Option.bind_some, c_addO hT hq.1, if_neg n1]
theorem c_s60N (hT : TOk T B) (h : CJ S M T B q L P) (hk : aK (bt T B q) = 0) (k7 : ZM → Int → Int → Int → Int → Int → Option (Int × ZM)) (i : Int) : pX5_takeSum_60 S k7 M 13 2 (-1) i = some (1, M) := by
  have hq := h.1.2.2.1
  have n0 : kx (aK (bt T B q)) = -1 := by rw [hk]; rfl
  simp only [pX5_takeSum_60, h.1.1.1.o, if_true, c_token h.1, Option.bind_some, c_addO hT hq.1, n0]
theorem vlF_b (hq : 0 ≤ q ∧ q ≤ 400) (hz : vlF T B q P ≠ 0) : 0 < vlF T B q P ∧ vlF T B q P ≤ 9000 := by
  revert hz
  unfold vlF
  split
  · intro _; omega
  · split
    · intro _; omega
    · split
      · intro _; omega
      · intro u; exact absurd rfl u
theorem p_sumB (hT : TOk T B) {KC KR : List (Int × Int)} (hc : CJ S M T B q KC P) (hr : RJ Z R T B p KR P j) (hq : q = sk T B p) (hl1 : ln KC < 400) (hl2 : ln KR < 300) (hP : 0 ≤ P ∧ P ≤ 60) {i x2 x3 : Int} (hi : i < 400) (hz : vlF T B q P ≠ 0) (m a : Int) (F F1 F2 : Nat) : Bad T M (pX5_takeSum_7 S (F + 1) M 13 2 x2 x3 i) j R (rVal Z m a (F1 + 1) (F2 + 1) R) := by
  obtain ⟨M1, a1, a2, a3, a4⟩ := (c_value hT hc hl1 hP).1 hz
  obtain ⟨R1, b1, b2, b3, b4⟩ := (r_value hT hr hq hl2 hP).1 hz
  obtain ⟨R2, d1, d2, d3⟩ := r_aftF hr.1.1 (hr.1.2.1.fg b3) hT (hr.1.2.2.1.fg b3) b4 (by rw [b2]; exact hz) m a F1 F2
  refine ⟨vlF T B q P, M1, R2, vlF_b (by have := hT.1; have := hc.1.2.2.1; omega) hz, ⟨?_, a2, a3, ?_⟩, ⟨?_, by rw [d2.2 22 (by decide) (by decide)]; exact b2, b3.trans (FG.z d2), d3⟩⟩
  · simp only [pX5_takeSum_7, show ¬ 400 ≤ i by omega, if_false, hc.1.1.1.o, if_true, a1, Option.bind_some]
  · rw [a4, hc.2.1.1]
    have := ln_nn KC
    unfold ln at *
    omega
  · rw [rVal, b1]; exact d1
theorem p_sumL (hT : TOk T B) : ∀ (n F F1 F2 : Nat) (M R : ZM) (p q m a P i : Int) (cA cM LC LR : List (Int × Int)), T - q ≤ n → n < F → n < F1 → n < F2 → n < 4000 → CJ S M T B q (LC ++ (cA ++ cM)) P → RJ Z R T B p (LR ++ (cA ++ cM)) P j → q = sk T B p → PMl m cM → PAd a cA → (0 ≤ P ∧ P ≤ 60) → ln LR + ln cA + ln cM + opN m + opN a + 2 * (60 - P) ≤ 290 → ln LC ≤ ln LR + 12 → (0 ≤ i ∧ i + 1 ≤ q) → Bad T M (pX5_takeSum_7 S F M 13 2 (kx m) (kx a) i) j R (rVal Z m a F1 F2 R) ∨ GoodS S Z T B M (pX5_takeSum_7 S F M 13 2 (kx m) (kx a) i) j R (rVal Z m a F1 F2 R) LC LR q P (ln cA + ln cM + opN m + opN a) := by
  have hb := hT.1
  intro n
  induction n with
  | zero =>
    intro F F1 F2 M R p q m a P i cA cM LC LR hn hF hF1 hF2 hn4 hc hr hq hm ha hP hL hLC hi
    obtain ⟨F, rfl⟩ : ∃ f, F = f + 1 := ⟨F - 1, by omega⟩
    obtain ⟨F1, rfl⟩ : ∃ f, F1 = f + 1 := ⟨F1 - 1, by omega⟩
    obtain ⟨F2, rfl⟩ : ∃ f, F2 = f + 1 := ⟨F2 - 1, by omega⟩
    have hqT := hc.1.2.2.1
    have o1 := opN_b m
    have o2 := opN_b a
    have l1 : ln (LC ++ (cA ++ cM)) < 400 := by rw [ln_app, ln_app]; omega
    have l2 : ln (LR ++ (cA ++ cM)) < 300 := by rw [ln_app, ln_app]; omega
    by_cases z : vlF T B q P = 0
    · have := (vlF0 hT hqT.1 z).1; exact absurd this (by omega)
    · exact Or.inl (p_sumB hT hc hr hq l1 l2 hP (by omega) z m a F F1 F2)
  | succ n ih =>
    intro F F1 F2 M R p q m a P i cA cM LC LR hn hF hF1 hF2 hn4 hc hr hq hm ha hP hL hLC hi
    obtain ⟨F, rfl⟩ : ∃ f, F = f + 1 := ⟨F - 1, by omega⟩
    obtain ⟨F1, rfl⟩ : ∃ f, F1 = f + 1 := ⟨F1 - 1, by omega⟩
    obtain ⟨F2, rfl⟩ : ∃ f, F2 = f + 1 := ⟨F2 - 1, by omega⟩
    have hqT := hc.1.2.2.1
    have o1 := opN_b m
    have o2 := opN_b a
    have nLC := ln_nn LC
    have l1 : ln (LC ++ (cA ++ cM)) < 399 := by rw [ln_app, ln_app]; omega
    have l2 : ln (LR ++ (cA ++ cM)) < 299 := by rw [ln_app, ln_app]; omega
    by_cases z : vlF T B q P ≠ 0
    · exact Or.inl (p_sumB hT hc hr hq (by omega) (by omega) hP (by omega) z m a F F1 F2)
    replace z := Classical.not_not.1 z
    obtain ⟨z1, z2, v, z3⟩ := vlF0 hT hqT.1 z
    have hP' : P < 60 := by omega
    obtain ⟨v2, hE2⟩ := hm.next z3
    have ht := tk_bd hT hqT.1
    obtain ⟨M1, a1, a2, a3⟩ := (c_value hT hc (by unfold ln at l1; omega) hP).2 z
    obtain ⟨R1, b1, b2, b3⟩ := (r_value hT hr hq (by unfold ln at l2; omega) hP).2 z
    generalize vC (tk T B q) = t at *
    have l1' : ln (LC ++ (cA ++ cM) ++ [t]) < 400 := by rw [ln_app, ln_one]; omega
    have l2' : ln (LR ++ (cA ++ cM) ++ [t]) < 300 := by rw [ln_app, ln_one]; omega
    obtain ⟨M2, c1, c2, c3⟩ := p_opC a2 l1' m
    obtain ⟨R2, d1, d2, d3⟩ := p_opR b2 l2' m
    have eL : ∀ X : List (Int × Int), X ++ (cA ++ cM) ++ [t] ++ opL m = X ++ (cA ++ (cM ++ [t] ++ opL m)) := fun X => by simp only [List.append_assoc]
    rw [eL] at c2 d2
    have lM : ln (cM ++ [t] ++ opL m) = ln cM + 1 + opN m := by rw [ln_app, ln_app, ln_one, opL_ln]
    generalize cM ++ [t] ++ opL m = cM' at *
    obtain ⟨e1, e2⟩ := d2.sk hT
    have he := eot_b (B := B) (p := q) ⟨hqT.1, z1⟩
    have hs := sk_b (B := B) he.2
    have e3 : sk T B (eot T B q) = nx T B q := rfl
    rw [e3] at e1 e2 hs
    have hsk : sk T B (nx T B q) = nx T B q := sk_nx
    have g3 : FG j R2 (upM R2 176 21 (nx T B q)) := FG.fp FP.p
    generalize upM R2 176 21 (nx T B q) = R3 at *
    generalize nx T B q = q' at *
    have hmk : m = 0 ∨ m = 2 ∨ m = 3 ∨ m = 13 ∨ m = 14 ∨ m = 15 := by rcases hm with u | u <;> omega
    have hak : a = 0 ∨ a = 2 ∨ a = 3 := by rcases ha with u | u <;> omega
    have fD : FD M M2 := a3.trans c3
    have fG : FG j R R3 := (b3.trans d3).trans g3
    have xc : pX5_takeSum_7 S (F + 1) M 13 2 (kx m) (kx a) i = pX5_takeSum_36 S (pX5_takeSum_7 S F) M2 13 2 (kx a) i := by
      unfold opC at c1
      by_cases y : m = 0
      · rw [if_pos y] at c1
        have n1 : kx m = -1 := (kx_n hmk).2 y
        have em : M1 = M2 := Option.some.inj c1
        simp only [pX5_takeSum_7, show ¬ 400 ≤ i by omega, if_false, hc.1.1.1.o, if_true, a1, Option.bind_some, show ¬ (1 : Int) = 0 by decide, n1, em]
      · rw [if_neg y] at c1
        have n1 : ¬ kx m = -1 := fun u => y ((kx_n hmk).1 u)
        have n2 : kx m = kc m := if_neg y
        rw [n2] at n1 ⊢
        simp only [pX5_takeSum_7, show ¬ 400 ≤ i by omega, if_false, hc.1.1.1.o, if_true, a1, Option.bind_some, show ¬ (1 : Int) = 0 by decide, if_neg n1, c1]
    have xr : rVal Z m a (F1 + 1) (F2 + 1) R = rTail Z a (F1 + 1) (F2 + 1) R3 := by
      simp only [rVal, b1, d1, e1, Option.bind_some]
    rw [xc, xr]
    have w1 : w32 (i + 1) = i + 1 := w32_i (by omega) (by omega)
    have hq' := c2.1.2.2.1
    have lC : ln (LC ++ (cA ++ cM')) < 400 := by rw [ln_app, ln_app]; omega
    have lR : ln (LR ++ (cA ++ cM')) < 300 := by rw [ln_app, ln_app]; omega
    by_cases y : mK (bt T B q') ≠ 0
    · -- a multiplying sign
      have hv := mK_v (bt T B q')
      obtain ⟨s1, s2⟩ := eot_sg1 (T := T) (B := B) (q := q') (c := bt T B q') (by unfold isDg; omega) rfl
      obtain ⟨M3, f1, f2, f3⟩ := c_advance hT c2.1 s2.2
      have c3' := c2.fc f2 f3
      have ea : nx T B q' = sk T B (q' + 1) := by unfold nx; rw [s1]
      have hs2 := sk_b (T := T) (B := B) (p := q' + 1) (by omega)
      rw [c_s36M hT c2 y, r_tailM hT e2 y, f1, Option.bind_some, w1]
      have r4 := e2.at (v := q' + 1) (by omega)
      have g4 : FG j R3 (upM R3 176 21 (q' + 1)) := FG.fp FP.p
      generalize upM R3 176 21 (q' + 1) = R4 at *
      have oK : opN (mK (bt T B q')) = 1 := if_neg y
      have IH := ih F F1 (F2 + 1) M3 R4 (q' + 1) (nx T B q') (mK (bt T B q')) a (P + 1) (i + 1) cA cM' LC LR (by omega) (by omega) (by omega) (by omega) (by omega) c3' r4 ea (Or.inr ⟨by omega, v2, hE2⟩) ha (by omega) (by omega) hLC (by omega)
      rcases IH with u | u
      · exact Or.inl (u.from (fD.trans (FD.c f3)) (fG.trans g4))
      · exact Or.inr (u.from (fD.trans (FD.c f3)) (fG.trans g4) (by omega) (by omega) (by omega))
    · replace y := Classical.not_not.1 y
      rw [c_s36N hT c2 y (pX5_takeSum_7 S F) hak, r_tailN hT e2 y]
      obtain ⟨M3, f1, f2, f3⟩ := p_opC c2 lC a
      obtain ⟨R4, g1, g2, g4⟩ := p_opR e2 lR a
      have eL' : ∀ X : List (Int × Int), X ++ (cA ++ cM') ++ opL a = X ++ (cA ++ cM' ++ opL a) := fun X => by simp only [List.append_assoc]
      rw [eL'] at f2 g2
      rw [f1, g1, Option.bind_some, Option.bind_some]
      obtain ⟨v3, hE3⟩ := ha.next hE2
      have lA : ln (cA ++ cM' ++ opL a) = ln cA + ln cM' + opN a := by rw [ln_app, ln_app, opL_ln]
      generalize cA ++ cM' ++ opL a = cA' at *
      by_cases x : aK (bt T B q') ≠ 0
      · -- an adding sign
        have hv := aK_v (bt T B q')
        obtain ⟨s1, s2⟩ := eot_sg1 (T := T) (B := B) (q := q') (c := bt T B q') (by unfold isDg; omega) rfl
        obtain ⟨M4, k1, k2, k3⟩ := c_advance hT f2.1 s2.2
        have c4' := f2.fc k2 k3
        have ea : nx T B q' = sk T B (q' + 1) := by unfold nx; rw [s1]
        have hs2 := sk_b (T := T) (B := B) (p := q' + 1) (by omega)
        rw [c_s60A hT f2 x, r_sumA hT g2 x, k1, Option.bind_some, w1]
        have r5 := g2.at (v := q' + 1) (by omega)
        have g5 : FG j R4 (upM R4 176 21 (q' + 1)) := FG.fp FP.p
        generalize upM R4 176 21 (q' + 1) = R5 at *
        have oK : opN (aK (bt T B q')) = 1 := if_neg x
        have o0 : opN 0 = 0 := rfl
        have n0 : ln [] = 0 := rfl
        have IH := ih F zFU F2 M4 R5 (q' + 1) (nx T B q') 0 (aK (bt T B q')) (P + 1) (i + 1) cA' [] LC LR (by omega) (by omega) (zFU_gt (by omega)) (by omega) (by omega) (by rw [List.append_nil]; exact c4') (by rw [List.append_nil]; exact r5) ea (Or.inl ⟨rfl, rfl⟩) (Or.inr ⟨by omega, v3, hE3⟩) (by omega) (by omega) hLC (by omega)
        rcases IH with u | u
        · exact Or.inl (u.from ((fD.trans f3).trans (FD.c k3)) ((fG.trans g4).trans g5))
        · exact Or.inr (u.from ((fD.trans f3).trans (FD.c k3)) ((fG.trans g4).trans g5) (by omega) (by omega) (by omega))
      · replace x := Classical.not_not.1 x
        rw [c_s60N hT f2 x, r_sumN hT g2 x]
        exact Or.inr ⟨M3, R4, q', cA', v3, P + 1, ⟨rfl, f2, fD.trans f3⟩, ⟨rfl, g2, fG.trans g4⟩, hE3, ⟨by omega, hsk⟩, ⟨by omega, by omega⟩, by omega⟩
/-- a sum, in both -/
theorem p_sum (hT : TOk T B) {LC LR : List (Int × Int)} (hc : CJ S M T B q LC P) (hr : RJ Z R T B p LR P j) (hq : q = sk T B p) (hP : 0 ≤ P ∧ P ≤ 60) (hL : ln LR + 2 * (60 - P) ≤ 290) (hLC : ln LC ≤ ln LR + 12) (h1 : 1 ≤ q) : Bad T M (pX5_takeSum S M 13 2) j R (pX12_sum Z R 176) ∨ GoodS S Z T B M (pX5_takeSum S M 13 2) j R (pX12_sum Z R 176) LC LR q P 0 := by
  have hb := hT.1
  have hqT := hc.1.2.2.1
  have o0 : opN 0 = 0 := rfl
  have n0 : ln [] = 0 := rfl
  rw [r_sumV hr.1.1]
  exact p_sumL hT (T - q).toNat zFU zFU zFU M R p q 0 0 P 0 [] [] LC LR (by omega) (zFU_gt (by omega)) (zFU_gt (by omega)) (zFU_gt (by omega)) (by omega) (by show CJ S M T B q (LC ++ []) P; rw [List.append_nil]; exact hc) (by show RJ Z R T B p (LR ++ []) P j; rw [List.append_nil]; exact hr) hq (Or.inl ⟨rfl, rfl⟩) (Or.inl ⟨rfl, rfl⟩) hP (by omega) hLC (by omega)
end
