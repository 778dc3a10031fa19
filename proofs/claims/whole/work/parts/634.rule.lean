/-! RULES: what they come to, in both -/
/-- the clauses of a rule in the reference's rows -/
def RCl (R : ZM) (j : Int) : Int → Int → List Cl → Prop
  | _, _, [] => True
  | n, k, c :: cs => (R 200 (12 * j + n) = k ∧ R 201 (12 * j + n) = k + (c.1.length : Int) ∧ R 202 (12 * j + n) = k + (c.1.length : Int) + (c.2.length : Int)) ∧ (SgR (R 197) (R 198) (300 * j + k) c.1 ∧ SgR (R 197) (R 198) (300 * j + (k + (c.1.length : Int))) c.2) ∧ RCl R j (n + 1) (k + (c.1.length : Int) + (c.2.length : Int)) cs
/-- how many entries clauses have in the reference -/
def lnR : List Cl → Int
  | [] => 0
  | c :: cs => (c.1.length : Int) + (c.2.length : Int) + lnR cs
theorem lnR_nn : ∀ cl : List Cl, 0 ≤ lnR cl := by
  intro cl
  induction cl with
  | nil => exact Int.le_refl _
  | cons c cs ih => show 0 ≤ (c.1.length : Int) + (c.2.length : Int) + lnR cs; omega
theorem RCl.eq {R R' : ZM} {j : Int} (hj : 0 ≤ j) : ∀ (cl : List Cl) (n k : Int), RCl R j n k cl → 0 ≤ n → 0 ≤ k → n + (cl.length : Int) ≤ 12 → k + lnR cl ≤ 300 → (∀ i, 12 * j ≤ i → i < 12 * j + 12 → R' 200 i = R 200 i ∧ R' 201 i = R 201 i ∧ R' 202 i = R 202 i) → (∀ i, 300 * j ≤ i → i < 300 * j + 300 → R' 197 i = R 197 i ∧ R' 198 i = R 198 i) → RCl R' j n k cl := by
  intro cl
  induction cl with
  | nil => intro n k _ _ _ _ _ _ _; trivial
  | cons c cs ih =>
    intro n k h hn hk hn2 hk2 e1 e2
    have hk3 : k + ((c.1.length : Int) + (c.2.length : Int) + lnR cs) ≤ 300 := hk2
    have nn := lnR_nn cs
    simp only [List.length_cons] at hn2
    obtain ⟨⟨h1, h2, h3⟩, ⟨h4, h5⟩, h6⟩ := h
    obtain ⟨x1, x2, x3⟩ := e1 (12 * j + n) (by omega) (by omega)
    refine ⟨⟨x1.trans h1, x2.trans h2, x3.trans h3⟩, ⟨SgR.eq c.1 _ h4 (fun i a b => e2 i (by omega) (by omega)), SgR.eq c.2 _ h5 (fun i a b => e2 i (by omega) (by omega))⟩, ih (n + 1) _ h6 (by omega) (by omega) (by omega) (by omega) e1 e2⟩
section
variable {S : ZS} {M : ZM} {w : Int → Int}
theorem zcmp1 {b : Int} : zcmp b 1 = 0 ↔ b = 1 := by
  unfold zcmp
  by_cases h : b < 1
  · rw [if_pos h]; omega
  · rw [if_neg h]
    by_cases h' : b = 1
    · rw [if_pos h']; exact ⟨fun _ => h', fun _ => rfl⟩
    · rw [if_neg h']; exact ⟨fun u => by omega, fun u => absurd u h'⟩
theorem r_wanted13 (hS : ShR S) {j : Int} (hj : 0 ≤ j ∧ j < 6) : ∀ (cl : List Cl) (fuel : Nat) (M : ZM) (n k : Int), PtR M → (∀ i, 0 ≤ i → i < 12 → M 204 i = w i) → RCl M j n k cl → (∀ c, c ∈ cl → ClOk c) → M 199 j = n + (cl.length : Int) → 0 ≤ n → n + (cl.length : Int) ≤ 12 → 0 ≤ k → k + lnR cl ≤ 300 → cl.length < fuel → ∃ M', pX12_wanted_13 S fuel M 176 j (12 * j + n) = some (rvF cl w, M') ∧ ∀ x, x ≠ 205 → M' x = M x := by
  intro cl
  induction cl with
  | nil =>
    intro fuel M n k hM h4 hR hok h9 hn hn2 hk hk2 hf
    obtain ⟨f, rfl⟩ : ∃ f, fuel = f + 1 := ⟨fuel - 1, by omega⟩
    simp only [List.length_nil, Int.ofNat_zero, Int.add_zero] at h9 hn2
    have w1 : w32 (12 * j) = 12 * j := w32_i (by omega) (by omega)
    have w2 : w32 (12 * j + n) = 12 * j + n := w32_i (by omega) (by omega)
    refine ⟨M, ?_, fun _ _ => rfl⟩
    simp only [pX12_wanted_13, hS, hM, if_true, hj, and_self, h9, w1, w2, Int.le_refl, rvF]
  | cons c cs ih =>
    intro fuel M n k hM h4 hR hok h9 hn hn2 hk hk2 hf
    obtain ⟨f, rfl⟩ : ∃ f, fuel = f + 1 := ⟨fuel - 1, by omega⟩
    have hk3 : k + ((c.1.length : Int) + (c.2.length : Int) + lnR cs) ≤ 300 := hk2
    have nn := lnR_nn cs
    simp only [List.length_cons] at h9 hn2 hf
    obtain ⟨⟨h1, h2, h3⟩, ⟨s1, s2⟩, h6⟩ := hR
    obtain ⟨⟨v, hv⟩, hu⟩ := hok c (List.mem_cons_self ..)
    have w1 : w32 (12 * j) = 12 * j := w32_i (by omega) (by omega)
    have w2 : w32 (12 * j + M 199 j) = 12 * j + M 199 j := w32_i (by omega) (by omega)
    have w3 : w32 (12 * j + n + 1) = 12 * j + (n + 1) := by rw [w32_i (by omega) (by omega)]; omega
    have b1 : 0 ≤ 12 * j + n := by omega
    have b2 : 12 * j + n < 72 := by omega
    have nle : ¬ 12 * j + M 199 j ≤ 12 * j + n := by omega
    have w65 : ∀ M1 : ZM, (∀ x, x ≠ 205 → M1 x = M x) → ∃ M', pX12_wanted_65 S M1 176 j (12 * j + n) = some (v w, M') ∧ ∀ x, x ≠ 205 → M' x = M x := fun M1 e => by
      have hM1 : PtR M1 := hM.eq (e 176 (by decide))
      obtain ⟨M', a1, a2⟩ := r_answer (w := w) hS hM1 (by rw [e 204 (by decide)]; exact h4) hj hk rfl (by omega) (by rw [e 197 (by decide), e 198 (by decide)]; exact s1) hv (by decide)
      refine ⟨M', ?_, fun x y => (a2 x y).trans (e x y)⟩
      simp only [pX12_wanted_65, hS, hM1, if_true, b1, b2, and_self, e 200 (by decide), e 201 (by decide), h1, h2, a1, Option.bind_some]
    by_cases z : c.2.length = 0
    · obtain ⟨M', a1, a2⟩ := w65 M (fun _ _ => rfl)
      refine ⟨M', ?_, a2⟩
      rw [show rvF (c :: cs) w = v w by rw [rvF, if_pos z, ex_vl hv w], ← a1]
      have e12 : k + (c.1.length : Int) = k + (c.1.length : Int) + (c.2.length : Int) := by omega
      simp only [pX12_wanted_13, hS, hM, if_true, hj, and_self, w1, w2, if_neg nle, b1, b2, h2, h3, if_pos e12]
    · obtain ⟨u, hu1, hu2⟩ : ∃ u, Ex c.2 u 26 ∧ ∀ w, u w = 0 ∨ u w = 1 := by
        rcases hu with y | y
        · rw [y] at z; exact absurd rfl z
        · exact y
      obtain ⟨M1, a1, a2⟩ := r_answer (w := w) hS hM h4 hj (k := k + (c.1.length : Int)) (by omega) rfl (by omega) s2 hu1 (by decide)
      have hM1 : PtR M1 := hM.eq (a2 176 (by decide))
      have e12 : ¬ k + (c.1.length : Int) = k + (c.1.length : Int) + (c.2.length : Int) := by omega
      by_cases y : u w = 0
      · have y' : ¬ zcmp (u w) 1 = 0 := fun x => by have := zcmp1.1 x; omega
        have h6' : RCl M1 j (n + 1) (k + (c.1.length : Int) + (c.2.length : Int)) cs := RCl.eq hj.1 cs _ _ h6 (by omega) (by omega) (by omega) (by omega) (fun i _ _ => by rw [a2 200 (by decide), a2 201 (by decide), a2 202 (by decide)]; exact ⟨rfl, rfl, rfl⟩) (fun i _ _ => by rw [a2 197 (by decide), a2 198 (by decide)]; exact ⟨rfl, rfl⟩)
        obtain ⟨M', d1, d2⟩ := ih f M1 (n + 1) _ hM1 (by rw [a2 204 (by decide)]; exact h4) h6' (fun c' hc => hok c' (List.mem_cons_of_mem _ hc)) (by rw [a2 199 (by decide)]; omega) (by omega) (by omega) (by omega) (by omega) (by omega)
        refine ⟨M', ?_, fun x y => (d2 x y).trans (a2 x y)⟩
        rw [show rvF (c :: cs) w = rvF cs w by rw [rvF, if_neg z, ex_vl hu1 w, if_pos y], ← d1]
        simp only [pX12_wanted_13, hS, hM, if_true, hj, and_self, w1, w2, if_neg nle, b1, b2, h2, h3, if_neg e12, a1, Option.bind_some, if_neg y', w3]
      · have y1 : u w = 1 := by
          rcases hu2 w with x | x
          · exact absurd x y
          · exact x
        have y' : zcmp (u w) 1 = 0 := zcmp1.2 y1
        obtain ⟨M', d1, d2⟩ := w65 M1 a2
        refine ⟨M', ?_, d2⟩
        rw [show rvF (c :: cs) w = v w by rw [rvF, if_neg z, ex_vl hu1 w, if_neg y, ex_vl hv w], ← d1]
        simp only [pX12_wanted_13, hS, hM, if_true, hj, and_self, w1, w2, if_neg nle, b1, b2, h2, h3, if_neg e12, a1, Option.bind_some, if_pos y']
/-- a rule in the reference's rows -/
def RHd (R : ZM) (j : Int) (cl : List Cl) : Prop := R 199 j = (cl.length : Int) ∧ RCl R j 0 0 cl ∧ (cl.length : Int) ≤ 12 ∧ lnR cl ≤ 300 ∧ ∀ c, c ∈ cl → ClOk c
theorem RHd.eq {R R' : ZM} {j : Int} {cl : List Cl} (h : RHd R j cl) (hj : 0 ≤ j) (e0 : R' 199 j = R 199 j) (e1 : ∀ i, 12 * j ≤ i → i < 12 * j + 12 → R' 200 i = R 200 i ∧ R' 201 i = R 201 i ∧ R' 202 i = R 202 i) (e2 : ∀ i, 300 * j ≤ i → i < 300 * j + 300 → R' 197 i = R 197 i ∧ R' 198 i = R 198 i) : RHd R' j cl := ⟨e0.trans h.1, RCl.eq hj cl 0 0 h.2.1 (Int.le_refl _) (Int.le_refl _) (by have := h.2.2.1; omega) (by have := h.2.2.2.1; omega) e1 e2, h.2.2⟩
theorem RHd.ru {R : ZM} {j : Int} {cl : List Cl} (hS : ShR S) (h : RHd R j cl) (hj : 0 ≤ j ∧ j < 6) : RRu S (upM R 177 9 j) (some (rvF cl)) := by
  refine ⟨fun u => (by cases u), fun f hf => ?_⟩
  have hf' : rvF cl = f := Option.some.inj hf
  subst hf'
  rw [upM_s]
  refine ⟨by omega, fun M' w hM e e9 h4 => ?_⟩
  have w1 : w32 (12 * j) = 12 * j := w32_i (by omega) (by omega)
  have er : ∀ a, 197 ≤ a → a ≤ 202 → M' a = R a := fun a x y => by rw [e a x y, upM_r (by omega)]
  have h' : RHd M' j cl := h.eq hj.1 (by rw [er 199 (by decide) (by decide)]) (fun i _ _ => by rw [er 200 (by decide) (by decide), er 201 (by decide) (by decide), er 202 (by decide) (by decide)]; exact ⟨rfl, rfl, rfl⟩) (fun i _ _ => by rw [er 197 (by decide) (by decide), er 198 (by decide) (by decide)]; exact ⟨rfl, rfl⟩)
  obtain ⟨M'', a1, a2⟩ := r_wanted13 (w := w) hS hj cl zFU M' 0 0 hM h4 h'.2.1 h'.2.2.2.2 (by rw [h'.1]; omega) (by decide) (by have := h'.2.2.1; omega) (by decide) (by have := h'.2.2.2.1; omega) (zFU_gt (by have := h'.2.2.1; omega))
  refine ⟨M'', ?_, a2⟩
  rw [Int.add_zero] at a1
  simp only [pX12_wanted, hS, hM, if_true, show (0 : Int) ≤ 9 by decide, show (9 : Int) < 10 by decide, and_self, e9, w1, a1]
/-- a rule in the class's cells -/
def CHd (S : ZS) (M : ZM) (e : Int) (cl : List Cl) : Prop := ((214 < e ∧ e ≤ S.2.2) ∧ (214 < M e 0 ∧ M e 0 ≤ S.2.2)) ∧ (S.1 e = 4 ∧ S.1 (M e 0) = 100 ∧ S.2.1 (M e 0) = ((flC cl).length : Int)) ∧ (flC cl).length < 400 ∧ SgC (M (M e 0)) 0 (flC cl) ∧ ∀ c, c ∈ cl → ClOk c
theorem CHd.ru {e d : Int} {cl : List Cl} (h : CHd S M e cl) (h1 : S.1 (d + 1) = 100 ∧ S.2.1 (d + 1) = 12) (h3 : S.1 (d + 3) = 101 ∧ S.2.1 (d + 3) = 40) (hd : d + 3 < 214) : CRu S M e d (some (rvF cl)) := by
  obtain ⟨⟨c1, c2⟩, ⟨c3, c4, c5⟩, c6, c7, c8⟩ := h
  refine ⟨fun u => (by cases u), fun f hf => ?_⟩
  have hf' : rvF cl = f := Option.some.inj hf
  subst hf'
  refine ⟨c1.1, c2.1, c3, fun M' w e1 e2 h4 => ?_⟩
  have hE : EvS S e (M e 0) ((flC cl).length : Int) (d + 1) (d + 3) := ⟨c3, ⟨c4, c5⟩, h1, h3, by omega, by omega, by omega⟩
  have hfu : zFU = (zFU - (flC cl).length - 1) + (flC cl).length + 1 := by have := zFU_gt (n := 400) (by decide); omega
  obtain ⟨M'', a1, a2⟩ := c_rule (w := w) hE (by omega) cl (zFU - (flC cl).length - 1) M' 0 (by rw [e1]) h4 (by rw [e2]; exact c7) c8 (by omega) (by decide)
  rw [← hfu] at a1
  exact ⟨M'', a1, a2⟩
theorem CHd.eq {S' : ZS} {M' : ZM} {e : Int} {cl : List Cl} (h : CHd S M e cl) (hs : S.2.2 ≤ S'.2.2) (es : ∀ x, x ≤ S.2.2 → S'.1 x = S.1 x ∧ S'.2.1 x = S.2.1 x) (e1 : M' e = M e) (e2 : M' (M e 0) = M (M e 0)) : CHd S' M' e cl := by
  obtain ⟨⟨c1, c2⟩, ⟨c3, c4, c5⟩, c6, c7, c8⟩ := h
  have x1 := es e c1.2
  have x2 := es (M e 0) c2.2
  unfold CHd
  rw [e1, e2]
  exact ⟨⟨⟨c1.1, by omega⟩, c2.1, by omega⟩, ⟨x1.1.trans c3, x2.1.trans c4, x2.2.trans c5⟩, c6, c7, c8⟩
/-- the rules, in the reference and in the class -/
def RLs (R : ZM) (nR : Int) (rl : Int → Ru) (cl : Int → List Cl) : Prop := (0 ≤ nR ∧ nR ≤ 6) ∧ R 176 24 = nR ∧ rl (-1) = none ∧ ∀ j, 0 ≤ j → j < nR → rl j = some (rvF (cl j)) ∧ RHd R j (cl j)
def CLs (S : ZS) (M : ZM) (nR : Int) (rl : Int → Ru) (cl : Int → List Cl) : Prop := (0 ≤ nR ∧ nR ≤ 6) ∧ M 1 4 = nR ∧ rl (-1) = none ∧ ∀ j, 0 ≤ j → j < nR → rl j = some (rvF (cl j)) ∧ CHd S M (M 15 j) (cl j)
theorem RLs.rs {nR : Int} {rl : Int → Ru} {cl : Int → List Cl} (hS : ShW S) (h : RLs M nR rl cl) : RRs S M nR rl := by
  obtain ⟨h1, h2, h3, h4⟩ := h
  refine ⟨h1, h2, fun j a b => ?_⟩
  by_cases z : j = -1
  · rw [z, h3]; exact ⟨fun _ => upM_s _ _ _ _, fun f hf => by cases hf⟩
  · obtain ⟨a1, a2⟩ := h4 j (by omega) b
    rw [a1]; exact a2.ru hS.o (by omega)
theorem CLs.rs {nR : Int} {rl : Int → Ru} {cl : Int → List Cl} (hS : ShN S) (h : CLs S M nR rl cl) : CRs S M nR rl := by
  obtain ⟨h1, h2, h3, h4⟩ := h
  refine ⟨h1, h2, h3, fun j a b => ?_⟩
  obtain ⟨a1, a2⟩ := h4 j a b
  rw [a1]
  exact ⟨a2.ru (by simp [hS.o]) (by simp [hS.o]) (by decide), a2.ru (by simp [hS.o]) (by simp [hS.o]) (by decide), a2.ru (by simp [hS.o]) (by simp [hS.o]) (by decide)⟩
end
