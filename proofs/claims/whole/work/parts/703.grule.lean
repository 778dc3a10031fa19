/-! ALL CALLS: rule -/
section
variable {S S' : ZS} {M M' : ZM} {nR : Int} {rl : Int → Ru} {cl : Int → List Cl} {im im' : Int → Option Wd} {w w' : Wd} {T T' : Int} {B B' : Int → Int} {xs : Int → Int} {i : Int}
theorem WOk.up (h : WOk nR w) : WOk (nR + 1) w := by
  obtain ⟨h1, h2, h3, h4, h5, h6, h7⟩ := h
  exact ⟨h1, h2, h3, h4, h5, ⟨h6.1, by omega⟩, h7⟩
theorem CIm.up (h : CIm S M nR im) : CIm S M (nR + 1) im := by
  refine ⟨fun k a b => ?_, h.2⟩
  rcases h.1 k a b with z | ⟨v, z1, z2, z3, z4, z5, z6⟩
  · exact Or.inl z
  · exact Or.inr ⟨v, z1, z2, z3, z4, z5, z6.up⟩
theorem RIm.up (h : RIm M nR im) : RIm M (nR + 1) im := by
  intro k a b
  rcases h k a b with z | ⟨v, z1, z2, z3, z4⟩
  · exact Or.inl z
  · exact Or.inr ⟨v, z1, z2, z3, z4.up⟩
/-- the reference's old rules stay -/
theorem RHd.old {j : Int} {c : List Cl} (h : RHd M j c) (f : FRl nR M M') (h0 : 0 ≤ j) (hj : j < nR) : RHd M' j c :=
  h.eq h0 (f.2.2.2.1 j (by omega)) (fun i a b => f.2.2.1 i (by omega)) (fun i a b => f.2.1 i (by omega))
theorem RA.rul (h : RA S M nR rl cl im w T B) (f : FRl nR M M') {n' : Int} {rl' : Int → Ru} {cl' : Int → List Cl} (hi : RIm M' n' im) (hl : RLs M' n' rl' cl') : RA S M' n' rl' cl' im w 0 B := by
  obtain ⟨⟨h1, h2⟩, h3, h4, h5, h6, h7⟩ := h
  refine ⟨⟨h1, h2.j (fun i x => f.1.2 i (by omega))⟩, ?_, hi, ⟨f.2.2.2.2, fun i a b => by omega⟩, hl, by rw [f.1.2 29 (by omega)]; exact h7⟩
  rw [f.1.2 42 (by omega)]; exact h3.mv (fun x a => f.1.1 x (by omega))
theorem RA.imm (h : RA S M nR rl cl im w T B) (f : FRl nR M M') : RIm M' nR im := h.2.2.1.mv (f.1.1 213 (by omega)) (f.1.1 214 (by omega))
theorem g_rule (h : In1 S M nR rl cl im w T B) (hs : 214 ≤ S.2.2 ∧ S.2.2 < 1999999700) : LGo S (lawC3 xs S M 1 176 i) := by
  have s1 := h.s1
  have s2 := h.s2
  have hI := h
  obtain ⟨⟨hw, hT⟩, hC, hR⟩ := h
  have hnR := hC.2.2.2.1.1
  have e4 : M 1 4 = nR := hC.2.2.2.1.2.1
  have e24 : M 176 24 = nR := hR.2.2.2.2.1.2.1
  by_cases z6 : nR = 6
  · have a1 := k_ruleX hC.1.1 (e4.trans z6)
    have b1 := r_ruleX hR.1.1 (e24.trans z6)
    refine ⟨(S, M), ?_, ⟨nR, rl, cl, im, w, T, B, hI⟩, Int.le_refl _, by show S.2.2 ≤ S.2.2 + 120; omega⟩
    simp only [lawC3, s1, s2, if_true, a1, Option.bind_some, b1]
  have hn : 0 ≤ nR ∧ nR < 6 := by omega
  rcases p_rule (Z := S) (R := M) hT hC.1.1 hC.2.2.1 hR.1.1 hR.1.2 hR.2.2.2.1 e24 hR.2.2.2.2.2 hn with u | u
  · -- a fault
    obtain ⟨f, M3, -, hf, ⟨u1, u2, u3⟩, -⟩ := u
    have a1 := k_ruleF hC.1.1 u2 e4 hn.2 u1 hf
    have r1 : ∀ x, x ≠ 2 → (upM M3 2 1 0) x = M3 x := fun x y => upM_r y
    have r2 : (upM M3 2 1 0) 2 1 = 0 := upM_s _ _ _ _
    have r3 : ∀ j, j ≠ 1 → (upM M3 2 1 0) 2 j = M3 2 j := fun j y => upM_i y
    generalize upM M3 2 1 0 = M1 at *
    have e : ∀ x, (x < 2 ∨ 14 < x) → M1 x = M x := fun x y => by rw [r1 x (by omega), u3 x (by omega)]
    have n1 : NW S M1 := u2.q (fun x j y => by
      unfold pkN at y
      by_cases v : x = 2
      · subst v; exact r3 j (by omega)
      · rw [r1 x v])
    have hR1 : RA S M1 nR rl cl im w T B := hR.fb hR.1.1 (fun x a b => e x (by omega))
    have hC1 : CA S M1 nR rl cl im w 0 B := hC.mv (hC.1.eqs hw n1 (fun x a b => e x (by omega))) ⟨r2, fun i a b => by omega⟩ (SE.refl _ _) (Int.le_refl _) (by rw [e 1 (by omega)]) (e 15 (by omega)) (e 132 (by omega)) (fun x y _ => e x (by omega))
    rcases p_rule (Z := S) (R := M1) hT hC.1.1 hC.2.2.1 hR1.1.1 hR1.1.2 hR1.2.2.2.1 hR1.2.2.2.2.1.2.1 hR1.2.2.2.2.2 hn with v | v
    · obtain ⟨f', M3', R2, hf', ⟨v1, -, -⟩, ⟨v4, v5, v6⟩⟩ := v
      have ef : f = f' := congrArg Prod.fst (Option.some.inj (u1.symm.trans v1))
      subst ef
      have hC2 := hC1.fb hw (M' := R2) (fun x y => v5.1.1 x (by omega))
      have hL : RLs R2 nR rl cl := by
        obtain ⟨l1, l2, l3, l4⟩ := hR1.2.2.2.2.1
        exact ⟨l1, v6, l3, fun j a b => ⟨(l4 j a b).1, (l4 j a b).2.old v5 a b⟩⟩
      refine ⟨(S, R2), ?_, ⟨nR, rl, cl, im, w, 0, B, ⟨hw, hT.z⟩, hC2, hR1.rul v5 (hR1.imm v5) hL⟩, Int.le_refl _, by show S.2.2 ≤ S.2.2 + 120; omega⟩
      simp only [lawC3, s1, s2, if_true, a1, Option.bind_some, v4]
    · obtain ⟨M3', R2, c2, ⟨v1, -⟩, -⟩ := v
      have ef : f = 0 := congrArg Prod.fst (Option.some.inj (u1.symm.trans v1))
      omega
  · -- a rule
    obtain ⟨M3, -, c1, ⟨u1, u2, u3, u4, -, u6, -⟩, -⟩ := u
    have nn := ln_nn (flC c1)
    obtain ⟨S1, M1, a1, ⟨a2, a3⟩, ⟨a4, a5, a6⟩, ⟨a7, a8⟩, ⟨a9, a10⟩, ⟨a11, a12⟩, ⟨a13, a14⟩, a15⟩ := k_ruleG (n := ln (flC c1)) hC.1.1 u2 e4 (by rw [u3 1 (by omega)]; exact e4) hn u1 u4 (by omega) hs
    have hS1 : ShW S1 := hR.1.1.se a2 hs.1
    have e : ∀ x, 15 < x → x ≤ S.2.2 → M1 x = M x := fun x y z => by rw [a15 x z (by omega) (by omega) (by omega), u3 x (by omega)]
    have e15 : ∀ j, j ≠ nR → M1 15 j = M 15 j := fun j y => by rw [a10 j y, u3 15 (by omega)]
    have n1 : NW S M1 := u2.q (fun x j y => by
      unfold pkN at y
      by_cases v : x = 2
      · subst v; exact a14 j (by omega)
      by_cases v' : x = 1
      · subst v'; exact a12 j (by omega)
      · rw [a15 x (by omega) (by omega) (by omega) (by omega)])
    have hR1 : RA S1 M1 nR rl cl im w T B := hR.fb hS1 (fun x a b => e x (by omega) (by omega))
    have hN1 : CN S1 M1 w := (hC.1.eqs hw n1 (fun x a b => e x (by omega) (by omega))).se a2 hs.1
    rcases p_rule (Z := S1) (R := M1) hT hC.1.1 hC.2.2.1 hR1.1.1 hR1.1.2 hR1.2.2.2.1 hR1.2.2.2.2.1.2.1 hR1.2.2.2.2.2 hn with v | v
    · obtain ⟨f', M3', R2, hf', ⟨v1, -, -⟩, -⟩ := v
      have ef : 0 = f' := congrArg Prod.fst (Option.some.inj (u1.symm.trans v1))
      omega
    · obtain ⟨M3', R2, c2, ⟨v1, -, -, v4, v5, v6, v7⟩, ⟨v8, v9, v10, v11⟩⟩ := v
      have em : M3 = M3' := congrArg Prod.snd (Option.some.inj (u1.symm.trans v1))
      subst em
      have el : ln (flC c1) = ln (flC c2) := u4.symm.trans v4
      rw [el] at a6 a8
      generalize hrl : (fun k => if k = nR then some (rvF c2) else rl k) = rl'
      generalize hcl : (fun k => if k = nR then c2 else cl k) = cl'
      have x1 : rl' nR = some (rvF c2) := by rw [← hrl]; exact if_pos rfl
      have x2 : ∀ k, k ≠ nR → rl' k = rl k := fun k y => by rw [← hrl]; exact if_neg y
      have x3 : cl' nR = c2 := by rw [← hcl]; exact if_pos rfl
      have x4 : ∀ k, k ≠ nR → cl' k = cl k := fun k y => by rw [← hcl]; exact if_neg y
      have e132 := e 132 (by decide) (by omega)
      have sg : SgC (M1 (S.2.2 + 2)) 0 (flC c2) := SgC.eq (flC c2) 0 v5 (fun i b c => by
        have c' : i < ln (flC c2) := by have : (0 : Int) + ((flC c2).length : Int) = ln (flC c2) := by unfold ln; omega
                                        omega
        exact a8 i b c')
      have hL : CLs S1 M1 (nR + 1) rl' cl' := by
        refine ⟨by omega, a11, by rw [x2 _ (by omega)]; exact hC.2.2.2.1.2.2.1, fun j b c => ?_⟩
        by_cases y : j = nR
        · subst y
          rw [x1, x3, a9]
          refine ⟨rfl, ?_⟩
          unfold CHd
          rw [a7, a3]
          refine ⟨⟨⟨by omega, by omega⟩, by omega, by omega⟩, ⟨a4, a5, a6⟩, ?_, sg, v7⟩
          unfold ln at v6; omega
        · obtain ⟨l1, l2⟩ := hC.2.2.2.1.2.2.2 j b (by omega)
          have hh := hC.2.2.2.1.hi b (show j < nR by omega)
          rw [x2 j y, x4 j y, e15 j y]
          exact ⟨l1, l2.eq (by omega) a2 (e _ (by omega) hh.1.2) (e _ (by omega) hh.2.2)⟩
      have hC1 : CA S1 M1 (nR + 1) rl' cl' im w 0 B := by
        refine ⟨hN1, (hC.2.1.mv a2 (by omega) e132 (fun x y z => e x (by omega) z)).up, ⟨a13, fun i a b => by omega⟩, hL, fun j k b c d g hk => ?_⟩
        rw [e132] at hk ⊢
        have hb : 214 < M 132 k ∧ M 132 k + 115 ≤ S.2.2 := by
          rcases hC.2.1.1 k d g with u | ⟨v, -, u⟩
          · exact absurd u.2 hk
          · exact u.1
        by_cases y : j = nR
        · subst y
          rw [a9, a7]; exact ⟨Or.inr (by omega), Or.inr (by omega)⟩
        · have hh := hC.2.2.2.1.hi b (show j < nR by omega)
          rw [e15 j y, e _ (by omega) hh.1.2]
          exact hC.2.2.2.2 j k b (by omega) d g hk
      have hC2 := hC1.fb hw.up (M' := R2) (fun x y => v9.1.1 x (by omega))
      have hL2 : RLs R2 (nR + 1) rl' cl' := by
        obtain ⟨l1, l2, l3, l4⟩ := hR1.2.2.2.2.1
        refine ⟨by omega, v10, by rw [x2 _ (by omega)]; exact l3, fun j b c => ?_⟩
        by_cases y : j = nR
        · subst y
          rw [x1, x3]; exact ⟨rfl, v11⟩
        · rw [x2 j y, x4 j y]
          exact ⟨(l4 j b (by omega)).1, (l4 j b (by omega)).2.old v9 b (by omega)⟩
      have s3 : S1.1 176 = 12 := by simp [hS1.o]
      refine ⟨(S1, R2), ?_, ⟨nR + 1, rl', cl', im, w, 0, B, ⟨hw.up, hT.z⟩, hC2, hR1.rul v9 (hR1.imm v9).up hL2⟩, by show S.2.2 ≤ S1.2.2; omega, by show S1.2.2 ≤ S.2.2 + 120; omega⟩
      simp only [lawC3, s1, s3, if_true, a1, Option.bind_some, v8]
end
