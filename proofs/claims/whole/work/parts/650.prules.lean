/-! A RULE READ: all its clauses, in both -/
def BadR (Z : ZS) (M : ZM) (x : Option (Int × ZM)) (j : Int) (R : ZM) (y : Option (Int × ZM)) : Prop := ∃ f M' R' n' F', (0 < f ∧ f ≤ 9000) ∧ (x = some (f, M') ∧ FD M M') ∧ (y = pX12_rule_27 Z (F' + 1) R' 176 n' 0 ∧ R' 176 22 = f ∧ FLc j R R')
def GoodR (Z : ZS) (M : ZM) (x : Option (Int × ZM)) (j : Int) (R : ZM) (y : Option (Int × ZM)) : Prop := ∃ M' R' cl F', (x = some (0, M') ∧ FD M M' ∧ M' 13 1 = ln (flC cl) ∧ SgC (M' 14) 0 (flC cl)) ∧ (y = pX12_rule_27 Z (F' + 1) R' 176 (cl.length : Int) 0 ∧ R' 176 22 = 0 ∧ FLc j R R' ∧ RRow R' j 0 0 cl ∧ SgR (R' 197) (R' 198) (300 * j) (flR cl)) ∧ ((cl.length : Int) ≤ 12 ∧ ln (flR cl) ≤ 300) ∧ ∀ c, c ∈ cl → ClOk c
section
variable {S Z : ZS} {R M : ZM} {T : Int} {B : Int → Int} {p q P j : Int} {L : List (Int × Int)}
theorem RJ.fp {R' : ZM} {p' : Int} (h : RJ Z R T B p L P j) (hp : RP Z R' T B p') (f : FP R R') : RJ Z R' T B p' L P j := by
  obtain ⟨-, ⟨⟨a1, a2⟩, a3⟩, ⟨b1, b2⟩, c⟩ := h
  exact ⟨hp, ⟨⟨by rw [f.2 23 (by decide) (by decide)]; exact a1, by rw [f.2 29 (by decide) (by decide)]; exact a2⟩, a3⟩, ⟨by rw [f.2 25 (by decide) (by decide)]; exact b1, by rw [f.1 197 (by decide), f.1 198 (by decide)]; exact b2⟩, by rw [f.2 27 (by decide) (by decide)]; exact c⟩
theorem BadR.of {M1 R1 : ZM} {x y : Option (Int × ZM)} (f : FD M M1) (g : FLc j R R1) (h : BadR Z M1 x j R1 y) : BadR Z M x j R y := by
  obtain ⟨a, M', R', n', F', h0, ⟨u1, u2⟩, ⟨u3, u4, u5⟩⟩ := h
  exact ⟨a, M', R', n', F', h0, ⟨u1, f.trans u2⟩, ⟨u3, u4, g.trans u5⟩⟩
theorem GoodR.of {M1 R1 : ZM} {x y : Option (Int × ZM)} (f : FD M M1) (g : FLc j R R1) (h : GoodR Z M1 x j R1 y) : GoodR Z M x j R y := by
  obtain ⟨M', R', cl, F', ⟨u1, u2, u3, u4⟩, ⟨v1, v2, v3, v4, v5⟩, w, z⟩ := h
  exact ⟨M', R', cl, F', ⟨u1, f.trans u2, u3, u4⟩, ⟨v1, v2, g.trans v3, v4, v5⟩, w, z⟩
theorem p_rules (hT : TOk T B) : ∀ (m Fc Fr : Nat) (M R : ZM) (p q P C n : Int) (cl : List Cl), (cl.length : Int) = n → n + m = 13 → n ≤ 12 → m < Fc → m + 1 < Fr → CJ S M T B q (flC cl) P → RJ Z R T B p (flR cl) P j → q = sk T B p → (0 ≤ C ∧ 3 * C ≤ P ∧ P ≤ 60) → ln (flR cl) ≤ 2 * P + 8 * C → R 176 26 = 0 → RRow R j 0 0 cl → (∀ c, c ∈ cl → ClOk c) → BadR Z M (pX5_faultOf_16 S Fc M 13 2 n) j R (pX12_rule_27 Z Fr R 176 n 1) ∨ GoodR Z M (pX5_faultOf_16 S Fc M 13 2 n) j R (pX12_rule_27 Z Fr R 176 n 1) := by
  have hb := hT.1
  intro m
  induction m with
  | zero => intro Fc Fr M R p q P C n cl hl h1 h2; omega
  | succ m ih =>
    intro Fc Fr M R p q P C n cl hl h1 h2 hF1 hF2 hc hr hq hC hL h26 hw hok
    obtain ⟨Fc, rfl⟩ : ∃ f, Fc = f + 1 := ⟨Fc - 1, by omega⟩
    obtain ⟨Fr, rfl⟩ : ∃ f, Fr = f + 1 := ⟨Fr - 1, by omega⟩
    obtain ⟨F', hF'⟩ : ∃ f, Fr = f + 1 := ⟨Fr - 1, by omega⟩
    have n0 : 0 ≤ n := by rw [← hl]; exact Int.natCast_nonneg _
    have e1 := flC_ln cl
    rw [hl] at e1
    have hj := hr.2.1.2
    have n13 : ¬ 12 < n := by omega
    have w1 : w32 (n + 1) = n + 1 := w32_i (by omega) (by omega)
    have xc : pX5_faultOf_16 S (Fc + 1) M 13 2 n = (pX5_takeClause S M 13 2 n).bind fun q9 => if q9.1 = 0 then (pX5_faultOf_41 S q9.2 2) else (pX8_token S q9.2 2).bind fun q14 => if q14.1 = 303 then (pX5_faultOf_41 S q14.2 2) else ((pX8_takes S q14.2 2 59).bind fun q18 => if q18.1 = 0 then ((pX8_fail S q18.2 2 0).bind fun q21 => some (q21.2 2 5, q21.2)) else (pX5_faultOf_16 S Fc q18.2 13 2 (w32 (n + 1)))) := by
      simp only [pX5_faultOf_16, if_neg n13, hc.1.1.1.o, if_true]
    have xr : pX12_rule_27 Z (Fr + 1) R 176 n 1 = (pX12_ruleClause Z R 176 n).bind fun q17 => (pX12_goesOn Z q17 176).bind fun q20 => pX12_rule_27 Z Fr q20.2 176 (w32 (n + 1)) q20.1 := by
      simp only [pX12_rule_27, show ¬ (1 : Int) = 0 by decide, if_false, hr.1.1.o, if_true]
    have x41 : ∀ M' : ZM, pX5_faultOf_41 S M' 2 = some (M' 2 5, M') := fun M' => by simp only [pX5_faultOf_41, hc.1.1.1.o, if_true]
    rcases p_clause hT (n := n) hc hr hq (by omega) hC hL (by omega) h26 with u | u
    · obtain ⟨f, M', R', hf, ⟨u1, u2, u3, u4⟩, ⟨u5, u6, u7, u8⟩⟩ := u
      obtain ⟨R2, v1, v2, v3⟩ := r_goesG hr.1.1 (hr.1.2.1.flc u7) hT (hr.1.2.2.1.flc u7) u8 (by omega)
      refine Or.inl ⟨f, M', R2, n + 1, F', hf, ⟨?_, u3⟩, ⟨?_, v2.trans u6, u7.trans (FLc.of (FJ.g (FG.fp v3)))⟩⟩
      · simp only [xc, u1, Option.bind_some, if_true, x41, u2]
      · rw [xr, u5, Option.bind_some, v1, Option.bind_some, w1, hF']
    · obtain ⟨M', R', p', q', c, P', C', ⟨u1, u2, u3⟩, ⟨u4, u5, u6⟩, ⟨u7, u8⟩, ⟨u9, u10⟩, ⟨v1, v2, v3⟩, v4, v5, v6, v7⟩ := u
      have hq' := u2.1.2.2.1
      have ct := c_token u2.1
      have gs := r_goesOn hT u5.1 u9
      have hl' : ((cl ++ [c]).length : Int) = n + 1 := by rw [List.length_append, Int.natCast_add, hl]; rfl
      have hok' : ∀ c', c' ∈ cl ++ [c] → ClOk c' := fun c' hc' => by
        rcases List.mem_append.1 hc' with y | y
        · exact hok c' y
        · rw [List.mem_singleton.1 y]; exact u8
      have el : ln (flR (cl ++ [c])) = ln (flR cl) + ln c.1 + ln c.2 := by rw [flR_snoc, ln_app, ln_app]; omega
      have hw1 : RRow R' j 0 0 cl := RRow.eq cl 0 0 hw (fun i a b => v4 i (by rw [hl] at b; omega))
      have hw2 : RRow R' j 0 0 (cl ++ [c]) := RRow.snoc cl 0 0 c hw1 (by
        rw [hl, Int.add_zero, ← flR_ln, Int.zero_add]
        exact ⟨v1, v2, v3⟩)
      rw [← flC_snoc] at u2
      rw [← flR_snoc] at u5
      have row : ∀ R2 : ZM, FP R' R2 → RRow R2 j 0 0 (cl ++ [c]) := fun R2 f => RRow.eq (cl ++ [c]) 0 0 hw2 (fun i _ _ => by rw [f.1 200 (by decide), f.1 201 (by decide), f.1 202 (by decide)]; exact ⟨rfl, rfl, rfl⟩)
      by_cases y : tk T B q' = 303
      · obtain ⟨R2, g1, g2, g3⟩ := gs.1 y
        refine Or.inr ⟨M', R2, cl ++ [c], F', ⟨?_, u3, u2.2.1.1, u2.2.1.2⟩, ⟨?_, g2, u6.trans (FLc.of (FJ.g (FG.fp g3))), row R2 g3, by rw [g3.1 197 (by decide), g3.1 198 (by decide)]; exact u5.2.2.1.2⟩, ⟨by omega, by omega⟩, hok'⟩
        · simp only [xc, u1, Option.bind_some, show ¬ (1 : Int) = 0 by decide, if_false, ct, if_pos y, x41, u2.1.2.2.2.1]
        · rw [xr, u4, Option.bind_some, g1, Option.bind_some, w1, hF', hl']
      · have ck := c_takes hT u2 (k := 59) (by decide)
        by_cases z : tk T B q' = 59
        · obtain ⟨R2, g1, g2, g3, g4⟩ := gs.2.1 z
          obtain ⟨l3, M2, t1, t2, t3⟩ := ck.1 z
          have r2 := u5.fp g2 g4
          have fC : FD M M2 := u3.trans t3
          have fR : FLc j R R2 := u6.trans (FLc.of (FJ.g (FG.fp g4)))
          have IH := ih Fc Fr M2 R2 (q' + 1) (nx T B q') P' C' (n + 1) (cl ++ [c]) hl' (by omega) (by omega) (by omega) (by omega) t2 r2 g3.symm v5 (by omega) (by rw [g4.2 26 (by decide) (by decide)]; exact u7) (row R2 g4) hok'
          have xc2 : pX5_faultOf_16 S (Fc + 1) M 13 2 n = pX5_faultOf_16 S Fc M2 13 2 (n + 1) := by
            simp only [xc, u1, Option.bind_some, show ¬ (1 : Int) = 0 by decide, if_false, ct, if_neg y, t1, w1]
          have xr2 : pX12_rule_27 Z (Fr + 1) R 176 n 1 = pX12_rule_27 Z Fr R2 176 (n + 1) 1 := by
            rw [xr, u4, Option.bind_some, g1, Option.bind_some, w1]
          rw [xc2, xr2]
          rcases IH with k | k
          · exact Or.inl (k.of fC fR)
          · exact Or.inr (k.of fC fR)
        · obtain ⟨R2, g1, g2, g3⟩ := gs.2.2 y z
          have fl := c_fail hT u2.1 (k := 0) (by decide)
          refine Or.inl ⟨1 + 8 * q' + 0, upM M' 2 5 (1 + 8 * q' + 0), R2, n + 1, F', by omega, ⟨?_, u3.trans FD.f⟩, ⟨?_, g2, u6.trans (FLc.of (FJ.g (FG.fp g3)))⟩⟩
          · simp only [xc, u1, Option.bind_some, show ¬ (1 : Int) = 0 by decide, if_false, ct, if_neg y, ck.2 z, if_true, fl, upM_s]
          · rw [xr, u4, Option.bind_some, g1, Option.bind_some, w1, hF']
end
