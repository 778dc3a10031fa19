/-! A RULE READ: a test, in both -/
def POr (m : Int) (c : List (Int × Int)) (d : Int) : Prop := (m = 0 ∧ c = []) ∨ (m = 11 ∧ ∃ v, Ex c v (26 - 2 * d) ∧ ∀ w, v w = 0 ∨ v w = 1)
def PAn (m : Int) (c : List (Int × Int)) (d : Int) : Prop := (m = 0 ∧ c = []) ∨ (m = 10 ∧ ∃ v, Ex c v (25 - 2 * d) ∧ ∀ w, v w = 0 ∨ v w = 1)
section
variable {S Z : ZS} {R M : ZM} {T : Int} {B : Int → Int} {p q P j : Int} {L : List (Int × Int)}
theorem PAn.next {m d : Int} {c t : List (Int × Int)} {v : (Int → Int) → Int} (h : PAn m c d) (ht : Ex t v (24 - 2 * d)) (hv : ∀ w, v w = 0 ∨ v w = 1) : ∃ v', Ex (c ++ t ++ opL m) v' (25 - 2 * d) ∧ ∀ w, v' w = 0 ∨ v' w = 1 := by
  rcases h with ⟨rfl, rfl⟩ | ⟨rfl, u, hu, hu2⟩
  · have e : ([] : List (Int × Int)) ++ t ++ opL 0 = t := by show t ++ [] = t; exact List.append_nil t
    exact ⟨v, by rw [e]; exact ht.mono (by omega), hv⟩
  · exact ⟨_, Ex.join hu ht (by unfold isJn; omega) (by omega), fun w => jnA (hu2 w) (hv w)⟩
theorem POr.next {m d : Int} {c t : List (Int × Int)} {v : (Int → Int) → Int} (h : POr m c d) (ht : Ex t v (25 - 2 * d)) (hv : ∀ w, v w = 0 ∨ v w = 1) : ∃ v', Ex (c ++ t ++ opL m) v' (26 - 2 * d) ∧ ∀ w, v' w = 0 ∨ v' w = 1 := by
  rcases h with ⟨rfl, rfl⟩ | ⟨rfl, u, hu, hu2⟩
  · have e : ([] : List (Int × Int)) ++ t ++ opL 0 = t := by show t ++ [] = t; exact List.append_nil t
    exact ⟨v, by rw [e]; exact ht.mono (by omega), hv⟩
  · exact ⟨_, Ex.join hu ht (by unfold isJn; omega) (by omega), fun w => jnO (hu2 w) (hv w)⟩
theorem GoodT.of {M1 R1 : ZM} {x : Option (Int × ZM)} {y : Option ZM} {LC LR : List (Int × Int)} {q1 P1 C C1 d h N N1 : Int} {F F1 : Nat} (f : FD M M1) (g : FJ j R R1) (hrow : ∀ i, i < h → R1 203 i = R 203 i) (u : GoodT S Z T B M1 x j R1 y LC LR q1 P1 C1 d h N1 F1) (hq : q ≤ q1) (hF : (F : Int) - 2 * (q1 - q) ≤ (F1 : Nat)) (hC : C ≤ C1 ∧ 3 * (C1 - C) ≤ P1 - P) (hN : N1 + d * (C1 - C) ≤ N + 2 * (P1 - P) + 8 * (C1 - C)) : GoodT S Z T B M x j R y LC LR q P C d h N F := by
  obtain ⟨M', R', q', c, v, P', C', F', ⟨u1, u2, u3⟩, ⟨u4, u5, u6⟩, ⟨u7, u8, u9⟩, ⟨u10, u11⟩, ⟨u12, u13, u14⟩, ⟨⟨u15, u16⟩, u17⟩, u18⟩ := u
  have e : d * (C' - C) = d * (C' - C1) + d * (C1 - C) := by
    rw [← Int.mul_add, show C' - C1 + (C1 - C) = C' - C by omega]
  exact ⟨M', R', q', c, v, P', C', F', ⟨u1, u2, f.trans u3⟩, ⟨u4, u5, g.trans u6⟩, ⟨u7, u8, fun i hi => (u9 i hi).trans (hrow i hi)⟩, ⟨u10, u11⟩, ⟨by omega, u13, by omega⟩, ⟨⟨by omega, by omega⟩, u17⟩, by rw [e]; omega⟩
/-- the reference behind a fact -/
theorem r_post (hT : TOk T B) {h d me mb : Int} (hr : RJ Z R T B p L P j) (hq : q = sk T B p) (hl : ln L < 297) (hme : me = 0 ∨ me = 11) (hmb : mb = 0 ∨ mb = 10) (e26 : R 176 26 = d) (e28 : R 176 28 = h + opN me + opN mb) (hd : 0 ≤ d ∧ d ≤ 20) (hh : 0 ≤ h ∧ h ≤ 90) (hb1 : mb = 10 → R 203 (h + opN me) = 10) (ho1 : me = 11 → R 203 h = 11) (ht1 : h = 0 ∨ R 203 (h - 1) = 12) (F : Nat) : ∃ R2, RJ Z R2 T B q (L ++ opL mb) P j ∧ (R2 176 28 = h + opN me ∧ R2 176 26 = d ∧ R2 203 = R 203) ∧ FJ j R R2 ∧ (tk T B q = 273 → rPost Z F R = (pX12_opens Z R2 176 10).bind fun R3 => pX12_test_9 Z F (upM R3 176 21 (w32 (R3 176 21 + 3))) 176 1 1) ∧ (tk T B q ≠ 273 → ∃ R3, RJ Z R3 T B q (L ++ opL mb ++ opL me) P j ∧ (R3 176 28 = h ∧ R3 176 26 = d ∧ R3 203 = R 203) ∧ FJ j R R3 ∧ (tk T B q = 272 → rPost Z F R = (pX12_opens Z R3 176 11).bind fun R4 => pX12_test_9 Z F (upM R4 176 21 (w32 (R4 176 21 + 2))) 176 1 1) ∧ (tk T B q ≠ 272 → rPost Z F R = rEnd Z F R3)) := by
  obtain ⟨b1, b2⟩ := hr.sk hT
  rw [← hq] at b1 b2
  have g1 : FJ j R (upM R 176 21 q) := FJ.g (FG.fp FP.p)
  have s26 : (upM R 176 21 q) 176 26 = d := by rw [upM_i (by decide)]; exact e26
  have s28 : (upM R 176 21 q) 176 28 = h + opN me + opN mb := by rw [upM_i (by decide)]; exact e28
  have s203 : (upM R 176 21 q) 203 = R 203 := upM_r (by decide)
  generalize upM R 176 21 q = R1 at *
  obtain ⟨h1, h2, h3, h4, h5, h6⟩ := b2.1
  have st18 := r_stood h1 h2 hT h3 (w := 18) (by decide) (by rw [h6]; exact h4)
  rw [h6, show (256 : Int) + (cw 18 : Int) = 273 from rfl] at st18
  have st19 := r_stood h1 h2 hT h3 (w := 19) (by decide) (by rw [h6]; exact h4)
  rw [h6, show (256 : Int) + (cw 19 : Int) = 272 from rfl] at st19
  have oe := opN_b me
  have ob := opN_b mb
  have oe0 : me = 0 → opN me = 0 := fun u => by rw [u]; rfl
  have oe1 : me = 11 → opN me = 1 := fun u => by rw [u]; rfl
  have ob0 : mb = 0 → opN mb = 0 := fun u => by rw [u]; rfl
  have ob1 : mb = 10 → opN mb = 1 := fun u => by rw [u]; rfl
  have below : h + opN me = 0 ∨ R 203 (h + opN me - 1) ≠ 10 := by
    rcases hme with u | u
    · rw [oe0 u]
      rcases ht1 with w | w
      · exact Or.inl (by omega)
      · refine Or.inr ?_
        rw [show h + 0 - 1 = h - 1 by omega, w]; decide
    · refine Or.inr ?_
      rw [oe1 u, show h + 1 - 1 = h by omega, ho1 u]; decide
  obtain ⟨R2, a1, a2, a3, a4, a5, a6⟩ := r_ans1 (o := 10) (m := mb) (Or.inl rfl) b2 (by omega) s28 s26 hd (by omega) (by
    rcases hmb with u | u
    · refine Or.inr ⟨u, ?_⟩
      rw [ob0 u, s203, show h + opN me + 0 = h + opN me by omega]
      exact below
    · refine Or.inl ⟨u, by have := ob1 u; omega, ?_, ?_⟩
      · rw [ob1 u, s203, show h + opN me + 1 - 1 = h + opN me by omega]; exact hb1 u
      · rw [ob1 u, s203]
        rcases below with w | w
        · exact Or.inl (by omega)
        · exact Or.inr (by rw [show h + opN me + 1 - 2 = h + opN me - 1 by omega]; exact w))
  have c28 : R2 176 28 = h + opN me := by omega
  have c203 : R2 203 = R 203 := a5.trans s203
  refine ⟨R2, a2, ⟨c28, a4, c203⟩, g1.trans a6, fun y => ?_, fun y => ?_⟩
  · rw [if_pos y] at st18
    rw [if_neg (by omega)] at st19
    simp only [rPost, b1, Option.bind_some, st18, st19, a1, show ¬ (1 : Int) = 0 by decide, if_false, pX12_test_82, pX12_test_93, pX12_test_105, pX12_test_122, pX12_test_199, if_true, hr.1.1.o, zlet]
  · rw [if_neg y] at st18
    have lo := opL_ln mb
    have la := ln_app L (opL mb)
    obtain ⟨R3, k1, k2, k3, k4, k5, k6⟩ := r_ans1 (o := 11) (m := me) (Or.inr rfl) a2 (by omega) c28 a4 hd (by omega) (by
      rcases hme with u | u
      · refine Or.inr ⟨u, ?_⟩
        rw [oe0 u, c203]
        rcases ht1 with w | w
        · exact Or.inl (by omega)
        · refine Or.inr ?_
          rw [show h + 0 - 1 = h - 1 by omega, w]; decide
      · refine Or.inl ⟨u, by have := oe1 u; omega, ?_, ?_⟩
        · rw [oe1 u, c203, show h + 1 - 1 = h by omega]; exact ho1 u
        · rw [oe1 u, c203]
          rcases ht1 with w | w
          · exact Or.inl (by omega)
          · refine Or.inr ?_
            rw [show h + 1 - 2 = h - 1 by omega, w]; decide)
    refine ⟨R3, k2, ⟨by omega, k4, k5.trans c203⟩, (g1.trans a6).trans k6, fun x => ?_, fun x => ?_⟩
    · rw [if_pos x] at st19
      simp only [rPost, b1, Option.bind_some, st18, st19, a1, show ¬ (1 : Int) = 0 by decide, if_false, pX12_test_82, k1, pX12_test_93, pX12_test_105, pX12_test_122, pX12_test_199, if_true, hr.1.1.o, zlet]
    · rw [if_neg x] at st19
      simp only [rPost, b1, Option.bind_some, st18, st19, a1, if_true, k1]
theorem p_testL (hT : TOk T B) {d : Int} {f1 : ZS → ZM → Int → Int → Int → Option (Int × ZM)} (hd : 0 ≤ d ∧ d ≤ 10) (hf : FactOK S Z T B j d f1) : ∀ (n Fc F : Nat) (M R : ZM) (p q P C i me mb h : Int) (cO cA LC LR : List (Int × Int)), T - q < n → n ≤ Fc → 2 * (T - q) + 2 ≤ (F : Int) → CJ S M T B q (LC ++ (cO ++ cA)) P → RJ Z R T B p (LR ++ (cO ++ cA)) P j → q = sk T B p → (0 ≤ C ∧ 3 * C ≤ P ∧ P ≤ 60) → POr me cO d → PAn mb cA d → ln LR + ln cO + ln cA + opN me + opN mb ≤ 2 * P + 8 * C → ln LC ≤ ln LR + 12 → (R 176 26 = d ∧ R 176 28 = h + opN me + opN mb) → (mb = 10 → R 203 (h + opN me) = 10) → (me = 11 → R 203 h = 11) → (h = 0 ∨ R 203 (h - 1) = 12) → (0 ≤ h ∧ h ≤ 3 * d) → (0 ≤ i ∧ i + 1 ≤ q) → BadT T M (pX5_takeTest_8 f1 S Fc M 13 2 d (opN mb) (opN me) i) j R (pX12_test_9 Z F R 176 1 1) ∨ GoodT S Z T B M (pX5_takeTest_8 f1 S Fc M 13 2 d (opN mb) (opN me) i) j R (pX12_test_9 Z F R 176 1 1) LC LR q P C d h (ln cO + ln cA + opN me + opN mb) F := by
  have hb := hT.1
  intro n
  induction n with
  | zero =>
    intro Fc F M R p q P C i me mb h cO cA LC LR hn _ _ hc
    have := hc.1.2.2.1
    exact absurd hn (by omega)
  | succ n ih =>
    intro Fc F M R p q P C i me mb h cO cA LC LR hn hFc hF hc hr hq hC hO hA hL hLC hst hb1 ho1 ht1 hh hi
    obtain ⟨Fc, rfl⟩ : ∃ f, Fc = f + 1 := ⟨Fc - 1, by omega⟩
    have hqT := hc.1.2.2.1
    have hme : me = 0 ∨ me = 11 := by rcases hO with u | u <;> omega
    have hmb : mb = 0 ∨ mb = 10 := by rcases hA with u | u <;> omega
    have oe := opN_b me
    have ob := opN_b mb
    have oe1 : me = 11 → opN me = 1 := fun u => by rw [u]; rfl
    have oe0 : me = 0 → opN me = 0 := fun u => by rw [u]; rfl
    have ob1 : mb = 10 → opN mb = 1 := fun u => by rw [u]; rfl
    have ob0 : mb = 0 → opN mb = 0 := fun u => by rw [u]; rfl
    have a1 := ln_app LC (cO ++ cA)
    have a2 := ln_app LR (cO ++ cA)
    have a3 := ln_app cO cA
    have nLC := ln_nn LC
    have nO := ln_nn cO
    have nA := ln_nn cA
    have w1 : w32 (i + 1) = i + 1 := w32_i (by omega) (by omega)
    have FA := hf M R p q P C (LC ++ (cO ++ cA)) (LR ++ (cO ++ cA)) (h + opN me + opN mb) 0 F hc hr hq (by omega) hC (by omega) (by omega) hst (fun i u v => absurd v (by omega)) (by
      rcases hmb with u | u
      · rw [ob0 u]
        rcases hme with w | w
        · rw [oe0 w]
          rcases ht1 with t | t
          · exact Or.inl (by omega)
          · refine Or.inr ?_
            rw [show h + 0 + 0 - ((0 : Nat) : Int) - 1 = h - 1 by omega, t]; decide
        · refine Or.inr ?_
          rw [oe1 w, show h + 1 + 0 - ((0 : Nat) : Int) - 1 = h by omega, ho1 w]; decide
      · refine Or.inr ?_
        rw [ob1 u, show h + opN me + 1 - ((0 : Nat) : Int) - 1 = h + opN me by omega, hb1 u]; decide) (by omega) hF
    rcases FA with u | u
    · obtain ⟨f, M', R', h0, ⟨u1, u2, u3, u4⟩, ⟨u5, u6, u7, u8⟩⟩ := u
      refine Or.inl ⟨f, M', R', h0, ⟨?_, u2, u3, u4⟩, ⟨u5, u6, u7, u8⟩⟩
      simp only [pX5_takeTest_8, show ¬ 400 ≤ i by omega, if_false, hc.1.1.1.o, if_true, u1, Option.bind_some]
    · obtain ⟨M1, R1, p', q', c, v, P', C', F', ⟨u1, u2, u3⟩, ⟨u4, u5, u6⟩, ⟨u7, u8, u9⟩, ⟨u10, u11⟩, ⟨u12, u13, u14⟩, ⟨⟨u15, u16⟩, u17⟩, u18⟩ := u
      rw [List.replicate_zero, List.append_nil] at u5
      have dn : 0 ≤ d * (C' - C) := Int.mul_nonneg hd.1 (by omega)
      have a4 := ln_app (LC ++ (cO ++ cA)) c
      have a5 := ln_app (LR ++ (cO ++ cA)) c
      have nc := ln_nn c
      have hq' := u2.1.2.2.1
      have z28 : R1 176 28 = h + opN me + opN mb := by omega
      have z26 : R1 176 26 = d := by omega
      have zr : ∀ i, i < h + opN me + opN mb → R1 203 i = R 203 i := fun i hi => u9 i (by omega)
      obtain ⟨R2, v1, ⟨v2, v3, v4⟩, v5, v6, v7⟩ := r_post hT u5 u13 (by omega) hme hmb z26 z28 (by omega) (by omega) (fun w => by rw [zr _ (by have := ob1 w; omega)]; exact hb1 w) (fun w => by rw [zr _ (by have := oe1 w; omega)]; exact ho1 w) (by
        rcases ht1 with t | t
        · exact Or.inl t
        · exact Or.inr (by rw [zr _ (by omega)]; exact t)) F'
      obtain ⟨M2, c1, c2, c3⟩ := p_opC u2 (by omega) mb
      have eL : ∀ X : List (Int × Int), X ++ (cO ++ cA) ++ c ++ opL mb = X ++ (cO ++ (cA ++ c ++ opL mb)) := fun X => by simp only [List.append_assoc]
      rw [eL] at c2 v1
      obtain ⟨v', e1, e2⟩ := hA.next u10 u11
      have lA : ln (cA ++ c ++ opL mb) = ln cA + ln c + opN mb := by rw [ln_app, ln_app, opL_ln]
      have eL3 : LR ++ (cO ++ cA) ++ c ++ opL mb ++ opL me = LR ++ (cO ++ (cA ++ c ++ opL mb) ++ opL me) := by simp only [List.append_assoc]
      rw [eL3] at v7
      generalize cA ++ c ++ opL mb = cA' at *
      have fD : FD M M2 := u3.trans c3
      have xc : pX5_takeTest_8 f1 S (Fc + 1) M 13 2 d (opN mb) (opN me) i = pX5_takeTest_38 f1 S (pX5_takeTest_8 f1 S Fc) M2 13 2 d (opN me) i := by
        unfold opC at c1
        rcases hmb with w | w
        · rw [if_pos w] at c1
          have em : M1 = M2 := Option.some.inj c1
          simp only [pX5_takeTest_8, show ¬ 400 ≤ i by omega, if_false, hc.1.1.1.o, if_true, u1, Option.bind_some, show ¬ (1 : Int) = 0 by decide, ob0 w, em]
        · rw [if_neg (by omega), w, show kc 10 = 12 from rfl] at c1
          simp only [pX5_takeTest_8, show ¬ 400 ≤ i by omega, if_false, hc.1.1.1.o, if_true, u1, Option.bind_some, show ¬ (1 : Int) = 0 by decide, ob1 w, c1]
      rw [xc, u4]
      have ct := c_takes hT c2 (k := 273) (by decide)
      by_cases y : tk T B q' = 273
      · -- and
        obtain ⟨t1, M3, t2, t3, t4⟩ := ct.1 y
        obtain ⟨l1, l2⟩ := tk_len hT (w := 18) (by decide) hq'.1 (by rw [y]; decide)
        rw [show zSl 18 = 3 by decide +kernel] at l1
        have he := eot_b (B := B) (p := q') ⟨hq'.1, l2⟩
        have w3 : w32 (q' + 3) = q' + 3 := w32_i (by omega) (by omega)
        obtain ⟨R3, o1, o2, o3, o4, ⟨o5, o6⟩, o7⟩ := r_opensO (o := 10) (Or.inl rfl) v1 v2 (by omega)
        have h21 : R3 176 21 = q' := o2.1.2.2.2.2.2
        have xr : rPost Z F' R1 = pX12_test_9 Z F' (upM R3 176 21 (q' + 3)) 176 1 1 := by
          rw [v6 y, o1, Option.bind_some, h21, w3]
        have xc2 : pX5_takeTest_38 f1 S (pX5_takeTest_8 f1 S Fc) M2 13 2 d (opN me) i = pX5_takeTest_8 f1 S Fc M3 13 2 d 1 (opN me) (i + 1) := by
          simp only [pX5_takeTest_38, pX5_takeTest_78, hc.1.1.1.o, if_true, t2, Option.bind_some, show ¬ (1 : Int) = 0 by decide, if_false, w1]
        rw [xc2, xr]
        have r4 := o2.at (v := q' + 3) (by omega)
        have g4 : FJ j R3 (upM R3 176 21 (q' + 3)) := FJ.g (FG.fp FP.p)
        have k26 : (upM R3 176 21 (q' + 3)) 176 26 = d := by rw [upM_i (by decide), o4]; exact v3
        have k28 : (upM R3 176 21 (q' + 3)) 176 28 = h + opN me + 1 := by rw [upM_i (by decide)]; exact o3
        have k203 : (upM R3 176 21 (q' + 3)) 203 = R3 203 := upM_r (by decide)
        generalize upM R3 176 21 (q' + 3) = R4 at *
        have kr : ∀ i, i < h + opN me → R4 203 i = R 203 i := fun i hi => by rw [k203, o6 i (by omega), v4, zr i (by omega)]
        have enx : nx T B q' = sk T B (q' + 3) := by unfold nx; rw [← l1]
        have hs := sk_b (T := T) (B := B) (p := q' + 3) (by omega)
        rw [← enx] at hs
        have o10 : opN 10 = 1 := rfl
        have IH := ih Fc F' M3 R4 (q' + 3) (nx T B q') P' C' (i + 1) me 10 h cO cA' LC LR (by omega) (by omega) (by omega) t3 r4 enx (by omega) hO (Or.inr ⟨rfl, v', e1, e2⟩) (by omega) hLC ⟨k26, by rw [o10]; exact k28⟩ (fun _ => by rw [k203]; exact o5) (fun w => by rw [kr h (by have := oe1 w; omega)]; exact ho1 w) (by
          rcases ht1 with t | t
          · exact Or.inl t
          · exact Or.inr (by rw [kr _ (by omega)]; exact t)) hh (by omega)
        have fF : FJ j R R4 := ((u6.trans v5).trans o7).trans g4
        rcases IH with u | u
        · exact Or.inl (u.of (fD.trans t4) fF)
        · exact Or.inr (u.of (fD.trans t4) fF (fun i hi => kr i (by omega)) (by omega) (by omega) (by omega) (by omega))
      · have t0 := ct.2 y
        obtain ⟨R3, x1, ⟨x2, x3, x4⟩, x5, x6, x7⟩ := v7 y
        have a6 := ln_app LC (cO ++ cA')
        have a7 := ln_app cO cA'
        obtain ⟨M3, d1, d2, d3⟩ := p_opC c2 (by omega) me
        rw [List.append_assoc] at d2
        obtain ⟨v2', e3, e4⟩ := hO.next e1 e2
        have lO : ln (cO ++ cA' ++ opL me) = ln cO + ln cA' + opN me := by rw [ln_app, ln_app, opL_ln]
        generalize cO ++ cA' ++ opL me = cO' at *
        have xc2 : pX5_takeTest_38 f1 S (pX5_takeTest_8 f1 S Fc) M2 13 2 d (opN me) i = pX5_takeTest_62 f1 S (pX5_takeTest_8 f1 S Fc) M3 13 2 d 0 i := by
          unfold opC at d1
          rcases hme with w | w
          · rw [if_pos w] at d1
            have em : M2 = M3 := Option.some.inj d1
            rw [← em]
            simp only [pX5_takeTest_38, hc.1.1.1.o, if_true, t0, Option.bind_some, oe0 w]
          · rw [if_neg (by omega), w, show kc 11 = 13 from rfl] at d1
            simp only [pX5_takeTest_38, hc.1.1.1.o, if_true, t0, Option.bind_some, oe1 w, show ¬ (1 : Int) = 0 by decide, if_false, d1]
        rw [xc2]
        have zr3 : ∀ i, i < h → R3 203 i = R 203 i := fun i hi => by rw [x4, zr i (by omega)]
        have ct2 := c_takes hT d2 (k := 272) (by decide)
        by_cases x : tk T B q' = 272
        · -- or
          obtain ⟨t1, M4, t2, t3, t4⟩ := ct2.1 x
          obtain ⟨l1, l2⟩ := tk_len hT (w := 19) (by decide) hq'.1 (by rw [x]; decide)
          rw [show zSl 19 = 2 by decide +kernel] at l1
          have he := eot_b (B := B) (p := q') ⟨hq'.1, l2⟩
          have w3 : w32 (q' + 2) = q' + 2 := w32_i (by omega) (by omega)
          obtain ⟨R4, o1, o2, o3, o4, ⟨o5, o6⟩, o7⟩ := r_opensO (o := 11) (Or.inr rfl) x1 x2 (by omega)
          have h21 : R4 176 21 = q' := o2.1.2.2.2.2.2
          have xr : rPost Z F' R1 = pX12_test_9 Z F' (upM R4 176 21 (q' + 2)) 176 1 1 := by
            rw [x6 x, o1, Option.bind_some, h21, w3]
          have xc3 : pX5_takeTest_62 f1 S (pX5_takeTest_8 f1 S Fc) M3 13 2 d 0 i = pX5_takeTest_8 f1 S Fc M4 13 2 d 0 1 (i + 1) := by
            simp only [pX5_takeTest_62, pX5_takeTest_78, hc.1.1.1.o, if_true, t2, Option.bind_some, show ¬ (1 : Int) = 0 by decide, if_false, w1]
          rw [xc3, xr]
          have r5 := o2.at (v := q' + 2) (by omega)
          have g5 : FJ j R4 (upM R4 176 21 (q' + 2)) := FJ.g (FG.fp FP.p)
          have k26 : (upM R4 176 21 (q' + 2)) 176 26 = d := by rw [upM_i (by decide), o4]; exact x3
          have k28 : (upM R4 176 21 (q' + 2)) 176 28 = h + 1 := by rw [upM_i (by decide)]; exact o3
          have k203 : (upM R4 176 21 (q' + 2)) 203 = R4 203 := upM_r (by decide)
          generalize upM R4 176 21 (q' + 2) = R5 at *
          have kr : ∀ i, i < h → R5 203 i = R 203 i := fun i hi => by rw [k203, o6 i (by omega), zr3 i hi]
          have enx : nx T B q' = sk T B (q' + 2) := by unfold nx; rw [← l1]
          have hs := sk_b (T := T) (B := B) (p := q' + 2) (by omega)
          rw [← enx] at hs
          have o11 : opN 11 = 1 := rfl
          have o00 : opN 0 = 0 := rfl
          have n00 : ln [] = 0 := rfl
          have IH := ih Fc F' M4 R5 (q' + 2) (nx T B q') P' C' (i + 1) 11 0 h cO' [] LC LR (by omega) (by omega) (by omega) (by rw [List.append_nil]; exact t3) (by rw [List.append_nil]; exact r5) enx (by omega) (Or.inr ⟨rfl, v2', e3, e4⟩) (Or.inl ⟨rfl, rfl⟩) (by omega) hLC ⟨k26, by rw [o11, o00]; omega⟩ (fun w => absurd w (by decide)) (fun _ => by rw [k203]; exact o5) (by
            rcases ht1 with t | t
            · exact Or.inl t
            · exact Or.inr (by rw [kr _ (by omega)]; exact t)) hh (by omega)
          have fF : FJ j R R5 := ((u6.trans x5).trans o7).trans g5
          rcases IH with u | u
          · exact Or.inl (u.of ((fD.trans d3).trans t4) fF)
          · exact Or.inr (u.of ((fD.trans d3).trans t4) fF kr (by omega) (by omega) (by omega) (by omega))
        · have t0' := ct2.2 x
          have xc3 : pX5_takeTest_62 f1 S (pX5_takeTest_8 f1 S Fc) M3 13 2 d 0 i = some (1, M3) := by
            simp only [pX5_takeTest_62, hc.1.1.1.o, if_true, t0', Option.bind_some]
          rw [xc3, x7 x]
          have hsk : sk T B q' = q' := by rw [u13]; exact rn_rn (by decide)
          exact Or.inr ⟨M3, R3, q', cO', v2', P', C', F', ⟨rfl, d2, fD.trans d3⟩, ⟨rfl, x1, u6.trans x5⟩, ⟨x3, x2, zr3⟩, ⟨e3, e4⟩, ⟨u12, hsk, u14⟩, ⟨⟨u15, u16⟩, u17⟩, by omega⟩
theorem test_step (hT : TOk T B) {d : Int} {f1 : ZS → ZM → Int → Int → Int → Option (Int × ZM)} (hd : 0 ≤ d ∧ d ≤ 10) (hf : FactOK S Z T B j d f1) : TestOK S Z T B j d (pX5_takeTest f1) := by
  have hb := hT.1
  intro M R p q P C LC LR h F hc hr hq hq1 hC hL hLC hst hh ht1 hF
  have hqT := hc.1.2.2.1
  have o00 : opN 0 = 0 := rfl
  have n00 : ln [] = 0 := rfl
  exact p_testL hT hd hf (T - q + 1).toNat zFU F M R p q P C 0 0 0 h [] [] LC LR (by omega) (Nat.le_of_lt (zFU_gt (by omega))) hF (by show CJ S M T B q (LC ++ []) P; rw [List.append_nil]; exact hc) (by show RJ Z R T B p (LR ++ []) P j; rw [List.append_nil]; exact hr) hq hC (Or.inl ⟨rfl, rfl⟩) (Or.inl ⟨rfl, rfl⟩) (by omega) hLC ⟨hst.1, by rw [o00, hst.2]; omega⟩ (fun w => absurd w (by decide)) (fun w => absurd w (by decide)) ht1 hh (by omega)
theorem p_allOK (hT : TOk T B) : ∀ (e n : Nat), e ≤ 10 → 2 * e + 1 ≤ n → FactOK S Z T B j (10 - (e : Int)) (tfX5 n).1 ∧ TestOK S Z T B j (10 - (e : Int)) (tfX5 (n + 1)).2 := by
  intro e
  induction e with
  | zero =>
    intro n he hn
    obtain ⟨n, rfl⟩ : ∃ f, n = f + 1 := ⟨n - 1, by omega⟩
    have f0 : FactOK S Z T B j (10 - ((0 : Nat) : Int)) (tfX5 (n + 1)).1 := fact_step hT (by omega) (fun u => absurd u (by omega)) (fun u => absurd u (by omega))
    exact ⟨f0, test_step hT (by omega) f0⟩
  | succ e ih =>
    intro n he hn
    obtain ⟨n, rfl⟩ : ∃ f, n = f + 1 := ⟨n - 1, by omega⟩
    have e1 : (10 : Int) - ((e + 1 : Nat) : Int) + 1 = 10 - (e : Int) := by omega
    have f0 : FactOK S Z T B j (10 - ((e + 1 : Nat) : Int)) (tfX5 (n + 1)).1 := fact_step hT (by omega) (fun _ => by rw [e1]; exact (ih n (by omega) (by omega)).1) (fun _ => by
      rw [e1]
      obtain ⟨m, rfl⟩ : ∃ f, n = f + 1 := ⟨n - 1, by omega⟩
      exact (ih m (by omega) (by omega)).2)
    exact ⟨f0, test_step hT (by omega) f0⟩
/-- a test, in both -/
theorem p_test (hT : TOk T B) : TestOK S Z T B j 0 qX5_takeTest := (p_allOK (S := S) (Z := Z) (j := j) hT 10 39 (by decide) (by decide)).2
end
