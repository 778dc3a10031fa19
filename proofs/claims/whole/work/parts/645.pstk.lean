/-! A RULE READ: the reference's row of what is open -/
def FJ (j : Int) (R R' : ZM) : Prop := (∀ x, x ≠ 176 → x ≠ 197 → x ≠ 198 → x ≠ 203 → R' x = R x) ∧ (∀ i, i ≠ 21 → i ≠ 22 → i ≠ 25 → i ≠ 26 → i ≠ 27 → i ≠ 28 → R' 176 i = R 176 i) ∧ ∀ i, (i < 300 * j ∨ 300 * j + 300 ≤ i) → R' 197 i = R 197 i ∧ R' 198 i = R 198 i
/-- both find the same fault, in a test -/
def BadT (T : Int) (M : ZM) (x : Option (Int × ZM)) (j : Int) (R : ZM) (y : Option ZM) : Prop := ∃ f M' R', (0 < f ∧ f ≤ 9000) ∧ (x = some (0, M') ∧ M' 2 5 = f ∧ FD M M' ∧ (0 ≤ M' 13 1 ∧ M' 13 1 ≤ 400)) ∧ (y = some R' ∧ R' 176 22 = f ∧ FJ j R R' ∧ (0 ≤ R' 176 21 ∧ R' 176 21 ≤ T + 1))
noncomputable def rEnd (S : ZS) (F : Nat) (R : ZM) : Option ZM := (pX12_top S R 176).bind fun q35 => if q35.1 = 12 then ((pX12_byteHere S q35.2 176).bind fun q38 => if q38.1 = 93 then (pX12_test_164 S (pX12_test_9 S F) q38.2 176 0 1) else ((pX12_fails S q38.2 176 0 (q38.2 176 21)).bind fun q45 => pX12_test_164 S (pX12_test_9 S F) q45 176 0 1)) else (pX12_test_199 S (pX12_test_9 S F) q35.2 176 0 0)
noncomputable def rPost (S : ZS) (F : Nat) (R : ZM) : Option ZM := (pX12_blanks S R 176).bind fun q9 => (pX12_stood S q9 176 18).bind fun q11 => (pX12_stood S q11.2 176 19).bind fun q13 => (pX12_answers S q13.2 176 10).bind fun q15 => if q11.1 = 0 then (if q13.1 = 0 then ((pX12_answers S q15 176 11).bind fun q33 => rEnd S F q33) else (pX12_test_82 S (pX12_test_9 S F) q15 176 1 q11.1 q13.1)) else (pX12_test_82 S (pX12_test_9 S F) q15 176 1 q11.1 q13.1)
section
variable {S : ZS} {R M : ZM} {T : Int} {B : Int → Int} {p q P j : Int} {L : List (Int × Int)}
theorem FJ.refl (R : ZM) : FJ j R R := ⟨fun _ _ _ _ _ => rfl, fun _ _ _ _ _ _ _ => rfl, fun _ _ => ⟨rfl, rfl⟩⟩
theorem FJ.trans {R R' R'' : ZM} (h : FJ j R R') (h' : FJ j R' R'') : FJ j R R'' := ⟨fun x a b c d => (h'.1 x a b c d).trans (h.1 x a b c d), fun i a b c d e f => (h'.2.1 i a b c d e f).trans (h.2.1 i a b c d e f), fun i a => ⟨(h'.2.2 i a).1.trans (h.2.2 i a).1, (h'.2.2 i a).2.trans (h.2.2 i a).2⟩⟩
theorem FJ.g {R' : ZM} (h : FG j R R') : FJ j R R' := ⟨fun x a b c _ => h.1 x a b c, fun i a b c _ e _ => h.2.1 i a b c e, h.2.2⟩
theorem PtW.fj {R' : ZM} (h : PtW R) (f : FJ j R R') : PtW R' := h.j (fun i x => f.2.1 i (by omega) (by omega) (by omega) (by omega) (by omega) (by omega))
theorem RTp.fj {R' : ZM} (h : RTp R T B) (f : FJ j R R') : RTp R' T B := ⟨by rw [f.2.1 20 (by decide) (by decide) (by decide) (by decide) (by decide) (by decide)]; exact h.1, by rw [f.1 196 (by decide) (by decide) (by decide) (by decide)]; exact h.2⟩
theorem RJ.st {R' : ZM} (h : RJ S R T B p L P j) (e : ∀ x, x ≠ 176 → x ≠ 203 → R' x = R x) (e2 : ∀ i, i ≠ 26 → i ≠ 28 → R' 176 i = R 176 i) : RJ S R' T B p L P j ∧ FJ j R R' := by
  have f : FJ j R R' := ⟨fun x a _ _ d => e x a d, fun i _ _ _ a _ b => e2 i a b, fun i _ => by rw [e 197 (by decide) (by decide), e 198 (by decide) (by decide)]; exact ⟨rfl, rfl⟩⟩
  refine ⟨?_, f⟩
  obtain ⟨⟨h1, h2, h3, h4, h5, h6⟩, ⟨a1, a2⟩, ⟨b1, b2⟩, c⟩ := h
  exact ⟨⟨h1, h2.fj f, h3.fj f, h4, by rw [e2 22 (by decide) (by decide)]; exact h5, by rw [e2 21 (by decide) (by decide)]; exact h6⟩, ⟨by rw [e2 23 (by decide) (by decide), e2 29 (by decide) (by decide)]; exact a1, a2⟩, ⟨by rw [e2 25 (by decide) (by decide)]; exact b1, by rw [e 197 (by decide) (by decide), e 198 (by decide) (by decide)]; exact b2⟩, by rw [e2 27 (by decide) (by decide)]; exact c⟩
theorem r_top (hS : ShW S) (hM : PtW R) {h : Int} (e : R 176 28 = h) (hh : 0 ≤ h ∧ h ≤ 100) : pX12_top S R 176 = some (if h = 0 then -1 else R 203 (h - 1), R) := by
  by_cases z : h = 0
  · rw [if_pos z]
    simp only [pX12_top, pX12_top_22, hS.o, if_true, e, if_pos z]
  · rw [if_neg z]
    have w1 : w32 (h - 1) = h - 1 := w32_i (by omega) (by omega)
    simp only [pX12_top, pX12_top_22, hS.o, hM.o, if_true, e, if_neg z, w1, show 0 ≤ h - 1 by omega, show h - 1 < 402 by omega, and_self]
theorem r_answ {o : Int} (ho : o ≠ -1) : ∀ (k fuel : Nat) (R : ZM) (L : List (Int × Int)) (h d : Int), k < fuel → RJ S R T B p L P j → ln L + k < 300 → R 176 28 = h → R 176 26 = d → (-100 ≤ d - k ∧ d ≤ 100) → ((k : Int) ≤ h ∧ h ≤ 100) → (∀ i, h - k ≤ i → i < h → R 203 i = o) → (h = k ∨ R 203 (h - k - 1) ≠ o) → ∃ R', pX12_answers_0 S fuel R 176 o = some R' ∧ RJ S R' T B p (L ++ List.replicate k (o, 0)) P j ∧ R' 176 28 = h - k ∧ R' 176 26 = d - (if o = 9 then (k : Int) else 0) ∧ R' 203 = R 203 ∧ FJ j R R' := by
  intro k
  induction k with
  | zero =>
    intro fuel R L h d hf hr hl e28 e26 hd hh hrow hno
    obtain ⟨f, rfl⟩ : ∃ f, fuel = f + 1 := ⟨fuel - 1, by omega⟩
    have tp := r_top hr.1.1 hr.1.2.1 e28 (by omega)
    have n1 : ¬ (if h = 0 then (-1 : Int) else R 203 (h - 1)) = o := by
      by_cases z : h = 0
      · rw [if_pos z]; exact fun u => ho u.symm
      · rw [if_neg z]
        rcases hno with u | u
        · exact absurd u (by omega)
        · rw [show h - ((0 : Nat) : Int) - 1 = h - 1 by omega] at u; exact u
    refine ⟨R, ?_, by rw [List.replicate_zero, List.append_nil]; exact hr, by omega, ?_, rfl, FJ.refl R⟩
    · simp only [pX12_answers_0, pX12_answers_54, hr.1.1.o, if_true, tp, Option.bind_some, if_neg n1]
    · rw [e26]
      by_cases z : o = 9
      · rw [if_pos z]; omega
      · rw [if_neg z]; omega
  | succ k ih =>
    intro fuel R L h d hf hr hl e28 e26 hd hh hrow hno
    obtain ⟨f, rfl⟩ : ∃ f, fuel = f + 1 := ⟨fuel - 1, by omega⟩
    have tp := r_top hr.1.1 hr.1.2.1 e28 (by omega)
    rw [if_neg (by omega), hrow (h - 1) (by omega) (by omega)] at tp
    have h5 := hr.1.2.2.2.2.1
    have ln0 := ln_nn L
    obtain ⟨R1, a1, a2, a3⟩ := r_entry hr (a := o) (b := 0) (by show ln L < 300; omega)
    have c28 : R1 176 28 = h := by rw [a3.2.1 28 (by decide) (by decide) (by decide) (by decide)]; exact e28
    have c26 : R1 176 26 = d := by rw [a3.2.1 26 (by decide) (by decide) (by decide) (by decide)]; exact e26
    have c203 : R1 203 = R 203 := a3.1 203 (by decide) (by decide) (by decide)
    have w1 : w32 (h - 1) = h - 1 := w32_i (by omega) (by omega)
    generalize hy : (if o = 9 then (1 : Int) else 0) = y
    have hyb : 0 ≤ y ∧ y ≤ 1 := by
      by_cases z : o = 9
      · rw [if_pos z] at hy; omega
      · rw [if_neg z] at hy; omega
    have w2 : w32 (d - y) = d - y := w32_i (by omega) (by omega)
    generalize hR2 : upM R1 176 28 (h - 1) = R2
    have d26 : R2 176 26 = d := by rw [← hR2, upM_i (by decide)]; exact c26
    generalize hR3 : upM R2 176 26 (d - y) = R3
    have x1 : ∀ x, x ≠ 176 → x ≠ 203 → R3 x = R1 x := fun x u _ => by rw [← hR3, upM_r u, ← hR2, upM_r u]
    have x2 : ∀ i, i ≠ 26 → i ≠ 28 → R3 176 i = R1 176 i := fun i u v => by rw [← hR3, upM_i u, ← hR2, upM_i v]
    have x203 : R3 203 = R 203 := by rw [← hR3, upM_r (by decide), ← hR2, upM_r (by decide)]; exact c203
    obtain ⟨r3, f3⟩ := a2.st x1 x2
    have f28 : R3 176 28 = h - 1 := by rw [← hR3, upM_i (by decide), ← hR2, upM_s]
    have f26 : R3 176 26 = d - y := by rw [← hR3, upM_s]
    have l3 : ln (L ++ [(o, 0)]) = ln L + 1 := by rw [ln_app, ln_one]
    obtain ⟨R', b1, b2, b3, b4, b5, b6⟩ := ih f R3 (L ++ [(o, 0)]) (h - 1) (d - y) (by omega) r3 (by omega) f28 f26 (by omega) (by omega) (fun i u v => by rw [x203]; exact hrow i (by omega) (by omega)) (by
      rcases hno with u | u
      · exact Or.inl (by omega)
      · refine Or.inr ?_
        rw [x203, show h - 1 - (k : Int) - 1 = h - ((k + 1 : Nat) : Int) - 1 by omega]; exact u)
    have eL : L ++ [(o, 0)] ++ List.replicate k (o, (0 : Int)) = L ++ List.replicate (k + 1) (o, 0) := by rw [List.append_assoc, List.replicate_succ]; rfl
    rw [eL] at b2
    refine ⟨R', ?_, b2, by omega, ?_, b5.trans x203, ((FJ.g a3).trans f3).trans b6⟩
    · simp only [pX12_answers_0, pX12_answers_47, hr.1.1.o, if_true, tp, Option.bind_some, if_pos h5, a1, zlet, c28, w1, hR2, d26, hy, w2, hR3, b1]
    · rw [b4, ← hy]
      by_cases z : o = 9
      · rw [if_pos z, if_pos z, if_pos z]; omega
      · rw [if_neg z, if_neg z, if_neg z]; omega
/-- one waiting sign, or none -/
theorem r_ans1 {o m h d : Int} (ho : o = 10 ∨ o = 11) (hr : RJ S R T B p L P j) (hl : ln L < 299) (e28 : R 176 28 = h) (e26 : R 176 26 = d) (hd : 0 ≤ d ∧ d ≤ 20) (hh : 0 ≤ h ∧ h ≤ 100) (hm : (m = o ∧ 1 ≤ h ∧ R 203 (h - 1) = o ∧ (h = 1 ∨ R 203 (h - 2) ≠ o)) ∨ (m = 0 ∧ (h = 0 ∨ R 203 (h - 1) ≠ o))) : ∃ R', pX12_answers S R 176 o = some R' ∧ RJ S R' T B p (L ++ opL m) P j ∧ R' 176 28 = h - opN m ∧ R' 176 26 = d ∧ R' 203 = R 203 ∧ FJ j R R' := by
  have ln0 := ln_nn L
  rcases hm with ⟨hm, h1, h2, h3⟩ | ⟨hm, h3⟩
  · obtain ⟨R', b1, b2, b3, b4, b5, b6⟩ := r_answ (o := o) (by omega) 1 zFU R L h d (zFU_gt (by decide)) hr (by omega) e28 e26 (by omega) (by omega) (fun i u v => by rw [show i = h - 1 by omega]; exact h2) (by
      rcases h3 with u | u
      · exact Or.inl (by omega)
      · refine Or.inr ?_
        rw [show h - ((1 : Nat) : Int) - 1 = h - 2 by omega]; exact u)
    rw [if_neg (by omega)] at b4
    have eo : opL m = [(o, 0)] := by unfold opL; rw [if_neg (by omega), hm]
    have en : opN m = 1 := by unfold opN; rw [if_neg (by omega)]
    exact ⟨R', b1, by rw [eo]; exact b2, by rw [en]; omega, by omega, b5, b6⟩
  · obtain ⟨R', b1, b2, b3, b4, b5, b6⟩ := r_answ (o := o) (by omega) 0 zFU R L h d (zFU_gt (by decide)) hr (by omega) e28 e26 (by omega) (by omega) (fun i u v => absurd v (by omega)) (by
      rcases h3 with u | u
      · exact Or.inl (by omega)
      · refine Or.inr ?_
        rw [show h - ((0 : Nat) : Int) - 1 = h - 1 by omega]; exact u)
    rw [if_neg (by omega)] at b4
    subst hm
    exact ⟨R', b1, b2, by rw [show opN 0 = 0 from rfl]; omega, by omega, b5, b6⟩
theorem r_op40 {h o : Int} (hr : RJ S R T B p L P j) (e28 : R 176 28 = h) (hh : 0 ≤ h ∧ h ≤ 100) : ∃ R', pX12_opens_40 S R 176 o = some R' ∧ RJ S R' T B p L P j ∧ R' 176 28 = h + 1 ∧ R' 176 26 = R 176 26 ∧ (R' 203 h = o ∧ ∀ i, i ≠ h → R' 203 i = R 203 i) ∧ FJ j R R' := by
  have w1 : w32 (h + 1) = h + 1 := w32_i (by omega) (by omega)
  generalize hR1 : upM R 203 h o = R1
  have d28 : R1 176 28 = h := by rw [← hR1, upM_r (by decide)]; exact e28
  generalize hR2 : upM R1 176 28 (h + 1) = R2
  obtain ⟨r2, f2⟩ := hr.st (R' := R2) (fun x u v => by rw [← hR2, upM_r u, ← hR1, upM_r v]) (fun i _ v => by rw [← hR2, upM_i v, ← hR1, upM_r (by decide)])
  refine ⟨R2, ?_, r2, by rw [← hR2, upM_s], by rw [← hR2, upM_i (by decide), ← hR1, upM_r (by decide)], ⟨by rw [← hR2, upM_r (by decide), ← hR1, upM_s], fun i u => by rw [← hR2, upM_r (by decide), ← hR1, upM_i u]⟩, f2⟩
  simp only [pX12_opens_40, hr.1.1.o, hr.1.2.1.o, if_true, e28, hh.1, show h < 402 by omega, and_self, zlet, hR1, d28, w1, hR2]
theorem r_op30 {h d o : Int} (hr : RJ S R T B p L P j) (e28 : R 176 28 = h) (e26 : R 176 26 = d) (hh : 0 ≤ h ∧ h ≤ 100) (hd : 0 ≤ d ∧ d ≤ 20) : ∃ R', pX12_opens_30 S R 176 o = some R' ∧ RJ S R' T B p L P j ∧ R' 176 28 = h + 1 ∧ R' 176 26 = d + 1 ∧ (R' 203 h = o ∧ ∀ i, i ≠ h → R' 203 i = R 203 i) ∧ FJ j R R' := by
  have w1 : w32 (d + 1) = d + 1 := w32_i (by omega) (by omega)
  generalize hR1 : upM R 176 26 (d + 1) = R1
  obtain ⟨r1, f1⟩ := hr.st (R' := R1) (fun x u _ => by rw [← hR1, upM_r u]) (fun i u _ => by rw [← hR1, upM_i u])
  obtain ⟨R', b1, b2, b3, b4, b5, b6⟩ := r_op40 (o := o) r1 (by rw [← hR1, upM_i (by decide)]; exact e28) hh
  refine ⟨R', ?_, b2, b3, by rw [b4, ← hR1, upM_s], ⟨b5.1, fun i u => by rw [b5.2 i u, ← hR1, upM_r (by decide)]⟩, f1.trans b6⟩
  simp only [pX12_opens_30, hr.1.1.o, if_true, e26, w1, zlet, hR1, b1]
/-- a denial or a bracket is opened -/
theorem r_opens {h d o : Int} (ho : o = 9 ∨ o = 12) (hr : RJ S R T B p L P j) (e28 : R 176 28 = h) (e26 : R 176 26 = d) (hh : 0 ≤ h ∧ h ≤ 100) (hd : 0 ≤ d ∧ d < 10) : ∃ R', pX12_opens S R 176 o = some R' ∧ RJ S R' T B p L P j ∧ R' 176 28 = h + 1 ∧ R' 176 26 = d + 1 ∧ (R' 203 h = o ∧ ∀ i, i ≠ h → R' 203 i = R 203 i) ∧ FJ j R R' := by
  obtain ⟨R', b1, b2⟩ := r_op30 (o := o) hr e28 e26 hh (by omega)
  refine ⟨R', ?_, b2⟩
  have e : pX12_opens S R 176 o = pX12_opens_12 S R 176 o := by
    rcases ho with u | u <;> subst u <;> rfl
  rw [e]
  simp only [pX12_opens_12, hr.1.1.o, if_true, e26, show ¬ d = 10 by omega, if_false, b1]
/-- one too deep -/
theorem r_opensX (hT : TOk T B) {h o : Int} (ho : o = 9 ∨ o = 12) (hr : RJ S R T B p L P j) (e28 : R 176 28 = h) (e26 : R 176 26 = 10) (hh : 0 ≤ h ∧ h ≤ 100) : ∃ R', pX12_opens S R 176 o = some R' ∧ R' 176 22 = 1 + 8 * p + 2 ∧ R' 176 21 = p ∧ FJ j R R' := by
  have hb := hT.1
  obtain ⟨h1, h2, h3, h4, h5, h6⟩ := hr.1
  have fl := r_fails (M := R) (k := 2) (q := p) h1 (by omega) (by decide)
  rw [if_pos h5] at fl
  have w1 : w32 (h + 1) = h + 1 := w32_i (by omega) (by omega)
  have w2 : w32 (10 + 1) = 11 := by decide
  generalize hR1 : upM R 176 22 (1 + 8 * p + 2) = R1 at fl
  have c26 : R1 176 26 = 10 := by rw [← hR1, upM_i (by decide)]; exact e26
  generalize hR2 : upM R1 176 26 11 = R2
  have c28 : R2 176 28 = h := by rw [← hR2, upM_i (by decide), ← hR1, upM_i (by decide)]; exact e28
  have c37 : R2 176 37 = 203 := by rw [← hR2, upM_i (by decide), ← hR1, upM_i (by decide)]; simp [hr.1.2.1.o]
  generalize hR3 : upM R2 203 h o = R3
  have d28 : R3 176 28 = h := by rw [← hR3, upM_r (by decide)]; exact c28
  generalize hR4 : upM R3 176 28 (h + 1) = R4
  have y1 : ∀ x, x ≠ 176 → x ≠ 203 → R4 x = R x := fun x u v => by rw [← hR4, upM_r u, ← hR3, upM_r v, ← hR2, upM_r u, ← hR1, upM_r u]
  have y2 : ∀ i, i ≠ 22 → i ≠ 26 → i ≠ 28 → R4 176 i = R 176 i := fun i u v w => by rw [← hR4, upM_i w, ← hR3, upM_r (by decide), ← hR2, upM_i v, ← hR1, upM_i u]
  refine ⟨R4, ?_, by rw [← hR4, upM_i (by decide), ← hR3, upM_r (by decide), ← hR2, upM_i (by decide), ← hR1, upM_s], by rw [y2 21 (by decide) (by decide) (by decide)]; exact h6, ⟨fun x a _ _ d => y1 x a d, fun i _ a _ b _ c => y2 i a b c, fun i _ => by rw [y1 197 (by decide) (by decide), y1 198 (by decide) (by decide)]; exact ⟨rfl, rfl⟩⟩⟩
  have e : pX12_opens S R 176 o = pX12_opens_12 S R 176 o := by
    rcases ho with u | u <;> subst u <;> rfl
  rw [e]
  simp only [pX12_opens_12, pX12_opens_30, pX12_opens_40, hr.1.1.o, if_true, e26, h6, fl, Option.bind_some, c26, w2, zlet, hR2, c37, c28, hh.1, show h < 402 by omega, and_self, hR3, d28, w1, hR4]
/-- a joining sign is opened -/
theorem r_opensO {h o : Int} (ho : o = 10 ∨ o = 11) (hr : RJ S R T B p L P j) (e28 : R 176 28 = h) (hh : 0 ≤ h ∧ h ≤ 100) : ∃ R', pX12_opens S R 176 o = some R' ∧ RJ S R' T B p L P j ∧ R' 176 28 = h + 1 ∧ R' 176 26 = R 176 26 ∧ (R' 203 h = o ∧ ∀ i, i ≠ h → R' 203 i = R 203 i) ∧ FJ j R R' := by
  obtain ⟨R', b1, b2⟩ := r_op40 (o := o) hr e28 hh
  refine ⟨R', ?_, b2⟩
  rw [← b1]
  rcases ho with u | u <;> subst u <;> rfl
theorem r_loopX (hS : ShW S) (hf : R 176 22 ≠ 0) (F : Nat) (w : Int) : pX12_test_9 S (F + 1) R 176 w 1 = some R := by
  simp only [pX12_test_9, pX12_test_202, hS.o, if_true, show ¬ (1 : Int) = 0 by decide, if_false, if_neg hf]
theorem r_loopW (hr : RJ S R T B p L P j) (F : Nat) : pX12_test_9 S (F + 1) R 176 0 1 = (pX12_answers S R 176 9).bind fun R1 => rPost S F R1 := by
  have h5 := hr.1.2.2.2.2.1
  simp only [pX12_test_9, rPost, rEnd, hr.1.1.o, if_true, show ¬ (1 : Int) = 0 by decide, if_false, if_pos h5]
theorem r_loopF (hr : RJ S R T B p L P j) (F : Nat) : pX12_test_9 S (F + 1) R 176 1 1 = (pX12_fact S R 176).bind fun q47 => pX12_test_9 S F q47.2 176 (if q47.1 = 0 then (1 : Int) else 0) 1 := by
  have h5 := hr.1.2.2.2.2.1
  simp only [pX12_test_9, hr.1.1.o, if_true, show ¬ (1 : Int) = 0 by decide, if_false, if_pos h5]
/-- a fact begins -/
theorem r_fact (hT : TOk T B) (hr : RJ S R T B p L P j) (hq : q = sk T B p) : RJ S (upM R 176 21 q) T B q L P j ∧ pX12_fact S R 176 = if tk T B q = 274 then ((pX12_opens S (upM R 176 21 q) 176 9).bind fun R1 => some (0, upM R1 176 21 (w32 (R1 176 21 + 3)))) else if bt T B q = 91 then ((pX12_opens S (upM R 176 21 q) 176 12).bind fun R1 => some (0, upM R1 176 21 (w32 (R1 176 21 + 1)))) else (pX12_compared S (upM R 176 21 q) 176).bind fun R1 => some (1, R1) := by
  obtain ⟨b1, b2⟩ := hr.sk hT
  rw [← hq] at b1 b2
  refine ⟨b2, ?_⟩
  have bh := b2.byte hT
  generalize upM R 176 21 q = R1 at *
  obtain ⟨h1, h2, h3, h4, h5, h6⟩ := b2.1
  have st := r_stood h1 h2 hT h3 (w := 17) (by decide) (by rw [h6]; exact h4)
  rw [h6, show (256 : Int) + (cw 17 : Int) = 274 from rfl] at st
  by_cases z : tk T B q = 274
  · rw [if_pos z] at st ⊢
    simp only [pX12_fact, hr.1.1.o, if_true, b1, Option.bind_some, st, show ¬ (1 : Int) = 0 by decide, if_false, zlet]
  · rw [if_neg z] at st ⊢
    by_cases y : bt T B q = 91
    · rw [if_pos y]
      simp only [pX12_fact, hr.1.1.o, if_true, b1, Option.bind_some, st, bh, if_pos y, zlet]
    · rw [if_neg y]
      simp only [pX12_fact, hr.1.1.o, if_true, b1, Option.bind_some, st, bh, if_neg y]
theorem BadT.of {M1 R1 : ZM} {x : Option (Int × ZM)} {y : Option ZM} (f : FD M M1) (g : FJ j R R1) (h : BadT T M1 x j R1 y) : BadT T M x j R y := by
  obtain ⟨f0, M', R', h0, ⟨h1, h2, h3, h4⟩, ⟨h5, h6, h7, h8⟩⟩ := h
  exact ⟨f0, M', R', h0, ⟨h1, h2, f.trans h3, h4⟩, ⟨h5, h6, g.trans h7, h8⟩⟩
theorem r_goesG (hS : ShW S) (hM : PtW M) (hT : TOk T B) (ht : RTp M T B) (hp : 0 ≤ M 176 21 ∧ M 176 21 ≤ 900) (hf : M 176 22 ≠ 0) : ∃ M', pX12_goesOn S M 176 = some (0, M') ∧ M' 176 22 = M 176 22 ∧ FP M M' := by
  have b1 := r_blanks hS hM hT ht (by omega)
  have e22 : (upM M 176 21 (sk T B (M 176 21))) 176 22 = M 176 22 := upM_i (by decide)
  refine ⟨upM (upM M 176 21 (sk T B (M 176 21))) 176 21 (w32 ((upM M 176 21 (sk T B (M 176 21))) 176 21 + 1)), ?_, by rw [upM_i (by decide)]; exact e22, FP.p.trans FP.p⟩
  simp only [pX12_goesOn, pX12_goesOn_40, pX12_goesOn_62, pX12_goesOn_63, hS.o, if_true, b1, Option.bind_some, e22, if_neg hf, zlet, true_or]
theorem c_takes (hT : TOk T B) (h : CJ S M T B q L P) {k : Int} (hk : k ≠ 303) : (tk T B q = k → q < T ∧ ∃ M', pX8_takes S M 2 k = some (1, M') ∧ CJ S M' T B (nx T B q) L P ∧ FD M M') ∧ (tk T B q ≠ k → pX8_takes S M 2 k = some (0, M)) := by
  constructor
  · intro z
    have hqT : q < T := by
      rcases Int.lt_or_le q T with u | u
      · exact u
      · rw [tk_end u] at z; exact absurd z.symm hk
    obtain ⟨M', a1, a2, a3⟩ := c_advance hT h.1 hqT
    refine ⟨hqT, M', ?_, h.fc a2 a3, FD.c a3⟩
    simp only [pX8_takes, h.1.1.1.o, if_true, c_token h.1, Option.bind_some, if_pos z, a1]
  · intro z
    simp only [pX8_takes, h.1.1.1.o, if_true, c_token h.1, Option.bind_some, if_neg z]
theorem jnA {a b : Int} (ha : a = 0 ∨ a = 1) (hb : b = 0 ∨ b = 1) : jn 10 a b = 0 ∨ jn 10 a b = 1 := by
  have e : jn 10 a b = zandl a b := rfl
  rw [e]
  rcases ha with u | u <;> rcases hb with v | v <;> subst u <;> subst v <;> decide
theorem jnO {a b : Int} (ha : a = 0 ∨ a = 1) (hb : b = 0 ∨ b = 1) : jn 11 a b = 0 ∨ jn 11 a b = 1 := by
  have e : jn 11 a b = zorl a b := rfl
  rw [e]
  rcases ha with u | u <;> rcases hb with v | v <;> subst u <;> subst v <;> decide
theorem jnN {a : Int} (ha : a = 0 ∨ a = 1) : w64 (1 - a) = 0 ∨ w64 (1 - a) = 1 := by
  rcases ha with u | u <;> subst u <;> decide
end
