/-! A RULE READ: the rows of clauses -/
def FLc (j : Int) (R R' : ZM) : Prop := (∀ x, x ≠ 176 → x ≠ 197 → x ≠ 198 → x ≠ 200 → x ≠ 201 → x ≠ 202 → x ≠ 203 → R' x = R x) ∧ (∀ i, i ≠ 21 → i ≠ 22 → i ≠ 25 → i ≠ 26 → i ≠ 27 → i ≠ 28 → R' 176 i = R 176 i) ∧ (∀ i, (i < 300 * j ∨ 300 * j + 300 ≤ i) → R' 197 i = R 197 i ∧ R' 198 i = R 198 i) ∧ ∀ i, (i < 12 * j ∨ 12 * j + 12 ≤ i) → R' 200 i = R 200 i ∧ R' 201 i = R 201 i ∧ R' 202 i = R 202 i
/-- the entries of clauses, in the reference -/
def flR : List Cl → List (Int × Int)
  | [] => []
  | c :: cs => c.1 ++ c.2 ++ flR cs
/-- where clauses begin and end, in the reference -/
def RRow (R : ZM) (j : Int) : Int → Int → List Cl → Prop
  | _, _, [] => True
  | n, k, c :: cs => (R 200 (12 * j + n) = k ∧ R 201 (12 * j + n) = k + ln c.1 ∧ R 202 (12 * j + n) = k + ln c.1 + ln c.2) ∧ RRow R j (n + 1) (k + ln c.1 + ln c.2) cs
theorem flR_ln : ∀ cl : List Cl, ln (flR cl) = lnR cl := by
  intro cl
  induction cl with
  | nil => rfl
  | cons c cs ih =>
    show ln (c.1 ++ c.2 ++ flR cs) = (c.1.length : Int) + (c.2.length : Int) + lnR cs
    rw [ln_app, ln_app, ih]; rfl
theorem flR_snoc : ∀ (cl : List Cl) (c : Cl), flR (cl ++ [c]) = flR cl ++ (c.1 ++ c.2) := by
  intro cl c
  induction cl with
  | nil => show c.1 ++ c.2 ++ [] = [] ++ (c.1 ++ c.2); rw [List.append_nil, List.nil_append]
  | cons a cs ih =>
    show a.1 ++ a.2 ++ flR (cs ++ [c]) = a.1 ++ a.2 ++ flR cs ++ (c.1 ++ c.2)
    rw [ih, ← List.append_assoc]
theorem flC_snoc : ∀ (cl : List Cl) (c : Cl), flC (cl ++ [c]) = flC cl ++ clC c := by
  intro cl c
  induction cl with
  | nil => show clC c ++ [] = [] ++ clC c; rw [List.append_nil, List.nil_append]
  | cons a cs ih =>
    show clC a ++ flC (cs ++ [c]) = clC a ++ flC cs ++ clC c
    rw [ih, List.append_assoc]
theorem flC_ln : ∀ cl : List Cl, ln (flC cl) = ln (flR cl) + (cl.length : Int) := by
  intro cl
  induction cl with
  | nil => rfl
  | cons c cs ih =>
    have e1 : ln (flC (c :: cs)) = ln (clC c) + ln (flC cs) := ln_app _ _
    have e2 : ln (clC c) = ln c.1 + ln c.2 + 1 := by
      show ln (c.1 ++ c.2 ++ [(if c.2.length = 0 then 16 else 17, 0)]) = _
      rw [ln_app, ln_app, ln_one]
    have e3 : ln (flR (c :: cs)) = ln c.1 + ln c.2 + ln (flR cs) := by
      show ln (c.1 ++ c.2 ++ flR cs) = _
      rw [ln_app, ln_app]
    have e4 : ((c :: cs).length : Int) = (cs.length : Int) + 1 := by simp only [List.length_cons]; omega
    omega
section
variable {S : ZS} {R M : ZM} {T : Int} {B : Int → Int} {p q P j : Int} {L : List (Int × Int)}
theorem FLc.refl (R : ZM) : FLc j R R := ⟨fun _ _ _ _ _ _ _ _ => rfl, fun _ _ _ _ _ _ _ => rfl, fun _ _ => ⟨rfl, rfl⟩, fun _ _ => ⟨rfl, rfl, rfl⟩⟩
theorem FLc.trans {R R' R'' : ZM} (h : FLc j R R') (h' : FLc j R' R'') : FLc j R R'' := ⟨fun x a b c d e f g => (h'.1 x a b c d e f g).trans (h.1 x a b c d e f g), fun i a b c d e f => (h'.2.1 i a b c d e f).trans (h.2.1 i a b c d e f), fun i a => ⟨(h'.2.2.1 i a).1.trans (h.2.2.1 i a).1, (h'.2.2.1 i a).2.trans (h.2.2.1 i a).2⟩, fun i a => ⟨(h'.2.2.2 i a).1.trans (h.2.2.2 i a).1, (h'.2.2.2 i a).2.1.trans (h.2.2.2 i a).2.1, (h'.2.2.2 i a).2.2.trans (h.2.2.2 i a).2.2⟩⟩
theorem FLc.of {R' : ZM} (h : FJ j R R') : FLc j R R' := ⟨fun x a b c _ _ _ g => h.1 x a b c g, h.2.1, h.2.2, fun i _ => ⟨by rw [h.1 200 (by decide) (by decide) (by decide) (by decide)], by rw [h.1 201 (by decide) (by decide) (by decide) (by decide)], by rw [h.1 202 (by decide) (by decide) (by decide) (by decide)]⟩⟩
theorem FLc.row {x i v : Int} (hx : x = 200 ∨ x = 201 ∨ x = 202) (hi : 12 * j ≤ i ∧ i < 12 * j + 12) : FLc j R (upM R x i v) := by
  refine ⟨fun y a b c d e f g => upM_r (by omega), fun k _ _ _ _ _ _ => by rw [upM_r (by omega)], fun k _ => by rw [upM_r (by omega), upM_r (by omega)]; exact ⟨rfl, rfl⟩, fun k hk => ?_⟩
  rcases hx with u | u | u <;> subst u
  · exact ⟨upM_i (by omega), by rw [upM_r (by decide)], by rw [upM_r (by decide)]⟩
  · exact ⟨by rw [upM_r (by decide)], upM_i (by omega), by rw [upM_r (by decide)]⟩
  · exact ⟨by rw [upM_r (by decide)], by rw [upM_r (by decide)], upM_i (by omega)⟩
theorem PtW.flc {R' : ZM} (h : PtW R) (f : FLc j R R') : PtW R' := h.j (fun i x => f.2.1 i (by omega) (by omega) (by omega) (by omega) (by omega) (by omega))
theorem RTp.flc {R' : ZM} (h : RTp R T B) (f : FLc j R R') : RTp R' T B := ⟨by rw [f.2.1 20 (by decide) (by decide) (by decide) (by decide) (by decide) (by decide)]; exact h.1, by rw [f.1 196 (by decide) (by decide) (by decide) (by decide) (by decide) (by decide) (by decide)]; exact h.2⟩
theorem RJ.row {x i v : Int} (hx : x = 200 ∨ x = 201 ∨ x = 202) (h : RJ S R T B p L P j) : RJ S (upM R x i v) T B p L P j := by
  have n176 : (upM R x i v) 176 = R 176 := upM_r (by omega)
  have n196 : (upM R x i v) 196 = R 196 := upM_r (by omega)
  have n197 : (upM R x i v) 197 = R 197 := upM_r (by omega)
  have n198 : (upM R x i v) 198 = R 198 := upM_r (by omega)
  obtain ⟨⟨h1, h2, h3, h4, h5, h6⟩, ⟨a1, a2⟩, ⟨b1, b2⟩, c⟩ := h
  exact ⟨⟨h1, h2.j (fun k _ => by rw [n176]), ⟨by rw [n176]; exact h3.1, by rw [n196]; exact h3.2⟩, h4, by rw [n176]; exact h5, by rw [n176]; exact h6⟩, ⟨by rw [n176]; exact a1, a2⟩, ⟨by rw [n176]; exact b1, by rw [n197, n198]; exact b2⟩, by rw [n176]; exact c⟩
theorem RRow.eq {R' : ZM} : ∀ (cl : List Cl) (n k : Int), RRow R j n k cl → (∀ i, 12 * j + n ≤ i → i < 12 * j + n + (cl.length : Int) → R' 200 i = R 200 i ∧ R' 201 i = R 201 i ∧ R' 202 i = R 202 i) → RRow R' j n k cl := by
  intro cl
  induction cl with
  | nil => intro n k _ _; trivial
  | cons c cs ih =>
    intro n k h e
    have el : ((c :: cs).length : Int) = (cs.length : Int) + 1 := by simp only [List.length_cons]; omega
    rw [el] at e
    have nn : 0 ≤ (cs.length : Int) := Int.natCast_nonneg _
    obtain ⟨x1, x2, x3⟩ := e (12 * j + n) (by omega) (by omega)
    exact ⟨⟨x1.trans h.1.1, x2.trans h.1.2.1, x3.trans h.1.2.2⟩, ih (n + 1) _ h.2 (fun i a b => e i (by omega) (by omega))⟩
theorem RRow.snoc : ∀ (cl : List Cl) (n k : Int) (c : Cl), RRow R j n k cl → (R 200 (12 * j + n + (cl.length : Int)) = k + lnR cl ∧ R 201 (12 * j + n + (cl.length : Int)) = k + lnR cl + ln c.1 ∧ R 202 (12 * j + n + (cl.length : Int)) = k + lnR cl + ln c.1 + ln c.2) → RRow R j n k (cl ++ [c]) := by
  intro cl
  induction cl with
  | nil =>
    intro n k c _ h
    have e : lnR [] = 0 := rfl
    have e2 : (([] : List Cl).length : Int) = 0 := rfl
    rw [e, e2, Int.add_zero, Int.add_zero] at h
    exact ⟨h, trivial⟩
  | cons a cs ih =>
    intro n k c h e
    have el : ((a :: cs).length : Int) = (cs.length : Int) + 1 := by simp only [List.length_cons]; omega
    have er : lnR (a :: cs) = ln a.1 + ln a.2 + lnR cs := rfl
    rw [el, er] at e
    refine ⟨h.1, ih (n + 1) _ c h.2 ?_⟩
    rw [show 12 * j + (n + 1) + (cs.length : Int) = 12 * j + n + ((cs.length : Int) + 1) by omega, show k + ln a.1 + ln a.2 + lnR cs = k + (ln a.1 + ln a.2 + lnR cs) by omega]
    exact e
theorem RRow.cl : ∀ (cl : List Cl) (n k : Int), RRow R j n k cl → SgR (R 197) (R 198) (300 * j + k) (flR cl) → RCl R j n k cl := by
  intro cl
  induction cl with
  | nil => intro n k _ _; trivial
  | cons c cs ih =>
    intro n k h e
    have e' : SgR (R 197) (R 198) (300 * j + k) (c.1 ++ c.2 ++ flR cs) := e
    rw [SgR.app, SgR.app] at e'
    refine ⟨h.1, ⟨e'.1.1, by rw [← Int.add_assoc]; exact e'.1.2⟩, ih (n + 1) _ h.2 ?_⟩
    have x := e'.2
    rw [List.length_append] at x
    rw [show 300 * j + (k + (c.1.length : Int) + (c.2.length : Int)) = 300 * j + k + ((c.1.length + c.2.length : Nat) : Int) by omega]
    exact x
theorem ex_ne {c : List (Int × Int)} {v : (Int → Int) → Int} {m : Int} (h : Ex c v m) : ¬ c.length = 0 := by
  intro u
  have : c = [] := List.eq_nil_of_length_eq_zero u
  subst this
  have := h.1 (fun _ => 0) []
  cases this
/-- the reference's test ends -/
theorem r_tEnd (hS : ShW S) (hM : PtW R) (e28 : R 176 28 = 0) {F : Nat} (hF : 1 ≤ F) : rEnd S F R = some R := by
  obtain ⟨f, rfl⟩ : ∃ f, F = f + 1 := ⟨F - 1, by omega⟩
  have tp := r_top hS hM e28 (by decide)
  rw [if_pos rfl] at tp
  simp only [rEnd, tp, Option.bind_some, show ¬ (-1 : Int) = 12 by decide, if_false, pX12_test_199, pX12_test_9, pX12_test_202, if_true]
theorem r_takes (hT : TOk T B) (hr : RJ S R T B p L P j) (hq : q = sk T B p) {w : Int} (hw : 1 ≤ w ∧ w < 20) : (tk T B q = 256 + (cw w : Int) → ∃ R', pX12_takes S R 176 w = some (1, R') ∧ RJ S R' T B (eot T B q) L P j ∧ FP R R') ∧ (tk T B q ≠ 256 + (cw w : Int) → ∃ R', pX12_takes S R 176 w = some (0, R') ∧ RJ S R' T B q L P j ∧ FP R R') := by
  have hb := hT.1
  have hp := hr.1.2.2.2.1
  have hs := sk_b (B := B) hp.2
  obtain ⟨s1, s2⟩ := hr.sk hT
  rw [← hq] at s1 s2 hs
  have f1 : FP R (upM R 176 21 q) := FP.p
  generalize upM R 176 21 q = R1 at *
  have e21 : R1 176 21 = q := s2.1.2.2.2.2.2
  have st := r_stood s2.1.1 s2.1.2.1 hT s2.1.2.2.1 hw (by rw [e21]; omega)
  rw [e21] at st
  refine ⟨fun x => ?_, fun x => ?_⟩
  · obtain ⟨l1, l2⟩ := tk_len hT hw (by omega) x
    have he := eot_b (B := B) (p := q) ⟨by omega, l2⟩
    have w1 : w32 (q + zSl w) = eot T B q := by rw [l1]; exact w32_i (by omega) (by omega)
    refine ⟨upM R1 176 21 (eot T B q), ?_, s2.at (by omega), f1.trans FP.p⟩
    have hw0 : 0 ≤ w := by omega
    simp only [pX12_takes, pX12_takes_27, hr.1.1.o, if_true, s1, Option.bind_some, st, if_pos x, show ¬ (1 : Int) = 0 by decide, if_false, hw0, hw.2, and_self, e21, w1, zlet, or_true]
  · have w1 : w32 (q + 0) = q := by rw [Int.add_zero]; exact w32_i (by omega) (by omega)
    refine ⟨upM R1 176 21 q, ?_, s2.at (by omega), f1.trans FP.p⟩
    simp only [pX12_takes, pX12_takes_27, hr.1.1.o, if_true, s1, Option.bind_some, st, if_neg x, e21, w1, zlet, true_or]
theorem r_104 (hS : ShW S) (hM : PtW R) {i : Int} (h0 : 0 ≤ i) (h1 : i < 72) : pX12_ruleClause_104 S R 176 i = some (upM R 202 i (R 176 25)) := by
  simp only [pX12_ruleClause_104, hS.o, hM.o, if_true, h0, h1, and_self, zlet]
end
