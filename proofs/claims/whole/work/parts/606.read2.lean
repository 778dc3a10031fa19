/-! A NUMBER READ: the reference -/
section
variable {S : ZS} {M : ZM} {T : Int} {B : Int → Int} {p q : Int}
theorem tk_nd (hT : TOk T B) (hq : 0 ≤ q) (h : ¬ isDg (bt T B q)) : tk T B q ≤ 303 := by
  by_cases z : T ≤ q
  · rw [tk_end z]; decide
  by_cases z3 : isLt (bt T B q)
  · rw [tk_lt z3]; have := wdF_b (T := T) (B := B) (q := q) (e := rn T B 97 122 q) 19 0 (by decide); unfold wd; omega
  · rw [tk_sg ⟨hq, by omega⟩ h z3]
    have hb := bt_b (p := q) hT
    by_cases y : eot T B q - q = 2
    · rw [if_pos y]
      by_cases x : bt T B q = 60
      · rw [if_pos x]; decide
      · rw [if_neg x]; decide
    · rw [if_neg y]; omega
theorem RP.sk (hT : TOk T B) (h : RP S M T B p) : pX12_blanks S M 176 = some (upM M 176 21 (sk T B p)) ∧ RP S (upM M 176 21 (sk T B p)) T B (sk T B p) := by
  obtain ⟨h1, h2, h3, h4, h5, h6⟩ := h
  have hb := hT.1
  have hs := sk_b (B := B) h4.2
  refine ⟨?_, h1, h2.fp FP.p, h3.fp FP.p, by omega, by rw [upM_i (by decide)]; exact h5, upM_s _ _ _ _⟩
  rw [← h6]; exact r_blanks h1 h2 hT h3 (by omega)
theorem r_amount (hT : TOk T B) (h : RP S M T B p) {lo hi : Int} (hl : 0 ≤ lo) (hq : q = sk T B p) : ((rdN T B q lo hi).1 ≠ 0 → ∃ v M', pX12_amount S M 176 lo hi = some (v, M') ∧ M' 176 22 = (rdN T B q lo hi).1 ∧ FP M M' ∧ (0 ≤ M' 176 21 ∧ M' 176 21 ≤ T) ∧ (0 ≤ v ∧ v ≤ 99999)) ∧ ((rdN T B q lo hi).1 = 0 → (lo ≤ (rdN T B q lo hi).2.1 ∧ (rdN T B q lo hi).2.1 ≤ hi) ∧ (rdN T B q lo hi).2.2 = sk T B (eot T B q) ∧ ∃ M', pX12_amount S M 176 lo hi = some ((rdN T B q lo hi).2.1, M') ∧ RP S M' T B (eot T B q) ∧ FP M M') := by
  have hb := hT.1
  obtain ⟨b1, b2⟩ := h.sk hT
  rw [← hq] at b1 b2
  generalize hM1 : upM M 176 21 q = M1 at b1 b2
  have f1 : FP M M1 := by rw [← hM1]; exact FP.p
  obtain ⟨g1, g2, g3, g4, g5, g6⟩ := b2
  obtain ⟨d1, d2⟩ := r_digits g1 g2 hT g3 (by rw [g6]; exact g4)
  rw [g6] at d1 d2
  have pre : pX12_amount S M 176 lo hi = (pX12_digits S M1 176 99999).bind fun q12 => pX12_amount_26 S q12.2 176 lo hi q q12.1 := by
    simp only [pX12_amount, g1.o, if_true, b1, Option.bind_some, if_pos g5, g6]
  by_cases z : isDg (bt T B q)
  · obtain ⟨v, a1, a2, a3⟩ := d2 z
    have ee := eot_dg z
    have hlt := bt_lt (T := T) (B := B) (p := q) (by omega)
    have he := eot_b (B := B) hlt
    rw [← ee] at a1 a2
    rw [if_pos g5] at a1
    have etk := tk_dg z
    by_cases y : eot T B q - q ≤ 5
    · rw [if_pos y] at a1
      have ev := a2 y
      have en : num T B q (eot T B q) = 1000 + v := by unfold num; rw [if_pos y, ev]
      have t1 : tk T B q = 1000 + v := etk.trans en
      generalize hM2 : upM M1 176 21 (eot T B q) = M2 at a1
      have f2 : FP M1 M2 := by rw [← hM2]; exact FP.p
      have e22 : M2 176 22 = 0 := by rw [← hM2, upM_i (by decide)]; exact g5
      have e21 : M2 176 21 = eot T B q := by rw [← hM2, upM_s]
      unfold rdN
      rw [t1, if_neg (by omega), if_neg (by omega), show 1000 + v - 1000 = v by omega]
      by_cases x : lo ≤ v ∧ v ≤ hi
      · rw [if_pos x]
        refine ⟨fun u => absurd rfl u, fun _ => ⟨x, rfl, M2, ?_, ⟨g1, g2.fp f2, g3.fp f2, by omega, e22, e21⟩, f1.trans f2⟩⟩
        rw [pre, a1, Option.bind_some]
        simp only [pX12_amount_26, pX12_amount_54, g1.o, if_true, if_pos e22, r_in, if_pos x, Option.bind_some, show ¬ (1 : Int) = 0 by decide, if_false]
      · rw [if_neg x]
        refine ⟨fun _ => ⟨v, upM M2 176 22 (1 + 8 * q + 1), ?_, upM_s _ _ _ _, (f1.trans f2).trans FP.f, by rw [upM_i (by decide), e21]; omega, a3⟩, fun u => by have u' : 1 + 8 * q + 1 = 0 := u; omega⟩
        rw [pre, a1, Option.bind_some]
        simp only [pX12_amount_26, pX12_amount_54, g1.o, if_true, if_pos e22, r_in, if_neg x, Option.bind_some, r_fails (M := M2) (k := 1) (q := q) g1 (by omega) (by decide)]
    · rw [if_neg y] at a1
      have en : num T B q (eot T B q) = 304 := by unfold num; rw [if_neg y]
      have t1 : tk T B q = 304 := etk.trans en
      unfold rdN
      rw [if_pos t1]
      have hn0 : ¬ 1 + 8 * q + 1 = 0 := by omega
      refine ⟨fun _ => ⟨v, upM (upM M1 176 21 (eot T B q)) 176 22 (1 + 8 * q + 1), ?_, ?_, (f1.trans FP.p).trans FP.f, ?_, a3⟩, fun u => absurd u hn0⟩
      · rw [pre, a1, Option.bind_some]
        simp only [pX12_amount_26, pX12_amount_54, g1.o, if_true, upM_s, if_neg hn0]
      · rw [upM_s]
      · rw [upM_i (by decide), upM_s]; omega
  · have hnd := tk_nd hT g4.1 z
    have a1 := d1 z
    rw [if_pos g5] at a1
    unfold rdN
    rw [if_neg (by omega), if_pos (by omega)]
    have hn0 : ¬ 1 + 8 * q + 0 = 0 := by omega
    refine ⟨fun _ => ⟨0, upM M1 176 22 (1 + 8 * q + 0), ?_, upM_s _ _ _ _, f1.trans FP.f, by rw [upM_i (by decide), g6]; exact g4, by decide⟩, fun u => absurd u hn0⟩
    rw [pre, a1, Option.bind_some]
    simp only [pX12_amount_26, pX12_amount_54, g1.o, if_true, upM_s, if_neg hn0]
/-- after a fault nothing is read -/
theorem r_amountF (hS : ShW S) (hM : PtW M) (hT : TOk T B) (ht : RTp M T B) (hp : 0 ≤ M 176 21 ∧ M 176 21 ≤ T) (hf : M 176 22 ≠ 0) {lo hi : Int} : ∃ M', pX12_amount S M 176 lo hi = some (0, M') ∧ M' 176 22 = M 176 22 ∧ FP M M' ∧ (0 ≤ M' 176 21 ∧ M' 176 21 ≤ T) := by
  have hb := hT.1
  have hs := sk_b (B := B) hp.2
  have b1 := r_blanks hS hM hT ht (by omega)
  have e22 : (upM M 176 21 (sk T B (M 176 21))) 176 22 = M 176 22 := upM_i (by decide)
  refine ⟨upM M 176 21 (sk T B (M 176 21)), ?_, e22, FP.p, by rw [upM_s]; omega⟩
  simp only [pX12_amount, pX12_amount_26, pX12_amount_54, hS.o, if_true, b1, Option.bind_some, e22, if_neg hf]
end
