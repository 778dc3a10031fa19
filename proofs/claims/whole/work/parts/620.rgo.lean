/-! A SKY READ: what stands between clauses -/
section
variable {S : ZS} {M : ZM} {T : Int} {B : Int → Int} {p q n : Int} {s : SK}
theorem tk_59 (hT : TOk T B) (hq : 0 ≤ q ∧ q < T) : tk T B q = 59 ↔ bt T B q = 59 := by
  by_cases z1 : isDg (bt T B q)
  · rw [tk_dg z1]; have := num_b z1; omega
  by_cases z2 : isLt (bt T B q)
  · rw [tk_lt z2]; have := wdF_b (T := T) (B := B) (q := q) (e := rn T B 97 122 q) 19 0 (by decide); unfold wd; omega
  · rw [tk_sg hq z1 z2]
    by_cases y : eot T B q - q = 2
    · rw [if_pos y]
      have : bt T B q ≠ 59 := fun u => by
        unfold eot at y
        rw [if_neg (by omega), if_neg z1, if_neg z2] at y; omega
      by_cases x : bt T B q = 60
      · rw [if_pos x]; omega
      · rw [if_neg x]; omega
    · rw [if_neg y]
theorem r_goesF (hS : ShW S) (hM : PtW M) (hT : TOk T B) (ht : RTp M T B) (hp : 0 ≤ M 176 21 ∧ M 176 21 ≤ T) (hf : M 176 22 ≠ 0) : ∃ M', pX12_goesOn S M 176 = some (0, M') ∧ M' 176 22 = M 176 22 ∧ FP M M' := by
  have hb := hT.1
  have hs := sk_b (B := B) hp.2
  have b1 := r_blanks hS hM hT ht (by omega)
  have e22 : (upM M 176 21 (sk T B (M 176 21))) 176 22 = M 176 22 := upM_i (by decide)
  refine ⟨upM (upM M 176 21 (sk T B (M 176 21))) 176 21 (w32 ((upM M 176 21 (sk T B (M 176 21))) 176 21 + 1)), ?_, by rw [upM_i (by decide)]; exact e22, FP.p.trans FP.p⟩
  simp only [pX12_goesOn, pX12_goesOn_40, pX12_goesOn_62, pX12_goesOn_63, hS.o, if_true, b1, Option.bind_some, e22, if_neg hf, zlet, true_or]
end
