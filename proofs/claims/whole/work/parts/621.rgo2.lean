/-! A SKY READ: on to the next clause, in the reference -/
section
variable {S : ZS} {M : ZM} {T : Int} {B : Int → Int} {p q n : Int} {s : SK}
theorem r_goesOn (hT : TOk T B) (h : RP S M T B p) (hq : q = sk T B p) : (tk T B q = 303 → ∃ M', pX12_goesOn S M 176 = some (0, M') ∧ M' 176 22 = 0 ∧ FP M M') ∧ (tk T B q = 59 → ∃ M', pX12_goesOn S M 176 = some (1, M') ∧ RP S M' T B (q + 1) ∧ sk T B (q + 1) = nx T B q ∧ FP M M') ∧ (tk T B q ≠ 303 → tk T B q ≠ 59 → ∃ M', pX12_goesOn S M 176 = some (0, M') ∧ M' 176 22 = 1 + 8 * q + 0 ∧ FP M M') := by
  have hb := hT.1
  obtain ⟨b1, b2⟩ := h.sk hT
  rw [← hq] at b1 b2
  have f1 : FP M (upM M 176 21 q) := FP.p
  generalize upM M 176 21 q = M1 at *
  have b2' := b2
  obtain ⟨g1, g2, g3, g4, g5, g6⟩ := b2
  have e20 := g3.1
  have w1 : w32 (q + 1) = q + 1 := w32_i (by omega) (by omega)
  have bh : pX12_byteHere S M1 176 = some (bt T B q, M1) := by
    have := r_byteHere g1 g2 hT g3 (by rw [g6]; exact g4.1)
    rw [g6] at this; exact this
  refine ⟨fun u => ?_, fun u => ?_, fun u v => ?_⟩
  · have hqT : T ≤ q := by
      rcases Int.lt_or_le q T with x | x
      · exact absurd u (tk303 hT ⟨g4.1, x⟩)
      · exact x
    refine ⟨upM M1 176 21 (q + 1), ?_, by rw [upM_i (by decide)]; exact g5, f1.trans FP.p⟩
    simp only [pX12_goesOn, pX12_goesOn_40, pX12_goesOn_62, pX12_goesOn_63, g1.o, if_true, b1, Option.bind_some, if_pos g5, e20, g6, if_pos hqT, zlet, w1, true_or]
  · have hqT : q < T := by
      rcases Int.lt_or_le q T with x | x
      · exact x
      · rw [tk_end x] at u; omega
    have hbt := (tk_59 hT ⟨g4.1, hqT⟩).1 u
    have ee : eot T B q = q + 1 := by
      unfold eot
      rw [if_neg (by omega), if_neg (by unfold isDg; omega), if_neg (by unfold isLt; omega)]
    refine ⟨upM M1 176 21 (q + 1), ?_, ⟨g1, g2.fp FP.p, g3.fp FP.p, by omega, by rw [upM_i (by decide)]; exact g5, upM_s _ _ _ _⟩, by unfold nx; rw [ee], f1.trans FP.p⟩
    simp only [pX12_goesOn, pX12_goesOn_40, pX12_goesOn_63, g1.o, if_true, b1, Option.bind_some, if_pos g5, e20, g6, show ¬ T ≤ q by omega, if_false, bh, if_pos hbt, zlet, w1, or_true]
  · have hqT : q < T := by
      rcases Int.lt_or_le q T with x | x
      · exact x
      · exact absurd (tk_end x) u
    have hbt : ¬ bt T B q = 59 := fun x => v ((tk_59 hT ⟨g4.1, hqT⟩).2 x)
    have fl : pX12_fails S M1 176 0 q = some (upM M1 176 22 (1 + 8 * q + 0)) := by
      rw [r_fails g1 (by omega) (by decide), if_pos g5]
    have n0 : ¬ 1 + 8 * q + 0 = 0 := by omega
    have e21 : (upM M1 176 22 (1 + 8 * q + 0)) 176 21 = q := by rw [upM_i (by decide)]; exact g6
    have e22 : (upM M1 176 22 (1 + 8 * q + 0)) 176 22 = 1 + 8 * q + 0 := upM_s _ _ _ _
    refine ⟨upM (upM M1 176 22 (1 + 8 * q + 0)) 176 21 (q + 1), ?_, by rw [upM_i (by decide)]; exact e22, (f1.trans FP.f).trans FP.p⟩
    simp only [pX12_goesOn, pX12_goesOn_40, pX12_goesOn_62, pX12_goesOn_63, g1.o, if_true, b1, Option.bind_some, if_pos g5, e20, g6, show ¬ T ≤ q by omega, if_false, bh, if_neg hbt, fl, e22, if_neg n0, e21, zlet, w1, true_or]
end
