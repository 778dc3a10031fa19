/-! A SKY READ: the reference, two numbers with a row written between them -/
section
variable {S : ZS} {M : ZM} {T : Int} {B : Int → Int} {p q n : Int} {s : SK}
theorem RP.row {M' : ZM} (h : RP S M T B p) (e : ∀ x, (x < 190 ∨ 195 < x) → M' x = M x) : RP S M' T B p := by
  obtain ⟨h1, h2, h3, h4, h5, h6⟩ := h
  have e176 := e 176 (Or.inl (by decide))
  refine ⟨h1, h2.o.eq e176, ⟨by rw [e176]; exact h3.1, by rw [e 196 (Or.inr (by decide))]; exact h3.2⟩, h4, by rw [e176]; exact h5, by rw [e176]; exact h6⟩
theorem r_num2 (hT : TOk T B) (h : RP S M T B p) (hq : q = sk T B p) {lo hi lo' hi' : Int} (hl : 0 ≤ lo) (hl' : 0 ≤ lo') (U : Int → ZM → ZM) (hU : ∀ v M, ∀ x, (x < 190 ∨ 195 < x) → U v M x = M x) : ((rd2 T B q lo hi lo' hi').1 ≠ 0 → ∃ v v' M1 M', pX12_amount S M 176 lo hi = some (v, M1) ∧ FP M M1 ∧ pX12_amount S (U v M1) 176 lo' hi' = some (v', M') ∧ M' 176 22 = (rd2 T B q lo hi lo' hi').1 ∧ FP (U v M1) M' ∧ (0 ≤ M' 176 21 ∧ M' 176 21 ≤ T)) ∧ ((rd2 T B q lo hi lo' hi').1 = 0 → ((lo ≤ (rd2 T B q lo hi lo' hi').2.1 ∧ (rd2 T B q lo hi lo' hi').2.1 ≤ hi) ∧ (lo' ≤ (rd2 T B q lo hi lo' hi').2.2.1 ∧ (rd2 T B q lo hi lo' hi').2.2.1 ≤ hi')) ∧ ∃ M1 M' p', pX12_amount S M 176 lo hi = some ((rd2 T B q lo hi lo' hi').2.1, M1) ∧ FP M M1 ∧ pX12_amount S (U (rd2 T B q lo hi lo' hi').2.1 M1) 176 lo' hi' = some ((rd2 T B q lo hi lo' hi').2.2.1, M') ∧ RP S M' T B p' ∧ sk T B p' = (rd2 T B q lo hi lo' hi').2.2.2 ∧ FP (U (rd2 T B q lo hi lo' hi').2.1 M1) M') := by
  obtain ⟨a1, a2⟩ := r_amount (lo := lo) (hi := hi) hT h hl hq
  unfold rd2
  by_cases z : (rdN T B q lo hi).1 ≠ 0
  · rw [if_pos z]
    refine ⟨fun _ => ?_, fun u => absurd u z⟩
    obtain ⟨v, M1, b1, b2, b3, b4, b5⟩ := a1 z
    have eU := hU v M1
    have e176 := eU 176 (Or.inl (by decide))
    have hM1 := h.2.1.fp b3
    have ht1 := h.2.2.1.fp b3
    obtain ⟨M', c1, c2, c3, c4⟩ := r_amountF (S := S) (M := U v M1) (lo := lo') (hi := hi') h.1 (hM1.o.eq e176) hT ⟨by rw [e176]; exact ht1.1, by rw [eU 196 (Or.inr (by decide))]; exact ht1.2⟩ (by rw [e176]; exact b4) (by rw [e176, b2]; exact z)
    exact ⟨v, 0, M1, M', b1, b3, c1, by rw [c2, e176, b2], c3, c4⟩
  · rw [if_neg z]
    obtain ⟨b0, b1, M1, b2, b3, b4⟩ := a2 (by omega)
    have hR := b3.row (hU (rdN T B q lo hi).2.1 M1)
    obtain ⟨c1, c2⟩ := r_amount (lo := lo') (hi := hi') hT hR hl' b1
    by_cases y : (rdN T B (rdN T B q lo hi).2.2 lo' hi').1 ≠ 0
    · rw [if_pos y]
      refine ⟨fun _ => ?_, fun u => absurd u y⟩
      obtain ⟨v', M', d1, d2, d3, d4, d5⟩ := c1 y
      exact ⟨_, v', M1, M', b2, b4, d1, d2, d3, d4⟩
    · rw [if_neg y]
      refine ⟨fun u => absurd rfl u, fun _ => ?_⟩
      obtain ⟨d0, d1, M', d2, d3, d4⟩ := c2 (by omega)
      exact ⟨⟨b0, d0⟩, M1, M', _, b2, b4, d2, d3, d1.symm, d4⟩
end
