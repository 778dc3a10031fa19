/-! A SKY READ: the reference's winds and marks -/
section
variable {S : ZS} {M : ZM} {T : Int} {B : Int → Int} {p q n : Int} {s : SK}
theorem r_wind_ (hT : TOk T B) (h : RP S M T B p) (hq : q = sk T B p) (hk : RKr M s) (hs : 2 ≤ kSd s ∧ kSd s ≤ 6) (hp : 0 ≤ kWn s ∧ kWn s < 12) : ((rd2 T B q 0 3 0 9).1 ≠ 0 → ∃ M', pX12_skyPart S M 176 2 = some M' ∧ M' 176 22 = (rd2 T B q 0 3 0 9).1 ∧ FK M M' ∧ (0 ≤ M' 176 21 ∧ M' 176 21 ≤ T)) ∧ ((rd2 T B q 0 3 0 9).1 = 0 → ∃ M' p', pX12_skyPart S M 176 2 = some M' ∧ RP S M' T B p' ∧ sk T B p' = (rd2 T B q 0 3 0 9).2.2.2 ∧ RKr M' (kSd s, kFd s, kPn s, kWn s + 1, kA s, kS s, kup (kW s) (kWn s) (rd2 T B q 0 3 0 9).2.1, kup (kG s) (kWn s) (rd2 T B q 0 3 0 9).2.2.1, kM s) ∧ FK M M') := by
  have g : ((0 : Int) ≤ 0 ∧ (0 : Int) < 4) := by decide
  have g2 : ((0 : Int) ≤ 3 ∧ (3 : Int) < 4) := by decide
  have sqb : 0 ≤ kSd s * kSd s ∧ kSd s * kSd s ≤ 36 := by
    have : kSd s = 2 ∨ kSd s = 3 ∨ kSd s = 4 ∨ kSd s = 5 ∨ kSd s = 6 := by omega
    rcases this with u | u | u | u | u <;> rw [u] <;> decide
  have w0 : w32 (kSd s * kSd s) = kSd s * kSd s := w32_i (by omega) (by omega)
  have w1 : w32 (kSd s * kSd s - 1) = kSd s * kSd s - 1 := w32_i (by omega) (by omega)
  have w2 : w32 (kWn s + 1) = kWn s + 1 := w32_i (by omega) (by omega)
  have m0 := hk.1.1
  have m2 := hk.1.2.2.2
  have n10 : ¬ (2 : Int) = 0 := by decide
  have n11 : ¬ (2 : Int) = 1 := by decide
  obtain ⟨a1, a2⟩ := r_num2 (lo := 0) (hi := 3) (lo' := 0) (hi' := 9) hT h hq (by decide) (by decide) (fun v M => upM M 193 (kWn s) v) (fun v M => upM_row (by decide))
  refine ⟨fun u => ?_, fun u => ?_⟩
  · obtain ⟨v, v', M1, M', b1, b2, b3, b4, b5, b6⟩ := a1 u
    have p1 := (h.2.1.fp b2).o
    have hk1 := hk.fp b2
    have m12 : (upM M1 193 (kWn s) v) 190 3 = kWn s := by rw [upM_r (by decide)]; exact hk1.1.2.2.2
    have e1 : (upM M1 193 (kWn s) v) 176 = M1 176 := upM_r (by decide)
    have b3' : pX12_amount S (upM M1 193 (kWn s) v) 176 0 9 = some (v', M') := b3
    have b5' : FP (upM M1 193 (kWn s) v) M' := b5
    have f1 : FK M M' := ((FK.rd b2).trans (FK.u (by decide))).trans (FK.rd b5')
    have p2 := (h.2.1.fk f1).o
    have e2 : (upM M' 194 (kWn s) v') 176 = M' 176 := upM_r (by decide)
    have m3 : (upM M' 194 (kWn s) v') 190 3 = kWn s := by rw [upM_r (by decide), b5'.1 190 (by decide)]; exact m12
    refine ⟨upM (upM M' 194 (kWn s) v') 190 3 (kWn s + 1), ?_, ?_, f1.trans ((FK.u (by decide)).trans (FK.u (by decide))), ?_⟩
    · simp only [pX12_skyPart, pX12_skyPart_158, pX12_skyPart_192, h.1.o, h.2.1.o, p1, p2, zlet, g, g2, and_self, if_true, if_neg n10, if_neg n11, m0, m2, w0, w1, b1, Option.bind_some, hp.1, hp.2, e1, m12, b3', e2, m3, w2]
    · rw [upM_r (by decide), e2]; exact b4
    · rw [upM_r (by decide), e2]; exact b6
  · obtain ⟨-, M1, M', p', b1, b2, b3, b4, b5, b6⟩ := a2 u
    generalize (rd2 T B q 0 3 0 9).2.1 = v at *
    generalize (rd2 T B q 0 3 0 9).2.2.1 = v' at *
    have p1 := (h.2.1.fp b2).o
    have hk1 := hk.fp b2
    have m12 : (upM M1 193 (kWn s) v) 190 3 = kWn s := by rw [upM_r (by decide)]; exact hk1.1.2.2.2
    have e1 : (upM M1 193 (kWn s) v) 176 = M1 176 := upM_r (by decide)
    have b3' : pX12_amount S (upM M1 193 (kWn s) v) 176 0 9 = some (v', M') := b3
    have b6' : FP (upM M1 193 (kWn s) v) M' := b6
    have f1 : FK M M' := ((FK.rd b2).trans (FK.u (by decide))).trans (FK.rd b6')
    have p2 := (h.2.1.fk f1).o
    have e2 : (upM M' 194 (kWn s) v') 176 = M' 176 := upM_r (by decide)
    have m3 : (upM M' 194 (kWn s) v') 190 3 = kWn s := by rw [upM_r (by decide), b6'.1 190 (by decide)]; exact m12
    obtain ⟨⟨k0, k1, k2, k3⟩, k4, k5, k6⟩ := hk1
    have r0 : ∀ x, x ≠ 176 → x ≠ 193 → M' x = M1 x := fun x a b => by rw [b6'.1 x a, upM_r b]
    have r1 : M' 193 = upM M1 193 (kWn s) v 193 := b6'.1 193 (by decide)
    refine ⟨upM (upM M' 194 (kWn s) v') 190 3 (kWn s + 1), p', ?_, (b4.row (upM_row (by decide))).row (upM_row (by decide)), b5, ⟨⟨?_, ?_, ?_, ?_⟩, ?_, fun i x y => ?_, ?_⟩, f1.trans ((FK.u (by decide)).trans (FK.u (by decide)))⟩
    · simp only [pX12_skyPart, pX12_skyPart_158, pX12_skyPart_192, h.1.o, h.2.1.o, p1, p2, zlet, g, g2, and_self, if_true, if_neg n10, if_neg n11, m0, m2, w0, w1, b1, Option.bind_some, hp.1, hp.2, e1, m12, b3', e2, m3, w2]
    · rw [upM_i (by decide), upM_r (by decide), r0 190 (by decide) (by decide)]; exact k0
    · rw [upM_i (by decide), upM_r (by decide), r0 190 (by decide) (by decide)]; exact k1
    · rw [upM_i (by decide), upM_r (by decide), r0 190 (by decide) (by decide)]; exact k2
    · rw [upM_s]
    · rw [upM_r (by decide), upM_r (by decide), upM_r (by decide), upM_r (by decide), r0 191 (by decide) (by decide), r0 192 (by decide) (by decide)]; exact k4
    · show _ = (if i = kWn s then v else kW s i) ∧ _ = (if i = kWn s then v' else kG s i)
      rw [upM_r (show (193 : Int) ≠ 190 by decide), upM_r (show (193 : Int) ≠ 194 by decide), r1, upM_r (show (194 : Int) ≠ 190 by decide)]
      by_cases z : i = kWn s
      · rw [if_pos z, if_pos z, z, upM_s, upM_s]; exact ⟨rfl, rfl⟩
      · rw [if_neg z, if_neg z, upM_i z, upM_i z, r0 194 (by decide) (by decide)]; exact k5 i x y
    · rw [upM_r (by decide), upM_r (by decide), r0 195 (by decide) (by decide)]; exact k6
theorem r_mark_ (hT : TOk T B) (h : RP S M T B p) (hq : q = sk T B p) (hk : RKr M s) (hs : 2 ≤ kSd s ∧ kSd s ≤ 6) : ((rdN T B q 0 (kSd s * kSd s - 1)).1 ≠ 0 → ∃ M', pX12_skyPart S M 176 3 = some M' ∧ M' 176 22 = (rdN T B q 0 (kSd s * kSd s - 1)).1 ∧ FK M M' ∧ (0 ≤ M' 176 21 ∧ M' 176 21 ≤ T)) ∧ ((rdN T B q 0 (kSd s * kSd s - 1)).1 = 0 → ∃ M' p', pX12_skyPart S M 176 3 = some M' ∧ RP S M' T B p' ∧ sk T B p' = (rdN T B q 0 (kSd s * kSd s - 1)).2.2 ∧ RKr M' (kSd s, kFd s, kPn s, kWn s, kA s, kS s, kW s, kG s, kup (kM s) (rdN T B q 0 (kSd s * kSd s - 1)).2.1 1) ∧ FK M M') := by
  have g : ((0 : Int) ≤ 0 ∧ (0 : Int) < 4) := by decide
  have sqb : 0 ≤ kSd s * kSd s ∧ kSd s * kSd s ≤ 36 := by
    have : kSd s = 2 ∨ kSd s = 3 ∨ kSd s = 4 ∨ kSd s = 5 ∨ kSd s = 6 := by omega
    rcases this with u | u | u | u | u <;> rw [u] <;> decide
  have w0 : w32 (kSd s * kSd s) = kSd s * kSd s := w32_i (by omega) (by omega)
  have w1 : w32 (kSd s * kSd s - 1) = kSd s * kSd s - 1 := w32_i (by omega) (by omega)
  have m0 := hk.1.1
  have n1 : ¬ (3 : Int) = 0 := by decide
  have n2 : ¬ (3 : Int) = 1 := by decide
  have n3 : ¬ (3 : Int) = 2 := by decide
  obtain ⟨a1, a2⟩ := r_amount (lo := 0) (hi := kSd s * kSd s - 1) hT h (by decide) hq
  refine ⟨fun u => ?_, fun u => ?_⟩
  · obtain ⟨v, M', b1, b2, b3, b4, b5⟩ := a1 u
    refine ⟨M', ?_, b2, FK.rd b3, b4⟩
    have e : ¬ M' 176 22 = 0 := by rw [b2]; exact u
    simp only [pX12_skyPart, pX12_skyPart_192, h.1.o, h.2.1.o, zlet, g, and_self, if_true, if_neg n1, if_neg n2, if_neg n3, m0, w0, w1, b1, Option.bind_some, if_neg e]
  · obtain ⟨b0, b1, M', b2, b3, b4⟩ := a2 u
    generalize (rdN T B q 0 (kSd s * kSd s - 1)).2.1 = v at *
    have e := b3.2.2.2.2.1
    have v36 : v < 36 := by omega
    obtain ⟨k, k4, k5, k6⟩ := hk.fp b4
    refine ⟨upM M' 195 v 1, _, ?_, b3.row (upM_row (by decide)), b1.symm, ⟨?_, ?_, ?_, fun c x y => ?_⟩, (FK.rd b4).trans (FK.u (by decide))⟩
    · simp only [pX12_skyPart, pX12_skyPart_192, h.1.o, h.2.1.o, b3.2.1.o, zlet, g, and_self, if_true, if_neg n1, if_neg n2, if_neg n3, m0, w0, w1, b2, Option.bind_some, if_pos e, b0.1, v36]
    · rw [upM_r (by decide)]; exact k
    · rw [upM_r (by decide), upM_r (by decide)]; exact k4
    · rw [upM_r (by decide), upM_r (by decide)]; exact k5
    · show upM M' 195 v 1 195 c = (if c = v then 1 else kM s c)
      by_cases z : c = v
      · rw [if_pos z, z, upM_s]
      · rw [if_neg z, upM_i z]; exact k6 c x y
end
