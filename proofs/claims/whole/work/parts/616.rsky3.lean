/-! A SKY READ: the reference's clauses -/
/-- only the new rows, the place of reading and the fault are others -/
def FK (M M' : ZM) : Prop := (∀ x, x ≠ 176 → (x < 190 ∨ 195 < x) → M' x = M x) ∧ ∀ j, j ≠ 21 → j ≠ 22 → M' 176 j = M 176 j
section
variable {S : ZS} {M : ZM} {T : Int} {B : Int → Int} {p q n : Int} {s : SK}
theorem FK.refl (M : ZM) : FK M M := ⟨fun _ _ _ => rfl, fun _ _ _ => rfl⟩
theorem FK.trans {M M' M'' : ZM} (h : FK M M') (h' : FK M' M'') : FK M M'' := ⟨fun x a b => (h'.1 x a b).trans (h.1 x a b), fun j a b => (h'.2 j a b).trans (h.2 j a b)⟩
theorem FK.rd {M' : ZM} (h : FP M M') : FK M M' := ⟨fun x a _ => h.1 x a, h.2⟩
theorem FK.u {x j v : Int} (hx : 190 ≤ x ∧ x ≤ 195) : FK M (upM M x j v) := ⟨fun y a b => upM_r (by omega), fun i _ _ => by rw [upM_r (by omega)]⟩
theorem upM_row {x j v : Int} (hx : 190 ≤ x ∧ x ≤ 195) : ∀ y, (y < 190 ∨ 195 < y) → upM M x j v y = M y := fun y a => upM_r (by omega)
theorem PtW.fk {M' : ZM} (h : PtW M) (f : FK M M') : PtW M' := h.j (fun j x => f.2 j (by omega) (by omega))
theorem RTp.fk {M' : ZM} (h : RTp M T B) (f : FK M M') : RTp M' T B := ⟨by rw [f.2 20 (by decide) (by decide)]; exact h.1, by rw [f.1 196 (by decide) (by decide)]; exact h.2⟩
theorem r_sheet (hT : TOk T B) (h : RP S M T B p) (hq : q = sk T B p) (hk : RKr M s) (hs : kSd s = 0) : ((rd2 T B q 2 6 1 60).1 ≠ 0 → ∃ M', pX12_skyPart S M 176 0 = some M' ∧ M' 176 22 = (rd2 T B q 2 6 1 60).1 ∧ FK M M' ∧ (0 ≤ M' 176 21 ∧ M' 176 21 ≤ T)) ∧ ((rd2 T B q 2 6 1 60).1 = 0 → ∃ M' p', pX12_skyPart S M 176 0 = some M' ∧ RP S M' T B p' ∧ sk T B p' = (rd2 T B q 2 6 1 60).2.2.2 ∧ RKr M' ((rd2 T B q 2 6 1 60).2.1, (rd2 T B q 2 6 1 60).2.2.1, s.2.2) ∧ FK M M') := by
  have g : ((0 : Int) ≤ 0 ∧ (0 : Int) < 4) := by decide
  have g1 : ((0 : Int) ≤ 1 ∧ (1 : Int) < 4) := by decide
  obtain ⟨a1, a2⟩ := r_num2 (lo := 2) (hi := 6) (lo' := 1) (hi' := 60) hT h hq (by decide) (by decide) (fun _ M => M) (fun _ _ _ _ => rfl)
  refine ⟨fun u => ?_, fun u => ?_⟩
  · obtain ⟨v, v', M1, M', b1, b2, b3, b4, b5, b6⟩ := a1 u
    have p1 := (h.2.1.fp b2).o
    have b5' : FP M1 M' := b5
    have b3' : pX12_amount S M1 176 1 60 = some (v', M') := b3
    have p2 := ((h.2.1.fp b2).fp b5').o
    have e176 : (upM M' 190 1 v') 176 = M' 176 := upM_r (by decide)
    refine ⟨upM (upM M' 190 1 v') 190 0 v, ?_, ?_, ((FK.rd b2).trans (FK.rd b5')).trans ((FK.u (by decide)).trans (FK.u (by decide))), ?_⟩
    · simp only [pX12_skyPart, pX12_skyPart_72, pX12_skyPart_192, h.1.o, h.2.1.o, p1, p2, zlet, g, g1, and_self, if_true, b1, Option.bind_some, b3', e176]
    · rw [upM_r (by decide), e176]; exact b4
    · rw [upM_r (by decide), e176]; exact b6
  · obtain ⟨-, M1, M', p', b1, b2, b3, b4, b5, b6⟩ := a2 u
    generalize (rd2 T B q 2 6 1 60).2.1 = v at *
    generalize (rd2 T B q 2 6 1 60).2.2.1 = v' at *
    have p1 := (h.2.1.fp b2).o
    have b6' : FP M1 M' := b6
    have b3' : pX12_amount S M1 176 1 60 = some (v', M') := b3
    have p2 := ((h.2.1.fp b2).fp b6').o
    have e176 : (upM M' 190 1 v') 176 = M' 176 := upM_r (by decide)
    obtain ⟨⟨k0, k1, k2, k3⟩, k4, k5, k6⟩ := (hk.fp b2).fp b6'
    refine ⟨upM (upM M' 190 1 v') 190 0 v, p', ?_, (b4.row (upM_row (by decide))).row (upM_row (by decide)), b5, ⟨⟨?_, ?_, ?_, ?_⟩, ?_, ?_, ?_⟩, ((FK.rd b2).trans (FK.rd b6')).trans ((FK.u (by decide)).trans (FK.u (by decide)))⟩
    · simp only [pX12_skyPart, pX12_skyPart_72, pX12_skyPart_192, h.1.o, h.2.1.o, p1, p2, zlet, g, g1, and_self, if_true, b1, Option.bind_some, b3', e176]
    · rw [upM_s]
    · rw [upM_i (by decide), upM_s]
    · rw [upM_i (by decide), upM_i (by decide)]; exact k2
    · rw [upM_i (by decide), upM_i (by decide)]; exact k3
    · rw [upM_r (by decide), upM_r (by decide), upM_r (by decide), upM_r (by decide)]; exact k4
    · rw [upM_r (by decide), upM_r (by decide), upM_r (by decide), upM_r (by decide)]; exact k5
    · rw [upM_r (by decide), upM_r (by decide)]; exact k6
end
