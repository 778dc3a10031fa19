/-! A SKY READ: a clause in the reference -/
section
variable {S : ZS} {M : ZM} {T : Int} {B : Int → Int} {p q n : Int} {s : SK}
theorem r_skyP (hT : TOk T B) (h : RP S M T B q) {t : Int} {w : Int} (hw : 1 ≤ w ∧ w < 5) (hx : skX t = w - 1) (ht : tk T B q = t) (hc : 256 + (cw w : Int) = t) (hf : pX12_isFull S M 176 (skX t) n = some (0, M)) : pX12_skyClause_33 S M 176 n q (skX t) = pX12_skyPart S (upM M 176 21 (eot T B q)) 176 (skX t) ∧ RP S (upM M 176 21 (eot T B q)) T B (eot T B q) ∧ sk T B (eot T B q) = nx T B q := by
  obtain ⟨h1, h2, h3, h4, h5, h6⟩ := h
  have hb := hT.1
  have hl := tk_len hT (w := w) (by omega) h4.1 (ht.trans hc.symm)
  have he := eot_b (B := B) (p := q) ⟨h4.1, hl.2⟩
  have w1 : w32 (q + zSl w) = eot T B q := by rw [hl.1]; exact w32_i (by omega) (by omega)
  refine ⟨?_, ⟨h1, h2.fp FP.p, h3.fp FP.p, by omega, by rw [upM_i (by decide)]; exact h5, upM_s _ _ _ _⟩, rfl⟩
  have k : pX12_skyWord S M (skX t) = some (w, M) := by
    rw [hx]
    have : w = 1 ∨ w = 2 ∨ w = 3 ∨ w = 4 := by omega
    rcases this with u | u | u | u <;> subst u <;> rfl
  have n4 : ¬ skX t = 4 := by omega
  have hw' : (0 : Int) ≤ w ∧ w < 20 := by omega
  simp only [pX12_skyClause_33, if_neg n4, h1.o, if_true, hf, Option.bind_some, k, hw', and_self, h6, w1, zlet]
  cases pX12_skyPart S (upM M 176 21 (eot T B q)) 176 (skX t) <;> rfl
theorem r_clause (hT : TOk T B) (h : RP S M T B p) (hq : q = sk T B p) (hk : RKr M s) (ho : KOk s n) (hn : 0 ≤ n ∧ n ≤ 40) : ((skC T B n q s).1 ≠ 0 → ∃ M', pX12_skyClause S M 176 n = some M' ∧ M' 176 22 = (skC T B n q s).1 ∧ FK M M' ∧ (0 ≤ M' 176 21 ∧ M' 176 21 ≤ T)) ∧ ((skC T B n q s).1 = 0 → ∃ M' p', pX12_skyClause S M 176 n = some M' ∧ RP S M' T B p' ∧ sk T B p' = (skC T B n q s).2.1 ∧ RKr M' (skC T B n q s).2.2 ∧ FK M M') := by
  obtain ⟨b1, b2⟩ := r_skyW (n := n) hT h hq
  have f1 : FP M (upM M 176 21 q) := FP.p
  have hk1 := hk.fp f1
  rw [b1]
  generalize upM M 176 21 q = M1 at *
  have hb := hT.1
  obtain ⟨g1, g2, g3, g4, g5, g6⟩ := b2
  have fl : ∀ k, 0 ≤ k ∧ k ≤ 10 → pX12_fails S M1 176 k q = some (upM M1 176 22 (1 + 8 * q + k)) := fun k hk => by
    rw [r_fails g1 (by omega) hk, if_pos g5]
  unfold skC
  by_cases z : tk T B q = 268 ∨ tk T B q = 256 ∨ tk T B q = 269 ∨ tk T B q = 265
  · rw [if_neg (fun u => u z)]
    have hfu := r_isFull (n := n) g1 g2 hk1 ho hn z
    have n4 : ¬ skX (tk T B q) = 4 := by
      unfold skX
      by_cases y1 : tk T B q = 268
      · rw [if_pos y1]; decide
      rw [if_neg y1]
      by_cases y2 : tk T B q = 256
      · rw [if_pos y2]; decide
      rw [if_neg y2]
      by_cases y3 : tk T B q = 269
      · rw [if_pos y3]; decide
      rw [if_neg y3, if_pos (by omega)]; decide
    by_cases y : skFull (tk T B q) n s
    · rw [if_pos y]
      rw [if_pos y] at hfu
      refine ⟨fun _ => ⟨upM M1 176 22 (1 + 8 * q + 4), ?_, upM_s _ _ _ _, FK.rd (f1.trans FP.f), by rw [upM_i (by decide), g6]; exact g4⟩, fun u => by have u' : 1 + 8 * q + 4 = 0 := u; omega⟩
      simp only [pX12_skyClause_33, if_neg n4, g1.o, if_true, hfu, Option.bind_some, show ¬ (1 : Int) = 0 by decide, if_false, fl 4 (by decide)]
    · rw [if_neg y]
      rw [if_neg y] at hfu
      have hRP : RP S M1 T B q := ⟨g1, g2, g3, g4, g5, g6⟩
      have f2 : ∀ v, FK M (upM M1 176 21 v) := fun v => FK.rd (f1.trans FP.p)
      by_cases y1 : tk T B q = 268
      · rw [if_pos y1]
        have hn0 : n = 0 := by
          by_cases u : n = 0
          · exact u
          · exact absurd (Or.inr (Or.inl (fun v => u (v.2 y1)))) y
        have hs : kSd s = 0 := by
          rcases ho.1 with u | u
          · exact u.2.1
          · omega
        have hx : skX (tk T B q) = 1 - 1 := by unfold skX; rw [if_pos y1]; rfl
        obtain ⟨c1, c2, c3⟩ := r_skyP hT hRP (w := 1) (by decide) hx rfl (by rw [y1]; rfl) hfu
        rw [c1, hx]
        obtain ⟨a1, a2⟩ := r_sheet hT c2 c3.symm (hk1.fp FP.p) hs
        refine ⟨fun u => ?_, fun u => ?_⟩
        · obtain ⟨M', d1, d2, d3, d4⟩ := a1 u
          exact ⟨M', d1, d2, (f2 _).trans d3, d4⟩
        · obtain ⟨M', p', d1, d2, d3, d4, d5⟩ := a2 u
          exact ⟨M', p', d1, d2, d3, d4, (f2 _).trans d5⟩
      rw [if_neg y1]
      have hn0 : ¬ n = 0 := fun u => y (Or.inr (Or.inl (fun v => y1 (v.1 u))))
      have hs : 2 ≤ kSd s ∧ kSd s ≤ 6 := by
        rcases ho.1 with u | u
        · exact absurd u.1 hn0
        · exact u.2.1
      have o2 := ho.2.1
      by_cases y2 : tk T B q = 256
      · rw [if_pos y2]
        have hp : ¬ 5 ≤ kPn s := fun u => y (Or.inr (Or.inr (Or.inl ⟨y2, u⟩)))
        have hx : skX (tk T B q) = 2 - 1 := by unfold skX; rw [if_neg y1, if_pos y2]; rfl
        obtain ⟨c1, c2, c3⟩ := r_skyP hT hRP (w := 2) (by decide) hx rfl (by rw [y2]; rfl) hfu
        rw [c1, hx]
        obtain ⟨a1, a2⟩ := r_pen_ hT c2 c3.symm (hk1.fp FP.p) hs (by omega)
        refine ⟨fun u => ?_, fun u => ?_⟩
        · obtain ⟨M', d1, d2, d3, d4⟩ := a1 u
          exact ⟨M', d1, d2, (f2 _).trans d3, d4⟩
        · obtain ⟨M', p', d1, d2, d3, d4, d5⟩ := a2 u
          exact ⟨M', p', d1, d2, d3, d4, (f2 _).trans d5⟩
      rw [if_neg y2]
      by_cases y3 : tk T B q = 269
      · rw [if_pos y3]
        have hp : ¬ 12 ≤ kWn s := fun u => y (Or.inr (Or.inr (Or.inr ⟨y3, u⟩)))
        have hx : skX (tk T B q) = 3 - 1 := by unfold skX; rw [if_neg y1, if_neg y2, if_pos y3]; rfl
        obtain ⟨c1, c2, c3⟩ := r_skyP hT hRP (w := 3) (by decide) hx rfl (by rw [y3]; rfl) hfu
        rw [c1, hx]
        obtain ⟨a1, a2⟩ := r_wind_ hT c2 c3.symm (hk1.fp FP.p) hs (by omega)
        refine ⟨fun u => ?_, fun u => ?_⟩
        · obtain ⟨M', d1, d2, d3, d4⟩ := a1 u
          exact ⟨M', d1, d2, (f2 _).trans d3, d4⟩
        · obtain ⟨M', p', d1, d2, d3, d4, d5⟩ := a2 u
          exact ⟨M', p', d1, d2, d3, d4, (f2 _).trans d5⟩
      rw [if_neg y3]
      have y4 : tk T B q = 265 := by omega
      have hx : skX (tk T B q) = 4 - 1 := by unfold skX; rw [if_neg y1, if_neg y2, if_neg y3, if_pos y4]; rfl
      obtain ⟨c1, c2, c3⟩ := r_skyP hT hRP (w := 4) (by decide) hx rfl (by rw [y4]; rfl) hfu
      rw [c1, hx]
      obtain ⟨a1, a2⟩ := r_mark_ hT c2 c3.symm (hk1.fp FP.p) hs
      refine ⟨fun u => ?_, fun u => ?_⟩
      · obtain ⟨M', d1, d2, d3, d4⟩ := a1 u
        exact ⟨M', d1, d2, (f2 _).trans d3, d4⟩
      · obtain ⟨M', p', d1, d2, d3, d4, d5⟩ := a2 u
        exact ⟨M', p', d1, d2, d3, d4, (f2 _).trans d5⟩
  · rw [if_pos z]
    have hx : skX (tk T B q) = 4 := by
      unfold skX
      rw [if_neg (by omega), if_neg (by omega), if_neg (by omega), if_neg (by omega)]
    refine ⟨fun _ => ⟨upM M1 176 22 (1 + 8 * q + 0), ?_, upM_s _ _ _ _, FK.rd (f1.trans FP.f), by rw [upM_i (by decide), g6]; exact g4⟩, fun u => by have u' : 1 + 8 * q + 0 = 0 := u; omega⟩
    simp only [pX12_skyClause_33, hx, g1.o, if_true, fl 0 (by decide), Option.bind_some]
end
