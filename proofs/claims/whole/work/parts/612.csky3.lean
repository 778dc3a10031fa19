/-! A SKY READ: the class, all clauses -/
noncomputable def skF (T : Int) (B : Int → Int) : Nat → Int → Int → SK → Int × SK
  | 0, _, _, s => (0, s)
  | k + 1, n, q, s => if (skC T B n q s).1 ≠ 0 then ((skC T B n q s).1, s) else if tk T B (skC T B n q s).2.1 = 303 then (0, (skC T B n q s).2.2) else if tk T B (skC T B n q s).2.1 = 59 then skF T B k (n + 1) (nx T B (skC T B n q s).2.1) (skC T B n q s).2.2 else (1 + 8 * (skC T B n q s).2.1 + 0, s)
section
variable {S : ZS} {M : ZM} {T : Int} {B : Int → Int} {q n : Int} {s : SK}
theorem c_clause (hT : TOk T B) (h : CP S M T B q) (hk : CK M s) (ho : KOk s n) (hn : 0 ≤ n) : ((skC T B n q s).1 ≠ 0 → ∃ M', pX7_takeClause S M 6 2 n = some (0, M') ∧ M' 2 5 = (skC T B n q s).1 ∧ FY M M') ∧ ((skC T B n q s).1 = 0 → ∃ M', pX7_takeClause S M 6 2 n = some (1, M') ∧ CP S M' T B (skC T B n q s).2.1 ∧ CK M' (skC T B n q s).2.2 ∧ FY M M') := by
  have hq := h.2.2.1
  have ht := c_token h
  unfold skC
  by_cases z : tk T B q = 268 ∨ tk T B q = 256 ∨ tk T B q = 269 ∨ tk T B q = 265
  · rw [if_neg (fun u => u z)]
    have hqT : q < T := by
      rcases Int.lt_or_le q T with u | u
      · exact u
      · rw [tk_end u] at z; omega
    have pre : pX7_takeClause S M 6 2 n = pX7_takeClause_39 S M 6 2 n (tk T B q) := by
      by_cases y1 : tk T B q = 268
      · simp only [pX7_takeClause, h.1.1.o, if_true, ht, Option.bind_some, if_pos y1]
      by_cases y2 : tk T B q = 256
      · simp only [pX7_takeClause, h.1.1.o, if_true, ht, Option.bind_some, if_neg y1, if_pos y2]
      by_cases y3 : tk T B q = 269
      · simp only [pX7_takeClause, h.1.1.o, if_true, ht, Option.bind_some, if_neg y1, if_neg y2, if_pos y3]
      have y4 : tk T B q = 265 := by omega
      simp only [pX7_takeClause, h.1.1.o, if_true, ht, Option.bind_some, if_neg y1, if_neg y2, if_neg y3, if_pos y4]
    rw [pre]
    have hcs := c_canStand (n := n) h hk z
    by_cases y : skFull (tk T B q) n s
    · rw [if_pos y]
      rw [if_pos y] at hcs
      refine ⟨fun _ => ⟨upM M 2 5 (1 + 8 * q + 4), ?_, upM_s _ _ _ _, FY.c FC.u5⟩, fun u => by have u' : 1 + 8 * q + 4 = 0 := u; omega⟩
      simp only [pX7_takeClause_39, h.1.1.o, if_true, hcs, Option.bind_some, c_fail hT h (k := 4) (by decide), true_or]
    · rw [if_neg y]
      rw [if_neg y] at hcs
      obtain ⟨M1, b1, b2, b3⟩ := c_advance hT h hqT
      have hk1 := hk.fc b3
      have f1 := FY.c b3
      by_cases y1 : tk T B q = 268
      · rw [if_pos y1]
        obtain ⟨a1, a2⟩ := c_sheet hT b2 hk1
        refine ⟨fun u => ?_, fun u => ?_⟩
        · obtain ⟨M', d1, d2, d3⟩ := a1 u
          refine ⟨M', ?_, d2, f1.trans d3⟩
          simp only [pX7_takeClause_39, h.1.1.o, if_true, hcs, Option.bind_some, show ¬ (1 : Int) = 0 by decide, if_false, b1, if_neg (show ¬ tk T B q = 256 by omega), if_pos y1, d1, true_or]
        · obtain ⟨M', d1, d2, d3, d4⟩ := a2 u
          refine ⟨M', ?_, d2, d3, f1.trans d4⟩
          simp only [pX7_takeClause_39, h.1.1.o, if_true, hcs, Option.bind_some, show ¬ (1 : Int) = 0 by decide, if_false, b1, if_neg (show ¬ tk T B q = 256 by omega), if_pos y1, d1, or_true]
      rw [if_neg y1]
      have hn0 : ¬ n = 0 := fun u => y (Or.inr (Or.inl (fun v => y1 (v.1 u))))
      have hs : 2 ≤ kSd s ∧ kSd s ≤ 6 := by
        rcases ho.1 with u | u
        · exact absurd u.1 hn0
        · exact u.2.1
      by_cases y2 : tk T B q = 256
      · rw [if_pos y2]
        have hp : 0 ≤ kPn s ∧ kPn s < 5 := by
          have := ho.2.1.1
          have : ¬ 5 ≤ kPn s := fun u => y (Or.inr (Or.inr (Or.inl ⟨y2, u⟩)))
          omega
        obtain ⟨a1, a2⟩ := c_pen_ hT b2 hk1 hs hp
        refine ⟨fun u => ?_, fun u => ?_⟩
        · obtain ⟨M', d1, d2, d3⟩ := a1 u
          refine ⟨M', ?_, d2, f1.trans d3⟩
          simp only [pX7_takeClause_39, h.1.1.o, if_true, hcs, Option.bind_some, show ¬ (1 : Int) = 0 by decide, if_false, b1, if_pos y2, d1, true_or]
        · obtain ⟨M', d1, d2, d3, d4⟩ := a2 u
          refine ⟨M', ?_, d2, d3, f1.trans d4⟩
          simp only [pX7_takeClause_39, h.1.1.o, if_true, hcs, Option.bind_some, show ¬ (1 : Int) = 0 by decide, if_false, b1, if_pos y2, d1, or_true]
      rw [if_neg y2]
      by_cases y3 : tk T B q = 269
      · rw [if_pos y3]
        have hp : 0 ≤ kWn s ∧ kWn s < 12 := by
          have := ho.2.1.2
          have : ¬ 12 ≤ kWn s := fun u => y (Or.inr (Or.inr (Or.inr ⟨y3, u⟩)))
          omega
        obtain ⟨a1, a2⟩ := c_wind_ hT b2 hk1 hp
        refine ⟨fun u => ?_, fun u => ?_⟩
        · obtain ⟨M', d1, d2, d3⟩ := a1 u
          refine ⟨M', ?_, d2, f1.trans d3⟩
          simp only [pX7_takeClause_39, h.1.1.o, if_true, hcs, Option.bind_some, show ¬ (1 : Int) = 0 by decide, if_false, b1, if_neg y2, if_neg y1, if_pos y3, d1, true_or]
        · obtain ⟨M', d1, d2, d3, d4⟩ := a2 u
          refine ⟨M', ?_, d2, d3, f1.trans d4⟩
          simp only [pX7_takeClause_39, h.1.1.o, if_true, hcs, Option.bind_some, show ¬ (1 : Int) = 0 by decide, if_false, b1, if_neg y2, if_neg y1, if_pos y3, d1, or_true]
      rw [if_neg y3]
      obtain ⟨a1, a2⟩ := c_mark_ hT b2 hk1 hs
      refine ⟨fun u => ?_, fun u => ?_⟩
      · obtain ⟨M', d1, d2, d3⟩ := a1 u
        refine ⟨M', ?_, d2, f1.trans d3⟩
        simp only [pX7_takeClause_39, h.1.1.o, if_true, hcs, Option.bind_some, show ¬ (1 : Int) = 0 by decide, if_false, b1, if_neg y1, if_neg y2, if_neg y3, d1, true_or]
      · obtain ⟨M', d1, d2, d3, d4⟩ := a2 u
        refine ⟨M', ?_, d2, d3, f1.trans d4⟩
        simp only [pX7_takeClause_39, h.1.1.o, if_true, hcs, Option.bind_some, show ¬ (1 : Int) = 0 by decide, if_false, b1, if_neg y1, if_neg y2, if_neg y3, d1, or_true]
  · rw [if_pos z]
    refine ⟨fun _ => ⟨upM M 2 5 (1 + 8 * q + 0), ?_, upM_s _ _ _ _, FY.c FC.u5⟩, fun u => by have u' : 1 + 8 * q + 0 = 0 := u; omega⟩
    simp only [pX7_takeClause, h.1.1.o, if_true, ht, Option.bind_some, show ¬ tk T B q = 268 by omega, show ¬ tk T B q = 256 by omega, show ¬ tk T B q = 269 by omega, show ¬ tk T B q = 265 by omega, if_false, c_fail hT h (k := 0) (by decide), true_or]
end
