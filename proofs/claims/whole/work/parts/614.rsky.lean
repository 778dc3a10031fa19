/-! A SKY READ: the reference, which clause it is -/
/-- the reference's number of a clause's word -/
noncomputable def skX (t : Int) : Int := if t = 268 then 0 else if t = 256 then 1 else if t = 269 then 2 else if t = 265 then 3 else 4
section
variable {S : ZS} {M : ZM} {T : Int} {B : Int → Int} {p q n : Int} {s : SK}
/-- a word that stands here ends where its letters end -/
theorem tk_len (hT : TOk T B) {w : Int} (hw : 1 ≤ w ∧ w < 20) (hq : 0 ≤ q) (h : tk T B q = 256 + (cw w : Int)) : q + zSl w = eot T B q ∧ q < T := by
  obtain ⟨c1, c2, c3⟩ := cw_of hw
  have hl := (wt_len c1).1
  have e := (tk_w hT c1 hq).1 h
  have hlt : q < rn T B 97 122 q := by have := e.1; omega
  have z2 : isLt (bt T B q) := rn_in (Int.le_refl _) hlt
  have := bt_lt (T := T) (B := B) (p := q) (by omega)
  rw [eot_lt z2]
  have := e.1
  omega
theorem r_skyW (hT : TOk T B) (h : RP S M T B p) (hq : q = sk T B p) : pX12_skyClause S M 176 n = pX12_skyClause_33 S (upM M 176 21 q) 176 n q (skX (tk T B q)) ∧ RP S (upM M 176 21 q) T B q := by
  obtain ⟨b1, b2⟩ := h.sk hT
  rw [← hq] at b1 b2
  refine ⟨?_, b2⟩
  generalize upM M 176 21 q = M1 at *
  obtain ⟨g1, g2, g3, g4, g5, g6⟩ := b2
  obtain ⟨f, hf⟩ : ∃ f, zFU = f + 1 + 1 + 1 + 1 + 1 := ⟨zFU - 5, by have := zFU_gt (n := 5) (by decide); omega⟩
  have hq' : 0 ≤ M1 176 21 ∧ M1 176 21 ≤ T := by rw [g6]; exact g4
  have s1 := r_stood g1 g2 hT g3 (w := 1) (by decide) hq'
  have s2 := r_stood g1 g2 hT g3 (w := 2) (by decide) hq'
  have s3 := r_stood g1 g2 hT g3 (w := 3) (by decide) hq'
  have s4 := r_stood g1 g2 hT g3 (w := 4) (by decide) hq'
  rw [g6, show (256 + (cw 1 : Int)) = 268 from rfl] at s1
  rw [g6, show (256 + (cw 2 : Int)) = 256 from rfl] at s2
  rw [g6, show (256 + (cw 3 : Int)) = 269 from rfl] at s3
  rw [g6, show (256 + (cw 4 : Int)) = 265 from rfl] at s4
  have w1 : w32 (0 + 1) = 1 := by decide
  have w2 : w32 (1 + 1) = 2 := by decide
  have w3 : w32 (2 + 1) = 3 := by decide
  have w4 : w32 (3 + 1) = 4 := by decide
  have k0 : pX12_skyWord S M1 0 = some (1, M1) := by simp only [pX12_skyWord, if_true]
  have k1 : pX12_skyWord S M1 1 = some (2, M1) := by simp only [pX12_skyWord, show ¬ (1 : Int) = 0 by decide, if_false, if_true]
  have k2 : pX12_skyWord S M1 2 = some (3, M1) := by simp only [pX12_skyWord, show ¬ (2 : Int) = 0 by decide, show ¬ (2 : Int) = 1 by decide, if_false, if_true]
  have k3 : pX12_skyWord S M1 3 = some (4, M1) := by simp only [pX12_skyWord, show ¬ (3 : Int) = 0 by decide, show ¬ (3 : Int) = 1 by decide, show ¬ (3 : Int) = 2 by decide, if_false]
  have pre : pX12_skyClause S M 176 n = pX12_skyClause_11 S zFU M1 176 n q 0 := by
    simp only [pX12_skyClause, g1.o, if_true, b1, Option.bind_some, g6]
  rw [pre, hf]
  unfold skX
  by_cases y1 : tk T B q = 268
  · rw [if_pos y1] at s1 ⊢
    simp only [pX12_skyClause_11, show ¬ (4 : Int) ≤ 0 by decide, if_false, k0, Option.bind_some, g1.o, if_true, s1, show ¬ (1 : Int) = 0 by decide]
  rw [if_neg y1] at s1 ⊢
  by_cases y2 : tk T B q = 256
  · rw [if_pos y2] at s2 ⊢
    simp only [pX12_skyClause_11, show ¬ (4 : Int) ≤ 0 by decide, show ¬ (4 : Int) ≤ 1 by decide, if_false, k0, k1, Option.bind_some, g1.o, if_true, s1, w1, s2, show ¬ (1 : Int) = 0 by decide]
  rw [if_neg y2] at s2 ⊢
  by_cases y3 : tk T B q = 269
  · rw [if_pos y3] at s3 ⊢
    simp only [pX12_skyClause_11, show ¬ (4 : Int) ≤ 0 by decide, show ¬ (4 : Int) ≤ 1 by decide, show ¬ (4 : Int) ≤ 2 by decide, if_false, k0, k1, k2, Option.bind_some, g1.o, if_true, s1, w1, s2, w2, s3, show ¬ (1 : Int) = 0 by decide]
  rw [if_neg y3] at s3 ⊢
  by_cases y4 : tk T B q = 265
  · rw [if_pos y4] at s4 ⊢
    simp only [pX12_skyClause_11, show ¬ (4 : Int) ≤ 0 by decide, show ¬ (4 : Int) ≤ 1 by decide, show ¬ (4 : Int) ≤ 2 by decide, show ¬ (4 : Int) ≤ 3 by decide, if_false, k0, k1, k2, k3, Option.bind_some, g1.o, if_true, s1, w1, s2, w2, s3, w3, s4, show ¬ (1 : Int) = 0 by decide]
  rw [if_neg y4] at s4 ⊢
  simp only [pX12_skyClause_11, show ¬ (4 : Int) ≤ 0 by decide, show ¬ (4 : Int) ≤ 1 by decide, show ¬ (4 : Int) ≤ 2 by decide, show ¬ (4 : Int) ≤ 3 by decide, Int.le_refl, if_false, k0, k1, k2, k3, Option.bind_some, g1.o, if_true, s1, w1, s2, w2, s3, w3, s4, w4]
/-- the reference's new rows hold what is told so far -/
def RKr (M : ZM) (s : SK) : Prop := (M 190 0 = kSd s ∧ M 190 1 = kFd s ∧ M 190 2 = kPn s ∧ M 190 3 = kWn s) ∧ (∀ i, 0 ≤ i → i < 5 → M 191 i = kA s i ∧ M 192 i = kS s i) ∧ (∀ i, 0 ≤ i → i < 12 → M 193 i = kW s i ∧ M 194 i = kG s i) ∧ ∀ c, 0 ≤ c → c < 36 → M 195 c = kM s c
theorem RKr.fp {M' : ZM} (h : RKr M s) (f : FP M M') : RKr M' s := by
  unfold RKr at *
  rw [f.1 190 (by decide), f.1 191 (by decide), f.1 192 (by decide), f.1 193 (by decide), f.1 194 (by decide), f.1 195 (by decide)]; exact h
theorem r_isFull (hS : ShW S) (hM : PtW M) (hk : RKr M s) (ho : KOk s n) (hn : 0 ≤ n ∧ n ≤ 40) {t : Int} (ht : t = 268 ∨ t = 256 ∨ t = 269 ∨ t = 265) : pX12_isFull S M 176 (skX t) n = some (if skFull t n s then 1 else 0, M) := by
  obtain ⟨k0, k1, k2, k3⟩ := hk.1
  have o2 := ho.2.1
  by_cases z1 : n = 40
  · rw [if_pos (Or.inl (by omega))]
    simp only [pX12_isFull, pX12_isFull_27, if_pos z1]
  unfold skX
  by_cases y1 : t = 268
  · rw [if_pos y1]
    by_cases zn : n = 0
    · rw [if_neg (by unfold skFull; omega)]
      simp only [pX12_isFull, pX12_isFull_15, pX12_isFull_24, pX12_isFull_44, pX12_isFull_64, pX12_isFull_65, if_neg z1, if_pos zn, if_true, show ¬ (0 : Int) = 1 by decide, show ¬ (0 : Int) = 2 by decide, if_false, true_or]
    · rw [if_pos (Or.inr (Or.inl (fun u => zn (u.2 y1))))]
      simp only [pX12_isFull, pX12_isFull_15, pX12_isFull_24, pX12_isFull_27, if_neg z1, if_neg zn, if_true, show ¬ (1 : Int) = 0 by decide, if_false]
  rw [if_neg y1]
  by_cases zn : n = 0
  · rw [if_pos (Or.inr (Or.inl (fun u => y1 (u.1 zn))))]
    have : ∀ x : Int, x ≠ 0 → pX12_isFull S M 176 x n = some (1, M) := fun x hx => by
      simp only [pX12_isFull, pX12_isFull_15, pX12_isFull_24, pX12_isFull_27, if_neg z1, if_pos zn, if_neg hx, show ¬ (0 : Int) = 1 by decide, if_false]
    refine this _ ?_
    by_cases y2 : t = 256
    · rw [if_pos y2]; decide
    rw [if_neg y2]
    by_cases y3 : t = 269
    · rw [if_pos y3]; decide
    rw [if_neg y3, if_pos (by omega)]; decide
  by_cases y2 : t = 256
  · rw [if_pos y2]
    by_cases z4 : kPn s = 5
    · rw [if_pos (Or.inr (Or.inr (Or.inl ⟨y2, by omega⟩)))]
      simp only [pX12_isFull, pX12_isFull_15, pX12_isFull_24, pX12_isFull_60, pX12_isFull_65, if_neg z1, if_neg zn, if_true, show ¬ (1 : Int) = 0 by decide, if_false, hS.o, hM.o, k2, if_pos z4, show ((0 : Int) ≤ 2 ∧ (2 : Int) < 10) by decide, Int.le_refl, or_true, show (0 : Int) ≤ 2 by decide, show (2 : Int) < 4 by decide, and_self]
    · rw [if_neg (by unfold skFull; omega)]
      simp only [pX12_isFull, pX12_isFull_15, pX12_isFull_24, pX12_isFull_44, pX12_isFull_64, pX12_isFull_65, if_neg z1, if_neg zn, if_true, show ¬ (1 : Int) = 0 by decide, show ¬ (1 : Int) = 2 by decide, if_false, hS.o, hM.o, k2, if_neg z4, true_or, show (0 : Int) ≤ 2 by decide, show (2 : Int) < 4 by decide, and_self]
  rw [if_neg y2]
  by_cases y3 : t = 269
  · rw [if_pos y3]
    by_cases z4 : kWn s = 12
    · rw [if_pos (Or.inr (Or.inr (Or.inr ⟨y3, by omega⟩)))]
      simp only [pX12_isFull, pX12_isFull_15, pX12_isFull_24, pX12_isFull_44, pX12_isFull_60, pX12_isFull_65, if_neg z1, if_neg zn, if_true, show ¬ (2 : Int) = 0 by decide, show ¬ (2 : Int) = 1 by decide, if_false, hS.o, hM.o, k3, if_pos z4, or_true, show (0 : Int) ≤ 3 by decide, show (3 : Int) < 4 by decide, and_self]
    · rw [if_neg (by unfold skFull; omega)]
      simp only [pX12_isFull, pX12_isFull_15, pX12_isFull_24, pX12_isFull_44, pX12_isFull_64, pX12_isFull_65, if_neg z1, if_neg zn, if_true, show ¬ (2 : Int) = 0 by decide, show ¬ (2 : Int) = 1 by decide, if_false, hS.o, hM.o, k3, if_neg z4, true_or, show (0 : Int) ≤ 3 by decide, show (3 : Int) < 4 by decide, and_self]
  rw [if_neg y3, if_pos (by omega), if_neg (by unfold skFull; omega)]
  simp only [pX12_isFull, pX12_isFull_15, pX12_isFull_24, pX12_isFull_44, pX12_isFull_64, pX12_isFull_65, if_neg z1, if_neg zn, if_true, show ¬ (3 : Int) = 0 by decide, show ¬ (3 : Int) = 1 by decide, show ¬ (3 : Int) = 2 by decide, if_false, true_or]
end
