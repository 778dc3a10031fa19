/-! A SKY READ: the reference, all clauses -/
/-- only the new rows and the reading are others -/
def FL (M M' : ZM) : Prop := (∀ x, x ≠ 176 → (x < 190 ∨ 195 < x) → M' x = M x) ∧ ∀ j, (j < 20 ∨ 28 ≤ j ∨ j = 23 ∨ j = 24) → M' 176 j = M 176 j
theorem FL.refl (M : ZM) : FL M M := ⟨fun _ _ _ => rfl, fun _ _ => rfl⟩
theorem FL.trans {M M' M'' : ZM} (h : FL M M') (h' : FL M' M'') : FL M M'' := ⟨fun x a b => (h'.1 x a b).trans (h.1 x a b), fun j a => (h'.2 j a).trans (h.2 j a)⟩
theorem FL.k {M M' : ZM} (h : FK M M') : FL M M' := ⟨h.1, fun j a => h.2 j (by omega) (by omega)⟩
theorem FL.u {M : ZM} {j v : Int} (hj : 20 ≤ j ∧ j < 28 ∧ j ≠ 23 ∧ j ≠ 24) : FL M (upM M 176 j v) := ⟨fun x a _ => upM_r a, fun i a => upM_i (by omega)⟩
theorem FL.r {M : ZM} {x j v : Int} (hx : 190 ≤ x ∧ x ≤ 195) : FL M (upM M x j v) := ⟨fun y a b => upM_r (by omega), fun i _ => by rw [upM_r (by omega)]⟩
theorem PtW.fl {M M' : ZM} (h : PtW M) (f : FL M M') : PtW M' := h.j (fun j x => f.2 j (by omega))
section
variable {S : ZS} {M : ZM} {T : Int} {B : Int → Int} {p q n : Int} {s : SK}
theorem r_skF0 (hS : ShW S) (f : Nat) (M : ZM) (n : Int) : pX12_readsAll_49 S (f + 1) M 176 n 0 = some (upM M 176 20 0) := by
  simp only [pX12_readsAll_49, if_true, hS.o, zlet]
theorem r_skFx (hT : TOk T B) (h : RP S M T B p) (hk : RKr M s) (ho : KOk s n) (hn : 0 ≤ n ∧ n ≤ 40) (z : (skC T B n (sk T B p) s).1 ≠ 0) (f : Nat) : ∃ M', pX12_readsAll_49 S (f + 1 + 1) M 176 n 1 = some M' ∧ M' 176 22 = (skC T B n (sk T B p) s).1 ∧ M' 176 20 = 0 ∧ FL M M' := by
  obtain ⟨M1, a1, a2, a3, a4⟩ := (r_clause hT h rfl hk ho hn).1 z
  obtain ⟨M2, b1, b2, b3⟩ := r_goesF h.1 (h.2.1.fk a3) hT (h.2.2.1.fk a3) a4 (by rw [a2]; exact z)
  refine ⟨upM M2 176 20 0, ?_, by rw [upM_i (by decide), b2, a2], upM_s _ _ _ _, ((FL.k a3).trans (FL.k (FK.rd b3))).trans (FL.u (by decide))⟩
  rw [← r_skF0 h.1 f M2 (w32 (n + 1))]
  simp only [pX12_readsAll_49, show ¬ (1 : Int) = 0 by decide, if_false, h.1.o, if_true, a1, Option.bind_some, b1]
theorem r_skF (hT : TOk T B) : ∀ (k fuel : Nat) (M : ZM) (n p : Int) (s : SK), n + k + 1 = 41 → 0 ≤ n → RP S M T B p → RKr M s → KOk s n → k + 1 < fuel → ∃ M', pX12_readsAll_49 S fuel M 176 n 1 = some M' ∧ M' 176 22 = (skF T B (k + 1) n (sk T B p) s).1 ∧ M' 176 20 = 0 ∧ FL M M' ∧ ((skF T B (k + 1) n (sk T B p) s).1 = 0 → RKr M' (skF T B (k + 1) n (sk T B p) s).2) := by
  intro k
  induction k with
  | zero =>
    intro fuel M n p s h1 h2 h hk ho h3
    obtain ⟨f, rfl⟩ : ∃ f, fuel = f + 1 + 1 := ⟨fuel - 2, by omega⟩
    have hs := sk_b (B := B) h.2.2.2.1.2
    have hp := h.2.2.2.1
    have z := skC_40 (T := T) (B := B) (s := s) (n := n) (q := sk T B p) (by omega) (by omega)
    obtain ⟨M', a1, a2, a3, a4⟩ := r_skFx hT h hk ho (by omega) z f
    rw [skF, if_pos z]
    exact ⟨M', a1, a2, a3, a4, fun u => absurd u z⟩
  | succ k ih =>
    intro fuel M n p s h1 h2 h hk ho h3
    obtain ⟨f, rfl⟩ : ∃ f, fuel = f + 1 + 1 := ⟨fuel - 2, by omega⟩
    have hs := sk_b (B := B) h.2.2.2.1.2
    have hp := h.2.2.2.1
    rw [skF]
    by_cases z : (skC T B n (sk T B p) s).1 ≠ 0
    · obtain ⟨M', a1, a2, a3, a4⟩ := r_skFx hT h hk ho (by omega) z f
      rw [if_pos z]
      exact ⟨M', a1, a2, a3, a4, fun u => absurd u z⟩
    · have z0 : (skC T B n (sk T B p) s).1 = 0 := by omega
      have ho1 := skC_ok (T := T) (B := B) (q := sk T B p) (by omega) ho h2 z0
      obtain ⟨M1, p', a1, a2, a3, a4, a5⟩ := (r_clause hT h rfl hk ho (by omega)).2 z0
      rw [if_neg z]
      generalize (skC T B n (sk T B p) s).2.1 = q' at *
      generalize (skC T B n (sk T B p) s).2.2 = s' at *
      obtain ⟨g1, g2, g3⟩ := r_goesOn hT a2 a3.symm
      by_cases y : tk T B q' = 303
      · rw [if_pos y]
        obtain ⟨M2, b1, b2, b3⟩ := g1 y
        refine ⟨upM M2 176 20 0, ?_, by rw [upM_i (by decide), b2], upM_s _ _ _ _, ((FL.k a5).trans (FL.k (FK.rd b3))).trans (FL.u (by decide)), fun _ => ?_⟩
        · rw [← r_skF0 h.1 f M2 (w32 (n + 1))]
          simp only [pX12_readsAll_49, show ¬ (1 : Int) = 0 by decide, if_false, h.1.o, if_true, a1, Option.bind_some, b1]
        · have := a4.fp b3
          unfold RKr at *
          rw [upM_r (by decide), upM_r (by decide), upM_r (by decide), upM_r (by decide), upM_r (by decide), upM_r (by decide)]; exact this
      rw [if_neg y]
      by_cases x : tk T B q' = 59
      · rw [if_pos x]
        obtain ⟨M2, b1, b2, b3, b4⟩ := g2 x
        have w1 : w32 (n + 1) = n + 1 := w32_i (by omega) (by omega)
        obtain ⟨M', d1, d2, d3, d4, d5⟩ := ih (f + 1) M2 (n + 1) (q' + 1) s' (by omega) (by omega) b2 (a4.fp b4) ho1 (by omega)
        rw [b3] at d2 d5
        refine ⟨M', ?_, d2, d3, ((FL.k a5).trans (FL.k (FK.rd b4))).trans d4, d5⟩
        rw [← d1]
        rw [pX12_readsAll_49]
        simp only [show ¬ (1 : Int) = 0 by decide, if_false, h.1.o, if_true, a1, Option.bind_some, b1, w1]
      · rw [if_neg x]
        obtain ⟨M2, b1, b2, b3⟩ := g3 y x
        refine ⟨upM M2 176 20 0, ?_, by rw [upM_i (by decide), b2], upM_s _ _ _ _, ((FL.k a5).trans (FL.k (FK.rd b3))).trans (FL.u (by decide)), fun u => ?_⟩
        · rw [← r_skF0 h.1 f M2 (w32 (n + 1))]
          simp only [pX12_readsAll_49, show ¬ (1 : Int) = 0 by decide, if_false, h.1.o, if_true, a1, Option.bind_some, b1]
        · have u' : 1 + 8 * q' + 0 = 0 := u
          have hs' := sk_b (B := B) a2.2.2.2.1.2
          have hp' := a2.2.2.2.1
          omega
theorem r_clr26 (hS : ShW S) : ∀ (k fuel : Nat) (M : ZM) (c : Int), PtW M → c + k = 36 → 0 ≤ c → k < fuel → ∃ M', pX12_readsAll_26 S fuel M 176 c = pX12_readsAll_49 S zFU M' 176 0 1 ∧ (∀ x, x ≠ 195 → M' x = M x) ∧ (∀ j, c ≤ j → j < 36 → M' 195 j = 0) ∧ ∀ j, j < c → M' 195 j = M 195 j := by
  intro k
  induction k with
  | zero =>
    intro fuel M c hM h1 h2 h3
    obtain ⟨f, rfl⟩ : ∃ f, fuel = f + 1 := ⟨fuel - 1, by omega⟩
    refine ⟨M, ?_, fun _ _ => rfl, fun j a b => by omega, fun _ _ => rfl⟩
    simp only [pX12_readsAll_26, if_pos (by omega : 36 ≤ c)]
  | succ k ih =>
    intro fuel M c hM h1 h2 h3
    obtain ⟨f, rfl⟩ : ∃ f, fuel = f + 1 := ⟨fuel - 1, by omega⟩
    have w1 : w32 (c + 1) = c + 1 := w32_i (by omega) (by omega)
    obtain ⟨M', a1, a2, a3, a4⟩ := ih f (upM M 195 c 0) (c + 1) (hM.o.eq (upM_r (by decide))) (by omega) (by omega) (by omega)
    refine ⟨M', ?_, fun x y => (a2 x y).trans (upM_r y), fun j a b => ?_, fun j a => by rw [a4 j (by omega), upM_i (by omega)]⟩
    · rw [← a1]
      simp only [pX12_readsAll_26, if_neg (by omega : ¬ 36 ≤ c), hS.o, hM.o, if_true, h2, show c < 36 by omega, and_self, zlet, w1]
    · by_cases z : j = c
      · subst z; rw [a4 j (by omega), upM_s]
      · exact a3 j (by omega) b
theorem r_clr6 (hS : ShW S) : ∀ (k fuel : Nat) (M : ZM) (c : Int), PtW M → c + k = 4 → 0 ≤ c → k < fuel → ∃ M', pX12_readsAll_6 S fuel M 176 c = pX12_readsAll_26 S zFU M' 176 0 ∧ (∀ x, x ≠ 190 → M' x = M x) ∧ (∀ j, c ≤ j → j < 4 → M' 190 j = 0) ∧ ∀ j, j < c → M' 190 j = M 190 j := by
  intro k
  induction k with
  | zero =>
    intro fuel M c hM h1 h2 h3
    obtain ⟨f, rfl⟩ : ∃ f, fuel = f + 1 := ⟨fuel - 1, by omega⟩
    refine ⟨M, ?_, fun _ _ => rfl, fun j a b => by omega, fun _ _ => rfl⟩
    simp only [pX12_readsAll_6, if_pos (by omega : 4 ≤ c)]
  | succ k ih =>
    intro fuel M c hM h1 h2 h3
    obtain ⟨f, rfl⟩ : ∃ f, fuel = f + 1 := ⟨fuel - 1, by omega⟩
    have w1 : w32 (c + 1) = c + 1 := w32_i (by omega) (by omega)
    obtain ⟨M', a1, a2, a3, a4⟩ := ih f (upM M 190 c 0) (c + 1) (hM.o.eq (upM_r (by decide))) (by omega) (by omega) (by omega)
    refine ⟨M', ?_, fun x y => (a2 x y).trans (upM_r y), fun j a b => ?_, fun j a => by rw [a4 j (by omega), upM_i (by omega)]⟩
    · rw [← a1]
      simp only [pX12_readsAll_6, if_neg (by omega : ¬ 4 ≤ c), hS.o, hM.o, if_true, h2, show c < 4 by omega, and_self, zlet, w1]
    · by_cases z : j = c
      · subst z; rw [a4 j (by omega), upM_s]
      · exact a3 j (by omega) b
/-- what a text begins with: nothing told; the reference's rows beyond what is told stay -/
def sk0 (M : ZM) : SK := (0, 0, 0, 0, M 191, M 192, M 193, M 194, fun _ => 0)
theorem sk0_ok : KOk (sk0 M) 0 := ⟨Or.inl ⟨rfl, rfl, rfl, rfl⟩, by show ((0 : Int) ≤ 0 ∧ (0 : Int) ≤ 5) ∧ ((0 : Int) ≤ 0 ∧ (0 : Int) ≤ 12); decide, fun i a b => by have b' : i < 0 := b; omega, fun i a b => by have b' : i < 0 := b; omega, fun _ _ _ => Or.inl rfl⟩
theorem r_starts (hS : ShW S) : ∃ M', pX12_starts S M 176 = some M' ∧ (∀ x, x ≠ 176 → M' x = M x) ∧ (∀ j, j ≠ 21 → j ≠ 22 → j ≠ 25 → j ≠ 26 → j ≠ 27 → M' 176 j = M 176 j) ∧ (M' 176 21 = 0 ∧ M' 176 22 = 0 ∧ M' 176 25 = 0 ∧ M' 176 26 = 0 ∧ M' 176 27 = 0) := by
  refine ⟨upM (upM (upM (upM (upM M 176 21 0) 176 22 0) 176 25 0) 176 26 0) 176 27 0, ?_, fun x y => by rw [upM_r y, upM_r y, upM_r y, upM_r y, upM_r y], fun j a b c d e => by rw [upM_i e, upM_i d, upM_i c, upM_i b, upM_i a], ?_, ?_, ?_, ?_, ?_⟩
  · simp only [pX12_starts, pX12_starts_25, hS.o, if_true, zlet]
  · rw [upM_i (by decide), upM_i (by decide), upM_i (by decide), upM_i (by decide), upM_s]
  · rw [upM_i (by decide), upM_i (by decide), upM_i (by decide), upM_s]
  · rw [upM_i (by decide), upM_i (by decide), upM_s]
  · rw [upM_i (by decide), upM_s]
  · rw [upM_s]
theorem r_readsAll (hS : ShW S) (hM : PtW M) (hT : TOk T B) (ht : RTp M T B) : ∃ M', pX12_readsAll S M 176 = some M' ∧ M' 176 22 = (skF T B 41 0 (sk T B 0) (sk0 M)).1 ∧ M' 176 20 = 0 ∧ FL M M' ∧ ((skF T B 41 0 (sk T B 0) (sk0 M)).1 = 0 → RKr M' (skF T B 41 0 (sk T B 0) (sk0 M)).2) := by
  obtain ⟨M1, a1, a2, a3, a4, a5, -⟩ := r_starts (M := M) hS
  have p1 : PtW M1 := hM.j (fun j x => a3 j (by omega) (by omega) (by omega) (by omega) (by omega))
  obtain ⟨M2, b1, b2, b3, -⟩ := r_clr6 hS 4 zFU M1 0 p1 (by omega) (by omega) (zFU_gt (by omega))
  have p2 : PtW M2 := p1.o.eq (b2 176 (by decide))
  obtain ⟨M3, c1, c2, c3, -⟩ := r_clr26 hS 36 zFU M2 0 p2 (by omega) (by omega) (zFU_gt (by omega))
  have p3 : PtW M3 := p2.o.eq (c2 176 (by decide))
  have e176 : M3 176 = M1 176 := by rw [c2 176 (by decide), b2 176 (by decide)]
  have ex : ∀ x, x ≠ 176 → x ≠ 190 → x ≠ 195 → M3 x = M x := fun x u v w => by rw [c2 x w, b2 x v, a2 x u]
  have f3 : FL M M3 := ⟨fun x u v => ex x u (by omega) (by omega), fun j u => by rw [e176]; exact a3 j (by omega) (by omega) (by omega) (by omega) (by omega)⟩
  have hb := hT.1
  have hR : RP S M3 T B 0 := ⟨hS, p3, ⟨by rw [e176, a3 20 (by decide) (by decide) (by decide) (by decide) (by decide)]; exact ht.1, by rw [ex 196 (by decide) (by decide) (by decide)]; exact ht.2⟩, by omega, by rw [e176]; exact a5, by rw [e176]; exact a4⟩
  have hK : RKr M3 (sk0 M) := by
    refine ⟨⟨?_, ?_, ?_, ?_⟩, fun i _ _ => ⟨?_, ?_⟩, fun i _ _ => ⟨?_, ?_⟩, fun c x y => c3 c x y⟩
    · rw [c2 190 (by decide)]; exact b3 0 (by decide) (by decide)
    · rw [c2 190 (by decide)]; exact b3 1 (by decide) (by decide)
    · rw [c2 190 (by decide)]; exact b3 2 (by decide) (by decide)
    · rw [c2 190 (by decide)]; exact b3 3 (by decide) (by decide)
    · rw [ex 191 (by decide) (by decide) (by decide)]; rfl
    · rw [ex 192 (by decide) (by decide) (by decide)]; rfl
    · rw [ex 193 (by decide) (by decide) (by decide)]; rfl
    · rw [ex 194 (by decide) (by decide) (by decide)]; rfl
  obtain ⟨M', d1, d2, d3, d4, d5⟩ := r_skF hT 40 zFU M3 0 0 (sk0 M) (by omega) (by omega) hR hK sk0_ok (zFU_gt (by omega))
  refine ⟨M', ?_, d2, d3, f3.trans d4, d5⟩
  rw [← d1, ← c1, ← b1]
  simp only [pX12_readsAll, hS.o, if_true, a1, Option.bind_some]
end
