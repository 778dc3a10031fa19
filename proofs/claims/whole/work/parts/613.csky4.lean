/-! A SKY READ: the class, the loop -/
section
variable {S : ZS} {M : ZM} {T : Int} {B : Int → Int} {q n : Int} {s : SK}
theorem rdN_b {lo hi : Int} (hq : 0 ≤ q) (h : (rdN T B q lo hi).1 = 0) : (lo ≤ (rdN T B q lo hi).2.1 ∧ (rdN T B q lo hi).2.1 ≤ hi) ∧ (rdN T B q lo hi).2.2 = nx T B q ∧ q < T := by
  unfold rdN at *
  by_cases z : tk T B q = 304
  · rw [if_pos z] at h; have h' : 1 + 8 * q + 1 = 0 := h; omega
  rw [if_neg z] at h ⊢
  by_cases z1 : tk T B q < 1000
  · rw [if_pos z1] at h; have h' : 1 + 8 * q + 0 = 0 := h; omega
  rw [if_neg z1] at h ⊢
  by_cases z2 : lo ≤ tk T B q - 1000 ∧ tk T B q - 1000 ≤ hi
  · rw [if_pos z2]
    refine ⟨z2, rfl, ?_⟩
    rcases Int.lt_or_le q T with u | u
    · exact u
    · rw [tk_end u] at z1; omega
  · rw [if_neg z2] at h; have h' : 1 + 8 * q + 1 = 0 := h; omega
theorem nx_b (hq : 0 ≤ q ∧ q < T) : q < nx T B q ∧ nx T B q ≤ T := by
  have he := eot_b (B := B) hq
  have hs := sk_b (B := B) he.2
  unfold nx; omega
theorem rd2_b {lo hi lo' hi' : Int} (hq : 0 ≤ q) (h : (rd2 T B q lo hi lo' hi').1 = 0) : (lo ≤ (rd2 T B q lo hi lo' hi').2.1 ∧ (rd2 T B q lo hi lo' hi').2.1 ≤ hi) ∧ (lo' ≤ (rd2 T B q lo hi lo' hi').2.2.1 ∧ (rd2 T B q lo hi lo' hi').2.2.1 ≤ hi') := by
  unfold rd2 at *
  by_cases z : (rdN T B q lo hi).1 ≠ 0
  · rw [if_pos z] at h; exact absurd h z
  rw [if_neg z] at h ⊢
  have b1 := rdN_b (T := T) (B := B) hq (by omega : (rdN T B q lo hi).1 = 0)
  have b2 := nx_b (B := B) ⟨hq, b1.2.2⟩
  by_cases y : (rdN T B (rdN T B q lo hi).2.2 lo' hi').1 ≠ 0
  · rw [if_pos y] at h; exact absurd h y
  rw [if_neg y]
  exact ⟨b1.1, (rdN_b (by rw [b1.2.1]; omega) (by omega : (rdN T B (rdN T B q lo hi).2.2 lo' hi').1 = 0)).1⟩
theorem skC_40 (hq : 0 ≤ q) (hn : 40 ≤ n) : (skC T B n q s).1 ≠ 0 := by
  unfold skC
  by_cases z : tk T B q = 268 ∨ tk T B q = 256 ∨ tk T B q = 269 ∨ tk T B q = 265
  · rw [if_neg (fun u => u z), if_pos (Or.inl hn)]; show 1 + 8 * q + 4 ≠ 0; omega
  · rw [if_pos z]; show 1 + 8 * q + 0 ≠ 0; omega
theorem skC_ok (hq : 0 ≤ q) (ho : KOk s n) (hn : 0 ≤ n) (h0 : (skC T B n q s).1 = 0) : KOk (skC T B n q s).2.2 (n + 1) := by
  unfold skC at *
  by_cases z : tk T B q = 268 ∨ tk T B q = 256 ∨ tk T B q = 269 ∨ tk T B q = 265
  · rw [if_neg (fun u => u z)] at h0 ⊢
    have hqT : q < T := by
      rcases Int.lt_or_le q T with u | u
      · exact u
      · rw [tk_end u] at z; omega
    have hx := nx_b (B := B) ⟨hq, hqT⟩
    have hx0 : 0 ≤ nx T B q := by omega
    by_cases y : skFull (tk T B q) n s
    · rw [if_pos y] at h0; have h' : 1 + 8 * q + 4 = 0 := h0; omega
    rw [if_neg y] at h0 ⊢
    obtain ⟨o1, o2, o3, o4, o5⟩ := ho
    by_cases y1 : tk T B q = 268
    · rw [if_pos y1] at h0 ⊢
      have hn0 : n = 0 := by
        by_cases u : n = 0
        · exact u
        · exact absurd (Or.inr (Or.inl (fun v => u (v.2 y1)))) y
      have hb := rd2_b hx0 h0
      have p0 : kPn s = 0 ∧ kWn s = 0 := by
        rcases o1 with u | u
        · exact ⟨u.2.2.1, u.2.2.2⟩
        · omega
      refine ⟨Or.inr ⟨by omega, hb.1, hb.2⟩, o2, fun i a b => ?_, fun i a b => ?_, o5⟩
      · have b' : i < kPn s := b
        omega
      · have b' : i < kWn s := b
        omega
    rw [if_neg y1] at h0 ⊢
    have hn0 : ¬ n = 0 := fun u => y (Or.inr (Or.inl (fun v => y1 (v.1 u))))
    have o1' : (2 ≤ kSd s ∧ kSd s ≤ 6) ∧ (1 ≤ kFd s ∧ kFd s ≤ 60) := by
      rcases o1 with u | u
      · exact absurd u.1 hn0
      · exact u.2
    by_cases y2 : tk T B q = 256
    · rw [if_pos y2] at h0 ⊢
      have hp : ¬ 5 ≤ kPn s := fun u => y (Or.inr (Or.inr (Or.inl ⟨y2, u⟩)))
      have hb := rd2_b hx0 h0
      refine ⟨Or.inr ⟨by omega, o1'⟩, ⟨by show 0 ≤ kPn s + 1 ∧ kPn s + 1 ≤ 5; omega, o2.2⟩, fun i a b => ?_, o4, o5⟩
      have b' : i < kPn s + 1 := b
      generalize (rd2 T B (nx T B q) 0 (kSd s * kSd s - 1) 0 9).2.1 = v at *
      generalize (rd2 T B (nx T B q) 0 (kSd s * kSd s - 1) 0 9).2.2.1 = v' at *
      show (0 ≤ (if i = kPn s then v else kA s i) ∧ (if i = kPn s then v else kA s i) < kSd s * kSd s) ∧ (0 ≤ (if i = kPn s then v' else kS s i) ∧ (if i = kPn s then v' else kS s i) ≤ 9)
      by_cases u : i = kPn s
      · rw [if_pos u, if_pos u]; exact ⟨⟨hb.1.1, by have := hb.1.2; omega⟩, hb.2⟩
      · rw [if_neg u, if_neg u]; exact o3 i a (by omega)
    rw [if_neg y2] at h0 ⊢
    by_cases y3 : tk T B q = 269
    · rw [if_pos y3] at h0 ⊢
      have hp : ¬ 12 ≤ kWn s := fun u => y (Or.inr (Or.inr (Or.inr ⟨y3, u⟩)))
      have hb := rd2_b hx0 h0
      refine ⟨Or.inr ⟨by omega, o1'⟩, ⟨o2.1, by show 0 ≤ kWn s + 1 ∧ kWn s + 1 ≤ 12; omega⟩, o3, fun i a b => ?_, o5⟩
      have b' : i < kWn s + 1 := b
      generalize (rd2 T B (nx T B q) 0 3 0 9).2.1 = v at *
      generalize (rd2 T B (nx T B q) 0 3 0 9).2.2.1 = v' at *
      show (0 ≤ (if i = kWn s then v else kW s i) ∧ (if i = kWn s then v else kW s i) ≤ 3) ∧ (0 ≤ (if i = kWn s then v' else kG s i) ∧ (if i = kWn s then v' else kG s i) ≤ 9)
      by_cases u : i = kWn s
      · rw [if_pos u, if_pos u]; exact hb
      · rw [if_neg u, if_neg u]; exact o4 i a (by omega)
    rw [if_neg y3] at h0 ⊢
    refine ⟨Or.inr ⟨by omega, o1'⟩, o2, o3, o4, fun c a b => ?_⟩
    generalize (rdN T B (nx T B q) 0 (kSd s * kSd s - 1)).2.1 = v
    show (if c = v then (1 : Int) else kM s c) = 0 ∨ (if c = v then (1 : Int) else kM s c) = 1
    by_cases u : c = v
    · rw [if_pos u]; exact Or.inr rfl
    · rw [if_neg u]; exact o5 c a b
  · rw [if_pos z] at h0; have h' : 1 + 8 * q + 0 = 0 := h0; omega
theorem c_skF (hT : TOk T B) : ∀ (k fuel : Nat) (M : ZM) (n q : Int) (s : SK), n + k + 1 = 41 → 0 ≤ n → CP S M T B q → CK M s → KOk s n → k + 1 < fuel → ∃ M', pX7_faultOf_13 S fuel M 6 2 n = some ((skF T B (k + 1) n q s).1, M') ∧ FY M M' ∧ ((skF T B (k + 1) n q s).1 = 0 → CK M' (skF T B (k + 1) n q s).2 ∧ ∃ m, 0 < m ∧ KOk (skF T B (k + 1) n q s).2 m) := by
  intro k
  induction k with
  | zero =>
    intro fuel M n q s h1 h2 h hk ho h3
    obtain ⟨f, rfl⟩ : ∃ f, fuel = f + 1 := ⟨fuel - 1, by omega⟩
    have z := skC_40 (T := T) (B := B) (s := s) (n := n) h.2.2.1.1 (by omega)
    obtain ⟨M', a1, a2, a3⟩ := (c_clause hT h hk ho h2).1 z
    rw [skF, if_pos z]
    refine ⟨M', ?_, a3, fun u => absurd u z⟩
    simp only [pX7_faultOf_13, pX7_faultOf_38, show ¬ 40 < n by omega, if_false, h.1.1.o, if_true, a1, Option.bind_some, a2]
  | succ k ih =>
    intro fuel M n q s h1 h2 h hk ho h3
    obtain ⟨f, rfl⟩ : ∃ f, fuel = f + 1 := ⟨fuel - 1, by omega⟩
    have n40 : ¬ 40 < n := by omega
    rw [skF]
    by_cases z : (skC T B n q s).1 ≠ 0
    · obtain ⟨M', a1, a2, a3⟩ := (c_clause hT h hk ho h2).1 z
      rw [if_pos z]
      refine ⟨M', ?_, a3, fun u => absurd u z⟩
      simp only [pX7_faultOf_13, pX7_faultOf_38, if_neg n40, h.1.1.o, if_true, a1, Option.bind_some, a2]
    · have z0 : (skC T B n q s).1 = 0 := by omega
      have ho1 := skC_ok h.2.2.1.1 ho h2 z0
      obtain ⟨M1, a1, a2, a3, a4⟩ := (c_clause hT h hk ho h2).2 z0
      rw [if_neg z]
      generalize (skC T B n q s).2.1 = q' at *
      generalize (skC T B n q s).2.2 = s' at *
      have ht := c_token a2
      by_cases y : tk T B q' = 303
      · rw [if_pos y]
        refine ⟨M1, ?_, a4, fun _ => ⟨a3, n + 1, by omega, ho1⟩⟩
        simp only [pX7_faultOf_13, pX7_faultOf_38, if_neg n40, h.1.1.o, if_true, a1, Option.bind_some, show ¬ (1 : Int) = 0 by decide, if_false, ht, if_pos y, a2.2.2.2.1]
      rw [if_neg y]
      have hqT : q' < T := by
        rcases Int.lt_or_le q' T with u | u
        · exact u
        · exact absurd (tk_end u) y
      by_cases x : tk T B q' = 59
      · rw [if_pos x]
        obtain ⟨M2, b1, b2, b3⟩ := c_advance hT a2 hqT
        have w1 : w32 (n + 1) = n + 1 := w32_i (by omega) (by omega)
        obtain ⟨M', d1, d2, d3⟩ := ih f M2 (n + 1) (nx T B q') s' (by omega) (by omega) b2 (a3.fc b3) ho1 (by omega)
        refine ⟨M', ?_, (a4.trans (FY.c b3)).trans d2, d3⟩
        rw [← d1]
        simp only [pX7_faultOf_13, if_neg n40, h.1.1.o, if_true, a1, Option.bind_some, show ¬ (1 : Int) = 0 by decide, if_false, ht, if_neg y, pX8_takes, if_pos x, b1, w1]
      · rw [if_neg x]
        refine ⟨upM M1 2 5 (1 + 8 * q' + 0), ?_, a4.trans (FY.c FC.u5), fun u => by have u' : 1 + 8 * q' + 0 = 0 := u; have := a2.2.2.1; omega⟩
        simp only [pX7_faultOf_13, if_neg n40, h.1.1.o, if_true, a1, Option.bind_some, show ¬ (1 : Int) = 0 by decide, if_false, ht, if_neg y, pX8_takes, if_neg x, c_fail hT a2 (k := 0) (by decide), upM_s]
end
