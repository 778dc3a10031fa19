/-! SKY: the world it begins, and the reference's call -/
def skW (w : Wd) (s : SK) : Wd := ((kSd s, kFd s, kPn s, kWn s, kW s, kG s, kM s), kA s, kS s, bgS (kA s) (kS s), (0, (wN w).2), wX w, wF w, 0, wP w)
noncomputable def opSky (T : Int) (B : Int → Int) (s0 : SK) (w : Wd) : Int × Wd := if (skF T B 41 0 (sk T B 0) s0).1 = 0 then (kPn (skF T B 41 0 (sk T B 0) s0).2, skW w (skF T B 41 0 (sk T B 0) s0).2) else (w32 (-2 - (skF T B 41 0 (sk T B 0) s0).1), w)
section
variable {S : ZS} {M : ZM} {T : Int} {B : Int → Int} {p q n : Int} {s : SK}
theorem rdN_nn {lo hi : Int} (hq : 0 ≤ q) : 0 ≤ (rdN T B q lo hi).1 := by
  unfold rdN
  by_cases z : tk T B q = 304
  · rw [if_pos z]; show 0 ≤ 1 + 8 * q + 1; omega
  rw [if_neg z]
  by_cases z1 : tk T B q < 1000
  · rw [if_pos z1]; show 0 ≤ 1 + 8 * q + 0; omega
  rw [if_neg z1]
  by_cases z2 : lo ≤ tk T B q - 1000 ∧ tk T B q - 1000 ≤ hi
  · rw [if_pos z2]; exact Int.le_refl _
  · rw [if_neg z2]; show 0 ≤ 1 + 8 * q + 1; omega
theorem rd2_nn {lo hi lo' hi' : Int} (hq : 0 ≤ q) : 0 ≤ (rd2 T B q lo hi lo' hi').1 ∧ ((rd2 T B q lo hi lo' hi').1 = 0 → 0 ≤ (rd2 T B q lo hi lo' hi').2.2.2) := by
  have n1 := rdN_nn (T := T) (B := B) (lo := lo) (hi := hi) hq
  unfold rd2
  by_cases z : (rdN T B q lo hi).1 ≠ 0
  · rw [if_pos z]; exact ⟨n1, fun _ => hq⟩
  rw [if_neg z]
  have b1 := rdN_b (T := T) (B := B) hq (by omega : (rdN T B q lo hi).1 = 0)
  have b2 := nx_b (B := B) ⟨hq, b1.2.2⟩
  have hq' : 0 ≤ (rdN T B q lo hi).2.2 := by rw [b1.2.1]; omega
  have n2 := rdN_nn (T := T) (B := B) (lo := lo') (hi := hi') hq'
  by_cases y : (rdN T B (rdN T B q lo hi).2.2 lo' hi').1 ≠ 0
  · rw [if_pos y]; exact ⟨n2, fun _ => hq⟩
  rw [if_neg y]
  have b3 := rdN_b (T := T) (B := B) hq' (by omega : (rdN T B (rdN T B q lo hi).2.2 lo' hi').1 = 0)
  have b4 := nx_b (B := B) ⟨hq', b3.2.2⟩
  exact ⟨Int.le_refl _, fun _ => by rw [b3.2.1]; omega⟩
theorem skC_nn (hq : 0 ≤ q) : 0 ≤ (skC T B n q s).1 ∧ ((skC T B n q s).1 = 0 → 0 ≤ (skC T B n q s).2.1) := by
  unfold skC
  by_cases z : tk T B q = 268 ∨ tk T B q = 256 ∨ tk T B q = 269 ∨ tk T B q = 265
  · rw [if_neg (fun u => u z)]
    have hqT : q < T := by
      rcases Int.lt_or_le q T with u | u
      · exact u
      · rw [tk_end u] at z; omega
    have hx := nx_b (B := B) ⟨hq, hqT⟩
    have hx0 : 0 ≤ nx T B q := by omega
    by_cases y : skFull (tk T B q) n s
    · rw [if_pos y]; exact ⟨by show 0 ≤ 1 + 8 * q + 4; omega, fun _ => hq⟩
    rw [if_neg y]
    by_cases y1 : tk T B q = 268
    · rw [if_pos y1]; exact rd2_nn hx0
    rw [if_neg y1]
    by_cases y2 : tk T B q = 256
    · rw [if_pos y2]; exact rd2_nn hx0
    rw [if_neg y2]
    by_cases y3 : tk T B q = 269
    · rw [if_pos y3]; exact rd2_nn hx0
    rw [if_neg y3]
    refine ⟨rdN_nn hx0, fun u => ?_⟩
    have b := rdN_b (T := T) (B := B) hx0 u
    have b2 := nx_b (B := B) ⟨hx0, b.2.2⟩
    show 0 ≤ (rdN T B (nx T B q) 0 (kSd s * kSd s - 1)).2.2
    rw [b.2.1]; omega
  · rw [if_pos z]; exact ⟨by show 0 ≤ 1 + 8 * q + 0; omega, fun _ => hq⟩
theorem skF_nn : ∀ (k : Nat) (n q : Int) (s : SK), 0 ≤ q → 0 ≤ (skF T B k n q s).1 := by
  intro k
  induction k with
  | zero => intro n q s _; exact Int.le_refl _
  | succ k ih =>
    intro n q s hq
    have h := skC_nn (T := T) (B := B) (n := n) (s := s) hq
    rw [skF]
    by_cases z : (skC T B n q s).1 ≠ 0
    · rw [if_pos z]; exact h.1
    rw [if_neg z]
    have h2 := h.2 (by omega)
    by_cases y : tk T B (skC T B n q s).2.1 = 303
    · rw [if_pos y]; exact Int.le_refl _
    rw [if_neg y]
    by_cases x : tk T B (skC T B n q s).2.1 = 59
    · rw [if_pos x]
      have hqT : (skC T B n q s).2.1 < T := by
        rcases Int.lt_or_le (skC T B n q s).2.1 T with u | u
        · exact u
        · exact absurd (tk_end u) y
      have hx := nx_b (B := B) ⟨h2, hqT⟩
      exact ih _ _ _ (by omega)
    · rw [if_neg x]; show 0 ≤ 1 + 8 * (skC T B n q s).2.1 + 0; omega
theorem skF_ok : ∀ (k : Nat) (n q : Int) (s : SK), 0 ≤ q → 0 ≤ n → n + k = 41 → KOk s n → (skF T B k n q s).1 = 0 → 0 < k → ∃ m, 0 < m ∧ KOk (skF T B k n q s).2 m := by
  intro k
  induction k with
  | zero => intro n q s _ _ _ _ _ h; omega
  | succ k ih =>
    intro n q s hq hn hk ho h0 _
    have h := skC_nn (T := T) (B := B) (n := n) (s := s) hq
    rw [skF] at h0 ⊢
    by_cases z : (skC T B n q s).1 ≠ 0
    · rw [if_pos z] at h0; exact absurd h0 z
    rw [if_neg z] at h0 ⊢
    have z0 : (skC T B n q s).1 = 0 := by omega
    have ho1 := skC_ok hq ho hn z0
    have h2 := h.2 z0
    by_cases y : tk T B (skC T B n q s).2.1 = 303
    · rw [if_pos y]; exact ⟨n + 1, by omega, ho1⟩
    rw [if_neg y] at h0 ⊢
    by_cases x : tk T B (skC T B n q s).2.1 = 59
    · rw [if_pos x] at h0 ⊢
      have hqT : (skC T B n q s).2.1 < T := by
        rcases Int.lt_or_le (skC T B n q s).2.1 T with u | u
        · exact u
        · exact absurd (tk_end u) y
      have hx := nx_b (B := B) ⟨h2, hqT⟩
      by_cases k0 : 0 < k
      · exact ih _ _ _ (by omega) (by omega) (by omega) ho1 h0 k0
      · exfalso
        have : n = 40 := by omega
        exact skC_40 hq (by omega) z0
    · rw [if_neg x] at h0
      have h0' : 1 + 8 * (skC T B n q s).2.1 + 0 = 0 := h0
      omega
theorem skW_ok {nR m : Int} {w : Wd} (hw : WOk nR w) (hm : 0 < m) (ho : KOk s m) : WOk nR (skW w s) := by
  obtain ⟨i1, i2, i3, i4, i5, i6, i7, i8⟩ := hw
  obtain ⟨o1, o2, o3, o4, o5⟩ := ho
  have o1' : (2 ≤ kSd s ∧ kSd s ≤ 6) ∧ (1 ≤ kFd s ∧ kFd s ≤ 60) := by
    rcases o1 with u | u
    · omega
    · exact u.2
  refine ⟨⟨Or.inr o1'.1, ⟨by show 0 ≤ kFd s; omega, o1'.2.2⟩, o2.1, o2.2, o4, o5⟩, o3, ⟨⟨o3, fun c a b => Or.inl ⟨rfl, rfl⟩, by show (0 : Int) ≤ 0 ∧ (0 : Int) < 32; decide⟩, fun _ c a b => ⟨rfl, rfl⟩, fun c a b u => absurd rfl u, by show (0 : Int) ≤ 0 ∧ (0 : Int) ≤ 999; decide, by show (0 : Int) ≤ 0 ∧ (0 : Int) ≤ 36 * 0; decide⟩, ⟨by show (0 : Int) ≤ 0 ∧ (0 : Int) ≤ 10; decide, fun i a b => by have b' : i < 0 := b; omega⟩, i5, i6, by show (0 : Int) ≤ 0 ∧ (0 : Int) ≤ 20; decide, fun i a b => by have b' : i < 0 := b; omega⟩
theorem r_sky21 (hS : ShW S) : ∀ (k fuel : Nat) (M : ZM) (c : Int), PtW M → c + k = 4 → 0 ≤ c → k < fuel → ∃ M', pX12_sky_21 S fuel M 176 c = pX12_sky_21 S 1 M' 176 4 ∧ (∀ x, x ≠ 177 → M' x = M x) ∧ (∀ j, c ≤ j → j < 4 → M' 177 j = M 190 j) ∧ ∀ j, (j < c ∨ 4 ≤ j) → M' 177 j = M 177 j := by
  intro k
  induction k with
  | zero =>
    intro fuel M c hM h1 h2 h3
    obtain ⟨f, rfl⟩ : ∃ f, fuel = f + 1 := ⟨fuel - 1, by omega⟩
    have : c = 4 := by omega
    subst this
    refine ⟨M, ?_, fun _ _ => rfl, fun j a b => by omega, fun _ _ => rfl⟩
    simp only [pX12_sky_21, if_pos (Int.le_refl 4)]
  | succ k ih =>
    intro fuel M c hM h1 h2 h3
    obtain ⟨f, rfl⟩ : ∃ f, fuel = f + 1 := ⟨fuel - 1, by omega⟩
    have w1 : w32 (c + 1) = c + 1 := w32_i (by omega) (by omega)
    obtain ⟨M', a1, a2, a3, a4⟩ := ih f (upM M 177 c (M 190 c)) (c + 1) (hM.o.eq (upM_r (by decide))) (by omega) (by omega) (by omega)
    refine ⟨M', ?_, fun x y => (a2 x y).trans (upM_r y), fun j a b => ?_, fun j a => by rw [a4 j (by omega), upM_i (by omega)]⟩
    · rw [← a1]
      simp only [pX12_sky_21, if_neg (by omega : ¬ 4 ≤ c), hS.o, hM.o, if_true, h2, show c < 4 by omega, show c < 10 by omega, and_self, zlet, w1]
    · by_cases z : j = c
      · subst z; rw [a4 j (by omega), upM_s]
      · rw [a3 j (by omega) b, upM_r (by decide)]
theorem r_sky_end (hS : ShW S) (hM : PtW M) (hk : RKr M s) {w : Wd} (h8 : M 177 8 = wX w ∧ M 177 9 = wF w) : ∃ M', pX12_sky_21 S zFU M 176 0 = some (kPn s, M') ∧ PtW M' ∧ RW M' (M' 176 42) (skW w s) ∧ (∀ a, (a < 176 ∨ 190 ≤ a) → M' a = M a) ∧ ∀ j, j ≠ 42 → M' 176 j = M 176 j := by
  obtain ⟨k0, k1, k2, k3⟩ := hk
  obtain ⟨M1, a1, a2, a3, a4⟩ := r_sky21 hS 4 zFU M 0 hM (by omega) (by omega) (zFU_gt (by omega))
  have p1 : PtW M1 := hM.o.eq (a2 176 (by decide))
  generalize hM2 : upM M1 177 7 0 = M2
  have b2 : ∀ x, x ≠ 177 → M2 x = M x := fun x y => by rw [← hM2, upM_r y, a2 x y]
  have b3 : ∀ j, 0 ≤ j → j < 4 → M2 177 j = M 190 j := fun j x y => by rw [← hM2, upM_i (by omega), a3 j x y]
  have b4 : ∀ j, 4 ≤ j → j ≠ 7 → M2 177 j = M 177 j := fun j x y => by rw [← hM2, upM_i y, a4 j (by omega)]
  have b5 : M2 177 7 = 0 := by rw [← hM2, upM_s]
  have p2 : PtW M2 := hM.o.eq (b2 176 (by decide))
  obtain ⟨M3, c1, c2, c3⟩ := r_copies (S := S) (a := 191) (b := 188) (L := 5) (by simp [hS.o]) (by simp [hS.o]) (by decide) (by decide) M2
  have p3 : PtW M3 := p2.o.eq (c2 176 (by decide))
  obtain ⟨M4, d1, d2, d3⟩ := r_copies (S := S) (a := 192) (b := 189) (L := 5) (by simp [hS.o]) (by simp [hS.o]) (by decide) (by decide) M3
  have p4 : PtW M4 := p3.o.eq (d2 176 (by decide))
  obtain ⟨M5, e1, e2, e3⟩ := r_copies (S := S) (a := 193) (b := 182) (L := 12) (by simp [hS.o]) (by simp [hS.o]) (by decide) (by decide) M4
  have p5 : PtW M5 := p4.o.eq (e2 176 (by decide))
  obtain ⟨M6, f1, f2, f3⟩ := r_copies (S := S) (a := 194) (b := 183) (L := 12) (by simp [hS.o]) (by simp [hS.o]) (by decide) (by decide) M5
  have p6 : PtW M6 := p5.o.eq (f2 176 (by decide))
  obtain ⟨M7, g1, g2, g3⟩ := r_copies (S := S) (a := 195) (b := 184) (L := 36) (by simp [hS.o]) (by simp [hS.o]) (by decide) (by decide) M6
  have p7 : PtW M7 := p6.o.eq (g2 176 (by decide))
  have x7 : ∀ x, (x < 176 ∨ x = 176 ∨ (185 ≤ x ∧ x ≤ 187) ∨ 190 ≤ x) → M7 x = M x := fun x y => by rw [g2 x (by omega), f2 x (by omega), e2 x (by omega), d2 x (by omega), c2 x (by omega), b2 x (by omega)]
  have x177 : M7 177 = M2 177 := by rw [g2 177 (by decide), f2 177 (by decide), e2 177 (by decide), d2 177 (by decide), c2 177 (by decide)]
  have hT : RTd M7 (kSd s, kFd s, kPn s, kWn s, kW s, kG s, kM s) := by
    refine ⟨by rw [x177, b3 0 (by decide) (by decide)]; exact k0.1, by rw [x177, b3 1 (by decide) (by decide)]; exact k0.2.1, by rw [x177, b3 2 (by decide) (by decide)]; exact k0.2.2.1, by rw [x177, b3 3 (by decide) (by decide)]; exact k0.2.2.2, fun i a b => ⟨?_, ?_⟩, fun c a b => ?_⟩
    · rw [g2 182 (by decide), f2 182 (by decide), e3 i a b, d2 193 (by decide), c2 193 (by decide), b2 193 (by decide)]; exact (k2 i a b).1
    · rw [g2 183 (by decide), f3 i a b, e2 194 (by decide), d2 194 (by decide), c2 194 (by decide), b2 194 (by decide)]; exact (k2 i a b).2
    · rw [g3 c a b, f2 195 (by decide), e2 195 (by decide), d2 195 (by decide), c2 195 (by decide), b2 195 (by decide)]; exact k3 c a b
  have h188 : ∀ q, 0 ≤ q → q < 5 → M7 188 q = kA s q ∧ M7 189 q = kS s q := fun q a b => by
    refine ⟨?_, ?_⟩
    · rw [g2 188 (by decide), f2 188 (by decide), e2 188 (by decide), d2 188 (by decide), c3 q a b, b2 191 (by decide)]; exact (k1 q a b).1
    · rw [g2 189 (by decide), f2 189 (by decide), e2 189 (by decide), d3 q a b, c2 192 (by decide), b2 192 (by decide)]; exact (k1 q a b).2
  obtain ⟨M8, i1, i2, i3, i4⟩ := r_begins hS p7 hT h188
  have p8 : PtW M8 := i2.1
  generalize hM9 : upM M8 176 42 0 = M9
  have j1 : ∀ x, x ≠ 176 → M9 x = M8 x := fun x y => by rw [← hM9, upM_r y]
  have j2 : ∀ j, j ≠ 42 → M9 176 j = M 176 j := fun j y => by rw [← hM9, upM_i y, i3 176 (by decide) (by decide), x7 176 (by omega)]
  have j3 : M9 176 42 = 0 := by rw [← hM9, upM_s]
  have p9 : PtW M9 := hM.j (fun j x => j2 j (by omega))
  have e2' : M9 177 2 = kPn s := by rw [j1 177 (by decide)]; exact i2.2.1.2.2.1
  refine ⟨M9, ?_, p9, ⟨?_, ?_, ?_, ?_, ?_, j3, ?_⟩, fun a x => by rw [j1 a (by omega), i3 a (by omega) (by omega), x7 a (by omega)], j2⟩
  · rw [a1]
    simp only [pX12_sky_21, if_pos (Int.le_refl 4), hS.o, if_true, p1.o, show (0 : Int) ≤ 7 by decide, show (7 : Int) < 10 by decide, and_self, zlet, hM2, p2.o, c1, Option.bind_some, p3.o, d1, p4.o, e1, pX12_sky_85, p5.o, f1, p6.o, g1, i1, hM9, p9.o, show (0 : Int) ≤ 2 by decide, show (2 : Int) < 10 by decide, e2']
  · have := i2.2.1
    unfold RTd at *
    rw [j1 177 (by decide), j1 182 (by decide), j1 183 (by decide), j1 184 (by decide)]; exact this
  · have := i2.2.2
    unfold RSc at *
    rw [j1 177 (by decide), j1 178 (by decide), j1 179 (by decide), j1 180 (by decide), j1 181 (by decide)]; exact this
  · refine ⟨?_, fun i a b => by have b' : i < 0 := b; omega⟩
    rw [j1 177 (by decide), i4 7 (by decide), x177, b5]; rfl
  · rw [j1 177 (by decide), i4 8 (by decide), i4 9 (by decide), x177, b4 8 (by decide) (by decide), b4 9 (by decide) (by decide)]; exact h8
  · intro q a b
    rw [j1 188 (by decide), j1 189 (by decide), i3 188 (by decide) (by decide), i3 189 (by decide) (by decide)]; exact h188 q a b
  · intro i a b
    have b' : i < 0 := b
    omega
/-- what sky leaves as it was in the reference -/
def FrY (M M' : ZM) : Prop := (∀ a, (a < 176 ∨ 196 ≤ a) → M' a = M a) ∧ ∀ j, (j < 20 ∨ 28 ≤ j ∨ j = 23 ∨ j = 24) → j ≠ 42 → M' 176 j = M 176 j
theorem e_sky {nR : Int} {rl : Int → Ru} {w : Wd} (h : RG S M nR rl w) (hT : TOk T B) (ht : RTp M T B) : ∃ M', pX12_sky S M 176 = some ((opSky T B (sk0 M) w).1, M') ∧ RG S M' nR rl (opSky T B (sk0 M) w).2 ∧ RTp M' 0 B ∧ FrY M M' := by
  have hb := hT.1
  have hs := sk_b (T := T) (B := B) (p := 0) hb.1
  obtain ⟨M1, a1, a2, a3, a4, a5⟩ := r_readsAll h.1 h.2.1 hT ht
  have nn := skF_nn (T := T) (B := B) 41 0 (sk T B 0) (sk0 M) (by omega)
  have p1 := h.2.1.fl a4
  unfold opSky
  by_cases z : (skF T B 41 0 (sk T B 0) (sk0 M)).1 = 0
  · rw [if_pos z]
    have hk := a5 z
    obtain ⟨m, m1, m2⟩ := skF_ok (T := T) (B := B) 41 0 (sk T B 0) (sk0 M) (by omega) (by decide) (by decide) sk0_ok z (by decide)
    rw [z] at a2
    generalize (skF T B 41 0 (sk T B 0) (sk0 M)).2 = s at *
    obtain ⟨M2, b1, b2, b3, b4, b5⟩ := r_sky_end (w := w) h.1 p1 hk (by rw [a4.1 177 (by decide) (by decide)]; exact h.2.2.2.1.2.2.2.1)
    have fr : FrY M M2 := ⟨fun a x => by rw [b4 a (by omega), a4.1 a (by omega) (by omega)], fun j x y => by rw [b5 j y, a4.2 j x]⟩
    refine ⟨M2, ?_, ⟨h.1, b2, ?_, b3, skW_ok h.2.2.2.2 m1 m2⟩, ⟨by rw [b5 20 (by decide)]; exact a3, fun i x y => by omega⟩, fr⟩
    · simp only [pX12_sky, h.1.o, if_true, a1, Option.bind_some, a2, Int.le_refl, b1]
    · obtain ⟨r1, r2, r3⟩ := h.2.2.1
      exact ⟨r1, (fr.2 24 (by decide) (by decide)).trans r2, fun j a b => (r3 j a b).eq (fun a x y => by rw [upM_r (by omega), upM_r (by omega)]; exact fr.1 a (by omega)) (by rw [upM_s, upM_s])⟩
  · rw [if_neg z]
    refine ⟨M1, ?_, h.eq' p1 (fun a x => a4.1 a (by omega) (by omega)) (a4.2 24 (by decide)) (a4.2 42 (by decide)), ⟨a3, fun i x y => by omega⟩, fun a x => a4.1 a (by omega) (by omega), fun j x _ => a4.2 j x⟩
    simp only [pX12_sky, h.1.o, if_true, a1, Option.bind_some, a2, show ¬ (skF T B 41 0 (sk T B 0) (sk0 M)).1 ≤ 0 by omega, if_false]
end
