/-! SKY: the class's call -/
section
variable {S : ZS} {M : ZM} {T : Int} {B : Int → Int} {p q n : Int} {s : SK}
theorem CP.y {M' : ZM} (h : CP S M T B q) (e : ∀ x, (x < 7 ∨ 12 < x) → M' x = M x) (e7 : ∀ j, 5 ≤ j → M' 7 j = M 7 j) : CP S M' T B q := by
  obtain ⟨h1, h2, h3, h4, n, i, hc, hi, e4, e5⟩ := h
  refine ⟨h1.fy ⟨fun x _ b => e x b, fun j _ _ => by rw [e 2 (by omega)], e7⟩, ?_, h3, by rw [e 2 (by omega)]; exact h4, n, i, ?_, hi, by rw [e 2 (by omega)]; exact e4, by rw [e 5 (by omega)]; exact e5⟩
  · unfold CTp at *; rw [e 2 (by omega), e 3 (by omega)]; exact h2
  · unfold Cut at *; rw [e 4 (by omega), e 5 (by omega)]; exact hc
theorem c_cutP (h : NW S M) (hT : TOk T B) (ht : CTp M T B) : ∃ M', pX8_cut S M 2 = some M' ∧ CP S M' T B (sk T B 0) ∧ FT M M' := by
  have hb := hT.1
  have hs := sk_b (T := T) (B := B) (p := 0) hb.1
  obtain ⟨M', n, a1, a2, a3, a4, a5, a6⟩ := c_cut h hT ht
  exact ⟨M', a1, ⟨h.ft a4, a3, by omega, a6, n, 0, a2, ⟨Int.le_refl _, a2.1.1⟩, a5, a2.2.1⟩, a4⟩
theorem c_clear (h : CP S M T B q) (h0 : kSd s = 0 ∧ kFd s = 0 ∧ kPn s = 0 ∧ kWn s = 0 ∧ ∀ c, 0 ≤ c → c < 36 → kM s c = 0) : ∃ M', pX9_clear S M 7 = some M' ∧ CP S M' T B q ∧ CK M' s ∧ FY M M' := by
  generalize hM1 : upM (upM (upM (upM (upM M 7 0 0) 7 1 0) 7 2 0) 7 3 0) 7 4 0 = M1
  have r1 : ∀ x, x ≠ 7 → M1 x = M x := fun x y => by rw [← hM1, upM_r y, upM_r y, upM_r y, upM_r y, upM_r y]
  have r2 : ∀ j, 5 ≤ j → M1 7 j = M 7 j := fun j y => by rw [← hM1, upM_i (by omega), upM_i (by omega), upM_i (by omega), upM_i (by omega), upM_i (by omega)]
  have r3 : M1 7 0 = 0 ∧ M1 7 1 = 0 ∧ M1 7 2 = 0 ∧ M1 7 3 = 0 ∧ M1 7 4 = 0 := by
    rw [← hM1]
    refine ⟨?_, ?_, ?_, ?_, upM_s _ _ _ _⟩
    · rw [upM_i (by decide), upM_i (by decide), upM_i (by decide), upM_i (by decide), upM_s]
    · rw [upM_i (by decide), upM_i (by decide), upM_i (by decide), upM_s]
    · rw [upM_i (by decide), upM_i (by decide), upM_s]
    · rw [upM_i (by decide), upM_s]
  have e9 : M1 7 9 = 12 := by rw [r2 9 (by decide)]; simp [h.1.2.o]
  obtain ⟨M2, a1, a2, a3⟩ := c_fill (S := S) (M := M1) (a := 12) (v := 0) (L := 36) (by simp [h.1.1.o]) (by simp [h.1.1.o]) (by decide)
  refine ⟨M2, ?_, h.y (fun x y => by rw [a2 x (by omega), r1 x (by omega)]) (fun j y => by rw [a2 7 (by decide), r2 j y]), ⟨?_, fun i a b => by omega, fun i a b => by omega, fun c a b => ?_⟩, ⟨fun x y z => by rw [a2 x (by omega), r1 x (by omega)], fun j _ _ => by rw [a2 2 (by decide), r1 2 (by decide)], fun j y => by rw [a2 7 (by decide), r2 j y]⟩⟩
  · simp only [pX9_clear, pX9_clear_25, h.1.1.o, if_true, zlet, hM1, e9, a1, Option.bind_some]
  · rw [a2 7 (by decide), h0.1, h0.2.1, h0.2.2.1, h0.2.2.2.1]; exact r3
  · rw [a3 c a b, h0.2.2.2.2 c a b]
theorem c_skyF (h : NW S M) (hT : TOk T B) (ht : CTp M T B) (h0 : kSd s = 0 ∧ kFd s = 0 ∧ kPn s = 0 ∧ kWn s = 0 ∧ ∀ c, 0 ≤ c → c < 36 → kM s c = 0) (ho : KOk s 0) : ∃ M', pX7_faultOf S M 6 2 = some ((skF T B 41 0 (sk T B 0) s).1, M') ∧ ((∀ x, (x < 2 ∨ 12 < x) → M' x = M x) ∧ NW S M') ∧ ((skF T B 41 0 (sk T B 0) s).1 = 0 → CK M' (skF T B 41 0 (sk T B 0) s).2) := by
  obtain ⟨M1, a1, a2, a3⟩ := c_cutP h hT ht
  obtain ⟨M2, b1, b2, b3, b4⟩ := c_clear a2 h0
  obtain ⟨M3, c1, c2, c3⟩ := c_skF hT 40 zFU M2 0 (sk T B 0) s (by decide) (by decide) b2 b3 ho (zFU_gt (by omega))
  have fy := b4.trans c2
  refine ⟨M3, ?_, ⟨fun x y => ?_, a2.1.fy fy⟩, fun u => (c3 u).1⟩
  · have e0 : M1 6 0 = 7 := by simp [a2.1.2.o]
    simp only [pX7_faultOf, h.1.o, if_true, a1, Option.bind_some, e0, b1, c1]
  · by_cases z : x = 6
    · omega
    · rw [fy.1 x (by omega) (by omega), a3.1 x (by omega) (by omega) (by omega) (by omega)]
theorem CN.eqs {M' : ZM} {w : Wd} {nR : Int} (h : CN S M w) (hw : WOk nR w) (hN : NW S M') (e : ∀ x, 16 ≤ x → x ≤ 131 → M' x = M x) : CN S M' w :=
  ⟨hN, h.2.1, h.2.2.1.eq (fun x a b => e x (by omega) (by omega)), h.2.2.2.eq h.2.2.1.2.2.2.2 hw.2.2.2.2.2.2.1.2 (fun x a b => e x (by omega) (by omega))⟩
theorem CRs.eqs {M' : ZM} {nR : Int} {rl : Int → Ru} (h : CRs S M nR rl) (e1 : M' 1 = M 1) (e15 : M' 15 = M 15) (e : ∀ x, 214 < x → M' x = M x) : CRs S M' nR rl := by
  obtain ⟨h1, h2, h3, h4⟩ := h
  refine ⟨h1, by rw [e1]; exact h2, h3, fun j x y => ?_⟩
  rw [e15]
  obtain ⟨a, b, c⟩ := h4 j x y
  exact ⟨a.eq e, b.eq e, c.eq e⟩
theorem c_begin_ {w : Wd} {nR m : Int} (h : CN S M w) (hw : WOk nR w) (hk : CK M s) (hm : 0 < m) (ho : KOk s m) : ∃ M', pX10_begin S M 16 7 = some M' ∧ CN S M' (skW w s) ∧ ∀ x, (x < 16 ∨ 27 < x) → M' x = M x := by
  have hok := skW_ok (w := w) hw hm ho
  obtain ⟨hN, hWS, hWP, hD⟩ := h
  obtain ⟨M1, a1, a2, a3, a4, a5, a6, a7⟩ := c_copyTold (S := S) (M := M) (a := 7) (b := 17) (shT_of hN.1).1 (shT_of hN.1).2.1 (ptT_of hN.2).1 (ptT_of hN.2).2.1 (by omega)
  have n1 : NW S M1 := hN.q (fun x j y => by
    unfold pkN at y
    by_cases u : x = 17
    · subst u; exact a3 j (by omega)
    · rw [a2 x (by omega)])
  obtain ⟨M2, b1, b2, b3, b4, b5, b6⟩ := c_begin (S := S) (M := M1) (a := 17) (b := 23) (shT_of hN.1).2.1 (shC_of hN.1).1 (ptT_of n1.2).2.1 (ptC_of n1.2).1 (by omega)
  generalize hM3 : upM (upM M2 16 3 0) 16 7 0 = M3
  have r1 : ∀ x, x ≠ 16 → M3 x = M2 x := fun x y => by rw [← hM3, upM_r y, upM_r y]
  have r2 : ∀ j, j ≠ 3 → j ≠ 7 → M3 16 j = M 16 j := fun j y z => by rw [← hM3, upM_i z, upM_i y, b2 16 (by omega), a2 16 (by omega)]
  have r3 : M3 16 3 = 0 := by rw [← hM3, upM_i (by decide), upM_s]
  have r7 : M3 16 7 = 0 := by rw [← hM3, upM_s]
  have r4 : ∀ x, (x < 16 ∨ 27 < x) → M3 x = M x := fun x y => by rw [r1 x (by omega), b2 x (by omega), a2 x (by omega)]
  have r5 : ∀ x, 17 ≤ x → x ≤ 22 → M3 x = M1 x := fun x y z => by rw [r1 x (by omega), b2 x (by omega)]
  have n3 : NW S M3 := n1.q (fun x j y => by
    unfold pkN at y
    by_cases u : x = 16
    · subst u; rw [r2 j (by omega) (by omega), a2 16 (by omega)]
    by_cases v : x = 23
    · subst v; rw [r1 23 (by decide), b3 j (by omega) (by omega) (by omega)]
    · rw [r1 x u, b2 x (by omega)])
  obtain ⟨k0, k1, k2, k3⟩ := hk
  have hPA : PA M3 16 := by
    have := hWP.2.2.2.2
    unfold PA at *
    rw [r4 (16 + 12) (by omega)]; exact this
  have hP : ∀ i, 0 ≤ i → i < kPn s → M1 18 i = kA s i ∧ M1 19 i = kS s i := fun i x y => by
    have o2 := ho.2.1.1
    have := a5 i x (by omega)
    exact ⟨this.1.trans (k1 i x y).1, this.2.trans (k1 i x y).2⟩
  refine ⟨M3, ?_, ⟨n3, hWS, ⟨?_, ?_, ?_, fun i x y => ?_, hPA⟩, ?_, ?_, ?_, ?_, ?_, ?_⟩, r4⟩
  · have e0 : M 16 0 = 17 := by simp [hN.2.o]
    have p2 : M1 16 1 = 23 ∧ M1 16 0 = 17 := by simp [n1.2.o]
    simp only [pX10_begin, pX10_begin_24, hN.1.o, if_true, e0, a1, Option.bind_some, p2, b1, zlet, hM3]
  · rw [r2 0 (by decide) (by decide), r2 1 (by decide) (by decide), r2 2 (by decide) (by decide), r2 4 (by decide) (by decide), r2 5 (by decide) (by decide), r2 6 (by decide) (by decide)]; exact hWP.1
  · exact (ptT_of n3.2).2.1
  · exact (ptC_of n3.2).1
  · unfold PtC; rw [r4 _ (by omega)]; exact hWP.2.2.2.1 i x y
  · show CT M3 17 (kSd s, kFd s, kPn s, kWn s, kW s, kG s, kM s)
    have o2 := ho.2.1.2
    unfold CT
    rw [show (17 : Int) + 3 = 20 from rfl, show (17 : Int) + 4 = 21 from rfl, show (17 : Int) + 5 = 22 from rfl, r5 17 (by decide) (by decide), r5 20 (by decide) (by decide), r5 21 (by decide) (by decide), r5 22 (by decide) (by decide), a4 0 (by decide) (by decide), a4 1 (by decide) (by decide), a4 2 (by decide) (by decide), a4 3 (by decide) (by decide), a4 4 (by decide) (by decide)]
    refine ⟨k0.1, k0.2.1, k0.2.2.1, k0.2.2.2.1, k0.2.2.2.2, fun i x y => ?_, fun c x y => (a7 c x y).trans (k3 c x y)⟩
    have y' : i < kWn s := y
    have := a6 i x (by omega)
    exact ⟨this.1.trans (k2 i x y').1, this.2.trans (k2 i x y').2⟩
  · show ∀ q, 0 ≤ q → q < kPn s → M3 18 q = kA s q ∧ M3 19 q = kS s q
    rw [r5 18 (by decide) (by decide), r5 19 (by decide) (by decide)]; exact hP
  · have := CS.bg (M := M1) (M' := M2) (a := 17) (b := 23) hok.1 hP b4 b5 b6
    exact CS.eq this (fun x x1 x2 => r1 x (by omega))
  · exact ⟨r7, fun i a b => by have b' : i < 0 := b; omega⟩
  · exact ⟨by rw [r2 8 (by decide) (by decide)]; exact hD.2.2.2.2.1.1, by rw [r2 9 (by decide) (by decide)]; exact hD.2.2.2.2.1.2.1, r3⟩
  · intro i a b
    have b' : i < 0 := b
    omega
theorem k_sky {nR : Int} {rl : Int → Ru} {w : Wd} (h : CG S M nR rl w) (hT : TOk T B) (ht : CTp M T B) (h0 : kSd s = 0 ∧ kFd s = 0 ∧ kPn s = 0 ∧ kWn s = 0 ∧ ∀ c, 0 ≤ c → c < 36 → kM s c = 0) (ho : KOk s 0) : ∃ M', pX11_sky S M 1 = some ((opSky T B s w).1, M') ∧ CG S M' nR rl (opSky T B s w).2 ∧ CTp M' 0 B ∧ ∀ x, (x < 2 ∨ x = 15 ∨ 27 < x) → M' x = M x := by
  have hb := hT.1
  have hs := sk_b (T := T) (B := B) (p := 0) hb.1
  obtain ⟨M1, a1, ⟨a2, a3⟩, a4⟩ := c_skyF h.1.1 hT ht h0 ho
  generalize hM2 : upM M1 2 1 0 = M2
  have r1 : ∀ x, x ≠ 2 → M2 x = M1 x := fun x y => by rw [← hM2, upM_r y]
  have r2 : ∀ j, j ≠ 1 → M2 2 j = M1 2 j := fun j y => by rw [← hM2, upM_i y]
  have n2 : NW S M2 := a3.q (fun x j y => by
    unfold pkN at y
    by_cases u : x = 2
    · subst u; exact r2 j (by omega)
    · rw [r1 x u])
  have hC2 : CN S M2 w := h.1.eqs h.2.2 n2 (fun x x1 x2 => by rw [r1 x (by omega), a2 x (by omega)])
  have e10 : M 1 1 = 6 ∧ M 1 0 = 2 := by simp [h.1.1.2.o]
  have e11 : M1 1 0 = 2 := by simp [a3.2.o]
  have e12 : M2 1 1 = 6 ∧ M2 1 5 = 16 ∧ M2 6 0 = 7 := by simp [n2.2.o]
  unfold opSky
  by_cases z : (skF T B 41 0 (sk T B 0) s).1 = 0
  · rw [if_pos z]
    have hk := a4 z
    obtain ⟨m, m1, m2⟩ := skF_ok (T := T) (B := B) 41 0 (sk T B 0) s (by omega) (by decide) (by decide) ho z (by decide)
    rw [z] at a1
    generalize (skF T B 41 0 (sk T B 0) s).2 = s' at *
    have hk2 : CK M2 s' := by
      unfold CK at *
      rw [r1 7 (by decide), r1 8 (by decide), r1 9 (by decide), r1 10 (by decide), r1 11 (by decide), r1 12 (by decide)]; exact hk
    obtain ⟨M3, b1, b2, b3⟩ := c_begin_ hC2 h.2.2 hk2 m1 m2
    have e13 : M3 1 5 = 16 ∧ M3 16 0 = 17 := by simp [b2.1.2.o]
    have e17 : M3 17 3 = kPn s' := b2.2.2.2.1.2.2.2.1
    refine ⟨M3, ?_, ⟨b2, h.2.1.eqs ?_ ?_ (fun x y => ?_), skW_ok h.2.2 m1 m2⟩, ⟨?_, fun i x y => by omega⟩, fun x y => ?_⟩
    · simp only [pX11_sky, h.1.1.1.o, if_true, e10, a1, Option.bind_some, e11, zlet, hM2, e12, b1, e13, e17]
    · rw [b3 1 (by omega), r1 1 (by decide), a2 1 (by omega)]
    · rw [b3 15 (by omega), r1 15 (by decide), a2 15 (by omega)]
    · rw [b3 x (by omega), r1 x (by omega), a2 x (by omega)]
    · rw [b3 2 (by omega), ← hM2, upM_s]
    · rw [b3 x (by omega), r1 x (by omega), a2 x (by omega)]
  · rw [if_neg z]
    refine ⟨M2, ?_, ⟨hC2, h.2.1.eqs ?_ ?_ (fun x y => ?_), h.2.2⟩, ⟨by rw [← hM2, upM_s], fun i x y => by omega⟩, fun x y => ?_⟩
    · simp only [pX11_sky, h.1.1.1.o, if_true, e10, a1, Option.bind_some, e11, zlet, hM2, if_neg z]
    · rw [r1 1 (by decide), a2 1 (by omega)]
    · rw [r1 15 (by decide), a2 15 (by omega)]
    · rw [r1 x (by omega), a2 x (by omega)]
    · rw [r1 x (by omega), a2 x (by omega)]
end
