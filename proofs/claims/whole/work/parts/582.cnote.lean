/-! A NOTE: the class -/
section
variable {S : ZS} {M : ZM}
theorem k_note {nR : Int} {rl : Int → Ru} {w : Wd} (h : CG S M nR rl w) {n c p : Int} : CE S M nR rl (pX11_note S M 1 n c p) (opNote w n c p).1 (opNote w n c p).2 := by
  have hT := h.1.tt
  obtain ⟨n1, n2⟩ := h.1.2.2.2.2.2.2.1
  obtain ⟨x1, x2, x3⟩ := h.1.2.2.2.2.2.2.2.1
  have hq := h.2.2.2.2.2.1.1
  have hok := opNote_ok h.2.2 n c p
  unfold opNote at hok ⊢
  by_cases g0 : n = -1
  · rw [if_pos g0] at hok ⊢
    refine h.act (M' := upM M 16 7 0) ?_ (CN.u h.1 h.2.2 (by decide) ⟨rfl, rfl, rfl, rfl, rfl, rfl⟩ ⟨upM_s _ _ _ _, fun i a b => by have b' : i < 0 := b; omega⟩ ⟨by rw [upM_i (by decide)]; exact x1, by rw [upM_i (by decide)]; exact x2⟩) (fun x y => upM_r (by omega)) hok
    simp [pX11_note, h.1.1.1.o, h.1.1.2.o, g0, zlet]
  · rw [if_neg g0] at hok ⊢
    by_cases g3 : p = -1 ∨ (0 ≤ p ∧ p < tPn (wT w))
    · have e39 : pX11_note S M 1 n c p = pX11_note_39 S M 1 n c p 1 := by
        by_cases z : p = -1
        · simp [pX11_note, pX11_note_34, g0, z]
        · have g3' : 0 ≤ p ∧ p < tPn (wT w) := by omega
          simp [pX11_note, pX11_note_34, h.1.1.1.o, h.1.1.2.o, g0, z, c_hasPen hT, g3']
      rw [e39]
      by_cases g1 : 0 ≤ n ∧ n ≤ 60
      · by_cases g2 : 0 ≤ c ∧ c < tSd (wT w) * tSd (wT w)
        · by_cases g4 : (wN w).1 = 10
          · rw [if_neg (fun z => z.2.2.2 g4)]
            refine h.same ?_
            have e7 : M 16 7 = 10 := by rw [← g4]; exact n1
            simp [pX11_note_39, pX11_note_82, h.1.1.1.o, h.1.1.2.o, c_within, g1, c_hasCell hT, g2, e7]
          · rw [if_pos ⟨g1, g2, g3, g4⟩] at hok ⊢
            have w1 : w32 ((wN w).1 + 1) = (wN w).1 + 1 := w32_i (by omega) (by omega)
            generalize hk : (wN w).1 = k at *
            have hk10 : 0 ≤ k ∧ k < 10 := by omega
            have s1 : S.1 29 = 100 ∧ S.2.1 29 = 10 := h.1.2.1.2.2.2.2.1
            have s2 : S.1 30 = 100 ∧ S.2.1 30 = 10 := h.1.2.1.2.2.2.2.2.1
            have s3 : S.1 31 = 100 ∧ S.2.1 31 = 10 := h.1.2.1.2.2.2.2.2.2.1
            have o1 : M 16 4 = 29 ∧ M 16 5 = 30 ∧ M 16 6 = 31 := h.1.2.2.1.1.2.2.2
            have e7 : M 16 7 = k := n1
            generalize hM1 : upM (upM (upM M 29 k n) 30 k c) 31 k p = M1
            have r1 : ∀ a, a ≠ 29 → a ≠ 30 → a ≠ 31 → M1 a = M a := fun a x y z => by rw [← hM1, upM_r z, upM_r y, upM_r x]
            have nw1 : NW S M1 := h.1.1.q (fun x j y => by unfold pkN at y; rw [r1 x (by omega) (by omega) (by omega)])
            have hC1 : CN S M1 (wT w, wA w, wS w, wC w, (k, (ntAdd (wN w) n c p).2), wX w, wF w, wK w, wP w) := by
              obtain ⟨hN, hWS, hWP, d1, d2, d3, d4, d5, d6⟩ := h.1
              have hkk := h.2.2.2.2.2.2.2.2.1
              refine ⟨nw1, hWS, ⟨by rw [r1 16 (by decide) (by decide) (by decide)]; exact hWP.1, ?_, ?_, fun i x y => ?_, ?_⟩, d1.eq (fun x _ _ => r1 x (by omega) (by omega) (by omega)), ?_, d3.eq (fun x _ _ => r1 x (by omega) (by omega) (by omega)), ⟨by rw [r1 16 (by decide) (by decide) (by decide)]; exact e7, fun i a b => ?_⟩, by rw [r1 16 (by decide) (by decide) (by decide)]; exact d5, fun i x y => ?_⟩
              · unfold PtT; rw [r1 (16 + 1) (by decide) (by decide) (by decide)]; exact hWP.2.1
              · unfold PtC; rw [r1 (16 + 7) (by decide) (by decide) (by decide)]; exact hWP.2.2.1
              · unfold PtC; rw [r1 (16 + 16 + 5 * i) (by omega) (by omega) (by omega)]; exact hWP.2.2.2.1 i x y
              · have := hWP.2.2.2.2
                unfold PA at *
                rw [r1 (16 + 12) (by decide) (by decide) (by decide)]; exact this
              · rw [r1 (16 + 2) (by decide) (by decide) (by decide), r1 (16 + 3) (by decide) (by decide) (by decide)]; exact d2
              · have b' : i < k := b
                show M1 29 i = (if i = (wN w).1 then n else (wN w).2.1 i) ∧ M1 30 i = (if i = (wN w).1 then c else (wN w).2.2.1 i) ∧ M1 31 i = (if i = (wN w).1 then p else (wN w).2.2.2 i)
                rw [hk, if_neg (by omega), if_neg (by omega), if_neg (by omega), ← hM1, upM_r (show (29 : Int) ≠ 31 by decide), upM_r (show (29 : Int) ≠ 30 by decide), upM_i (by omega), upM_r (show (30 : Int) ≠ 31 by decide), upM_i (by omega), upM_r (show (30 : Int) ≠ 29 by decide), upM_i (by omega), upM_r (show (31 : Int) ≠ 30 by decide), upM_r (show (31 : Int) ≠ 29 by decide)]
                exact n2 i a b'
              · show CS M1 (wT w) (M1 28 i) (wP w i)
                rw [r1 28 (by decide) (by decide) (by decide)]
                have y' : i < wK w := y
                obtain ⟨u, u1, u2⟩ := hWP.2.2.2.2.1 i x (by omega)
                have u3 : M 28 i = 16 + 16 + 5 * u := u2
                refine (d6 i x y).eq (fun c x1 x2 => ?_)
                have x1' : M 28 i ≤ c := x1
                exact r1 c (by omega) (by omega) (by omega)
            have hO1 : WOk nR (wT w, wA w, wS w, wC w, (k, (ntAdd (wN w) n c p).2), wX w, wF w, wK w, wP w) := by
              obtain ⟨i1, i2, i3, i4, i5⟩ := h.2.2
              refine ⟨i1, i2, i3, ⟨by show 0 ≤ k ∧ k ≤ 10; omega, fun i a b => ?_⟩, i5⟩
              have b' : i < k := b
              have := i4.2 i a (by rw [hk]; exact b')
              show (0 ≤ (if i = (wN w).1 then n else (wN w).2.1 i) ∧ (if i = (wN w).1 then n else (wN w).2.1 i) ≤ 60) ∧ (0 ≤ (if i = (wN w).1 then c else (wN w).2.2.1 i) ∧ (if i = (wN w).1 then c else (wN w).2.2.1 i) < tSd (wT w) * tSd (wT w))
              rw [hk, if_neg (by omega), if_neg (by omega)]; exact this
            have e7' : M1 16 7 = k := by rw [r1 16 (by decide) (by decide) (by decide)]; exact e7
            have f1 : FA M M1 := fun x y => r1 x (by omega) (by omega) (by omega)
            refine h.act (M' := upM M1 16 7 (k + 1)) ?_ (CN.u hC1 hO1 (by decide) ⟨rfl, rfl, rfl, rfl, rfl, rfl⟩ ⟨by rw [upM_s]; show k + 1 = (wN w).1 + 1; rw [hk], fun i a b => ?_⟩ ⟨by rw [upM_i (by decide), r1 16 (by decide) (by decide) (by decide)]; exact x1, by rw [upM_i (by decide), r1 16 (by decide) (by decide) (by decide)]; exact x2⟩) (f1.trans (fun x y => upM_r (by omega))) hok
            · have o2 : ∀ j, M1 16 j = M 16 j := fun j => by rw [r1 16 (by decide) (by decide) (by decide)]
              have a1 : pX10_addNote S M 16 n c p = some (upM M1 16 7 (k + 1)) := by
                have h1 : (upM M 29 k n) 16 = M 16 := upM_r (by decide)
                have h2 : (upM (upM M 29 k n) 30 k c) 16 = M 16 := by rw [upM_r (by decide), h1]
                simp only [pX10_addNote, pX10_addNote_39, pX10_addNote_49, zlet, h.1.1.1.o, o1, e7, s1, s2, s3, h1, h2, hM1, e7', w1, hk10, show ¬ (10 : Int) ≤ k by omega, and_self, if_true, if_false]
              have h3 : (upM M1 16 7 (k + 1)) 1 5 = 16 := by rw [upM_r (by decide), r1 1 (by decide) (by decide) (by decide)]; simp only [h.1.1.2.o]
              simp [pX11_note_39, h.1.1.1.o, h.1.1.2.o, c_within, g1, c_hasCell hT, g2, e7, hk10, a1, h3, upM_s]
            · have b' : i < (wN w).1 + 1 := b
              show M1 29 i = (if i = (wN w).1 then n else (wN w).2.1 i) ∧ M1 30 i = (if i = (wN w).1 then c else (wN w).2.2.1 i) ∧ M1 31 i = (if i = (wN w).1 then p else (wN w).2.2.2 i)
              rw [hk] at b' ⊢
              by_cases z : i = k
              · simp only [if_pos z]
                rw [← hM1, z]; simp [upM_ap]
              · have := hC1.2.2.2.2.2.2.1.2 i a (by show i < k; omega)
                have t : M1 29 i = (if i = (wN w).1 then n else (wN w).2.1 i) ∧ M1 30 i = (if i = (wN w).1 then c else (wN w).2.2.1 i) ∧ M1 31 i = (if i = (wN w).1 then p else (wN w).2.2.2 i) := this
                rw [hk] at t; exact t
        · rw [if_neg (fun z => g2 z.2.1)]
          refine h.same ?_
          simp [pX11_note_39, pX11_note_82, h.1.1.1.o, h.1.1.2.o, c_within, g1, c_hasCell hT, g2]
      · rw [if_neg (fun z => g1 z.1)]
        refine h.same ?_
        simp [pX11_note_39, pX11_note_82, h.1.1.1.o, h.1.1.2.o, c_within, g1]
    · rw [if_neg (fun z => g3 z.2.2.1)]
      refine h.same ?_
      have z : ¬ p = -1 := fun z => g3 (Or.inl z)
      have z2 : ¬ (0 ≤ p ∧ p < tPn (wT w)) := fun z => g3 (Or.inr z)
      have e39 : pX11_note S M 1 n c p = pX11_note_39 S M 1 n c p 0 := by
        simp [pX11_note, h.1.1.1.o, h.1.1.2.o, g0, z, c_hasPen hT, z2]
      rw [e39]
      by_cases g1 : 0 ≤ n ∧ n ≤ 60
      · by_cases g2 : 0 ≤ c ∧ c < tSd (wT w) * tSd (wT w)
        · simp [pX11_note_39, pX11_note_82, h.1.1.1.o, h.1.1.2.o, c_within, g1, c_hasCell hT, g2]
        · simp [pX11_note_39, pX11_note_82, h.1.1.1.o, h.1.1.2.o, c_within, g1, c_hasCell hT, g2]
      · simp [pX11_note_39, pX11_note_82, h.1.1.1.o, h.1.1.2.o, c_within, g1]
end
