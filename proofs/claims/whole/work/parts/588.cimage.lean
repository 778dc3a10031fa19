/-! IMAGES: the class -/
theorem ShN.se {S S' : ZS} {N : Int} (h : ShN S) (e : SE S S' N) (hN : 214 ≤ N) : ShN S' := by
  have e1 : ∀ x, x ≤ 214 → S'.1 x = S.1 x := fun x y => (e x (Int.le_trans y hN)).1
  have e2 : ∀ x, x ≤ 214 → S'.2.1 x = S.2.1 x := fun x y => (e x (Int.le_trans y hN)).2
  show ShN0 S'
  unfold ShN0
  simp (disch := decide) only [e1, e2]
  exact h
theorem ShW.se {S S' : ZS} {N : Int} (h : ShW S) (e : SE S S' N) (hN : 214 ≤ N) : ShW S' := by
  have e1 : ∀ x, x ≤ 214 → S'.1 x = S.1 x := fun x y => (e x (Int.le_trans y hN)).1
  have e2 : ∀ x, x ≤ 214 → S'.2.1 x = S.2.1 x := fun x y => (e x (Int.le_trans y hN)).2
  show ShR S'
  unfold ShR
  simp (disch := decide) only [e1, e2]
  exact h
theorem WSh.se {S S' : ZS} {N b : Int} (h : WSh S b) (e : SE S S' N) (hN : b + 115 ≤ N) : WSh S' b := by
  have l0 : b ≤ N := by omega
  have l1 : b + 1 + 5 ≤ N := by omega
  have l2 : b + 7 + 4 ≤ N := by omega
  have l3 : b + 12 ≤ N := by omega
  have l4 : b + 13 ≤ N := by omega
  have l5 : b + 14 ≤ N := by omega
  have l6 : b + 15 ≤ N := by omega
  have l7 : ∀ i, i < 20 → b + 16 + 5 * i + 4 ≤ N := fun i y => by omega
  obtain ⟨h0, h1, h2, h3, h4, h5, h6, h7⟩ := h
  exact ⟨(e b l0).1.trans h0, h1.se e l1, h2.se e l2, ⟨(e _ l3).1.trans h3.1, (e _ l3).2.trans h3.2⟩, ⟨(e _ l4).1.trans h4.1, (e _ l4).2.trans h4.2⟩, ⟨(e _ l5).1.trans h5.1, (e _ l5).2.trans h5.2⟩, ⟨(e _ l6).1.trans h6.1, (e _ l6).2.trans h6.2⟩, fun i x y => (h7 i x y).se e (l7 i y)⟩
/-- a world kept at a place of its own -/
def CI (S : ZS) (M : ZM) (nR b : Int) (v : Wd) : Prop := (214 < b ∧ b + 115 ≤ S.2.2) ∧ WSh S b ∧ WPt M b ∧ CWd M b v ∧ WOk nR v
def CIm (S : ZS) (M : ZM) (nR : Int) (im : Int → Option Wd) : Prop := (∀ k, 0 ≤ k → k < 4 → (im k = none ∧ M 132 k = 0) ∨ ∃ v, im k = some v ∧ CI S M nR (M 132 k) v) ∧ ∀ k l, 0 ≤ k → k < 4 → 0 ≤ l → l < 4 → k ≠ l → M 132 k ≠ 0 → M 132 l ≠ 0 → M 132 k + 115 < M 132 l ∨ M 132 l + 115 < M 132 k
theorem CI.eq {S S' : ZS} {M M' : ZM} {nR b : Int} {v : Wd} (h : CI S M nR b v) (e : SE S S' S.2.2) (hS : S.2.2 ≤ S'.2.2) (q : ∀ x, b ≤ x → x ≤ b + 115 → M' x = M x) : CI S' M' nR b v := by
  obtain ⟨h1, h2, h3, h4, h5⟩ := h
  exact ⟨⟨h1.1, Int.le_trans h1.2 hS⟩, h2.se e h1.2, h3.eq q, h4.eq h3.2.2.2.2 h5.2.2.2.2.2.2.1.2 q, h5⟩
theorem CN.se {S S' : ZS} {M : ZM} {w : Wd} {N : Int} (h : CN S M w) (e : SE S S' N) (hN : 214 ≤ N) : CN S' M w := ⟨⟨h.1.1.se e hN, h.1.2⟩, h.2.1.se e (Int.le_trans (by decide) hN), h.2.2⟩
section
variable {S : ZS} {M : ZM}
/-- the copy of the now at an image's place -/
theorem c_img33 {w : Wd} {nR k b : Int} (h : CN S M w) (hw : WOk nR w) (hk : 0 ≤ k ∧ k ≤ 3) (hb : M 132 k = b) (hb1 : 214 < b ∧ b + 115 ≤ S.2.2) (hS : WSh S b) (hP : WPt M b) : ∃ M', pX11_image_33 S M 1 k = some (cDy (wC w), S, M') ∧ CN S M' w ∧ CI S M' nR b w ∧ ∀ x, (x < b ∨ b + 115 < x) → M' x = M x := by
  have hd : (16 : Int) + 115 < b ∨ b + 115 < 16 := Or.inl (by omega)
  have k4 : k < 4 := by omega
  have lb : ∀ x, x ≤ 214 → x < b := fun x y => by omega
  obtain ⟨M', a1, a2, a3, a4⟩ := c_cpWorld (S := S) (M := M) (a := 16) (b := b) h.2.1 hS h.2.2.1 hP hd hw h.2.2.2
  have eN : ∀ x, x ≤ 214 → M' x = M x := fun x y => a4 x (Or.inl (lb x y))
  have hN : NW S M' := h.1.q (fun x j y => by rw [eN x (by unfold pkN at y; clear h hS hP a2 a3; omega)])
  have hC : CN S M' w := ⟨hN, h.2.1, h.2.2.1.eq (fun x u v => eN x (Int.le_trans v (by decide))), h.2.2.2.eq h.2.2.1.2.2.2.2 hw.2.2.2.2.2.2.1.2 (fun x u v => eN x (Int.le_trans v (by decide)))⟩
  have e5 : M' 23 5 = cDy (wC w) := hC.cs.2.2.2.2.1
  have s10 := hS.1
  refine ⟨M', ?_, hC, ⟨hb1, hS, a2, a3, hw⟩, a4⟩
  simp [pX11_image_33, h.1.1.o, h.1.2.o, hk, k4, hb, s10, a1, hN.2.o, e5]
theorem k_image {w : Wd} {nR k : Int} {im : Int → Option Wd} (h : CN S M w) (hw : WOk nR w) (hi : CIm S M nR im) (hs : 214 ≤ S.2.2 ∧ S.2.2 < 1999999700) : ∃ S' M', pX11_image S M 1 k = some ((opImage w im k).1, S', M') ∧ SE S S' S.2.2 ∧ (S.2.2 ≤ S'.2.2 ∧ S'.2.2 ≤ S.2.2 + 116) ∧ CN S' M' w ∧ CIm S' M' nR (opImage w im k).2 ∧ (∀ x, x ≤ S.2.2 → x ≠ 132 → (∀ l, 0 ≤ l → l < 4 → M 132 l ≠ 0 → x < M 132 l ∨ M 132 l + 115 < x) → M' x = M x) ∧ (∀ l, 0 ≤ l → l < 4 → M' 132 l = M 132 l ∨ (M' 132 l = S.2.2 + 1)) := by
  unfold opImage
  by_cases g : 0 ≤ k ∧ k ≤ 3
  · rw [if_pos g]
    have k4 : k < 4 := by omega
    rcases hi.1 k g.1 k4 with ⟨i1, i2⟩ | ⟨v, i1, i2⟩
    · have b1 : (1 : Int) ≤ S.2.2 + 1 := by omega
      have b2 : S.2.2 + 1 < 1999999800 := by omega
      have b3 : S.2.2 < 2000000000 := by omega
      have b4 : ¬ S.2.2 + 1 = 0 := by omega
      obtain ⟨S1, M1, a1, a2, a3, a4, a5⟩ := w_new (S0 := S) (M0 := M) (b := S.2.2 + 1) rfl b1 b2
      have c1 : S1.2.2 = S.2.2 + 116 := a2.1
      have c2 : 214 < S.2.2 + 1 ∧ S.2.2 + 1 + 115 ≤ S1.2.2 := by clear a4 a5; omega
      have lN : ∀ x, x ≤ 214 → x ≤ S.2.2 := fun x y => by clear a4 a5; omega
      have e1 : ∀ x, x ≤ 214 → M1 x = M x := fun x y => a3 x (lN x y)
      generalize hM2 : upM M1 132 k (S.2.2 + 1) = M2
      have r2 : ∀ x, x ≠ 132 → M2 x = M1 x := fun x y => by rw [← hM2, upM_r y]
      have r3 : ∀ l, l ≠ k → M2 132 l = M 132 l := fun l y => by rw [← hM2, upM_i y, e1 132 (by decide)]
      have r4 : M2 132 k = S.2.2 + 1 := by rw [← hM2, upM_s]
      have n132 : ∀ x, S.2.2 + 1 ≤ x → x ≠ 132 := fun x y => by clear a4 a5; omega
      have e2 : ∀ x, x ≤ S.2.2 → x ≠ 132 → M2 x = M x := fun x y z => by rw [r2 x z, a3 x y]
      have hC1 : CN S1 M2 w := by
        have hc := h.se a2.2 hs.1
        refine ⟨⟨hc.1.1, hc.1.2.j (fun x j y => ?_)⟩, hc.2.1, hc.2.2.1.eq (fun x u v => e2 x (lN x (Int.le_trans v (by decide))) (fun z => by rw [z] at v; exact absurd v (by decide))), hc.2.2.2.eq hc.2.2.1.2.2.2.2 hw.2.2.2.2.2.2.1.2 (fun x u v => e2 x (lN x (Int.le_trans v (by decide))) (fun z => by rw [z] at v; exact absurd v (by decide)))⟩
        unfold pkN at y
        rw [e2 x (lN x (by clear a4 a5 hc; omega)) (by clear a4 a5 hc; omega)]
      obtain ⟨M3, d1, d2, d3, d4⟩ := c_img33 (S := S1) (M := M2) (b := S.2.2 + 1) (nR := nR) hC1 hw g r4 c2 a4 (a5.eq (fun x u v => r2 x (n132 x u)))
      have lb : ∀ x, x ≤ S.2.2 → x < S.2.2 + 1 ∨ S.2.2 + 1 + 115 < x := fun x y => by clear a4 a5; omega
      have s10 := a4.1
      have s132 : S1.1 132 = 106 ∧ S1.2.1 132 = 4 := by
        have := a2.2 132 (lN 132 (by decide))
        rw [this.1, this.2]
        simp only [h.1.1.o, and_self]
      have e3 : ∀ l, M3 132 l = M2 132 l := fun l => by rw [d4 132 (lb 132 (lN 132 (by decide)))]
      refine ⟨S1, M3, ?_, a2.2, ⟨by clear a4 a5; omega, by clear a4 a5; omega⟩, d2, ⟨fun l x y => ?_, fun l m x1 x2 y1 y2 z u v => ?_⟩, fun x y z _ => by rw [d4 x (lb x y)]; exact e2 x y z, fun l x y => ?_⟩
      · simp [pX11_image, c_within, g, h.1.1.o, h.1.2.o, k4, i2, b3, zlet, b1, a1, s132, b4, s10, hM2, d1]
      · by_cases z : l = k
        · subst z
          rw [e3, r4]
          exact Or.inr ⟨w, if_pos rfl, d3⟩
        · rw [e3, r3 l z]
          show ((if l = k then some w else im l) = none ∧ _) ∨ ∃ v, (if l = k then some w else im l) = some v ∧ _
          rw [if_neg z]
          rcases hi.1 l x y with u | ⟨v, v1, v2⟩
          · exact Or.inl u
          · have hS1 : S.2.2 ≤ S1.2.2 := by clear a4 a5; omega
            have hx : ∀ x, M 132 l ≤ x → x ≤ M 132 l + 115 → x ≤ S.2.2 ∧ x ≠ 132 := fun x p q => by have := v2.1; clear a4 a5; omega
            exact Or.inr ⟨v, v1, v2.eq a2.2 hS1 (fun x p q => by rw [d4 x (lb x (hx x p q).1)]; exact e2 x (hx x p q).1 (hx x p q).2)⟩
      · rw [e3, e3] at *
        have hb : ∀ l, 0 ≤ l → l < 4 → M 132 l ≠ 0 → M 132 l + 115 ≤ S.2.2 := fun l p q r => by
          rcases hi.1 l p q with t | ⟨t, -, t2⟩
          · exact absurd t.2 r
          · exact t2.1.2
        by_cases p : l = k
        · have pm : m ≠ k := fun t => z (p.trans t.symm)
          rw [p, r4, r3 m pm] at *
          exact Or.inr (Int.lt_of_le_of_lt (hb m y1 y2 v) (Int.lt_succ _))
        · by_cases pm : m = k
          · rw [pm, r4, r3 l p] at *
            exact Or.inl (Int.lt_of_le_of_lt (hb l x1 x2 u) (Int.lt_succ _))
          · rw [r3 l p, r3 m pm] at *
            exact hi.2 l m x1 x2 y1 y2 z u v
      · rw [e3]
        by_cases z : l = k
        · rw [z]; exact Or.inr r4
        · exact Or.inl (r3 l z)
    · have c0 := i2.1
      have hge : (1 : Int) ≤ M 132 k := by omega
      have hne : M 132 k ≠ 0 := by omega
      obtain ⟨M3, d1, d2, d3, d4⟩ := c_img33 (b := M 132 k) (nR := nR) h hw g rfl i2.1 i2.2.1 i2.2.2.1
      have e3 : ∀ l, M3 132 l = M 132 l := fun l => by rw [d4 132 (Or.inl (by omega))]
      refine ⟨S, M3, ?_, fun _ _ => ⟨rfl, rfl⟩, ⟨Int.le_refl _, by omega⟩, d2, ⟨fun l x y => ?_, fun l m x1 x2 y1 y2 z u v => ?_⟩, fun x y z t => d4 x (t k g.1 k4 hne), fun l x y => Or.inl (e3 l)⟩
      · simp [pX11_image, c_within, g, h.1.1.o, h.1.2.o, k4, hge, d1]
      · by_cases z : l = k
        · subst z
          rw [e3]
          exact Or.inr ⟨w, if_pos rfl, d3⟩
        · rw [e3]
          show ((if l = k then some w else im l) = none ∧ _) ∨ ∃ v, (if l = k then some w else im l) = some v ∧ _
          rw [if_neg z]
          rcases hi.1 l x y with u | ⟨u, u1, u2⟩
          · exact Or.inl u
          · have hl : M 132 l ≠ 0 := by have := u2.1; omega
            have hd := hi.2 l k x y g.1 k4 z hl hne
            exact Or.inr ⟨u, u1, u2.eq (fun _ _ => ⟨rfl, rfl⟩) (Int.le_refl _) (fun x p q => d4 x (by omega))⟩
      · rw [e3, e3] at *
        exact hi.2 l m x1 x2 y1 y2 z u v
  · rw [if_neg g]
    refine ⟨S, M, ?_, fun _ _ => ⟨rfl, rfl⟩, ⟨Int.le_refl _, by omega⟩, h, hi, fun _ _ _ _ => rfl, fun l _ _ => Or.inl rfl⟩
    simp [pX11_image, c_within, g]
theorem k_back {w : Wd} {nR k : Int} {im : Int → Option Wd} (h : CN S M w) (hw : WOk nR w) (hi : CIm S M nR im) : ∃ M', pX11_back S M 1 k = some ((opBack w im k).1, M') ∧ CN S M' (opBack w im k).2 ∧ CIm S M' nR im ∧ (∀ x, (x < 16 ∨ 131 < x) → M' x = M x) ∧ WOk nR (opBack w im k).2 := by
  unfold opBack
  by_cases g : 0 ≤ k ∧ k ≤ 3
  · rw [if_pos g]
    have k4 : k < 4 := by omega
    rcases hi.1 k g.1 k4 with ⟨i1, i2⟩ | ⟨v, i1, i2⟩
    · rw [i1]
      refine ⟨M, ?_, h, hi, fun _ _ => rfl, hw⟩
      simp [pX11_back, pX11_back_18, c_within, g, h.1.1.o, h.1.2.o, k4, i2]
    · rw [i1]
      have c0 := i2.1
      have hge : (1 : Int) ≤ M 132 k := by omega
      obtain ⟨M', a1, a2, a3, a4⟩ := c_cpWorld (S := S) (M := M) (a := M 132 k) (b := 16) i2.2.1 h.2.1 i2.2.2.1 h.2.2.1 (Or.inr (by omega)) i2.2.2.2.2 i2.2.2.2.1
      have a4' : ∀ x, (x < 16 ∨ 131 < x) → M' x = M x := a4
      have hN : NW S M' := by
        refine ⟨h.1.1, h.1.2.j (fun x j y => ?_)⟩
        obtain ⟨o1, o2, o3, -, -⟩ := a2
        obtain ⟨p1, p2, p3, -, -⟩ := h.2.2.1
        by_cases z : x < 16 ∨ 131 < x
        · rw [a4' x z]
        · unfold pkN at y
          have o1' : M' 16 0 = 17 ∧ M' 16 1 = 23 ∧ M' 16 2 = 28 ∧ M' 16 4 = 29 ∧ M' 16 5 = 30 ∧ M' 16 6 = 31 := o1
          have p1' : M 16 0 = 17 ∧ M 16 1 = 23 ∧ M 16 2 = 28 ∧ M 16 4 = 29 ∧ M 16 5 = 30 ∧ M 16 6 = 31 := p1
          have o2' : M' 17 5 = 18 ∧ M' 17 6 = 19 ∧ M' 17 7 = 20 ∧ M' 17 8 = 21 ∧ M' 17 9 = 22 := o2
          have p2' : M 17 5 = 18 ∧ M 17 6 = 19 ∧ M 17 7 = 20 ∧ M 17 8 = 21 ∧ M 17 9 = 22 := p2
          have o3' : M' 23 0 = 24 ∧ M' 23 1 = 25 ∧ M' 23 2 = 26 ∧ M' 23 3 = 27 := o3
          have p3' : M 23 0 = 24 ∧ M 23 1 = 25 ∧ M 23 2 = 26 ∧ M 23 3 = 27 := p3
          have hcase : (x = 16 ∧ (j = 0 ∨ j = 1 ∨ j = 2 ∨ j = 4 ∨ j = 5 ∨ j = 6)) ∨ (x = 17 ∧ (j = 5 ∨ j = 6 ∨ j = 7 ∨ j = 8 ∨ j = 9)) ∨ (x = 23 ∧ (j = 0 ∨ j = 1 ∨ j = 2 ∨ j = 3)) := by
            clear o1 p1 o2 p2 o3 p3 o1' p1' o2' p2' o3' p3' a3
            omega
          clear y z o1 p1 o2 p2 o3 p3
          rcases hcase with ⟨rfl, y | y | y | y | y | y⟩ | ⟨rfl, y | y | y | y | y⟩ | ⟨rfl, y | y | y | y⟩ <;> subst y <;> simp only [o1', p1', o2', p2', o3', p3']
      have hC : CN S M' v := ⟨hN, h.2.1, a2, a3⟩
      have e5 : M' 23 5 = cDy (wC v) := hC.cs.2.2.2.2.1
      have e3 : M' 132 = M 132 := a4' 132 (Or.inr (by decide))
      refine ⟨M', ?_, hC, ⟨fun l x y => ?_, by rw [e3]; exact hi.2⟩, a4', i2.2.2.2.2⟩
      · simp [pX11_back, c_within, g, h.1.1.o, h.1.2.o, k4, hge, a1, hN.2.o, e5]
      · rw [e3]
        rcases hi.1 l x y with u | ⟨u, u1, u2⟩
        · exact Or.inl u
        · have u3 := u2.1
          exact Or.inr ⟨u, u1, u2.eq (fun _ _ => ⟨rfl, rfl⟩) (Int.le_refl _) (fun x p q => a4' x (Or.inr (by omega)))⟩
  · rw [if_neg g]
    refine ⟨M, ?_, h, hi, fun _ _ => rfl, hw⟩
    simp [pX11_back, pX11_back_18, c_within, g]
end
