/-! THE CLASS: a day, days -/
def FrC (b d : Int) (M M' : ZM) : Prop := (∀ x, x ≠ b → x ≠ b + 1 → x ≠ b + 3 → x ≠ b + 4 → x ≠ d + 1 → x ≠ d + 2 → x ≠ d + 3 → M' x = M x) ∧ (∀ j, j ≠ 5 → j ≠ 6 → M' b j = M b j)
theorem FrC.refl (b d : Int) (M : ZM) : FrC b d M M := ⟨fun _ _ _ _ _ _ _ _ => rfl, fun _ _ _ => rfl⟩
theorem FrC.trans {b d : Int} {M M' M'' : ZM} (h : FrC b d M M') (h' : FrC b d M' M'') : FrC b d M M'' := ⟨fun x a1 a2 a3 a4 a5 a6 a7 => (h'.1 x a1 a2 a3 a4 a5 a6 a7).trans (h.1 x a1 a2 a3 a4 a5 a6 a7), fun j x y => (h'.2 j x y).trans (h.2 j x y)⟩
/-- told at a, scene at b, days at d: all that a day wants -/
def CD (S : ZS) (M : ZM) (a b d : Int) (t : Td) (s : Sc) : Prop := Sep a b d ∧ TT S M a t ∧ (ShC S b ∧ PtC M b) ∧ (ShD S d ∧ PtD M d) ∧ CS M t b s
section
variable {S : ZS} {t : Td} {s : Sc} {a b d : Int}
theorem CD.fr {M M' : ZM} {s' : Sc} (h : CD S M a b d t s) (f : FrC b d M M') (hC : CS M' t b s') : CD S M' a b d t s' := by
  obtain ⟨h1, h2, ⟨h3, h4⟩, ⟨h5, h6⟩, h7⟩ := h
  have h1' := h1
  unfold Sep at h1'
  refine ⟨h1, h2.eq (fun x _ _ => f.1 x (by omega) (by omega) (by omega) (by omega) (by omega) (by omega) (by omega)), ⟨h3, ?_⟩, ⟨h5, ?_⟩, hC⟩
  · unfold PtC; rw [f.2 _ (by omega) (by omega), f.2 _ (by omega) (by omega), f.2 _ (by omega) (by omega), f.2 _ (by omega) (by omega)]; exact h4
  · unfold PtD; rw [f.1 d (by omega) (by omega) (by omega) (by omega) (by omega) (by omega) (by omega)]; exact h6
theorem c_one_25 {M : ZM} (ho : TdOk t) (hs : 2 ≤ tSd t ∧ tSd t ≤ 6) {n : Nat} (hO : ScGo t s (n + 1)) (h : CD S M a b d t s) (w : Int) :
    ∃ M', pX0_one_25 S M d a b w = some (w, M') ∧ CS M' t b (dayW t w s) ∧ FrC b d M M' := by
  obtain ⟨hO, hB, hR1, hR2⟩ := hO
  obtain ⟨hsep, hT, ⟨hSC, hP⟩, ⟨hSD, hD⟩, hC⟩ := h
  have hp := ho.2.2.1
  have hb := sq_b ho.1
  have hn := nCl_b ho
  have hsep' := hsep
  unfold Sep at hsep'
  obtain ⟨M1, a1, a2, a3⟩ := c_movePens ho hs hO hR1.1 hsep hSC hT hP hC
  have h5 := hC.2.2.2.2.1
  have h6 := hC.2.2.2.2.2
  have hT1 : TT S M1 a t := hT.eq (fun x _ _ => a2 x (by omega))
  have hP1 : PtC M1 b := by unfold PtC; rw [a2 b (by omega)]; exact hP
  obtain ⟨M2, b1, b2, b3, b4, b5, b6⟩ := c_leave_3 ho hsep hSC (w := w) (dy := cDy s) (C := cCl s) (p := posS t s) (W := cWh s) (D := cSi s) (M0 := M1) (fun i x y => pos_b hs hO x y) (by omega) (tPn t).toNat zFU 0 M1 (by omega) (zFU_gt (by omega)) hT1 hP1 a3 (by rw [a2 b (by omega)]; exact h5) (fun c x y => by
      have e := hC.2.1 c x y
      rw [a2 _ (by omega), a2 _ (by omega)]
      unfold whoP sinP
      rw [show nAt w (posS t s) c 0 0 = 0 from rfl, if_pos rfl, if_pos rfl]
      exact e) (fun _ _ => rfl) (by
      rw [a2 b (by omega), h6]
      unfold clapP
      have : cnt (fun c => 1 < nAt w (posS t s) c (tPn t).toNat 0 ∧ 0 < nAt w (posS t s) c 0 0) (nCl t) 0 = cnt (fun c => False) (nCl t) 0 := cnt_congr _ _ (fun i _ _ => ⟨fun z => by have := z.2; rw [show nAt w (posS t s) i 0 0 = 0 from rfl] at this; omega, fun z => z.elim⟩)
      rw [this]
      have hz : ∀ (k : Nat) (c : Int), cnt (fun _ => False) k c = 0 := by
        intro k; induction k with
        | zero => intro c; rfl
        | succ k ih => intro c; simp only [cnt, if_false, ih]; rfl
      rw [hz]; omega) (fun _ _ _ _ => rfl) (fun _ _ => rfl)
  have hT2 : TT S M2 a t := hT1.eq (fun x _ _ => b5 x (by omega) (by omega) (by omega))
  have e5 : M2 b 5 = cDy s := by rw [b6 5 (by omega), a2 b (by omega)]; exact h5
  have ew : w32 (cDy s + 1) = cDy s + 1 := w32_i (by omega) (by omega)
  generalize hM3 : upM M2 b 5 (cDy s + 1) = M3
  have c2 : ∀ x, x ≠ b → M3 x = M2 x := fun x y => by rw [← hM3, upM_r y]
  have c3 : ∀ j, j ≠ 5 → M3 b j = M2 b j := fun j y => by rw [← hM3, upM_i y]
  have c4 : M3 b 5 = cDy s + 1 := by rw [← hM3, upM_s]
  have hT3 : TT S M3 a t := hT2.eq (fun x _ _ => c2 x (by omega))
  have hP3 : PtC M3 b := by
    unfold PtC
    rw [c3 _ (by omega), c3 _ (by omega), c3 _ (by omega), c3 _ (by omega), b6 _ (by omega), b6 _ (by omega), b6 _ (by omega), b6 _ (by omega), a2 b (by omega)]; exact hP
  have hfd := hT3.2.2.2.2.1
  have hfb := ho.2.1
  have ew2 : w32 (cDy s + 1 - tFd t) = cDy s + 1 - tFd t := w32_i (by omega) (by omega)
  obtain ⟨M4, d1, d2, d3, d4⟩ := c_fade_13 ho hsep hSC (W := who1 w (posS t s) (tPn t).toNat (cWh s)) (D := sin1 w (posS t s) (tPn t).toNat (cSi s) (cDy s)) (dy := cDy s + 1) (fun c x y z => by
      have hW := hO.2.1 c x y
      revert z
      unfold who1 sin1
      by_cases n0 : nAt w (posS t s) c (tPn t).toNat 0 = 0
      · rw [if_pos n0, if_pos n0]; intro z; omega
      · rw [if_neg n0, if_neg n0]
        by_cases n1 : nAt w (posS t s) c (tPn t).toNat 0 = 1
        · rw [if_pos n1, if_pos n1]; intro z; omega
        · rw [if_neg n1, if_neg n1]; intro z; omega) (nCl t) zFU M3 0 hT3 hP3 (fun i x y => by rw [c2 _ (by omega), c2 _ (by omega)]; exact b2 i x y) (by omega) (by omega) (zFU_gt (by omega))
  refine ⟨M4, ?_, ?_, ?_⟩
  · simp [pX0_one_57, pX0_one_25, pX0_one, hSD, hSC, a1, pX0_leaveStrokes, show ((0 : Nat) : Int) = 0 from rfl, e5, ew, zlet]
    simp only [show ((0 : Nat) : Int) = 0 from rfl] at b1
    simp [b1, e5, ew, hM3, pX0_fadeStrokes_41, pX0_fadeStrokes, hSC, hT.1, c4, hfd, ew2, d1]
  · refine ⟨fun q x y => ?_, fun c x y => ?_, fun c x y => ?_, ?_, ?_, ?_⟩
    · rw [d2 _ (by omega), c2 _ (by omega), b5 _ (by omega) (by omega) (by omega), d2 _ (by omega), c2 _ (by omega), b5 _ (by omega) (by omega) (by omega), a3 q x y, a2 _ (by omega)]
      exact ⟨rfl, (hC.1 q x y).2⟩
    · refine ⟨d3 c x y, fun z => ?_⟩
      rw [d2 _ (by omega), c2 _ (by omega)]
      have hz : who2 (who1 w (posS t s) (tPn t).toNat (cWh s)) (sin1 w (posS t s) (tPn t).toNat (cSi s) (cDy s)) (cDy s + 1) (tFd t) c ≠ -1 := z
      show _ = sin2 (who1 w (posS t s) (tPn t).toNat (cWh s)) (sin1 w (posS t s) (tPn t).toNat (cSi s) (cDy s)) (cDy s + 1) (tFd t) c
      unfold who2 at hz
      unfold sin2
      by_cases z1 : who1 w (posS t s) (tPn t).toNat (cWh s) c ≠ -1 ∧ tFd t < cDy s + 1 - sin1 w (posS t s) (tPn t).toNat (cSi s) (cDy s) c
      · rw [if_pos z1] at hz; exact absurd rfl hz
      · rw [if_neg z1] at hz ⊢
        exact (b2 c x y).2 hz
    · rw [d4 c (by omega), c2 _ (by omega), b3 c x, a2 _ (by omega)]
      exact hC.2.2.1 c x y
    · rw [d2 b (by omega), c3 4 (by omega), b6 4 (by omega), a2 b (by omega)]; exact hC.2.2.2.1
    · rw [d2 b (by omega), c4]; rfl
    · rw [d2 b (by omega), c3 6 (by omega), b4]; rfl
  · refine ⟨fun x y1 y2 y3 y4 _ _ _ => by rw [d2 x y3, c2 x y1, b5 x y1 y3 y4, a2 x y2], fun j y1 y2 => by rw [d2 b (by omega), c3 j y1, b6 j y2, a2 b (by omega)]⟩
theorem c_one {M : ZM} (ho : TdOk t) (hs : 2 ≤ tSd t ∧ tSd t ≤ 6) {n : Nat} (hO : ScGo t s (n + 1)) (h : CD S M a b d t s) {e : Int} {r : Ru} (hr : CRu S M e d r) :
    ∃ M', pX0_one S M d a b e = some (setS t r s, M') ∧ CD S M' a b d t (dayS t r s) ∧ FrC b d M M' ∧ ScGo t (dayS t r s) n := by
  have h' := h
  obtain ⟨hsep, hT, ⟨hSC, hP⟩, ⟨hSD, hD⟩, hC⟩ := h'
  have hp := ho.2.2.1
  have hsep' := hsep
  unfold Sep at hsep'
  have hd := hO.2.2.1
  cases r with
  | none =>
    have e0 := hr.1 rfl
    subst e0
    obtain ⟨M', a1, a2, a3⟩ := c_one_25 ho hs hO h (setS t none s)
    refine ⟨M', ?_, h.fr a3 a2, a3, dayW_go hs ho hO _⟩
    have e4 := hC.2.2.2.1
    have hset : zand (zxor (cSy s) (-1)) (w32 (zshl 1 (tPn t) - 1)) = setS t none s := by
      rw [set_5 hO.1.2.2 hp]
      unfold setS
      exact setF_congr _ _ _ (fun i _ _ => by simp [wrS])
    have : ¬ (1 : Int) ≤ 0 := by decide
    rw [pX0_one, if_neg this]
    simp [hSC, hT.1, c_allPens hT, e4, hset, a1]
  | some g =>
    obtain ⟨M1, b1, b2, b3⟩ := c_tellDay ho hO.1 (by omega) hsep hSC hSD hT hP hD hC
    obtain ⟨M2, d1, d2⟩ := c_writersBy_12 ho hs hO.1 hsep hSC hSD (e := e) (g := g) (tPn t).toNat zFU M1 0 0 (hr.eq (fun x y => b2 x (by omega) (by omega))) (hT.eq (fun x _ _ => b2 x (by omega) (by omega))) (by unfold PtC; rw [b2 b (by omega) (by omega)]; exact hP) (by unfold PtD; rw [b2 d (by omega) (by omega)]; exact hD) (hC.eq (fun x _ _ => b2 x (by omega) (by omega))) b3 (by omega) (by omega) (by unfold in32; omega) (zFU_gt (by omega))
    have f2 : FrC b d M M2 := ⟨fun x _ _ _ _ y5 y6 y7 => (d2 x y5 y6 y7).trans (b2 x y5 y6), fun j _ _ => by rw [d2 b (by omega) (by omega) (by omega), b2 b (by omega) (by omega)]⟩
    have hC2 : CS M2 t b s := hC.eq (fun x _ _ => by rw [d2 x (by omega) (by omega) (by omega), b2 x (by omega) (by omega)])
    have h2 := h.fr f2 hC2
    obtain ⟨M', a1, a2, a3⟩ := c_one_25 ho hs hO h2 (setS t (some g) s)
    have f3 := f2.trans a3
    refine ⟨M', ?_, h.fr f3 a2, f3, dayW_go hs ho hO _⟩
    have he := (hr.2 g rfl).1
    rw [pX0_one, if_pos (by omega)]
    have d1' : pX0_writersBy_12 S zFU M1 d a b e 0 0 = some (setS t (some g) s, M2) := d1
    simp [hSD, pX0_writersBy, b1, d1', a1]
theorem CRu.fr {M M' : ZM} {e : Int} {r : Ru} (h : CRu S M e d r) (hsep : Sep a b d) (f : FrC b d M M') : CRu S M' e d r := by
  unfold Sep at hsep
  exact h.eq (fun x y => f.1 x (by omega) (by omega) (by omega) (by omega) (by omega) (by omega) (by omega))
theorem c_pass_3 (ho : TdOk t) (hs : 2 ≤ tSd t ∧ tSd t ≤ 6) {m : Nat} {e : Int} {r : Ru} : ∀ (k fuel : Nat) (M : ZM) (s : Sc) (n i : Int), ScGo t s (k + m) → CRu S M e d r → CD S M a b d t s → i + k = n → 0 ≤ i → n ≤ 1000 → k < fuel →
    ∃ M', pX0_pass_3 S fuel M d a b e n i = some M' ∧ CD S M' a b d t (daysS t r k s) ∧ FrC b d M M' ∧ ScGo t (daysS t r k s) m := by
  intro k
  induction k with
  | zero =>
    intro fuel M s n i hO hr h h1 h2 h3 h4
    obtain ⟨f, rfl⟩ : ∃ f, fuel = f + 1 := ⟨fuel - 1, by omega⟩
    refine ⟨M, ?_, h, FrC.refl b d M, by rw [Nat.zero_add] at hO; exact hO⟩
    simp only [pX0_pass_3]; rw [if_pos (by omega)]
  | succ k ih =>
    intro fuel M s n i hO hr h h1 h2 h3 h4
    obtain ⟨f, rfl⟩ : ∃ f, fuel = f + 1 := ⟨fuel - 1, by omega⟩
    rw [show k + 1 + m = (k + m) + 1 by omega] at hO
    obtain ⟨M1, a1, a2, a3, a4⟩ := c_one ho hs hO h hr
    obtain ⟨M', b1, b2, b3, b4⟩ := ih f M1 (dayS t r s) n (i + 1) a4 (hr.fr h.1 a3) a2 (by omega) (by omega) h3 (by omega)
    refine ⟨M', ?_, b2, a3.trans b3, b4⟩
    simp only [pX0_pass_3]; rw [if_neg (by omega), if_pos h.2.2.2.1.1.1, a1, Option.bind_some, w32_i (by omega) (by omega), b1]
theorem c_pass {M : ZM} (ho : TdOk t) (hs : 2 ≤ tSd t ∧ tSd t ≤ 6) {m : Nat} {e : Int} {r : Ru} {n : Int} (hn : 0 ≤ n ∧ n ≤ 1000) (hO : ScGo t s (n.toNat + m)) (hr : CRu S M e d r) (h : CD S M a b d t s) :
    ∃ M', pX0_pass S M d a b e n = some M' ∧ CD S M' a b d t (daysS t r n.toNat s) ∧ FrC b d M M' ∧ ScGo t (daysS t r n.toNat s) m :=
  c_pass_3 ho hs n.toNat zFU M s n 0 hO hr h (by omega) (by omega) hn.2 (zFU_gt (by omega))
end
