/-! THE CLASS: told, scene, days at any address -/
abbrev ShT (S : ZS) (a : Int) : Prop := S.1 a = 9 ∧ (S.1 (a + 1) = 100 ∧ S.2.1 (a + 1) = 5) ∧ (S.1 (a + 2) = 100 ∧ S.2.1 (a + 2) = 5) ∧ (S.1 (a + 3) = 100 ∧ S.2.1 (a + 3) = 12) ∧ (S.1 (a + 4) = 100 ∧ S.2.1 (a + 4) = 12) ∧ (S.1 (a + 5) = 100 ∧ S.2.1 (a + 5) = 36)
abbrev ShC (S : ZS) (a : Int) : Prop := S.1 a = 6 ∧ (S.1 (a + 1) = 100 ∧ S.2.1 (a + 1) = 5) ∧ (S.1 (a + 2) = 100 ∧ S.2.1 (a + 2) = 5) ∧ (S.1 (a + 3) = 100 ∧ S.2.1 (a + 3) = 36) ∧ (S.1 (a + 4) = 100 ∧ S.2.1 (a + 4) = 36)
abbrev ShD (S : ZS) (a : Int) : Prop := S.1 a = 0 ∧ (S.1 (a + 1) = 100 ∧ S.2.1 (a + 1) = 12) ∧ (S.1 (a + 2) = 100 ∧ S.2.1 (a + 2) = 5) ∧ (S.1 (a + 3) = 101 ∧ S.2.1 (a + 3) = 40)
abbrev PtT (M : ZM) (a : Int) : Prop := M a 5 = a + 1 ∧ M a 6 = a + 2 ∧ M a 7 = a + 3 ∧ M a 8 = a + 4 ∧ M a 9 = a + 5
abbrev PtC (M : ZM) (a : Int) : Prop := M a 0 = a + 1 ∧ M a 1 = a + 2 ∧ M a 2 = a + 3 ∧ M a 3 = a + 4
abbrev PtD (M : ZM) (a : Int) : Prop := M a 0 = a + 1 ∧ M a 1 = a + 2 ∧ M a 2 = a + 3
/-- a told, a scene in the class's rows -/
def CT (M : ZM) (a : Int) (t : Td) : Prop := M a 0 = tSd t ∧ M a 1 = tSd t * tSd t ∧ M a 2 = tFd t ∧ M a 3 = tPn t ∧ M a 4 = tWn t ∧ (∀ i, 0 ≤ i → i < tWn t → M (a + 3) i = tWy t i ∧ M (a + 4) i = tSg t i) ∧ ∀ c, 0 ≤ c → c < 36 → M (a + 5) c = tMk t c
def CS (M : ZM) (t : Td) (a : Int) (s : Sc) : Prop := (∀ q, 0 ≤ q → q < tPn t → M (a + 1) q = cAt s q ∧ M (a + 2) q = cSt s q) ∧ (∀ c, 0 ≤ c → c < tSd t * tSd t → M (a + 3) c = cWh s c ∧ (cWh s c ≠ -1 → M (a + 4) c = cSi s c)) ∧ (∀ c, tSd t * tSd t ≤ c → c < 36 → M (a + 3) c = -1) ∧ M a 4 = cSy s ∧ M a 5 = cDy s ∧ M a 6 = cCl s
theorem CT.eq {M M' : ZM} {a : Int} {t : Td} (h : CT M a t) (e : ∀ b, a ≤ b → b ≤ a + 5 → M' b = M b) : CT M' a t := by
  unfold CT at *
  rw [e a (by omega) (by omega), e (a + 3) (by omega) (by omega), e (a + 4) (by omega) (by omega), e (a + 5) (by omega) (by omega)]
  exact h
theorem CS.eq {M M' : ZM} {a : Int} {t : Td} {s : Sc} (h : CS M t a s) (e : ∀ b, a ≤ b → b ≤ a + 4 → M' b = M b) : CS M' t a s := by
  unfold CS at *
  rw [e a (by omega) (by omega), e (a + 1) (by omega) (by omega), e (a + 2) (by omega) (by omega), e (a + 3) (by omega) (by omega), e (a + 4) (by omega) (by omega)]
  exact h
/-- the blocks lie apart, below the reference -/
def Sep (t s d : Int) : Prop := (0 < t ∧ t + 5 < 176) ∧ (0 < s ∧ s + 4 < 176) ∧ (0 < d ∧ d + 3 < 176) ∧ (t + 5 < s ∨ s + 4 < t) ∧ (t + 5 < d ∨ d + 3 < t) ∧ (s + 4 < d ∨ d + 3 < s)
/-- all of a told that a method reads -/
def TT (S : ZS) (M : ZM) (a : Int) (t : Td) : Prop := ShT S a ∧ PtT M a ∧ CT M a t
theorem TT.eq {S : ZS} {M M' : ZM} {a : Int} {t : Td} (h : TT S M a t) (e : ∀ b, a ≤ b → b ≤ a + 5 → M' b = M b) : TT S M' a t := by
  refine ⟨h.1, ?_, h.2.2.eq e⟩
  have := h.2.1
  unfold PtT at *
  rw [e a (by omega) (by omega)]
  exact this
section
variable {S : ZS} {M : ZM} {t : Td} {a : Int}
theorem c_wayOn (h : TT S M a t) (ho : TdOk t) {d : Int} (hd : 0 ≤ d) : pX9_wayOn S M a d = some (wOn t d, M) := by
  obtain ⟨hS, hP, h0, h1, h2, h3, h4, h5, h6⟩ := h
  have hw := ho.2.2.2.1
  unfold wOn
  by_cases c : tWn t = 0
  · simp [pX9_wayOn_22, pX9_wayOn, hS, hP, h4, c]
  · have hb := tmod_pos hd (show 0 < tWn t by omega)
    have hv := (h5 _ hb.1 hb.2).1
    simp [pX9_wayOn_22, pX9_wayOn, hS, hP, h4, c, hb.1, hv, show (d.tmod (tWn t)) < 12 by omega]
theorem c_strengthOn (h : TT S M a t) (ho : TdOk t) {d : Int} (hd : 0 ≤ d) : pX9_strengthOn S M a d = some (fOn t d, M) := by
  obtain ⟨hS, hP, h0, h1, h2, h3, h4, h5, h6⟩ := h
  have hw := ho.2.2.2.1
  unfold fOn
  by_cases c : tWn t = 0
  · simp [pX9_strengthOn_22, pX9_strengthOn, hS, hP, h4, c]
  · have hb := tmod_pos hd (show 0 < tWn t by omega)
    have hv := (h5 _ hb.1 hb.2).2
    simp [pX9_strengthOn_22, pX9_strengthOn, hS, hP, h4, c, hb.1, hv, show (d.tmod (tWn t)) < 12 by omega]
theorem c_rowOf (h : TT S M a t) (hs : 2 ≤ tSd t ∧ tSd t ≤ 6) {c : Int} (hc : 0 ≤ c ∧ c < tSd t * tSd t) : pX9_rowOf S M a c = some (c.tdiv (tSd t), M) := by
  obtain ⟨hS, hP, h0, _⟩ := h
  have hd := tdiv_b hs hc
  simp [pX9_rowOf_17, pX9_rowOf, hS, h0, show ¬ tSd t = 0 by omega, w32_i (x := c.tdiv (tSd t)) (by omega) (by omega)]
theorem c_columnOf (h : TT S M a t) (hs : 2 ≤ tSd t ∧ tSd t ≤ 6) {c : Int} : pX9_columnOf S M a c = some (c.tmod (tSd t), M) := by
  obtain ⟨hS, hP, h0, _⟩ := h
  simp [pX9_columnOf_17, pX9_columnOf, hS, h0, show ¬ tSd t = 0 by omega]
def besC (side c b : Int) : Int := if besS side c b = -1 then c else besS side c b
theorem besC_eq {side c b : Int} (hs : 2 ≤ side ∧ side ≤ 6) (hc : 0 ≤ c ∧ c < side * side) (hb : 0 ≤ b ∧ b ≤ 3) : besC side c b = if b = 0 then (if c.tdiv side ≤ 0 then c else c - side) else if b = 1 then (if side - 1 ≤ c.tmod side then c else c + 1) else if b = 2 then (if side - 1 ≤ c.tdiv side then c else c + side) else (if c.tmod side ≤ 0 then c else c - 1) := by
  obtain ⟨⟨a1, a2⟩, ⟨a3, a4⟩, a5⟩ := tdiv_b hs hc
  unfold besC besS
  generalize c.tdiv side = r at *
  generalize c.tmod side = l at *
  have h1 : side = 2 ∨ side = 3 ∨ side = 4 ∨ side = 5 ∨ side = 6 := by omega
  have h2 : b = 0 ∨ b = 1 ∨ b = 2 ∨ b = 3 := by omega
  rcases h1 with rfl | rfl | rfl | rfl | rfl <;> rcases h2 with rfl | rfl | rfl | rfl <;> simp <;> (repeat' split) <;> omega
theorem c_beside (h : TT S M a t) (hs : 2 ≤ tSd t ∧ tSd t ≤ 6) {c b : Int} (hc : 0 ≤ c ∧ c < tSd t * tSd t) (hb : 0 ≤ b ∧ b ≤ 3) : pX9_beside S M a c b = some (besC (tSd t) c b, M) := by
  rw [besC_eq hs hc hb]
  have hq := sq_b (Or.inr hs)
  have r1 := c_rowOf h hs hc
  have r2 := c_columnOf h hs (c := c)
  obtain ⟨hS, hP, h0, _⟩ := h
  have h2 : b = 0 ∨ b = 1 ∨ b = 2 ∨ b = 3 := by omega
  have e1 : w32 (c - tSd t) = c - tSd t := w32_i (by omega) (by omega)
  have e2 : w32 (c + tSd t) = c + tSd t := w32_i (by omega) (by omega)
  have e3 : w32 (c - 1) = c - 1 := w32_i (by omega) (by omega)
  have e4 : w32 (c + 1) = c + 1 := w32_i (by omega) (by omega)
  have e5 : w32 (tSd t - 1) = tSd t - 1 := w32_i (by omega) (by omega)
  rcases h2 with rfl | rfl | rfl | rfl
  · simp only [pX9_beside_46, pX9_beside_93, pX9_beside, hS, r1, h0, if_true, Option.bind_some, e1, e2, e3, e4, e5]
    split <;> rfl
  · simp [pX9_beside_46, pX9_beside_93, pX9_beside, hS, r2, h0, e4, e5]
  · simp [pX9_beside_46, pX9_beside_93, pX9_beside, hS, r1, h0, e2, e5]
    split <;> rfl
  · simp [pX9_beside_46, pX9_beside_93, pX9_beside, hS, r2, h0, e3]
theorem c_isStayed {s : Int} (hS : ShC S s) (q : Int) : pX6_isStayed S M s q = some (if zand (zshr (M s 4) q) 1 = 1 then 1 else 0, M) := by
  simp [pX6_isStayed, hS]
theorem c_allPens (h : TT S M a t) : pX9_allPens S M a = some (w32 (zshl 1 (tPn t) - 1), M) := by
  obtain ⟨hS, hP, h0, h1, h2, h3, _⟩ := h
  simp [pX9_allPens, hS, h3]
end
section
variable {S : ZS} {t : Td} {s : Sc} {a b d : Int}
theorem c_movePens_22 (ho : TdOk t) (hs : 2 ≤ tSd t ∧ tSd t ≤ 6) (hO : ScOk t s) (hd : 0 ≤ cDy s) (hsep : Sep a b d) (hSC : ShC S b) : ∀ (k fuel : Nat) (M : ZM) (q : Int), TT S M a t → PtC M b → M b 4 = cSy s → (∀ i, q ≤ i → i < tPn t → M (b + 1) i = cAt s i ∧ M (b + 2) i = cSt s i) → q + k = tPn t → 0 ≤ q → k < fuel →
    ∃ M', pX0_movePens_22 S fuel M a b (wOn t (cDy s)) (fOn t (cDy s)) q = some M' ∧ (∀ x, x ≠ b + 1 → M' x = M x) ∧ (∀ i, q ≤ i → i < tPn t → M' (b + 1) i = posS t s i) ∧ ∀ i, (i < q ∨ tPn t ≤ i) → M' (b + 1) i = M (b + 1) i := by
  have hp := ho.2.2.1
  have hwb := (wOn_b ho hd).1
  unfold Sep at hsep
  intro k
  induction k with
  | zero =>
    intro fuel M q hT hP h4 hA h1 h2 h3
    obtain ⟨f, rfl⟩ : ∃ f, fuel = f + 1 := ⟨fuel - 1, by omega⟩
    have hpn := hT.2.2.2.2.2.1
    refine ⟨M, ?_, fun a _ => rfl, fun i h6 h7 => by omega, fun i _ => rfl⟩
    simp [pX0_movePens_22, hT.1, hpn, show tPn t ≤ q by omega]
  | succ k ih =>
    intro fuel M q hT hP h4 hA h1 h2 h3
    obtain ⟨f, rfl⟩ : ∃ f, fuel = f + 1 := ⟨fuel - 1, by omega⟩
    have hpn := hT.2.2.2.2.2.1
    have hq := hO.1 q h2 (by omega)
    obtain ⟨ea, es⟩ := hA q (by omega) (by omega)
    have ew : w32 (q + 1) = q + 1 := w32_i (by omega) (by omega)
    have g1 : (0 : Int) ≤ q ∧ q < 5 := by omega
    have g2 : ¬ tPn t ≤ q := by omega
    have hst : ∃ M1, pX0_movePens_22 S (f + 1) M a b (wOn t (cDy s)) (fOn t (cDy s)) q = pX0_movePens_22 S f M1 a b (wOn t (cDy s)) (fOn t (cDy s)) (q + 1) ∧ (∀ x, x ≠ b + 1 → M1 x = M x) ∧ M1 (b + 1) q = posS t s q ∧ ∀ i, i ≠ q → M1 (b + 1) i = M (b + 1) i := by
      by_cases c1 : zand (zshr (cSy s) q) 1 = 1
      · refine ⟨M, ?_, fun _ _ => rfl, ?_, fun _ _ => rfl⟩
        · rw [pX0_movePens_22]
          simp [hT.1, hpn, g2, c_isStayed hSC, hSC, h4, c1, pX0_movePens_71, pX0_movePens, ew]
        · unfold posS; simp [g2, c1, ea]
      · by_cases c2 : fOn t (cDy s) < cSt s q
        · refine ⟨M, ?_, fun _ _ => rfl, ?_, fun _ _ => rfl⟩
          · rw [pX0_movePens_22]
            simp [hT.1, hpn, g2, c_isStayed hSC, hSC, hP, h4, c1, es, c2, g1, pX0_movePens_71, pX0_movePens, ew]
          · unfold posS; simp [g2, c1, c2, ea]
        · refine ⟨upM M (b + 1) q (posS t s q), ?_, fun x y => upM_r y, upM_s _ _ _ _, fun i x => upM_i x⟩
          have hpos : posS t s q = besC (tSd t) (cAt s q) (wOn t (cDy s)) := by
            unfold posS besC; simp only [g2, c1, c2, if_false]
          rw [pX0_movePens_22, hpos]
          simp [hT.1, hpn, g2, c_isStayed hSC, hSC, hP, h4, c1, es, c2, g1, ea, c_beside hT hs hq.1 hwb, zlet, pX0_movePens_71, pX0_movePens, ew]
    obtain ⟨M1, e1, e2, e3, e4⟩ := hst
    rw [e1]
    obtain ⟨M', a1, a2, a3, a4⟩ := ih f M1 (q + 1) (hT.eq (fun x _ _ => e2 x (by omega))) (by unfold PtC; rw [e2 b (by omega)]; exact hP) (by rw [e2 b (by omega)]; exact h4) (fun i x y => by rw [e4 i (by omega), e2 (b + 2) (by omega)]; exact hA i (by omega) y) (by omega) (by omega) (by omega)
    refine ⟨M', a1, fun x y => (a2 x y).trans (e2 x y), fun i x y => ?_, fun i x => ?_⟩
    · by_cases hi : i = q
      · subst hi
        rw [a4 i (by omega)]; exact e3
      · exact a3 i (by omega) y
    · rw [a4 i (by omega)]; exact e4 i (by omega)
theorem c_movePens {M : ZM} (ho : TdOk t) (hs : 2 ≤ tSd t ∧ tSd t ≤ 6) (hO : ScOk t s) (hd : 0 ≤ cDy s) (hsep : Sep a b d) (hSC : ShC S b) (hT : TT S M a t) (hP : PtC M b) (hC : CS M t b s) :
    ∃ M', pX0_movePens S M d a b = some M' ∧ (∀ x, x ≠ b + 1 → M' x = M x) ∧ (∀ i, 0 ≤ i → i < tPn t → M' (b + 1) i = posS t s i) := by
  have hp := ho.2.2.1
  obtain ⟨M', a1, a2, a3, _⟩ := c_movePens_22 ho hs hO hd hsep hSC (tPn t).toNat zFU M 0 hT hP hC.2.2.2.1 (fun i x y => hC.1 i x y) (by omega) (by omega) (zFU_gt (by omega))
  refine ⟨M', ?_, a2, a3⟩
  have h5 := hC.2.2.2.2.1
  simp [pX0_movePens, hSC, hT.1, h5, c_wayOn hT ho hd, c_strengthOn hT ho hd, a1]
theorem c_fade_13 (ho : TdOk t) (hsep : Sep a b d) (hSC : ShC S b) {W D : Int → Int} {dy : Int} (hW : ∀ c, 0 ≤ c → c < tSd t * tSd t → W c ≠ -1 → 0 ≤ D c ∧ D c ≤ dy) : ∀ (k fuel : Nat) (M : ZM) (c : Int), TT S M a t → PtC M b → (∀ i, c ≤ i → i < tSd t * tSd t → M (b + 3) i = W i ∧ (W i ≠ -1 → M (b + 4) i = D i)) → c + k = tSd t * tSd t → 0 ≤ c → k < fuel →
    ∃ M', pX0_fadeStrokes_13 S fuel M a b (dy - tFd t) c = some M' ∧ (∀ x, x ≠ b + 3 → M' x = M x) ∧ (∀ i, c ≤ i → i < tSd t * tSd t → M' (b + 3) i = who2 W D dy (tFd t) i) ∧ ∀ i, (i < c ∨ tSd t * tSd t ≤ i) → M' (b + 3) i = M (b + 3) i := by
  have hb := sq_b ho.1
  unfold Sep at hsep
  intro k
  induction k with
  | zero =>
    intro fuel M c hT hP hR h1 h2 h3
    obtain ⟨f, rfl⟩ : ∃ f, fuel = f + 1 := ⟨fuel - 1, by omega⟩
    refine ⟨M, ?_, fun a _ => rfl, fun i a b => by omega, fun i _ => rfl⟩
    have hc := hT.2.2.2.1
    simp [pX0_fadeStrokes_13, hT.1, hc, show tSd t * tSd t ≤ c by omega]
  | succ k ih =>
    intro fuel M c hT hP hR h1 h2 h3
    obtain ⟨f, rfl⟩ : ∃ f, fuel = f + 1 := ⟨fuel - 1, by omega⟩
    have ew : w32 (c + 1) = c + 1 := w32_i (by omega) (by omega)
    have hcc := hT.2.2.2.1
    obtain ⟨g1, g2⟩ := hR c (by omega) (by omega)
    have hc : ¬ tSd t * tSd t ≤ c := by omega
    have hc2 : c < 36 := by omega
    have hst : ∃ M1, pX0_fadeStrokes_13 S (f + 1) M a b (dy - tFd t) c = pX0_fadeStrokes_13 S f M1 a b (dy - tFd t) (c + 1) ∧ (∀ x, x ≠ b + 3 → M1 x = M x) ∧ M1 (b + 3) c = who2 W D dy (tFd t) c ∧ ∀ i, i ≠ c → M1 (b + 3) i = M (b + 3) i := by
      by_cases c2 : dy - tFd t ≤ M (b + 4) c
      · refine ⟨M, ?_, fun _ _ => rfl, ?_, fun _ _ => rfl⟩
        · rw [pX0_fadeStrokes_13]
          simp [hT.1, hcc, hc, hc2, h2, hSC, hP, c2, pX0_fadeStrokes_41, pX0_fadeStrokes, ew]
        · unfold who2
          rw [if_neg, g1]
          rintro ⟨z1, z2⟩
          rw [g2 z1] at c2
          omega
      · refine ⟨upM M (b + 3) c (-1), ?_, fun x y => upM_r y, ?_, fun i x => upM_i x⟩
        · rw [pX0_fadeStrokes_13]
          simp [hT.1, hcc, hc, hc2, h2, hSC, hP, c2, zlet, pX0_fadeStrokes_41, pX0_fadeStrokes, ew]
        · rw [upM_s]
          unfold who2
          by_cases z : W c = -1
          · simp [z]
          · rw [g2 z] at c2
            rw [if_pos ⟨z, by omega⟩]
    obtain ⟨M1, e1, e2, e3, e4⟩ := hst
    rw [e1]
    obtain ⟨M', a1, a2, a3, a4⟩ := ih f M1 (c + 1) (hT.eq (fun x _ _ => e2 x (by omega))) (by unfold PtC; rw [e2 b (by omega)]; exact hP) (fun i x y => by rw [e4 i (by omega), e2 (b + 4) (by omega)]; exact hR i (by omega) y) (by omega) (by omega) (by omega)
    refine ⟨M', a1, fun x y => (a2 x y).trans (e2 x y), fun i x y => ?_, fun i x => ?_⟩
    · by_cases hi : i = c
      · subst hi
        rw [a4 i (by omega)]; exact e3
      · exact a3 i (by omega) y
    · rw [a4 i (by omega)]; exact e4 i (by omega)
end
