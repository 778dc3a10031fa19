/-! THE CLASS: change, pence, rests -/
theorem swT_swT (t : Td) {a b : Int} (h : a < b) : swT (swT t a b) a b = t := by
  obtain ⟨t1, t2, t3, t4, t5, t6, t7⟩ := t
  show (t1, t2, t3, t4, _, _, t7) = _
  congr 4
  · refine Prod.ext ?_ (Prod.ext ?_ rfl)
    · funext i
      show (if i = b then (if a = b then t5 a else if a = a then t5 b else t5 a) else if i = a then (if b = b then t5 a else _) else (if i = b then t5 a else if i = a then t5 b else t5 i)) = t5 i
      by_cases z1 : i = b
      · subst z1; rw [if_pos rfl, if_neg (by omega), if_pos rfl]
      · rw [if_neg z1, if_neg z1]
        by_cases z2 : i = a
        · subst z2; rw [if_pos rfl, if_pos rfl]
        · rw [if_neg z2, if_neg z2]
    · funext i
      show (if i = b then (if a = b then t6 a else if a = a then t6 b else t6 a) else if i = a then (if b = b then t6 a else _) else (if i = b then t6 a else if i = a then t6 b else t6 i)) = t6 i
      by_cases z1 : i = b
      · subst z1; rw [if_pos rfl, if_neg (by omega), if_pos rfl]
      · rw [if_neg z1, if_neg z1]
        by_cases z2 : i = a
        · subst z2; rw [if_pos rfl, if_pos rfl]
        · rw [if_neg z2, if_neg z2]
section
variable {S : ZS} {M : ZM} {t : Td} {s : Sc} {e : Int} {r : Ru}
theorem c_exch {p a b : Int} (ho : TdOk t) (hT : TT S M p t) (ha : 0 ≤ a) (hab : a < b) (hb : b < tWn t) : ∃ M', pX9_exchangeWinds S M p a b = some M' ∧ TT S M' p (swT t a b) ∧ ∀ x, x ≠ p + 3 → x ≠ p + 4 → M' x = M x := by
  have hw := ho.2.2.2.1
  have g1 : 0 ≤ a ∧ a < 12 := by omega
  have g2 : 0 ≤ b ∧ b < 12 := by omega
  obtain ⟨hS, hP, c0, c1, c2, c3, c4, c5, c6⟩ := hT
  generalize hM' : upM (upM (upM (upM M (p + 3) a (M (p + 3) b)) (p + 3) b (M (p + 3) a)) (p + 4) a (M (p + 4) b)) (p + 4) b (M (p + 4) a) = M'
  have q1 : ∀ x, x ≠ p + 3 → x ≠ p + 4 → M' x = M x := fun x y z => by rw [← hM', upM_r z, upM_r z, upM_r y, upM_r y]
  have q2 : ∀ i, M' (p + 3) i = if i = b then M (p + 3) a else if i = a then M (p + 3) b else M (p + 3) i := fun i => by
    rw [← hM', upM_r (by omega), upM_r (by omega)]
    by_cases z : i = b
    · subst z; rw [upM_s, if_pos rfl]
    · rw [upM_i z, if_neg z]
      by_cases z2 : i = a
      · subst z2; rw [upM_s, if_pos rfl]
      · rw [upM_i z2, if_neg z2]
  have q3 : ∀ i, M' (p + 4) i = if i = b then M (p + 4) a else if i = a then M (p + 4) b else M (p + 4) i := fun i => by
    rw [← hM']
    by_cases z : i = b
    · subst z; rw [upM_s, if_pos rfl]
    · rw [upM_i z, if_neg z]
      by_cases z2 : i = a
      · subst z2; rw [upM_s, if_pos rfl]
      · rw [upM_i z2, if_neg z2, upM_r (by omega), upM_r (by omega)]
  refine ⟨M', ?_, ⟨hS, ?_, ?_⟩, q1⟩
  · have n1 : ∀ {i v : Int} {M : ZM}, upM M (p + 3) i v p = M p := fun {i v M} => upM_r (by omega)
    have n2 : ∀ {i v : Int} {M : ZM}, upM M (p + 4) i v p = M p := fun {i v M} => upM_r (by omega)
    have n3 : ∀ {i v : Int} {M : ZM}, upM M (p + 3) i v (p + 4) = M (p + 4) := fun {i v M} => upM_r (by omega)
    simp [pX9_exchangeWinds, pX9_exchangeWinds_26, pX9_exchangeWinds_54, hS, hP, g1, g2, zlet, n1, n2, n3, hM']
  · unfold PtT; rw [q1 p (by omega) (by omega)]; exact hP
  · refine ⟨by rw [q1 p (by omega) (by omega)]; exact c0, by rw [q1 p (by omega) (by omega)]; exact c1, by rw [q1 p (by omega) (by omega)]; exact c2, by rw [q1 p (by omega) (by omega)]; exact c3, by rw [q1 p (by omega) (by omega)]; exact c4, fun i x y => ?_, fun c x y => by rw [q1 _ (by omega) (by omega)]; exact c6 c x y⟩
    have y' : i < tWn t := y
    rw [q2, q3, (c5 a ha (by omega)).1, (c5 a ha (by omega)).2, (c5 b (by omega) hb).1, (c5 b (by omega) hb).2, (c5 i x y').1, (c5 i x y').2]
    exact ⟨rfl, rfl⟩
theorem c_change_54 (hs : 2 ≤ tSd t ∧ tSd t ≤ 6) {n what a : Int} (hn : 1 ≤ n ∧ n ≤ 60) {k36 : ZM → Int → Int → Int → Int → Int → Int → Int → Int → Int → Option (Int × ZM)} (ha : 0 ≤ a) : ∀ (k fuel : Nat) (M : ZM) (b m x y : Int), CQ S M t s e r → TT S M 147 t → b + k = tWn t → a < b → k < fuel →
    ∃ M', pX1_bestChange_54 S k36 fuel M 137 16 e n what m x y a b = k36 M' 137 16 e n what (chI t r s n.toNat a k b m x y).1 (chI t r s n.toNat a k b m x y).2.1 (chI t r s n.toNat a k b m x y).2.2 (a + 1) ∧ CQ S M' t s e r ∧ TT S M' 147 t ∧ FQ M M' := by
  intro k
  induction k with
  | zero =>
    intro fuel M b m x y h hT h1 h2 h3
    obtain ⟨f, rfl⟩ : ∃ f, fuel = f + 1 := ⟨fuel - 1, by omega⟩
    have hw := h.ok.2.2.2.1
    have hwn := hT.2.2.2.2.2.2.1
    refine ⟨M, ?_, h, hT, FQ.refl M⟩
    simp [pX1_bestChange_54, h.1.1.o, h.1.2.o, hwn, show tWn t ≤ b by omega, chI, w32_i (x := a + 1) (by omega) (by omega)]
  | succ k ih =>
    intro fuel M b m x y h hT h1 h2 h3
    obtain ⟨f, rfl⟩ : ∃ f, fuel = f + 1 := ⟨fuel - 1, by omega⟩
    have ho := h.ok
    have hw := ho.2.2.2.1
    have hwn := hT.2.2.2.2.2.2.1
    have hlt : ¬ tWn t ≤ b := by omega
    have wb1 : w32 (b + 1) = b + 1 := w32_i (by omega) (by omega)
    obtain ⟨M1, a1, a2, a3⟩ := c_exch ho hT ha h2 (show b < tWn t by omega)
    have f1 : FQ M M1 := fun x y => a3 x (by omega) (by omega)
    have k1 : CQ S M1 t s e r := h.fq (h.1.q (fun x j k => by unfold pkN at k; rw [a3 x (by omega) (by omega)])) f1
    obtain ⟨M2, b1, b2, b3, b4, b5⟩ := k1.trial2
    have hT2 : TT S M2 147 (swT t a b) := a2.eq (fun x _ _ => b5 x (by omega))
    have hCD : CD S M2 147 142 138 (swT t a b) s := ⟨sep_4, hT2, ⟨(shC_of h.1.1).2.1, (ptC_of b2.1.2).2.1⟩, ⟨(shD_of h.1.1).2.1, (ptD_of b2.1.2).2.1⟩, b3⟩
    have ho2 : TdOk (swT t a b) := swT_ok ho (by omega) (by omega)
    obtain ⟨M3, d1, d2, d3, d4⟩ := c_pass ho2 hs (m := 0) (n := n) (by omega) ((ScGo.sw h.go a b).le (by omega)) b2.2.2.2.1.2.1 hCD
    have f3 := FQ.fr d3 (Or.inl ⟨rfl, rfl⟩)
    have k3 : CQ S M3 t s e r := b2.fq (b2.1.fr d3 (Or.inl ⟨rfl, rfl⟩)) f3
    obtain ⟨M4, g1, g2, g3⟩ := c_exch ho2 d2.2.1 ha h2 (show b < tWn (swT t a b) by show b < tWn t; omega)
    rw [swT_swT t h2] at g2
    have f4 : FQ M3 M4 := fun x y => g3 x (by omega) (by omega)
    have k4 : CQ S M4 t s e r := k3.fq (k3.1.q (fun x j k => by unfold pkN at k; rw [g3 x (by omega) (by omega)])) f4
    have hC4 : CS M4 t 142 (daysS (swT t a b) r n.toNat s) := CS.eq (M := M3) d2.2.2.2.2 (fun x _ _ => g3 x (by omega) (by omega))
    have lk : pX6_like S M4 142 147 = some (likeS (swT t a b) (daysS (swT t a b) r n.toNat s), M4) := c_like (t := t) (s := daysS (swT t a b) r n.toNat s) ho g2 (shC_of h.1.1).2.1 (ptC_of k4.1.2).2.1 hC4
    have e54 : pX1_bestChange_54 S k36 (f + 1) M 137 16 e n what m x y a b = (if likeS (swT t a b) (daysS (swT t a b) r n.toNat s) ≤ m then pX1_bestChange_54 S k36 f M4 137 16 e n what m x y a (b + 1) else pX1_bestChange_54 S k36 f M4 137 16 e n what (likeS (swT t a b) (daysS (swT t a b) r n.toNat s)) a b a (b + 1)) := by
      rw [pX1_bestChange_54]
      by_cases z : likeS (swT t a b) (daysS (swT t a b) r n.toNat s) ≤ m
      · simp [h.1.1.o, h.1.2.o, hwn, hlt, a1, k1.1.2.o, b1, b2.1.2.o, d1, pX1_bestChange_105, k3.1.2.o, g1, k4.1.2.o, lk, wb1, z]
      · simp [h.1.1.o, h.1.2.o, hwn, hlt, a1, k1.1.2.o, b1, b2.1.2.o, d1, pX1_bestChange_105, k3.1.2.o, g1, k4.1.2.o, lk, wb1, z]
    have f5 : FQ M M4 := ((f1.trans b4).trans f3).trans f4
    rw [e54, chI]
    by_cases z : likeS (swT t a b) (daysS (swT t a b) r n.toNat s) ≤ m
    · simp only [if_pos z]
      obtain ⟨M', i1, i2, i3, i4⟩ := ih f M4 (b + 1) m x y k4 g2 (by omega) (by omega) (by omega)
      exact ⟨M', i1, i2, i3, f5.trans i4⟩
    · simp only [if_neg z]
      obtain ⟨M', i1, i2, i3, i4⟩ := ih f M4 (b + 1) (likeS (swT t a b) (daysS (swT t a b) r n.toNat s)) a b k4 g2 (by omega) (by omega) (by omega)
      exact ⟨M', i1, i2, i3, f5.trans i4⟩
theorem c_change_36 (hs : 2 ≤ tSd t ∧ tSd t ≤ 6) {n what : Int} (hn : 1 ≤ n ∧ n ≤ 60) : ∀ (k fuel : Nat) (M : ZM) (a m x y : Int), CQ S M t s e r → TT S M 147 t → a + k = tWn t → 0 ≤ a → k < fuel →
    ∃ M', pX1_bestChange_36 S fuel M 137 16 e n what m x y a = some (if what = 0 then (chO t r s n.toNat k a m x y).1 else if what = 1 then (chO t r s n.toNat k a m x y).2.1 else (chO t r s n.toNat k a m x y).2.2, M') ∧ NW S M' ∧ FQ M M' := by
  intro k
  induction k with
  | zero =>
    intro fuel M a m x y h hT h1 h2 h3
    obtain ⟨f, rfl⟩ : ∃ f, fuel = f + 1 := ⟨fuel - 1, by omega⟩
    have hwn := hT.2.2.2.2.2.2.1
    refine ⟨M, ?_, h.1, FQ.refl M⟩
    simp [pX1_bestChange_36, h.1.1.o, h.1.2.o, hwn, show tWn t ≤ a by omega, chO]
  | succ k ih =>
    intro fuel M a m x y h hT h1 h2 h3
    obtain ⟨f, rfl⟩ : ∃ f, fuel = f + 1 := ⟨fuel - 1, by omega⟩
    have hw := h.ok.2.2.2.1
    have hwn := hT.2.2.2.2.2.2.1
    obtain ⟨M1, a1, a2, a3, a4⟩ := c_change_54 hs (n := n) (what := what) (a := a) (k36 := pX1_bestChange_36 S f) hn h2 k zFU M (a + 1) m x y h hT (by omega) (by omega) (zFU_gt (by omega))
    have e36 : pX1_bestChange_36 S (f + 1) M 137 16 e n what m x y a = pX1_bestChange_54 S (pX1_bestChange_36 S f) zFU M 137 16 e n what m x y a (a + 1) := by
      rw [pX1_bestChange_36]
      simp [h.1.1.o, h.1.2.o, hwn, show ¬ tWn t ≤ a by omega, w32_i (x := a + 1) (by omega) (by omega)]
    rw [e36, a1]
    obtain ⟨M', b1, b2, b3⟩ := ih f M1 (a + 1) (chI t r s n.toNat a k (a + 1) m x y).1 (chI t r s n.toNat a k (a + 1) m x y).2.1 (chI t r s n.toNat a k (a + 1) m x y).2.2 a2 a3 (by omega) (by omega) (by omega)
    exact ⟨M', b1, b2, a4.trans b3⟩
theorem c_toldCopy (h : CQ S M t s e r) : ∃ M', pX9_copyFrom S M 147 17 = some M' ∧ CQ S M' t s e r ∧ TT S M' 147 t ∧ FQ M M' ∧ ∀ x, (x < 147 ∨ 152 < x) → M' x = M x := by
  obtain ⟨M', a1, a2, a3, a4, a5, a6, a7⟩ := c_copyTold (S := S) (M := M) (a := 17) (b := 147) (shT_of h.1.1).2.1 (shT_of h.1.1).2.2.1 (ptT_of h.1.2).2.1 (ptT_of h.1.2).2.2.1 (by omega)
  have f : FQ M M' := fun x y => a2 x (by omega)
  have hw := h.ok.2.2.2.1
  have hn : NW S M' := h.1.q (fun x j k => by
    unfold pkN at k
    by_cases z : x = 147
    · subst z; exact a3 j (by omega)
    · rw [a2 x (by omega)])
  refine ⟨M', a1, h.fq hn f, ⟨(shT_of h.1.1).2.2.1, (ptT_of hn.2).2.2.1, ?_⟩, f, fun x y => a2 x (by omega)⟩
  obtain ⟨c0, c1, c2, c3, c4, c5, c6⟩ := h.2.1
  refine ⟨by rw [a4 0 (by omega) (by omega)]; exact c0, by rw [a4 1 (by omega) (by omega)]; exact c1, by rw [a4 2 (by omega) (by omega)]; exact c2, by rw [a4 3 (by omega) (by omega)]; exact c3, by rw [a4 4 (by omega) (by omega)]; exact c4, fun i x y => ?_, fun c x y => ?_⟩
  · rw [(a6 i x (by omega)).1, (a6 i x (by omega)).2]; exact c5 i x y
  · rw [a7 c x y]; exact c6 c x y
theorem c_change (h : CQ S M t s e r) {n what : Int} : ∃ M', pX11_change S M 1 n what = some (changeA t r s n what, M') ∧ NW S M' ∧ FQ M M' := by
  have ho := h.ok
  unfold changeA
  by_cases g1 : tSd t ≤ 0
  · refine ⟨M, ?_, h.1, FQ.refl M⟩
    simp [pX11_change, pX11_change_32, h.1.1.o, h.1.2.o, c_isThere h.tt, g1, show ¬ 0 < tSd t by omega]
  by_cases g2 : 1 ≤ n ∧ n ≤ 60
  · by_cases g3 : 0 ≤ what ∧ what ≤ 2
    · have hs : 2 ≤ tSd t ∧ tSd t ≤ 6 := by have := ho.1; omega
      have hw := ho.2.2.2.1
      obtain ⟨M1, a1, a2, a3, a4⟩ := c_after h hs (n := n) (by omega)
      have lk := c_like ho a2.tt (shC_of h.1.1).2.1 (ptC_of a2.1.2).2.1 a3
      obtain ⟨M2, b1, b2, b3, b4, b5⟩ := c_toldCopy a2
      obtain ⟨M', d1, d2, d3⟩ := c_change_36 hs (n := n) (what := what) g2 (tWn t).toNat zFU M2 0 (likeS t (daysS t r n.toNat s)) (-1) (-1) b2 b3 (by omega) (by omega) (zFU_gt (by omega))
      refine ⟨M', ?_, d2, (a4.trans b4).trans d3⟩
      rw [if_pos ⟨by omega, g2, g3⟩]
      simp [pX11_change, h.1.1.o, h.1.2.o, c_isThere h.tt, g1, c_within, g2, g3, c_ruleInForce h, pX1_bestChange, pX1_bestChange_33, a1, a2.1.2.o, lk, b1, d1]
    · refine ⟨M, ?_, h.1, FQ.refl M⟩
      rw [if_neg (fun z => g3 z.2.2)]
      simp [pX11_change, pX11_change_32, h.1.1.o, h.1.2.o, c_isThere h.tt, g1, c_within, g2, g3]
  · refine ⟨M, ?_, h.1, FQ.refl M⟩
    rw [if_neg (fun z => g2 z.2.1)]
    simp [pX11_change, pX11_change_32, h.1.1.o, h.1.2.o, c_isThere h.tt, g1, c_within, g2]
theorem c_pence_35 (h : CQ S M t s e r) {much all q : Int} (hq : 0 ≤ q) (hm : 0 ≤ much ∧ much ≤ 9999) (ha : 0 < all ∧ all ≤ 36) : ∀ (k fuel : Nat) (i l b : Int), i + k = tPn t → 0 ≤ i → -10000000 ≤ l - 1000000 * k ∧ l ≤ 10000 → 0 ≤ b ∧ b ≤ i → k < fuel → pX10_penceOf_35 S fuel M 16 much q all (much * inkS t s q) l b i = some (penF t s much all q k i l b, M) := by
  have ho := h.ok
  have hp := ho.2.2.1
  have hpn := h.tt.2.2.2.2.2.1
  have hSC := (shC_of h.1.1).1
  have hPC := (ptC_of h.1.2).1
  have hane : ¬ all = 0 := by omega
  intro k
  induction k with
  | zero =>
    intro fuel i l b h1 h2 h3 h4 h5
    obtain ⟨f, rfl⟩ : ∃ f, fuel = f + 1 := ⟨fuel - 1, by omega⟩
    have m1 := mul_ib hm (ink_b (s := s) ho q)
    have m2 := tdm_b (b := all) m1 ha.1
    have w2 : w32 (Int.tdiv (much * inkS t s q) all) = Int.tdiv (much * inkS t s q) all := w32_i (by omega) (by omega)
    have w3 : w32 (Int.tdiv (much * inkS t s q) all + (if l ≤ b then 0 else 1)) = Int.tdiv (much * inkS t s q) all + (if l ≤ b then 0 else 1) := by
      apply w32_i <;> split <;> omega
    simp [pX10_penceOf_35, h.1.1.o, h.1.2.o, hpn, show tPn t ≤ i by omega, hane, w2, w3, penF]
  | succ k ih =>
    intro fuel i l b h1 h2 h3 h4 h5
    obtain ⟨f, rfl⟩ : ∃ f, fuel = f + 1 := ⟨fuel - 1, by omega⟩
    have m1 := mul_ib hm (ink_b (s := s) ho i)
    have m2 := tdm_b (b := all) m1 ha.1
    have n1 := mul_ib hm (ink_b (s := s) ho q)
    have n2 := tdm_b (b := all) n1 ha.1
    have w1 : w32 (much * inkS t s i) = much * inkS t s i := w32_i (by omega) (by omega)
    have w2 : w32 (Int.tdiv (much * inkS t s i) all) = Int.tdiv (much * inkS t s i) all := w32_i (by omega) (by omega)
    have w3 : w32 (l - Int.tdiv (much * inkS t s i) all) = l - Int.tdiv (much * inkS t s i) all := w32_i (by omega) (by omega)
    have w5 : w32 (Int.tmod (much * inkS t s i) all - Int.tmod (much * inkS t s q) all) = Int.tmod (much * inkS t s i) all - Int.tmod (much * inkS t s q) all := w32_i (by omega) (by omega)
    have w6 : w32 (i + 1) = i + 1 := w32_i (by omega) (by omega)
    have w7 : w32 (b + 1) = b + 1 := w32_i (by omega) (by omega)
    have es := c_strokesOf ho hSC hPC h.2.2.1 (q := i) h2
    have hlt : ¬ tPn t ≤ i := by omega
    generalize hd : Int.tmod (much * inkS t s i) all - Int.tmod (much * inkS t s q) all = dd at w5
    have e35 : pX10_penceOf_35 S (f + 1) M 16 much q all (much * inkS t s q) l b i = pX10_penceOf_35 S f M 16 much q all (much * inkS t s q) (l - Int.tdiv (much * inkS t s i) all) (if 0 < dd then b + 1 else if dd = 0 then (if q ≤ i then b else b + 1) else b) (i + 1) := by
      rw [pX10_penceOf_35]
      simp [h.1.1.o, h.1.2.o, hpn, hlt, es, hane, w1, w2, w3, w5, w6, w7, zlet, hd]
    rw [e35, penF, hd]
    have eb : (if 0 < dd then b + 1 else if dd = 0 then (if q ≤ i then b else b + 1) else b) = b + (if 0 < dd then 1 else if dd = 0 then (if q ≤ i then 0 else 1) else 0) := by
      split <;> (try split) <;> (try split) <;> omega
    rw [eb]
    have hxb : 0 ≤ (if 0 < dd then (1 : Int) else if dd = 0 then (if q ≤ i then 0 else 1) else 0) ∧ (if 0 < dd then (1 : Int) else if dd = 0 then (if q ≤ i then 0 else 1) else 0) ≤ 1 := by
      split <;> (try split) <;> (try split) <;> omega
    exact ih f (i + 1) _ _ (by omega) (by omega) (by omega) (by omega) (by omega)
theorem c_pence (h : CQ S M t s e r) {much q : Int} : pX11_pence S M 1 much q = some (penceA t s much q, M) := by
  have ho := h.ok
  have hp := ho.2.2.1
  have hSC := (shC_of h.1.1).1
  have hPC := (ptC_of h.1.2).1
  unfold penceA
  by_cases g1 : 0 ≤ q ∧ q < tPn t
  · by_cases g2 : 0 ≤ much ∧ much ≤ 9999
    · rw [if_pos ⟨g1, g2⟩]
      have ea := c_strokes ho hSC hPC h.2.2.1
      have eq := c_strokesOf ho hSC hPC h.2.2.1 (q := q) g1.1
      have ib := cnt_b (fun c => cWh s c = -1) (nCl t) 0
      have ic := nCl_b ho
      have hab : 0 ≤ allS t s ∧ allS t s ≤ 36 := by unfold allS; unfold inkS; omega
      have m1 := mul_ib g2 (ink_b (s := s) ho q)
      have w1 : w32 (much * inkS t s q) = much * inkS t s q := w32_i (by omega) (by omega)
      by_cases g3 : allS t s = 0
      · simp [pX11_pence, h.1.1.o, h.1.2.o, c_hasPen h.tt, g1, c_within, g2, pX10_penceOf, ea, g3]
      · rw [if_neg g3]
        have e35 := c_pence_35 h (q := q) g1.1 g2 (all := allS t s) (by omega) (tPn t).toNat zFU 0 much 0 (by omega) (by omega) (by omega) (by omega) (zFU_gt (by omega))
        simp [pX11_pence, h.1.1.o, h.1.2.o, c_hasPen h.tt, g1, c_within, g2, pX10_penceOf, ea, g3, eq, w1, e35]
    · rw [if_neg (fun z => g2 z.2)]
      simp [pX11_pence, pX11_pence_25, h.1.1.o, h.1.2.o, c_hasPen h.tt, g1, c_within, g2]
  · rw [if_neg (fun z => g1 z.1)]
    simp [pX11_pence, pX11_pence_25, h.1.1.o, h.1.2.o, c_hasPen h.tt, g1]
end
