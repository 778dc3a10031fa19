/-! WHAT IS ASKED: wrote, came, change; the reference -/
def othS (y p q : Int) : Int := zor y (zand (w32 (zshl 1 p - 1)) (zxor (zshl 1 q) (-1)))
theorem oth_d : ∀ (y : Fin 32) (n : Fin 6) (q : Fin 5), 0 ≤ othS (y.1 : Int) (n.1 : Int) (q.1 : Int) ∧ othS (y.1 : Int) (n.1 : Int) (q.1 : Int) < 32 := by decide +kernel
theorem oth_b {y p q : Int} (hy : 0 ≤ y ∧ y < 32) (hp : 0 ≤ p ∧ p ≤ 5) (hq : 0 ≤ q ∧ q < 5) : 0 ≤ othS y p q ∧ othS y p q < 32 := by
  have := oth_d ⟨y.toNat, by omega⟩ ⟨p.toNat, by omega⟩ ⟨q.toNat, by omega⟩
  simp only [Int.toNat_of_nonneg hy.1, Int.toNat_of_nonneg hp.1, Int.toNat_of_nonneg hq.1] at this
  exact this
def leavesF (t : Td) (r : Ru) (q c d0 : Int) : Nat → Sc → Int
  | 0, _ => 0
  | k + 1, s => if cWh (dayS t r s) c = q ∧ d0 ≤ cSi (dayS t r s) c then 1 else leavesF t r q c d0 k (dayS t r s)
def wroteF (t : Td) (r : Ru) (s : Sc) (c : Int) (n : Nat) : Nat → Int → Int → Int
  | 0, _, x => x
  | k + 1, q, x => wroteF t r s c n k (q + 1) (zor x (if leavesF t r q c (cDy s) n (scSy s (othS (cSy s) (tPn t) q)) = 0 then 0 else zshl 1 q))
def wroteA (t : Td) (r : Ru) (s : Sc) (c n : Int) : Int := if (0 ≤ c ∧ c < tSd t * tSd t) ∧ 1 ≤ n ∧ n ≤ 60 then wroteF t r s c n.toNat (tPn t).toNat 0 0 else -1
def scAt (s : Sc) (q v : Int) : Sc := (fun i => if i = q then v else cAt s i, cSt s, cWh s, cSi s, cSy s, cDy s, cCl s)
def cameF (t : Td) (r : Ru) (s : Sc) (q c : Int) (n : Nat) : Nat → Int → Int → Int → Int × Int
  | 0, _, m, f => (m, f)
  | k + 1, i, m, f => if cAt (daysS t r n (scAt s q i)) q = c then cameF t r s q c n k (i + 1) (m + 1) (if m = 0 then i else f) else cameF t r s q c n k (i + 1) m f
def cameA (t : Td) (r : Ru) (s : Sc) (q c n what : Int) : Int :=
  if (0 ≤ q ∧ q < tPn t) ∧ (0 ≤ c ∧ c < tSd t * tSd t) ∧ (1 ≤ n ∧ n ≤ 60) ∧ 0 ≤ what ∧ what ≤ 1 then
    (if what = 0 then (cameF t r s q c n.toNat (nCl t) 0 0 (-2)).1 else (cameF t r s q c n.toNat (nCl t) 0 0 (-2)).2) else -1
def swT (t : Td) (a b : Int) : Td := (tSd t, tFd t, tPn t, tWn t, fun i => if i = b then tWy t a else if i = a then tWy t b else tWy t i, fun i => if i = b then tSg t a else if i = a then tSg t b else tSg t i, tMk t)
def chI (t : Td) (r : Ru) (s : Sc) (n : Nat) (a : Int) : Nat → Int → Int → Int → Int → Int × Int × Int
  | 0, _, m, x, y => (m, x, y)
  | k + 1, b, m, x, y => if likeS (swT t a b) (daysS (swT t a b) r n s) ≤ m then chI t r s n a k (b + 1) m x y else chI t r s n a k (b + 1) (likeS (swT t a b) (daysS (swT t a b) r n s)) a b
def chO (t : Td) (r : Ru) (s : Sc) (n : Nat) : Nat → Int → Int → Int → Int → Int × Int × Int
  | 0, _, m, x, y => (m, x, y)
  | k + 1, a, m, x, y => chO t r s n k (a + 1) (chI t r s n a k (a + 1) m x y).1 (chI t r s n a k (a + 1) m x y).2.1 (chI t r s n a k (a + 1) m x y).2.2
def changeA (t : Td) (r : Ru) (s : Sc) (n what : Int) : Int :=
  if 0 < tSd t ∧ (1 ≤ n ∧ n ≤ 60) ∧ 0 ≤ what ∧ what ≤ 2 then
    (if what = 0 then (chO t r s n.toNat (tWn t).toNat 0 (likeS t (daysS t r n.toNat s)) (-1) (-1)).1 else if what = 1 then (chO t r s n.toNat (tWn t).toNat 0 (likeS t (daysS t r n.toNat s)) (-1) (-1)).2.1 else (chO t r s n.toNat (tWn t).toNat 0 (likeS t (daysS t r n.toNat s)) (-1) (-1)).2.2) else -2
theorem swT_ok {t : Td} (h : TdOk t) {a b : Int} (ha : 0 ≤ a ∧ a < tWn t) (hb : 0 ≤ b ∧ b < tWn t) : TdOk (swT t a b) := by
  obtain ⟨h1, h2, h3, h4, h5, h6⟩ := h
  refine ⟨h1, h2, h3, h4, fun i x y => ?_, h6⟩
  have e1 := h5 a ha.1 ha.2
  have e2 := h5 b hb.1 hb.2
  have e3 := h5 i x y
  show (0 ≤ (if i = b then tWy t a else if i = a then tWy t b else tWy t i) ∧ (if i = b then tWy t a else if i = a then tWy t b else tWy t i) ≤ 3) ∧ (0 ≤ (if i = b then tSg t a else if i = a then tSg t b else tSg t i) ∧ (if i = b then tSg t a else if i = a then tSg t b else tSg t i) ≤ 9)
  split
  · exact e1
  · split
    · exact e2
    · exact e3
theorem ScGo.sw {t : Td} {s : Sc} {n : Nat} (h : ScGo t s n) (a b : Int) : ScGo (swT t a b) s n := h
theorem ScGo.at {t : Td} {s : Sc} {n : Nat} (h : ScGo t s n) {q v : Int} (hv : 0 ≤ v ∧ v < tSd t * tSd t) : ScGo t (scAt s q v) n := by
  obtain ⟨⟨h1, h2, h3⟩, h4, h5⟩ := h
  refine ⟨⟨fun i x y => ?_, h2, h3⟩, h4, h5⟩
  have := h1 i x y
  refine ⟨?_, this.2⟩
  show 0 ≤ (if i = q then v else cAt s i) ∧ (if i = q then v else cAt s i) < tSd t * tSd t
  split
  · exact hv
  · exact this.1
section
variable {S : ZS} {R M : ZM} {t : Td} {s : Sc} {r : Ru}
theorem RS.pa {M : ZM} {t : Td} {s : Sc} (h : RS M t s) {q : Int} (v : Int) : RS (upM M 178 q v) t (scAt s q v) := by
  obtain ⟨h1, h2, h3⟩ := h
  refine ⟨h1.eq (upM_r (by decide)), h2.eq (fun j x y => by rw [upM_r (by decide)]) (upM_r (by decide)) (upM_r (by decide)) (upM_r (by decide)), ?_⟩
  obtain ⟨a1, a2, a3⟩ := h3
  unfold RSc
  rw [upM_r (show (179 : Int) ≠ 178 by decide), upM_r (show (180 : Int) ≠ 178 by decide), upM_r (show (181 : Int) ≠ 178 by decide), upM_r (show (177 : Int) ≠ 178 by decide)]
  refine ⟨fun i x y => ⟨?_, (a1 i x y).2⟩, a2, a3⟩
  show _ = if i = q then v else cAt s i
  by_cases z : i = q
  · subst z; rw [upM_s, if_pos rfl]
  · rw [upM_i z, if_neg z]; exact (a1 i x y).1
theorem r_leaves_39 (hS : ShR S) (hp : PtR R) (hs : 2 ≤ tSd t ∧ tSd t ≤ 6) (ho : TdOk t) {q c d0 n : Int} (hc : 0 ≤ c ∧ c < 36) : ∀ (k fuel : Nat) (M : ZM) (s : Sc) (i : Int), RK R M → RRu S M r → RS M t s → ScGo t s (k + 1) → i + k = n → 0 ≤ i → n ≤ 1000 → k + 1 < fuel → ∃ M', pX12_leaves_39 S fuel M 176 q c n d0 0 i = some (leavesF t r q c d0 k s, M') ∧ RK R M' ∧ RAt R M' := by
  intro k
  induction k with
  | zero =>
    intro fuel M s i hK hr h hO h1 h2 h3 h4
    obtain ⟨f, rfl⟩ : ∃ f, fuel = f + 1 := ⟨fuel - 1, by omega⟩
    obtain ⟨M', a1, a2, a3⟩ := r_laysBack hS hp hK
    refine ⟨M', ?_, a2, a3⟩
    simp [pX12_leaves_39, pX12_leaves_89, show n ≤ i by omega, hS, a1, leavesF]
  | succ k ih =>
    intro fuel M s i hK hr h hO h1 h2 h3 h4
    obtain ⟨f, rfl⟩ : ∃ f, fuel = f + 1 := ⟨fuel - 1, by omega⟩
    have ew : w32 (i + 1) = i + 1 := w32_i (by omega) (by omega)
    obtain ⟨M1, a1, a2, a3, a4⟩ := r_goes hS hs ho hO hr h
    have hM := a2.1
    have e1 := (a2.2.2.2.1 c hc.1 hc.2).1
    have e2 := (a2.2.2.2.1 c hc.1 hc.2).2
    have hni : ¬ n ≤ i := by omega
    by_cases c1 : cWh (dayS t r s) c = q ∧ d0 ≤ cSi (dayS t r s) c
    · obtain ⟨M', b1, b2, b3⟩ := r_laysBack hS hp (hK.fr a3)
      refine ⟨M', ?_, b2, b3⟩
      obtain ⟨f2, rfl⟩ : ∃ f2, f = f2 + 1 := ⟨f - 1, by omega⟩
      have c2 : ¬ cSi (dayS t r s) c < d0 := by omega
      have e3 : pX12_leaves_39 S (f2 + 1 + 1) M 176 q c n d0 0 i = pX12_leaves_39 S (f2 + 1) M1 176 q c n d0 1 (i + 1) := by
        rw [pX12_leaves_39]
        simp [hni, hS, a1, hM, hc, e1, e2, c1.1, c2, pX12_leaves_81, ew]
      rw [e3, pX12_leaves_39]
      simp [pX12_leaves_89, hS, b1, leavesF, c1]
    · obtain ⟨M', b1, b2⟩ := ih f M1 (dayS t r s) (i + 1) (hK.fr a3) (hr.fr a3) a2 a4 (by omega) (by omega) h3 (by omega)
      refine ⟨M', ?_, b2⟩
      rw [leavesF, if_neg c1, ← b1, pX12_leaves_39]
      by_cases c2 : cWh (dayS t r s) c = q
      · have c3 : cSi (dayS t r s) c < d0 := by omega
        simp [hni, hS, a1, hM, hc, e1, e2, c2, c3, pX12_leaves_80, pX12_leaves_81, ew]
      · simp [hni, hS, a1, hM, hc, e1, e2, c2, pX12_leaves_80, pX12_leaves_81, ew]
theorem r_wrote_31 (hS : ShR S) (hR : RS R t s) (hr : RRu S R r) (hs : 2 ≤ tSd t ∧ tSd t ≤ 6) (ho : TdOk t) (hG : ScGo t s 200) {c n : Int} (hc : 0 ≤ c ∧ c < 36) (hn : 1 ≤ n ∧ n ≤ 60) : ∀ (k fuel : Nat) (M : ZM) (q x : Int), RK R M → RAt R M → q + k = tPn t → 0 ≤ q → k < fuel → ∃ M', pX12_wrote_31 S fuel M 176 c n x q = some (wroteF t r s c n.toNat k q x, M') ∧ RAt R M' := by
  have hp := ho.2.2.1
  intro k
  induction k with
  | zero =>
    intro fuel M q x hK hA h1 h2 h3
    obtain ⟨f, rfl⟩ : ∃ f, fuel = f + 1 := ⟨fuel - 1, by omega⟩
    have hM := hA.rs hR
    have e2 := hM.2.1.2.2.1
    refine ⟨M, ?_, hA⟩
    simp [pX12_wrote_31, hS, hM.1, e2, show tPn t ≤ q by omega, wroteF]
  | succ k ih =>
    intro fuel M q x hK hA h1 h2 h3
    obtain ⟨f, rfl⟩ : ∃ f, fuel = f + 1 := ⟨fuel - 1, by omega⟩
    have hM := hA.rs hR
    have e2 := hM.2.1.2.2.1
    have e4 := hM.2.2.2.2.2.1
    have e5 := hM.2.2.2.2.1
    have ew : w32 (q + 1) = q + 1 := w32_i (by omega) (by omega)
    have hlt : ¬ tPn t ≤ q := by omega
    have hob := oth_b hG.1.2.2 hp (q := q) (by omega)
    obtain ⟨M1, a1, a2, a3⟩ := r_leaves_39 hS hR.1 hs ho (r := r) (q := q) (c := c) (d0 := cDy s) (n := n) hc n.toNat zFU (upM M 177 5 (othS (cSy s) (tPn t) q)) (scSy s (othS (cSy s) (tPn t) q)) 0 (hK.eq (fun a y => upM_r (by omega))) ((hA.ru hr).eq (fun a _ _ => upM_r (by omega)) (upM_i (by decide))) (hM.sy _) ((hG.sy hob).le (by omega)) (by omega) (by omega) (by omega) (zFU_gt (by omega))
    have e3 : pX12_leaves S M 176 q c n = some (leavesF t r q c (cDy s) n.toNat (scSy s (othS (cSy s) (tPn t) q)), M1) := by
      rw [← a1]
      simp [pX12_leaves, hS, hM.1, e2, e4, e5, zlet, othS]
    obtain ⟨M', b1, b2⟩ := ih f M1 (q + 1) (zor x (if leavesF t r q c (cDy s) n.toNat (scSy s (othS (cSy s) (tPn t) q)) = 0 then 0 else zshl 1 q)) a2 a3 (by omega) (by omega) (by omega)
    refine ⟨M', ?_, b2⟩
    rw [wroteF, ← b1, pX12_wrote_31]
    simp [hS, hM.1, e2, hlt, e3, zlet, ew]
theorem r_wrote (h : QG S R t s r) {c n : Int} : ∃ M', pX12_wrote S R 176 c n = some (wroteA t r s c n, M') ∧ RAt R M' := by
  obtain ⟨hS, hR, hr, ho, hG⟩ := h
  have hM := hR.1
  have hT := hR.2.1
  have hb := sq_b ho.1
  unfold wroteA
  by_cases g1 : 0 ≤ c ∧ c < tSd t * tSd t
  · by_cases g2 : 1 ≤ n ∧ n ≤ 60
    · have hs : 2 ≤ tSd t ∧ tSd t ≤ 6 := by
        rcases ho.1 with h0 | h0
        · rw [h0] at g1; omega
        · exact h0
      have hp := ho.2.2.1
      obtain ⟨M1, a1, a2, a3⟩ := r_keepsAll hS hM
      obtain ⟨M', b1, b2⟩ := r_wrote_31 hS hR hr hs ho hG (n := n) (c := c) (by omega) g2 (tPn t).toNat zFU M1 0 0 a2 a3 (by omega) (by omega) (zFU_gt (by omega))
      refine ⟨M', ?_, b2⟩
      rw [if_pos ⟨g1, g2⟩, ← b1]
      simp [pX12_wrote, hS, r_isCell hS hM hT ho, g1, r_in, g2, a1]
    · refine ⟨R, ?_, RAt.refl R⟩
      rw [if_neg (fun z => g2 z.2)]
      simp [pX12_wrote, pX12_wrote_20, hS, r_isCell hS hM hT ho, g1, r_in, g2]
  · refine ⟨R, ?_, RAt.refl R⟩
    rw [if_neg (fun z => g1 z.1)]
    simp [pX12_wrote, pX12_wrote_20, hS, r_isCell hS hM hT ho, g1]
theorem r_came_55 (hS : ShR S) (hR : RS R t s) (hr : RRu S R r) (hs : 2 ≤ tSd t ∧ tSd t ≤ 6) (ho : TdOk t) (hG : ScGo t s 200) {q c n what : Int} (hq : 0 ≤ q ∧ q < 5) (hn : 1 ≤ n ∧ n ≤ 60) : ∀ (k fuel : Nat) (M : ZM) (i m f0 : Int), RK R M → RAt R M → i + k = tSd t * tSd t → 0 ≤ i → (0 ≤ m ∧ m ≤ i) → k < fuel → ∃ M', pX12_came_55 S fuel M 176 q c n what m f0 i = some (if what = 0 then (cameF t r s q c n.toNat k i m f0).1 else (cameF t r s q c n.toNat k i m f0).2, M') ∧ RAt R M' := by
  have hb := sq_b ho.1
  intro k
  induction k with
  | zero =>
    intro fuel M i m f0 hK hA h1 h2 hm h3
    obtain ⟨f, rfl⟩ : ∃ f, fuel = f + 1 := ⟨fuel - 1, by omega⟩
    have hM := hA.rs hR
    refine ⟨M, ?_, hA⟩
    simp [pX12_came_55, hS, r_cells hS hM.1 hM.2.1 ho, show tSd t * tSd t ≤ i by omega, cameF]
  | succ k ih =>
    intro fuel M i m f0 hK hA h1 h2 hm h3
    obtain ⟨f, rfl⟩ : ∃ f, fuel = f + 1 := ⟨fuel - 1, by omega⟩
    have hM := hA.rs hR
    have ew : w32 (i + 1) = i + 1 := w32_i (by omega) (by omega)
    have ew0 : w32 (m + 0) = m := by rw [w32_i (by omega) (by omega)]; omega
    have ew1 : w32 (m + 1) = m + 1 := w32_i (by omega) (by omega)
    have hlt : ¬ tSd t * tSd t ≤ i := by omega
    obtain ⟨M1, a1, a2, a3, a4⟩ := r_goFor hS hs ho (m := 0) (n := n) (s := scAt s q i) (r := r) (M := upM M 178 q i) (by omega) ((hG.at (by omega)).le (by omega)) ((hA.ru hr).eq (fun a _ _ => upM_r (by omega)) (by rw [upM_r (by decide)])) (hM.pa i)
    have hK1 : RK R M1 := (hK.eq (M' := upM M 178 q i) (fun a y => upM_r (by omega))).fr a3
    obtain ⟨M2, b1, b2, b3⟩ := r_laysBack hS hR.1 hK1
    have e1 := (a2.2.2.1 q hq.1 hq.2).1
    have hM1 := a2.1
    by_cases c1 : cAt (daysS t r n.toNat (scAt s q i)) q = c
    · obtain ⟨M', d1, d2⟩ := ih f M2 (i + 1) (m + 1) (if m = 0 then i else f0) b2 b3 (by omega) (by omega) (by omega) (by omega)
      refine ⟨M', ?_, d2⟩
      rw [cameF, if_pos c1, ← d1, pX12_came_55]
      simp [hS, r_cells hS hM.1 hM.2.1 ho, hlt, hM.1, hq, zlet, a1, hM1, e1, c1, pX12_came_92, b1, pX12_came_115, ew1, ew]
    · obtain ⟨M', d1, d2⟩ := ih f M2 (i + 1) m f0 b2 b3 (by omega) (by omega) (by omega) (by omega)
      refine ⟨M', ?_, d2⟩
      rw [cameF, if_neg c1, ← d1, pX12_came_55]
      have ew0' : w32 m = m := w32_i (by omega) (by omega)
      simp [hS, r_cells hS hM.1 hM.2.1 ho, hlt, hM.1, hq, zlet, a1, hM1, e1, c1, pX12_came_92, b1, pX12_came_115, ew0', ew]
theorem r_came (h : QG S R t s r) {q c n what : Int} : ∃ M', pX12_came S R 176 q c n what = some (cameA t r s q c n what, M') ∧ RAt R M' := by
  obtain ⟨hS, hR, hr, ho, hG⟩ := h
  have hM := hR.1
  have hT := hR.2.1
  have hb := nCl_b ho
  unfold cameA
  by_cases g0 : 0 ≤ q ∧ q < tPn t
  · by_cases g1 : 0 ≤ c ∧ c < tSd t * tSd t
    · by_cases g2 : 1 ≤ n ∧ n ≤ 60
      · by_cases g3 : 0 ≤ what ∧ what ≤ 1
        · have hs : 2 ≤ tSd t ∧ tSd t ≤ 6 := by
            rcases ho.1 with h0 | h0
            · rw [h0] at g1; omega
            · exact h0
          have hp := ho.2.2.1
          obtain ⟨M1, a1, a2, a3⟩ := r_keepsAll hS hM
          obtain ⟨M', b1, b2⟩ := r_came_55 hS hR hr hs ho hG (n := n) (c := c) (what := what) (q := q) (by omega) g2 (nCl t) zFU M1 0 0 (-2) a2 a3 (by omega) (by omega) (by omega) (zFU_gt (by omega))
          refine ⟨M', ?_, b2⟩
          rw [if_pos ⟨g0, g1, g2, g3⟩, ← b1]
          simp [pX12_came, hS, r_isPen hS hM hT ho, g0, r_isCell hS hM hT ho, g1, r_in, g2, g3, a1]
        · refine ⟨R, ?_, RAt.refl R⟩
          rw [if_neg (fun z => g3 z.2.2.2)]
          simp [pX12_came, pX12_came_39, hS, r_isPen hS hM hT ho, g0, r_isCell hS hM hT ho, g1, r_in, g2, g3]
      · refine ⟨R, ?_, RAt.refl R⟩
        rw [if_neg (fun z => g2 z.2.2.1)]
        simp [pX12_came, pX12_came_39, hS, r_isPen hS hM hT ho, g0, r_isCell hS hM hT ho, g1, r_in, g2]
    · refine ⟨R, ?_, RAt.refl R⟩
      rw [if_neg (fun z => g1 z.2.1)]
      simp [pX12_came, pX12_came_39, hS, r_isPen hS hM hT ho, g0, r_isCell hS hM hT ho, g1]
  · refine ⟨R, ?_, RAt.refl R⟩
    rw [if_neg (fun z => g0 z.1)]
    simp [pX12_came, pX12_came_39, hS, r_isPen hS hM hT ho, g0]
theorem r_swaps (hS : ShR S) {M : ZM} (hM : RS M t s) {a b : Int} (ha : 0 ≤ a ∧ a < 12) (hb : 0 ≤ b ∧ b < 12) (hab : a < b) : ∃ M', pX12_swaps S M 176 a b = some M' ∧ RS M' (swT t a b) s ∧ ∀ x, x ≠ 182 → x ≠ 183 → M' x = M x := by
  have hP := hM.1
  obtain ⟨h1, h2, h3⟩ := hM
  have e5 := h2.2.2.2.2.1
  generalize hM' : upM (upM (upM (upM M 182 a (M 182 b)) 183 a (M 183 b)) 182 b (M 182 a)) 183 b (M 183 a) = M'
  have q1 : ∀ x, x ≠ 182 → x ≠ 183 → M' x = M x := fun x y z => by rw [← hM', upM_r z, upM_r y, upM_r z, upM_r y]
  have q2 : ∀ i, M' 182 i = if i = b then M 182 a else if i = a then M 182 b else M 182 i := fun i => by
    rw [← hM', upM_r (by decide)]
    by_cases z : i = b
    · subst z; rw [upM_s, if_pos rfl]
    · rw [upM_i z, if_neg z, upM_r (by decide)]
      by_cases z2 : i = a
      · subst z2; rw [upM_s, if_pos rfl]
      · rw [upM_i z2, if_neg z2]
  have q3 : ∀ i, M' 183 i = if i = b then M 183 a else if i = a then M 183 b else M 183 i := fun i => by
    rw [← hM']
    by_cases z : i = b
    · subst z; rw [upM_s, if_pos rfl]
    · rw [upM_i z, if_neg z, upM_r (by decide)]
      by_cases z2 : i = a
      · subst z2; rw [upM_s, if_pos rfl]
      · rw [upM_i z2, if_neg z2, upM_r (by decide)]
  refine ⟨M', ?_, ⟨h1.eq (q1 _ (by decide) (by decide)), ⟨?_, ?_, ?_, ?_, fun i x y => ?_, ?_⟩, ?_⟩, q1⟩
  · have p1 : ∀ v, PtR (upM M 182 a v) := fun v => hP.eq (upM_r (by decide))
    have p2 : ∀ v w, PtR (upM (upM M 182 a v) 183 a w) := fun v w => (p1 v).eq (upM_r (by decide))
    have p3 : ∀ v w u, PtR (upM (upM (upM M 182 a v) 183 a w) 182 b u) := fun v w u => (p2 v w).eq (upM_r (by decide))
    have e183 : ∀ v, upM M 182 a v 183 = M 183 := fun v => upM_r (by decide)
    simp [pX12_swaps, pX12_swaps_39, hS, hP, ha, hb, zlet, p1, p2, p3, e183, hM']
  · rw [q1 _ (by decide) (by decide)]; exact h2.1
  · rw [q1 _ (by decide) (by decide)]; exact h2.2.1
  · rw [q1 _ (by decide) (by decide)]; exact h2.2.2.1
  · rw [q1 _ (by decide) (by decide)]; exact h2.2.2.2.1
  · rw [q2, q3, (e5 a ha.1 ha.2).1, (e5 a ha.1 ha.2).2, (e5 b hb.1 hb.2).1, (e5 b hb.1 hb.2).2, (e5 i x y).1, (e5 i x y).2]
    exact ⟨rfl, rfl⟩
  · rw [q1 _ (by decide) (by decide)]; exact h2.2.2.2.2.2
  · unfold RSc at *
    rw [q1 _ (by decide) (by decide), q1 _ (by decide) (by decide), q1 _ (by decide) (by decide), q1 _ (by decide) (by decide), q1 _ (by decide) (by decide)]
    exact h3
theorem r_change_70 (hS : ShR S) (hR : RS R t s) (hr : RRu S R r) (hs : 2 ≤ tSd t ∧ tSd t ≤ 6) (ho : TdOk t) (hG : ScGo t s 200) {n what a : Int} (hn : 1 ≤ n ∧ n ≤ 60) {k53 : ZM → Int → Int → Int → Int → Int → Int → Int → Option (Int × ZM)} (ha : 0 ≤ a) : ∀ (k fuel : Nat) (M : ZM) (b m x y : Int), RK R M → RAt R M → b + k = tWn t → a < b → k < fuel → ∃ M', pX12_change_70 S k53 fuel M 176 n what m x y a b = k53 M' 176 n what (chI t r s n.toNat a k b m x y).1 (chI t r s n.toNat a k b m x y).2.1 (chI t r s n.toNat a k b m x y).2.2 (a + 1) ∧ RK R M' ∧ RAt R M' := by
  have hw := ho.2.2.2.1
  intro k
  induction k with
  | zero =>
    intro fuel M b m x y hK hA h1 h2 h3
    obtain ⟨f, rfl⟩ : ∃ f, fuel = f + 1 := ⟨fuel - 1, by omega⟩
    have hM := hA.rs hR
    have e3 := hM.2.1.2.2.2.1
    have ew : w32 (a + 1) = a + 1 := w32_i (by omega) (by omega)
    refine ⟨M, ?_, hK, hA⟩
    simp [pX12_change_70, hS, hM.1, e3, show tWn t ≤ b by omega, chI, ew]
  | succ k ih =>
    intro fuel M b m x y hK hA h1 h2 h3
    obtain ⟨f, rfl⟩ : ∃ f, fuel = f + 1 := ⟨fuel - 1, by omega⟩
    have hM := hA.rs hR
    have e3 := hM.2.1.2.2.2.1
    have ew : w32 (b + 1) = b + 1 := w32_i (by omega) (by omega)
    have hlt : ¬ tWn t ≤ b := by omega
    obtain ⟨M1, a1, a2, a3⟩ := r_swaps hS hM (a := a) (b := b) (by omega) (by omega) (by omega)
    obtain ⟨M2, b1, b2, b3⟩ := r_likeIn hS hR.1 (t := swT t a b) hs (swT_ok ho (by omega) (by omega)) (n := n) (r := r) (by omega) ((hG.sw a b).le (by omega)) ((hA.ru hr).eq (fun z _ _ => a3 z (by omega) (by omega)) (by rw [a3 _ (by decide) (by decide)])) a2 (hK.eq (fun z w => a3 z (by omega) (by omega)))
    rw [pX12_change_70]
    simp only [hS, hM.1, e3, if_true, hlt, if_false, a1, b1, Option.bind_some, ew]
    rw [if_pos (by decide)]
    by_cases c1 : likeS (swT t a b) (daysS (swT t a b) r n.toNat s) ≤ m
    · simp only [if_pos c1, chI]
      exact ih f M2 (b + 1) m x y b2 b3 (by omega) (by omega) (by omega)
    · simp only [if_neg c1, chI]
      exact ih f M2 (b + 1) _ a b b2 b3 (by omega) (by omega) (by omega)
theorem r_change_53 (hS : ShR S) (hR : RS R t s) (hr : RRu S R r) (hs : 2 ≤ tSd t ∧ tSd t ≤ 6) (ho : TdOk t) (hG : ScGo t s 200) {n what : Int} (hn : 1 ≤ n ∧ n ≤ 60) : ∀ (k fuel : Nat) (M : ZM) (a m x y : Int), RK R M → RAt R M → a + k = tWn t → 0 ≤ a → k < fuel → ∃ M', pX12_change_53 S fuel M 176 n what m x y a = some (if what = 0 then (chO t r s n.toNat k a m x y).1 else if what = 1 then (chO t r s n.toNat k a m x y).2.1 else (chO t r s n.toNat k a m x y).2.2, M') ∧ RAt R M' := by
  have hw := ho.2.2.2.1
  intro k
  induction k with
  | zero =>
    intro fuel M a m x y hK hA h1 h2 h3
    obtain ⟨f, rfl⟩ : ∃ f, fuel = f + 1 := ⟨fuel - 1, by omega⟩
    have hM := hA.rs hR
    have e3 := hM.2.1.2.2.2.1
    refine ⟨M, ?_, hA⟩
    simp [pX12_change_53, hS, hM.1, e3, show tWn t ≤ a by omega, chO]
  | succ k ih =>
    intro fuel M a m x y hK hA h1 h2 h3
    obtain ⟨f, rfl⟩ : ∃ f, fuel = f + 1 := ⟨fuel - 1, by omega⟩
    have hM := hA.rs hR
    have e3 := hM.2.1.2.2.2.1
    have ew : w32 (a + 1) = a + 1 := w32_i (by omega) (by omega)
    have hlt : ¬ tWn t ≤ a := by omega
    obtain ⟨M1, a1, a2, a3⟩ := r_change_70 hS hR hr hs ho hG (what := what) (k53 := pX12_change_53 S f) hn h2 k zFU M (a + 1) m x y hK hA (by omega) (by omega) (zFU_gt (by omega))
    rw [pX12_change_53]
    simp only [hS, hM.1, e3, if_true, hlt, if_false, ew, a1]
    rw [if_pos (by decide)]
    simp only [chO]
    exact ih f M1 (a + 1) _ _ _ a2 a3 (by omega) (by omega) (by omega)
theorem r_change (h : QG S R t s r) {n what : Int} : ∃ M', pX12_change S R 176 n what = some (changeA t r s n what, M') ∧ RAt R M' := by
  obtain ⟨hS, hR, hr, ho, hG⟩ := h
  have hM := hR.1
  have hT := hR.2.1
  unfold changeA
  by_cases g1 : tSd t ≤ 0
  · refine ⟨R, ?_, RAt.refl R⟩
    simp [pX12_change, pX12_change_31, hS, r_isSky hS hM hT, g1, show ¬ 0 < tSd t by omega]
  by_cases g2 : 1 ≤ n ∧ n ≤ 60
  · by_cases g3 : 0 ≤ what ∧ what ≤ 2
    · have hs : 2 ≤ tSd t ∧ tSd t ≤ 6 := by have := ho.1; omega
      have hw := ho.2.2.2.1
      obtain ⟨M1, a1, a2, a3⟩ := r_keepsAll hS hM
      obtain ⟨M2, d1, d2, d3⟩ := r_likeIn hS hM hs ho (n := n) (r := r) (by omega) (hG.le (by omega)) (a3.ru hr) (a3.rs hR) a2
      obtain ⟨M', b1, b2⟩ := r_change_53 hS hR hr hs ho hG (n := n) (what := what) g2 (tWn t).toNat zFU M2 0 (likeS t (daysS t r n.toNat s)) (-1) (-1) d2 d3 (by omega) (by omega) (zFU_gt (by omega))
      refine ⟨M', ?_, b2⟩
      rw [if_pos ⟨by omega, g2, g3⟩, ← b1]
      simp [pX12_change, hS, r_isSky hS hM hT, g1, r_in, g2, g3, a1, d1]
    · refine ⟨R, ?_, RAt.refl R⟩
      rw [if_neg (fun z => g3 z.2.2)]
      simp [pX12_change, pX12_change_31, hS, r_isSky hS hM hT, g1, r_in, g2, g3]
  · refine ⟨R, ?_, RAt.refl R⟩
    rw [if_neg (fun z => g2 z.2.1)]
    simp [pX12_change, pX12_change_31, hS, r_isSky hS hM hT, g1, r_in, g2]
end
