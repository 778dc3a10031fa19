/-! READ, RULED, LOOK: the class -/
theorem cnt_some {f : Int → Prop} [DecidablePred f] (k : Nat) (c : Int) (h : 0 < cnt f k c) : ∃ i, c ≤ i ∧ i < c + k ∧ f i := by
  refine Classical.byContradiction (fun z => ?_)
  have := cnt_none (f := f) k c (fun i a b q => z ⟨i, a, b, q⟩)
  omega
theorem mo_eq {sh : Int → Int → Int} {m : Nat} {c : Int} (hr : ∀ i : Int, 0 ≤ i → i < m → -1 ≤ sh i c ∧ sh i c ≤ 4) : mxF (fun v => alF sh m c (v - 1)) 6 0 0 = moA sh m c := by
  have h1 := mxF_c (fun v => alF sh m c (v - 1)) 6 0 0
  have h2 := mxF_c (fun i => alF sh m c (sh i c)) m 0 0
  unfold moA
  generalize mxF (fun v => alF sh m c (v - 1)) 6 0 0 = A at *
  generalize mxF (fun i => alF sh m c (sh i c)) m 0 0 = B at *
  obtain ⟨a1, a2, a3⟩ := h1
  obtain ⟨b1, b2, b3⟩ := h2
  refine Int.le_antisymm ?_ ?_
  · rcases a3 with a3 | ⟨v, v1, v2, v3⟩
    · omega
    · by_cases z : 0 < alF sh m c (v - 1)
      · obtain ⟨i, i1, i2, i3⟩ := cnt_some m 0 z
        have := b2 i i1 i2
        simp only [i3] at this
        omega
      · omega
  · rcases b3 with b3 | ⟨i, i1, i2, i3⟩
    · omega
    · have hh := hr i i1 (by omega)
      have := a2 (sh i c + 1) (by omega) (by omega)
      simp only [show sh i c + 1 - 1 = sh i c by omega] at this
      omega
theorem al_add (sh : Int → Int → Int) (m : Nat) (f : Int → Int) (c v : Int) : alF (addSh sh m f) (m + 1) c v = alF sh m c v + (if f c = v then 1 else 0) := by
  unfold alF
  rw [cnt_snoc, Int.zero_add]
  have e : addSh sh m f (m : Int) = f := by unfold addSh; rw [if_pos rfl]
  rw [e, cnt_congr (g := fun k => sh k c = v) m 0 (fun i x y => by
    have : addSh sh m f i = sh i := by unfold addSh; rw [if_neg (by omega)]
    rw [this])]
theorem al_b (sh : Int → Int → Int) (m : Nat) (c v : Int) : 0 ≤ alF sh m c v ∧ alF sh m c v ≤ m := cnt_b _ m 0
theorem mo_b {sh : Int → Int → Int} {m : Nat} {c : Int} : 0 ≤ moA sh m c ∧ moA sh m c ≤ m := by
  have h2 := mxF_c (fun i => alF sh m c (sh i c)) m 0 0
  unfold moA
  generalize mxF (fun i => alF sh m c (sh i c)) m 0 0 = B at *
  obtain ⟨b1, b2, b3⟩ := h2
  rcases b3 with b3 | ⟨i, i1, i2, i3⟩
  · omega
  · have := al_b sh m c (sh i c)
    omega
section
variable {S : ZS} {M : ZM} {t : Td} {s : Sc} {e : Int} {r : Ru}
theorem c_begin {a b : Int} (ha : ShT S a) (hb : ShC S b) (pa : PtT M a) (pb : PtC M b) (hd : a + 5 < b ∨ b + 4 < a) : ∃ M', pX6_begin S M b a = some M' ∧ (∀ x, (x < b ∨ b + 4 < x) → M' x = M x) ∧ (∀ j, j ≠ 4 → j ≠ 5 → j ≠ 6 → M' b j = M b j) ∧ (M' b 4 = 0 ∧ M' b 5 = 0 ∧ M' b 6 = 0) ∧ (∀ j, 0 ≤ j → j < 5 → M' (b + 1) j = M (a + 1) j ∧ M' (b + 2) j = M (a + 2) j) ∧ (∀ j, 0 ≤ j → j < 36 → M' (b + 3) j = -1) := by
  have n1 : ∀ {c n : Int} {M : ZM}, zCpy M c (b + 1) n a = M a := fun {c n M} => zCpy_ne (by omega)
  have m1 : ∀ {c n : Int} {M : ZM}, zCpy M c (b + 1) n b = M b := fun {c n M} => zCpy_ne (by omega)
  have m2 : ∀ {c n : Int} {M : ZM}, zCpy M c (b + 2) n b = M b := fun {c n M} => zCpy_ne (by omega)
  generalize hM2 : zCpy (zCpy M (a + 1) (b + 1) 5) (a + 2) (b + 2) 5 = M2
  have p2 : M2 b = M b := by rw [← hM2, m2, m1]
  obtain ⟨M3, f1, f2, f3⟩ := c_fill (S := S) (M := M2) (a := b + 3) (v := -1) hb.2.2.2.1.1 hb.2.2.2.1.2 (by omega)
  refine ⟨upM (upM (upM M3 b 4 0) b 5 0) b 6 0, ?_, fun x h => ?_, fun j h1 h2 h3 => ?_, ?_, fun j h1 h2 => ⟨?_, ?_⟩, fun j h1 h2 => ?_⟩
  · have pb2 : M2 b 2 = b + 3 := by rw [p2]; exact pb.2.2.1
    simp [pX6_begin, pX6_begin_14, pX6_begin_28, ha, hb, pa, pb, zlet, n1, m1, hM2, pb2, f1]
  · rw [upM_r (by omega), upM_r (by omega), upM_r (by omega), f2 x (by omega), ← hM2, zCpy_ne (by omega), zCpy_ne (by omega)]
  · rw [upM_i h3, upM_i h2, upM_i h1, f2 b (by omega), p2]
  · simp [upM_ap]
  · rw [upM_r (by omega), upM_r (by omega), upM_r (by omega), f2 _ (by omega), ← hM2, zCpy_ne (by omega), zCpy_at h1 h2]
  · rw [upM_r (by omega), upM_r (by omega), upM_r (by omega), f2 _ (by omega), ← hM2, zCpy_at h1 h2, zCpy_ne (by omega)]
  · rw [upM_r (by omega), upM_r (by omega), upM_r (by omega), f3 j h1 h2]
theorem CS.bg {M M' : ZM} {a b : Int} (ho : TdOk t) {ta ts : Int → Int} (h8 : ∀ q, 0 ≤ q → q < tPn t → M (a + 1) q = ta q ∧ M (a + 2) q = ts q) (e0 : M' b 4 = 0 ∧ M' b 5 = 0 ∧ M' b 6 = 0) (e1 : ∀ j, 0 ≤ j → j < 5 → M' (b + 1) j = M (a + 1) j ∧ M' (b + 2) j = M (a + 2) j) (e2 : ∀ j, 0 ≤ j → j < 36 → M' (b + 3) j = -1) : CS M' t b (bgS ta ts) := by
  have hp := ho.2.2.1
  have hb := sq_b ho.1
  refine ⟨fun q x y => ?_, fun c x y => ⟨e2 c x (by omega), fun z => absurd rfl z⟩, fun c x y => e2 c (by omega) y, e0.1, e0.2.1, e0.2.2⟩
  rw [(e1 q x (by omega)).1, (e1 q x (by omega)).2]; exact h8 q x y
theorem CQ.trialB (h : CQ S M t s e r) {ta ts : Int → Int} (h8 : ∀ q, 0 ≤ q → q < tPn t → M 18 q = ta q ∧ M 19 q = ts q) : ∃ M', pX6_begin S M 160 17 = some M' ∧ CQ S M' t s e r ∧ CS M' t 160 (bgS ta ts) ∧ FQ M M' ∧ ∀ x, (x < 160 ∨ 164 < x) → M' x = M x := by
  obtain ⟨M', a1, a2, a3, a4, a5, a6⟩ := c_begin (S := S) (M := M) (a := 17) (b := 160) (shT_of h.1.1).2.1 (shC_of h.1.1).2.2 (ptT_of h.1.2).2.1 (ptC_of h.1.2).2.2 (by omega)
  have f : FQ M M' := fun x y => a2 x (by omega)
  have hn : NW S M' := h.1.q (fun x j k => by
    unfold pkN at k
    by_cases z : x = 160
    · subst z; exact a3 j (by omega) (by omega) (by omega)
    · rw [a2 x (by omega)])
  exact ⟨M', a1, h.fq hn f, CS.bg (a := 17) h.ok h8 a4 a5 a6, f, fun x y => a2 x (by omega)⟩
theorem c_addTrial_2 (h : CQ S M t s e r) {s' : Sc} (hO : ScOk t s') : ∀ (k fuel : Nat) (M : ZM) (c : Int), NW S M → CT M 17 t → CS M t 160 s' → c + k = tSd t * tSd t → 0 ≤ c → (∀ i v, c ≤ i → i < tSd t * tSd t → -1 ≤ v → v ≤ 4 → 0 ≤ M 165 (6 * i + v + 1) ∧ M 165 (6 * i + v + 1) ≤ 100) → k < fuel →
    ∃ M', pX2_addTrial_2 S fuel M 155 17 c = some M' ∧ (∀ x, x ≠ 165 → M' x = M x) ∧ (∀ i v, c ≤ i → i < tSd t * tSd t → -1 ≤ v → v ≤ 4 → M' 165 (6 * i + v + 1) = M 165 (6 * i + v + 1) + (if cWh s' i = v then 1 else 0)) ∧ (∀ i v, 0 ≤ i → i < c → -1 ≤ v → v ≤ 4 → M' 165 (6 * i + v + 1) = M 165 (6 * i + v + 1)) := by
  have ho := h.ok
  have hb := sq_b ho.1
  have hp := ho.2.2.1
  intro k
  induction k with
  | zero =>
    intro fuel M c hN hT hC h1 h2 h3 h4
    obtain ⟨f, rfl⟩ : ∃ f, fuel = f + 1 := ⟨fuel - 1, by omega⟩
    have hcc := hT.2.1
    refine ⟨M, ?_, fun _ _ => rfl, fun i v a b _ _ => by omega, fun _ _ _ _ _ _ => rfl⟩
    simp [pX2_addTrial_2, hN.1.o, hcc, show tSd t * tSd t ≤ c by omega]
  | succ k ih =>
    intro fuel M c hN hT hC h1 h2 h3 h4
    obtain ⟨f, rfl⟩ : ∃ f, fuel = f + 1 := ⟨fuel - 1, by omega⟩
    have hcc := hT.2.1
    have e1 := (hC.2.1 c h2 (by omega)).1
    simp only [show (160 : Int) + 3 = 163 from rfl] at e1
    have hw : -1 ≤ cWh s' c ∧ cWh s' c ≤ 4 := by
      rcases hO.2.1 c h2 (by omega) with z | z <;> omega
    generalize hwe : cWh s' c = w at e1 hw
    have w1 : w32 (c * 6) = 6 * c := by rw [w32_i (by omega) (by omega)]; omega
    have w2 : w32 (6 * c + w) = 6 * c + w := w32_i (by omega) (by omega)
    have w3 : w32 (6 * c + w + 1) = 6 * c + w + 1 := w32_i (by omega) (by omega)
    have w4 : w32 (c + 1) = c + 1 := w32_i (by omega) (by omega)
    have hv := h3 c w (by omega) (by omega) hw.1 hw.2
    have w5 : w32 (M 165 (6 * c + w + 1) + 1) = M 165 (6 * c + w + 1) + 1 := w32_i (by omega) (by omega)
    have g1 : 0 ≤ 6 * c + w + 1 ∧ 6 * c + w + 1 < 216 := by omega
    generalize hM1 : upM M 165 (6 * c + w + 1) (M 165 (6 * c + w + 1) + 1) = M1
    have r1 : ∀ x, x ≠ 165 → M1 x = M x := fun x y => by rw [← hM1, upM_r y]
    have r2 : M1 165 (6 * c + w + 1) = M 165 (6 * c + w + 1) + 1 := by rw [← hM1, upM_s]
    have r3 : ∀ j, j ≠ 6 * c + w + 1 → M1 165 j = M 165 j := fun j y => by rw [← hM1, upM_i y]
    have e2 : pX2_addTrial_2 S (f + 1) M 155 17 c = pX2_addTrial_2 S f M1 155 17 (c + 1) := by
      rw [pX2_addTrial_2]
      simp [hN.1.o, hN.2.o, hcc, show ¬ tSd t * tSd t ≤ c by omega, h2, show c < 36 by omega, e1, show ¬ w < -1 by omega, show ¬ 5 ≤ w by omega, w1, w2, w3, w4, w5, g1, zlet, hM1, pX2_addTrial_47]
    rw [e2]
    have hstep : ∀ i v, c ≤ i → -1 ≤ v → v ≤ 4 → M1 165 (6 * i + v + 1) = M 165 (6 * i + v + 1) + (if i = c ∧ w = v then 1 else 0) := fun i v a x y => by
      by_cases z : i = c ∧ w = v
      · rw [if_pos z, z.1, ← z.2, r2]
      · rw [if_neg z, r3 _ (by omega)]; omega
    obtain ⟨M', a1, a2, a3, a4⟩ := ih f M1 (c + 1) (hN.q (fun x j k => by unfold pkN at k; rw [r1 x (by omega)])) (hT.eq (fun x _ _ => r1 x (by omega))) (hC.eq (fun x _ _ => r1 x (by omega))) (by omega) (by omega) (fun i v a b x y => by
      have := h3 i v (by omega) b x y
      rw [r3 _ (by omega)]; exact this) (by omega)
    refine ⟨M', a1, fun x y => (a2 x y).trans (r1 x y), fun i v a b x y => ?_, fun i v a b x y => ?_⟩
    · by_cases z : i = c
      · subst z
        rw [a4 i v h2 (by omega) x y, hstep i v (by omega) x y, hwe]
        by_cases z2 : w = v
        · rw [if_pos ⟨rfl, z2⟩, if_pos z2]
        · rw [if_neg (fun q => z2 q.2), if_neg z2]
      · rw [a3 i v (by omega) b x y, hstep i v a x y, if_neg (fun q => z q.1)]; omega
    · rw [a4 i v a (by omega) x y, r3 _ (by omega)]
theorem c_addTrial (h : CQ S M t s e r) {s' : Sc} (hO : ScOk t s') (hC : CS M t 160 s') {sh : Int → Int → Int} {m : Nat} (hm : m ≤ 7) (hal : ∀ i v, 0 ≤ i → i < tSd t * tSd t → -1 ≤ v → v ≤ 4 → M 165 (6 * i + v + 1) = alF sh m i v) :
    ∃ M', pX2_addTrial S M 155 17 = some M' ∧ CQ S M' t s e r ∧ FQ M M' ∧ (∀ i v, 0 ≤ i → i < tSd t * tSd t → -1 ≤ v → v ≤ 4 → M' 165 (6 * i + v + 1) = alF (addSh sh m (cWh s')) (m + 1) i v) := by
  have hn := nCl_b h.ok
  obtain ⟨M', a1, a2, a3, -⟩ := c_addTrial_2 h hO (nCl t) zFU M 0 h.1 h.2.1 hC (by omega) (by omega) (fun i v a b x y => by
    have := al_b sh m i v
    rw [hal i v a b x y]; omega) (zFU_gt (by omega))
  have f : FQ M M' := fun x y => a2 x (by omega)
  refine ⟨M', a1, h.fq (h.1.q (fun x j k => by unfold pkN at k; rw [a2 x (by omega)])) f, f, fun i v a b x y => ?_⟩
  rw [a3 i v a b x y, hal i v a b x y, al_add]
theorem c_part_24 (h : CQ S M t s e r) {k9 : ZM → Int → Int → Int → Int → Int → Int → Option (Int × ZM)} {what best few c : Int} (hc : 0 ≤ c ∧ c < 36) {g : Int → Int} (hg : ∀ v, 0 ≤ v → v < 6 → M 165 (6 * c + v) = g v) : ∀ (k fuel : Nat) (y i : Int), i + k = 6 → 0 ≤ i → k < fuel → pX2_bestParting_24 S k9 fuel M 155 17 what best few c y i = k9 M 155 17 what (if few ≤ mxF g k i y then best else c) (if few ≤ mxF g k i y then few else mxF g k i y) (c + 1) := by
  have wc : w32 (c + 1) = c + 1 := w32_i (by omega) (by omega)
  have w1 : w32 (c * 6) = 6 * c := by rw [w32_i (by omega) (by omega)]; omega
  intro k
  induction k with
  | zero =>
    intro fuel y i h1 h2 h3
    obtain ⟨f, rfl⟩ : ∃ f, fuel = f + 1 := ⟨fuel - 1, by omega⟩
    rw [show mxF g 0 i y = y from rfl]
    simp [pX2_bestParting_24, show 5 < i by omega, wc]
  | succ k ih =>
    intro fuel y i h1 h2 h3
    obtain ⟨f, rfl⟩ : ∃ f, fuel = f + 1 := ⟨fuel - 1, by omega⟩
    have w2 : w32 (6 * c + i) = 6 * c + i := w32_i (by omega) (by omega)
    have w3 : w32 (i + 1) = i + 1 := w32_i (by omega) (by omega)
    have g1 : 0 ≤ 6 * c + i ∧ 6 * c + i < 216 := by omega
    have e1 := hg i h2 (by omega)
    have i0 := ih f (if g i ≤ y then y else g i) (i + 1) (by omega) (by omega) (by omega)
    have e2 : (if y < g i then g i else y) = (if g i ≤ y then y else g i) := by
      by_cases z : g i ≤ y
      · rw [if_neg (by omega), if_pos z]
      · rw [if_pos (by omega), if_neg z]
    rw [show mxF g (k + 1) i y = mxF g k (i + 1) (if g i ≤ y then y else g i) from rfl, ← i0, pX2_bestParting_24]
    simp [show ¬ 5 < i by omega, h.1.1.o, h.1.2.o, w1, w2, w3, g1, e1, zlet, e2]
theorem c_part_9 (h : CQ S M t s e r) {sh : Int → Int → Int} {m : Nat} (hal : ∀ i v, 0 ≤ i → i < tSd t * tSd t → -1 ≤ v → v ≤ 4 → M 165 (6 * i + v + 1) = alF sh m i v) (hsr : ∀ i c : Int, 0 ≤ i → i < m → 0 ≤ c → c < tSd t * tSd t → -1 ≤ sh i c ∧ sh i c ≤ 4) {what : Int} : ∀ (k fuel : Nat) (c best : Int), c + k = tSd t * tSd t → 0 ≤ c → k < fuel → pX2_bestParting_9 S fuel M 155 17 what best (moA sh m best) c = some (if what = 0 then ptF (moA sh m) k c best else moA sh m (ptF (moA sh m) k c best), M) := by
  have hb := sq_b h.ok.1
  have hcc := h.2.1.2.1
  intro k
  induction k with
  | zero =>
    intro fuel c best h1 h2 h3
    obtain ⟨f, rfl⟩ : ∃ f, fuel = f + 1 := ⟨fuel - 1, by omega⟩
    simp [pX2_bestParting_9, h.1.1.o, hcc, show tSd t * tSd t ≤ c by omega, ptF]
  | succ k ih =>
    intro fuel c best h1 h2 h3
    obtain ⟨f, rfl⟩ : ∃ f, fuel = f + 1 := ⟨fuel - 1, by omega⟩
    have e24 := c_part_24 h (k9 := pX2_bestParting_9 S f) (what := what) (best := best) (few := moA sh m best) (c := c) (by omega) (g := fun v => alF sh m c (v - 1)) (fun v a b => by
      have := hal c (v - 1) h2 (by omega) (by omega) (by omega)
      rw [show 6 * c + (v - 1) + 1 = 6 * c + v by omega] at this; exact this) 6 zFU 0 0 (by omega) (by omega) (zFU_gt (by omega))
    rw [mo_eq (fun i x y => hsr i c x y h2 (by omega))] at e24
    have e9 : pX2_bestParting_9 S (f + 1) M 155 17 what best (moA sh m best) c = pX2_bestParting_24 S (pX2_bestParting_9 S f) zFU M 155 17 what best (moA sh m best) c 0 0 := by
      rw [pX2_bestParting_9]
      simp [h.1.1.o, hcc, show ¬ tSd t * tSd t ≤ c by omega]
    rw [e9, e24]
    simp only [ptF]
    by_cases z : moA sh m best ≤ moA sh m c
    · simp only [if_pos z]; exact ih f (c + 1) best (by omega) (by omega) (by omega)
    · simp only [if_neg z]; exact ih f (c + 1) c (by omega) (by omega) (by omega)
theorem c_part (h : CQ S M t s e r) (hs : 2 ≤ tSd t ∧ tSd t ≤ 6) {sh : Int → Int → Int} {m : Nat} (hm : m ≤ 7) (hal : ∀ i v, 0 ≤ i → i < tSd t * tSd t → -1 ≤ v → v ≤ 4 → M 165 (6 * i + v + 1) = alF sh m i v) (hsr : ∀ i c : Int, 0 ≤ i → i < m → 0 ≤ c → c < tSd t * tSd t → -1 ≤ sh i c ∧ sh i c ≤ 4) {what : Int} : pX2_bestParting S M 155 17 what = some (partA t sh m what, M) := by
  have hn := nCl_b h.ok
  have hcc := h.2.1.2.1
  have h4 : 4 ≤ tSd t * tSd t := by
    have h1 : tSd t = 2 ∨ tSd t = 3 ∨ tSd t = 4 ∨ tSd t = 5 ∨ tSd t = 6 := by omega
    rcases h1 with e | e | e | e | e <;> rw [e] <;> decide
  have hmb := mo_b (sh := sh) (m := m) (c := 0)
  have e24 := c_part_24 h (k9 := pX2_bestParting_9 S 3999) (what := what) (best := 0) (few := 8) (c := 0) (by omega) (g := fun v => alF sh m 0 (v - 1)) (fun v a b => by
      have := hal 0 (v - 1) (by omega) (by omega) (by omega) (by omega)
      rw [show 6 * 0 + (v - 1) + 1 = 6 * 0 + v by omega] at this; exact this) 6 zFU 0 0 (by omega) (by omega) (zFU_gt (by omega))
  rw [mo_eq (fun i x y => hsr i 0 x y (by omega) (by omega)), if_neg (by omega), if_neg (by omega)] at e24
  have e9 : pX2_bestParting S M 155 17 what = pX2_bestParting_24 S (pX2_bestParting_9 S 3999) zFU M 155 17 what 0 8 0 0 0 := by
    rw [pX2_bestParting]
    show pX2_bestParting_9 S (3999 + 1) M 155 17 what 0 8 0 = _
    rw [pX2_bestParting_9]
    simp [h.1.1.o, hcc, show ¬ tSd t * tSd t ≤ 0 by omega]
  rw [e9, e24, c_part_9 h hal hsr (nCl t - 1) 3999 (0 + 1) 0 (by omega) (by omega) (by omega)]
  rfl
/-- every rule, and none, in the class -/
def CRs (S : ZS) (M : ZM) (nR : Int) (rl : Int → Ru) : Prop := (0 ≤ nR ∧ nR ≤ 6) ∧ M 1 4 = nR ∧ rl (-1) = none ∧ ∀ j, 0 ≤ j → j < nR → CRu S M (M 15 j) 133 (rl j) ∧ CRu S M (M 15 j) 138 (rl j) ∧ CRu S M (M 15 j) 156 (rl j)
theorem CRs.fq {M M' : ZM} {nR : Int} {rl : Int → Ru} (h : CRs S M nR rl) (f : FQ M M') : CRs S M' nR rl := by
  obtain ⟨h1, h2, h3, h4⟩ := h
  refine ⟨h1, by rw [f 1 (by omega)]; exact h2, h3, fun j x y => ?_⟩
  rw [f 15 (by omega)]
  obtain ⟨a, b, c⟩ := h4 j x y
  exact ⟨a.eq (fun x y => f x (by omega)), b.eq (fun x y => f x (by omega)), c.eq (fun x y => f x (by omega))⟩
theorem c_ruleOf (hN : NW S M) {nR : Int} {rl : Int → Ru} (h : CRs S M nR rl) {j : Int} (h1 : -1 ≤ j) (h2 : j < nR) : ∃ e, pX2_ruleOf S M 15 j = some (e, M) ∧ CRu S M e 156 (rl j) := by
  have hb := h.1
  by_cases z : j = -1
  · subst z
    refine ⟨0, by simp [pX2_ruleOf, pX2_ruleOf_16, pX2_ruleOf_17], ?_⟩
    rw [h.2.2.1]
    exact ⟨fun _ => rfl, fun g q => by cases q⟩
  · refine ⟨M 15 j, ?_, (h.2.2.2 j (by omega) h2).2.2⟩
    simp [pX2_ruleOf, pX2_ruleOf_16, pX2_ruleOf_17, hN.1.o, show ¬ j < 0 by omega, show ¬ 6 ≤ j by omega, show 0 ≤ j by omega, show j < 6 by omega]
theorem wh_r {s' : Sc} (ho : TdOk t) (hO : ScOk t s') {c : Int} (h1 : 0 ≤ c) (h2 : c < tSd t * tSd t) : -1 ≤ cWh s' c ∧ cWh s' c ≤ 4 := by
  have hp := ho.2.2.1
  rcases hO.2.1 c h1 h2 with z | z <;> omega
theorem c_read_11 (hs : 2 ≤ tSd t ∧ tSd t ≤ 6) {nR : Int} {rl : Int → Ru} {n what : Int} (hn : 1 ≤ n ∧ n ≤ 60) : ∀ (k fuel : Nat) (M : ZM) (j : Int) (m : Nat) (sh : Int → Int → Int), CQ S M t s e r → CRs S M nR rl → j + k = nR → (m : Int) = j + 1 → (∀ i v, 0 ≤ i → i < tSd t * tSd t → -1 ≤ v → v ≤ 4 → M 165 (6 * i + v + 1) = alF sh m i v) → (∀ i c : Int, 0 ≤ i → i < m → 0 ≤ c → c < tSd t * tSd t → -1 ≤ sh i c ∧ sh i c ≤ 4) → k < fuel →
    ∃ M', pX2_bestToRead_11 S fuel M 155 16 15 nR n what j = some (readF t rl s n.toNat what k j m sh, M') ∧ NW S M' ∧ FQ M M' := by
  intro k
  induction k with
  | zero =>
    intro fuel M j m sh h hr h1 h2 h3 h4 h5
    obtain ⟨f, rfl⟩ : ∃ f, fuel = f + 1 := ⟨fuel - 1, by omega⟩
    have hb := hr.1
    have e0 := c_part h hs (m := m) (by omega) h3 h4 (what := what)
    refine ⟨M, ?_, h.1, FQ.refl M⟩
    simp [pX2_bestToRead_11, show nR ≤ j by omega, h.1.1.o, h.1.2.o, e0, readF]
  | succ k ih =>
    intro fuel M j m sh h hr h1 h2 h3 h4 h5
    obtain ⟨f, rfl⟩ : ∃ f, fuel = f + 1 := ⟨fuel - 1, by omega⟩
    have ho := h.ok
    have hb := hr.1
    have wj : w32 (j + 1) = j + 1 := w32_i (by omega) (by omega)
    obtain ⟨M1, a1, a2, a3, a4, a5⟩ := h.trialJ
    obtain ⟨e1, b1, b2⟩ := c_ruleOf a2.1 (hr.fq a4) (j := j) (by omega) (by omega)
    obtain ⟨M2, c1, c2, c3, c4⟩ := c_pass ho hs (m := 0) (n := n) (by omega) (h.go.le (by omega)) b2 (a2.cd2 a3)
    have f2 := FQ.fr c3 (Or.inr ⟨rfl, rfl⟩)
    have k2 : CQ S M2 t s e r := a2.fq (a2.1.fr c3 (Or.inr (Or.inl ⟨rfl, rfl⟩))) f2
    have e165 : M2 165 = M 165 := by rw [c3.1 165 (by decide) (by decide) (by decide) (by decide) (by decide) (by decide) (by decide), a5 165 (by decide)]
    obtain ⟨M3, d1, d2, d3, d4⟩ := c_addTrial k2 c4.1 c2.2.2.2.2 (sh := sh) (m := m) (by omega) (fun i v a b x y => by rw [e165]; exact h3 i v a b x y)
    have f3 : FQ M M3 := (a4.trans f2).trans d3
    obtain ⟨M', g1, g2, g3⟩ := ih f M3 (j + 1) (m + 1) (addSh sh m (cWh (daysS t (rl j) n.toNat s))) d2 (hr.fq f3) (by omega) (by omega) d4 (fun i c x y u v => by
      unfold addSh
      by_cases z : i = (m : Int)
      · rw [if_pos z]; exact wh_r ho c4.1 u v
      · rw [if_neg z]; exact h4 i c x (by omega) u v) (by omega)
    refine ⟨M', ?_, g2, f3.trans g3⟩
    rw [readF, ← g1, pX2_bestToRead_11]
    simp [show ¬ nR ≤ j by omega, h.1.1.o, h.1.2.o, a1, b1, a2.1.2.o, c1, pX2_bestToRead_51, k2.1.2.o, d1, wj]
theorem c_fill0 (h : CQ S M t s e r) : ∃ M', pJ7_fill_53178 S M 165 0 = some M' ∧ CQ S M' t s e r ∧ FQ M M' ∧ ∀ j, 0 ≤ j → j < 216 → M' 165 j = 0 := by
  obtain ⟨M', a1, a2, a3⟩ := c_fill (S := S) (M := M) (a := 165) (v := 0) (L := 216) (by simp [h.1.1.o]) (by simp [h.1.1.o]) (by omega)
  have f : FQ M M' := fun x y => a2 x (by omega)
  exact ⟨M', a1, h.fq (h.1.q (fun x j k => by unfold pkN at k; rw [a2 x (by omega)])) f, f, a3⟩
theorem c_read (h : CQ S M t s e r) {nR : Int} {rl : Int → Ru} (hr : CRs S M nR rl) {n what : Int} : ∃ M', pX11_read S M 1 n what = some (readA t rl nR s n what, M') ∧ NW S M' ∧ FQ M M' := by
  have ho := h.ok
  have hb := hr.1
  have hsq := sq_b ho.1
  unfold readA
  by_cases g1 : tSd t ≤ 0
  · refine ⟨M, ?_, h.1, FQ.refl M⟩
    simp [pX11_read, pX11_read_32, h.1.1.o, h.1.2.o, c_isThere h.tt, g1, show ¬ 0 < tSd t by omega]
  by_cases g2 : 1 ≤ n ∧ n ≤ 60
  · by_cases g3 : 0 ≤ what ∧ what ≤ 1
    · have hs : 2 ≤ tSd t ∧ tSd t ≤ 6 := by have := ho.1; omega
      have e14 := hr.2.1
      obtain ⟨M1, a1, a2, a3, a4⟩ := c_fill0 h
      obtain ⟨M', b1, b2, b3⟩ := c_read_11 hs (nR := nR) (rl := rl) (n := n) (what := what) g2 (nR + 1).toNat zFU M1 (-1) 0 (fun _ _ => -1) a2 (hr.fq a3) (by omega) (by omega) (fun i v a b x y => by rw [a4 _ (by omega) (by omega)]; rfl) (fun i c x y u v => by omega) (zFU_gt (by omega))
      refine ⟨M', ?_, b2, a3.trans b3⟩
      rw [if_pos ⟨by omega, g2, g3⟩]
      simp [pX11_read, h.1.1.o, h.1.2.o, c_isThere h.tt, g1, c_within, g2, g3, pX2_bestToRead, e14, a1, b1]
    · refine ⟨M, ?_, h.1, FQ.refl M⟩
      rw [if_neg (fun z => g3 z.2.2)]
      simp [pX11_read, pX11_read_32, h.1.1.o, h.1.2.o, c_isThere h.tt, g1, c_within, g2, g3]
  · refine ⟨M, ?_, h.1, FQ.refl M⟩
    rw [if_neg (fun z => g2 z.2.1)]
    simp [pX11_read, pX11_read_32, h.1.1.o, h.1.2.o, c_isThere h.tt, g1, c_within, g2]
end
