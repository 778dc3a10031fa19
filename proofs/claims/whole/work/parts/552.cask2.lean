/-! THE CLASS: wrote, came, change -/
/-- strokes are of days gone -/
def ScLt (t : Td) (s : Sc) : Prop := ∀ c, 0 ≤ c → c < tSd t * tSd t → cWh s c ≠ -1 → cSi s c < cDy s
theorem dayS_left {t : Td} {r : Ru} {s : Sc} {q c d0 : Int} (hq : 0 ≤ q) (hI : ¬ (cWh s c = q ∧ d0 ≤ cSi s c)) (hd : d0 ≤ cDy s) : (cWh (dayS t r s) c = q ∧ d0 ≤ cSi (dayS t r s) c) ↔ (cWh (dayS t r s) c = q ∧ cSi (dayS t r s) c = cDy s) := by
  constructor
  · rintro ⟨h1, h2⟩
    refine ⟨h1, ?_⟩
    have e1 : cWh (dayS t r s) c = who2 (who1 (setS t r s) (posS t s) (tPn t).toNat (cWh s)) (sin1 (setS t r s) (posS t s) (tPn t).toNat (cSi s) (cDy s)) (cDy s + 1) (tFd t) c := rfl
    have e2 : cSi (dayS t r s) c = sin2 (who1 (setS t r s) (posS t s) (tPn t).toNat (cWh s)) (sin1 (setS t r s) (posS t s) (tPn t).toNat (cSi s) (cDy s)) (cDy s + 1) (tFd t) c := rfl
    rw [e1] at h1
    rw [e2] at h2 ⊢
    unfold who2 at h1
    unfold sin2 at h2 ⊢
    by_cases z : who1 (setS t r s) (posS t s) (tPn t).toNat (cWh s) c ≠ -1 ∧ tFd t < cDy s + 1 - sin1 (setS t r s) (posS t s) (tPn t).toNat (cSi s) (cDy s) c
    · rw [if_pos z] at h1; omega
    · rw [if_neg z] at h1 h2 ⊢
      unfold who1 at h1
      unfold sin1 at h2 ⊢
      by_cases n0 : nAt (setS t r s) (posS t s) c (tPn t).toNat 0 = 0
      · rw [if_pos n0] at h1 h2; exact absurd ⟨h1, h2⟩ hI
      · rw [if_neg n0] at h1 h2 ⊢
        by_cases n1 : nAt (setS t r s) (posS t s) c (tPn t).toNat 0 = 1
        · rw [if_pos n1]
        · rw [if_neg n1] at h1; omega
  · rintro ⟨h1, h2⟩
    exact ⟨h1, by omega⟩
theorem wb_d : ∀ (q : Fin 5) (x : Fin 32), (x.1 : Int) < zshl 1 (q.1 : Int) → zand (zshr (x.1 : Int) (q.1 : Int)) 1 = 0 ∧ zand (zshr (zor (x.1 : Int) (zshl 1 (q.1 : Int))) (q.1 : Int)) 1 = 1 ∧ (0 ≤ zor (x.1 : Int) (zshl 1 (q.1 : Int)) ∧ zor (x.1 : Int) (zshl 1 (q.1 : Int)) < zshl 1 ((q.1 : Int) + 1)) ∧ zshl 1 (q.1 : Int) ≤ zshl 1 ((q.1 : Int) + 1) ∧ zshl 1 (q.1 : Int) ≤ 32 := by decide +kernel
theorem wb {q x : Int} (hq : 0 ≤ q ∧ q < 5) (hx : 0 ≤ x ∧ x < zshl 1 q) : zand (zshr x q) 1 = 0 ∧ zand (zshr (zor x (zshl 1 q)) q) 1 = 1 ∧ (0 ≤ zor x (zshl 1 q) ∧ zor x (zshl 1 q) < zshl 1 (q + 1)) ∧ zshl 1 q ≤ zshl 1 (q + 1) := by
  have hb := shl_p (p := q) (by omega)
  have := wb_d ⟨q.toNat, by omega⟩ ⟨x.toNat, by omega⟩
  simp only [Int.toNat_of_nonneg hq.1, Int.toNat_of_nonneg hx.1] at this
  have h := this hx.2
  exact ⟨h.1, h.2.1, h.2.2.1, h.2.2.2.1⟩
section
variable {S : ZS} {M : ZM} {t : Td} {s : Sc} {e : Int} {r : Ru}
theorem c_writersIn_58 (hs : 2 ≤ tSd t ∧ tSd t ≤ 6) {q c n d0 x : Int} (hq : 0 ≤ q ∧ q < 5) (hc : 0 ≤ c ∧ c < tSd t * tSd t) (hx : zand (zshr x q) 1 = 0) (hx1 : zand (zshr (zor x (zshl 1 q)) q) 1 = 1) (hxi : in32 x) {k6 : ZM → Int → Int → Int → Int → Int → Int → Int → Option (Int × ZM)} : ∀ (k fuel : Nat) (M : ZM) (s' : Sc) (i : Int), CQ S M t s e r → CS M t 142 s' → ScGo t s' (k + 1) → ¬ (cWh s' c = q ∧ d0 ≤ cSi s' c) → d0 ≤ cDy s' → i + k = n → 0 ≤ i → n ≤ 1000 → k + 1 < fuel →
    ∃ M', pX1_writersIn_58 S k6 fuel M 137 16 e c n x q i = k6 M' 137 16 e c n (zor x (if leavesF t r q c d0 k s' = 0 then 0 else zshl 1 q)) (q + 1) ∧ CQ S M' t s e r ∧ FQ M M' := by
  have wq : w32 (q + 1) = q + 1 := w32_i (by omega) (by omega)
  intro k
  induction k with
  | zero =>
    intro fuel M s' i h hC hO hI hd h1 h2 h3 h4
    obtain ⟨f, rfl⟩ : ∃ f, fuel = f + 1 := ⟨fuel - 1, by omega⟩
    refine ⟨M, ?_, h, FQ.refl M⟩
    simp [pX1_writersIn_58, show n ≤ i by omega, pX1_writersIn_144, wq, leavesF, zor_0 hxi]
  | succ k ih =>
    intro fuel M s' i h hC hO hI hd h1 h2 h3 h4
    obtain ⟨f, rfl⟩ : ∃ f, fuel = f + 1 := ⟨fuel - 1, by omega⟩
    have hb := sq_b h.ok.1
    have hc36 : c < 36 := by omega
    have wi : w32 (i + 1) = i + 1 := w32_i (by omega) (by omega)
    have hni : ¬ n ≤ i := by omega
    obtain ⟨M1, a1, a2, a3, a4⟩ := c_one h.ok hs hO (h.cd1 hC) h.2.2.2.1.2.1
    have hn1 := h.1.fr a3 (Or.inl ⟨rfl, rfl⟩)
    have f1 := FQ.fr a3 (Or.inl ⟨rfl, rfl⟩)
    have hC1 := a2.2.2.2.2
    have k1 := h.fq hn1 f1
    have e1 := (hC1.2.1 c hc.1 hc.2).1
    have e2 := (hC1.2.1 c hc.1 hc.2).2
    simp only [show (142 : Int) + 3 = 145 from rfl, show (142 : Int) + 4 = 146 from rfl] at e1 e2
    have e5 : M 142 5 = cDy s' := hC.2.2.2.2.1
    have hl := dayS_left (t := t) (r := r) hq.1 hI hd
    have e58 : pX1_writersIn_58 S k6 (f + 1) M 137 16 e c n x q i = (if cWh (dayS t r s') c = q ∧ cSi (dayS t r s') c = cDy s' then pX1_writersIn_58 S k6 f M1 137 16 e c n (zor x (zshl 1 q)) q (i + 1) else pX1_writersIn_58 S k6 f M1 137 16 e c n x q (i + 1)) := by
      rw [pX1_writersIn_58]
      by_cases c1 : cWh (dayS t r s') c = q
      · have e3 := e2 (by omega)
        by_cases c2 : cSi (dayS t r s') c = cDy s'
        · simp [hni, hx, h.1.1.o, h.1.2.o, a1, hn1.2.o, hc.1, hc36, e1, e3, e5, c1, c2, pX1_writersIn_138, wi]
        · simp [hni, hx, h.1.1.o, h.1.2.o, a1, hn1.2.o, hc.1, hc36, e1, e3, e5, c1, c2, pX1_writersIn_138, wi]
      · simp [hni, hx, h.1.1.o, h.1.2.o, a1, hn1.2.o, hc.1, hc36, e1, c1, pX1_writersIn_138, wi]
    rw [e58, leavesF]
    by_cases c1 : cWh (dayS t r s') c = q ∧ d0 ≤ cSi (dayS t r s') c
    · rw [if_pos c1, if_pos (hl.mp c1), if_neg (by decide)]
      obtain ⟨f2, rfl⟩ : ∃ f2, f = f2 + 1 := ⟨f - 1, by omega⟩
      refine ⟨M1, ?_, k1, f1⟩
      simp only [pX1_writersIn_58]
      by_cases z : n ≤ i + 1
      · rw [if_pos z, pX1_writersIn_144, wq]
      · rw [if_neg z, if_neg (by omega), pX1_writersIn_144, wq]
    · rw [if_neg c1, if_neg (fun z => c1 (hl.mpr z))]
      have hdy : cDy (dayS t r s') = cDy s' + 1 := rfl
      obtain ⟨M', b1, b2, b3⟩ := ih f M1 (dayS t r s') (i + 1) k1 hC1 a4 c1 (by omega) (by omega) (by omega) h3 (by omega)
      exact ⟨M', b1, b2, f1.trans b3⟩
theorem NW.q {M M' : ZM} (h : NW S M) (q : ∀ x j, pkN x j → M' x j = M x j) : NW S M' := ⟨h.1, h.2.j q⟩
theorem CQ.trial2 (h : CQ S M t s e r) : ∃ M', pX6_copyFrom S M 142 23 = some M' ∧ CQ S M' t s e r ∧ CS M' t 142 s ∧ FQ M M' ∧ ∀ x, (x < 142 ∨ 146 < x) → M' x = M x := by
  obtain ⟨M', a1, a2, a3, a4, a5, a6⟩ := c_copyScene (S := S) (M := M) (a := 23) (b := 142) (shC_of h.1.1).1 (shC_of h.1.1).2.1 (ptC_of h.1.2).1 (ptC_of h.1.2).2.1 (by omega)
  have f : FQ M M' := fun x y => a2 x (by omega)
  have hn : NW S M' := h.1.q (fun x j k => by
    unfold pkN at k
    by_cases z : x = 142
    · subst z; exact a3 j (by omega) (by omega) (by omega)
    · rw [a2 x (by omega)])
  exact ⟨M', a1, h.fq hn f, h.2.2.1.rows h.ok a4 a5 a6, f, fun x y => a2 x (by omega)⟩
theorem c_writersIn_6 (hs : 2 ≤ tSd t ∧ tSd t ≤ 6) (hlt : ScLt t s) {c n : Int} (hc : 0 ≤ c ∧ c < tSd t * tSd t) (hn : 1 ≤ n ∧ n ≤ 60) : ∀ (k fuel : Nat) (M : ZM) (q x : Int), CQ S M t s e r → q + k = tPn t → 0 ≤ q → (0 ≤ x ∧ x < zshl 1 q) → k < fuel → ∃ M', pX1_writersIn_6 S fuel M 137 16 e c n x q = some (wroteF t r s c n.toNat k q x, M') ∧ NW S M' ∧ FQ M M' := by
  intro k
  induction k with
  | zero =>
    intro fuel M q x h h1 h2 h3 h4
    obtain ⟨f, rfl⟩ : ∃ f, fuel = f + 1 := ⟨fuel - 1, by omega⟩
    have hpn := h.tt.2.2.2.2.2.1
    refine ⟨M, ?_, h.1, FQ.refl M⟩
    simp [pX1_writersIn_6, h.1.1.o, h.1.2.o, hpn, show tPn t ≤ q by omega, wroteF]
  | succ k ih =>
    intro fuel M q x h h1 h2 h3 h4
    obtain ⟨f, rfl⟩ : ∃ f, fuel = f + 1 := ⟨fuel - 1, by omega⟩
    have hp := h.ok.2.2.1
    have hpn := h.tt.2.2.2.2.2.1
    have hlp : ¬ tPn t ≤ q := by omega
    have hwb := wb (q := q) (x := x) (by omega) h3
    have hsq := shl_p (p := q) (by omega)
    obtain ⟨M1, a1, a2, a3, a4, a5⟩ := h.trial2
    have e4 : M1 142 4 = cSy s := a3.2.2.2.1
    have hob := oth_b h.go.1.2.2 hp (q := q) (by omega)
    have k1 : CQ S (upM M1 142 4 (othS (cSy s) (tPn t) q)) t s e r := a2.up (by omega) (by unfold pkN; omega)
    have k2 : CS (upM M1 142 4 (othS (cSy s) (tPn t) q)) t 142 (scSy s (othS (cSy s) (tPn t) q)) := scSy_CS a3
    have f2 : FQ M (upM M1 142 4 (othS (cSy s) (tPn t) q)) := a4.trans (fun y z => upM_r (by omega))
    obtain ⟨M2, b1, b2, b3⟩ := c_writersIn_58 hs (q := q) (c := c) (n := n) (d0 := cDy s) (x := x) (k6 := pX1_writersIn_6 S f) (by omega) hc hwb.1 hwb.2.1 (by unfold in32; omega) n.toNat zFU _ _ 0 k1 k2 ((h.go.sy hob).le (by omega)) (fun z => by
      have := hlt c hc.1 hc.2 (by have := z.1; change cWh s c = q at this; omega)
      have := z.2
      change cDy s ≤ cSi s c at this
      omega) (Int.le_refl _) (by omega) (by omega) (by omega) (zFU_gt (by omega))
    have e6 : pX1_writersIn_6 S (f + 1) M 137 16 e c n x q = pX1_writersIn_58 S (pX1_writersIn_6 S f) zFU (upM M1 142 4 (othS (cSy s) (tPn t) q)) 137 16 e c n x q 0 := by
      rw [pX1_writersIn_6]
      simp [h.1.1.o, h.1.2.o, hpn, hlp, a1, a2.1.2.o, c_allPens a2.tt, e4, zlet, pX1_writersIn_55, othS]
    rw [e6, b1, wroteF]
    have hx' : 0 ≤ zor x (if leavesF t r q c (cDy s) n.toNat (scSy s (othS (cSy s) (tPn t) q)) = 0 then 0 else zshl 1 q) ∧ zor x (if leavesF t r q c (cDy s) n.toNat (scSy s (othS (cSy s) (tPn t) q)) = 0 then 0 else zshl 1 q) < zshl 1 (q + 1) := by
      split
      · rw [zor_0 (by unfold in32; omega)]; omega
      · exact hwb.2.2.1
    obtain ⟨M', d1, d2, d3⟩ := ih f M2 (q + 1) _ b2 (by omega) (by omega) hx' (by omega)
    exact ⟨M', d1, d2, (f2.trans b3).trans d3⟩
theorem c_wrote (h : CQ S M t s e r) (hlt : ScLt t s) {c n : Int} : ∃ M', pX11_wrote S M 1 c n = some (wroteA t r s c n, M') ∧ NW S M' ∧ FQ M M' := by
  unfold wroteA
  by_cases g1 : 0 ≤ c ∧ c < tSd t * tSd t
  · by_cases g2 : 1 ≤ n ∧ n ≤ 60
    · have hs : 2 ≤ tSd t ∧ tSd t ≤ 6 := by
        rcases h.ok.1 with h0 | h0
        · rw [h0] at g1; omega
        · exact h0
      have hp := h.ok.2.2.1
      obtain ⟨M', b1, b2, b3⟩ := c_writersIn_6 hs hlt g1 g2 (tPn t).toNat zFU M 0 0 h (by omega) (by omega) (by decide) (zFU_gt (by omega))
      refine ⟨M', ?_, b2, b3⟩
      rw [if_pos ⟨g1, g2⟩]
      simp [pX11_wrote, h.1.1.o, h.1.2.o, c_hasCell h.tt, g1, c_within, g2, c_ruleInForce h, pX1_writersIn, b1]
    · refine ⟨M, ?_, h.1, FQ.refl M⟩
      rw [if_neg (fun z => g2 z.2)]
      simp [pX11_wrote, pX11_wrote_24, h.1.1.o, h.1.2.o, c_hasCell h.tt, g1, c_within, g2]
  · refine ⟨M, ?_, h.1, FQ.refl M⟩
    rw [if_neg (fun z => g1 z.1)]
    simp [pX11_wrote, pX11_wrote_24, h.1.1.o, h.1.2.o, c_hasCell h.tt, g1]
/-- where pens go does not hang on who writes -/
theorem days_at (t : Td) (r r' : Ru) : ∀ (n : Nat) (s s2 : Sc), cAt s = cAt s2 → cSt s = cSt s2 → cSy s = cSy s2 → cDy s = cDy s2 → cAt (daysS t r n s) = cAt (daysS t r' n s2) := by
  intro n
  induction n with
  | zero => intro s s2 h1 _ _ _; exact h1
  | succ n ih =>
    intro s s2 h1 h2 h3 h4
    refine ih (dayS t r s) (dayS t r' s2) ?_ h2 h3 ?_
    · show posS t s = posS t s2
      funext q
      unfold posS
      rw [h1, h2, h3, h4]
    · show cDy s + 1 = cDy s2 + 1
      rw [h4]
theorem scAt_CS {v q b : Int} (h : CS M t b s) : CS (upM M (b + 1) q v) t b (scAt s q v) := by
  obtain ⟨h1, h2, h3, h4, h5, h6⟩ := h
  refine ⟨fun i x y => ⟨?_, ?_⟩, fun c x y => ?_, fun c x y => ?_, ?_, ?_, ?_⟩
  · show _ = if i = q then v else cAt s i
    by_cases z : i = q
    · subst z; rw [upM_s, if_pos rfl]
    · rw [upM_i z, if_neg z]; exact (h1 i x y).1
  · rw [upM_r (by omega)]; exact (h1 i x y).2
  · rw [upM_r (by omega), upM_r (by omega)]; exact h2 c x y
  · rw [upM_r (by omega)]; exact h3 c x y
  · rw [upM_r (by omega)]; exact h4
  · rw [upM_r (by omega)]; exact h5
  · rw [upM_r (by omega)]; exact h6
theorem c_came_10 (hs : 2 ≤ tSd t ∧ tSd t ≤ 6) {q c n what : Int} (hq : 0 ≤ q ∧ q < tPn t) (hn : 1 ≤ n ∧ n ≤ 60) : ∀ (k fuel : Nat) (M : ZM) (i m f0 : Int), CQ S M t s e r → i + k = tSd t * tSd t → 0 ≤ i → (0 ≤ m ∧ m ≤ i) → ((m = 0 ∧ f0 = -2) ∨ (0 < m ∧ 0 ≤ f0)) → k < fuel → ∃ M', pX1_beginnings_10 S fuel M 137 16 q c n what m f0 i = some (if what = 0 then (cameF t r s q c n.toNat k i m f0).1 else (cameF t r s q c n.toNat k i m f0).2, M') ∧ NW S M' ∧ FQ M M' := by
  intro k
  induction k with
  | zero =>
    intro fuel M i m f0 h h1 h2 h3 h4 h5
    obtain ⟨f, rfl⟩ : ∃ f, fuel = f + 1 := ⟨fuel - 1, by omega⟩
    have hcc := h.tt.2.2.2.1
    refine ⟨M, ?_, h.1, FQ.refl M⟩
    simp [pX1_beginnings_10, h.1.1.o, h.1.2.o, hcc, show tSd t * tSd t ≤ i by omega, cameF]
  | succ k ih =>
    intro fuel M i m f0 h h1 h2 h3 h4 h5
    obtain ⟨f, rfl⟩ : ∃ f, fuel = f + 1 := ⟨fuel - 1, by omega⟩
    have ho := h.ok
    have hp := ho.2.2.1
    have hb := sq_b ho.1
    have hcc := h.tt.2.2.2.1
    have hlt : ¬ tSd t * tSd t ≤ i := by omega
    have wi : w32 (i + 1) = i + 1 := w32_i (by omega) (by omega)
    have wm : w32 (m + 1) = m + 1 := w32_i (by omega) (by omega)
    have hq5 : q < 5 := by omega
    obtain ⟨M1, a1, a2, a3, a4, a5⟩ := h.trial2
    have k1 : CQ S (upM M1 143 q i) t s e r := a2.up (by omega) (by unfold pkN; omega)
    have k2 : CS (upM M1 143 q i) t 142 (scAt s q i) := scAt_CS (b := 142) a3
    have f2 : FQ M (upM M1 143 q i) := a4.trans (fun y z => upM_r (by omega))
    obtain ⟨M2, b1, b2, b3, b4⟩ := c_pass ho hs (m := 0) (n := n) (r := none) (e := 0) (by omega) ((h.go.at (q := q) (v := i) (by omega)).le (by omega)) ⟨fun _ => rfl, fun g z => by cases z⟩ (k1.cd1 k2)
    have hn2 := k1.1.fr b3 (Or.inl ⟨rfl, rfl⟩)
    have f3 := FQ.fr b3 (Or.inl ⟨rfl, rfl⟩)
    have k3 := k1.fq hn2 f3
    have e1 := (b2.2.2.2.2.1 q hq.1 hq.2).1
    simp only [show (142 : Int) + 1 = 143 from rfl] at e1
    rw [← days_at t r none n.toNat (scAt s q i) (scAt s q i) rfl rfl rfl rfl] at e1
    have e10 : pX1_beginnings_10 S (f + 1) M 137 16 q c n what m f0 i = pX1_beginnings_10 S f M2 137 16 q c n what (if cAt (daysS t r n.toNat (scAt s q i)) q = c then m + 1 else m) (if cAt (daysS t r n.toNat (scAt s q i)) q = c then (if f0 = -2 then i else f0) else f0) (i + 1) := by
      rw [pX1_beginnings_10]
      simp [h.1.1.o, h.1.2.o, hcc, hlt, a1, a2.1.2.o, hq.1, hq5, zlet, pX1_beginnings_44, k1.1.2.o, b1, hn2.2.o, e1, wi, wm]
    rw [e10, cameF]
    by_cases c1 : cAt (daysS t r n.toNat (scAt s q i)) q = c
    · simp only [if_pos c1]
      have e0 : (if f0 = -2 then i else f0) = (if m = 0 then i else f0) := by
        rcases h4 with ⟨z1, z2⟩ | ⟨z1, z2⟩
        · rw [if_pos z2, if_pos z1]
        · rw [if_neg (by omega), if_neg (by omega)]
      rw [e0]
      obtain ⟨M', d1, d2, d3⟩ := ih f M2 (i + 1) (m + 1) (if m = 0 then i else f0) k3 (by omega) (by omega) (by omega) (by
        right
        refine ⟨by omega, ?_⟩
        split
        · exact h2
        · omega) (by omega)
      exact ⟨M', d1, d2, (f2.trans f3).trans d3⟩
    · simp only [if_neg c1]
      obtain ⟨M', d1, d2, d3⟩ := ih f M2 (i + 1) m f0 k3 (by omega) (by omega) (by omega) h4 (by omega)
      exact ⟨M', d1, d2, (f2.trans f3).trans d3⟩
theorem c_came (h : CQ S M t s e r) {q c n what : Int} : ∃ M', pX11_came S M 1 q c n what = some (cameA t r s q c n what, M') ∧ NW S M' ∧ FQ M M' := by
  have hb := nCl_b h.ok
  unfold cameA
  by_cases g0 : 0 ≤ q ∧ q < tPn t
  · by_cases g1 : 0 ≤ c ∧ c < tSd t * tSd t
    · by_cases g2 : 1 ≤ n ∧ n ≤ 60
      · by_cases g3 : 0 ≤ what ∧ what ≤ 1
        · have hs : 2 ≤ tSd t ∧ tSd t ≤ 6 := by
            rcases h.ok.1 with h0 | h0
            · rw [h0] at g1; omega
            · exact h0
          obtain ⟨M', b1, b2, b3⟩ := c_came_10 hs (c := c) (what := what) g0 g2 (nCl t) zFU M 0 0 (-2) h (by omega) (by omega) (by omega) (by omega) (zFU_gt (by omega))
          refine ⟨M', ?_, b2, b3⟩
          rw [if_pos ⟨g0, g1, g2, g3⟩]
          simp [pX11_came, h.1.1.o, h.1.2.o, c_hasPen h.tt, g0, c_hasCell h.tt, g1, c_within, g2, g3, pX1_beginnings, b1]
        · refine ⟨M, ?_, h.1, FQ.refl M⟩
          rw [if_neg (fun z => g3 z.2.2.2)]
          simp [pX11_came, pX11_came_48, h.1.1.o, h.1.2.o, c_hasPen h.tt, g0, c_hasCell h.tt, g1, c_within, g2, g3]
      · refine ⟨M, ?_, h.1, FQ.refl M⟩
        rw [if_neg (fun z => g2 z.2.2.1)]
        simp [pX11_came, pX11_came_48, h.1.1.o, h.1.2.o, c_hasPen h.tt, g0, c_hasCell h.tt, g1, c_within, g2]
    · refine ⟨M, ?_, h.1, FQ.refl M⟩
      rw [if_neg (fun z => g1 z.2.1)]
      simp [pX11_came, pX11_came_48, h.1.1.o, h.1.2.o, c_hasPen h.tt, g0, c_hasCell h.tt, g1]
  · refine ⟨M, ?_, h.1, FQ.refl M⟩
    rw [if_neg (fun z => g0 z.1)]
    simp [pX11_came, pX11_came_48, h.1.1.o, h.1.2.o, c_hasPen h.tt, g0]
end
