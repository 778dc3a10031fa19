/-! THE CLASS: what a scene counts; ahead, sign, clean, hold -/
theorem cnt_add (f : Int → Prop) [DecidablePred f] : ∀ (a b : Nat) (c : Int), cnt f (a + b) c = cnt f a c + cnt f b (c + a) := by
  intro a
  induction a with
  | zero => intro b c; simp [cnt]
  | succ a ih =>
    intro b c
    rw [show a + 1 + b = (a + b) + 1 by omega]
    simp only [cnt]
    rw [ih b (c + 1), show c + 1 + (a : Int) = c + ((a + 1 : Nat) : Int) by omega]
    omega
theorem cnt_none {f : Int → Prop} [DecidablePred f] : ∀ (k : Nat) (c : Int), (∀ i, c ≤ i → i < c + k → ¬ f i) → cnt f k c = 0 := by
  intro k
  induction k with
  | zero => intro c _; rfl
  | succ k ih =>
    intro c h
    simp only [cnt]
    rw [if_neg (h c (by omega) (by omega)), ih (c + 1) (fun i a b => h i (by omega) (by omega))]
    rfl
theorem cnt_not (f : Int → Prop) [DecidablePred f] : ∀ (k : Nat) (c : Int), cnt (fun i => ¬ f i) k c = k - cnt f k c := by
  intro k
  induction k with
  | zero => intro c; rfl
  | succ k ih =>
    intro c
    simp only [cnt]
    rw [ih (c + 1)]
    by_cases h : f c
    · rw [if_pos h, if_neg (fun z => z h)]; omega
    · rw [if_neg h, if_pos h]; omega
theorem cnt_full {f : Int → Prop} [DecidablePred f] : ∀ (k : Nat) (c : Int), cnt f k c = k ↔ ∀ i, c ≤ i → i < c + k → f i := by
  intro k
  induction k with
  | zero => intro c; exact ⟨fun _ i a b => by omega, fun _ => rfl⟩
  | succ k ih =>
    intro c
    have hb := cnt_b f k (c + 1)
    simp only [cnt]
    constructor
    · intro h
      by_cases q : f c
      · rw [if_pos q] at h
        have h2 := (ih (c + 1)).mp (by omega)
        intro i a b
        by_cases z : i = c
        · subst z; exact q
        · exact h2 i (by omega) (by omega)
      · rw [if_neg q] at h; omega
    · intro h
      rw [if_pos (h c (by omega) (by omega)), (ih (c + 1)).mpr (fun i a b => h i (by omega) (by omega))]
      omega
section
variable {S : ZS} {M : ZM} {t : Td} {s : Sc} {a b : Int}
theorem c_strokesOf_4 (hS : ShC S b) (hP : PtC M b) (q : Int) : ∀ (k fuel : Nat) (c n0 : Int), c + k = 36 → 0 ≤ c → 0 ≤ n0 ∧ n0 + k ≤ 1000 → k < fuel → pX6_strokesOf_4 S fuel M b q n0 c = some (n0 + cnt (fun c => M (b + 3) c = q) k c, M) := by
  intro k
  induction k with
  | zero =>
    intro fuel c n0 h1 h2 h3 h4
    obtain ⟨f, rfl⟩ : ∃ f, fuel = f + 1 := ⟨fuel - 1, by omega⟩
    simp [pX6_strokesOf_4, show 36 ≤ c by omega, cnt]
  | succ k ih =>
    intro fuel c n0 h1 h2 h3 h4
    obtain ⟨f, rfl⟩ : ∃ f, fuel = f + 1 := ⟨fuel - 1, by omega⟩
    have i0 := ih f (c + 1) n0 (by omega) (by omega) (by omega) (by omega)
    have i1 := ih f (c + 1) (n0 + 1) (by omega) (by omega) (by omega) (by omega)
    simp only [pX6_strokesOf_4]
    rw [w32_i (x := c + 1) (by omega) (by omega), w32_i (x := n0 + 1) (by omega) (by omega)]
    simp only [hS, hP, true_and, if_true, cnt]
    rw [if_neg (by omega), if_pos (by omega)]
    by_cases z : M (b + 3) c = q
    · simp only [if_pos z]; rw [i1, Int.add_assoc]
    · simp only [if_neg z]; rw [i0, Int.zero_add]
theorem c_strokesOf (ho : TdOk t) (hS : ShC S b) (hP : PtC M b) (hC : CS M t b s) {q : Int} (hq : 0 ≤ q) : pX6_strokesOf S M b q = some (inkS t s q, M) := by
  have hn := nCl_b ho
  rw [pX6_strokesOf, c_strokesOf_4 hS hP q 36 zFU 0 0 (by omega) (by omega) (by omega) (zFU_gt (by omega)), Int.zero_add]
  have e : (36 : Nat) = nCl t + (36 - nCl t) := by omega
  have e2 : cnt (fun c => M (b + 3) c = q) 36 0 = inkS t s q := by
    rw [e, cnt_add, cnt_none (36 - nCl t) (0 + (nCl t : Int)) (fun i x y => by
      rw [hC.2.2.1 i (by omega) (by omega)]; omega)]
    unfold inkS
    rw [cnt_congr (g := fun c => cWh s c = q) (nCl t) 0 (fun i x y => by rw [(hC.2.1 i x (by omega)).1])]
    omega
  rw [e2]
theorem c_strokes_4 (hS : ShC S b) (hP : PtC M b) : ∀ (k fuel : Nat) (c n0 : Int), c + k = 36 → 0 ≤ c → 0 ≤ n0 ∧ n0 + k ≤ 1000 → k < fuel → pX6_strokes_4 S fuel M b n0 c = some (n0 + cnt (fun c => ¬ M (b + 3) c = -1) k c, M) := by
  intro k
  induction k with
  | zero =>
    intro fuel c n0 h1 h2 h3 h4
    obtain ⟨f, rfl⟩ : ∃ f, fuel = f + 1 := ⟨fuel - 1, by omega⟩
    simp [pX6_strokes_4, show 36 ≤ c by omega, cnt]
  | succ k ih =>
    intro fuel c n0 h1 h2 h3 h4
    obtain ⟨f, rfl⟩ : ∃ f, fuel = f + 1 := ⟨fuel - 1, by omega⟩
    have i0 := ih f (c + 1) n0 (by omega) (by omega) (by omega) (by omega)
    have i1 := ih f (c + 1) (n0 + 1) (by omega) (by omega) (by omega) (by omega)
    simp only [pX6_strokes_4]
    rw [w32_i (x := c + 1) (by omega) (by omega), w32_i (x := n0 + 1) (by omega) (by omega)]
    simp only [hS, hP, true_and, if_true, cnt]
    rw [if_neg (by omega), if_pos (by omega)]
    by_cases z : M (b + 3) c = -1
    · simp only [z, not_true, if_false, if_true]; rw [i0, Int.zero_add]
    · simp only [z, not_false_eq_true, if_true, if_false]; rw [i1, Int.add_assoc]
theorem c_strokes (ho : TdOk t) (hS : ShC S b) (hP : PtC M b) (hC : CS M t b s) : pX6_strokes S M b = some (allS t s, M) := by
  have hn := nCl_b ho
  rw [pX6_strokes, c_strokes_4 hS hP 36 zFU 0 0 (by omega) (by omega) (by omega) (zFU_gt (by omega)), Int.zero_add]
  have e : (36 : Nat) = nCl t + (36 - nCl t) := by omega
  have e2 : cnt (fun c => ¬ M (b + 3) c = -1) 36 0 = allS t s := by
    rw [e, cnt_add, cnt_none (36 - nCl t) (0 + (nCl t : Int)) (fun i x y => by
      rw [hC.2.2.1 i (by omega) (by omega)]; exact fun z => z rfl), cnt_not]
    unfold allS inkS
    rw [cnt_congr (g := fun c => cWh s c = -1) (nCl t) 0 (fun i x y => by rw [(hC.2.1 i x (by omega)).1])]
    omega
  rw [e2]
theorem c_like_4 (ho : TdOk t) (hT : TT S M a t) (hS : ShC S b) (hP : PtC M b) (hC : CS M t b s) : ∀ (k fuel : Nat) (c n0 : Int), c + k = tSd t * tSd t → 0 ≤ c → 0 ≤ n0 ∧ n0 + k ≤ 1000 → k < fuel → pX6_like_4 S fuel M b a n0 c = some (n0 + cnt (fun c => (cWh s c ≠ -1) = (tMk t c = 1)) k c, M) := by
  have hb := sq_b ho.1
  intro k
  induction k with
  | zero =>
    intro fuel c n0 h1 h2 h3 h4
    obtain ⟨f, rfl⟩ : ∃ f, fuel = f + 1 := ⟨fuel - 1, by omega⟩
    have hc := hT.2.2.2.1
    simp [pX6_like_4, hT.1, hc, show tSd t * tSd t ≤ c by omega, cnt]
  | succ k ih =>
    intro fuel c n0 h1 h2 h3 h4
    obtain ⟨f, rfl⟩ : ∃ f, fuel = f + 1 := ⟨fuel - 1, by omega⟩
    have hc := hT.2.2.2.1
    have i0 := ih f (c + 1) n0 (by omega) (by omega) (by omega) (by omega)
    have i1 := ih f (c + 1) (n0 + 1) (by omega) (by omega) (by omega) (by omega)
    have e1 := (hC.2.1 c h2 (by omega)).1
    have e2 := hT.2.2.2.2.2.2.2.2 c h2 (by omega)
    have w1 : w32 (c + 1) = c + 1 := w32_i (by omega) (by omega)
    have w2 : w32 (n0 + 1) = n0 + 1 := w32_i (by omega) (by omega)
    have g1 : ¬ tSd t * tSd t ≤ c := by omega
    have g2 : c < 36 := by omega
    rw [pX6_like_4]
    by_cases c1 : cWh s c = -1 <;> by_cases c2 : tMk t c = 1 <;>
      simp [pX6_like_27, pX6_like_42, hT.1, hT.2.1, hS, hP, hc, g1, g2, h2, e1, e2, c1, c2, w1, w2, i0, i1, cnt, Int.add_assoc]
theorem c_like (ho : TdOk t) (hT : TT S M a t) (hS : ShC S b) (hP : PtC M b) (hC : CS M t b s) : pX6_like S M b a = some (likeS t s, M) := by
  have hn := nCl_b ho
  rw [pX6_like, c_like_4 ho hT hS hP hC (nCl t) zFU 0 0 (by omega) (by omega) (by omega) (zFU_gt (by omega)), Int.zero_add]
  rfl
theorem c_fillsMark_2 (ho : TdOk t) (hT : TT S M a t) (hS : ShC S b) (hP : PtC M b) (hC : CS M t b s) : ∀ (k fuel : Nat) (c : Int), c + k = tSd t * tSd t → 0 ≤ c → k < fuel → pX6_fillsMark_2 S fuel M b a c = some (if sgnB t 0 s k c = true then 1 else 0, M) := by
  have hb := sq_b ho.1
  intro k
  induction k with
  | zero =>
    intro fuel c h1 h2 h4
    obtain ⟨f, rfl⟩ : ∃ f, fuel = f + 1 := ⟨fuel - 1, by omega⟩
    have hc := hT.2.2.2.1
    simp [pX6_fillsMark_2, hT.1, hc, show tSd t * tSd t ≤ c by omega, sgnB]
  | succ k ih =>
    intro fuel c h1 h2 h4
    obtain ⟨f, rfl⟩ : ∃ f, fuel = f + 1 := ⟨fuel - 1, by omega⟩
    have hc := hT.2.2.2.1
    have i0 := ih f (c + 1) (by omega) (by omega) (by omega)
    have e1 := (hC.2.1 c h2 (by omega)).1
    have e2 := hT.2.2.2.2.2.2.2.2 c h2 (by omega)
    have w1 : w32 (c + 1) = c + 1 := w32_i (by omega) (by omega)
    have g1 : ¬ tSd t * tSd t ≤ c := by omega
    have g2 : c < 36 := by omega
    rw [pX6_fillsMark_2]
    by_cases c1 : cWh s c = -1 <;> by_cases c2 : tMk t c = 1 <;>
      simp [pX6_fillsMark_32, hT.1, hT.2.1, hS, hP, hc, g1, g2, h2, e1, e2, c1, c2, w1, i0, sgnB]
theorem c_fillsMark (ho : TdOk t) (hT : TT S M a t) (hS : ShC S b) (hP : PtC M b) (hC : CS M t b s) : pX6_fillsMark S M b a = some (if sgnB t 0 s (nCl t) 0 = true then 1 else 0, M) := by
  have hn := nCl_b ho
  exact c_fillsMark_2 ho hT hS hP hC (nCl t) zFU 0 (by omega) (by omega) (zFU_gt (by omega))
theorem sgn_like (ho : TdOk t) : (sgnB t 1 s (nCl t) 0 = true) ↔ likeS t s = tSd t * tSd t := by
  have hn := nCl_b ho
  have key : ∀ (k : Nat) (c : Int), 0 ≤ c → c + k ≤ 36 → ((sgnB t 1 s k c = true) ↔ ∀ i, c ≤ i → i < c + k → ((cWh s i ≠ -1) = (tMk t i = 1))) := by
    intro k
    induction k with
    | zero => intro c h1 h2; exact ⟨fun _ i x y => by omega, fun _ => rfl⟩
    | succ k ih =>
      intro c h1 h2
      have i0 := ih (c + 1) (by omega) (by omega)
      have hm := ho.2.2.2.2.2 c h1 (by omega)
      have step : (∀ i, c ≤ i → i < c + ((k + 1 : Nat) : Int) → ((cWh s i ≠ -1) = (tMk t i = 1))) ↔ (((cWh s c ≠ -1) = (tMk t c = 1)) ∧ ∀ i, c + 1 ≤ i → i < c + 1 + k → ((cWh s i ≠ -1) = (tMk t i = 1))) := by
        constructor
        · intro h
          exact ⟨h c (by omega) (by omega), fun i x y => h i (by omega) (by omega)⟩
        · rintro ⟨h, h'⟩ i x y
          by_cases z : i = c
          · subst z; exact h
          · exact h' i (by omega) (by omega)
      rw [step, ← i0]
      simp only [sgnB]
      by_cases c1 : cWh s c = -1 <;> rcases hm with c2 | c2 <;> simp [c1, c2]
  rw [key (nCl t) 0 (by omega) (by omega)]
  unfold likeS
  rw [← hn.1, cnt_full]
theorem c_isThere (hT : TT S M a t) : pX9_isThere S M a = some (if tSd t ≤ 0 then 0 else 1, M) := by
  have h0 := hT.2.2.1
  simp [pX9_isThere, hT.1, h0]
theorem c_hasPen (hT : TT S M a t) {q : Int} : pX9_hasPen S M a q = some (if 0 ≤ q ∧ q < tPn t then 1 else 0, M) := by
  have h0 := hT.2.2.2.2.2.1
  by_cases h1 : q < 0
  · simp [pX9_hasPen, pX9_hasPen_16, pX9_hasPen_17, h1, show ¬ 0 ≤ q by omega]
  · by_cases h2 : tPn t ≤ q
    · simp [pX9_hasPen, pX9_hasPen_16, pX9_hasPen_17, h1, hT.1, h0, h2, show ¬ q < tPn t by omega]
    · simp [pX9_hasPen, pX9_hasPen_16, pX9_hasPen_17, h1, hT.1, h0, h2, show 0 ≤ q by omega, show q < tPn t by omega]
theorem c_hasCell (hT : TT S M a t) {q : Int} : pX9_hasCell S M a q = some (if 0 ≤ q ∧ q < tSd t * tSd t then 1 else 0, M) := by
  have h0 := hT.2.2.2.1
  by_cases h1 : q < 0
  · simp [pX9_hasCell, pX9_hasCell_16, pX9_hasCell_17, h1, show ¬ 0 ≤ q by omega]
  · by_cases h2 : tSd t * tSd t ≤ q
    · simp [pX9_hasCell, pX9_hasCell_16, pX9_hasCell_17, h1, hT.1, h0, h2, show ¬ q < tSd t * tSd t by omega]
    · simp [pX9_hasCell, pX9_hasCell_16, pX9_hasCell_17, h1, hT.1, h0, h2, show 0 ≤ q by omega, show q < tSd t * tSd t by omega]
theorem c_within {v lo hi : Int} : pX11_within S M v lo hi = some (if lo ≤ v ∧ v ≤ hi then 1 else 0, M) := by
  simp only [pX11_within]
  by_cases h1 : v < lo
  · rw [if_pos h1, if_neg (by omega)]
  · rw [if_neg h1]
    by_cases h2 : hi < v
    · rw [if_pos h2, if_neg (by omega)]
    · rw [if_neg h2, if_pos (by omega)]
variable {e : Int} {r : Ru}
theorem CQ.tt (h : CQ S M t s e r) : TT S M 17 t := ⟨(shT_of h.1.1).2.1, (ptT_of h.1.2).2.1, h.2.1⟩
theorem CQ.ok (h : CQ S M t s e r) : TdOk t := h.2.2.2.2.2.1
theorem CQ.go (h : CQ S M t s e r) : ScGo t s 200 := h.2.2.2.2.2.2
theorem c_ruleInForce (h : CQ S M t s e r) : pX11_ruleInForce S M 1 = some (e, M) := by
  rcases h.2.2.2.2.1 with ⟨h1, h2⟩ | ⟨h1, h2⟩
  · simp [pX11_ruleInForce, pX11_ruleInForce_31, h.1.1.o, h.1.2.o, c_within, h1, h2]
  · have h3 : M 16 9 < 6 := by have := h1.2; omega
    simp [pX11_ruleInForce, pX11_ruleInForce_31, h.1.1.o, h.1.2.o, c_within, h1, h2, h3]
theorem c_after (h : CQ S M t s e r) (hs : 2 ≤ tSd t ∧ tSd t ≤ 6) {n : Int} (hn : 0 ≤ n ∧ n ≤ 100) : ∃ M', pX1_after S M 137 16 e n = some (142, M') ∧ CQ S M' t s e r ∧ CS M' t 142 (daysS t r n.toNat s) ∧ FQ M M' := by
  obtain ⟨M1, a1, a2, a3, a4⟩ := h.trial
  obtain ⟨M2, b1, b2, b3, b4⟩ := c_pass h.ok hs (m := 0) (n := n) (by omega) (h.go.le (by omega)) a2.2.2.2.1.2.1 (a2.cd1 a3)
  have hn2 := a2.1.fr b3 (Or.inl ⟨rfl, rfl⟩)
  have f2 := FQ.fr b3 (Or.inl ⟨rfl, rfl⟩)
  refine ⟨M2, ?_, a2.fq hn2 f2, b2.2.2.2.2, a4.trans f2⟩
  simp [pX1_after, pX1_after_28, h.1.1.o, h.1.2.o, a2.1.2.o, hn2.2.o, a1, b1]
theorem c_ahead (h : CQ S M t s e r) {k n what : Int} : ∃ M', pX11_ahead S M 1 k n what = some (aheadA t r s k n what, M') ∧ NW S M' ∧ FQ M M' := by
  have hT := h.tt
  have ho := h.ok
  have hb := sq_b ho.1
  by_cases g : 0 < tSd t ∧ ((what = 0 ∧ 0 ≤ k ∧ k < tSd t * tSd t) ∨ (what = 1 ∧ 0 ≤ k ∧ k < tPn t) ∨ what = 2 ∨ what = 3) ∧ 0 ≤ n ∧ n ≤ 100
  · obtain ⟨g1, g2, g3⟩ := g
    have hs : 2 ≤ tSd t ∧ tSd t ≤ 6 := by have := ho.1; omega
    have hp := ho.2.2.1
    obtain ⟨M1, a1, a2, a3, a4⟩ := c_after h hs g3
    have hP := (ptC_of a2.1.2).2.1
    have hSC := (shC_of h.1.1).2.1
    have hsn : ¬ tSd t ≤ 0 := by omega
    have e75 : pX11_ahead_75 S M 1 k n what = some (aheadA t r s k n what, M1) := by
      unfold aheadA
      rw [if_pos ⟨g1, g2, g3⟩]
      rcases g2 with ⟨rfl, g4, g5⟩ | ⟨rfl, g4, g5⟩ | rfl | rfl
      · have e := (a3.2.1 k g4 g5).1
        simp only [show (142 : Int) + 3 = 145 from rfl] at e
        simp [pX11_ahead_75, h.1.1.o, h.1.2.o, a2.1.2.o, c_ruleInForce h, a1, g4, show k < 36 by omega, e]
      · have e := (a3.1 k g4 g5).1
        simp only [show (142 : Int) + 1 = 143 from rfl] at e
        simp [pX11_ahead_75, h.1.1.o, h.1.2.o, a2.1.2.o, c_ruleInForce h, a1, g4, show k < 5 by omega, e]
      · have e : pX6_strokes S M1 142 = some (tSd t * tSd t - inkS t (daysS t r n.toNat s) (-1), M1) := c_strokes ho hSC hP a3
        simp [pX11_ahead_75, pX11_ahead_143, h.1.1.o, h.1.2.o, a2.1.2.o, c_ruleInForce h, a1, e]
      · have e := c_like ho a2.tt hSC hP a3
        simp [pX11_ahead_75, pX11_ahead_143, h.1.1.o, h.1.2.o, a2.1.2.o, c_ruleInForce h, a1, e]
    refine ⟨M1, ?_, a2.1, a4⟩
    rw [← e75]
    rcases g2 with ⟨rfl, g4, g5⟩ | ⟨rfl, g4, g5⟩ | rfl | rfl
    · simp [pX11_ahead, pX11_ahead_53, h.1.1.o, h.1.2.o, c_isThere hT, hsn, c_within, g3, c_hasCell hT, g4, g5]
    · simp [pX11_ahead, pX11_ahead_53, h.1.1.o, h.1.2.o, c_isThere hT, hsn, c_within, g3, c_hasPen hT, g4, g5]
    · simp [pX11_ahead, pX11_ahead_53, h.1.1.o, h.1.2.o, c_isThere hT, hsn, c_within, g3]
    · simp [pX11_ahead, pX11_ahead_53, h.1.1.o, h.1.2.o, c_isThere hT, hsn, c_within, g3]
  · refine ⟨M, ?_, h.1, FQ.refl M⟩
    unfold aheadA
    rw [if_neg g]
    by_cases g1 : tSd t ≤ 0
    · simp [pX11_ahead, pX11_ahead_32, h.1.1.o, h.1.2.o, c_isThere hT, g1]
    by_cases g2 : 0 ≤ n ∧ n ≤ 100
    · by_cases g3 : 0 ≤ what ∧ what ≤ 3
      · by_cases w0 : what = 0
        · subst w0
          have g4 : ¬ (0 ≤ k ∧ k < tSd t * tSd t) := by omega
          simp [pX11_ahead, pX11_ahead_72, h.1.1.o, h.1.2.o, c_isThere hT, g1, c_within, g2, c_hasCell hT, g4]
        · by_cases w1 : what = 1
          · subst w1
            have g4 : ¬ (0 ≤ k ∧ k < tPn t) := by omega
            simp [pX11_ahead, pX11_ahead_53, pX11_ahead_72, h.1.1.o, h.1.2.o, c_isThere hT, g1, c_within, g2, c_hasPen hT, g4]
          · omega
      · simp [pX11_ahead, pX11_ahead_32, h.1.1.o, h.1.2.o, c_isThere hT, g1, c_within, g2, g3]
    · simp [pX11_ahead, pX11_ahead_32, h.1.1.o, h.1.2.o, c_isThere hT, g1, c_within, g2]
theorem c_firstMark_14 (hs : 2 ≤ tSd t ∧ tSd t ≤ 6) {cl : Int} (hcl : cl = 0 ∨ cl = 1) : ∀ (k fuel : Nat) (M : ZM) (s' : Sc) (i : Int), CQ S M t s e r → CS M t 142 s' → ScGo t s' (k + 1) → i + k = 100 → 0 ≤ i → k + 1 < fuel → ∃ M', pX1_firstMark_14 S fuel M 137 16 e cl i = some (signF t r cl k s', M') ∧ NW S M' ∧ FQ M M' := by
  intro k
  induction k with
  | zero =>
    intro fuel M s' i h hc hO h1 h2 h3
    obtain ⟨f, rfl⟩ : ∃ f, fuel = f + 1 := ⟨fuel - 1, by omega⟩
    refine ⟨M, ?_, h.1, FQ.refl M⟩
    simp [pX1_firstMark_14, show 100 ≤ i by omega, signF]
  | succ k ih =>
    intro fuel M s' i h hc hO h1 h2 h3
    obtain ⟨f, rfl⟩ : ∃ f, fuel = f + 1 := ⟨fuel - 1, by omega⟩
    have ew : w32 (i + 1) = i + 1 := w32_i (by omega) (by omega)
    have hP := (ptC_of h.1.2).2.1
    have hSC := (shC_of h.1.1).2.1
    have hT := h.tt
    have hni : ¬ 100 ≤ i := by omega
    have e14 : pX1_firstMark_14 S (f + 1) M 137 16 e cl i = pX1_firstMark_65 S (pX1_firstMark_14 S f) M 137 16 e cl i (if sgnB t cl s' (nCl t) 0 = true then 1 else 0) := by
      rw [pX1_firstMark_14]
      rcases hcl with rfl | rfl
      · simp [hni, h.1.1.o, h.1.2.o, c_fillsMark h.ok hT hSC hP hc]
      · have hcell := hT.2.2.2.1
        have hl := sgn_like (s := s') h.ok
        by_cases z : likeS t s' = tSd t * tSd t
        · simp [hni, h.1.1.o, h.1.2.o, c_like h.ok hT hSC hP hc, hcell, z, hl]
        · simp [hni, h.1.1.o, h.1.2.o, c_like h.ok hT hSC hP hc, hcell, z, hl]
    rw [e14, signF]
    by_cases c1 : sgnB t cl s' (nCl t) 0 = true
    · refine ⟨M, ?_, h.1, FQ.refl M⟩
      have e5 : M 142 5 = cDy s' := hc.2.2.2.2.1
      simp [pX1_firstMark_65, c1, h.1.1.o, h.1.2.o, e5]
    · obtain ⟨M1, a1, a2, a3, a4⟩ := c_one h.ok hs hO (h.cd1 hc) h.2.2.2.1.2.1
      have hn1 := h.1.fr a3 (Or.inl ⟨rfl, rfl⟩)
      have f1 := FQ.fr a3 (Or.inl ⟨rfl, rfl⟩)
      obtain ⟨M', b1, b2, b3⟩ := ih f M1 (dayS t r s') (i + 1) (h.fq hn1 f1) a2.2.2.2.2 a4 (by omega) (by omega) (by omega)
      refine ⟨M', ?_, b2, f1.trans b3⟩
      simp [pX1_firstMark_65, c1, h.1.1.o, h.1.2.o, a1, ew, b1]
theorem c_firstMark (h : CQ S M t s e r) (hs : 2 ≤ tSd t ∧ tSd t ≤ 6) {cl : Int} (hcl : cl = 0 ∨ cl = 1) : ∃ M', pX1_firstMark S M 137 16 e cl = some (signF t r cl 100 s, M') ∧ NW S M' ∧ FQ M M' := by
  obtain ⟨M1, a1, a2, a3, a4⟩ := h.trial
  obtain ⟨M', b1, b2, b3⟩ := c_firstMark_14 hs hcl 100 zFU M1 s 0 a2 a3 (h.go.le (by omega)) (by omega) (by omega) (zFU_gt (by omega))
  refine ⟨M', ?_, b2, a4.trans b3⟩
  simp [pX1_firstMark, h.1.1.o, h.1.2.o, a1, b1]
theorem c_sign (h : CQ S M t s e r) : ∃ M', pX11_sign S M 1 = some (signA t r s 0, M') ∧ NW S M' ∧ FQ M M' := by
  unfold signA
  by_cases g : tSd t ≤ 0
  · refine ⟨M, ?_, h.1, FQ.refl M⟩
    simp [pX11_sign, pX11_sign_33, h.1.1.o, h.1.2.o, c_isThere h.tt, g]
  · obtain ⟨M', a1, a2, a3⟩ := c_firstMark h (by have := h.ok.1; omega) (cl := 0) (Or.inl rfl)
    refine ⟨M', ?_, a2, a3⟩
    simp [pX11_sign, pX11_sign_33, h.1.1.o, h.1.2.o, c_isThere h.tt, g, c_ruleInForce h, a1]
theorem c_clean (h : CQ S M t s e r) : ∃ M', pX11_clean S M 1 = some (signA t r s 1, M') ∧ NW S M' ∧ FQ M M' := by
  unfold signA
  by_cases g : tSd t ≤ 0
  · refine ⟨M, ?_, h.1, FQ.refl M⟩
    simp [pX11_clean, pX11_clean_33, h.1.1.o, h.1.2.o, c_isThere h.tt, g]
  · obtain ⟨M', a1, a2, a3⟩ := c_firstMark h (by have := h.ok.1; omega) (cl := 1) (Or.inr rfl)
    refine ⟨M', ?_, a2, a3⟩
    simp [pX11_clean, pX11_clean_33, h.1.1.o, h.1.2.o, c_isThere h.tt, g, c_ruleInForce h, a1]
theorem bc_d : ∀ x : Fin 32, pJ6_bitCount_0f7a4 S M (x.1 : Int) = some (bcF (x.1 : Int) 16 0, M) := by
  intro x
  have h : ∀ x : Fin 32, (zand (w32 (w32 (zand (w32 (w32 (zand (w32 ((x.1 : Int) - zand (zush (x.1 : Int) 1) 1431655765)) 858993459 + zand (zush (w32 ((x.1 : Int) - zand (zush (x.1 : Int) 1) 1431655765)) 2) 858993459) + zush (w32 (zand (w32 ((x.1 : Int) - zand (zush (x.1 : Int) 1) 1431655765)) 858993459 + zand (zush (w32 ((x.1 : Int) - zand (zush (x.1 : Int) 1) 1431655765)) 2) 858993459)) 4)) 252645135 + zush (zand (w32 (w32 (zand (w32 ((x.1 : Int) - zand (zush (x.1 : Int) 1) 1431655765)) 858993459 + zand (zush (w32 ((x.1 : Int) - zand (zush (x.1 : Int) 1) 1431655765)) 2) 858993459) + zush (w32 (zand (w32 ((x.1 : Int) - zand (zush (x.1 : Int) 1) 1431655765)) 858993459 + zand (zush (w32 ((x.1 : Int) - zand (zush (x.1 : Int) 1) 1431655765)) 2) 858993459)) 4)) 252645135) 8) + zush (w32 (zand (w32 (w32 (zand (w32 ((x.1 : Int) - zand (zush (x.1 : Int) 1) 1431655765)) 858993459 + zand (zush (w32 ((x.1 : Int) - zand (zush (x.1 : Int) 1) 1431655765)) 2) 858993459) + zush (w32 (zand (w32 ((x.1 : Int) - zand (zush (x.1 : Int) 1) 1431655765)) 858993459 + zand (zush (w32 ((x.1 : Int) - zand (zush (x.1 : Int) 1) 1431655765)) 2) 858993459)) 4)) 252645135 + zush (zand (w32 (w32 (zand (w32 ((x.1 : Int) - zand (zush (x.1 : Int) 1) 1431655765)) 858993459 + zand (zush (w32 ((x.1 : Int) - zand (zush (x.1 : Int) 1) 1431655765)) 2) 858993459) + zush (w32 (zand (w32 ((x.1 : Int) - zand (zush (x.1 : Int) 1) 1431655765)) 858993459 + zand (zush (w32 ((x.1 : Int) - zand (zush (x.1 : Int) 1) 1431655765)) 2) 858993459)) 4)) 252645135) 8)) 16)) 63) = bcF (x.1 : Int) 16 0 := by decide +kernel
  have := h x
  simp only [pJ6_bitCount_0f7a4, zlet]
  rw [this]
theorem c_bits {x : Int} (hx : 0 ≤ x ∧ x < 32) : pJ6_bitCount_0f7a4 S M x = some (bcF x 16 0, M) := by
  have := bc_d (S := S) (M := M) ⟨x.toNat, by omega⟩
  simp only [Int.toNat_of_nonneg hx.1] at this
  exact this
theorem scSy_CS {v : Int} {b : Int} (h : CS M t b s) : CS (upM M b 4 v) t b (scSy s v) := by
  obtain ⟨h1, h2, h3, h4, h5, h6⟩ := h
  refine ⟨fun q x y => ?_, fun c x y => ?_, fun c x y => ?_, upM_s _ _ _ _, ?_, ?_⟩
  · rw [upM_r (by omega), upM_r (by omega)]; exact h1 q x y
  · rw [upM_r (by omega), upM_r (by omega)]; exact h2 c x y
  · rw [upM_r (by omega)]; exact h3 c x y
  · rw [upM_i (by decide)]; exact h5
  · rw [upM_i (by decide)]; exact h6
theorem NW.up {M : ZM} {x i v : Int} (h : NW S M) (hk : ¬ pkN x i) : NW S (upM M x i v) := ⟨h.1, h.2.j (fun y j k => by
  by_cases z : y = x
  · by_cases z2 : j = i
    · subst z; subst z2; exact absurd k hk
    · subst z; exact upM_i z2
  · rw [upM_r z])⟩
theorem CQ.up {M : ZM} {x i v : Int} (h : CQ S M t s e r) (hx : 137 < x ∧ x < 176) (hk : ¬ pkN x i) : CQ S (upM M x i v) t s e r := h.fq (h.1.up hk) (fun y z => upM_r (by omega))
theorem c_bestStayed_9 (h0 : CQ S M t s e r) (hs : 2 ≤ tSd t ∧ tSd t ≤ 6) {n what : Int} (hn : 1 ≤ n ∧ n ≤ 60) : ∀ (k fuel : Nat) (M : ZM) (x b m : Int), CQ S M t s e r → x + k = zshl 1 (tPn t) → 0 ≤ x → (0 ≤ b ∧ b < 32) → k < fuel → ∃ M', pX1_bestStayed_9 S fuel M 137 16 e n what b m x = some (if what = 0 then (holdF t r s n.toNat k x b m).1 else (holdF t r s n.toNat k x b m).2, M') ∧ NW S M' ∧ FQ M M' := by
  have ho := h0.ok
  have hpb := shl_p ho.2.2.1
  have wa : w32 (zshl 1 (tPn t) - 1) = zshl 1 (tPn t) - 1 := w32_i (by omega) (by omega)
  intro k
  induction k with
  | zero =>
    intro fuel M x b m h h1 h2 hb h3
    obtain ⟨f, rfl⟩ : ∃ f, fuel = f + 1 := ⟨fuel - 1, by omega⟩
    refine ⟨M, ?_, h.1, FQ.refl M⟩
    have g : zshl 1 (tPn t) - 1 < x := by omega
    simp [pX1_bestStayed_9, h.1.1.o, h.1.2.o, c_allPens h.tt, wa, g, holdF]
  | succ k ih =>
    intro fuel M x b m h h1 h2 hb h3
    obtain ⟨f, rfl⟩ : ∃ f, fuel = f + 1 := ⟨fuel - 1, by omega⟩
    have ew : w32 (x + 1) = x + 1 := w32_i (by omega) (by omega)
    have g : ¬ zshl 1 (tPn t) - 1 < x := by omega
    obtain ⟨M1, a1, a2, a3, a4⟩ := h.trial
    have k1 : CQ S (upM M1 142 4 x) t s e r := a2.up (by omega) (by unfold pkN; omega)
    have k2 : CS (upM M1 142 4 x) t 142 (scSy s x) := scSy_CS a3
    obtain ⟨M2, b1, b2, b3, b4⟩ := c_pass ho hs (m := 0) (n := n) (by omega) ((h.go.sy (v := x) (by omega)).le (by omega)) k1.2.2.2.1.2.1 (k1.cd1 k2)
    have hn2 := k1.1.fr b3 (Or.inl ⟨rfl, rfl⟩)
    have f2 := FQ.fr b3 (Or.inl ⟨rfl, rfl⟩)
    have k3 : CQ S M2 t s e r := k1.fq hn2 f2
    have f3 : FQ M M2 := (a4.trans (fun y z => upM_r (by omega))).trans f2
    have lk := c_like ho k3.tt (shC_of h.1.1).2.1 (ptC_of hn2.2).2.1 b2.2.2.2.2
    have hbx := c_bits (S := S) (M := M2) (x := x) (by omega)
    have hbb := c_bits (S := S) (M := M2) (x := b) hb
    have e9 : pX1_bestStayed_9 S (f + 1) M 137 16 e n what b m x = pX1_bestStayed_58 S (pX1_bestStayed_9 S f) M2 137 16 e n what b m x := by
      rw [pX1_bestStayed_9]
      simp [h.1.1.o, h.1.2.o, a2.1.2.o, k1.1.2.o, c_allPens h.tt, wa, g, a1, zlet, b1]
    have e58 : pX1_bestStayed_58 S (pX1_bestStayed_9 S f) M2 137 16 e n what b m x = (if m < likeS t (daysS t r n.toNat (scSy s x)) then pX1_bestStayed_9 S f M2 137 16 e n what x (likeS t (daysS t r n.toNat (scSy s x))) (x + 1) else if likeS t (daysS t r n.toNat (scSy s x)) = m then (if bcF b 16 0 ≤ bcF x 16 0 then pX1_bestStayed_9 S f M2 137 16 e n what b m (x + 1) else pX1_bestStayed_9 S f M2 137 16 e n what x m (x + 1)) else pX1_bestStayed_9 S f M2 137 16 e n what b m (x + 1)) := by
      simp only [pX1_bestStayed_58, pX1_bestStayed_98, pX1_bestStayed_106, h.1.1.o, hn2.2.o, lk, if_true, Option.bind_some, hbx, hbb, ew]
      by_cases c2 : likeS t (daysS t r n.toNat (scSy s x)) = m
      · rw [c2]
      · simp only [if_neg c2]
    rw [e9, e58, holdF]
    by_cases c1 : m < likeS t (daysS t r n.toNat (scSy s x))
    · simp only [if_pos c1]
      obtain ⟨M', d1, d2, d3⟩ := ih f M2 (x + 1) x (likeS t (daysS t r n.toNat (scSy s x))) k3 (by omega) (by omega) (by omega) (by omega)
      exact ⟨M', d1, d2, f3.trans d3⟩
    · simp only [if_neg c1]
      by_cases c2 : likeS t (daysS t r n.toNat (scSy s x)) = m
      · simp only [if_pos c2]
        by_cases c3 : bcF b 16 0 ≤ bcF x 16 0
        · simp only [if_pos c3]
          obtain ⟨M', d1, d2, d3⟩ := ih f M2 (x + 1) b m k3 (by omega) (by omega) hb (by omega)
          exact ⟨M', d1, d2, f3.trans d3⟩
        · simp only [if_neg c3]
          obtain ⟨M', d1, d2, d3⟩ := ih f M2 (x + 1) x m k3 (by omega) (by omega) (by omega) (by omega)
          exact ⟨M', d1, d2, f3.trans d3⟩
      · simp only [if_neg c2]
        obtain ⟨M', d1, d2, d3⟩ := ih f M2 (x + 1) b m k3 (by omega) (by omega) hb (by omega)
        exact ⟨M', d1, d2, f3.trans d3⟩
theorem c_hold (h : CQ S M t s e r) {n what : Int} : ∃ M', pX11_hold S M 1 n what = some (holdA t r s n what, M') ∧ NW S M' ∧ FQ M M' := by
  have hT := h.tt
  have ho := h.ok
  unfold holdA
  by_cases g1 : tSd t ≤ 0
  · refine ⟨M, ?_, h.1, FQ.refl M⟩
    simp [pX11_hold, pX11_hold_32, h.1.1.o, h.1.2.o, c_isThere hT, g1, show ¬ 0 < tSd t by omega]
  by_cases g2 : 1 ≤ n ∧ n ≤ 60
  · by_cases g3 : 0 ≤ what ∧ what ≤ 1
    · have hs : 2 ≤ tSd t ∧ tSd t ≤ 6 := by have := ho.1; omega
      have hpb := shl_p ho.2.2.1
      obtain ⟨M', b1, b2, b3⟩ := c_bestStayed_9 h hs (n := n) (what := what) g2 (zshl 1 (tPn t)).toNat zFU M 0 0 (-1) h (by omega) (by omega) (by omega) (zFU_gt (by omega))
      refine ⟨M', ?_, b2, b3⟩
      rw [if_pos ⟨by omega, g2, g3⟩, ← b1]
      simp [pX11_hold, h.1.1.o, h.1.2.o, c_isThere hT, g1, c_within, g2, g3, c_ruleInForce h, pX1_bestStayed, b1]
    · refine ⟨M, ?_, h.1, FQ.refl M⟩
      rw [if_neg (fun z => g3 z.2.2)]
      simp [pX11_hold, pX11_hold_32, h.1.1.o, h.1.2.o, c_isThere hT, g1, c_within, g2, g3]
  · refine ⟨M, ?_, h.1, FQ.refl M⟩
    rw [if_neg (fun z => g2 z.2.1)]
    simp [pX11_hold, pX11_hold_32, h.1.1.o, h.1.2.o, c_isThere hT, g1, c_within, g2]
end
