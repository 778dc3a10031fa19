/-! RULED, LOOK: the class -/
def tdB (s : Sc) (q : Nt) : Nat → Int → Bool
  | 0, _ => true
  | k + 1, i => if q.2.1 i = cDy s then (if cWh s (q.2.2.1 i) = q.2.2.2 i then tdB s q k (i + 1) else false) else tdB s q k (i + 1)
def agB (t : Td) (r : Ru) (bg : Sc) (q : Nt) : Nat → Nat → Bool
  | 0, _ => true
  | k + 1, d => if tdB (daysS t r d bg) q q.1.toNat 0 = true then agB t r bg q k (d + 1) else false
theorem tdB_c (s : Sc) (q : Nt) : ∀ (k : Nat) (i : Int), (tdB s q k i = true) ↔ ∀ j, i ≤ j → j < i + k → q.2.1 j = cDy s → cWh s (q.2.2.1 j) = q.2.2.2 j := by
  intro k
  induction k with
  | zero => intro i; exact ⟨fun _ j a b => by omega, fun _ => rfl⟩
  | succ k ih =>
    intro i
    have i0 := ih (i + 1)
    have step : (∀ j, i ≤ j → j < i + ((k + 1 : Nat) : Int) → q.2.1 j = cDy s → cWh s (q.2.2.1 j) = q.2.2.2 j) ↔ ((q.2.1 i = cDy s → cWh s (q.2.2.1 i) = q.2.2.2 i) ∧ ∀ j, i + 1 ≤ j → j < i + 1 + k → q.2.1 j = cDy s → cWh s (q.2.2.1 j) = q.2.2.2 j) := by
      constructor
      · intro h; exact ⟨h i (by omega) (by omega), fun j x y => h j (by omega) (by omega)⟩
      · rintro ⟨h, h'⟩ j x y
        by_cases z : j = i
        · subst z; exact h
        · exact h' j (by omega) (by omega)
    rw [step, ← i0]
    simp only [tdB]
    by_cases c1 : q.2.1 i = cDy s
    · by_cases c2 : cWh s (q.2.2.1 i) = q.2.2.2 i
      · simp [c1, c2]
      · simp [c1, c2]
    · simp [c1]
theorem coB_c (t : Td) (r : Ru) (bg : Sc) (q : Nt) : ∀ (k : Nat) (i : Int), (couldB t r bg q k i = true) ↔ ∀ j, i ≤ j → j < i + k → cWh (daysS t r (q.2.1 j).toNat bg) (q.2.2.1 j) = q.2.2.2 j := by
  intro k
  induction k with
  | zero => intro i; exact ⟨fun _ j a b => by omega, fun _ => rfl⟩
  | succ k ih =>
    intro i
    have i0 := ih (i + 1)
    have step : (∀ j, i ≤ j → j < i + ((k + 1 : Nat) : Int) → cWh (daysS t r (q.2.1 j).toNat bg) (q.2.2.1 j) = q.2.2.2 j) ↔ (cWh (daysS t r (q.2.1 i).toNat bg) (q.2.2.1 i) = q.2.2.2 i ∧ ∀ j, i + 1 ≤ j → j < i + 1 + k → cWh (daysS t r (q.2.1 j).toNat bg) (q.2.2.1 j) = q.2.2.2 j) := by
      constructor
      · intro h; exact ⟨h i (by omega) (by omega), fun j x y => h j (by omega) (by omega)⟩
      · rintro ⟨h, h'⟩ j x y
        by_cases z : j = i
        · subst z; exact h
        · exact h' j (by omega) (by omega)
    rw [step, ← i0]
    simp only [couldB]
    by_cases c2 : cWh (daysS t r (q.2.1 i).toNat bg) (q.2.2.1 i) = q.2.2.2 i
    · simp [c2]
    · simp [c2]
theorem agB_c (t : Td) (r : Ru) (bg : Sc) (q : Nt) : ∀ (k d : Nat), (agB t r bg q k d = true) ↔ ∀ j : Nat, d ≤ j → j < d + k → tdB (daysS t r j bg) q q.1.toNat 0 = true := by
  intro k
  induction k with
  | zero => intro d; exact ⟨fun _ j a b => by omega, fun _ => rfl⟩
  | succ k ih =>
    intro d
    have i0 := ih (d + 1)
    have step : (∀ j : Nat, d ≤ j → j < d + (k + 1) → tdB (daysS t r j bg) q q.1.toNat 0 = true) ↔ (tdB (daysS t r d bg) q q.1.toNat 0 = true ∧ ∀ j : Nat, d + 1 ≤ j → j < d + 1 + k → tdB (daysS t r j bg) q q.1.toNat 0 = true) := by
      constructor
      · intro h; exact ⟨h d (by omega) (by omega), fun j x y => h j (by omega) (by omega)⟩
      · rintro ⟨h, h'⟩ j x y
        by_cases z : j = d
        · subst z; exact h
        · exact h' j (by omega) (by omega)
    rw [step, ← i0]
    simp only [agB]
    by_cases c2 : tdB (daysS t r d bg) q q.1.toNat 0 = true
    · simp [c2]
    · simp [c2]
theorem days_dy (t : Td) (r : Ru) : ∀ (n : Nat) (s : Sc), cDy (daysS t r n s) = cDy s + n := by
  intro n
  induction n with
  | zero => intro s; simp [daysS]
  | succ n ih =>
    intro s
    have e : daysS t r (n + 1) s = daysS t r n (dayS t r s) := rfl
    have e2 : cDy (dayS t r s) = cDy s + 1 := rfl
    rw [e, ih, e2]; omega
theorem ag_co {t : Td} {r : Ru} {bg : Sc} {q : Nt} (h0 : cDy bg = 0) (hq : NtOk t q) {last : Nat} (hl : ∀ i, 0 ≤ i → i < q.1 → q.2.1 i ≤ last) : agB t r bg q (last + 1) 0 = couldA t r bg q := by
  have hqb := hq.1
  have key : (agB t r bg q (last + 1) 0 = true) ↔ (couldA t r bg q = true) := by
    unfold couldA
    rw [agB_c, coB_c]
    constructor
    · intro h j x y
      have n1 := (hq.2 j x (by omega)).1
      have l1 := hl j x (by omega)
      have := (tdB_c _ q _ 0).mp (h (q.2.1 j).toNat (by omega) (by omega)) j x y
      rw [days_dy, h0] at this
      exact this (by omega)
    · intro h j x y
      rw [tdB_c]
      intro i a b c
      rw [days_dy, h0] at c
      have := h i a b
      rw [show (q.2.1 i).toNat = j by omega] at this
      exact this
  cases h1 : agB t r bg q (last + 1) 0 <;> cases h2 : couldA t r bg q
  · rfl
  · rw [h1, h2] at key; exact absurd (key.mpr rfl) (by decide)
  · rw [h1, h2] at key; exact absurd (key.mp rfl) (by decide)
  · rfl
/-- the notes in the class's rows -/
def CNt (M : ZM) (q : Nt) : Prop := M 16 7 = q.1 ∧ ∀ i, 0 ≤ i → i < q.1 → M 29 i = q.2.1 i ∧ M 30 i = q.2.2.1 i ∧ M 31 i = q.2.2.2 i
theorem CNt.fq {M M' : ZM} {q : Nt} (h : CNt M q) (f : FQ M M') : CNt M' q := by
  unfold CNt at *
  rw [f 16 (by omega), f 29 (by omega), f 30 (by omega), f 31 (by omega)]; exact h
section
variable {S : ZS} {M : ZM} {t : Td} {s : Sc} {e : Int} {r : Ru}
theorem c_today_2 (h : CQ S M t s e r) {s' : Sc} (hC : CS M t 160 s') {q : Nt} (hq : CNt M q) (hqo : NtOk t q) : ∀ (k fuel : Nat) (i : Int), i + k = q.1 → 0 ≤ i → k < fuel → pX2_agreesToday_2 S fuel M 155 16 i = some (if tdB s' q k i = true then 1 else 0, M) := by
  have hb := sq_b h.ok.1
  have hqb := hqo.1
  have e7 := hq.1
  have e5 : M 160 5 = cDy s' := hC.2.2.2.2.1
  intro k
  induction k with
  | zero =>
    intro fuel i h1 h2 h3
    obtain ⟨f, rfl⟩ : ∃ f, fuel = f + 1 := ⟨fuel - 1, by omega⟩
    simp [pX2_agreesToday_2, h.1.1.o, e7, show q.1 ≤ i by omega, tdB]
  | succ k ih =>
    intro fuel i h1 h2 h3
    obtain ⟨f, rfl⟩ : ∃ f, fuel = f + 1 := ⟨fuel - 1, by omega⟩
    have i0 := ih f (i + 1) (by omega) (by omega) (by omega)
    obtain ⟨n1, n2⟩ := hqo.2 i h2 (by omega)
    obtain ⟨m1, m2, m3⟩ := hq.2 i h2 (by omega)
    have e1 := (hC.2.1 (q.2.2.1 i) n2.1 n2.2).1
    simp only [show (160 : Int) + 3 = 163 from rfl] at e1
    have w3 : w32 (i + 1) = i + 1 := w32_i (by omega) (by omega)
    have g2 : ¬ q.1 ≤ i := by omega
    have g3 : i < 10 := by omega
    have g4 : q.2.2.1 i < 36 := by omega
    rw [pX2_agreesToday_2]
    by_cases c1 : q.2.1 i = cDy s'
    · by_cases c2 : cWh s' (q.2.2.1 i) = q.2.2.2 i
      · simp [h.1.1.o, h.1.2.o, e7, g2, g3, g4, h2, n2.1, m1, m2, m3, e1, e5, c1, c2, pX2_agreesToday_51, w3, i0, tdB]
      · simp [h.1.1.o, h.1.2.o, e7, g2, g3, g4, h2, n2.1, m1, m2, m3, e1, e5, c1, c2, tdB]
    · simp [h.1.1.o, h.1.2.o, e7, g2, g3, h2, m1, e5, c1, pX2_agreesToday_51, w3, i0, tdB]
theorem c_agrees_46 (hs : 2 ≤ tSd t ∧ tSd t ≤ 6) {r1 : Ru} {e1 : Int} {q : Nt} (hqo : NtOk t q) {bg : Sc} {last : Nat} (hl : last ≤ 60) : ∀ (k fuel : Nat) (M : ZM) (d : Nat), CQ S M t s e r → CNt M q → CRu S M e1 156 r1 → CS M t 160 (daysS t r1 d bg) → ScGo t (daysS t r1 d bg) (k + 1) → d + k = last + 1 → k < fuel →
    ∃ M', pX2_agrees_46 S fuel M 155 16 e1 last d = some (if agB t r1 bg q k d = true then 1 else 0, M') ∧ CQ S M' t s e r ∧ FQ M M' ∧ M' 165 = M 165 := by
  have hqb := hqo.1
  intro k
  induction k with
  | zero =>
    intro fuel M d h hq hr hC hG h1 h2
    obtain ⟨f, rfl⟩ : ∃ f, fuel = f + 1 := ⟨fuel - 1, by omega⟩
    refine ⟨M, ?_, h, FQ.refl M, rfl⟩
    simp [pX2_agrees_46, show last < d by omega, agB]
  | succ k ih =>
    intro fuel M d h hq hr hC hG h1 h2
    obtain ⟨f, rfl⟩ : ∃ f, fuel = f + 1 := ⟨fuel - 1, by omega⟩
    have et : pX2_agreesToday S M 155 16 = some (if tdB (daysS t r1 d bg) q q.1.toNat 0 = true then 1 else 0, M) := c_today_2 h hC hq hqo q.1.toNat zFU 0 (by omega) (by omega) (zFU_gt (by omega))
    have wd : w32 ((d : Int) + 1) = ((d + 1 : Nat) : Int) := by rw [w32_i (by omega) (by omega)]; omega
    have hld : ¬ (last : Int) < (d : Int) := by omega
    by_cases z : tdB (daysS t r1 d bg) q q.1.toNat 0 = true
    · obtain ⟨M1, a1, a2, a3, a4⟩ := c_one h.ok hs hG (h.cd2 hC) hr
      have f1 := FQ.fr a3 (Or.inr ⟨rfl, rfl⟩)
      have k1 := h.fq (h.1.fr a3 (Or.inr (Or.inl ⟨rfl, rfl⟩))) f1
      rw [← days_snoc] at a2 a4
      obtain ⟨M', b1, b2, b3, b4⟩ := ih f M1 (d + 1) k1 (hq.fq f1) (hr.eq (fun x y => f1 x (by omega))) a2.2.2.2.2 a4 (by omega) (by omega)
      refine ⟨M', ?_, b2, f1.trans b3, by rw [b4, a3.1 165 (by decide) (by decide) (by decide) (by decide) (by decide) (by decide) (by decide)]⟩
      have eg : agB t r1 bg q (k + 1) d = agB t r1 bg q k (d + 1) := by simp only [agB]; rw [if_pos z]
      rw [eg, ← b1]
      simp only [pX2_agrees_46]
      rw [if_neg hld]
      simp [h.1.1.o, h.1.2.o, et, z, a1, wd]
    · refine ⟨M, ?_, h, FQ.refl M, rfl⟩
      have eg : agB t r1 bg q (k + 1) d = false := by simp only [agB]; rw [if_neg z]
      rw [eg]
      simp only [pX2_agrees_46]
      rw [if_neg hld]
      simp [h.1.1.o, et, z]
theorem c_agrees_5 (h : CQ S M t s e r) {e1 : Int} {q : Nt} (hq : CNt M q) (hqo : NtOk t q) : ∀ (k fuel : Nat) (l i : Int), i + k = q.1 → 0 ≤ i → (0 ≤ l ∧ l ≤ 60) → k < fuel → pX2_agrees_5 S fuel M 155 16 e1 l i = pX2_agrees_5 S 1 M 155 16 e1 (mxF q.2.1 k i l) q.1 := by
  have hqb := hqo.1
  have e7 := hq.1
  intro k
  induction k with
  | zero =>
    intro fuel l i h1 h2 h3 h4
    obtain ⟨f, rfl⟩ : ∃ f, fuel = f + 1 := ⟨fuel - 1, by omega⟩
    have : i = q.1 := by omega
    subst this
    simp [pX2_agrees_5, h.1.1.o, e7, mxF]
  | succ k ih =>
    intro fuel l i h1 h2 h3 h4
    obtain ⟨f, rfl⟩ : ∃ f, fuel = f + 1 := ⟨fuel - 1, by omega⟩
    obtain ⟨n1, n2⟩ := hqo.2 i h2 (by omega)
    obtain ⟨m1, m2, m3⟩ := hq.2 i h2 (by omega)
    have w3 : w32 (i + 1) = i + 1 := w32_i (by omega) (by omega)
    have e2 : (if l < q.2.1 i then q.2.1 i else l) = (if q.2.1 i ≤ l then l else q.2.1 i) := by
      by_cases z : q.2.1 i ≤ l
      · rw [if_neg (by omega), if_pos z]
      · rw [if_pos (by omega), if_neg z]
    have i0 := ih f (if q.2.1 i ≤ l then l else q.2.1 i) (i + 1) (by omega) (by omega) (by split <;> omega) (by omega)
    have e5 : pX2_agrees_5 S (f + 1) M 155 16 e1 l i = pX2_agrees_5 S f M 155 16 e1 (if q.2.1 i ≤ l then l else q.2.1 i) (i + 1) := by
      rw [pX2_agrees_5]
      simp [h.1.1.o, h.1.2.o, e7, show ¬ q.1 ≤ i by omega, h2, show i < 10 by omega, m1, zlet, e2, w3]
    rw [e5, i0]
    rfl
theorem c_agrees (h : CQ S M t s e r) (hs : 2 ≤ tSd t ∧ tSd t ≤ 6) {r1 : Ru} {e1 : Int} (hr : CRu S M e1 156 r1) {q : Nt} (hq : CNt M q) (hqo : NtOk t q) {ta ts : Int → Int} (h8 : ∀ q, 0 ≤ q → q < tPn t → M 18 q = ta q ∧ M 19 q = ts q) (htp : TpOk t ta ts) :
    ∃ M', pX2_agrees S M 155 16 e1 = some (if couldA t r1 (bgS ta ts) q = true then 1 else 0, M') ∧ CQ S M' t s e r ∧ FQ M M' ∧ M' 165 = M 165 := by
  have hqb := hqo.1
  have hm := mxF_c q.2.1 q.1.toNat 0 0
  have e5 := c_agrees_5 h (e1 := e1) hq hqo q.1.toNat zFU 0 0 (by omega) (by omega) (by omega) (zFU_gt (by omega))
  generalize hl : mxF q.2.1 q.1.toNat 0 0 = L at *
  have hLb : 0 ≤ L ∧ L ≤ 60 := by
    refine ⟨hm.1, ?_⟩
    rcases hm.2.2 with z | ⟨j, a, b, c⟩
    · omega
    · have := (hqo.2 j a (by omega)).1
      omega
  obtain ⟨M1, a1, a2, a3, a4, a5⟩ := h.trialB h8
  obtain ⟨M', b1, b2, b3, b4⟩ := c_agrees_46 (e := e) (r := r) hs (r1 := r1) (e1 := e1) hqo (bg := bgS ta ts) (last := L.toNat) (by omega) (L.toNat + 1) zFU M1 0 a2 (hq.fq a4) (hr.eq (fun x y => a4 x (by omega))) a3 ((bg_go htp).le (by omega)) (by omega) (zFU_gt (by omega))
  rw [ag_co rfl hqo (fun i x y => by have := hm.2.1 i x (by omega); omega)] at b1
  refine ⟨M', ?_, b2, a4.trans b3, by rw [b4, a5 165 (by decide)]⟩
  have e7 := hq.1
  have eL : ((L.toNat : Nat) : Int) = L := by omega
  rw [eL] at b1
  have b1' : pX2_agrees_46 S zFU M1 155 16 e1 L 0 = some (if couldA t r1 (bgS ta ts) q = true then 1 else 0, M') := b1
  rw [pX2_agrees, e5]
  simp [pX2_agrees_5, h.1.1.o, h.1.2.o, e7, a1, b1']
theorem c_ruled_10 (hs : 2 ≤ tSd t ∧ tSd t ≤ 6) {nR : Int} {rl : Int → Ru} {q : Nt} (hqo : NtOk t q) {ta ts : Int → Int} (htp : TpOk t ta ts) {what : Int} : ∀ (k fuel : Nat) (M : ZM) (j m f0 : Int), CQ S M t s e r → CRs S M nR rl → CNt M q → (∀ q, 0 ≤ q → q < tPn t → M 18 q = ta q ∧ M 19 q = ts q) → j + k = nR → -1 ≤ j → (0 ≤ m ∧ m ≤ j + 1) → ((m = 0 ∧ f0 = -2) ∨ (0 < m ∧ -1 ≤ f0)) → k < fuel →
    ∃ M', pX2_agreeing_10 S fuel M 155 16 15 nR what m f0 j = some (if what = 0 then (ruledF t rl (bgS ta ts) q k j m f0).1 else (ruledF t rl (bgS ta ts) q k j m f0).2, M') ∧ NW S M' ∧ FQ M M' := by
  intro k
  induction k with
  | zero =>
    intro fuel M j m f0 h hr hq h8 h1 h2 h3 h4 h5
    obtain ⟨f, rfl⟩ : ∃ f, fuel = f + 1 := ⟨fuel - 1, by omega⟩
    refine ⟨M, ?_, h.1, FQ.refl M⟩
    simp [pX2_agreeing_10, show nR ≤ j by omega, ruledF]
  | succ k ih =>
    intro fuel M j m f0 h hr hq h8 h1 h2 h3 h4 h5
    obtain ⟨f, rfl⟩ : ∃ f, fuel = f + 1 := ⟨fuel - 1, by omega⟩
    have hb := hr.1
    have wj : w32 (j + 1) = j + 1 := w32_i (by omega) (by omega)
    have wm : w32 (m + 1) = m + 1 := w32_i (by omega) (by omega)
    obtain ⟨e1, b1, b2⟩ := c_ruleOf h.1 hr (j := j) h2 (by omega)
    obtain ⟨M1, a1, a2, a3, a4⟩ := c_agrees h hs b2 hq hqo h8 htp
    have h8' : ∀ q, 0 ≤ q → q < tPn t → M1 18 q = ta q ∧ M1 19 q = ts q := by rw [a3 18 (by omega), a3 19 (by omega)]; exact h8
    simp only [ruledF]
    by_cases z : couldA t (rl j) (bgS ta ts) q = true
    · have e0 : (if f0 = -2 then j else f0) = (if m = 0 then j else f0) := by
        rcases h4 with ⟨z1, z2⟩ | ⟨z1, z2⟩
        · rw [if_pos z2, if_pos z1]
        · rw [if_neg (by omega), if_neg (by omega)]
      obtain ⟨M', c1, c2, c3⟩ := ih f M1 (j + 1) (m + 1) (if m = 0 then j else f0) a2 (hr.fq a3) (hq.fq a3) h8' (by omega) (by omega) (by omega) (by
        right
        refine ⟨by omega, ?_⟩
        split
        · exact h2
        · omega) (by omega)
      refine ⟨M', ?_, c2, a3.trans c3⟩
      simp only [if_pos z]
      rw [← c1, pX2_agreeing_10]
      simp [show ¬ nR ≤ j by omega, b1, h.1.1.o, a1, z, wj, wm, e0]
    · obtain ⟨M', c1, c2, c3⟩ := ih f M1 (j + 1) m f0 a2 (hr.fq a3) (hq.fq a3) h8' (by omega) (by omega) (by omega) h4 (by omega)
      refine ⟨M', ?_, c2, a3.trans c3⟩
      simp only [if_neg z]
      rw [← c1, pX2_agreeing_10]
      simp [show ¬ nR ≤ j by omega, b1, h.1.1.o, a1, z, wj]
theorem c_ruled (h : CQ S M t s e r) {nR : Int} {rl : Int → Ru} (hr : CRs S M nR rl) {q : Nt} (hq : CNt M q) (hqo : NtOk t q) {ta ts : Int → Int} (h8 : ∀ q, 0 ≤ q → q < tPn t → M 18 q = ta q ∧ M 19 q = ts q) (htp : TpOk t ta ts) {what : Int} : ∃ M', pX11_ruled S M 1 what = some (ruledA t rl nR (bgS ta ts) q what, M') ∧ NW S M' ∧ FQ M M' := by
  have hb := hr.1
  have e14 := hr.2.1
  unfold ruledA
  by_cases g1 : tSd t ≤ 0
  · refine ⟨M, ?_, h.1, FQ.refl M⟩
    simp [pX11_ruled, pX11_ruled_22, h.1.1.o, h.1.2.o, c_isThere h.tt, g1, show ¬ 0 < tSd t by omega]
  by_cases g3 : 0 ≤ what ∧ what ≤ 1
  · have hs : 2 ≤ tSd t ∧ tSd t ≤ 6 := by have := h.ok.1; omega
    obtain ⟨M', b1, b2, b3⟩ := c_ruled_10 (e := e) (r := r) hs (nR := nR) (rl := rl) hqo htp (what := what) (nR + 1).toNat zFU M (-1) 0 (-2) h hr hq h8 (by omega) (by omega) (by omega) (by omega) (zFU_gt (by omega))
    refine ⟨M', ?_, b2, b3⟩
    rw [if_pos ⟨by omega, g3⟩]
    simp [pX11_ruled, h.1.1.o, h.1.2.o, c_isThere h.tt, g1, c_within, g3, e14, pX2_agreeing, b1]
  · refine ⟨M, ?_, h.1, FQ.refl M⟩
    rw [if_neg (fun z => g3 z.2)]
    simp [pX11_ruled, pX11_ruled_22, h.1.1.o, h.1.2.o, c_isThere h.tt, g1, c_within, g3]
theorem c_look_14 (hs : 2 ≤ tSd t ∧ tSd t ≤ 6) {nR : Int} {rl : Int → Ru} {q : Nt} (hqo : NtOk t q) {ta ts : Int → Int} (htp : TpOk t ta ts) {n what : Int} (hn : 0 ≤ n ∧ n ≤ 60) : ∀ (k fuel : Nat) (M : ZM) (j : Int) (m : Nat) (sh : Int → Int → Int), CQ S M t s e r → CRs S M nR rl → CNt M q → (∀ q, 0 ≤ q → q < tPn t → M 18 q = ta q ∧ M 19 q = ts q) → j + k = nR → -1 ≤ j → (m : Int) ≤ j + 1 → (∀ i v, 0 ≤ i → i < tSd t * tSd t → -1 ≤ v → v ≤ 4 → M 165 (6 * i + v + 1) = alF sh m i v) → (∀ i c : Int, 0 ≤ i → i < m → 0 ≤ c → c < tSd t * tSd t → -1 ≤ sh i c ∧ sh i c ≤ 4) → k < fuel →
    ∃ M', pX2_bestToLookAt_14 S fuel M 155 16 15 nR n what (if m = 0 then 0 else 1) j = some (lookF t rl (bgS ta ts) q n.toNat what k j m sh, M') ∧ NW S M' ∧ FQ M M' := by
  intro k
  induction k with
  | zero =>
    intro fuel M j m sh h hr hq h8 h1 h2 h3 h4 h5 h6
    obtain ⟨f, rfl⟩ : ∃ f, fuel = f + 1 := ⟨fuel - 1, by omega⟩
    have hb := hr.1
    refine ⟨M, ?_, h.1, FQ.refl M⟩
    simp only [lookF]
    by_cases z : m = 0
    · simp [pX2_bestToLookAt_14, pX2_bestToLookAt_105, show nR ≤ j by omega, z]
    · have e0 := c_part h hs (m := m) (by omega) h4 h5 (what := what)
      simp [pX2_bestToLookAt_14, pX2_bestToLookAt_105, show nR ≤ j by omega, z, h.1.1.o, h.1.2.o, e0]
  | succ k ih =>
    intro fuel M j m sh h hr hq h8 h1 h2 h3 h4 h5 h6
    obtain ⟨f, rfl⟩ : ∃ f, fuel = f + 1 := ⟨fuel - 1, by omega⟩
    have ho := h.ok
    have hb := hr.1
    have wj : w32 (j + 1) = j + 1 := w32_i (by omega) (by omega)
    obtain ⟨e1, b1, b2⟩ := c_ruleOf h.1 hr (j := j) h2 (by omega)
    obtain ⟨M1, a1, a2, a3, a4⟩ := c_agrees h hs b2 hq hqo h8 htp
    have h8' : ∀ q, 0 ≤ q → q < tPn t → M1 18 q = ta q ∧ M1 19 q = ts q := by rw [a3 18 (by omega), a3 19 (by omega)]; exact h8
    simp only [lookF]
    by_cases z : couldA t (rl j) (bgS ta ts) q = true
    · rw [if_pos z]
      obtain ⟨M2, c1, c2, c3, c4, c5⟩ := a2.trialB h8'
      have hr2 : CRu S M2 e1 156 (rl j) := b2.eq (fun x y => by rw [c4 x (by omega), a3 x (by omega)])
      obtain ⟨M3, d1, d2, d3, d4⟩ := c_pass ho hs (m := 0) (n := n) (by omega) ((bg_go htp).le (by omega)) hr2 (c2.cd2 c3)
      have f3 := FQ.fr d3 (Or.inr ⟨rfl, rfl⟩)
      have k3 : CQ S M3 t s e r := c2.fq (c2.1.fr d3 (Or.inr (Or.inl ⟨rfl, rfl⟩))) f3
      have e165 : M3 165 = M 165 := by rw [d3.1 165 (by decide) (by decide) (by decide) (by decide) (by decide) (by decide) (by decide), c5 165 (by decide), a4]
      obtain ⟨M4, g1, g2, g3, g4⟩ := c_addTrial k3 d4.1 d2.2.2.2.2 (sh := sh) (m := m) (by omega) (fun i v a b x y => by rw [e165]; exact h4 i v a b x y)
      have f4 : FQ M M4 := ((a3.trans c4).trans f3).trans g3
      obtain ⟨M', i1, i2, i3⟩ := ih f M4 (j + 1) (m + 1) (addSh sh m (cWh (daysS t (rl j) n.toNat (bgS ta ts)))) g2 (hr.fq f4) (hq.fq f4) (by rw [f4 18 (by omega), f4 19 (by omega)]; exact h8) (by omega) (by omega) (by omega) g4 (fun i c x y u v => by
        unfold addSh
        by_cases z : i = (m : Int)
        · rw [if_pos z]; exact wh_r ho d4.1 u v
        · rw [if_neg z]; exact h5 i c x (by omega) u v) (by omega)
      refine ⟨M', ?_, i2, f4.trans i3⟩
      rw [← i1, pX2_bestToLookAt_14]
      simp [show ¬ nR ≤ j by omega, b1, h.1.1.o, h.1.2.o, a1, z, a2.1.2.o, c1, c2.1.2.o, d1, k3.1.2.o, g1, pX2_bestToLookAt_79, wj]
    · rw [if_neg z]
      obtain ⟨M', i1, i2, i3⟩ := ih f M1 (j + 1) m sh a2 (hr.fq a3) (hq.fq a3) h8' (by omega) (by omega) (by omega) (fun i v a b x y => by rw [a4]; exact h4 i v a b x y) h5 (by omega)
      refine ⟨M', ?_, i2, a3.trans i3⟩
      rw [← i1, pX2_bestToLookAt_14]
      simp [show ¬ nR ≤ j by omega, b1, h.1.1.o, a1, z, pX2_bestToLookAt_79, wj]
theorem c_look (h : CQ S M t s e r) {nR : Int} {rl : Int → Ru} (hr : CRs S M nR rl) {q : Nt} (hq : CNt M q) (hqo : NtOk t q) {ta ts : Int → Int} (h8 : ∀ q, 0 ≤ q → q < tPn t → M 18 q = ta q ∧ M 19 q = ts q) (htp : TpOk t ta ts) {n what : Int} : ∃ M', pX11_look S M 1 n what = some (lookA t rl nR (bgS ta ts) q n what, M') ∧ NW S M' ∧ FQ M M' := by
  have hb := hr.1
  have e14 := hr.2.1
  have hsq := sq_b h.ok.1
  unfold lookA
  by_cases g1 : tSd t ≤ 0
  · refine ⟨M, ?_, h.1, FQ.refl M⟩
    simp [pX11_look, pX11_look_32, h.1.1.o, h.1.2.o, c_isThere h.tt, g1, show ¬ 0 < tSd t by omega]
  by_cases g2 : 0 ≤ n ∧ n ≤ 60
  · by_cases g3 : 0 ≤ what ∧ what ≤ 1
    · have hs : 2 ≤ tSd t ∧ tSd t ≤ 6 := by have := h.ok.1; omega
      obtain ⟨M1, a1, a2, a3, a4⟩ := c_fill0 h
      obtain ⟨M', b1, b2, b3⟩ := c_look_14 (e := e) (r := r) hs (nR := nR) (rl := rl) hqo htp (n := n) (what := what) g2 (nR + 1).toNat zFU M1 (-1) 0 (fun _ _ => -1) a2 (hr.fq a3) (hq.fq a3) (by rw [a3 18 (by omega), a3 19 (by omega)]; exact h8) (by omega) (by omega) (by omega) (fun i v a b x y => by rw [a4 _ (by omega) (by omega)]; rfl) (fun i c x y u v => by omega) (zFU_gt (by omega))
      rw [if_pos rfl] at b1
      refine ⟨M', ?_, b2, a3.trans b3⟩
      rw [if_pos ⟨by omega, g2, g3⟩]
      simp [pX11_look, h.1.1.o, h.1.2.o, c_isThere h.tt, g1, c_within, g2, g3, pX2_bestToLookAt, e14, a1, b1]
    · refine ⟨M, ?_, h.1, FQ.refl M⟩
      rw [if_neg (fun z => g3 z.2.2)]
      simp [pX11_look, pX11_look_32, h.1.1.o, h.1.2.o, c_isThere h.tt, g1, c_within, g2, g3]
  · refine ⟨M, ?_, h.1, FQ.refl M⟩
    rw [if_neg (fun z => g2 z.2.1)]
    simp [pX11_look, pX11_look_32, h.1.1.o, h.1.2.o, c_isThere h.tt, g1, c_within, g2]
end
