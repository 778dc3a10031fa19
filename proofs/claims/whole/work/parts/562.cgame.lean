/-! GAME: the class -/
theorem bes_ne {side c b : Int} (hs : 2 ≤ side ∧ side ≤ 6) (hc : 0 ≤ c ∧ c < side * side) (hb : 0 ≤ b ∧ b ≤ 3) (h : besS side c b ≠ -1) : besS side c b ≠ c := by
  have e := besC_eq hs hc hb
  unfold besC at e
  rw [if_neg h] at e
  intro z
  rw [z] at e
  obtain ⟨⟨a1, a2⟩, ⟨a3, a4⟩, a5⟩ := tdiv_b hs hc
  have h2 : b = 0 ∨ b = 1 ∨ b = 2 ∨ b = 3 := by omega
  unfold besS at h
  generalize c.tdiv side = r at *
  generalize c.tmod side = l at *
  rcases h2 with rfl | rfl | rfl | rfl
  · simp only [if_true] at e h
    by_cases q : r ≤ 0
    · rw [if_pos (by omega)] at h; exact h rfl
    · rw [if_neg q] at e; omega
  · simp only [show ¬ (1 : Int) = 0 by decide, if_false, if_true] at e h
    by_cases q : side - 1 ≤ l
    · simp only [show ¬ (1 : Int) = 2 by decide, if_false] at h
      rw [if_neg (by omega), if_neg (by omega), if_neg (by omega), if_pos (by omega)] at h; exact h rfl
    · rw [if_neg q] at e; omega
  · simp only [show ¬ (2 : Int) = 0 by decide, show ¬ (2 : Int) = 1 by decide, if_false, if_true] at e h
    by_cases q : side - 1 ≤ r
    · simp only [show ¬ (2 : Int) = 3 by decide, if_false] at h
      rw [if_neg (by omega), if_neg (by omega), if_pos (by omega)] at h; exact h rfl
    · rw [if_neg q] at e; omega
  · simp only [show ¬ (3 : Int) = 0 by decide, show ¬ (3 : Int) = 1 by decide, show ¬ (3 : Int) = 2 by decide, if_false, if_true] at e h
    by_cases q : l ≤ 0
    · rw [if_neg (by omega), if_pos (by omega)] at h; exact h rfl
    · rw [if_neg q] at e; omega
/-- a game in the class's rows -/
def GP (S : ZS) (M : ZM) (t : Td) (x y : Int) (g : Gs) : Prop := NW S M ∧ TT S M 167 t ∧ (M 174 0 = x ∧ M 174 1 = y) ∧ (M 175 0 = g.1 ∧ M 175 1 = g.2.1) ∧ ∀ c, 0 ≤ c → c < 36 → M 173 c = g.2.2 c
section
variable {S : ZS} {M : ZM} {t : Td} {s : Sc} {x y : Int} {g : Gs}
theorem c_diff_4 (ho : TdOk t) (h : GP S M t x y g) (hxy : x ≠ y) : ∀ (k fuel : Nat) (c d : Int), c + k = tSd t * tSd t → 0 ≤ c → (-c ≤ d ∧ d ≤ c) → k < fuel → pX3_difference_4 S fuel M 166 d c = some (d + (cnt (fun c => g.2.2 c = x) k c - cnt (fun c => g.2.2 c = y) k c), M) := by
  have hb := sq_b ho.1
  obtain ⟨hN, hT, ⟨h1, h2⟩, -, h5⟩ := h
  have hcc := hT.2.2.2.1
  intro k
  induction k with
  | zero =>
    intro fuel c d a1 a2 a3 a4
    obtain ⟨f, rfl⟩ : ∃ f, fuel = f + 1 := ⟨fuel - 1, by omega⟩
    simp [pX3_difference_4, hN.1.o, hN.2.o, hcc, show tSd t * tSd t ≤ c by omega, cnt]
  | succ k ih =>
    intro fuel c d a1 a2 a3 a4
    obtain ⟨f, rfl⟩ : ∃ f, fuel = f + 1 := ⟨fuel - 1, by omega⟩
    have wc : w32 (c + 1) = c + 1 := w32_i (by omega) (by omega)
    have wd : w32 (d + 1) = d + 1 := w32_i (by omega) (by omega)
    have wd2 : w32 (d + (-1)) = d - 1 := by rw [w32_i (by omega) (by omega)]; omega
    have e := h5 c a2 (by omega)
    have g1 : ¬ tSd t * tSd t ≤ c := by omega
    have g2 : c < 36 := by omega
    simp only [cnt]
    by_cases z : g.2.2 c = x
    · have z2 : ¬ g.2.2 c = y := fun q => hxy (z.symm.trans q)
      have i0 := ih f (c + 1) (d + 1) (by omega) (by omega) (by omega) (by omega)
      rw [if_pos z, if_neg z2, pX3_difference_4]
      have ee : d + 1 + (cnt (fun c => g.2.2 c = x) k (c + 1) - cnt (fun c => g.2.2 c = y) k (c + 1)) = d + (1 + cnt (fun c => g.2.2 c = x) k (c + 1) - (0 + cnt (fun c => g.2.2 c = y) k (c + 1))) := by omega
      rw [← ee, ← i0]
      simp [hN.1.o, hN.2.o, hcc, g1, g2, a2, e, h1, z, pX3_difference_54, wc, wd]
    · by_cases z2 : g.2.2 c = y
      · have i0 := ih f (c + 1) (d - 1) (by omega) (by omega) (by omega) (by omega)
        rw [if_neg z, if_pos z2, pX3_difference_4]
        have ee : d - 1 + (cnt (fun c => g.2.2 c = x) k (c + 1) - cnt (fun c => g.2.2 c = y) k (c + 1)) = d + (0 + cnt (fun c => g.2.2 c = x) k (c + 1) - (1 + cnt (fun c => g.2.2 c = y) k (c + 1))) := by omega
        rw [← ee, ← i0]
        have z' : ¬ y = x := fun q => hxy q.symm
        simp [hN.1.o, hN.2.o, hcc, g1, g2, a2, e, h1, h2, z', z2, pX3_difference_54, wc, wd2]
      · have i0 := ih f (c + 1) d (by omega) (by omega) (by omega) (by omega)
        rw [if_neg z, if_neg z2, pX3_difference_4]
        have ee : d + (cnt (fun c => g.2.2 c = x) k (c + 1) - cnt (fun c => g.2.2 c = y) k (c + 1)) = d + (0 + cnt (fun c => g.2.2 c = x) k (c + 1) - (0 + cnt (fun c => g.2.2 c = y) k (c + 1))) := by omega
        rw [← ee, ← i0]
        simp [hN.1.o, hN.2.o, hcc, g1, g2, a2, e, h1, h2, z, z2, pX3_difference_54, wc]
theorem c_diff (ho : TdOk t) (h : GP S M t x y g) (hxy : x ≠ y) : pX3_difference S M 166 = some (wInk t g.2.2 x - wInk t g.2.2 y, M) := by
  have hn := nCl_b ho
  rw [pX3_difference, c_diff_4 ho h hxy (nCl t) zFU 0 0 (by omega) (by omega) (by omega) (zFU_gt (by omega)), Int.zero_add]
  rfl
def mvr (n : Nat) : Int := if n % 2 = 0 then 0 else 1
theorem mvr_z {n : Nat} (h : n ≤ 4) : zand (n : Int) 1 = mvr n := by
  have : n = 0 ∨ n = 1 ∨ n = 2 ∨ n = 3 ∨ n = 4 := by omega
  rcases this with rfl | rfl | rfl | rfl | rfl <;> decide
theorem mvr_b (n : Nat) : 0 ≤ mvr n ∧ mvr n < 2 := by unfold mvr; split <;> omega
theorem GP.pl (h : GP S M t x y g) (n : Nat) : M 175 (mvr n) = gFr g n ∧ M 174 (mvr n) = (if n % 2 = 0 then x else y) := by
  obtain ⟨-, -, h1, h2, -⟩ := h
  unfold mvr gFr
  by_cases z : n % 2 = 0
  · simp only [if_pos z]; exact ⟨h2.1, h1.1⟩
  · simp only [if_neg z]; exact ⟨h2.2, h1.2⟩
theorem GP.go (h : GP S M t x y g) (n : Nat) {to : Int} : GP S (upM (upM M 175 (mvr n) to) 173 to (if n % 2 = 0 then x else y)) t x y (gGo x y g n to) := by
  obtain ⟨h1, h2, h3, h4, h5⟩ := h
  have q : ∀ z, z ≠ 175 → z ≠ 173 → upM (upM M 175 (mvr n) to) 173 to (if n % 2 = 0 then x else y) z = M z := fun z a b => by rw [upM_r b, upM_r a]
  refine ⟨h1.q (fun z j k => by unfold pkN at k; rw [q z (by omega) (by omega)]), h2.eq (fun z _ _ => q z (by omega) (by omega)), by rw [q 174 (by decide) (by decide)]; exact h3, ?_, fun c a b => ?_⟩
  · rw [upM_r (by decide)]
    unfold gGo mvr
    by_cases z : n % 2 = 0
    · simp only [if_pos z]; rw [upM_s, upM_i (by decide)]; exact ⟨rfl, h4.2⟩
    · simp only [if_neg z]; rw [upM_s, upM_i (by decide)]; exact ⟨h4.1, rfl⟩
  · have e : upM (upM M 175 (mvr n) to) 173 to (if n % 2 = 0 then x else y) 173 c = if c = to then (if n % 2 = 0 then x else y) else g.2.2 c := by
      by_cases w : c = to
      · rw [w, upM_s, if_pos rfl]
      · rw [upM_i w, upM_r (by decide), if_neg w]; exact h5 c a b
    rw [e]
    unfold gGo
    by_cases z : n % 2 = 0
    · simp only [if_pos z]
    · simp only [if_neg z]
theorem c_out_37 (ho : TdOk t) (hs : 2 ≤ tSd t ∧ tSd t ≤ 6) (h : GP S M t x y g) (hg : gOk t g) {go : ZS → ZM → Int → Int → Int → Int → Int → Option (Int × ZM)} {k m n : Nat} (hgo : ∀ d, 0 ≤ d → d < 5 → gTo t g m d ≠ -1 → go S M 166 (mvr m) (gTo t g m d) m n = some (gR t x y k m g d, M)) : ∀ (c fuel : Nat) (i b : Int), i + c = 5 → 1 ≤ i → (0 ≤ b ∧ b < 5) → c < fuel → pX3_outcomeFrom_37 go S fuel M 166 m n (mvr m) (gFr g m) (gR t x y k m g b) (b - 1) (i - 1) = some (gR t x y k m g (bI (decide (m % 2 = 0)) (gR t x y k m g) c i b), if m = 0 then upM M 166 4 (bI (decide (m % 2 = 0)) (gR t x y k m g) c i b - 1) else M) := by
  have hfb := gFr_b hg m
  intro c
  induction c with
  | zero =>
    intro fuel i b h1 h2 h3 h4
    obtain ⟨f, rfl⟩ : ∃ f, fuel = f + 1 := ⟨fuel - 1, by omega⟩
    simp only [pX3_outcomeFrom_37, bI]
    rw [if_pos (by omega)]
    by_cases z : m = 0
    · simp [z, h.1.1.o, zlet, pX3_outcomeFrom_143]
    · rw [if_neg (by omega), if_neg z, pX3_outcomeFrom_143]
  | succ c ih =>
    intro fuel i b h1 h2 h3 h4
    obtain ⟨f, rfl⟩ : ∃ f, fuel = f + 1 := ⟨fuel - 1, by omega⟩
    have w1 : w32 (i - 1 + 1) = i + 1 - 1 := by rw [w32_i (by omega) (by omega)]; omega
    have ebs := c_beside h.2.1 hs hfb (b := i - 1) (by omega)
    have eto : gTo t g m i = besS (tSd t) (gFr g m) (i - 1) := by unfold gTo; rw [if_neg (by omega)]
    have e0 : pX3_outcomeFrom_37 go S (f + 1) M 166 m n (mvr m) (gFr g m) (gR t x y k m g b) (b - 1) (i - 1) = pX3_outcomeFrom_65 go S (pX3_outcomeFrom_37 go S f) M 166 m n (mvr m) (gFr g m) (gR t x y k m g b) (b - 1) (i - 1) (besC (tSd t) (gFr g m) (i - 1)) := by
      simp only [pX3_outcomeFrom_37]
      rw [if_neg (by omega), if_neg (by omega)]
      simp [h.1.1.o, h.1.2.o, ebs]
    have hstep : pX3_outcomeFrom_65 go S (pX3_outcomeFrom_37 go S f) M 166 m n (mvr m) (gFr g m) (gR t x y k m g b) (b - 1) (i - 1) (besC (tSd t) (gFr g m) (i - 1)) = pX3_outcomeFrom_37 go S f M 166 m n (mvr m) (gFr g m) (gR t x y k m g (if gR t x y k m g i = -100000 then b else if decide (m % 2 = 0) = true then (if gR t x y k m g i ≤ gR t x y k m g b then b else i) else (if gR t x y k m g b ≤ gR t x y k m g i then b else i))) ((if gR t x y k m g i = -100000 then b else if decide (m % 2 = 0) = true then (if gR t x y k m g i ≤ gR t x y k m g b then b else i) else (if gR t x y k m g b ≤ gR t x y k m g i then b else i)) - 1) (i + 1 - 1) := by
      have hm1 : ¬ i - 1 = -1 := by omega
      have hb2 : ¬ b - 1 = -2 := by omega
      by_cases z : gTo t g m i = -1
      · have e1 : besC (tSd t) (gFr g m) (i - 1) = gFr g m := by unfold besC; rw [← eto, if_pos z]
        have e2 : gR t x y k m g i = -100000 := by unfold gR; rw [if_pos z]
        simp only [pX3_outcomeFrom_65, pX3_outcomeFrom_127, if_neg hm1, e1, if_true, w1, e2]
      · have e1 : besC (tSd t) (gFr g m) (i - 1) = gTo t g m i := by unfold besC; rw [← eto, if_neg z]
        have e3 : ¬ gTo t g m i = gFr g m := by rw [eto]; exact bes_ne hs hfb (by omega) (by rw [← eto]; exact z)
        have e4 := hgo i (by omega) (by omega) z
        have e2 : ¬ gR t x y k m g i = -100000 := by
          rcases gTo_b hs hg m i with q | q
          · exact absurd q z
          · have := gF_b ho hs x y k (m + 1) _ (gGo_ok (x := x) (y := y) hg m q)
            unfold gR; rw [if_neg z]; omega
        simp only [pX3_outcomeFrom_65, if_neg hm1, e1, if_neg e3, pX3_outcomeFrom_80, h.1.1.o, if_true, e4, Option.bind_some, if_neg hb2, pX3_outcomeFrom_127, pX3_outcomeFrom_119, w1, if_neg e2]
        by_cases c1 : m % 2 = 0
        · have hv : mvr m = 0 := by unfold mvr; rw [if_pos c1]
          simp only [hv, if_true, c1, decide_true]
          by_cases c2 : gR t x y k m g i ≤ gR t x y k m g b
          · simp only [if_pos c2]
          · simp only [if_neg c2]
        · have hv : mvr m = 1 := by unfold mvr; rw [if_neg c1]
          simp only [hv, c1, decide_false]
          rw [if_neg (by decide)]
          by_cases c2 : gR t x y k m g b ≤ gR t x y k m g i
          · simp only [if_pos c2, Bool.false_eq_true, if_false]
          · simp only [if_neg c2, Bool.false_eq_true, if_false]
    rw [e0, hstep, ih f (i + 1) _ (by omega) (by omega) (by
      split
      · exact h3
      · split
        · split <;> omega
        · split <;> omega) (by omega)]
    rfl
theorem c_out_all (ho : TdOk t) (hs : 2 ≤ tSd t ∧ tSd t ≤ 6) (h : GP S M t x y g) (hg : gOk t g) {go : ZS → ZM → Int → Int → Int → Int → Int → Option (Int × ZM)} {k m n : Nat} (hmn : m + (k + 1) = n) (hn : n ≤ 4) (hgo : ∀ d, 0 ≤ d → d < 5 → gTo t g m d ≠ -1 → go S M 166 (mvr m) (gTo t g m d) m n = some (gR t x y k m g d, M)) : pX3_outcomeFrom go S M 166 m n = some (gF t x y (k + 1) m g, if m = 0 then upM M 166 4 (bI (decide (m % 2 = 0)) (gR t x y k m g) 4 1 0 - 1) else M) := by
  have hfb := gFr_b hg m
  have hp := (h.pl m).1
  have hmb := mvr_b m
  obtain ⟨F, hF⟩ : ∃ F, zFU = F + 1 := ⟨3999, rfl⟩
  have hF4 : 4 < F := by have : zFU = 4000 := rfl; omega
  have e37 := c_out_37 ho hs h hg hgo 4 F 1 0 (by omega) (by omega) (by omega) hF4
  have h0 : gTo t g m 0 = gFr g m := by unfold gTo; rw [if_pos rfl]
  have h0' : gTo t g m 0 ≠ -1 := by omega
  have e4 := hgo 0 (by omega) (by omega) h0'
  rw [h0] at e4
  rw [gF_s, ← e37]
  have e0 : pX3_outcomeFrom go S M 166 m n = pX3_outcomeFrom_37 go S (F + 1) M 166 m n (mvr m) (gFr g m) 0 (-2) (-1) := by
    simp only [pX3_outcomeFrom]
    rw [if_neg (by omega), if_pos (by omega), mvr_z (by omega), hF]
    simp [h.1.1.o, h.1.2.o, hmb, hp]
  rw [e0]
  simp only [pX3_outcomeFrom_37]
  rw [if_neg (by decide), if_pos trivial]
  simp only [pX3_outcomeFrom_65, if_true, pX3_outcomeFrom_80, h.1.1.o, e4, Option.bind_some, pX3_outcomeFrom_119, pX3_outcomeFrom_127]
  rw [w32_i (by decide) (by decide)]
  rfl
theorem c_going (ho : TdOk t) (hs : 2 ≤ tSd t ∧ tSd t ≤ 6) (h : GP S M t x y g) (hg : gOk t g) {f : ZS → ZM → Int → Int → Int → Option (Int × ZM)} {k m n : Nat} (hm : m ≤ 3) (hr : ∀ (g : Gs) (M : ZM), GP S M t x y g → gOk t g → f S M 166 ((m + 1 : Nat) : Int) n = some (gF t x y k (m + 1) g, M)) {d : Int} (z : gTo t g m d ≠ -1) : pX3_outcomeOfGoing f S M 166 (mvr m) (gTo t g m d) m n = some (gR t x y k m g d, M) := by
  have hb := sq_b ho.1
  rcases gTo_b hs hg m d with q | q
  · exact absurd q z
  generalize hto : gTo t g m d = to at *
  have hmb := mvr_b m
  obtain ⟨p1, p2⟩ := h.pl m
  have h2' : GP S (upM (upM M 175 (mvr m) to) 173 to (if m % 2 = 0 then x else y)) t x y (gGo x y g m to) := h.go m
  have r1 := hr (gGo x y g m to) _ h2' (gGo_ok hg m q)
  have q3 : PtN (upM M 175 (mvr m) to) := h.1.2.j (fun z j k => by unfold pkN at k; rw [upM_r (by omega)])
  have wm : w32 ((m : Int) + 1) = ((m + 1 : Nat) : Int) := by rw [w32_i (by omega) (by omega)]; omega
  have g36 : to < 36 := by omega
  have e174 : upM M 175 (mvr m) to 174 (mvr m) = (if m % 2 = 0 then x else y) := by rw [upM_r (by decide)]; exact p2
  have hfin : upM (upM (upM (upM M 175 (mvr m) to) 173 to (if m % 2 = 0 then x else y)) 173 to (M 173 to)) 175 (mvr m) (M 175 (mvr m)) = M := by
    funext a j
    simp only [upM_ap]
    by_cases z1 : a = 175 ∧ j = mvr m
    · rw [if_pos z1, z1.1, z1.2]
    · rw [if_neg z1]
      by_cases z2 : a = 173 ∧ j = to
      · rw [if_pos z2, z2.1, z2.2]
      · rw [if_neg z2, if_neg z2, if_neg z1]
  have q5 : PtN (upM (upM (upM M 175 (mvr m) to) 173 to (if m % 2 = 0 then x else y)) 173 to (M 173 to)) := h2'.1.2.j (fun z j k => by unfold pkN at k; rw [upM_r (by omega)])
  have eR : gR t x y k m g d = gF t x y k (m + 1) (gGo x y g m to) := by unfold gR; rw [hto, if_neg z]
  rw [eR]
  simp only [pX3_outcomeOfGoing, pX3_outcomeOfGoing_35, pX3_outcomeOfGoing_62, zlet, wm]
  simp only [h.1.1.o, h.1.2.o, hmb, q.1, g36, q3.o, e174, r1, h2'.1.2.o, q5.o, hfin, and_self, true_and, if_true, Option.bind_some, show (0 : Int) ≤ mvr m from hmb.1, show mvr m < 2 from hmb.2]
theorem c_out (ho : TdOk t) (hs : 2 ≤ tSd t ∧ tSd t ≤ 6) (hxy : x ≠ y) {n : Nat} (hn : n ≤ 4) : ∀ (k m lv : Nat) (g : Gs) (M : ZM), GP S M t x y g → gOk t g → 1 ≤ m → m + k = n → 2 * k + 1 ≤ lv → (ogX3 lv).1 S M 166 m n = some (gF t x y k m g, M) := by
  intro k
  induction k with
  | zero =>
    intro m lv g M h hg h1 h2 h3
    obtain ⟨l, rfl⟩ : ∃ l, lv = l + 1 := ⟨lv - 1, by omega⟩
    show pX3_outcomeFrom (ogX3 l).2 S M 166 m n = _
    simp only [pX3_outcomeFrom]
    rw [if_pos (by omega)]
    simp [pX3_outcomeFrom_10, h.1.1.o, c_diff ho h hxy, gF]
  | succ k ih =>
    intro m lv g M h hg h1 h2 h3
    obtain ⟨l, rfl⟩ : ∃ l, lv = l + 1 + 1 := ⟨lv - 2, by omega⟩
    have hgo : ∀ d, 0 ≤ d → d < 5 → gTo t g m d ≠ -1 → (ogX3 (l + 1)).2 S M 166 (mvr m) (gTo t g m d) m n = some (gR t x y k m g d, M) := fun d a b z => c_going (f := (ogX3 l).1) ho hs h hg (by omega) (fun g' M' a b => ih (m + 1) l g' M' a b (by omega) (by omega) (by omega)) z
    show pX3_outcomeFrom (ogX3 (l + 1)).2 S M 166 m n = _
    rw [c_out_all ho hs h hg h2 hn hgo, if_neg (by omega)]
end
section
variable {S : ZS} {M : ZM} {t : Td} {s : Sc} {e : Int} {r : Ru}
theorem c_toldCopyG (h : CQ S M t s e r) : ∃ M', pX9_copyFrom S M 167 17 = some M' ∧ CQ S M' t s e r ∧ TT S M' 167 t ∧ FQ M M' := by
  obtain ⟨M', a1, a2, a3, a4, a5, a6, a7⟩ := c_copyTold (S := S) (M := M) (a := 17) (b := 167) (shT_of h.1.1).2.1 (shT_of h.1.1).2.2.2 (ptT_of h.1.2).2.1 (ptT_of h.1.2).2.2.2 (by omega)
  have f : FQ M M' := fun x y => a2 x (by omega)
  have hw := h.ok.2.2.2.1
  have hn : NW S M' := h.1.q (fun x j k => by
    unfold pkN at k
    by_cases z : x = 167
    · subst z; exact a3 j (by omega)
    · rw [a2 x (by omega)])
  refine ⟨M', a1, h.fq hn f, ⟨(shT_of h.1.1).2.2.2, (ptT_of hn.2).2.2.2, ?_⟩, f⟩
  obtain ⟨c0, c1, c2, c3, c4, c5, c6⟩ := h.2.1
  refine ⟨by rw [a4 0 (by omega) (by omega)]; exact c0, by rw [a4 1 (by omega) (by omega)]; exact c1, by rw [a4 2 (by omega) (by omega)]; exact c2, by rw [a4 3 (by omega) (by omega)]; exact c3, by rw [a4 4 (by omega) (by omega)]; exact c4, fun i x y => ?_, fun c x y => ?_⟩
  · rw [(a6 i x (by omega)).1, (a6 i x (by omega)).2]; exact c5 i x y
  · rw [a7 c x y]; exact c6 c x y
theorem c_game (h : CQ S M t s e r) (hbd : ScBd t s) {x y n what : Int} : ∃ M', pX11_game S M 1 x y n what = some (gameA t s x y n what, M') ∧ NW S M' ∧ FQ M M' := by
  have ho := h.ok
  have hp := ho.2.2.1
  unfold gameA
  by_cases g1 : x ≠ y ∧ (0 ≤ x ∧ x < tPn t) ∧ (0 ≤ y ∧ y < tPn t)
  · by_cases g4 : 1 ≤ n ∧ n ≤ 4
    · by_cases g5 : 0 ≤ what ∧ what ≤ 1
      · have h0 := h.go.1.1 x g1.2.1.1 g1.2.1.2
        have h0y := h.go.1.1 y g1.2.2.1 g1.2.2.2
        have hs : 2 ≤ tSd t ∧ tSd t ≤ 6 := by
          rcases ho.1 with z | z
          · rw [z] at h0; omega
          · exact z
        have hb := sq_b ho.1
        have hg : gOk t (cAt s x, cAt s y, cWh s) := ⟨h0.1, h0y.1⟩
        obtain ⟨M1, a1, a2, a3, a4⟩ := c_toldCopyG h
        generalize hM2 : zCpy M1 26 173 36 = M2
        have r2 : ∀ z, z ≠ 173 → M2 z = M1 z := fun z w => by rw [← hM2, zCpy_ne w]
        have n2 : NW S M2 := a2.1.q (fun z j k => by unfold pkN at k; rw [r2 z (by omega)])
        have n3 : NW S (upM M2 174 0 x) := n2.up (by unfold pkN; omega)
        have n4 : NW S (upM (upM M2 174 0 x) 174 1 y) := n3.up (by unfold pkN; omega)
        have n5 : NW S (upM (upM (upM M2 174 0 x) 174 1 y) 175 0 (cAt s x)) := n4.up (by unfold pkN; omega)
        have p5' := n5.2.o
        have n6 : NW S (upM (upM (upM (upM M2 174 0 x) 174 1 y) 175 0 (cAt s x)) 175 1 (cAt s y)) := n5.up (by unfold pkN; omega)
        have eax : M1 24 x = cAt s x := (a2.2.2.1.1 x g1.2.1.1 g1.2.1.2).1
        have eay : M1 24 y = cAt s y := (a2.2.2.1.1 y g1.2.2.1 g1.2.2.2).1
        generalize hM6 : upM (upM (upM (upM M2 174 0 x) 174 1 y) 175 0 (cAt s x)) 175 1 (cAt s y) = M6 at n6
        have r6 : ∀ z, z ≠ 173 → z ≠ 174 → z ≠ 175 → M6 z = M1 z := fun z a b c => by rw [← hM6, upM_r c, upM_r c, upM_r b, upM_r b, r2 z a]
        have hGP : GP S M6 t x y (cAt s x, cAt s y, cWh s) := by
          refine ⟨n6, a3.eq (fun z _ _ => r6 z (by omega) (by omega) (by omega)), ?_, ?_, fun c a b => ?_⟩
          · rw [← hM6]; simp [upM_ap]
          · rw [← hM6]; simp [upM_ap]
          · have e0 : M6 173 c = M1 26 c := by
              rw [← hM6, upM_r (by decide), upM_r (by decide), upM_r (by decide), upM_r (by decide), ← hM2, zCpy_at a b]
            rw [e0]
            by_cases z : c < tSd t * tSd t
            · exact (a2.2.2.1.2.1 c a z).1
            · have e1 : M1 26 c = -1 := a2.2.2.1.2.2.1 c (by omega) b
              rw [e1]; exact (hbd (by omega) c (by omega) b).1.symm
        have hnn : (n.toNat : Int) = n := by omega
        have f6 : FQ M M6 := fun z w => by rw [r6 z (by omega) (by omega) (by omega)]; exact a4 z w
        have hout : qX3_outcomeFrom S M6 166 0 n = some (gF t x y n.toNat 0 (cAt s x, cAt s y, cWh s), upM M6 166 4 (bI true (gR t x y (n.toNat - 1) 0 (cAt s x, cAt s y, cWh s)) 4 1 0 - 1)) := by
          have hgo : ∀ d, 0 ≤ d → d < 5 → gTo t (cAt s x, cAt s y, cWh s) 0 d ≠ -1 → (ogX3 19).2 S M6 166 (mvr 0) (gTo t (cAt s x, cAt s y, cWh s) 0 d) ((0 : Nat) : Int) n.toNat = some (gR t x y (n.toNat - 1) 0 (cAt s x, cAt s y, cWh s) d, M6) := fun d a b z => c_going (f := (ogX3 18).1) (m := 0) ho hs hGP hg (by omega) (fun g' M' a b => c_out ho hs g1.1 (n := n.toNat) (by omega) (n.toNat - 1) 1 18 g' M' a b (by omega) (by omega) (by omega)) z
          have key := c_out_all (m := 0) (k := n.toNat - 1) (n := n.toNat) (go := (ogX3 19).2) ho hs hGP hg (by omega) (by omega) hgo
          rw [hnn, if_pos rfl, show n.toNat - 1 + 1 = n.toNat by omega] at key
          exact key
        have n7 : NW S (upM M6 166 4 (bI true (gR t x y (n.toNat - 1) 0 (cAt s x, cAt s y, cWh s)) 4 1 0 - 1)) := n6.up (by unfold pkN; omega)
        refine ⟨_, ?_, n7, f6.trans (fun z w => upM_r (by omega))⟩
        rw [if_pos ⟨g1.2.1, g1.2.2, g1.1, g4, g5⟩]
        have gx : 0 ≤ x ∧ x < 5 := by omega
        have gy : 0 ≤ y ∧ y < 5 := by omega
        have e24 : ∀ z, z ≠ 173 → M2 z = M1 z := r2
        have ex : upM (upM M2 174 0 x) 174 1 y 24 x = cAt s x := by rw [upM_r (by decide), upM_r (by decide), r2 24 (by decide)]; exact eax
        have ey : upM (upM (upM M2 174 0 x) 174 1 y) 175 0 (cAt s x) 24 y = cAt s y := by rw [upM_r (by decide), upM_r (by decide), upM_r (by decide), r2 24 (by decide)]; exact eay
        have epl : pX3_play S M 166 16 x y n what = pX3_play_73 S M6 166 n what := by
          simp [pX3_play, pX3_play_29, pX3_play_58, h.1.1.o, h.1.2.o, a1, a2.1.2.o, zlet, hM2, n2.2.o, n3.2.o, n4.2.o, p5', gx, gy, ex, ey, hM6]
        have hw : what = 0 ∨ what = 1 := by omega
        rcases hw with rfl | rfl
        · simp [pX11_game, h.1.1.o, h.1.2.o, c_two h, g1, c_within, g4, epl, pX3_play_73, pX3_play_96, hout]
        · simp [pX11_game, h.1.1.o, h.1.2.o, c_two h, g1, c_within, g4, epl, pX3_play_73, pX3_play_96, hout, upM_s]
      · refine ⟨M, ?_, h.1, FQ.refl M⟩
        rw [if_neg (fun z => g5 z.2.2.2.2)]
        simp [pX11_game, pX11_game_28, h.1.1.o, h.1.2.o, c_two h, g1, c_within, g4, g5]
    · refine ⟨M, ?_, h.1, FQ.refl M⟩
      rw [if_neg (fun z => g4 z.2.2.2.1)]
      simp [pX11_game, pX11_game_28, h.1.1.o, h.1.2.o, c_two h, g1, c_within, g4]
  · refine ⟨M, ?_, h.1, FQ.refl M⟩
    rw [if_neg (fun z => g1 ⟨z.2.2.1, z.1, z.2.1⟩)]
    simp only [pX11_game, pX11_game_28, h.1.1.o, c_two h, g1, if_true, if_false, Option.bind_some]
end
