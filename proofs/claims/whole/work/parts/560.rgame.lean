/-! GAME: as numbers; the reference -/
def p5 : Nat → Int
  | 0 => 1
  | k + 1 => 5 * p5 k
/-- places of both, strokes -/
abbrev Gs : Type := Int × Int × (Int → Int)
def gFr (g : Gs) (n : Nat) : Int := if n % 2 = 0 then g.1 else g.2.1
def gTo (t : Td) (g : Gs) (n : Nat) (d : Int) : Int := if d = 0 then gFr g n else besS (tSd t) (gFr g n) (d - 1)
def gGo (x y : Int) (g : Gs) (n : Nat) (to : Int) : Gs := if n % 2 = 0 then (to, g.2.1, fun i => if i = to then x else g.2.2 i) else (g.1, to, fun i => if i = to then y else g.2.2 i)
def wInk (t : Td) (W : Int → Int) (q : Int) : Int := cnt (fun c => W c = q) (nCl t) 0
def bI (most : Bool) (f : Int → Int) : Nat → Int → Int → Int
  | 0, _, b => b
  | k + 1, i, b => bI most f k (i + 1) (if f i = -100000 then b else if most = true then (if f i ≤ f b then b else i) else (if f b ≤ f i then b else i))
def gF (t : Td) (x y : Int) : Nat → Nat → Gs → Int
  | 0, _, g => wInk t g.2.2 x - wInk t g.2.2 y
  | k + 1, n, g => (fun f : Int → Int => f (bI (decide (n % 2 = 0)) f 4 1 0)) (fun d => if gTo t g n d = -1 then -100000 else gF t x y k (n + 1) (gGo x y g n (gTo t g n d)))
def gR (t : Td) (x y : Int) (k n : Nat) (g : Gs) (d : Int) : Int := if gTo t g n d = -1 then -100000 else gF t x y k (n + 1) (gGo x y g n (gTo t g n d))
theorem gF_s (t : Td) (x y : Int) (k n : Nat) (g : Gs) : gF t x y (k + 1) n g = gR t x y k n g (bI (decide (n % 2 = 0)) (gR t x y k n g) 4 1 0) := rfl
/-- what a row of j turns comes to, played on for rem -/
def pvG (t : Td) (x y : Int) (rem : Nat) : Nat → Nat → Gs → Int → Int
  | 0, n, g, _ => gF t x y rem n g
  | j + 1, n, g, code => if gTo t g n (Int.tdiv code (p5 j)) = -1 then -100000 else pvG t x y rem j (n + 1) (gGo x y g n (gTo t g n (Int.tdiv code (p5 j)))) (Int.tmod code (p5 j))
def gameA (t : Td) (s : Sc) (x y n what : Int) : Int :=
  if (0 ≤ x ∧ x < tPn t) ∧ (0 ≤ y ∧ y < tPn t) ∧ x ≠ y ∧ (1 ≤ n ∧ n ≤ 4) ∧ 0 ≤ what ∧ what ≤ 1 then
    (if what = 0 then gF t x y n.toNat 0 (cAt s x, cAt s y, cWh s) else bI true (gR t x y (n.toNat - 1) 0 (cAt s x, cAt s y, cWh s)) 4 1 0 - 1) else -1000
theorem p5_s {j : Nat} (h : j ≤ 4) : (j = 0 ∧ p5 j = 1) ∨ (j = 1 ∧ p5 j = 5) ∨ (j = 2 ∧ p5 j = 25) ∨ (j = 3 ∧ p5 j = 125) ∨ (j = 4 ∧ p5 j = 625) := by
  have : j = 0 ∨ j = 1 ∨ j = 2 ∨ j = 3 ∨ j = 4 := by omega
  rcases this with rfl | rfl | rfl | rfl | rfl <;> decide
theorem bI_c {m : Bool} {f f' : Int → Int} (h : ∀ z, 0 ≤ z → z < 5 → f z = f' z) : ∀ (k : Nat) (i b : Int), 0 ≤ i → i + k ≤ 5 → (0 ≤ b ∧ b < 5) → bI m f k i b = bI m f' k i b ∧ (0 ≤ bI m f k i b ∧ bI m f k i b < 5) := by
  intro k
  induction k with
  | zero => intro i b h1 h2 h3; exact ⟨rfl, h3⟩
  | succ k ih =>
    intro i b h1 h2 h3
    simp only [bI]
    rw [h i h1 (by omega), h b h3.1 h3.2]
    exact ih (i + 1) _ (by omega) (by omega) (by
      split
      · exact h3
      · split
        · split <;> omega
        · split <;> omega)
theorem bI_far {m : Bool} {f : Int → Int} (h : ∀ z, 0 ≤ z → z < 5 → f z = -100000) : ∀ (k : Nat) (i b : Int), 0 ≤ i → i + k ≤ 5 → bI m f k i b = b := by
  intro k
  induction k with
  | zero => intro i b _ _; rfl
  | succ k ih =>
    intro i b h1 h2
    simp only [bI]
    rw [if_pos (h i h1 (by omega))]
    exact ih (i + 1) b (by omega) (by omega)
theorem dm5 {j : Nat} (hj : j ≤ 3) {c i : Int} (hc : 0 ≤ c) (hi : 0 ≤ i ∧ i < 5) : Int.tdiv (5 * c + i) (p5 (j + 1)) = Int.tdiv c (p5 j) ∧ Int.tmod (5 * c + i) (p5 (j + 1)) = 5 * Int.tmod c (p5 j) + i := by
  have e : p5 (j + 1) = 5 * p5 j := rfl
  rw [e, Int.tdiv_eq_ediv_of_nonneg (by omega), Int.tmod_eq_emod_of_nonneg (by omega), Int.tdiv_eq_ediv_of_nonneg hc, Int.tmod_eq_emod_of_nonneg hc]
  rcases p5_s (show j ≤ 4 by omega) with ⟨-, h⟩ | ⟨-, h⟩ | ⟨-, h⟩ | ⟨-, h⟩ | ⟨-, h⟩ <;> rw [h] <;> omega
theorem pv_red (t : Td) (x y : Int) (rem : Nat) : ∀ (j n : Nat) (g : Gs) (c : Int), j ≤ 3 → 0 ≤ c → c < p5 j → pvG t x y (rem + 1) j n g c = pvG t x y rem (j + 1) n g (5 * c + bI (decide ((n + j) % 2 = 0)) (fun i => pvG t x y rem (j + 1) n g (5 * c + i)) 4 1 0) := by
  intro j
  induction j with
  | zero =>
    intro n g c h1 h2 h3
    have e0 : c = 0 := by have : p5 0 = 1 := rfl; omega
    subst e0
    have ef : ∀ i, pvG t x y rem 1 n g (5 * 0 + i) = gR t x y rem n g i := fun i => by
      have e1 : p5 0 = 1 := rfl
      simp only [pvG, e1, gR, Int.mul_zero, Int.zero_add, Int.tdiv_one]
    have e2 : pvG t x y (rem + 1) 0 n g 0 = gF t x y (rem + 1) n g := rfl
    rw [e2, gF_s, ef]
    have e3 : (fun i => pvG t x y rem (0 + 1) n g (5 * 0 + i)) = gR t x y rem n g := by funext i; exact ef i
    rw [e3]
    rfl
  | succ j ih =>
    intro n g c h1 h2 h3
    have hp := p5_s (show j ≤ 4 by omega)
    have hp1 : p5 (j + 1) = 5 * p5 j := rfl
    have hpp : 0 < p5 j := by rcases hp with h | h | h | h | h <;> omega
    have hd : ∀ i, 0 ≤ i → i < 5 → pvG t x y rem (j + 1 + 1) n g (5 * c + i) = if gTo t g n (Int.tdiv c (p5 j)) = -1 then -100000 else pvG t x y rem (j + 1) (n + 1) (gGo x y g n (gTo t g n (Int.tdiv c (p5 j)))) (5 * Int.tmod c (p5 j) + i) := fun i a b => by
      have e : pvG t x y rem (j + 1 + 1) n g (5 * c + i) = if gTo t g n (Int.tdiv (5 * c + i) (p5 (j + 1))) = -1 then -100000 else pvG t x y rem (j + 1) (n + 1) (gGo x y g n (gTo t g n (Int.tdiv (5 * c + i) (p5 (j + 1))))) (Int.tmod (5 * c + i) (p5 (j + 1))) := rfl
      rw [e, (dm5 (by omega) h2 ⟨a, b⟩).1, (dm5 (by omega) h2 ⟨a, b⟩).2]
    have hb := (bI_c (m := decide ((n + (j + 1)) % 2 = 0)) hd 4 1 0 (by omega) (by omega) (by omega))
    rw [hd _ hb.2.1 hb.2.2, hb.1]
    have e4 : pvG t x y (rem + 1) (j + 1) n g c = if gTo t g n (Int.tdiv c (p5 j)) = -1 then -100000 else pvG t x y (rem + 1) j (n + 1) (gGo x y g n (gTo t g n (Int.tdiv c (p5 j)))) (Int.tmod c (p5 j)) := rfl
    rw [e4]
    by_cases z : gTo t g n (Int.tdiv c (p5 j)) = -1
    · rw [if_pos z, if_pos z]
    · have hm := tmod_pos h2 hpp
      simp only [if_neg z]
      have := ih (n + 1) (gGo x y g n (gTo t g n (Int.tdiv c (p5 j)))) (Int.tmod c (p5 j)) (by omega) hm.1 hm.2
      rw [show n + 1 + j = n + (j + 1) by omega] at this
      exact this
theorem wInk_b {t : Td} (ho : TdOk t) (W : Int → Int) (q : Int) : 0 ≤ wInk t W q ∧ wInk t W q ≤ 36 := by
  have := cnt_b (fun c => W c = q) (nCl t) 0
  have := nCl_b ho
  unfold wInk; omega
theorem bI_r {m : Bool} {f : Int → Int} {P : Int → Prop} (h0 : P (f 0)) (h : ∀ z, f z ≠ -100000 → P (f z)) : ∀ (k : Nat) (i b : Int), P (f b) → P (f (bI m f k i b)) := by
  intro k
  induction k with
  | zero => intro i b hb; exact hb
  | succ k ih =>
    intro i b hb
    simp only [bI]
    apply ih
    split
    · exact hb
    · next z =>
      split
      · split
        · exact hb
        · exact h i z
      · split
        · exact hb
        · exact h i z
def gOk (t : Td) (g : Gs) : Prop := (0 ≤ g.1 ∧ g.1 < tSd t * tSd t) ∧ (0 ≤ g.2.1 ∧ g.2.1 < tSd t * tSd t)
theorem gFr_b {t : Td} {g : Gs} (h : gOk t g) (n : Nat) : 0 ≤ gFr g n ∧ gFr g n < tSd t * tSd t := by
  unfold gFr; split
  · exact h.1
  · exact h.2
theorem gTo_b {t : Td} {g : Gs} (hs : 2 ≤ tSd t ∧ tSd t ≤ 6) (h : gOk t g) (n : Nat) (d : Int) : gTo t g n d = -1 ∨ (0 ≤ gTo t g n d ∧ gTo t g n d < tSd t * tSd t) := by
  unfold gTo
  split
  · exact Or.inr (gFr_b h n)
  · exact bes_b hs (gFr_b h n)
theorem gGo_ok {t : Td} {g : Gs} (h : gOk t g) {x y : Int} (n : Nat) {to : Int} (ht : 0 ≤ to ∧ to < tSd t * tSd t) : gOk t (gGo x y g n to) := by
  unfold gGo
  split
  · exact ⟨ht, h.2⟩
  · exact ⟨h.1, ht⟩
theorem gF_b {t : Td} (ho : TdOk t) (hs : 2 ≤ tSd t ∧ tSd t ≤ 6) (x y : Int) : ∀ (k n : Nat) (g : Gs), gOk t g → -36 ≤ gF t x y k n g ∧ gF t x y k n g ≤ 36 := by
  intro k
  induction k with
  | zero =>
    intro n g _
    have h1 := wInk_b ho g.2.2 x
    have h2 := wInk_b ho g.2.2 y
    simp only [gF]; omega
  | succ k ih =>
    intro n g hg
    rw [gF_s]
    have hgo : ∀ d, gTo t g n d ≠ -1 → (-36 ≤ gR t x y k n g d ∧ gR t x y k n g d ≤ 36) := fun d a => by
      unfold gR
      rw [if_neg a]
      rcases gTo_b hs hg n d with z | z
      · exact absurd z a
      · exact ih _ _ (gGo_ok hg n z)
    have h0 : gTo t g n 0 ≠ -1 := by
      have := gFr_b hg n
      unfold gTo; rw [if_pos rfl]; omega
    exact bI_r (P := fun v => -36 ≤ v ∧ v ≤ 36) (hgo 0 h0) (fun z hz => hgo z (fun q => hz (by unfold gR; rw [if_pos q]))) 4 1 0 (hgo 0 h0)
section
variable {S : ZS} {R M : ZM} {t : Td} {s : Sc}
/-- places and strokes in the reference's rows -/
def RPg (M : ZM) (t : Td) (x y : Int) (g : Gs) : Prop := PtW M ∧ RTd M t ∧ M 178 x = g.1 ∧ M 178 y = g.2.1 ∧ ∀ c, 0 ≤ c → c < 36 → M 180 c = g.2.2 c
theorem r_wInk (hS : ShW S) (ho : TdOk t) {x y : Int} {g : Gs} (h : RPg M t x y g) (q : Int) : pX12_strokesOf S M 176 q = some (wInk t g.2.2 q, M) :=
  r_strokesOf hS.o h.1.o h.2.1 ho (s := (fun _ => 0, fun _ => 0, g.2.2, fun _ => 0, 0, 0, 0)) h.2.2.2.2 q
theorem RPg.go {x y : Int} {g : Gs} (h : RPg M t x y g) (hxy : x ≠ y) (n : Nat) {to : Int} : RPg (upM (upM M 178 (if n % 2 = 0 then x else y) to) 180 to (if n % 2 = 0 then x else y)) t x y (gGo x y g n to) := by
  obtain ⟨h1, h2, h3, h4, h5⟩ := h
  refine ⟨(h1.o.eq (upM_r (by decide))).eq (upM_r (by decide)), (h2.eq (fun j _ _ => by rw [upM_r (by decide)]) (upM_r (by decide)) (upM_r (by decide)) (upM_r (by decide))).eq (fun j _ _ => by rw [upM_r (by decide)]) (upM_r (by decide)) (upM_r (by decide)) (upM_r (by decide)), ?_, ?_, fun c a b => ?_⟩
  · rw [upM_r (by decide)]
    unfold gGo
    by_cases z : n % 2 = 0
    · simp only [if_pos z]; rw [upM_s]
    · simp only [if_neg z]; rw [upM_i hxy]; exact h3
  · rw [upM_r (by decide)]
    unfold gGo
    by_cases z : n % 2 = 0
    · simp only [if_pos z]; rw [upM_i (Ne.symm hxy)]; exact h4
    · simp only [if_neg z]; rw [upM_s]
  · have e : upM (upM M 178 (if n % 2 = 0 then x else y) to) 180 to (if n % 2 = 0 then x else y) 180 c = if c = to then (if n % 2 = 0 then x else y) else g.2.2 c := by
      by_cases w : c = to
      · rw [w, upM_s, if_pos rfl]
      · rw [upM_i w, upM_r (by decide), if_neg w]; exact h5 c a b
    rw [e]
    unfold gGo
    by_cases z : n % 2 = 0
    · simp only [if_pos z]
    · simp only [if_neg z]
theorem RPg.fr {x y : Int} {g : Gs} (h : RPg M t x y g) (hx : (0 ≤ x ∧ x < 5) ∧ (0 ≤ y ∧ y < 5)) {n : Nat} : 0 ≤ (if n % 2 = 0 then x else y) ∧ (if n % 2 = 0 then x else y) < 5 ∧ M 178 (if n % 2 = 0 then x else y) = gFr g n := by
  obtain ⟨h1, h2, h3, h4, h5⟩ := h
  unfold gFr
  by_cases z : n % 2 = 0
  · simp only [if_pos z]; exact ⟨hx.1.1, hx.1.2, h3⟩
  · simp only [if_neg z]; exact ⟨hx.2.1, hx.2.2, h4⟩
theorem r_play_far (hS : ShW S) (hp : PtW R) (hK : RK R M) {x y n code v w : Int} (f : Nat) : ∃ M', pX12_playOf_10 S (f + 1) M 176 x y n code v 0 w = some (-100000, M') ∧ RK R M' ∧ RAt R M' ∧ ∀ a, (a < 176 ∨ 183 < a) → M' a = M a := by
  obtain ⟨M', a1, a2, a3, a4⟩ := r_laysBack2 hS.o hp.o hK
  refine ⟨M', ?_, a2, a3, a4⟩
  simp [pX12_playOf_10, pX12_playOf_124, pX12_playOf_146, hS.o, a1]
theorem dd5 {k : Nat} (hk : k ≤ 3) {c : Int} (hc : 0 ≤ c) : Int.tdiv (Int.tmod c (p5 (k + 1))) (p5 k) = Int.tmod (Int.tdiv c (p5 k)) 5 ∧ Int.tmod (Int.tmod c (p5 (k + 1))) (p5 k) = Int.tmod c (p5 k) ∧ Int.tdiv (p5 (k + 1)) 5 = p5 k ∧ (0 < p5 k ∧ p5 k ≤ 125) ∧ (0 ≤ Int.tdiv c (p5 k) ∧ Int.tdiv c (p5 k) ≤ c) := by
  have e : p5 (k + 1) = 5 * p5 k := rfl
  rw [e]
  have h1 : 0 ≤ c % (5 * p5 k) ∧ 0 ≤ c / p5 k := by
    rcases p5_s (show k ≤ 4 by omega) with ⟨-, h⟩ | ⟨-, h⟩ | ⟨-, h⟩ | ⟨-, h⟩ | ⟨-, h⟩ <;> rw [h] <;> omega
  rw [Int.tmod_eq_emod_of_nonneg hc, Int.tmod_eq_emod_of_nonneg hc, Int.tdiv_eq_ediv_of_nonneg hc, Int.tdiv_eq_ediv_of_nonneg h1.1, Int.tmod_eq_emod_of_nonneg h1.1, Int.tmod_eq_emod_of_nonneg h1.2, Int.tdiv_eq_ediv_of_nonneg (a := 5 * p5 k) (by rcases p5_s (show k ≤ 4 by omega) with ⟨-, h⟩ | ⟨-, h⟩ | ⟨-, h⟩ | ⟨-, h⟩ | ⟨-, h⟩ <;> omega)]
  rcases p5_s (show k ≤ 4 by omega) with ⟨-, h⟩ | ⟨-, h⟩ | ⟨-, h⟩ | ⟨-, h⟩ | ⟨h', h⟩ <;> (try omega) <;> rw [h] <;> omega
theorem tm2 (m : Nat) (x y : Int) : (if Int.tmod (m : Int) 2 = 0 then x else y) = (if m % 2 = 0 then x else y) := by
  have h : Int.tmod (m : Int) 2 = ((m % 2 : Nat) : Int) := by rw [Int.tmod_eq_emod_of_nonneg (by omega)]; omega
  rw [h]
  by_cases z : m % 2 = 0
  · rw [if_pos z, if_pos (by omega)]
  · rw [if_neg z, if_neg (by omega)]
theorem r_play_10 (hS : ShW S) (hp : PtW R) (hs : 2 ≤ tSd t ∧ tSd t ≤ 6) (ho : TdOk t) {x y : Int} (hx : (0 ≤ x ∧ x < 5) ∧ (0 ≤ y ∧ y < 5)) (hxy : x ≠ y) {n : Nat} (hn : n ≤ 4) {code : Int} (hc : 0 ≤ code ∧ code < 625) : ∀ (k fuel : Nat) (M : ZM) (m : Nat) (g : Gs), RK R M → RPg M t x y g → gOk t g → m + k = n → k + 1 < fuel →
    ∃ M', pX12_playOf_10 S fuel M 176 x y n code (p5 k) 1 m = some (pvG t x y 0 k m g (Int.tmod code (p5 k)), M') ∧ RK R M' ∧ RAt R M' ∧ ∀ a, (a < 176 ∨ 183 < a) → M' a = M a := by
  have hb := sq_b ho.1
  intro k
  induction k with
  | zero =>
    intro fuel M m g hK hP hg h1 h2
    obtain ⟨f, rfl⟩ : ∃ f, fuel = f + 1 := ⟨fuel - 1, by omega⟩
    obtain ⟨M', a1, a2, a3, a4⟩ := r_laysBack2 hS.o hp.o hK
    refine ⟨M', ?_, a2, a3, a4⟩
    have b1 := wInk_b ho g.2.2 x
    have b2 := wInk_b ho g.2.2 y
    have hnm : (n : Int) ≤ (m : Int) := by omega
    have w1 : w32 (wInk t g.2.2 x - wInk t g.2.2 y) = wInk t g.2.2 x - wInk t g.2.2 y := w32_i (by omega) (by omega)
    simp only [pX12_playOf_10]
    rw [if_pos hnm]
    simp [pX12_playOf_124, pX12_playOf_146, hS.o, r_wInk hS ho hP, w1, a1, pvG, gF]
  | succ k ih =>
    intro fuel M m g hK hP hg h1 h2
    obtain ⟨f, rfl⟩ : ∃ f, fuel = f + 1 := ⟨fuel - 1, by omega⟩
    obtain ⟨d1, d2, d3, d4, d5⟩ := dd5 (k := k) (by omega) hc.1
    have e0 : pvG t x y 0 (k + 1) m g (Int.tmod code (p5 (k + 1))) = if gTo t g m (Int.tmod (Int.tdiv code (p5 k)) 5) = -1 then -100000 else pvG t x y 0 k (m + 1) (gGo x y g m (gTo t g m (Int.tmod (Int.tdiv code (p5 k)) 5))) (Int.tmod code (p5 k)) := by
      have e : pvG t x y 0 (k + 1) m g (Int.tmod code (p5 (k + 1))) = if gTo t g m (Int.tdiv (Int.tmod code (p5 (k + 1))) (p5 k)) = -1 then -100000 else pvG t x y 0 k (m + 1) (gGo x y g m (gTo t g m (Int.tdiv (Int.tmod code (p5 (k + 1))) (p5 k)))) (Int.tmod (Int.tmod code (p5 (k + 1))) (p5 k)) := rfl
      rw [e, d1, d2]
    rw [e0]
    generalize hd : Int.tmod (Int.tdiv code (p5 k)) 5 = d
    have hdb : 0 ≤ d ∧ d < 5 := by
      have := tmod_pos (a := Int.tdiv code (p5 k)) (b := 5) d5.1 (by decide)
      omega
    have hnm : ¬ (n : Int) ≤ (m : Int) := by omega
    have w5 : w32 (p5 k) = p5 k := w32_i (by omega) (by omega)
    have w6 : w32 (Int.tdiv code (p5 k)) = Int.tdiv code (p5 k) := w32_i (by omega) (by omega)
    have w7 : w32 (d - 1) = d - 1 := w32_i (by omega) (by omega)
    have wm : w32 ((m : Int) + 1) = ((m + 1 : Nat) : Int) := by rw [w32_i (by omega) (by omega)]; omega
    obtain ⟨q1, q2, q3⟩ := hP.fr hx (n := m)
    have hq : (if Int.tmod (m : Int) 2 = 0 then x else y) = (if m % 2 = 0 then x else y) := tm2 m x y
    have hfb := gFr_b hg m
    have hto : pX12_playOf_33 S (pX12_playOf_10 S f) M 176 x y n code (p5 (k + 1)) m (if m % 2 = 0 then x else y) = pX12_playOf_80 S (pX12_playOf_10 S f) M 176 x y n code (p5 k) m (if m % 2 = 0 then x else y) (gTo t g m d) := by
      have hb2 := r_beside hS.o hP.1.o hP.2.1 hs hfb (b := d - 1)
      simp only [pX12_playOf_33, d3, w5, w6, hd, zlet]
      rw [if_pos (by omega)]
      by_cases z : d = 0
      · subst z
        simp [hS.o, hP.1.o, q1, q2, q3, gTo]
      · simp [z, hS.o, hP.1.o, q1, q2, q3, w7, hb2, gTo]
    have e10 : pX12_playOf_10 S (f + 1) M 176 x y n code (p5 (k + 1)) 1 m = pX12_playOf_80 S (pX12_playOf_10 S f) M 176 x y n code (p5 k) m (if m % 2 = 0 then x else y) (gTo t g m d) := by
      rw [← hto]
      simp only [pX12_playOf_10]
      rw [if_neg hnm, if_neg (by decide), hq]
    rw [e10]
    by_cases z : gTo t g m d = -1
    · rw [if_pos z]
      obtain ⟨f2, rfl⟩ : ∃ f2, f = f2 + 1 := ⟨f - 1, by omega⟩
      obtain ⟨M', a1, a2⟩ := r_play_far (x := x) (y := y) (n := n) (code := code) (v := p5 k) (w := ((m + 1 : Nat) : Int)) hS hp hK f2
      refine ⟨M', ?_, a2⟩
      rw [← a1]
      simp only [pX12_playOf_80, pX12_playOf_93, pX12_playOf_118, z, if_true, wm]
    · rw [if_neg z]
      rcases gTo_b hs hg m d with z2 | z2
      · exact absurd z2 z
      have hP2 : RPg (upM (upM M 178 (if m % 2 = 0 then x else y) (gTo t g m d)) 180 (gTo t g m d) (if m % 2 = 0 then x else y)) t x y (gGo x y g m (gTo t g m d)) := RPg.go hP hxy m
      have hp2 : PtR (upM M 178 (if m % 2 = 0 then x else y) (gTo t g m d)) := hP.1.o.eq (upM_r (by decide))
      obtain ⟨M', a1, a2, a3, a4⟩ := ih f _ (m + 1) (gGo x y g m (gTo t g m d)) ((hK.eq (M' := upM M 178 (if m % 2 = 0 then x else y) (gTo t g m d)) (fun a z => upM_r (by clear hp2; omega))).eq (fun a z => upM_r (by clear hp2; omega))) hP2 (gGo_ok hg m z2) (by clear hp2; omega) (by clear hp2; omega)
      refine ⟨M', ?_, a2, a3, fun a u => by rw [a4 a u, upM_r (by clear hp2; omega), upM_r (by clear hp2; omega)]⟩
      rw [← a1]
      have g1 : gTo t g m d < 36 := by clear hp2; omega
      simp [pX12_playOf_80, pX12_playOf_93, pX12_playOf_118, z, hS.o, hP.1.o, q1, q2, zlet, hp2, z2.1, g1, wm]
theorem r_bestAt_7 (hS : ShW S) (hM : PtW M) {f : Int → Int} {fr mo : Int} (hf : 0 ≤ fr ∧ fr ≤ 620) (hv : ∀ z, 0 ≤ z → z < 5 → M 208 (fr + z) = f z) : ∀ (k fuel : Nat) (i b : Int), i + k = 5 → 0 ≤ i → (0 ≤ b ∧ b < 5) → k < fuel → pX12_bestAt_7 S fuel M 176 fr mo (fr + b) (fr + i) = some (fr + bI (decide (mo ≠ 0)) f k i b, M) := by
  have w5 : w32 (fr + 5) = fr + 5 := w32_i (by omega) (by omega)
  intro k
  induction k with
  | zero =>
    intro fuel i b h1 h2 h3 h4
    obtain ⟨fu, rfl⟩ : ∃ f, fuel = f + 1 := ⟨fuel - 1, by omega⟩
    simp [pX12_bestAt_7, w5, show fr + 5 ≤ fr + i by omega, bI]
  | succ k ih =>
    intro fuel i b h1 h2 h3 h4
    obtain ⟨fu, rfl⟩ : ∃ f, fuel = f + 1 := ⟨fuel - 1, by omega⟩
    have wi : w32 (fr + i + 1) = fr + (i + 1) := by rw [w32_i (by omega) (by omega)]; omega
    have g0 : ¬ fr + 5 ≤ fr + i := by omega
    have g1 : 0 ≤ fr + i ∧ fr + i < 625 := by omega
    have g2 : 0 ≤ fr + b ∧ fr + b < 625 := by omega
    have e1 := hv i h2 (by omega)
    have e2 := hv b h3.1 h3.2
    have e0 : pX12_bestAt_7 S (fu + 1) M 176 fr mo (fr + b) (fr + i) = pX12_bestAt_7 S fu M 176 fr mo (fr + (if f i = -100000 then b else if decide (mo ≠ 0) = true then (if f i ≤ f b then b else i) else (if f b ≤ f i then b else i))) (fr + (i + 1)) := by
      simp only [pX12_bestAt_7, w5, if_neg g0]
      by_cases c1 : f i = -100000
      · simp [hS.o, hM.o, g1, e1, c1, pX12_bestAt_70, wi]
      · by_cases c2 : mo = 0
        · by_cases c3 : f b ≤ f i
          · simp [hS.o, hM.o, g1, g2, e1, e2, c1, c2, c3, pX12_bestAt_70, wi]
          · simp [hS.o, hM.o, g1, g2, e1, e2, c1, c2, c3, pX12_bestAt_70, pX12_bestAt_67, wi]
        · by_cases c3 : f i ≤ f b
          · simp [hS.o, hM.o, g1, g2, e1, e2, c1, c2, c3, pX12_bestAt_70, wi]
          · simp [hS.o, hM.o, g1, g2, e1, e2, c1, c2, c3, pX12_bestAt_70, pX12_bestAt_67, wi]
    rw [e0, ih fu (i + 1) _ (by omega) (by omega) (by
      split
      · exact h3
      · split
        · split <;> omega
        · split <;> omega) (by omega)]
    rfl
theorem r_bestAt (hS : ShW S) (hM : PtW M) {f : Int → Int} {fr mo : Int} (hf : 0 ≤ fr ∧ fr ≤ 620) (hv : ∀ z, 0 ≤ z → z < 5 → M 208 (fr + z) = f z) : pX12_bestAt S M 176 fr mo = some (fr + bI (decide (mo ≠ 0)) f 4 1 0, M) := by
  have := r_bestAt_7 hS hM (mo := mo) hf hv 4 zFU 1 0 (by omega) (by omega) (by omega) (zFU_gt (by omega))
  rw [Int.add_zero] at this
  rw [pX12_bestAt, w32_i (by omega) (by omega)]
  exact this
end
