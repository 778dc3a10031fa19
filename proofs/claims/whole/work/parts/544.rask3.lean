/-! WHAT IS ASKED: pence, rests, rains; the reference -/
def penF (t : Td) (s : Sc) (much all q : Int) : Nat → Int → Int → Int → Int
  | 0, _, l, h => Int.tdiv (much * inkS t s q) all + (if l ≤ h then 0 else 1)
  | k + 1, i, l, h => penF t s much all q k (i + 1) (l - Int.tdiv (much * inkS t s i) all) (h + (if 0 < Int.tmod (much * inkS t s i) all - Int.tmod (much * inkS t s q) all then 1 else if Int.tmod (much * inkS t s i) all - Int.tmod (much * inkS t s q) all = 0 then (if q ≤ i then 0 else 1) else 0))
def allS (t : Td) (s : Sc) : Int := tSd t * tSd t - inkS t s (-1)
def penceA (t : Td) (s : Sc) (much q : Int) : Int := if (0 ≤ q ∧ q < tPn t) ∧ 0 ≤ much ∧ much ≤ 9999 then (if allS t s = 0 then 0 else penF t s much (allS t s) q (tPn t).toNat 0 much 0) else -1
def scSt (s : Sc) (q v : Int) : Sc := (cAt s, fun i => if i = q then v else cSt s i, cWh s, cSi s, cSy s, cDy s, cCl s)
def rstS (t : Td) (r : Ru) (s : Sc) (x y : Int) (n : Nat) (k : Int) : Sc := daysS t r n (scSt (scSt s x (3 * Int.tdiv k 4)) y (3 * Int.tmod k 4))
def restB (f g : Int → Int) (c : Int) : Nat → Int → Bool
  | 0, _ => true
  | k + 1, i => if f c < f (4 * i + Int.tmod c 4) then false else if g (c - Int.tmod c 4 + i) ≤ g c then restB f g c k (i + 1) else false
def leastF (b : Int → Bool) : Nat → Int → Int
  | 0, _ => -1
  | k + 1, i => if b i = true then i else leastF b k (i + 1)
def rstB (t : Td) (r : Ru) (s : Sc) (x y : Int) (n : Nat) (c : Int) : Bool := restB (fun k => inkS t (rstS t r s x y n k) x) (fun k => inkS t (rstS t r s x y n k) y) c 4 0
def restsA (t : Td) (r : Ru) (s : Sc) (x y n what : Int) : Int :=
  if (0 ≤ x ∧ x < tPn t) ∧ (0 ≤ y ∧ y < tPn t) ∧ x ≠ y ∧ (1 ≤ n ∧ n ≤ 20) ∧ 0 ≤ what ∧ what ≤ 2 then
    (if what = 0 then cnt (fun c => rstB t r s x y n.toNat c = true) 16 0 else if leastF (rstB t r s x y n.toNat) 16 0 = -1 then -2 else if what = 1 then 3 * Int.tdiv (leastF (rstB t r s x y n.toNat) 16 0) 4 else 3 * Int.tmod (leastF (rstB t r s x y n.toNat) 16 0) 4) else -1
def drw (x : Int) : Int := Int.tmod (x * 1103515245 + 12345) 2147483648
def scWs (s : Sc) (c : Int) : Sc := (cAt s, cSt s, fun i => if i = c then -1 else cWh s i, fun i => if i = c then -1 else cSi s i, cSy s, cDy s, cCl s)
def rainD (t : Td) (r : Ru) (p : Int) : Nat → Sc → Int → Sc × Int
  | 0, s, x => (s, x)
  | k + 1, s, x => if p ≤ Int.tmod (Int.tdiv (drw x) 65536) 100 then rainD t r p k (dayS t r s) (drw x) else rainD t r p k (dayS t r (scWs s (Int.tmod (Int.tdiv (drw (drw x)) 65536) (tSd t * tSd t)))) (drw (drw x))
def rainF (t : Td) (r : Ru) (s : Sc) (n : Nat) (p what : Int) : Nat → Int → Int → Int
  | 0, _, y => y
  | k + 1, x, y => rainF t r s n p what k (rainD t r p n s x).2 (y + (if what = 0 then likeS t (rainD t r p n s x).1 else cCl (rainD t r p n s x).1 - cCl s))
def rainsA (t : Td) (r : Ru) (s : Sc) (x m n p what : Int) : Int :=
  if 0 < tSd t ∧ (1 ≤ m ∧ m ≤ 10) ∧ (1 ≤ n ∧ n ≤ 60) ∧ (0 ≤ p ∧ p ≤ 100) ∧ 0 ≤ what ∧ what ≤ 1 then rainF t r s n.toNat p what m.toNat x 0 else -1
theorem tdm_b {a b : Int} (ha : 0 ≤ a ∧ a ≤ 1000000) (hb : 0 < b) : (0 ≤ Int.tdiv a b ∧ Int.tdiv a b ≤ 1000000) ∧ (0 ≤ Int.tmod a b ∧ Int.tmod a b < b) := by
  refine ⟨⟨Int.tdiv_nonneg ha.1 (by omega), ?_⟩, tmod_pos ha.1 hb⟩
  have := Int.tdiv_le_self (a := a) b ha.1
  omega
theorem mul_ib {m i : Int} (hm : 0 ≤ m ∧ m ≤ 9999) (hi : 0 ≤ i ∧ i ≤ 36) : 0 ≤ m * i ∧ m * i ≤ 1000000 := by
  refine ⟨Int.mul_nonneg hm.1 hi.1, ?_⟩
  have h1 : m * i ≤ 9999 * i := Int.mul_le_mul_of_nonneg_right hm.2 hi.1
  omega
section
variable {S : ZS} {R M : ZM} {t : Td} {s : Sc} {r : Ru}
theorem r_pence_42 (hS : ShR S) (ho : TdOk t) (h : RS M t s) {much all q : Int} (hm : 0 ≤ much ∧ much ≤ 9999) (ha : 0 < all ∧ all ≤ 36) : ∀ (k fuel : Nat) (i l b : Int), i + k = tPn t → 0 ≤ i → -10000000 ≤ l - 1000000 * k ∧ l ≤ 10000 → 0 ≤ b ∧ b ≤ i → k < fuel → pX12_pence_42 S fuel M 176 much q all l b i = some (penF t s much all q k i l b, M) := by
  have hp := ho.2.2.1
  have hM := h.1
  have e2 := h.2.1.2.2.1
  intro k
  induction k with
  | zero =>
    intro fuel i l b h1 h2 h3 h4 h5
    obtain ⟨f, rfl⟩ : ∃ f, fuel = f + 1 := ⟨fuel - 1, by omega⟩
    have m1 := mul_ib hm (ink_b (s := s) ho q)
    have m2 := tdm_b (b := all) m1 ha.1
    have w1 : w32 (much * inkS t s q) = much * inkS t s q := w32_i (by omega) (by omega)
    have w2 : w32 (Int.tdiv (much * inkS t s q) all) = Int.tdiv (much * inkS t s q) all := w32_i (by omega) (by omega)
    have w3 : w32 (Int.tdiv (much * inkS t s q) all + (if l ≤ b then 0 else 1)) = Int.tdiv (much * inkS t s q) all + (if l ≤ b then 0 else 1) := by
      apply w32_i <;> split <;> omega
    simp only [pX12_pence_42, hS, hM, e2, if_true, r_strokes hS ho h, Option.bind_some, penF, w1, w2, w3]
    rw [if_pos (by decide), if_pos (by omega), if_pos (by omega)]
  | succ k ih =>
    intro fuel i l b h1 h2 h3 h4 h5
    obtain ⟨f, rfl⟩ : ∃ f, fuel = f + 1 := ⟨fuel - 1, by omega⟩
    have m1 := mul_ib hm (ink_b (s := s) ho i)
    have m2 := tdm_b (b := all) m1 ha.1
    have n1 := mul_ib hm (ink_b (s := s) ho q)
    have n2 := tdm_b (b := all) n1 ha.1
    have w1 : w32 (much * inkS t s i) = much * inkS t s i := w32_i (by omega) (by omega)
    have w4 : w32 (much * inkS t s q) = much * inkS t s q := w32_i (by omega) (by omega)
    have w2 : w32 (Int.tdiv (much * inkS t s i) all) = Int.tdiv (much * inkS t s i) all := w32_i (by omega) (by omega)
    have w3 : w32 (l - Int.tdiv (much * inkS t s i) all) = l - Int.tdiv (much * inkS t s i) all := w32_i (by omega) (by omega)
    have w5 : w32 (Int.tmod (much * inkS t s i) all - Int.tmod (much * inkS t s q) all) = Int.tmod (much * inkS t s i) all - Int.tmod (much * inkS t s q) all := w32_i (by omega) (by omega)
    have w6 : w32 (i + 1) = i + 1 := w32_i (by omega) (by omega)
    generalize hx : (if 0 < Int.tmod (much * inkS t s i) all - Int.tmod (much * inkS t s q) all then (1 : Int) else if Int.tmod (much * inkS t s i) all - Int.tmod (much * inkS t s q) all = 0 then (if q ≤ i then 0 else 1) else 0) = x
    have hxb : 0 ≤ x ∧ x ≤ 1 := by rw [← hx]; split <;> (try split) <;> (try split) <;> omega
    have w7 : w32 (b + x) = b + x := w32_i (by omega) (by omega)
    simp only [pX12_pence_42, pX12_pence_90, hS, hM, e2, if_true, r_strokes hS ho h, Option.bind_some, penF, w1, w2, w3, w4, w5, w6, zlet, hx, w7]
    rw [if_pos (by decide), if_neg (by omega), if_pos (by omega)]
    exact ih f (i + 1) _ _ (by omega) (by omega) (by omega) (by omega) (by omega)
theorem r_pence (h : QG S R t s r) {much q : Int} : ∃ M', pX12_pence S R 176 much q = some (penceA t s much q, M') ∧ RAt R M' := by
  obtain ⟨hS, hR, hr, ho, hG⟩ := h
  have hM := hR.1
  have hT := hR.2.1
  have hb := sq_b ho.1
  have hp := ho.2.2.1
  refine ⟨R, ?_, RAt.refl R⟩
  unfold penceA
  by_cases g1 : 0 ≤ q ∧ q < tPn t
  · by_cases g2 : 0 ≤ much ∧ much ≤ 9999
    · rw [if_pos ⟨g1, g2⟩]
      have e : pX12_allStrokes S R 176 = some (allS t s, R) := r_allStrokes hS ho hR
      have ia := ink_b (s := s) ho (-1)
      have ib := cnt_b (fun c => cWh s c = -1) (nCl t) 0
      have ic := nCl_b ho
      have hab : 0 ≤ allS t s ∧ allS t s ≤ 36 := by unfold allS; unfold inkS; omega
      by_cases g3 : allS t s = 0
      · simp [pX12_pence, hS, r_isPen hS hM hT ho, g1, r_in, g2, e, g3]
      · rw [if_neg g3, ← r_pence_42 hS ho hR (q := q) g2 (all := allS t s) (by omega) (tPn t).toNat zFU 0 much 0 (by omega) (by omega) (by omega) (by omega) (zFU_gt (by omega))]
        simp [pX12_pence, hS, r_isPen hS hM hT ho, g1, r_in, g2, e, g3]
    · rw [if_neg (fun z => g2 z.2)]
      simp [pX12_pence, pX12_pence_20, hS, r_isPen hS hM hT ho, g1, r_in, g2]
  · rw [if_neg (fun z => g1 z.1)]
    simp [pX12_pence, pX12_pence_20, hS, r_isPen hS hM hT ho, g1]
theorem RS.ps {M : ZM} {t : Td} {s : Sc} (h : RS M t s) {q : Int} (v : Int) : RS (upM M 179 q v) t (scSt s q v) := by
  obtain ⟨h1, h2, h3⟩ := h
  refine ⟨h1.eq (upM_r (by decide)), h2.eq (fun j x y => by rw [upM_r (by decide)]) (upM_r (by decide)) (upM_r (by decide)) (upM_r (by decide)), ?_⟩
  obtain ⟨a1, a2, a3⟩ := h3
  unfold RSc
  rw [upM_r (show (178 : Int) ≠ 179 by decide), upM_r (show (180 : Int) ≠ 179 by decide), upM_r (show (181 : Int) ≠ 179 by decide), upM_r (show (177 : Int) ≠ 179 by decide)]
  refine ⟨fun i x y => ⟨(a1 i x y).1, ?_⟩, a2, a3⟩
  show _ = if i = q then v else cSt s i
  by_cases z : i = q
  · subst z; rw [upM_s, if_pos rfl]
  · rw [upM_i z, if_neg z]; exact (a1 i x y).2
theorem ScGo.st {n : Nat} (h : ScGo t s n) {q v : Int} (hv : 0 ≤ v ∧ v ≤ 9) : ScGo t (scSt s q v) n := by
  obtain ⟨⟨h1, h2, h3⟩, h4, h5⟩ := h
  refine ⟨⟨fun i x y => ?_, h2, h3⟩, h4, h5⟩
  have := h1 i x y
  refine ⟨this.1, ?_⟩
  show 0 ≤ (if i = q then v else cSt s i) ∧ (if i = q then v else cSt s i) ≤ 9
  split
  · exact hv
  · exact this.2
theorem k16_b {k : Int} (h : 0 ≤ k ∧ k < 16) : (0 ≤ Int.tdiv k 4 ∧ Int.tdiv k 4 ≤ 3) ∧ (0 ≤ Int.tmod k 4 ∧ Int.tmod k 4 ≤ 3) ∧ k = 4 * Int.tdiv k 4 + Int.tmod k 4 := by
  rw [Int.tdiv_eq_ediv_of_nonneg h.1, Int.tmod_eq_emod_of_nonneg h.1]
  omega
theorem r_stiffs_7 (hS : ShR S) (hR : RS R t s) (hr : RRu S R r) (hs : 2 ≤ tSd t ∧ tSd t ≤ 6) (ho : TdOk t) (hG : ScGo t s 200) {x y n : Int} (hx : 0 ≤ x ∧ x < 5) (hy : 0 ≤ y ∧ y < 5) (hn : 1 ≤ n ∧ n ≤ 60) : ∀ (k fuel : Nat) (M : ZM) (i : Int), RK R M → RAt R M → i + k = 16 → 0 ≤ i → k < fuel → ∃ M', pX12_laysStiffs_7 S fuel M 176 x y n i = some M' ∧ RAt R M' ∧ (∀ j, i ≤ j → j < 16 → M' 209 j = inkS t (rstS t r s x y n.toNat j) x ∧ M' 210 j = inkS t (rstS t r s x y n.toNat j) y) ∧ (∀ j, j < i → M' 209 j = M 209 j ∧ M' 210 j = M 210 j) := by
  intro k
  induction k with
  | zero =>
    intro fuel M i hK hA h1 h2 h3
    obtain ⟨f, rfl⟩ : ∃ f, fuel = f + 1 := ⟨fuel - 1, by omega⟩
    refine ⟨M, ?_, hA, fun j a b => by omega, fun j _ => ⟨rfl, rfl⟩⟩
    simp [pX12_laysStiffs_7, show 16 ≤ i by omega]
  | succ k ih =>
    intro fuel M i hK hA h1 h2 h3
    obtain ⟨f, rfl⟩ : ∃ f, fuel = f + 1 := ⟨fuel - 1, by omega⟩
    have hM := hA.rs hR
    have kb := k16_b (k := i) (by omega)
    have w1 : w32 (Int.tdiv i 4) = Int.tdiv i 4 := w32_i (by omega) (by omega)
    have w2 : w32 (3 * Int.tdiv i 4) = 3 * Int.tdiv i 4 := w32_i (by omega) (by omega)
    have w3 : w32 (3 * Int.tmod i 4) = 3 * Int.tmod i 4 := w32_i (by omega) (by omega)
    have w4 : w32 (i + 1) = i + 1 := w32_i (by omega) (by omega)
    have hlt : ¬ 16 ≤ i := by omega
    have hi16 : i < 16 := by omega
    have hM2 := (hM.ps (q := x) (3 * Int.tdiv i 4)).ps (q := y) (3 * Int.tmod i 4)
    generalize hMa : upM (upM M 179 x (3 * Int.tdiv i 4)) 179 y (3 * Int.tmod i 4) = Ma at hM2
    have qa : ∀ a, a ≠ 179 → Ma a = M a := fun a z => by rw [← hMa, upM_r z, upM_r z]
    obtain ⟨M1, a1, a2, a3, a4⟩ := r_goFor hS hs ho (m := 0) (n := n) (r := r) (M := Ma) (by omega) (((hG.st (q := x) (v := 3 * Int.tdiv i 4) (by omega)).st (q := y) (v := 3 * Int.tmod i 4) (by omega)).le (by omega)) ((hA.ru hr).eq (fun a _ _ => qa a (by omega)) (by rw [qa _ (by decide)])) hM2
    have hK1 : RK R M1 := (hK.eq (fun a z => qa a (by omega))).fr a3
    generalize hMb : upM (upM M1 209 i (inkS t (rstS t r s x y n.toNat i) x)) 210 i (inkS t (rstS t r s x y n.toNat i) y) = Mb
    have qb : ∀ a, a ≠ 209 → a ≠ 210 → Mb a = M1 a := fun a z u => by rw [← hMb, upM_r u, upM_r z]
    obtain ⟨M2, b1, b2, b3, b4⟩ := r_laysBack2 hS hR.1 (hK1.eq (fun a z => qb a (by omega) (by omega)))
    have fr2 : M2 209 = Mb 209 ∧ M2 210 = Mb 210 := ⟨b4 209 (by decide), b4 210 (by decide)⟩
    obtain ⟨M', d1, d2, d3, d4⟩ := ih f M2 (i + 1) b2 b3 (by omega) (by omega) (by omega)
    have p1 := a2.1
    have hM1' : RS (upM M1 209 i (inkS t (rstS t r s x y n.toNat i) x)) t _ := a2.up (by decide)
    refine ⟨M', ?_, d2, fun j u v => ?_, fun j u => ?_⟩
    · rw [← d1, pX12_laysStiffs_7]
      have pm : PtR (upM M 179 x (3 * Int.tdiv i 4)) := hM.1.eq (upM_r (by decide))
      have e1 : pX12_strokesOf S M1 176 x = some (inkS t (rstS t r s x y n.toNat i) x, M1) := r_strokes hS ho a2 x
      have e2 : pX12_strokesOf S (upM M1 209 i (inkS t (rstS t r s x y n.toNat i) x)) 176 y = some (inkS t (rstS t r s x y n.toNat i) y, upM M1 209 i (inkS t (rstS t r s x y n.toNat i) x)) := r_strokes hS ho hM1' y
      have p3 := hM1'.1
      simp [hlt, hi16, h2, hS, hM.1, hx, hy, w1, w2, w3, zlet, pm, hMa, a1, pX12_laysStiffs_43, p1, e1, e2, p3, hMb, pX12_laysStiffs_67, b1, w4]
    · by_cases z : j = i
      · subst z
        rw [(d4 j (by omega)).1, (d4 j (by omega)).2, fr2.1, fr2.2, ← hMb, upM_r (show (209 : Int) ≠ 210 by decide), upM_s, upM_s]
        exact ⟨rfl, rfl⟩
      · exact d3 j (by omega) v
    · rw [(d4 j (by omega)).1, (d4 j (by omega)).2, fr2.1, fr2.2, ← hMb, upM_r (show (209 : Int) ≠ 210 by decide), upM_i (by omega), upM_i (by omega), upM_r (show (210 : Int) ≠ 209 by decide), a3.1 209 (by decide) (by decide) (by decide) (by decide) (by decide) (by decide), a3.1 210 (by decide) (by decide) (by decide) (by decide) (by decide) (by decide), qa 209 (by decide), qa 210 (by decide)]
      exact ⟨rfl, rfl⟩
theorem r_isRest_2 (hS : ShR S) (hM : PtR M) {f g : Int → Int} (hf : ∀ j, 0 ≤ j → j < 16 → M 209 j = f j ∧ M 210 j = g j) {c : Int} (hc : 0 ≤ c ∧ c < 16) : ∀ (k fuel : Nat) (i : Int), i + k = 4 → 0 ≤ i → k < fuel → pX12_isRest_2 S fuel M 176 c i = some (if restB f g c k i = true then 1 else 0, M) := by
  have kb := k16_b hc
  intro k
  induction k with
  | zero =>
    intro fuel i h1 h2 h3
    obtain ⟨f, rfl⟩ : ∃ f, fuel = f + 1 := ⟨fuel - 1, by omega⟩
    simp [pX12_isRest_2, show 4 ≤ i by omega, restB]
  | succ k ih =>
    intro fuel i h1 h2 h3
    obtain ⟨fu, rfl⟩ : ∃ f, fuel = f + 1 := ⟨fuel - 1, by omega⟩
    have w1 : w32 (4 * i) = 4 * i := w32_i (by omega) (by omega)
    have w2 : w32 (4 * i + Int.tmod c 4) = 4 * i + Int.tmod c 4 := w32_i (by omega) (by omega)
    have w3 : w32 (c - Int.tmod c 4) = c - Int.tmod c 4 := w32_i (by omega) (by omega)
    have w4 : w32 (c - Int.tmod c 4 + i) = c - Int.tmod c 4 + i := w32_i (by omega) (by omega)
    have w5 : w32 (i + 1) = i + 1 := w32_i (by omega) (by omega)
    have e1 := (hf c hc.1 hc.2)
    have e2 := (hf (4 * i + Int.tmod c 4) (by omega) (by omega)).1
    have e3 := (hf (c - Int.tmod c 4 + i) (by omega) (by omega)).2
    have i0 := ih fu (i + 1) (by omega) (by omega) (by omega)
    have g0 : ¬ 4 ≤ i := by omega
    have g1 : 0 ≤ 4 * i + Int.tmod c 4 ∧ 4 * i + Int.tmod c 4 < 16 := by omega
    have g2 : 0 ≤ c - Int.tmod c 4 + i ∧ c - Int.tmod c 4 + i < 16 := by omega
    rw [pX12_isRest_2]
    by_cases c1 : f c < f (4 * i + Int.tmod c 4)
    · simp [hS, hM, w1, w2, g0, g1, hc, e1, e2, c1, pX12_isRest_49, restB]
    · by_cases c2 : g (c - Int.tmod c 4 + i) ≤ g c
      · simp [hS, hM, w1, w2, w3, w4, w5, g0, g1, g2, hc, e1, e2, e3, c1, c2, i0, restB]
      · simp [hS, hM, w1, w2, w3, w4, w5, g0, g1, g2, hc, e1, e2, e3, c1, c2, pX12_isRest_49, restB]
theorem r_rests_64 (hS : ShR S) (hM : PtR M) {f g : Int → Int} (hf : ∀ j, 0 ≤ j → j < 16 → M 209 j = f j ∧ M 210 j = g j) {what : Int} {R : Int → Int → Option (Int × ZM)} (hR : ∀ (m f0 : Int) (fu : Nat), pX12_rests_64 S (fu + 1) M 176 what m f0 16 = R m f0) : ∀ (k fuel : Nat) (i m f0 : Int), i + k = 16 → 0 ≤ i → 0 ≤ m ∧ m ≤ i → k < fuel →
    pX12_rests_64 S fuel M 176 what m f0 i = R (m + cnt (fun c => restB f g c 4 0 = true) k i) (if m = 0 then (if leastF (fun c => restB f g c 4 0) k i = -1 then f0 else leastF (fun c => restB f g c 4 0) k i) else f0) := by
  intro k
  induction k with
  | zero =>
    intro fuel i m f0 h1 h2 h3 h4
    obtain ⟨fu, rfl⟩ : ∃ f, fuel = f + 1 := ⟨fuel - 1, by omega⟩
    have : i = 16 := by omega
    subst this
    rw [hR]
    simp [cnt, leastF]
  | succ k ih =>
    intro fuel i m f0 h1 h2 h3 h4
    obtain ⟨fu, rfl⟩ : ∃ f, fuel = f + 1 := ⟨fuel - 1, by omega⟩
    have w1 : w32 (i + 1) = i + 1 := w32_i (by omega) (by omega)
    have w2 : w32 (m + 1) = m + 1 := w32_i (by omega) (by omega)
    have hr : pX12_isRest S M 176 i = some (if restB f g i 4 0 = true then 1 else 0, M) := r_isRest_2 hS hM hf (by omega) 4 zFU 0 (by omega) (by omega) (zFU_gt (by omega))
    have e0 : pX12_rests_64 S (fu + 1) M 176 what m f0 i = pX12_rests_64 S fu M 176 what (if restB f g i 4 0 = true then m + 1 else m) (if restB f g i 4 0 = true then (if m = 0 then i else f0) else f0) (i + 1) := by
      rw [pX12_rests_64]
      by_cases c1 : restB f g i 4 0 = true
      · simp [show ¬ 16 ≤ i by omega, hS, hr, c1, w1, w2]
      · simp [show ¬ 16 ≤ i by omega, hS, hr, c1, w1]
    rw [e0]
    simp only [cnt, leastF]
    by_cases c1 : restB f g i 4 0 = true
    · simp only [c1, if_true]
      rw [ih fu (i + 1) (m + 1) _ (by omega) (by omega) (by omega) (by omega)]
      have e1 : m + 1 + cnt (fun c => restB f g c 4 0 = true) k (i + 1) = m + (1 + cnt (fun c => restB f g c 4 0 = true) k (i + 1)) := by omega
      have e2 : ¬ m + 1 = 0 := by omega
      have e3 : ¬ i = -1 := by omega
      rw [e1]
      simp only [e2, e3, if_false]
    · simp only [c1, if_false, Bool.false_eq_true]
      rw [ih fu (i + 1) m _ (by omega) (by omega) (by omega) (by omega)]
      simp only [Int.zero_add]
theorem least_b (b : Int → Bool) : ∀ (k : Nat) (i : Int), leastF b k i = -1 ∨ (i ≤ leastF b k i ∧ leastF b k i < i + k) := by
  intro k
  induction k with
  | zero => intro i; exact Or.inl rfl
  | succ k ih =>
    intro i
    simp only [leastF]
    split
    · right; omega
    · rcases ih (i + 1) with h | h
      · exact Or.inl h
      · right; omega
theorem r_rests (h : QG S R t s r) {x y n what : Int} : ∃ M', pX12_rests S R 176 x y n what = some (restsA t r s x y n what, M') ∧ RAt R M' := by
  obtain ⟨hS, hR, hr, ho, hG⟩ := h
  have hM := hR.1
  have hT := hR.2.1
  have hp := ho.2.2.1
  unfold restsA
  by_cases g1 : 0 ≤ x ∧ x < tPn t
  · by_cases g2 : 0 ≤ y ∧ y < tPn t
    · by_cases g3 : x = y
      · refine ⟨R, ?_, RAt.refl R⟩
        rw [if_neg (fun z => z.2.2.1 g3)]
        simp [pX12_rests, pX12_rests_46, hS, r_isPen hS hM hT ho, g1, g2, g3]
      · by_cases g4 : 1 ≤ n ∧ n ≤ 20
        · by_cases g5 : 0 ≤ what ∧ what ≤ 2
          · by_cases gs : tSd t = 0
            · have h0 := (hG.1.1 x g1.1 g1.2).1
              rw [gs] at h0; omega
            have hs : 2 ≤ tSd t ∧ tSd t ≤ 6 := by have := ho.1; omega
            obtain ⟨M1, a1, a2, a3⟩ := r_keepsAll hS hM
            obtain ⟨M', b1, b2, b3, -⟩ := r_stiffs_7 hS hR hr hs ho hG (x := x) (y := y) (n := n) (by omega) (by omega) (by omega) 16 zFU M1 0 a2 a3 (by omega) (by omega) (zFU_gt (by omega))
            refine ⟨M', ?_, b2⟩
            rw [if_pos ⟨g1, g2, g3, g4, g5⟩]
            have hM' := b2.1.pt hM
            have e := r_rests_64 hS hM' (what := what) (R := fun m f0 => pX12_rests_64 S 1 M' 176 what m f0 16) b3 (fun m f0 fu => by simp only [pX12_rests_64, Int.le_refl, if_true]) 16 zFU 0 0 (-1) (by omega) (by omega) (by omega) (zFU_gt (by omega))
            have eb : (fun c => restB (fun k => inkS t (rstS t r s x y n.toNat k) x) (fun k => inkS t (rstS t r s x y n.toNat k) y) c 4 0) = rstB t r s x y n.toNat := rfl
            have e0 : pX12_rests S R 176 x y n what = pX12_rests_64 S zFU M' 176 what 0 (-1) 0 := by
              simp [pX12_rests, hS, r_isPen hS hM hT ho, g1, g2, g3, r_in, g4, g5, pX12_laysStiffs, a1, b1]
            rw [e0, e, eb]
            have ec : cnt (fun c => restB (fun k => inkS t (rstS t r s x y n.toNat k) x) (fun k => inkS t (rstS t r s x y n.toNat k) y) c 4 0 = true) 16 0 = cnt (fun c => rstB t r s x y n.toNat c = true) 16 0 := rfl
            rw [ec]
            have hl := least_b (rstB t r s x y n.toNat) 16 0
            generalize leastF (rstB t r s x y n.toNat) 16 0 = L at *
            generalize cnt (fun c => rstB t r s x y n.toNat c = true) 16 0 = N at *
            have el : (if (0 : Int) = 0 then (if L = -1 then -1 else L) else -1) = L := by
              rw [if_pos rfl]; split
              · next hz => exact hz.symm
              · rfl
            rw [el, Int.zero_add]
            have w0 : what = 0 ∨ what = 1 ∨ what = 2 := by omega
            rcases hl with hl | hl
            · subst hl
              rcases w0 with rfl | rfl | rfl <;> simp [pX12_rests_64, pX12_rests_141]
            · have kb := k16_b (k := L) (by omega)
              have z1 : ¬ L = -1 := by omega
              have w1 : w32 (Int.tdiv L 4) = Int.tdiv L 4 := w32_i (by omega) (by omega)
              have w2 : w32 (3 * Int.tdiv L 4) = 3 * Int.tdiv L 4 := w32_i (by omega) (by omega)
              have w3 : w32 (3 * Int.tmod L 4) = 3 * Int.tmod L 4 := w32_i (by omega) (by omega)
              rcases w0 with rfl | rfl | rfl <;> simp [pX12_rests_64, pX12_rests_140, pX12_rests_141, z1, w1, w2, w3]
          · refine ⟨R, ?_, RAt.refl R⟩
            rw [if_neg (fun z => g5 z.2.2.2.2)]
            simp [pX12_rests, pX12_rests_46, hS, r_isPen hS hM hT ho, g1, g2, g3, r_in, g4, g5]
        · refine ⟨R, ?_, RAt.refl R⟩
          rw [if_neg (fun z => g4 z.2.2.2.1)]
          simp [pX12_rests, pX12_rests_46, hS, r_isPen hS hM hT ho, g1, g2, g3, r_in, g4]
    · refine ⟨R, ?_, RAt.refl R⟩
      rw [if_neg (fun z => g2 z.2.1)]
      simp [pX12_rests, pX12_rests_46, hS, r_isPen hS hM hT ho, g1, g2]
  · refine ⟨R, ?_, RAt.refl R⟩
    rw [if_neg (fun z => g1 z.1)]
    simp [pX12_rests, pX12_rests_46, hS, r_isPen hS hM hT ho, g1]
end
