/-! READ, RULED, LOOK: as numbers; the reference -/
def mxF (f : Int → Int) : Nat → Int → Int → Int
  | 0, _, y => y
  | k + 1, i, y => mxF f k (i + 1) (if f i ≤ y then y else f i)
theorem mxF_c (f : Int → Int) : ∀ (k : Nat) (i y : Int), y ≤ mxF f k i y ∧ (∀ j, i ≤ j → j < i + k → f j ≤ mxF f k i y) ∧ (mxF f k i y = y ∨ ∃ j, i ≤ j ∧ j < i + k ∧ mxF f k i y = f j) := by
  intro k
  induction k with
  | zero => intro i y; exact ⟨Int.le_refl _, fun j a b => by omega, Or.inl rfl⟩
  | succ k ih =>
    intro i y
    simp only [mxF]
    obtain ⟨h1, h2, h3⟩ := ih (i + 1) (if f i ≤ y then y else f i)
    generalize hm : mxF f k (i + 1) (if f i ≤ y then y else f i) = m at *
    refine ⟨?_, fun j a b => ?_, ?_⟩
    · by_cases z : f i ≤ y
      · rw [if_pos z] at h1; exact h1
      · rw [if_neg z] at h1; omega
    · by_cases z : j = i
      · subst z
        by_cases z : f j ≤ y
        · rw [if_pos z] at h1; omega
        · rw [if_neg z] at h1; exact h1
      · exact h2 j (by omega) (by omega)
    · rcases h3 with h3 | ⟨j, a, b, c⟩
      · by_cases z : f i ≤ y
        · rw [if_pos z] at h3; exact Or.inl h3
        · rw [if_neg z] at h3; exact Or.inr ⟨i, by omega, by omega, h3⟩
      · exact Or.inr ⟨j, by omega, by omega, c⟩
def alF (sh : Int → Int → Int) (m : Nat) (c v : Int) : Int := cnt (fun k => sh k c = v) m 0
def moA (sh : Int → Int → Int) (m : Nat) (c : Int) : Int := mxF (fun i => alF sh m c (sh i c)) m 0 0
def ptF (A : Int → Int) : Nat → Int → Int → Int
  | 0, _, is => is
  | k + 1, c, is => ptF A k (c + 1) (if A is ≤ A c then is else c)
def partA (t : Td) (sh : Int → Int → Int) (m : Nat) (what : Int) : Int := if what = 0 then ptF (moA sh m) (nCl t - 1) 1 0 else moA sh m (ptF (moA sh m) (nCl t - 1) 1 0)
def addSh (sh : Int → Int → Int) (m : Nat) (f : Int → Int) : Int → Int → Int := fun i => if i = (m : Int) then f else sh i
def readF (t : Td) (rl : Int → Ru) (s : Sc) (n : Nat) (what : Int) : Nat → Int → Nat → (Int → Int → Int) → Int
  | 0, _, m, sh => partA t sh m what
  | k + 1, j, m, sh => readF t rl s n what k (j + 1) (m + 1) (addSh sh m (cWh (daysS t (rl j) n s)))
def readA (t : Td) (rl : Int → Ru) (nR : Int) (s : Sc) (n what : Int) : Int := if 0 < tSd t ∧ (1 ≤ n ∧ n ≤ 60) ∧ 0 ≤ what ∧ what ≤ 1 then readF t rl s n.toNat what (nR + 1).toNat (-1) 0 (fun _ _ => -1) else -1
/-- all as the text told it -/
def bgS (ta ts : Int → Int) : Sc := (ta, ts, fun _ => -1, fun _ => -1, 0, 0, 0)
/-- notes: how many; day, cell, pen -/
abbrev Nt : Type := Int × (Int → Int) × (Int → Int) × (Int → Int)
def couldB (t : Td) (r : Ru) (bg : Sc) (q : Nt) : Nat → Int → Bool
  | 0, _ => true
  | k + 1, i => if cWh (daysS t r (q.2.1 i).toNat bg) (q.2.2.1 i) = q.2.2.2 i then couldB t r bg q k (i + 1) else false
def couldA (t : Td) (r : Ru) (bg : Sc) (q : Nt) : Bool := couldB t r bg q q.1.toNat 0
def NtOk (t : Td) (q : Nt) : Prop := (0 ≤ q.1 ∧ q.1 ≤ 10) ∧ ∀ i, 0 ≤ i → i < q.1 → (0 ≤ q.2.1 i ∧ q.2.1 i ≤ 60) ∧ (0 ≤ q.2.2.1 i ∧ q.2.2.1 i < tSd t * tSd t)
def ruledF (t : Td) (rl : Int → Ru) (bg : Sc) (q : Nt) : Nat → Int → Int → Int → Int × Int
  | 0, _, m, f => (m, f)
  | k + 1, j, m, f => if couldA t (rl j) bg q = true then ruledF t rl bg q k (j + 1) (m + 1) (if m = 0 then j else f) else ruledF t rl bg q k (j + 1) m f
def ruledA (t : Td) (rl : Int → Ru) (nR : Int) (bg : Sc) (q : Nt) (what : Int) : Int := if 0 < tSd t ∧ 0 ≤ what ∧ what ≤ 1 then (if what = 0 then (ruledF t rl bg q (nR + 1).toNat (-1) 0 (-2)).1 else (ruledF t rl bg q (nR + 1).toNat (-1) 0 (-2)).2) else -3
def lookF (t : Td) (rl : Int → Ru) (bg : Sc) (q : Nt) (n : Nat) (what : Int) : Nat → Int → Nat → (Int → Int → Int) → Int
  | 0, _, m, sh => if m = 0 then -2 else partA t sh m what
  | k + 1, j, m, sh => if couldA t (rl j) bg q = true then lookF t rl bg q n what k (j + 1) (m + 1) (addSh sh m (cWh (daysS t (rl j) n bg))) else lookF t rl bg q n what k (j + 1) m sh
def lookA (t : Td) (rl : Int → Ru) (nR : Int) (bg : Sc) (q : Nt) (n what : Int) : Int := if 0 < tSd t ∧ (0 ≤ n ∧ n ≤ 60) ∧ 0 ≤ what ∧ what ≤ 1 then lookF t rl bg q n.toNat what (nR + 1).toNat (-1) 0 (fun _ _ => -1) else -1
section
variable {S : ZS} {R M : ZM} {t : Td} {s : Sc}
theorem r_most_17 (hS : ShW S) (hM : PtW M) {sh : Int → Int → Int} {m : Nat} (hm : m ≤ 7) {c : Int} (hc : 0 ≤ c ∧ c < 36) (hsh : ∀ i : Int, 0 ≤ i → i < m → M 211 (36 * i + c) = sh i c) {k5 : ZM → Int → Int → Int → Int → Int → Option (Int × ZM)} {y i : Int} (hi : 0 ≤ i ∧ i < m) : ∀ (k fuel : Nat) (x j : Int), j + k = m → 0 ≤ j → 0 ≤ x ∧ x ≤ j → k < fuel → pX12_mostAlike_17 S k5 fuel M 176 c m y i x j = k5 M 176 c m (if x + cnt (fun z => sh z c = sh i c) k j ≤ y then y else x + cnt (fun z => sh z c = sh i c) k j) (i + 1) := by
  have wi : w32 (i + 1) = i + 1 := w32_i (by omega) (by omega)
  have w1 : w32 (36 * i) = 36 * i := w32_i (by omega) (by omega)
  have w2 : w32 (36 * i + c) = 36 * i + c := w32_i (by omega) (by omega)
  have g1 : 0 ≤ 36 * i + c ∧ 36 * i + c < 252 := by omega
  have e1 := hsh i hi.1 hi.2
  intro k
  induction k with
  | zero =>
    intro fuel x j h1 h2 h3 h4
    obtain ⟨f, rfl⟩ : ∃ f, fuel = f + 1 := ⟨fuel - 1, by omega⟩
    simp [pX12_mostAlike_17, show (m : Int) ≤ j by omega, wi, cnt]
  | succ k ih =>
    intro fuel x j h1 h2 h3 h4
    obtain ⟨f, rfl⟩ : ∃ f, fuel = f + 1 := ⟨fuel - 1, by omega⟩
    have v1 : w32 (36 * j) = 36 * j := w32_i (by omega) (by omega)
    have v2 : w32 (36 * j + c) = 36 * j + c := w32_i (by omega) (by omega)
    have v3 : w32 (j + 1) = j + 1 := w32_i (by omega) (by omega)
    have v4 : w32 (x + 1) = x + 1 := w32_i (by omega) (by omega)
    have v5 : w32 x = x := w32_i (by omega) (by omega)
    have g2 : 0 ≤ 36 * j + c ∧ 36 * j + c < 252 := by omega
    have e2 := hsh j h2 (by omega)
    have hlt : ¬ (m : Int) ≤ j := by omega
    rw [pX12_mostAlike_17]
    by_cases z : sh j c = sh i c
    · have := ih f (x + 1) (j + 1) (by omega) (by omega) (by omega) (by omega)
      simp [hlt, hS.o, hM.o, v1, v2, w1, w2, g1, g2, e1, e2, z, zlet, v4, v3, this, cnt, Int.add_assoc]
    · have := ih f x (j + 1) (by omega) (by omega) (by omega) (by omega)
      simp [hlt, hS.o, hM.o, v1, v2, w1, w2, g1, g2, e1, e2, z, zlet, v5, v3, this, cnt]
theorem r_most_5 (hS : ShW S) (hM : PtW M) {sh : Int → Int → Int} {m : Nat} (hm : m ≤ 7) {c : Int} (hc : 0 ≤ c ∧ c < 36) (hsh : ∀ i : Int, 0 ≤ i → i < m → M 211 (36 * i + c) = sh i c) : ∀ (k fuel : Nat) (y i : Int), i + k = m → 0 ≤ i → k < fuel → pX12_mostAlike_5 S fuel M 176 c m y i = some (mxF (fun i => alF sh m c (sh i c)) k i y, M) := by
  intro k
  induction k with
  | zero =>
    intro fuel y i h1 h2 h3
    obtain ⟨f, rfl⟩ : ∃ f, fuel = f + 1 := ⟨fuel - 1, by omega⟩
    simp [pX12_mostAlike_5, show (m : Int) ≤ i by omega, mxF]
  | succ k ih =>
    intro fuel y i h1 h2 h3
    obtain ⟨f, rfl⟩ : ∃ f, fuel = f + 1 := ⟨fuel - 1, by omega⟩
    simp only [pX12_mostAlike_5]
    rw [if_neg (by omega), r_most_17 hS hM hm hc hsh (i := i) (by omega) m zFU 0 0 (by omega) (by omega) (by omega) (zFU_gt (by omega)), ih f _ (i + 1) (by omega) (by omega) (by omega)]
    simp only [mxF, Int.zero_add]
    rfl
theorem r_most (hS : ShW S) (hM : PtW M) {sh : Int → Int → Int} {m : Nat} (hm : m ≤ 7) {c : Int} (hc : 0 ≤ c ∧ c < 36) (hsh : ∀ i : Int, 0 ≤ i → i < m → M 211 (36 * i + c) = sh i c) : pX12_mostAlike S M 176 c m = some (moA sh m c, M) :=
  r_most_5 hS hM hm hc hsh m zFU 0 0 (by omega) (by omega) (zFU_gt (by omega))
theorem pt_b (A : Int → Int) : ∀ (k : Nat) (c is N : Int), (0 ≤ is ∧ is < N) → 0 ≤ c → c + k ≤ N → 0 ≤ ptF A k c is ∧ ptF A k c is < N := by
  intro k
  induction k with
  | zero => intro c is N h1 _ _; exact h1
  | succ k ih =>
    intro c is N h1 h2 h3
    simp only [ptF]
    refine ih (c + 1) _ N ?_ (by omega) (by omega)
    split
    · exact h1
    · omega
theorem r_part_4 (hS : ShW S) (hM : PtW M) (hT : RTd M t) (ho : TdOk t) {sh : Int → Int → Int} {m : Nat} (hm : m ≤ 7) (hsh : ∀ i c : Int, 0 ≤ i → i < m → 0 ≤ c → c < 36 → M 211 (36 * i + c) = sh i c) : ∀ (k fuel : Nat) (c is : Int), c + k = tSd t * tSd t → 0 ≤ c → (0 ≤ is ∧ is < 36) → k < fuel → pX12_parting_4 S fuel M 176 m is c = some (ptF (moA sh m) k c is, M) := by
  have hb := sq_b ho.1
  intro k
  induction k with
  | zero =>
    intro fuel c is h1 h2 h3 h4
    obtain ⟨f, rfl⟩ : ∃ f, fuel = f + 1 := ⟨fuel - 1, by omega⟩
    simp [pX12_parting_4, hS.o, r_cells hS.o hM.o hT ho, show tSd t * tSd t ≤ c by omega, ptF]
  | succ k ih =>
    intro fuel c is h1 h2 h3 h4
    obtain ⟨f, rfl⟩ : ∃ f, fuel = f + 1 := ⟨fuel - 1, by omega⟩
    have e1 := r_most hS hM hm (c := c) (by omega) (fun i x y => hsh i c x y (by omega) (by omega))
    have e2 := r_most hS hM hm (c := is) h3 (fun i x y => hsh i is x y h3.1 h3.2)
    rw [pX12_parting_4]
    simp only [hS.o, r_cells hS.o hM.o hT ho, if_true, Option.bind_some, e1, e2]
    rw [if_neg (by omega), w32_i (x := c + 1) (by omega) (by omega)]
    by_cases z : moA sh m is ≤ moA sh m c
    · simp only [if_pos z, ptF]
      exact ih f (c + 1) is (by omega) (by omega) h3 (by omega)
    · simp only [if_neg z, ptF]
      exact ih f (c + 1) c (by omega) (by omega) (by omega) (by omega)
theorem r_part (hS : ShW S) (hM : PtW M) (hT : RTd M t) (ho : TdOk t) (hs : 2 ≤ tSd t ∧ tSd t ≤ 6) {sh : Int → Int → Int} {m : Nat} (hm : m ≤ 7) (hsh : ∀ i c : Int, 0 ≤ i → i < m → 0 ≤ c → c < 36 → M 211 (36 * i + c) = sh i c) : pX12_parting S M 176 m = some (ptF (moA sh m) (nCl t - 1) 1 0, M) ∧ pX12_mostAlike S M 176 (ptF (moA sh m) (nCl t - 1) 1 0) m = some (moA sh m (ptF (moA sh m) (nCl t - 1) 1 0), M) := by
  have hn := nCl_b ho
  have h4 : 4 ≤ tSd t * tSd t := by
    have h1 : tSd t = 2 ∨ tSd t = 3 ∨ tSd t = 4 ∨ tSd t = 5 ∨ tSd t = 6 := by omega
    rcases h1 with e | e | e | e | e <;> rw [e] <;> decide
  have hb := pt_b (moA sh m) (nCl t - 1) 1 0 36 (by omega) (by omega) (by omega)
  exact ⟨r_part_4 hS hM hT ho hm hsh (nCl t - 1) zFU 1 0 (by omega) (by omega) (by omega) (zFU_gt (by omega)), r_most hS hM hm hb (fun i x y => hsh i _ x y hb.1 hb.2)⟩
theorem RS.u7 (h : RS M t s) {j v : Int} (hj : 7 ≤ j) : RS (upM M 177 j v) t s := by
  obtain ⟨h1, h2, h3⟩ := h
  have q : ∀ i, i < 7 → upM M 177 j v 177 i = M 177 i := fun i x => upM_i (by omega)
  refine ⟨h1.eq (upM_r (by decide)), h2.eq (fun j x y => q j (by omega)) (upM_r (by decide)) (upM_r (by decide)) (upM_r (by decide)), ?_⟩
  unfold RSc at *
  rw [upM_r (by decide), upM_r (by decide), upM_r (by decide), upM_r (by decide), q 5 (by decide), q 4 (by decide), q 6 (by decide)]
  exact h3
theorem r_read_61 (hS : ShW S) (hp : PtW R) {k37 : ZM → Int → Int → Int → Int → Option (Int × ZM)} {n what j : Int} (hj : -1 ≤ j ∧ j ≤ 5) {W : Int → Int} : ∀ (k fuel : Nat) (M : ZM) (c : Int), RK R M → (∀ i, 0 ≤ i → i < 36 → M 180 i = W i) → c + k = 36 → 0 ≤ c → (∀ i, 0 ≤ i → i < c → M 211 (36 * (j + 1) + i) = W i) → k < fuel →
    ∃ M', pX12_read_61 S k37 fuel M 176 n what j c = k37 M' 176 n what (j + 1) ∧ RK R M' ∧ RAt R M' ∧ (∀ i, 0 ≤ i → i < 36 → M' 211 (36 * (j + 1) + i) = W i) ∧ (∀ z, (z < 36 * (j + 1) ∨ 36 * (j + 1) + 36 ≤ z) → M' 211 z = M 211 z) := by
  have wj : w32 (j + 1) = j + 1 := w32_i (by omega) (by omega)
  have wj2 : w32 (36 * (j + 1)) = 36 * (j + 1) := w32_i (by omega) (by omega)
  intro k
  induction k with
  | zero =>
    intro fuel M c hK hW h1 h2 h3 h4
    obtain ⟨f, rfl⟩ : ∃ f, fuel = f + 1 := ⟨fuel - 1, by omega⟩
    obtain ⟨M', a1, a2, a3, a4⟩ := r_laysBack2 hS.o hp.o hK
    refine ⟨M', ?_, a2, a3, fun i x y => by rw [a4 211 (by omega)]; exact h3 i x (by omega), fun z _ => by rw [a4 211 (by omega)]⟩
    simp [pX12_read_61, show 36 ≤ c by omega, hS.o, a1, wj]
  | succ k ih =>
    intro fuel M c hK hW h1 h2 h3 h4
    obtain ⟨f, rfl⟩ : ∃ f, fuel = f + 1 := ⟨fuel - 1, by omega⟩
    have hM := (hK.1.pt hp.o).w
    have v1 : w32 (36 * (j + 1) + c) = 36 * (j + 1) + c := w32_i (by omega) (by omega)
    have v2 : w32 (c + 1) = c + 1 := w32_i (by omega) (by omega)
    have g1 : 0 ≤ 36 * (j + 1) + c ∧ 36 * (j + 1) + c < 252 := by omega
    have e1 := hW c h2 (by omega)
    obtain ⟨M', a1, a2, a3, a4, a5⟩ := ih f (upM M 211 (36 * (j + 1) + c) (W c)) (c + 1) (hK.eq (fun a z => upM_r (by omega))) (fun i x y => by rw [upM_r (by decide)]; exact hW i x y) (by omega) (by omega) (fun i x y => by
      by_cases z : i = c
      · subst z; rw [upM_s]
      · rw [upM_i (by omega)]; exact h3 i x (by omega)) (by omega)
    refine ⟨M', ?_, a2, a3, a4, fun z x => by rw [a5 z x, upM_i (by omega)]⟩
    rw [← a1, pX12_read_61]
    simp [show ¬ 36 ≤ c by omega, show c < 36 by omega, h2, hS.o, hM.o, wj, wj2, v1, v2, g1, e1, zlet]
/-- every rule, and none -/
def RRs (S : ZS) (R : ZM) (nR : Int) (rl : Int → Ru) : Prop := (0 ≤ nR ∧ nR ≤ 6) ∧ R 176 24 = nR ∧ ∀ j, -1 ≤ j → j < nR → RRu S (upM R 177 9 j) (rl j)
theorem RRs.at {nR : Int} {rl : Int → Ru} (h : RRs S R nR rl) (hK : RK0 R M) {j : Int} (h1 : -1 ≤ j) (h2 : j < nR) : RRu S (upM M 177 9 j) (rl j) :=
  (h.2.2 j h1 h2).eq (fun a x y => by rw [upM_r (by omega), upM_r (by omega)]; exact hK.1 a (by omega)) (by rw [upM_s, upM_s])
theorem r_read_37 (hS : ShW S) (hR : RS R t s) (hs : 2 ≤ tSd t ∧ tSd t ≤ 6) (ho : TdOk t) (hG : ScGo t s 200) {nR : Int} {rl : Int → Ru} (hr : RRs S R nR rl) {n what : Int} (hn : 1 ≤ n ∧ n ≤ 60) (hw : what = 0 ∨ what = 1) : ∀ (k fuel : Nat) (M : ZM) (j : Int) (m : Nat) (sh : Int → Int → Int), RK R M → RAt R M → j + k = nR → (m : Int) = j + 1 → (∀ i c : Int, 0 ≤ i → i < m → 0 ≤ c → c < 36 → M 211 (36 * i + c) = sh i c) → k < fuel →
    ∃ M', pX12_read_37 S fuel M 176 n what j = some (readF t rl s n.toNat what k j m sh, M') ∧ RAt R M' := by
  have h24 := hr.2.1
  have hnb := hr.1
  have hp : PtW R := hR.1.w
  intro k
  induction k with
  | zero =>
    intro fuel M j m sh hK hA h1 h2 h3 h4
    obtain ⟨f, rfl⟩ : ∃ f, fuel = f + 1 := ⟨fuel - 1, by omega⟩
    have hM := hA.rs hR
    have e24 : M 176 24 = nR := by rw [hA.1.2.1 24 (by decide) (by decide)]; exact h24
    have hmm : w32 (nR + 1) = (m : Int) := by rw [w32_i (by omega) (by omega)]; omega
    obtain ⟨p1, p2⟩ := r_part hS hM.1.w hM.2.1 ho hs (m := m) (by omega) h3
    refine ⟨M, ?_, hA⟩
    simp only [readF, partA]
    rcases hw with rfl | rfl
    · simp [pX12_read_37, pX12_read_135, hS.o, e24, show nR ≤ j by omega, hmm, p1]
    · simp [pX12_read_37, pX12_read_135, hS.o, e24, show nR ≤ j by omega, hmm, p1, p2]
  | succ k ih =>
    intro fuel M j m sh hK hA h1 h2 h3 h4
    obtain ⟨f, rfl⟩ : ∃ f, fuel = f + 1 := ⟨fuel - 1, by omega⟩
    have hM := hA.rs hR
    have hM1 := hM.1
    have e24 : M 176 24 = nR := by rw [hA.1.2.1 24 (by decide) (by decide)]; exact h24
    have hr1 := hr.at hA.1 (j := j) (by omega) (by omega)
    obtain ⟨M1, a1, a2, a3, a4⟩ := r_goFor hS.o hs ho (m := 0) (n := n) (by clear hM1; omega) (hG.le (by clear hM1; omega)) hr1 (hM.u7 (j := 9) (v := j) (by decide))
    have hK1 : RK R M1 := (hK.eq (M' := upM M 177 9 j) (fun a z => upM_r (by clear hM1; omega))).fr a3
    have f211 : M1 211 = M 211 := by rw [a3.1 211 (by decide) (by decide) (by decide) (by decide) (by decide) (by decide), upM_r (by decide)]
    obtain ⟨M2, b1, b2, b3, b4, b5⟩ := r_read_61 hS hp (k37 := pX12_read_37 S f) (n := n) (what := what) (j := j) (by clear hM1; omega) (W := cWh (daysS t (rl j) n.toNat s)) 36 zFU M1 0 hK1 (fun i x y => (a2.2.2.2.1 i x y).1) (by clear hM1; omega) (by clear hM1; omega) (fun i x y => by clear hM1; omega) (zFU_gt (by clear hM1; omega))
    obtain ⟨M', c1, c2⟩ := ih f M2 (j + 1) (m + 1) (addSh sh m (cWh (daysS t (rl j) n.toNat s))) b2 b3 (by clear hM1; omega) (by clear hM1; omega) (fun i c x y u v => by
      clear hM1
      unfold addSh
      by_cases z : i = (m : Int)
      · rw [if_pos z, show 36 * i + c = 36 * (j + 1) + c by omega]; exact b4 c u v
      · rw [if_neg z, b5 _ (by omega), f211]; exact h3 i c x (by omega) u v) (by clear hM1; omega)
    refine ⟨M', ?_, c2⟩
    rw [readF, ← c1, ← b1, pX12_read_37]
    simp [hS.o, e24, show ¬ nR ≤ j by clear hM1; omega, hM1, zlet, a1]
theorem r_read (hS : ShW S) (hR : RS R t s) (ho : TdOk t) (hG : ScGo t s 200) {nR : Int} {rl : Int → Ru} (hr : RRs S R nR rl) {n what : Int} : ∃ M', pX12_read S R 176 n what = some (readA t rl nR s n what, M') ∧ RAt R M' := by
  have hnb := hr.1
  unfold readA
  by_cases g1 : tSd t ≤ 0
  · refine ⟨R, ?_, RAt.refl R⟩
    simp [pX12_read, pX12_read_29, hS.o, r_isSky hS.o hR.1 hR.2.1, g1, show ¬ 0 < tSd t by omega]
  by_cases g2 : 1 ≤ n ∧ n ≤ 60
  · by_cases g3 : 0 ≤ what ∧ what ≤ 1
    · have hs : 2 ≤ tSd t ∧ tSd t ≤ 6 := by have := ho.1; omega
      obtain ⟨M1, a1, a2, a3⟩ := r_keepsAll hS.o hR.1
      obtain ⟨M', b1, b2⟩ := r_read_37 hS hR hs ho hG hr (n := n) (what := what) g2 (by omega) (nR + 1).toNat zFU M1 (-1) 0 (fun _ _ => -1) a2 a3 (by omega) (by omega) (fun i c x y u v => by omega) (zFU_gt (by omega))
      refine ⟨M', ?_, b2⟩
      rw [if_pos ⟨by omega, g2, g3⟩, ← b1]
      simp [pX12_read, hS.o, r_isSky hS.o hR.1 hR.2.1, g1, r_in, g2, g3, a1]
    · refine ⟨R, ?_, RAt.refl R⟩
      rw [if_neg (fun z => g3 z.2.2)]
      simp [pX12_read, pX12_read_29, hS.o, r_isSky hS.o hR.1 hR.2.1, g1, r_in, g2, g3]
  · refine ⟨R, ?_, RAt.refl R⟩
    rw [if_neg (fun z => g2 z.2.1)]
    simp [pX12_read, pX12_read_29, hS.o, r_isSky hS.o hR.1 hR.2.1, g1, r_in, g2]
end
