/-! RULED, LOOK: the reference -/
theorem days_snoc (t : Td) (r : Ru) : ∀ (n : Nat) (s : Sc), daysS t r (n + 1) s = dayS t r (daysS t r n s) := by
  intro n
  induction n with
  | zero => intro s; rfl
  | succ n ih => intro s; exact ih (dayS t r s)
def TpOk (t : Td) (ta ts : Int → Int) : Prop := ∀ q, 0 ≤ q → q < tPn t → (0 ≤ ta q ∧ ta q < tSd t * tSd t) ∧ (0 ≤ ts q ∧ ts q ≤ 9)
theorem bg_go {t : Td} {ta ts : Int → Int} (h : TpOk t ta ts) : ScGo t (bgS ta ts) 200 :=
  ⟨⟨h, fun c _ _ => Or.inl ⟨rfl, rfl⟩, by show (0 : Int) ≤ 0 ∧ (0 : Int) < 32; decide⟩, fun _ c _ _ => ⟨rfl, rfl⟩, by show ((0 : Int) ≤ 0 ∧ (0 : Int) + ((200 : Nat) : Int) ≤ 100000) ∧ (0 : Int) ≤ 0 ∧ (0 : Int) + 36 * ((200 : Nat) : Int) ≤ 100000000; decide⟩
section
variable {S : ZS} {R M : ZM} {t : Td} {s : Sc} {r : Ru}
theorem r_copies_2 {a b L : Int} (ka : S.1 a = 100 ∧ S.2.1 a = L) (kb : S.1 b = 100 ∧ S.2.1 b = L) (hab : a ≠ b) (hL : L ≤ 1000) : ∀ (k fuel : Nat) (M : ZM) (i : Int), i + k = L → 0 ≤ i → k < fuel → ∃ M', pX12_copies_2 S fuel M a b i = some M' ∧ (∀ x, x ≠ b → M' x = M x) ∧ (∀ j, i ≤ j → j < L → M' b j = M a j) ∧ (∀ j, (j < i ∨ L ≤ j) → M' b j = M b j) := by
  intro k
  induction k with
  | zero =>
    intro fuel M i h1 h2 h3
    obtain ⟨f, rfl⟩ : ∃ f, fuel = f + 1 := ⟨fuel - 1, by omega⟩
    refine ⟨M, ?_, fun _ _ => rfl, fun j x y => by omega, fun _ _ => rfl⟩
    simp [pX12_copies_2, ka, show L ≤ i by omega]
  | succ k ih =>
    intro fuel M i h1 h2 h3
    obtain ⟨f, rfl⟩ : ∃ f, fuel = f + 1 := ⟨fuel - 1, by omega⟩
    obtain ⟨M', a1, a2, a3, a4⟩ := ih f (upM M b i (M a i)) (i + 1) (by omega) (by omega) (by omega)
    refine ⟨M', ?_, fun x y => (a2 x y).trans (upM_r y), fun j x y => ?_, fun j x => ?_⟩
    · rw [← a1, pX12_copies_2]
      simp [ka, kb, show ¬ L ≤ i by omega, show i < L by omega, h2, zlet, w32_i (x := i + 1) (by omega) (by omega)]
    · by_cases z : j = i
      · subst z; rw [a4 j (by omega), upM_s]
      · rw [a3 j (by omega) y, upM_r hab]
    · rw [a4 j (by omega), upM_i (by omega)]
theorem r_copies {a b L : Int} (ka : S.1 a = 100 ∧ S.2.1 a = L) (kb : S.1 b = 100 ∧ S.2.1 b = L) (hab : a ≠ b) (hL : 0 ≤ L ∧ L ≤ 1000) (M : ZM) : ∃ M', pX12_copies S M a b = some M' ∧ (∀ x, x ≠ b → M' x = M x) ∧ (∀ j, 0 ≤ j → j < L → M' b j = M a j) := by
  obtain ⟨M', a1, a2, a3, -⟩ := r_copies_2 ka kb hab hL.2 L.toNat zFU M 0 (by omega) (by omega) (zFU_gt (by omega))
  exact ⟨M', a1, a2, a3⟩
theorem r_begins_46 (hS : ShW S) : ∀ (k fuel : Nat) (M : ZM) (c : Int), PtW M → c + k = 36 → 0 ≤ c → k < fuel → ∃ M', pX12_begins_46 S fuel M 176 c = some M' ∧ (∀ x, x ≠ 180 → x ≠ 181 → M' x = M x) ∧ (∀ j, c ≤ j → j < 36 → M' 180 j = -1 ∧ M' 181 j = -1) ∧ (∀ j, j < c → M' 180 j = M 180 j ∧ M' 181 j = M 181 j) := by
  intro k
  induction k with
  | zero =>
    intro fuel M c hM h1 h2 h3
    obtain ⟨f, rfl⟩ : ∃ f, fuel = f + 1 := ⟨fuel - 1, by omega⟩
    refine ⟨M, ?_, fun _ _ _ => rfl, fun j x y => by omega, fun _ _ => ⟨rfl, rfl⟩⟩
    simp [pX12_begins_46, show 36 ≤ c by omega]
  | succ k ih =>
    intro fuel M c hM h1 h2 h3
    obtain ⟨f, rfl⟩ : ∃ f, fuel = f + 1 := ⟨fuel - 1, by omega⟩
    have hM2 : PtW (upM M 180 c (-1)) := hM.o.eq (upM_r (by decide))
    have hM3 : PtW (upM (upM M 180 c (-1)) 181 c (-1)) := hM2.o.eq (upM_r (by decide))
    obtain ⟨M', a1, a2, a3, a4⟩ := ih f (upM (upM M 180 c (-1)) 181 c (-1)) (c + 1) hM3 (by omega) (by omega) (by omega)
    refine ⟨M', ?_, fun x y z => by rw [a2 x y z, upM_r z, upM_r y], fun j x y => ?_, fun j x => ?_⟩
    · rw [← a1, pX12_begins_46]
      simp [show ¬ 36 ≤ c by omega, show c < 36 by omega, h2, hS.o, hM.o, hM2.o, zlet, w32_i (x := c + 1) (by omega) (by omega)]
    · by_cases z : j = c
      · subst z
        rw [(a4 j (by omega)).1, (a4 j (by omega)).2, upM_s, upM_r (by decide), upM_s]; exact ⟨rfl, rfl⟩
      · exact a3 j (by omega) y
    · rw [(a4 j (by omega)).1, (a4 j (by omega)).2, upM_r (by decide), upM_i (by omega), upM_i (by omega), upM_r (by decide)]; exact ⟨rfl, rfl⟩
theorem r_begins (hS : ShW S) (hM : PtW M) (hT : RTd M t) {ta ts : Int → Int} (h8 : ∀ q, 0 ≤ q → q < 5 → M 188 q = ta q ∧ M 189 q = ts q) : ∃ M', pX12_begins S M 176 = some M' ∧ RS M' t (bgS ta ts) ∧ (∀ a, a ≠ 177 → (a < 178 ∨ 181 < a) → M' a = M a) ∧ (∀ j, (j < 4 ∨ 6 < j) → M' 177 j = M 177 j) := by
  obtain ⟨M1, a1, a2, a3⟩ := r_copies (S := S) (a := 188) (b := 178) (L := 5) hS.o.2.2.2.2.2.2.2.2.2.2.2.2.1 hS.o.2.2.1 (by decide) (by decide) M
  obtain ⟨M2, b1, b2, b3⟩ := r_copies (S := S) (a := 189) (b := 179) (L := 5) hS.o.2.2.2.2.2.2.2.2.2.2.2.2.2.1 hS.o.2.2.2.1 (by decide) (by decide) M1
  have p1 : PtW M1 := hM.o.eq (a2 176 (by decide))
  have p2 : PtW M2 := p1.o.eq (b2 176 (by decide))
  generalize hM3 : upM (upM (upM M2 177 4 0) 177 5 0) 177 6 0 = M3
  have q1 : ∀ x, x ≠ 177 → M3 x = M2 x := fun x y => by rw [← hM3, upM_r y, upM_r y, upM_r y]
  have q2 : ∀ j, (j < 4 ∨ 6 < j) → M3 177 j = M2 177 j := fun j y => by rw [← hM3, upM_i (by omega), upM_i (by omega), upM_i (by omega)]
  have q3 : M3 177 4 = 0 ∧ M3 177 5 = 0 ∧ M3 177 6 = 0 := by rw [← hM3]; simp [upM_ap]
  have p3 : PtW M3 := p2.o.eq (q1 176 (by decide))
  obtain ⟨M4, c1, c2, c3, c4⟩ := r_begins_46 hS 36 zFU M3 0 p3 (by omega) (by omega) (zFU_gt (by omega))
  have r1 : ∀ a, a ≠ 177 → (a < 178 ∨ 181 < a) → M4 a = M a := fun a x y => by rw [c2 a (by omega) (by omega), q1 a x, b2 a (by omega), a2 a (by omega)]
  have r2 : ∀ j, (j < 4 ∨ 6 < j) → M4 177 j = M 177 j := fun j y => by rw [c2 177 (by decide) (by decide), q2 j y, b2 177 (by decide), a2 177 (by decide)]
  refine ⟨M4, ?_, ⟨hM.o.eq (r1 176 (by decide) (by decide)), hT.eq (fun j x y => r2 j (by omega)) (r1 _ (by decide) (by decide)) (r1 _ (by decide) (by decide)) (r1 _ (by decide) (by decide)), ?_⟩, r1, r2⟩
  · have e4 : PtR (upM M2 177 4 0) := p2.o.eq (upM_r (by decide))
    have e5 : PtR (upM (upM M2 177 4 0) 177 5 0) := e4.eq (upM_r (by decide))
    simp [pX12_begins, pX12_begins_36, hS.o, hM.o, a1, p1.o, b1, p2.o, zlet, e4, e5, hM3, c1]
  · refine ⟨fun q x y => ?_, fun c x y => ?_, ?_, ?_, ?_⟩
    · rw [c2 178 (by decide) (by decide), c2 179 (by decide) (by decide), q1 178 (by decide), q1 179 (by decide), b2 178 (by decide), a3 q x y, b3 q x y, a2 189 (by decide)]
      exact h8 q x y
    · exact c3 c x y
    · rw [c2 177 (by decide) (by decide)]; exact q3.2.1
    · rw [c2 177 (by decide) (by decide)]; exact q3.1
    · rw [c2 177 (by decide) (by decide)]; exact q3.2.2
theorem r_could_22 (hS : ShW S) (hs : 2 ≤ tSd t ∧ tSd t ≤ 6) (ho : TdOk t) {k14 : ZM → Int → Int → Option (Int × ZM)} {n : Int} (hn : 0 ≤ n ∧ n ≤ 60) {m : Nat} (hG : ScGo t s (m + 1)) : ∀ (k fuel : Nat) (M : ZM) (c : Int), RK R M → RRu S M r → RS M t s → c + k = 36 → 0 ≤ c → (∀ i, 0 ≤ i → i < c → M 212 (36 * n + i) = cWh s i) → k < fuel →
    ∃ M', pX12_couldRule_22 S k14 fuel M 176 n c = k14 M' 176 (n + 1) ∧ RK R M' ∧ RRu S M' r ∧ RS M' t (dayS t r s) ∧ ScGo t (dayS t r s) m ∧ (∀ i, 0 ≤ i → i < 36 → M' 212 (36 * n + i) = cWh s i) ∧ (∀ z, (z < 36 * n ∨ 36 * n + 36 ≤ z) → M' 212 z = M 212 z) ∧ M' 211 = M 211 := by
  have wn : w32 (n + 1) = n + 1 := w32_i (by omega) (by omega)
  have wn2 : w32 (36 * n) = 36 * n := w32_i (by omega) (by omega)
  intro k
  induction k with
  | zero =>
    intro fuel M c hK hr h h1 h2 h3 h4
    obtain ⟨f, rfl⟩ : ∃ f, fuel = f + 1 := ⟨fuel - 1, by omega⟩
    obtain ⟨M', a1, a2, a3, a4⟩ := r_goes hS.o hs ho hG hr h
    have f212 := a3.1 212 (by decide) (by decide) (by decide) (by decide) (by decide) (by decide)
    refine ⟨M', ?_, hK.fr a3, hr.fr a3, a2, a4, fun i x y => by rw [f212]; exact h3 i x (by omega), fun z _ => by rw [f212], a3.1 211 (by decide) (by decide) (by decide) (by decide) (by decide) (by decide)⟩
    simp [pX12_couldRule_22, show 36 ≤ c by omega, hS.o, a1, wn]
  | succ k ih =>
    intro fuel M c hK hr h h1 h2 h3 h4
    obtain ⟨f, rfl⟩ : ∃ f, fuel = f + 1 := ⟨fuel - 1, by omega⟩
    have v1 : w32 (36 * n + c) = 36 * n + c := w32_i (by omega) (by omega)
    have v2 : w32 (c + 1) = c + 1 := w32_i (by omega) (by omega)
    have g1 : 0 ≤ 36 * n + c ∧ 36 * n + c < 2196 := by omega
    have e1 := (h.2.2.2.1 c h2 (by omega)).1
    obtain ⟨M', a1, a2, a3, a4, a5, a6, a7, a8⟩ := ih f (upM M 212 (36 * n + c) (cWh s c)) (c + 1) (hK.eq (fun a z => upM_r (by omega))) (hr.eq (fun a _ _ => upM_r (by omega)) (by rw [upM_r (by decide)])) (h.up (by decide)) (by omega) (by omega) (fun i x y => by
      by_cases z : i = c
      · subst z; rw [upM_s]
      · rw [upM_i (by omega)]; exact h3 i x (by omega)) (by omega)
    refine ⟨M', ?_, a2, a3, a4, a5, a6, fun z x => by rw [a7 z x, upM_i (by omega)], by rw [a8, upM_r (by decide)]⟩
    rw [← a1, pX12_couldRule_22]
    simp [show ¬ 36 ≤ c by omega, show c < 36 by omega, h2, hS.o, h.1, wn2, v1, v2, g1, e1, zlet]
theorem r_could_14 (hS : ShW S) (hp : PtW R) (hs : 2 ≤ tSd t ∧ tSd t ≤ 6) (ho : TdOk t) {bg : Sc} : ∀ (k fuel : Nat) (M : ZM) (n : Nat), RK R M → RRu S M r → RS M t (daysS t r n bg) → ScGo t (daysS t r n bg) (k + 1) → n + k = 61 → (∀ (j : Nat) (i : Int), j < n → 0 ≤ i → i < 36 → M 212 (36 * (j : Int) + i) = cWh (daysS t r j bg) i) → k < fuel →
    ∃ M', pX12_couldRule_14 S fuel M 176 n = pX12_couldRule_68 S zFU M' 176 0 ∧ RK R M' ∧ RAt R M' ∧ (∀ (j : Nat) (i : Int), j < 61 → 0 ≤ i → i < 36 → M' 212 (36 * (j : Int) + i) = cWh (daysS t r j bg) i) ∧ M' 211 = M 211 := by
  intro k
  induction k with
  | zero =>
    intro fuel M n hK hr h hG h1 h2 h3
    obtain ⟨f, rfl⟩ : ∃ f, fuel = f + 1 := ⟨fuel - 1, by omega⟩
    obtain ⟨M', a1, a2, a3, a4⟩ := r_laysBack2 hS.o hp.o hK
    refine ⟨M', ?_, a2, a3, fun j i x y z => by rw [a4 212 (by omega)]; exact h2 j i (by omega) y z, a4 211 (by omega)⟩
    simp [pX12_couldRule_14, show (60 : Int) < (n : Int) by omega, hS.o, a1]
  | succ k ih =>
    intro fuel M n hK hr h hG h1 h2 h3
    obtain ⟨f, rfl⟩ : ∃ f, fuel = f + 1 := ⟨fuel - 1, by omega⟩
    obtain ⟨M1, a1, a2, a3, a4, a5, a6, a7, a8⟩ := r_could_22 (R := R) hS hs ho (k14 := pX12_couldRule_14 S f) (n := n) (by omega) (m := k + 1) hG 36 zFU M 0 hK hr h (by omega) (by omega) (fun i x y => by omega) (zFU_gt (by omega))
    rw [← days_snoc] at a4 a5
    obtain ⟨M', b1, b2, b3, b4, b5⟩ := ih f M1 (n + 1) a2 a3 a4 a5 (by omega) (fun j i x y z => by
      by_cases w : j = n
      · subst w; exact a6 i y z
      · rw [a7 _ (by omega)]; exact h2 j i (by omega) y z) (by omega)
    refine ⟨M', ?_, b2, b3, b4, b5.trans a8⟩
    rw [← b1]
    simp only [pX12_couldRule_14]
    rw [if_neg (by omega), a1]
    rfl
/-- the notes in the reference's rows -/
def RNt (R : ZM) (q : Nt) : Prop := R 177 7 = q.1 ∧ ∀ i, 0 ≤ i → i < q.1 → R 185 i = q.2.1 i ∧ R 186 i = q.2.2.1 i ∧ R 187 i = q.2.2.2 i
theorem r_could_68 (hS : ShW S) (hp : PtW R) {q : Nt} (hq : RNt R q) (ho : TdOk t) (hqo : NtOk t q) (hA : RAt R M) {bg : Sc} (hl : ∀ (j : Nat) (i : Int), j < 61 → 0 ≤ i → i < 36 → M 212 (36 * (j : Int) + i) = cWh (daysS t r j bg) i) : ∀ (k fuel : Nat) (i : Int), i + k = q.1 → 0 ≤ i → k < fuel → pX12_couldRule_68 S fuel M 176 i = some (if couldB t r bg q k i = true then 1 else 0, M) := by
  have hM : PtW M := (hA.1.pt hp.o).w
  have hb := sq_b ho.1
  have e7 : M 177 7 = q.1 := by rw [hA.2.1 7 (by decide) (by decide)]; exact hq.1
  have hqb := hqo.1
  intro k
  induction k with
  | zero =>
    intro fuel i h1 h2 h3
    obtain ⟨f, rfl⟩ : ∃ f, fuel = f + 1 := ⟨fuel - 1, by omega⟩
    simp [pX12_couldRule_68, hS.o, hM.o, e7, show q.1 ≤ i by omega, couldB]
  | succ k ih =>
    intro fuel i h1 h2 h3
    obtain ⟨f, rfl⟩ : ∃ f, fuel = f + 1 := ⟨fuel - 1, by omega⟩
    have i0 := ih f (i + 1) (by omega) (by omega) (by omega)
    obtain ⟨n1, n2⟩ := hqo.2 i h2 (by omega)
    obtain ⟨m1, m2, m3⟩ := hq.2 i h2 (by omega)
    have e1 : M 185 i = q.2.1 i := by rw [hA.1.1 185 (by omega)]; exact m1
    have e2 : M 186 i = q.2.2.1 i := by rw [hA.1.1 186 (by omega)]; exact m2
    have e3 : M 187 i = q.2.2.2 i := by rw [hA.1.1 187 (by omega)]; exact m3
    have w1 : w32 (36 * q.2.1 i) = 36 * q.2.1 i := w32_i (by omega) (by omega)
    have w2 : w32 (36 * q.2.1 i + q.2.2.1 i) = 36 * q.2.1 i + q.2.2.1 i := w32_i (by omega) (by omega)
    have w3 : w32 (i + 1) = i + 1 := w32_i (by omega) (by omega)
    have g1 : 0 ≤ 36 * q.2.1 i + q.2.2.1 i ∧ 36 * q.2.1 i + q.2.2.1 i < 2196 := by omega
    have e4 := hl (q.2.1 i).toNat (q.2.2.1 i) (by omega) (by omega) (by omega)
    rw [Int.toNat_of_nonneg n1.1] at e4
    have g2 : ¬ q.1 ≤ i := by omega
    have g3 : i < 10 := by omega
    rw [pX12_couldRule_68]
    by_cases z : cWh (daysS t r (q.2.1 i).toNat bg) (q.2.2.1 i) = q.2.2.2 i
    · simp [hS.o, hM.o, e7, g2, g3, h2, e1, e2, e3, w1, w2, w3, g1, e4, z, i0, couldB]
    · simp [hS.o, hM.o, e7, g2, g3, h2, e1, e2, e3, w1, w2, w3, g1, e4, z, couldB]
theorem r_could (hS : ShW S) (hR : RS R t s) (hs : 2 ≤ tSd t ∧ tSd t ≤ 6) (ho : TdOk t) {nR : Int} {rl : Int → Ru} (hr : RRs S R nR rl) {q : Nt} (hq : RNt R q) (hqo : NtOk t q) {ta ts : Int → Int} (h8 : ∀ q, 0 ≤ q → q < 5 → R 188 q = ta q ∧ R 189 q = ts q) (htp : TpOk t ta ts) {j : Int} (h1 : -1 ≤ j) (h2 : j < nR) (hK : RK R M) (hA : RAt R M) :
    ∃ M', pX12_couldRule S M 176 j = some (if couldA t (rl j) (bgS ta ts) q = true then 1 else 0, M') ∧ RK R M' ∧ RAt R M' ∧ (∀ (n : Nat) (i : Int), n < 61 → 0 ≤ i → i < 36 → M' 212 (36 * (n : Int) + i) = cWh (daysS t (rl j) n (bgS ta ts)) i) ∧ M' 211 = M 211 := by
  have hM := hA.rs hR
  have hr1 := hr.at hA.1 h1 h2
  have hM9 : RS (upM M 177 9 j) t s := hM.u7 (by decide)
  obtain ⟨M1, a1, a2, a3, a4⟩ := r_begins hS hM9.1.w hM9.2.1 (ta := ta) (ts := ts) (fun q x y => by
    rw [upM_r (by decide), upM_r (by decide), hA.1.1 188 (by decide), hA.1.1 189 (by decide)]; exact h8 q x y)
  have hr2 : RRu S M1 (rl j) := hr1.eq (fun a x y => a3 a (by omega) (by omega)) (a4 9 (by decide))
  have hK1 : RK R M1 := (hK.eq (M' := upM M 177 9 j) (fun a z => upM_r (by omega))).eq (fun a z => a3 a (by omega) (by omega))
  obtain ⟨M2, b1, b2, b3, b4, b5⟩ := r_could_14 (R := R) hS hR.1.w hs ho (r := rl j) (bg := bgS ta ts) 61 zFU M1 0 hK1 hr2 a2 ((bg_go htp).le (by omega)) (by omega) (fun j i x _ _ => by omega) (zFU_gt (by omega))
  have hqb := hqo.1
  refine ⟨M2, ?_, b2, b3, b4, by rw [b5, a3 211 (by decide) (by decide), upM_r (by decide)]⟩
  have e68 := r_could_68 hS hR.1.w hq ho hqo b3 b4 q.1.toNat zFU 0 (by omega) (by omega) (zFU_gt (by omega))
  have e14 : pX12_couldRule_14 S zFU M1 176 0 = pX12_couldRule_68 S zFU M2 176 0 := b1
  have ef : couldB t (rl j) (bgS ta ts) q q.1.toNat 0 = couldA t (rl j) (bgS ta ts) q := rfl
  rw [ef] at e68
  simp [pX12_couldRule, hS.o, hM.1, zlet, a1, e14, e68]
theorem r_ruled_32 (hS : ShW S) (hR : RS R t s) (hs : 2 ≤ tSd t ∧ tSd t ≤ 6) (ho : TdOk t) {nR : Int} {rl : Int → Ru} (hr : RRs S R nR rl) {q : Nt} (hq : RNt R q) (hqo : NtOk t q) {ta ts : Int → Int} (h8 : ∀ q, 0 ≤ q → q < 5 → R 188 q = ta q ∧ R 189 q = ts q) (htp : TpOk t ta ts) {what : Int} : ∀ (k fuel : Nat) (M : ZM) (j m f0 : Int), RK R M → RAt R M → j + k = nR → -1 ≤ j → (0 ≤ m ∧ m ≤ j + 1) → k < fuel →
    ∃ M', pX12_ruled_32 S fuel M 176 what m f0 j = some (if what = 0 then (ruledF t rl (bgS ta ts) q k j m f0).1 else (ruledF t rl (bgS ta ts) q k j m f0).2, M') ∧ RAt R M' := by
  have hnb := hr.1
  intro k
  induction k with
  | zero =>
    intro fuel M j m f0 hK hA h1 h2 h3 h4
    obtain ⟨f, rfl⟩ : ∃ f, fuel = f + 1 := ⟨fuel - 1, by omega⟩
    have e24 : M 176 24 = nR := by rw [hA.1.2.1 24 (by decide) (by decide)]; exact hr.2.1
    refine ⟨M, ?_, hA⟩
    simp [pX12_ruled_32, hS.o, e24, show nR ≤ j by omega, ruledF]
  | succ k ih =>
    intro fuel M j m f0 hK hA h1 h2 h3 h4
    obtain ⟨f, rfl⟩ : ∃ f, fuel = f + 1 := ⟨fuel - 1, by omega⟩
    have e24 : M 176 24 = nR := by rw [hA.1.2.1 24 (by decide) (by decide)]; exact hr.2.1
    have wj : w32 (j + 1) = j + 1 := w32_i (by omega) (by omega)
    have wm : w32 (m + 1) = m + 1 := w32_i (by omega) (by omega)
    obtain ⟨M1, a1, a2, a3, a4, a5⟩ := r_could hS hR hs ho hr hq hqo h8 htp (j := j) h2 (by omega) hK hA
    simp only [ruledF]
    by_cases z : couldA t (rl j) (bgS ta ts) q = true
    · obtain ⟨M', b1, b2⟩ := ih f M1 (j + 1) (m + 1) (if m = 0 then j else f0) a2 a3 (by omega) (by omega) (by omega) (by omega)
      refine ⟨M', ?_, b2⟩
      simp only [if_pos z]
      rw [← b1, pX12_ruled_32]
      simp [hS.o, e24, show ¬ nR ≤ j by omega, a1, z, wj, wm]
    · obtain ⟨M', b1, b2⟩ := ih f M1 (j + 1) m f0 a2 a3 (by omega) (by omega) (by omega) (by omega)
      refine ⟨M', ?_, b2⟩
      simp only [if_neg z]
      rw [← b1, pX12_ruled_32]
      simp [hS.o, e24, show ¬ nR ≤ j by omega, a1, z, wj]
theorem r_ruled (hS : ShW S) (hR : RS R t s) (ho : TdOk t) {nR : Int} {rl : Int → Ru} (hr : RRs S R nR rl) {q : Nt} (hq : RNt R q) (hqo : NtOk t q) {ta ts : Int → Int} (h8 : ∀ q, 0 ≤ q → q < 5 → R 188 q = ta q ∧ R 189 q = ts q) (htp : TpOk t ta ts) {what : Int} : ∃ M', pX12_ruled S R 176 what = some (ruledA t rl nR (bgS ta ts) q what, M') ∧ RAt R M' := by
  have hnb := hr.1
  unfold ruledA
  by_cases g1 : tSd t ≤ 0
  · refine ⟨R, ?_, RAt.refl R⟩
    simp [pX12_ruled, pX12_ruled_17, hS.o, r_isSky hS.o hR.1 hR.2.1, g1, show ¬ 0 < tSd t by omega]
  by_cases g3 : 0 ≤ what ∧ what ≤ 1
  · have hs : 2 ≤ tSd t ∧ tSd t ≤ 6 := by have := ho.1; omega
    obtain ⟨M1, a1, a2, a3⟩ := r_keepsAll hS.o hR.1
    obtain ⟨M', b1, b2⟩ := r_ruled_32 hS hR hs ho hr hq hqo h8 htp (what := what) (nR + 1).toNat zFU M1 (-1) 0 (-2) a2 a3 (by omega) (by omega) (by omega) (zFU_gt (by omega))
    refine ⟨M', ?_, b2⟩
    rw [if_pos ⟨by omega, g3⟩, ← b1]
    simp [pX12_ruled, hS.o, r_isSky hS.o hR.1 hR.2.1, g1, r_in, g3, a1]
  · refine ⟨R, ?_, RAt.refl R⟩
    rw [if_neg (fun z => g3 z.2)]
    simp [pX12_ruled, pX12_ruled_17, hS.o, r_isSky hS.o hR.1 hR.2.1, g1, r_in, g3]
theorem r_look_61 (hS : ShW S) {k40 : ZM → Int → Int → Int → Int → Int → Option (Int × ZM)} {n what j : Int} {m : Nat} (hn : 0 ≤ n ∧ n ≤ 60) (hm : m ≤ 6) (hj : -1 ≤ j ∧ j ≤ 5) {W : Int → Int} : ∀ (k fuel : Nat) (M : ZM) (c : Int), RK R M → RAt R M → PtW M → (∀ i, 0 ≤ i → i < 36 → M 212 (36 * n + i) = W i) → c + k = 36 → 0 ≤ c → (∀ i, 0 ≤ i → i < c → M 211 (36 * (m : Int) + i) = W i) → k < fuel →
    ∃ M', pX12_look_61 S k40 fuel M 176 n what m j c = k40 M' 176 n what ((m + 1 : Nat) : Int) (j + 1) ∧ RK R M' ∧ RAt R M' ∧ (∀ i, 0 ≤ i → i < 36 → M' 211 (36 * (m : Int) + i) = W i) ∧ (∀ z, (z < 36 * (m : Int) ∨ 36 * (m : Int) + 36 ≤ z) → M' 211 z = M 211 z) := by
  have wj : w32 (j + 1) = j + 1 := w32_i (by omega) (by omega)
  have wm : w32 ((m : Int) + 1) = ((m + 1 : Nat) : Int) := by rw [w32_i (by omega) (by omega)]; omega
  have wm2 : w32 (36 * (m : Int)) = 36 * (m : Int) := w32_i (by omega) (by omega)
  have wn2 : w32 (36 * n) = 36 * n := w32_i (by omega) (by omega)
  intro k
  induction k with
  | zero =>
    intro fuel M c hK hA hM hW h1 h2 h3 h4
    obtain ⟨f, rfl⟩ : ∃ f, fuel = f + 1 := ⟨fuel - 1, by omega⟩
    refine ⟨M, ?_, hK, hA, fun i x y => h3 i x (by omega), fun _ _ => rfl⟩
    simp only [pX12_look_61, pX12_look_101]
    rw [if_pos (by omega), wj, wm]
  | succ k ih =>
    intro fuel M c hK hA hM hW h1 h2 h3 h4
    obtain ⟨f, rfl⟩ : ∃ f, fuel = f + 1 := ⟨fuel - 1, by omega⟩
    have v1 : w32 (36 * (m : Int) + c) = 36 * (m : Int) + c := w32_i (by omega) (by omega)
    have v3 : w32 (36 * n + c) = 36 * n + c := w32_i (by omega) (by omega)
    have v2 : w32 (c + 1) = c + 1 := w32_i (by omega) (by omega)
    have g1 : 0 ≤ 36 * (m : Int) + c ∧ 36 * (m : Int) + c < 252 := by omega
    have g2 : 0 ≤ 36 * n + c ∧ 36 * n + c < 2196 := by omega
    have e1 := hW c h2 (by omega)
    obtain ⟨M', a1, a2, a3, a4, a5⟩ := ih f (upM M 211 (36 * (m : Int) + c) (W c)) (c + 1) (hK.eq (fun a z => upM_r (by omega))) (hA.eq (fun a z => upM_r (by omega))) (hM.o.eq (upM_r (by decide))) (fun i x y => by rw [upM_r (by decide)]; exact hW i x y) (by omega) (by omega) (fun i x y => by
      by_cases z : i = c
      · subst z; rw [upM_s]
      · rw [upM_i (by omega)]; exact h3 i x (by omega)) (by omega)
    refine ⟨M', ?_, a2, a3, a4, fun z x => by rw [a5 z x, upM_i (by omega)]⟩
    rw [← a1, pX12_look_61]
    simp [show ¬ 36 ≤ c by omega, hS.o, hM.o, wm2, wn2, v1, v2, v3, g1, g2, e1, zlet]
theorem r_look_40 (hS : ShW S) (hR : RS R t s) (hs : 2 ≤ tSd t ∧ tSd t ≤ 6) (ho : TdOk t) {nR : Int} {rl : Int → Ru} (hr : RRs S R nR rl) {q : Nt} (hq : RNt R q) (hqo : NtOk t q) {ta ts : Int → Int} (h8 : ∀ q, 0 ≤ q → q < 5 → R 188 q = ta q ∧ R 189 q = ts q) (htp : TpOk t ta ts) {n what : Int} (hn : 0 ≤ n ∧ n ≤ 60) (hw : what = 0 ∨ what = 1) : ∀ (k fuel : Nat) (M : ZM) (j : Int) (m : Nat) (sh : Int → Int → Int), RK R M → RAt R M → j + k = nR → -1 ≤ j → (m : Int) ≤ j + 1 → (∀ i c : Int, 0 ≤ i → i < m → 0 ≤ c → c < 36 → M 211 (36 * i + c) = sh i c) → k < fuel →
    ∃ M', pX12_look_40 S fuel M 176 n what m j = some (lookF t rl (bgS ta ts) q n.toNat what k j m sh, M') ∧ RAt R M' := by
  have hnb := hr.1
  intro k
  induction k with
  | zero =>
    intro fuel M j m sh hK hA h1 h2 h3 h4 h5
    obtain ⟨f, rfl⟩ : ∃ f, fuel = f + 1 := ⟨fuel - 1, by omega⟩
    have hM := hA.rs hR
    have e24 : M 176 24 = nR := by rw [hA.1.2.1 24 (by decide) (by decide)]; exact hr.2.1
    obtain ⟨p1, p2⟩ := r_part hS hM.1.w hM.2.1 ho hs (m := m) (by omega) h4
    refine ⟨M, ?_, hA⟩
    simp only [lookF]
    by_cases z : m = 0
    · subst z
      simp [pX12_look_40, hS.o, e24, show nR ≤ j by omega]
    · rw [if_neg z]
      have z' : ¬ (m : Int) = 0 := by omega
      rcases hw with rfl | rfl
      · simp [pX12_look_40, pX12_look_137, hS.o, e24, show nR ≤ j by omega, z, p1, partA]
      · simp [pX12_look_40, pX12_look_137, hS.o, e24, show nR ≤ j by omega, z, p1, p2, partA]
  | succ k ih =>
    intro fuel M j m sh hK hA h1 h2 h3 h4 h5
    obtain ⟨f, rfl⟩ : ∃ f, fuel = f + 1 := ⟨fuel - 1, by omega⟩
    have e24 : M 176 24 = nR := by rw [hA.1.2.1 24 (by decide) (by decide)]; exact hr.2.1
    have wj : w32 (j + 1) = j + 1 := w32_i (by omega) (by omega)
    obtain ⟨M1, a1, a2, a3, a4, a5⟩ := r_could hS hR hs ho hr hq hqo h8 htp (j := j) h2 (by omega) hK hA
    simp only [lookF]
    by_cases z : couldA t (rl j) (bgS ta ts) q = true
    · rw [if_pos z]
      obtain ⟨M2, b1, b2, b3, b4, b5⟩ := r_look_61 hS (k40 := pX12_look_40 S f) (n := n) (what := what) (j := j) (m := m) hn (by omega) (by omega) (W := cWh (daysS t (rl j) n.toNat (bgS ta ts))) 36 zFU M1 0 a2 a3 (a3.rs hR).1.w (fun i x y => by
        have := a4 n.toNat i (by omega) x y
        rw [Int.toNat_of_nonneg hn.1] at this; exact this) (by omega) (by omega) (fun i x y => by omega) (zFU_gt (by omega))
      obtain ⟨M', c1, c2⟩ := ih f M2 (j + 1) (m + 1) (addSh sh m (cWh (daysS t (rl j) n.toNat (bgS ta ts)))) b2 b3 (by omega) (by omega) (by omega) (fun i c x y u v => by
        unfold addSh
        by_cases z : i = (m : Int)
        · rw [if_pos z, z]; exact b4 c u v
        · rw [if_neg z, b5 _ (by omega), a5]; exact h4 i c x (by omega) u v) (by omega)
      refine ⟨M', ?_, c2⟩
      rw [← c1, ← b1, pX12_look_40]
      simp [hS.o, e24, show ¬ nR ≤ j by omega, a1, z]
    · rw [if_neg z]
      obtain ⟨M', c1, c2⟩ := ih f M1 (j + 1) m sh a2 a3 (by omega) (by omega) (by omega) (fun i c x y u v => by rw [a5]; exact h4 i c x y u v) (by omega)
      refine ⟨M', ?_, c2⟩
      rw [← c1, pX12_look_40]
      simp [hS.o, e24, show ¬ nR ≤ j by omega, a1, z, pX12_look_101, wj]
theorem r_look (hS : ShW S) (hR : RS R t s) (ho : TdOk t) {nR : Int} {rl : Int → Ru} (hr : RRs S R nR rl) {q : Nt} (hq : RNt R q) (hqo : NtOk t q) {ta ts : Int → Int} (h8 : ∀ q, 0 ≤ q → q < 5 → R 188 q = ta q ∧ R 189 q = ts q) (htp : TpOk t ta ts) {n what : Int} : ∃ M', pX12_look S R 176 n what = some (lookA t rl nR (bgS ta ts) q n what, M') ∧ RAt R M' := by
  have hnb := hr.1
  unfold lookA
  by_cases g1 : tSd t ≤ 0
  · refine ⟨R, ?_, RAt.refl R⟩
    simp [pX12_look, pX12_look_29, hS.o, r_isSky hS.o hR.1 hR.2.1, g1, show ¬ 0 < tSd t by omega]
  by_cases g2 : 0 ≤ n ∧ n ≤ 60
  · by_cases g3 : 0 ≤ what ∧ what ≤ 1
    · have hs : 2 ≤ tSd t ∧ tSd t ≤ 6 := by have := ho.1; omega
      obtain ⟨M1, a1, a2, a3⟩ := r_keepsAll hS.o hR.1
      obtain ⟨M', b1, b2⟩ := r_look_40 hS hR hs ho hr hq hqo h8 htp (n := n) (what := what) g2 (by omega) (nR + 1).toNat zFU M1 (-1) 0 (fun _ _ => -1) a2 a3 (by omega) (by omega) (by omega) (fun i c x y u v => by omega) (zFU_gt (by omega))
      refine ⟨M', ?_, b2⟩
      rw [if_pos ⟨by omega, g2, g3⟩, ← b1]
      simp [pX12_look, hS.o, r_isSky hS.o hR.1 hR.2.1, g1, r_in, g2, g3, a1]
    · refine ⟨R, ?_, RAt.refl R⟩
      rw [if_neg (fun z => g3 z.2.2)]
      simp [pX12_look, pX12_look_29, hS.o, r_isSky hS.o hR.1 hR.2.1, g1, r_in, g2, g3]
  · refine ⟨R, ?_, RAt.refl R⟩
    rw [if_neg (fun z => g2 z.2.1)]
    simp [pX12_look, pX12_look_29, hS.o, r_isSky hS.o hR.1 hR.2.1, g1, r_in, g2]
end
