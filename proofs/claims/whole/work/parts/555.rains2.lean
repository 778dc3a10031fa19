/-! RAINS in both -/
theorem zandl_m {y : Int} (h : 0 ≤ y ∧ y < 4611686018427387904) : zandl y 2147483647 = y.tmod 2147483648 := by
  obtain ⟨n, rfl⟩ := Int.eq_ofNat_of_zero_le h.1
  have e1 : (Int64.ofInt (n : Int) &&& Int64.ofInt 2147483647) = Int64.ofInt ((n % 2147483648 : Nat) : Int) := by
    apply Int64.toBitVec_inj.mp
    apply BitVec.eq_of_toNat_eq
    rw [Int64.toBitVec_and, BitVec.toNat_and, Int64.toBitVec_ofInt, Int64.toBitVec_ofInt, Int64.toBitVec_ofInt, BitVec.ofInt_natCast, BitVec.ofInt_natCast]
    show n % 2 ^ 64 &&& (2 ^ 31 - 1) = (n % 2147483648) % 2 ^ 64
    rw [Nat.and_two_pow_sub_one_eq_mod]; omega
  unfold zandl
  rw [e1, i64_to (by unfold in64; omega), Int.tmod_eq_emod_of_nonneg h.1]
  omega
theorem drw_b {x : Int} (h : 0 ≤ x ∧ x ≤ 2147483647) : (0 ≤ drw x ∧ drw x ≤ 2147483647) ∧ (0 ≤ x * 1103515245 ∧ x * 1103515245 + 12345 < 4611686018427387904) ∧ (0 ≤ Int.tdiv (drw x) 65536 ∧ Int.tdiv (drw x) 65536 ≤ 32767) := by
  have h1 : 0 ≤ x * 1103515245 ∧ x * 1103515245 + 12345 < 4611686018427387904 := by omega
  have h2 := tmod_pos (a := x * 1103515245 + 12345) (b := 2147483648) (by omega) (by decide)
  have h3 : 0 ≤ drw x ∧ drw x ≤ 2147483647 := by unfold drw; omega
  refine ⟨h3, h1, ?_⟩
  rw [Int.tdiv_eq_ediv_of_nonneg h3.1]
  omega
theorem scWs_go {t : Td} {s : Sc} {n : Nat} (h : ScGo t s n) (c : Int) : ScGo t (scWs s c) n := by
  obtain ⟨⟨h1, h2, h3⟩, h4, h5⟩ := h
  refine ⟨⟨h1, fun i x y => ?_, h3⟩, fun hz i x y => ?_, h5⟩
  · show ((if i = c then -1 else cWh s i) = -1 ∧ (if i = c then -1 else cSi s i) = -1) ∨ ((0 ≤ (if i = c then -1 else cWh s i) ∧ (if i = c then -1 else cWh s i) < tPn t) ∧ (0 ≤ (if i = c then -1 else cSi s i) ∧ (if i = c then -1 else cSi s i) ≤ cDy s))
    by_cases z : i = c
    · simp only [if_pos z]; exact Or.inl ⟨trivial, trivial⟩
    · simp only [if_neg z]; exact h2 i x y
  · show (if i = c then -1 else cWh s i) = -1 ∧ (if i = c then -1 else cSi s i) = -1
    by_cases z : i = c
    · simp only [if_pos z]; exact ⟨trivial, trivial⟩
    · simp only [if_neg z]; exact h4 hz i x y
theorem rainD_b {t : Td} {r : Ru} {p : Int} (ho : TdOk t) : ∀ (k : Nat) (s : Sc) (x : Int), (0 ≤ x ∧ x ≤ 2147483647) → (cCl s ≤ cCl (rainD t r p k s x).1 ∧ cCl (rainD t r p k s x).1 ≤ cCl s + 36 * k) ∧ (0 ≤ (rainD t r p k s x).2 ∧ (rainD t r p k s x).2 ≤ 2147483647) := by
  have hn := nCl_b ho
  intro k
  induction k with
  | zero => intro s x hx; simp only [rainD]; omega
  | succ k ih =>
    intro s x hx
    have d1 := (drw_b hx).1
    have d2 := (drw_b d1).1
    simp only [rainD]
    split
    · have hi := ih (dayS t r s) (drw x) d1
      have hc := clapN_b (setS t r s) (posS t s) (tPn t).toNat (nCl t) 0
      have e : cCl (dayS t r s) = cCl s + clapN (setS t r s) (posS t s) (tPn t).toNat (nCl t) 0 := rfl
      omega
    · generalize hs' : scWs s (Int.tmod (Int.tdiv (drw (drw x)) 65536) (tSd t * tSd t)) = s'
      have hi := ih (dayS t r s') (drw (drw x)) d2
      have hc := clapN_b (setS t r s') (posS t s') (tPn t).toNat (nCl t) 0
      have e : cCl (dayS t r s') = cCl s' + clapN (setS t r s') (posS t s') (tPn t).toNat (nCl t) 0 := rfl
      have e2 : cCl s' = cCl s := by rw [← hs']; rfl
      omega
section
variable {S : ZS} {R M : ZM} {t : Td} {s : Sc} {r : Ru}
theorem RS.ws (h : RS M t s) {c : Int} : RS (upM (upM M 180 c (-1)) 181 c (-1)) t (scWs s c) := by
  obtain ⟨h1, h2, h3⟩ := h
  refine ⟨(h1.eq (upM_r (by decide))).eq (upM_r (by decide)), ?_, ?_⟩
  · refine h2.eq (fun j x y => by rw [upM_r (by decide), upM_r (by decide)]) ?_ ?_ ?_ <;> rw [upM_r (by decide), upM_r (by decide)]
  · obtain ⟨a1, a2, a3⟩ := h3
    unfold RSc
    rw [upM_r (show (178 : Int) ≠ 181 by decide), upM_r (show (178 : Int) ≠ 180 by decide), upM_r (show (179 : Int) ≠ 181 by decide), upM_r (show (179 : Int) ≠ 180 by decide), upM_r (show (177 : Int) ≠ 181 by decide), upM_r (show (177 : Int) ≠ 180 by decide)]
    refine ⟨a1, fun i x y => ?_, a3⟩
    rw [upM_r (show (180 : Int) ≠ 181 by decide)]
    show _ = (if i = c then -1 else cWh s i) ∧ _ = (if i = c then -1 else cSi s i)
    by_cases z : i = c
    · subst z; rw [upM_s, upM_s, if_pos rfl, if_pos rfl]; exact ⟨rfl, rfl⟩
    · rw [upM_i z, upM_i z, if_neg z, if_neg z, upM_r (show (181 : Int) ≠ 180 by decide)]; exact a2 i x y
theorem r_draws (hS : ShR S) (hM : PtR M) {x of : Int} (h8 : M 177 8 = x) (hx : 0 ≤ x ∧ x ≤ 2147483647) (hof : ¬ of = 0) : pX12_draws S M 176 of = some (Int.tmod (Int.tdiv (drw x) 65536) of, upM M 177 8 (drw x)) := by
  obtain ⟨d1, d2, d3⟩ := drw_b hx
  have w1 : w64 (x * 1103515245) = x * 1103515245 := w64_id (by unfold in64; clear hM hS; omega)
  have w2 : w64 (x * 1103515245 + 12345) = x * 1103515245 + 12345 := w64_id (by unfold in64; clear hM hS; omega)
  have e : Int.tmod (x * 1103515245 + 12345) 2147483648 = drw x := rfl
  have w3 : w32 (drw x) = drw x := w32_i (by clear hM hS; omega) (by clear hM hS; omega)
  have w4 : w32 (Int.tdiv (drw x) 65536) = Int.tdiv (drw x) 65536 := w32_i (by clear hM hS; omega) (by clear hM hS; omega)
  have hp : PtR (upM M 177 8 (drw x)) := hM.eq (upM_r (by decide))
  simp [pX12_draws, hS, hM, h8, w1, w2, e, w3, zlet, hp, upM_s, hof, w4]
theorem RS.u8 (h : RS M t s) {j v : Int} (hj : j = 8) : RS (upM M 177 j v) t s := by
  subst hj
  obtain ⟨h1, h2, h3⟩ := h
  have q : ∀ j, j ≠ 8 → upM M 177 8 v 177 j = M 177 j := fun j x => upM_i x
  refine ⟨h1.eq (upM_r (by decide)), h2.eq (fun j x y => q j (by omega)) (upM_r (by decide)) (upM_r (by decide)) (upM_r (by decide)), ?_⟩
  unfold RSc at *
  rw [upM_r (by decide), upM_r (by decide), upM_r (by decide), upM_r (by decide), q 5 (by decide), q 4 (by decide), q 6 (by decide)]
  exact h3
theorem r_rains_106 (hS : ShR S) (hs : 2 ≤ tSd t ∧ tSd t ≤ 6) (ho : TdOk t) {m n p what x5 x7 x8 x9 : Int} {k88 : ZM → Int → Int → Int → Int → Int → Int → Int → Int → Int → Int → Option (Int × ZM)} : ∀ (k fuel : Nat) (M : ZM) (s : Sc) (x i : Int), RK R M → RRu S M r → RS M t s → ScGo t s (k + 1) → M 177 8 = x → (0 ≤ x ∧ x ≤ 2147483647) → i + k = n → 0 ≤ i → n ≤ 1000 → k < fuel →
    ∃ M', pX12_rains_106 S k88 fuel M 176 m n p what x5 x7 x8 x9 i = pX12_rains_170 S k88 M' 176 m n p what x5 x7 x9 (if what = 0 then likeS t (rainD t r p k s x).1 else w32 (cCl (rainD t r p k s x).1 - x7)) x8 ∧ RK R M' ∧ M' 177 8 = (rainD t r p k s x).2 ∧ PtR M' := by
  intro k
  induction k with
  | zero =>
    intro fuel M s x i hK hr h hO h8 hx h1 h2 h3 h4
    obtain ⟨f, rfl⟩ : ∃ f, fuel = f + 1 := ⟨fuel - 1, by omega⟩
    refine ⟨M, ?_, hK, h8, h.1⟩
    have e6 := h.2.2.2.2.2.2
    have hM := h.1
    by_cases z : what = 0
    · simp [pX12_rains_106, show n ≤ i by omega, z, hS, r_like hS ho h, rainD]
    · simp [pX12_rains_106, show n ≤ i by omega, z, hS, hM, e6, rainD]
  | succ k ih =>
    intro fuel M s x i hK hr h hO h8 hx h1 h2 h3 h4
    obtain ⟨f, rfl⟩ : ∃ f, fuel = f + 1 := ⟨fuel - 1, by omega⟩
    have wi : w32 (i + 1) = i + 1 := w32_i (by omega) (by omega)
    have hni : ¬ n ≤ i := by omega
    have hb := sq_b ho.1
    have hcell : ¬ tSd t * tSd t = 0 := by
      have h1 : tSd t = 2 ∨ tSd t = 3 ∨ tSd t = 4 ∨ tSd t = 5 ∨ tSd t = 6 := by omega
      rcases h1 with e | e | e | e | e <;> rw [e] <;> decide
    obtain ⟨d1, -, -⟩ := drw_b hx
    obtain ⟨d2, -, d3⟩ := drw_b d1
    have e1 := r_draws hS h.1 h8 hx (of := 100) (by decide)
    have hR1 : RS (upM M 177 8 (drw x)) t s := h.u8 rfl
    have hK1 : RK R (upM M 177 8 (drw x)) := hK.eq (fun a z => upM_r (by omega))
    have hr1 : RRu S (upM M 177 8 (drw x)) r := hr.eq (fun a _ _ => upM_r (by omega)) (upM_i (by decide))
    rw [rainD]
    by_cases c1 : p ≤ Int.tmod (Int.tdiv (drw x) 65536) 100
    · rw [if_pos c1]
      obtain ⟨M1, a1, a2, a3, a4⟩ := r_goes hS hs ho hO hr1 hR1
      obtain ⟨M', b1, b2, b3, b4⟩ := ih f M1 (dayS t r s) (drw x) (i + 1) (hK1.fr a3) (hr1.fr a3) a2 a4 (by rw [a3.2.1 8 (by decide) (by decide), upM_s]) d1 (by omega) (by omega) h3 (by omega)
      refine ⟨M', ?_, b2, b3, b4⟩
      rw [← b1, pX12_rains_106]
      simp [hni, hS, e1, c1, pX12_rains_135, a1, wi]
    · rw [if_neg c1]
      have e2 := r_draws hS hR1.1 (upM_s _ _ _ _) d1 (of := tSd t * tSd t) hcell
      generalize hc : Int.tmod (Int.tdiv (drw (drw x)) 65536) (tSd t * tSd t) = c at e2
      have hcb : 0 ≤ c ∧ c < tSd t * tSd t := by
        have := tmod_pos (a := Int.tdiv (drw (drw x)) 65536) (b := tSd t * tSd t) d3.1 (by omega)
        omega
      have hR2 : RS (upM (upM M 177 8 (drw x)) 177 8 (drw (drw x))) t s := hR1.u8 rfl
      have e3 := r_lays (v := -1) hS hR2.1 (c := c) (by omega)
      rw [if_pos rfl] at e3
      have hR3 := hR2.ws (c := c)
      generalize hM3 : upM (upM (upM (upM M 177 8 (drw x)) 177 8 (drw (drw x))) 180 c (-1)) 181 c (-1) = M3 at hR3 e3
      have q : ∀ a, a ≠ 177 → a ≠ 180 → a ≠ 181 → M3 a = M a := fun a x y z => by rw [← hM3, upM_r z, upM_r y, upM_r x, upM_r x]
      have hr3 : RRu S M3 r := hr.eq (fun a _ _ => q a (by omega) (by omega) (by omega)) (by rw [← hM3, upM_r (by decide), upM_r (by decide), upM_i (by decide), upM_i (by decide)])
      have hK3 : RK R M3 := hK.eq (fun a z => q a (by omega) (by omega) (by omega))
      obtain ⟨M1, a1, a2, a3, a4⟩ := r_goes hS hs ho (scWs_go hO c) hr3 hR3
      obtain ⟨M', b1, b2, b3, b4⟩ := ih f M1 (dayS t r (scWs s c)) (drw (drw x)) (i + 1) (hK3.fr a3) (hr3.fr a3) a2 a4 (by rw [a3.2.1 8 (by decide) (by decide), ← hM3, upM_r (by decide), upM_r (by decide), upM_s]) d2 (by omega) (by omega) h3 (by omega)
      refine ⟨M', ?_, b2, b3, b4⟩
      rw [← b1, pX12_rains_106]
      simp [hni, hS, e1, c1, r_cells hS hR1.1 hR1.2.1 ho, e2, e3, pX12_rains_135, a1, wi]
theorem r_rains_88 (hS : ShR S) (hR : RS R t s) (hr : RRu S R r) (hs : 2 ≤ tSd t ∧ tSd t ≤ 6) (ho : TdOk t) (hG : ScGo t s 200) {m n p what : Int} (hn : 1 ≤ n ∧ n ≤ 60) (hw : what = 0 ∨ what = 1) : ∀ (k fuel : Nat) (M : ZM) (x y i : Int), RK R M → RAt R M → (0 ≤ x ∧ x ≤ 2147483647) → (0 ≤ y ∧ y ≤ 2160 * i) → i + k = m → 0 ≤ i → m ≤ 100 → k < fuel →
    ∃ M', pX12_rains_88 S fuel M 176 m n p what (R 177 8) x (cCl s) y i = some (rainF t r s n.toNat p what k x y, M') ∧ RAt R M' := by
  have hb36 := hG.2.2.2
  intro k
  induction k with
  | zero =>
    intro fuel M x y i hK hA hx hy h1 h2 h3 h4
    obtain ⟨f, rfl⟩ : ∃ f, fuel = f + 1 := ⟨fuel - 1, by omega⟩
    have hM := hA.rs hR
    refine ⟨M, ?_, hA⟩
    have e : upM M 177 8 (R 177 8) = M := by
      funext a j
      by_cases z : a = 177 ∧ j = 8
      · obtain ⟨rfl, rfl⟩ := z
        rw [upM_s]; exact (hA.2.1 8 (by decide) (by decide)).symm
      · rw [upM_ap, if_neg z]
    simp [pX12_rains_88, show m ≤ i by omega, hS, hM.1, zlet, rainF, e]
  | succ k ih =>
    intro fuel M x y i hK hA hx hy h1 h2 h3 h4
    obtain ⟨f, rfl⟩ : ∃ f, fuel = f + 1 := ⟨fuel - 1, by omega⟩
    have hM := hA.rs hR
    have wi : w32 (i + 1) = i + 1 := w32_i (by omega) (by omega)
    have hmi : ¬ m ≤ i := by omega
    have hrb := rainD_b (r := r) (p := p) ho n.toNat s x hx
    have hlb := like_b ho (rainD t r p n.toNat s x).1
    obtain ⟨M1, a1, a2, a3, a4⟩ := r_rains_106 (R := R) hS hs ho (m := m) (n := n) (p := p) (what := what) (x5 := R 177 8) (x7 := cCl s) (x8 := y) (x9 := i) (k88 := pX12_rains_88 S f) n.toNat zFU (upM M 177 8 x) s x 0 (hK.eq (fun a z => upM_r (by omega))) ((hA.ru hr).eq (fun a _ _ => upM_r (by omega)) (upM_i (by decide))) (hM.u8 rfl) (hG.le (by omega)) (upM_s _ _ _ _) hx (by omega) (by omega) (by omega) (zFU_gt (by omega))
    have w1 : w32 (cCl (rainD t r p n.toNat s x).1 - cCl s) = cCl (rainD t r p n.toNat s x).1 - cCl s := w32_i (by omega) (by omega)
    rw [w1] at a1
    generalize hv : (if what = 0 then likeS t (rainD t r p n.toNat s x).1 else cCl (rainD t r p n.toNat s x).1 - cCl s) = v at a1
    have hvb : 0 ≤ v ∧ v ≤ 2160 := by rw [← hv]; split <;> omega
    have w2 : w32 (y + v) = y + v := w32_i (by omega) (by omega)
    obtain ⟨M2, b1, b2, b3⟩ := r_laysBack hS hR.1 a2
    obtain ⟨M', c1, c2⟩ := ih f M2 (rainD t r p n.toNat s x).2 (y + v) (i + 1) b2 b3 hrb.2 (by omega) (by omega) (by omega) h3 (by omega)
    refine ⟨M', ?_, c2⟩
    rw [rainF, hv, ← c1, pX12_rains_88]
    simp [hmi, hS, hM.1, zlet, a1, pX12_rains_170, a4, a3, b1, w2, wi]
theorem r_rains (h : QG S R t s r) {x : Int} (h8 : R 177 8 = x) (hx : 0 ≤ x ∧ x ≤ 2147483647) {m n p what : Int} : ∃ M', pX12_rains S R 176 m n p what = some (rainsA t r s x m n p what, M') ∧ RAt R M' := by
  obtain ⟨hS, hR, hr, ho, hG⟩ := h
  have hM := hR.1
  have hT := hR.2.1
  have e6 := hR.2.2.2.2.2.2
  unfold rainsA
  by_cases g1 : tSd t ≤ 0
  · refine ⟨R, ?_, RAt.refl R⟩
    simp [pX12_rains, pX12_rains_54, hS, r_isSky hS hM hT, g1, show ¬ 0 < tSd t by omega]
  by_cases g2 : 1 ≤ m ∧ m ≤ 10
  · by_cases g3 : 1 ≤ n ∧ n ≤ 60
    · by_cases g4 : 0 ≤ p ∧ p ≤ 100
      · by_cases g5 : 0 ≤ what ∧ what ≤ 1
        · have hs : 2 ≤ tSd t ∧ tSd t ≤ 6 := by have := ho.1; omega
          obtain ⟨M1, a1, a2, a3⟩ := r_keepsAll hS hM
          obtain ⟨M', b1, b2⟩ := r_rains_88 hS hR hr hs ho hG (m := m) (n := n) (p := p) (what := what) g3 (by omega) m.toNat zFU M1 x 0 0 a2 a3 hx (by omega) (by omega) (by omega) (by omega) (zFU_gt (by omega))
          refine ⟨M', ?_, b2⟩
          rw [if_pos ⟨by omega, g2, g3, g4, g5⟩, ← b1]
          simp [pX12_rains, hS, r_isSky hS hM hT, g1, r_in, g2, g3, g4, g5, hM, h8, e6, a1]
        · refine ⟨R, ?_, RAt.refl R⟩
          rw [if_neg (fun z => g5 z.2.2.2.2)]
          simp [pX12_rains, pX12_rains_54, hS, r_isSky hS hM hT, g1, r_in, g2, g3, g4, g5]
      · refine ⟨R, ?_, RAt.refl R⟩
        rw [if_neg (fun z => g4 z.2.2.2.1)]
        simp [pX12_rains, pX12_rains_54, hS, r_isSky hS hM hT, g1, r_in, g2, g3, g4]
    · refine ⟨R, ?_, RAt.refl R⟩
      rw [if_neg (fun z => g3 z.2.2.1)]
      simp [pX12_rains, pX12_rains_54, hS, r_isSky hS hM hT, g1, r_in, g2, g3]
  · refine ⟨R, ?_, RAt.refl R⟩
    rw [if_neg (fun z => g2 z.2.1)]
    simp [pX12_rains, pX12_rains_54, hS, r_isSky hS hM hT, g1, r_in, g2]
end
section
variable {S : ZS} {M : ZM} {t : Td} {s : Sc} {e : Int} {r : Ru}
theorem c_drawn {x : Int} (hx : 0 ≤ x ∧ x ≤ 2147483647) : pX1_drawnFrom S M x = some (drw x, M) := by
  obtain ⟨d1, d2, d3⟩ := drw_b hx
  have w1 : w64 (x * 1103515245) = x * 1103515245 := w64_id (by unfold in64; omega)
  have w2 : w64 (x * 1103515245 + 12345) = x * 1103515245 + 12345 := w64_id (by unfold in64; omega)
  rw [pX1_drawnFrom, w1, w2, zandl_m (by omega)]
  have e : Int.tmod (x * 1103515245 + 12345) 2147483648 = drw x := rfl
  rw [e, w32_i (by omega) (by omega)]
theorem scWs_CS {b c : Int} (h : CS M t b s) : CS (upM M (b + 3) c (-1)) t b (scWs s c) := by
  obtain ⟨h1, h2, h3, h4, h5, h6⟩ := h
  refine ⟨fun i x y => ?_, fun i x y => ?_, fun i x y => ?_, ?_, ?_, ?_⟩
  · rw [upM_r (by omega), upM_r (by omega)]; exact h1 i x y
  · show _ = (if i = c then -1 else cWh s i) ∧ ((if i = c then -1 else cWh s i) ≠ -1 → _ = (if i = c then -1 else cSi s i))
    rw [upM_r (show b + 4 ≠ b + 3 by omega)]
    by_cases z : i = c
    · subst z; rw [upM_s, if_pos rfl]; exact ⟨rfl, fun z => absurd rfl z⟩
    · rw [upM_i z, if_neg z, if_neg z]; exact h2 i x y
  · by_cases z : i = c
    · subst z; rw [upM_s]
    · rw [upM_i z]; exact h3 i x y
  · rw [upM_r (by omega)]; exact h4
  · rw [upM_r (by omega)]; exact h5
  · rw [upM_r (by omega)]; exact h6
theorem c_sum_35 (hs : 2 ≤ tSd t ∧ tSd t ≤ 6) {m n p what y1 y2 x10 : Int} {k15 : ZM → Int → Int → Int → Int → Int → Int → Int → Int → Int → Int → Int → Option (Int × ZM)} : ∀ (k fuel : Nat) (M : ZM) (s' : Sc) (x i : Int), CQ S M t s e r → CS M t 142 s' → ScGo t s' (k + 1) → (0 ≤ x ∧ x ≤ 2147483647) → i + k = n → 0 ≤ i → n ≤ 1000 → k < fuel →
    ∃ M', pX1_summers_35 S k15 fuel M 137 16 e m n p what x y1 y2 x10 i = k15 M' 137 16 e m n p what (rainD t r p k s' x).2 (w32 (y1 + likeS t (rainD t r p k s' x).1)) (w32 (y2 + w32 (cCl (rainD t r p k s' x).1 - cCl s))) (w32 (x10 + 1)) ∧ CQ S M' t s e r ∧ FQ M M' := by
  intro k
  induction k with
  | zero =>
    intro fuel M s' x i h hC hO hx h1 h2 h3 h4
    obtain ⟨f, rfl⟩ : ∃ f, fuel = f + 1 := ⟨fuel - 1, by omega⟩
    refine ⟨M, ?_, h, FQ.refl M⟩
    have lk := c_like h.ok h.tt (shC_of h.1.1).2.1 (ptC_of h.1.2).2.1 hC
    have e6 : M 142 6 = cCl s' := hC.2.2.2.2.2
    have e7 : M 23 6 = cCl s := h.2.2.1.2.2.2.2.2
    simp [pX1_summers_35, show n ≤ i by omega, h.1.1.o, h.1.2.o, lk, e6, e7, zlet, pX1_summers_141, rainD]
  | succ k ih =>
    intro fuel M s' x i h hC hO hx h1 h2 h3 h4
    obtain ⟨f, rfl⟩ : ∃ f, fuel = f + 1 := ⟨fuel - 1, by omega⟩
    have ho := h.ok
    have hb := sq_b ho.1
    have wi : w32 (i + 1) = i + 1 := w32_i (by omega) (by omega)
    have hni : ¬ n ≤ i := by omega
    obtain ⟨d1, -, d4⟩ := drw_b hx
    obtain ⟨d2, -, d3⟩ := drw_b d1
    have w1 : w32 (Int.tdiv (drw x) 65536) = Int.tdiv (drw x) 65536 := w32_i (by omega) (by omega)
    have w2 : w32 (Int.tdiv (drw (drw x)) 65536) = Int.tdiv (drw (drw x)) 65536 := w32_i (by omega) (by omega)
    rw [rainD]
    by_cases c1 : p ≤ Int.tmod (Int.tdiv (drw x) 65536) 100
    · rw [if_pos c1]
      obtain ⟨M1, a1, a2, a3, a4⟩ := c_one ho hs hO (h.cd1 hC) h.2.2.2.1.2.1
      have f1 := FQ.fr a3 (Or.inl ⟨rfl, rfl⟩)
      have k1 := h.fq (h.1.fr a3 (Or.inl ⟨rfl, rfl⟩)) f1
      obtain ⟨M', b1, b2, b3⟩ := ih f M1 (dayS t r s') (drw x) (i + 1) k1 a2.2.2.2.2 a4 d1 (by omega) (by omega) h3 (by omega)
      refine ⟨M', ?_, b2, f1.trans b3⟩
      rw [← b1, pX1_summers_35]
      simp [hni, c_drawn hx, w1, c1, pX1_summers_82, h.1.1.o, h.1.2.o, a1, wi]
    · rw [if_neg c1]
      generalize hc : Int.tmod (Int.tdiv (drw (drw x)) 65536) (tSd t * tSd t) = c
      have hcell : ¬ tSd t * tSd t ≤ 0 := by
        have h1 : tSd t = 2 ∨ tSd t = 3 ∨ tSd t = 4 ∨ tSd t = 5 ∨ tSd t = 6 := by omega
        rcases h1 with e | e | e | e | e <;> rw [e] <;> decide
      have hcb : 0 ≤ c ∧ c < 36 := by
        have := tmod_pos (a := Int.tdiv (drw (drw x)) 65536) (b := tSd t * tSd t) d3.1 (by omega)
        omega
      have hcc := h.tt.2.2.2.1
      have k0 : CQ S (upM M 145 c (-1)) t s e r := h.up (by omega) (by unfold pkN; omega)
      have c0 : CS (upM M 145 c (-1)) t 142 (scWs s' c) := scWs_CS (b := 142) hC
      have f0 : FQ M (upM M 145 c (-1)) := fun z u => upM_r (by omega)
      obtain ⟨M1, a1, a2, a3, a4⟩ := c_one ho hs (scWs_go hO c) (k0.cd1 c0) k0.2.2.2.1.2.1
      have f1 := FQ.fr a3 (Or.inl ⟨rfl, rfl⟩)
      have k1 := k0.fq (k0.1.fr a3 (Or.inl ⟨rfl, rfl⟩)) f1
      obtain ⟨M', b1, b2, b3⟩ := ih f M1 (dayS t r (scWs s' c)) (drw (drw x)) (i + 1) k1 a2.2.2.2.2 a4 d2 (by omega) (by omega) h3 (by omega)
      refine ⟨M', ?_, b2, (f0.trans f1).trans b3⟩
      have ew : pX1_washOut S M 137 17 (Int.tdiv (drw (drw x)) 65536) = some (upM M 145 c (-1)) := by
        simp [pX1_washOut, pX1_washOut_22, h.1.1.o, h.1.2.o, hcc, hcell, show ¬ tSd t * tSd t = 0 by omega, hc, hcb, zlet]
      rw [← b1, pX1_summers_35]
      simp [hni, c_drawn hx, c_drawn d1, w1, w2, c1, h.1.1.o, h.1.2.o, ew, pX1_summers_82, k0.1.2.o, a1, wi]
theorem c_sum_15 (hs : 2 ≤ tSd t ∧ tSd t ≤ 6) {m n p what : Int} (hn : 1 ≤ n ∧ n ≤ 60) : ∀ (k fuel : Nat) (M : ZM) (x y1 y2 i : Int), CQ S M t s e r → (0 ≤ x ∧ x ≤ 2147483647) → (0 ≤ y1 ∧ y1 ≤ 2160 * i) → (0 ≤ y2 ∧ y2 ≤ 2160 * i) → i + k = m → 0 ≤ i → m ≤ 100 → k < fuel →
    ∃ M', pX1_summers_15 S fuel M 137 16 e m n p what x y1 y2 i = some (if what = 0 then rainF t r s n.toNat p 0 k x y1 else rainF t r s n.toNat p 1 k x y2, M') ∧ NW S M' ∧ FQ M M' := by
  intro k
  induction k with
  | zero =>
    intro fuel M x y1 y2 i h hx hy1 hy2 h1 h2 h3 h4
    obtain ⟨f, rfl⟩ : ∃ f, fuel = f + 1 := ⟨fuel - 1, by omega⟩
    refine ⟨M, ?_, h.1, FQ.refl M⟩
    simp [pX1_summers_15, show m ≤ i by omega, rainF]
  | succ k ih =>
    intro fuel M x y1 y2 i h hx hy1 hy2 h1 h2 h3 h4
    obtain ⟨f, rfl⟩ : ∃ f, fuel = f + 1 := ⟨fuel - 1, by omega⟩
    have hrb := rainD_b (r := r) (p := p) h.ok n.toNat s x hx
    have hlb := like_b h.ok (rainD t r p n.toNat s x).1
    have hmi : ¬ m ≤ i := by omega
    obtain ⟨M1, a1, a2, a3, a4, a5⟩ := h.trial2
    obtain ⟨M2, b1, b2, b3⟩ := c_sum_35 hs (m := m) (n := n) (p := p) (what := what) (y1 := y1) (y2 := y2) (x10 := i) (k15 := pX1_summers_15 S f) n.toNat zFU M1 s x 0 a2 a3 (h.go.le (by omega)) hx (by omega) (by omega) (by omega) (zFU_gt (by omega))
    rw [w32_i (x := i + 1) (by omega) (by omega), w32_i (x := cCl (rainD t r p n.toNat s x).1 - cCl s) (by omega) (by omega), w32_i (x := y1 + likeS t (rainD t r p n.toNat s x).1) (by omega) (by omega), w32_i (x := y2 + (cCl (rainD t r p n.toNat s x).1 - cCl s)) (by omega) (by omega)] at b1
    obtain ⟨M', c1, c2, c3⟩ := ih f M2 (rainD t r p n.toNat s x).2 (y1 + likeS t (rainD t r p n.toNat s x).1) (y2 + (cCl (rainD t r p n.toNat s x).1 - cCl s)) (i + 1) b2 hrb.2 (by omega) (by omega) (by omega) (by omega) h3 (by omega)
    refine ⟨M', ?_, c2, (a4.trans b3).trans c3⟩
    have e1 : rainF t r s n.toNat p 0 (k + 1) x y1 = rainF t r s n.toNat p 0 k (rainD t r p n.toNat s x).2 (y1 + likeS t (rainD t r p n.toNat s x).1) := by rw [rainF, if_pos rfl]
    have e2 : rainF t r s n.toNat p 1 (k + 1) x y2 = rainF t r s n.toNat p 1 k (rainD t r p n.toNat s x).2 (y2 + (cCl (rainD t r p n.toNat s x).1 - cCl s)) := by rw [rainF, if_neg (by decide)]
    rw [e1, e2, ← c1, pX1_summers_15]
    simp [hmi, h.1.1.o, h.1.2.o, a1, b1]
theorem c_rains (h : CQ S M t s e r) {x : Int} (h8 : M 16 8 = x) (hx : 0 ≤ x ∧ x ≤ 2147483647) {m n p what : Int} : ∃ M', pX11_rains S M 1 m n p what = some (rainsA t r s x m n p what, M') ∧ NW S M' ∧ FQ M M' := by
  have ho := h.ok
  unfold rainsA
  by_cases g : (1 ≤ m ∧ m ≤ 10) ∧ (1 ≤ n ∧ n ≤ 60) ∧ 0 ≤ p ∧ p ≤ 100
  · obtain ⟨g2, g3, g4⟩ := g
    have e35 : pX11_rains S M 1 m n p what = pX11_rains_35 S M 1 m n p what 1 := by
      simp [pX11_rains, c_within, g2, g3, g4]
    rw [e35]
    by_cases g1 : tSd t ≤ 0
    · refine ⟨M, ?_, h.1, FQ.refl M⟩
      simp [pX11_rains_35, pX11_rains_65, h.1.1.o, h.1.2.o, c_isThere h.tt, g1, show ¬ 0 < tSd t by omega]
    by_cases g5 : 0 ≤ what ∧ what ≤ 1
    · have hs : 2 ≤ tSd t ∧ tSd t ≤ 6 := by have := ho.1; omega
      obtain ⟨M', b1, b2, b3⟩ := c_sum_15 hs (m := m) (n := n) (p := p) (what := what) g3 m.toNat zFU M x 0 0 0 h hx (by omega) (by omega) (by omega) (by omega) (by omega) (zFU_gt (by omega))
      refine ⟨M', ?_, b2, b3⟩
      rw [if_pos ⟨by omega, g2, g3, g4, g5⟩]
      have e0 : (if what = 0 then rainF t r s n.toNat p 0 m.toNat x 0 else rainF t r s n.toNat p 1 m.toNat x 0) = rainF t r s n.toNat p what m.toNat x 0 := by
        have : what = 0 ∨ what = 1 := by omega
        rcases this with rfl | rfl <;> rfl
      rw [e0] at b1
      simp [pX11_rains_35, h.1.1.o, h.1.2.o, c_isThere h.tt, g1, c_within, g5, c_ruleInForce h, pX1_summers, h8, b1]
    · refine ⟨M, ?_, h.1, FQ.refl M⟩
      rw [if_neg (fun z => g5 z.2.2.2.2)]
      simp [pX11_rains_35, pX11_rains_65, h.1.1.o, h.1.2.o, c_isThere h.tt, g1, c_within, g5]
  · refine ⟨M, ?_, h.1, FQ.refl M⟩
    rw [if_neg (fun z => g ⟨z.2.1, z.2.2.1, z.2.2.2.1⟩)]
    have e35 : pX11_rains S M 1 m n p what = pX11_rains_35 S M 1 m n p what 0 := by
      by_cases g2 : 1 ≤ m ∧ m ≤ 10
      · by_cases g3 : 1 ≤ n ∧ n ≤ 60
        · have g4 : ¬ (0 ≤ p ∧ p ≤ 100) := fun z => g ⟨g2, g3, z⟩
          simp [pX11_rains, pX11_rains_34, c_within, g2, g3, g4]
        · simp [pX11_rains, pX11_rains_34, c_within, g2, g3]
      · simp [pX11_rains, pX11_rains_34, c_within, g2]
    rw [e35]
    by_cases g1 : tSd t ≤ 0
    · simp [pX11_rains_35, pX11_rains_65, h.1.1.o, h.1.2.o, c_isThere h.tt, g1]
    · simp [pX11_rains_35, pX11_rains_65, h.1.1.o, h.1.2.o, c_isThere h.tt, g1]
end
