/-! WHAT IS ASKED: as numbers; the reference answers so -/
/-- all that a question rests on -/
def QG (S : ZS) (R : ZM) (t : Td) (s : Sc) (r : Ru) : Prop := ShR S ∧ RS R t s ∧ RRu S R r ∧ TdOk t ∧ ScGo t s 200
def aheadA (t : Td) (r : Ru) (s : Sc) (k n what : Int) : Int :=
  if 0 < tSd t ∧ ((what = 0 ∧ 0 ≤ k ∧ k < tSd t * tSd t) ∨ (what = 1 ∧ 0 ≤ k ∧ k < tPn t) ∨ what = 2 ∨ what = 3) ∧ 0 ≤ n ∧ n ≤ 100 then
    (if what = 0 then cWh (daysS t r n.toNat s) k else if what = 1 then cAt (daysS t r n.toNat s) k else if what = 2 then tSd t * tSd t - inkS t (daysS t r n.toNat s) (-1) else likeS t (daysS t r n.toNat s))
  else -2
/-- whether the mark is there (and clean) -/
def sgnB (t : Td) (cl : Int) (s : Sc) : Nat → Int → Bool
  | 0, _ => true
  | k + 1, c => if tMk t c = 1 ∧ cWh s c = -1 then false else if cl ≠ 0 ∧ tMk t c = 0 ∧ cWh s c ≠ -1 then false else sgnB t cl s k (c + 1)
def signF (t : Td) (r : Ru) (cl : Int) : Nat → Sc → Int
  | 0, _ => -2
  | k + 1, s => if sgnB t cl s (nCl t) 0 = true then cDy s else signF t r cl k (dayS t r s)
def signA (t : Td) (r : Ru) (s : Sc) (cl : Int) : Int := if tSd t ≤ 0 then -1 else signF t r cl 100 s
def bcF (x : Int) : Nat → Int → Int
  | 0, _ => 0
  | k + 1, i => zand (zshr x i) 1 + bcF x k (i + 1)
def scSy (s : Sc) (v : Int) : Sc := (cAt s, cSt s, cWh s, cSi s, v, cDy s, cCl s)
def holdF (t : Td) (r : Ru) (s : Sc) (n : Nat) : Nat → Int → Int → Int → Int × Int
  | 0, _, b, m => (b, m)
  | k + 1, x, b, m =>
    if m < likeS t (daysS t r n (scSy s x)) then holdF t r s n k (x + 1) x (likeS t (daysS t r n (scSy s x)))
    else if likeS t (daysS t r n (scSy s x)) = m then (if bcF b 16 0 ≤ bcF x 16 0 then holdF t r s n k (x + 1) b m else holdF t r s n k (x + 1) x m)
    else holdF t r s n k (x + 1) b m
def holdA (t : Td) (r : Ru) (s : Sc) (n what : Int) : Int :=
  if 0 < tSd t ∧ (1 ≤ n ∧ n ≤ 60) ∧ 0 ≤ what ∧ what ≤ 1 then
    (if what = 0 then (holdF t r s n.toNat (zshl 1 (tPn t)).toNat 0 0 (-1)).1 else (holdF t r s n.toNat (zshl 1 (tPn t)).toNat 0 0 (-1)).2)
  else -1
theorem like_b {t : Td} (ho : TdOk t) (s : Sc) : 0 ≤ likeS t s ∧ likeS t s ≤ 36 := by
  have := cnt_b (fun c => (cWh s c ≠ -1) = (tMk t c = 1)) (nCl t) 0
  have := nCl_b ho
  unfold likeS
  omega
theorem shl_p {p : Int} (h : 0 ≤ p ∧ p ≤ 5) : 1 ≤ zshl 1 p ∧ zshl 1 p ≤ 32 := by
  have : p = 0 ∨ p = 1 ∨ p = 2 ∨ p = 3 ∨ p = 4 ∨ p = 5 := by omega
  rcases this with rfl | rfl | rfl | rfl | rfl | rfl <;> decide
section
variable {S : ZS} {R M : ZM} {t : Td} {s : Sc} {r : Ru}
theorem r_ahead (h : QG S R t s r) {k n what : Int} : ∃ M', pX12_ahead S R 176 k n what = some (aheadA t r s k n what, M') ∧ RAt R M' := by
  obtain ⟨hS, hR, hr, ho, hG⟩ := h
  have hM := hR.1
  have hT := hR.2.1
  have hb := sq_b ho.1
  by_cases g : 0 < tSd t ∧ ((what = 0 ∧ 0 ≤ k ∧ k < tSd t * tSd t) ∨ (what = 1 ∧ 0 ≤ k ∧ k < tPn t) ∨ what = 2 ∨ what = 3) ∧ 0 ≤ n ∧ n ≤ 100
  · obtain ⟨g1, g2, g3⟩ := g
    have hs : 2 ≤ tSd t ∧ tSd t ≤ 6 := by have := ho.1; omega
    have hp := ho.2.2.1
    obtain ⟨M1, a1, a2, a3⟩ := r_keepsAll hS hM
    obtain ⟨M2, b1, b2, b3, b4⟩ := r_goFor hS hs ho (m := 0) (n := n) (by omega) (hG.le (by omega)) (a3.ru hr) (a3.rs hR)
    obtain ⟨M3, c1, c2, c3⟩ := r_laysBack hS hM (a2.fr b3)
    have hM2 := b2.1
    have hsn : ¬ tSd t ≤ 0 := by omega
    have core : ∀ y, (pX12_ahead_125 S M2 176 y) = some (y, M3) := fun y => by simp [pX12_ahead_125, hS, c1]
    have e44 : pX12_ahead_44 S R 176 k n what 1 = some (aheadA t r s k n what, M3) := by
      unfold aheadA
      rw [if_pos ⟨g1, g2, g3⟩]
      rcases g2 with ⟨rfl, g4, g5⟩ | ⟨rfl, g4, g5⟩ | rfl | rfl
      · have e := (b2.2.2.2.1 k g4 (by omega)).1
        simp [pX12_ahead_44, hS, r_isSky hS hM hT, hsn, r_in, g3, a1, b1, hM2, g4, show k < 36 by omega, e, core]
      · have e := (b2.2.2.1 k g4 (by omega)).1
        simp [pX12_ahead_44, hS, r_isSky hS hM hT, hsn, r_in, g3, a1, b1, hM2, g4, show k < 5 by omega, e, core]
      · simp [pX12_ahead_44, hS, r_isSky hS hM hT, hsn, r_in, g3, a1, b1, r_allStrokes hS ho b2, core]
      · simp [pX12_ahead_44, hS, r_isSky hS hM hT, hsn, r_in, g3, a1, b1, r_like hS ho b2, core]
    refine ⟨M3, ?_, c3⟩
    rw [← e44]
    rcases g2 with ⟨rfl, g4, g5⟩ | ⟨rfl, g4, g5⟩ | rfl | rfl
    · simp [pX12_ahead, hS, r_isCell hS hM hT ho, g4, g5, pX12_ahead_39]
    · simp [pX12_ahead, pX12_ahead_12, hS, r_isPen hS hM hT ho, g4, g5, pX12_ahead_39]
    · simp [pX12_ahead, pX12_ahead_12, pX12_ahead_25, r_in, pX12_ahead_39]
    · simp [pX12_ahead, pX12_ahead_12, pX12_ahead_25, r_in, pX12_ahead_39]
  · refine ⟨R, ?_, RAt.refl R⟩
    unfold aheadA
    rw [if_neg g]
    have e44 : ∀ y, (y = 0 ∨ ¬ 0 < tSd t ∨ ¬ (0 ≤ n ∧ n ≤ 100)) → pX12_ahead_44 S R 176 k n what y = some (-2, R) := by
      intro y hy
      by_cases h1 : tSd t ≤ 0
      · simp [pX12_ahead_44, hS, r_isSky hS hM hT, h1, pX12_ahead_70]
      · by_cases h2 : y = 0
        · simp [pX12_ahead_44, hS, r_isSky hS hM hT, h1, h2, pX12_ahead_70]
        · have h3 : ¬ (0 ≤ n ∧ n ≤ 100) := by omega
          simp [pX12_ahead_44, hS, r_isSky hS hM hT, h1, h2, r_in, h3, pX12_ahead_70]
    by_cases w0 : what = 0
    · subst w0
      by_cases h1 : 0 ≤ k ∧ k < tSd t * tSd t
      · simp [pX12_ahead, hS, r_isCell hS hM hT ho, h1, pX12_ahead_39, e44 1 (by omega)]
      · simp [pX12_ahead, pX12_ahead_12, pX12_ahead_25, r_in, hS, r_isCell hS hM hT ho, h1, e44 0 (by omega)]
    · by_cases w1 : what = 1
      · subst w1
        by_cases h1 : 0 ≤ k ∧ k < tPn t
        · simp [pX12_ahead, pX12_ahead_12, hS, r_isPen hS hM hT ho, h1, pX12_ahead_39, e44 1 (by omega)]
        · simp [pX12_ahead, pX12_ahead_12, pX12_ahead_25, r_in, hS, r_isPen hS hM hT ho, h1, e44 0 (by omega)]
      · by_cases w2 : 2 ≤ what ∧ what ≤ 3
        · simp [pX12_ahead, pX12_ahead_12, pX12_ahead_25, r_in, w0, w1, w2, pX12_ahead_39, e44 1 (by omega)]
        · simp [pX12_ahead, pX12_ahead_12, pX12_ahead_25, r_in, w0, w1, w2, e44 0 (by omega)]
theorem r_isSigned_2 (hS : ShR S) (ho : TdOk t) (h : RS M t s) {cl : Int} : ∀ (k fuel : Nat) (c : Int), c + k = tSd t * tSd t → 0 ≤ c → k < fuel → pX12_isSigned_2 S fuel M 176 cl c = some (if sgnB t cl s k c = true then 1 else 0, M) := by
  have hb := sq_b ho.1
  have hM := h.1
  intro k
  induction k with
  | zero =>
    intro fuel c h1 h2 h3
    obtain ⟨f, rfl⟩ : ∃ f, fuel = f + 1 := ⟨fuel - 1, by omega⟩
    simp [pX12_isSigned_2, hS, r_cells hS hM h.2.1 ho, show tSd t * tSd t ≤ c by omega, sgnB]
  | succ k ih =>
    intro fuel c h1 h2 h3
    obtain ⟨f, rfl⟩ : ∃ f, fuel = f + 1 := ⟨fuel - 1, by omega⟩
    have e1 := (h.2.2.2.1 c h2 (by omega)).1
    have e2 := h.2.1.2.2.2.2.2 c h2 (by omega)
    have ew : w32 (c + 1) = c + 1 := w32_i (by omega) (by omega)
    have hc : c < 36 := by omega
    have i0 := ih f (c + 1) (by omega) (by omega) (by omega)
    have hc2 : ¬ tSd t * tSd t ≤ c := by omega
    have i1 : cl = 0 → pX12_isSigned_2 S f M 176 0 (c + 1) = some (if sgnB t 0 s k (c + 1) = true then 1 else 0, M) := by
      intro z; subst z; exact i0
    rw [pX12_isSigned_2]
    by_cases c1 : cWh s c = -1 <;> by_cases c2 : tMk t c = 1 <;> by_cases c3 : tMk t c = 0 <;> by_cases c4 : cl = 0 <;>
      simp [pX12_isSigned_30, pX12_isSigned_53, pX12_isSigned_55, hS, hM, r_cells hS hM h.2.1 ho, hc2, h2, hc, e1, e2, ew, c1, c2, c3, c4, i0, i1, sgnB]
theorem r_isSigned (hS : ShR S) (ho : TdOk t) (h : RS M t s) {cl : Int} : pX12_isSigned S M 176 cl = some (if sgnB t cl s (nCl t) 0 = true then 1 else 0, M) := by
  have hn := nCl_b ho
  exact r_isSigned_2 hS ho h (nCl t) zFU 0 (by omega) (by omega) (zFU_gt (by omega))
theorem r_signedAt_18 (hS : ShR S) (hp : PtR R) (hs : 2 ≤ tSd t ∧ tSd t ≤ 6) (ho : TdOk t) {cl : Int} : ∀ (k fuel : Nat) (M : ZM) (s : Sc) (i : Int), RK R M → RRu S M r → RS M t s → ScGo t s (k + 1) → i + k = 100 → 0 ≤ i → k + 1 < fuel → ∃ M', pX12_signedAt_18 S fuel M 176 cl (-2) i = some (signF t r cl k s, M') ∧ RAt R M' := by
  intro k
  induction k with
  | zero =>
    intro fuel M s i hK hr h hO h1 h2 h3
    obtain ⟨f, rfl⟩ : ∃ f, fuel = f + 1 := ⟨fuel - 1, by omega⟩
    obtain ⟨M', a1, a2, a3⟩ := r_laysBack hS hp hK
    refine ⟨M', ?_, a3⟩
    simp [pX12_signedAt_18, pX12_signedAt_61, show 100 ≤ i by omega, hS, a1, signF]
  | succ k ih =>
    intro fuel M s i hK hr h hO h1 h2 h3
    obtain ⟨f, rfl⟩ : ∃ f, fuel = f + 1 := ⟨fuel - 1, by omega⟩
    have ew : w32 (i + 1) = i + 1 := w32_i (by omega) (by omega)
    obtain ⟨M1, a1, a2, a3, a4⟩ := r_goes hS hs ho hO hr h
    have hM := h.1
    have e4 := h.2.2.2.2.2.1
    have hd := hO.2.2.1
    by_cases c1 : sgnB t cl s (nCl t) 0 = true
    · obtain ⟨M', b1, b2, b3⟩ := r_laysBack hS hp (hK.fr a3)
      refine ⟨M', ?_, b3⟩
      obtain ⟨f2, rfl⟩ : ∃ f2, f = f2 + 1 := ⟨f - 1, by omega⟩
      have hd2 : ¬ cDy s = -2 := by omega
      rw [pX12_signedAt_18]
      simp only [hS, r_isSigned hS ho h, c1, if_true, Option.bind_some, hM, e4, pX12_signedAt_49, a1, ew]
      rw [if_neg (by omega), if_neg (by decide), if_pos (by decide)]
      rw [pX12_signedAt_18]
      simp [pX12_signedAt_61, hS, b1, hd2, signF, c1]
    · obtain ⟨M', b1, b2⟩ := ih f M1 (dayS t r s) (i + 1) (hK.fr a3) (hr.fr a3) a2 a4 (by omega) (by omega) (by omega)
      refine ⟨M', ?_, b2⟩
      rw [pX12_signedAt_18]
      simp only [hS, r_isSigned hS ho h, c1, if_true, if_false, Option.bind_some, pX12_signedAt_49, a1, ew, signF]
      rw [if_neg (by omega)]
      exact b1
theorem r_signedAt (h : QG S R t s r) {cl : Int} : ∃ M', pX12_signedAt S R 176 cl = some (signA t r s cl, M') ∧ RAt R M' := by
  obtain ⟨hS, hR, hr, ho, hG⟩ := h
  have hM := hR.1
  have hT := hR.2.1
  unfold signA
  by_cases g : tSd t ≤ 0
  · refine ⟨R, ?_, RAt.refl R⟩
    simp [pX12_signedAt, hS, r_isSky hS hM hT, g]
  · have hs : 2 ≤ tSd t ∧ tSd t ≤ 6 := by have := ho.1; omega
    obtain ⟨M1, a1, a2, a3⟩ := r_keepsAll hS hM
    obtain ⟨M', b1, b2⟩ := r_signedAt_18 hS hM hs ho (r := r) (cl := cl) 100 zFU M1 s 0 a2 (a3.ru hr) (a3.rs hR) (hG.le (by omega)) (by omega) (by omega) (zFU_gt (by omega))
    refine ⟨M', ?_, b2⟩
    simp [pX12_signedAt, hS, r_isSky hS hM hT, g, a1, b1]
theorem r_sign (h : QG S R t s r) : ∃ M', pX12_sign S R 176 = some (signA t r s 0, M') ∧ RAt R M' := by
  obtain ⟨M', a1, a2⟩ := r_signedAt h (cl := 0)
  exact ⟨M', by simp [pX12_sign, h.1, a1], a2⟩
theorem r_clean (h : QG S R t s r) : ∃ M', pX12_clean S R 176 = some (signA t r s 1, M') ∧ RAt R M' := by
  obtain ⟨M', a1, a2⟩ := r_signedAt h (cl := 1)
  exact ⟨M', by simp [pX12_clean, h.1, a1], a2⟩
theorem and1_b (x : Int) : 0 ≤ zand x 1 ∧ zand x 1 ≤ 1 := by
  have : zand x 1 = 0 ∨ zand x 1 = 1 := zand_01 x
  omega
theorem r_bits_4 {x : Int} : ∀ (k fuel : Nat) (i a : Int), i + k = 16 → 0 ≤ i → 0 ≤ a ∧ a ≤ 100 - k → k < fuel → pX12_bits_4 S fuel M x a i = some (a + bcF x k i, M) := by
  intro k
  induction k with
  | zero =>
    intro fuel i a h1 h2 h3 h4
    obtain ⟨f, rfl⟩ : ∃ f, fuel = f + 1 := ⟨fuel - 1, by omega⟩
    simp [pX12_bits_4, show 16 ≤ i by omega, bcF]
  | succ k ih =>
    intro fuel i a h1 h2 h3 h4
    obtain ⟨f, rfl⟩ : ∃ f, fuel = f + 1 := ⟨fuel - 1, by omega⟩
    have hb := and1_b (zshr x i)
    simp only [pX12_bits_4]
    rw [if_neg (by omega), w32_i (x := a + zand (zshr x i) 1) (by omega) (by omega), w32_i (x := i + 1) (by omega) (by omega), ih f (i + 1) _ (by omega) (by omega) (by omega) (by omega)]
    simp only [bcF, Int.add_assoc]
theorem r_bits {x : Int} : pX12_bits S M x = some (bcF x 16 0, M) := by
  rw [pX12_bits, r_bits_4 16 zFU 0 0 (by omega) (by omega) (by omega) (zFU_gt (by omega)), Int.zero_add]
theorem RS.sy {M : ZM} {t : Td} {s : Sc} (h : RS M t s) (v : Int) : RS (upM M 177 5 v) t (scSy s v) := by
  obtain ⟨h1, h2, h3⟩ := h
  have q : ∀ j, j ≠ 5 → upM M 177 5 v 177 j = M 177 j := fun j x => upM_i x
  refine ⟨h1.eq (upM_r (by decide)), h2.eq (fun j x y => q j (by omega)) (upM_r (by decide)) (upM_r (by decide)) (upM_r (by decide)), ?_⟩
  unfold RSc at *
  rw [upM_r (by decide), upM_r (by decide), upM_r (by decide), upM_r (by decide), upM_s, q 4 (by decide), q 6 (by decide)]
  exact ⟨h3.1, h3.2.1, rfl, h3.2.2.2⟩
theorem ScGo.sy {n : Nat} (h : ScGo t s n) {v : Int} (hv : 0 ≤ v ∧ v < 32) : ScGo t (scSy s v) n := ⟨⟨h.1.1, h.1.2.1, hv⟩, h.2⟩
theorem r_hold_43 (hS : ShR S) (hR : RS R t s) (hr : RRu S R r) (hs : 2 ≤ tSd t ∧ tSd t ≤ 6) (ho : TdOk t) (hG : ScGo t s 200) {n what : Int} (hn : 1 ≤ n ∧ n ≤ 60) : ∀ (k fuel : Nat) (M : ZM) (x b m : Int), RK R M → RAt R M → x + k = zshl 1 (tPn t) → 0 ≤ x → k < fuel → ∃ M', pX12_hold_43 S fuel M 176 n what b m x = some (if what = 0 then (holdF t r s n.toNat k x b m).1 else (holdF t r s n.toNat k x b m).2, M') ∧ RAt R M' := by
  have hpb := shl_p ho.2.2.1
  intro k
  induction k with
  | zero =>
    intro fuel M x b m hK hA h1 h2 h3
    obtain ⟨f, rfl⟩ : ∃ f, fuel = f + 1 := ⟨fuel - 1, by omega⟩
    have hM := hA.rs hR
    have e2 := hM.2.1.2.2.1
    refine ⟨M, ?_, hA⟩
    simp [pX12_hold_43, hS, hM.1, e2, show zshl 1 (tPn t) ≤ x by omega, holdF]
  | succ k ih =>
    intro fuel M x b m hK hA h1 h2 h3
    obtain ⟨f, rfl⟩ : ∃ f, fuel = f + 1 := ⟨fuel - 1, by omega⟩
    have hM := hA.rs hR
    have e2 := hM.2.1.2.2.1
    have ew : w32 (x + 1) = x + 1 := w32_i (by omega) (by omega)
    obtain ⟨M1, a1, a2, a3⟩ := r_likeIn hS hR.1 hs ho (n := n) (s := scSy s x) (r := r) (by omega) ((hG.sy (by omega)).le (by omega)) ((hA.ru hr).eq (fun a _ _ => upM_r (by omega)) (upM_i (by decide))) (hM.sy x) (hK.eq (fun a y => upM_r (by omega)))
    have hlt : ¬ zshl 1 (tPn t) ≤ x := by omega
    rw [pX12_hold_43]
    simp only [hS, hM.1, e2, if_true, hlt, if_false, zlet, a1, Option.bind_some, r_bits, pX12_hold_97, pX12_hold_104, ew]
    rw [if_pos (by decide), if_pos (by decide)]
    simp only [holdF]
    by_cases c1 : m < likeS t (daysS t r n.toNat (scSy s x))
    · simp only [if_pos c1]
      exact ih f M1 (x + 1) x _ a2 a3 (by omega) (by omega) (by omega)
    · simp only [if_neg c1]
      by_cases c2 : likeS t (daysS t r n.toNat (scSy s x)) = m
      · simp only [if_pos c2]
        by_cases c3 : bcF b 16 0 ≤ bcF x 16 0
        · simp only [if_pos c3]
          exact ih f M1 (x + 1) b m a2 a3 (by omega) (by omega) (by omega)
        · simp only [if_neg c3, c2]
          exact ih f M1 (x + 1) x m a2 a3 (by omega) (by omega) (by omega)
      · simp only [if_neg c2]
        exact ih f M1 (x + 1) b m a2 a3 (by omega) (by omega) (by omega)
theorem r_hold (h : QG S R t s r) {n what : Int} : ∃ M', pX12_hold S R 176 n what = some (holdA t r s n what, M') ∧ RAt R M' := by
  obtain ⟨hS, hR, hr, ho, hG⟩ := h
  have hM := hR.1
  have hT := hR.2.1
  unfold holdA
  by_cases g1 : tSd t ≤ 0
  · refine ⟨R, ?_, RAt.refl R⟩
    simp [pX12_hold, pX12_hold_29, hS, r_isSky hS hM hT, g1, show ¬ 0 < tSd t by omega]
  by_cases g2 : 1 ≤ n ∧ n ≤ 60
  · by_cases g3 : 0 ≤ what ∧ what ≤ 1
    · have hs : 2 ≤ tSd t ∧ tSd t ≤ 6 := by have := ho.1; omega
      have hpb := shl_p ho.2.2.1
      obtain ⟨M1, a1, a2, a3⟩ := r_keepsAll hS hM
      obtain ⟨M', b1, b2⟩ := r_hold_43 hS hR hr hs ho hG (n := n) (what := what) g2 (zshl 1 (tPn t)).toNat zFU M1 0 0 (-1) a2 a3 (by omega) (by omega) (zFU_gt (by omega))
      refine ⟨M', ?_, b2⟩
      rw [if_pos ⟨by omega, g2, g3⟩, ← b1]
      simp [pX12_hold, pX12_hold_29, hS, r_isSky hS hM hT, g1, r_in, g2, g3, a1]
    · refine ⟨R, ?_, RAt.refl R⟩
      rw [if_neg (fun z => g3 z.2.2)]
      simp [pX12_hold, pX12_hold_29, hS, r_isSky hS hM hT, g1, r_in, g2, g3]
  · refine ⟨R, ?_, RAt.refl R⟩
    rw [if_neg (fun z => g2 z.2.1)]
    simp [pX12_hold, pX12_hold_29, hS, r_isSky hS hM hT, g1, r_in, g2]
end
