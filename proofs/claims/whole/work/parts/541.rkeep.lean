/-! THE REFERENCE: all kept ahead of a question, and laid back -/
/-- what no question changes -/
def RK0 (R M : ZM) : Prop := (∀ a, (a < 176 ∨ (184 ≤ a ∧ a ≤ 203) ∨ a = 206 ∨ a = 207 ∨ 214 ≤ a) → M a = R a) ∧ (∀ j, j ≠ 52 → j ≠ 53 → M 176 j = R 176 j) ∧ (∀ j, j < 8000 → M 213 j = R 213 j)
def Rw7 (R M : ZM) : Prop := (∀ j, 0 ≤ j → j < 10 → M 177 j = R 177 j) ∧ (∀ j, 0 ≤ j → j < 5 → M 178 j = R 178 j) ∧ (∀ j, 0 ≤ j → j < 5 → M 179 j = R 179 j) ∧ (∀ j, 0 ≤ j → j < 36 → M 180 j = R 180 j) ∧ (∀ j, 0 ≤ j → j < 36 → M 181 j = R 181 j) ∧ (∀ j, 0 ≤ j → j < 12 → M 182 j = R 182 j) ∧ (∀ j, 0 ≤ j → j < 12 → M 183 j = R 183 j)
theorem rw7_of {M R : ZM} (h : RwL M R rs7) : Rw7 R M := ⟨h.1, h.2.1, h.2.2.1, h.2.2.2.1, h.2.2.2.2.1, h.2.2.2.2.2.1, h.2.2.2.2.2.2.1⟩
def RK (R M : ZM) : Prop := RK0 R M ∧ SlL (M 213) R rs7 8000
def RAt (R M : ZM) : Prop := RK0 R M ∧ Rw7 R M
theorem RAt.refl (R : ZM) : RAt R R := ⟨⟨fun _ _ => rfl, fun _ _ _ => rfl, fun _ _ => rfl⟩, fun _ _ _ => rfl, fun _ _ _ => rfl, fun _ _ _ => rfl, fun _ _ _ => rfl, fun _ _ _ => rfl, fun _ _ _ => rfl, fun _ _ _ => rfl⟩
theorem RK0.pt {R M : ZM} (h : RK0 R M) (hp : PtR R) : PtR M := hp.j (fun j x => h.2.1 j (by omega) (by omega))
theorem RAt.rs {R M : ZM} {t : Td} {s : Sc} (h : RAt R M) (hR : RS R t s) : RS M t s := by
  obtain ⟨hK, w1, w2, w3, w4, w5, w6, w7⟩ := h
  obtain ⟨hp, hT, hC⟩ := hR
  refine ⟨hK.pt hp, ?_, ?_⟩
  · obtain ⟨a1, a2, a3, a4, a5, a6⟩ := hT
    refine ⟨by rw [w1 0 (by decide) (by decide)]; exact a1, by rw [w1 1 (by decide) (by decide)]; exact a2, by rw [w1 2 (by decide) (by decide)]; exact a3, by rw [w1 3 (by decide) (by decide)]; exact a4, fun i x y => ?_, fun c x y => ?_⟩
    · rw [w6 i x y, w7 i x y]; exact a5 i x y
    · rw [hK.1 184 (by omega)]; exact a6 c x y
  · obtain ⟨a1, a2, a3, a4, a5⟩ := hC
    refine ⟨fun q x y => ?_, fun c x y => ?_, by rw [w1 5 (by decide) (by decide)]; exact a3, by rw [w1 4 (by decide) (by decide)]; exact a4, by rw [w1 6 (by decide) (by decide)]; exact a5⟩
    · rw [w2 q x y, w3 q x y]; exact a1 q x y
    · rw [w4 c x y, w5 c x y]; exact a2 c x y
theorem RRu.k {S : ZS} {R M : ZM} {r : Ru} (h : RRu S R r) (hK : RK0 R M) (e : M 177 9 = R 177 9) : RRu S M r := h.eq (fun a x y => hK.1 a (by omega)) e
theorem RAt.ru {S : ZS} {R M : ZM} {r : Ru} (h : RAt R M) (hr : RRu S R r) : RRu S M r := hr.k h.1 (h.2.1 9 (by decide) (by decide))
theorem RK.fr {R M M' : ZM} (h : RK R M) (f : FrD M M') : RK R M' := by
  obtain ⟨⟨h1, h2, h3⟩, h4⟩ := h
  refine ⟨⟨fun a x => ?_, fun j x y => ?_, fun j x => ?_⟩, ?_⟩
  · rw [f.1 a (by omega) (by omega) (by omega) (by omega) (by omega) (by omega)]; exact h1 a x
  · rw [f.1 176 (by omega) (by omega) (by omega) (by omega) (by omega) (by omega)]; exact h2 j x y
  · rw [f.1 213 (by omega) (by omega) (by omega) (by omega) (by omega) (by omega)]; exact h3 j x
  · rw [f.1 213 (by omega) (by omega) (by omega) (by omega) (by omega) (by omega)]; exact h4
theorem RK.eq {R M M' : ZM} (h : RK R M) (e : ∀ a, (a < 177 ∨ (184 ≤ a ∧ a ≤ 203) ∨ a = 206 ∨ a = 207 ∨ 213 ≤ a) → M' a = M a) : RK R M' := by
  obtain ⟨⟨h1, h2, h3⟩, h4⟩ := h
  refine ⟨⟨fun a x => ?_, fun j x y => ?_, fun j x => ?_⟩, ?_⟩
  · rw [e a (by omega)]; exact h1 a x
  · rw [e 176 (by omega)]; exact h2 j x y
  · rw [e 213 (by omega)]; exact h3 j x
  · rw [e 213 (by omega)]; exact h4
theorem RAt.eq {R M M' : ZM} (h : RAt R M) (e : ∀ a, (a < 204 ∨ a = 206 ∨ a = 207 ∨ 213 ≤ a) → M' a = M a) : RAt R M' := by
  obtain ⟨⟨h1, h2, h3⟩, h4⟩ := h
  refine ⟨⟨fun a x => ?_, fun j x y => ?_, fun j x => ?_⟩, ?_⟩
  · rw [e a (by omega)]; exact h1 a x
  · rw [e 176 (by omega)]; exact h2 j x y
  · rw [e 213 (by omega)]; exact h3 j x
  · unfold Rw7 at *
    rw [e 177 (by omega), e 178 (by omega), e 179 (by omega), e 180 (by omega), e 181 (by omega), e 182 (by omega), e 183 (by omega)]; exact h4
section
variable {S : ZS} {R M : ZM}
theorem r_keepsAll (hS : ShR S) (hp : PtR R) : ∃ M', pX12_keepsAll S R 176 = some M' ∧ RK R M' ∧ RAt R M' := by
  obtain ⟨M', a1, a2, a3, a4, a5, a7, a8⟩ := r_c7o (S := S) hS hp.w (k := 4) (by decide)
  have k0 : RK0 R M' := ⟨fun a x => a2 a (by clear hp hS; omega) (by clear hp hS; omega), a3, fun j x => a8 j (by clear hp hS; omega)⟩
  refine ⟨M', ?_, ⟨k0, a7⟩, k0, ?_⟩
  · simp [pX12_keepsAll, hS, a1, pX12_carriesAll_70]
  · refine ⟨fun j _ _ => ?_, fun j _ _ => ?_, fun j _ _ => ?_, fun j _ _ => ?_, fun j _ _ => ?_, fun j _ _ => ?_, fun j _ _ => ?_⟩ <;> rw [a2 _ (by decide) (by decide)]
theorem r_laysBack2 (hS : ShR S) (hp : PtR R) (h : RK R M) : ∃ M', pX12_laysBack S M 176 = some M' ∧ RK R M' ∧ RAt R M' ∧ ∀ a, (a < 176 ∨ 183 < a) → M' a = M a := by
  obtain ⟨M', a1, a2, a3, a4, a5, a7⟩ := r_c7i (S := S) hS (h.1.pt hp).w (k := 4) (by decide) h.2
  have a7' := rw7_of a7
  clear a7
  have k0 : RK0 R M' := ⟨fun a x => (a2 a (by clear hp hS; omega) (by clear hp hS; omega)).trans (h.1.1 a x), fun j x y => (a3 j x y).trans (h.1.2.1 j x y), fun j x => by rw [a2 213 (by decide) (by decide)]; exact h.1.2.2 j x⟩
  refine ⟨M', ?_, ⟨k0, ?_⟩, ⟨k0, a7'⟩, fun a x => a2 a (by clear hp hS; omega) (by clear hp hS; omega)⟩
  · simp [pX12_laysBack, hS, a1, pX12_carriesAll_70]
  · have := h.2
    rw [a2 213 (by decide) (by decide)]; exact this
theorem r_laysBack (hS : ShR S) (hp : PtR R) (h : RK R M) : ∃ M', pX12_laysBack S M 176 = some M' ∧ RK R M' ∧ RAt R M' := by
  obtain ⟨M', a1, a2, a3, -⟩ := r_laysBack2 hS hp h
  exact ⟨M', a1, a2, a3⟩
end
theorem zand_01 (x : Int) : zand x 1 = 0 ∨ zand x 1 = 1 := by
  unfold zand
  have h : (Int32.ofInt x &&& Int32.ofInt 1) = 0 ∨ (Int32.ofInt x &&& Int32.ofInt 1) = 1 := by
    generalize Int32.ofInt x = v
    have e : (v &&& Int32.ofInt 1).toBitVec = v.toBitVec &&& 1#32 := rfl
    have e2 := BitVec.and_one_eq_setWidth_ofBool_getLsbD (x := v.toBitVec)
    cases hb : v.toBitVec.getLsbD 0
    · left; apply Int32.toBitVec_inj.mp; rw [e, e2, hb]; rfl
    · right; apply Int32.toBitVec_inj.mp; rw [e, e2, hb]; rfl
  rcases h with h | h <;> rw [h] <;> decide
theorem ScGo.le {t : Td} {s : Sc} {n m : Nat} (h : ScGo t s n) (hm : m ≤ n) : ScGo t s m := by
  obtain ⟨h1, h2, ⟨h3, h4⟩, h5, h6⟩ := h
  exact ⟨h1, h2, ⟨h3, by omega⟩, h5, by omega⟩
section
variable {S : ZS} {R M : ZM} {t : Td} {s : Sc} {r : Ru}
theorem zcmp_l {a b : Int} : (zcmp a b < 0) = (a < b) := by
  unfold zcmp; apply propext
  by_cases h : a < b
  · simp [h]
  · by_cases h2 : a = b
    · simp [h2]
    · simp [h, h2]
theorem zcmp_g {a b : Int} : (0 < zcmp a b) = (b < a) := by
  unfold zcmp; apply propext
  by_cases h : a < b
  · simp [h]; omega
  · by_cases h2 : a = b
    · simp [h2]
    · simp [h, h2]; omega
theorem r_in {v lo hi : Int} : pX12_in S M v lo hi = some (if lo ≤ v ∧ v ≤ hi then 1 else 0, M) := by
  simp only [pX12_in, zcmp_l, zcmp_g]
  by_cases h1 : v < lo
  · rw [if_pos h1, if_neg (by omega)]
  · rw [if_neg h1]
    by_cases h2 : hi < v
    · rw [if_pos h2, if_neg (by omega)]
    · rw [if_neg h2, if_pos (by omega)]
theorem r_isSky (hS : ShR S) (hM : PtR M) (hT : RTd M t) : pX12_isSky S M 176 = some (if tSd t ≤ 0 then 0 else 1, M) := by
  have h0 := hT.1
  simp [pX12_isSky, hS, hM, h0]
theorem r_isPen (hS : ShR S) (hM : PtR M) (hT : RTd M t) (ho : TdOk t) {q : Int} : pX12_isPen S M 176 q = some (if 0 ≤ q ∧ q < tPn t then 1 else 0, M) := by
  have h0 := hT.2.2.1
  have hp := ho.2.2.1
  have e : (0 ≤ q ∧ q ≤ tPn t - 1) ↔ (0 ≤ q ∧ q < tPn t) := by omega
  simp only [pX12_isPen, hS, hM, h0, r_in, w32_i (x := tPn t - 1) (by omega) (by omega), Option.bind_some, if_true, e]
  by_cases h : 0 ≤ q ∧ q < tPn t <;> simp [h]
theorem r_isCell (hS : ShR S) (hM : PtR M) (hT : RTd M t) (ho : TdOk t) {c : Int} : pX12_isCell S M 176 c = some (if 0 ≤ c ∧ c < tSd t * tSd t then 1 else 0, M) := by
  have hb := sq_b ho.1
  have e : (0 ≤ c ∧ c ≤ tSd t * tSd t - 1) ↔ (0 ≤ c ∧ c < tSd t * tSd t) := by omega
  simp only [pX12_isCell, hS, hM, r_cells hS hM hT ho, r_in, w32_i (x := tSd t * tSd t - 1) (by omega) (by omega), Option.bind_some, if_true, e]
  by_cases h : 0 ≤ c ∧ c < tSd t * tSd t <;> simp [h]
theorem r_likeIn (hS : ShR S) (hp : PtR R) (hs : 2 ≤ tSd t ∧ tSd t ≤ 6) (ho : TdOk t) {n : Int} (hn : 0 ≤ n ∧ n ≤ 100) (hO : ScGo t s 100) (hr : RRu S M r) (h : RS M t s) (hK : RK R M) :
    ∃ M', pX12_likeIn S M 176 n = some (likeS t (daysS t r n.toNat s), M') ∧ RK R M' ∧ RAt R M' := by
  obtain ⟨M1, a1, a2, a3, a4⟩ := r_goFor hS hs ho (m := 0) (n := n) (by omega) (hO.le (by omega)) hr h
  obtain ⟨M2, b1, b2, b3⟩ := r_laysBack hS hp (hK.fr a3)
  refine ⟨M2, ?_, b2, b3⟩
  simp [pX12_likeIn, hS, a1, r_like hS ho a2, b1]
end
