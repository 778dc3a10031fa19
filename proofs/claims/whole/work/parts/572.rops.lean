/-! WHAT THE CALLS DO, as numbers; the reference's smaller calls -/
def opPen (w : Wd) (q what : Int) : Int := if 0 ≤ q ∧ q < tPn (wT w) then (if what = 0 then cAt (wC w) q else if what = 1 then cSt (wC w) q else if what = 2 then zand (zshr (cSy (wC w)) q) 1 else if what = 3 then inkS (wT w) (wC w) q else -1) else -1
def opCell (w : Wd) (c what : Int) : Int := if (0 ≤ c ∧ c < tSd (wT w) * tSd (wT w)) ∧ 0 ≤ what ∧ what ≤ 2 then (if what = 0 then cWh (wC w) c else if what = 1 then cSi (wC w) c else tMk (wT w) c) else -2
def opDay (r : Ru) (w : Wd) : Int × Wd := if 0 < tSd (wT w) ∧ cDy (wC w) ≠ 999 then (setS (wT w) r (wC w), wSc (wRem w) (dayS (wT w) r (wC w))) else (-1, w)
def opStay (w : Wd) (q : Int) : Int × Wd := if 0 ≤ q ∧ q < tPn (wT w) then (zxor (cSy (wC w)) (zshl 1 q), wSc (wRem w) (scSy (wC w) (zxor (cSy (wC w)) (zshl 1 q)))) else (-1, w)
def opSet (w : Wd) (q c : Int) : Int × Wd := if (0 ≤ q ∧ q < tPn (wT w)) ∧ (0 ≤ c ∧ c < tSd (wT w) * tSd (wT w)) ∧ cAt (wC w) q ≠ c then (cAt (wC w) q, wSc (wRem w) (scAt (wC w) q c)) else (-1, w)
def opBend (w : Wd) (q v : Int) : Int × Wd := if (0 ≤ q ∧ q < tPn (wT w)) ∧ (0 ≤ v ∧ v ≤ 9) ∧ cSt (wC w) q ≠ v then (cSt (wC w) q, wSc (wRem w) (scSt (wC w) q v)) else (-1, w)
def opBlot (w : Wd) (c : Int) : Int × Wd := if (0 ≤ c ∧ c < tSd (wT w) * tSd (wT w)) ∧ cWh (wC w) c ≠ -1 then (cWh (wC w) c, wSc (wRem w) (scWs (wC w) c)) else (-1, w)
def opForce (nR : Int) (w : Wd) (r : Int) : Int × Wd := if -1 ≤ r ∧ r < nR then (wF w, (wT w, wA w, wS w, wC w, wN w, wX w, r, wK w, wP w)) else (-2, w)
def opSeed (w : Wd) (x : Int) : Int × Wd := if 0 ≤ x then (wX w, (wT w, wA w, wS w, wC w, wN w, x, wF w, wK w, wP w)) else (-1, w)
def ntAdd (q : Nt) (n c p : Int) : Nt := (q.1 + 1, fun i => if i = q.1 then n else q.2.1 i, fun i => if i = q.1 then c else q.2.2.1 i, fun i => if i = q.1 then p else q.2.2.2 i)
def opNote (w : Wd) (n c p : Int) : Int × Wd :=
  if n = -1 then (0, (wT w, wA w, wS w, wC w, (0, (wN w).2), wX w, wF w, wK w, wP w))
  else if (0 ≤ n ∧ n ≤ 60) ∧ (0 ≤ c ∧ c < tSd (wT w) * tSd (wT w)) ∧ (p = -1 ∨ (0 ≤ p ∧ p < tPn (wT w))) ∧ (wN w).1 ≠ 10 then ((wN w).1 + 1, (wT w, wA w, wS w, wC w, ntAdd (wN w) n c p, wX w, wF w, wK w, wP w)) else (-2, w)
def opCount (nR T : Int) (w : Wd) (what : Int) : Int :=
  if what = 0 then tSd (wT w) else if what = 1 then tFd (wT w) else if what = 2 then tPn (wT w) else if what = 3 then tWn (wT w) else if what = 4 then nR else if what = 5 then wF w else if what = 6 then cDy (wC w) else if what = 7 then allS (wT w) (wC w) else if what = 8 then likeS (wT w) (wC w) else if what = 9 then cCl (wC w) else if what = 10 then cSy (wC w) else if what = 11 then (wN w).1 else if what = 12 then wK w else if what = 13 then wX w else if what = 14 then T else -1
theorem xor_d : ∀ (y : Fin 32) (q : Fin 5), 0 ≤ zxor (y.1 : Int) (zshl 1 (q.1 : Int)) ∧ zxor (y.1 : Int) (zshl 1 (q.1 : Int)) < 32 := by decide +kernel
theorem xor_b {y q : Int} (hy : 0 ≤ y ∧ y < 32) (hq : 0 ≤ q ∧ q < 5) : 0 ≤ zxor y (zshl 1 q) ∧ zxor y (zshl 1 q) < 32 := by
  have := xor_d ⟨y.toNat, by omega⟩ ⟨q.toNat, by omega⟩
  simp only [Int.toNat_of_nonneg hy.1, Int.toNat_of_nonneg hq.1] at this
  exact this
theorem SOk.day {t : Td} {s : Sc} (hs : 2 ≤ tSd t ∧ tSd t ≤ 6) (ho : TdOk t) (h : SOk t s) (hd : cDy s ≠ 999) (r : Ru) : SOk t (dayS t r s) := by
  obtain ⟨h1, h2, h3, h4, h5⟩ := h
  have hk := dayW_ok hs ho h1 h2 h4.1 (setS t r s)
  have hc := clapN_b (setS t r s) (posS t s) (tPn t).toNat (nCl t) 0
  have hn := nCl_b ho
  refine ⟨hk.1, hk.2, fun c a b z => ?_, ?_, ?_⟩
  · have hw := hk.1.2.1 c a b
    rcases hw with ⟨w1, -⟩ | ⟨-, w2⟩
    · exact absurd w1 z
    · show sin2 (who1 (setS t r s) (posS t s) (tPn t).toNat (cWh s)) (sin1 (setS t r s) (posS t s) (tPn t).toNat (cSi s) (cDy s)) (cDy s + 1) (tFd t) c < cDy s + 1
      have hW := h1.2.1 c a b
      unfold sin2
      by_cases q : who1 (setS t r s) (posS t s) (tPn t).toNat (cWh s) c ≠ -1 ∧ tFd t < cDy s + 1 - sin1 (setS t r s) (posS t s) (tPn t).toNat (cSi s) (cDy s) c
      · rw [if_pos q]; omega
      · rw [if_neg q]
        unfold sin1
        split
        · omega
        · split <;> omega
  · show 0 ≤ cDy s + 1 ∧ cDy s + 1 ≤ 999
    omega
  · show 0 ≤ cCl s + clapN (setS t r s) (posS t s) (tPn t).toNat (nCl t) 0 ∧ cCl s + clapN (setS t r s) (posS t s) (tPn t).toNat (nCl t) 0 ≤ 36 * (cDy s + 1)
    omega
theorem WOk.sc {nR : Int} {w : Wd} {s : Sc} (h : WOk nR w) (hs : SOk (wT w) s) : WOk nR (wSc w s) := ⟨h.1, h.2.1, hs, h.2.2.2⟩
theorem WOk.sd {nR : Int} {w : Wd} (h : WOk nR w) (hp : 0 < tSd (wT w)) : 2 ≤ tSd (wT w) ∧ tSd (wT w) ≤ 6 := by have := h.1.1; omega
theorem opDay_ok {nR : Int} {w : Wd} (h : WOk nR w) (r : Ru) : WOk nR (opDay r w).2 := by
  unfold opDay
  by_cases z : 0 < tSd (wT w) ∧ cDy (wC w) ≠ 999
  · rw [if_pos z]; exact (wRem_ok h).sc (h.2.2.1.day (h.sd z.1) h.1 z.2 r)
  · rw [if_neg z]; exact h
theorem opStay_ok {nR : Int} {w : Wd} (h : WOk nR w) (q : Int) : WOk nR (opStay w q).2 := by
  unfold opStay
  by_cases z : 0 ≤ q ∧ q < tPn (wT w)
  · rw [if_pos z]
    have hp := h.1.2.2.1
    obtain ⟨⟨a1, a2, a3⟩, b⟩ := h.2.2.1
    exact (wRem_ok h).sc ⟨⟨a1, a2, xor_b a3 (by omega)⟩, b⟩
  · rw [if_neg z]; exact h
theorem opSet_ok {nR : Int} {w : Wd} (h : WOk nR w) (q c : Int) : WOk nR (opSet w q c).2 := by
  unfold opSet
  by_cases z : (0 ≤ q ∧ q < tPn (wT w)) ∧ (0 ≤ c ∧ c < tSd (wT w) * tSd (wT w)) ∧ cAt (wC w) q ≠ c
  · rw [if_pos z]
    have hg := ScGo.at (q := q) h.2.2.1.go z.2.1
    exact (wRem_ok h).sc ⟨hg.1, hg.2.1, h.2.2.1.2.2⟩
  · rw [if_neg z]; exact h
theorem opBend_ok {nR : Int} {w : Wd} (h : WOk nR w) (q v : Int) : WOk nR (opBend w q v).2 := by
  unfold opBend
  by_cases z : (0 ≤ q ∧ q < tPn (wT w)) ∧ (0 ≤ v ∧ v ≤ 9) ∧ cSt (wC w) q ≠ v
  · rw [if_pos z]
    have hg := ScGo.st (q := q) h.2.2.1.go z.2.1
    exact (wRem_ok h).sc ⟨hg.1, hg.2.1, h.2.2.1.2.2⟩
  · rw [if_neg z]; exact h
theorem opBlot_ok {nR : Int} {w : Wd} (h : WOk nR w) (c : Int) : WOk nR (opBlot w c).2 := by
  unfold opBlot
  by_cases z : (0 ≤ c ∧ c < tSd (wT w) * tSd (wT w)) ∧ cWh (wC w) c ≠ -1
  · rw [if_pos z]
    have hg := scWs_go h.2.2.1.go c
    refine (wRem_ok h).sc ⟨hg.1, hg.2.1, fun i a b u => ?_, h.2.2.1.2.2.2⟩
    have u' : (if i = c then -1 else cWh (wC w) i) ≠ -1 := u
    show (if i = c then -1 else cSi (wC w) i) < cDy (wC w)
    by_cases v : i = c
    · rw [if_pos v] at u'; exact absurd rfl u'
    · rw [if_neg v] at u' ⊢; exact h.2.2.1.2.2.1 i a b u'
  · rw [if_neg z]; exact h
theorem opForce_ok {nR : Int} {w : Wd} (h : WOk nR w) (r : Int) : WOk nR (opForce nR w r).2 := by
  unfold opForce
  by_cases z : -1 ≤ r ∧ r < nR
  · rw [if_pos z]; exact ⟨h.1, h.2.1, h.2.2.1, h.2.2.2.1, h.2.2.2.2.1, z, h.2.2.2.2.2.2⟩
  · rw [if_neg z]; exact h
theorem opSeed_ok {nR : Int} {w : Wd} (h : WOk nR w) {x : Int} (hx : in32 x) : WOk nR (opSeed w x).2 := by
  unfold opSeed
  unfold in32 at hx
  by_cases z : 0 ≤ x
  · rw [if_pos z]; exact ⟨h.1, h.2.1, h.2.2.1, h.2.2.2.1, ⟨z, hx.2⟩, h.2.2.2.2.2⟩
  · rw [if_neg z]; exact h
theorem opNote_ok {nR : Int} {w : Wd} (h : WOk nR w) (n c p : Int) : WOk nR (opNote w n c p).2 := by
  unfold opNote
  obtain ⟨h1, h2, h3, h4, h5⟩ := h
  by_cases z : n = -1
  · rw [if_pos z]; exact ⟨h1, h2, h3, ⟨by show (0 : Int) ≤ 0 ∧ (0 : Int) ≤ 10; decide, fun i a b => by have b' : i < 0 := b; omega⟩, h5⟩
  · rw [if_neg z]
    by_cases y : (0 ≤ n ∧ n ≤ 60) ∧ (0 ≤ c ∧ c < tSd (wT w) * tSd (wT w)) ∧ (p = -1 ∨ (0 ≤ p ∧ p < tPn (wT w))) ∧ (wN w).1 ≠ 10
    · rw [if_pos y]
      have hq := h4.1
      refine ⟨h1, h2, h3, ⟨by show 0 ≤ (wN w).1 + 1 ∧ (wN w).1 + 1 ≤ 10; omega, fun i a b => ?_⟩, h5⟩
      have b' : i < (wN w).1 + 1 := b
      show (0 ≤ (if i = (wN w).1 then n else (wN w).2.1 i) ∧ (if i = (wN w).1 then n else (wN w).2.1 i) ≤ 60) ∧ (0 ≤ (if i = (wN w).1 then c else (wN w).2.2.1 i) ∧ (if i = (wN w).1 then c else (wN w).2.2.1 i) < tSd (wT w) * tSd (wT w))
      by_cases v : i = (wN w).1
      · simp only [if_pos v]; exact ⟨y.1, y.2.1⟩
      · simp only [if_neg v]; exact h4.2 i a (by omega)
    · rw [if_neg y]; exact ⟨h1, h2, h3, h4, h5⟩
/-- what a call that reads no text leaves as it was in the reference -/
def FrS (M M' : ZM) : Prop := (∀ a, (a < 176 ∨ (196 ≤ a ∧ a ≤ 203) ∨ 214 ≤ a) → M' a = M a) ∧ (∀ j, j < 8000 → M' 213 j = M 213 j) ∧ (M' 176 20 = M 176 20 ∧ M' 176 24 = M 176 24 ∧ M' 176 29 = M 176 29)
theorem FrS.refl (M : ZM) : FrS M M := ⟨fun _ _ => rfl, fun _ _ => rfl, rfl, rfl, rfl⟩
theorem FrS.trans {M M' M'' : ZM} (h : FrS M M') (h' : FrS M' M'') : FrS M M'' := ⟨fun a x => (h'.1 a x).trans (h.1 a x), fun j x => (h'.2.1 j x).trans (h.2.1 j x), h'.2.2.1.trans h.2.2.1, h'.2.2.2.1.trans h.2.2.2.1, h'.2.2.2.2.trans h.2.2.2.2⟩
theorem FrS.of {M M' : ZM} (h : FrA M M') : FrS M M' := ⟨fun a x => h.1 a (by omega) (by omega) (by omega) (by omega) (by omega), fun j _ => by rw [h.1 213 (by decide) (by decide) (by decide) (by decide) (by decide)], h.2.1 20 (by decide) (by decide) (by decide), h.2.1 24 (by decide) (by decide) (by decide), h.2.1 29 (by decide) (by decide) (by decide)⟩
theorem FrS.at {R M : ZM} (h : RAt R M) : FrS R M := ⟨fun a x => h.1.1 a (by omega), h.1.2.2, h.1.2.1 20 (by decide) (by decide), h.1.2.1 24 (by decide) (by decide), h.1.2.1 29 (by decide) (by decide)⟩
theorem FrS.u {M : ZM} {j v : Int} : FrS M (upM M 177 j v) := ⟨fun a x => upM_r (by omega), fun _ _ => by rw [upM_r (by decide)], by rw [upM_r (by decide)], by rw [upM_r (by decide)], by rw [upM_r (by decide)]⟩
section
variable {S : ZS} {R M : ZM}
theorem RAt.rw_ {w : Wd} (h : RAt R M) (hW : RW R (R 176 42) w) (hp : PtW R) : RW M (M 176 42) w := by
  obtain ⟨h1, h2, h3, h4, h5, h6, h7⟩ := hW
  have hs : RS M (wT w) (wC w) := h.rs ⟨hp.o, h1, h2⟩
  refine ⟨hs.2.1, hs.2.2, ?_, ?_, ?_, ?_, fun i a b => (h7 i a b).eq (fun z u v => by rw [h.1.1 206 (by decide)])⟩
  · unfold RNt at *
    rw [h.2.1 7 (by decide) (by decide), h.1.1 185 (by decide), h.1.1 186 (by decide), h.1.1 187 (by decide)]; exact h3
  · rw [h.2.1 8 (by decide) (by decide), h.2.1 9 (by decide) (by decide)]; exact h4
  · rw [h.1.1 188 (by decide), h.1.1 189 (by decide)]; exact h5
  · rw [h.1.2.1 42 (by decide) (by decide)]; exact h6
theorem RRs.fr {M' : ZM} {nR : Int} {rl : Int → Ru} (h : RRs S M nR rl) (f : FrS M M') : RRs S M' nR rl := by
  obtain ⟨h1, h2, h3⟩ := h
  refine ⟨h1, by rw [f.2.2.2.1]; exact h2, fun j a b => ?_⟩
  exact (h3 j a b).eq (fun a x y => by rw [upM_r (by omega), upM_r (by omega)]; exact f.1 a (by omega)) (by rw [upM_s, upM_s])
/-- all that a call of the reference rests on -/
def RG (S : ZS) (M : ZM) (nR : Int) (rl : Int → Ru) (w : Wd) : Prop := ShW S ∧ PtW M ∧ RRs S M nR rl ∧ RW M (M 176 42) w ∧ WOk nR w
theorem RG.rs {nR : Int} {rl : Int → Ru} {w : Wd} (h : RG S M nR rl w) : RS M (wT w) (wC w) := ⟨h.2.1.o, h.2.2.2.1.1, h.2.2.2.1.2.1⟩
theorem RG.ru {nR : Int} {rl : Int → Ru} {w : Wd} (h : RG S M nR rl w) : RRu S M (rl (wF w)) := by
  obtain ⟨-, -, h3, h4, h5⟩ := h
  have e9 : M 177 9 = wF w := h4.2.2.2.1.2
  have hf := h5.2.2.2.2.2.1
  have := h3.2.2 (wF w) hf.1 hf.2
  exact this.eq (fun a x y => (upM_r (by omega)).symm) (by rw [upM_s]; exact e9)
theorem RG.qg {nR : Int} {rl : Int → Ru} {w : Wd} (h : RG S M nR rl w) : QG S M (wT w) (wC w) (rl (wF w)) := ⟨h.1.o, h.rs, h.ru, h.2.2.2.2.1, h.2.2.2.2.2.2.1.go⟩
/-- the end of a call of the reference -/
def RE (S : ZS) (M : ZM) (nR : Int) (rl : Int → Ru) (p : Option (Int × ZM)) (v : Int) (w' : Wd) : Prop := ∃ M', p = some (v, M') ∧ RG S M' nR rl w' ∧ FrS M M'
theorem RG.ask {nR : Int} {rl : Int → Ru} {w : Wd} (h : RG S M nR rl w) {p : Option (Int × ZM)} {v : Int} (k : ∃ M', p = some (v, M') ∧ RAt M M') : RE S M nR rl p v w := by
  obtain ⟨M', a, b⟩ := k
  exact ⟨M', a, ⟨h.1, (b.1.pt h.2.1.o).w, h.2.2.1.fr (FrS.at b), b.rw_ h.2.2.2.1 h.2.1, h.2.2.2.2⟩, FrS.at b⟩
theorem RG.same {nR : Int} {rl : Int → Ru} {w : Wd} (h : RG S M nR rl w) {p : Option (Int × ZM)} {v : Int} (k : p = some (v, M)) : RE S M nR rl p v w := ⟨M, k, h, FrS.refl M⟩
theorem RG.act {nR : Int} {rl : Int → Ru} {w w' : Wd} (h : RG S M nR rl w) {M' : ZM} (hp : PtW M') (f : FrS M M') (hw : RW M' (M' 176 42) w') (ho : WOk nR w') : RG S M' nR rl w' := ⟨h.1, hp, h.2.2.1.fr f, hw, ho⟩
theorem e_pen {nR : Int} {rl : Int → Ru} {w : Wd} (h : RG S M nR rl w) {q what : Int} : RE S M nR rl (pX12_pen S M 176 q what) (opPen w q what) w := by
  refine h.same ?_
  have hS := h.1
  have hR := h.rs
  have ho := h.2.2.2.2.1
  have hp := ho.2.2.1
  unfold opPen
  by_cases g1 : 0 ≤ q ∧ q < tPn (wT w)
  · rw [if_pos g1]
    have e1 := hR.2.2.1 q g1.1 (by omega)
    have e5 := hR.2.2.2.2.1
    have hM := h.2.1
    by_cases w0 : what = 0
    · simp [pX12_pen, hS.o, hM.o, r_isPen hS.o hR.1 hR.2.1 ho, g1, w0, show q < 5 by omega, e1]
    by_cases w1 : what = 1
    · simp [pX12_pen, hS.o, hM.o, r_isPen hS.o hR.1 hR.2.1 ho, g1, w1, show q < 5 by omega, e1]
    by_cases w2 : what = 2
    · simp [pX12_pen, hS.o, hM.o, r_isPen hS.o hR.1 hR.2.1 ho, g1, w2, e5]
    by_cases w3 : what = 3
    · simp [pX12_pen, hS.o, hM.o, r_isPen hS.o hR.1 hR.2.1 ho, g1, w3, r_strokes hS.o ho hR]
    · simp [pX12_pen, hS.o, r_isPen hS.o hR.1 hR.2.1 ho, g1, w0, w1, w2, w3]
  · rw [if_neg g1]
    simp [pX12_pen, hS.o, r_isPen hS.o hR.1 hR.2.1 ho, g1]
theorem e_cell {nR : Int} {rl : Int → Ru} {w : Wd} (h : RG S M nR rl w) {c what : Int} : RE S M nR rl (pX12_cell S M 176 c what) (opCell w c what) w := by
  refine h.same ?_
  have hS := h.1
  have hM := h.2.1
  have hR := h.rs
  have ho := h.2.2.2.2.1
  have hb := sq_b ho.1
  unfold opCell
  by_cases g1 : 0 ≤ c ∧ c < tSd (wT w) * tSd (wT w)
  · by_cases g2 : 0 ≤ what ∧ what ≤ 2
    · rw [if_pos ⟨g1, g2⟩]
      have e1 := hR.2.2.2.1 c g1.1 (by omega)
      have e2 := hR.2.1.2.2.2.2.2 c g1.1 (by omega)
      have g3 : c < 36 := by omega
      by_cases w0 : what = 0
      · simp [pX12_cell, pX12_cell_56, hS.o, hM.o, r_isCell hS.o hR.1 hR.2.1 ho, g1, r_in, w0, g3, e1]
      by_cases w1 : what = 1
      · simp [pX12_cell, pX12_cell_56, hS.o, hM.o, r_isCell hS.o hR.1 hR.2.1 ho, g1, r_in, w1, g3, e1]
      · simp [pX12_cell, pX12_cell_56, hS.o, hM.o, r_isCell hS.o hR.1 hR.2.1 ho, g1, r_in, g2, w0, w1, g3, e2]
    · rw [if_neg (fun z => g2 z.2)]
      simp [pX12_cell, pX12_cell_20, hS.o, r_isCell hS.o hR.1 hR.2.1 ho, g1, r_in, g2]
  · rw [if_neg (fun z => g1 z.1)]
    simp [pX12_cell, pX12_cell_20, hS.o, r_isCell hS.o hR.1 hR.2.1 ho, g1]
theorem RSc.sy {s : Sc} (h : RSc M s) (v : Int) : RSc (upM M 177 5 v) (scSy s v) := by
  have q : ∀ j, j ≠ 5 → upM M 177 5 v 177 j = M 177 j := fun j x => upM_i x
  unfold RSc at *
  rw [upM_r (by decide), upM_r (by decide), upM_r (by decide), upM_r (by decide), upM_s, q 4 (by decide), q 6 (by decide)]
  exact ⟨h.1, h.2.1, rfl, h.2.2.2⟩
theorem RW.sc {w : Wd} {M' : ZM} {s : Sc} (h : RW M (M 176 42) w) (hC : RSc M' s) (f1 : ∀ a, (a = 176 ∨ (182 ≤ a ∧ a ≤ 189) ∨ a = 206) → M' a = M a) (f2 : ∀ j, (j < 4 ∨ 7 ≤ j) → M' 177 j = M 177 j) : RW M' (M' 176 42) (wSc w s) := by
  obtain ⟨h1, h2, h3, h4, h5, h6, h7⟩ := h
  refine ⟨h1.eq (fun j x y => f2 j (by omega)) (f1 _ (by decide)) (f1 _ (by decide)) (f1 _ (by decide)), hC, ?_, ⟨by rw [f2 8 (by decide)]; exact h4.1, by rw [f2 9 (by decide)]; exact h4.2⟩, ?_, by rw [f1 176 (by decide)]; exact h6, fun i a b => (h7 i a b).eq (fun z u v => by rw [f1 206 (by decide)])⟩
  · unfold RNt at *
    rw [f2 7 (by decide), f1 185 (by decide), f1 186 (by decide), f1 187 (by decide)]; exact h3
  · rw [f1 188 (by decide), f1 189 (by decide)]; exact h5
theorem e_day {nR : Int} {rl : Int → Ru} {w : Wd} (h : RG S M nR rl w) : RE S M nR rl (pX12_day S M 176) (opDay (rl (wF w)) w).1 (opDay (rl (wF w)) w).2 := by
  have hS := h.1
  have hM := h.2.1
  have hR := h.rs
  have ho := h.2.2.2.2.1
  have e4 := hR.2.2.2.2.2.1
  have hok := opDay_ok h.2.2.2.2 (rl (wF w))
  unfold opDay at hok ⊢
  by_cases g1 : tSd (wT w) ≤ 0
  · rw [if_neg (fun z => by omega)]
    refine h.same ?_
    simp [pX12_day, pX12_day_19, hS.o, r_isSky hS.o hR.1 hR.2.1, g1]
  by_cases g2 : cDy (wC w) = 999
  · rw [if_neg (fun z => z.2 g2)]
    refine h.same ?_
    simp [pX12_day, pX12_day_19, hS.o, hM.o, r_isSky hS.o hR.1 hR.2.1, g1, e4, g2]
  · rw [if_pos ⟨by omega, g2⟩] at hok ⊢
    obtain ⟨M1, a1, a2, a3, a4⟩ := r_keepsAct hS hM h.2.2.2.2 h.2.2.2.1
    have h1 : RG S M1 nR rl (wRem w) := h.act a2 (FrS.of a3) a4 (wRem_ok h.2.2.2.2)
    obtain ⟨M2, b1, b2, b3, b4⟩ := r_goes hS.o (h.2.2.2.2.sd (by omega)) ho (n := 199) h.2.2.2.2.2.2.1.go h1.ru h1.rs
    have f2 := FrA.of b3
    refine ⟨M2, ?_, h1.act b2.1.w (FrS.of f2) (RW.sc a4 b2.2.2 (fun a x => b3.1 a (by omega) (by omega) (by omega) (by omega) (by omega) (by omega)) (fun j x => b3.2.1 j (by omega) (by omega))) hok, (FrS.of a3).trans (FrS.of f2)⟩
    have b1' : pX12_goes S M1 176 = some (setS (wT w) (rl (wF w)) (wC w), M2) := b1
    simp [pX12_day, hS.o, hM.o, r_isSky hS.o hR.1 hR.2.1, g1, e4, g2, a1, b1']
theorem e_stay {nR : Int} {rl : Int → Ru} {w : Wd} (h : RG S M nR rl w) {q : Int} : RE S M nR rl (pX12_stay S M 176 q) (opStay w q).1 (opStay w q).2 := by
  have hS := h.1
  have hM := h.2.1
  have hR := h.rs
  have ho := h.2.2.2.2.1
  have hok := opStay_ok h.2.2.2.2 q
  unfold opStay at hok ⊢
  by_cases g1 : 0 ≤ q ∧ q < tPn (wT w)
  · rw [if_pos g1] at hok ⊢
    obtain ⟨M1, a1, a2, a3, a4⟩ := r_keepsAct hS hM h.2.2.2.2 h.2.2.2.1
    have e5 : M1 177 5 = cSy (wC w) := a4.2.1.2.2.1
    have p2 : PtW (upM M1 177 5 (zxor (cSy (wC w)) (zshl 1 q))) := a2.o.eq (upM_r (by decide))
    refine ⟨upM M1 177 5 (zxor (cSy (wC w)) (zshl 1 q)), ?_, h.act p2 ((FrS.of a3).trans FrS.u) (RW.sc a4 (RSc.sy a4.2.1 _) (fun a x => upM_r (by omega)) (fun j x => upM_i (by omega))) hok, (FrS.of a3).trans FrS.u⟩
    simp [pX12_stay, hS.o, r_isPen hS.o hR.1 hR.2.1 ho, g1, a1, a2.o, e5, zlet, p2.o, upM_s]
  · rw [if_neg g1]
    refine h.same ?_
    simp [pX12_stay, hS.o, r_isPen hS.o hR.1 hR.2.1 ho, g1]
theorem RSc.at_ {s : Sc} (h : RSc M s) (q v : Int) : RSc (upM M 178 q v) (scAt s q v) := by
  obtain ⟨a1, a2, a3⟩ := h
  unfold RSc
  rw [upM_r (show (179 : Int) ≠ 178 by decide), upM_r (show (180 : Int) ≠ 178 by decide), upM_r (show (181 : Int) ≠ 178 by decide), upM_r (show (177 : Int) ≠ 178 by decide)]
  refine ⟨fun i x y => ⟨?_, (a1 i x y).2⟩, a2, a3⟩
  show _ = if i = q then v else cAt s i
  by_cases z : i = q
  · subst z; rw [upM_s, if_pos rfl]
  · rw [upM_i z, if_neg z]; exact (a1 i x y).1
theorem RSc.st_ {s : Sc} (h : RSc M s) (q v : Int) : RSc (upM M 179 q v) (scSt s q v) := by
  obtain ⟨a1, a2, a3⟩ := h
  unfold RSc
  rw [upM_r (show (178 : Int) ≠ 179 by decide), upM_r (show (180 : Int) ≠ 179 by decide), upM_r (show (181 : Int) ≠ 179 by decide), upM_r (show (177 : Int) ≠ 179 by decide)]
  refine ⟨fun i x y => ⟨(a1 i x y).1, ?_⟩, a2, a3⟩
  show _ = if i = q then v else cSt s i
  by_cases z : i = q
  · subst z; rw [upM_s, if_pos rfl]
  · rw [upM_i z, if_neg z]; exact (a1 i x y).2
theorem RSc.ws {s : Sc} (h : RSc M s) (c : Int) : RSc (upM (upM M 180 c (-1)) 181 c (-1)) (scWs s c) := by
  obtain ⟨a1, a2, a3⟩ := h
  unfold RSc
  rw [upM_r (show (178 : Int) ≠ 181 by decide), upM_r (show (178 : Int) ≠ 180 by decide), upM_r (show (179 : Int) ≠ 181 by decide), upM_r (show (179 : Int) ≠ 180 by decide), upM_r (show (177 : Int) ≠ 181 by decide), upM_r (show (177 : Int) ≠ 180 by decide)]
  refine ⟨a1, fun i x y => ?_, a3⟩
  rw [upM_r (show (180 : Int) ≠ 181 by decide)]
  show _ = (if i = c then -1 else cWh s i) ∧ _ = (if i = c then -1 else cSi s i)
  by_cases z : i = c
  · subst z; rw [upM_s, upM_s, if_pos rfl, if_pos rfl]; exact ⟨rfl, rfl⟩
  · rw [upM_i z, upM_i z, if_neg z, if_neg z, upM_r (show (181 : Int) ≠ 180 by decide)]; exact a2 i x y
theorem FrS.ur {M : ZM} {r j v : Int} (hr : 177 ≤ r ∧ r ≤ 195) : FrS M (upM M r j v) := ⟨fun a x => upM_r (by omega), fun _ _ => by rw [upM_r (by omega)], by rw [upM_r (by omega)], by rw [upM_r (by omega)], by rw [upM_r (by omega)]⟩
theorem e_set {nR : Int} {rl : Int → Ru} {w : Wd} (h : RG S M nR rl w) {q c : Int} : RE S M nR rl (pX12_set S M 176 q c) (opSet w q c).1 (opSet w q c).2 := by
  have hS := h.1
  have hM := h.2.1
  have hR := h.rs
  have ho := h.2.2.2.2.1
  have hp := ho.2.2.1
  have hok := opSet_ok h.2.2.2.2 q c
  unfold opSet at hok ⊢
  by_cases g1 : 0 ≤ q ∧ q < tPn (wT w)
  · have g5 : q < 5 := by omega
    have e1 := (hR.2.2.1 q g1.1 g5).1
    by_cases g2 : 0 ≤ c ∧ c < tSd (wT w) * tSd (wT w)
    · by_cases g3 : cAt (wC w) q = c
      · rw [if_neg (fun z => z.2.2 g3)]
        refine h.same ?_
        simp [pX12_set, pX12_set_26, hS.o, hM.o, r_isPen hS.o hR.1 hR.2.1 ho, g1, r_isCell hS.o hR.1 hR.2.1 ho, g2, g5, e1, g3]
      · rw [if_pos ⟨g1, g2, g3⟩] at hok ⊢
        obtain ⟨M1, a1, a2, a3, a4⟩ := r_keepsAct hS hM h.2.2.2.2 h.2.2.2.1
        have e2 : M1 178 q = cAt (wC w) q := (a4.2.1.1 q g1.1 g5).1
        have p2 : PtW (upM M1 178 q c) := a2.o.eq (upM_r (by decide))
        have f2 := (FrS.of a3).trans (FrS.ur (M := M1) (r := 178) (j := q) (v := c) (by decide))
        refine ⟨upM M1 178 q c, ?_, h.act p2 f2 (RW.sc a4 (RSc.at_ a4.2.1 q c) (fun a x => upM_r (by omega)) (fun j x => by rw [upM_r (by decide)])) hok, f2⟩
        simp [pX12_set, hS.o, hM.o, r_isPen hS.o hR.1 hR.2.1 ho, g1, r_isCell hS.o hR.1 hR.2.1 ho, g2, g5, e1, g3, a1, a2.o, e2, zlet]
    · rw [if_neg (fun z => g2 z.2.1)]
      refine h.same ?_
      simp [pX12_set, pX12_set_26, hS.o, r_isPen hS.o hR.1 hR.2.1 ho, g1, r_isCell hS.o hR.1 hR.2.1 ho, g2]
  · rw [if_neg (fun z => g1 z.1)]
    refine h.same ?_
    simp [pX12_set, pX12_set_26, hS.o, r_isPen hS.o hR.1 hR.2.1 ho, g1]
theorem e_bend {nR : Int} {rl : Int → Ru} {w : Wd} (h : RG S M nR rl w) {q v : Int} : RE S M nR rl (pX12_bend S M 176 q v) (opBend w q v).1 (opBend w q v).2 := by
  have hS := h.1
  have hM := h.2.1
  have hR := h.rs
  have ho := h.2.2.2.2.1
  have hp := ho.2.2.1
  have hok := opBend_ok h.2.2.2.2 q v
  unfold opBend at hok ⊢
  by_cases g1 : 0 ≤ q ∧ q < tPn (wT w)
  · have g5 : q < 5 := by omega
    have e1 := (hR.2.2.1 q g1.1 g5).2
    by_cases g2 : 0 ≤ v ∧ v ≤ 9
    · by_cases g3 : cSt (wC w) q = v
      · rw [if_neg (fun z => z.2.2 g3)]
        refine h.same ?_
        simp [pX12_bend, pX12_bend_30, hS.o, hM.o, r_isPen hS.o hR.1 hR.2.1 ho, g1, r_in, g2, g5, e1, g3]
      · rw [if_pos ⟨g1, g2, g3⟩] at hok ⊢
        obtain ⟨M1, a1, a2, a3, a4⟩ := r_keepsAct hS hM h.2.2.2.2 h.2.2.2.1
        have e2 : M1 179 q = cSt (wC w) q := (a4.2.1.1 q g1.1 g5).2
        have p2 : PtW (upM M1 179 q v) := a2.o.eq (upM_r (by decide))
        have f2 := (FrS.of a3).trans (FrS.ur (M := M1) (r := 179) (j := q) (v := v) (by decide))
        refine ⟨upM M1 179 q v, ?_, h.act p2 f2 (RW.sc a4 (RSc.st_ a4.2.1 q v) (fun a x => upM_r (by omega)) (fun j x => by rw [upM_r (by decide)])) hok, f2⟩
        simp [pX12_bend, hS.o, hM.o, r_isPen hS.o hR.1 hR.2.1 ho, g1, r_in, g2, g5, e1, g3, a1, a2.o, e2, zlet]
    · rw [if_neg (fun z => g2 z.2.1)]
      refine h.same ?_
      simp [pX12_bend, pX12_bend_30, hS.o, r_isPen hS.o hR.1 hR.2.1 ho, g1, r_in, g2]
  · rw [if_neg (fun z => g1 z.1)]
    refine h.same ?_
    simp [pX12_bend, pX12_bend_30, hS.o, r_isPen hS.o hR.1 hR.2.1 ho, g1]
theorem e_blot {nR : Int} {rl : Int → Ru} {w : Wd} (h : RG S M nR rl w) {c : Int} : RE S M nR rl (pX12_blot S M 176 c) (opBlot w c).1 (opBlot w c).2 := by
  have hS := h.1
  have hM := h.2.1
  have hR := h.rs
  have ho := h.2.2.2.2.1
  have hb := sq_b ho.1
  have hok := opBlot_ok h.2.2.2.2 c
  unfold opBlot at hok ⊢
  by_cases g2 : 0 ≤ c ∧ c < tSd (wT w) * tSd (wT w)
  · have g5 : c < 36 := by omega
    have e1 := (hR.2.2.2.1 c g2.1 g5).1
    by_cases g3 : cWh (wC w) c = -1
    · rw [if_neg (fun z => z.2 g3)]
      refine h.same ?_
      simp [pX12_blot, pX12_blot_18, hS.o, hM.o, r_isCell hS.o hR.1 hR.2.1 ho, g2, g5, e1, g3]
    · rw [if_pos ⟨g2, g3⟩] at hok ⊢
      obtain ⟨M1, a1, a2, a3, a4⟩ := r_keepsAct hS hM h.2.2.2.2 h.2.2.2.1
      have e2 : M1 180 c = cWh (wC w) c := (a4.2.1.2.1 c g2.1 g5).1
      have el := r_lays (v := -1) hS.o a2.o (c := c) ⟨g2.1, g5⟩
      rw [if_pos rfl] at el
      have p2 : PtW (upM (upM M1 180 c (-1)) 181 c (-1)) := (a2.o.eq (upM_r (by decide))).eq (upM_r (by decide))
      have f2 := ((FrS.of a3).trans (FrS.ur (M := M1) (r := 180) (j := c) (v := -1) (by decide))).trans (FrS.ur (r := 181) (j := c) (v := -1) (by decide))
      refine ⟨upM (upM M1 180 c (-1)) 181 c (-1), ?_, h.act p2 f2 (RW.sc a4 (RSc.ws a4.2.1 c) (fun a x => by rw [upM_r (by omega), upM_r (by omega)]) (fun j x => by rw [upM_r (by decide), upM_r (by decide)])) hok, f2⟩
      simp [pX12_blot, hS.o, hM.o, r_isCell hS.o hR.1 hR.2.1 ho, g2, g5, e1, g3, a1, a2.o, e2, el]
  · rw [if_neg (fun z => g2 z.1)]
    refine h.same ?_
    simp [pX12_blot, pX12_blot_18, hS.o, r_isCell hS.o hR.1 hR.2.1 ho, g2]
theorem e_undo {nR : Int} {rl : Int → Ru} {w : Wd} (h : RG S M nR rl w) : RE S M nR rl (pX12_undo S M 176) (undoA w) (undoW w) := by
  obtain ⟨M', a1, a2, a3, a4⟩ := r_undo h.1 h.2.1 h.2.2.2.2 h.2.2.2.1
  exact ⟨M', a1, h.act a2 (FrS.of a3) a4 (undo_ok h.2.2.2.2), FrS.of a3⟩
theorem RW.u {w w' : Wd} {j v : Int} (h : RW M (M 176 42) w) (hj : 7 ≤ j) (e1 : wT w' = wT w ∧ wA w' = wA w ∧ wS w' = wS w ∧ wC w' = wC w ∧ wK w' = wK w ∧ wP w' = wP w) (hn : RNt (upM M 177 j v) (wN w')) (hx : upM M 177 j v 177 8 = wX w' ∧ upM M 177 j v 177 9 = wF w') : RW (upM M 177 j v) (upM M 177 j v 176 42) w' := by
  obtain ⟨h1, h2, h3, h4, h5, h6, h7⟩ := h
  obtain ⟨i1, i2, i3, i4, i5, i6⟩ := e1
  have q : ∀ i, i < 7 → upM M 177 j v 177 i = M 177 i := fun i x => upM_i (by omega)
  refine ⟨?_, ?_, hn, hx, ?_, ?_, ?_⟩
  · rw [i1]; exact h1.eq (fun j x y => q j (by omega)) (upM_r (by decide)) (upM_r (by decide)) (upM_r (by decide))
  · rw [i4]
    unfold RSc at *
    rw [upM_r (by decide), upM_r (by decide), upM_r (by decide), upM_r (by decide), q 5 (by decide), q 4 (by decide), q 6 (by decide)]; exact h2
  · rw [i2, i3, upM_r (by decide), upM_r (by decide)]; exact h5
  · rw [i5, upM_r (by decide)]; exact h6
  · rw [i5, i6]; exact fun i a b => (h7 i a b).eq (fun z u v => by rw [upM_r (by decide)])
theorem RNt.u {q : Nt} {j v : Int} (h : RNt M q) (hj : j ≠ 7) : RNt (upM M 177 j v) q := by
  unfold RNt at *
  rw [upM_i (Ne.symm hj), upM_r (by decide), upM_r (by decide), upM_r (by decide)]; exact h
theorem e_force {nR : Int} {rl : Int → Ru} {w : Wd} (h : RG S M nR rl w) {r : Int} (hr : in32 r) : RE S M nR rl (pX12_force S M 176 r) (opForce nR w r).1 (opForce nR w r).2 := by
  have hS := h.1
  have hM := h.2.1
  have hb := h.2.2.1.1
  have e24 := h.2.2.1.2.1
  have e9 : M 177 9 = wF w := h.2.2.2.1.2.2.2.1.2
  have e8 : M 177 8 = wX w := h.2.2.2.1.2.2.2.1.1
  have w1 : w32 (nR - 1) = nR - 1 := w32_i (by omega) (by omega)
  have hok := opForce_ok h.2.2.2.2 r
  unfold opForce at hok ⊢
  by_cases g : -1 ≤ r ∧ r < nR
  · rw [if_pos g] at hok ⊢
    have g' : -1 ≤ r ∧ r ≤ nR - 1 := by omega
    refine ⟨upM M 177 9 r, ?_, h.act (hM.o.eq (upM_r (by decide))) FrS.u (RW.u h.2.2.2.1 (by decide) ⟨rfl, rfl, rfl, rfl, rfl, rfl⟩ (h.2.2.2.1.2.2.1.u (by decide)) ⟨by rw [upM_i (by decide)]; exact e8, upM_s _ _ _ _⟩) hok, FrS.u⟩
    simp [pX12_force, hS.o, hM.o, e24, w1, r_in, g', e9, zlet]
  · rw [if_neg g]
    have g' : ¬ (-1 ≤ r ∧ r ≤ nR - 1) := by omega
    refine h.same ?_
    simp [pX12_force, hS.o, e24, w1, r_in, g']
theorem e_seed {nR : Int} {rl : Int → Ru} {w : Wd} (h : RG S M nR rl w) {x : Int} (hx : in32 x) : RE S M nR rl (pX12_seed S M 176 x) (opSeed w x).1 (opSeed w x).2 := by
  have hS := h.1
  have hM := h.2.1
  have e9 : M 177 9 = wF w := h.2.2.2.1.2.2.2.1.2
  have e8 : M 177 8 = wX w := h.2.2.2.1.2.2.2.1.1
  have hok := opSeed_ok h.2.2.2.2 hx
  unfold opSeed at hok ⊢
  by_cases g : 0 ≤ x
  · rw [if_pos g] at hok ⊢
    refine ⟨upM M 177 8 x, ?_, h.act (hM.o.eq (upM_r (by decide))) FrS.u (RW.u h.2.2.2.1 (by decide) ⟨rfl, rfl, rfl, rfl, rfl, rfl⟩ (h.2.2.2.1.2.2.1.u (by decide)) ⟨upM_s _ _ _ _, by rw [upM_i (by decide)]; exact e9⟩) hok, FrS.u⟩
    simp [pX12_seed, hS.o, hM.o, g, e8, zlet]
  · rw [if_neg g]
    refine h.same ?_
    simp [pX12_seed, g]
theorem e_note {nR : Int} {rl : Int → Ru} {w : Wd} (h : RG S M nR rl w) {n c p : Int} : RE S M nR rl (pX12_note S M 176 n c p) (opNote w n c p).1 (opNote w n c p).2 := by
  have hS := h.1
  have hM := h.2.1
  have hR := h.rs
  have ho := h.2.2.2.2.1
  have e9 : M 177 9 = wF w := h.2.2.2.1.2.2.2.1.2
  have e8 : M 177 8 = wX w := h.2.2.2.1.2.2.2.1.1
  have hN := h.2.2.2.1.2.2.1
  have e7 := hN.1
  have hq := h.2.2.2.2.2.2.2.1.1
  have hok := opNote_ok h.2.2.2.2 n c p
  unfold opNote at hok ⊢
  by_cases g0 : n = -1
  · rw [if_pos g0] at hok ⊢
    refine ⟨upM M 177 7 0, ?_, h.act (hM.o.eq (upM_r (by decide))) FrS.u (RW.u h.2.2.2.1 (by decide) ⟨rfl, rfl, rfl, rfl, rfl, rfl⟩ ⟨upM_s _ _ _ _, fun i a b => by have b' : i < 0 := b; omega⟩ ⟨by rw [upM_i (by decide)]; exact e8, by rw [upM_i (by decide)]; exact e9⟩) hok, FrS.u⟩
    simp [pX12_note, hS.o, hM.o, g0, zlet]
  · rw [if_neg g0] at hok ⊢
    by_cases g1 : 0 ≤ n ∧ n ≤ 60
    · by_cases g2 : 0 ≤ c ∧ c < tSd (wT w) * tSd (wT w)
      · by_cases g3 : p = -1 ∨ (0 ≤ p ∧ p < tPn (wT w))
        · have e57 : pX12_note S M 176 n c p = pX12_note_57 S M 176 n c p (wN w).1 := by
            by_cases z : p = -1
            · simp [pX12_note, hS.o, hM.o, g0, e7, r_in, g1, r_isCell hS.o hR.1 hR.2.1 ho, g2, z]
            · have g3' : 0 ≤ p ∧ p < tPn (wT w) := by omega
              simp [pX12_note, hS.o, hM.o, g0, e7, r_in, g1, r_isCell hS.o hR.1 hR.2.1 ho, g2, z, r_isPen hS.o hR.1 hR.2.1 ho, g3']
          rw [e57]
          by_cases g4 : (wN w).1 = 10
          · rw [if_neg (fun z => z.2.2.2 g4)]
            refine h.same ?_
            simp [pX12_note_57, pX12_note_64, g4]
          · rw [if_pos ⟨g1, g2, g3, g4⟩] at hok ⊢
            have w1 : w32 ((wN w).1 + 1) = (wN w).1 + 1 := w32_i (by omega) (by omega)
            generalize hk : (wN w).1 = k at *
            have hk10 : 0 ≤ k ∧ k < 10 := by omega
            generalize hM1 : upM (upM (upM M 185 k n) 186 k c) 187 k p = M1
            have p1 : PtW (upM M 185 k n) := hM.o.eq (upM_r (by decide))
            have p2 : PtW (upM (upM M 185 k n) 186 k c) := p1.o.eq (upM_r (by decide))
            have p3 : PtW M1 := by rw [← hM1]; exact p2.o.eq (upM_r (by decide))
            have r1 : ∀ a, a ≠ 185 → a ≠ 186 → a ≠ 187 → M1 a = M a := fun a x y z => by rw [← hM1, upM_r z, upM_r y, upM_r x]
            have f1 : FrS M M1 := by rw [← hM1]; exact ((FrS.ur (by decide)).trans (FrS.ur (by decide))).trans (FrS.ur (by decide))
            have e7' : M1 177 7 = k := by rw [r1 177 (by decide) (by decide) (by decide)]; exact e7
            have hW1 : RW M1 (M1 176 42) (wT w, wA w, wS w, wC w, (k, (ntAdd (wN w) n c p).2), wX w, wF w, wK w, wP w) := by
              obtain ⟨i1, i2, i3, i4, i5, i6, i7⟩ := h.2.2.2.1
              refine ⟨i1.eq (fun j x y => by rw [r1 177 (by decide) (by decide) (by decide)]) (r1 _ (by decide) (by decide) (by decide)) (r1 _ (by decide) (by decide) (by decide)) (r1 _ (by decide) (by decide) (by decide)), ?_, ⟨e7', fun i a b => ?_⟩, by rw [r1 177 (by decide) (by decide) (by decide)]; exact i4, by rw [r1 188 (by decide) (by decide) (by decide), r1 189 (by decide) (by decide) (by decide)]; exact i5, by rw [r1 176 (by decide) (by decide) (by decide)]; exact i6, fun i a b => (i7 i a b).eq (fun z u v => by rw [r1 206 (by decide) (by decide) (by decide)])⟩
              · unfold RSc at *
                rw [r1 178 (by decide) (by decide) (by decide), r1 179 (by decide) (by decide) (by decide), r1 180 (by decide) (by decide) (by decide), r1 181 (by decide) (by decide) (by decide), r1 177 (by decide) (by decide) (by decide)]; exact i2
              · have b' : i < k := b
                show _ = (if i = (wN w).1 then n else (wN w).2.1 i) ∧ _ = (if i = (wN w).1 then c else (wN w).2.2.1 i) ∧ _ = (if i = (wN w).1 then p else (wN w).2.2.2 i)
                rw [hk, if_neg (by omega), if_neg (by omega), if_neg (by omega), ← hM1, upM_r (show (185 : Int) ≠ 187 by decide), upM_r (show (185 : Int) ≠ 186 by decide), upM_i (by omega), upM_r (show (186 : Int) ≠ 187 by decide), upM_i (by omega), upM_r (show (186 : Int) ≠ 185 by decide), upM_i (by omega), upM_r (show (187 : Int) ≠ 186 by decide), upM_r (show (187 : Int) ≠ 185 by decide)]
                exact hN.2 i a (by rw [hk]; exact b')
            refine ⟨upM M1 177 7 (k + 1), ?_, h.act (p3.o.eq (upM_r (by decide))) (f1.trans FrS.u) (RW.u hW1 (by decide) ⟨rfl, rfl, rfl, rfl, rfl, rfl⟩ ⟨by rw [upM_s]; show k + 1 = (wN w).1 + 1; rw [hk], fun i a b => ?_⟩ ⟨by rw [upM_i (by decide), r1 177 (by decide) (by decide) (by decide)]; exact e8, by rw [upM_i (by decide), r1 177 (by decide) (by decide) (by decide)]; exact e9⟩) hok, f1.trans FrS.u⟩
            · simp [pX12_note_57, pX12_note_91, g4, hS.o, hM.o, hk10, zlet, p1.o, p2.o, hM1, p3.o, e7', w1]
            · have b' : i < (wN w).1 + 1 := b
              show _ = (if i = (wN w).1 then n else (wN w).2.1 i) ∧ _ = (if i = (wN w).1 then c else (wN w).2.2.1 i) ∧ _ = (if i = (wN w).1 then p else (wN w).2.2.2 i)
              rw [hk] at b' ⊢
              rw [upM_r (by decide), upM_r (by decide), upM_r (by decide)]
              by_cases z : i = k
              · simp only [if_pos z]
                rw [← hM1, z]; simp [upM_ap]
              · have := hW1.2.2.1.2 i a (by show i < k; omega)
                have t : M1 185 i = (if i = (wN w).1 then n else (wN w).2.1 i) ∧ M1 186 i = (if i = (wN w).1 then c else (wN w).2.2.1 i) ∧ M1 187 i = (if i = (wN w).1 then p else (wN w).2.2.2 i) := this
                rw [hk] at t; exact t
        · rw [if_neg (fun z => g3 z.2.2.1)]
          refine h.same ?_
          have z : ¬ p = -1 := fun z => g3 (Or.inl z)
          have z2 : ¬ (0 ≤ p ∧ p < tPn (wT w)) := fun z => g3 (Or.inr z)
          simp [pX12_note, pX12_note_64, hS.o, hM.o, g0, e7, r_in, g1, r_isCell hS.o hR.1 hR.2.1 ho, g2, z, r_isPen hS.o hR.1 hR.2.1 ho, z2]
      · rw [if_neg (fun z => g2 z.2.1)]
        refine h.same ?_
        simp [pX12_note, pX12_note_64, hS.o, hM.o, g0, r_in, g1, r_isCell hS.o hR.1 hR.2.1 ho, g2]
    · rw [if_neg (fun z => g1 z.1)]
      refine h.same ?_
      simp [pX12_note, pX12_note_64, hS.o, hM.o, g0, r_in, g1]
theorem e_count {nR : Int} {rl : Int → Ru} {w : Wd} (h : RG S M nR rl w) {T what : Int} (hT : M 176 20 = T) : RE S M nR rl (pX12_count S M 176 what) (opCount nR T w what) w := by
  have hS := h.1
  have hM := h.2.1
  have hR := h.rs
  have ho := h.2.2.2.2.1
  have a0 := hR.2.1.1
  have a1 := hR.2.1.2.1
  have a2 := hR.2.1.2.2.1
  have a3 := hR.2.1.2.2.2.1
  have a4 := h.2.2.1.2.1
  have a5 : M 177 9 = wF w := h.2.2.2.1.2.2.2.1.2
  have a6 := hR.2.2.2.2.2.1
  have a7 : pX12_allStrokes S M 176 = some (allS (wT w) (wC w), M) := r_allStrokes hS.o ho hR
  have a8 := r_like hS.o ho hR
  have a9 := hR.2.2.2.2.2.2
  have a10 := hR.2.2.2.2.1
  have a11 := h.2.2.2.1.2.2.1.1
  have a12 : M 176 42 = wK w := h.2.2.2.1.2.2.2.2.2.1
  have a13 : M 177 8 = wX w := h.2.2.2.1.2.2.2.1.1
  refine h.same ?_
  by_cases c0 : what = 0
  · subst c0; simp [pX12_count, opCount, hS.o, hM.o, a0]
  by_cases c1 : what = 1
  · subst c1; simp [pX12_count, opCount, hS.o, hM.o, a1]
  by_cases c2 : what = 2
  · subst c2; simp [pX12_count, opCount, hS.o, hM.o, a2]
  by_cases c3 : what = 3
  · subst c3; simp [pX12_count, opCount, hS.o, hM.o, a3]
  by_cases c4 : what = 4
  · subst c4; simp [pX12_count, opCount, hS.o, a4]
  by_cases c5 : what = 5
  · subst c5; simp [pX12_count, opCount, hS.o, hM.o, a5]
  by_cases c6 : what = 6
  · subst c6; simp [pX12_count, opCount, hS.o, hM.o, a6]
  by_cases c7 : what = 7
  · subst c7; simp [pX12_count, opCount, hS.o, a7]
  by_cases c8 : what = 8
  · subst c8; simp [pX12_count, opCount, hS.o, a8]
  by_cases c9 : what = 9
  · subst c9; simp [pX12_count, opCount, hS.o, hM.o, a9]
  by_cases c10 : what = 10
  · subst c10; simp [pX12_count, opCount, hS.o, hM.o, a10]
  by_cases c11 : what = 11
  · subst c11; simp [pX12_count, opCount, hS.o, hM.o, a11]
  by_cases c12 : what = 12
  · subst c12; simp [pX12_count, opCount, hS.o, a12]
  by_cases c13 : what = 13
  · subst c13; simp [pX12_count, opCount, hS.o, hM.o, a13]
  by_cases c14 : what = 14
  · subst c14; simp [pX12_count, opCount, hS.o, hT]
  simp [pX12_count, opCount, c0, c1, c2, c3, c4, c5, c6, c7, c8, c9, c10, c11, c12, c13, c14]
end
