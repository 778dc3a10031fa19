noncomputable def pX12_cells (S : ZS) (M : ZM) (a0 : Int) : Option (Int × ZM) := if S.1 a0 = 12 then if S.1 (M a0 1) = 100 ∧ (0 : Int) ≤ 0 ∧ 0 < S.2.1 (M a0 1) then some (w32 ((M (M a0 1) 0) * (M (M a0 1) 0)), M) else none else none
set_option maxHeartbeats 2000000 in
set_option maxRecDepth 20000 in
theorem pX12_cells_go {C : ZC} {E : ZE} {S : ZS} {M : ZM} {a0 : Int} {q : (Int × ZM)} (hX : zCx C E 12 cX12_cells 1 (some .int) false) (hRm : czR C = { frames := 1, cells := 0, slots := 0, locals := 40 }) (h : pX12_cells  S M a0 = some q) : zG C E 1 S 0 0 (zQ C E 0 0 (some (0, q.1)) S q.2) 0 [some (2, a0)] [] M := by
  unfold pX12_cells at h
  obtain ⟨g1, h⟩ := zif h
  obtain ⟨g2, h⟩ := zif h
  refine zG.blk (pc' := 13) (l' := [some (2, a0)]) (st' := [(0, w32 ((M (M a0 1) 0) * (M (M a0 1) 0)))]) (M' := M) hX [(.aload_n 0, 0, 0, 0), (.getfield 9, 12, 1, 2), (.iconst 0, 0, 0, 0), (.iaload, 0, 0, 0), (.aload_n 0, 0, 0, 0), (.getfield 9, 12, 1, 2), (.iconst 0, 0, 0, 0), (.iaload, 0, 0, 0), (.imul, 0, 0, 0)] (by decide +kernel) rfl (And.intro g1 (And.intro g2 (And.intro g1 (And.intro g2 trivial)))) ?_
  cases h
  exact zG.iret hX (by decide +kernel)
theorem pX12_cells_ok {l : Launch} {E : ZE} {S : ZS} {M : ZM} {a0 : Int} {q : (Int × ZM)} (h : pX12_cells S M a0 = some q) : zMet l yX12_cells cX12_cells 1 (some .int) 1 40 0 0 E S M [(2, a0)] (some (0, q.1)) S q.2 :=
  zMet.of (o := 12) (ini := false) (by decide +kernel) rfl (fun h => by cases h) (Nat.le_of_ble_eq_true rfl) (fun C hX hl hRm => by subst hl; exact pX12_cells_go hX hRm h)
theorem sv_12_134 : zSV 12 134 yX12_cells cX12_cells 1 (some .int) 0 := ⟨⟨gt_at 1472 (by decide +kernel) rfl, gt_at 1474 (by decide +kernel) rfl, gt_at 66 (by decide +kernel) rfl, gt_at 117 (by decide +kernel) rfl, gt_at 1475 (by decide +kernel) rfl⟩, by decide +kernel, by decide +kernel, by decide +kernel⟩
noncomputable def pX12_strokesOf_4 (S : ZS) : Nat → ZM → Int → Int → Int → Int → Option (Int × ZM)
  | 0 => fun _ _ _ _ _ => none
  | n + 1 => fun M x0 x1 x2 x3 => if S.1 x0 = 12 then (pX12_cells S M x0).bind fun q1 => if q1.1 ≤ x3 then (some (x2, q1.2)) else (if S.1 (q1.2 x0 4) = 100 ∧ (0 : Int) ≤ x3 ∧ x3 < S.2.1 (q1.2 x0 4) then zlet (w32 (x2 + (if q1.2 (q1.2 x0 4) x3 = x1 then (1 : Int) else 0))) fun x7 => pX12_strokesOf_4 S n q1.2 x0 x1 x7 (w32 (x3 + 1)) else none) else none
set_option maxHeartbeats 2000000 in
set_option maxRecDepth 20000 in
theorem pX12_strokesOf_4_ok {C : ZC} {E : ZE} {S : ZS} {q : (Int × ZM)} (hX : zCx C E 12 cX12_strokesOf 4 (some .int) false) (hRm : czR C = { frames := 2, cells := 0, slots := 0, locals := 60 }) : ∀ (n : Nat) (M : ZM) (x0 : Int) (x1 : Int) (x2 : Int) (x3 : Int), pX12_strokesOf_4 S n M x0 x1 x2 x3 = some q → zG C E 4 S 0 0 (zQ C E 0 0 (some (0, q.1)) S q.2) 4 [some (2, x0), some (0, x1), some (0, x2), some (0, x3)] [] M := by
  intro n
  induction n with
  | zero => intro M x0 x1 x2 x3 h; cases h
  | succ n ih =>
    intro M x0 x1 x2 x3 h
    unfold pX12_strokesOf_4 at h
    refine zG.blk (pc' := 6) (l' := [some (2, x0), some (0, x1), some (0, x2), some (0, x3)]) (st' := [(2, x0), (0, x3)]) (M' := M) hX [(.iload_n 3, 0, 0, 0), (.aload_n 0, 0, 0, 0)] (by decide +kernel) rfl trivial ?_
    obtain ⟨g3, h⟩ := zif h
    obtain ⟨q1, e2, h⟩ := zbd h
    refine zG.callV (b := x0) (av := []) (st := [(0, x3)]) (ci := 12) hX (pX12_cells_ok e2) sv_12_134 rfl ⟨by decide, rfl⟩ g3 (by decide +kernel) (by rw [hRm]; exact ⟨Nat.le_of_ble_eq_true rfl, Nat.le_of_ble_eq_true rfl⟩) (by rw [hRm]; exact ⟨Nat.le_of_ble_eq_true rfl, Nat.le_of_ble_eq_true rfl⟩) (Nat.le_of_ble_eq_true rfl) ?_
    show zG C E 4 S 0 0 _ 9 [some (2, x0), some (0, x1), some (0, x2), some (0, x3)] [(0, q1.1), (0, x3)] q1.2
    refine zG.icmp_ge (tgt := 36) (off := 27) hX (by decide +kernel) (by decide) (fun c4 => ?_) (fun c4 => ?_)
    · have h := zip c4 h
      refine zG.blk (pc' := 37) (l' := [some (2, x0), some (0, x1), some (0, x2), some (0, x3)]) (st' := [(0, x2)]) (M' := q1.2) hX [(.iload_n 2, 0, 0, 0)] (by decide +kernel) rfl trivial ?_
      cases h
      exact zG.iret hX (by decide +kernel)
    · have h := zin c4 h
      obtain ⟨g5, h⟩ := zif h
      refine zG.blk (pc' := 20) (l' := [some (2, x0), some (0, x1), some (0, x2), some (0, x3)]) (st' := [(0, x1), (0, q1.2 (q1.2 x0 4) x3), (0, x2)]) (M' := q1.2) hX [(.iload_n 2, 0, 0, 0), (.aload_n 0, 0, 0, 0), (.getfield 19, 12, 4, 2), (.iload_n 3, 0, 0, 0), (.iaload, 0, 0, 0), (.iload_n 1, 0, 0, 0)] (by decide +kernel) rfl (And.intro g3 (And.intro g5 trivial)) ?_
      have key6 : zG C E 4 S 0 0 (zQ C E 0 0 (some (0, q.1)) S q.2) 28 [some (2, x0), some (0, x1), some (0, x2), some (0, x3)] [(0, (if q1.2 (q1.2 x0 4) x3 = x1 then (1 : Int) else 0)), (0, x2)] q1.2 := by
        refine zG.blk (pc' := 30) (l' := [some (2, x0), some (0, x1), some (0, w32 (x2 + (if q1.2 (q1.2 x0 4) x3 = x1 then (1 : Int) else 0))), some (0, x3)]) (st' := []) (M' := q1.2) hX [(.iadd, 0, 0, 0), (.istore_n 2, 0, 0, 0)] (by decide +kernel) rfl trivial ?_
        generalize w32 (x2 + (if q1.2 (q1.2 x0 4) x3 = x1 then (1 : Int) else 0)) = x7 at h ⊢
        have h := zlt h
        refine zG.blk (pc' := 33) (l' := [some (2, x0), some (0, x1), some (0, x7), some (0, w32 (x3 + 1))]) (st' := []) (M' := q1.2) hX [(.iinc 3 1, 0, 0, 0)] (by decide +kernel) rfl trivial ?_
        refine zG.goto (tgt := 4) (off := (-29)) hX (by decide +kernel) (by decide) ?_
        exact ih _ _ _ _ _ h
      refine zG.icmp_ne (tgt := 27) (off := 7) hX (by decide +kernel) (by decide) (fun c8 => ?_) (fun c8 => ?_)
      · refine zG.blk (pc' := 28) (l' := [some (2, x0), some (0, x1), some (0, x2), some (0, x3)]) (st' := [(0, 0), (0, x2)]) (M' := q1.2) hX [(.iconst 0, 0, 0, 0)] (by decide +kernel) rfl trivial ?_
        (have k := key6; simp only [if_neg c8] at k; exact k)
      · refine zG.blk (pc' := 24) (l' := [some (2, x0), some (0, x1), some (0, x2), some (0, x3)]) (st' := [(0, 1), (0, x2)]) (M' := q1.2) hX [(.iconst 1, 0, 0, 0)] (by decide +kernel) rfl trivial ?_
        refine zG.goto (tgt := 28) (off := 4) hX (by decide +kernel) (by decide) ?_
        (have k := key6; simp only [if_pos c8] at k; exact k)
noncomputable def pX12_strokesOf (S : ZS) (M : ZM) (a0 : Int) (a1 : Int) : Option (Int × ZM) := pX12_strokesOf_4 S zFU M a0 a1 0 0
set_option maxHeartbeats 2000000 in
set_option maxRecDepth 20000 in
theorem pX12_strokesOf_go {C : ZC} {E : ZE} {S : ZS} {M : ZM} {a0 a1 : Int} {q : (Int × ZM)} (hX : zCx C E 12 cX12_strokesOf 4 (some .int) false) (hRm : czR C = { frames := 2, cells := 0, slots := 0, locals := 60 }) (h : pX12_strokesOf  S M a0 a1 = some q) : zG C E 4 S 0 0 (zQ C E 0 0 (some (0, q.1)) S q.2) 0 [some (2, a0), some (0, a1), none, none] [] M := by
  unfold pX12_strokesOf at h
  refine zG.blk (pc' := 4) (l' := [some (2, a0), some (0, a1), some (0, 0), some (0, 0)]) (st' := []) (M' := M) hX [(.iconst 0, 0, 0, 0), (.istore_n 2, 0, 0, 0), (.iconst 0, 0, 0, 0), (.istore_n 3, 0, 0, 0)] (by decide +kernel) rfl trivial ?_
  exact (pX12_strokesOf_4_ok hX hRm zFU _ _ _ _ _ h)
theorem pX12_strokesOf_ok {l : Launch} {E : ZE} {S : ZS} {M : ZM} {a0 a1 : Int} {q : (Int × ZM)} (h : pX12_strokesOf S M a0 a1 = some q) : zMet l yX12_strokesOf cX12_strokesOf 4 (some .int) 2 60 0 0 E S M [(2, a0), (0, a1)] (some (0, q.1)) S q.2 :=
  zMet.of (o := 12) (ini := false) (by decide +kernel) rfl (fun h => by cases h) (Nat.le_of_ble_eq_true rfl) (fun C hX hl hRm => by subst hl; exact pX12_strokesOf_go hX hRm h)
theorem sv_12_338 : zSV 12 338 yX12_strokesOf cX12_strokesOf 4 (some .int) 1 := ⟨⟨gt_at 1468 (by decide +kernel) rfl, gt_at 1470 (by decide +kernel) rfl, gt_at 65 (by decide +kernel) rfl, gt_at 117 (by decide +kernel) rfl, gt_at 1471 (by decide +kernel) rfl⟩, by decide +kernel, by decide +kernel, by decide +kernel⟩
noncomputable def pX12_allStrokes (S : ZS) (M : ZM) (a0 : Int) : Option (Int × ZM) := if S.1 a0 = 12 then (pX12_cells S M a0).bind fun q1 => (pX12_strokesOf S q1.2 a0 (-1)).bind fun q4 => some (w32 (q1.1 - q4.1), q4.2) else none
set_option maxHeartbeats 2000000 in
set_option maxRecDepth 20000 in
theorem pX12_allStrokes_go {C : ZC} {E : ZE} {S : ZS} {M : ZM} {a0 : Int} {q : (Int × ZM)} (hX : zCx C E 12 cX12_allStrokes 1 (some .int) false) (hRm : czR C = { frames := 3, cells := 0, slots := 0, locals := 83 }) (h : pX12_allStrokes  S M a0 = some q) : zG C E 1 S 0 0 (zQ C E 0 0 (some (0, q.1)) S q.2) 0 [some (2, a0)] [] M := by
  unfold pX12_allStrokes at h
  refine zG.blk (pc' := 1) (l' := [some (2, a0)]) (st' := [(2, a0)]) (M' := M) hX [(.aload_n 0, 0, 0, 0)] (by decide +kernel) rfl trivial ?_
  obtain ⟨g3, h⟩ := zif h
  obtain ⟨q1, e2, h⟩ := zbd h
  refine zG.callV (b := a0) (av := []) (st := []) (ci := 12) hX (pX12_cells_ok e2) sv_12_134 rfl ⟨by decide, rfl⟩ g3 (by decide +kernel) (by rw [hRm]; exact ⟨Nat.le_of_ble_eq_true rfl, Nat.le_of_ble_eq_true rfl⟩) (by rw [hRm]; exact ⟨Nat.le_of_ble_eq_true rfl, Nat.le_of_ble_eq_true rfl⟩) (Nat.le_of_ble_eq_true rfl) ?_
  show zG C E 1 S 0 0 _ 4 [some (2, a0)] [(0, q1.1)] q1.2
  refine zG.blk (pc' := 6) (l' := [some (2, a0)]) (st' := [(0, (-1)), (2, a0), (0, q1.1)]) (M' := q1.2) hX [(.aload_n 0, 0, 0, 0), (.iconst (-1), 0, 0, 0)] (by decide +kernel) rfl trivial ?_
  obtain ⟨q4, e5, h⟩ := zbd h
  refine zG.callV (b := a0) (av := [(0, (-1))]) (st := [(0, q1.1)]) (ci := 12) hX (pX12_strokesOf_ok e5) sv_12_338 rfl ⟨by decide, rfl⟩ g3 (by decide +kernel) (by rw [hRm]; exact ⟨Nat.le_of_ble_eq_true rfl, Nat.le_of_ble_eq_true rfl⟩) (by rw [hRm]; exact ⟨Nat.le_of_ble_eq_true rfl, Nat.le_of_ble_eq_true rfl⟩) (Nat.le_of_ble_eq_true rfl) ?_
  show zG C E 1 S 0 0 _ 9 [some (2, a0)] [(0, q4.1), (0, q1.1)] q4.2
  refine zG.blk (pc' := 10) (l' := [some (2, a0)]) (st' := [(0, w32 (q1.1 - q4.1))]) (M' := q4.2) hX [(.isub, 0, 0, 0)] (by decide +kernel) rfl trivial ?_
  cases h
  exact zG.iret hX (by decide +kernel)
theorem pX12_allStrokes_ok {l : Launch} {E : ZE} {S : ZS} {M : ZM} {a0 : Int} {q : (Int × ZM)} (h : pX12_allStrokes S M a0 = some q) : zMet l yX12_allStrokes cX12_allStrokes 1 (some .int) 3 83 0 0 E S M [(2, a0)] (some (0, q.1)) S q.2 :=
  zMet.of (o := 12) (ini := false) (by decide +kernel) rfl (fun h => by cases h) (Nat.le_of_ble_eq_true rfl) (fun C hX hl hRm => by subst hl; exact pX12_allStrokes_go hX hRm h)
noncomputable def pX12_beside_53 (S : ZS) (M : ZM) (x3 : Int) (x4 : Int) (y0 : Int) (y1 : Int) : Option (Int × ZM) := some ((if x4 < 0 then ((-1) : Int) else (if w32 (y1 + y0) < 0 then ((-1) : Int) else (if x4 = x3 then ((-1) : Int) else (if w32 (y1 + y0) = x3 then ((-1) : Int) else (w32 ((w32 (x3 * x4)) + (w32 (y1 + y0)))))))), M)
set_option maxHeartbeats 2000000 in
set_option maxRecDepth 20000 in
theorem pX12_beside_53_ok {C : ZC} {E : ZE} {S : ZS} {q : (Int × ZM)} (hX : zCx C E 12 cX12_beside 6 (some .int) false) (hRm : czR C = { frames := 1, cells := 0, slots := 0, locals := 40 }) {M : ZM} {x3 : Int} {x4 : Int} {y0 : Int} {y1 : Int} (h : pX12_beside_53 S M x3 x4 y0 y1 = some q) : zG C E 6 S 0 0 (zQ C E 0 0 (some (0, q.1)) S q.2) 53 [none, none, none, some (0, x3), some (0, x4), none] [(0, y0), (0, y1)] M := by
  unfold pX12_beside_53 at h
  refine zG.blk (pc' := 58) (l' := [none, none, none, some (0, x3), some (0, x4), some (0, w32 (y1 + y0))]) (st' := [(0, x4)]) (M' := M) hX [(.iadd, 0, 0, 0), (.istore 5, 0, 0, 0), (.iload 4, 0, 0, 0)] (by decide +kernel) rfl trivial ?_
  have key7 : zG C E 6 S 0 0 (zQ C E 0 0 (some (0, q.1)) S q.2) 89 [none, none, none, some (0, x3), some (0, x4), some (0, w32 (y1 + y0))] [(0, (if x4 < 0 then ((-1) : Int) else (if w32 (y1 + y0) < 0 then ((-1) : Int) else (if x4 = x3 then ((-1) : Int) else (if w32 (y1 + y0) = x3 then ((-1) : Int) else (w32 ((w32 (x3 * x4)) + (w32 (y1 + y0)))))))))] M := by
    cases h
    exact zG.iret hX (by decide +kernel)
  refine zG.if_lt (tgt := 78) (off := 20) hX (by decide +kernel) (by decide) (fun c8 => ?_) (fun c8 => ?_)
  · refine zG.blk (pc' := 79) (l' := [none, none, none, some (0, x3), some (0, x4), some (0, w32 (y1 + y0))]) (st' := [(0, (-1))]) (M' := M) hX [(.iconst (-1), 0, 0, 0)] (by decide +kernel) rfl trivial ?_
    refine zG.goto (tgt := 89) (off := 10) hX (by decide +kernel) (by decide) ?_
    (have k := key7; simp only [if_pos c8] at k; exact k)
  · refine zG.blk (pc' := 63) (l' := [none, none, none, some (0, x3), some (0, x4), some (0, w32 (y1 + y0))]) (st' := [(0, w32 (y1 + y0))]) (M' := M) hX [(.iload 5, 0, 0, 0)] (by decide +kernel) rfl trivial ?_
    refine zG.if_lt (tgt := 78) (off := 15) hX (by decide +kernel) (by decide) (fun c9 => ?_) (fun c9 => ?_)
    · refine zG.blk (pc' := 79) (l' := [none, none, none, some (0, x3), some (0, x4), some (0, w32 (y1 + y0))]) (st' := [(0, (-1))]) (M' := M) hX [(.iconst (-1), 0, 0, 0)] (by decide +kernel) rfl trivial ?_
      refine zG.goto (tgt := 89) (off := 10) hX (by decide +kernel) (by decide) ?_
      (have k := key7; simp only [if_neg c8, if_pos c9] at k; exact k)
    · refine zG.blk (pc' := 69) (l' := [none, none, none, some (0, x3), some (0, x4), some (0, w32 (y1 + y0))]) (st' := [(0, x3), (0, x4)]) (M' := M) hX [(.iload 4, 0, 0, 0), (.iload_n 3, 0, 0, 0)] (by decide +kernel) rfl trivial ?_
      refine zG.icmp_eq (tgt := 78) (off := 9) hX (by decide +kernel) (by decide) (fun c10 => ?_) (fun c10 => ?_)
      · refine zG.blk (pc' := 79) (l' := [none, none, none, some (0, x3), some (0, x4), some (0, w32 (y1 + y0))]) (st' := [(0, (-1))]) (M' := M) hX [(.iconst (-1), 0, 0, 0)] (by decide +kernel) rfl trivial ?_
        refine zG.goto (tgt := 89) (off := 10) hX (by decide +kernel) (by decide) ?_
        (have k := key7; simp only [if_neg c8, if_neg c9, if_pos c10] at k; exact k)
      · refine zG.blk (pc' := 75) (l' := [none, none, none, some (0, x3), some (0, x4), some (0, w32 (y1 + y0))]) (st' := [(0, x3), (0, w32 (y1 + y0))]) (M' := M) hX [(.iload 5, 0, 0, 0), (.iload_n 3, 0, 0, 0)] (by decide +kernel) rfl trivial ?_
        refine zG.icmp_ne (tgt := 82) (off := 7) hX (by decide +kernel) (by decide) (fun c11 => ?_) (fun c11 => ?_)
        · refine zG.blk (pc' := 89) (l' := [none, none, none, some (0, x3), some (0, x4), some (0, w32 (y1 + y0))]) (st' := [(0, w32 ((w32 (x3 * x4)) + (w32 (y1 + y0))))]) (M' := M) hX [(.iload_n 3, 0, 0, 0), (.iload 4, 0, 0, 0), (.imul, 0, 0, 0), (.iload 5, 0, 0, 0), (.iadd, 0, 0, 0)] (by decide +kernel) rfl trivial ?_
          (have k := key7; simp only [if_neg c8, if_neg c9, if_neg c10, if_neg c11] at k; exact k)
        · refine zG.blk (pc' := 79) (l' := [none, none, none, some (0, x3), some (0, x4), some (0, w32 (y1 + y0))]) (st' := [(0, (-1))]) (M' := M) hX [(.iconst (-1), 0, 0, 0)] (by decide +kernel) rfl trivial ?_
          refine zG.goto (tgt := 89) (off := 10) hX (by decide +kernel) (by decide) ?_
          (have k := key7; simp only [if_neg c8, if_neg c9, if_neg c10, if_pos c11] at k; exact k)
noncomputable def pX12_beside_28 (S : ZS) (M : ZM) (x1 : Int) (x2 : Int) (x3 : Int) (y0 : Int) (y1 : Int) : Option (Int × ZM) := if ¬ x3 = 0 then pX12_beside_53 S M x3 (w32 (y1 + y0)) (if x2 = 1 then (1 : Int) else (if x2 = 3 then ((-1) : Int) else 0)) (Int.tmod x1 x3) else none
set_option maxHeartbeats 2000000 in
set_option maxRecDepth 20000 in
theorem pX12_beside_28_ok {C : ZC} {E : ZE} {S : ZS} {q : (Int × ZM)} (hX : zCx C E 12 cX12_beside 6 (some .int) false) (hRm : czR C = { frames := 1, cells := 0, slots := 0, locals := 40 }) {M : ZM} {x1 : Int} {x2 : Int} {x3 : Int} {y0 : Int} {y1 : Int} (h : pX12_beside_28 S M x1 x2 x3 y0 y1 = some q) : zG C E 6 S 0 0 (zQ C E 0 0 (some (0, q.1)) S q.2) 28 [none, some (0, x1), some (0, x2), some (0, x3), none, none] [(0, y0), (0, y1)] M := by
  unfold pX12_beside_28 at h
  obtain ⟨g5, h⟩ := zif h
  refine zG.blk (pc' := 36) (l' := [none, some (0, x1), some (0, x2), some (0, x3), some (0, w32 (y1 + y0)), none]) (st' := [(0, 1), (0, x2), (0, Int.tmod x1 x3)]) (M' := M) hX [(.iadd, 0, 0, 0), (.istore 4, 0, 0, 0), (.iload_n 1, 0, 0, 0), (.iload_n 3, 0, 0, 0), (.irem, 0, 0, 0), (.iload_n 2, 0, 0, 0), (.iconst 1, 0, 0, 0)] (by decide +kernel) rfl (And.intro g5 trivial) ?_
  have key6 : zG C E 6 S 0 0 (zQ C E 0 0 (some (0, q.1)) S q.2) 53 [none, some (0, x1), some (0, x2), some (0, x3), some (0, w32 (y1 + y0)), none] [(0, (if x2 = 1 then (1 : Int) else (if x2 = 3 then ((-1) : Int) else 0))), (0, Int.tmod x1 x3)] M := by
    exact zG.wk [true, false, false, true, true, true] (pX12_beside_53_ok hX hRm h)
  refine zG.icmp_ne (tgt := 43) (off := 7) hX (by decide +kernel) (by decide) (fun c12 => ?_) (fun c12 => ?_)
  · refine zG.blk (pc' := 45) (l' := [none, some (0, x1), some (0, x2), some (0, x3), some (0, w32 (y1 + y0)), none]) (st' := [(0, 3), (0, x2), (0, Int.tmod x1 x3)]) (M' := M) hX [(.iload_n 2, 0, 0, 0), (.iconst 3, 0, 0, 0)] (by decide +kernel) rfl trivial ?_
    refine zG.icmp_ne (tgt := 52) (off := 7) hX (by decide +kernel) (by decide) (fun c13 => ?_) (fun c13 => ?_)
    · refine zG.blk (pc' := 53) (l' := [none, some (0, x1), some (0, x2), some (0, x3), some (0, w32 (y1 + y0)), none]) (st' := [(0, 0), (0, Int.tmod x1 x3)]) (M' := M) hX [(.iconst 0, 0, 0, 0)] (by decide +kernel) rfl trivial ?_
      (have k := key6; simp only [if_neg c12, if_neg c13] at k; exact k)
    · refine zG.blk (pc' := 49) (l' := [none, some (0, x1), some (0, x2), some (0, x3), some (0, w32 (y1 + y0)), none]) (st' := [(0, (-1)), (0, Int.tmod x1 x3)]) (M' := M) hX [(.iconst (-1), 0, 0, 0)] (by decide +kernel) rfl trivial ?_
      refine zG.goto (tgt := 53) (off := 4) hX (by decide +kernel) (by decide) ?_
      (have k := key6; simp only [if_neg c12, if_pos c13] at k; exact k)
  · refine zG.blk (pc' := 40) (l' := [none, some (0, x1), some (0, x2), some (0, x3), some (0, w32 (y1 + y0)), none]) (st' := [(0, 1), (0, Int.tmod x1 x3)]) (M' := M) hX [(.iconst 1, 0, 0, 0)] (by decide +kernel) rfl trivial ?_
    refine zG.goto (tgt := 53) (off := 13) hX (by decide +kernel) (by decide) ?_
    (have k := key6; simp only [if_pos c12] at k; exact k)
noncomputable def pX12_beside (S : ZS) (M : ZM) (a0 : Int) (a1 : Int) (a2 : Int) : Option (Int × ZM) := if S.1 a0 = 12 then if S.1 (M a0 1) = 100 ∧ (0 : Int) ≤ 0 ∧ 0 < S.2.1 (M a0 1) then if ¬ M (M a0 1) 0 = 0 then pX12_beside_28 S M a1 a2 (M (M a0 1) 0) (if a2 = 0 then ((-1) : Int) else (if a2 = 2 then (1 : Int) else 0)) (w32 (Int.tdiv a1 (M (M a0 1) 0))) else none else none else none
set_option maxHeartbeats 2000000 in
set_option maxRecDepth 20000 in
theorem pX12_beside_go {C : ZC} {E : ZE} {S : ZS} {M : ZM} {a0 a1 a2 : Int} {q : (Int × ZM)} (hX : zCx C E 12 cX12_beside 6 (some .int) false) (hRm : czR C = { frames := 1, cells := 0, slots := 0, locals := 40 }) (h : pX12_beside  S M a0 a1 a2 = some q) : zG C E 6 S 0 0 (zQ C E 0 0 (some (0, q.1)) S q.2) 0 [some (2, a0), some (0, a1), some (0, a2), none, none, none] [] M := by
  unfold pX12_beside at h
  obtain ⟨g1, h⟩ := zif h
  obtain ⟨g2, h⟩ := zif h
  obtain ⟨g3, h⟩ := zif h
  refine zG.blk (pc' := 11) (l' := [some (2, a0), some (0, a1), some (0, a2), some (0, M (M a0 1) 0), none, none]) (st' := [(0, a2), (0, w32 (Int.tdiv a1 (M (M a0 1) 0)))]) (M' := M) hX [(.aload_n 0, 0, 0, 0), (.getfield 9, 12, 1, 2), (.iconst 0, 0, 0, 0), (.iaload, 0, 0, 0), (.istore_n 3, 0, 0, 0), (.iload_n 1, 0, 0, 0), (.iload_n 3, 0, 0, 0), (.idiv, 0, 0, 0), (.iload_n 2, 0, 0, 0)] (by decide +kernel) rfl (And.intro g1 (And.intro g2 (And.intro g3 trivial))) ?_
  have key4 : zG C E 6 S 0 0 (zQ C E 0 0 (some (0, q.1)) S q.2) 28 [some (2, a0), some (0, a1), some (0, a2), some (0, M (M a0 1) 0), none, none] [(0, (if a2 = 0 then ((-1) : Int) else (if a2 = 2 then (1 : Int) else 0))), (0, w32 (Int.tdiv a1 (M (M a0 1) 0)))] M := by
    exact zG.wk [false, true, true, true, true, true] (pX12_beside_28_ok hX hRm h)
  refine zG.if_ne (tgt := 18) (off := 7) hX (by decide +kernel) (by decide) (fun c14 => ?_) (fun c14 => ?_)
  · refine zG.blk (pc' := 20) (l' := [some (2, a0), some (0, a1), some (0, a2), some (0, M (M a0 1) 0), none, none]) (st' := [(0, 2), (0, a2), (0, w32 (Int.tdiv a1 (M (M a0 1) 0)))]) (M' := M) hX [(.iload_n 2, 0, 0, 0), (.iconst 2, 0, 0, 0)] (by decide +kernel) rfl trivial ?_
    refine zG.icmp_ne (tgt := 27) (off := 7) hX (by decide +kernel) (by decide) (fun c15 => ?_) (fun c15 => ?_)
    · refine zG.blk (pc' := 28) (l' := [some (2, a0), some (0, a1), some (0, a2), some (0, M (M a0 1) 0), none, none]) (st' := [(0, 0), (0, w32 (Int.tdiv a1 (M (M a0 1) 0)))]) (M' := M) hX [(.iconst 0, 0, 0, 0)] (by decide +kernel) rfl trivial ?_
      (have k := key4; simp only [if_neg c14, if_neg c15] at k; exact k)
    · refine zG.blk (pc' := 24) (l' := [some (2, a0), some (0, a1), some (0, a2), some (0, M (M a0 1) 0), none, none]) (st' := [(0, 1), (0, w32 (Int.tdiv a1 (M (M a0 1) 0)))]) (M' := M) hX [(.iconst 1, 0, 0, 0)] (by decide +kernel) rfl trivial ?_
      refine zG.goto (tgt := 28) (off := 4) hX (by decide +kernel) (by decide) ?_
      (have k := key4; simp only [if_neg c14, if_pos c15] at k; exact k)
  · refine zG.blk (pc' := 15) (l' := [some (2, a0), some (0, a1), some (0, a2), some (0, M (M a0 1) 0), none, none]) (st' := [(0, (-1)), (0, w32 (Int.tdiv a1 (M (M a0 1) 0)))]) (M' := M) hX [(.iconst (-1), 0, 0, 0)] (by decide +kernel) rfl trivial ?_
    refine zG.goto (tgt := 28) (off := 13) hX (by decide +kernel) (by decide) ?_
    (have k := key4; simp only [if_pos c14] at k; exact k)
theorem pX12_beside_ok {l : Launch} {E : ZE} {S : ZS} {M : ZM} {a0 a1 a2 : Int} {q : (Int × ZM)} (h : pX12_beside S M a0 a1 a2 = some q) : zMet l yX12_beside cX12_beside 6 (some .int) 1 40 0 0 E S M [(2, a0), (0, a1), (0, a2)] (some (0, q.1)) S q.2 :=
  zMet.of (o := 12) (ini := false) (by decide +kernel) rfl (fun h => by cases h) (Nat.le_of_ble_eq_true rfl) (fun C hX hl hRm => by subst hl; exact pX12_beside_go hX hRm h)
noncomputable def pX12_forceOf_26 (S : ZS) (M : ZM) (y0 : Int) : Option (Int × ZM) := some (y0, M)
set_option maxHeartbeats 2000000 in
set_option maxRecDepth 20000 in
theorem pX12_forceOf_26_ok {C : ZC} {E : ZE} {S : ZS} {q : (Int × ZM)} (hX : zCx C E 12 cX12_forceOf 2 (some .int) false) (hRm : czR C = { frames := 1, cells := 0, slots := 0, locals := 40 }) {M : ZM} {y0 : Int} (h : pX12_forceOf_26 S M y0 = some q) : zG C E 2 S 0 0 (zQ C E 0 0 (some (0, q.1)) S q.2) 26 [none, none] [(0, y0)] M := by
  unfold pX12_forceOf_26 at h
  cases h
  exact zG.iret hX (by decide +kernel)
noncomputable def pX12_forceOf (S : ZS) (M : ZM) (a0 : Int) (a1 : Int) : Option (Int × ZM) := if S.1 a0 = 12 then if S.1 (M a0 1) = 100 ∧ (0 : Int) ≤ 3 ∧ 3 < S.2.1 (M a0 1) then if M (M a0 1) 3 = 0 then (pX12_forceOf_26 S M 0) else (if ¬ M (M a0 1) 3 = 0 then if S.1 (M a0 7) = 100 ∧ (0 : Int) ≤ Int.tmod a1 (M (M a0 1) 3) ∧ Int.tmod a1 (M (M a0 1) 3) < S.2.1 (M a0 7) then pX12_forceOf_26 S M (M (M a0 7) (Int.tmod a1 (M (M a0 1) 3))) else none else none) else none else none
set_option maxHeartbeats 2000000 in
set_option maxRecDepth 20000 in
theorem pX12_forceOf_go {C : ZC} {E : ZE} {S : ZS} {M : ZM} {a0 a1 : Int} {q : (Int × ZM)} (hX : zCx C E 12 cX12_forceOf 2 (some .int) false) (hRm : czR C = { frames := 1, cells := 0, slots := 0, locals := 40 }) (h : pX12_forceOf  S M a0 a1 = some q) : zG C E 2 S 0 0 (zQ C E 0 0 (some (0, q.1)) S q.2) 0 [some (2, a0), some (0, a1)] [] M := by
  unfold pX12_forceOf at h
  obtain ⟨g1, h⟩ := zif h
  obtain ⟨g2, h⟩ := zif h
  refine zG.blk (pc' := 6) (l' := [some (2, a0), some (0, a1)]) (st' := [(0, M (M a0 1) 3)]) (M' := M) hX [(.aload_n 0, 0, 0, 0), (.getfield 9, 12, 1, 2), (.iconst 3, 0, 0, 0), (.iaload, 0, 0, 0)] (by decide +kernel) rfl (And.intro g1 (And.intro g2 trivial)) ?_
  refine zG.if_ne (tgt := 13) (off := 7) hX (by decide +kernel) (by decide) (fun c3 => ?_) (fun c3 => ?_)
  · have h := zin c3 h
    obtain ⟨g4, h⟩ := zif h
    obtain ⟨g5, h⟩ := zif h
    refine zG.blk (pc' := 26) (l' := [some (2, a0), some (0, a1)]) (st' := [(0, M (M a0 7) (Int.tmod a1 (M (M a0 1) 3)))]) (M' := M) hX [(.aload_n 0, 0, 0, 0), (.getfield 28, 12, 7, 2), (.iload_n 1, 0, 0, 0), (.aload_n 0, 0, 0, 0), (.getfield 9, 12, 1, 2), (.iconst 3, 0, 0, 0), (.iaload, 0, 0, 0), (.irem, 0, 0, 0), (.iaload, 0, 0, 0)] (by decide +kernel) rfl (And.intro g1 (And.intro g1 (And.intro g2 (And.intro g4 (And.intro g5 trivial))))) ?_
    exact zG.wk [false, false] (pX12_forceOf_26_ok hX hRm h)
  · have h := zip c3 h
    refine zG.blk (pc' := 10) (l' := [some (2, a0), some (0, a1)]) (st' := [(0, 0)]) (M' := M) hX [(.iconst 0, 0, 0, 0)] (by decide +kernel) rfl trivial ?_
    refine zG.goto (tgt := 26) (off := 16) hX (by decide +kernel) (by decide) ?_
    exact zG.wk [false, false] (pX12_forceOf_26_ok hX hRm h)
theorem pX12_forceOf_ok {l : Launch} {E : ZE} {S : ZS} {M : ZM} {a0 a1 : Int} {q : (Int × ZM)} (h : pX12_forceOf S M a0 a1 = some q) : zMet l yX12_forceOf cX12_forceOf 2 (some .int) 1 40 0 0 E S M [(2, a0), (0, a1)] (some (0, q.1)) S q.2 :=
  zMet.of (o := 12) (ini := false) (by decide +kernel) rfl (fun h => by cases h) (Nat.le_of_ble_eq_true rfl) (fun C hX hl hRm => by subst hl; exact pX12_forceOf_go hX hRm h)
noncomputable def pX12_has (S : ZS) (M : ZM) (a0 : Int) (a1 : Int) : Option (Int × ZM) := some ((if zand (zshr a0 a1) 1 = 1 then (1 : Int) else 0), M)
set_option maxHeartbeats 2000000 in
set_option maxRecDepth 20000 in
theorem pX12_has_go {C : ZC} {E : ZE} {S : ZS} {M : ZM} {a0 a1 : Int} {q : (Int × ZM)} (hX : zCx C E 12 cX12_has 2 (some .boolean) false) (hRm : czR C = { frames := 1, cells := 0, slots := 0, locals := 40 }) (h : pX12_has  S M a0 a1 = some q) : zG C E 2 S 0 0 (zQ C E 0 0 (some (0, q.1)) S q.2) 0 [some (0, a0), some (0, a1)] [] M := by
  unfold pX12_has at h
  refine zG.blk (pc' := 6) (l' := [some (0, a0), some (0, a1)]) (st' := [(0, 1), (0, zand (zshr a0 a1) 1)]) (M' := M) hX [(.iload_n 0, 0, 0, 0), (.iload_n 1, 0, 0, 0), (.ishr, 0, 0, 0), (.iconst 1, 0, 0, 0), (.iand, 0, 0, 0), (.iconst 1, 0, 0, 0)] (by decide +kernel) rfl trivial ?_
  have key1 : zG C E 2 S 0 0 (zQ C E 0 0 (some (0, q.1)) S q.2) 14 [some (0, a0), some (0, a1)] [(0, (if zand (zshr a0 a1) 1 = 1 then (1 : Int) else 0))] M := by
    cases h
    exact zG.zret hX (by decide +kernel) (z01_ite (Or.inr rfl) (Or.inl rfl))
  refine zG.icmp_ne (tgt := 13) (off := 7) hX (by decide +kernel) (by decide) (fun c2 => ?_) (fun c2 => ?_)
  · refine zG.blk (pc' := 14) (l' := [some (0, a0), some (0, a1)]) (st' := [(0, 0)]) (M' := M) hX [(.iconst 0, 0, 0, 0)] (by decide +kernel) rfl trivial ?_
    (have k := key1; simp only [if_neg c2] at k; exact k)
  · refine zG.blk (pc' := 10) (l' := [some (0, a0), some (0, a1)]) (st' := [(0, 1)]) (M' := M) hX [(.iconst 1, 0, 0, 0)] (by decide +kernel) rfl trivial ?_
    refine zG.goto (tgt := 14) (off := 4) hX (by decide +kernel) (by decide) ?_
    (have k := key1; simp only [if_pos c2] at k; exact k)
theorem pX12_has_ok {l : Launch} {E : ZE} {S : ZS} {M : ZM} {a0 a1 : Int} {q : (Int × ZM)} (h : pX12_has S M a0 a1 = some q) : zMet l yX12_has cX12_has 2 (some .boolean) 1 40 0 0 E S M [(0, a0), (0, a1)] (some (0, q.1)) S q.2 :=
  zMet.of (o := 12) (ini := false) (by decide +kernel) rfl (fun h => by cases h) (Nat.le_of_ble_eq_true rfl) (fun C hX hl hRm => by subst hl; exact pX12_has_go hX hRm h)
noncomputable def pX12_wayOf_26 (S : ZS) (M : ZM) (y0 : Int) : Option (Int × ZM) := some (y0, M)
set_option maxHeartbeats 2000000 in
set_option maxRecDepth 20000 in
theorem pX12_wayOf_26_ok {C : ZC} {E : ZE} {S : ZS} {q : (Int × ZM)} (hX : zCx C E 12 cX12_wayOf 2 (some .int) false) (hRm : czR C = { frames := 1, cells := 0, slots := 0, locals := 40 }) {M : ZM} {y0 : Int} (h : pX12_wayOf_26 S M y0 = some q) : zG C E 2 S 0 0 (zQ C E 0 0 (some (0, q.1)) S q.2) 26 [none, none] [(0, y0)] M := by
  unfold pX12_wayOf_26 at h
  cases h
  exact zG.iret hX (by decide +kernel)
noncomputable def pX12_wayOf (S : ZS) (M : ZM) (a0 : Int) (a1 : Int) : Option (Int × ZM) := if S.1 a0 = 12 then if S.1 (M a0 1) = 100 ∧ (0 : Int) ≤ 3 ∧ 3 < S.2.1 (M a0 1) then if M (M a0 1) 3 = 0 then (pX12_wayOf_26 S M 0) else (if ¬ M (M a0 1) 3 = 0 then if S.1 (M a0 6) = 100 ∧ (0 : Int) ≤ Int.tmod a1 (M (M a0 1) 3) ∧ Int.tmod a1 (M (M a0 1) 3) < S.2.1 (M a0 6) then pX12_wayOf_26 S M (M (M a0 6) (Int.tmod a1 (M (M a0 1) 3))) else none else none) else none else none
set_option maxHeartbeats 2000000 in
set_option maxRecDepth 20000 in
theorem pX12_wayOf_go {C : ZC} {E : ZE} {S : ZS} {M : ZM} {a0 a1 : Int} {q : (Int × ZM)} (hX : zCx C E 12 cX12_wayOf 2 (some .int) false) (hRm : czR C = { frames := 1, cells := 0, slots := 0, locals := 40 }) (h : pX12_wayOf  S M a0 a1 = some q) : zG C E 2 S 0 0 (zQ C E 0 0 (some (0, q.1)) S q.2) 0 [some (2, a0), some (0, a1)] [] M := by
  unfold pX12_wayOf at h
  obtain ⟨g1, h⟩ := zif h
  obtain ⟨g2, h⟩ := zif h
  refine zG.blk (pc' := 6) (l' := [some (2, a0), some (0, a1)]) (st' := [(0, M (M a0 1) 3)]) (M' := M) hX [(.aload_n 0, 0, 0, 0), (.getfield 9, 12, 1, 2), (.iconst 3, 0, 0, 0), (.iaload, 0, 0, 0)] (by decide +kernel) rfl (And.intro g1 (And.intro g2 trivial)) ?_
  refine zG.if_ne (tgt := 13) (off := 7) hX (by decide +kernel) (by decide) (fun c3 => ?_) (fun c3 => ?_)
  · have h := zin c3 h
    obtain ⟨g4, h⟩ := zif h
    obtain ⟨g5, h⟩ := zif h
    refine zG.blk (pc' := 26) (l' := [some (2, a0), some (0, a1)]) (st' := [(0, M (M a0 6) (Int.tmod a1 (M (M a0 1) 3)))]) (M' := M) hX [(.aload_n 0, 0, 0, 0), (.getfield 25, 12, 6, 2), (.iload_n 1, 0, 0, 0), (.aload_n 0, 0, 0, 0), (.getfield 9, 12, 1, 2), (.iconst 3, 0, 0, 0), (.iaload, 0, 0, 0), (.irem, 0, 0, 0), (.iaload, 0, 0, 0)] (by decide +kernel) rfl (And.intro g1 (And.intro g1 (And.intro g2 (And.intro g4 (And.intro g5 trivial))))) ?_
    exact zG.wk [false, false] (pX12_wayOf_26_ok hX hRm h)
  · have h := zip c3 h
    refine zG.blk (pc' := 10) (l' := [some (2, a0), some (0, a1)]) (st' := [(0, 0)]) (M' := M) hX [(.iconst 0, 0, 0, 0)] (by decide +kernel) rfl trivial ?_
    refine zG.goto (tgt := 26) (off := 16) hX (by decide +kernel) (by decide) ?_
    exact zG.wk [false, false] (pX12_wayOf_26_ok hX hRm h)
theorem pX12_wayOf_ok {l : Launch} {E : ZE} {S : ZS} {M : ZM} {a0 a1 : Int} {q : (Int × ZM)} (h : pX12_wayOf S M a0 a1 = some q) : zMet l yX12_wayOf cX12_wayOf 2 (some .int) 1 40 0 0 E S M [(2, a0), (0, a1)] (some (0, q.1)) S q.2 :=
  zMet.of (o := 12) (ini := false) (by decide +kernel) rfl (fun h => by cases h) (Nat.le_of_ble_eq_true rfl) (fun C hX hl hRm => by subst hl; exact pX12_wayOf_go hX hRm h)
theorem sv_12_353 : zSV 12 353 yX12_wayOf cX12_wayOf 2 (some .int) 1 := ⟨⟨gt_at 1524 (by decide +kernel) rfl, gt_at 1526 (by decide +kernel) rfl, gt_at 75 (by decide +kernel) rfl, gt_at 117 (by decide +kernel) rfl, gt_at 1527 (by decide +kernel) rfl⟩, by decide +kernel, by decide +kernel, by decide +kernel⟩
theorem sv_12_363 : zSV 12 363 yX12_beside cX12_beside 6 (some .int) 2 := ⟨⟨gt_at 1550 (by decide +kernel) rfl, gt_at 1552 (by decide +kernel) rfl, gt_at 80 (by decide +kernel) rfl, gt_at 117 (by decide +kernel) rfl, gt_at 1553 (by decide +kernel) rfl⟩, by decide +kernel, by decide +kernel, by decide +kernel⟩
theorem ss_12_350 : zSS 12 350 yX12_has cX12_has 2 (some .boolean) 2 := ⟨⟨gt_at 1521 (by decide +kernel) rfl, gt_at 1522 (by decide +kernel) rfl, gt_at 117 (by decide +kernel) rfl, gt_at 1523 (by decide +kernel) rfl⟩, by decide +kernel, by decide +kernel, by decide +kernel⟩
noncomputable def pX12_drifts_95 (S : ZS) (k2 : ZM → Int → Int → Option ZM) (M : ZM) (x0 : Int) (x1 : Int) (y0 : Int) (y1 : Int) (y2 : Int) : Option ZM := if S.1 y2 = 100 ∧ (0 : Int) ≤ y1 ∧ y1 < S.2.1 y2 then zlet (upM M y2 y1 y0) fun M18 => k2 M18 x0 (w32 (x1 + 1)) else none
set_option maxHeartbeats 2000000 in
set_option maxRecDepth 20000 in
theorem pX12_drifts_95_ok {C : ZC} {E : ZE} {S : ZS} {k2 : ZM → Int → Int → Option ZM} {q : ZM} (hX : zCx C E 12 cX12_drifts 4 none false) (hRm : czR C = { frames := 2, cells := 0, slots := 0, locals := 65 }) (hk2 : ∀ M x0 x1, k2 M x0 x1 = some q → zG C E 4 S 0 0 (zQ C E 0 0 none S q) 2 [some (2, x0), some (0, x1), none, none] [] M) {M : ZM} {x0 : Int} {x1 : Int} {y0 : Int} {y1 : Int} {y2 : Int} (h : pX12_drifts_95 S k2 M x0 x1 y0 y1 y2 = some q) : zG C E 4 S 0 0 (zQ C E 0 0 none S q) 95 [some (2, x0), some (0, x1), none, none] [(0, y0), (0, y1), (2, y2)] M := by
  unfold pX12_drifts_95 at h
  obtain ⟨g17, h⟩ := zif h
  refine zG.blk (pc' := 96) (l' := [some (2, x0), some (0, x1), none, none]) (st' := []) (M' := (upM M y2 y1 y0)) hX [(.iastore, 0, 0, 0)] (by decide +kernel) rfl (And.intro g17 trivial) ?_
  generalize upM M y2 y1 y0 = M18 at h ⊢
  have h := zlt h
  refine zG.blk (pc' := 99) (l' := [some (2, x0), some (0, w32 (x1 + 1)), none, none]) (st' := []) (M' := M18) hX [(.iinc 1 1, 0, 0, 0)] (by decide +kernel) rfl trivial ?_
  refine zG.goto (tgt := 2) (off := (-97)) hX (by decide +kernel) (by decide) ?_
  exact (hk2 _ _ _ h)
noncomputable def pX12_drifts_75 (S : ZS) (k2 : ZM → Int → Int → Option ZM) (M : ZM) (x0 : Int) (x1 : Int) (x2 : Int) (y0 : Int) : Option ZM := if S.1 x0 = 12 then if y0 = 0 then (if S.1 (M x0 2) = 100 ∧ (0 : Int) ≤ x1 ∧ x1 < S.2.1 (M x0 2) then pX12_drifts_95 S k2 M x0 x1 (M (M x0 2) x1) x1 (M x0 2) else none) else (pX12_drifts_95 S k2 M x0 x1 x2 x1 (M x0 2)) else none
set_option maxHeartbeats 2000000 in
set_option maxRecDepth 20000 in
theorem pX12_drifts_75_ok {C : ZC} {E : ZE} {S : ZS} {k2 : ZM → Int → Int → Option ZM} {q : ZM} (hX : zCx C E 12 cX12_drifts 4 none false) (hRm : czR C = { frames := 2, cells := 0, slots := 0, locals := 65 }) (hk2 : ∀ M x0 x1, k2 M x0 x1 = some q → zG C E 4 S 0 0 (zQ C E 0 0 none S q) 2 [some (2, x0), some (0, x1), none, none] [] M) {M : ZM} {x0 : Int} {x1 : Int} {x2 : Int} {y0 : Int} (h : pX12_drifts_75 S k2 M x0 x1 x2 y0 = some q) : zG C E 4 S 0 0 (zQ C E 0 0 none S q) 75 [some (2, x0), some (0, x1), some (0, x2), none] [(0, y0)] M := by
  unfold pX12_drifts_75 at h
  obtain ⟨g14, h⟩ := zif h
  refine zG.blk (pc' := 82) (l' := [some (2, x0), some (0, x1), some (0, x2), some (0, y0)]) (st' := [(0, y0), (0, x1), (2, M x0 2)]) (M' := M) hX [(.istore_n 3, 0, 0, 0), (.aload_n 0, 0, 0, 0), (.getfield 13, 12, 2, 2), (.iload_n 1, 0, 0, 0), (.iload_n 3, 0, 0, 0)] (by decide +kernel) rfl (And.intro g14 trivial) ?_
  refine zG.if_eq (tgt := 89) (off := 7) hX (by decide +kernel) (by decide) (fun c15 => ?_) (fun c15 => ?_)
  · have h := zip c15 h
    obtain ⟨g16, h⟩ := zif h
    refine zG.blk (pc' := 95) (l' := [some (2, x0), some (0, x1), some (0, x2), some (0, y0)]) (st' := [(0, M (M x0 2) x1), (0, x1), (2, M x0 2)]) (M' := M) hX [(.aload_n 0, 0, 0, 0), (.getfield 13, 12, 2, 2), (.iload_n 1, 0, 0, 0), (.iaload, 0, 0, 0)] (by decide +kernel) rfl (And.intro g14 (And.intro g16 trivial)) ?_
    exact zG.wk [true, true, false, false] (pX12_drifts_95_ok hX hRm hk2 h)
  · have h := zin c15 h
    refine zG.blk (pc' := 86) (l' := [some (2, x0), some (0, x1), some (0, x2), some (0, y0)]) (st' := [(0, x2), (0, x1), (2, M x0 2)]) (M' := M) hX [(.iload_n 2, 0, 0, 0)] (by decide +kernel) rfl trivial ?_
    refine zG.goto (tgt := 95) (off := 9) hX (by decide +kernel) (by decide) ?_
    exact zG.wk [true, true, false, false] (pX12_drifts_95_ok hX hRm hk2 h)
noncomputable def pX12_drifts_74 (S : ZS) (k2 : ZM → Int → Int → Option ZM) (M : ZM) (x0 : Int) (x1 : Int) (x2 : Int) : Option ZM := pX12_drifts_75 S k2 M x0 x1 x2 0
set_option maxHeartbeats 2000000 in
set_option maxRecDepth 20000 in
theorem pX12_drifts_74_ok {C : ZC} {E : ZE} {S : ZS} {k2 : ZM → Int → Int → Option ZM} {q : ZM} (hX : zCx C E 12 cX12_drifts 4 none false) (hRm : czR C = { frames := 2, cells := 0, slots := 0, locals := 65 }) (hk2 : ∀ M x0 x1, k2 M x0 x1 = some q → zG C E 4 S 0 0 (zQ C E 0 0 none S q) 2 [some (2, x0), some (0, x1), none, none] [] M) {M : ZM} {x0 : Int} {x1 : Int} {x2 : Int} (h : pX12_drifts_74 S k2 M x0 x1 x2 = some q) : zG C E 4 S 0 0 (zQ C E 0 0 none S q) 74 [some (2, x0), some (0, x1), some (0, x2), none] [] M := by
  unfold pX12_drifts_74 at h
  refine zG.blk (pc' := 75) (l' := [some (2, x0), some (0, x1), some (0, x2), none]) (st' := [(0, 0)]) (M' := M) hX [(.iconst 0, 0, 0, 0)] (by decide +kernel) rfl trivial ?_
  exact (pX12_drifts_75_ok hX hRm hk2 h)
theorem sv_12_356 : zSV 12 356 yX12_forceOf cX12_forceOf 2 (some .int) 1 := ⟨⟨gt_at 1528 (by decide +kernel) rfl, gt_at 1530 (by decide +kernel) rfl, gt_at 76 (by decide +kernel) rfl, gt_at 117 (by decide +kernel) rfl, gt_at 1531 (by decide +kernel) rfl⟩, by decide +kernel, by decide +kernel, by decide +kernel⟩
noncomputable def pX12_drifts_2 (S : ZS) : Nat → ZM → Int → Int → Option ZM
  | 0 => fun _ _ _ => none
  | n + 1 => fun M x0 x1 => if S.1 x0 = 12 then if S.1 (M x0 1) = 100 ∧ (0 : Int) ≤ 2 ∧ 2 < S.2.1 (M x0 1) then if M (M x0 1) 2 ≤ x1 then (some M) else (if S.1 (M x0 2) = 100 ∧ (0 : Int) ≤ x1 ∧ x1 < S.2.1 (M x0 2) then if S.1 (M x0 1) = 100 ∧ (0 : Int) ≤ 4 ∧ 4 < S.2.1 (M x0 1) then (pX12_wayOf S M x0 (M (M x0 1) 4)).bind fun q6 => (pX12_beside S q6.2 x0 (M (M x0 2) x1) q6.1).bind fun q8 => if S.1 (q8.2 x0 1) = 100 ∧ (0 : Int) ≤ 5 ∧ 5 < S.2.1 (q8.2 x0 1) then (pX12_has S q8.2 (q8.2 (q8.2 x0 1) 5) x1).bind fun q11 => if q11.1 = 0 then (if S.1 (q11.2 x0 3) = 100 ∧ (0 : Int) ≤ x1 ∧ x1 < S.2.1 (q11.2 x0 3) then if S.1 (q11.2 x0 1) = 100 ∧ (0 : Int) ≤ 4 ∧ 4 < S.2.1 (q11.2 x0 1) then (pX12_forceOf S q11.2 x0 (q11.2 (q11.2 x0 1) 4)).bind fun q21 => if q21.1 < q11.2 (q11.2 x0 3) x1 then (pX12_drifts_74 S (pX12_drifts_2 S n) q21.2 x0 x1 q8.1) else (if q8.1 = (-1) then (pX12_drifts_74 S (pX12_drifts_2 S n) q21.2 x0 x1 q8.1) else (pX12_drifts_75 S (pX12_drifts_2 S n) q21.2 x0 x1 q8.1 1)) else none else none) else (pX12_drifts_74 S (pX12_drifts_2 S n) q11.2 x0 x1 q8.1) else none else none else none) else none else none
set_option maxHeartbeats 2000000 in
set_option maxRecDepth 20000 in
theorem pX12_drifts_2_ok {C : ZC} {E : ZE} {S : ZS} {q : ZM} (hX : zCx C E 12 cX12_drifts 4 none false) (hRm : czR C = { frames := 2, cells := 0, slots := 0, locals := 65 }) : ∀ (n : Nat) (M : ZM) (x0 : Int) (x1 : Int), pX12_drifts_2 S n M x0 x1 = some q → zG C E 4 S 0 0 (zQ C E 0 0 none S q) 2 [some (2, x0), some (0, x1), none, none] [] M := by
  intro n
  induction n with
  | zero => intro M x0 x1 h; cases h
  | succ n ih =>
    intro M x0 x1 h
    unfold pX12_drifts_2 at h
    obtain ⟨g1, h⟩ := zif h
    obtain ⟨g2, h⟩ := zif h
    refine zG.blk (pc' := 9) (l' := [some (2, x0), some (0, x1), none, none]) (st' := [(0, M (M x0 1) 2), (0, x1)]) (M' := M) hX [(.iload_n 1, 0, 0, 0), (.aload_n 0, 0, 0, 0), (.getfield 9, 12, 1, 2), (.iconst 2, 0, 0, 0), (.iaload, 0, 0, 0)] (by decide +kernel) rfl (And.intro g1 (And.intro g2 trivial)) ?_
    refine zG.icmp_ge (tgt := 102) (off := 93) hX (by decide +kernel) (by decide) (fun c3 => ?_) (fun c3 => ?_)
    · have h := zip c3 h
      cases h
      exact zG.vret hX (by decide +kernel)
    · have h := zin c3 h
      obtain ⟨g4, h⟩ := zif h
      obtain ⟨g5, h⟩ := zif h
      refine zG.blk (pc' := 26) (l' := [some (2, x0), some (0, x1), none, none]) (st' := [(0, M (M x0 1) 4), (2, x0), (0, M (M x0 2) x1), (2, x0)]) (M' := M) hX [(.aload_n 0, 0, 0, 0), (.aload_n 0, 0, 0, 0), (.getfield 13, 12, 2, 2), (.iload_n 1, 0, 0, 0), (.iaload, 0, 0, 0), (.aload_n 0, 0, 0, 0), (.aload_n 0, 0, 0, 0), (.getfield 9, 12, 1, 2), (.iconst 4, 0, 0, 0), (.iaload, 0, 0, 0)] (by decide +kernel) rfl (And.intro g1 (And.intro g4 (And.intro g1 (And.intro g5 trivial)))) ?_
      obtain ⟨q6, e7, h⟩ := zbd h
      refine zG.callV (b := x0) (av := [(0, M (M x0 1) 4)]) (st := [(0, M (M x0 2) x1), (2, x0)]) (ci := 12) hX (pX12_wayOf_ok e7) sv_12_353 rfl ⟨by decide, rfl⟩ g1 (by decide +kernel) (by rw [hRm]; exact ⟨Nat.le_of_ble_eq_true rfl, Nat.le_of_ble_eq_true rfl⟩) (by rw [hRm]; exact ⟨Nat.le_of_ble_eq_true rfl, Nat.le_of_ble_eq_true rfl⟩) (Nat.le_of_ble_eq_true rfl) ?_
      show zG C E 4 S 0 0 _ 29 [some (2, x0), some (0, x1), none, none] [(0, q6.1), (0, M (M x0 2) x1), (2, x0)] q6.2
      obtain ⟨q8, e9, h⟩ := zbd h
      refine zG.callV (b := x0) (av := [(0, M (M x0 2) x1), (0, q6.1)]) (st := []) (ci := 12) hX (pX12_beside_ok e9) sv_12_363 rfl ⟨by decide, rfl⟩ g1 (by decide +kernel) (by rw [hRm]; exact ⟨Nat.le_of_ble_eq_true rfl, Nat.le_of_ble_eq_true rfl⟩) (by rw [hRm]; exact ⟨Nat.le_of_ble_eq_true rfl, Nat.le_of_ble_eq_true rfl⟩) (Nat.le_of_ble_eq_true rfl) ?_
      show zG C E 4 S 0 0 _ 32 [some (2, x0), some (0, x1), none, none] [(0, q8.1)] q8.2
      obtain ⟨g10, h⟩ := zif h
      refine zG.blk (pc' := 40) (l' := [some (2, x0), some (0, x1), some (0, q8.1), none]) (st' := [(0, x1), (0, q8.2 (q8.2 x0 1) 5)]) (M' := q8.2) hX [(.istore_n 2, 0, 0, 0), (.aload_n 0, 0, 0, 0), (.getfield 9, 12, 1, 2), (.iconst 5, 0, 0, 0), (.iaload, 0, 0, 0), (.iload_n 1, 0, 0, 0)] (by decide +kernel) rfl (And.intro g1 (And.intro g10 trivial)) ?_
      obtain ⟨q11, e12, h⟩ := zbd h
      refine zG.callS (av := [(0, q8.2 (q8.2 x0 1) 5), (0, x1)]) (st := []) hX (pX12_has_ok e12) ss_12_350 rfl (by decide +kernel) (by rw [hRm]; exact ⟨Nat.le_of_ble_eq_true rfl, Nat.le_of_ble_eq_true rfl⟩) (by rw [hRm]; exact ⟨Nat.le_of_ble_eq_true rfl, Nat.le_of_ble_eq_true rfl⟩) (Nat.le_of_ble_eq_true rfl) ?_
      show zG C E 4 S 0 0 _ 43 [some (2, x0), some (0, x1), some (0, q8.1), none] [(0, q11.1)] q11.2
      refine zG.if_ne (tgt := 74) (off := 31) hX (by decide +kernel) (by decide) (fun c13 => ?_) (fun c13 => ?_)
      · have h := zin c13 h
        exact (pX12_drifts_74_ok hX hRm ih h)
      · have h := zip c13 h
        obtain ⟨g19, h⟩ := zif h
        obtain ⟨g20, h⟩ := zif h
        refine zG.blk (pc' := 59) (l' := [some (2, x0), some (0, x1), some (0, q8.1), none]) (st' := [(0, q11.2 (q11.2 x0 1) 4), (2, x0), (0, q11.2 (q11.2 x0 3) x1)]) (M' := q11.2) hX [(.aload_n 0, 0, 0, 0), (.getfield 16, 12, 3, 2), (.iload_n 1, 0, 0, 0), (.iaload, 0, 0, 0), (.aload_n 0, 0, 0, 0), (.aload_n 0, 0, 0, 0), (.getfield 9, 12, 1, 2), (.iconst 4, 0, 0, 0), (.iaload, 0, 0, 0)] (by decide +kernel) rfl (And.intro g1 (And.intro g19 (And.intro g1 (And.intro g20 trivial)))) ?_
        obtain ⟨q21, e22, h⟩ := zbd h
        refine zG.callV (b := x0) (av := [(0, q11.2 (q11.2 x0 1) 4)]) (st := [(0, q11.2 (q11.2 x0 3) x1)]) (ci := 12) hX (pX12_forceOf_ok e22) sv_12_356 rfl ⟨by decide, rfl⟩ g1 (by decide +kernel) (by rw [hRm]; exact ⟨Nat.le_of_ble_eq_true rfl, Nat.le_of_ble_eq_true rfl⟩) (by rw [hRm]; exact ⟨Nat.le_of_ble_eq_true rfl, Nat.le_of_ble_eq_true rfl⟩) (Nat.le_of_ble_eq_true rfl) ?_
        show zG C E 4 S 0 0 _ 62 [some (2, x0), some (0, x1), some (0, q8.1), none] [(0, q21.1), (0, q11.2 (q11.2 x0 3) x1)] q21.2
        refine zG.icmp_gt (tgt := 74) (off := 12) hX (by decide +kernel) (by decide) (fun c23 => ?_) (fun c23 => ?_)
        · have h := zip c23 h
          exact (pX12_drifts_74_ok hX hRm ih h)
        · have h := zin c23 h
          refine zG.blk (pc' := 67) (l' := [some (2, x0), some (0, x1), some (0, q8.1), none]) (st' := [(0, (-1)), (0, q8.1)]) (M' := q21.2) hX [(.iload_n 2, 0, 0, 0), (.iconst (-1), 0, 0, 0)] (by decide +kernel) rfl trivial ?_
          refine zG.icmp_eq (tgt := 74) (off := 7) hX (by decide +kernel) (by decide) (fun c24 => ?_) (fun c24 => ?_)
          · have h := zip c24 h
            exact (pX12_drifts_74_ok hX hRm ih h)
          · have h := zin c24 h
            refine zG.blk (pc' := 71) (l' := [some (2, x0), some (0, x1), some (0, q8.1), none]) (st' := [(0, 1)]) (M' := q21.2) hX [(.iconst 1, 0, 0, 0)] (by decide +kernel) rfl trivial ?_
            refine zG.goto (tgt := 75) (off := 4) hX (by decide +kernel) (by decide) ?_
            exact (pX12_drifts_75_ok hX hRm ih h)
noncomputable def pX12_drifts (S : ZS) (M : ZM) (a0 : Int) : Option ZM := pX12_drifts_2 S zFU M a0 0
set_option maxHeartbeats 2000000 in
set_option maxRecDepth 20000 in
theorem pX12_drifts_go {C : ZC} {E : ZE} {S : ZS} {M : ZM} {a0 : Int} {q : ZM} (hX : zCx C E 12 cX12_drifts 4 none false) (hRm : czR C = { frames := 2, cells := 0, slots := 0, locals := 65 }) (h : pX12_drifts  S M a0 = some q) : zG C E 4 S 0 0 (zQ C E 0 0 none S q) 0 [some (2, a0), none, none, none] [] M := by
  unfold pX12_drifts at h
  refine zG.blk (pc' := 2) (l' := [some (2, a0), some (0, 0), none, none]) (st' := []) (M' := M) hX [(.iconst 0, 0, 0, 0), (.istore_n 1, 0, 0, 0)] (by decide +kernel) rfl trivial ?_
  exact (pX12_drifts_2_ok hX hRm zFU _ _ _ h)
theorem pX12_drifts_ok {l : Launch} {E : ZE} {S : ZS} {M : ZM} {a0 : Int} {q : ZM} (h : pX12_drifts S M a0 = some q) : zMet l yX12_drifts cX12_drifts 4 none 2 65 0 0 E S M [(2, a0)] (none) S q :=
  zMet.of (o := 12) (ini := false) (by decide +kernel) rfl (fun h => by cases h) (Nat.le_of_ble_eq_true rfl) (fun C hX hl hRm => by subst hl; exact pX12_drifts_go hX hRm h)
noncomputable def pX12_lays_27 (S : ZS) (M : ZM) (y0 : Int) (y1 : Int) (y2 : Int) : Option ZM := if S.1 y2 = 100 ∧ (0 : Int) ≤ y1 ∧ y1 < S.2.1 y2 then zlet (upM M y2 y1 y0) fun M7 => some M7 else none
set_option maxHeartbeats 2000000 in
set_option maxRecDepth 20000 in
theorem pX12_lays_27_ok {C : ZC} {E : ZE} {S : ZS} {q : ZM} (hX : zCx C E 12 cX12_lays 3 none false) (hRm : czR C = { frames := 1, cells := 0, slots := 0, locals := 40 }) {M : ZM} {y0 : Int} {y1 : Int} {y2 : Int} (h : pX12_lays_27 S M y0 y1 y2 = some q) : zG C E 3 S 0 0 (zQ C E 0 0 none S q) 27 [none, none, none] [(0, y0), (0, y1), (2, y2)] M := by
  unfold pX12_lays_27 at h
  obtain ⟨g6, h⟩ := zif h
  refine zG.blk (pc' := 28) (l' := [none, none, none]) (st' := []) (M' := (upM M y2 y1 y0)) hX [(.iastore, 0, 0, 0)] (by decide +kernel) rfl (And.intro g6 trivial) ?_
  generalize upM M y2 y1 y0 = M7 at h ⊢
  have h := zlt h
  cases h
  exact zG.vret hX (by decide +kernel)
noncomputable def pX12_lays (S : ZS) (M : ZM) (a0 : Int) (a1 : Int) (a2 : Int) : Option ZM := if S.1 a0 = 12 then if S.1 (M a0 4) = 100 ∧ (0 : Int) ≤ a1 ∧ a1 < S.2.1 (M a0 4) then zlet (upM M (M a0 4) a1 a2) fun M3 => if a2 = (-1) then (pX12_lays_27 S M3 (-1) a1 (M3 a0 5)) else (if S.1 (M3 a0 1) = 100 ∧ (0 : Int) ≤ 4 ∧ 4 < S.2.1 (M3 a0 1) then pX12_lays_27 S M3 (M3 (M3 a0 1) 4) a1 (M3 a0 5) else none) else none else none
set_option maxHeartbeats 2000000 in
set_option maxRecDepth 20000 in
theorem pX12_lays_go {C : ZC} {E : ZE} {S : ZS} {M : ZM} {a0 a1 a2 : Int} {q : ZM} (hX : zCx C E 12 cX12_lays 3 none false) (hRm : czR C = { frames := 1, cells := 0, slots := 0, locals := 40 }) (h : pX12_lays  S M a0 a1 a2 = some q) : zG C E 3 S 0 0 (zQ C E 0 0 none S q) 0 [some (2, a0), some (0, a1), some (0, a2)] [] M := by
  unfold pX12_lays at h
  obtain ⟨g1, h⟩ := zif h
  obtain ⟨g2, h⟩ := zif h
  refine zG.blk (pc' := 7) (l' := [some (2, a0), some (0, a1), some (0, a2)]) (st' := []) (M' := (upM M (M a0 4) a1 a2)) hX [(.aload_n 0, 0, 0, 0), (.getfield 19, 12, 4, 2), (.iload_n 1, 0, 0, 0), (.iload_n 2, 0, 0, 0), (.iastore, 0, 0, 0)] (by decide +kernel) rfl (And.intro g1 (And.intro g2 trivial)) ?_
  generalize upM M (M a0 4) a1 a2 = M3 at h ⊢
  have h := zlt h
  refine zG.blk (pc' := 14) (l' := [some (2, a0), some (0, a1), some (0, a2)]) (st' := [(0, (-1)), (0, a2), (0, a1), (2, M3 a0 5)]) (M' := M3) hX [(.aload_n 0, 0, 0, 0), (.getfield 22, 12, 5, 2), (.iload_n 1, 0, 0, 0), (.iload_n 2, 0, 0, 0), (.iconst (-1), 0, 0, 0)] (by decide +kernel) rfl (And.intro g1 trivial) ?_
  refine zG.icmp_ne (tgt := 21) (off := 7) hX (by decide +kernel) (by decide) (fun c4 => ?_) (fun c4 => ?_)
  · have h := zin c4 h
    obtain ⟨g5, h⟩ := zif h
    refine zG.blk (pc' := 27) (l' := [some (2, a0), some (0, a1), some (0, a2)]) (st' := [(0, M3 (M3 a0 1) 4), (0, a1), (2, M3 a0 5)]) (M' := M3) hX [(.aload_n 0, 0, 0, 0), (.getfield 9, 12, 1, 2), (.iconst 4, 0, 0, 0), (.iaload, 0, 0, 0)] (by decide +kernel) rfl (And.intro g1 (And.intro g5 trivial)) ?_
    exact zG.wk [false, false, false] (pX12_lays_27_ok hX hRm h)
  · have h := zip c4 h
    refine zG.blk (pc' := 18) (l' := [some (2, a0), some (0, a1), some (0, a2)]) (st' := [(0, (-1)), (0, a1), (2, M3 a0 5)]) (M' := M3) hX [(.iconst (-1), 0, 0, 0)] (by decide +kernel) rfl trivial ?_
    refine zG.goto (tgt := 27) (off := 9) hX (by decide +kernel) (by decide) ?_
    exact zG.wk [false, false, false] (pX12_lays_27_ok hX hRm h)
theorem pX12_lays_ok {l : Launch} {E : ZE} {S : ZS} {M : ZM} {a0 a1 a2 : Int} {q : ZM} (h : pX12_lays S M a0 a1 a2 = some q) : zMet l yX12_lays cX12_lays 3 none 1 40 0 0 E S M [(2, a0), (0, a1), (0, a2)] (none) S q :=
  zMet.of (o := 12) (ini := false) (by decide +kernel) rfl (fun h => by cases h) (Nat.le_of_ble_eq_true rfl) (fun C hX hl hRm => by subst hl; exact pX12_lays_go hX hRm h)
noncomputable def pX12_fades_48 (S : ZS) (k2 : ZM → Int → Int → Option ZM) (M : ZM) (x0 : Int) (x1 : Int) : Option ZM := k2 M x0 (w32 (x1 + 1))
set_option maxHeartbeats 2000000 in
set_option maxRecDepth 20000 in
theorem pX12_fades_48_ok {C : ZC} {E : ZE} {S : ZS} {k2 : ZM → Int → Int → Option ZM} {q : ZM} (hX : zCx C E 12 cX12_fades 2 none false) (hRm : czR C = { frames := 2, cells := 0, slots := 0, locals := 62 }) (hk2 : ∀ M x0 x1, k2 M x0 x1 = some q → zG C E 2 S 0 0 (zQ C E 0 0 none S q) 2 [some (2, x0), some (0, x1)] [] M) {M : ZM} {x0 : Int} {x1 : Int} (h : pX12_fades_48 S k2 M x0 x1 = some q) : zG C E 2 S 0 0 (zQ C E 0 0 none S q) 48 [some (2, x0), some (0, x1)] [] M := by
  unfold pX12_fades_48 at h
  refine zG.blk (pc' := 51) (l' := [some (2, x0), some (0, w32 (x1 + 1))]) (st' := []) (M' := M) hX [(.iinc 1 1, 0, 0, 0)] (by decide +kernel) rfl trivial ?_
  refine zG.goto (tgt := 2) (off := (-49)) hX (by decide +kernel) (by decide) ?_
  exact (hk2 _ _ _ h)
theorem sv_12_366 : zSV 12 366 yX12_lays cX12_lays 3 none 2 := ⟨⟨gt_at 1558 (by decide +kernel) rfl, gt_at 1560 (by decide +kernel) rfl, gt_at 82 (by decide +kernel) rfl, gt_at 117 (by decide +kernel) rfl, gt_at 1561 (by decide +kernel) rfl⟩, by decide +kernel, by decide +kernel, by decide +kernel⟩
noncomputable def pX12_fades_2 (S : ZS) : Nat → ZM → Int → Int → Option ZM
  | 0 => fun _ _ _ => none
  | n + 1 => fun M x0 x1 => if S.1 x0 = 12 then (pX12_cells S M x0).bind fun q1 => if q1.1 ≤ x1 then (some q1.2) else (if S.1 (q1.2 x0 4) = 100 ∧ (0 : Int) ≤ x1 ∧ x1 < S.2.1 (q1.2 x0 4) then if q1.2 (q1.2 x0 4) x1 = (-1) then (pX12_fades_48 S (pX12_fades_2 S n) q1.2 x0 x1) else (if S.1 (q1.2 x0 1) = 100 ∧ (0 : Int) ≤ 4 ∧ 4 < S.2.1 (q1.2 x0 1) then if S.1 (q1.2 x0 5) = 100 ∧ (0 : Int) ≤ x1 ∧ x1 < S.2.1 (q1.2 x0 5) then if S.1 (q1.2 x0 1) = 100 ∧ (0 : Int) ≤ 1 ∧ 1 < S.2.1 (q1.2 x0 1) then if w32 ((q1.2 (q1.2 x0 1) 4) - (q1.2 (q1.2 x0 5) x1)) ≤ q1.2 (q1.2 x0 1) 1 then (pX12_fades_48 S (pX12_fades_2 S n) q1.2 x0 x1) else ((pX12_lays S q1.2 x0 x1 (-1)).bind fun q11 => pX12_fades_48 S (pX12_fades_2 S n) q11 x0 x1) else none else none else none) else none) else none
set_option maxHeartbeats 2000000 in
set_option maxRecDepth 20000 in
theorem pX12_fades_2_ok {C : ZC} {E : ZE} {S : ZS} {q : ZM} (hX : zCx C E 12 cX12_fades 2 none false) (hRm : czR C = { frames := 2, cells := 0, slots := 0, locals := 62 }) : ∀ (n : Nat) (M : ZM) (x0 : Int) (x1 : Int), pX12_fades_2 S n M x0 x1 = some q → zG C E 2 S 0 0 (zQ C E 0 0 none S q) 2 [some (2, x0), some (0, x1)] [] M := by
  intro n
  induction n with
  | zero => intro M x0 x1 h; cases h
  | succ n ih =>
    intro M x0 x1 h
    unfold pX12_fades_2 at h
    refine zG.blk (pc' := 4) (l' := [some (2, x0), some (0, x1)]) (st' := [(2, x0), (0, x1)]) (M' := M) hX [(.iload_n 1, 0, 0, 0), (.aload_n 0, 0, 0, 0)] (by decide +kernel) rfl trivial ?_
    obtain ⟨g3, h⟩ := zif h
    obtain ⟨q1, e2, h⟩ := zbd h
    refine zG.callV (b := x0) (av := []) (st := [(0, x1)]) (ci := 12) hX (pX12_cells_ok e2) sv_12_134 rfl ⟨by decide, rfl⟩ g3 (by decide +kernel) (by rw [hRm]; exact ⟨Nat.le_of_ble_eq_true rfl, Nat.le_of_ble_eq_true rfl⟩) (by rw [hRm]; exact ⟨Nat.le_of_ble_eq_true rfl, Nat.le_of_ble_eq_true rfl⟩) (Nat.le_of_ble_eq_true rfl) ?_
    show zG C E 2 S 0 0 _ 7 [some (2, x0), some (0, x1)] [(0, q1.1), (0, x1)] q1.2
    refine zG.icmp_ge (tgt := 54) (off := 47) hX (by decide +kernel) (by decide) (fun c4 => ?_) (fun c4 => ?_)
    · have h := zip c4 h
      cases h
      exact zG.vret hX (by decide +kernel)
    · have h := zin c4 h
      obtain ⟨g5, h⟩ := zif h
      refine zG.blk (pc' := 17) (l' := [some (2, x0), some (0, x1)]) (st' := [(0, (-1)), (0, q1.2 (q1.2 x0 4) x1)]) (M' := q1.2) hX [(.aload_n 0, 0, 0, 0), (.getfield 19, 12, 4, 2), (.iload_n 1, 0, 0, 0), (.iaload, 0, 0, 0), (.iconst (-1), 0, 0, 0)] (by decide +kernel) rfl (And.intro g3 (And.intro g5 trivial)) ?_
      refine zG.icmp_eq (tgt := 48) (off := 31) hX (by decide +kernel) (by decide) (fun c6 => ?_) (fun c6 => ?_)
      · have h := zip c6 h
        exact (pX12_fades_48_ok hX hRm ih h)
      · have h := zin c6 h
        obtain ⟨g7, h⟩ := zif h
        obtain ⟨g8, h⟩ := zif h
        obtain ⟨g9, h⟩ := zif h
        refine zG.blk (pc' := 39) (l' := [some (2, x0), some (0, x1)]) (st' := [(0, q1.2 (q1.2 x0 1) 1), (0, w32 ((q1.2 (q1.2 x0 1) 4) - (q1.2 (q1.2 x0 5) x1)))]) (M' := q1.2) hX [(.aload_n 0, 0, 0, 0), (.getfield 9, 12, 1, 2), (.iconst 4, 0, 0, 0), (.iaload, 0, 0, 0), (.aload_n 0, 0, 0, 0), (.getfield 22, 12, 5, 2), (.iload_n 1, 0, 0, 0), (.iaload, 0, 0, 0), (.isub, 0, 0, 0), (.aload_n 0, 0, 0, 0), (.getfield 9, 12, 1, 2), (.iconst 1, 0, 0, 0), (.iaload, 0, 0, 0)] (by decide +kernel) rfl (And.intro g3 (And.intro g7 (And.intro g3 (And.intro g8 (And.intro g3 (And.intro g9 trivial)))))) ?_
        refine zG.icmp_le (tgt := 48) (off := 9) hX (by decide +kernel) (by decide) (fun c10 => ?_) (fun c10 => ?_)
        · have h := zip c10 h
          exact (pX12_fades_48_ok hX hRm ih h)
        · have h := zin c10 h
          refine zG.blk (pc' := 45) (l' := [some (2, x0), some (0, x1)]) (st' := [(0, (-1)), (0, x1), (2, x0)]) (M' := q1.2) hX [(.aload_n 0, 0, 0, 0), (.iload_n 1, 0, 0, 0), (.iconst (-1), 0, 0, 0)] (by decide +kernel) rfl trivial ?_
          obtain ⟨q11, e12, h⟩ := zbd h
          refine zG.callV (b := x0) (av := [(0, x1), (0, (-1))]) (st := []) (ci := 12) hX (pX12_lays_ok e12) sv_12_366 rfl ⟨by decide, rfl⟩ g3 (by decide +kernel) (by rw [hRm]; exact ⟨Nat.le_of_ble_eq_true rfl, Nat.le_of_ble_eq_true rfl⟩) (by rw [hRm]; exact ⟨Nat.le_of_ble_eq_true rfl, Nat.le_of_ble_eq_true rfl⟩) (Nat.le_of_ble_eq_true rfl) ?_
          show zG C E 2 S 0 0 _ 48 [some (2, x0), some (0, x1)] [] q11
          exact (pX12_fades_48_ok hX hRm ih h)
noncomputable def pX12_fades (S : ZS) (M : ZM) (a0 : Int) : Option ZM := pX12_fades_2 S zFU M a0 0
set_option maxHeartbeats 2000000 in
set_option maxRecDepth 20000 in
theorem pX12_fades_go {C : ZC} {E : ZE} {S : ZS} {M : ZM} {a0 : Int} {q : ZM} (hX : zCx C E 12 cX12_fades 2 none false) (hRm : czR C = { frames := 2, cells := 0, slots := 0, locals := 62 }) (h : pX12_fades  S M a0 = some q) : zG C E 2 S 0 0 (zQ C E 0 0 none S q) 0 [some (2, a0), none] [] M := by
  unfold pX12_fades at h
  refine zG.blk (pc' := 2) (l' := [some (2, a0), some (0, 0)]) (st' := []) (M' := M) hX [(.iconst 0, 0, 0, 0), (.istore_n 1, 0, 0, 0)] (by decide +kernel) rfl trivial ?_
  exact (pX12_fades_2_ok hX hRm zFU _ _ _ h)
theorem pX12_fades_ok {l : Launch} {E : ZE} {S : ZS} {M : ZM} {a0 : Int} {q : ZM} (h : pX12_fades S M a0 = some q) : zMet l yX12_fades cX12_fades 2 none 2 62 0 0 E S M [(2, a0)] (none) S q :=
  zMet.of (o := 12) (ini := false) (by decide +kernel) rfl (fun h => by cases h) (Nat.le_of_ble_eq_true rfl) (fun C hX hl hRm => by subst hl; exact pX12_fades_go hX hRm h)
noncomputable def pX12_strikes_102 (S : ZS) (k2 : ZM → Int → Int → Int → Option ZM) (M : ZM) (x0 : Int) (x1 : Int) (x2 : Int) : Option ZM := k2 M x0 x1 (w32 (x2 + 1))
set_option maxHeartbeats 2000000 in
set_option maxRecDepth 20000 in
theorem pX12_strikes_102_ok {C : ZC} {E : ZE} {S : ZS} {k2 : ZM → Int → Int → Int → Option ZM} {q : ZM} (hX : zCx C E 12 cX12_strikes 6 none false) (hRm : czR C = { frames := 2, cells := 0, slots := 0, locals := 62 }) (hk2 : ∀ M x0 x1 x2, k2 M x0 x1 x2 = some q → zG C E 6 S 0 0 (zQ C E 0 0 none S q) 2 [some (2, x0), some (0, x1), some (0, x2), none, none, none] [] M) {M : ZM} {x0 : Int} {x1 : Int} {x2 : Int} (h : pX12_strikes_102 S k2 M x0 x1 x2 = some q) : zG C E 6 S 0 0 (zQ C E 0 0 none S q) 102 [some (2, x0), some (0, x1), some (0, x2), none, none, none] [] M := by
  unfold pX12_strikes_102 at h
  refine zG.blk (pc' := 105) (l' := [some (2, x0), some (0, x1), some (0, w32 (x2 + 1)), none, none, none]) (st' := []) (M' := M) hX [(.iinc 2 1, 0, 0, 0)] (by decide +kernel) rfl trivial ?_
  refine zG.goto (tgt := 2) (off := (-103)) hX (by decide +kernel) (by decide) ?_
  exact (hk2 _ _ _ _ h)
noncomputable def pX12_strikes_100 (S : ZS) (k2 : ZM → Int → Int → Int → Option ZM) (M : ZM) (x0 : Int) (x1 : Int) (x2 : Int) (y0 : Int) (y1 : Int) (y2 : Int) (y3 : Int) : Option ZM := if S.1 y3 = 100 ∧ (0 : Int) ≤ y2 ∧ y2 < S.2.1 y3 then zlet (upM M y3 y2 (w32 (y1 + y0))) fun M17 => pX12_strikes_102 S k2 M17 x0 x1 x2 else none
set_option maxHeartbeats 2000000 in
set_option maxRecDepth 20000 in
theorem pX12_strikes_100_ok {C : ZC} {E : ZE} {S : ZS} {k2 : ZM → Int → Int → Int → Option ZM} {q : ZM} (hX : zCx C E 12 cX12_strikes 6 none false) (hRm : czR C = { frames := 2, cells := 0, slots := 0, locals := 62 }) (hk2 : ∀ M x0 x1 x2, k2 M x0 x1 x2 = some q → zG C E 6 S 0 0 (zQ C E 0 0 none S q) 2 [some (2, x0), some (0, x1), some (0, x2), none, none, none] [] M) {M : ZM} {x0 : Int} {x1 : Int} {x2 : Int} {y0 : Int} {y1 : Int} {y2 : Int} {y3 : Int} (h : pX12_strikes_100 S k2 M x0 x1 x2 y0 y1 y2 y3 = some q) : zG C E 6 S 0 0 (zQ C E 0 0 none S q) 100 [some (2, x0), some (0, x1), some (0, x2), none, none, none] [(0, y0), (0, y1), (0, y2), (2, y3)] M := by
  unfold pX12_strikes_100 at h
  obtain ⟨g16, h⟩ := zif h
  refine zG.blk (pc' := 102) (l' := [some (2, x0), some (0, x1), some (0, x2), none, none, none]) (st' := []) (M' := (upM M y3 y2 (w32 (y1 + y0)))) hX [(.iadd, 0, 0, 0), (.iastore, 0, 0, 0)] (by decide +kernel) rfl (And.intro g16 trivial) ?_
  generalize upM M y3 y2 (w32 (y1 + y0)) = M17 at h ⊢
  have h := zlt h
  exact (pX12_strikes_102_ok hX hRm hk2 h)
noncomputable def pX12_strikes_79 (S : ZS) (k2 : ZM → Int → Int → Int → Option ZM) (M : ZM) (x0 : Int) (x1 : Int) (x2 : Int) (x3 : Int) (y0 : Int) (y1 : Int) (y2 : Int) : Option ZM := if S.1 y2 = 12 then (pX12_lays S M y2 y1 y0).bind fun q10 => if S.1 x0 = 12 then if S.1 (q10 x0 1) = 100 ∧ (0 : Int) ≤ 6 ∧ 6 < S.2.1 (q10 x0 1) then pX12_strikes_100 S k2 q10 x0 x1 x2 (if x3 ≤ 1 then (0 : Int) else 1) (q10 (q10 x0 1) 6) 6 (q10 x0 1) else none else none else none
set_option maxHeartbeats 2000000 in
set_option maxRecDepth 20000 in
theorem pX12_strikes_79_ok {C : ZC} {E : ZE} {S : ZS} {k2 : ZM → Int → Int → Int → Option ZM} {q : ZM} (hX : zCx C E 12 cX12_strikes 6 none false) (hRm : czR C = { frames := 2, cells := 0, slots := 0, locals := 62 }) (hk2 : ∀ M x0 x1 x2, k2 M x0 x1 x2 = some q → zG C E 6 S 0 0 (zQ C E 0 0 none S q) 2 [some (2, x0), some (0, x1), some (0, x2), none, none, none] [] M) {M : ZM} {x0 : Int} {x1 : Int} {x2 : Int} {x3 : Int} {y0 : Int} {y1 : Int} {y2 : Int} (h : pX12_strikes_79 S k2 M x0 x1 x2 x3 y0 y1 y2 = some q) : zG C E 6 S 0 0 (zQ C E 0 0 none S q) 79 [some (2, x0), some (0, x1), some (0, x2), some (0, x3), none, none] [(0, y0), (0, y1), (2, y2)] M := by
  unfold pX12_strikes_79 at h
  obtain ⟨g12, h⟩ := zif h
  obtain ⟨q10, e11, h⟩ := zbd h
  refine zG.callV (b := y2) (av := [(0, y1), (0, y0)]) (st := []) (ci := 12) hX (pX12_lays_ok e11) sv_12_366 rfl ⟨by decide, rfl⟩ g12 (by decide +kernel) (by rw [hRm]; exact ⟨Nat.le_of_ble_eq_true rfl, Nat.le_of_ble_eq_true rfl⟩) (by rw [hRm]; exact ⟨Nat.le_of_ble_eq_true rfl, Nat.le_of_ble_eq_true rfl⟩) (Nat.le_of_ble_eq_true rfl) ?_
  show zG C E 6 S 0 0 _ 82 [some (2, x0), some (0, x1), some (0, x2), some (0, x3), none, none] [] q10
  obtain ⟨g13, h⟩ := zif h
  obtain ⟨g14, h⟩ := zif h
  refine zG.blk (pc' := 92) (l' := [some (2, x0), some (0, x1), some (0, x2), some (0, x3), none, none]) (st' := [(0, 1), (0, x3), (0, q10 (q10 x0 1) 6), (0, 6), (2, q10 x0 1)]) (M' := q10) hX [(.aload_n 0, 0, 0, 0), (.getfield 9, 12, 1, 2), (.bipush 6, 0, 0, 0), (.dup2, 0, 0, 0), (.iaload, 0, 0, 0), (.iload_n 3, 0, 0, 0), (.iconst 1, 0, 0, 0)] (by decide +kernel) rfl (And.intro g13 (And.intro g14 trivial)) ?_
  have key15 : zG C E 6 S 0 0 (zQ C E 0 0 none S q) 100 [some (2, x0), some (0, x1), some (0, x2), some (0, x3), none, none] [(0, (if x3 ≤ 1 then (0 : Int) else 1)), (0, q10 (q10 x0 1) 6), (0, 6), (2, q10 x0 1)] q10 := by
    exact zG.wk [true, true, true, false, true, true] (pX12_strikes_100_ok hX hRm hk2 h)
  refine zG.icmp_le (tgt := 99) (off := 7) hX (by decide +kernel) (by decide) (fun c18 => ?_) (fun c18 => ?_)
  · refine zG.blk (pc' := 100) (l' := [some (2, x0), some (0, x1), some (0, x2), some (0, x3), none, none]) (st' := [(0, 0), (0, q10 (q10 x0 1) 6), (0, 6), (2, q10 x0 1)]) (M' := q10) hX [(.iconst 0, 0, 0, 0)] (by decide +kernel) rfl trivial ?_
    (have k := key15; simp only [if_pos c18] at k; exact k)
  · refine zG.blk (pc' := 96) (l' := [some (2, x0), some (0, x1), some (0, x2), some (0, x3), none, none]) (st' := [(0, 1), (0, q10 (q10 x0 1) 6), (0, 6), (2, q10 x0 1)]) (M' := q10) hX [(.iconst 1, 0, 0, 0)] (by decide +kernel) rfl trivial ?_
    refine zG.goto (tgt := 100) (off := 4) hX (by decide +kernel) (by decide) ?_
    (have k := key15; simp only [if_neg c18] at k; exact k)
noncomputable def pX12_strikes_56 (S : ZS) (k2 : ZM → Int → Int → Int → Option ZM) (k18 : ZM → Int → Int → Int → Int → Int → Int → Option ZM) (M : ZM) (x0 : Int) (x1 : Int) (x2 : Int) (x3 : Int) (x4 : Int) (x5 : Int) : Option ZM := k18 M x0 x1 x2 x3 x4 (w32 (x5 + 1))
set_option maxHeartbeats 2000000 in
set_option maxRecDepth 20000 in
theorem pX12_strikes_56_ok {C : ZC} {E : ZE} {S : ZS} {k2 : ZM → Int → Int → Int → Option ZM} {k18 : ZM → Int → Int → Int → Int → Int → Int → Option ZM} {q : ZM} (hX : zCx C E 12 cX12_strikes 6 none false) (hRm : czR C = { frames := 2, cells := 0, slots := 0, locals := 62 }) (hk2 : ∀ M x0 x1 x2, k2 M x0 x1 x2 = some q → zG C E 6 S 0 0 (zQ C E 0 0 none S q) 2 [some (2, x0), some (0, x1), some (0, x2), none, none, none] [] M) (hk18 : ∀ M x0 x1 x2 x3 x4 x5, k18 M x0 x1 x2 x3 x4 x5 = some q → zG C E 6 S 0 0 (zQ C E 0 0 none S q) 18 [some (2, x0), some (0, x1), some (0, x2), some (0, x3), some (0, x4), some (0, x5)] [] M) {M : ZM} {x0 : Int} {x1 : Int} {x2 : Int} {x3 : Int} {x4 : Int} {x5 : Int} (h : pX12_strikes_56 S k2 k18 M x0 x1 x2 x3 x4 x5 = some q) : zG C E 6 S 0 0 (zQ C E 0 0 none S q) 56 [some (2, x0), some (0, x1), some (0, x2), some (0, x3), some (0, x4), some (0, x5)] [] M := by
  unfold pX12_strikes_56 at h
  refine zG.blk (pc' := 59) (l' := [some (2, x0), some (0, x1), some (0, x2), some (0, x3), some (0, x4), some (0, w32 (x5 + 1))]) (st' := []) (M' := M) hX [(.iinc 5 1, 0, 0, 0)] (by decide +kernel) rfl trivial ?_
  refine zG.goto (tgt := 18) (off := (-41)) hX (by decide +kernel) (by decide) ?_
  exact (hk18 _ _ _ _ _ _ _ h)
noncomputable def pX12_strikes_18 (S : ZS) (k2 : ZM → Int → Int → Int → Option ZM) : Nat → ZM → Int → Int → Int → Int → Int → Int → Option ZM
  | 0 => fun _ _ _ _ _ _ _ => none
  | n + 1 => fun M x0 x1 x2 x3 x4 x5 => if S.1 x0 = 12 then if S.1 (M x0 1) = 100 ∧ (0 : Int) ≤ 2 ∧ 2 < S.2.1 (M x0 1) then if M (M x0 1) 2 ≤ x5 then (if x3 ≤ 0 then (pX12_strikes_102 S k2 M x0 x1 x2) else (pX12_strikes_79 S k2 M x0 x1 x2 x3 (if x3 = 1 then (x4 : Int) else (-1)) x2 x0)) else ((pX12_has S M x1 x5).bind fun q20 => if q20.1 = 0 then (pX12_strikes_56 S k2 (pX12_strikes_18 S k2 n) q20.2 x0 x1 x2 x3 x4 x5) else (if S.1 (q20.2 x0 2) = 100 ∧ (0 : Int) ≤ x5 ∧ x5 < S.2.1 (q20.2 x0 2) then if q20.2 (q20.2 x0 2) x5 = x2 then (pX12_strikes_56 S k2 (pX12_strikes_18 S k2 n) q20.2 x0 x1 x2 (w32 (x3 + 1)) x5 x5) else (pX12_strikes_56 S k2 (pX12_strikes_18 S k2 n) q20.2 x0 x1 x2 x3 x4 x5) else none)) else none else none
set_option maxHeartbeats 2000000 in
set_option maxRecDepth 20000 in
theorem pX12_strikes_18_ok {C : ZC} {E : ZE} {S : ZS} {k2 : ZM → Int → Int → Int → Option ZM} {q : ZM} (hX : zCx C E 12 cX12_strikes 6 none false) (hRm : czR C = { frames := 2, cells := 0, slots := 0, locals := 62 }) (hk2 : ∀ M x0 x1 x2, k2 M x0 x1 x2 = some q → zG C E 6 S 0 0 (zQ C E 0 0 none S q) 2 [some (2, x0), some (0, x1), some (0, x2), none, none, none] [] M) : ∀ (n : Nat) (M : ZM) (x0 : Int) (x1 : Int) (x2 : Int) (x3 : Int) (x4 : Int) (x5 : Int), pX12_strikes_18 S k2 n M x0 x1 x2 x3 x4 x5 = some q → zG C E 6 S 0 0 (zQ C E 0 0 none S q) 18 [some (2, x0), some (0, x1), some (0, x2), some (0, x3), some (0, x4), some (0, x5)] [] M := by
  intro n
  induction n with
  | zero => intro M x0 x1 x2 x3 x4 x5 h; cases h
  | succ n ih =>
    intro M x0 x1 x2 x3 x4 x5 h
    unfold pX12_strikes_18 at h
    obtain ⟨g5, h⟩ := zif h
    obtain ⟨g6, h⟩ := zif h
    refine zG.blk (pc' := 26) (l' := [some (2, x0), some (0, x1), some (0, x2), some (0, x3), some (0, x4), some (0, x5)]) (st' := [(0, M (M x0 1) 2), (0, x5)]) (M' := M) hX [(.iload 5, 0, 0, 0), (.aload_n 0, 0, 0, 0), (.getfield 9, 12, 1, 2), (.iconst 2, 0, 0, 0), (.iaload, 0, 0, 0)] (by decide +kernel) rfl (And.intro g5 (And.intro g6 trivial)) ?_
    refine zG.icmp_ge (tgt := 62) (off := 36) hX (by decide +kernel) (by decide) (fun c7 => ?_) (fun c7 => ?_)
    · have h := zip c7 h
      refine zG.blk (pc' := 63) (l' := [some (2, x0), some (0, x1), some (0, x2), some (0, x3), some (0, x4), some (0, x5)]) (st' := [(0, x3)]) (M' := M) hX [(.iload_n 3, 0, 0, 0)] (by decide +kernel) rfl trivial ?_
      refine zG.if_le (tgt := 102) (off := 39) hX (by decide +kernel) (by decide) (fun c8 => ?_) (fun c8 => ?_)
      · have h := zip c8 h
        exact zG.wk [true, true, true, false, false, false] (pX12_strikes_102_ok hX hRm hk2 h)
      · have h := zin c8 h
        refine zG.blk (pc' := 70) (l' := [some (2, x0), some (0, x1), some (0, x2), some (0, x3), some (0, x4), some (0, x5)]) (st' := [(0, 1), (0, x3), (0, x2), (2, x0)]) (M' := M) hX [(.aload_n 0, 0, 0, 0), (.iload_n 2, 0, 0, 0), (.iload_n 3, 0, 0, 0), (.iconst 1, 0, 0, 0)] (by decide +kernel) rfl trivial ?_
        have key9 : zG C E 6 S 0 0 (zQ C E 0 0 none S q) 79 [some (2, x0), some (0, x1), some (0, x2), some (0, x3), some (0, x4), some (0, x5)] [(0, (if x3 = 1 then (x4 : Int) else (-1))), (0, x2), (2, x0)] M := by
          exact zG.wk [true, true, true, true, false, false] (pX12_strikes_79_ok hX hRm hk2 h)
        refine zG.icmp_ne (tgt := 78) (off := 8) hX (by decide +kernel) (by decide) (fun c19 => ?_) (fun c19 => ?_)
        · refine zG.blk (pc' := 79) (l' := [some (2, x0), some (0, x1), some (0, x2), some (0, x3), some (0, x4), some (0, x5)]) (st' := [(0, (-1)), (0, x2), (2, x0)]) (M' := M) hX [(.iconst (-1), 0, 0, 0)] (by decide +kernel) rfl trivial ?_
          (have k := key9; simp only [if_neg c19] at k; exact k)
        · refine zG.blk (pc' := 75) (l' := [some (2, x0), some (0, x1), some (0, x2), some (0, x3), some (0, x4), some (0, x5)]) (st' := [(0, x4), (0, x2), (2, x0)]) (M' := M) hX [(.iload 4, 0, 0, 0)] (by decide +kernel) rfl trivial ?_
          refine zG.goto (tgt := 79) (off := 4) hX (by decide +kernel) (by decide) ?_
          (have k := key9; simp only [if_pos c19] at k; exact k)
    · have h := zin c7 h
      refine zG.blk (pc' := 32) (l' := [some (2, x0), some (0, x1), some (0, x2), some (0, x3), some (0, x4), some (0, x5)]) (st' := [(0, x5), (0, x1)]) (M' := M) hX [(.iload_n 1, 0, 0, 0), (.iload 5, 0, 0, 0)] (by decide +kernel) rfl trivial ?_
      obtain ⟨q20, e21, h⟩ := zbd h
      refine zG.callS (av := [(0, x1), (0, x5)]) (st := []) hX (pX12_has_ok e21) ss_12_350 rfl (by decide +kernel) (by rw [hRm]; exact ⟨Nat.le_of_ble_eq_true rfl, Nat.le_of_ble_eq_true rfl⟩) (by rw [hRm]; exact ⟨Nat.le_of_ble_eq_true rfl, Nat.le_of_ble_eq_true rfl⟩) (Nat.le_of_ble_eq_true rfl) ?_
      show zG C E 6 S 0 0 _ 35 [some (2, x0), some (0, x1), some (0, x2), some (0, x3), some (0, x4), some (0, x5)] [(0, q20.1)] q20.2
      refine zG.if_eq (tgt := 56) (off := 21) hX (by decide +kernel) (by decide) (fun c22 => ?_) (fun c22 => ?_)
      · have h := zip c22 h
        exact (pX12_strikes_56_ok hX hRm hk2 ih h)
      · have h := zin c22 h
        obtain ⟨g23, h⟩ := zif h
        refine zG.blk (pc' := 46) (l' := [some (2, x0), some (0, x1), some (0, x2), some (0, x3), some (0, x4), some (0, x5)]) (st' := [(0, x2), (0, q20.2 (q20.2 x0 2) x5)]) (M' := q20.2) hX [(.aload_n 0, 0, 0, 0), (.getfield 13, 12, 2, 2), (.iload 5, 0, 0, 0), (.iaload, 0, 0, 0), (.iload_n 2, 0, 0, 0)] (by decide +kernel) rfl (And.intro g5 (And.intro g23 trivial)) ?_
        refine zG.icmp_ne (tgt := 56) (off := 10) hX (by decide +kernel) (by decide) (fun c24 => ?_) (fun c24 => ?_)
        · have h := zin c24 h
          exact (pX12_strikes_56_ok hX hRm hk2 ih h)
        · have h := zip c24 h
          refine zG.blk (pc' := 56) (l' := [some (2, x0), some (0, x1), some (0, x2), some (0, w32 (x3 + 1)), some (0, x5), some (0, x5)]) (st' := []) (M' := q20.2) hX [(.iinc 3 1, 0, 0, 0), (.iload 5, 0, 0, 0), (.istore 4, 0, 0, 0)] (by decide +kernel) rfl trivial ?_
          exact (pX12_strikes_56_ok hX hRm hk2 ih h)
noncomputable def pX12_strikes_2 (S : ZS) : Nat → ZM → Int → Int → Int → Option ZM
  | 0 => fun _ _ _ _ => none
  | n + 1 => fun M x0 x1 x2 => if S.1 x0 = 12 then (pX12_cells S M x0).bind fun q1 => if q1.1 ≤ x2 then (some q1.2) else (pX12_strikes_18 S (pX12_strikes_2 S n) zFU q1.2 x0 x1 x2 0 (-1) 0) else none
set_option maxHeartbeats 2000000 in
set_option maxRecDepth 20000 in
theorem pX12_strikes_2_ok {C : ZC} {E : ZE} {S : ZS} {q : ZM} (hX : zCx C E 12 cX12_strikes 6 none false) (hRm : czR C = { frames := 2, cells := 0, slots := 0, locals := 62 }) : ∀ (n : Nat) (M : ZM) (x0 : Int) (x1 : Int) (x2 : Int), pX12_strikes_2 S n M x0 x1 x2 = some q → zG C E 6 S 0 0 (zQ C E 0 0 none S q) 2 [some (2, x0), some (0, x1), some (0, x2), none, none, none] [] M := by
  intro n
  induction n with
  | zero => intro M x0 x1 x2 h; cases h
  | succ n ih =>
    intro M x0 x1 x2 h
    unfold pX12_strikes_2 at h
    refine zG.blk (pc' := 4) (l' := [some (2, x0), some (0, x1), some (0, x2), none, none, none]) (st' := [(2, x0), (0, x2)]) (M' := M) hX [(.iload_n 2, 0, 0, 0), (.aload_n 0, 0, 0, 0)] (by decide +kernel) rfl trivial ?_
    obtain ⟨g3, h⟩ := zif h
    obtain ⟨q1, e2, h⟩ := zbd h
    refine zG.callV (b := x0) (av := []) (st := [(0, x2)]) (ci := 12) hX (pX12_cells_ok e2) sv_12_134 rfl ⟨by decide, rfl⟩ g3 (by decide +kernel) (by rw [hRm]; exact ⟨Nat.le_of_ble_eq_true rfl, Nat.le_of_ble_eq_true rfl⟩) (by rw [hRm]; exact ⟨Nat.le_of_ble_eq_true rfl, Nat.le_of_ble_eq_true rfl⟩) (Nat.le_of_ble_eq_true rfl) ?_
    show zG C E 6 S 0 0 _ 7 [some (2, x0), some (0, x1), some (0, x2), none, none, none] [(0, q1.1), (0, x2)] q1.2
    refine zG.icmp_ge (tgt := 108) (off := 101) hX (by decide +kernel) (by decide) (fun c4 => ?_) (fun c4 => ?_)
    · have h := zip c4 h
      cases h
      exact zG.vret hX (by decide +kernel)
    · have h := zin c4 h
      refine zG.blk (pc' := 18) (l' := [some (2, x0), some (0, x1), some (0, x2), some (0, 0), some (0, (-1)), some (0, 0)]) (st' := []) (M' := q1.2) hX [(.iconst 0, 0, 0, 0), (.istore_n 3, 0, 0, 0), (.iconst (-1), 0, 0, 0), (.istore 4, 0, 0, 0), (.iconst 0, 0, 0, 0), (.istore 5, 0, 0, 0)] (by decide +kernel) rfl trivial ?_
      exact (pX12_strikes_18_ok hX hRm ih zFU _ _ _ _ _ _ _ h)
noncomputable def pX12_strikes (S : ZS) (M : ZM) (a0 : Int) (a1 : Int) : Option ZM := pX12_strikes_2 S zFU M a0 a1 0
set_option maxHeartbeats 2000000 in
set_option maxRecDepth 20000 in
theorem pX12_strikes_go {C : ZC} {E : ZE} {S : ZS} {M : ZM} {a0 a1 : Int} {q : ZM} (hX : zCx C E 12 cX12_strikes 6 none false) (hRm : czR C = { frames := 2, cells := 0, slots := 0, locals := 62 }) (h : pX12_strikes  S M a0 a1 = some q) : zG C E 6 S 0 0 (zQ C E 0 0 none S q) 0 [some (2, a0), some (0, a1), none, none, none, none] [] M := by
  unfold pX12_strikes at h
  refine zG.blk (pc' := 2) (l' := [some (2, a0), some (0, a1), some (0, 0), none, none, none]) (st' := []) (M' := M) hX [(.iconst 0, 0, 0, 0), (.istore_n 2, 0, 0, 0)] (by decide +kernel) rfl trivial ?_
  exact (pX12_strikes_2_ok hX hRm zFU _ _ _ _ h)
theorem pX12_strikes_ok {l : Launch} {E : ZE} {S : ZS} {M : ZM} {a0 a1 : Int} {q : ZM} (h : pX12_strikes S M a0 a1 = some q) : zMet l yX12_strikes cX12_strikes 6 none 2 62 0 0 E S M [(2, a0), (0, a1)] (none) S q :=
  zMet.of (o := 12) (ini := false) (by decide +kernel) rfl (fun h => by cases h) (Nat.le_of_ble_eq_true rfl) (fun C hX hl hRm => by subst hl; exact pX12_strikes_go hX hRm h)
noncomputable def pX12_truth (S : ZS) (M : ZM) (a0 : Int) : Option (Int × ZM) := some ((if a0 = 0 then (0 : Int) else 1), M)
set_option maxHeartbeats 2000000 in
set_option maxRecDepth 20000 in
theorem pX12_truth_go {C : ZC} {E : ZE} {S : ZS} {M : ZM} {a0 : Int} {q : (Int × ZM)} (hX : zCx C E 12 cX12_truth 1 (some .long) false) (hRm : czR C = { frames := 1, cells := 0, slots := 0, locals := 40 }) (h : pX12_truth  S M a0 = some q) : zG C E 1 S 0 0 (zQ C E 0 0 (some (1, q.1)) S q.2) 0 [some (0, a0)] [] M := by
  unfold pX12_truth at h
  refine zG.blk (pc' := 1) (l' := [some (0, a0)]) (st' := [(0, a0)]) (M' := M) hX [(.iload_n 0, 0, 0, 0)] (by decide +kernel) rfl trivial ?_
  have key1 : zG C E 1 S 0 0 (zQ C E 0 0 (some (1, q.1)) S q.2) 9 [some (0, a0)] [(1, (if a0 = 0 then (0 : Int) else 1))] M := by
    cases h
    exact zG.lret hX (by decide +kernel)
  refine zG.if_eq (tgt := 8) (off := 7) hX (by decide +kernel) (by decide) (fun c2 => ?_) (fun c2 => ?_)
  · refine zG.blk (pc' := 9) (l' := [some (0, a0)]) (st' := [(1, 0)]) (M' := M) hX [(.lconst 0, 0, 0, 0)] (by decide +kernel) rfl trivial ?_
    (have k := key1; simp only [if_pos c2] at k; exact k)
  · refine zG.blk (pc' := 5) (l' := [some (0, a0)]) (st' := [(1, 1)]) (M' := M) hX [(.lconst 1, 1, 0, 0)] (by decide +kernel) rfl trivial ?_
    refine zG.goto (tgt := 9) (off := 4) hX (by decide +kernel) (by decide) ?_
    (have k := key1; simp only [if_neg c2] at k; exact k)
theorem pX12_truth_ok {l : Launch} {E : ZE} {S : ZS} {M : ZM} {a0 : Int} {q : (Int × ZM)} (h : pX12_truth S M a0 = some q) : zMet l yX12_truth cX12_truth 1 (some .long) 1 40 0 0 E S M [(0, a0)] (some (1, q.1)) S q.2 :=
  zMet.of (o := 12) (ini := false) (by decide +kernel) rfl (fun h => by cases h) (Nat.le_of_ble_eq_true rfl) (fun C hX hl hRm => by subst hl; exact pX12_truth_go hX hRm h)
theorem ss_12_330 : zSS 12 330 yX12_truth cX12_truth 1 (some .long) 1 := ⟨⟨gt_at 1543 (by decide +kernel) rfl, gt_at 1544 (by decide +kernel) rfl, gt_at 117 (by decide +kernel) rfl, gt_at 1545 (by decide +kernel) rfl⟩, by decide +kernel, by decide +kernel, by decide +kernel⟩
noncomputable def pX12_both_123 (S : ZS) (M : ZM) (y0 : Int) : Option (Int × ZM) := (pX12_truth S M y0).bind fun q6 => some (q6.1, q6.2)
set_option maxHeartbeats 2000000 in
set_option maxRecDepth 20000 in
theorem pX12_both_123_ok {C : ZC} {E : ZE} {S : ZS} {q : (Int × ZM)} (hX : zCx C E 12 cX12_both 5 (some .long) false) (hRm : czR C = { frames := 2, cells := 0, slots := 0, locals := 60 }) {M : ZM} {y0 : Int} (h : pX12_both_123 S M y0 = some q) : zG C E 5 S 0 0 (zQ C E 0 0 (some (1, q.1)) S q.2) 123 [none, none, none, none, none] [(0, y0)] M := by
  unfold pX12_both_123 at h
  obtain ⟨q6, e7, h⟩ := zbd h
  refine zG.callS (av := [(0, y0)]) (st := []) hX (pX12_truth_ok e7) ss_12_330 rfl (by decide +kernel) (by rw [hRm]; exact ⟨Nat.le_of_ble_eq_true rfl, Nat.le_of_ble_eq_true rfl⟩) (by rw [hRm]; exact ⟨Nat.le_of_ble_eq_true rfl, Nat.le_of_ble_eq_true rfl⟩) (Nat.le_of_ble_eq_true rfl) ?_
  show zG C E 5 S 0 0 _ 126 [none, none, none, none, none] [(1, q6.1)] q6.2
  cases h
  exact zG.lret hX (by decide +kernel)
noncomputable def pX12_both_138 (S : ZS) (M : ZM) (y0 : Int) : Option (Int × ZM) := (pX12_truth S M y0).bind fun q11 => some (q11.1, q11.2)
set_option maxHeartbeats 2000000 in
set_option maxRecDepth 20000 in
theorem pX12_both_138_ok {C : ZC} {E : ZE} {S : ZS} {q : (Int × ZM)} (hX : zCx C E 12 cX12_both 5 (some .long) false) (hRm : czR C = { frames := 2, cells := 0, slots := 0, locals := 60 }) {M : ZM} {y0 : Int} (h : pX12_both_138 S M y0 = some q) : zG C E 5 S 0 0 (zQ C E 0 0 (some (1, q.1)) S q.2) 138 [none, none, none, none, none] [(0, y0)] M := by
  unfold pX12_both_138 at h
  obtain ⟨q11, e12, h⟩ := zbd h
  refine zG.callS (av := [(0, y0)]) (st := []) hX (pX12_truth_ok e12) ss_12_330 rfl (by decide +kernel) (by rw [hRm]; exact ⟨Nat.le_of_ble_eq_true rfl, Nat.le_of_ble_eq_true rfl⟩) (by rw [hRm]; exact ⟨Nat.le_of_ble_eq_true rfl, Nat.le_of_ble_eq_true rfl⟩) (Nat.le_of_ble_eq_true rfl) ?_
  show zG C E 5 S 0 0 _ 141 [none, none, none, none, none] [(1, q11.1)] q11.2
  cases h
  exact zG.lret hX (by decide +kernel)
noncomputable def pX12_both_153 (S : ZS) (M : ZM) (y0 : Int) : Option (Int × ZM) := (pX12_truth S M y0).bind fun q16 => some (q16.1, q16.2)
set_option maxHeartbeats 2000000 in
set_option maxRecDepth 20000 in
theorem pX12_both_153_ok {C : ZC} {E : ZE} {S : ZS} {q : (Int × ZM)} (hX : zCx C E 12 cX12_both 5 (some .long) false) (hRm : czR C = { frames := 2, cells := 0, slots := 0, locals := 60 }) {M : ZM} {y0 : Int} (h : pX12_both_153 S M y0 = some q) : zG C E 5 S 0 0 (zQ C E 0 0 (some (1, q.1)) S q.2) 153 [none, none, none, none, none] [(0, y0)] M := by
  unfold pX12_both_153 at h
  obtain ⟨q16, e17, h⟩ := zbd h
  refine zG.callS (av := [(0, y0)]) (st := []) hX (pX12_truth_ok e17) ss_12_330 rfl (by decide +kernel) (by rw [hRm]; exact ⟨Nat.le_of_ble_eq_true rfl, Nat.le_of_ble_eq_true rfl⟩) (by rw [hRm]; exact ⟨Nat.le_of_ble_eq_true rfl, Nat.le_of_ble_eq_true rfl⟩) (Nat.le_of_ble_eq_true rfl) ?_
  show zG C E 5 S 0 0 _ 156 [none, none, none, none, none] [(1, q16.1)] q16.2
  cases h
  exact zG.lret hX (by decide +kernel)
noncomputable def pX12_both_168 (S : ZS) (M : ZM) (y0 : Int) : Option (Int × ZM) := (pX12_truth S M y0).bind fun q21 => some (q21.1, q21.2)
set_option maxHeartbeats 2000000 in
set_option maxRecDepth 20000 in
theorem pX12_both_168_ok {C : ZC} {E : ZE} {S : ZS} {q : (Int × ZM)} (hX : zCx C E 12 cX12_both 5 (some .long) false) (hRm : czR C = { frames := 2, cells := 0, slots := 0, locals := 60 }) {M : ZM} {y0 : Int} (h : pX12_both_168 S M y0 = some q) : zG C E 5 S 0 0 (zQ C E 0 0 (some (1, q.1)) S q.2) 168 [none, none, none, none, none] [(0, y0)] M := by
  unfold pX12_both_168 at h
  obtain ⟨q21, e22, h⟩ := zbd h
  refine zG.callS (av := [(0, y0)]) (st := []) hX (pX12_truth_ok e22) ss_12_330 rfl (by decide +kernel) (by rw [hRm]; exact ⟨Nat.le_of_ble_eq_true rfl, Nat.le_of_ble_eq_true rfl⟩) (by rw [hRm]; exact ⟨Nat.le_of_ble_eq_true rfl, Nat.le_of_ble_eq_true rfl⟩) (Nat.le_of_ble_eq_true rfl) ?_
  show zG C E 5 S 0 0 _ 171 [none, none, none, none, none] [(1, q21.1)] q21.2
  cases h
  exact zG.lret hX (by decide +kernel)
noncomputable def pX12_both_183 (S : ZS) (M : ZM) (y0 : Int) : Option (Int × ZM) := (pX12_truth S M y0).bind fun q26 => some (q26.1, q26.2)
set_option maxHeartbeats 2000000 in
set_option maxRecDepth 20000 in
theorem pX12_both_183_ok {C : ZC} {E : ZE} {S : ZS} {q : (Int × ZM)} (hX : zCx C E 12 cX12_both 5 (some .long) false) (hRm : czR C = { frames := 2, cells := 0, slots := 0, locals := 60 }) {M : ZM} {y0 : Int} (h : pX12_both_183 S M y0 = some q) : zG C E 5 S 0 0 (zQ C E 0 0 (some (1, q.1)) S q.2) 183 [none, none, none, none, none] [(0, y0)] M := by
  unfold pX12_both_183 at h
  obtain ⟨q26, e27, h⟩ := zbd h
  refine zG.callS (av := [(0, y0)]) (st := []) hX (pX12_truth_ok e27) ss_12_330 rfl (by decide +kernel) (by rw [hRm]; exact ⟨Nat.le_of_ble_eq_true rfl, Nat.le_of_ble_eq_true rfl⟩) (by rw [hRm]; exact ⟨Nat.le_of_ble_eq_true rfl, Nat.le_of_ble_eq_true rfl⟩) (Nat.le_of_ble_eq_true rfl) ?_
  show zG C E 5 S 0 0 _ 186 [none, none, none, none, none] [(1, q26.1)] q26.2
  cases h
  exact zG.lret hX (by decide +kernel)
noncomputable def pX12_both_97 (S : ZS) (M : ZM) (y0 : Int) : Option (Int × ZM) := some (y0, M)
set_option maxHeartbeats 2000000 in
set_option maxRecDepth 20000 in
theorem pX12_both_97_ok {C : ZC} {E : ZE} {S : ZS} {q : (Int × ZM)} (hX : zCx C E 12 cX12_both 5 (some .long) false) (hRm : czR C = { frames := 2, cells := 0, slots := 0, locals := 60 }) {M : ZM} {y0 : Int} (h : pX12_both_97 S M y0 = some q) : zG C E 5 S 0 0 (zQ C E 0 0 (some (1, q.1)) S q.2) 97 [none, none, none, none, none] [(1, y0)] M := by
  unfold pX12_both_97 at h
  cases h
  exact zG.lret hX (by decide +kernel)
noncomputable def pX12_both_111 (S : ZS) (M : ZM) (y0 : Int) : Option (Int × ZM) := some (y0, M)
set_option maxHeartbeats 2000000 in
set_option maxRecDepth 20000 in
theorem pX12_both_111_ok {C : ZC} {E : ZE} {S : ZS} {q : (Int × ZM)} (hX : zCx C E 12 cX12_both 5 (some .long) false) (hRm : czR C = { frames := 2, cells := 0, slots := 0, locals := 60 }) {M : ZM} {y0 : Int} (h : pX12_both_111 S M y0 = some q) : zG C E 5 S 0 0 (zQ C E 0 0 (some (1, q.1)) S q.2) 111 [none, none, none, none, none] [(1, y0)] M := by
  unfold pX12_both_111 at h
  cases h
  exact zG.lret hX (by decide +kernel)
noncomputable def pX12_both (S : ZS) (M : ZM) (a0 : Int) (a1 : Int) (a2 : Int) : Option (Int × ZM) := if a0 = 2 then (some (w64 (a1 + a2), M)) else if a0 = 3 then (some (w64 (a1 - a2), M)) else if a0 = 4 then (pX12_both_123 S M (if 0 ≤ zcmp a1 a2 then (0 : Int) else 1)) else if a0 = 5 then (pX12_both_138 S M (if 0 < zcmp a1 a2 then (0 : Int) else 1)) else if a0 = 6 then (pX12_both_153 S M (if zcmp a1 a2 = 0 then (1 : Int) else 0)) else if a0 = 7 then (pX12_both_168 S M (if zcmp a1 a2 < 0 then (0 : Int) else 1)) else if a0 = 8 then (pX12_both_183 S M (if zcmp a1 a2 ≤ 0 then (0 : Int) else 1)) else if a0 = 9 then (some (zorl a1 a2, M)) else if a0 = 10 then (some (zandl a1 a2, M)) else if a0 = 11 then (some (zorl a1 a2, M)) else if a0 = 12 then (some (zorl a1 a2, M)) else if a0 = 13 then (some (w64 (a1 * a2), M)) else if a0 = 14 then (if zcmp a2 0 = 0 then (pX12_both_97 S M 0) else (if ¬ a2 = 0 then pX12_both_97 S M (w64 (Int.tdiv a1 a2)) else none)) else if a0 = 15 then (if zcmp a2 0 = 0 then (pX12_both_111 S M 0) else (if ¬ a2 = 0 then pX12_both_111 S M (Int.tmod a1 a2) else none)) else (some (zorl a1 a2, M))
set_option maxHeartbeats 2000000 in
set_option maxRecDepth 20000 in
theorem pX12_both_go {C : ZC} {E : ZE} {S : ZS} {M : ZM} {a0 a1 a2 : Int} {q : (Int × ZM)} (hX : zCx C E 12 cX12_both 5 (some .long) false) (hRm : czR C = { frames := 2, cells := 0, slots := 0, locals := 60 }) (h : pX12_both  S M a0 a1 a2 = some q) : zG C E 5 S 0 0 (zQ C E 0 0 (some (1, q.1)) S q.2) 0 [some (0, a0), some (1, a1), none, some (1, a2), none] [] M := by
  unfold pX12_both at h
  refine zG.blk (pc' := 1) (l' := [some (0, a0), some (1, a1), none, some (1, a2), none]) (st' := [(0, a0)]) (M' := M) hX [(.iload_n 0, 0, 0, 0)] (by decide +kernel) rfl trivial ?_
  have hs1 : decode cX12_both 1 = .ok (.tableswitch 190 2 15 #[71, 75, 111, 126, 141, 156, 171, 190, 186, 190, 190, 79, 83, 97], 71) := by decide +kernel
  by_cases c2 : a0 = 2
  · have h := zip c2 h
    refine zG.tabIn (tgt := 72) hX hs1 2 c2 (by decide) rfl (by decide) ?_
    refine zG.blk (pc' := 75) (l' := [some (0, a0), some (1, a1), none, some (1, a2), none]) (st' := [(1, w64 (a1 + a2))]) (M' := M) hX [(.lload_n 1, 0, 0, 0), (.lload_n 3, 0, 0, 0), (.ladd, 0, 0, 0)] (by decide +kernel) rfl trivial ?_
    cases h
    exact zG.lret hX (by decide +kernel)
  · have h := zin c2 h
    by_cases c3 : a0 = 3
    · have h := zip c3 h
      refine zG.tabIn (tgt := 76) hX hs1 3 c3 (by decide) rfl (by decide) ?_
      refine zG.blk (pc' := 79) (l' := [some (0, a0), some (1, a1), none, some (1, a2), none]) (st' := [(1, w64 (a1 - a2))]) (M' := M) hX [(.lload_n 1, 0, 0, 0), (.lload_n 3, 0, 0, 0), (.lsub, 0, 0, 0)] (by decide +kernel) rfl trivial ?_
      cases h
      exact zG.lret hX (by decide +kernel)
    · have h := zin c3 h
      by_cases c4 : a0 = 4
      · have h := zip c4 h
        refine zG.tabIn (tgt := 112) hX hs1 4 c4 (by decide) rfl (by decide) ?_
        refine zG.blk (pc' := 115) (l' := [some (0, a0), some (1, a1), none, some (1, a2), none]) (st' := [(0, zcmp a1 a2)]) (M' := M) hX [(.lload_n 1, 0, 0, 0), (.lload_n 3, 0, 0, 0), (.lcmp, 0, 0, 0)] (by decide +kernel) rfl trivial ?_
        have key5 : zG C E 5 S 0 0 (zQ C E 0 0 (some (1, q.1)) S q.2) 123 [some (0, a0), some (1, a1), none, some (1, a2), none] [(0, (if 0 ≤ zcmp a1 a2 then (0 : Int) else 1))] M := by
          exact zG.wk [false, false, true, false, true] (pX12_both_123_ok hX hRm h)
        refine zG.if_ge (tgt := 122) (off := 7) hX (by decide +kernel) (by decide) (fun c8 => ?_) (fun c8 => ?_)
        · refine zG.blk (pc' := 123) (l' := [some (0, a0), some (1, a1), none, some (1, a2), none]) (st' := [(0, 0)]) (M' := M) hX [(.iconst 0, 0, 0, 0)] (by decide +kernel) rfl trivial ?_
          (have k := key5; simp only [if_pos c8] at k; exact k)
        · refine zG.blk (pc' := 119) (l' := [some (0, a0), some (1, a1), none, some (1, a2), none]) (st' := [(0, 1)]) (M' := M) hX [(.iconst 1, 0, 0, 0)] (by decide +kernel) rfl trivial ?_
          refine zG.goto (tgt := 123) (off := 4) hX (by decide +kernel) (by decide) ?_
          (have k := key5; simp only [if_neg c8] at k; exact k)
      · have h := zin c4 h
        by_cases c9 : a0 = 5
        · have h := zip c9 h
          refine zG.tabIn (tgt := 127) hX hs1 5 c9 (by decide) rfl (by decide) ?_
          refine zG.blk (pc' := 130) (l' := [some (0, a0), some (1, a1), none, some (1, a2), none]) (st' := [(0, zcmp a1 a2)]) (M' := M) hX [(.lload_n 1, 0, 0, 0), (.lload_n 3, 0, 0, 0), (.lcmp, 0, 0, 0)] (by decide +kernel) rfl trivial ?_
          have key10 : zG C E 5 S 0 0 (zQ C E 0 0 (some (1, q.1)) S q.2) 138 [some (0, a0), some (1, a1), none, some (1, a2), none] [(0, (if 0 < zcmp a1 a2 then (0 : Int) else 1))] M := by
            exact zG.wk [false, false, true, false, true] (pX12_both_138_ok hX hRm h)
          refine zG.if_gt (tgt := 137) (off := 7) hX (by decide +kernel) (by decide) (fun c13 => ?_) (fun c13 => ?_)
          · refine zG.blk (pc' := 138) (l' := [some (0, a0), some (1, a1), none, some (1, a2), none]) (st' := [(0, 0)]) (M' := M) hX [(.iconst 0, 0, 0, 0)] (by decide +kernel) rfl trivial ?_
            (have k := key10; simp only [if_pos c13] at k; exact k)
          · refine zG.blk (pc' := 134) (l' := [some (0, a0), some (1, a1), none, some (1, a2), none]) (st' := [(0, 1)]) (M' := M) hX [(.iconst 1, 0, 0, 0)] (by decide +kernel) rfl trivial ?_
            refine zG.goto (tgt := 138) (off := 4) hX (by decide +kernel) (by decide) ?_
            (have k := key10; simp only [if_neg c13] at k; exact k)
        · have h := zin c9 h
          by_cases c14 : a0 = 6
          · have h := zip c14 h
            refine zG.tabIn (tgt := 142) hX hs1 6 c14 (by decide) rfl (by decide) ?_
            refine zG.blk (pc' := 145) (l' := [some (0, a0), some (1, a1), none, some (1, a2), none]) (st' := [(0, zcmp a1 a2)]) (M' := M) hX [(.lload_n 1, 0, 0, 0), (.lload_n 3, 0, 0, 0), (.lcmp, 0, 0, 0)] (by decide +kernel) rfl trivial ?_
            have key15 : zG C E 5 S 0 0 (zQ C E 0 0 (some (1, q.1)) S q.2) 153 [some (0, a0), some (1, a1), none, some (1, a2), none] [(0, (if zcmp a1 a2 = 0 then (1 : Int) else 0))] M := by
              exact zG.wk [false, false, true, false, true] (pX12_both_153_ok hX hRm h)
            refine zG.if_ne (tgt := 152) (off := 7) hX (by decide +kernel) (by decide) (fun c18 => ?_) (fun c18 => ?_)
            · refine zG.blk (pc' := 153) (l' := [some (0, a0), some (1, a1), none, some (1, a2), none]) (st' := [(0, 0)]) (M' := M) hX [(.iconst 0, 0, 0, 0)] (by decide +kernel) rfl trivial ?_
              (have k := key15; simp only [if_neg c18] at k; exact k)
            · refine zG.blk (pc' := 149) (l' := [some (0, a0), some (1, a1), none, some (1, a2), none]) (st' := [(0, 1)]) (M' := M) hX [(.iconst 1, 0, 0, 0)] (by decide +kernel) rfl trivial ?_
              refine zG.goto (tgt := 153) (off := 4) hX (by decide +kernel) (by decide) ?_
              (have k := key15; simp only [if_pos c18] at k; exact k)
          · have h := zin c14 h
            by_cases c19 : a0 = 7
            · have h := zip c19 h
              refine zG.tabIn (tgt := 157) hX hs1 7 c19 (by decide) rfl (by decide) ?_
              refine zG.blk (pc' := 160) (l' := [some (0, a0), some (1, a1), none, some (1, a2), none]) (st' := [(0, zcmp a1 a2)]) (M' := M) hX [(.lload_n 1, 0, 0, 0), (.lload_n 3, 0, 0, 0), (.lcmp, 0, 0, 0)] (by decide +kernel) rfl trivial ?_
              have key20 : zG C E 5 S 0 0 (zQ C E 0 0 (some (1, q.1)) S q.2) 168 [some (0, a0), some (1, a1), none, some (1, a2), none] [(0, (if zcmp a1 a2 < 0 then (0 : Int) else 1))] M := by
                exact zG.wk [false, false, true, false, true] (pX12_both_168_ok hX hRm h)
              refine zG.if_lt (tgt := 167) (off := 7) hX (by decide +kernel) (by decide) (fun c23 => ?_) (fun c23 => ?_)
              · refine zG.blk (pc' := 168) (l' := [some (0, a0), some (1, a1), none, some (1, a2), none]) (st' := [(0, 0)]) (M' := M) hX [(.iconst 0, 0, 0, 0)] (by decide +kernel) rfl trivial ?_
                (have k := key20; simp only [if_pos c23] at k; exact k)
              · refine zG.blk (pc' := 164) (l' := [some (0, a0), some (1, a1), none, some (1, a2), none]) (st' := [(0, 1)]) (M' := M) hX [(.iconst 1, 0, 0, 0)] (by decide +kernel) rfl trivial ?_
                refine zG.goto (tgt := 168) (off := 4) hX (by decide +kernel) (by decide) ?_
                (have k := key20; simp only [if_neg c23] at k; exact k)
            · have h := zin c19 h
              by_cases c24 : a0 = 8
              · have h := zip c24 h
                refine zG.tabIn (tgt := 172) hX hs1 8 c24 (by decide) rfl (by decide) ?_
                refine zG.blk (pc' := 175) (l' := [some (0, a0), some (1, a1), none, some (1, a2), none]) (st' := [(0, zcmp a1 a2)]) (M' := M) hX [(.lload_n 1, 0, 0, 0), (.lload_n 3, 0, 0, 0), (.lcmp, 0, 0, 0)] (by decide +kernel) rfl trivial ?_
                have key25 : zG C E 5 S 0 0 (zQ C E 0 0 (some (1, q.1)) S q.2) 183 [some (0, a0), some (1, a1), none, some (1, a2), none] [(0, (if zcmp a1 a2 ≤ 0 then (0 : Int) else 1))] M := by
                  exact zG.wk [false, false, true, false, true] (pX12_both_183_ok hX hRm h)
                refine zG.if_le (tgt := 182) (off := 7) hX (by decide +kernel) (by decide) (fun c28 => ?_) (fun c28 => ?_)
                · refine zG.blk (pc' := 183) (l' := [some (0, a0), some (1, a1), none, some (1, a2), none]) (st' := [(0, 0)]) (M' := M) hX [(.iconst 0, 0, 0, 0)] (by decide +kernel) rfl trivial ?_
                  (have k := key25; simp only [if_pos c28] at k; exact k)
                · refine zG.blk (pc' := 179) (l' := [some (0, a0), some (1, a1), none, some (1, a2), none]) (st' := [(0, 1)]) (M' := M) hX [(.iconst 1, 0, 0, 0)] (by decide +kernel) rfl trivial ?_
                  refine zG.goto (tgt := 183) (off := 4) hX (by decide +kernel) (by decide) ?_
                  (have k := key25; simp only [if_neg c28] at k; exact k)
              · have h := zin c24 h
                by_cases c29 : a0 = 9
                · have h := zip c29 h
                  refine zG.tabIn (tgt := 191) hX hs1 9 c29 (by decide) rfl (by decide) ?_
                  refine zG.blk (pc' := 194) (l' := [some (0, a0), some (1, a1), none, some (1, a2), none]) (st' := [(1, zorl a1 a2)]) (M' := M) hX [(.lload_n 1, 0, 0, 0), (.lload_n 3, 0, 0, 0), (.lor, 0, 0, 0)] (by decide +kernel) rfl trivial ?_
                  cases h
                  exact zG.lret hX (by decide +kernel)
                · have h := zin c29 h
                  by_cases c30 : a0 = 10
                  · have h := zip c30 h
                    refine zG.tabIn (tgt := 187) hX hs1 10 c30 (by decide) rfl (by decide) ?_
                    refine zG.blk (pc' := 190) (l' := [some (0, a0), some (1, a1), none, some (1, a2), none]) (st' := [(1, zandl a1 a2)]) (M' := M) hX [(.lload_n 1, 0, 0, 0), (.lload_n 3, 0, 0, 0), (.land, 0, 0, 0)] (by decide +kernel) rfl trivial ?_
                    cases h
                    exact zG.lret hX (by decide +kernel)
                  · have h := zin c30 h
                    by_cases c31 : a0 = 11
                    · have h := zip c31 h
                      refine zG.tabIn (tgt := 191) hX hs1 11 c31 (by decide) rfl (by decide) ?_
                      refine zG.blk (pc' := 194) (l' := [some (0, a0), some (1, a1), none, some (1, a2), none]) (st' := [(1, zorl a1 a2)]) (M' := M) hX [(.lload_n 1, 0, 0, 0), (.lload_n 3, 0, 0, 0), (.lor, 0, 0, 0)] (by decide +kernel) rfl trivial ?_
                      cases h
                      exact zG.lret hX (by decide +kernel)
                    · have h := zin c31 h
                      by_cases c32 : a0 = 12
                      · have h := zip c32 h
                        refine zG.tabIn (tgt := 191) hX hs1 12 c32 (by decide) rfl (by decide) ?_
                        refine zG.blk (pc' := 194) (l' := [some (0, a0), some (1, a1), none, some (1, a2), none]) (st' := [(1, zorl a1 a2)]) (M' := M) hX [(.lload_n 1, 0, 0, 0), (.lload_n 3, 0, 0, 0), (.lor, 0, 0, 0)] (by decide +kernel) rfl trivial ?_
                        cases h
                        exact zG.lret hX (by decide +kernel)
                      · have h := zin c32 h
                        by_cases c33 : a0 = 13
                        · have h := zip c33 h
                          refine zG.tabIn (tgt := 80) hX hs1 13 c33 (by decide) rfl (by decide) ?_
                          refine zG.blk (pc' := 83) (l' := [some (0, a0), some (1, a1), none, some (1, a2), none]) (st' := [(1, w64 (a1 * a2))]) (M' := M) hX [(.lload_n 1, 0, 0, 0), (.lload_n 3, 0, 0, 0), (.lmul, 0, 0, 0)] (by decide +kernel) rfl trivial ?_
                          cases h
                          exact zG.lret hX (by decide +kernel)
                        · have h := zin c33 h
                          by_cases c34 : a0 = 14
                          · have h := zip c34 h
                            refine zG.tabIn (tgt := 84) hX hs1 14 c34 (by decide) rfl (by decide) ?_
                            refine zG.blk (pc' := 87) (l' := [some (0, a0), some (1, a1), none, some (1, a2), none]) (st' := [(0, zcmp a2 0)]) (M' := M) hX [(.lload_n 3, 0, 0, 0), (.lconst 0, 0, 0, 0), (.lcmp, 0, 0, 0)] (by decide +kernel) rfl trivial ?_
                            refine zG.if_ne (tgt := 94) (off := 7) hX (by decide +kernel) (by decide) (fun c35 => ?_) (fun c35 => ?_)
                            · have h := zin c35 h
                              obtain ⟨g36, h⟩ := zif h
                              refine zG.blk (pc' := 97) (l' := [some (0, a0), some (1, a1), none, some (1, a2), none]) (st' := [(1, w64 (Int.tdiv a1 a2))]) (M' := M) hX [(.lload_n 1, 0, 0, 0), (.lload_n 3, 0, 0, 0), (.ldiv, 0, 0, 0)] (by decide +kernel) rfl (And.intro g36 trivial) ?_
                              exact zG.wk [false, false, true, false, true] (pX12_both_97_ok hX hRm h)
                            · have h := zip c35 h
                              refine zG.blk (pc' := 91) (l' := [some (0, a0), some (1, a1), none, some (1, a2), none]) (st' := [(1, 0)]) (M' := M) hX [(.lconst 0, 0, 0, 0)] (by decide +kernel) rfl trivial ?_
                              refine zG.goto (tgt := 97) (off := 6) hX (by decide +kernel) (by decide) ?_
                              exact zG.wk [false, false, true, false, true] (pX12_both_97_ok hX hRm h)
                          · have h := zin c34 h
                            by_cases c37 : a0 = 15
                            · have h := zip c37 h
                              refine zG.tabIn (tgt := 98) hX hs1 15 c37 (by decide) rfl (by decide) ?_
                              refine zG.blk (pc' := 101) (l' := [some (0, a0), some (1, a1), none, some (1, a2), none]) (st' := [(0, zcmp a2 0)]) (M' := M) hX [(.lload_n 3, 0, 0, 0), (.lconst 0, 0, 0, 0), (.lcmp, 0, 0, 0)] (by decide +kernel) rfl trivial ?_
                              refine zG.if_ne (tgt := 108) (off := 7) hX (by decide +kernel) (by decide) (fun c38 => ?_) (fun c38 => ?_)
                              · have h := zin c38 h
                                obtain ⟨g39, h⟩ := zif h
                                refine zG.blk (pc' := 111) (l' := [some (0, a0), some (1, a1), none, some (1, a2), none]) (st' := [(1, Int.tmod a1 a2)]) (M' := M) hX [(.lload_n 1, 0, 0, 0), (.lload_n 3, 0, 0, 0), (.lrem, 0, 0, 0)] (by decide +kernel) rfl (And.intro g39 trivial) ?_
                                exact zG.wk [false, false, true, false, true] (pX12_both_111_ok hX hRm h)
                              · have h := zip c38 h
                                refine zG.blk (pc' := 105) (l' := [some (0, a0), some (1, a1), none, some (1, a2), none]) (st' := [(1, 0)]) (M' := M) hX [(.lconst 0, 0, 0, 0)] (by decide +kernel) rfl trivial ?_
                                refine zG.goto (tgt := 111) (off := 6) hX (by decide +kernel) (by decide) ?_
                                exact zG.wk [false, false, true, false, true] (pX12_both_111_ok hX hRm h)
                            · have h := zin c37 h
                              refine zG.tabOut (tgt := 191) hX hs1 (by omega) (by decide) ?_
                              refine zG.blk (pc' := 194) (l' := [some (0, a0), some (1, a1), none, some (1, a2), none]) (st' := [(1, zorl a1 a2)]) (M' := M) hX [(.lload_n 1, 0, 0, 0), (.lload_n 3, 0, 0, 0), (.lor, 0, 0, 0)] (by decide +kernel) rfl trivial ?_
                              cases h
                              exact zG.lret hX (by decide +kernel)
theorem pX12_both_ok {l : Launch} {E : ZE} {S : ZS} {M : ZM} {a0 a1 a2 : Int} {q : (Int × ZM)} (h : pX12_both S M a0 a1 a2 = some q) : zMet l yX12_both cX12_both 5 (some .long) 2 60 0 0 E S M [(0, a0), (1, a1), (1, a2)] (some (1, q.1)) S q.2 :=
  zMet.of (o := 12) (ini := false) (by decide +kernel) rfl (fun h => by cases h) (Nat.le_of_ble_eq_true rfl) (fun C hX hl hRm => by subst hl; exact pX12_both_go hX hRm h)
noncomputable def pX12_answer_147 (S : ZS) (k6 : ZM → Int → Int → Int → Int → Int → Option (Int × ZM)) (M : ZM) (x0 : Int) (x1 : Int) (x3 : Int) (x4 : Int) (x5 : Int) : Option (Int × ZM) := k6 M x0 x1 x3 x4 (w32 (x5 + 1))
set_option maxHeartbeats 2000000 in
set_option maxRecDepth 20000 in
theorem pX12_answer_147_ok {C : ZC} {E : ZE} {S : ZS} {k6 : ZM → Int → Int → Int → Int → Int → Option (Int × ZM)} {q : (Int × ZM)} (hX : zCx C E 12 cX12_answer 8 (some .long) false) (hRm : czR C = { frames := 3, cells := 0, slots := 0, locals := 84 }) (hk6 : ∀ M x0 x1 x3 x4 x5, k6 M x0 x1 x3 x4 x5 = some q → zG C E 8 S 0 0 (zQ C E 0 0 (some (1, q.1)) S q.2) 6 [some (2, x0), some (0, x1), none, some (0, x3), some (0, x4), some (0, x5), none, none] [] M) {M : ZM} {x0 : Int} {x1 : Int} {x3 : Int} {x4 : Int} {x5 : Int} (h : pX12_answer_147 S k6 M x0 x1 x3 x4 x5 = some q) : zG C E 8 S 0 0 (zQ C E 0 0 (some (1, q.1)) S q.2) 147 [some (2, x0), some (0, x1), none, some (0, x3), some (0, x4), some (0, x5), none, none] [] M := by
  unfold pX12_answer_147 at h
  refine zG.blk (pc' := 150) (l' := [some (2, x0), some (0, x1), none, some (0, x3), some (0, x4), some (0, w32 (x5 + 1)), none, none]) (st' := []) (M' := M) hX [(.iinc 5 1, 0, 0, 0)] (by decide +kernel) rfl trivial ?_
  refine zG.goto (tgt := 6) (off := (-144)) hX (by decide +kernel) (by decide) ?_
  exact (hk6 _ _ _ _ _ _ h)
noncomputable def pX12_answer_77 (S : ZS) (k6 : ZM → Int → Int → Int → Int → Int → Option (Int × ZM)) (M : ZM) (x0 : Int) (x1 : Int) (x3 : Int) (x4 : Int) (x5 : Int) (y0 : Int) (y1 : Int) (y2 : Int) : Option (Int × ZM) := if S.1 y2 = 101 ∧ (0 : Int) ≤ y1 ∧ y1 < S.2.1 y2 then zlet (upM M y2 y1 y0) fun M12 => pX12_answer_147 S k6 M12 x0 x1 x3 (w32 (x4 + 1)) x5 else none
set_option maxHeartbeats 2000000 in
set_option maxRecDepth 20000 in
theorem pX12_answer_77_ok {C : ZC} {E : ZE} {S : ZS} {k6 : ZM → Int → Int → Int → Int → Int → Option (Int × ZM)} {q : (Int × ZM)} (hX : zCx C E 12 cX12_answer 8 (some .long) false) (hRm : czR C = { frames := 3, cells := 0, slots := 0, locals := 84 }) (hk6 : ∀ M x0 x1 x3 x4 x5, k6 M x0 x1 x3 x4 x5 = some q → zG C E 8 S 0 0 (zQ C E 0 0 (some (1, q.1)) S q.2) 6 [some (2, x0), some (0, x1), none, some (0, x3), some (0, x4), some (0, x5), none, none] [] M) {M : ZM} {x0 : Int} {x1 : Int} {x3 : Int} {x4 : Int} {x5 : Int} {y0 : Int} {y1 : Int} {y2 : Int} (h : pX12_answer_77 S k6 M x0 x1 x3 x4 x5 y0 y1 y2 = some q) : zG C E 8 S 0 0 (zQ C E 0 0 (some (1, q.1)) S q.2) 77 [some (2, x0), some (0, x1), none, some (0, x3), some (0, x4), some (0, x5), none, none] [(1, y0), (0, y1), (2, y2)] M := by
  unfold pX12_answer_77 at h
  obtain ⟨g11, h⟩ := zif h
  refine zG.blk (pc' := 78) (l' := [some (2, x0), some (0, x1), none, some (0, x3), some (0, x4), some (0, x5), none, none]) (st' := []) (M' := (upM M y2 y1 y0)) hX [(.lastore, 0, 0, 0)] (by decide +kernel) rfl (And.intro g11 trivial) ?_
  generalize upM M y2 y1 y0 = M12 at h ⊢
  have h := zlt h
  refine zG.blk (pc' := 81) (l' := [some (2, x0), some (0, x1), none, some (0, x3), some (0, w32 (x4 + 1)), some (0, x5), none, none]) (st' := []) (M' := M12) hX [(.iinc 4 1, 0, 0, 0)] (by decide +kernel) rfl trivial ?_
  refine zG.goto (tgt := 147) (off := 66) hX (by decide +kernel) (by decide) ?_
  exact (pX12_answer_147_ok hX hRm hk6 h)
noncomputable def pX12_answer_53 (S : ZS) (k6 : ZM → Int → Int → Int → Int → Int → Option (Int × ZM)) (M : ZM) (x0 : Int) (x1 : Int) (x3 : Int) (x4 : Int) (x5 : Int) (x6 : Int) (x7 : Int) : Option (Int × ZM) := if S.1 x0 = 12 then if x6 = 0 then (pX12_answer_77 S k6 M x0 x1 x3 x4 x5 x7 x4 (M x0 39)) else (if S.1 (M x0 38) = 101 ∧ (0 : Int) ≤ x7 ∧ x7 < S.2.1 (M x0 38) then pX12_answer_77 S k6 M x0 x1 x3 x4 x5 (M (M x0 38) x7) x4 (M x0 39) else none) else none
set_option maxHeartbeats 2000000 in
set_option maxRecDepth 20000 in
theorem pX12_answer_53_ok {C : ZC} {E : ZE} {S : ZS} {k6 : ZM → Int → Int → Int → Int → Int → Option (Int × ZM)} {q : (Int × ZM)} (hX : zCx C E 12 cX12_answer 8 (some .long) false) (hRm : czR C = { frames := 3, cells := 0, slots := 0, locals := 84 }) (hk6 : ∀ M x0 x1 x3 x4 x5, k6 M x0 x1 x3 x4 x5 = some q → zG C E 8 S 0 0 (zQ C E 0 0 (some (1, q.1)) S q.2) 6 [some (2, x0), some (0, x1), none, some (0, x3), some (0, x4), some (0, x5), none, none] [] M) {M : ZM} {x0 : Int} {x1 : Int} {x3 : Int} {x4 : Int} {x5 : Int} {x6 : Int} {x7 : Int} (h : pX12_answer_53 S k6 M x0 x1 x3 x4 x5 x6 x7 = some q) : zG C E 8 S 0 0 (zQ C E 0 0 (some (1, q.1)) S q.2) 53 [some (2, x0), some (0, x1), none, some (0, x3), some (0, x4), some (0, x5), some (0, x6), some (0, x7)] [] M := by
  unfold pX12_answer_53 at h
  obtain ⟨g8, h⟩ := zif h
  refine zG.blk (pc' := 61) (l' := [some (2, x0), some (0, x1), none, some (0, x3), some (0, x4), some (0, x5), some (0, x6), some (0, x7)]) (st' := [(0, x6), (0, x4), (2, M x0 39)]) (M' := M) hX [(.aload_n 0, 0, 0, 0), (.getfield 100, 12, 39, 2), (.iload 4, 0, 0, 0), (.iload 6, 0, 0, 0)] (by decide +kernel) rfl (And.intro g8 trivial) ?_
  refine zG.if_ne (tgt := 70) (off := 9) hX (by decide +kernel) (by decide) (fun c9 => ?_) (fun c9 => ?_)
  · have h := zin c9 h
    obtain ⟨g10, h⟩ := zif h
    refine zG.blk (pc' := 77) (l' := [some (2, x0), some (0, x1), none, some (0, x3), some (0, x4), some (0, x5), some (0, x6), some (0, x7)]) (st' := [(1, M (M x0 38) x7), (0, x4), (2, M x0 39)]) (M' := M) hX [(.aload_n 0, 0, 0, 0), (.getfield 96, 12, 38, 2), (.iload 7, 0, 0, 0), (.laload, 0, 0, 0)] (by decide +kernel) rfl (And.intro g8 (And.intro g10 trivial)) ?_
    exact zG.wk [true, true, true, true, true, true, false, false] (pX12_answer_77_ok hX hRm hk6 h)
  · have h := zip c9 h
    refine zG.blk (pc' := 67) (l' := [some (2, x0), some (0, x1), none, some (0, x3), some (0, x4), some (0, x5), some (0, x6), some (0, x7)]) (st' := [(1, x7), (0, x4), (2, M x0 39)]) (M' := M) hX [(.iload 7, 0, 0, 0), (.i2l, 0, 0, 0)] (by decide +kernel) rfl trivial ?_
    refine zG.goto (tgt := 77) (off := 10) hX (by decide +kernel) (by decide) ?_
    exact zG.wk [true, true, true, true, true, true, false, false] (pX12_answer_77_ok hX hRm hk6 h)
theorem ss_12_334 : zSS 12 334 yX12_both cX12_both 5 (some .long) 3 := ⟨⟨gt_at 1540 (by decide +kernel) rfl, gt_at 1541 (by decide +kernel) rfl, gt_at 117 (by decide +kernel) rfl, gt_at 1542 (by decide +kernel) rfl⟩, by decide +kernel, by decide +kernel, by decide +kernel⟩
noncomputable def pX12_answer_6 (S : ZS) : Nat → ZM → Int → Int → Int → Int → Int → Option (Int × ZM)
  | 0 => fun _ _ _ _ _ _ => none
  | n + 1 => fun M x0 x1 x3 x4 x5 => if x3 ≤ x5 then (if S.1 x0 = 12 then if S.1 (M x0 39) = 101 ∧ (0 : Int) ≤ 0 ∧ 0 < S.2.1 (M x0 39) then some (M (M x0 39) 0, M) else none else none) else (if S.1 x0 = 12 then if S.1 (M x0 31) = 100 ∧ (0 : Int) ≤ w32 ((w32 (300 * x1)) + x5) ∧ w32 ((w32 (300 * x1)) + x5) < S.2.1 (M x0 31) then if S.1 (M x0 32) = 100 ∧ (0 : Int) ≤ w32 ((w32 (300 * x1)) + x5) ∧ w32 ((w32 (300 * x1)) + x5) < S.2.1 (M x0 32) then if M (M x0 31) (w32 ((w32 (300 * x1)) + x5)) = 0 then (pX12_answer_53 S (pX12_answer_6 S n) M x0 x1 x3 x4 x5 (M (M x0 31) (w32 ((w32 (300 * x1)) + x5))) (M (M x0 32) (w32 ((w32 (300 * x1)) + x5)))) else (if M (M x0 31) (w32 ((w32 (300 * x1)) + x5)) = 1 then (pX12_answer_53 S (pX12_answer_6 S n) M x0 x1 x3 x4 x5 (M (M x0 31) (w32 ((w32 (300 * x1)) + x5))) (M (M x0 32) (w32 ((w32 (300 * x1)) + x5)))) else (if M (M x0 31) (w32 ((w32 (300 * x1)) + x5)) = 9 then (if S.1 (M x0 39) = 101 ∧ (0 : Int) ≤ w32 (x4 - 1) ∧ w32 (x4 - 1) < S.2.1 (M x0 39) then zlet (upM M (M x0 39) (w32 (x4 - 1)) (w64 (1 - (M (M x0 39) (w32 (x4 - 1)))))) fun M21 => pX12_answer_147 S (pX12_answer_6 S n) M21 x0 x1 x3 x4 x5 else none) else (if S.1 (M x0 39) = 101 ∧ (0 : Int) ≤ w32 ((w32 (x4 + (-1))) - 1) ∧ w32 ((w32 (x4 + (-1))) - 1) < S.2.1 (M x0 39) then if S.1 (M x0 39) = 101 ∧ (0 : Int) ≤ w32 (x4 + (-1)) ∧ w32 (x4 + (-1)) < S.2.1 (M x0 39) then (pX12_both S M (M (M x0 31) (w32 ((w32 (300 * x1)) + x5))) (M (M x0 39) (w32 ((w32 (x4 + (-1))) - 1))) (M (M x0 39) (w32 (x4 + (-1))))).bind fun q17 => zlet (upM q17.2 (M x0 39) (w32 ((w32 (x4 + (-1))) - 1)) q17.1) fun M19 => pX12_answer_147 S (pX12_answer_6 S n) M19 x0 x1 x3 (w32 (x4 + (-1))) x5 else none else none))) else none else none else none)
set_option maxHeartbeats 2000000 in
set_option maxRecDepth 20000 in
theorem pX12_answer_6_ok {C : ZC} {E : ZE} {S : ZS} {q : (Int × ZM)} (hX : zCx C E 12 cX12_answer 8 (some .long) false) (hRm : czR C = { frames := 3, cells := 0, slots := 0, locals := 84 }) : ∀ (n : Nat) (M : ZM) (x0 : Int) (x1 : Int) (x3 : Int) (x4 : Int) (x5 : Int), pX12_answer_6 S n M x0 x1 x3 x4 x5 = some q → zG C E 8 S 0 0 (zQ C E 0 0 (some (1, q.1)) S q.2) 6 [some (2, x0), some (0, x1), none, some (0, x3), some (0, x4), some (0, x5), none, none] [] M := by
  intro n
  induction n with
  | zero => intro M x0 x1 x3 x4 x5 h; cases h
  | succ n ih =>
    intro M x0 x1 x3 x4 x5 h
    unfold pX12_answer_6 at h
    refine zG.blk (pc' := 9) (l' := [some (2, x0), some (0, x1), none, some (0, x3), some (0, x4), some (0, x5), none, none]) (st' := [(0, x3), (0, x5)]) (M' := M) hX [(.iload 5, 0, 0, 0), (.iload_n 3, 0, 0, 0)] (by decide +kernel) rfl trivial ?_
    refine zG.icmp_ge (tgt := 153) (off := 144) hX (by decide +kernel) (by decide) (fun c1 => ?_) (fun c1 => ?_)
    · have h := zip c1 h
      obtain ⟨g2, h⟩ := zif h
      obtain ⟨g3, h⟩ := zif h
      refine zG.blk (pc' := 159) (l' := [some (2, x0), some (0, x1), none, some (0, x3), some (0, x4), some (0, x5), none, none]) (st' := [(1, M (M x0 39) 0)]) (M' := M) hX [(.aload_n 0, 0, 0, 0), (.getfield 100, 12, 39, 2), (.iconst 0, 0, 0, 0), (.laload, 0, 0, 0)] (by decide +kernel) rfl (And.intro g2 (And.intro g3 trivial)) ?_
      cases h
      exact zG.lret hX (by decide +kernel)
    · have h := zin c1 h
      obtain ⟨g4, h⟩ := zif h
      obtain ⟨g5, h⟩ := zif h
      obtain ⟨g6, h⟩ := zif h
      refine zG.blk (pc' := 44) (l' := [some (2, x0), some (0, x1), none, some (0, x3), some (0, x4), some (0, x5), some (0, M (M x0 31) (w32 ((w32 (300 * x1)) + x5))), some (0, M (M x0 32) (w32 ((w32 (300 * x1)) + x5)))]) (st' := [(0, M (M x0 31) (w32 ((w32 (300 * x1)) + x5)))]) (M' := M) hX [(.aload_n 0, 0, 0, 0), (.getfield 75, 12, 31, 2), (.sipush 300, 0, 0, 0), (.iload_n 1, 0, 0, 0), (.imul, 0, 0, 0), (.iload 5, 0, 0, 0), (.iadd, 0, 0, 0), (.iaload, 0, 0, 0), (.istore 6, 0, 0, 0), (.aload_n 0, 0, 0, 0), (.getfield 78, 12, 32, 2), (.sipush 300, 0, 0, 0), (.iload_n 1, 0, 0, 0), (.imul, 0, 0, 0), (.iload 5, 0, 0, 0), (.iadd, 0, 0, 0), (.iaload, 0, 0, 0), (.istore 7, 0, 0, 0), (.iload 6, 0, 0, 0)] (by decide +kernel) rfl (And.intro g4 (And.intro g5 (And.intro g4 (And.intro g6 trivial)))) ?_
      refine zG.if_eq (tgt := 53) (off := 9) hX (by decide +kernel) (by decide) (fun c7 => ?_) (fun c7 => ?_)
      · have h := zip c7 h
        exact (pX12_answer_53_ok hX hRm ih h)
      · have h := zin c7 h
        refine zG.blk (pc' := 50) (l' := [some (2, x0), some (0, x1), none, some (0, x3), some (0, x4), some (0, x5), some (0, M (M x0 31) (w32 ((w32 (300 * x1)) + x5))), some (0, M (M x0 32) (w32 ((w32 (300 * x1)) + x5)))]) (st' := [(0, 1), (0, M (M x0 31) (w32 ((w32 (300 * x1)) + x5)))]) (M' := M) hX [(.iload 6, 0, 0, 0), (.iconst 1, 0, 0, 0)] (by decide +kernel) rfl trivial ?_
        refine zG.icmp_ne (tgt := 84) (off := 34) hX (by decide +kernel) (by decide) (fun c13 => ?_) (fun c13 => ?_)
        · have h := zin c13 h
          refine zG.blk (pc' := 88) (l' := [some (2, x0), some (0, x1), none, some (0, x3), some (0, x4), some (0, x5), some (0, M (M x0 31) (w32 ((w32 (300 * x1)) + x5))), some (0, M (M x0 32) (w32 ((w32 (300 * x1)) + x5)))]) (st' := [(0, 9), (0, M (M x0 31) (w32 ((w32 (300 * x1)) + x5)))]) (M' := M) hX [(.iload 6, 0, 0, 0), (.bipush 9, 0, 0, 0)] (by decide +kernel) rfl trivial ?_
          refine zG.icmp_ne (tgt := 114) (off := 26) hX (by decide +kernel) (by decide) (fun c14 => ?_) (fun c14 => ?_)
          · have h := zin c14 h
            obtain ⟨g15, h⟩ := zif h
            obtain ⟨g16, h⟩ := zif h
            refine zG.blk (pc' := 143) (l' := [some (2, x0), some (0, x1), none, some (0, x3), some (0, w32 (x4 + (-1))), some (0, x5), some (0, M (M x0 31) (w32 ((w32 (300 * x1)) + x5))), some (0, M (M x0 32) (w32 ((w32 (300 * x1)) + x5)))]) (st' := [(1, M (M x0 39) (w32 (x4 + (-1)))), (1, M (M x0 39) (w32 ((w32 (x4 + (-1))) - 1))), (0, M (M x0 31) (w32 ((w32 (300 * x1)) + x5))), (0, w32 ((w32 (x4 + (-1))) - 1)), (2, M x0 39)]) (M' := M) hX [(.iinc 4 (-1), 0, 0, 0), (.aload_n 0, 0, 0, 0), (.getfield 100, 12, 39, 2), (.iload 4, 0, 0, 0), (.iconst 1, 0, 0, 0), (.isub, 0, 0, 0), (.iload 6, 0, 0, 0), (.aload_n 0, 0, 0, 0), (.getfield 100, 12, 39, 2), (.iload 4, 0, 0, 0), (.iconst 1, 0, 0, 0), (.isub, 0, 0, 0), (.laload, 0, 0, 0), (.aload_n 0, 0, 0, 0), (.getfield 100, 12, 39, 2), (.iload 4, 0, 0, 0), (.laload, 0, 0, 0)] (by decide +kernel) rfl (And.intro g4 (And.intro g4 (And.intro g15 (And.intro g4 (And.intro g16 trivial))))) ?_
            obtain ⟨q17, e18, h⟩ := zbd h
            refine zG.callS (av := [(0, M (M x0 31) (w32 ((w32 (300 * x1)) + x5))), (1, M (M x0 39) (w32 ((w32 (x4 + (-1))) - 1))), (1, M (M x0 39) (w32 (x4 + (-1))))]) (st := [(0, w32 ((w32 (x4 + (-1))) - 1)), (2, M x0 39)]) hX (pX12_both_ok e18) ss_12_334 rfl (by decide +kernel) (by rw [hRm]; exact ⟨Nat.le_of_ble_eq_true rfl, Nat.le_of_ble_eq_true rfl⟩) (by rw [hRm]; exact ⟨Nat.le_of_ble_eq_true rfl, Nat.le_of_ble_eq_true rfl⟩) (Nat.le_of_ble_eq_true rfl) ?_
            show zG C E 8 S 0 0 _ 146 [some (2, x0), some (0, x1), none, some (0, x3), some (0, w32 (x4 + (-1))), some (0, x5), some (0, M (M x0 31) (w32 ((w32 (300 * x1)) + x5))), some (0, M (M x0 32) (w32 ((w32 (300 * x1)) + x5)))] [(1, q17.1), (0, w32 ((w32 (x4 + (-1))) - 1)), (2, M x0 39)] q17.2
            refine zG.blk (pc' := 147) (l' := [some (2, x0), some (0, x1), none, some (0, x3), some (0, w32 (x4 + (-1))), some (0, x5), some (0, M (M x0 31) (w32 ((w32 (300 * x1)) + x5))), some (0, M (M x0 32) (w32 ((w32 (300 * x1)) + x5)))]) (st' := []) (M' := (upM q17.2 (M x0 39) (w32 ((w32 (x4 + (-1))) - 1)) q17.1)) hX [(.lastore, 0, 0, 0)] (by decide +kernel) rfl (And.intro g15 trivial) ?_
            generalize upM q17.2 (M x0 39) (w32 ((w32 (x4 + (-1))) - 1)) q17.1 = M19 at h ⊢
            have h := zlt h
            exact zG.wk [true, true, true, true, true, true, false, false] (pX12_answer_147_ok hX hRm ih h)
          · have h := zip c14 h
            obtain ⟨g20, h⟩ := zif h
            refine zG.blk (pc' := 111) (l' := [some (2, x0), some (0, x1), none, some (0, x3), some (0, x4), some (0, x5), some (0, M (M x0 31) (w32 ((w32 (300 * x1)) + x5))), some (0, M (M x0 32) (w32 ((w32 (300 * x1)) + x5)))]) (st' := []) (M' := (upM M (M x0 39) (w32 (x4 - 1)) (w64 (1 - (M (M x0 39) (w32 (x4 - 1))))))) hX [(.aload_n 0, 0, 0, 0), (.getfield 100, 12, 39, 2), (.iload 4, 0, 0, 0), (.iconst 1, 0, 0, 0), (.isub, 0, 0, 0), (.lconst 1, 1, 0, 0), (.aload_n 0, 0, 0, 0), (.getfield 100, 12, 39, 2), (.iload 4, 0, 0, 0), (.iconst 1, 0, 0, 0), (.isub, 0, 0, 0), (.laload, 0, 0, 0), (.lsub, 0, 0, 0), (.lastore, 0, 0, 0)] (by decide +kernel) rfl (And.intro g4 (And.intro g4 (And.intro g20 (And.intro g20 trivial)))) ?_
            generalize upM M (M x0 39) (w32 (x4 - 1)) (w64 (1 - (M (M x0 39) (w32 (x4 - 1))))) = M21 at h ⊢
            have h := zlt h
            refine zG.goto (tgt := 147) (off := 36) hX (by decide +kernel) (by decide) ?_
            exact zG.wk [true, true, true, true, true, true, false, false] (pX12_answer_147_ok hX hRm ih h)
        · have h := zip c13 h
          exact (pX12_answer_53_ok hX hRm ih h)
noncomputable def pX12_answer (S : ZS) (M : ZM) (a0 : Int) (a1 : Int) (a2 : Int) (a3 : Int) : Option (Int × ZM) := pX12_answer_6 S zFU M a0 a1 a3 0 a2
set_option maxHeartbeats 2000000 in
set_option maxRecDepth 20000 in
theorem pX12_answer_go {C : ZC} {E : ZE} {S : ZS} {M : ZM} {a0 a1 a2 a3 : Int} {q : (Int × ZM)} (hX : zCx C E 12 cX12_answer 8 (some .long) false) (hRm : czR C = { frames := 3, cells := 0, slots := 0, locals := 84 }) (h : pX12_answer  S M a0 a1 a2 a3 = some q) : zG C E 8 S 0 0 (zQ C E 0 0 (some (1, q.1)) S q.2) 0 [some (2, a0), some (0, a1), some (0, a2), some (0, a3), none, none, none, none] [] M := by
  unfold pX12_answer at h
  refine zG.blk (pc' := 6) (l' := [some (2, a0), some (0, a1), some (0, a2), some (0, a3), some (0, 0), some (0, a2), none, none]) (st' := []) (M' := M) hX [(.iconst 0, 0, 0, 0), (.istore 4, 0, 0, 0), (.iload_n 2, 0, 0, 0), (.istore 5, 0, 0, 0)] (by decide +kernel) rfl trivial ?_
  exact zG.wk [true, true, false, true, true, true, true, true] (pX12_answer_6_ok hX hRm zFU _ _ _ _ _ _ h)
theorem pX12_answer_ok {l : Launch} {E : ZE} {S : ZS} {M : ZM} {a0 a1 a2 a3 : Int} {q : (Int × ZM)} (h : pX12_answer S M a0 a1 a2 a3 = some q) : zMet l yX12_answer cX12_answer 8 (some .long) 3 84 0 0 E S M [(2, a0), (0, a1), (0, a2), (0, a3)] (some (1, q.1)) S q.2 :=
  zMet.of (o := 12) (ini := false) (by decide +kernel) rfl (fun h => by cases h) (Nat.le_of_ble_eq_true rfl) (fun C hX hl hRm => by subst hl; exact pX12_answer_go hX hRm h)
theorem sv_12_326 : zSV 12 326 yX12_answer cX12_answer 8 (some .long) 3 := ⟨⟨gt_at 1536 (by decide +kernel) rfl, gt_at 1538 (by decide +kernel) rfl, gt_at 78 (by decide +kernel) rfl, gt_at 117 (by decide +kernel) rfl, gt_at 1539 (by decide +kernel) rfl⟩, by decide +kernel, by decide +kernel, by decide +kernel⟩
noncomputable def pX12_wanted_65 (S : ZS) (M : ZM) (x0 : Int) (x1 : Int) (x2 : Int) : Option (Int × ZM) := if S.1 x0 = 12 then if S.1 (M x0 34) = 100 ∧ (0 : Int) ≤ x2 ∧ x2 < S.2.1 (M x0 34) then if S.1 (M x0 35) = 100 ∧ (0 : Int) ≤ x2 ∧ x2 < S.2.1 (M x0 35) then (pX12_answer S M x0 x1 (M (M x0 34) x2) (M (M x0 35) x2)).bind fun q12 => some (q12.1, q12.2) else none else none else none
set_option maxHeartbeats 2000000 in
set_option maxRecDepth 20000 in
theorem pX12_wanted_65_ok {C : ZC} {E : ZE} {S : ZS} {q : (Int × ZM)} (hX : zCx C E 12 cX12_wanted 3 (some .long) false) (hRm : czR C = { frames := 4, cells := 0, slots := 0, locals := 111 }) {M : ZM} {x0 : Int} {x1 : Int} {x2 : Int} (h : pX12_wanted_65 S M x0 x1 x2 = some q) : zG C E 3 S 0 0 (zQ C E 0 0 (some (1, q.1)) S q.2) 65 [some (2, x0), some (0, x1), some (0, x2)] [] M := by
  unfold pX12_wanted_65 at h
  obtain ⟨g9, h⟩ := zif h
  obtain ⟨g10, h⟩ := zif h
  obtain ⟨g11, h⟩ := zif h
  refine zG.blk (pc' := 79) (l' := [some (2, x0), some (0, x1), some (0, x2)]) (st' := [(0, M (M x0 35) x2), (0, M (M x0 34) x2), (0, x1), (2, x0)]) (M' := M) hX [(.aload_n 0, 0, 0, 0), (.iload_n 1, 0, 0, 0), (.aload_n 0, 0, 0, 0), (.getfield 84, 12, 34, 2), (.iload_n 2, 0, 0, 0), (.iaload, 0, 0, 0), (.aload_n 0, 0, 0, 0), (.getfield 87, 12, 35, 2), (.iload_n 2, 0, 0, 0), (.iaload, 0, 0, 0)] (by decide +kernel) rfl (And.intro g9 (And.intro g10 (And.intro g9 (And.intro g11 trivial)))) ?_
  obtain ⟨q12, e13, h⟩ := zbd h
  refine zG.callV (b := x0) (av := [(0, x1), (0, M (M x0 34) x2), (0, M (M x0 35) x2)]) (st := []) (ci := 12) hX (pX12_answer_ok e13) sv_12_326 rfl ⟨by decide, rfl⟩ g9 (by decide +kernel) (by rw [hRm]; exact ⟨Nat.le_of_ble_eq_true rfl, Nat.le_of_ble_eq_true rfl⟩) (by rw [hRm]; exact ⟨Nat.le_of_ble_eq_true rfl, Nat.le_of_ble_eq_true rfl⟩) (Nat.le_of_ble_eq_true rfl) ?_
  show zG C E 3 S 0 0 _ 82 [some (2, x0), some (0, x1), some (0, x2)] [(1, q12.1)] q12.2
  cases h
  exact zG.lret hX (by decide +kernel)
noncomputable def pX12_wanted_13 (S : ZS) : Nat → ZM → Int → Int → Int → Option (Int × ZM)
  | 0 => fun _ _ _ _ => none
  | n + 1 => fun M x0 x1 x2 => if S.1 x0 = 12 then if S.1 (M x0 33) = 100 ∧ (0 : Int) ≤ x1 ∧ x1 < S.2.1 (M x0 33) then if w32 ((w32 (12 * x1)) + (M (M x0 33) x1)) ≤ x2 then (some (0, M)) else (if S.1 (M x0 35) = 100 ∧ (0 : Int) ≤ x2 ∧ x2 < S.2.1 (M x0 35) then if S.1 (M x0 36) = 100 ∧ (0 : Int) ≤ x2 ∧ x2 < S.2.1 (M x0 36) then if M (M x0 35) x2 = M (M x0 36) x2 then (pX12_wanted_65 S M x0 x1 x2) else ((pX12_answer S M x0 x1 (M (M x0 35) x2) (M (M x0 36) x2)).bind fun q14 => if zcmp q14.1 1 = 0 then (pX12_wanted_65 S q14.2 x0 x1 x2) else (pX12_wanted_13 S n q14.2 x0 x1 (w32 (x2 + 1)))) else none else none) else none else none
set_option maxHeartbeats 2000000 in
set_option maxRecDepth 20000 in
theorem pX12_wanted_13_ok {C : ZC} {E : ZE} {S : ZS} {q : (Int × ZM)} (hX : zCx C E 12 cX12_wanted 3 (some .long) false) (hRm : czR C = { frames := 4, cells := 0, slots := 0, locals := 111 }) : ∀ (n : Nat) (M : ZM) (x0 : Int) (x1 : Int) (x2 : Int), pX12_wanted_13 S n M x0 x1 x2 = some q → zG C E 3 S 0 0 (zQ C E 0 0 (some (1, q.1)) S q.2) 13 [some (2, x0), some (0, x1), some (0, x2)] [] M := by
  intro n
  induction n with
  | zero => intro M x0 x1 x2 h; cases h
  | succ n ih =>
    intro M x0 x1 x2 h
    unfold pX12_wanted_13 at h
    obtain ⟨g3, h⟩ := zif h
    obtain ⟨g4, h⟩ := zif h
    refine zG.blk (pc' := 25) (l' := [some (2, x0), some (0, x1), some (0, x2)]) (st' := [(0, w32 ((w32 (12 * x1)) + (M (M x0 33) x1))), (0, x2)]) (M' := M) hX [(.iload_n 2, 0, 0, 0), (.bipush 12, 0, 0, 0), (.iload_n 1, 0, 0, 0), (.imul, 0, 0, 0), (.aload_n 0, 0, 0, 0), (.getfield 81, 12, 33, 2), (.iload_n 1, 0, 0, 0), (.iaload, 0, 0, 0), (.iadd, 0, 0, 0)] (by decide +kernel) rfl (And.intro g3 (And.intro g4 trivial)) ?_
    refine zG.icmp_ge (tgt := 89) (off := 64) hX (by decide +kernel) (by decide) (fun c5 => ?_) (fun c5 => ?_)
    · have h := zip c5 h
      refine zG.blk (pc' := 90) (l' := [some (2, x0), some (0, x1), some (0, x2)]) (st' := [(1, 0)]) (M' := M) hX [(.lconst 0, 0, 0, 0)] (by decide +kernel) rfl trivial ?_
      cases h
      exact zG.lret hX (by decide +kernel)
    · have h := zin c5 h
      obtain ⟨g6, h⟩ := zif h
      obtain ⟨g7, h⟩ := zif h
      refine zG.blk (pc' := 40) (l' := [some (2, x0), some (0, x1), some (0, x2)]) (st' := [(0, M (M x0 36) x2), (0, M (M x0 35) x2)]) (M' := M) hX [(.aload_n 0, 0, 0, 0), (.getfield 87, 12, 35, 2), (.iload_n 2, 0, 0, 0), (.iaload, 0, 0, 0), (.aload_n 0, 0, 0, 0), (.getfield 90, 12, 36, 2), (.iload_n 2, 0, 0, 0), (.iaload, 0, 0, 0)] (by decide +kernel) rfl (And.intro g3 (And.intro g6 (And.intro g3 (And.intro g7 trivial)))) ?_
      refine zG.icmp_eq (tgt := 65) (off := 25) hX (by decide +kernel) (by decide) (fun c8 => ?_) (fun c8 => ?_)
      · have h := zip c8 h
        exact (pX12_wanted_65_ok hX hRm h)
      · have h := zin c8 h
        refine zG.blk (pc' := 57) (l' := [some (2, x0), some (0, x1), some (0, x2)]) (st' := [(0, M (M x0 36) x2), (0, M (M x0 35) x2), (0, x1), (2, x0)]) (M' := M) hX [(.aload_n 0, 0, 0, 0), (.iload_n 1, 0, 0, 0), (.aload_n 0, 0, 0, 0), (.getfield 87, 12, 35, 2), (.iload_n 2, 0, 0, 0), (.iaload, 0, 0, 0), (.aload_n 0, 0, 0, 0), (.getfield 90, 12, 36, 2), (.iload_n 2, 0, 0, 0), (.iaload, 0, 0, 0)] (by decide +kernel) rfl (And.intro g3 (And.intro g6 (And.intro g3 (And.intro g7 trivial)))) ?_
        obtain ⟨q14, e15, h⟩ := zbd h
        refine zG.callV (b := x0) (av := [(0, x1), (0, M (M x0 35) x2), (0, M (M x0 36) x2)]) (st := []) (ci := 12) hX (pX12_answer_ok e15) sv_12_326 rfl ⟨by decide, rfl⟩ g3 (by decide +kernel) (by rw [hRm]; exact ⟨Nat.le_of_ble_eq_true rfl, Nat.le_of_ble_eq_true rfl⟩) (by rw [hRm]; exact ⟨Nat.le_of_ble_eq_true rfl, Nat.le_of_ble_eq_true rfl⟩) (Nat.le_of_ble_eq_true rfl) ?_
        show zG C E 3 S 0 0 _ 60 [some (2, x0), some (0, x1), some (0, x2)] [(1, q14.1)] q14.2
        refine zG.blk (pc' := 62) (l' := [some (2, x0), some (0, x1), some (0, x2)]) (st' := [(0, zcmp q14.1 1)]) (M' := q14.2) hX [(.lconst 1, 1, 0, 0), (.lcmp, 0, 0, 0)] (by decide +kernel) rfl trivial ?_
        refine zG.if_ne (tgt := 83) (off := 21) hX (by decide +kernel) (by decide) (fun c16 => ?_) (fun c16 => ?_)
        · have h := zin c16 h
          refine zG.blk (pc' := 86) (l' := [some (2, x0), some (0, x1), some (0, w32 (x2 + 1))]) (st' := []) (M' := q14.2) hX [(.iinc 2 1, 0, 0, 0)] (by decide +kernel) rfl trivial ?_
          refine zG.goto (tgt := 13) (off := (-73)) hX (by decide +kernel) (by decide) ?_
          exact ih _ _ _ _ h
        · have h := zip c16 h
          exact (pX12_wanted_65_ok hX hRm h)
noncomputable def pX12_wanted (S : ZS) (M : ZM) (a0 : Int) : Option (Int × ZM) := if S.1 a0 = 12 then if S.1 (M a0 1) = 100 ∧ (0 : Int) ≤ 9 ∧ 9 < S.2.1 (M a0 1) then pX12_wanted_13 S zFU M a0 (M (M a0 1) 9) (w32 (12 * (M (M a0 1) 9))) else none else none
set_option maxHeartbeats 2000000 in
set_option maxRecDepth 20000 in
theorem pX12_wanted_go {C : ZC} {E : ZE} {S : ZS} {M : ZM} {a0 : Int} {q : (Int × ZM)} (hX : zCx C E 12 cX12_wanted 3 (some .long) false) (hRm : czR C = { frames := 4, cells := 0, slots := 0, locals := 111 }) (h : pX12_wanted  S M a0 = some q) : zG C E 3 S 0 0 (zQ C E 0 0 (some (1, q.1)) S q.2) 0 [some (2, a0), none, none] [] M := by
  unfold pX12_wanted at h
  obtain ⟨g1, h⟩ := zif h
  obtain ⟨g2, h⟩ := zif h
  refine zG.blk (pc' := 13) (l' := [some (2, a0), some (0, M (M a0 1) 9), some (0, w32 (12 * (M (M a0 1) 9)))]) (st' := []) (M' := M) hX [(.aload_n 0, 0, 0, 0), (.getfield 9, 12, 1, 2), (.bipush 9, 0, 0, 0), (.iaload, 0, 0, 0), (.istore_n 1, 0, 0, 0), (.bipush 12, 0, 0, 0), (.iload_n 1, 0, 0, 0), (.imul, 0, 0, 0), (.istore_n 2, 0, 0, 0)] (by decide +kernel) rfl (And.intro g1 (And.intro g2 trivial)) ?_
  exact (pX12_wanted_13_ok hX hRm zFU _ _ _ _ h)
theorem pX12_wanted_ok {l : Launch} {E : ZE} {S : ZS} {M : ZM} {a0 : Int} {q : (Int × ZM)} (h : pX12_wanted S M a0 = some q) : zMet l yX12_wanted cX12_wanted 3 (some .long) 4 111 0 0 E S M [(2, a0)] (some (1, q.1)) S q.2 :=
  zMet.of (o := 12) (ini := false) (by decide +kernel) rfl (fun h => by cases h) (Nat.le_of_ble_eq_true rfl) (fun C hX hl hRm => by subst hl; exact pX12_wanted_go hX hRm h)
theorem sv_12_359 : zSV 12 359 yX12_wanted cX12_wanted 3 (some .long) 0 := ⟨⟨gt_at 1532 (by decide +kernel) rfl, gt_at 1534 (by decide +kernel) rfl, gt_at 77 (by decide +kernel) rfl, gt_at 117 (by decide +kernel) rfl, gt_at 1535 (by decide +kernel) rfl⟩, by decide +kernel, by decide +kernel, by decide +kernel⟩
noncomputable def pX12_writes_243 (S : ZS) (M : ZM) (x0 : Int) : Option (Int × ZM) := if S.1 x0 = 12 then (pX12_wanted S M x0).bind fun q66 => some ((if zcmp q66.1 0 ≤ 0 then (0 : Int) else 1), q66.2) else none
set_option maxHeartbeats 2000000 in
set_option maxRecDepth 20000 in
theorem pX12_writes_243_ok {C : ZC} {E : ZE} {S : ZS} {q : (Int × ZM)} (hX : zCx C E 12 cX12_writes 2 (some .boolean) false) (hRm : czR C = { frames := 5, cells := 0, slots := 0, locals := 133 }) {M : ZM} {x0 : Int} (h : pX12_writes_243 S M x0 = some q) : zG C E 2 S 0 0 (zQ C E 0 0 (some (0, q.1)) S q.2) 243 [some (2, x0), none] [] M := by
  unfold pX12_writes_243 at h
  refine zG.blk (pc' := 244) (l' := [some (2, x0), none]) (st' := [(2, x0)]) (M' := M) hX [(.aload_n 0, 0, 0, 0)] (by decide +kernel) rfl trivial ?_
  obtain ⟨g68, h⟩ := zif h
  obtain ⟨q66, e67, h⟩ := zbd h
  refine zG.callV (b := x0) (av := []) (st := []) (ci := 12) hX (pX12_wanted_ok e67) sv_12_359 rfl ⟨by decide, rfl⟩ g68 (by decide +kernel) (by rw [hRm]; exact ⟨Nat.le_of_ble_eq_true rfl, Nat.le_of_ble_eq_true rfl⟩) (by rw [hRm]; exact ⟨Nat.le_of_ble_eq_true rfl, Nat.le_of_ble_eq_true rfl⟩) (Nat.le_of_ble_eq_true rfl) ?_
  show zG C E 2 S 0 0 _ 247 [some (2, x0), none] [(1, q66.1)] q66.2
  refine zG.blk (pc' := 249) (l' := [some (2, x0), none]) (st' := [(0, zcmp q66.1 0)]) (M' := q66.2) hX [(.lconst 0, 0, 0, 0), (.lcmp, 0, 0, 0)] (by decide +kernel) rfl trivial ?_
  have key69 : zG C E 2 S 0 0 (zQ C E 0 0 (some (0, q.1)) S q.2) 257 [some (2, x0), none] [(0, (if zcmp q66.1 0 ≤ 0 then (0 : Int) else 1))] q66.2 := by
    cases h
    exact zG.zret hX (by decide +kernel) (z01_ite (Or.inl rfl) (Or.inr rfl))
  refine zG.if_le (tgt := 256) (off := 7) hX (by decide +kernel) (by decide) (fun c70 => ?_) (fun c70 => ?_)
  · refine zG.blk (pc' := 257) (l' := [some (2, x0), none]) (st' := [(0, 0)]) (M' := q66.2) hX [(.iconst 0, 0, 0, 0)] (by decide +kernel) rfl trivial ?_
    (have k := key69; simp only [if_pos c70] at k; exact k)
  · refine zG.blk (pc' := 253) (l' := [some (2, x0), none]) (st' := [(0, 1)]) (M' := q66.2) hX [(.iconst 1, 0, 0, 0)] (by decide +kernel) rfl trivial ?_
    refine zG.goto (tgt := 257) (off := 4) hX (by decide +kernel) (by decide) ?_
    (have k := key69; simp only [if_neg c70] at k; exact k)
noncomputable def pX12_writes_209 (S : ZS) (M : ZM) (x0 : Int) : Option (Int × ZM) := if S.1 x0 = 12 then if S.1 (M x0 1) = 100 ∧ (0 : Int) ≤ 4 ∧ 4 < S.2.1 (M x0 1) then (pX12_forceOf S M x0 (w32 ((M (M x0 1) 4) + 1))).bind fun q59 => if S.1 (M x0 38) = 101 ∧ (0 : Int) ≤ 10 ∧ 10 < S.2.1 (M x0 38) then zlet (upM q59.2 (M x0 38) 10 q59.1) fun M62 => if S.1 (M62 x0 1) = 100 ∧ (0 : Int) ≤ 4 ∧ 4 < S.2.1 (M62 x0 1) then if S.1 (M62 x0 38) = 101 ∧ (0 : Int) ≤ 11 ∧ 11 < S.2.1 (M62 x0 38) then zlet (upM M62 (M62 x0 38) 11 (M62 (M62 x0 1) 4)) fun M65 => pX12_writes_243 S M65 x0 else none else none else none else none else none
set_option maxHeartbeats 2000000 in
set_option maxRecDepth 20000 in
theorem pX12_writes_209_ok {C : ZC} {E : ZE} {S : ZS} {q : (Int × ZM)} (hX : zCx C E 12 cX12_writes 2 (some .boolean) false) (hRm : czR C = { frames := 5, cells := 0, slots := 0, locals := 133 }) {M : ZM} {x0 : Int} (h : pX12_writes_209 S M x0 = some q) : zG C E 2 S 0 0 (zQ C E 0 0 (some (0, q.1)) S q.2) 209 [some (2, x0), none] [] M := by
  unfold pX12_writes_209 at h
  obtain ⟨g57, h⟩ := zif h
  obtain ⟨g58, h⟩ := zif h
  refine zG.blk (pc' := 224) (l' := [some (2, x0), none]) (st' := [(0, w32 ((M (M x0 1) 4) + 1)), (2, x0), (0, 10), (2, M x0 38)]) (M' := M) hX [(.aload_n 0, 0, 0, 0), (.getfield 96, 12, 38, 2), (.bipush 10, 0, 0, 0), (.aload_n 0, 0, 0, 0), (.aload_n 0, 0, 0, 0), (.getfield 9, 12, 1, 2), (.iconst 4, 0, 0, 0), (.iaload, 0, 0, 0), (.iconst 1, 0, 0, 0), (.iadd, 0, 0, 0)] (by decide +kernel) rfl (And.intro g57 (And.intro g57 (And.intro g58 trivial))) ?_
  obtain ⟨q59, e60, h⟩ := zbd h
  refine zG.callV (b := x0) (av := [(0, w32 ((M (M x0 1) 4) + 1))]) (st := [(0, 10), (2, M x0 38)]) (ci := 12) hX (pX12_forceOf_ok e60) sv_12_356 rfl ⟨by decide, rfl⟩ g57 (by decide +kernel) (by rw [hRm]; exact ⟨Nat.le_of_ble_eq_true rfl, Nat.le_of_ble_eq_true rfl⟩) (by rw [hRm]; exact ⟨Nat.le_of_ble_eq_true rfl, Nat.le_of_ble_eq_true rfl⟩) (Nat.le_of_ble_eq_true rfl) ?_
  show zG C E 2 S 0 0 _ 227 [some (2, x0), none] [(0, q59.1), (0, 10), (2, M x0 38)] q59.2
  obtain ⟨g61, h⟩ := zif h
  refine zG.blk (pc' := 229) (l' := [some (2, x0), none]) (st' := []) (M' := (upM q59.2 (M x0 38) 10 q59.1)) hX [(.i2l, 0, 0, 0), (.lastore, 0, 0, 0)] (by decide +kernel) rfl (And.intro g61 trivial) ?_
  generalize upM q59.2 (M x0 38) 10 q59.1 = M62 at h ⊢
  have h := zlt h
  obtain ⟨g63, h⟩ := zif h
  obtain ⟨g64, h⟩ := zif h
  refine zG.blk (pc' := 243) (l' := [some (2, x0), none]) (st' := []) (M' := (upM M62 (M62 x0 38) 11 (M62 (M62 x0 1) 4))) hX [(.aload_n 0, 0, 0, 0), (.getfield 96, 12, 38, 2), (.bipush 11, 0, 0, 0), (.aload_n 0, 0, 0, 0), (.getfield 9, 12, 1, 2), (.iconst 4, 0, 0, 0), (.iaload, 0, 0, 0), (.i2l, 0, 0, 0), (.lastore, 0, 0, 0)] (by decide +kernel) rfl (And.intro g57 (And.intro g57 (And.intro g63 (And.intro g64 trivial)))) ?_
  generalize upM M62 (M62 x0 38) 11 (M62 (M62 x0 1) 4) = M65 at h ⊢
  have h := zlt h
  exact (pX12_writes_243_ok hX hRm h)
noncomputable def pX12_writes_189 (S : ZS) (M : ZM) (x0 : Int) (x1 : Int) (y0 : Int) (y1 : Int) (y2 : Int) : Option (Int × ZM) := if S.1 y2 = 101 ∧ (0 : Int) ≤ y1 ∧ y1 < S.2.1 y2 then zlet (upM M y2 y1 y0) fun M51 => if S.1 x0 = 12 then if S.1 (M51 x0 2) = 100 ∧ (0 : Int) ≤ x1 ∧ x1 < S.2.1 (M51 x0 2) then if S.1 (M51 x0 8) = 100 ∧ (0 : Int) ≤ M51 (M51 x0 2) x1 ∧ M51 (M51 x0 2) x1 < S.2.1 (M51 x0 8) then if S.1 (M51 x0 38) = 101 ∧ (0 : Int) ≤ 9 ∧ 9 < S.2.1 (M51 x0 38) then zlet (upM M51 (M51 x0 38) 9 (M51 (M51 x0 8) (M51 (M51 x0 2) x1))) fun M56 => pX12_writes_209 S M56 x0 else none else none else none else none else none
set_option maxHeartbeats 2000000 in
set_option maxRecDepth 20000 in
theorem pX12_writes_189_ok {C : ZC} {E : ZE} {S : ZS} {q : (Int × ZM)} (hX : zCx C E 12 cX12_writes 2 (some .boolean) false) (hRm : czR C = { frames := 5, cells := 0, slots := 0, locals := 133 }) {M : ZM} {x0 : Int} {x1 : Int} {y0 : Int} {y1 : Int} {y2 : Int} (h : pX12_writes_189 S M x0 x1 y0 y1 y2 = some q) : zG C E 2 S 0 0 (zQ C E 0 0 (some (0, q.1)) S q.2) 189 [some (2, x0), some (0, x1)] [(1, y0), (0, y1), (2, y2)] M := by
  unfold pX12_writes_189 at h
  obtain ⟨g50, h⟩ := zif h
  refine zG.blk (pc' := 190) (l' := [some (2, x0), some (0, x1)]) (st' := []) (M' := (upM M y2 y1 y0)) hX [(.lastore, 0, 0, 0)] (by decide +kernel) rfl (And.intro g50 trivial) ?_
  generalize upM M y2 y1 y0 = M51 at h ⊢
  have h := zlt h
  obtain ⟨g52, h⟩ := zif h
  obtain ⟨g53, h⟩ := zif h
  obtain ⟨g54, h⟩ := zif h
  obtain ⟨g55, h⟩ := zif h
  refine zG.blk (pc' := 209) (l' := [some (2, x0), some (0, x1)]) (st' := []) (M' := (upM M51 (M51 x0 38) 9 (M51 (M51 x0 8) (M51 (M51 x0 2) x1)))) hX [(.aload_n 0, 0, 0, 0), (.getfield 96, 12, 38, 2), (.bipush 9, 0, 0, 0), (.aload_n 0, 0, 0, 0), (.getfield 31, 12, 8, 2), (.aload_n 0, 0, 0, 0), (.getfield 13, 12, 2, 2), (.iload_n 1, 0, 0, 0), (.iaload, 0, 0, 0), (.iaload, 0, 0, 0), (.i2l, 0, 0, 0), (.lastore, 0, 0, 0)] (by decide +kernel) rfl (And.intro g52 (And.intro g52 (And.intro g52 (And.intro g53 (And.intro g54 (And.intro g55 trivial)))))) ?_
  generalize upM M51 (M51 x0 38) 9 (M51 (M51 x0 8) (M51 (M51 x0 2) x1)) = M56 at h ⊢
  have h := zlt h
  exact zG.wk [true, false] (pX12_writes_209_ok hX hRm h)
noncomputable def pX12_writes_162 (S : ZS) (M : ZM) (x0 : Int) (x1 : Int) (y0 : Int) (y1 : Int) (y2 : Int) : Option (Int × ZM) := if S.1 y2 = 101 ∧ (0 : Int) ≤ y1 ∧ y1 < S.2.1 y2 then zlet (upM M y2 y1 y0) fun M45 => if S.1 x0 = 12 then if S.1 (M45 x0 2) = 100 ∧ (0 : Int) ≤ x1 ∧ x1 < S.2.1 (M45 x0 2) then if S.1 (M45 x0 4) = 100 ∧ (0 : Int) ≤ M45 (M45 x0 2) x1 ∧ M45 (M45 x0 2) x1 < S.2.1 (M45 x0 4) then pX12_writes_189 S M45 x0 x1 (if M45 (M45 x0 4) (M45 (M45 x0 2) x1) = x1 then (1 : Int) else 0) 8 (M45 x0 38) else none else none else none else none
set_option maxHeartbeats 2000000 in
set_option maxRecDepth 20000 in
theorem pX12_writes_162_ok {C : ZC} {E : ZE} {S : ZS} {q : (Int × ZM)} (hX : zCx C E 12 cX12_writes 2 (some .boolean) false) (hRm : czR C = { frames := 5, cells := 0, slots := 0, locals := 133 }) {M : ZM} {x0 : Int} {x1 : Int} {y0 : Int} {y1 : Int} {y2 : Int} (h : pX12_writes_162 S M x0 x1 y0 y1 y2 = some q) : zG C E 2 S 0 0 (zQ C E 0 0 (some (0, q.1)) S q.2) 162 [some (2, x0), some (0, x1)] [(1, y0), (0, y1), (2, y2)] M := by
  unfold pX12_writes_162 at h
  obtain ⟨g44, h⟩ := zif h
  refine zG.blk (pc' := 163) (l' := [some (2, x0), some (0, x1)]) (st' := []) (M' := (upM M y2 y1 y0)) hX [(.lastore, 0, 0, 0)] (by decide +kernel) rfl (And.intro g44 trivial) ?_
  generalize upM M y2 y1 y0 = M45 at h ⊢
  have h := zlt h
  obtain ⟨g46, h⟩ := zif h
  obtain ⟨g47, h⟩ := zif h
  obtain ⟨g48, h⟩ := zif h
  refine zG.blk (pc' := 181) (l' := [some (2, x0), some (0, x1)]) (st' := [(0, x1), (0, M45 (M45 x0 4) (M45 (M45 x0 2) x1)), (0, 8), (2, M45 x0 38)]) (M' := M45) hX [(.aload_n 0, 0, 0, 0), (.getfield 96, 12, 38, 2), (.bipush 8, 0, 0, 0), (.aload_n 0, 0, 0, 0), (.getfield 19, 12, 4, 2), (.aload_n 0, 0, 0, 0), (.getfield 13, 12, 2, 2), (.iload_n 1, 0, 0, 0), (.iaload, 0, 0, 0), (.iaload, 0, 0, 0), (.iload_n 1, 0, 0, 0)] (by decide +kernel) rfl (And.intro g46 (And.intro g46 (And.intro g46 (And.intro g47 (And.intro g48 trivial))))) ?_
  have key49 : zG C E 2 S 0 0 (zQ C E 0 0 (some (0, q.1)) S q.2) 189 [some (2, x0), some (0, x1)] [(1, (if M45 (M45 x0 4) (M45 (M45 x0 2) x1) = x1 then (1 : Int) else 0)), (0, 8), (2, M45 x0 38)] M45 := by
    exact (pX12_writes_189_ok hX hRm h)
  refine zG.icmp_ne (tgt := 188) (off := 7) hX (by decide +kernel) (by decide) (fun c71 => ?_) (fun c71 => ?_)
  · refine zG.blk (pc' := 189) (l' := [some (2, x0), some (0, x1)]) (st' := [(1, 0), (0, 8), (2, M45 x0 38)]) (M' := M45) hX [(.lconst 0, 0, 0, 0)] (by decide +kernel) rfl trivial ?_
    (have k := key49; simp only [if_neg c71] at k; exact k)
  · refine zG.blk (pc' := 185) (l' := [some (2, x0), some (0, x1)]) (st' := [(1, 1), (0, 8), (2, M45 x0 38)]) (M' := M45) hX [(.lconst 1, 1, 0, 0)] (by decide +kernel) rfl trivial ?_
    refine zG.goto (tgt := 189) (off := 4) hX (by decide +kernel) (by decide) ?_
    (have k := key49; simp only [if_pos c71] at k; exact k)
noncomputable def pX12_writes_136 (S : ZS) (M : ZM) (x0 : Int) (x1 : Int) : Option (Int × ZM) := if S.1 x0 = 12 then if S.1 (M x0 2) = 100 ∧ (0 : Int) ≤ x1 ∧ x1 < S.2.1 (M x0 2) then if S.1 (M x0 4) = 100 ∧ (0 : Int) ≤ M (M x0 2) x1 ∧ M (M x0 2) x1 < S.2.1 (M x0 4) then pX12_writes_162 S M x0 x1 (if M (M x0 4) (M (M x0 2) x1) = (-1) then (0 : Int) else 1) 7 (M x0 38) else none else none else none
set_option maxHeartbeats 2000000 in
set_option maxRecDepth 20000 in
theorem pX12_writes_136_ok {C : ZC} {E : ZE} {S : ZS} {q : (Int × ZM)} (hX : zCx C E 12 cX12_writes 2 (some .boolean) false) (hRm : czR C = { frames := 5, cells := 0, slots := 0, locals := 133 }) {M : ZM} {x0 : Int} {x1 : Int} (h : pX12_writes_136 S M x0 x1 = some q) : zG C E 2 S 0 0 (zQ C E 0 0 (some (0, q.1)) S q.2) 136 [some (2, x0), some (0, x1)] [] M := by
  unfold pX12_writes_136 at h
  obtain ⟨g40, h⟩ := zif h
  obtain ⟨g41, h⟩ := zif h
  obtain ⟨g42, h⟩ := zif h
  refine zG.blk (pc' := 154) (l' := [some (2, x0), some (0, x1)]) (st' := [(0, (-1)), (0, M (M x0 4) (M (M x0 2) x1)), (0, 7), (2, M x0 38)]) (M' := M) hX [(.aload_n 0, 0, 0, 0), (.getfield 96, 12, 38, 2), (.bipush 7, 0, 0, 0), (.aload_n 0, 0, 0, 0), (.getfield 19, 12, 4, 2), (.aload_n 0, 0, 0, 0), (.getfield 13, 12, 2, 2), (.iload_n 1, 0, 0, 0), (.iaload, 0, 0, 0), (.iaload, 0, 0, 0), (.iconst (-1), 0, 0, 0)] (by decide +kernel) rfl (And.intro g40 (And.intro g40 (And.intro g40 (And.intro g41 (And.intro g42 trivial))))) ?_
  have key43 : zG C E 2 S 0 0 (zQ C E 0 0 (some (0, q.1)) S q.2) 162 [some (2, x0), some (0, x1)] [(1, (if M (M x0 4) (M (M x0 2) x1) = (-1) then (0 : Int) else 1)), (0, 7), (2, M x0 38)] M := by
    exact (pX12_writes_162_ok hX hRm h)
  refine zG.icmp_eq (tgt := 161) (off := 7) hX (by decide +kernel) (by decide) (fun c72 => ?_) (fun c72 => ?_)
  · refine zG.blk (pc' := 162) (l' := [some (2, x0), some (0, x1)]) (st' := [(1, 0), (0, 7), (2, M x0 38)]) (M' := M) hX [(.lconst 0, 0, 0, 0)] (by decide +kernel) rfl trivial ?_
    (have k := key43; simp only [if_pos c72] at k; exact k)
  · refine zG.blk (pc' := 158) (l' := [some (2, x0), some (0, x1)]) (st' := [(1, 1), (0, 7), (2, M x0 38)]) (M' := M) hX [(.lconst 1, 1, 0, 0)] (by decide +kernel) rfl trivial ?_
    refine zG.goto (tgt := 162) (off := 4) hX (by decide +kernel) (by decide) ?_
    (have k := key43; simp only [if_neg c72] at k; exact k)
noncomputable def pX12_writes_106 (S : ZS) (M : ZM) (x0 : Int) (x1 : Int) : Option (Int × ZM) := if S.1 x0 = 12 then if S.1 (M x0 1) = 100 ∧ (0 : Int) ≤ 4 ∧ 4 < S.2.1 (M x0 1) then (pX12_forceOf S M x0 (M (M x0 1) 4)).bind fun q32 => if S.1 (M x0 38) = 101 ∧ (0 : Int) ≤ 5 ∧ 5 < S.2.1 (M x0 38) then zlet (upM q32.2 (M x0 38) 5 q32.1) fun M35 => (pX12_strokesOf S M35 x0 x1).bind fun q36 => if S.1 (M35 x0 38) = 101 ∧ (0 : Int) ≤ 6 ∧ 6 < S.2.1 (M35 x0 38) then zlet (upM q36.2 (M35 x0 38) 6 q36.1) fun M39 => pX12_writes_136 S M39 x0 x1 else none else none else none else none
set_option maxHeartbeats 2000000 in
set_option maxRecDepth 20000 in
theorem pX12_writes_106_ok {C : ZC} {E : ZE} {S : ZS} {q : (Int × ZM)} (hX : zCx C E 12 cX12_writes 2 (some .boolean) false) (hRm : czR C = { frames := 5, cells := 0, slots := 0, locals := 133 }) {M : ZM} {x0 : Int} {x1 : Int} (h : pX12_writes_106 S M x0 x1 = some q) : zG C E 2 S 0 0 (zQ C E 0 0 (some (0, q.1)) S q.2) 106 [some (2, x0), some (0, x1)] [] M := by
  unfold pX12_writes_106 at h
  obtain ⟨g30, h⟩ := zif h
  obtain ⟨g31, h⟩ := zif h
  refine zG.blk (pc' := 118) (l' := [some (2, x0), some (0, x1)]) (st' := [(0, M (M x0 1) 4), (2, x0), (0, 5), (2, M x0 38)]) (M' := M) hX [(.aload_n 0, 0, 0, 0), (.getfield 96, 12, 38, 2), (.iconst 5, 0, 0, 0), (.aload_n 0, 0, 0, 0), (.aload_n 0, 0, 0, 0), (.getfield 9, 12, 1, 2), (.iconst 4, 0, 0, 0), (.iaload, 0, 0, 0)] (by decide +kernel) rfl (And.intro g30 (And.intro g30 (And.intro g31 trivial))) ?_
  obtain ⟨q32, e33, h⟩ := zbd h
  refine zG.callV (b := x0) (av := [(0, M (M x0 1) 4)]) (st := [(0, 5), (2, M x0 38)]) (ci := 12) hX (pX12_forceOf_ok e33) sv_12_356 rfl ⟨by decide, rfl⟩ g30 (by decide +kernel) (by rw [hRm]; exact ⟨Nat.le_of_ble_eq_true rfl, Nat.le_of_ble_eq_true rfl⟩) (by rw [hRm]; exact ⟨Nat.le_of_ble_eq_true rfl, Nat.le_of_ble_eq_true rfl⟩) (Nat.le_of_ble_eq_true rfl) ?_
  show zG C E 2 S 0 0 _ 121 [some (2, x0), some (0, x1)] [(0, q32.1), (0, 5), (2, M x0 38)] q32.2
  obtain ⟨g34, h⟩ := zif h
  refine zG.blk (pc' := 123) (l' := [some (2, x0), some (0, x1)]) (st' := []) (M' := (upM q32.2 (M x0 38) 5 q32.1)) hX [(.i2l, 0, 0, 0), (.lastore, 0, 0, 0)] (by decide +kernel) rfl (And.intro g34 trivial) ?_
  generalize upM q32.2 (M x0 38) 5 q32.1 = M35 at h ⊢
  have h := zlt h
  refine zG.blk (pc' := 131) (l' := [some (2, x0), some (0, x1)]) (st' := [(0, x1), (2, x0), (0, 6), (2, M35 x0 38)]) (M' := M35) hX [(.aload_n 0, 0, 0, 0), (.getfield 96, 12, 38, 2), (.bipush 6, 0, 0, 0), (.aload_n 0, 0, 0, 0), (.iload_n 1, 0, 0, 0)] (by decide +kernel) rfl (And.intro g30 trivial) ?_
  obtain ⟨q36, e37, h⟩ := zbd h
  refine zG.callV (b := x0) (av := [(0, x1)]) (st := [(0, 6), (2, M35 x0 38)]) (ci := 12) hX (pX12_strokesOf_ok e37) sv_12_338 rfl ⟨by decide, rfl⟩ g30 (by decide +kernel) (by rw [hRm]; exact ⟨Nat.le_of_ble_eq_true rfl, Nat.le_of_ble_eq_true rfl⟩) (by rw [hRm]; exact ⟨Nat.le_of_ble_eq_true rfl, Nat.le_of_ble_eq_true rfl⟩) (Nat.le_of_ble_eq_true rfl) ?_
  show zG C E 2 S 0 0 _ 134 [some (2, x0), some (0, x1)] [(0, q36.1), (0, 6), (2, M35 x0 38)] q36.2
  obtain ⟨g38, h⟩ := zif h
  refine zG.blk (pc' := 136) (l' := [some (2, x0), some (0, x1)]) (st' := []) (M' := (upM q36.2 (M35 x0 38) 6 q36.1)) hX [(.i2l, 0, 0, 0), (.lastore, 0, 0, 0)] (by decide +kernel) rfl (And.intro g38 trivial) ?_
  generalize upM q36.2 (M35 x0 38) 6 q36.1 = M39 at h ⊢
  have h := zlt h
  exact (pX12_writes_136_ok hX hRm h)
noncomputable def pX12_writes_76 (S : ZS) (M : ZM) (x0 : Int) (x1 : Int) : Option (Int × ZM) := if S.1 x0 = 12 then if S.1 (M x0 3) = 100 ∧ (0 : Int) ≤ x1 ∧ x1 < S.2.1 (M x0 3) then if S.1 (M x0 38) = 101 ∧ (0 : Int) ≤ 3 ∧ 3 < S.2.1 (M x0 38) then zlet (upM M (M x0 38) 3 (M (M x0 3) x1)) fun M24 => if S.1 (M24 x0 1) = 100 ∧ (0 : Int) ≤ 4 ∧ 4 < S.2.1 (M24 x0 1) then (pX12_wayOf S M24 x0 (M24 (M24 x0 1) 4)).bind fun q26 => if S.1 (M24 x0 38) = 101 ∧ (0 : Int) ≤ 4 ∧ 4 < S.2.1 (M24 x0 38) then zlet (upM q26.2 (M24 x0 38) 4 q26.1) fun M29 => pX12_writes_106 S M29 x0 x1 else none else none else none else none else none
set_option maxHeartbeats 2000000 in
set_option maxRecDepth 20000 in
theorem pX12_writes_76_ok {C : ZC} {E : ZE} {S : ZS} {q : (Int × ZM)} (hX : zCx C E 12 cX12_writes 2 (some .boolean) false) (hRm : czR C = { frames := 5, cells := 0, slots := 0, locals := 133 }) {M : ZM} {x0 : Int} {x1 : Int} (h : pX12_writes_76 S M x0 x1 = some q) : zG C E 2 S 0 0 (zQ C E 0 0 (some (0, q.1)) S q.2) 76 [some (2, x0), some (0, x1)] [] M := by
  unfold pX12_writes_76 at h
  obtain ⟨g21, h⟩ := zif h
  obtain ⟨g22, h⟩ := zif h
  obtain ⟨g23, h⟩ := zif h
  refine zG.blk (pc' := 89) (l' := [some (2, x0), some (0, x1)]) (st' := []) (M' := (upM M (M x0 38) 3 (M (M x0 3) x1))) hX [(.aload_n 0, 0, 0, 0), (.getfield 96, 12, 38, 2), (.iconst 3, 0, 0, 0), (.aload_n 0, 0, 0, 0), (.getfield 16, 12, 3, 2), (.iload_n 1, 0, 0, 0), (.iaload, 0, 0, 0), (.i2l, 0, 0, 0), (.lastore, 0, 0, 0)] (by decide +kernel) rfl (And.intro g21 (And.intro g21 (And.intro g22 (And.intro g23 trivial)))) ?_
  generalize upM M (M x0 38) 3 (M (M x0 3) x1) = M24 at h ⊢
  have h := zlt h
  obtain ⟨g25, h⟩ := zif h
  refine zG.blk (pc' := 101) (l' := [some (2, x0), some (0, x1)]) (st' := [(0, M24 (M24 x0 1) 4), (2, x0), (0, 4), (2, M24 x0 38)]) (M' := M24) hX [(.aload_n 0, 0, 0, 0), (.getfield 96, 12, 38, 2), (.iconst 4, 0, 0, 0), (.aload_n 0, 0, 0, 0), (.aload_n 0, 0, 0, 0), (.getfield 9, 12, 1, 2), (.iconst 4, 0, 0, 0), (.iaload, 0, 0, 0)] (by decide +kernel) rfl (And.intro g21 (And.intro g21 (And.intro g25 trivial))) ?_
  obtain ⟨q26, e27, h⟩ := zbd h
  refine zG.callV (b := x0) (av := [(0, M24 (M24 x0 1) 4)]) (st := [(0, 4), (2, M24 x0 38)]) (ci := 12) hX (pX12_wayOf_ok e27) sv_12_353 rfl ⟨by decide, rfl⟩ g21 (by decide +kernel) (by rw [hRm]; exact ⟨Nat.le_of_ble_eq_true rfl, Nat.le_of_ble_eq_true rfl⟩) (by rw [hRm]; exact ⟨Nat.le_of_ble_eq_true rfl, Nat.le_of_ble_eq_true rfl⟩) (Nat.le_of_ble_eq_true rfl) ?_
  show zG C E 2 S 0 0 _ 104 [some (2, x0), some (0, x1)] [(0, q26.1), (0, 4), (2, M24 x0 38)] q26.2
  obtain ⟨g28, h⟩ := zif h
  refine zG.blk (pc' := 106) (l' := [some (2, x0), some (0, x1)]) (st' := []) (M' := (upM q26.2 (M24 x0 38) 4 q26.1)) hX [(.i2l, 0, 0, 0), (.lastore, 0, 0, 0)] (by decide +kernel) rfl (And.intro g28 trivial) ?_
  generalize upM q26.2 (M24 x0 38) 4 q26.1 = M29 at h ⊢
  have h := zlt h
  exact (pX12_writes_106_ok hX hRm h)
noncomputable def pX12_writes_56 (S : ZS) (M : ZM) (x0 : Int) (x1 : Int) : Option (Int × ZM) := if S.1 x0 = 12 then if S.1 (M x0 2) = 100 ∧ (0 : Int) ≤ x1 ∧ x1 < S.2.1 (M x0 2) then if S.1 (M x0 1) = 100 ∧ (0 : Int) ≤ 0 ∧ 0 < S.2.1 (M x0 1) then if ¬ M (M x0 1) 0 = 0 then if S.1 (M x0 38) = 101 ∧ (0 : Int) ≤ 2 ∧ 2 < S.2.1 (M x0 38) then zlet (upM M (M x0 38) 2 (Int.tmod (M (M x0 2) x1) (M (M x0 1) 0))) fun M20 => pX12_writes_76 S M20 x0 x1 else none else none else none else none else none
set_option maxHeartbeats 2000000 in
set_option maxRecDepth 20000 in
theorem pX12_writes_56_ok {C : ZC} {E : ZE} {S : ZS} {q : (Int × ZM)} (hX : zCx C E 12 cX12_writes 2 (some .boolean) false) (hRm : czR C = { frames := 5, cells := 0, slots := 0, locals := 133 }) {M : ZM} {x0 : Int} {x1 : Int} (h : pX12_writes_56 S M x0 x1 = some q) : zG C E 2 S 0 0 (zQ C E 0 0 (some (0, q.1)) S q.2) 56 [some (2, x0), some (0, x1)] [] M := by
  unfold pX12_writes_56 at h
  obtain ⟨g15, h⟩ := zif h
  obtain ⟨g16, h⟩ := zif h
  obtain ⟨g17, h⟩ := zif h
  obtain ⟨g18, h⟩ := zif h
  obtain ⟨g19, h⟩ := zif h
  refine zG.blk (pc' := 76) (l' := [some (2, x0), some (0, x1)]) (st' := []) (M' := (upM M (M x0 38) 2 (Int.tmod (M (M x0 2) x1) (M (M x0 1) 0)))) hX [(.aload_n 0, 0, 0, 0), (.getfield 96, 12, 38, 2), (.iconst 2, 0, 0, 0), (.aload_n 0, 0, 0, 0), (.getfield 13, 12, 2, 2), (.iload_n 1, 0, 0, 0), (.iaload, 0, 0, 0), (.aload_n 0, 0, 0, 0), (.getfield 9, 12, 1, 2), (.iconst 0, 0, 0, 0), (.iaload, 0, 0, 0), (.irem, 0, 0, 0), (.i2l, 0, 0, 0), (.lastore, 0, 0, 0)] (by decide +kernel) rfl (And.intro g15 (And.intro g15 (And.intro g16 (And.intro g15 (And.intro g17 (And.intro g18 (And.intro g19 trivial))))))) ?_
  generalize upM M (M x0 38) 2 (Int.tmod (M (M x0 2) x1) (M (M x0 1) 0)) = M20 at h ⊢
  have h := zlt h
  exact (pX12_writes_76_ok hX hRm h)
noncomputable def pX12_writes (S : ZS) (M : ZM) (a0 : Int) (a1 : Int) : Option (Int × ZM) := if S.1 a0 = 12 then if S.1 (M a0 1) = 100 ∧ (0 : Int) ≤ 5 ∧ 5 < S.2.1 (M a0 1) then (pX12_has S M (M (M a0 1) 5) a1).bind fun q3 => if q3.1 = 0 then (if S.1 (q3.2 a0 1) = 100 ∧ (0 : Int) ≤ 9 ∧ 9 < S.2.1 (q3.2 a0 1) then if q3.2 (q3.2 a0 1) 9 = (-1) then (some (1, q3.2)) else (if S.1 (q3.2 a0 38) = 101 ∧ (0 : Int) ≤ 0 ∧ 0 < S.2.1 (q3.2 a0 38) then zlet (upM q3.2 (q3.2 a0 38) 0 a1) fun M9 => if S.1 (M9 a0 2) = 100 ∧ (0 : Int) ≤ a1 ∧ a1 < S.2.1 (M9 a0 2) then if S.1 (M9 a0 1) = 100 ∧ (0 : Int) ≤ 0 ∧ 0 < S.2.1 (M9 a0 1) then if ¬ M9 (M9 a0 1) 0 = 0 then if S.1 (M9 a0 38) = 101 ∧ (0 : Int) ≤ 1 ∧ 1 < S.2.1 (M9 a0 38) then zlet (upM M9 (M9 a0 38) 1 (w32 (Int.tdiv (M9 (M9 a0 2) a1) (M9 (M9 a0 1) 0)))) fun M14 => pX12_writes_56 S M14 a0 a1 else none else none else none else none else none) else none) else (some (0, q3.2)) else none else none
set_option maxHeartbeats 2000000 in
set_option maxRecDepth 20000 in
theorem pX12_writes_go {C : ZC} {E : ZE} {S : ZS} {M : ZM} {a0 a1 : Int} {q : (Int × ZM)} (hX : zCx C E 12 cX12_writes 2 (some .boolean) false) (hRm : czR C = { frames := 5, cells := 0, slots := 0, locals := 133 }) (h : pX12_writes  S M a0 a1 = some q) : zG C E 2 S 0 0 (zQ C E 0 0 (some (0, q.1)) S q.2) 0 [some (2, a0), some (0, a1)] [] M := by
  unfold pX12_writes at h
  obtain ⟨g1, h⟩ := zif h
  obtain ⟨g2, h⟩ := zif h
  refine zG.blk (pc' := 7) (l' := [some (2, a0), some (0, a1)]) (st' := [(0, a1), (0, M (M a0 1) 5)]) (M' := M) hX [(.aload_n 0, 0, 0, 0), (.getfield 9, 12, 1, 2), (.iconst 5, 0, 0, 0), (.iaload, 0, 0, 0), (.iload_n 1, 0, 0, 0)] (by decide +kernel) rfl (And.intro g1 (And.intro g2 trivial)) ?_
  obtain ⟨q3, e4, h⟩ := zbd h
  refine zG.callS (av := [(0, M (M a0 1) 5), (0, a1)]) (st := []) hX (pX12_has_ok e4) ss_12_350 rfl (by decide +kernel) (by rw [hRm]; exact ⟨Nat.le_of_ble_eq_true rfl, Nat.le_of_ble_eq_true rfl⟩) (by rw [hRm]; exact ⟨Nat.le_of_ble_eq_true rfl, Nat.le_of_ble_eq_true rfl⟩) (Nat.le_of_ble_eq_true rfl) ?_
  show zG C E 2 S 0 0 _ 10 [some (2, a0), some (0, a1)] [(0, q3.1)] q3.2
  refine zG.if_eq (tgt := 15) (off := 5) hX (by decide +kernel) (by decide) (fun c5 => ?_) (fun c5 => ?_)
  · have h := zip c5 h
    obtain ⟨g6, h⟩ := zif h
    refine zG.blk (pc' := 23) (l' := [some (2, a0), some (0, a1)]) (st' := [(0, (-1)), (0, q3.2 (q3.2 a0 1) 9)]) (M' := q3.2) hX [(.aload_n 0, 0, 0, 0), (.getfield 9, 12, 1, 2), (.bipush 9, 0, 0, 0), (.iaload, 0, 0, 0), (.iconst (-1), 0, 0, 0)] (by decide +kernel) rfl (And.intro g1 (And.intro g6 trivial)) ?_
    refine zG.icmp_ne (tgt := 28) (off := 5) hX (by decide +kernel) (by decide) (fun c7 => ?_) (fun c7 => ?_)
    · have h := zin c7 h
      obtain ⟨g8, h⟩ := zif h
      refine zG.blk (pc' := 36) (l' := [some (2, a0), some (0, a1)]) (st' := []) (M' := (upM q3.2 (q3.2 a0 38) 0 a1)) hX [(.aload_n 0, 0, 0, 0), (.getfield 96, 12, 38, 2), (.iconst 0, 0, 0, 0), (.iload_n 1, 0, 0, 0), (.i2l, 0, 0, 0), (.lastore, 0, 0, 0)] (by decide +kernel) rfl (And.intro g1 (And.intro g8 trivial)) ?_
      generalize upM q3.2 (q3.2 a0 38) 0 a1 = M9 at h ⊢
      have h := zlt h
      obtain ⟨g10, h⟩ := zif h
      obtain ⟨g11, h⟩ := zif h
      obtain ⟨g12, h⟩ := zif h
      obtain ⟨g13, h⟩ := zif h
      refine zG.blk (pc' := 56) (l' := [some (2, a0), some (0, a1)]) (st' := []) (M' := (upM M9 (M9 a0 38) 1 (w32 (Int.tdiv (M9 (M9 a0 2) a1) (M9 (M9 a0 1) 0))))) hX [(.aload_n 0, 0, 0, 0), (.getfield 96, 12, 38, 2), (.iconst 1, 0, 0, 0), (.aload_n 0, 0, 0, 0), (.getfield 13, 12, 2, 2), (.iload_n 1, 0, 0, 0), (.iaload, 0, 0, 0), (.aload_n 0, 0, 0, 0), (.getfield 9, 12, 1, 2), (.iconst 0, 0, 0, 0), (.iaload, 0, 0, 0), (.idiv, 0, 0, 0), (.i2l, 0, 0, 0), (.lastore, 0, 0, 0)] (by decide +kernel) rfl (And.intro g1 (And.intro g1 (And.intro g10 (And.intro g1 (And.intro g11 (And.intro g12 (And.intro g13 trivial))))))) ?_
      generalize upM M9 (M9 a0 38) 1 (w32 (Int.tdiv (M9 (M9 a0 2) a1) (M9 (M9 a0 1) 0))) = M14 at h ⊢
      have h := zlt h
      exact (pX12_writes_56_ok hX hRm h)
    · have h := zip c7 h
      refine zG.blk (pc' := 27) (l' := [some (2, a0), some (0, a1)]) (st' := [(0, 1)]) (M' := q3.2) hX [(.iconst 1, 0, 0, 0)] (by decide +kernel) rfl trivial ?_
      cases h
      exact zG.zret hX (by decide +kernel) (Or.inr rfl)
  · have h := zin c5 h
    refine zG.blk (pc' := 14) (l' := [some (2, a0), some (0, a1)]) (st' := [(0, 0)]) (M' := q3.2) hX [(.iconst 0, 0, 0, 0)] (by decide +kernel) rfl trivial ?_
    cases h
    exact zG.zret hX (by decide +kernel) (Or.inl rfl)
theorem pX12_writes_ok {l : Launch} {E : ZE} {S : ZS} {M : ZM} {a0 a1 : Int} {q : (Int × ZM)} (h : pX12_writes S M a0 a1 = some q) : zMet l yX12_writes cX12_writes 2 (some .boolean) 5 133 0 0 E S M [(2, a0), (0, a1)] (some (0, q.1)) S q.2 :=
  zMet.of (o := 12) (ini := false) (by decide +kernel) rfl (fun h => by cases h) (Nat.le_of_ble_eq_true rfl) (fun C hX hl hRm => by subst hl; exact pX12_writes_go hX hRm h)
