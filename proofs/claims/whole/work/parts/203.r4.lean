noncomputable def pX12_came_39 (S : ZS) (M : ZM) : Option (Int × ZM) := some ((-1), M)
set_option maxHeartbeats 2000000 in
set_option maxRecDepth 20000 in
theorem pX12_came_39_ok {C : ZC} {E : ZE} {S : ZS} {q : (Int × ZM)} (hX : zCx C E 12 cX12_came 9 (some .int) false) (hRm : czR C = { frames := 8, cells := 0, slots := 0, locals := 198 }) {M : ZM} (h : pX12_came_39 S M = some q) : zG C E 9 S 0 0 (zQ C E 0 0 (some (0, q.1)) S q.2) 39 [none, none, none, none, none, none, none, none, none] [] M := by
  unfold pX12_came_39 at h
  refine zG.blk (pc' := 40) (l' := [none, none, none, none, none, none, none, none, none]) (st' := [(0, (-1))]) (M' := M) hX [(.iconst (-1), 0, 0, 0)] (by decide +kernel) rfl trivial ?_
  cases h
  exact zG.iret hX (by decide +kernel)
noncomputable def pX12_came_115 (S : ZS) (k55 : ZM → Int → Int → Int → Int → Int → Int → Int → Int → Option (Int × ZM)) (M : ZM) (x0 : Int) (x1 : Int) (x2 : Int) (x3 : Int) (x4 : Int) (x5 : Int) (x7 : Int) (x8 : Int) (y0 : Int) : Option (Int × ZM) := k55 M x0 x1 x2 x3 x4 (w32 (x5 + (if x8 = 0 then (0 : Int) else 1))) y0 (w32 (x7 + 1))
set_option maxHeartbeats 2000000 in
set_option maxRecDepth 20000 in
theorem pX12_came_115_ok {C : ZC} {E : ZE} {S : ZS} {k55 : ZM → Int → Int → Int → Int → Int → Int → Int → Int → Option (Int × ZM)} {q : (Int × ZM)} (hX : zCx C E 12 cX12_came 9 (some .int) false) (hRm : czR C = { frames := 8, cells := 0, slots := 0, locals := 198 }) (hk55 : ∀ M x0 x1 x2 x3 x4 x5 x6 x7, k55 M x0 x1 x2 x3 x4 x5 x6 x7 = some q → zG C E 9 S 0 0 (zQ C E 0 0 (some (0, q.1)) S q.2) 55 [some (2, x0), some (0, x1), some (0, x2), some (0, x3), some (0, x4), some (0, x5), some (0, x6), some (0, x7), none] [] M) {M : ZM} {x0 : Int} {x1 : Int} {x2 : Int} {x3 : Int} {x4 : Int} {x5 : Int} {x7 : Int} {x8 : Int} {y0 : Int} (h : pX12_came_115 S k55 M x0 x1 x2 x3 x4 x5 x7 x8 y0 = some q) : zG C E 9 S 0 0 (zQ C E 0 0 (some (0, q.1)) S q.2) 115 [some (2, x0), some (0, x1), some (0, x2), some (0, x3), some (0, x4), some (0, x5), none, some (0, x7), some (0, x8)] [(0, y0)] M := by
  unfold pX12_came_115 at h
  refine zG.blk (pc' := 121) (l' := [some (2, x0), some (0, x1), some (0, x2), some (0, x3), some (0, x4), some (0, x5), some (0, y0), some (0, x7), some (0, x8)]) (st' := [(0, x8), (0, x5)]) (M' := M) hX [(.istore 6, 0, 0, 0), (.iload 5, 0, 0, 0), (.iload 8, 0, 0, 0)] (by decide +kernel) rfl trivial ?_
  have key32 : zG C E 9 S 0 0 (zQ C E 0 0 (some (0, q.1)) S q.2) 129 [some (2, x0), some (0, x1), some (0, x2), some (0, x3), some (0, x4), some (0, x5), some (0, y0), some (0, x7), some (0, x8)] [(0, (if x8 = 0 then (0 : Int) else 1)), (0, x5)] M := by
    refine zG.blk (pc' := 135) (l' := [some (2, x0), some (0, x1), some (0, x2), some (0, x3), some (0, x4), some (0, w32 (x5 + (if x8 = 0 then (0 : Int) else 1))), some (0, y0), some (0, w32 (x7 + 1)), some (0, x8)]) (st' := []) (M' := M) hX [(.iadd, 0, 0, 0), (.istore 5, 0, 0, 0), (.iinc 7 1, 0, 0, 0)] (by decide +kernel) rfl trivial ?_
    refine zG.goto (tgt := 55) (off := (-80)) hX (by decide +kernel) (by decide) ?_
    exact zG.wk [true, true, true, true, true, true, true, true, false] (hk55 _ _ _ _ _ _ _ _ _ h)
  refine zG.if_eq (tgt := 128) (off := 7) hX (by decide +kernel) (by decide) (fun c33 => ?_) (fun c33 => ?_)
  · refine zG.blk (pc' := 129) (l' := [some (2, x0), some (0, x1), some (0, x2), some (0, x3), some (0, x4), some (0, x5), some (0, y0), some (0, x7), some (0, x8)]) (st' := [(0, 0), (0, x5)]) (M' := M) hX [(.iconst 0, 0, 0, 0)] (by decide +kernel) rfl trivial ?_
    (have k := key32; simp only [if_pos c33] at k; exact k)
  · refine zG.blk (pc' := 125) (l' := [some (2, x0), some (0, x1), some (0, x2), some (0, x3), some (0, x4), some (0, x5), some (0, y0), some (0, x7), some (0, x8)]) (st' := [(0, 1), (0, x5)]) (M' := M) hX [(.iconst 1, 0, 0, 0)] (by decide +kernel) rfl trivial ?_
    refine zG.goto (tgt := 129) (off := 4) hX (by decide +kernel) (by decide) ?_
    (have k := key32; simp only [if_neg c33] at k; exact k)
noncomputable def pX12_came_92 (S : ZS) (k55 : ZM → Int → Int → Int → Int → Int → Int → Int → Int → Option (Int × ZM)) (M : ZM) (x0 : Int) (x1 : Int) (x2 : Int) (x3 : Int) (x4 : Int) (x5 : Int) (x6 : Int) (x7 : Int) (y0 : Int) : Option (Int × ZM) := if S.1 x0 = 12 then (pX12_laysBack S M x0).bind fun q28 => pX12_came_115 S k55 q28 x0 x1 x2 x3 x4 x5 x7 y0 (if y0 = 0 then (x6 : Int) else (if x5 = 0 then (x7 : Int) else x6)) else none
set_option maxHeartbeats 2000000 in
set_option maxRecDepth 20000 in
theorem pX12_came_92_ok {C : ZC} {E : ZE} {S : ZS} {k55 : ZM → Int → Int → Int → Int → Int → Int → Int → Int → Option (Int × ZM)} {q : (Int × ZM)} (hX : zCx C E 12 cX12_came 9 (some .int) false) (hRm : czR C = { frames := 8, cells := 0, slots := 0, locals := 198 }) (hk55 : ∀ M x0 x1 x2 x3 x4 x5 x6 x7, k55 M x0 x1 x2 x3 x4 x5 x6 x7 = some q → zG C E 9 S 0 0 (zQ C E 0 0 (some (0, q.1)) S q.2) 55 [some (2, x0), some (0, x1), some (0, x2), some (0, x3), some (0, x4), some (0, x5), some (0, x6), some (0, x7), none] [] M) {M : ZM} {x0 : Int} {x1 : Int} {x2 : Int} {x3 : Int} {x4 : Int} {x5 : Int} {x6 : Int} {x7 : Int} {y0 : Int} (h : pX12_came_92 S k55 M x0 x1 x2 x3 x4 x5 x6 x7 y0 = some q) : zG C E 9 S 0 0 (zQ C E 0 0 (some (0, q.1)) S q.2) 92 [some (2, x0), some (0, x1), some (0, x2), some (0, x3), some (0, x4), some (0, x5), some (0, x6), some (0, x7), none] [(0, y0)] M := by
  unfold pX12_came_92 at h
  refine zG.blk (pc' := 95) (l' := [some (2, x0), some (0, x1), some (0, x2), some (0, x3), some (0, x4), some (0, x5), some (0, x6), some (0, x7), some (0, y0)]) (st' := [(2, x0)]) (M' := M) hX [(.istore 8, 0, 0, 0), (.aload_n 0, 0, 0, 0)] (by decide +kernel) rfl trivial ?_
  obtain ⟨g30, h⟩ := zif h
  obtain ⟨q28, e29, h⟩ := zbd h
  refine zG.callV (b := x0) (av := []) (st := []) (ci := 12) hX (pX12_laysBack_ok e29) sv_12_419 rfl ⟨by decide, rfl⟩ g30 (by decide +kernel) (by rw [hRm]; exact ⟨Nat.le_of_ble_eq_true rfl, Nat.le_of_ble_eq_true rfl⟩) (by rw [hRm]; exact ⟨Nat.le_of_ble_eq_true rfl, Nat.le_of_ble_eq_true rfl⟩) (Nat.le_of_ble_eq_true rfl) ?_
  show zG C E 9 S 0 0 _ 98 [some (2, x0), some (0, x1), some (0, x2), some (0, x3), some (0, x4), some (0, x5), some (0, x6), some (0, x7), some (0, y0)] [] q28
  refine zG.blk (pc' := 100) (l' := [some (2, x0), some (0, x1), some (0, x2), some (0, x3), some (0, x4), some (0, x5), some (0, x6), some (0, x7), some (0, y0)]) (st' := [(0, y0)]) (M' := q28) hX [(.iload 8, 0, 0, 0)] (by decide +kernel) rfl trivial ?_
  have key31 : zG C E 9 S 0 0 (zQ C E 0 0 (some (0, q.1)) S q.2) 115 [some (2, x0), some (0, x1), some (0, x2), some (0, x3), some (0, x4), some (0, x5), some (0, x6), some (0, x7), some (0, y0)] [(0, (if y0 = 0 then (x6 : Int) else (if x5 = 0 then (x7 : Int) else x6)))] q28 := by
    exact zG.wk [true, true, true, true, true, true, false, true, true] (pX12_came_115_ok hX hRm hk55 h)
  refine zG.if_eq (tgt := 113) (off := 13) hX (by decide +kernel) (by decide) (fun c34 => ?_) (fun c34 => ?_)
  · refine zG.blk (pc' := 115) (l' := [some (2, x0), some (0, x1), some (0, x2), some (0, x3), some (0, x4), some (0, x5), some (0, x6), some (0, x7), some (0, y0)]) (st' := [(0, x6)]) (M' := q28) hX [(.iload 6, 0, 0, 0)] (by decide +kernel) rfl trivial ?_
    (have k := key31; simp only [if_pos c34] at k; exact k)
  · refine zG.blk (pc' := 105) (l' := [some (2, x0), some (0, x1), some (0, x2), some (0, x3), some (0, x4), some (0, x5), some (0, x6), some (0, x7), some (0, y0)]) (st' := [(0, x5)]) (M' := q28) hX [(.iload 5, 0, 0, 0)] (by decide +kernel) rfl trivial ?_
    refine zG.if_ne (tgt := 113) (off := 8) hX (by decide +kernel) (by decide) (fun c35 => ?_) (fun c35 => ?_)
    · refine zG.blk (pc' := 115) (l' := [some (2, x0), some (0, x1), some (0, x2), some (0, x3), some (0, x4), some (0, x5), some (0, x6), some (0, x7), some (0, y0)]) (st' := [(0, x6)]) (M' := q28) hX [(.iload 6, 0, 0, 0)] (by decide +kernel) rfl trivial ?_
      (have k := key31; simp only [if_neg c34, if_neg c35] at k; exact k)
    · refine zG.blk (pc' := 110) (l' := [some (2, x0), some (0, x1), some (0, x2), some (0, x3), some (0, x4), some (0, x5), some (0, x6), some (0, x7), some (0, y0)]) (st' := [(0, x7)]) (M' := q28) hX [(.iload 7, 0, 0, 0)] (by decide +kernel) rfl trivial ?_
      refine zG.goto (tgt := 115) (off := 5) hX (by decide +kernel) (by decide) ?_
      (have k := key31; simp only [if_neg c34, if_pos c35] at k; exact k)
noncomputable def pX12_came_55 (S : ZS) : Nat → ZM → Int → Int → Int → Int → Int → Int → Int → Int → Option (Int × ZM)
  | 0 => fun _ _ _ _ _ _ _ _ _ => none
  | n + 1 => fun M x0 x1 x2 x3 x4 x5 x6 x7 => if S.1 x0 = 12 then (pX12_cells S M x0).bind fun q16 => if q16.1 ≤ x7 then (some ((if x4 = 0 then (x5 : Int) else x6), q16.2)) else (if S.1 (q16.2 x0 2) = 100 ∧ (0 : Int) ≤ x1 ∧ x1 < S.2.1 (q16.2 x0 2) then zlet (upM q16.2 (q16.2 x0 2) x1 x7) fun M23 => (pX12_goFor S M23 x0 x3).bind fun q24 => if S.1 (q24 x0 2) = 100 ∧ (0 : Int) ≤ x1 ∧ x1 < S.2.1 (q24 x0 2) then pX12_came_92 S (pX12_came_55 S n) q24 x0 x1 x2 x3 x4 x5 x6 x7 (if q24 (q24 x0 2) x1 = x2 then (1 : Int) else 0) else none else none) else none
set_option maxHeartbeats 2000000 in
set_option maxRecDepth 20000 in
theorem pX12_came_55_ok {C : ZC} {E : ZE} {S : ZS} {q : (Int × ZM)} (hX : zCx C E 12 cX12_came 9 (some .int) false) (hRm : czR C = { frames := 8, cells := 0, slots := 0, locals := 198 }) : ∀ (n : Nat) (M : ZM) (x0 : Int) (x1 : Int) (x2 : Int) (x3 : Int) (x4 : Int) (x5 : Int) (x6 : Int) (x7 : Int), pX12_came_55 S n M x0 x1 x2 x3 x4 x5 x6 x7 = some q → zG C E 9 S 0 0 (zQ C E 0 0 (some (0, q.1)) S q.2) 55 [some (2, x0), some (0, x1), some (0, x2), some (0, x3), some (0, x4), some (0, x5), some (0, x6), some (0, x7), none] [] M := by
  intro n
  induction n with
  | zero => intro M x0 x1 x2 x3 x4 x5 x6 x7 h; cases h
  | succ n ih =>
    intro M x0 x1 x2 x3 x4 x5 x6 x7 h
    unfold pX12_came_55 at h
    refine zG.blk (pc' := 58) (l' := [some (2, x0), some (0, x1), some (0, x2), some (0, x3), some (0, x4), some (0, x5), some (0, x6), some (0, x7), none]) (st' := [(2, x0), (0, x7)]) (M' := M) hX [(.iload 7, 0, 0, 0), (.aload_n 0, 0, 0, 0)] (by decide +kernel) rfl trivial ?_
    obtain ⟨g18, h⟩ := zif h
    obtain ⟨q16, e17, h⟩ := zbd h
    refine zG.callV (b := x0) (av := []) (st := [(0, x7)]) (ci := 12) hX (pX12_cells_ok e17) sv_12_134 rfl ⟨by decide, rfl⟩ g18 (by decide +kernel) (by rw [hRm]; exact ⟨Nat.le_of_ble_eq_true rfl, Nat.le_of_ble_eq_true rfl⟩) (by rw [hRm]; exact ⟨Nat.le_of_ble_eq_true rfl, Nat.le_of_ble_eq_true rfl⟩) (Nat.le_of_ble_eq_true rfl) ?_
    show zG C E 9 S 0 0 _ 61 [some (2, x0), some (0, x1), some (0, x2), some (0, x3), some (0, x4), some (0, x5), some (0, x6), some (0, x7), none] [(0, q16.1), (0, x7)] q16.2
    refine zG.icmp_ge (tgt := 138) (off := 77) hX (by decide +kernel) (by decide) (fun c19 => ?_) (fun c19 => ?_)
    · have h := zip c19 h
      refine zG.blk (pc' := 140) (l' := [some (2, x0), some (0, x1), some (0, x2), some (0, x3), some (0, x4), some (0, x5), some (0, x6), some (0, x7), none]) (st' := [(0, x4)]) (M' := q16.2) hX [(.iload 4, 0, 0, 0)] (by decide +kernel) rfl trivial ?_
      have key20 : zG C E 9 S 0 0 (zQ C E 0 0 (some (0, q.1)) S q.2) 150 [some (2, x0), some (0, x1), some (0, x2), some (0, x3), some (0, x4), some (0, x5), some (0, x6), some (0, x7), none] [(0, (if x4 = 0 then (x5 : Int) else x6))] q16.2 := by
        cases h
        exact zG.iret hX (by decide +kernel)
      refine zG.if_ne (tgt := 148) (off := 8) hX (by decide +kernel) (by decide) (fun c21 => ?_) (fun c21 => ?_)
      · refine zG.blk (pc' := 150) (l' := [some (2, x0), some (0, x1), some (0, x2), some (0, x3), some (0, x4), some (0, x5), some (0, x6), some (0, x7), none]) (st' := [(0, x6)]) (M' := q16.2) hX [(.iload 6, 0, 0, 0)] (by decide +kernel) rfl trivial ?_
        (have k := key20; simp only [if_neg c21] at k; exact k)
      · refine zG.blk (pc' := 145) (l' := [some (2, x0), some (0, x1), some (0, x2), some (0, x3), some (0, x4), some (0, x5), some (0, x6), some (0, x7), none]) (st' := [(0, x5)]) (M' := q16.2) hX [(.iload 5, 0, 0, 0)] (by decide +kernel) rfl trivial ?_
        refine zG.goto (tgt := 150) (off := 5) hX (by decide +kernel) (by decide) ?_
        (have k := key20; simp only [if_pos c21] at k; exact k)
    · have h := zin c19 h
      obtain ⟨g22, h⟩ := zif h
      refine zG.blk (pc' := 72) (l' := [some (2, x0), some (0, x1), some (0, x2), some (0, x3), some (0, x4), some (0, x5), some (0, x6), some (0, x7), none]) (st' := []) (M' := (upM q16.2 (q16.2 x0 2) x1 x7)) hX [(.aload_n 0, 0, 0, 0), (.getfield 13, 12, 2, 2), (.iload_n 1, 0, 0, 0), (.iload 7, 0, 0, 0), (.iastore, 0, 0, 0)] (by decide +kernel) rfl (And.intro g18 (And.intro g22 trivial)) ?_
      generalize upM q16.2 (q16.2 x0 2) x1 x7 = M23 at h ⊢
      have h := zlt h
      refine zG.blk (pc' := 74) (l' := [some (2, x0), some (0, x1), some (0, x2), some (0, x3), some (0, x4), some (0, x5), some (0, x6), some (0, x7), none]) (st' := [(0, x3), (2, x0)]) (M' := M23) hX [(.aload_n 0, 0, 0, 0), (.iload_n 3, 0, 0, 0)] (by decide +kernel) rfl trivial ?_
      obtain ⟨q24, e25, h⟩ := zbd h
      refine zG.callV (b := x0) (av := [(0, x3)]) (st := []) (ci := 12) hX (pX12_goFor_ok e25) sv_12_413 rfl ⟨by decide, rfl⟩ g18 (by decide +kernel) (by rw [hRm]; exact ⟨Nat.le_of_ble_eq_true rfl, Nat.le_of_ble_eq_true rfl⟩) (by rw [hRm]; exact ⟨Nat.le_of_ble_eq_true rfl, Nat.le_of_ble_eq_true rfl⟩) (Nat.le_of_ble_eq_true rfl) ?_
      show zG C E 9 S 0 0 _ 77 [some (2, x0), some (0, x1), some (0, x2), some (0, x3), some (0, x4), some (0, x5), some (0, x6), some (0, x7), none] [] q24
      obtain ⟨g26, h⟩ := zif h
      refine zG.blk (pc' := 84) (l' := [some (2, x0), some (0, x1), some (0, x2), some (0, x3), some (0, x4), some (0, x5), some (0, x6), some (0, x7), none]) (st' := [(0, x2), (0, q24 (q24 x0 2) x1)]) (M' := q24) hX [(.aload_n 0, 0, 0, 0), (.getfield 13, 12, 2, 2), (.iload_n 1, 0, 0, 0), (.iaload, 0, 0, 0), (.iload_n 2, 0, 0, 0)] (by decide +kernel) rfl (And.intro g18 (And.intro g26 trivial)) ?_
      have key27 : zG C E 9 S 0 0 (zQ C E 0 0 (some (0, q.1)) S q.2) 92 [some (2, x0), some (0, x1), some (0, x2), some (0, x3), some (0, x4), some (0, x5), some (0, x6), some (0, x7), none] [(0, (if q24 (q24 x0 2) x1 = x2 then (1 : Int) else 0))] q24 := by
        exact (pX12_came_92_ok hX hRm ih h)
      refine zG.icmp_ne (tgt := 91) (off := 7) hX (by decide +kernel) (by decide) (fun c36 => ?_) (fun c36 => ?_)
      · refine zG.blk (pc' := 92) (l' := [some (2, x0), some (0, x1), some (0, x2), some (0, x3), some (0, x4), some (0, x5), some (0, x6), some (0, x7), none]) (st' := [(0, 0)]) (M' := q24) hX [(.iconst 0, 0, 0, 0)] (by decide +kernel) rfl trivial ?_
        (have k := key27; simp only [if_neg c36] at k; exact k)
      · refine zG.blk (pc' := 88) (l' := [some (2, x0), some (0, x1), some (0, x2), some (0, x3), some (0, x4), some (0, x5), some (0, x6), some (0, x7), none]) (st' := [(0, 1)]) (M' := q24) hX [(.iconst 1, 0, 0, 0)] (by decide +kernel) rfl trivial ?_
        refine zG.goto (tgt := 92) (off := 4) hX (by decide +kernel) (by decide) ?_
        (have k := key27; simp only [if_pos c36] at k; exact k)
noncomputable def pX12_came (S : ZS) (M : ZM) (a0 : Int) (a1 : Int) (a2 : Int) (a3 : Int) (a4 : Int) : Option (Int × ZM) := if S.1 a0 = 12 then (pX12_isPen S M a0 a1).bind fun q1 => if q1.1 = 0 then (pX12_came_39 S q1.2) else ((pX12_isCell S q1.2 a0 a2).bind fun q5 => if q5.1 = 0 then (pX12_came_39 S q5.2) else ((pX12_in S q5.2 a3 1 60).bind fun q8 => if q8.1 = 0 then (pX12_came_39 S q8.2) else ((pX12_in S q8.2 a4 0 1).bind fun q11 => if q11.1 = 0 then (pX12_came_39 S q11.2) else ((pX12_keepsAll S q11.2 a0).bind fun q14 => pX12_came_55 S zFU q14 a0 a1 a2 a3 a4 0 (-2) 0)))) else none
set_option maxHeartbeats 2000000 in
set_option maxRecDepth 20000 in
theorem pX12_came_go {C : ZC} {E : ZE} {S : ZS} {M : ZM} {a0 a1 a2 a3 a4 : Int} {q : (Int × ZM)} (hX : zCx C E 12 cX12_came 9 (some .int) false) (hRm : czR C = { frames := 8, cells := 0, slots := 0, locals := 198 }) (h : pX12_came  S M a0 a1 a2 a3 a4 = some q) : zG C E 9 S 0 0 (zQ C E 0 0 (some (0, q.1)) S q.2) 0 [some (2, a0), some (0, a1), some (0, a2), some (0, a3), some (0, a4), none, none, none, none] [] M := by
  unfold pX12_came at h
  refine zG.blk (pc' := 2) (l' := [some (2, a0), some (0, a1), some (0, a2), some (0, a3), some (0, a4), none, none, none, none]) (st' := [(0, a1), (2, a0)]) (M' := M) hX [(.aload_n 0, 0, 0, 0), (.iload_n 1, 0, 0, 0)] (by decide +kernel) rfl trivial ?_
  obtain ⟨g3, h⟩ := zif h
  obtain ⟨q1, e2, h⟩ := zbd h
  refine zG.callV (b := a0) (av := [(0, a1)]) (st := []) (ci := 12) hX (pX12_isPen_ok e2) sv_12_341 rfl ⟨by decide, rfl⟩ g3 (by decide +kernel) (by rw [hRm]; exact ⟨Nat.le_of_ble_eq_true rfl, Nat.le_of_ble_eq_true rfl⟩) (by rw [hRm]; exact ⟨Nat.le_of_ble_eq_true rfl, Nat.le_of_ble_eq_true rfl⟩) (Nat.le_of_ble_eq_true rfl) ?_
  show zG C E 9 S 0 0 _ 5 [some (2, a0), some (0, a1), some (0, a2), some (0, a3), some (0, a4), none, none, none, none] [(0, q1.1)] q1.2
  refine zG.if_eq (tgt := 39) (off := 34) hX (by decide +kernel) (by decide) (fun c4 => ?_) (fun c4 => ?_)
  · have h := zip c4 h
    exact zG.wk [false, false, false, false, false, true, true, true, true] (pX12_came_39_ok hX hRm h)
  · have h := zin c4 h
    refine zG.blk (pc' := 10) (l' := [some (2, a0), some (0, a1), some (0, a2), some (0, a3), some (0, a4), none, none, none, none]) (st' := [(0, a2), (2, a0)]) (M' := q1.2) hX [(.aload_n 0, 0, 0, 0), (.iload_n 2, 0, 0, 0)] (by decide +kernel) rfl trivial ?_
    obtain ⟨q5, e6, h⟩ := zbd h
    refine zG.callV (b := a0) (av := [(0, a2)]) (st := []) (ci := 12) hX (pX12_isCell_ok e6) sv_12_345 rfl ⟨by decide, rfl⟩ g3 (by decide +kernel) (by rw [hRm]; exact ⟨Nat.le_of_ble_eq_true rfl, Nat.le_of_ble_eq_true rfl⟩) (by rw [hRm]; exact ⟨Nat.le_of_ble_eq_true rfl, Nat.le_of_ble_eq_true rfl⟩) (Nat.le_of_ble_eq_true rfl) ?_
    show zG C E 9 S 0 0 _ 13 [some (2, a0), some (0, a1), some (0, a2), some (0, a3), some (0, a4), none, none, none, none] [(0, q5.1)] q5.2
    refine zG.if_eq (tgt := 39) (off := 26) hX (by decide +kernel) (by decide) (fun c7 => ?_) (fun c7 => ?_)
    · have h := zip c7 h
      exact zG.wk [false, false, false, false, false, true, true, true, true] (pX12_came_39_ok hX hRm h)
    · have h := zin c7 h
      refine zG.blk (pc' := 22) (l' := [some (2, a0), some (0, a1), some (0, a2), some (0, a3), some (0, a4), none, none, none, none]) (st' := [(1, 60), (1, 1), (1, a3)]) (M' := q5.2) hX [(.iload_n 3, 0, 0, 0), (.i2l, 0, 0, 0), (.lconst 1, 1, 0, 0), (.ldc2_w 440, 60, 0, 0)] (by decide +kernel) rfl trivial ?_
      obtain ⟨q8, e9, h⟩ := zbd h
      refine zG.callS (av := [(1, a3), (1, 1), (1, 60)]) (st := []) hX (pX12_in_ok e9) ss_12_138 rfl (by decide +kernel) (by rw [hRm]; exact ⟨Nat.le_of_ble_eq_true rfl, Nat.le_of_ble_eq_true rfl⟩) (by rw [hRm]; exact ⟨Nat.le_of_ble_eq_true rfl, Nat.le_of_ble_eq_true rfl⟩) (Nat.le_of_ble_eq_true rfl) ?_
      show zG C E 9 S 0 0 _ 25 [some (2, a0), some (0, a1), some (0, a2), some (0, a3), some (0, a4), none, none, none, none] [(0, q8.1)] q8.2
      refine zG.if_eq (tgt := 39) (off := 14) hX (by decide +kernel) (by decide) (fun c10 => ?_) (fun c10 => ?_)
      · have h := zip c10 h
        exact zG.wk [false, false, false, false, false, true, true, true, true] (pX12_came_39_ok hX hRm h)
      · have h := zin c10 h
        refine zG.blk (pc' := 33) (l' := [some (2, a0), some (0, a1), some (0, a2), some (0, a3), some (0, a4), none, none, none, none]) (st' := [(1, 1), (1, 0), (1, a4)]) (M' := q8.2) hX [(.iload 4, 0, 0, 0), (.i2l, 0, 0, 0), (.lconst 0, 0, 0, 0), (.lconst 1, 1, 0, 0)] (by decide +kernel) rfl trivial ?_
        obtain ⟨q11, e12, h⟩ := zbd h
        refine zG.callS (av := [(1, a4), (1, 0), (1, 1)]) (st := []) hX (pX12_in_ok e12) ss_12_138 rfl (by decide +kernel) (by rw [hRm]; exact ⟨Nat.le_of_ble_eq_true rfl, Nat.le_of_ble_eq_true rfl⟩) (by rw [hRm]; exact ⟨Nat.le_of_ble_eq_true rfl, Nat.le_of_ble_eq_true rfl⟩) (Nat.le_of_ble_eq_true rfl) ?_
        show zG C E 9 S 0 0 _ 36 [some (2, a0), some (0, a1), some (0, a2), some (0, a3), some (0, a4), none, none, none, none] [(0, q11.1)] q11.2
        refine zG.if_ne (tgt := 41) (off := 5) hX (by decide +kernel) (by decide) (fun c13 => ?_) (fun c13 => ?_)
        · have h := zin c13 h
          refine zG.blk (pc' := 49) (l' := [some (2, a0), some (0, a1), some (0, a2), some (0, a3), some (0, a4), some (0, 0), some (0, (-2)), none, none]) (st' := [(2, a0)]) (M' := q11.2) hX [(.iconst 0, 0, 0, 0), (.istore 5, 0, 0, 0), (.bipush (-2), 0, 0, 0), (.istore 6, 0, 0, 0), (.aload_n 0, 0, 0, 0)] (by decide +kernel) rfl trivial ?_
          obtain ⟨q14, e15, h⟩ := zbd h
          refine zG.callV (b := a0) (av := []) (st := []) (ci := 12) hX (pX12_keepsAll_ok e15) sv_12_426 rfl ⟨by decide, rfl⟩ g3 (by decide +kernel) (by rw [hRm]; exact ⟨Nat.le_of_ble_eq_true rfl, Nat.le_of_ble_eq_true rfl⟩) (by rw [hRm]; exact ⟨Nat.le_of_ble_eq_true rfl, Nat.le_of_ble_eq_true rfl⟩) (Nat.le_of_ble_eq_true rfl) ?_
          show zG C E 9 S 0 0 _ 52 [some (2, a0), some (0, a1), some (0, a2), some (0, a3), some (0, a4), some (0, 0), some (0, (-2)), none, none] [] q14
          refine zG.blk (pc' := 55) (l' := [some (2, a0), some (0, a1), some (0, a2), some (0, a3), some (0, a4), some (0, 0), some (0, (-2)), some (0, 0), none]) (st' := []) (M' := q14) hX [(.iconst 0, 0, 0, 0), (.istore 7, 0, 0, 0)] (by decide +kernel) rfl trivial ?_
          exact (pX12_came_55_ok hX hRm zFU _ _ _ _ _ _ _ _ _ h)
        · have h := zip c13 h
          exact zG.wk [false, false, false, false, false, true, true, true, true] (pX12_came_39_ok hX hRm h)
theorem pX12_came_ok {l : Launch} {E : ZE} {S : ZS} {M : ZM} {a0 a1 a2 a3 a4 : Int} {q : (Int × ZM)} (h : pX12_came S M a0 a1 a2 a3 a4 = some q) : zMet l yX12_came cX12_came 9 (some .int) 8 198 0 0 E S M [(2, a0), (0, a1), (0, a2), (0, a3), (0, a4)] (some (0, q.1)) S q.2 :=
  zMet.of (o := 12) (ini := false) (by decide +kernel) rfl (fun h => by cases h) (Nat.le_of_ble_eq_true rfl) (fun C hX hl hRm => by subst hl; exact pX12_came_go hX hRm h)
noncomputable def pX12_cell_20 (S : ZS) (M : ZM) : Option (Int × ZM) := some ((-2), M)
set_option maxHeartbeats 2000000 in
set_option maxRecDepth 20000 in
theorem pX12_cell_20_ok {C : ZC} {E : ZE} {S : ZS} {q : (Int × ZM)} (hX : zCx C E 12 cX12_cell 3 (some .int) false) (hRm : czR C = { frames := 3, cells := 0, slots := 0, locals := 86 }) {M : ZM} (h : pX12_cell_20 S M = some q) : zG C E 3 S 0 0 (zQ C E 0 0 (some (0, q.1)) S q.2) 20 [none, none, none] [] M := by
  unfold pX12_cell_20 at h
  refine zG.blk (pc' := 22) (l' := [none, none, none]) (st' := [(0, (-2))]) (M' := M) hX [(.bipush (-2), 0, 0, 0)] (by decide +kernel) rfl trivial ?_
  cases h
  exact zG.iret hX (by decide +kernel)
noncomputable def pX12_cell_56 (S : ZS) (M : ZM) (y0 : Int) : Option (Int × ZM) := some (y0, M)
set_option maxHeartbeats 2000000 in
set_option maxRecDepth 20000 in
theorem pX12_cell_56_ok {C : ZC} {E : ZE} {S : ZS} {q : (Int × ZM)} (hX : zCx C E 12 cX12_cell 3 (some .int) false) (hRm : czR C = { frames := 3, cells := 0, slots := 0, locals := 86 }) {M : ZM} {y0 : Int} (h : pX12_cell_56 S M y0 = some q) : zG C E 3 S 0 0 (zQ C E 0 0 (some (0, q.1)) S q.2) 56 [none, none, none] [(0, y0)] M := by
  unfold pX12_cell_56 at h
  cases h
  exact zG.iret hX (by decide +kernel)
noncomputable def pX12_cell (S : ZS) (M : ZM) (a0 : Int) (a1 : Int) (a2 : Int) : Option (Int × ZM) := if S.1 a0 = 12 then (pX12_isCell S M a0 a1).bind fun q1 => if q1.1 = 0 then (pX12_cell_20 S q1.2) else ((pX12_in S q1.2 a2 0 2).bind fun q5 => if q5.1 = 0 then (pX12_cell_20 S q5.2) else (if a2 = 0 then (if S.1 (q5.2 a0 4) = 100 ∧ (0 : Int) ≤ a1 ∧ a1 < S.2.1 (q5.2 a0 4) then pX12_cell_56 S q5.2 (q5.2 (q5.2 a0 4) a1) else none) else (if a2 = 1 then (if S.1 (q5.2 a0 5) = 100 ∧ (0 : Int) ≤ a1 ∧ a1 < S.2.1 (q5.2 a0 5) then pX12_cell_56 S q5.2 (q5.2 (q5.2 a0 5) a1) else none) else (if S.1 (q5.2 a0 8) = 100 ∧ (0 : Int) ≤ a1 ∧ a1 < S.2.1 (q5.2 a0 8) then pX12_cell_56 S q5.2 (q5.2 (q5.2 a0 8) a1) else none)))) else none
set_option maxHeartbeats 2000000 in
set_option maxRecDepth 20000 in
theorem pX12_cell_go {C : ZC} {E : ZE} {S : ZS} {M : ZM} {a0 a1 a2 : Int} {q : (Int × ZM)} (hX : zCx C E 12 cX12_cell 3 (some .int) false) (hRm : czR C = { frames := 3, cells := 0, slots := 0, locals := 86 }) (h : pX12_cell  S M a0 a1 a2 = some q) : zG C E 3 S 0 0 (zQ C E 0 0 (some (0, q.1)) S q.2) 0 [some (2, a0), some (0, a1), some (0, a2)] [] M := by
  unfold pX12_cell at h
  refine zG.blk (pc' := 2) (l' := [some (2, a0), some (0, a1), some (0, a2)]) (st' := [(0, a1), (2, a0)]) (M' := M) hX [(.aload_n 0, 0, 0, 0), (.iload_n 1, 0, 0, 0)] (by decide +kernel) rfl trivial ?_
  obtain ⟨g3, h⟩ := zif h
  obtain ⟨q1, e2, h⟩ := zbd h
  refine zG.callV (b := a0) (av := [(0, a1)]) (st := []) (ci := 12) hX (pX12_isCell_ok e2) sv_12_345 rfl ⟨by decide, rfl⟩ g3 (by decide +kernel) (by rw [hRm]; exact ⟨Nat.le_of_ble_eq_true rfl, Nat.le_of_ble_eq_true rfl⟩) (by rw [hRm]; exact ⟨Nat.le_of_ble_eq_true rfl, Nat.le_of_ble_eq_true rfl⟩) (Nat.le_of_ble_eq_true rfl) ?_
  show zG C E 3 S 0 0 _ 5 [some (2, a0), some (0, a1), some (0, a2)] [(0, q1.1)] q1.2
  refine zG.if_eq (tgt := 20) (off := 15) hX (by decide +kernel) (by decide) (fun c4 => ?_) (fun c4 => ?_)
  · have h := zip c4 h
    exact zG.wk [false, false, false] (pX12_cell_20_ok hX hRm h)
  · have h := zin c4 h
    refine zG.blk (pc' := 14) (l' := [some (2, a0), some (0, a1), some (0, a2)]) (st' := [(1, 2), (1, 0), (1, a2)]) (M' := q1.2) hX [(.iload_n 2, 0, 0, 0), (.i2l, 0, 0, 0), (.lconst 0, 0, 0, 0), (.ldc2_w 348, 2, 0, 0)] (by decide +kernel) rfl trivial ?_
    obtain ⟨q5, e6, h⟩ := zbd h
    refine zG.callS (av := [(1, a2), (1, 0), (1, 2)]) (st := []) hX (pX12_in_ok e6) ss_12_138 rfl (by decide +kernel) (by rw [hRm]; exact ⟨Nat.le_of_ble_eq_true rfl, Nat.le_of_ble_eq_true rfl⟩) (by rw [hRm]; exact ⟨Nat.le_of_ble_eq_true rfl, Nat.le_of_ble_eq_true rfl⟩) (Nat.le_of_ble_eq_true rfl) ?_
    show zG C E 3 S 0 0 _ 17 [some (2, a0), some (0, a1), some (0, a2)] [(0, q5.1)] q5.2
    refine zG.if_ne (tgt := 23) (off := 6) hX (by decide +kernel) (by decide) (fun c7 => ?_) (fun c7 => ?_)
    · have h := zin c7 h
      refine zG.blk (pc' := 24) (l' := [some (2, a0), some (0, a1), some (0, a2)]) (st' := [(0, a2)]) (M' := q5.2) hX [(.iload_n 2, 0, 0, 0)] (by decide +kernel) rfl trivial ?_
      refine zG.if_ne (tgt := 36) (off := 12) hX (by decide +kernel) (by decide) (fun c8 => ?_) (fun c8 => ?_)
      · have h := zin c8 h
        refine zG.blk (pc' := 38) (l' := [some (2, a0), some (0, a1), some (0, a2)]) (st' := [(0, 1), (0, a2)]) (M' := q5.2) hX [(.iload_n 2, 0, 0, 0), (.iconst 1, 0, 0, 0)] (by decide +kernel) rfl trivial ?_
        refine zG.icmp_ne (tgt := 50) (off := 12) hX (by decide +kernel) (by decide) (fun c9 => ?_) (fun c9 => ?_)
        · have h := zin c9 h
          obtain ⟨g10, h⟩ := zif h
          refine zG.blk (pc' := 56) (l' := [some (2, a0), some (0, a1), some (0, a2)]) (st' := [(0, q5.2 (q5.2 a0 8) a1)]) (M' := q5.2) hX [(.aload_n 0, 0, 0, 0), (.getfield 31, 12, 8, 2), (.iload_n 1, 0, 0, 0), (.iaload, 0, 0, 0)] (by decide +kernel) rfl (And.intro g3 (And.intro g10 trivial)) ?_
          exact zG.wk [false, false, false] (pX12_cell_56_ok hX hRm h)
        · have h := zip c9 h
          obtain ⟨g11, h⟩ := zif h
          refine zG.blk (pc' := 47) (l' := [some (2, a0), some (0, a1), some (0, a2)]) (st' := [(0, q5.2 (q5.2 a0 5) a1)]) (M' := q5.2) hX [(.aload_n 0, 0, 0, 0), (.getfield 22, 12, 5, 2), (.iload_n 1, 0, 0, 0), (.iaload, 0, 0, 0)] (by decide +kernel) rfl (And.intro g3 (And.intro g11 trivial)) ?_
          refine zG.goto (tgt := 56) (off := 9) hX (by decide +kernel) (by decide) ?_
          exact zG.wk [false, false, false] (pX12_cell_56_ok hX hRm h)
      · have h := zip c8 h
        obtain ⟨g12, h⟩ := zif h
        refine zG.blk (pc' := 33) (l' := [some (2, a0), some (0, a1), some (0, a2)]) (st' := [(0, q5.2 (q5.2 a0 4) a1)]) (M' := q5.2) hX [(.aload_n 0, 0, 0, 0), (.getfield 19, 12, 4, 2), (.iload_n 1, 0, 0, 0), (.iaload, 0, 0, 0)] (by decide +kernel) rfl (And.intro g3 (And.intro g12 trivial)) ?_
        refine zG.goto (tgt := 56) (off := 23) hX (by decide +kernel) (by decide) ?_
        exact zG.wk [false, false, false] (pX12_cell_56_ok hX hRm h)
    · have h := zip c7 h
      exact zG.wk [false, false, false] (pX12_cell_20_ok hX hRm h)
theorem pX12_cell_ok {l : Launch} {E : ZE} {S : ZS} {M : ZM} {a0 a1 a2 : Int} {q : (Int × ZM)} (h : pX12_cell S M a0 a1 a2 = some q) : zMet l yX12_cell cX12_cell 3 (some .int) 3 86 0 0 E S M [(2, a0), (0, a1), (0, a2)] (some (0, q.1)) S q.2 :=
  zMet.of (o := 12) (ini := false) (by decide +kernel) rfl (fun h => by cases h) (Nat.le_of_ble_eq_true rfl) (fun C hX hl hRm => by subst hl; exact pX12_cell_go hX hRm h)
noncomputable def pX12_likeIn (S : ZS) (M : ZM) (a0 : Int) (a1 : Int) : Option (Int × ZM) := if S.1 a0 = 12 then (pX12_goFor S M a0 a1).bind fun q1 => (pX12_like S q1 a0).bind fun q4 => (pX12_laysBack S q4.2 a0).bind fun q6 => some (q4.1, q6) else none
set_option maxHeartbeats 2000000 in
set_option maxRecDepth 20000 in
theorem pX12_likeIn_go {C : ZC} {E : ZE} {S : ZS} {M : ZM} {a0 a1 : Int} {q : (Int × ZM)} (hX : zCx C E 12 cX12_likeIn 3 (some .int) false) (hRm : czR C = { frames := 8, cells := 0, slots := 0, locals := 198 }) (h : pX12_likeIn  S M a0 a1 = some q) : zG C E 3 S 0 0 (zQ C E 0 0 (some (0, q.1)) S q.2) 0 [some (2, a0), some (0, a1), none] [] M := by
  unfold pX12_likeIn at h
  refine zG.blk (pc' := 2) (l' := [some (2, a0), some (0, a1), none]) (st' := [(0, a1), (2, a0)]) (M' := M) hX [(.aload_n 0, 0, 0, 0), (.iload_n 1, 0, 0, 0)] (by decide +kernel) rfl trivial ?_
  obtain ⟨g3, h⟩ := zif h
  obtain ⟨q1, e2, h⟩ := zbd h
  refine zG.callV (b := a0) (av := [(0, a1)]) (st := []) (ci := 12) hX (pX12_goFor_ok e2) sv_12_413 rfl ⟨by decide, rfl⟩ g3 (by decide +kernel) (by rw [hRm]; exact ⟨Nat.le_of_ble_eq_true rfl, Nat.le_of_ble_eq_true rfl⟩) (by rw [hRm]; exact ⟨Nat.le_of_ble_eq_true rfl, Nat.le_of_ble_eq_true rfl⟩) (Nat.le_of_ble_eq_true rfl) ?_
  show zG C E 3 S 0 0 _ 5 [some (2, a0), some (0, a1), none] [] q1
  refine zG.blk (pc' := 6) (l' := [some (2, a0), some (0, a1), none]) (st' := [(2, a0)]) (M' := q1) hX [(.aload_n 0, 0, 0, 0)] (by decide +kernel) rfl trivial ?_
  obtain ⟨q4, e5, h⟩ := zbd h
  refine zG.callV (b := a0) (av := []) (st := []) (ci := 12) hX (pX12_like_ok e5) sv_12_416 rfl ⟨by decide, rfl⟩ g3 (by decide +kernel) (by rw [hRm]; exact ⟨Nat.le_of_ble_eq_true rfl, Nat.le_of_ble_eq_true rfl⟩) (by rw [hRm]; exact ⟨Nat.le_of_ble_eq_true rfl, Nat.le_of_ble_eq_true rfl⟩) (Nat.le_of_ble_eq_true rfl) ?_
  show zG C E 3 S 0 0 _ 9 [some (2, a0), some (0, a1), none] [(0, q4.1)] q4.2
  refine zG.blk (pc' := 11) (l' := [some (2, a0), some (0, a1), some (0, q4.1)]) (st' := [(2, a0)]) (M' := q4.2) hX [(.istore_n 2, 0, 0, 0), (.aload_n 0, 0, 0, 0)] (by decide +kernel) rfl trivial ?_
  obtain ⟨q6, e7, h⟩ := zbd h
  refine zG.callV (b := a0) (av := []) (st := []) (ci := 12) hX (pX12_laysBack_ok e7) sv_12_419 rfl ⟨by decide, rfl⟩ g3 (by decide +kernel) (by rw [hRm]; exact ⟨Nat.le_of_ble_eq_true rfl, Nat.le_of_ble_eq_true rfl⟩) (by rw [hRm]; exact ⟨Nat.le_of_ble_eq_true rfl, Nat.le_of_ble_eq_true rfl⟩) (Nat.le_of_ble_eq_true rfl) ?_
  show zG C E 3 S 0 0 _ 14 [some (2, a0), some (0, a1), some (0, q4.1)] [] q6
  refine zG.blk (pc' := 15) (l' := [some (2, a0), some (0, a1), some (0, q4.1)]) (st' := [(0, q4.1)]) (M' := q6) hX [(.iload_n 2, 0, 0, 0)] (by decide +kernel) rfl trivial ?_
  cases h
  exact zG.iret hX (by decide +kernel)
theorem pX12_likeIn_ok {l : Launch} {E : ZE} {S : ZS} {M : ZM} {a0 a1 : Int} {q : (Int × ZM)} (h : pX12_likeIn S M a0 a1 = some q) : zMet l yX12_likeIn cX12_likeIn 3 (some .int) 8 198 0 0 E S M [(2, a0), (0, a1)] (some (0, q.1)) S q.2 :=
  zMet.of (o := 12) (ini := false) (by decide +kernel) rfl (fun h => by cases h) (Nat.le_of_ble_eq_true rfl) (fun C hX hl hRm => by subst hl; exact pX12_likeIn_go hX hRm h)
noncomputable def pX12_swaps_39 (S : ZS) (M : ZM) (x0 : Int) (x2 : Int) (x3 : Int) (x4 : Int) : Option ZM := if S.1 x0 = 12 then if S.1 (M x0 6) = 100 ∧ (0 : Int) ≤ x2 ∧ x2 < S.2.1 (M x0 6) then zlet (upM M (M x0 6) x2 x3) fun M11 => if S.1 (M11 x0 7) = 100 ∧ (0 : Int) ≤ x2 ∧ x2 < S.2.1 (M11 x0 7) then zlet (upM M11 (M11 x0 7) x2 x4) fun M13 => some M13 else none else none else none
set_option maxHeartbeats 2000000 in
set_option maxRecDepth 20000 in
theorem pX12_swaps_39_ok {C : ZC} {E : ZE} {S : ZS} {q : ZM} (hX : zCx C E 12 cX12_swaps 5 none false) (hRm : czR C = { frames := 1, cells := 0, slots := 0, locals := 40 }) {M : ZM} {x0 : Int} {x2 : Int} {x3 : Int} {x4 : Int} (h : pX12_swaps_39 S M x0 x2 x3 x4 = some q) : zG C E 5 S 0 0 (zQ C E 0 0 none S q) 39 [some (2, x0), none, some (0, x2), some (0, x3), some (0, x4)] [] M := by
  unfold pX12_swaps_39 at h
  obtain ⟨g9, h⟩ := zif h
  obtain ⟨g10, h⟩ := zif h
  refine zG.blk (pc' := 46) (l' := [some (2, x0), none, some (0, x2), some (0, x3), some (0, x4)]) (st' := []) (M' := (upM M (M x0 6) x2 x3)) hX [(.aload_n 0, 0, 0, 0), (.getfield 25, 12, 6, 2), (.iload_n 2, 0, 0, 0), (.iload_n 3, 0, 0, 0), (.iastore, 0, 0, 0)] (by decide +kernel) rfl (And.intro g9 (And.intro g10 trivial)) ?_
  generalize upM M (M x0 6) x2 x3 = M11 at h ⊢
  have h := zlt h
  obtain ⟨g12, h⟩ := zif h
  refine zG.blk (pc' := 54) (l' := [some (2, x0), none, some (0, x2), some (0, x3), some (0, x4)]) (st' := []) (M' := (upM M11 (M11 x0 7) x2 x4)) hX [(.aload_n 0, 0, 0, 0), (.getfield 28, 12, 7, 2), (.iload_n 2, 0, 0, 0), (.iload 4, 0, 0, 0), (.iastore, 0, 0, 0)] (by decide +kernel) rfl (And.intro g9 (And.intro g12 trivial)) ?_
  generalize upM M11 (M11 x0 7) x2 x4 = M13 at h ⊢
  have h := zlt h
  cases h
  exact zG.vret hX (by decide +kernel)
noncomputable def pX12_swaps (S : ZS) (M : ZM) (a0 : Int) (a1 : Int) (a2 : Int) : Option ZM := if S.1 a0 = 12 then if S.1 (M a0 6) = 100 ∧ (0 : Int) ≤ a1 ∧ a1 < S.2.1 (M a0 6) then if S.1 (M a0 7) = 100 ∧ (0 : Int) ≤ a1 ∧ a1 < S.2.1 (M a0 7) then if S.1 (M a0 6) = 100 ∧ (0 : Int) ≤ a2 ∧ a2 < S.2.1 (M a0 6) then zlet (upM M (M a0 6) a1 (M (M a0 6) a2)) fun M5 => if S.1 (M5 a0 7) = 100 ∧ (0 : Int) ≤ a2 ∧ a2 < S.2.1 (M5 a0 7) then if S.1 (M5 a0 7) = 100 ∧ (0 : Int) ≤ a1 ∧ a1 < S.2.1 (M5 a0 7) then zlet (upM M5 (M5 a0 7) a1 (M5 (M5 a0 7) a2)) fun M8 => pX12_swaps_39 S M8 a0 a2 (M (M a0 6) a1) (M (M a0 7) a1) else none else none else none else none else none else none
set_option maxHeartbeats 2000000 in
set_option maxRecDepth 20000 in
theorem pX12_swaps_go {C : ZC} {E : ZE} {S : ZS} {M : ZM} {a0 a1 a2 : Int} {q : ZM} (hX : zCx C E 12 cX12_swaps 5 none false) (hRm : czR C = { frames := 1, cells := 0, slots := 0, locals := 40 }) (h : pX12_swaps  S M a0 a1 a2 = some q) : zG C E 5 S 0 0 (zQ C E 0 0 none S q) 0 [some (2, a0), some (0, a1), some (0, a2), none, none] [] M := by
  unfold pX12_swaps at h
  obtain ⟨g1, h⟩ := zif h
  obtain ⟨g2, h⟩ := zif h
  obtain ⟨g3, h⟩ := zif h
  obtain ⟨g4, h⟩ := zif h
  refine zG.blk (pc' := 27) (l' := [some (2, a0), some (0, a1), some (0, a2), some (0, M (M a0 6) a1), some (0, M (M a0 7) a1)]) (st' := []) (M' := (upM M (M a0 6) a1 (M (M a0 6) a2))) hX [(.aload_n 0, 0, 0, 0), (.getfield 25, 12, 6, 2), (.iload_n 1, 0, 0, 0), (.iaload, 0, 0, 0), (.istore_n 3, 0, 0, 0), (.aload_n 0, 0, 0, 0), (.getfield 28, 12, 7, 2), (.iload_n 1, 0, 0, 0), (.iaload, 0, 0, 0), (.istore 4, 0, 0, 0), (.aload_n 0, 0, 0, 0), (.getfield 25, 12, 6, 2), (.iload_n 1, 0, 0, 0), (.aload_n 0, 0, 0, 0), (.getfield 25, 12, 6, 2), (.iload_n 2, 0, 0, 0), (.iaload, 0, 0, 0), (.iastore, 0, 0, 0)] (by decide +kernel) rfl (And.intro g1 (And.intro g2 (And.intro g1 (And.intro g3 (And.intro g1 (And.intro g1 (And.intro g4 (And.intro g2 trivial)))))))) ?_
  generalize upM M (M a0 6) a1 (M (M a0 6) a2) = M5 at h ⊢
  have h := zlt h
  obtain ⟨g6, h⟩ := zif h
  obtain ⟨g7, h⟩ := zif h
  refine zG.blk (pc' := 39) (l' := [some (2, a0), some (0, a1), some (0, a2), some (0, M (M a0 6) a1), some (0, M (M a0 7) a1)]) (st' := []) (M' := (upM M5 (M5 a0 7) a1 (M5 (M5 a0 7) a2))) hX [(.aload_n 0, 0, 0, 0), (.getfield 28, 12, 7, 2), (.iload_n 1, 0, 0, 0), (.aload_n 0, 0, 0, 0), (.getfield 28, 12, 7, 2), (.iload_n 2, 0, 0, 0), (.iaload, 0, 0, 0), (.iastore, 0, 0, 0)] (by decide +kernel) rfl (And.intro g1 (And.intro g1 (And.intro g6 (And.intro g7 trivial)))) ?_
  generalize upM M5 (M5 a0 7) a1 (M5 (M5 a0 7) a2) = M8 at h ⊢
  have h := zlt h
  exact zG.wk [true, false, true, true, true] (pX12_swaps_39_ok hX hRm h)
theorem pX12_swaps_ok {l : Launch} {E : ZE} {S : ZS} {M : ZM} {a0 a1 a2 : Int} {q : ZM} (h : pX12_swaps S M a0 a1 a2 = some q) : zMet l yX12_swaps cX12_swaps 5 none 1 40 0 0 E S M [(2, a0), (0, a1), (0, a2)] (none) S q :=
  zMet.of (o := 12) (ini := false) (by decide +kernel) rfl (fun h => by cases h) (Nat.le_of_ble_eq_true rfl) (fun C hX hl hRm => by subst hl; exact pX12_swaps_go hX hRm h)
noncomputable def pX12_change_31 (S : ZS) (M : ZM) : Option (Int × ZM) := some ((-2), M)
set_option maxHeartbeats 2000000 in
set_option maxRecDepth 20000 in
theorem pX12_change_31_ok {C : ZC} {E : ZE} {S : ZS} {q : (Int × ZM)} (hX : zCx C E 12 cX12_change 9 (some .int) false) (hRm : czR C = { frames := 9, cells := 0, slots := 0, locals := 220 }) {M : ZM} (h : pX12_change_31 S M = some q) : zG C E 9 S 0 0 (zQ C E 0 0 (some (0, q.1)) S q.2) 31 [none, none, none, none, none, none, none, none, none] [] M := by
  unfold pX12_change_31 at h
  refine zG.blk (pc' := 33) (l' := [none, none, none, none, none, none, none, none, none]) (st' := [(0, (-2))]) (M' := M) hX [(.bipush (-2), 0, 0, 0)] (by decide +kernel) rfl trivial ?_
  cases h
  exact zG.iret hX (by decide +kernel)
theorem sv_12_442 : zSV 12 442 yX12_likeIn cX12_likeIn 3 (some .int) 1 := ⟨⟨gt_at 1638 (by decide +kernel) rfl, gt_at 1640 (by decide +kernel) rfl, gt_at 93 (by decide +kernel) rfl, gt_at 117 (by decide +kernel) rfl, gt_at 1641 (by decide +kernel) rfl⟩, by decide +kernel, by decide +kernel, by decide +kernel⟩
theorem sv_12_452 : zSV 12 452 yX12_swaps cX12_swaps 5 none 2 := ⟨⟨gt_at 1661 (by decide +kernel) rfl, gt_at 1663 (by decide +kernel) rfl, gt_at 95 (by decide +kernel) rfl, gt_at 117 (by decide +kernel) rfl, gt_at 1664 (by decide +kernel) rfl⟩, by decide +kernel, by decide +kernel, by decide +kernel⟩
noncomputable def pX12_change_70 (S : ZS) (k53 : ZM → Int → Int → Int → Int → Int → Int → Int → Option (Int × ZM)) : Nat → ZM → Int → Int → Int → Int → Int → Int → Int → Int → Option (Int × ZM)
  | 0 => fun _ _ _ _ _ _ _ _ _ => none
  | n + 1 => fun M x0 x1 x2 x3 x4 x5 x6 x7 => if S.1 x0 = 12 then if S.1 (M x0 1) = 100 ∧ (0 : Int) ≤ 3 ∧ 3 < S.2.1 (M x0 1) then if M (M x0 1) 3 ≤ x7 then (k53 M x0 x1 x2 x3 x4 x5 (w32 (x6 + 1))) else ((pX12_swaps S M x0 x6 x7).bind fun q24 => (pX12_likeIn S q24 x0 x1).bind fun q26 => pX12_change_70 S k53 n q26.2 x0 x1 x2 (if q26.1 ≤ x3 then (x3 : Int) else q26.1) (if q26.1 ≤ x3 then (x4 : Int) else x6) (if q26.1 ≤ x3 then (x5 : Int) else x7) x6 (w32 (x7 + 1))) else none else none
set_option maxHeartbeats 2000000 in
set_option maxRecDepth 20000 in
theorem pX12_change_70_ok {C : ZC} {E : ZE} {S : ZS} {k53 : ZM → Int → Int → Int → Int → Int → Int → Int → Option (Int × ZM)} {q : (Int × ZM)} (hX : zCx C E 12 cX12_change 9 (some .int) false) (hRm : czR C = { frames := 9, cells := 0, slots := 0, locals := 220 }) (hk53 : ∀ M x0 x1 x2 x3 x4 x5 x6, k53 M x0 x1 x2 x3 x4 x5 x6 = some q → zG C E 9 S 0 0 (zQ C E 0 0 (some (0, q.1)) S q.2) 53 [some (2, x0), some (0, x1), some (0, x2), some (0, x3), some (0, x4), some (0, x5), some (0, x6), none, none] [] M) : ∀ (n : Nat) (M : ZM) (x0 : Int) (x1 : Int) (x2 : Int) (x3 : Int) (x4 : Int) (x5 : Int) (x6 : Int) (x7 : Int), pX12_change_70 S k53 n M x0 x1 x2 x3 x4 x5 x6 x7 = some q → zG C E 9 S 0 0 (zQ C E 0 0 (some (0, q.1)) S q.2) 70 [some (2, x0), some (0, x1), some (0, x2), some (0, x3), some (0, x4), some (0, x5), some (0, x6), some (0, x7), none] [] M := by
  intro n
  induction n with
  | zero => intro M x0 x1 x2 x3 x4 x5 x6 x7 h; cases h
  | succ n ih =>
    intro M x0 x1 x2 x3 x4 x5 x6 x7 h
    unfold pX12_change_70 at h
    obtain ⟨g21, h⟩ := zif h
    obtain ⟨g22, h⟩ := zif h
    refine zG.blk (pc' := 78) (l' := [some (2, x0), some (0, x1), some (0, x2), some (0, x3), some (0, x4), some (0, x5), some (0, x6), some (0, x7), none]) (st' := [(0, M (M x0 1) 3), (0, x7)]) (M' := M) hX [(.iload 7, 0, 0, 0), (.aload_n 0, 0, 0, 0), (.getfield 9, 12, 1, 2), (.iconst 3, 0, 0, 0), (.iaload, 0, 0, 0)] (by decide +kernel) rfl (And.intro g21 (And.intro g22 trivial)) ?_
    refine zG.icmp_ge (tgt := 119) (off := 41) hX (by decide +kernel) (by decide) (fun c23 => ?_) (fun c23 => ?_)
    · have h := zip c23 h
      refine zG.blk (pc' := 122) (l' := [some (2, x0), some (0, x1), some (0, x2), some (0, x3), some (0, x4), some (0, x5), some (0, w32 (x6 + 1)), some (0, x7), none]) (st' := []) (M' := M) hX [(.iinc 6 1, 0, 0, 0)] (by decide +kernel) rfl trivial ?_
      refine zG.goto (tgt := 53) (off := (-69)) hX (by decide +kernel) (by decide) ?_
      exact zG.wk [true, true, true, true, true, true, true, false, true] (hk53 _ _ _ _ _ _ _ _ h)
    · have h := zin c23 h
      refine zG.blk (pc' := 86) (l' := [some (2, x0), some (0, x1), some (0, x2), some (0, x3), some (0, x4), some (0, x5), some (0, x6), some (0, x7), none]) (st' := [(0, x7), (0, x6), (2, x0)]) (M' := M) hX [(.aload_n 0, 0, 0, 0), (.iload 6, 0, 0, 0), (.iload 7, 0, 0, 0)] (by decide +kernel) rfl trivial ?_
      obtain ⟨q24, e25, h⟩ := zbd h
      refine zG.callV (b := x0) (av := [(0, x6), (0, x7)]) (st := []) (ci := 12) hX (pX12_swaps_ok e25) sv_12_452 rfl ⟨by decide, rfl⟩ g21 (by decide +kernel) (by rw [hRm]; exact ⟨Nat.le_of_ble_eq_true rfl, Nat.le_of_ble_eq_true rfl⟩) (by rw [hRm]; exact ⟨Nat.le_of_ble_eq_true rfl, Nat.le_of_ble_eq_true rfl⟩) (Nat.le_of_ble_eq_true rfl) ?_
      show zG C E 9 S 0 0 _ 89 [some (2, x0), some (0, x1), some (0, x2), some (0, x3), some (0, x4), some (0, x5), some (0, x6), some (0, x7), none] [] q24
      refine zG.blk (pc' := 91) (l' := [some (2, x0), some (0, x1), some (0, x2), some (0, x3), some (0, x4), some (0, x5), some (0, x6), some (0, x7), none]) (st' := [(0, x1), (2, x0)]) (M' := q24) hX [(.aload_n 0, 0, 0, 0), (.iload_n 1, 0, 0, 0)] (by decide +kernel) rfl trivial ?_
      obtain ⟨q26, e27, h⟩ := zbd h
      refine zG.callV (b := x0) (av := [(0, x1)]) (st := []) (ci := 12) hX (pX12_likeIn_ok e27) sv_12_442 rfl ⟨by decide, rfl⟩ g21 (by decide +kernel) (by rw [hRm]; exact ⟨Nat.le_of_ble_eq_true rfl, Nat.le_of_ble_eq_true rfl⟩) (by rw [hRm]; exact ⟨Nat.le_of_ble_eq_true rfl, Nat.le_of_ble_eq_true rfl⟩) (Nat.le_of_ble_eq_true rfl) ?_
      show zG C E 9 S 0 0 _ 94 [some (2, x0), some (0, x1), some (0, x2), some (0, x3), some (0, x4), some (0, x5), some (0, x6), some (0, x7), none] [(0, q26.1)] q26.2
      refine zG.blk (pc' := 99) (l' := [some (2, x0), some (0, x1), some (0, x2), some (0, x3), some (0, x4), some (0, x5), some (0, x6), some (0, x7), some (0, q26.1)]) (st' := [(0, x3), (0, q26.1)]) (M' := q26.2) hX [(.istore 8, 0, 0, 0), (.iload 8, 0, 0, 0), (.iload_n 3, 0, 0, 0)] (by decide +kernel) rfl trivial ?_
      have key28 : zG C E 9 S 0 0 (zQ C E 0 0 (some (0, q.1)) S q.2) 113 [some (2, x0), some (0, x1), some (0, x2), some (0, (if q26.1 ≤ x3 then (x3 : Int) else q26.1)), some (0, (if q26.1 ≤ x3 then (x4 : Int) else x6)), some (0, (if q26.1 ≤ x3 then (x5 : Int) else x7)), some (0, x6), some (0, x7), some (0, q26.1)] [] q26.2 := by
        refine zG.blk (pc' := 116) (l' := [some (2, x0), some (0, x1), some (0, x2), some (0, (if q26.1 ≤ x3 then (x3 : Int) else q26.1)), some (0, (if q26.1 ≤ x3 then (x4 : Int) else x6)), some (0, (if q26.1 ≤ x3 then (x5 : Int) else x7)), some (0, x6), some (0, w32 (x7 + 1)), some (0, q26.1)]) (st' := []) (M' := q26.2) hX [(.iinc 7 1, 0, 0, 0)] (by decide +kernel) rfl trivial ?_
        refine zG.goto (tgt := 70) (off := (-46)) hX (by decide +kernel) (by decide) ?_
        exact zG.wk [true, true, true, true, true, true, true, true, false] (ih _ _ _ _ _ _ _ _ _ h)
      refine zG.icmp_le (tgt := 113) (off := 14) hX (by decide +kernel) (by decide) (fun c29 => ?_) (fun c29 => ?_)
      · (have k := key28; simp only [if_pos c29] at k; exact k)
      · refine zG.blk (pc' := 113) (l' := [some (2, x0), some (0, x1), some (0, x2), some (0, q26.1), some (0, x6), some (0, x7), some (0, x6), some (0, x7), some (0, q26.1)]) (st' := []) (M' := q26.2) hX [(.iload 8, 0, 0, 0), (.istore_n 3, 0, 0, 0), (.iload 6, 0, 0, 0), (.istore 4, 0, 0, 0), (.iload 7, 0, 0, 0), (.istore 5, 0, 0, 0)] (by decide +kernel) rfl trivial ?_
        (have k := key28; simp only [if_neg c29] at k; exact k)
noncomputable def pX12_change_53 (S : ZS) : Nat → ZM → Int → Int → Int → Int → Int → Int → Int → Option (Int × ZM)
  | 0 => fun _ _ _ _ _ _ _ _ => none
  | n + 1 => fun M x0 x1 x2 x3 x4 x5 x6 => if S.1 x0 = 12 then if S.1 (M x0 1) = 100 ∧ (0 : Int) ≤ 3 ∧ 3 < S.2.1 (M x0 1) then if M (M x0 1) 3 ≤ x6 then (some ((if x2 = 0 then (x3 : Int) else (if x2 = 1 then (x4 : Int) else x5)), M)) else (pX12_change_70 S (pX12_change_53 S n) zFU M x0 x1 x2 x3 x4 x5 x6 (w32 (x6 + 1))) else none else none
set_option maxHeartbeats 2000000 in
set_option maxRecDepth 20000 in
theorem pX12_change_53_ok {C : ZC} {E : ZE} {S : ZS} {q : (Int × ZM)} (hX : zCx C E 12 cX12_change 9 (some .int) false) (hRm : czR C = { frames := 9, cells := 0, slots := 0, locals := 220 }) : ∀ (n : Nat) (M : ZM) (x0 : Int) (x1 : Int) (x2 : Int) (x3 : Int) (x4 : Int) (x5 : Int) (x6 : Int), pX12_change_53 S n M x0 x1 x2 x3 x4 x5 x6 = some q → zG C E 9 S 0 0 (zQ C E 0 0 (some (0, q.1)) S q.2) 53 [some (2, x0), some (0, x1), some (0, x2), some (0, x3), some (0, x4), some (0, x5), some (0, x6), none, none] [] M := by
  intro n
  induction n with
  | zero => intro M x0 x1 x2 x3 x4 x5 x6 h; cases h
  | succ n ih =>
    intro M x0 x1 x2 x3 x4 x5 x6 h
    unfold pX12_change_53 at h
    obtain ⟨g15, h⟩ := zif h
    obtain ⟨g16, h⟩ := zif h
    refine zG.blk (pc' := 61) (l' := [some (2, x0), some (0, x1), some (0, x2), some (0, x3), some (0, x4), some (0, x5), some (0, x6), none, none]) (st' := [(0, M (M x0 1) 3), (0, x6)]) (M' := M) hX [(.iload 6, 0, 0, 0), (.aload_n 0, 0, 0, 0), (.getfield 9, 12, 1, 2), (.iconst 3, 0, 0, 0), (.iaload, 0, 0, 0)] (by decide +kernel) rfl (And.intro g15 (And.intro g16 trivial)) ?_
    refine zG.icmp_ge (tgt := 125) (off := 64) hX (by decide +kernel) (by decide) (fun c17 => ?_) (fun c17 => ?_)
    · have h := zip c17 h
      refine zG.blk (pc' := 126) (l' := [some (2, x0), some (0, x1), some (0, x2), some (0, x3), some (0, x4), some (0, x5), some (0, x6), none, none]) (st' := [(0, x2)]) (M' := M) hX [(.iload_n 2, 0, 0, 0)] (by decide +kernel) rfl trivial ?_
      have key18 : zG C E 9 S 0 0 (zQ C E 0 0 (some (0, q.1)) S q.2) 145 [some (2, x0), some (0, x1), some (0, x2), some (0, x3), some (0, x4), some (0, x5), some (0, x6), none, none] [(0, (if x2 = 0 then (x3 : Int) else (if x2 = 1 then (x4 : Int) else x5)))] M := by
        cases h
        exact zG.iret hX (by decide +kernel)
      refine zG.if_ne (tgt := 133) (off := 7) hX (by decide +kernel) (by decide) (fun c19 => ?_) (fun c19 => ?_)
      · refine zG.blk (pc' := 135) (l' := [some (2, x0), some (0, x1), some (0, x2), some (0, x3), some (0, x4), some (0, x5), some (0, x6), none, none]) (st' := [(0, 1), (0, x2)]) (M' := M) hX [(.iload_n 2, 0, 0, 0), (.iconst 1, 0, 0, 0)] (by decide +kernel) rfl trivial ?_
        refine zG.icmp_ne (tgt := 143) (off := 8) hX (by decide +kernel) (by decide) (fun c20 => ?_) (fun c20 => ?_)
        · refine zG.blk (pc' := 145) (l' := [some (2, x0), some (0, x1), some (0, x2), some (0, x3), some (0, x4), some (0, x5), some (0, x6), none, none]) (st' := [(0, x5)]) (M' := M) hX [(.iload 5, 0, 0, 0)] (by decide +kernel) rfl trivial ?_
          (have k := key18; simp only [if_neg c19, if_neg c20] at k; exact k)
        · refine zG.blk (pc' := 140) (l' := [some (2, x0), some (0, x1), some (0, x2), some (0, x3), some (0, x4), some (0, x5), some (0, x6), none, none]) (st' := [(0, x4)]) (M' := M) hX [(.iload 4, 0, 0, 0)] (by decide +kernel) rfl trivial ?_
          refine zG.goto (tgt := 145) (off := 5) hX (by decide +kernel) (by decide) ?_
          (have k := key18; simp only [if_neg c19, if_pos c20] at k; exact k)
      · refine zG.blk (pc' := 130) (l' := [some (2, x0), some (0, x1), some (0, x2), some (0, x3), some (0, x4), some (0, x5), some (0, x6), none, none]) (st' := [(0, x3)]) (M' := M) hX [(.iload_n 3, 0, 0, 0)] (by decide +kernel) rfl trivial ?_
        refine zG.goto (tgt := 145) (off := 15) hX (by decide +kernel) (by decide) ?_
        (have k := key18; simp only [if_pos c19] at k; exact k)
    · have h := zin c17 h
      refine zG.blk (pc' := 70) (l' := [some (2, x0), some (0, x1), some (0, x2), some (0, x3), some (0, x4), some (0, x5), some (0, x6), some (0, w32 (x6 + 1)), none]) (st' := []) (M' := M) hX [(.iload 6, 0, 0, 0), (.iconst 1, 0, 0, 0), (.iadd, 0, 0, 0), (.istore 7, 0, 0, 0)] (by decide +kernel) rfl trivial ?_
      exact (pX12_change_70_ok hX hRm ih zFU _ _ _ _ _ _ _ _ _ h)
noncomputable def pX12_change (S : ZS) (M : ZM) (a0 : Int) (a1 : Int) (a2 : Int) : Option (Int × ZM) := if S.1 a0 = 12 then (pX12_isSky S M a0).bind fun q1 => if q1.1 = 0 then (pX12_change_31 S q1.2) else ((pX12_in S q1.2 a1 1 60).bind fun q5 => if q5.1 = 0 then (pX12_change_31 S q5.2) else ((pX12_in S q5.2 a2 0 2).bind fun q8 => if q8.1 = 0 then (pX12_change_31 S q8.2) else ((pX12_keepsAll S q8.2 a0).bind fun q11 => (pX12_likeIn S q11 a0 a1).bind fun q13 => pX12_change_53 S zFU q13.2 a0 a1 a2 q13.1 (-1) (-1) 0))) else none
set_option maxHeartbeats 2000000 in
set_option maxRecDepth 20000 in
theorem pX12_change_go {C : ZC} {E : ZE} {S : ZS} {M : ZM} {a0 a1 a2 : Int} {q : (Int × ZM)} (hX : zCx C E 12 cX12_change 9 (some .int) false) (hRm : czR C = { frames := 9, cells := 0, slots := 0, locals := 220 }) (h : pX12_change  S M a0 a1 a2 = some q) : zG C E 9 S 0 0 (zQ C E 0 0 (some (0, q.1)) S q.2) 0 [some (2, a0), some (0, a1), some (0, a2), none, none, none, none, none, none] [] M := by
  unfold pX12_change at h
  refine zG.blk (pc' := 1) (l' := [some (2, a0), some (0, a1), some (0, a2), none, none, none, none, none, none]) (st' := [(2, a0)]) (M' := M) hX [(.aload_n 0, 0, 0, 0)] (by decide +kernel) rfl trivial ?_
  obtain ⟨g3, h⟩ := zif h
  obtain ⟨q1, e2, h⟩ := zbd h
  refine zG.callV (b := a0) (av := []) (st := []) (ci := 12) hX (pX12_isSky_ok e2) sv_12_402 rfl ⟨by decide, rfl⟩ g3 (by decide +kernel) (by rw [hRm]; exact ⟨Nat.le_of_ble_eq_true rfl, Nat.le_of_ble_eq_true rfl⟩) (by rw [hRm]; exact ⟨Nat.le_of_ble_eq_true rfl, Nat.le_of_ble_eq_true rfl⟩) (Nat.le_of_ble_eq_true rfl) ?_
  show zG C E 9 S 0 0 _ 4 [some (2, a0), some (0, a1), some (0, a2), none, none, none, none, none, none] [(0, q1.1)] q1.2
  refine zG.if_eq (tgt := 31) (off := 27) hX (by decide +kernel) (by decide) (fun c4 => ?_) (fun c4 => ?_)
  · have h := zip c4 h
    exact zG.wk [false, false, false, true, true, true, true, true, true] (pX12_change_31_ok hX hRm h)
  · have h := zin c4 h
    refine zG.blk (pc' := 13) (l' := [some (2, a0), some (0, a1), some (0, a2), none, none, none, none, none, none]) (st' := [(1, 60), (1, 1), (1, a1)]) (M' := q1.2) hX [(.iload_n 1, 0, 0, 0), (.i2l, 0, 0, 0), (.lconst 1, 1, 0, 0), (.ldc2_w 440, 60, 0, 0)] (by decide +kernel) rfl trivial ?_
    obtain ⟨q5, e6, h⟩ := zbd h
    refine zG.callS (av := [(1, a1), (1, 1), (1, 60)]) (st := []) hX (pX12_in_ok e6) ss_12_138 rfl (by decide +kernel) (by rw [hRm]; exact ⟨Nat.le_of_ble_eq_true rfl, Nat.le_of_ble_eq_true rfl⟩) (by rw [hRm]; exact ⟨Nat.le_of_ble_eq_true rfl, Nat.le_of_ble_eq_true rfl⟩) (Nat.le_of_ble_eq_true rfl) ?_
    show zG C E 9 S 0 0 _ 16 [some (2, a0), some (0, a1), some (0, a2), none, none, none, none, none, none] [(0, q5.1)] q5.2
    refine zG.if_eq (tgt := 31) (off := 15) hX (by decide +kernel) (by decide) (fun c7 => ?_) (fun c7 => ?_)
    · have h := zip c7 h
      exact zG.wk [false, false, false, true, true, true, true, true, true] (pX12_change_31_ok hX hRm h)
    · have h := zin c7 h
      refine zG.blk (pc' := 25) (l' := [some (2, a0), some (0, a1), some (0, a2), none, none, none, none, none, none]) (st' := [(1, 2), (1, 0), (1, a2)]) (M' := q5.2) hX [(.iload_n 2, 0, 0, 0), (.i2l, 0, 0, 0), (.lconst 0, 0, 0, 0), (.ldc2_w 348, 2, 0, 0)] (by decide +kernel) rfl trivial ?_
      obtain ⟨q8, e9, h⟩ := zbd h
      refine zG.callS (av := [(1, a2), (1, 0), (1, 2)]) (st := []) hX (pX12_in_ok e9) ss_12_138 rfl (by decide +kernel) (by rw [hRm]; exact ⟨Nat.le_of_ble_eq_true rfl, Nat.le_of_ble_eq_true rfl⟩) (by rw [hRm]; exact ⟨Nat.le_of_ble_eq_true rfl, Nat.le_of_ble_eq_true rfl⟩) (Nat.le_of_ble_eq_true rfl) ?_
      show zG C E 9 S 0 0 _ 28 [some (2, a0), some (0, a1), some (0, a2), none, none, none, none, none, none] [(0, q8.1)] q8.2
      refine zG.if_ne (tgt := 34) (off := 6) hX (by decide +kernel) (by decide) (fun c10 => ?_) (fun c10 => ?_)
      · have h := zin c10 h
        refine zG.blk (pc' := 35) (l' := [some (2, a0), some (0, a1), some (0, a2), none, none, none, none, none, none]) (st' := [(2, a0)]) (M' := q8.2) hX [(.aload_n 0, 0, 0, 0)] (by decide +kernel) rfl trivial ?_
        obtain ⟨q11, e12, h⟩ := zbd h
        refine zG.callV (b := a0) (av := []) (st := []) (ci := 12) hX (pX12_keepsAll_ok e12) sv_12_426 rfl ⟨by decide, rfl⟩ g3 (by decide +kernel) (by rw [hRm]; exact ⟨Nat.le_of_ble_eq_true rfl, Nat.le_of_ble_eq_true rfl⟩) (by rw [hRm]; exact ⟨Nat.le_of_ble_eq_true rfl, Nat.le_of_ble_eq_true rfl⟩) (Nat.le_of_ble_eq_true rfl) ?_
        show zG C E 9 S 0 0 _ 38 [some (2, a0), some (0, a1), some (0, a2), none, none, none, none, none, none] [] q11
        refine zG.blk (pc' := 40) (l' := [some (2, a0), some (0, a1), some (0, a2), none, none, none, none, none, none]) (st' := [(0, a1), (2, a0)]) (M' := q11) hX [(.aload_n 0, 0, 0, 0), (.iload_n 1, 0, 0, 0)] (by decide +kernel) rfl trivial ?_
        obtain ⟨q13, e14, h⟩ := zbd h
        refine zG.callV (b := a0) (av := [(0, a1)]) (st := []) (ci := 12) hX (pX12_likeIn_ok e14) sv_12_442 rfl ⟨by decide, rfl⟩ g3 (by decide +kernel) (by rw [hRm]; exact ⟨Nat.le_of_ble_eq_true rfl, Nat.le_of_ble_eq_true rfl⟩) (by rw [hRm]; exact ⟨Nat.le_of_ble_eq_true rfl, Nat.le_of_ble_eq_true rfl⟩) (Nat.le_of_ble_eq_true rfl) ?_
        show zG C E 9 S 0 0 _ 43 [some (2, a0), some (0, a1), some (0, a2), none, none, none, none, none, none] [(0, q13.1)] q13.2
        refine zG.blk (pc' := 53) (l' := [some (2, a0), some (0, a1), some (0, a2), some (0, q13.1), some (0, (-1)), some (0, (-1)), some (0, 0), none, none]) (st' := []) (M' := q13.2) hX [(.istore_n 3, 0, 0, 0), (.iconst (-1), 0, 0, 0), (.istore 4, 0, 0, 0), (.iconst (-1), 0, 0, 0), (.istore 5, 0, 0, 0), (.iconst 0, 0, 0, 0), (.istore 6, 0, 0, 0)] (by decide +kernel) rfl trivial ?_
        exact (pX12_change_53_ok hX hRm zFU _ _ _ _ _ _ _ _ h)
      · have h := zip c10 h
        exact zG.wk [false, false, false, true, true, true, true, true, true] (pX12_change_31_ok hX hRm h)
theorem pX12_change_ok {l : Launch} {E : ZE} {S : ZS} {M : ZM} {a0 a1 a2 : Int} {q : (Int × ZM)} (h : pX12_change S M a0 a1 a2 = some q) : zMet l yX12_change cX12_change 9 (some .int) 9 220 0 0 E S M [(2, a0), (0, a1), (0, a2)] (some (0, q.1)) S q.2 :=
  zMet.of (o := 12) (ini := false) (by decide +kernel) rfl (fun h => by cases h) (Nat.le_of_ble_eq_true rfl) (fun C hX hl hRm => by subst hl; exact pX12_change_go hX hRm h)
noncomputable def pX12_isSigned_55 (S : ZS) (k2 : ZM → Int → Int → Int → Option (Int × ZM)) (M : ZM) (x0 : Int) (x1 : Int) (x2 : Int) : Option (Int × ZM) := k2 M x0 x1 (w32 (x2 + 1))
set_option maxHeartbeats 2000000 in
set_option maxRecDepth 20000 in
theorem pX12_isSigned_55_ok {C : ZC} {E : ZE} {S : ZS} {k2 : ZM → Int → Int → Int → Option (Int × ZM)} {q : (Int × ZM)} (hX : zCx C E 12 cX12_isSigned 3 (some .boolean) false) (hRm : czR C = { frames := 2, cells := 0, slots := 0, locals := 60 }) (hk2 : ∀ M x0 x1 x2, k2 M x0 x1 x2 = some q → zG C E 3 S 0 0 (zQ C E 0 0 (some (0, q.1)) S q.2) 2 [some (2, x0), some (0, x1), some (0, x2)] [] M) {M : ZM} {x0 : Int} {x1 : Int} {x2 : Int} (h : pX12_isSigned_55 S k2 M x0 x1 x2 = some q) : zG C E 3 S 0 0 (zQ C E 0 0 (some (0, q.1)) S q.2) 55 [some (2, x0), some (0, x1), some (0, x2)] [] M := by
  unfold pX12_isSigned_55 at h
  refine zG.blk (pc' := 58) (l' := [some (2, x0), some (0, x1), some (0, w32 (x2 + 1))]) (st' := []) (M' := M) hX [(.iinc 2 1, 0, 0, 0)] (by decide +kernel) rfl trivial ?_
  refine zG.goto (tgt := 2) (off := (-56)) hX (by decide +kernel) (by decide) ?_
  exact (hk2 _ _ _ _ h)
noncomputable def pX12_isSigned_53 (S : ZS) (M : ZM) : Option (Int × ZM) := some (0, M)
set_option maxHeartbeats 2000000 in
set_option maxRecDepth 20000 in
theorem pX12_isSigned_53_ok {C : ZC} {E : ZE} {S : ZS} {q : (Int × ZM)} (hX : zCx C E 12 cX12_isSigned 3 (some .boolean) false) (hRm : czR C = { frames := 2, cells := 0, slots := 0, locals := 60 }) {M : ZM} (h : pX12_isSigned_53 S M = some q) : zG C E 3 S 0 0 (zQ C E 0 0 (some (0, q.1)) S q.2) 53 [none, none, none] [] M := by
  unfold pX12_isSigned_53 at h
  refine zG.blk (pc' := 54) (l' := [none, none, none]) (st' := [(0, 0)]) (M' := M) hX [(.iconst 0, 0, 0, 0)] (by decide +kernel) rfl trivial ?_
  cases h
  exact zG.zret hX (by decide +kernel) (Or.inl rfl)
noncomputable def pX12_isSigned_30 (S : ZS) (k2 : ZM → Int → Int → Int → Option (Int × ZM)) (M : ZM) (x0 : Int) (x1 : Int) (x2 : Int) : Option (Int × ZM) := if x1 = 0 then (pX12_isSigned_55 S k2 M x0 x1 x2) else (if S.1 x0 = 12 then if S.1 (M x0 8) = 100 ∧ (0 : Int) ≤ x2 ∧ x2 < S.2.1 (M x0 8) then if M (M x0 8) x2 = 0 then (if S.1 (M x0 4) = 100 ∧ (0 : Int) ≤ x2 ∧ x2 < S.2.1 (M x0 4) then if M (M x0 4) x2 = (-1) then (pX12_isSigned_55 S k2 M x0 x1 x2) else (pX12_isSigned_53 S M) else none) else (pX12_isSigned_55 S k2 M x0 x1 x2) else none else none)
set_option maxHeartbeats 2000000 in
set_option maxRecDepth 20000 in
theorem pX12_isSigned_30_ok {C : ZC} {E : ZE} {S : ZS} {k2 : ZM → Int → Int → Int → Option (Int × ZM)} {q : (Int × ZM)} (hX : zCx C E 12 cX12_isSigned 3 (some .boolean) false) (hRm : czR C = { frames := 2, cells := 0, slots := 0, locals := 60 }) (hk2 : ∀ M x0 x1 x2, k2 M x0 x1 x2 = some q → zG C E 3 S 0 0 (zQ C E 0 0 (some (0, q.1)) S q.2) 2 [some (2, x0), some (0, x1), some (0, x2)] [] M) {M : ZM} {x0 : Int} {x1 : Int} {x2 : Int} (h : pX12_isSigned_30 S k2 M x0 x1 x2 = some q) : zG C E 3 S 0 0 (zQ C E 0 0 (some (0, q.1)) S q.2) 30 [some (2, x0), some (0, x1), some (0, x2)] [] M := by
  unfold pX12_isSigned_30 at h
  refine zG.blk (pc' := 31) (l' := [some (2, x0), some (0, x1), some (0, x2)]) (st' := [(0, x1)]) (M' := M) hX [(.iload_n 1, 0, 0, 0)] (by decide +kernel) rfl trivial ?_
  refine zG.if_eq (tgt := 55) (off := 24) hX (by decide +kernel) (by decide) (fun c7 => ?_) (fun c7 => ?_)
  · have h := zip c7 h
    exact (pX12_isSigned_55_ok hX hRm hk2 h)
  · have h := zin c7 h
    obtain ⟨g8, h⟩ := zif h
    obtain ⟨g9, h⟩ := zif h
    refine zG.blk (pc' := 40) (l' := [some (2, x0), some (0, x1), some (0, x2)]) (st' := [(0, M (M x0 8) x2)]) (M' := M) hX [(.aload_n 0, 0, 0, 0), (.getfield 31, 12, 8, 2), (.iload_n 2, 0, 0, 0), (.iaload, 0, 0, 0)] (by decide +kernel) rfl (And.intro g8 (And.intro g9 trivial)) ?_
    refine zG.if_ne (tgt := 55) (off := 15) hX (by decide +kernel) (by decide) (fun c10 => ?_) (fun c10 => ?_)
    · have h := zin c10 h
      exact (pX12_isSigned_55_ok hX hRm hk2 h)
    · have h := zip c10 h
      obtain ⟨g11, h⟩ := zif h
      refine zG.blk (pc' := 50) (l' := [some (2, x0), some (0, x1), some (0, x2)]) (st' := [(0, (-1)), (0, M (M x0 4) x2)]) (M' := M) hX [(.aload_n 0, 0, 0, 0), (.getfield 19, 12, 4, 2), (.iload_n 2, 0, 0, 0), (.iaload, 0, 0, 0), (.iconst (-1), 0, 0, 0)] (by decide +kernel) rfl (And.intro g8 (And.intro g11 trivial)) ?_
      refine zG.icmp_eq (tgt := 55) (off := 5) hX (by decide +kernel) (by decide) (fun c12 => ?_) (fun c12 => ?_)
      · have h := zip c12 h
        exact (pX12_isSigned_55_ok hX hRm hk2 h)
      · have h := zin c12 h
        exact zG.wk [false, false, false] (pX12_isSigned_53_ok hX hRm h)
noncomputable def pX12_isSigned_2 (S : ZS) : Nat → ZM → Int → Int → Int → Option (Int × ZM)
  | 0 => fun _ _ _ _ => none
  | n + 1 => fun M x0 x1 x2 => if S.1 x0 = 12 then (pX12_cells S M x0).bind fun q1 => if q1.1 ≤ x2 then (some (1, q1.2)) else (if S.1 (q1.2 x0 8) = 100 ∧ (0 : Int) ≤ x2 ∧ x2 < S.2.1 (q1.2 x0 8) then if q1.2 (q1.2 x0 8) x2 = 1 then (if S.1 (q1.2 x0 4) = 100 ∧ (0 : Int) ≤ x2 ∧ x2 < S.2.1 (q1.2 x0 4) then if q1.2 (q1.2 x0 4) x2 = (-1) then (pX12_isSigned_53 S q1.2) else (pX12_isSigned_30 S (pX12_isSigned_2 S n) q1.2 x0 x1 x2) else none) else (pX12_isSigned_30 S (pX12_isSigned_2 S n) q1.2 x0 x1 x2) else none) else none
set_option maxHeartbeats 2000000 in
set_option maxRecDepth 20000 in
theorem pX12_isSigned_2_ok {C : ZC} {E : ZE} {S : ZS} {q : (Int × ZM)} (hX : zCx C E 12 cX12_isSigned 3 (some .boolean) false) (hRm : czR C = { frames := 2, cells := 0, slots := 0, locals := 60 }) : ∀ (n : Nat) (M : ZM) (x0 : Int) (x1 : Int) (x2 : Int), pX12_isSigned_2 S n M x0 x1 x2 = some q → zG C E 3 S 0 0 (zQ C E 0 0 (some (0, q.1)) S q.2) 2 [some (2, x0), some (0, x1), some (0, x2)] [] M := by
  intro n
  induction n with
  | zero => intro M x0 x1 x2 h; cases h
  | succ n ih =>
    intro M x0 x1 x2 h
    unfold pX12_isSigned_2 at h
    refine zG.blk (pc' := 4) (l' := [some (2, x0), some (0, x1), some (0, x2)]) (st' := [(2, x0), (0, x2)]) (M' := M) hX [(.iload_n 2, 0, 0, 0), (.aload_n 0, 0, 0, 0)] (by decide +kernel) rfl trivial ?_
    obtain ⟨g3, h⟩ := zif h
    obtain ⟨q1, e2, h⟩ := zbd h
    refine zG.callV (b := x0) (av := []) (st := [(0, x2)]) (ci := 12) hX (pX12_cells_ok e2) sv_12_134 rfl ⟨by decide, rfl⟩ g3 (by decide +kernel) (by rw [hRm]; exact ⟨Nat.le_of_ble_eq_true rfl, Nat.le_of_ble_eq_true rfl⟩) (by rw [hRm]; exact ⟨Nat.le_of_ble_eq_true rfl, Nat.le_of_ble_eq_true rfl⟩) (Nat.le_of_ble_eq_true rfl) ?_
    show zG C E 3 S 0 0 _ 7 [some (2, x0), some (0, x1), some (0, x2)] [(0, q1.1), (0, x2)] q1.2
    refine zG.icmp_ge (tgt := 61) (off := 54) hX (by decide +kernel) (by decide) (fun c4 => ?_) (fun c4 => ?_)
    · have h := zip c4 h
      refine zG.blk (pc' := 62) (l' := [some (2, x0), some (0, x1), some (0, x2)]) (st' := [(0, 1)]) (M' := q1.2) hX [(.iconst 1, 0, 0, 0)] (by decide +kernel) rfl trivial ?_
      cases h
      exact zG.zret hX (by decide +kernel) (Or.inr rfl)
    · have h := zin c4 h
      obtain ⟨g5, h⟩ := zif h
      refine zG.blk (pc' := 17) (l' := [some (2, x0), some (0, x1), some (0, x2)]) (st' := [(0, 1), (0, q1.2 (q1.2 x0 8) x2)]) (M' := q1.2) hX [(.aload_n 0, 0, 0, 0), (.getfield 31, 12, 8, 2), (.iload_n 2, 0, 0, 0), (.iaload, 0, 0, 0), (.iconst 1, 0, 0, 0)] (by decide +kernel) rfl (And.intro g3 (And.intro g5 trivial)) ?_
      refine zG.icmp_ne (tgt := 30) (off := 13) hX (by decide +kernel) (by decide) (fun c6 => ?_) (fun c6 => ?_)
      · have h := zin c6 h
        exact (pX12_isSigned_30_ok hX hRm ih h)
      · have h := zip c6 h
        obtain ⟨g13, h⟩ := zif h
        refine zG.blk (pc' := 27) (l' := [some (2, x0), some (0, x1), some (0, x2)]) (st' := [(0, (-1)), (0, q1.2 (q1.2 x0 4) x2)]) (M' := q1.2) hX [(.aload_n 0, 0, 0, 0), (.getfield 19, 12, 4, 2), (.iload_n 2, 0, 0, 0), (.iaload, 0, 0, 0), (.iconst (-1), 0, 0, 0)] (by decide +kernel) rfl (And.intro g3 (And.intro g13 trivial)) ?_
        refine zG.icmp_eq (tgt := 53) (off := 26) hX (by decide +kernel) (by decide) (fun c14 => ?_) (fun c14 => ?_)
        · have h := zip c14 h
          exact zG.wk [false, false, false] (pX12_isSigned_53_ok hX hRm h)
        · have h := zin c14 h
          exact (pX12_isSigned_30_ok hX hRm ih h)
noncomputable def pX12_isSigned (S : ZS) (M : ZM) (a0 : Int) (a1 : Int) : Option (Int × ZM) := pX12_isSigned_2 S zFU M a0 a1 0
set_option maxHeartbeats 2000000 in
set_option maxRecDepth 20000 in
theorem pX12_isSigned_go {C : ZC} {E : ZE} {S : ZS} {M : ZM} {a0 a1 : Int} {q : (Int × ZM)} (hX : zCx C E 12 cX12_isSigned 3 (some .boolean) false) (hRm : czR C = { frames := 2, cells := 0, slots := 0, locals := 60 }) (h : pX12_isSigned  S M a0 a1 = some q) : zG C E 3 S 0 0 (zQ C E 0 0 (some (0, q.1)) S q.2) 0 [some (2, a0), some (0, a1), none] [] M := by
  unfold pX12_isSigned at h
  refine zG.blk (pc' := 2) (l' := [some (2, a0), some (0, a1), some (0, 0)]) (st' := []) (M' := M) hX [(.iconst 0, 0, 0, 0), (.istore_n 2, 0, 0, 0)] (by decide +kernel) rfl trivial ?_
  exact (pX12_isSigned_2_ok hX hRm zFU _ _ _ _ h)
theorem pX12_isSigned_ok {l : Launch} {E : ZE} {S : ZS} {M : ZM} {a0 a1 : Int} {q : (Int × ZM)} (h : pX12_isSigned S M a0 a1 = some q) : zMet l yX12_isSigned cX12_isSigned 3 (some .boolean) 2 60 0 0 E S M [(2, a0), (0, a1)] (some (0, q.1)) S q.2 :=
  zMet.of (o := 12) (ini := false) (by decide +kernel) rfl (fun h => by cases h) (Nat.le_of_ble_eq_true rfl) (fun C hX hl hRm => by subst hl; exact pX12_isSigned_go hX hRm h)
noncomputable def pX12_signedAt_61 (S : ZS) (M : ZM) (x0 : Int) (x2 : Int) : Option (Int × ZM) := if S.1 x0 = 12 then (pX12_laysBack S M x0).bind fun q8 => some (x2, q8) else none
set_option maxHeartbeats 2000000 in
set_option maxRecDepth 20000 in
theorem pX12_signedAt_61_ok {C : ZC} {E : ZE} {S : ZS} {q : (Int × ZM)} (hX : zCx C E 12 cX12_signedAt 4 (some .int) false) (hRm : czR C = { frames := 7, cells := 0, slots := 0, locals := 176 }) {M : ZM} {x0 : Int} {x2 : Int} (h : pX12_signedAt_61 S M x0 x2 = some q) : zG C E 4 S 0 0 (zQ C E 0 0 (some (0, q.1)) S q.2) 61 [some (2, x0), none, some (0, x2), none] [] M := by
  unfold pX12_signedAt_61 at h
  refine zG.blk (pc' := 62) (l' := [some (2, x0), none, some (0, x2), none]) (st' := [(2, x0)]) (M' := M) hX [(.aload_n 0, 0, 0, 0)] (by decide +kernel) rfl trivial ?_
  obtain ⟨g10, h⟩ := zif h
  obtain ⟨q8, e9, h⟩ := zbd h
  refine zG.callV (b := x0) (av := []) (st := []) (ci := 12) hX (pX12_laysBack_ok e9) sv_12_419 rfl ⟨by decide, rfl⟩ g10 (by decide +kernel) (by rw [hRm]; exact ⟨Nat.le_of_ble_eq_true rfl, Nat.le_of_ble_eq_true rfl⟩) (by rw [hRm]; exact ⟨Nat.le_of_ble_eq_true rfl, Nat.le_of_ble_eq_true rfl⟩) (Nat.le_of_ble_eq_true rfl) ?_
  show zG C E 4 S 0 0 _ 65 [some (2, x0), none, some (0, x2), none] [] q8
  refine zG.blk (pc' := 66) (l' := [some (2, x0), none, some (0, x2), none]) (st' := [(0, x2)]) (M' := q8) hX [(.iload_n 2, 0, 0, 0)] (by decide +kernel) rfl trivial ?_
  cases h
  exact zG.iret hX (by decide +kernel)
theorem sv_12_432 : zSV 12 432 yX12_isSigned cX12_isSigned 3 (some .boolean) 1 := ⟨⟨gt_at 1625 (by decide +kernel) rfl, gt_at 1627 (by decide +kernel) rfl, gt_at 92 (by decide +kernel) rfl, gt_at 117 (by decide +kernel) rfl, gt_at 1628 (by decide +kernel) rfl⟩, by decide +kernel, by decide +kernel, by decide +kernel⟩
noncomputable def pX12_signedAt_49 (S : ZS) (k18 : ZM → Int → Int → Int → Int → Option (Int × ZM)) (M : ZM) (x0 : Int) (x1 : Int) (x3 : Int) (y0 : Int) : Option (Int × ZM) := if S.1 x0 = 12 then (pX12_goes S M x0).bind fun q16 => k18 q16.2 x0 x1 y0 (w32 (x3 + 1)) else none
set_option maxHeartbeats 2000000 in
set_option maxRecDepth 20000 in
theorem pX12_signedAt_49_ok {C : ZC} {E : ZE} {S : ZS} {k18 : ZM → Int → Int → Int → Int → Option (Int × ZM)} {q : (Int × ZM)} (hX : zCx C E 12 cX12_signedAt 4 (some .int) false) (hRm : czR C = { frames := 7, cells := 0, slots := 0, locals := 176 }) (hk18 : ∀ M x0 x1 x2 x3, k18 M x0 x1 x2 x3 = some q → zG C E 4 S 0 0 (zQ C E 0 0 (some (0, q.1)) S q.2) 18 [some (2, x0), some (0, x1), some (0, x2), some (0, x3)] [] M) {M : ZM} {x0 : Int} {x1 : Int} {x3 : Int} {y0 : Int} (h : pX12_signedAt_49 S k18 M x0 x1 x3 y0 = some q) : zG C E 4 S 0 0 (zQ C E 0 0 (some (0, q.1)) S q.2) 49 [some (2, x0), some (0, x1), none, some (0, x3)] [(0, y0)] M := by
  unfold pX12_signedAt_49 at h
  refine zG.blk (pc' := 51) (l' := [some (2, x0), some (0, x1), some (0, y0), some (0, x3)]) (st' := [(2, x0)]) (M' := M) hX [(.istore_n 2, 0, 0, 0), (.aload_n 0, 0, 0, 0)] (by decide +kernel) rfl trivial ?_
  obtain ⟨g18, h⟩ := zif h
  obtain ⟨q16, e17, h⟩ := zbd h
  refine zG.callV (b := x0) (av := []) (st := []) (ci := 12) hX (pX12_goes_ok e17) sv_12_381 rfl ⟨by decide, rfl⟩ g18 (by decide +kernel) (by rw [hRm]; exact ⟨Nat.le_of_ble_eq_true rfl, Nat.le_of_ble_eq_true rfl⟩) (by rw [hRm]; exact ⟨Nat.le_of_ble_eq_true rfl, Nat.le_of_ble_eq_true rfl⟩) (Nat.le_of_ble_eq_true rfl) ?_
  show zG C E 4 S 0 0 _ 54 [some (2, x0), some (0, x1), some (0, y0), some (0, x3)] [(0, q16.1)] q16.2
  refine zG.blk (pc' := 58) (l' := [some (2, x0), some (0, x1), some (0, y0), some (0, w32 (x3 + 1))]) (st' := []) (M' := q16.2) hX [(.pop, 0, 0, 0), (.iinc 3 1, 0, 0, 0)] (by decide +kernel) rfl trivial ?_
  refine zG.goto (tgt := 18) (off := (-40)) hX (by decide +kernel) (by decide) ?_
  exact (hk18 _ _ _ _ _ h)
noncomputable def pX12_signedAt_18 (S : ZS) : Nat → ZM → Int → Int → Int → Int → Option (Int × ZM)
  | 0 => fun _ _ _ _ _ => none
  | n + 1 => fun M x0 x1 x2 x3 => if 100 ≤ x3 then (pX12_signedAt_61 S M x0 x2) else (if x2 = (-2) then (if S.1 x0 = 12 then (pX12_isSigned S M x0 x1).bind fun q12 => if q12.1 = 0 then (pX12_signedAt_49 S (pX12_signedAt_18 S n) q12.2 x0 x1 x3 (-2)) else (if S.1 (q12.2 x0 1) = 100 ∧ (0 : Int) ≤ 4 ∧ 4 < S.2.1 (q12.2 x0 1) then pX12_signedAt_49 S (pX12_signedAt_18 S n) q12.2 x0 x1 x3 (q12.2 (q12.2 x0 1) 4) else none) else none) else (pX12_signedAt_61 S M x0 x2))
set_option maxHeartbeats 2000000 in
set_option maxRecDepth 20000 in
theorem pX12_signedAt_18_ok {C : ZC} {E : ZE} {S : ZS} {q : (Int × ZM)} (hX : zCx C E 12 cX12_signedAt 4 (some .int) false) (hRm : czR C = { frames := 7, cells := 0, slots := 0, locals := 176 }) : ∀ (n : Nat) (M : ZM) (x0 : Int) (x1 : Int) (x2 : Int) (x3 : Int), pX12_signedAt_18 S n M x0 x1 x2 x3 = some q → zG C E 4 S 0 0 (zQ C E 0 0 (some (0, q.1)) S q.2) 18 [some (2, x0), some (0, x1), some (0, x2), some (0, x3)] [] M := by
  intro n
  induction n with
  | zero => intro M x0 x1 x2 x3 h; cases h
  | succ n ih =>
    intro M x0 x1 x2 x3 h
    unfold pX12_signedAt_18 at h
    refine zG.blk (pc' := 21) (l' := [some (2, x0), some (0, x1), some (0, x2), some (0, x3)]) (st' := [(0, 100), (0, x3)]) (M' := M) hX [(.iload_n 3, 0, 0, 0), (.bipush 100, 0, 0, 0)] (by decide +kernel) rfl trivial ?_
    refine zG.icmp_ge (tgt := 61) (off := 40) hX (by decide +kernel) (by decide) (fun c7 => ?_) (fun c7 => ?_)
    · have h := zip c7 h
      exact zG.wk [true, false, true, false] (pX12_signedAt_61_ok hX hRm h)
    · have h := zin c7 h
      refine zG.blk (pc' := 27) (l' := [some (2, x0), some (0, x1), some (0, x2), some (0, x3)]) (st' := [(0, (-2)), (0, x2)]) (M' := M) hX [(.iload_n 2, 0, 0, 0), (.bipush (-2), 0, 0, 0)] (by decide +kernel) rfl trivial ?_
      refine zG.icmp_ne (tgt := 61) (off := 34) hX (by decide +kernel) (by decide) (fun c11 => ?_) (fun c11 => ?_)
      · have h := zin c11 h
        exact zG.wk [true, false, true, false] (pX12_signedAt_61_ok hX hRm h)
      · have h := zip c11 h
        refine zG.blk (pc' := 32) (l' := [some (2, x0), some (0, x1), some (0, x2), some (0, x3)]) (st' := [(0, x1), (2, x0)]) (M' := M) hX [(.aload_n 0, 0, 0, 0), (.iload_n 1, 0, 0, 0)] (by decide +kernel) rfl trivial ?_
        obtain ⟨g14, h⟩ := zif h
        obtain ⟨q12, e13, h⟩ := zbd h
        refine zG.callV (b := x0) (av := [(0, x1)]) (st := []) (ci := 12) hX (pX12_isSigned_ok e13) sv_12_432 rfl ⟨by decide, rfl⟩ g14 (by decide +kernel) (by rw [hRm]; exact ⟨Nat.le_of_ble_eq_true rfl, Nat.le_of_ble_eq_true rfl⟩) (by rw [hRm]; exact ⟨Nat.le_of_ble_eq_true rfl, Nat.le_of_ble_eq_true rfl⟩) (Nat.le_of_ble_eq_true rfl) ?_
        show zG C E 4 S 0 0 _ 35 [some (2, x0), some (0, x1), some (0, x2), some (0, x3)] [(0, q12.1)] q12.2
        refine zG.if_eq (tgt := 47) (off := 12) hX (by decide +kernel) (by decide) (fun c15 => ?_) (fun c15 => ?_)
        · have h := zip c15 h
          refine zG.blk (pc' := 49) (l' := [some (2, x0), some (0, x1), some (0, x2), some (0, x3)]) (st' := [(0, (-2))]) (M' := q12.2) hX [(.bipush (-2), 0, 0, 0)] (by decide +kernel) rfl trivial ?_
          exact zG.wk [true, true, false, true] (pX12_signedAt_49_ok hX hRm ih h)
        · have h := zin c15 h
          obtain ⟨g19, h⟩ := zif h
          refine zG.blk (pc' := 44) (l' := [some (2, x0), some (0, x1), some (0, x2), some (0, x3)]) (st' := [(0, q12.2 (q12.2 x0 1) 4)]) (M' := q12.2) hX [(.aload_n 0, 0, 0, 0), (.getfield 9, 12, 1, 2), (.iconst 4, 0, 0, 0), (.iaload, 0, 0, 0)] (by decide +kernel) rfl (And.intro g14 (And.intro g19 trivial)) ?_
          refine zG.goto (tgt := 49) (off := 5) hX (by decide +kernel) (by decide) ?_
          exact zG.wk [true, true, false, true] (pX12_signedAt_49_ok hX hRm ih h)
noncomputable def pX12_signedAt (S : ZS) (M : ZM) (a0 : Int) (a1 : Int) : Option (Int × ZM) := if S.1 a0 = 12 then (pX12_isSky S M a0).bind fun q1 => if q1.1 = 0 then (some ((-1), q1.2)) else ((pX12_keepsAll S q1.2 a0).bind fun q5 => pX12_signedAt_18 S zFU q5 a0 a1 (-2) 0) else none
set_option maxHeartbeats 2000000 in
set_option maxRecDepth 20000 in
theorem pX12_signedAt_go {C : ZC} {E : ZE} {S : ZS} {M : ZM} {a0 a1 : Int} {q : (Int × ZM)} (hX : zCx C E 12 cX12_signedAt 4 (some .int) false) (hRm : czR C = { frames := 7, cells := 0, slots := 0, locals := 176 }) (h : pX12_signedAt  S M a0 a1 = some q) : zG C E 4 S 0 0 (zQ C E 0 0 (some (0, q.1)) S q.2) 0 [some (2, a0), some (0, a1), none, none] [] M := by
  unfold pX12_signedAt at h
  refine zG.blk (pc' := 1) (l' := [some (2, a0), some (0, a1), none, none]) (st' := [(2, a0)]) (M' := M) hX [(.aload_n 0, 0, 0, 0)] (by decide +kernel) rfl trivial ?_
  obtain ⟨g3, h⟩ := zif h
  obtain ⟨q1, e2, h⟩ := zbd h
  refine zG.callV (b := a0) (av := []) (st := []) (ci := 12) hX (pX12_isSky_ok e2) sv_12_402 rfl ⟨by decide, rfl⟩ g3 (by decide +kernel) (by rw [hRm]; exact ⟨Nat.le_of_ble_eq_true rfl, Nat.le_of_ble_eq_true rfl⟩) (by rw [hRm]; exact ⟨Nat.le_of_ble_eq_true rfl, Nat.le_of_ble_eq_true rfl⟩) (Nat.le_of_ble_eq_true rfl) ?_
  show zG C E 4 S 0 0 _ 4 [some (2, a0), some (0, a1), none, none] [(0, q1.1)] q1.2
  refine zG.if_ne (tgt := 9) (off := 5) hX (by decide +kernel) (by decide) (fun c4 => ?_) (fun c4 => ?_)
  · have h := zin c4 h
    refine zG.blk (pc' := 10) (l' := [some (2, a0), some (0, a1), none, none]) (st' := [(2, a0)]) (M' := q1.2) hX [(.aload_n 0, 0, 0, 0)] (by decide +kernel) rfl trivial ?_
    obtain ⟨q5, e6, h⟩ := zbd h
    refine zG.callV (b := a0) (av := []) (st := []) (ci := 12) hX (pX12_keepsAll_ok e6) sv_12_426 rfl ⟨by decide, rfl⟩ g3 (by decide +kernel) (by rw [hRm]; exact ⟨Nat.le_of_ble_eq_true rfl, Nat.le_of_ble_eq_true rfl⟩) (by rw [hRm]; exact ⟨Nat.le_of_ble_eq_true rfl, Nat.le_of_ble_eq_true rfl⟩) (Nat.le_of_ble_eq_true rfl) ?_
    show zG C E 4 S 0 0 _ 13 [some (2, a0), some (0, a1), none, none] [] q5
    refine zG.blk (pc' := 18) (l' := [some (2, a0), some (0, a1), some (0, (-2)), some (0, 0)]) (st' := []) (M' := q5) hX [(.bipush (-2), 0, 0, 0), (.istore_n 2, 0, 0, 0), (.iconst 0, 0, 0, 0), (.istore_n 3, 0, 0, 0)] (by decide +kernel) rfl trivial ?_
    exact (pX12_signedAt_18_ok hX hRm zFU _ _ _ _ _ h)
  · have h := zip c4 h
    refine zG.blk (pc' := 8) (l' := [some (2, a0), some (0, a1), none, none]) (st' := [(0, (-1))]) (M' := q1.2) hX [(.iconst (-1), 0, 0, 0)] (by decide +kernel) rfl trivial ?_
    cases h
    exact zG.iret hX (by decide +kernel)
theorem pX12_signedAt_ok {l : Launch} {E : ZE} {S : ZS} {M : ZM} {a0 a1 : Int} {q : (Int × ZM)} (h : pX12_signedAt S M a0 a1 = some q) : zMet l yX12_signedAt cX12_signedAt 4 (some .int) 7 176 0 0 E S M [(2, a0), (0, a1)] (some (0, q.1)) S q.2 :=
  zMet.of (o := 12) (ini := false) (by decide +kernel) rfl (fun h => by cases h) (Nat.le_of_ble_eq_true rfl) (fun C hX hl hRm => by subst hl; exact pX12_signedAt_go hX hRm h)
theorem sv_12_436 : zSV 12 436 yX12_signedAt cX12_signedAt 4 (some .int) 1 := ⟨⟨gt_at 1621 (by decide +kernel) rfl, gt_at 1623 (by decide +kernel) rfl, gt_at 91 (by decide +kernel) rfl, gt_at 117 (by decide +kernel) rfl, gt_at 1624 (by decide +kernel) rfl⟩, by decide +kernel, by decide +kernel, by decide +kernel⟩
noncomputable def pX12_clean (S : ZS) (M : ZM) (a0 : Int) : Option (Int × ZM) := if S.1 a0 = 12 then (pX12_signedAt S M a0 1).bind fun q1 => some (q1.1, q1.2) else none
set_option maxHeartbeats 2000000 in
set_option maxRecDepth 20000 in
theorem pX12_clean_go {C : ZC} {E : ZE} {S : ZS} {M : ZM} {a0 : Int} {q : (Int × ZM)} (hX : zCx C E 12 cX12_clean 1 (some .int) false) (hRm : czR C = { frames := 8, cells := 0, slots := 0, locals := 199 }) (h : pX12_clean  S M a0 = some q) : zG C E 1 S 0 0 (zQ C E 0 0 (some (0, q.1)) S q.2) 0 [some (2, a0)] [] M := by
  unfold pX12_clean at h
  refine zG.blk (pc' := 2) (l' := [some (2, a0)]) (st' := [(0, 1), (2, a0)]) (M' := M) hX [(.aload_n 0, 0, 0, 0), (.iconst 1, 0, 0, 0)] (by decide +kernel) rfl trivial ?_
  obtain ⟨g3, h⟩ := zif h
  obtain ⟨q1, e2, h⟩ := zbd h
  refine zG.callV (b := a0) (av := [(0, 1)]) (st := []) (ci := 12) hX (pX12_signedAt_ok e2) sv_12_436 rfl ⟨by decide, rfl⟩ g3 (by decide +kernel) (by rw [hRm]; exact ⟨Nat.le_of_ble_eq_true rfl, Nat.le_of_ble_eq_true rfl⟩) (by rw [hRm]; exact ⟨Nat.le_of_ble_eq_true rfl, Nat.le_of_ble_eq_true rfl⟩) (Nat.le_of_ble_eq_true rfl) ?_
  show zG C E 1 S 0 0 _ 5 [some (2, a0)] [(0, q1.1)] q1.2
  cases h
  exact zG.iret hX (by decide +kernel)
theorem pX12_clean_ok {l : Launch} {E : ZE} {S : ZS} {M : ZM} {a0 : Int} {q : (Int × ZM)} (h : pX12_clean S M a0 = some q) : zMet l yX12_clean cX12_clean 1 (some .int) 8 199 0 0 E S M [(2, a0)] (some (0, q.1)) S q.2 :=
  zMet.of (o := 12) (ini := false) (by decide +kernel) rfl (fun h => by cases h) (Nat.le_of_ble_eq_true rfl) (fun C hX hl hRm => by subst hl; exact pX12_clean_go hX hRm h)
noncomputable def pX12_isCounted_15 (S : ZS) (M : ZM) (x0 : Int) : Option ZM := if S.1 x0 = 12 then zlet (upM M x0 27 (w32 ((M x0 27) + 1))) fun M4 => some M4 else none
set_option maxHeartbeats 2000000 in
set_option maxRecDepth 20000 in
theorem pX12_isCounted_15_ok {C : ZC} {E : ZE} {S : ZS} {q : ZM} (hX : zCx C E 12 cX12_isCounted 2 none false) (hRm : czR C = { frames := 2, cells := 0, slots := 0, locals := 62 }) {M : ZM} {x0 : Int} (h : pX12_isCounted_15 S M x0 = some q) : zG C E 2 S 0 0 (zQ C E 0 0 none S q) 15 [some (2, x0), none] [] M := by
  unfold pX12_isCounted_15 at h
  obtain ⟨g3, h⟩ := zif h
  refine zG.blk (pc' := 25) (l' := [some (2, x0), none]) (st' := []) (M' := (upM M x0 27 (w32 ((M x0 27) + 1)))) hX [(.aload_n 0, 0, 0, 0), (.dup, 0, 0, 0), (.getfield 206, 12, 27, 0), (.iconst 1, 0, 0, 0), (.iadd, 0, 0, 0), (.putfield 206, 12, 27, 0)] (by decide +kernel) rfl (And.intro g3 (And.intro g3 trivial)) ?_
  generalize upM M x0 27 (w32 ((M x0 27) + 1)) = M4 at h ⊢
  have h := zlt h
  cases h
  exact zG.vret hX (by decide +kernel)
noncomputable def pX12_isCounted (S : ZS) (M : ZM) (a0 : Int) (a1 : Int) : Option ZM := if S.1 a0 = 12 then if M a0 27 = 60 then ((pX12_fails S M a0 3 a1).bind fun q5 => pX12_isCounted_15 S q5 a0) else (pX12_isCounted_15 S M a0) else none
set_option maxHeartbeats 2000000 in
set_option maxRecDepth 20000 in
theorem pX12_isCounted_go {C : ZC} {E : ZE} {S : ZS} {M : ZM} {a0 a1 : Int} {q : ZM} (hX : zCx C E 12 cX12_isCounted 2 none false) (hRm : czR C = { frames := 2, cells := 0, slots := 0, locals := 62 }) (h : pX12_isCounted  S M a0 a1 = some q) : zG C E 2 S 0 0 (zQ C E 0 0 none S q) 0 [some (2, a0), some (0, a1)] [] M := by
  unfold pX12_isCounted at h
  obtain ⟨g1, h⟩ := zif h
  refine zG.blk (pc' := 6) (l' := [some (2, a0), some (0, a1)]) (st' := [(0, 60), (0, M a0 27)]) (M' := M) hX [(.aload_n 0, 0, 0, 0), (.getfield 206, 12, 27, 0), (.bipush 60, 0, 0, 0)] (by decide +kernel) rfl (And.intro g1 trivial) ?_
  refine zG.icmp_ne (tgt := 15) (off := 9) hX (by decide +kernel) (by decide) (fun c2 => ?_) (fun c2 => ?_)
  · have h := zin c2 h
    exact zG.wk [true, false] (pX12_isCounted_15_ok hX hRm h)
  · have h := zip c2 h
    refine zG.blk (pc' := 12) (l' := [some (2, a0), some (0, a1)]) (st' := [(0, a1), (0, 3), (2, a0)]) (M' := M) hX [(.aload_n 0, 0, 0, 0), (.iconst 3, 0, 0, 0), (.iload_n 1, 0, 0, 0)] (by decide +kernel) rfl trivial ?_
    obtain ⟨q5, e6, h⟩ := zbd h
    refine zG.callV (b := a0) (av := [(0, 3), (0, a1)]) (st := []) (ci := 12) hX (pX12_fails_ok e6) sv_12_209 rfl ⟨by decide, rfl⟩ g1 (by decide +kernel) (by rw [hRm]; exact ⟨Nat.le_of_ble_eq_true rfl, Nat.le_of_ble_eq_true rfl⟩) (by rw [hRm]; exact ⟨Nat.le_of_ble_eq_true rfl, Nat.le_of_ble_eq_true rfl⟩) (Nat.le_of_ble_eq_true rfl) ?_
    show zG C E 2 S 0 0 _ 15 [some (2, a0), some (0, a1)] [] q5
    exact zG.wk [true, false] (pX12_isCounted_15_ok hX hRm h)
theorem pX12_isCounted_ok {l : Launch} {E : ZE} {S : ZS} {M : ZM} {a0 a1 : Int} {q : ZM} (h : pX12_isCounted S M a0 a1 = some q) : zMet l yX12_isCounted cX12_isCounted 2 none 2 62 0 0 E S M [(2, a0), (0, a1)] (none) S q :=
  zMet.of (o := 12) (ini := false) (by decide +kernel) rfl (fun h => by cases h) (Nat.le_of_ble_eq_true rfl) (fun C hX hl hRm => by subst hl; exact pX12_isCounted_go hX hRm h)
theorem sv_12_302 : zSV 12 302 yX12_begins cX12_begins 2 none 0 := ⟨⟨gt_at 1377 (by decide +kernel) rfl, gt_at 1379 (by decide +kernel) rfl, gt_at 50 (by decide +kernel) rfl, gt_at 117 (by decide +kernel) rfl, gt_at 1380 (by decide +kernel) rfl⟩, by decide +kernel, by decide +kernel, by decide +kernel⟩
noncomputable def pX12_couldRule_68 (S : ZS) : Nat → ZM → Int → Int → Option (Int × ZM)
  | 0 => fun _ _ _ => none
  | n + 1 => fun M x0 x2 => if S.1 x0 = 12 then if S.1 (M x0 1) = 100 ∧ (0 : Int) ≤ 7 ∧ 7 < S.2.1 (M x0 1) then if M (M x0 1) 7 ≤ x2 then (some (1, M)) else (if S.1 (M x0 9) = 100 ∧ (0 : Int) ≤ x2 ∧ x2 < S.2.1 (M x0 9) then if S.1 (M x0 10) = 100 ∧ (0 : Int) ≤ x2 ∧ x2 < S.2.1 (M x0 10) then if S.1 (M x0 49) = 100 ∧ (0 : Int) ≤ w32 ((w32 (36 * (M (M x0 9) x2))) + (M (M x0 10) x2)) ∧ w32 ((w32 (36 * (M (M x0 9) x2))) + (M (M x0 10) x2)) < S.2.1 (M x0 49) then if S.1 (M x0 11) = 100 ∧ (0 : Int) ≤ x2 ∧ x2 < S.2.1 (M x0 11) then if M (M x0 49) (w32 ((w32 (36 * (M (M x0 9) x2))) + (M (M x0 10) x2))) = M (M x0 11) x2 then (pX12_couldRule_68 S n M x0 (w32 (x2 + 1))) else (some (0, M)) else none else none else none else none) else none else none
set_option maxHeartbeats 2000000 in
set_option maxRecDepth 20000 in
theorem pX12_couldRule_68_ok {C : ZC} {E : ZE} {S : ZS} {q : (Int × ZM)} (hX : zCx C E 12 cX12_couldRule 4 (some .boolean) false) (hRm : czR C = { frames := 7, cells := 0, slots := 0, locals := 176 }) : ∀ (n : Nat) (M : ZM) (x0 : Int) (x2 : Int), pX12_couldRule_68 S n M x0 x2 = some q → zG C E 4 S 0 0 (zQ C E 0 0 (some (0, q.1)) S q.2) 68 [some (2, x0), none, some (0, x2), none] [] M := by
  intro n
  induction n with
  | zero => intro M x0 x2 h; cases h
  | succ n ih =>
    intro M x0 x2 h
    unfold pX12_couldRule_68 at h
    obtain ⟨g10, h⟩ := zif h
    obtain ⟨g11, h⟩ := zif h
    refine zG.blk (pc' := 76) (l' := [some (2, x0), none, some (0, x2), none]) (st' := [(0, M (M x0 1) 7), (0, x2)]) (M' := M) hX [(.iload_n 2, 0, 0, 0), (.aload_n 0, 0, 0, 0), (.getfield 9, 12, 1, 2), (.bipush 7, 0, 0, 0), (.iaload, 0, 0, 0)] (by decide +kernel) rfl (And.intro g10 (And.intro g11 trivial)) ?_
    refine zG.icmp_ge (tgt := 117) (off := 41) hX (by decide +kernel) (by decide) (fun c12 => ?_) (fun c12 => ?_)
    · have h := zip c12 h
      refine zG.blk (pc' := 118) (l' := [some (2, x0), none, some (0, x2), none]) (st' := [(0, 1)]) (M' := M) hX [(.iconst 1, 0, 0, 0)] (by decide +kernel) rfl trivial ?_
      cases h
      exact zG.zret hX (by decide +kernel) (Or.inr rfl)
    · have h := zin c12 h
      obtain ⟨g13, h⟩ := zif h
      obtain ⟨g14, h⟩ := zif h
      obtain ⟨g15, h⟩ := zif h
      obtain ⟨g16, h⟩ := zif h
      refine zG.blk (pc' := 106) (l' := [some (2, x0), none, some (0, x2), none]) (st' := [(0, M (M x0 11) x2), (0, M (M x0 49) (w32 ((w32 (36 * (M (M x0 9) x2))) + (M (M x0 10) x2))))]) (M' := M) hX [(.aload_n 0, 0, 0, 0), (.getfield 121, 12, 49, 2), (.bipush 36, 0, 0, 0), (.aload_n 0, 0, 0, 0), (.getfield 34, 12, 9, 2), (.iload_n 2, 0, 0, 0), (.iaload, 0, 0, 0), (.imul, 0, 0, 0), (.aload_n 0, 0, 0, 0), (.getfield 37, 12, 10, 2), (.iload_n 2, 0, 0, 0), (.iaload, 0, 0, 0), (.iadd, 0, 0, 0), (.iaload, 0, 0, 0), (.aload_n 0, 0, 0, 0), (.getfield 40, 12, 11, 2), (.iload_n 2, 0, 0, 0), (.iaload, 0, 0, 0)] (by decide +kernel) rfl (And.intro g10 (And.intro g10 (And.intro g13 (And.intro g10 (And.intro g14 (And.intro g15 (And.intro g10 (And.intro g16 trivial)))))))) ?_
      refine zG.icmp_eq (tgt := 111) (off := 5) hX (by decide +kernel) (by decide) (fun c17 => ?_) (fun c17 => ?_)
      · have h := zip c17 h
        refine zG.blk (pc' := 114) (l' := [some (2, x0), none, some (0, w32 (x2 + 1)), none]) (st' := []) (M' := M) hX [(.iinc 2 1, 0, 0, 0)] (by decide +kernel) rfl trivial ?_
        refine zG.goto (tgt := 68) (off := (-46)) hX (by decide +kernel) (by decide) ?_
        exact ih _ _ _ h
      · have h := zin c17 h
        refine zG.blk (pc' := 110) (l' := [some (2, x0), none, some (0, x2), none]) (st' := [(0, 0)]) (M' := M) hX [(.iconst 0, 0, 0, 0)] (by decide +kernel) rfl trivial ?_
        cases h
        exact zG.zret hX (by decide +kernel) (Or.inl rfl)
noncomputable def pX12_couldRule_22 (S : ZS) (k14 : ZM → Int → Int → Option (Int × ZM)) : Nat → ZM → Int → Int → Int → Option (Int × ZM)
  | 0 => fun _ _ _ _ => none
  | n + 1 => fun M x0 x2 x3 => if 36 ≤ x3 then (if S.1 x0 = 12 then (pX12_goes S M x0).bind fun q19 => k14 q19.2 x0 (w32 (x2 + 1)) else none) else (if S.1 x0 = 12 then if S.1 (M x0 4) = 100 ∧ (0 : Int) ≤ x3 ∧ x3 < S.2.1 (M x0 4) then if S.1 (M x0 49) = 100 ∧ (0 : Int) ≤ w32 ((w32 (36 * x2)) + x3) ∧ w32 ((w32 (36 * x2)) + x3) < S.2.1 (M x0 49) then zlet (upM M (M x0 49) (w32 ((w32 (36 * x2)) + x3)) (M (M x0 4) x3)) fun M25 => pX12_couldRule_22 S k14 n M25 x0 x2 (w32 (x3 + 1)) else none else none else none)
set_option maxHeartbeats 2000000 in
set_option maxRecDepth 20000 in
theorem pX12_couldRule_22_ok {C : ZC} {E : ZE} {S : ZS} {k14 : ZM → Int → Int → Option (Int × ZM)} {q : (Int × ZM)} (hX : zCx C E 12 cX12_couldRule 4 (some .boolean) false) (hRm : czR C = { frames := 7, cells := 0, slots := 0, locals := 176 }) (hk14 : ∀ M x0 x2, k14 M x0 x2 = some q → zG C E 4 S 0 0 (zQ C E 0 0 (some (0, q.1)) S q.2) 14 [some (2, x0), none, some (0, x2), none] [] M) : ∀ (n : Nat) (M : ZM) (x0 : Int) (x2 : Int) (x3 : Int), pX12_couldRule_22 S k14 n M x0 x2 x3 = some q → zG C E 4 S 0 0 (zQ C E 0 0 (some (0, q.1)) S q.2) 22 [some (2, x0), none, some (0, x2), some (0, x3)] [] M := by
  intro n
  induction n with
  | zero => intro M x0 x2 x3 h; cases h
  | succ n ih =>
    intro M x0 x2 x3 h
    unfold pX12_couldRule_22 at h
    refine zG.blk (pc' := 25) (l' := [some (2, x0), none, some (0, x2), some (0, x3)]) (st' := [(0, 36), (0, x3)]) (M' := M) hX [(.iload_n 3, 0, 0, 0), (.bipush 36, 0, 0, 0)] (by decide +kernel) rfl trivial ?_
    refine zG.icmp_ge (tgt := 51) (off := 26) hX (by decide +kernel) (by decide) (fun c18 => ?_) (fun c18 => ?_)
    · have h := zip c18 h
      refine zG.blk (pc' := 52) (l' := [some (2, x0), none, some (0, x2), some (0, x3)]) (st' := [(2, x0)]) (M' := M) hX [(.aload_n 0, 0, 0, 0)] (by decide +kernel) rfl trivial ?_
      obtain ⟨g21, h⟩ := zif h
      obtain ⟨q19, e20, h⟩ := zbd h
      refine zG.callV (b := x0) (av := []) (st := []) (ci := 12) hX (pX12_goes_ok e20) sv_12_381 rfl ⟨by decide, rfl⟩ g21 (by decide +kernel) (by rw [hRm]; exact ⟨Nat.le_of_ble_eq_true rfl, Nat.le_of_ble_eq_true rfl⟩) (by rw [hRm]; exact ⟨Nat.le_of_ble_eq_true rfl, Nat.le_of_ble_eq_true rfl⟩) (Nat.le_of_ble_eq_true rfl) ?_
      show zG C E 4 S 0 0 _ 55 [some (2, x0), none, some (0, x2), some (0, x3)] [(0, q19.1)] q19.2
      refine zG.blk (pc' := 59) (l' := [some (2, x0), none, some (0, w32 (x2 + 1)), some (0, x3)]) (st' := []) (M' := q19.2) hX [(.pop, 0, 0, 0), (.iinc 2 1, 0, 0, 0)] (by decide +kernel) rfl trivial ?_
      refine zG.goto (tgt := 14) (off := (-45)) hX (by decide +kernel) (by decide) ?_
      exact zG.wk [true, true, true, false] (hk14 _ _ _ h)
    · have h := zin c18 h
      obtain ⟨g22, h⟩ := zif h
      obtain ⟨g23, h⟩ := zif h
      obtain ⟨g24, h⟩ := zif h
      refine zG.blk (pc' := 45) (l' := [some (2, x0), none, some (0, x2), some (0, x3)]) (st' := []) (M' := (upM M (M x0 49) (w32 ((w32 (36 * x2)) + x3)) (M (M x0 4) x3))) hX [(.aload_n 0, 0, 0, 0), (.getfield 121, 12, 49, 2), (.bipush 36, 0, 0, 0), (.iload_n 2, 0, 0, 0), (.imul, 0, 0, 0), (.iload_n 3, 0, 0, 0), (.iadd, 0, 0, 0), (.aload_n 0, 0, 0, 0), (.getfield 19, 12, 4, 2), (.iload_n 3, 0, 0, 0), (.iaload, 0, 0, 0), (.iastore, 0, 0, 0)] (by decide +kernel) rfl (And.intro g22 (And.intro g22 (And.intro g23 (And.intro g24 trivial)))) ?_
      generalize upM M (M x0 49) (w32 ((w32 (36 * x2)) + x3)) (M (M x0 4) x3) = M25 at h ⊢
      have h := zlt h
      refine zG.blk (pc' := 48) (l' := [some (2, x0), none, some (0, x2), some (0, w32 (x3 + 1))]) (st' := []) (M' := M25) hX [(.iinc 3 1, 0, 0, 0)] (by decide +kernel) rfl trivial ?_
      refine zG.goto (tgt := 22) (off := (-26)) hX (by decide +kernel) (by decide) ?_
      exact ih _ _ _ _ h
noncomputable def pX12_couldRule_14 (S : ZS) : Nat → ZM → Int → Int → Option (Int × ZM)
  | 0 => fun _ _ _ => none
  | n + 1 => fun M x0 x2 => if 60 < x2 then (if S.1 x0 = 12 then (pX12_laysBack S M x0).bind fun q7 => pX12_couldRule_68 S zFU q7 x0 0 else none) else (pX12_couldRule_22 S (pX12_couldRule_14 S n) zFU M x0 x2 0)
set_option maxHeartbeats 2000000 in
set_option maxRecDepth 20000 in
theorem pX12_couldRule_14_ok {C : ZC} {E : ZE} {S : ZS} {q : (Int × ZM)} (hX : zCx C E 12 cX12_couldRule 4 (some .boolean) false) (hRm : czR C = { frames := 7, cells := 0, slots := 0, locals := 176 }) : ∀ (n : Nat) (M : ZM) (x0 : Int) (x2 : Int), pX12_couldRule_14 S n M x0 x2 = some q → zG C E 4 S 0 0 (zQ C E 0 0 (some (0, q.1)) S q.2) 14 [some (2, x0), none, some (0, x2), none] [] M := by
  intro n
  induction n with
  | zero => intro M x0 x2 h; cases h
  | succ n ih =>
    intro M x0 x2 h
    unfold pX12_couldRule_14 at h
    refine zG.blk (pc' := 17) (l' := [some (2, x0), none, some (0, x2), none]) (st' := [(0, 60), (0, x2)]) (M' := M) hX [(.iload_n 2, 0, 0, 0), (.bipush 60, 0, 0, 0)] (by decide +kernel) rfl trivial ?_
    refine zG.icmp_gt (tgt := 62) (off := 45) hX (by decide +kernel) (by decide) (fun c6 => ?_) (fun c6 => ?_)
    · have h := zip c6 h
      refine zG.blk (pc' := 63) (l' := [some (2, x0), none, some (0, x2), none]) (st' := [(2, x0)]) (M' := M) hX [(.aload_n 0, 0, 0, 0)] (by decide +kernel) rfl trivial ?_
      obtain ⟨g9, h⟩ := zif h
      obtain ⟨q7, e8, h⟩ := zbd h
      refine zG.callV (b := x0) (av := []) (st := []) (ci := 12) hX (pX12_laysBack_ok e8) sv_12_419 rfl ⟨by decide, rfl⟩ g9 (by decide +kernel) (by rw [hRm]; exact ⟨Nat.le_of_ble_eq_true rfl, Nat.le_of_ble_eq_true rfl⟩) (by rw [hRm]; exact ⟨Nat.le_of_ble_eq_true rfl, Nat.le_of_ble_eq_true rfl⟩) (Nat.le_of_ble_eq_true rfl) ?_
      show zG C E 4 S 0 0 _ 66 [some (2, x0), none, some (0, x2), none] [] q7
      refine zG.blk (pc' := 68) (l' := [some (2, x0), none, some (0, 0), none]) (st' := []) (M' := q7) hX [(.iconst 0, 0, 0, 0), (.istore_n 2, 0, 0, 0)] (by decide +kernel) rfl trivial ?_
      exact (pX12_couldRule_68_ok hX hRm zFU _ _ _ h)
    · have h := zin c6 h
      refine zG.blk (pc' := 22) (l' := [some (2, x0), none, some (0, x2), some (0, 0)]) (st' := []) (M' := M) hX [(.iconst 0, 0, 0, 0), (.istore_n 3, 0, 0, 0)] (by decide +kernel) rfl trivial ?_
      exact (pX12_couldRule_22_ok hX hRm ih zFU _ _ _ _ h)
noncomputable def pX12_couldRule (S : ZS) (M : ZM) (a0 : Int) (a1 : Int) : Option (Int × ZM) := if S.1 a0 = 12 then if S.1 (M a0 1) = 100 ∧ (0 : Int) ≤ 9 ∧ 9 < S.2.1 (M a0 1) then zlet (upM M (M a0 1) 9 a1) fun M3 => (pX12_begins S M3 a0).bind fun q4 => pX12_couldRule_14 S zFU q4 a0 0 else none else none
set_option maxHeartbeats 2000000 in
set_option maxRecDepth 20000 in
theorem pX12_couldRule_go {C : ZC} {E : ZE} {S : ZS} {M : ZM} {a0 a1 : Int} {q : (Int × ZM)} (hX : zCx C E 12 cX12_couldRule 4 (some .boolean) false) (hRm : czR C = { frames := 7, cells := 0, slots := 0, locals := 176 }) (h : pX12_couldRule  S M a0 a1 = some q) : zG C E 4 S 0 0 (zQ C E 0 0 (some (0, q.1)) S q.2) 0 [some (2, a0), some (0, a1), none, none] [] M := by
  unfold pX12_couldRule at h
  obtain ⟨g1, h⟩ := zif h
  obtain ⟨g2, h⟩ := zif h
  refine zG.blk (pc' := 8) (l' := [some (2, a0), some (0, a1), none, none]) (st' := []) (M' := (upM M (M a0 1) 9 a1)) hX [(.aload_n 0, 0, 0, 0), (.getfield 9, 12, 1, 2), (.bipush 9, 0, 0, 0), (.iload_n 1, 0, 0, 0), (.iastore, 0, 0, 0)] (by decide +kernel) rfl (And.intro g1 (And.intro g2 trivial)) ?_
  generalize upM M (M a0 1) 9 a1 = M3 at h ⊢
  have h := zlt h
  refine zG.blk (pc' := 9) (l' := [some (2, a0), some (0, a1), none, none]) (st' := [(2, a0)]) (M' := M3) hX [(.aload_n 0, 0, 0, 0)] (by decide +kernel) rfl trivial ?_
  obtain ⟨q4, e5, h⟩ := zbd h
  refine zG.callV (b := a0) (av := []) (st := []) (ci := 12) hX (pX12_begins_ok e5) sv_12_302 rfl ⟨by decide, rfl⟩ g1 (by decide +kernel) (by rw [hRm]; exact ⟨Nat.le_of_ble_eq_true rfl, Nat.le_of_ble_eq_true rfl⟩) (by rw [hRm]; exact ⟨Nat.le_of_ble_eq_true rfl, Nat.le_of_ble_eq_true rfl⟩) (Nat.le_of_ble_eq_true rfl) ?_
  show zG C E 4 S 0 0 _ 12 [some (2, a0), some (0, a1), none, none] [] q4
  refine zG.blk (pc' := 14) (l' := [some (2, a0), some (0, a1), some (0, 0), none]) (st' := []) (M' := q4) hX [(.iconst 0, 0, 0, 0), (.istore_n 2, 0, 0, 0)] (by decide +kernel) rfl trivial ?_
  exact zG.wk [true, false, true, true] (pX12_couldRule_14_ok hX hRm zFU _ _ _ h)
theorem pX12_couldRule_ok {l : Launch} {E : ZE} {S : ZS} {M : ZM} {a0 a1 : Int} {q : (Int × ZM)} (h : pX12_couldRule S M a0 a1 = some q) : zMet l yX12_couldRule cX12_couldRule 4 (some .boolean) 7 176 0 0 E S M [(2, a0), (0, a1)] (some (0, q.1)) S q.2 :=
  zMet.of (o := 12) (ini := false) (by decide +kernel) rfl (fun h => by cases h) (Nat.le_of_ble_eq_true rfl) (fun C hX hl hRm => by subst hl; exact pX12_couldRule_go hX hRm h)
noncomputable def pX12_count (S : ZS) (M : ZM) (a0 : Int) (a1 : Int) : Option (Int × ZM) := if a1 = 0 then (if S.1 a0 = 12 then if S.1 (M a0 1) = 100 ∧ (0 : Int) ≤ 0 ∧ 0 < S.2.1 (M a0 1) then some (M (M a0 1) 0, M) else none else none) else if a1 = 1 then (if S.1 a0 = 12 then if S.1 (M a0 1) = 100 ∧ (0 : Int) ≤ 1 ∧ 1 < S.2.1 (M a0 1) then some (M (M a0 1) 1, M) else none else none) else if a1 = 2 then (if S.1 a0 = 12 then if S.1 (M a0 1) = 100 ∧ (0 : Int) ≤ 2 ∧ 2 < S.2.1 (M a0 1) then some (M (M a0 1) 2, M) else none else none) else if a1 = 3 then (if S.1 a0 = 12 then if S.1 (M a0 1) = 100 ∧ (0 : Int) ≤ 3 ∧ 3 < S.2.1 (M a0 1) then some (M (M a0 1) 3, M) else none else none) else if a1 = 4 then (if S.1 a0 = 12 then some (M a0 24, M) else none) else if a1 = 5 then (if S.1 a0 = 12 then if S.1 (M a0 1) = 100 ∧ (0 : Int) ≤ 9 ∧ 9 < S.2.1 (M a0 1) then some (M (M a0 1) 9, M) else none else none) else if a1 = 6 then (if S.1 a0 = 12 then if S.1 (M a0 1) = 100 ∧ (0 : Int) ≤ 4 ∧ 4 < S.2.1 (M a0 1) then some (M (M a0 1) 4, M) else none else none) else if a1 = 7 then (if S.1 a0 = 12 then (pX12_allStrokes S M a0).bind fun q23 => some (q23.1, q23.2) else none) else if a1 = 8 then (if S.1 a0 = 12 then (pX12_like S M a0).bind fun q27 => some (q27.1, q27.2) else none) else if a1 = 9 then (if S.1 a0 = 12 then if S.1 (M a0 1) = 100 ∧ (0 : Int) ≤ 6 ∧ 6 < S.2.1 (M a0 1) then some (M (M a0 1) 6, M) else none else none) else if a1 = 10 then (if S.1 a0 = 12 then if S.1 (M a0 1) = 100 ∧ (0 : Int) ≤ 5 ∧ 5 < S.2.1 (M a0 1) then some (M (M a0 1) 5, M) else none else none) else if a1 = 11 then (if S.1 a0 = 12 then if S.1 (M a0 1) = 100 ∧ (0 : Int) ≤ 7 ∧ 7 < S.2.1 (M a0 1) then some (M (M a0 1) 7, M) else none else none) else if a1 = 12 then (if S.1 a0 = 12 then some (M a0 42, M) else none) else if a1 = 13 then (if S.1 a0 = 12 then if S.1 (M a0 1) = 100 ∧ (0 : Int) ≤ 8 ∧ 8 < S.2.1 (M a0 1) then some (M (M a0 1) 8, M) else none else none) else if a1 = 14 then (if S.1 a0 = 12 then some (M a0 20, M) else none) else (some ((-1), M))
set_option maxHeartbeats 2000000 in
set_option maxRecDepth 20000 in
theorem pX12_count_go {C : ZC} {E : ZE} {S : ZS} {M : ZM} {a0 a1 : Int} {q : (Int × ZM)} (hX : zCx C E 12 cX12_count 2 (some .int) false) (hRm : czR C = { frames := 4, cells := 0, slots := 0, locals := 103 }) (h : pX12_count  S M a0 a1 = some q) : zG C E 2 S 0 0 (zQ C E 0 0 (some (0, q.1)) S q.2) 0 [some (2, a0), some (0, a1)] [] M := by
  unfold pX12_count at h
  refine zG.blk (pc' := 1) (l' := [some (2, a0), some (0, a1)]) (st' := [(0, a1)]) (M' := M) hX [(.iload_n 1, 0, 0, 0)] (by decide +kernel) rfl trivial ?_
  have hs1 : decode cX12_count 1 = .ok (.tableswitch 174 0 14 #[75, 82, 89, 96, 103, 108, 116, 123, 128, 133, 141, 148, 156, 161, 169], 75) := by decide +kernel
  by_cases c2 : a1 = 0
  · have h := zip c2 h
    refine zG.tabIn (tgt := 76) hX hs1 0 c2 (by decide) rfl (by decide) ?_
    obtain ⟨g3, h⟩ := zif h
    obtain ⟨g4, h⟩ := zif h
    refine zG.blk (pc' := 82) (l' := [some (2, a0), some (0, a1)]) (st' := [(0, M (M a0 1) 0)]) (M' := M) hX [(.aload_n 0, 0, 0, 0), (.getfield 9, 12, 1, 2), (.iconst 0, 0, 0, 0), (.iaload, 0, 0, 0)] (by decide +kernel) rfl (And.intro g3 (And.intro g4 trivial)) ?_
    cases h
    exact zG.iret hX (by decide +kernel)
  · have h := zin c2 h
    by_cases c5 : a1 = 1
    · have h := zip c5 h
      refine zG.tabIn (tgt := 83) hX hs1 1 c5 (by decide) rfl (by decide) ?_
      obtain ⟨g6, h⟩ := zif h
      obtain ⟨g7, h⟩ := zif h
      refine zG.blk (pc' := 89) (l' := [some (2, a0), some (0, a1)]) (st' := [(0, M (M a0 1) 1)]) (M' := M) hX [(.aload_n 0, 0, 0, 0), (.getfield 9, 12, 1, 2), (.iconst 1, 0, 0, 0), (.iaload, 0, 0, 0)] (by decide +kernel) rfl (And.intro g6 (And.intro g7 trivial)) ?_
      cases h
      exact zG.iret hX (by decide +kernel)
    · have h := zin c5 h
      by_cases c8 : a1 = 2
      · have h := zip c8 h
        refine zG.tabIn (tgt := 90) hX hs1 2 c8 (by decide) rfl (by decide) ?_
        obtain ⟨g9, h⟩ := zif h
        obtain ⟨g10, h⟩ := zif h
        refine zG.blk (pc' := 96) (l' := [some (2, a0), some (0, a1)]) (st' := [(0, M (M a0 1) 2)]) (M' := M) hX [(.aload_n 0, 0, 0, 0), (.getfield 9, 12, 1, 2), (.iconst 2, 0, 0, 0), (.iaload, 0, 0, 0)] (by decide +kernel) rfl (And.intro g9 (And.intro g10 trivial)) ?_
        cases h
        exact zG.iret hX (by decide +kernel)
      · have h := zin c8 h
        by_cases c11 : a1 = 3
        · have h := zip c11 h
          refine zG.tabIn (tgt := 97) hX hs1 3 c11 (by decide) rfl (by decide) ?_
          obtain ⟨g12, h⟩ := zif h
          obtain ⟨g13, h⟩ := zif h
          refine zG.blk (pc' := 103) (l' := [some (2, a0), some (0, a1)]) (st' := [(0, M (M a0 1) 3)]) (M' := M) hX [(.aload_n 0, 0, 0, 0), (.getfield 9, 12, 1, 2), (.iconst 3, 0, 0, 0), (.iaload, 0, 0, 0)] (by decide +kernel) rfl (And.intro g12 (And.intro g13 trivial)) ?_
          cases h
          exact zG.iret hX (by decide +kernel)
        · have h := zin c11 h
          by_cases c14 : a1 = 4
          · have h := zip c14 h
            refine zG.tabIn (tgt := 104) hX hs1 4 c14 (by decide) rfl (by decide) ?_
            obtain ⟨g15, h⟩ := zif h
            refine zG.blk (pc' := 108) (l' := [some (2, a0), some (0, a1)]) (st' := [(0, M a0 24)]) (M' := M) hX [(.aload_n 0, 0, 0, 0), (.getfield 318, 12, 24, 0)] (by decide +kernel) rfl (And.intro g15 trivial) ?_
            cases h
            exact zG.iret hX (by decide +kernel)
          · have h := zin c14 h
            by_cases c16 : a1 = 5
            · have h := zip c16 h
              refine zG.tabIn (tgt := 109) hX hs1 5 c16 (by decide) rfl (by decide) ?_
              obtain ⟨g17, h⟩ := zif h
              obtain ⟨g18, h⟩ := zif h
              refine zG.blk (pc' := 116) (l' := [some (2, a0), some (0, a1)]) (st' := [(0, M (M a0 1) 9)]) (M' := M) hX [(.aload_n 0, 0, 0, 0), (.getfield 9, 12, 1, 2), (.bipush 9, 0, 0, 0), (.iaload, 0, 0, 0)] (by decide +kernel) rfl (And.intro g17 (And.intro g18 trivial)) ?_
              cases h
              exact zG.iret hX (by decide +kernel)
            · have h := zin c16 h
              by_cases c19 : a1 = 6
              · have h := zip c19 h
                refine zG.tabIn (tgt := 117) hX hs1 6 c19 (by decide) rfl (by decide) ?_
                obtain ⟨g20, h⟩ := zif h
                obtain ⟨g21, h⟩ := zif h
                refine zG.blk (pc' := 123) (l' := [some (2, a0), some (0, a1)]) (st' := [(0, M (M a0 1) 4)]) (M' := M) hX [(.aload_n 0, 0, 0, 0), (.getfield 9, 12, 1, 2), (.iconst 4, 0, 0, 0), (.iaload, 0, 0, 0)] (by decide +kernel) rfl (And.intro g20 (And.intro g21 trivial)) ?_
                cases h
                exact zG.iret hX (by decide +kernel)
              · have h := zin c19 h
                by_cases c22 : a1 = 7
                · have h := zip c22 h
                  refine zG.tabIn (tgt := 124) hX hs1 7 c22 (by decide) rfl (by decide) ?_
                  refine zG.blk (pc' := 125) (l' := [some (2, a0), some (0, a1)]) (st' := [(2, a0)]) (M' := M) hX [(.aload_n 0, 0, 0, 0)] (by decide +kernel) rfl trivial ?_
                  obtain ⟨g25, h⟩ := zif h
                  obtain ⟨q23, e24, h⟩ := zbd h
                  refine zG.callV (b := a0) (av := []) (st := []) (ci := 12) hX (pX12_allStrokes_ok e24) sv_12_429 rfl ⟨by decide, rfl⟩ g25 (by decide +kernel) (by rw [hRm]; exact ⟨Nat.le_of_ble_eq_true rfl, Nat.le_of_ble_eq_true rfl⟩) (by rw [hRm]; exact ⟨Nat.le_of_ble_eq_true rfl, Nat.le_of_ble_eq_true rfl⟩) (Nat.le_of_ble_eq_true rfl) ?_
                  show zG C E 2 S 0 0 _ 128 [some (2, a0), some (0, a1)] [(0, q23.1)] q23.2
                  cases h
                  exact zG.iret hX (by decide +kernel)
                · have h := zin c22 h
                  by_cases c26 : a1 = 8
                  · have h := zip c26 h
                    refine zG.tabIn (tgt := 129) hX hs1 8 c26 (by decide) rfl (by decide) ?_
                    refine zG.blk (pc' := 130) (l' := [some (2, a0), some (0, a1)]) (st' := [(2, a0)]) (M' := M) hX [(.aload_n 0, 0, 0, 0)] (by decide +kernel) rfl trivial ?_
                    obtain ⟨g29, h⟩ := zif h
                    obtain ⟨q27, e28, h⟩ := zbd h
                    refine zG.callV (b := a0) (av := []) (st := []) (ci := 12) hX (pX12_like_ok e28) sv_12_416 rfl ⟨by decide, rfl⟩ g29 (by decide +kernel) (by rw [hRm]; exact ⟨Nat.le_of_ble_eq_true rfl, Nat.le_of_ble_eq_true rfl⟩) (by rw [hRm]; exact ⟨Nat.le_of_ble_eq_true rfl, Nat.le_of_ble_eq_true rfl⟩) (Nat.le_of_ble_eq_true rfl) ?_
                    show zG C E 2 S 0 0 _ 133 [some (2, a0), some (0, a1)] [(0, q27.1)] q27.2
                    cases h
                    exact zG.iret hX (by decide +kernel)
                  · have h := zin c26 h
                    by_cases c30 : a1 = 9
                    · have h := zip c30 h
                      refine zG.tabIn (tgt := 134) hX hs1 9 c30 (by decide) rfl (by decide) ?_
                      obtain ⟨g31, h⟩ := zif h
                      obtain ⟨g32, h⟩ := zif h
                      refine zG.blk (pc' := 141) (l' := [some (2, a0), some (0, a1)]) (st' := [(0, M (M a0 1) 6)]) (M' := M) hX [(.aload_n 0, 0, 0, 0), (.getfield 9, 12, 1, 2), (.bipush 6, 0, 0, 0), (.iaload, 0, 0, 0)] (by decide +kernel) rfl (And.intro g31 (And.intro g32 trivial)) ?_
                      cases h
                      exact zG.iret hX (by decide +kernel)
                    · have h := zin c30 h
                      by_cases c33 : a1 = 10
                      · have h := zip c33 h
                        refine zG.tabIn (tgt := 142) hX hs1 10 c33 (by decide) rfl (by decide) ?_
                        obtain ⟨g34, h⟩ := zif h
                        obtain ⟨g35, h⟩ := zif h
                        refine zG.blk (pc' := 148) (l' := [some (2, a0), some (0, a1)]) (st' := [(0, M (M a0 1) 5)]) (M' := M) hX [(.aload_n 0, 0, 0, 0), (.getfield 9, 12, 1, 2), (.iconst 5, 0, 0, 0), (.iaload, 0, 0, 0)] (by decide +kernel) rfl (And.intro g34 (And.intro g35 trivial)) ?_
                        cases h
                        exact zG.iret hX (by decide +kernel)
                      · have h := zin c33 h
                        by_cases c36 : a1 = 11
                        · have h := zip c36 h
                          refine zG.tabIn (tgt := 149) hX hs1 11 c36 (by decide) rfl (by decide) ?_
                          obtain ⟨g37, h⟩ := zif h
                          obtain ⟨g38, h⟩ := zif h
                          refine zG.blk (pc' := 156) (l' := [some (2, a0), some (0, a1)]) (st' := [(0, M (M a0 1) 7)]) (M' := M) hX [(.aload_n 0, 0, 0, 0), (.getfield 9, 12, 1, 2), (.bipush 7, 0, 0, 0), (.iaload, 0, 0, 0)] (by decide +kernel) rfl (And.intro g37 (And.intro g38 trivial)) ?_
                          cases h
                          exact zG.iret hX (by decide +kernel)
                        · have h := zin c36 h
                          by_cases c39 : a1 = 12
                          · have h := zip c39 h
                            refine zG.tabIn (tgt := 157) hX hs1 12 c39 (by decide) rfl (by decide) ?_
                            obtain ⟨g40, h⟩ := zif h
                            refine zG.blk (pc' := 161) (l' := [some (2, a0), some (0, a1)]) (st' := [(0, M a0 42)]) (M' := M) hX [(.aload_n 0, 0, 0, 0), (.getfield 305, 12, 42, 0)] (by decide +kernel) rfl (And.intro g40 trivial) ?_
                            cases h
                            exact zG.iret hX (by decide +kernel)
                          · have h := zin c39 h
                            by_cases c41 : a1 = 13
                            · have h := zip c41 h
                              refine zG.tabIn (tgt := 162) hX hs1 13 c41 (by decide) rfl (by decide) ?_
                              obtain ⟨g42, h⟩ := zif h
                              obtain ⟨g43, h⟩ := zif h
                              refine zG.blk (pc' := 169) (l' := [some (2, a0), some (0, a1)]) (st' := [(0, M (M a0 1) 8)]) (M' := M) hX [(.aload_n 0, 0, 0, 0), (.getfield 9, 12, 1, 2), (.bipush 8, 0, 0, 0), (.iaload, 0, 0, 0)] (by decide +kernel) rfl (And.intro g42 (And.intro g43 trivial)) ?_
                              cases h
                              exact zG.iret hX (by decide +kernel)
                            · have h := zin c41 h
                              by_cases c44 : a1 = 14
                              · have h := zip c44 h
                                refine zG.tabIn (tgt := 170) hX hs1 14 c44 (by decide) rfl (by decide) ?_
                                obtain ⟨g45, h⟩ := zif h
                                refine zG.blk (pc' := 174) (l' := [some (2, a0), some (0, a1)]) (st' := [(0, M a0 20)]) (M' := M) hX [(.aload_n 0, 0, 0, 0), (.getfield 142, 12, 20, 0)] (by decide +kernel) rfl (And.intro g45 trivial) ?_
                                cases h
                                exact zG.iret hX (by decide +kernel)
                              · have h := zin c44 h
                                refine zG.tabOut (tgt := 175) hX hs1 (by omega) (by decide) ?_
                                refine zG.blk (pc' := 176) (l' := [some (2, a0), some (0, a1)]) (st' := [(0, (-1))]) (M' := M) hX [(.iconst (-1), 0, 0, 0)] (by decide +kernel) rfl trivial ?_
                                cases h
                                exact zG.iret hX (by decide +kernel)
theorem pX12_count_ok {l : Launch} {E : ZE} {S : ZS} {M : ZM} {a0 a1 : Int} {q : (Int × ZM)} (h : pX12_count S M a0 a1 = some q) : zMet l yX12_count cX12_count 2 (some .int) 4 103 0 0 E S M [(2, a0), (0, a1)] (some (0, q.1)) S q.2 :=
  zMet.of (o := 12) (ini := false) (by decide +kernel) rfl (fun h => by cases h) (Nat.le_of_ble_eq_true rfl) (fun C hX hl hRm => by subst hl; exact pX12_count_go hX hRm h)
noncomputable def pX12_day_19 (S : ZS) (M : ZM) : Option (Int × ZM) := some ((-1), M)
set_option maxHeartbeats 2000000 in
set_option maxRecDepth 20000 in
theorem pX12_day_19_ok {C : ZC} {E : ZE} {S : ZS} {q : (Int × ZM)} (hX : zCx C E 12 cX12_day 1 (some .int) false) (hRm : czR C = { frames := 7, cells := 0, slots := 0, locals := 176 }) {M : ZM} (h : pX12_day_19 S M = some q) : zG C E 1 S 0 0 (zQ C E 0 0 (some (0, q.1)) S q.2) 19 [none] [] M := by
  unfold pX12_day_19 at h
  refine zG.blk (pc' := 20) (l' := [none]) (st' := [(0, (-1))]) (M' := M) hX [(.iconst (-1), 0, 0, 0)] (by decide +kernel) rfl trivial ?_
  cases h
  exact zG.iret hX (by decide +kernel)
noncomputable def pX12_day (S : ZS) (M : ZM) (a0 : Int) : Option (Int × ZM) := if S.1 a0 = 12 then (pX12_isSky S M a0).bind fun q1 => if q1.1 = 0 then (pX12_day_19 S q1.2) else (if S.1 (q1.2 a0 1) = 100 ∧ (0 : Int) ≤ 4 ∧ 4 < S.2.1 (q1.2 a0 1) then if q1.2 (q1.2 a0 1) 4 = 999 then (pX12_day_19 S q1.2) else ((pX12_keepsAct S q1.2 a0).bind fun q7 => (pX12_goes S q7 a0).bind fun q9 => some (q9.1, q9.2)) else none) else none
set_option maxHeartbeats 2000000 in
set_option maxRecDepth 20000 in
theorem pX12_day_go {C : ZC} {E : ZE} {S : ZS} {M : ZM} {a0 : Int} {q : (Int × ZM)} (hX : zCx C E 12 cX12_day 1 (some .int) false) (hRm : czR C = { frames := 7, cells := 0, slots := 0, locals := 176 }) (h : pX12_day  S M a0 = some q) : zG C E 1 S 0 0 (zQ C E 0 0 (some (0, q.1)) S q.2) 0 [some (2, a0)] [] M := by
  unfold pX12_day at h
  refine zG.blk (pc' := 1) (l' := [some (2, a0)]) (st' := [(2, a0)]) (M' := M) hX [(.aload_n 0, 0, 0, 0)] (by decide +kernel) rfl trivial ?_
  obtain ⟨g3, h⟩ := zif h
  obtain ⟨q1, e2, h⟩ := zbd h
  refine zG.callV (b := a0) (av := []) (st := []) (ci := 12) hX (pX12_isSky_ok e2) sv_12_402 rfl ⟨by decide, rfl⟩ g3 (by decide +kernel) (by rw [hRm]; exact ⟨Nat.le_of_ble_eq_true rfl, Nat.le_of_ble_eq_true rfl⟩) (by rw [hRm]; exact ⟨Nat.le_of_ble_eq_true rfl, Nat.le_of_ble_eq_true rfl⟩) (Nat.le_of_ble_eq_true rfl) ?_
  show zG C E 1 S 0 0 _ 4 [some (2, a0)] [(0, q1.1)] q1.2
  refine zG.if_eq (tgt := 19) (off := 15) hX (by decide +kernel) (by decide) (fun c4 => ?_) (fun c4 => ?_)
  · have h := zip c4 h
    exact zG.wk [false] (pX12_day_19_ok hX hRm h)
  · have h := zin c4 h
    obtain ⟨g5, h⟩ := zif h
    refine zG.blk (pc' := 16) (l' := [some (2, a0)]) (st' := [(0, 999), (0, q1.2 (q1.2 a0 1) 4)]) (M' := q1.2) hX [(.aload_n 0, 0, 0, 0), (.getfield 9, 12, 1, 2), (.iconst 4, 0, 0, 0), (.iaload, 0, 0, 0), (.sipush 999, 0, 0, 0)] (by decide +kernel) rfl (And.intro g3 (And.intro g5 trivial)) ?_
    refine zG.icmp_ne (tgt := 21) (off := 5) hX (by decide +kernel) (by decide) (fun c6 => ?_) (fun c6 => ?_)
    · have h := zin c6 h
      refine zG.blk (pc' := 22) (l' := [some (2, a0)]) (st' := [(2, a0)]) (M' := q1.2) hX [(.aload_n 0, 0, 0, 0)] (by decide +kernel) rfl trivial ?_
      obtain ⟨q7, e8, h⟩ := zbd h
      refine zG.callV (b := a0) (av := []) (st := []) (ci := 12) hX (pX12_keepsAct_ok e8) sv_12_405 rfl ⟨by decide, rfl⟩ g3 (by decide +kernel) (by rw [hRm]; exact ⟨Nat.le_of_ble_eq_true rfl, Nat.le_of_ble_eq_true rfl⟩) (by rw [hRm]; exact ⟨Nat.le_of_ble_eq_true rfl, Nat.le_of_ble_eq_true rfl⟩) (Nat.le_of_ble_eq_true rfl) ?_
      show zG C E 1 S 0 0 _ 25 [some (2, a0)] [] q7
      refine zG.blk (pc' := 26) (l' := [some (2, a0)]) (st' := [(2, a0)]) (M' := q7) hX [(.aload_n 0, 0, 0, 0)] (by decide +kernel) rfl trivial ?_
      obtain ⟨q9, e10, h⟩ := zbd h
      refine zG.callV (b := a0) (av := []) (st := []) (ci := 12) hX (pX12_goes_ok e10) sv_12_381 rfl ⟨by decide, rfl⟩ g3 (by decide +kernel) (by rw [hRm]; exact ⟨Nat.le_of_ble_eq_true rfl, Nat.le_of_ble_eq_true rfl⟩) (by rw [hRm]; exact ⟨Nat.le_of_ble_eq_true rfl, Nat.le_of_ble_eq_true rfl⟩) (Nat.le_of_ble_eq_true rfl) ?_
      show zG C E 1 S 0 0 _ 29 [some (2, a0)] [(0, q9.1)] q9.2
      cases h
      exact zG.iret hX (by decide +kernel)
    · have h := zip c6 h
      exact zG.wk [false] (pX12_day_19_ok hX hRm h)
theorem pX12_day_ok {l : Launch} {E : ZE} {S : ZS} {M : ZM} {a0 : Int} {q : (Int × ZM)} (h : pX12_day S M a0 = some q) : zMet l yX12_day cX12_day 1 (some .int) 7 176 0 0 E S M [(2, a0)] (some (0, q.1)) S q.2 :=
  zMet.of (o := 12) (ini := false) (by decide +kernel) rfl (fun h => by cases h) (Nat.le_of_ble_eq_true rfl) (fun C hX hl hRm => by subst hl; exact pX12_day_go hX hRm h)
noncomputable def pX12_draws (S : ZS) (M : ZM) (a0 : Int) (a1 : Int) : Option (Int × ZM) := if S.1 a0 = 12 then if S.1 (M a0 1) = 100 ∧ (0 : Int) ≤ 8 ∧ 8 < S.2.1 (M a0 1) then zlet (upM M (M a0 1) 8 (w32 (Int.tmod (w64 ((w64 ((M (M a0 1) 8) * 1103515245)) + 12345)) 2147483648))) fun M3 => if S.1 (M3 a0 1) = 100 ∧ (0 : Int) ≤ 8 ∧ 8 < S.2.1 (M3 a0 1) then if ¬ a1 = 0 then some (Int.tmod (w32 (Int.tdiv (M3 (M3 a0 1) 8) 65536)) a1, M3) else none else none else none else none
set_option maxHeartbeats 2000000 in
set_option maxRecDepth 20000 in
theorem pX12_draws_go {C : ZC} {E : ZE} {S : ZS} {M : ZM} {a0 a1 : Int} {q : (Int × ZM)} (hX : zCx C E 12 cX12_draws 2 (some .int) false) (hRm : czR C = { frames := 1, cells := 0, slots := 0, locals := 40 }) (h : pX12_draws  S M a0 a1 = some q) : zG C E 2 S 0 0 (zQ C E 0 0 (some (0, q.1)) S q.2) 0 [some (2, a0), some (0, a1)] [] M := by
  unfold pX12_draws at h
  obtain ⟨g1, h⟩ := zif h
  obtain ⟨g2, h⟩ := zif h
  refine zG.blk (pc' := 28) (l' := [some (2, a0), some (0, a1)]) (st' := []) (M' := (upM M (M a0 1) 8 (w32 (Int.tmod (w64 ((w64 ((M (M a0 1) 8) * 1103515245)) + 12345)) 2147483648)))) hX [(.aload_n 0, 0, 0, 0), (.getfield 9, 12, 1, 2), (.bipush 8, 0, 0, 0), (.aload_n 0, 0, 0, 0), (.getfield 9, 12, 1, 2), (.bipush 8, 0, 0, 0), (.iaload, 0, 0, 0), (.i2l, 0, 0, 0), (.ldc2_w 486, 1103515245, 0, 0), (.lmul, 0, 0, 0), (.ldc2_w 488, 12345, 0, 0), (.ladd, 0, 0, 0), (.ldc2_w 490, 2147483648, 0, 0), (.lrem, 0, 0, 0), (.l2i, 0, 0, 0), (.iastore, 0, 0, 0)] (by decide +kernel) rfl (And.intro g1 (And.intro g1 (And.intro g2 (And.intro (by decide) (And.intro g2 trivial))))) ?_
  generalize upM M (M a0 1) 8 (w32 (Int.tmod (w64 ((w64 ((M (M a0 1) 8) * 1103515245)) + 12345)) 2147483648)) = M3 at h ⊢
  have h := zlt h
  obtain ⟨g4, h⟩ := zif h
  obtain ⟨g5, h⟩ := zif h
  refine zG.blk (pc' := 41) (l' := [some (2, a0), some (0, a1)]) (st' := [(0, Int.tmod (w32 (Int.tdiv (M3 (M3 a0 1) 8) 65536)) a1)]) (M' := M3) hX [(.aload_n 0, 0, 0, 0), (.getfield 9, 12, 1, 2), (.bipush 8, 0, 0, 0), (.iaload, 0, 0, 0), (.ldc_w 492, 65536, 0, 0), (.idiv, 0, 0, 0), (.iload_n 1, 0, 0, 0), (.irem, 0, 0, 0)] (by decide +kernel) rfl (And.intro g1 (And.intro g4 (And.intro (by decide) (And.intro g5 trivial)))) ?_
  cases h
  exact zG.iret hX (by decide +kernel)
theorem pX12_draws_ok {l : Launch} {E : ZE} {S : ZS} {M : ZM} {a0 a1 : Int} {q : (Int × ZM)} (h : pX12_draws S M a0 a1 = some q) : zMet l yX12_draws cX12_draws 2 (some .int) 1 40 0 0 E S M [(2, a0), (0, a1)] (some (0, q.1)) S q.2 :=
  zMet.of (o := 12) (ini := false) (by decide +kernel) rfl (fun h => by cases h) (Nat.le_of_ble_eq_true rfl) (fun C hX hl hRm => by subst hl; exact pX12_draws_go hX hRm h)
noncomputable def pX12_end_12 (S : ZS) (M : ZM) : Option (Int × ZM) := some ((-1), M)
set_option maxHeartbeats 2000000 in
set_option maxRecDepth 20000 in
theorem pX12_end_12_ok {C : ZC} {E : ZE} {S : ZS} {q : (Int × ZM)} (hX : zCx C E 12 cX12_end 2 (some .int) false) (hRm : czR C = { frames := 1, cells := 0, slots := 0, locals := 40 }) {M : ZM} (h : pX12_end_12 S M = some q) : zG C E 2 S 0 0 (zQ C E 0 0 (some (0, q.1)) S q.2) 12 [none, none] [] M := by
  unfold pX12_end_12 at h
  refine zG.blk (pc' := 13) (l' := [none, none]) (st' := [(0, (-1))]) (M' := M) hX [(.iconst (-1), 0, 0, 0)] (by decide +kernel) rfl trivial ?_
  cases h
  exact zG.iret hX (by decide +kernel)
noncomputable def pX12_end (S : ZS) (M : ZM) (a0 : Int) (a1 : Int) : Option (Int × ZM) := if a1 < 0 then (pX12_end_12 S M) else (if S.1 a0 = 12 then if a1 ≤ M a0 20 then (zlet (upM M a0 20 a1) fun M4 => some (a1, M4)) else (pX12_end_12 S M) else none)
set_option maxHeartbeats 2000000 in
set_option maxRecDepth 20000 in
theorem pX12_end_go {C : ZC} {E : ZE} {S : ZS} {M : ZM} {a0 a1 : Int} {q : (Int × ZM)} (hX : zCx C E 12 cX12_end 2 (some .int) false) (hRm : czR C = { frames := 1, cells := 0, slots := 0, locals := 40 }) (h : pX12_end  S M a0 a1 = some q) : zG C E 2 S 0 0 (zQ C E 0 0 (some (0, q.1)) S q.2) 0 [some (2, a0), some (0, a1)] [] M := by
  unfold pX12_end at h
  refine zG.blk (pc' := 1) (l' := [some (2, a0), some (0, a1)]) (st' := [(0, a1)]) (M' := M) hX [(.iload_n 1, 0, 0, 0)] (by decide +kernel) rfl trivial ?_
  refine zG.if_lt (tgt := 12) (off := 11) hX (by decide +kernel) (by decide) (fun c1 => ?_) (fun c1 => ?_)
  · have h := zip c1 h
    exact zG.wk [false, false] (pX12_end_12_ok hX hRm h)
  · have h := zin c1 h
    obtain ⟨g2, h⟩ := zif h
    refine zG.blk (pc' := 9) (l' := [some (2, a0), some (0, a1)]) (st' := [(0, M a0 20), (0, a1)]) (M' := M) hX [(.iload_n 1, 0, 0, 0), (.aload_n 0, 0, 0, 0), (.getfield 142, 12, 20, 0)] (by decide +kernel) rfl (And.intro g2 trivial) ?_
    refine zG.icmp_le (tgt := 14) (off := 5) hX (by decide +kernel) (by decide) (fun c3 => ?_) (fun c3 => ?_)
    · have h := zip c3 h
      refine zG.blk (pc' := 19) (l' := [some (2, a0), some (0, a1)]) (st' := []) (M' := (upM M a0 20 a1)) hX [(.aload_n 0, 0, 0, 0), (.iload_n 1, 0, 0, 0), (.putfield 142, 12, 20, 0)] (by decide +kernel) rfl (And.intro g2 trivial) ?_
      generalize upM M a0 20 a1 = M4 at h ⊢
      have h := zlt h
      refine zG.blk (pc' := 20) (l' := [some (2, a0), some (0, a1)]) (st' := [(0, a1)]) (M' := M4) hX [(.iload_n 1, 0, 0, 0)] (by decide +kernel) rfl trivial ?_
      cases h
      exact zG.iret hX (by decide +kernel)
    · have h := zin c3 h
      exact zG.wk [false, false] (pX12_end_12_ok hX hRm h)
theorem pX12_end_ok {l : Launch} {E : ZE} {S : ZS} {M : ZM} {a0 a1 : Int} {q : (Int × ZM)} (h : pX12_end S M a0 a1 = some q) : zMet l yX12_end cX12_end 2 (some .int) 1 40 0 0 E S M [(2, a0), (0, a1)] (some (0, q.1)) S q.2 :=
  zMet.of (o := 12) (ini := false) (by decide +kernel) rfl (fun h => by cases h) (Nat.le_of_ble_eq_true rfl) (fun C hX hl hRm => by subst hl; exact pX12_end_go hX hRm h)
noncomputable def pX12_opens_40 (S : ZS) (M : ZM) (x0 : Int) (x1 : Int) : Option ZM := if S.1 x0 = 12 then if S.1 (M x0 37) = 100 ∧ (0 : Int) ≤ M x0 28 ∧ M x0 28 < S.2.1 (M x0 37) then zlet (upM M (M x0 37) (M x0 28) x1) fun M8 => zlet (upM M8 x0 28 (w32 ((M8 x0 28) + 1))) fun M9 => some M9 else none else none
set_option maxHeartbeats 2000000 in
set_option maxRecDepth 20000 in
theorem pX12_opens_40_ok {C : ZC} {E : ZE} {S : ZS} {q : ZM} (hX : zCx C E 12 cX12_opens 2 none false) (hRm : czR C = { frames := 2, cells := 0, slots := 0, locals := 62 }) {M : ZM} {x0 : Int} {x1 : Int} (h : pX12_opens_40 S M x0 x1 = some q) : zG C E 2 S 0 0 (zQ C E 0 0 none S q) 40 [some (2, x0), some (0, x1)] [] M := by
  unfold pX12_opens_40 at h
  obtain ⟨g6, h⟩ := zif h
  obtain ⟨g7, h⟩ := zif h
  refine zG.blk (pc' := 50) (l' := [some (2, x0), some (0, x1)]) (st' := []) (M' := (upM M (M x0 37) (M x0 28) x1)) hX [(.aload_n 0, 0, 0, 0), (.getfield 93, 12, 37, 2), (.aload_n 0, 0, 0, 0), (.getfield 241, 12, 28, 0), (.iload_n 1, 0, 0, 0), (.iastore, 0, 0, 0)] (by decide +kernel) rfl (And.intro g6 (And.intro g6 (And.intro g7 trivial))) ?_
  generalize upM M (M x0 37) (M x0 28) x1 = M8 at h ⊢
  have h := zlt h
  refine zG.blk (pc' := 60) (l' := [some (2, x0), some (0, x1)]) (st' := []) (M' := (upM M8 x0 28 (w32 ((M8 x0 28) + 1)))) hX [(.aload_n 0, 0, 0, 0), (.dup, 0, 0, 0), (.getfield 241, 12, 28, 0), (.iconst 1, 0, 0, 0), (.iadd, 0, 0, 0), (.putfield 241, 12, 28, 0)] (by decide +kernel) rfl (And.intro g6 (And.intro g6 trivial)) ?_
  generalize upM M8 x0 28 (w32 ((M8 x0 28) + 1)) = M9 at h ⊢
  have h := zlt h
  cases h
  exact zG.vret hX (by decide +kernel)
noncomputable def pX12_opens_30 (S : ZS) (M : ZM) (x0 : Int) (x1 : Int) : Option ZM := if S.1 x0 = 12 then zlet (upM M x0 26 (w32 ((M x0 26) + 1))) fun M5 => pX12_opens_40 S M5 x0 x1 else none
set_option maxHeartbeats 2000000 in
set_option maxRecDepth 20000 in
theorem pX12_opens_30_ok {C : ZC} {E : ZE} {S : ZS} {q : ZM} (hX : zCx C E 12 cX12_opens 2 none false) (hRm : czR C = { frames := 2, cells := 0, slots := 0, locals := 62 }) {M : ZM} {x0 : Int} {x1 : Int} (h : pX12_opens_30 S M x0 x1 = some q) : zG C E 2 S 0 0 (zQ C E 0 0 none S q) 30 [some (2, x0), some (0, x1)] [] M := by
  unfold pX12_opens_30 at h
  obtain ⟨g4, h⟩ := zif h
  refine zG.blk (pc' := 40) (l' := [some (2, x0), some (0, x1)]) (st' := []) (M' := (upM M x0 26 (w32 ((M x0 26) + 1)))) hX [(.aload_n 0, 0, 0, 0), (.dup, 0, 0, 0), (.getfield 244, 12, 26, 0), (.iconst 1, 0, 0, 0), (.iadd, 0, 0, 0), (.putfield 244, 12, 26, 0)] (by decide +kernel) rfl (And.intro g4 (And.intro g4 trivial)) ?_
  generalize upM M x0 26 (w32 ((M x0 26) + 1)) = M5 at h ⊢
  have h := zlt h
  exact (pX12_opens_40_ok hX hRm h)
noncomputable def pX12_opens_12 (S : ZS) (M : ZM) (x0 : Int) (x1 : Int) : Option ZM := if S.1 x0 = 12 then if M x0 26 = 10 then ((pX12_fails S M x0 2 (M x0 21)).bind fun q10 => pX12_opens_30 S q10 x0 x1) else (pX12_opens_30 S M x0 x1) else none
set_option maxHeartbeats 2000000 in
set_option maxRecDepth 20000 in
theorem pX12_opens_12_ok {C : ZC} {E : ZE} {S : ZS} {q : ZM} (hX : zCx C E 12 cX12_opens 2 none false) (hRm : czR C = { frames := 2, cells := 0, slots := 0, locals := 62 }) {M : ZM} {x0 : Int} {x1 : Int} (h : pX12_opens_12 S M x0 x1 = some q) : zG C E 2 S 0 0 (zQ C E 0 0 none S q) 12 [some (2, x0), some (0, x1)] [] M := by
  unfold pX12_opens_12 at h
  obtain ⟨g2, h⟩ := zif h
  refine zG.blk (pc' := 18) (l' := [some (2, x0), some (0, x1)]) (st' := [(0, 10), (0, M x0 26)]) (M' := M) hX [(.aload_n 0, 0, 0, 0), (.getfield 244, 12, 26, 0), (.bipush 10, 0, 0, 0)] (by decide +kernel) rfl (And.intro g2 trivial) ?_
  refine zG.icmp_ne (tgt := 30) (off := 12) hX (by decide +kernel) (by decide) (fun c3 => ?_) (fun c3 => ?_)
  · have h := zin c3 h
    exact (pX12_opens_30_ok hX hRm h)
  · have h := zip c3 h
    refine zG.blk (pc' := 27) (l' := [some (2, x0), some (0, x1)]) (st' := [(0, M x0 21), (0, 2), (2, x0)]) (M' := M) hX [(.aload_n 0, 0, 0, 0), (.iconst 2, 0, 0, 0), (.aload_n 0, 0, 0, 0), (.getfield 174, 12, 21, 0)] (by decide +kernel) rfl (And.intro g2 trivial) ?_
    obtain ⟨q10, e11, h⟩ := zbd h
    refine zG.callV (b := x0) (av := [(0, 2), (0, M x0 21)]) (st := []) (ci := 12) hX (pX12_fails_ok e11) sv_12_209 rfl ⟨by decide, rfl⟩ g2 (by decide +kernel) (by rw [hRm]; exact ⟨Nat.le_of_ble_eq_true rfl, Nat.le_of_ble_eq_true rfl⟩) (by rw [hRm]; exact ⟨Nat.le_of_ble_eq_true rfl, Nat.le_of_ble_eq_true rfl⟩) (Nat.le_of_ble_eq_true rfl) ?_
    show zG C E 2 S 0 0 _ 30 [some (2, x0), some (0, x1)] [] q10
    exact (pX12_opens_30_ok hX hRm h)
noncomputable def pX12_opens (S : ZS) (M : ZM) (a0 : Int) (a1 : Int) : Option ZM := if a1 = 9 then (pX12_opens_12 S M a0 a1) else (if a1 = 12 then (pX12_opens_12 S M a0 a1) else (pX12_opens_40 S M a0 a1))
set_option maxHeartbeats 2000000 in
set_option maxRecDepth 20000 in
theorem pX12_opens_go {C : ZC} {E : ZE} {S : ZS} {M : ZM} {a0 a1 : Int} {q : ZM} (hX : zCx C E 12 cX12_opens 2 none false) (hRm : czR C = { frames := 2, cells := 0, slots := 0, locals := 62 }) (h : pX12_opens  S M a0 a1 = some q) : zG C E 2 S 0 0 (zQ C E 0 0 none S q) 0 [some (2, a0), some (0, a1)] [] M := by
  unfold pX12_opens at h
  refine zG.blk (pc' := 3) (l' := [some (2, a0), some (0, a1)]) (st' := [(0, 9), (0, a1)]) (M' := M) hX [(.iload_n 1, 0, 0, 0), (.bipush 9, 0, 0, 0)] (by decide +kernel) rfl trivial ?_
  refine zG.icmp_eq (tgt := 12) (off := 9) hX (by decide +kernel) (by decide) (fun c1 => ?_) (fun c1 => ?_)
  · have h := zip c1 h
    exact (pX12_opens_12_ok hX hRm h)
  · have h := zin c1 h
    refine zG.blk (pc' := 9) (l' := [some (2, a0), some (0, a1)]) (st' := [(0, 12), (0, a1)]) (M' := M) hX [(.iload_n 1, 0, 0, 0), (.bipush 12, 0, 0, 0)] (by decide +kernel) rfl trivial ?_
    refine zG.icmp_ne (tgt := 40) (off := 31) hX (by decide +kernel) (by decide) (fun c12 => ?_) (fun c12 => ?_)
    · have h := zin c12 h
      exact (pX12_opens_40_ok hX hRm h)
    · have h := zip c12 h
      exact (pX12_opens_12_ok hX hRm h)
theorem pX12_opens_ok {l : Launch} {E : ZE} {S : ZS} {M : ZM} {a0 a1 : Int} {q : ZM} (h : pX12_opens S M a0 a1 = some q) : zMet l yX12_opens cX12_opens 2 none 2 62 0 0 E S M [(2, a0), (0, a1)] (none) S q :=
  zMet.of (o := 12) (ini := false) (by decide +kernel) rfl (fun h => by cases h) (Nat.le_of_ble_eq_true rfl) (fun C hX hl hRm => by subst hl; exact pX12_opens_go hX hRm h)
noncomputable def pX12_put_3 (S : ZS) : Nat → ZM → Int → Int → Int → Option ZM
  | 0 => fun _ _ _ _ => none
  | n + 1 => fun M x0 x1 x2 => if x2 < 0 then (some M) else (if S.1 x0 = 12 then if S.1 (M x0 30) = 102 ∧ (0 : Int) ≤ M x0 20 ∧ M x0 20 < S.2.1 (M x0 30) then zlet (upM M (M x0 30) (M x0 20) (w8 (w8 (zshr x1 x2)))) fun M4 => zlet (upM M4 x0 20 (w32 ((M4 x0 20) + 1))) fun M5 => pX12_put_3 S n M5 x0 x1 (w32 (x2 + (-8))) else none else none)
set_option maxHeartbeats 2000000 in
set_option maxRecDepth 20000 in
theorem pX12_put_3_ok {C : ZC} {E : ZE} {S : ZS} {q : ZM} (hX : zCx C E 12 cX12_put 3 none false) (hRm : czR C = { frames := 1, cells := 0, slots := 0, locals := 40 }) : ∀ (n : Nat) (M : ZM) (x0 : Int) (x1 : Int) (x2 : Int), pX12_put_3 S n M x0 x1 x2 = some q → zG C E 3 S 0 0 (zQ C E 0 0 none S q) 3 [some (2, x0), some (0, x1), some (0, x2)] [] M := by
  intro n
  induction n with
  | zero => intro M x0 x1 x2 h; cases h
  | succ n ih =>
    intro M x0 x1 x2 h
    unfold pX12_put_3 at h
    refine zG.blk (pc' := 4) (l' := [some (2, x0), some (0, x1), some (0, x2)]) (st' := [(0, x2)]) (M' := M) hX [(.iload_n 2, 0, 0, 0)] (by decide +kernel) rfl trivial ?_
    refine zG.if_lt (tgt := 36) (off := 32) hX (by decide +kernel) (by decide) (fun c1 => ?_) (fun c1 => ?_)
    · have h := zip c1 h
      cases h
      exact zG.vret hX (by decide +kernel)
    · have h := zin c1 h
      obtain ⟨g2, h⟩ := zif h
      obtain ⟨g3, h⟩ := zif h
      refine zG.blk (pc' := 20) (l' := [some (2, x0), some (0, x1), some (0, x2)]) (st' := []) (M' := (upM M (M x0 30) (M x0 20) (w8 (w8 (zshr x1 x2))))) hX [(.aload_n 0, 0, 0, 0), (.getfield 71, 12, 30, 2), (.aload_n 0, 0, 0, 0), (.getfield 142, 12, 20, 0), (.iload_n 1, 0, 0, 0), (.iload_n 2, 0, 0, 0), (.ishr, 0, 0, 0), (.i2b, 0, 0, 0), (.bastore, 102, 0, 0)] (by decide +kernel) rfl (And.intro g2 (And.intro g2 (And.intro g3 trivial))) ?_
      generalize upM M (M x0 30) (M x0 20) (w8 (w8 (zshr x1 x2))) = M4 at h ⊢
      have h := zlt h
      refine zG.blk (pc' := 30) (l' := [some (2, x0), some (0, x1), some (0, x2)]) (st' := []) (M' := (upM M4 x0 20 (w32 ((M4 x0 20) + 1)))) hX [(.aload_n 0, 0, 0, 0), (.dup, 0, 0, 0), (.getfield 142, 12, 20, 0), (.iconst 1, 0, 0, 0), (.iadd, 0, 0, 0), (.putfield 142, 12, 20, 0)] (by decide +kernel) rfl (And.intro g2 (And.intro g2 trivial)) ?_
      generalize upM M4 x0 20 (w32 ((M4 x0 20) + 1)) = M5 at h ⊢
      have h := zlt h
      refine zG.blk (pc' := 33) (l' := [some (2, x0), some (0, x1), some (0, w32 (x2 + (-8)))]) (st' := []) (M' := M5) hX [(.iinc 2 (-8), 0, 0, 0)] (by decide +kernel) rfl trivial ?_
      refine zG.goto (tgt := 3) (off := (-30)) hX (by decide +kernel) (by decide) ?_
      exact ih _ _ _ _ h
noncomputable def pX12_put (S : ZS) (M : ZM) (a0 : Int) (a1 : Int) : Option ZM := pX12_put_3 S zFU M a0 a1 24
set_option maxHeartbeats 2000000 in
set_option maxRecDepth 20000 in
theorem pX12_put_go {C : ZC} {E : ZE} {S : ZS} {M : ZM} {a0 a1 : Int} {q : ZM} (hX : zCx C E 12 cX12_put 3 none false) (hRm : czR C = { frames := 1, cells := 0, slots := 0, locals := 40 }) (h : pX12_put  S M a0 a1 = some q) : zG C E 3 S 0 0 (zQ C E 0 0 none S q) 0 [some (2, a0), some (0, a1), none] [] M := by
  unfold pX12_put at h
  refine zG.blk (pc' := 3) (l' := [some (2, a0), some (0, a1), some (0, 24)]) (st' := []) (M' := M) hX [(.bipush 24, 0, 0, 0), (.istore_n 2, 0, 0, 0)] (by decide +kernel) rfl trivial ?_
  exact (pX12_put_3_ok hX hRm zFU _ _ _ _ h)
theorem pX12_put_ok {l : Launch} {E : ZE} {S : ZS} {M : ZM} {a0 a1 : Int} {q : ZM} (h : pX12_put S M a0 a1 = some q) : zMet l yX12_put cX12_put 3 none 1 40 0 0 E S M [(2, a0), (0, a1)] (none) S q :=
  zMet.of (o := 12) (ini := false) (by decide +kernel) rfl (fun h => by cases h) (Nat.le_of_ble_eq_true rfl) (fun C hX hl hRm => by subst hl; exact pX12_put_go hX hRm h)
