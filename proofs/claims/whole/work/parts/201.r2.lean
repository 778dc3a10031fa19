theorem sv_12_372 : zSV 12 372 yX12_drifts cX12_drifts 4 none 0 := ⟨⟨gt_at 1546 (by decide +kernel) rfl, gt_at 1548 (by decide +kernel) rfl, gt_at 79 (by decide +kernel) rfl, gt_at 117 (by decide +kernel) rfl, gt_at 1549 (by decide +kernel) rfl⟩, by decide +kernel, by decide +kernel, by decide +kernel⟩
theorem sv_12_375 : zSV 12 375 yX12_strikes cX12_strikes 6 none 1 := ⟨⟨gt_at 1554 (by decide +kernel) rfl, gt_at 1556 (by decide +kernel) rfl, gt_at 81 (by decide +kernel) rfl, gt_at 117 (by decide +kernel) rfl, gt_at 1557 (by decide +kernel) rfl⟩, by decide +kernel, by decide +kernel, by decide +kernel⟩
theorem sv_12_378 : zSV 12 378 yX12_fades cX12_fades 2 none 0 := ⟨⟨gt_at 1562 (by decide +kernel) rfl, gt_at 1564 (by decide +kernel) rfl, gt_at 83 (by decide +kernel) rfl, gt_at 117 (by decide +kernel) rfl, gt_at 1565 (by decide +kernel) rfl⟩, by decide +kernel, by decide +kernel, by decide +kernel⟩
theorem sv_12_369 : zSV 12 369 yX12_writes cX12_writes 2 (some .boolean) 1 := ⟨⟨gt_at 1517 (by decide +kernel) rfl, gt_at 1519 (by decide +kernel) rfl, gt_at 74 (by decide +kernel) rfl, gt_at 117 (by decide +kernel) rfl, gt_at 1520 (by decide +kernel) rfl⟩, by decide +kernel, by decide +kernel, by decide +kernel⟩
noncomputable def pX12_goes_4 (S : ZS) : Nat → ZM → Int → Int → Int → Option (Int × ZM)
  | 0 => fun _ _ _ _ => none
  | n + 1 => fun M x0 x1 x2 => if S.1 x0 = 12 then if S.1 (M x0 1) = 100 ∧ (0 : Int) ≤ 2 ∧ 2 < S.2.1 (M x0 1) then if M (M x0 1) 2 ≤ x2 then ((pX12_drifts S M x0).bind fun q4 => (pX12_strikes S q4 x0 x1).bind fun q6 => if S.1 (q6 x0 1) = 100 ∧ (0 : Int) ≤ 4 ∧ 4 < S.2.1 (q6 x0 1) then zlet (upM q6 (q6 x0 1) 4 (w32 ((q6 (q6 x0 1) 4) + 1))) fun M9 => (pX12_fades S M9 x0).bind fun q10 => some (x1, q10) else none) else ((pX12_writes S M x0 x2).bind fun q12 => zlet (zor x1 (if q12.1 = 0 then (0 : Int) else (zshl 1 x2))) fun x15 => pX12_goes_4 S n q12.2 x0 x15 (w32 (x2 + 1))) else none else none
set_option maxHeartbeats 2000000 in
set_option maxRecDepth 20000 in
theorem pX12_goes_4_ok {C : ZC} {E : ZE} {S : ZS} {q : (Int × ZM)} (hX : zCx C E 12 cX12_goes 3 (some .int) false) (hRm : czR C = { frames := 6, cells := 0, slots := 0, locals := 154 }) : ∀ (n : Nat) (M : ZM) (x0 : Int) (x1 : Int) (x2 : Int), pX12_goes_4 S n M x0 x1 x2 = some q → zG C E 3 S 0 0 (zQ C E 0 0 (some (0, q.1)) S q.2) 4 [some (2, x0), some (0, x1), some (0, x2)] [] M := by
  intro n
  induction n with
  | zero => intro M x0 x1 x2 h; cases h
  | succ n ih =>
    intro M x0 x1 x2 h
    unfold pX12_goes_4 at h
    obtain ⟨g1, h⟩ := zif h
    obtain ⟨g2, h⟩ := zif h
    refine zG.blk (pc' := 11) (l' := [some (2, x0), some (0, x1), some (0, x2)]) (st' := [(0, M (M x0 1) 2), (0, x2)]) (M' := M) hX [(.iload_n 2, 0, 0, 0), (.aload_n 0, 0, 0, 0), (.getfield 9, 12, 1, 2), (.iconst 2, 0, 0, 0), (.iaload, 0, 0, 0)] (by decide +kernel) rfl (And.intro g1 (And.intro g2 trivial)) ?_
    refine zG.icmp_ge (tgt := 38) (off := 27) hX (by decide +kernel) (by decide) (fun c3 => ?_) (fun c3 => ?_)
    · have h := zip c3 h
      refine zG.blk (pc' := 39) (l' := [some (2, x0), some (0, x1), some (0, x2)]) (st' := [(2, x0)]) (M' := M) hX [(.aload_n 0, 0, 0, 0)] (by decide +kernel) rfl trivial ?_
      obtain ⟨q4, e5, h⟩ := zbd h
      refine zG.callV (b := x0) (av := []) (st := []) (ci := 12) hX (pX12_drifts_ok e5) sv_12_372 rfl ⟨by decide, rfl⟩ g1 (by decide +kernel) (by rw [hRm]; exact ⟨Nat.le_of_ble_eq_true rfl, Nat.le_of_ble_eq_true rfl⟩) (by rw [hRm]; exact ⟨Nat.le_of_ble_eq_true rfl, Nat.le_of_ble_eq_true rfl⟩) (Nat.le_of_ble_eq_true rfl) ?_
      show zG C E 3 S 0 0 _ 42 [some (2, x0), some (0, x1), some (0, x2)] [] q4
      refine zG.blk (pc' := 44) (l' := [some (2, x0), some (0, x1), some (0, x2)]) (st' := [(0, x1), (2, x0)]) (M' := q4) hX [(.aload_n 0, 0, 0, 0), (.iload_n 1, 0, 0, 0)] (by decide +kernel) rfl trivial ?_
      obtain ⟨q6, e7, h⟩ := zbd h
      refine zG.callV (b := x0) (av := [(0, x1)]) (st := []) (ci := 12) hX (pX12_strikes_ok e7) sv_12_375 rfl ⟨by decide, rfl⟩ g1 (by decide +kernel) (by rw [hRm]; exact ⟨Nat.le_of_ble_eq_true rfl, Nat.le_of_ble_eq_true rfl⟩) (by rw [hRm]; exact ⟨Nat.le_of_ble_eq_true rfl, Nat.le_of_ble_eq_true rfl⟩) (Nat.le_of_ble_eq_true rfl) ?_
      show zG C E 3 S 0 0 _ 47 [some (2, x0), some (0, x1), some (0, x2)] [] q6
      obtain ⟨g8, h⟩ := zif h
      refine zG.blk (pc' := 57) (l' := [some (2, x0), some (0, x1), some (0, x2)]) (st' := []) (M' := (upM q6 (q6 x0 1) 4 (w32 ((q6 (q6 x0 1) 4) + 1)))) hX [(.aload_n 0, 0, 0, 0), (.getfield 9, 12, 1, 2), (.iconst 4, 0, 0, 0), (.dup2, 0, 0, 0), (.iaload, 0, 0, 0), (.iconst 1, 0, 0, 0), (.iadd, 0, 0, 0), (.iastore, 0, 0, 0)] (by decide +kernel) rfl (And.intro g1 (And.intro g8 (And.intro g8 trivial))) ?_
      generalize upM q6 (q6 x0 1) 4 (w32 ((q6 (q6 x0 1) 4) + 1)) = M9 at h ⊢
      have h := zlt h
      refine zG.blk (pc' := 58) (l' := [some (2, x0), some (0, x1), some (0, x2)]) (st' := [(2, x0)]) (M' := M9) hX [(.aload_n 0, 0, 0, 0)] (by decide +kernel) rfl trivial ?_
      obtain ⟨q10, e11, h⟩ := zbd h
      refine zG.callV (b := x0) (av := []) (st := []) (ci := 12) hX (pX12_fades_ok e11) sv_12_378 rfl ⟨by decide, rfl⟩ g1 (by decide +kernel) (by rw [hRm]; exact ⟨Nat.le_of_ble_eq_true rfl, Nat.le_of_ble_eq_true rfl⟩) (by rw [hRm]; exact ⟨Nat.le_of_ble_eq_true rfl, Nat.le_of_ble_eq_true rfl⟩) (Nat.le_of_ble_eq_true rfl) ?_
      show zG C E 3 S 0 0 _ 61 [some (2, x0), some (0, x1), some (0, x2)] [] q10
      refine zG.blk (pc' := 62) (l' := [some (2, x0), some (0, x1), some (0, x2)]) (st' := [(0, x1)]) (M' := q10) hX [(.iload_n 1, 0, 0, 0)] (by decide +kernel) rfl trivial ?_
      cases h
      exact zG.iret hX (by decide +kernel)
    · have h := zin c3 h
      refine zG.blk (pc' := 17) (l' := [some (2, x0), some (0, x1), some (0, x2)]) (st' := [(0, x2), (2, x0), (0, x1)]) (M' := M) hX [(.iload_n 1, 0, 0, 0), (.aload_n 0, 0, 0, 0), (.iload_n 2, 0, 0, 0)] (by decide +kernel) rfl trivial ?_
      obtain ⟨q12, e13, h⟩ := zbd h
      refine zG.callV (b := x0) (av := [(0, x2)]) (st := [(0, x1)]) (ci := 12) hX (pX12_writes_ok e13) sv_12_369 rfl ⟨by decide, rfl⟩ g1 (by decide +kernel) (by rw [hRm]; exact ⟨Nat.le_of_ble_eq_true rfl, Nat.le_of_ble_eq_true rfl⟩) (by rw [hRm]; exact ⟨Nat.le_of_ble_eq_true rfl, Nat.le_of_ble_eq_true rfl⟩) (Nat.le_of_ble_eq_true rfl) ?_
      show zG C E 3 S 0 0 _ 20 [some (2, x0), some (0, x1), some (0, x2)] [(0, q12.1), (0, x1)] q12.2
      have key14 : zG C E 3 S 0 0 (zQ C E 0 0 (some (0, q.1)) S q.2) 30 [some (2, x0), some (0, x1), some (0, x2)] [(0, (if q12.1 = 0 then (0 : Int) else (zshl 1 x2))), (0, x1)] q12.2 := by
        refine zG.blk (pc' := 32) (l' := [some (2, x0), some (0, zor x1 (if q12.1 = 0 then (0 : Int) else (zshl 1 x2))), some (0, x2)]) (st' := []) (M' := q12.2) hX [(.ior, 0, 0, 0), (.istore_n 1, 0, 0, 0)] (by decide +kernel) rfl trivial ?_
        generalize zor x1 (if q12.1 = 0 then (0 : Int) else (zshl 1 x2)) = x15 at h ⊢
        have h := zlt h
        refine zG.blk (pc' := 35) (l' := [some (2, x0), some (0, x15), some (0, w32 (x2 + 1))]) (st' := []) (M' := q12.2) hX [(.iinc 2 1, 0, 0, 0)] (by decide +kernel) rfl trivial ?_
        refine zG.goto (tgt := 4) (off := (-31)) hX (by decide +kernel) (by decide) ?_
        exact ih _ _ _ _ h
      refine zG.if_eq (tgt := 29) (off := 9) hX (by decide +kernel) (by decide) (fun c16 => ?_) (fun c16 => ?_)
      · refine zG.blk (pc' := 30) (l' := [some (2, x0), some (0, x1), some (0, x2)]) (st' := [(0, 0), (0, x1)]) (M' := q12.2) hX [(.iconst 0, 0, 0, 0)] (by decide +kernel) rfl trivial ?_
        (have k := key14; simp only [if_pos c16] at k; exact k)
      · refine zG.blk (pc' := 26) (l' := [some (2, x0), some (0, x1), some (0, x2)]) (st' := [(0, zshl 1 x2), (0, x1)]) (M' := q12.2) hX [(.iconst 1, 0, 0, 0), (.iload_n 2, 0, 0, 0), (.ishl, 0, 0, 0)] (by decide +kernel) rfl trivial ?_
        refine zG.goto (tgt := 30) (off := 4) hX (by decide +kernel) (by decide) ?_
        (have k := key14; simp only [if_neg c16] at k; exact k)
noncomputable def pX12_goes (S : ZS) (M : ZM) (a0 : Int) : Option (Int × ZM) := pX12_goes_4 S zFU M a0 0 0
set_option maxHeartbeats 2000000 in
set_option maxRecDepth 20000 in
theorem pX12_goes_go {C : ZC} {E : ZE} {S : ZS} {M : ZM} {a0 : Int} {q : (Int × ZM)} (hX : zCx C E 12 cX12_goes 3 (some .int) false) (hRm : czR C = { frames := 6, cells := 0, slots := 0, locals := 154 }) (h : pX12_goes  S M a0 = some q) : zG C E 3 S 0 0 (zQ C E 0 0 (some (0, q.1)) S q.2) 0 [some (2, a0), none, none] [] M := by
  unfold pX12_goes at h
  refine zG.blk (pc' := 4) (l' := [some (2, a0), some (0, 0), some (0, 0)]) (st' := []) (M' := M) hX [(.iconst 0, 0, 0, 0), (.istore_n 1, 0, 0, 0), (.iconst 0, 0, 0, 0), (.istore_n 2, 0, 0, 0)] (by decide +kernel) rfl trivial ?_
  exact (pX12_goes_4_ok hX hRm zFU _ _ _ _ h)
theorem pX12_goes_ok {l : Launch} {E : ZE} {S : ZS} {M : ZM} {a0 : Int} {q : (Int × ZM)} (h : pX12_goes S M a0 = some q) : zMet l yX12_goes cX12_goes 3 (some .int) 6 154 0 0 E S M [(2, a0)] (some (0, q.1)) S q.2 :=
  zMet.of (o := 12) (ini := false) (by decide +kernel) rfl (fun h => by cases h) (Nat.le_of_ble_eq_true rfl) (fun C hX hl hRm => by subst hl; exact pX12_goes_go hX hRm h)
theorem sv_12_381 : zSV 12 381 yX12_goes cX12_goes 3 (some .int) 0 := ⟨⟨gt_at 1513 (by decide +kernel) rfl, gt_at 1515 (by decide +kernel) rfl, gt_at 73 (by decide +kernel) rfl, gt_at 117 (by decide +kernel) rfl, gt_at 1516 (by decide +kernel) rfl⟩, by decide +kernel, by decide +kernel, by decide +kernel⟩
noncomputable def pX12_goFor_2 (S : ZS) : Nat → ZM → Int → Int → Int → Option ZM
  | 0 => fun _ _ _ _ => none
  | n + 1 => fun M x0 x1 x2 => if x1 ≤ x2 then (some M) else (if S.1 x0 = 12 then (pX12_goes S M x0).bind fun q2 => pX12_goFor_2 S n q2.2 x0 x1 (w32 (x2 + 1)) else none)
set_option maxHeartbeats 2000000 in
set_option maxRecDepth 20000 in
theorem pX12_goFor_2_ok {C : ZC} {E : ZE} {S : ZS} {q : ZM} (hX : zCx C E 12 cX12_goFor 3 none false) (hRm : czR C = { frames := 7, cells := 0, slots := 0, locals := 176 }) : ∀ (n : Nat) (M : ZM) (x0 : Int) (x1 : Int) (x2 : Int), pX12_goFor_2 S n M x0 x1 x2 = some q → zG C E 3 S 0 0 (zQ C E 0 0 none S q) 2 [some (2, x0), some (0, x1), some (0, x2)] [] M := by
  intro n
  induction n with
  | zero => intro M x0 x1 x2 h; cases h
  | succ n ih =>
    intro M x0 x1 x2 h
    unfold pX12_goFor_2 at h
    refine zG.blk (pc' := 4) (l' := [some (2, x0), some (0, x1), some (0, x2)]) (st' := [(0, x1), (0, x2)]) (M' := M) hX [(.iload_n 2, 0, 0, 0), (.iload_n 1, 0, 0, 0)] (by decide +kernel) rfl trivial ?_
    refine zG.icmp_ge (tgt := 18) (off := 14) hX (by decide +kernel) (by decide) (fun c1 => ?_) (fun c1 => ?_)
    · have h := zip c1 h
      cases h
      exact zG.vret hX (by decide +kernel)
    · have h := zin c1 h
      refine zG.blk (pc' := 8) (l' := [some (2, x0), some (0, x1), some (0, x2)]) (st' := [(2, x0)]) (M' := M) hX [(.aload_n 0, 0, 0, 0)] (by decide +kernel) rfl trivial ?_
      obtain ⟨g4, h⟩ := zif h
      obtain ⟨q2, e3, h⟩ := zbd h
      refine zG.callV (b := x0) (av := []) (st := []) (ci := 12) hX (pX12_goes_ok e3) sv_12_381 rfl ⟨by decide, rfl⟩ g4 (by decide +kernel) (by rw [hRm]; exact ⟨Nat.le_of_ble_eq_true rfl, Nat.le_of_ble_eq_true rfl⟩) (by rw [hRm]; exact ⟨Nat.le_of_ble_eq_true rfl, Nat.le_of_ble_eq_true rfl⟩) (Nat.le_of_ble_eq_true rfl) ?_
      show zG C E 3 S 0 0 _ 11 [some (2, x0), some (0, x1), some (0, x2)] [(0, q2.1)] q2.2
      refine zG.blk (pc' := 15) (l' := [some (2, x0), some (0, x1), some (0, w32 (x2 + 1))]) (st' := []) (M' := q2.2) hX [(.pop, 0, 0, 0), (.iinc 2 1, 0, 0, 0)] (by decide +kernel) rfl trivial ?_
      refine zG.goto (tgt := 2) (off := (-13)) hX (by decide +kernel) (by decide) ?_
      exact ih _ _ _ _ h
noncomputable def pX12_goFor (S : ZS) (M : ZM) (a0 : Int) (a1 : Int) : Option ZM := pX12_goFor_2 S zFU M a0 a1 0
set_option maxHeartbeats 2000000 in
set_option maxRecDepth 20000 in
theorem pX12_goFor_go {C : ZC} {E : ZE} {S : ZS} {M : ZM} {a0 a1 : Int} {q : ZM} (hX : zCx C E 12 cX12_goFor 3 none false) (hRm : czR C = { frames := 7, cells := 0, slots := 0, locals := 176 }) (h : pX12_goFor  S M a0 a1 = some q) : zG C E 3 S 0 0 (zQ C E 0 0 none S q) 0 [some (2, a0), some (0, a1), none] [] M := by
  unfold pX12_goFor at h
  refine zG.blk (pc' := 2) (l' := [some (2, a0), some (0, a1), some (0, 0)]) (st' := []) (M' := M) hX [(.iconst 0, 0, 0, 0), (.istore_n 2, 0, 0, 0)] (by decide +kernel) rfl trivial ?_
  exact (pX12_goFor_2_ok hX hRm zFU _ _ _ _ h)
theorem pX12_goFor_ok {l : Launch} {E : ZE} {S : ZS} {M : ZM} {a0 a1 : Int} {q : ZM} (h : pX12_goFor S M a0 a1 = some q) : zMet l yX12_goFor cX12_goFor 3 none 7 176 0 0 E S M [(2, a0), (0, a1)] (none) S q :=
  zMet.of (o := 12) (ini := false) (by decide +kernel) rfl (fun h => by cases h) (Nat.le_of_ble_eq_true rfl) (fun C hX hl hRm => by subst hl; exact pX12_goFor_go hX hRm h)
noncomputable def pX12_in (S : ZS) (M : ZM) (a0 : Int) (a1 : Int) (a2 : Int) : Option (Int × ZM) := some ((if zcmp a0 a1 < 0 then (0 : Int) else (if 0 < zcmp a0 a2 then (0 : Int) else 1)), M)
set_option maxHeartbeats 2000000 in
set_option maxRecDepth 20000 in
theorem pX12_in_go {C : ZC} {E : ZE} {S : ZS} {M : ZM} {a0 a1 a2 : Int} {q : (Int × ZM)} (hX : zCx C E 12 cX12_in 6 (some .boolean) false) (hRm : czR C = { frames := 1, cells := 0, slots := 0, locals := 40 }) (h : pX12_in  S M a0 a1 a2 = some q) : zG C E 6 S 0 0 (zQ C E 0 0 (some (0, q.1)) S q.2) 0 [some (1, a0), none, some (1, a1), none, some (1, a2), none] [] M := by
  unfold pX12_in at h
  refine zG.blk (pc' := 3) (l' := [some (1, a0), none, some (1, a1), none, some (1, a2), none]) (st' := [(0, zcmp a0 a1)]) (M' := M) hX [(.lload_n 0, 0, 0, 0), (.lload_n 2, 0, 0, 0), (.lcmp, 0, 0, 0)] (by decide +kernel) rfl trivial ?_
  have key1 : zG C E 6 S 0 0 (zQ C E 0 0 (some (0, q.1)) S q.2) 18 [some (1, a0), none, some (1, a1), none, some (1, a2), none] [(0, (if zcmp a0 a1 < 0 then (0 : Int) else (if 0 < zcmp a0 a2 then (0 : Int) else 1)))] M := by
    cases h
    exact zG.zret hX (by decide +kernel) (z01_ite (Or.inl rfl) (z01_ite (Or.inl rfl) (Or.inr rfl)))
  refine zG.if_lt (tgt := 17) (off := 14) hX (by decide +kernel) (by decide) (fun c2 => ?_) (fun c2 => ?_)
  · refine zG.blk (pc' := 18) (l' := [some (1, a0), none, some (1, a1), none, some (1, a2), none]) (st' := [(0, 0)]) (M' := M) hX [(.iconst 0, 0, 0, 0)] (by decide +kernel) rfl trivial ?_
    (have k := key1; simp only [if_pos c2] at k; exact k)
  · refine zG.blk (pc' := 10) (l' := [some (1, a0), none, some (1, a1), none, some (1, a2), none]) (st' := [(0, zcmp a0 a2)]) (M' := M) hX [(.lload_n 0, 0, 0, 0), (.lload 4, 0, 0, 0), (.lcmp, 0, 0, 0)] (by decide +kernel) rfl trivial ?_
    refine zG.if_gt (tgt := 17) (off := 7) hX (by decide +kernel) (by decide) (fun c3 => ?_) (fun c3 => ?_)
    · refine zG.blk (pc' := 18) (l' := [some (1, a0), none, some (1, a1), none, some (1, a2), none]) (st' := [(0, 0)]) (M' := M) hX [(.iconst 0, 0, 0, 0)] (by decide +kernel) rfl trivial ?_
      (have k := key1; simp only [if_neg c2, if_pos c3] at k; exact k)
    · refine zG.blk (pc' := 14) (l' := [some (1, a0), none, some (1, a1), none, some (1, a2), none]) (st' := [(0, 1)]) (M' := M) hX [(.iconst 1, 0, 0, 0)] (by decide +kernel) rfl trivial ?_
      refine zG.goto (tgt := 18) (off := 4) hX (by decide +kernel) (by decide) ?_
      (have k := key1; simp only [if_neg c2, if_neg c3] at k; exact k)
theorem pX12_in_ok {l : Launch} {E : ZE} {S : ZS} {M : ZM} {a0 a1 a2 : Int} {q : (Int × ZM)} (h : pX12_in S M a0 a1 a2 = some q) : zMet l yX12_in cX12_in 6 (some .boolean) 1 40 0 0 E S M [(1, a0), (1, a1), (1, a2)] (some (0, q.1)) S q.2 :=
  zMet.of (o := 12) (ini := false) (by decide +kernel) rfl (fun h => by cases h) (Nat.le_of_ble_eq_true rfl) (fun C hX hl hRm => by subst hl; exact pX12_in_go hX hRm h)
theorem ss_12_138 : zSS 12 138 yX12_in cX12_in 6 (some .boolean) 3 := ⟨⟨gt_at 1367 (by decide +kernel) rfl, gt_at 1368 (by decide +kernel) rfl, gt_at 117 (by decide +kernel) rfl, gt_at 1369 (by decide +kernel) rfl⟩, by decide +kernel, by decide +kernel, by decide +kernel⟩
noncomputable def pX12_isCell (S : ZS) (M : ZM) (a0 : Int) (a1 : Int) : Option (Int × ZM) := if S.1 a0 = 12 then (pX12_cells S M a0).bind fun q1 => (pX12_in S q1.2 a1 0 (w32 (q1.1 - 1))).bind fun q4 => if q4.1 = 0 ∨ q4.1 = 1 then some (q4.1, q4.2) else none else none
set_option maxHeartbeats 2000000 in
set_option maxRecDepth 20000 in
theorem pX12_isCell_go {C : ZC} {E : ZE} {S : ZS} {M : ZM} {a0 a1 : Int} {q : (Int × ZM)} (hX : zCx C E 12 cX12_isCell 2 (some .boolean) false) (hRm : czR C = { frames := 2, cells := 0, slots := 0, locals := 65 }) (h : pX12_isCell  S M a0 a1 = some q) : zG C E 2 S 0 0 (zQ C E 0 0 (some (0, q.1)) S q.2) 0 [some (2, a0), some (0, a1)] [] M := by
  unfold pX12_isCell at h
  refine zG.blk (pc' := 4) (l' := [some (2, a0), some (0, a1)]) (st' := [(2, a0), (1, 0), (1, a1)]) (M' := M) hX [(.iload_n 1, 0, 0, 0), (.i2l, 0, 0, 0), (.lconst 0, 0, 0, 0), (.aload_n 0, 0, 0, 0)] (by decide +kernel) rfl trivial ?_
  obtain ⟨g3, h⟩ := zif h
  obtain ⟨q1, e2, h⟩ := zbd h
  refine zG.callV (b := a0) (av := []) (st := [(1, 0), (1, a1)]) (ci := 12) hX (pX12_cells_ok e2) sv_12_134 rfl ⟨by decide, rfl⟩ g3 (by decide +kernel) (by rw [hRm]; exact ⟨Nat.le_of_ble_eq_true rfl, Nat.le_of_ble_eq_true rfl⟩) (by rw [hRm]; exact ⟨Nat.le_of_ble_eq_true rfl, Nat.le_of_ble_eq_true rfl⟩) (Nat.le_of_ble_eq_true rfl) ?_
  show zG C E 2 S 0 0 _ 7 [some (2, a0), some (0, a1)] [(0, q1.1), (1, 0), (1, a1)] q1.2
  refine zG.blk (pc' := 10) (l' := [some (2, a0), some (0, a1)]) (st' := [(1, w32 (q1.1 - 1)), (1, 0), (1, a1)]) (M' := q1.2) hX [(.iconst 1, 0, 0, 0), (.isub, 0, 0, 0), (.i2l, 0, 0, 0)] (by decide +kernel) rfl trivial ?_
  obtain ⟨q4, e5, h⟩ := zbd h
  refine zG.callS (av := [(1, a1), (1, 0), (1, w32 (q1.1 - 1))]) (st := []) hX (pX12_in_ok e5) ss_12_138 rfl (by decide +kernel) (by rw [hRm]; exact ⟨Nat.le_of_ble_eq_true rfl, Nat.le_of_ble_eq_true rfl⟩) (by rw [hRm]; exact ⟨Nat.le_of_ble_eq_true rfl, Nat.le_of_ble_eq_true rfl⟩) (Nat.le_of_ble_eq_true rfl) ?_
  show zG C E 2 S 0 0 _ 13 [some (2, a0), some (0, a1)] [(0, q4.1)] q4.2
  obtain ⟨g6, h⟩ := zif h
  cases h
  exact zG.zret hX (by decide +kernel) g6
theorem pX12_isCell_ok {l : Launch} {E : ZE} {S : ZS} {M : ZM} {a0 a1 : Int} {q : (Int × ZM)} (h : pX12_isCell S M a0 a1 = some q) : zMet l yX12_isCell cX12_isCell 2 (some .boolean) 2 65 0 0 E S M [(2, a0), (0, a1)] (some (0, q.1)) S q.2 :=
  zMet.of (o := 12) (ini := false) (by decide +kernel) rfl (fun h => by cases h) (Nat.le_of_ble_eq_true rfl) (fun C hX hl hRm => by subst hl; exact pX12_isCell_go hX hRm h)
noncomputable def pX12_isPen (S : ZS) (M : ZM) (a0 : Int) (a1 : Int) : Option (Int × ZM) := if S.1 a0 = 12 then if S.1 (M a0 1) = 100 ∧ (0 : Int) ≤ 2 ∧ 2 < S.2.1 (M a0 1) then (pX12_in S M a1 0 (w32 ((M (M a0 1) 2) - 1))).bind fun q3 => if q3.1 = 0 ∨ q3.1 = 1 then some (q3.1, q3.2) else none else none else none
set_option maxHeartbeats 2000000 in
set_option maxRecDepth 20000 in
theorem pX12_isPen_go {C : ZC} {E : ZE} {S : ZS} {M : ZM} {a0 a1 : Int} {q : (Int × ZM)} (hX : zCx C E 12 cX12_isPen 2 (some .boolean) false) (hRm : czR C = { frames := 2, cells := 0, slots := 0, locals := 65 }) (h : pX12_isPen  S M a0 a1 = some q) : zG C E 2 S 0 0 (zQ C E 0 0 (some (0, q.1)) S q.2) 0 [some (2, a0), some (0, a1)] [] M := by
  unfold pX12_isPen at h
  obtain ⟨g1, h⟩ := zif h
  obtain ⟨g2, h⟩ := zif h
  refine zG.blk (pc' := 12) (l' := [some (2, a0), some (0, a1)]) (st' := [(1, w32 ((M (M a0 1) 2) - 1)), (1, 0), (1, a1)]) (M' := M) hX [(.iload_n 1, 0, 0, 0), (.i2l, 0, 0, 0), (.lconst 0, 0, 0, 0), (.aload_n 0, 0, 0, 0), (.getfield 9, 12, 1, 2), (.iconst 2, 0, 0, 0), (.iaload, 0, 0, 0), (.iconst 1, 0, 0, 0), (.isub, 0, 0, 0), (.i2l, 0, 0, 0)] (by decide +kernel) rfl (And.intro g1 (And.intro g2 trivial)) ?_
  obtain ⟨q3, e4, h⟩ := zbd h
  refine zG.callS (av := [(1, a1), (1, 0), (1, w32 ((M (M a0 1) 2) - 1))]) (st := []) hX (pX12_in_ok e4) ss_12_138 rfl (by decide +kernel) (by rw [hRm]; exact ⟨Nat.le_of_ble_eq_true rfl, Nat.le_of_ble_eq_true rfl⟩) (by rw [hRm]; exact ⟨Nat.le_of_ble_eq_true rfl, Nat.le_of_ble_eq_true rfl⟩) (Nat.le_of_ble_eq_true rfl) ?_
  show zG C E 2 S 0 0 _ 15 [some (2, a0), some (0, a1)] [(0, q3.1)] q3.2
  obtain ⟨g5, h⟩ := zif h
  cases h
  exact zG.zret hX (by decide +kernel) g5
theorem pX12_isPen_ok {l : Launch} {E : ZE} {S : ZS} {M : ZM} {a0 a1 : Int} {q : (Int × ZM)} (h : pX12_isPen S M a0 a1 = some q) : zMet l yX12_isPen cX12_isPen 2 (some .boolean) 2 65 0 0 E S M [(2, a0), (0, a1)] (some (0, q.1)) S q.2 :=
  zMet.of (o := 12) (ini := false) (by decide +kernel) rfl (fun h => by cases h) (Nat.le_of_ble_eq_true rfl) (fun C hX hl hRm => by subst hl; exact pX12_isPen_go hX hRm h)
noncomputable def pX12_isSky (S : ZS) (M : ZM) (a0 : Int) : Option (Int × ZM) := if S.1 a0 = 12 then if S.1 (M a0 1) = 100 ∧ (0 : Int) ≤ 0 ∧ 0 < S.2.1 (M a0 1) then some ((if M (M a0 1) 0 ≤ 0 then (0 : Int) else 1), M) else none else none
set_option maxHeartbeats 2000000 in
set_option maxRecDepth 20000 in
theorem pX12_isSky_go {C : ZC} {E : ZE} {S : ZS} {M : ZM} {a0 : Int} {q : (Int × ZM)} (hX : zCx C E 12 cX12_isSky 1 (some .boolean) false) (hRm : czR C = { frames := 1, cells := 0, slots := 0, locals := 40 }) (h : pX12_isSky  S M a0 = some q) : zG C E 1 S 0 0 (zQ C E 0 0 (some (0, q.1)) S q.2) 0 [some (2, a0)] [] M := by
  unfold pX12_isSky at h
  obtain ⟨g1, h⟩ := zif h
  obtain ⟨g2, h⟩ := zif h
  refine zG.blk (pc' := 6) (l' := [some (2, a0)]) (st' := [(0, M (M a0 1) 0)]) (M' := M) hX [(.aload_n 0, 0, 0, 0), (.getfield 9, 12, 1, 2), (.iconst 0, 0, 0, 0), (.iaload, 0, 0, 0)] (by decide +kernel) rfl (And.intro g1 (And.intro g2 trivial)) ?_
  have key3 : zG C E 1 S 0 0 (zQ C E 0 0 (some (0, q.1)) S q.2) 14 [some (2, a0)] [(0, (if M (M a0 1) 0 ≤ 0 then (0 : Int) else 1))] M := by
    cases h
    exact zG.zret hX (by decide +kernel) (z01_ite (Or.inl rfl) (Or.inr rfl))
  refine zG.if_le (tgt := 13) (off := 7) hX (by decide +kernel) (by decide) (fun c4 => ?_) (fun c4 => ?_)
  · refine zG.blk (pc' := 14) (l' := [some (2, a0)]) (st' := [(0, 0)]) (M' := M) hX [(.iconst 0, 0, 0, 0)] (by decide +kernel) rfl trivial ?_
    (have k := key3; simp only [if_pos c4] at k; exact k)
  · refine zG.blk (pc' := 10) (l' := [some (2, a0)]) (st' := [(0, 1)]) (M' := M) hX [(.iconst 1, 0, 0, 0)] (by decide +kernel) rfl trivial ?_
    refine zG.goto (tgt := 14) (off := 4) hX (by decide +kernel) (by decide) ?_
    (have k := key3; simp only [if_neg c4] at k; exact k)
theorem pX12_isSky_ok {l : Launch} {E : ZE} {S : ZS} {M : ZM} {a0 : Int} {q : (Int × ZM)} (h : pX12_isSky S M a0 = some q) : zMet l yX12_isSky cX12_isSky 1 (some .boolean) 1 40 0 0 E S M [(2, a0)] (some (0, q.1)) S q.2 :=
  zMet.of (o := 12) (ini := false) (by decide +kernel) rfl (fun h => by cases h) (Nat.le_of_ble_eq_true rfl) (fun C hX hl hRm => by subst hl; exact pX12_isSky_go hX hRm h)
noncomputable def pX12_carryRow_42 (S : ZS) (k2 : ZM → Int → Int → Int → Option ZM) (M : ZM) (x0 : Int) (x1 : Int) (x2 : Int) : Option ZM := if S.1 x0 = 12 then zlet (upM M x0 52 (w32 ((M x0 52) + 1))) fun M9 => k2 M9 x0 x1 (w32 (x2 + 1)) else none
set_option maxHeartbeats 2000000 in
set_option maxRecDepth 20000 in
theorem pX12_carryRow_42_ok {C : ZC} {E : ZE} {S : ZS} {k2 : ZM → Int → Int → Int → Option ZM} {q : ZM} (hX : zCx C E 12 cX12_carryRow 3 none false) (hRm : czR C = { frames := 1, cells := 0, slots := 0, locals := 40 }) (hk2 : ∀ M x0 x1 x2, k2 M x0 x1 x2 = some q → zG C E 3 S 0 0 (zQ C E 0 0 none S q) 2 [some (2, x0), some (2, x1), some (0, x2)] [] M) {M : ZM} {x0 : Int} {x1 : Int} {x2 : Int} (h : pX12_carryRow_42 S k2 M x0 x1 x2 = some q) : zG C E 3 S 0 0 (zQ C E 0 0 none S q) 42 [some (2, x0), some (2, x1), some (0, x2)] [] M := by
  unfold pX12_carryRow_42 at h
  obtain ⟨g8, h⟩ := zif h
  refine zG.blk (pc' := 52) (l' := [some (2, x0), some (2, x1), some (0, x2)]) (st' := []) (M' := (upM M x0 52 (w32 ((M x0 52) + 1)))) hX [(.aload_n 0, 0, 0, 0), (.dup, 0, 0, 0), (.getfield 501, 12, 52, 0), (.iconst 1, 0, 0, 0), (.iadd, 0, 0, 0), (.putfield 501, 12, 52, 0)] (by decide +kernel) rfl (And.intro g8 (And.intro g8 trivial)) ?_
  generalize upM M x0 52 (w32 ((M x0 52) + 1)) = M9 at h ⊢
  have h := zlt h
  refine zG.blk (pc' := 55) (l' := [some (2, x0), some (2, x1), some (0, w32 (x2 + 1))]) (st' := []) (M' := M9) hX [(.iinc 2 1, 0, 0, 0)] (by decide +kernel) rfl trivial ?_
  refine zG.goto (tgt := 2) (off := (-53)) hX (by decide +kernel) (by decide) ?_
  exact (hk2 _ _ _ _ h)
noncomputable def pX12_carryRow_2 (S : ZS) : Nat → ZM → Int → Int → Int → Option ZM
  | 0 => fun _ _ _ _ => none
  | n + 1 => fun M x0 x1 x2 => if S.1 x1 = 100 then if S.2.1 x1 ≤ x2 then (some M) else (if S.1 x0 = 12 then if M x0 53 = 0 then (if S.1 x1 = 100 ∧ (0 : Int) ≤ x2 ∧ x2 < S.2.1 x1 then if S.1 (M x0 50) = 100 ∧ (0 : Int) ≤ M x0 52 ∧ M x0 52 < S.2.1 (M x0 50) then zlet (upM M (M x0 50) (M x0 52) (M x1 x2)) fun M7 => pX12_carryRow_42 S (pX12_carryRow_2 S n) M7 x0 x1 x2 else none else none) else (if S.1 (M x0 50) = 100 ∧ (0 : Int) ≤ M x0 52 ∧ M x0 52 < S.2.1 (M x0 50) then if S.1 x1 = 100 ∧ (0 : Int) ≤ x2 ∧ x2 < S.2.1 x1 then zlet (upM M x1 x2 (M (M x0 50) (M x0 52))) fun M12 => pX12_carryRow_42 S (pX12_carryRow_2 S n) M12 x0 x1 x2 else none else none) else none) else none
set_option maxHeartbeats 2000000 in
set_option maxRecDepth 20000 in
theorem pX12_carryRow_2_ok {C : ZC} {E : ZE} {S : ZS} {q : ZM} (hX : zCx C E 12 cX12_carryRow 3 none false) (hRm : czR C = { frames := 1, cells := 0, slots := 0, locals := 40 }) : ∀ (n : Nat) (M : ZM) (x0 : Int) (x1 : Int) (x2 : Int), pX12_carryRow_2 S n M x0 x1 x2 = some q → zG C E 3 S 0 0 (zQ C E 0 0 none S q) 2 [some (2, x0), some (2, x1), some (0, x2)] [] M := by
  intro n
  induction n with
  | zero => intro M x0 x1 x2 h; cases h
  | succ n ih =>
    intro M x0 x1 x2 h
    unfold pX12_carryRow_2 at h
    obtain ⟨g1, h⟩ := zif h
    refine zG.blk (pc' := 5) (l' := [some (2, x0), some (2, x1), some (0, x2)]) (st' := [(0, S.2.1 x1), (0, x2)]) (M' := M) hX [(.iload_n 2, 0, 0, 0), (.aload_n 1, 0, 0, 0), (.arraylength, 100, 0, 0)] (by decide +kernel) rfl (And.intro g1 trivial) ?_
    refine zG.icmp_ge (tgt := 58) (off := 53) hX (by decide +kernel) (by decide) (fun c2 => ?_) (fun c2 => ?_)
    · have h := zip c2 h
      cases h
      exact zG.vret hX (by decide +kernel)
    · have h := zin c2 h
      obtain ⟨g3, h⟩ := zif h
      refine zG.blk (pc' := 12) (l' := [some (2, x0), some (2, x1), some (0, x2)]) (st' := [(0, M x0 53)]) (M' := M) hX [(.aload_n 0, 0, 0, 0), (.getfield 498, 12, 53, 5)] (by decide +kernel) rfl (And.intro g3 trivial) ?_
      refine zG.if_eq (tgt := 30) (off := 18) hX (by decide +kernel) (by decide) (fun c4 => ?_) (fun c4 => ?_)
      · have h := zip c4 h
        obtain ⟨g5, h⟩ := zif h
        obtain ⟨g6, h⟩ := zif h
        refine zG.blk (pc' := 42) (l' := [some (2, x0), some (2, x1), some (0, x2)]) (st' := []) (M' := (upM M (M x0 50) (M x0 52) (M x1 x2))) hX [(.aload_n 0, 0, 0, 0), (.getfield 124, 12, 50, 2), (.aload_n 0, 0, 0, 0), (.getfield 501, 12, 52, 0), (.aload_n 1, 0, 0, 0), (.iload_n 2, 0, 0, 0), (.iaload, 0, 0, 0), (.iastore, 0, 0, 0)] (by decide +kernel) rfl (And.intro g3 (And.intro g3 (And.intro g5 (And.intro g6 trivial)))) ?_
        generalize upM M (M x0 50) (M x0 52) (M x1 x2) = M7 at h ⊢
        have h := zlt h
        exact (pX12_carryRow_42_ok hX hRm ih h)
      · have h := zin c4 h
        obtain ⟨g10, h⟩ := zif h
        obtain ⟨g11, h⟩ := zif h
        refine zG.blk (pc' := 27) (l' := [some (2, x0), some (2, x1), some (0, x2)]) (st' := []) (M' := (upM M x1 x2 (M (M x0 50) (M x0 52)))) hX [(.aload_n 1, 0, 0, 0), (.iload_n 2, 0, 0, 0), (.aload_n 0, 0, 0, 0), (.getfield 124, 12, 50, 2), (.aload_n 0, 0, 0, 0), (.getfield 501, 12, 52, 0), (.iaload, 0, 0, 0), (.iastore, 0, 0, 0)] (by decide +kernel) rfl (And.intro g3 (And.intro g3 (And.intro g10 (And.intro g11 trivial)))) ?_
        generalize upM M x1 x2 (M (M x0 50) (M x0 52)) = M12 at h ⊢
        have h := zlt h
        refine zG.goto (tgt := 42) (off := 15) hX (by decide +kernel) (by decide) ?_
        exact (pX12_carryRow_42_ok hX hRm ih h)
noncomputable def pX12_carryRow (S : ZS) (M : ZM) (a0 : Int) (a1 : Int) : Option ZM := pX12_carryRow_2 S zFU M a0 a1 0
set_option maxHeartbeats 2000000 in
set_option maxRecDepth 20000 in
theorem pX12_carryRow_go {C : ZC} {E : ZE} {S : ZS} {M : ZM} {a0 a1 : Int} {q : ZM} (hX : zCx C E 12 cX12_carryRow 3 none false) (hRm : czR C = { frames := 1, cells := 0, slots := 0, locals := 40 }) (h : pX12_carryRow  S M a0 a1 = some q) : zG C E 3 S 0 0 (zQ C E 0 0 none S q) 0 [some (2, a0), some (2, a1), none] [] M := by
  unfold pX12_carryRow at h
  refine zG.blk (pc' := 2) (l' := [some (2, a0), some (2, a1), some (0, 0)]) (st' := []) (M' := M) hX [(.iconst 0, 0, 0, 0), (.istore_n 2, 0, 0, 0)] (by decide +kernel) rfl trivial ?_
  exact (pX12_carryRow_2_ok hX hRm zFU _ _ _ _ h)
theorem pX12_carryRow_ok {l : Launch} {E : ZE} {S : ZS} {M : ZM} {a0 a1 : Int} {q : ZM} (h : pX12_carryRow S M a0 a1 = some q) : zMet l yX12_carryRow cX12_carryRow 3 none 1 40 0 0 E S M [(2, a0), (2, a1)] (none) S q :=
  zMet.of (o := 12) (ini := false) (by decide +kernel) rfl (fun h => by cases h) (Nat.le_of_ble_eq_true rfl) (fun C hX hl hRm => by subst hl; exact pX12_carryRow_go hX hRm h)
theorem sv_12_504 : zSV 12 504 yX12_carryRow cX12_carryRow 3 none 1 := ⟨⟨gt_at 1597 (by decide +kernel) rfl, gt_at 1599 (by decide +kernel) rfl, gt_at 86 (by decide +kernel) rfl, gt_at 117 (by decide +kernel) rfl, gt_at 1600 (by decide +kernel) rfl⟩, by decide +kernel, by decide +kernel, by decide +kernel⟩
noncomputable def pX12_carriesAll_144 (S : ZS) (M : ZM) (x0 : Int) : Option ZM := if S.1 x0 = 12 then (pX12_carryRow S M x0 (M x0 13)).bind fun q40 => (pX12_carryRow S q40 x0 (q40 x0 40)).bind fun q42 => some q42 else none
set_option maxHeartbeats 2000000 in
set_option maxRecDepth 20000 in
theorem pX12_carriesAll_144_ok {C : ZC} {E : ZE} {S : ZS} {q : ZM} (hX : zCx C E 12 cX12_carriesAll 3 none false) (hRm : czR C = { frames := 2, cells := 0, slots := 0, locals := 62 }) {M : ZM} {x0 : Int} (h : pX12_carriesAll_144 S M x0 = some q) : zG C E 3 S 0 0 (zQ C E 0 0 none S q) 144 [some (2, x0), none, none] [] M := by
  unfold pX12_carriesAll_144 at h
  obtain ⟨g39, h⟩ := zif h
  refine zG.blk (pc' := 149) (l' := [some (2, x0), none, none]) (st' := [(2, M x0 13), (2, x0)]) (M' := M) hX [(.aload_n 0, 0, 0, 0), (.aload_n 0, 0, 0, 0), (.getfield 46, 12, 13, 2)] (by decide +kernel) rfl (And.intro g39 trivial) ?_
  obtain ⟨q40, e41, h⟩ := zbd h
  refine zG.callV (b := x0) (av := [(2, M x0 13)]) (st := []) (ci := 12) hX (pX12_carryRow_ok e41) sv_12_504 rfl ⟨by decide, rfl⟩ g39 (by decide +kernel) (by rw [hRm]; exact ⟨Nat.le_of_ble_eq_true rfl, Nat.le_of_ble_eq_true rfl⟩) (by rw [hRm]; exact ⟨Nat.le_of_ble_eq_true rfl, Nat.le_of_ble_eq_true rfl⟩) (Nat.le_of_ble_eq_true rfl) ?_
  show zG C E 3 S 0 0 _ 152 [some (2, x0), none, none] [] q40
  refine zG.blk (pc' := 157) (l' := [some (2, x0), none, none]) (st' := [(2, q40 x0 40), (2, x0)]) (M' := q40) hX [(.aload_n 0, 0, 0, 0), (.aload_n 0, 0, 0, 0), (.getfield 103, 12, 40, 2)] (by decide +kernel) rfl (And.intro g39 trivial) ?_
  obtain ⟨q42, e43, h⟩ := zbd h
  refine zG.callV (b := x0) (av := [(2, q40 x0 40)]) (st := []) (ci := 12) hX (pX12_carryRow_ok e43) sv_12_504 rfl ⟨by decide, rfl⟩ g39 (by decide +kernel) (by rw [hRm]; exact ⟨Nat.le_of_ble_eq_true rfl, Nat.le_of_ble_eq_true rfl⟩) (by rw [hRm]; exact ⟨Nat.le_of_ble_eq_true rfl, Nat.le_of_ble_eq_true rfl⟩) (Nat.le_of_ble_eq_true rfl) ?_
  show zG C E 3 S 0 0 _ 160 [some (2, x0), none, none] [] q42
  cases h
  exact zG.vret hX (by decide +kernel)
noncomputable def pX12_carriesAll_104 (S : ZS) (M : ZM) (x0 : Int) : Option ZM := if S.1 x0 = 12 then (pX12_carryRow S M x0 (M x0 8)).bind fun q29 => (pX12_carryRow S q29 x0 (q29 x0 9)).bind fun q31 => (pX12_carryRow S q31 x0 (q31 x0 10)).bind fun q33 => (pX12_carryRow S q33 x0 (q33 x0 11)).bind fun q35 => (pX12_carryRow S q35 x0 (q35 x0 12)).bind fun q37 => pX12_carriesAll_144 S q37 x0 else none
set_option maxHeartbeats 2000000 in
set_option maxRecDepth 20000 in
theorem pX12_carriesAll_104_ok {C : ZC} {E : ZE} {S : ZS} {q : ZM} (hX : zCx C E 12 cX12_carriesAll 3 none false) (hRm : czR C = { frames := 2, cells := 0, slots := 0, locals := 62 }) {M : ZM} {x0 : Int} (h : pX12_carriesAll_104 S M x0 = some q) : zG C E 3 S 0 0 (zQ C E 0 0 none S q) 104 [some (2, x0), none, none] [] M := by
  unfold pX12_carriesAll_104 at h
  obtain ⟨g28, h⟩ := zif h
  refine zG.blk (pc' := 109) (l' := [some (2, x0), none, none]) (st' := [(2, M x0 8), (2, x0)]) (M' := M) hX [(.aload_n 0, 0, 0, 0), (.aload_n 0, 0, 0, 0), (.getfield 31, 12, 8, 2)] (by decide +kernel) rfl (And.intro g28 trivial) ?_
  obtain ⟨q29, e30, h⟩ := zbd h
  refine zG.callV (b := x0) (av := [(2, M x0 8)]) (st := []) (ci := 12) hX (pX12_carryRow_ok e30) sv_12_504 rfl ⟨by decide, rfl⟩ g28 (by decide +kernel) (by rw [hRm]; exact ⟨Nat.le_of_ble_eq_true rfl, Nat.le_of_ble_eq_true rfl⟩) (by rw [hRm]; exact ⟨Nat.le_of_ble_eq_true rfl, Nat.le_of_ble_eq_true rfl⟩) (Nat.le_of_ble_eq_true rfl) ?_
  show zG C E 3 S 0 0 _ 112 [some (2, x0), none, none] [] q29
  refine zG.blk (pc' := 117) (l' := [some (2, x0), none, none]) (st' := [(2, q29 x0 9), (2, x0)]) (M' := q29) hX [(.aload_n 0, 0, 0, 0), (.aload_n 0, 0, 0, 0), (.getfield 34, 12, 9, 2)] (by decide +kernel) rfl (And.intro g28 trivial) ?_
  obtain ⟨q31, e32, h⟩ := zbd h
  refine zG.callV (b := x0) (av := [(2, q29 x0 9)]) (st := []) (ci := 12) hX (pX12_carryRow_ok e32) sv_12_504 rfl ⟨by decide, rfl⟩ g28 (by decide +kernel) (by rw [hRm]; exact ⟨Nat.le_of_ble_eq_true rfl, Nat.le_of_ble_eq_true rfl⟩) (by rw [hRm]; exact ⟨Nat.le_of_ble_eq_true rfl, Nat.le_of_ble_eq_true rfl⟩) (Nat.le_of_ble_eq_true rfl) ?_
  show zG C E 3 S 0 0 _ 120 [some (2, x0), none, none] [] q31
  refine zG.blk (pc' := 125) (l' := [some (2, x0), none, none]) (st' := [(2, q31 x0 10), (2, x0)]) (M' := q31) hX [(.aload_n 0, 0, 0, 0), (.aload_n 0, 0, 0, 0), (.getfield 37, 12, 10, 2)] (by decide +kernel) rfl (And.intro g28 trivial) ?_
  obtain ⟨q33, e34, h⟩ := zbd h
  refine zG.callV (b := x0) (av := [(2, q31 x0 10)]) (st := []) (ci := 12) hX (pX12_carryRow_ok e34) sv_12_504 rfl ⟨by decide, rfl⟩ g28 (by decide +kernel) (by rw [hRm]; exact ⟨Nat.le_of_ble_eq_true rfl, Nat.le_of_ble_eq_true rfl⟩) (by rw [hRm]; exact ⟨Nat.le_of_ble_eq_true rfl, Nat.le_of_ble_eq_true rfl⟩) (Nat.le_of_ble_eq_true rfl) ?_
  show zG C E 3 S 0 0 _ 128 [some (2, x0), none, none] [] q33
  refine zG.blk (pc' := 133) (l' := [some (2, x0), none, none]) (st' := [(2, q33 x0 11), (2, x0)]) (M' := q33) hX [(.aload_n 0, 0, 0, 0), (.aload_n 0, 0, 0, 0), (.getfield 40, 12, 11, 2)] (by decide +kernel) rfl (And.intro g28 trivial) ?_
  obtain ⟨q35, e36, h⟩ := zbd h
  refine zG.callV (b := x0) (av := [(2, q33 x0 11)]) (st := []) (ci := 12) hX (pX12_carryRow_ok e36) sv_12_504 rfl ⟨by decide, rfl⟩ g28 (by decide +kernel) (by rw [hRm]; exact ⟨Nat.le_of_ble_eq_true rfl, Nat.le_of_ble_eq_true rfl⟩) (by rw [hRm]; exact ⟨Nat.le_of_ble_eq_true rfl, Nat.le_of_ble_eq_true rfl⟩) (Nat.le_of_ble_eq_true rfl) ?_
  show zG C E 3 S 0 0 _ 136 [some (2, x0), none, none] [] q35
  refine zG.blk (pc' := 141) (l' := [some (2, x0), none, none]) (st' := [(2, q35 x0 12), (2, x0)]) (M' := q35) hX [(.aload_n 0, 0, 0, 0), (.aload_n 0, 0, 0, 0), (.getfield 43, 12, 12, 2)] (by decide +kernel) rfl (And.intro g28 trivial) ?_
  obtain ⟨q37, e38, h⟩ := zbd h
  refine zG.callV (b := x0) (av := [(2, q35 x0 12)]) (st := []) (ci := 12) hX (pX12_carryRow_ok e38) sv_12_504 rfl ⟨by decide, rfl⟩ g28 (by decide +kernel) (by rw [hRm]; exact ⟨Nat.le_of_ble_eq_true rfl, Nat.le_of_ble_eq_true rfl⟩) (by rw [hRm]; exact ⟨Nat.le_of_ble_eq_true rfl, Nat.le_of_ble_eq_true rfl⟩) (Nat.le_of_ble_eq_true rfl) ?_
  show zG C E 3 S 0 0 _ 144 [some (2, x0), none, none] [] q37
  exact (pX12_carriesAll_144_ok hX hRm h)
noncomputable def pX12_carriesAll_70 (S : ZS) (M : ZM) (x0 : Int) (x1 : Int) : Option ZM := if x1 = 4 then (some M) else (if S.1 x0 = 12 then if S.1 (M x0 41) = 100 ∧ (0 : Int) ≤ 0 ∧ 0 < S.2.1 (M x0 41) then zlet (upM M (M x0 41) 0 (M x0 42)) fun M23 => (pX12_carryRow S M23 x0 (M23 x0 41)).bind fun q24 => if S.1 (q24 x0 41) = 100 ∧ (0 : Int) ≤ 0 ∧ 0 < S.2.1 (q24 x0 41) then zlet (upM q24 x0 42 (q24 (q24 x0 41) 0)) fun M27 => pX12_carriesAll_104 S M27 x0 else none else none else none)
set_option maxHeartbeats 2000000 in
set_option maxRecDepth 20000 in
theorem pX12_carriesAll_70_ok {C : ZC} {E : ZE} {S : ZS} {q : ZM} (hX : zCx C E 12 cX12_carriesAll 3 none false) (hRm : czR C = { frames := 2, cells := 0, slots := 0, locals := 62 }) {M : ZM} {x0 : Int} {x1 : Int} (h : pX12_carriesAll_70 S M x0 x1 = some q) : zG C E 3 S 0 0 (zQ C E 0 0 none S q) 70 [some (2, x0), some (0, x1), none] [] M := by
  unfold pX12_carriesAll_70 at h
  refine zG.blk (pc' := 72) (l' := [some (2, x0), some (0, x1), none]) (st' := [(0, 4), (0, x1)]) (M' := M) hX [(.iload_n 1, 0, 0, 0), (.iconst 4, 0, 0, 0)] (by decide +kernel) rfl trivial ?_
  refine zG.icmp_ne (tgt := 76) (off := 4) hX (by decide +kernel) (by decide) (fun c20 => ?_) (fun c20 => ?_)
  · have h := zin c20 h
    obtain ⟨g21, h⟩ := zif h
    obtain ⟨g22, h⟩ := zif h
    refine zG.blk (pc' := 86) (l' := [some (2, x0), some (0, x1), none]) (st' := []) (M' := (upM M (M x0 41) 0 (M x0 42))) hX [(.aload_n 0, 0, 0, 0), (.getfield 106, 12, 41, 2), (.iconst 0, 0, 0, 0), (.aload_n 0, 0, 0, 0), (.getfield 305, 12, 42, 0), (.iastore, 0, 0, 0)] (by decide +kernel) rfl (And.intro g21 (And.intro g21 (And.intro g22 trivial))) ?_
    generalize upM M (M x0 41) 0 (M x0 42) = M23 at h ⊢
    have h := zlt h
    refine zG.blk (pc' := 91) (l' := [some (2, x0), some (0, x1), none]) (st' := [(2, M23 x0 41), (2, x0)]) (M' := M23) hX [(.aload_n 0, 0, 0, 0), (.aload_n 0, 0, 0, 0), (.getfield 106, 12, 41, 2)] (by decide +kernel) rfl (And.intro g21 trivial) ?_
    obtain ⟨q24, e25, h⟩ := zbd h
    refine zG.callV (b := x0) (av := [(2, M23 x0 41)]) (st := []) (ci := 12) hX (pX12_carryRow_ok e25) sv_12_504 rfl ⟨by decide, rfl⟩ g21 (by decide +kernel) (by rw [hRm]; exact ⟨Nat.le_of_ble_eq_true rfl, Nat.le_of_ble_eq_true rfl⟩) (by rw [hRm]; exact ⟨Nat.le_of_ble_eq_true rfl, Nat.le_of_ble_eq_true rfl⟩) (Nat.le_of_ble_eq_true rfl) ?_
    show zG C E 3 S 0 0 _ 94 [some (2, x0), some (0, x1), none] [] q24
    obtain ⟨g26, h⟩ := zif h
    refine zG.blk (pc' := 104) (l' := [some (2, x0), some (0, x1), none]) (st' := []) (M' := (upM q24 x0 42 (q24 (q24 x0 41) 0))) hX [(.aload_n 0, 0, 0, 0), (.aload_n 0, 0, 0, 0), (.getfield 106, 12, 41, 2), (.iconst 0, 0, 0, 0), (.iaload, 0, 0, 0), (.putfield 305, 12, 42, 0)] (by decide +kernel) rfl (And.intro g21 (And.intro g26 (And.intro g21 trivial))) ?_
    generalize upM q24 x0 42 (q24 (q24 x0 41) 0) = M27 at h ⊢
    have h := zlt h
    exact zG.wk [true, false, true] (pX12_carriesAll_104_ok hX hRm h)
  · have h := zip c20 h
    cases h
    exact zG.vret hX (by decide +kernel)
noncomputable def pX12_carriesAll_30 (S : ZS) (M : ZM) (x0 : Int) (x1 : Int) : Option ZM := if S.1 x0 = 12 then (pX12_carryRow S M x0 (M x0 3)).bind fun q10 => (pX12_carryRow S q10 x0 (q10 x0 4)).bind fun q12 => (pX12_carryRow S q12 x0 (q12 x0 5)).bind fun q14 => (pX12_carryRow S q14 x0 (q14 x0 6)).bind fun q16 => (pX12_carryRow S q16 x0 (q16 x0 7)).bind fun q18 => pX12_carriesAll_70 S q18 x0 x1 else none
set_option maxHeartbeats 2000000 in
set_option maxRecDepth 20000 in
theorem pX12_carriesAll_30_ok {C : ZC} {E : ZE} {S : ZS} {q : ZM} (hX : zCx C E 12 cX12_carriesAll 3 none false) (hRm : czR C = { frames := 2, cells := 0, slots := 0, locals := 62 }) {M : ZM} {x0 : Int} {x1 : Int} (h : pX12_carriesAll_30 S M x0 x1 = some q) : zG C E 3 S 0 0 (zQ C E 0 0 none S q) 30 [some (2, x0), some (0, x1), none] [] M := by
  unfold pX12_carriesAll_30 at h
  obtain ⟨g9, h⟩ := zif h
  refine zG.blk (pc' := 35) (l' := [some (2, x0), some (0, x1), none]) (st' := [(2, M x0 3), (2, x0)]) (M' := M) hX [(.aload_n 0, 0, 0, 0), (.aload_n 0, 0, 0, 0), (.getfield 16, 12, 3, 2)] (by decide +kernel) rfl (And.intro g9 trivial) ?_
  obtain ⟨q10, e11, h⟩ := zbd h
  refine zG.callV (b := x0) (av := [(2, M x0 3)]) (st := []) (ci := 12) hX (pX12_carryRow_ok e11) sv_12_504 rfl ⟨by decide, rfl⟩ g9 (by decide +kernel) (by rw [hRm]; exact ⟨Nat.le_of_ble_eq_true rfl, Nat.le_of_ble_eq_true rfl⟩) (by rw [hRm]; exact ⟨Nat.le_of_ble_eq_true rfl, Nat.le_of_ble_eq_true rfl⟩) (Nat.le_of_ble_eq_true rfl) ?_
  show zG C E 3 S 0 0 _ 38 [some (2, x0), some (0, x1), none] [] q10
  refine zG.blk (pc' := 43) (l' := [some (2, x0), some (0, x1), none]) (st' := [(2, q10 x0 4), (2, x0)]) (M' := q10) hX [(.aload_n 0, 0, 0, 0), (.aload_n 0, 0, 0, 0), (.getfield 19, 12, 4, 2)] (by decide +kernel) rfl (And.intro g9 trivial) ?_
  obtain ⟨q12, e13, h⟩ := zbd h
  refine zG.callV (b := x0) (av := [(2, q10 x0 4)]) (st := []) (ci := 12) hX (pX12_carryRow_ok e13) sv_12_504 rfl ⟨by decide, rfl⟩ g9 (by decide +kernel) (by rw [hRm]; exact ⟨Nat.le_of_ble_eq_true rfl, Nat.le_of_ble_eq_true rfl⟩) (by rw [hRm]; exact ⟨Nat.le_of_ble_eq_true rfl, Nat.le_of_ble_eq_true rfl⟩) (Nat.le_of_ble_eq_true rfl) ?_
  show zG C E 3 S 0 0 _ 46 [some (2, x0), some (0, x1), none] [] q12
  refine zG.blk (pc' := 51) (l' := [some (2, x0), some (0, x1), none]) (st' := [(2, q12 x0 5), (2, x0)]) (M' := q12) hX [(.aload_n 0, 0, 0, 0), (.aload_n 0, 0, 0, 0), (.getfield 22, 12, 5, 2)] (by decide +kernel) rfl (And.intro g9 trivial) ?_
  obtain ⟨q14, e15, h⟩ := zbd h
  refine zG.callV (b := x0) (av := [(2, q12 x0 5)]) (st := []) (ci := 12) hX (pX12_carryRow_ok e15) sv_12_504 rfl ⟨by decide, rfl⟩ g9 (by decide +kernel) (by rw [hRm]; exact ⟨Nat.le_of_ble_eq_true rfl, Nat.le_of_ble_eq_true rfl⟩) (by rw [hRm]; exact ⟨Nat.le_of_ble_eq_true rfl, Nat.le_of_ble_eq_true rfl⟩) (Nat.le_of_ble_eq_true rfl) ?_
  show zG C E 3 S 0 0 _ 54 [some (2, x0), some (0, x1), none] [] q14
  refine zG.blk (pc' := 59) (l' := [some (2, x0), some (0, x1), none]) (st' := [(2, q14 x0 6), (2, x0)]) (M' := q14) hX [(.aload_n 0, 0, 0, 0), (.aload_n 0, 0, 0, 0), (.getfield 25, 12, 6, 2)] (by decide +kernel) rfl (And.intro g9 trivial) ?_
  obtain ⟨q16, e17, h⟩ := zbd h
  refine zG.callV (b := x0) (av := [(2, q14 x0 6)]) (st := []) (ci := 12) hX (pX12_carryRow_ok e17) sv_12_504 rfl ⟨by decide, rfl⟩ g9 (by decide +kernel) (by rw [hRm]; exact ⟨Nat.le_of_ble_eq_true rfl, Nat.le_of_ble_eq_true rfl⟩) (by rw [hRm]; exact ⟨Nat.le_of_ble_eq_true rfl, Nat.le_of_ble_eq_true rfl⟩) (Nat.le_of_ble_eq_true rfl) ?_
  show zG C E 3 S 0 0 _ 62 [some (2, x0), some (0, x1), none] [] q16
  refine zG.blk (pc' := 67) (l' := [some (2, x0), some (0, x1), none]) (st' := [(2, q16 x0 7), (2, x0)]) (M' := q16) hX [(.aload_n 0, 0, 0, 0), (.aload_n 0, 0, 0, 0), (.getfield 28, 12, 7, 2)] (by decide +kernel) rfl (And.intro g9 trivial) ?_
  obtain ⟨q18, e19, h⟩ := zbd h
  refine zG.callV (b := x0) (av := [(2, q16 x0 7)]) (st := []) (ci := 12) hX (pX12_carryRow_ok e19) sv_12_504 rfl ⟨by decide, rfl⟩ g9 (by decide +kernel) (by rw [hRm]; exact ⟨Nat.le_of_ble_eq_true rfl, Nat.le_of_ble_eq_true rfl⟩) (by rw [hRm]; exact ⟨Nat.le_of_ble_eq_true rfl, Nat.le_of_ble_eq_true rfl⟩) (Nat.le_of_ble_eq_true rfl) ?_
  show zG C E 3 S 0 0 _ 70 [some (2, x0), some (0, x1), none] [] q18
  exact (pX12_carriesAll_70_ok hX hRm h)
noncomputable def pX12_carriesAll (S : ZS) (M : ZM) (a0 : Int) (a1 : Int) (a2 : Int) : Option ZM := if S.1 a0 = 12 then zlet (upM M a0 52 (w32 (2000 * a1))) fun M2 => if a2 = 0 ∨ a2 = 1 then zlet (upM M2 a0 53 a2) fun M4 => (pX12_carryRow S M4 a0 (M4 a0 1)).bind fun q5 => (pX12_carryRow S q5 a0 (q5 a0 2)).bind fun q7 => pX12_carriesAll_30 S q7 a0 a1 else none else none
set_option maxHeartbeats 2000000 in
set_option maxRecDepth 20000 in
theorem pX12_carriesAll_go {C : ZC} {E : ZE} {S : ZS} {M : ZM} {a0 a1 a2 : Int} {q : ZM} (hX : zCx C E 12 cX12_carriesAll 3 none false) (hRm : czR C = { frames := 2, cells := 0, slots := 0, locals := 62 }) (h : pX12_carriesAll  S M a0 a1 a2 = some q) : zG C E 3 S 0 0 (zQ C E 0 0 none S q) 0 [some (2, a0), some (0, a1), some (0, a2)] [] M := by
  unfold pX12_carriesAll at h
  obtain ⟨g1, h⟩ := zif h
  refine zG.blk (pc' := 9) (l' := [some (2, a0), some (0, a1), some (0, a2)]) (st' := []) (M' := (upM M a0 52 (w32 (2000 * a1)))) hX [(.aload_n 0, 0, 0, 0), (.sipush 2000, 0, 0, 0), (.iload_n 1, 0, 0, 0), (.imul, 0, 0, 0), (.putfield 501, 12, 52, 0)] (by decide +kernel) rfl (And.intro g1 trivial) ?_
  generalize upM M a0 52 (w32 (2000 * a1)) = M2 at h ⊢
  have h := zlt h
  obtain ⟨g3, h⟩ := zif h
  refine zG.blk (pc' := 14) (l' := [some (2, a0), some (0, a1), some (0, a2)]) (st' := []) (M' := (upM M2 a0 53 a2)) hX [(.aload_n 0, 0, 0, 0), (.iload_n 2, 0, 0, 0), (.putfield 498, 12, 53, 5)] (by decide +kernel) rfl (And.intro g1 (And.intro g3 trivial)) ?_
  generalize upM M2 a0 53 a2 = M4 at h ⊢
  have h := zlt h
  refine zG.blk (pc' := 19) (l' := [some (2, a0), some (0, a1), some (0, a2)]) (st' := [(2, M4 a0 1), (2, a0)]) (M' := M4) hX [(.aload_n 0, 0, 0, 0), (.aload_n 0, 0, 0, 0), (.getfield 9, 12, 1, 2)] (by decide +kernel) rfl (And.intro g1 trivial) ?_
  obtain ⟨q5, e6, h⟩ := zbd h
  refine zG.callV (b := a0) (av := [(2, M4 a0 1)]) (st := []) (ci := 12) hX (pX12_carryRow_ok e6) sv_12_504 rfl ⟨by decide, rfl⟩ g1 (by decide +kernel) (by rw [hRm]; exact ⟨Nat.le_of_ble_eq_true rfl, Nat.le_of_ble_eq_true rfl⟩) (by rw [hRm]; exact ⟨Nat.le_of_ble_eq_true rfl, Nat.le_of_ble_eq_true rfl⟩) (Nat.le_of_ble_eq_true rfl) ?_
  show zG C E 3 S 0 0 _ 22 [some (2, a0), some (0, a1), some (0, a2)] [] q5
  refine zG.blk (pc' := 27) (l' := [some (2, a0), some (0, a1), some (0, a2)]) (st' := [(2, q5 a0 2), (2, a0)]) (M' := q5) hX [(.aload_n 0, 0, 0, 0), (.aload_n 0, 0, 0, 0), (.getfield 13, 12, 2, 2)] (by decide +kernel) rfl (And.intro g1 trivial) ?_
  obtain ⟨q7, e8, h⟩ := zbd h
  refine zG.callV (b := a0) (av := [(2, q5 a0 2)]) (st := []) (ci := 12) hX (pX12_carryRow_ok e8) sv_12_504 rfl ⟨by decide, rfl⟩ g1 (by decide +kernel) (by rw [hRm]; exact ⟨Nat.le_of_ble_eq_true rfl, Nat.le_of_ble_eq_true rfl⟩) (by rw [hRm]; exact ⟨Nat.le_of_ble_eq_true rfl, Nat.le_of_ble_eq_true rfl⟩) (Nat.le_of_ble_eq_true rfl) ?_
  show zG C E 3 S 0 0 _ 30 [some (2, a0), some (0, a1), some (0, a2)] [] q7
  exact zG.wk [true, true, false] (pX12_carriesAll_30_ok hX hRm h)
theorem pX12_carriesAll_ok {l : Launch} {E : ZE} {S : ZS} {M : ZM} {a0 a1 a2 : Int} {q : ZM} (h : pX12_carriesAll S M a0 a1 a2 = some q) : zMet l yX12_carriesAll cX12_carriesAll 3 none 2 62 0 0 E S M [(2, a0), (0, a1), (0, a2)] (none) S q :=
  zMet.of (o := 12) (ini := false) (by decide +kernel) rfl (fun h => by cases h) (Nat.le_of_ble_eq_true rfl) (fun C hX hl hRm => by subst hl; exact pX12_carriesAll_go hX hRm h)
theorem sv_12_410 : zSV 12 410 yX12_carriesAll cX12_carriesAll 3 none 2 := ⟨⟨gt_at 1593 (by decide +kernel) rfl, gt_at 1595 (by decide +kernel) rfl, gt_at 85 (by decide +kernel) rfl, gt_at 117 (by decide +kernel) rfl, gt_at 1596 (by decide +kernel) rfl⟩, by decide +kernel, by decide +kernel, by decide +kernel⟩
noncomputable def pX12_keepsAll (S : ZS) (M : ZM) (a0 : Int) : Option ZM := if S.1 a0 = 12 then (pX12_carriesAll S M a0 4 0).bind fun q1 => some q1 else none
set_option maxHeartbeats 2000000 in
set_option maxRecDepth 20000 in
theorem pX12_keepsAll_go {C : ZC} {E : ZE} {S : ZS} {M : ZM} {a0 : Int} {q : ZM} (hX : zCx C E 12 cX12_keepsAll 1 none false) (hRm : czR C = { frames := 3, cells := 0, slots := 0, locals := 84 }) (h : pX12_keepsAll  S M a0 = some q) : zG C E 1 S 0 0 (zQ C E 0 0 none S q) 0 [some (2, a0)] [] M := by
  unfold pX12_keepsAll at h
  refine zG.blk (pc' := 3) (l' := [some (2, a0)]) (st' := [(0, 0), (0, 4), (2, a0)]) (M' := M) hX [(.aload_n 0, 0, 0, 0), (.iconst 4, 0, 0, 0), (.iconst 0, 0, 0, 0)] (by decide +kernel) rfl trivial ?_
  obtain ⟨g3, h⟩ := zif h
  obtain ⟨q1, e2, h⟩ := zbd h
  refine zG.callV (b := a0) (av := [(0, 4), (0, 0)]) (st := []) (ci := 12) hX (pX12_carriesAll_ok e2) sv_12_410 rfl ⟨by decide, rfl⟩ g3 (by decide +kernel) (by rw [hRm]; exact ⟨Nat.le_of_ble_eq_true rfl, Nat.le_of_ble_eq_true rfl⟩) (by rw [hRm]; exact ⟨Nat.le_of_ble_eq_true rfl, Nat.le_of_ble_eq_true rfl⟩) (Nat.le_of_ble_eq_true rfl) ?_
  show zG C E 1 S 0 0 _ 6 [some (2, a0)] [] q1
  cases h
  exact zG.vret hX (by decide +kernel)
theorem pX12_keepsAll_ok {l : Launch} {E : ZE} {S : ZS} {M : ZM} {a0 : Int} {q : ZM} (h : pX12_keepsAll S M a0 = some q) : zMet l yX12_keepsAll cX12_keepsAll 1 none 3 84 0 0 E S M [(2, a0)] (none) S q :=
  zMet.of (o := 12) (ini := false) (by decide +kernel) rfl (fun h => by cases h) (Nat.le_of_ble_eq_true rfl) (fun C hX hl hRm => by subst hl; exact pX12_keepsAll_go hX hRm h)
noncomputable def pX12_laysBack (S : ZS) (M : ZM) (a0 : Int) : Option ZM := if S.1 a0 = 12 then (pX12_carriesAll S M a0 4 1).bind fun q1 => some q1 else none
set_option maxHeartbeats 2000000 in
set_option maxRecDepth 20000 in
theorem pX12_laysBack_go {C : ZC} {E : ZE} {S : ZS} {M : ZM} {a0 : Int} {q : ZM} (hX : zCx C E 12 cX12_laysBack 1 none false) (hRm : czR C = { frames := 3, cells := 0, slots := 0, locals := 84 }) (h : pX12_laysBack  S M a0 = some q) : zG C E 1 S 0 0 (zQ C E 0 0 none S q) 0 [some (2, a0)] [] M := by
  unfold pX12_laysBack at h
  refine zG.blk (pc' := 3) (l' := [some (2, a0)]) (st' := [(0, 1), (0, 4), (2, a0)]) (M' := M) hX [(.aload_n 0, 0, 0, 0), (.iconst 4, 0, 0, 0), (.iconst 1, 0, 0, 0)] (by decide +kernel) rfl trivial ?_
  obtain ⟨g3, h⟩ := zif h
  obtain ⟨q1, e2, h⟩ := zbd h
  refine zG.callV (b := a0) (av := [(0, 4), (0, 1)]) (st := []) (ci := 12) hX (pX12_carriesAll_ok e2) sv_12_410 rfl ⟨by decide, rfl⟩ g3 (by decide +kernel) (by rw [hRm]; exact ⟨Nat.le_of_ble_eq_true rfl, Nat.le_of_ble_eq_true rfl⟩) (by rw [hRm]; exact ⟨Nat.le_of_ble_eq_true rfl, Nat.le_of_ble_eq_true rfl⟩) (Nat.le_of_ble_eq_true rfl) ?_
  show zG C E 1 S 0 0 _ 6 [some (2, a0)] [] q1
  cases h
  exact zG.vret hX (by decide +kernel)
theorem pX12_laysBack_ok {l : Launch} {E : ZE} {S : ZS} {M : ZM} {a0 : Int} {q : ZM} (h : pX12_laysBack S M a0 = some q) : zMet l yX12_laysBack cX12_laysBack 1 none 3 84 0 0 E S M [(2, a0)] (none) S q :=
  zMet.of (o := 12) (ini := false) (by decide +kernel) rfl (fun h => by cases h) (Nat.le_of_ble_eq_true rfl) (fun C hX hl hRm => by subst hl; exact pX12_laysBack_go hX hRm h)
noncomputable def pX12_like_43 (S : ZS) (k4 : ZM → Int → Int → Int → Option (Int × ZM)) (M : ZM) (x0 : Int) (x2 : Int) (y0 : Int) (y1 : Int) (y2 : Int) : Option (Int × ZM) := k4 M x0 (w32 (y2 + (if y1 = y0 then (1 : Int) else 0))) (w32 (x2 + 1))
set_option maxHeartbeats 2000000 in
set_option maxRecDepth 20000 in
theorem pX12_like_43_ok {C : ZC} {E : ZE} {S : ZS} {k4 : ZM → Int → Int → Int → Option (Int × ZM)} {q : (Int × ZM)} (hX : zCx C E 12 cX12_like 3 (some .int) false) (hRm : czR C = { frames := 2, cells := 0, slots := 0, locals := 60 }) (hk4 : ∀ M x0 x1 x2, k4 M x0 x1 x2 = some q → zG C E 3 S 0 0 (zQ C E 0 0 (some (0, q.1)) S q.2) 4 [some (2, x0), some (0, x1), some (0, x2)] [] M) {M : ZM} {x0 : Int} {x2 : Int} {y0 : Int} {y1 : Int} {y2 : Int} (h : pX12_like_43 S k4 M x0 x2 y0 y1 y2 = some q) : zG C E 3 S 0 0 (zQ C E 0 0 (some (0, q.1)) S q.2) 43 [some (2, x0), none, some (0, x2)] [(0, y0), (0, y1), (0, y2)] M := by
  unfold pX12_like_43 at h
  have key10 : zG C E 3 S 0 0 (zQ C E 0 0 (some (0, q.1)) S q.2) 51 [some (2, x0), none, some (0, x2)] [(0, (if y1 = y0 then (1 : Int) else 0)), (0, y2)] M := by
    refine zG.blk (pc' := 56) (l' := [some (2, x0), some (0, w32 (y2 + (if y1 = y0 then (1 : Int) else 0))), some (0, w32 (x2 + 1))]) (st' := []) (M' := M) hX [(.iadd, 0, 0, 0), (.istore_n 1, 0, 0, 0), (.iinc 2 1, 0, 0, 0)] (by decide +kernel) rfl trivial ?_
    refine zG.goto (tgt := 4) (off := (-52)) hX (by decide +kernel) (by decide) ?_
    exact (hk4 _ _ _ _ h)
  refine zG.icmp_ne (tgt := 50) (off := 7) hX (by decide +kernel) (by decide) (fun c11 => ?_) (fun c11 => ?_)
  · refine zG.blk (pc' := 51) (l' := [some (2, x0), none, some (0, x2)]) (st' := [(0, 0), (0, y2)]) (M' := M) hX [(.iconst 0, 0, 0, 0)] (by decide +kernel) rfl trivial ?_
    (have k := key10; simp only [if_neg c11] at k; exact k)
  · refine zG.blk (pc' := 47) (l' := [some (2, x0), none, some (0, x2)]) (st' := [(0, 1), (0, y2)]) (M' := M) hX [(.iconst 1, 0, 0, 0)] (by decide +kernel) rfl trivial ?_
    refine zG.goto (tgt := 51) (off := 4) hX (by decide +kernel) (by decide) ?_
    (have k := key10; simp only [if_pos c11] at k; exact k)
noncomputable def pX12_like_28 (S : ZS) (k4 : ZM → Int → Int → Int → Option (Int × ZM)) (M : ZM) (x0 : Int) (x2 : Int) (y0 : Int) (y1 : Int) : Option (Int × ZM) := if S.1 x0 = 12 then if S.1 (M x0 8) = 100 ∧ (0 : Int) ≤ x2 ∧ x2 < S.2.1 (M x0 8) then pX12_like_43 S k4 M x0 x2 (if M (M x0 8) x2 = 1 then (1 : Int) else 0) y0 y1 else none else none
set_option maxHeartbeats 2000000 in
set_option maxRecDepth 20000 in
theorem pX12_like_28_ok {C : ZC} {E : ZE} {S : ZS} {k4 : ZM → Int → Int → Int → Option (Int × ZM)} {q : (Int × ZM)} (hX : zCx C E 12 cX12_like 3 (some .int) false) (hRm : czR C = { frames := 2, cells := 0, slots := 0, locals := 60 }) (hk4 : ∀ M x0 x1 x2, k4 M x0 x1 x2 = some q → zG C E 3 S 0 0 (zQ C E 0 0 (some (0, q.1)) S q.2) 4 [some (2, x0), some (0, x1), some (0, x2)] [] M) {M : ZM} {x0 : Int} {x2 : Int} {y0 : Int} {y1 : Int} (h : pX12_like_28 S k4 M x0 x2 y0 y1 = some q) : zG C E 3 S 0 0 (zQ C E 0 0 (some (0, q.1)) S q.2) 28 [some (2, x0), none, some (0, x2)] [(0, y0), (0, y1)] M := by
  unfold pX12_like_28 at h
  obtain ⟨g7, h⟩ := zif h
  obtain ⟨g8, h⟩ := zif h
  refine zG.blk (pc' := 35) (l' := [some (2, x0), none, some (0, x2)]) (st' := [(0, 1), (0, M (M x0 8) x2), (0, y0), (0, y1)]) (M' := M) hX [(.aload_n 0, 0, 0, 0), (.getfield 31, 12, 8, 2), (.iload_n 2, 0, 0, 0), (.iaload, 0, 0, 0), (.iconst 1, 0, 0, 0)] (by decide +kernel) rfl (And.intro g7 (And.intro g8 trivial)) ?_
  have key9 : zG C E 3 S 0 0 (zQ C E 0 0 (some (0, q.1)) S q.2) 43 [some (2, x0), none, some (0, x2)] [(0, (if M (M x0 8) x2 = 1 then (1 : Int) else 0)), (0, y0), (0, y1)] M := by
    exact (pX12_like_43_ok hX hRm hk4 h)
  refine zG.icmp_ne (tgt := 42) (off := 7) hX (by decide +kernel) (by decide) (fun c12 => ?_) (fun c12 => ?_)
  · refine zG.blk (pc' := 43) (l' := [some (2, x0), none, some (0, x2)]) (st' := [(0, 0), (0, y0), (0, y1)]) (M' := M) hX [(.iconst 0, 0, 0, 0)] (by decide +kernel) rfl trivial ?_
    (have k := key9; simp only [if_neg c12] at k; exact k)
  · refine zG.blk (pc' := 39) (l' := [some (2, x0), none, some (0, x2)]) (st' := [(0, 1), (0, y0), (0, y1)]) (M' := M) hX [(.iconst 1, 0, 0, 0)] (by decide +kernel) rfl trivial ?_
    refine zG.goto (tgt := 43) (off := 4) hX (by decide +kernel) (by decide) ?_
    (have k := key9; simp only [if_pos c12] at k; exact k)
noncomputable def pX12_like_4 (S : ZS) : Nat → ZM → Int → Int → Int → Option (Int × ZM)
  | 0 => fun _ _ _ _ => none
  | n + 1 => fun M x0 x1 x2 => if S.1 x0 = 12 then (pX12_cells S M x0).bind fun q1 => if q1.1 ≤ x2 then (some (x1, q1.2)) else (if S.1 (q1.2 x0 4) = 100 ∧ (0 : Int) ≤ x2 ∧ x2 < S.2.1 (q1.2 x0 4) then pX12_like_28 S (pX12_like_4 S n) q1.2 x0 x2 (if q1.2 (q1.2 x0 4) x2 = (-1) then (0 : Int) else 1) x1 else none) else none
set_option maxHeartbeats 2000000 in
set_option maxRecDepth 20000 in
theorem pX12_like_4_ok {C : ZC} {E : ZE} {S : ZS} {q : (Int × ZM)} (hX : zCx C E 12 cX12_like 3 (some .int) false) (hRm : czR C = { frames := 2, cells := 0, slots := 0, locals := 60 }) : ∀ (n : Nat) (M : ZM) (x0 : Int) (x1 : Int) (x2 : Int), pX12_like_4 S n M x0 x1 x2 = some q → zG C E 3 S 0 0 (zQ C E 0 0 (some (0, q.1)) S q.2) 4 [some (2, x0), some (0, x1), some (0, x2)] [] M := by
  intro n
  induction n with
  | zero => intro M x0 x1 x2 h; cases h
  | succ n ih =>
    intro M x0 x1 x2 h
    unfold pX12_like_4 at h
    refine zG.blk (pc' := 6) (l' := [some (2, x0), some (0, x1), some (0, x2)]) (st' := [(2, x0), (0, x2)]) (M' := M) hX [(.iload_n 2, 0, 0, 0), (.aload_n 0, 0, 0, 0)] (by decide +kernel) rfl trivial ?_
    obtain ⟨g3, h⟩ := zif h
    obtain ⟨q1, e2, h⟩ := zbd h
    refine zG.callV (b := x0) (av := []) (st := [(0, x2)]) (ci := 12) hX (pX12_cells_ok e2) sv_12_134 rfl ⟨by decide, rfl⟩ g3 (by decide +kernel) (by rw [hRm]; exact ⟨Nat.le_of_ble_eq_true rfl, Nat.le_of_ble_eq_true rfl⟩) (by rw [hRm]; exact ⟨Nat.le_of_ble_eq_true rfl, Nat.le_of_ble_eq_true rfl⟩) (Nat.le_of_ble_eq_true rfl) ?_
    show zG C E 3 S 0 0 _ 9 [some (2, x0), some (0, x1), some (0, x2)] [(0, q1.1), (0, x2)] q1.2
    refine zG.icmp_ge (tgt := 59) (off := 50) hX (by decide +kernel) (by decide) (fun c4 => ?_) (fun c4 => ?_)
    · have h := zip c4 h
      refine zG.blk (pc' := 60) (l' := [some (2, x0), some (0, x1), some (0, x2)]) (st' := [(0, x1)]) (M' := q1.2) hX [(.iload_n 1, 0, 0, 0)] (by decide +kernel) rfl trivial ?_
      cases h
      exact zG.iret hX (by decide +kernel)
    · have h := zin c4 h
      obtain ⟨g5, h⟩ := zif h
      refine zG.blk (pc' := 20) (l' := [some (2, x0), some (0, x1), some (0, x2)]) (st' := [(0, (-1)), (0, q1.2 (q1.2 x0 4) x2), (0, x1)]) (M' := q1.2) hX [(.iload_n 1, 0, 0, 0), (.aload_n 0, 0, 0, 0), (.getfield 19, 12, 4, 2), (.iload_n 2, 0, 0, 0), (.iaload, 0, 0, 0), (.iconst (-1), 0, 0, 0)] (by decide +kernel) rfl (And.intro g3 (And.intro g5 trivial)) ?_
      have key6 : zG C E 3 S 0 0 (zQ C E 0 0 (some (0, q.1)) S q.2) 28 [some (2, x0), some (0, x1), some (0, x2)] [(0, (if q1.2 (q1.2 x0 4) x2 = (-1) then (0 : Int) else 1)), (0, x1)] q1.2 := by
        exact zG.wk [true, false, true] (pX12_like_28_ok hX hRm ih h)
      refine zG.icmp_eq (tgt := 27) (off := 7) hX (by decide +kernel) (by decide) (fun c13 => ?_) (fun c13 => ?_)
      · refine zG.blk (pc' := 28) (l' := [some (2, x0), some (0, x1), some (0, x2)]) (st' := [(0, 0), (0, x1)]) (M' := q1.2) hX [(.iconst 0, 0, 0, 0)] (by decide +kernel) rfl trivial ?_
        (have k := key6; simp only [if_pos c13] at k; exact k)
      · refine zG.blk (pc' := 24) (l' := [some (2, x0), some (0, x1), some (0, x2)]) (st' := [(0, 1), (0, x1)]) (M' := q1.2) hX [(.iconst 1, 0, 0, 0)] (by decide +kernel) rfl trivial ?_
        refine zG.goto (tgt := 28) (off := 4) hX (by decide +kernel) (by decide) ?_
        (have k := key6; simp only [if_neg c13] at k; exact k)
noncomputable def pX12_like (S : ZS) (M : ZM) (a0 : Int) : Option (Int × ZM) := pX12_like_4 S zFU M a0 0 0
set_option maxHeartbeats 2000000 in
set_option maxRecDepth 20000 in
theorem pX12_like_go {C : ZC} {E : ZE} {S : ZS} {M : ZM} {a0 : Int} {q : (Int × ZM)} (hX : zCx C E 12 cX12_like 3 (some .int) false) (hRm : czR C = { frames := 2, cells := 0, slots := 0, locals := 60 }) (h : pX12_like  S M a0 = some q) : zG C E 3 S 0 0 (zQ C E 0 0 (some (0, q.1)) S q.2) 0 [some (2, a0), none, none] [] M := by
  unfold pX12_like at h
  refine zG.blk (pc' := 4) (l' := [some (2, a0), some (0, 0), some (0, 0)]) (st' := []) (M' := M) hX [(.iconst 0, 0, 0, 0), (.istore_n 1, 0, 0, 0), (.iconst 0, 0, 0, 0), (.istore_n 2, 0, 0, 0)] (by decide +kernel) rfl trivial ?_
  exact (pX12_like_4_ok hX hRm zFU _ _ _ _ h)
theorem pX12_like_ok {l : Launch} {E : ZE} {S : ZS} {M : ZM} {a0 : Int} {q : (Int × ZM)} (h : pX12_like S M a0 = some q) : zMet l yX12_like cX12_like 3 (some .int) 2 60 0 0 E S M [(2, a0)] (some (0, q.1)) S q.2 :=
  zMet.of (o := 12) (ini := false) (by decide +kernel) rfl (fun h => by cases h) (Nat.le_of_ble_eq_true rfl) (fun C hX hl hRm => by subst hl; exact pX12_like_go hX hRm h)
theorem sv_12_402 : zSV 12 402 yX12_isSky cX12_isSky 1 (some .boolean) 0 := ⟨⟨gt_at 1505 (by decide +kernel) rfl, gt_at 1507 (by decide +kernel) rfl, gt_at 71 (by decide +kernel) rfl, gt_at 117 (by decide +kernel) rfl, gt_at 1508 (by decide +kernel) rfl⟩, by decide +kernel, by decide +kernel, by decide +kernel⟩
noncomputable def pX12_ahead_70 (S : ZS) (M : ZM) : Option (Int × ZM) := some ((-2), M)
set_option maxHeartbeats 2000000 in
set_option maxRecDepth 20000 in
theorem pX12_ahead_70_ok {C : ZC} {E : ZE} {S : ZS} {q : (Int × ZM)} (hX : zCx C E 12 cX12_ahead 6 (some .int) false) (hRm : czR C = { frames := 8, cells := 0, slots := 0, locals := 198 }) {M : ZM} (h : pX12_ahead_70 S M = some q) : zG C E 6 S 0 0 (zQ C E 0 0 (some (0, q.1)) S q.2) 70 [none, none, none, none, none, none] [] M := by
  unfold pX12_ahead_70 at h
  refine zG.blk (pc' := 72) (l' := [none, none, none, none, none, none]) (st' := [(0, (-2))]) (M' := M) hX [(.bipush (-2), 0, 0, 0)] (by decide +kernel) rfl trivial ?_
  cases h
  exact zG.iret hX (by decide +kernel)
theorem sv_12_426 : zSV 12 426 yX12_keepsAll cX12_keepsAll 1 none 0 := ⟨⟨gt_at 1589 (by decide +kernel) rfl, gt_at 1591 (by decide +kernel) rfl, gt_at 84 (by decide +kernel) rfl, gt_at 117 (by decide +kernel) rfl, gt_at 1592 (by decide +kernel) rfl⟩, by decide +kernel, by decide +kernel, by decide +kernel⟩
theorem sv_12_413 : zSV 12 413 yX12_goFor cX12_goFor 3 none 1 := ⟨⟨gt_at 1601 (by decide +kernel) rfl, gt_at 1603 (by decide +kernel) rfl, gt_at 87 (by decide +kernel) rfl, gt_at 117 (by decide +kernel) rfl, gt_at 1604 (by decide +kernel) rfl⟩, by decide +kernel, by decide +kernel, by decide +kernel⟩
theorem sv_12_416 : zSV 12 416 yX12_like cX12_like 3 (some .int) 0 := ⟨⟨gt_at 1609 (by decide +kernel) rfl, gt_at 1611 (by decide +kernel) rfl, gt_at 89 (by decide +kernel) rfl, gt_at 117 (by decide +kernel) rfl, gt_at 1612 (by decide +kernel) rfl⟩, by decide +kernel, by decide +kernel, by decide +kernel⟩
theorem sv_12_419 : zSV 12 419 yX12_laysBack cX12_laysBack 1 none 0 := ⟨⟨gt_at 1613 (by decide +kernel) rfl, gt_at 1615 (by decide +kernel) rfl, gt_at 90 (by decide +kernel) rfl, gt_at 117 (by decide +kernel) rfl, gt_at 1616 (by decide +kernel) rfl⟩, by decide +kernel, by decide +kernel, by decide +kernel⟩
noncomputable def pX12_ahead_125 (S : ZS) (M : ZM) (x0 : Int) (y0 : Int) : Option (Int × ZM) := if S.1 x0 = 12 then (pX12_laysBack S M x0).bind fun q23 => some (y0, q23) else none
set_option maxHeartbeats 2000000 in
set_option maxRecDepth 20000 in
theorem pX12_ahead_125_ok {C : ZC} {E : ZE} {S : ZS} {q : (Int × ZM)} (hX : zCx C E 12 cX12_ahead 6 (some .int) false) (hRm : czR C = { frames := 8, cells := 0, slots := 0, locals := 198 }) {M : ZM} {x0 : Int} {y0 : Int} (h : pX12_ahead_125 S M x0 y0 = some q) : zG C E 6 S 0 0 (zQ C E 0 0 (some (0, q.1)) S q.2) 125 [some (2, x0), none, none, none, none, none] [(0, y0)] M := by
  unfold pX12_ahead_125 at h
  refine zG.blk (pc' := 128) (l' := [some (2, x0), none, none, none, none, some (0, y0)]) (st' := [(2, x0)]) (M' := M) hX [(.istore 5, 0, 0, 0), (.aload_n 0, 0, 0, 0)] (by decide +kernel) rfl trivial ?_
  obtain ⟨g25, h⟩ := zif h
  obtain ⟨q23, e24, h⟩ := zbd h
  refine zG.callV (b := x0) (av := []) (st := []) (ci := 12) hX (pX12_laysBack_ok e24) sv_12_419 rfl ⟨by decide, rfl⟩ g25 (by decide +kernel) (by rw [hRm]; exact ⟨Nat.le_of_ble_eq_true rfl, Nat.le_of_ble_eq_true rfl⟩) (by rw [hRm]; exact ⟨Nat.le_of_ble_eq_true rfl, Nat.le_of_ble_eq_true rfl⟩) (Nat.le_of_ble_eq_true rfl) ?_
  show zG C E 6 S 0 0 _ 131 [some (2, x0), none, none, none, none, some (0, y0)] [] q23
  refine zG.blk (pc' := 133) (l' := [some (2, x0), none, none, none, none, some (0, y0)]) (st' := [(0, y0)]) (M' := q23) hX [(.iload 5, 0, 0, 0)] (by decide +kernel) rfl trivial ?_
  cases h
  exact zG.iret hX (by decide +kernel)
theorem sv_12_429 : zSV 12 429 yX12_allStrokes cX12_allStrokes 1 (some .int) 0 := ⟨⟨gt_at 1605 (by decide +kernel) rfl, gt_at 1607 (by decide +kernel) rfl, gt_at 88 (by decide +kernel) rfl, gt_at 117 (by decide +kernel) rfl, gt_at 1608 (by decide +kernel) rfl⟩, by decide +kernel, by decide +kernel, by decide +kernel⟩
noncomputable def pX12_ahead_44 (S : ZS) (M : ZM) (x0 : Int) (x1 : Int) (x2 : Int) (x3 : Int) (y0 : Int) : Option (Int × ZM) := if S.1 x0 = 12 then (pX12_isSky S M x0).bind fun q6 => if q6.1 = 0 then (pX12_ahead_70 S q6.2) else (if y0 = 0 then (pX12_ahead_70 S q6.2) else ((pX12_in S q6.2 x2 0 100).bind fun q11 => if q11.1 = 0 then (pX12_ahead_70 S q11.2) else ((pX12_keepsAll S q11.2 x0).bind fun q14 => (pX12_goFor S q14 x0 x2).bind fun q16 => if x3 = 0 then (if S.1 (q16 x0 4) = 100 ∧ (0 : Int) ≤ x1 ∧ x1 < S.2.1 (q16 x0 4) then pX12_ahead_125 S q16 x0 (q16 (q16 x0 4) x1) else none) else (if x3 = 1 then (if S.1 (q16 x0 2) = 100 ∧ (0 : Int) ≤ x1 ∧ x1 < S.2.1 (q16 x0 2) then pX12_ahead_125 S q16 x0 (q16 (q16 x0 2) x1) else none) else (if x3 = 2 then ((pX12_allStrokes S q16 x0).bind fun q26 => pX12_ahead_125 S q26.2 x0 q26.1) else ((pX12_like S q16 x0).bind fun q21 => pX12_ahead_125 S q21.2 x0 q21.1)))))) else none
set_option maxHeartbeats 2000000 in
set_option maxRecDepth 20000 in
theorem pX12_ahead_44_ok {C : ZC} {E : ZE} {S : ZS} {q : (Int × ZM)} (hX : zCx C E 12 cX12_ahead 6 (some .int) false) (hRm : czR C = { frames := 8, cells := 0, slots := 0, locals := 198 }) {M : ZM} {x0 : Int} {x1 : Int} {x2 : Int} {x3 : Int} {y0 : Int} (h : pX12_ahead_44 S M x0 x1 x2 x3 y0 = some q) : zG C E 6 S 0 0 (zQ C E 0 0 (some (0, q.1)) S q.2) 44 [some (2, x0), some (0, x1), some (0, x2), some (0, x3), none, none] [(0, y0)] M := by
  unfold pX12_ahead_44 at h
  refine zG.blk (pc' := 47) (l' := [some (2, x0), some (0, x1), some (0, x2), some (0, x3), some (0, y0), none]) (st' := [(2, x0)]) (M' := M) hX [(.istore 4, 0, 0, 0), (.aload_n 0, 0, 0, 0)] (by decide +kernel) rfl trivial ?_
  obtain ⟨g8, h⟩ := zif h
  obtain ⟨q6, e7, h⟩ := zbd h
  refine zG.callV (b := x0) (av := []) (st := []) (ci := 12) hX (pX12_isSky_ok e7) sv_12_402 rfl ⟨by decide, rfl⟩ g8 (by decide +kernel) (by rw [hRm]; exact ⟨Nat.le_of_ble_eq_true rfl, Nat.le_of_ble_eq_true rfl⟩) (by rw [hRm]; exact ⟨Nat.le_of_ble_eq_true rfl, Nat.le_of_ble_eq_true rfl⟩) (Nat.le_of_ble_eq_true rfl) ?_
  show zG C E 6 S 0 0 _ 50 [some (2, x0), some (0, x1), some (0, x2), some (0, x3), some (0, y0), none] [(0, q6.1)] q6.2
  refine zG.if_eq (tgt := 70) (off := 20) hX (by decide +kernel) (by decide) (fun c9 => ?_) (fun c9 => ?_)
  · have h := zip c9 h
    exact zG.wk [false, false, false, false, false, true] (pX12_ahead_70_ok hX hRm h)
  · have h := zin c9 h
    refine zG.blk (pc' := 55) (l' := [some (2, x0), some (0, x1), some (0, x2), some (0, x3), some (0, y0), none]) (st' := [(0, y0)]) (M' := q6.2) hX [(.iload 4, 0, 0, 0)] (by decide +kernel) rfl trivial ?_
    refine zG.if_eq (tgt := 70) (off := 15) hX (by decide +kernel) (by decide) (fun c10 => ?_) (fun c10 => ?_)
    · have h := zip c10 h
      exact zG.wk [false, false, false, false, false, true] (pX12_ahead_70_ok hX hRm h)
    · have h := zin c10 h
      refine zG.blk (pc' := 64) (l' := [some (2, x0), some (0, x1), some (0, x2), some (0, x3), some (0, y0), none]) (st' := [(1, 100), (1, 0), (1, x2)]) (M' := q6.2) hX [(.iload_n 2, 0, 0, 0), (.i2l, 0, 0, 0), (.lconst 0, 0, 0, 0), (.ldc2_w 424, 100, 0, 0)] (by decide +kernel) rfl trivial ?_
      obtain ⟨q11, e12, h⟩ := zbd h
      refine zG.callS (av := [(1, x2), (1, 0), (1, 100)]) (st := []) hX (pX12_in_ok e12) ss_12_138 rfl (by decide +kernel) (by rw [hRm]; exact ⟨Nat.le_of_ble_eq_true rfl, Nat.le_of_ble_eq_true rfl⟩) (by rw [hRm]; exact ⟨Nat.le_of_ble_eq_true rfl, Nat.le_of_ble_eq_true rfl⟩) (Nat.le_of_ble_eq_true rfl) ?_
      show zG C E 6 S 0 0 _ 67 [some (2, x0), some (0, x1), some (0, x2), some (0, x3), some (0, y0), none] [(0, q11.1)] q11.2
      refine zG.if_ne (tgt := 73) (off := 6) hX (by decide +kernel) (by decide) (fun c13 => ?_) (fun c13 => ?_)
      · have h := zin c13 h
        refine zG.blk (pc' := 74) (l' := [some (2, x0), some (0, x1), some (0, x2), some (0, x3), some (0, y0), none]) (st' := [(2, x0)]) (M' := q11.2) hX [(.aload_n 0, 0, 0, 0)] (by decide +kernel) rfl trivial ?_
        obtain ⟨q14, e15, h⟩ := zbd h
        refine zG.callV (b := x0) (av := []) (st := []) (ci := 12) hX (pX12_keepsAll_ok e15) sv_12_426 rfl ⟨by decide, rfl⟩ g8 (by decide +kernel) (by rw [hRm]; exact ⟨Nat.le_of_ble_eq_true rfl, Nat.le_of_ble_eq_true rfl⟩) (by rw [hRm]; exact ⟨Nat.le_of_ble_eq_true rfl, Nat.le_of_ble_eq_true rfl⟩) (Nat.le_of_ble_eq_true rfl) ?_
        show zG C E 6 S 0 0 _ 77 [some (2, x0), some (0, x1), some (0, x2), some (0, x3), some (0, y0), none] [] q14
        refine zG.blk (pc' := 79) (l' := [some (2, x0), some (0, x1), some (0, x2), some (0, x3), some (0, y0), none]) (st' := [(0, x2), (2, x0)]) (M' := q14) hX [(.aload_n 0, 0, 0, 0), (.iload_n 2, 0, 0, 0)] (by decide +kernel) rfl trivial ?_
        obtain ⟨q16, e17, h⟩ := zbd h
        refine zG.callV (b := x0) (av := [(0, x2)]) (st := []) (ci := 12) hX (pX12_goFor_ok e17) sv_12_413 rfl ⟨by decide, rfl⟩ g8 (by decide +kernel) (by rw [hRm]; exact ⟨Nat.le_of_ble_eq_true rfl, Nat.le_of_ble_eq_true rfl⟩) (by rw [hRm]; exact ⟨Nat.le_of_ble_eq_true rfl, Nat.le_of_ble_eq_true rfl⟩) (Nat.le_of_ble_eq_true rfl) ?_
        show zG C E 6 S 0 0 _ 82 [some (2, x0), some (0, x1), some (0, x2), some (0, x3), some (0, y0), none] [] q16
        refine zG.blk (pc' := 83) (l' := [some (2, x0), some (0, x1), some (0, x2), some (0, x3), some (0, y0), none]) (st' := [(0, x3)]) (M' := q16) hX [(.iload_n 3, 0, 0, 0)] (by decide +kernel) rfl trivial ?_
        refine zG.if_ne (tgt := 95) (off := 12) hX (by decide +kernel) (by decide) (fun c18 => ?_) (fun c18 => ?_)
        · have h := zin c18 h
          refine zG.blk (pc' := 97) (l' := [some (2, x0), some (0, x1), some (0, x2), some (0, x3), some (0, y0), none]) (st' := [(0, 1), (0, x3)]) (M' := q16) hX [(.iload_n 3, 0, 0, 0), (.iconst 1, 0, 0, 0)] (by decide +kernel) rfl trivial ?_
          refine zG.icmp_ne (tgt := 109) (off := 12) hX (by decide +kernel) (by decide) (fun c19 => ?_) (fun c19 => ?_)
          · have h := zin c19 h
            refine zG.blk (pc' := 111) (l' := [some (2, x0), some (0, x1), some (0, x2), some (0, x3), some (0, y0), none]) (st' := [(0, 2), (0, x3)]) (M' := q16) hX [(.iload_n 3, 0, 0, 0), (.iconst 2, 0, 0, 0)] (by decide +kernel) rfl trivial ?_
            refine zG.icmp_ne (tgt := 121) (off := 10) hX (by decide +kernel) (by decide) (fun c20 => ?_) (fun c20 => ?_)
            · have h := zin c20 h
              refine zG.blk (pc' := 122) (l' := [some (2, x0), some (0, x1), some (0, x2), some (0, x3), some (0, y0), none]) (st' := [(2, x0)]) (M' := q16) hX [(.aload_n 0, 0, 0, 0)] (by decide +kernel) rfl trivial ?_
              obtain ⟨q21, e22, h⟩ := zbd h
              refine zG.callV (b := x0) (av := []) (st := []) (ci := 12) hX (pX12_like_ok e22) sv_12_416 rfl ⟨by decide, rfl⟩ g8 (by decide +kernel) (by rw [hRm]; exact ⟨Nat.le_of_ble_eq_true rfl, Nat.le_of_ble_eq_true rfl⟩) (by rw [hRm]; exact ⟨Nat.le_of_ble_eq_true rfl, Nat.le_of_ble_eq_true rfl⟩) (Nat.le_of_ble_eq_true rfl) ?_
              show zG C E 6 S 0 0 _ 125 [some (2, x0), some (0, x1), some (0, x2), some (0, x3), some (0, y0), none] [(0, q21.1)] q21.2
              exact zG.wk [true, false, false, false, false, true] (pX12_ahead_125_ok hX hRm h)
            · have h := zip c20 h
              refine zG.blk (pc' := 115) (l' := [some (2, x0), some (0, x1), some (0, x2), some (0, x3), some (0, y0), none]) (st' := [(2, x0)]) (M' := q16) hX [(.aload_n 0, 0, 0, 0)] (by decide +kernel) rfl trivial ?_
              obtain ⟨q26, e27, h⟩ := zbd h
              refine zG.callV (b := x0) (av := []) (st := []) (ci := 12) hX (pX12_allStrokes_ok e27) sv_12_429 rfl ⟨by decide, rfl⟩ g8 (by decide +kernel) (by rw [hRm]; exact ⟨Nat.le_of_ble_eq_true rfl, Nat.le_of_ble_eq_true rfl⟩) (by rw [hRm]; exact ⟨Nat.le_of_ble_eq_true rfl, Nat.le_of_ble_eq_true rfl⟩) (Nat.le_of_ble_eq_true rfl) ?_
              show zG C E 6 S 0 0 _ 118 [some (2, x0), some (0, x1), some (0, x2), some (0, x3), some (0, y0), none] [(0, q26.1)] q26.2
              refine zG.goto (tgt := 125) (off := 7) hX (by decide +kernel) (by decide) ?_
              exact zG.wk [true, false, false, false, false, true] (pX12_ahead_125_ok hX hRm h)
          · have h := zip c19 h
            obtain ⟨g28, h⟩ := zif h
            refine zG.blk (pc' := 106) (l' := [some (2, x0), some (0, x1), some (0, x2), some (0, x3), some (0, y0), none]) (st' := [(0, q16 (q16 x0 2) x1)]) (M' := q16) hX [(.aload_n 0, 0, 0, 0), (.getfield 13, 12, 2, 2), (.iload_n 1, 0, 0, 0), (.iaload, 0, 0, 0)] (by decide +kernel) rfl (And.intro g8 (And.intro g28 trivial)) ?_
            refine zG.goto (tgt := 125) (off := 19) hX (by decide +kernel) (by decide) ?_
            exact zG.wk [true, false, false, false, false, true] (pX12_ahead_125_ok hX hRm h)
        · have h := zip c18 h
          obtain ⟨g29, h⟩ := zif h
          refine zG.blk (pc' := 92) (l' := [some (2, x0), some (0, x1), some (0, x2), some (0, x3), some (0, y0), none]) (st' := [(0, q16 (q16 x0 4) x1)]) (M' := q16) hX [(.aload_n 0, 0, 0, 0), (.getfield 19, 12, 4, 2), (.iload_n 1, 0, 0, 0), (.iaload, 0, 0, 0)] (by decide +kernel) rfl (And.intro g8 (And.intro g29 trivial)) ?_
          refine zG.goto (tgt := 125) (off := 33) hX (by decide +kernel) (by decide) ?_
          exact zG.wk [true, false, false, false, false, true] (pX12_ahead_125_ok hX hRm h)
      · have h := zip c13 h
        exact zG.wk [false, false, false, false, false, true] (pX12_ahead_70_ok hX hRm h)
noncomputable def pX12_ahead_39 (S : ZS) (M : ZM) (x0 : Int) (x1 : Int) (x2 : Int) (x3 : Int) : Option (Int × ZM) := pX12_ahead_44 S M x0 x1 x2 x3 1
set_option maxHeartbeats 2000000 in
set_option maxRecDepth 20000 in
theorem pX12_ahead_39_ok {C : ZC} {E : ZE} {S : ZS} {q : (Int × ZM)} (hX : zCx C E 12 cX12_ahead 6 (some .int) false) (hRm : czR C = { frames := 8, cells := 0, slots := 0, locals := 198 }) {M : ZM} {x0 : Int} {x1 : Int} {x2 : Int} {x3 : Int} (h : pX12_ahead_39 S M x0 x1 x2 x3 = some q) : zG C E 6 S 0 0 (zQ C E 0 0 (some (0, q.1)) S q.2) 39 [some (2, x0), some (0, x1), some (0, x2), some (0, x3), none, none] [] M := by
  unfold pX12_ahead_39 at h
  refine zG.blk (pc' := 40) (l' := [some (2, x0), some (0, x1), some (0, x2), some (0, x3), none, none]) (st' := [(0, 1)]) (M' := M) hX [(.iconst 1, 0, 0, 0)] (by decide +kernel) rfl trivial ?_
  refine zG.goto (tgt := 44) (off := 4) hX (by decide +kernel) (by decide) ?_
  exact (pX12_ahead_44_ok hX hRm h)
noncomputable def pX12_ahead_25 (S : ZS) (M : ZM) (x0 : Int) (x1 : Int) (x2 : Int) (x3 : Int) : Option (Int × ZM) := (pX12_in S M x3 2 3).bind fun q3 => if q3.1 = 0 then (pX12_ahead_44 S q3.2 x0 x1 x2 x3 0) else (pX12_ahead_39 S q3.2 x0 x1 x2 x3)
set_option maxHeartbeats 2000000 in
set_option maxRecDepth 20000 in
theorem pX12_ahead_25_ok {C : ZC} {E : ZE} {S : ZS} {q : (Int × ZM)} (hX : zCx C E 12 cX12_ahead 6 (some .int) false) (hRm : czR C = { frames := 8, cells := 0, slots := 0, locals := 198 }) {M : ZM} {x0 : Int} {x1 : Int} {x2 : Int} {x3 : Int} (h : pX12_ahead_25 S M x0 x1 x2 x3 = some q) : zG C E 6 S 0 0 (zQ C E 0 0 (some (0, q.1)) S q.2) 25 [some (2, x0), some (0, x1), some (0, x2), some (0, x3), none, none] [] M := by
  unfold pX12_ahead_25 at h
  refine zG.blk (pc' := 33) (l' := [some (2, x0), some (0, x1), some (0, x2), some (0, x3), none, none]) (st' := [(1, 3), (1, 2), (1, x3)]) (M' := M) hX [(.iload_n 3, 0, 0, 0), (.i2l, 0, 0, 0), (.ldc2_w 348, 2, 0, 0), (.ldc2_w 422, 3, 0, 0)] (by decide +kernel) rfl trivial ?_
  obtain ⟨q3, e4, h⟩ := zbd h
  refine zG.callS (av := [(1, x3), (1, 2), (1, 3)]) (st := []) hX (pX12_in_ok e4) ss_12_138 rfl (by decide +kernel) (by rw [hRm]; exact ⟨Nat.le_of_ble_eq_true rfl, Nat.le_of_ble_eq_true rfl⟩) (by rw [hRm]; exact ⟨Nat.le_of_ble_eq_true rfl, Nat.le_of_ble_eq_true rfl⟩) (Nat.le_of_ble_eq_true rfl) ?_
  show zG C E 6 S 0 0 _ 36 [some (2, x0), some (0, x1), some (0, x2), some (0, x3), none, none] [(0, q3.1)] q3.2
  refine zG.if_eq (tgt := 43) (off := 7) hX (by decide +kernel) (by decide) (fun c5 => ?_) (fun c5 => ?_)
  · have h := zip c5 h
    refine zG.blk (pc' := 44) (l' := [some (2, x0), some (0, x1), some (0, x2), some (0, x3), none, none]) (st' := [(0, 0)]) (M' := q3.2) hX [(.iconst 0, 0, 0, 0)] (by decide +kernel) rfl trivial ?_
    exact (pX12_ahead_44_ok hX hRm h)
  · have h := zin c5 h
    exact (pX12_ahead_39_ok hX hRm h)
theorem sv_12_341 : zSV 12 341 yX12_isPen cX12_isPen 2 (some .boolean) 1 := ⟨⟨gt_at 1464 (by decide +kernel) rfl, gt_at 1466 (by decide +kernel) rfl, gt_at 64 (by decide +kernel) rfl, gt_at 117 (by decide +kernel) rfl, gt_at 1467 (by decide +kernel) rfl⟩, by decide +kernel, by decide +kernel, by decide +kernel⟩
noncomputable def pX12_ahead_12 (S : ZS) (M : ZM) (x0 : Int) (x1 : Int) (x2 : Int) (x3 : Int) : Option (Int × ZM) := if x3 = 1 then (if S.1 x0 = 12 then (pX12_isPen S M x0 x1).bind fun q30 => if q30.1 = 0 then (pX12_ahead_25 S q30.2 x0 x1 x2 x3) else (pX12_ahead_39 S q30.2 x0 x1 x2 x3) else none) else (pX12_ahead_25 S M x0 x1 x2 x3)
set_option maxHeartbeats 2000000 in
set_option maxRecDepth 20000 in
theorem pX12_ahead_12_ok {C : ZC} {E : ZE} {S : ZS} {q : (Int × ZM)} (hX : zCx C E 12 cX12_ahead 6 (some .int) false) (hRm : czR C = { frames := 8, cells := 0, slots := 0, locals := 198 }) {M : ZM} {x0 : Int} {x1 : Int} {x2 : Int} {x3 : Int} (h : pX12_ahead_12 S M x0 x1 x2 x3 = some q) : zG C E 6 S 0 0 (zQ C E 0 0 (some (0, q.1)) S q.2) 12 [some (2, x0), some (0, x1), some (0, x2), some (0, x3), none, none] [] M := by
  unfold pX12_ahead_12 at h
  refine zG.blk (pc' := 14) (l' := [some (2, x0), some (0, x1), some (0, x2), some (0, x3), none, none]) (st' := [(0, 1), (0, x3)]) (M' := M) hX [(.iload_n 3, 0, 0, 0), (.iconst 1, 0, 0, 0)] (by decide +kernel) rfl trivial ?_
  refine zG.icmp_ne (tgt := 25) (off := 11) hX (by decide +kernel) (by decide) (fun c2 => ?_) (fun c2 => ?_)
  · have h := zin c2 h
    exact (pX12_ahead_25_ok hX hRm h)
  · have h := zip c2 h
    refine zG.blk (pc' := 19) (l' := [some (2, x0), some (0, x1), some (0, x2), some (0, x3), none, none]) (st' := [(0, x1), (2, x0)]) (M' := M) hX [(.aload_n 0, 0, 0, 0), (.iload_n 1, 0, 0, 0)] (by decide +kernel) rfl trivial ?_
    obtain ⟨g32, h⟩ := zif h
    obtain ⟨q30, e31, h⟩ := zbd h
    refine zG.callV (b := x0) (av := [(0, x1)]) (st := []) (ci := 12) hX (pX12_isPen_ok e31) sv_12_341 rfl ⟨by decide, rfl⟩ g32 (by decide +kernel) (by rw [hRm]; exact ⟨Nat.le_of_ble_eq_true rfl, Nat.le_of_ble_eq_true rfl⟩) (by rw [hRm]; exact ⟨Nat.le_of_ble_eq_true rfl, Nat.le_of_ble_eq_true rfl⟩) (Nat.le_of_ble_eq_true rfl) ?_
    show zG C E 6 S 0 0 _ 22 [some (2, x0), some (0, x1), some (0, x2), some (0, x3), none, none] [(0, q30.1)] q30.2
    refine zG.if_ne (tgt := 39) (off := 17) hX (by decide +kernel) (by decide) (fun c33 => ?_) (fun c33 => ?_)
    · have h := zin c33 h
      exact (pX12_ahead_39_ok hX hRm h)
    · have h := zip c33 h
      exact (pX12_ahead_25_ok hX hRm h)
theorem sv_12_345 : zSV 12 345 yX12_isCell cX12_isCell 2 (some .boolean) 1 := ⟨⟨gt_at 1480 (by decide +kernel) rfl, gt_at 1482 (by decide +kernel) rfl, gt_at 67 (by decide +kernel) rfl, gt_at 117 (by decide +kernel) rfl, gt_at 1483 (by decide +kernel) rfl⟩, by decide +kernel, by decide +kernel, by decide +kernel⟩
noncomputable def pX12_ahead (S : ZS) (M : ZM) (a0 : Int) (a1 : Int) (a2 : Int) (a3 : Int) : Option (Int × ZM) := if a3 = 0 then (if S.1 a0 = 12 then (pX12_isCell S M a0 a1).bind fun q34 => if q34.1 = 0 then (pX12_ahead_12 S q34.2 a0 a1 a2 a3) else (pX12_ahead_39 S q34.2 a0 a1 a2 a3) else none) else (pX12_ahead_12 S M a0 a1 a2 a3)
set_option maxHeartbeats 2000000 in
set_option maxRecDepth 20000 in
theorem pX12_ahead_go {C : ZC} {E : ZE} {S : ZS} {M : ZM} {a0 a1 a2 a3 : Int} {q : (Int × ZM)} (hX : zCx C E 12 cX12_ahead 6 (some .int) false) (hRm : czR C = { frames := 8, cells := 0, slots := 0, locals := 198 }) (h : pX12_ahead  S M a0 a1 a2 a3 = some q) : zG C E 6 S 0 0 (zQ C E 0 0 (some (0, q.1)) S q.2) 0 [some (2, a0), some (0, a1), some (0, a2), some (0, a3), none, none] [] M := by
  unfold pX12_ahead at h
  refine zG.blk (pc' := 1) (l' := [some (2, a0), some (0, a1), some (0, a2), some (0, a3), none, none]) (st' := [(0, a3)]) (M' := M) hX [(.iload_n 3, 0, 0, 0)] (by decide +kernel) rfl trivial ?_
  refine zG.if_ne (tgt := 12) (off := 11) hX (by decide +kernel) (by decide) (fun c1 => ?_) (fun c1 => ?_)
  · have h := zin c1 h
    exact (pX12_ahead_12_ok hX hRm h)
  · have h := zip c1 h
    refine zG.blk (pc' := 6) (l' := [some (2, a0), some (0, a1), some (0, a2), some (0, a3), none, none]) (st' := [(0, a1), (2, a0)]) (M' := M) hX [(.aload_n 0, 0, 0, 0), (.iload_n 1, 0, 0, 0)] (by decide +kernel) rfl trivial ?_
    obtain ⟨g36, h⟩ := zif h
    obtain ⟨q34, e35, h⟩ := zbd h
    refine zG.callV (b := a0) (av := [(0, a1)]) (st := []) (ci := 12) hX (pX12_isCell_ok e35) sv_12_345 rfl ⟨by decide, rfl⟩ g36 (by decide +kernel) (by rw [hRm]; exact ⟨Nat.le_of_ble_eq_true rfl, Nat.le_of_ble_eq_true rfl⟩) (by rw [hRm]; exact ⟨Nat.le_of_ble_eq_true rfl, Nat.le_of_ble_eq_true rfl⟩) (Nat.le_of_ble_eq_true rfl) ?_
    show zG C E 6 S 0 0 _ 9 [some (2, a0), some (0, a1), some (0, a2), some (0, a3), none, none] [(0, q34.1)] q34.2
    refine zG.if_ne (tgt := 39) (off := 30) hX (by decide +kernel) (by decide) (fun c37 => ?_) (fun c37 => ?_)
    · have h := zin c37 h
      exact (pX12_ahead_39_ok hX hRm h)
    · have h := zip c37 h
      exact (pX12_ahead_12_ok hX hRm h)
theorem pX12_ahead_ok {l : Launch} {E : ZE} {S : ZS} {M : ZM} {a0 a1 a2 a3 : Int} {q : (Int × ZM)} (h : pX12_ahead S M a0 a1 a2 a3 = some q) : zMet l yX12_ahead cX12_ahead 6 (some .int) 8 198 0 0 E S M [(2, a0), (0, a1), (0, a2), (0, a3)] (some (0, q.1)) S q.2 :=
  zMet.of (o := 12) (ini := false) (by decide +kernel) rfl (fun h => by cases h) (Nat.le_of_ble_eq_true rfl) (fun C hX hl hRm => by subst hl; exact pX12_ahead_go hX hRm h)
noncomputable def pX12_byteHere_28 (S : ZS) (M : ZM) (y0 : Int) : Option (Int × ZM) := some (y0, M)
set_option maxHeartbeats 2000000 in
set_option maxRecDepth 20000 in
theorem pX12_byteHere_28_ok {C : ZC} {E : ZE} {S : ZS} {q : (Int × ZM)} (hX : zCx C E 12 cX12_byteHere 1 (some .int) false) (hRm : czR C = { frames := 1, cells := 0, slots := 0, locals := 40 }) {M : ZM} {y0 : Int} (h : pX12_byteHere_28 S M y0 = some q) : zG C E 1 S 0 0 (zQ C E 0 0 (some (0, q.1)) S q.2) 28 [none] [(0, y0)] M := by
  unfold pX12_byteHere_28 at h
  cases h
  exact zG.iret hX (by decide +kernel)
noncomputable def pX12_byteHere (S : ZS) (M : ZM) (a0 : Int) : Option (Int × ZM) := if S.1 a0 = 12 then if M a0 20 ≤ M a0 21 then (pX12_byteHere_28 S M (-1)) else (if S.1 (M a0 30) = 102 ∧ (0 : Int) ≤ M a0 21 ∧ M a0 21 < S.2.1 (M a0 30) then pX12_byteHere_28 S M (zand (M (M a0 30) (M a0 21)) 255) else none) else none
set_option maxHeartbeats 2000000 in
set_option maxRecDepth 20000 in
theorem pX12_byteHere_go {C : ZC} {E : ZE} {S : ZS} {M : ZM} {a0 : Int} {q : (Int × ZM)} (hX : zCx C E 12 cX12_byteHere 1 (some .int) false) (hRm : czR C = { frames := 1, cells := 0, slots := 0, locals := 40 }) (h : pX12_byteHere  S M a0 = some q) : zG C E 1 S 0 0 (zQ C E 0 0 (some (0, q.1)) S q.2) 0 [some (2, a0)] [] M := by
  unfold pX12_byteHere at h
  obtain ⟨g1, h⟩ := zif h
  refine zG.blk (pc' := 8) (l' := [some (2, a0)]) (st' := [(0, M a0 20), (0, M a0 21)]) (M' := M) hX [(.aload_n 0, 0, 0, 0), (.getfield 174, 12, 21, 0), (.aload_n 0, 0, 0, 0), (.getfield 142, 12, 20, 0)] (by decide +kernel) rfl (And.intro g1 (And.intro g1 trivial)) ?_
  refine zG.icmp_ge (tgt := 27) (off := 19) hX (by decide +kernel) (by decide) (fun c2 => ?_) (fun c2 => ?_)
  · have h := zip c2 h
    refine zG.blk (pc' := 28) (l' := [some (2, a0)]) (st' := [(0, (-1))]) (M' := M) hX [(.iconst (-1), 0, 0, 0)] (by decide +kernel) rfl trivial ?_
    exact zG.wk [false] (pX12_byteHere_28_ok hX hRm h)
  · have h := zin c2 h
    obtain ⟨g3, h⟩ := zif h
    refine zG.blk (pc' := 24) (l' := [some (2, a0)]) (st' := [(0, zand (M (M a0 30) (M a0 21)) 255)]) (M' := M) hX [(.aload_n 0, 0, 0, 0), (.getfield 71, 12, 30, 2), (.aload_n 0, 0, 0, 0), (.getfield 174, 12, 21, 0), (.baload, 102, 0, 0), (.sipush 255, 0, 0, 0), (.iand, 0, 0, 0)] (by decide +kernel) rfl (And.intro g1 (And.intro g1 (And.intro g3 trivial))) ?_
    refine zG.goto (tgt := 28) (off := 4) hX (by decide +kernel) (by decide) ?_
    exact zG.wk [false] (pX12_byteHere_28_ok hX hRm h)
theorem pX12_byteHere_ok {l : Launch} {E : ZE} {S : ZS} {M : ZM} {a0 : Int} {q : (Int × ZM)} (h : pX12_byteHere S M a0 = some q) : zMet l yX12_byteHere cX12_byteHere 1 (some .int) 1 40 0 0 E S M [(2, a0)] (some (0, q.1)) S q.2 :=
  zMet.of (o := 12) (ini := false) (by decide +kernel) rfl (fun h => by cases h) (Nat.le_of_ble_eq_true rfl) (fun C hX hl hRm => by subst hl; exact pX12_byteHere_go hX hRm h)
theorem sv_12_177 : zSV 12 177 yX12_byteHere cX12_byteHere 1 (some .int) 0 := ⟨⟨gt_at 1323 (by decide +kernel) rfl, gt_at 1325 (by decide +kernel) rfl, gt_at 41 (by decide +kernel) rfl, gt_at 117 (by decide +kernel) rfl, gt_at 1326 (by decide +kernel) rfl⟩, by decide +kernel, by decide +kernel, by decide +kernel⟩
noncomputable def pX12_blanks_0 (S : ZS) : Nat → ZM → Int → Option ZM
  | 0 => fun _ _ => none
  | n + 1 => fun M x0 => if S.1 x0 = 12 then (pX12_byteHere S M x0).bind fun q1 => if q1.1 = 32 then (zlet (upM q1.2 x0 21 (w32 ((q1.2 x0 21) + 1))) fun M5 => pX12_blanks_0 S n M5 x0) else (some q1.2) else none
set_option maxHeartbeats 2000000 in
set_option maxRecDepth 20000 in
theorem pX12_blanks_0_ok {C : ZC} {E : ZE} {S : ZS} {q : ZM} (hX : zCx C E 12 cX12_blanks 1 none false) (hRm : czR C = { frames := 2, cells := 0, slots := 0, locals := 60 }) : ∀ (n : Nat) (M : ZM) (x0 : Int), pX12_blanks_0 S n M x0 = some q → zG C E 1 S 0 0 (zQ C E 0 0 none S q) 0 [some (2, x0)] [] M := by
  intro n
  induction n with
  | zero => intro M x0 h; cases h
  | succ n ih =>
    intro M x0 h
    unfold pX12_blanks_0 at h
    refine zG.blk (pc' := 1) (l' := [some (2, x0)]) (st' := [(2, x0)]) (M' := M) hX [(.aload_n 0, 0, 0, 0)] (by decide +kernel) rfl trivial ?_
    obtain ⟨g3, h⟩ := zif h
    obtain ⟨q1, e2, h⟩ := zbd h
    refine zG.callV (b := x0) (av := []) (st := []) (ci := 12) hX (pX12_byteHere_ok e2) sv_12_177 rfl ⟨by decide, rfl⟩ g3 (by decide +kernel) (by rw [hRm]; exact ⟨Nat.le_of_ble_eq_true rfl, Nat.le_of_ble_eq_true rfl⟩) (by rw [hRm]; exact ⟨Nat.le_of_ble_eq_true rfl, Nat.le_of_ble_eq_true rfl⟩) (Nat.le_of_ble_eq_true rfl) ?_
    show zG C E 1 S 0 0 _ 4 [some (2, x0)] [(0, q1.1)] q1.2
    refine zG.blk (pc' := 6) (l' := [some (2, x0)]) (st' := [(0, 32), (0, q1.1)]) (M' := q1.2) hX [(.bipush 32, 0, 0, 0)] (by decide +kernel) rfl trivial ?_
    refine zG.icmp_ne (tgt := 22) (off := 16) hX (by decide +kernel) (by decide) (fun c4 => ?_) (fun c4 => ?_)
    · have h := zin c4 h
      cases h
      exact zG.vret hX (by decide +kernel)
    · have h := zip c4 h
      refine zG.blk (pc' := 19) (l' := [some (2, x0)]) (st' := []) (M' := (upM q1.2 x0 21 (w32 ((q1.2 x0 21) + 1)))) hX [(.aload_n 0, 0, 0, 0), (.dup, 0, 0, 0), (.getfield 174, 12, 21, 0), (.iconst 1, 0, 0, 0), (.iadd, 0, 0, 0), (.putfield 174, 12, 21, 0)] (by decide +kernel) rfl (And.intro g3 (And.intro g3 trivial)) ?_
      generalize upM q1.2 x0 21 (w32 ((q1.2 x0 21) + 1)) = M5 at h ⊢
      have h := zlt h
      refine zG.goto (tgt := 0) (off := (-19)) hX (by decide +kernel) (by decide) ?_
      exact ih _ _ h
noncomputable def pX12_blanks (S : ZS) (M : ZM) (a0 : Int) : Option ZM := pX12_blanks_0 S zFU M a0
set_option maxHeartbeats 2000000 in
set_option maxRecDepth 20000 in
theorem pX12_blanks_go {C : ZC} {E : ZE} {S : ZS} {M : ZM} {a0 : Int} {q : ZM} (hX : zCx C E 12 cX12_blanks 1 none false) (hRm : czR C = { frames := 2, cells := 0, slots := 0, locals := 60 }) (h : pX12_blanks  S M a0 = some q) : zG C E 1 S 0 0 (zQ C E 0 0 none S q) 0 [some (2, a0)] [] M := by
  unfold pX12_blanks at h
  exact (pX12_blanks_0_ok hX hRm zFU _ _ h)
theorem pX12_blanks_ok {l : Launch} {E : ZE} {S : ZS} {M : ZM} {a0 : Int} {q : ZM} (h : pX12_blanks S M a0 = some q) : zMet l yX12_blanks cX12_blanks 1 none 2 60 0 0 E S M [(2, a0)] (none) S q :=
  zMet.of (o := 12) (ini := false) (by decide +kernel) rfl (fun h => by cases h) (Nat.le_of_ble_eq_true rfl) (fun C hX hl hRm => by subst hl; exact pX12_blanks_go hX hRm h)
noncomputable def pX12_fails_23 (S : ZS) (M : ZM) (y0 : Int) (y1 : Int) : Option ZM := if S.1 y1 = 12 then zlet (upM M y1 22 y0) fun M4 => some M4 else none
set_option maxHeartbeats 2000000 in
set_option maxRecDepth 20000 in
theorem pX12_fails_23_ok {C : ZC} {E : ZE} {S : ZS} {q : ZM} (hX : zCx C E 12 cX12_fails 3 none false) (hRm : czR C = { frames := 1, cells := 0, slots := 0, locals := 40 }) {M : ZM} {y0 : Int} {y1 : Int} (h : pX12_fails_23 S M y0 y1 = some q) : zG C E 3 S 0 0 (zQ C E 0 0 none S q) 23 [none, none, none] [(0, y0), (2, y1)] M := by
  unfold pX12_fails_23 at h
  obtain ⟨g3, h⟩ := zif h
  refine zG.blk (pc' := 26) (l' := [none, none, none]) (st' := []) (M' := (upM M y1 22 y0)) hX [(.putfield 171, 12, 22, 0)] (by decide +kernel) rfl (And.intro g3 trivial) ?_
  generalize upM M y1 22 y0 = M4 at h ⊢
  have h := zlt h
  cases h
  exact zG.vret hX (by decide +kernel)
noncomputable def pX12_fails (S : ZS) (M : ZM) (a0 : Int) (a1 : Int) (a2 : Int) : Option ZM := if S.1 a0 = 12 then if M a0 22 = 0 then (pX12_fails_23 S M (w32 ((w32 (1 + (w32 (8 * a2)))) + a1)) a0) else (pX12_fails_23 S M (M a0 22) a0) else none
set_option maxHeartbeats 2000000 in
set_option maxRecDepth 20000 in
theorem pX12_fails_go {C : ZC} {E : ZE} {S : ZS} {M : ZM} {a0 a1 a2 : Int} {q : ZM} (hX : zCx C E 12 cX12_fails 3 none false) (hRm : czR C = { frames := 1, cells := 0, slots := 0, locals := 40 }) (h : pX12_fails  S M a0 a1 a2 = some q) : zG C E 3 S 0 0 (zQ C E 0 0 none S q) 0 [some (2, a0), some (0, a1), some (0, a2)] [] M := by
  unfold pX12_fails at h
  obtain ⟨g1, h⟩ := zif h
  refine zG.blk (pc' := 5) (l' := [some (2, a0), some (0, a1), some (0, a2)]) (st' := [(0, M a0 22), (2, a0)]) (M' := M) hX [(.aload_n 0, 0, 0, 0), (.aload_n 0, 0, 0, 0), (.getfield 171, 12, 22, 0)] (by decide +kernel) rfl (And.intro g1 trivial) ?_
  refine zG.if_ne (tgt := 19) (off := 14) hX (by decide +kernel) (by decide) (fun c2 => ?_) (fun c2 => ?_)
  · have h := zin c2 h
    refine zG.blk (pc' := 23) (l' := [some (2, a0), some (0, a1), some (0, a2)]) (st' := [(0, M a0 22), (2, a0)]) (M' := M) hX [(.aload_n 0, 0, 0, 0), (.getfield 171, 12, 22, 0)] (by decide +kernel) rfl (And.intro g1 trivial) ?_
    exact zG.wk [false, false, false] (pX12_fails_23_ok hX hRm h)
  · have h := zip c2 h
    refine zG.blk (pc' := 16) (l' := [some (2, a0), some (0, a1), some (0, a2)]) (st' := [(0, w32 ((w32 (1 + (w32 (8 * a2)))) + a1)), (2, a0)]) (M' := M) hX [(.iconst 1, 0, 0, 0), (.bipush 8, 0, 0, 0), (.iload_n 2, 0, 0, 0), (.imul, 0, 0, 0), (.iadd, 0, 0, 0), (.iload_n 1, 0, 0, 0), (.iadd, 0, 0, 0)] (by decide +kernel) rfl trivial ?_
    refine zG.goto (tgt := 23) (off := 7) hX (by decide +kernel) (by decide) ?_
    exact zG.wk [false, false, false] (pX12_fails_23_ok hX hRm h)
theorem pX12_fails_ok {l : Launch} {E : ZE} {S : ZS} {M : ZM} {a0 a1 a2 : Int} {q : ZM} (h : pX12_fails S M a0 a1 a2 = some q) : zMet l yX12_fails cX12_fails 3 none 1 40 0 0 E S M [(2, a0), (0, a1), (0, a2)] (none) S q :=
  zMet.of (o := 12) (ini := false) (by decide +kernel) rfl (fun h => by cases h) (Nat.le_of_ble_eq_true rfl) (fun C hX hl hRm => by subst hl; exact pX12_fails_go hX hRm h)
noncomputable def pX12_isDigit (S : ZS) (M : ZM) (a0 : Int) : Option (Int × ZM) := if S.1 a0 = 12 then (pX12_byteHere S M a0).bind fun q1 => (pX12_in S q1.2 q1.1 48 57).bind fun q4 => if q4.1 = 0 ∨ q4.1 = 1 then some (q4.1, q4.2) else none else none
set_option maxHeartbeats 2000000 in
set_option maxRecDepth 20000 in
theorem pX12_isDigit_go {C : ZC} {E : ZE} {S : ZS} {M : ZM} {a0 : Int} {q : (Int × ZM)} (hX : zCx C E 12 cX12_isDigit 1 (some .boolean) false) (hRm : czR C = { frames := 2, cells := 0, slots := 0, locals := 65 }) (h : pX12_isDigit  S M a0 = some q) : zG C E 1 S 0 0 (zQ C E 0 0 (some (0, q.1)) S q.2) 0 [some (2, a0)] [] M := by
  unfold pX12_isDigit at h
  refine zG.blk (pc' := 1) (l' := [some (2, a0)]) (st' := [(2, a0)]) (M' := M) hX [(.aload_n 0, 0, 0, 0)] (by decide +kernel) rfl trivial ?_
  obtain ⟨g3, h⟩ := zif h
  obtain ⟨q1, e2, h⟩ := zbd h
  refine zG.callV (b := a0) (av := []) (st := []) (ci := 12) hX (pX12_byteHere_ok e2) sv_12_177 rfl ⟨by decide, rfl⟩ g3 (by decide +kernel) (by rw [hRm]; exact ⟨Nat.le_of_ble_eq_true rfl, Nat.le_of_ble_eq_true rfl⟩) (by rw [hRm]; exact ⟨Nat.le_of_ble_eq_true rfl, Nat.le_of_ble_eq_true rfl⟩) (Nat.le_of_ble_eq_true rfl) ?_
  show zG C E 1 S 0 0 _ 4 [some (2, a0)] [(0, q1.1)] q1.2
  refine zG.blk (pc' := 11) (l' := [some (2, a0)]) (st' := [(1, 57), (1, 48), (1, q1.1)]) (M' := q1.2) hX [(.i2l, 0, 0, 0), (.ldc2_w 180, 48, 0, 0), (.ldc2_w 182, 57, 0, 0)] (by decide +kernel) rfl trivial ?_
  obtain ⟨q4, e5, h⟩ := zbd h
  refine zG.callS (av := [(1, q1.1), (1, 48), (1, 57)]) (st := []) hX (pX12_in_ok e5) ss_12_138 rfl (by decide +kernel) (by rw [hRm]; exact ⟨Nat.le_of_ble_eq_true rfl, Nat.le_of_ble_eq_true rfl⟩) (by rw [hRm]; exact ⟨Nat.le_of_ble_eq_true rfl, Nat.le_of_ble_eq_true rfl⟩) (Nat.le_of_ble_eq_true rfl) ?_
  show zG C E 1 S 0 0 _ 14 [some (2, a0)] [(0, q4.1)] q4.2
  obtain ⟨g6, h⟩ := zif h
  cases h
  exact zG.zret hX (by decide +kernel) g6
theorem pX12_isDigit_ok {l : Launch} {E : ZE} {S : ZS} {M : ZM} {a0 : Int} {q : (Int × ZM)} (h : pX12_isDigit S M a0 = some q) : zMet l yX12_isDigit cX12_isDigit 1 (some .boolean) 2 65 0 0 E S M [(2, a0)] (some (0, q.1)) S q.2 :=
  zMet.of (o := 12) (ini := false) (by decide +kernel) rfl (fun h => by cases h) (Nat.le_of_ble_eq_true rfl) (fun C hX hl hRm => by subst hl; exact pX12_isDigit_go hX hRm h)
