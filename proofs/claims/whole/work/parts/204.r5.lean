theorem sv_12_145 : zSV 12 145 yX12_put cX12_put 3 none 1 := ⟨⟨gt_at 1295 (by decide +kernel) rfl, gt_at 1297 (by decide +kernel) rfl, gt_at 36 (by decide +kernel) rfl, gt_at 117 (by decide +kernel) rfl, gt_at 1298 (by decide +kernel) rfl⟩, by decide +kernel, by decide +kernel, by decide +kernel⟩
noncomputable def pX12_feed (S : ZS) (M : ZM) (a0 : Int) (a1 : Int) (a2 : Int) (a3 : Int) (a4 : Int) (a5 : Int) : Option (Int × ZM) := if S.1 a0 = 12 then if w32 ((M a0 20) + 20) ≤ 400 then ((pX12_put S M a0 a1).bind fun q3 => (pX12_put S q3 a0 a2).bind fun q5 => (pX12_put S q5 a0 a3).bind fun q7 => (pX12_put S q7 a0 a4).bind fun q9 => (pX12_put S q9 a0 a5).bind fun q11 => some (q11 a0 20, q11)) else (some ((-1), M)) else none
set_option maxHeartbeats 2000000 in
set_option maxRecDepth 20000 in
theorem pX12_feed_go {C : ZC} {E : ZE} {S : ZS} {M : ZM} {a0 a1 a2 a3 a4 a5 : Int} {q : (Int × ZM)} (hX : zCx C E 12 cX12_feed 6 (some .int) false) (hRm : czR C = { frames := 2, cells := 0, slots := 0, locals := 62 }) (h : pX12_feed  S M a0 a1 a2 a3 a4 a5 = some q) : zG C E 6 S 0 0 (zQ C E 0 0 (some (0, q.1)) S q.2) 0 [some (2, a0), some (0, a1), some (0, a2), some (0, a3), some (0, a4), some (0, a5)] [] M := by
  unfold pX12_feed at h
  obtain ⟨g1, h⟩ := zif h
  refine zG.blk (pc' := 10) (l' := [some (2, a0), some (0, a1), some (0, a2), some (0, a3), some (0, a4), some (0, a5)]) (st' := [(0, 400), (0, w32 ((M a0 20) + 20))]) (M' := M) hX [(.aload_n 0, 0, 0, 0), (.getfield 142, 12, 20, 0), (.bipush 20, 0, 0, 0), (.iadd, 0, 0, 0), (.sipush 400, 0, 0, 0)] (by decide +kernel) rfl (And.intro g1 trivial) ?_
  refine zG.icmp_le (tgt := 15) (off := 5) hX (by decide +kernel) (by decide) (fun c2 => ?_) (fun c2 => ?_)
  · have h := zip c2 h
    refine zG.blk (pc' := 17) (l' := [some (2, a0), some (0, a1), some (0, a2), some (0, a3), some (0, a4), some (0, a5)]) (st' := [(0, a1), (2, a0)]) (M' := M) hX [(.aload_n 0, 0, 0, 0), (.iload_n 1, 0, 0, 0)] (by decide +kernel) rfl trivial ?_
    obtain ⟨q3, e4, h⟩ := zbd h
    refine zG.callV (b := a0) (av := [(0, a1)]) (st := []) (ci := 12) hX (pX12_put_ok e4) sv_12_145 rfl ⟨by decide, rfl⟩ g1 (by decide +kernel) (by rw [hRm]; exact ⟨Nat.le_of_ble_eq_true rfl, Nat.le_of_ble_eq_true rfl⟩) (by rw [hRm]; exact ⟨Nat.le_of_ble_eq_true rfl, Nat.le_of_ble_eq_true rfl⟩) (Nat.le_of_ble_eq_true rfl) ?_
    show zG C E 6 S 0 0 _ 20 [some (2, a0), some (0, a1), some (0, a2), some (0, a3), some (0, a4), some (0, a5)] [] q3
    refine zG.blk (pc' := 22) (l' := [some (2, a0), some (0, a1), some (0, a2), some (0, a3), some (0, a4), some (0, a5)]) (st' := [(0, a2), (2, a0)]) (M' := q3) hX [(.aload_n 0, 0, 0, 0), (.iload_n 2, 0, 0, 0)] (by decide +kernel) rfl trivial ?_
    obtain ⟨q5, e6, h⟩ := zbd h
    refine zG.callV (b := a0) (av := [(0, a2)]) (st := []) (ci := 12) hX (pX12_put_ok e6) sv_12_145 rfl ⟨by decide, rfl⟩ g1 (by decide +kernel) (by rw [hRm]; exact ⟨Nat.le_of_ble_eq_true rfl, Nat.le_of_ble_eq_true rfl⟩) (by rw [hRm]; exact ⟨Nat.le_of_ble_eq_true rfl, Nat.le_of_ble_eq_true rfl⟩) (Nat.le_of_ble_eq_true rfl) ?_
    show zG C E 6 S 0 0 _ 25 [some (2, a0), some (0, a1), some (0, a2), some (0, a3), some (0, a4), some (0, a5)] [] q5
    refine zG.blk (pc' := 27) (l' := [some (2, a0), some (0, a1), some (0, a2), some (0, a3), some (0, a4), some (0, a5)]) (st' := [(0, a3), (2, a0)]) (M' := q5) hX [(.aload_n 0, 0, 0, 0), (.iload_n 3, 0, 0, 0)] (by decide +kernel) rfl trivial ?_
    obtain ⟨q7, e8, h⟩ := zbd h
    refine zG.callV (b := a0) (av := [(0, a3)]) (st := []) (ci := 12) hX (pX12_put_ok e8) sv_12_145 rfl ⟨by decide, rfl⟩ g1 (by decide +kernel) (by rw [hRm]; exact ⟨Nat.le_of_ble_eq_true rfl, Nat.le_of_ble_eq_true rfl⟩) (by rw [hRm]; exact ⟨Nat.le_of_ble_eq_true rfl, Nat.le_of_ble_eq_true rfl⟩) (Nat.le_of_ble_eq_true rfl) ?_
    show zG C E 6 S 0 0 _ 30 [some (2, a0), some (0, a1), some (0, a2), some (0, a3), some (0, a4), some (0, a5)] [] q7
    refine zG.blk (pc' := 33) (l' := [some (2, a0), some (0, a1), some (0, a2), some (0, a3), some (0, a4), some (0, a5)]) (st' := [(0, a4), (2, a0)]) (M' := q7) hX [(.aload_n 0, 0, 0, 0), (.iload 4, 0, 0, 0)] (by decide +kernel) rfl trivial ?_
    obtain ⟨q9, e10, h⟩ := zbd h
    refine zG.callV (b := a0) (av := [(0, a4)]) (st := []) (ci := 12) hX (pX12_put_ok e10) sv_12_145 rfl ⟨by decide, rfl⟩ g1 (by decide +kernel) (by rw [hRm]; exact ⟨Nat.le_of_ble_eq_true rfl, Nat.le_of_ble_eq_true rfl⟩) (by rw [hRm]; exact ⟨Nat.le_of_ble_eq_true rfl, Nat.le_of_ble_eq_true rfl⟩) (Nat.le_of_ble_eq_true rfl) ?_
    show zG C E 6 S 0 0 _ 36 [some (2, a0), some (0, a1), some (0, a2), some (0, a3), some (0, a4), some (0, a5)] [] q9
    refine zG.blk (pc' := 39) (l' := [some (2, a0), some (0, a1), some (0, a2), some (0, a3), some (0, a4), some (0, a5)]) (st' := [(0, a5), (2, a0)]) (M' := q9) hX [(.aload_n 0, 0, 0, 0), (.iload 5, 0, 0, 0)] (by decide +kernel) rfl trivial ?_
    obtain ⟨q11, e12, h⟩ := zbd h
    refine zG.callV (b := a0) (av := [(0, a5)]) (st := []) (ci := 12) hX (pX12_put_ok e12) sv_12_145 rfl ⟨by decide, rfl⟩ g1 (by decide +kernel) (by rw [hRm]; exact ⟨Nat.le_of_ble_eq_true rfl, Nat.le_of_ble_eq_true rfl⟩) (by rw [hRm]; exact ⟨Nat.le_of_ble_eq_true rfl, Nat.le_of_ble_eq_true rfl⟩) (Nat.le_of_ble_eq_true rfl) ?_
    show zG C E 6 S 0 0 _ 42 [some (2, a0), some (0, a1), some (0, a2), some (0, a3), some (0, a4), some (0, a5)] [] q11
    refine zG.blk (pc' := 46) (l' := [some (2, a0), some (0, a1), some (0, a2), some (0, a3), some (0, a4), some (0, a5)]) (st' := [(0, q11 a0 20)]) (M' := q11) hX [(.aload_n 0, 0, 0, 0), (.getfield 142, 12, 20, 0)] (by decide +kernel) rfl (And.intro g1 trivial) ?_
    cases h
    exact zG.iret hX (by decide +kernel)
  · have h := zin c2 h
    refine zG.blk (pc' := 14) (l' := [some (2, a0), some (0, a1), some (0, a2), some (0, a3), some (0, a4), some (0, a5)]) (st' := [(0, (-1))]) (M' := M) hX [(.iconst (-1), 0, 0, 0)] (by decide +kernel) rfl trivial ?_
    cases h
    exact zG.iret hX (by decide +kernel)
theorem pX12_feed_ok {l : Launch} {E : ZE} {S : ZS} {M : ZM} {a0 a1 a2 a3 a4 a5 : Int} {q : (Int × ZM)} (h : pX12_feed S M a0 a1 a2 a3 a4 a5 = some q) : zMet l yX12_feed cX12_feed 6 (some .int) 2 62 0 0 E S M [(2, a0), (0, a1), (0, a2), (0, a3), (0, a4), (0, a5)] (some (0, q.1)) S q.2 :=
  zMet.of (o := 12) (ini := false) (by decide +kernel) rfl (fun h => by cases h) (Nat.le_of_ble_eq_true rfl) (fun C hX hl hRm => by subst hl; exact pX12_feed_go hX hRm h)
noncomputable def pX12_force (S : ZS) (M : ZM) (a0 : Int) (a1 : Int) : Option (Int × ZM) := if S.1 a0 = 12 then (pX12_in S M a1 (-1) (w32 ((M a0 24) - 1))).bind fun q2 => if q2.1 = 0 then (some ((-2), q2.2)) else (if S.1 (q2.2 a0 1) = 100 ∧ (0 : Int) ≤ 9 ∧ 9 < S.2.1 (q2.2 a0 1) then zlet (upM q2.2 (q2.2 a0 1) 9 a1) fun M6 => some (q2.2 (q2.2 a0 1) 9, M6) else none) else none
set_option maxHeartbeats 2000000 in
set_option maxRecDepth 20000 in
theorem pX12_force_go {C : ZC} {E : ZE} {S : ZS} {M : ZM} {a0 a1 : Int} {q : (Int × ZM)} (hX : zCx C E 12 cX12_force 3 (some .int) false) (hRm : czR C = { frames := 2, cells := 0, slots := 0, locals := 65 }) (h : pX12_force  S M a0 a1 = some q) : zG C E 3 S 0 0 (zQ C E 0 0 (some (0, q.1)) S q.2) 0 [some (2, a0), some (0, a1), none] [] M := by
  unfold pX12_force at h
  obtain ⟨g1, h⟩ := zif h
  refine zG.blk (pc' := 12) (l' := [some (2, a0), some (0, a1), none]) (st' := [(1, w32 ((M a0 24) - 1)), (1, (-1)), (1, a1)]) (M' := M) hX [(.iload_n 1, 0, 0, 0), (.i2l, 0, 0, 0), (.ldc2_w 324, (-1), 0, 0), (.aload_n 0, 0, 0, 0), (.getfield 318, 12, 24, 0), (.iconst 1, 0, 0, 0), (.isub, 0, 0, 0), (.i2l, 0, 0, 0)] (by decide +kernel) rfl (And.intro g1 trivial) ?_
  obtain ⟨q2, e3, h⟩ := zbd h
  refine zG.callS (av := [(1, a1), (1, (-1)), (1, w32 ((M a0 24) - 1))]) (st := []) hX (pX12_in_ok e3) ss_12_138 rfl (by decide +kernel) (by rw [hRm]; exact ⟨Nat.le_of_ble_eq_true rfl, Nat.le_of_ble_eq_true rfl⟩) (by rw [hRm]; exact ⟨Nat.le_of_ble_eq_true rfl, Nat.le_of_ble_eq_true rfl⟩) (Nat.le_of_ble_eq_true rfl) ?_
  show zG C E 3 S 0 0 _ 15 [some (2, a0), some (0, a1), none] [(0, q2.1)] q2.2
  refine zG.if_ne (tgt := 21) (off := 6) hX (by decide +kernel) (by decide) (fun c4 => ?_) (fun c4 => ?_)
  · have h := zin c4 h
    obtain ⟨g5, h⟩ := zif h
    refine zG.blk (pc' := 37) (l' := [some (2, a0), some (0, a1), some (0, q2.2 (q2.2 a0 1) 9)]) (st' := []) (M' := (upM q2.2 (q2.2 a0 1) 9 a1)) hX [(.aload_n 0, 0, 0, 0), (.getfield 9, 12, 1, 2), (.bipush 9, 0, 0, 0), (.iaload, 0, 0, 0), (.istore_n 2, 0, 0, 0), (.aload_n 0, 0, 0, 0), (.getfield 9, 12, 1, 2), (.bipush 9, 0, 0, 0), (.iload_n 1, 0, 0, 0), (.iastore, 0, 0, 0)] (by decide +kernel) rfl (And.intro g1 (And.intro g5 (And.intro g1 (And.intro g5 trivial)))) ?_
    generalize upM q2.2 (q2.2 a0 1) 9 a1 = M6 at h ⊢
    have h := zlt h
    refine zG.blk (pc' := 38) (l' := [some (2, a0), some (0, a1), some (0, q2.2 (q2.2 a0 1) 9)]) (st' := [(0, q2.2 (q2.2 a0 1) 9)]) (M' := M6) hX [(.iload_n 2, 0, 0, 0)] (by decide +kernel) rfl trivial ?_
    cases h
    exact zG.iret hX (by decide +kernel)
  · have h := zip c4 h
    refine zG.blk (pc' := 20) (l' := [some (2, a0), some (0, a1), none]) (st' := [(0, (-2))]) (M' := q2.2) hX [(.bipush (-2), 0, 0, 0)] (by decide +kernel) rfl trivial ?_
    cases h
    exact zG.iret hX (by decide +kernel)
theorem pX12_force_ok {l : Launch} {E : ZE} {S : ZS} {M : ZM} {a0 a1 : Int} {q : (Int × ZM)} (h : pX12_force S M a0 a1 = some q) : zMet l yX12_force cX12_force 3 (some .int) 2 65 0 0 E S M [(2, a0), (0, a1)] (some (0, q.1)) S q.2 :=
  zMet.of (o := 12) (ini := false) (by decide +kernel) rfl (fun h => by cases h) (Nat.le_of_ble_eq_true rfl) (fun C hX hl hRm => by subst hl; exact pX12_force_go hX hRm h)
noncomputable def pX12_playOf_146 (S : ZS) (M : ZM) (x0 : Int) (y0 : Int) : Option (Int × ZM) := if S.1 x0 = 12 then (pX12_laysBack S M x0).bind fun q3 => some (y0, q3) else none
set_option maxHeartbeats 2000000 in
set_option maxRecDepth 20000 in
theorem pX12_playOf_146_ok {C : ZC} {E : ZE} {S : ZS} {q : (Int × ZM)} (hX : zCx C E 12 cX12_playOf 12 (some .int) false) (hRm : czR C = { frames := 4, cells := 0, slots := 0, locals := 104 }) {M : ZM} {x0 : Int} {y0 : Int} (h : pX12_playOf_146 S M x0 y0 = some q) : zG C E 12 S 0 0 (zQ C E 0 0 (some (0, q.1)) S q.2) 146 [some (2, x0), none, none, none, none, none, none, none, none, none, none, none] [(0, y0)] M := by
  unfold pX12_playOf_146 at h
  refine zG.blk (pc' := 149) (l' := [some (2, x0), none, none, none, none, none, none, none, some (0, y0), none, none, none]) (st' := [(2, x0)]) (M' := M) hX [(.istore 8, 0, 0, 0), (.aload_n 0, 0, 0, 0)] (by decide +kernel) rfl trivial ?_
  obtain ⟨g5, h⟩ := zif h
  obtain ⟨q3, e4, h⟩ := zbd h
  refine zG.callV (b := x0) (av := []) (st := []) (ci := 12) hX (pX12_laysBack_ok e4) sv_12_419 rfl ⟨by decide, rfl⟩ g5 (by decide +kernel) (by rw [hRm]; exact ⟨Nat.le_of_ble_eq_true rfl, Nat.le_of_ble_eq_true rfl⟩) (by rw [hRm]; exact ⟨Nat.le_of_ble_eq_true rfl, Nat.le_of_ble_eq_true rfl⟩) (Nat.le_of_ble_eq_true rfl) ?_
  show zG C E 12 S 0 0 _ 152 [some (2, x0), none, none, none, none, none, none, none, some (0, y0), none, none, none] [] q3
  refine zG.blk (pc' := 154) (l' := [some (2, x0), none, none, none, none, none, none, none, some (0, y0), none, none, none]) (st' := [(0, y0)]) (M' := q3) hX [(.iload 8, 0, 0, 0)] (by decide +kernel) rfl trivial ?_
  cases h
  exact zG.iret hX (by decide +kernel)
noncomputable def pX12_playOf_124 (S : ZS) (M : ZM) (x0 : Int) (x1 : Int) (x2 : Int) (x7 : Int) : Option (Int × ZM) := if x7 = 0 then (pX12_playOf_146 S M x0 (-100000)) else (if S.1 x0 = 12 then (pX12_strokesOf S M x0 x1).bind fun q6 => (pX12_strokesOf S q6.2 x0 x2).bind fun q9 => pX12_playOf_146 S q9.2 x0 (w32 (q6.1 - q9.1)) else none)
set_option maxHeartbeats 2000000 in
set_option maxRecDepth 20000 in
theorem pX12_playOf_124_ok {C : ZC} {E : ZE} {S : ZS} {q : (Int × ZM)} (hX : zCx C E 12 cX12_playOf 12 (some .int) false) (hRm : czR C = { frames := 4, cells := 0, slots := 0, locals := 104 }) {M : ZM} {x0 : Int} {x1 : Int} {x2 : Int} {x7 : Int} (h : pX12_playOf_124 S M x0 x1 x2 x7 = some q) : zG C E 12 S 0 0 (zQ C E 0 0 (some (0, q.1)) S q.2) 124 [some (2, x0), some (0, x1), some (0, x2), none, none, none, none, some (0, x7), none, none, none, none] [] M := by
  unfold pX12_playOf_124 at h
  refine zG.blk (pc' := 126) (l' := [some (2, x0), some (0, x1), some (0, x2), none, none, none, none, some (0, x7), none, none, none, none]) (st' := [(0, x7)]) (M' := M) hX [(.iload 7, 0, 0, 0)] (by decide +kernel) rfl trivial ?_
  refine zG.if_eq (tgt := 143) (off := 17) hX (by decide +kernel) (by decide) (fun c2 => ?_) (fun c2 => ?_)
  · have h := zip c2 h
    refine zG.blk (pc' := 146) (l' := [some (2, x0), some (0, x1), some (0, x2), none, none, none, none, some (0, x7), none, none, none, none]) (st' := [(0, (-100000))]) (M' := M) hX [(.ldc_w 455, (-100000), 0, 0)] (by decide +kernel) rfl trivial ?_
    exact zG.wk [true, false, false, true, true, true, true, false, true, true, true, true] (pX12_playOf_146_ok hX hRm h)
  · have h := zin c2 h
    refine zG.blk (pc' := 131) (l' := [some (2, x0), some (0, x1), some (0, x2), none, none, none, none, some (0, x7), none, none, none, none]) (st' := [(0, x1), (2, x0)]) (M' := M) hX [(.aload_n 0, 0, 0, 0), (.iload_n 1, 0, 0, 0)] (by decide +kernel) rfl trivial ?_
    obtain ⟨g8, h⟩ := zif h
    obtain ⟨q6, e7, h⟩ := zbd h
    refine zG.callV (b := x0) (av := [(0, x1)]) (st := []) (ci := 12) hX (pX12_strokesOf_ok e7) sv_12_338 rfl ⟨by decide, rfl⟩ g8 (by decide +kernel) (by rw [hRm]; exact ⟨Nat.le_of_ble_eq_true rfl, Nat.le_of_ble_eq_true rfl⟩) (by rw [hRm]; exact ⟨Nat.le_of_ble_eq_true rfl, Nat.le_of_ble_eq_true rfl⟩) (Nat.le_of_ble_eq_true rfl) ?_
    show zG C E 12 S 0 0 _ 134 [some (2, x0), some (0, x1), some (0, x2), none, none, none, none, some (0, x7), none, none, none, none] [(0, q6.1)] q6.2
    refine zG.blk (pc' := 136) (l' := [some (2, x0), some (0, x1), some (0, x2), none, none, none, none, some (0, x7), none, none, none, none]) (st' := [(0, x2), (2, x0), (0, q6.1)]) (M' := q6.2) hX [(.aload_n 0, 0, 0, 0), (.iload_n 2, 0, 0, 0)] (by decide +kernel) rfl trivial ?_
    obtain ⟨q9, e10, h⟩ := zbd h
    refine zG.callV (b := x0) (av := [(0, x2)]) (st := [(0, q6.1)]) (ci := 12) hX (pX12_strokesOf_ok e10) sv_12_338 rfl ⟨by decide, rfl⟩ g8 (by decide +kernel) (by rw [hRm]; exact ⟨Nat.le_of_ble_eq_true rfl, Nat.le_of_ble_eq_true rfl⟩) (by rw [hRm]; exact ⟨Nat.le_of_ble_eq_true rfl, Nat.le_of_ble_eq_true rfl⟩) (Nat.le_of_ble_eq_true rfl) ?_
    show zG C E 12 S 0 0 _ 139 [some (2, x0), some (0, x1), some (0, x2), none, none, none, none, some (0, x7), none, none, none, none] [(0, q9.1), (0, q6.1)] q9.2
    refine zG.blk (pc' := 140) (l' := [some (2, x0), some (0, x1), some (0, x2), none, none, none, none, some (0, x7), none, none, none, none]) (st' := [(0, w32 (q6.1 - q9.1))]) (M' := q9.2) hX [(.isub, 0, 0, 0)] (by decide +kernel) rfl trivial ?_
    refine zG.goto (tgt := 146) (off := 6) hX (by decide +kernel) (by decide) ?_
    exact zG.wk [true, false, false, true, true, true, true, false, true, true, true, true] (pX12_playOf_146_ok hX hRm h)
noncomputable def pX12_playOf_118 (S : ZS) (k10 : ZM → Int → Int → Int → Int → Int → Int → Int → Int → Option (Int × ZM)) (M : ZM) (x0 : Int) (x1 : Int) (x2 : Int) (x3 : Int) (x4 : Int) (x6 : Int) (x7 : Int) (x8 : Int) : Option (Int × ZM) := k10 M x0 x1 x2 x3 x4 x6 x7 (w32 (x8 + 1))
set_option maxHeartbeats 2000000 in
set_option maxRecDepth 20000 in
theorem pX12_playOf_118_ok {C : ZC} {E : ZE} {S : ZS} {k10 : ZM → Int → Int → Int → Int → Int → Int → Int → Int → Option (Int × ZM)} {q : (Int × ZM)} (hX : zCx C E 12 cX12_playOf 12 (some .int) false) (hRm : czR C = { frames := 4, cells := 0, slots := 0, locals := 104 }) (hk10 : ∀ M x0 x1 x2 x3 x4 x6 x7 x8, k10 M x0 x1 x2 x3 x4 x6 x7 x8 = some q → zG C E 12 S 0 0 (zQ C E 0 0 (some (0, q.1)) S q.2) 10 [some (2, x0), some (0, x1), some (0, x2), some (0, x3), some (0, x4), none, some (0, x6), some (0, x7), some (0, x8), none, none, none] [] M) {M : ZM} {x0 : Int} {x1 : Int} {x2 : Int} {x3 : Int} {x4 : Int} {x6 : Int} {x7 : Int} {x8 : Int} (h : pX12_playOf_118 S k10 M x0 x1 x2 x3 x4 x6 x7 x8 = some q) : zG C E 12 S 0 0 (zQ C E 0 0 (some (0, q.1)) S q.2) 118 [some (2, x0), some (0, x1), some (0, x2), some (0, x3), some (0, x4), none, some (0, x6), some (0, x7), some (0, x8), none, none, none] [] M := by
  unfold pX12_playOf_118 at h
  refine zG.blk (pc' := 121) (l' := [some (2, x0), some (0, x1), some (0, x2), some (0, x3), some (0, x4), none, some (0, x6), some (0, x7), some (0, w32 (x8 + 1)), none, none, none]) (st' := []) (M' := M) hX [(.iinc 8 1, 0, 0, 0)] (by decide +kernel) rfl trivial ?_
  refine zG.goto (tgt := 10) (off := (-111)) hX (by decide +kernel) (by decide) ?_
  exact (hk10 _ _ _ _ _ _ _ _ _ h)
noncomputable def pX12_playOf_93 (S : ZS) (k10 : ZM → Int → Int → Int → Int → Int → Int → Int → Int → Option (Int × ZM)) (M : ZM) (x0 : Int) (x1 : Int) (x2 : Int) (x3 : Int) (x4 : Int) (x6 : Int) (x8 : Int) (x9 : Int) (x11 : Int) (y0 : Int) : Option (Int × ZM) := if y0 = 0 then (pX12_playOf_118 S k10 M x0 x1 x2 x3 x4 x6 y0 x8) else (if S.1 x0 = 12 then if S.1 (M x0 2) = 100 ∧ (0 : Int) ≤ x9 ∧ x9 < S.2.1 (M x0 2) then zlet (upM M (M x0 2) x9 x11) fun M24 => if S.1 (M24 x0 4) = 100 ∧ (0 : Int) ≤ x11 ∧ x11 < S.2.1 (M24 x0 4) then zlet (upM M24 (M24 x0 4) x11 x9) fun M26 => pX12_playOf_118 S k10 M26 x0 x1 x2 x3 x4 x6 y0 x8 else none else none else none)
set_option maxHeartbeats 2000000 in
set_option maxRecDepth 20000 in
theorem pX12_playOf_93_ok {C : ZC} {E : ZE} {S : ZS} {k10 : ZM → Int → Int → Int → Int → Int → Int → Int → Int → Option (Int × ZM)} {q : (Int × ZM)} (hX : zCx C E 12 cX12_playOf 12 (some .int) false) (hRm : czR C = { frames := 4, cells := 0, slots := 0, locals := 104 }) (hk10 : ∀ M x0 x1 x2 x3 x4 x6 x7 x8, k10 M x0 x1 x2 x3 x4 x6 x7 x8 = some q → zG C E 12 S 0 0 (zQ C E 0 0 (some (0, q.1)) S q.2) 10 [some (2, x0), some (0, x1), some (0, x2), some (0, x3), some (0, x4), none, some (0, x6), some (0, x7), some (0, x8), none, none, none] [] M) {M : ZM} {x0 : Int} {x1 : Int} {x2 : Int} {x3 : Int} {x4 : Int} {x6 : Int} {x8 : Int} {x9 : Int} {x11 : Int} {y0 : Int} (h : pX12_playOf_93 S k10 M x0 x1 x2 x3 x4 x6 x8 x9 x11 y0 = some q) : zG C E 12 S 0 0 (zQ C E 0 0 (some (0, q.1)) S q.2) 93 [some (2, x0), some (0, x1), some (0, x2), some (0, x3), some (0, x4), none, some (0, x6), none, some (0, x8), some (0, x9), none, some (0, x11)] [(0, y0)] M := by
  unfold pX12_playOf_93 at h
  refine zG.blk (pc' := 97) (l' := [some (2, x0), some (0, x1), some (0, x2), some (0, x3), some (0, x4), none, some (0, x6), some (0, y0), some (0, x8), some (0, x9), none, some (0, x11)]) (st' := [(0, y0)]) (M' := M) hX [(.istore 7, 0, 0, 0), (.iload 7, 0, 0, 0)] (by decide +kernel) rfl trivial ?_
  refine zG.if_eq (tgt := 118) (off := 21) hX (by decide +kernel) (by decide) (fun c21 => ?_) (fun c21 => ?_)
  · have h := zip c21 h
    exact zG.wk [true, true, true, true, true, true, true, true, true, false, true, false] (pX12_playOf_118_ok hX hRm hk10 h)
  · have h := zin c21 h
    obtain ⟨g22, h⟩ := zif h
    obtain ⟨g23, h⟩ := zif h
    refine zG.blk (pc' := 109) (l' := [some (2, x0), some (0, x1), some (0, x2), some (0, x3), some (0, x4), none, some (0, x6), some (0, y0), some (0, x8), some (0, x9), none, some (0, x11)]) (st' := []) (M' := (upM M (M x0 2) x9 x11)) hX [(.aload_n 0, 0, 0, 0), (.getfield 13, 12, 2, 2), (.iload 9, 0, 0, 0), (.iload 11, 0, 0, 0), (.iastore, 0, 0, 0)] (by decide +kernel) rfl (And.intro g22 (And.intro g23 trivial)) ?_
    generalize upM M (M x0 2) x9 x11 = M24 at h ⊢
    have h := zlt h
    obtain ⟨g25, h⟩ := zif h
    refine zG.blk (pc' := 118) (l' := [some (2, x0), some (0, x1), some (0, x2), some (0, x3), some (0, x4), none, some (0, x6), some (0, y0), some (0, x8), some (0, x9), none, some (0, x11)]) (st' := []) (M' := (upM M24 (M24 x0 4) x11 x9)) hX [(.aload_n 0, 0, 0, 0), (.getfield 19, 12, 4, 2), (.iload 11, 0, 0, 0), (.iload 9, 0, 0, 0), (.iastore, 0, 0, 0)] (by decide +kernel) rfl (And.intro g22 (And.intro g25 trivial)) ?_
    generalize upM M24 (M24 x0 4) x11 x9 = M26 at h ⊢
    have h := zlt h
    exact zG.wk [true, true, true, true, true, true, true, true, true, false, true, false] (pX12_playOf_118_ok hX hRm hk10 h)
noncomputable def pX12_playOf_80 (S : ZS) (k10 : ZM → Int → Int → Int → Int → Int → Int → Int → Int → Option (Int × ZM)) (M : ZM) (x0 : Int) (x1 : Int) (x2 : Int) (x3 : Int) (x4 : Int) (x6 : Int) (x8 : Int) (x9 : Int) (y0 : Int) : Option (Int × ZM) := pX12_playOf_93 S k10 M x0 x1 x2 x3 x4 x6 x8 x9 y0 (if y0 = (-1) then (0 : Int) else 1)
set_option maxHeartbeats 2000000 in
set_option maxRecDepth 20000 in
theorem pX12_playOf_80_ok {C : ZC} {E : ZE} {S : ZS} {k10 : ZM → Int → Int → Int → Int → Int → Int → Int → Int → Option (Int × ZM)} {q : (Int × ZM)} (hX : zCx C E 12 cX12_playOf 12 (some .int) false) (hRm : czR C = { frames := 4, cells := 0, slots := 0, locals := 104 }) (hk10 : ∀ M x0 x1 x2 x3 x4 x6 x7 x8, k10 M x0 x1 x2 x3 x4 x6 x7 x8 = some q → zG C E 12 S 0 0 (zQ C E 0 0 (some (0, q.1)) S q.2) 10 [some (2, x0), some (0, x1), some (0, x2), some (0, x3), some (0, x4), none, some (0, x6), some (0, x7), some (0, x8), none, none, none] [] M) {M : ZM} {x0 : Int} {x1 : Int} {x2 : Int} {x3 : Int} {x4 : Int} {x6 : Int} {x8 : Int} {x9 : Int} {y0 : Int} (h : pX12_playOf_80 S k10 M x0 x1 x2 x3 x4 x6 x8 x9 y0 = some q) : zG C E 12 S 0 0 (zQ C E 0 0 (some (0, q.1)) S q.2) 80 [some (2, x0), some (0, x1), some (0, x2), some (0, x3), some (0, x4), none, some (0, x6), none, some (0, x8), some (0, x9), none, none] [(0, y0)] M := by
  unfold pX12_playOf_80 at h
  refine zG.blk (pc' := 85) (l' := [some (2, x0), some (0, x1), some (0, x2), some (0, x3), some (0, x4), none, some (0, x6), none, some (0, x8), some (0, x9), none, some (0, y0)]) (st' := [(0, (-1)), (0, y0)]) (M' := M) hX [(.istore 11, 0, 0, 0), (.iload 11, 0, 0, 0), (.iconst (-1), 0, 0, 0)] (by decide +kernel) rfl trivial ?_
  have key20 : zG C E 12 S 0 0 (zQ C E 0 0 (some (0, q.1)) S q.2) 93 [some (2, x0), some (0, x1), some (0, x2), some (0, x3), some (0, x4), none, some (0, x6), none, some (0, x8), some (0, x9), none, some (0, y0)] [(0, (if y0 = (-1) then (0 : Int) else 1))] M := by
    exact (pX12_playOf_93_ok hX hRm hk10 h)
  refine zG.icmp_eq (tgt := 92) (off := 7) hX (by decide +kernel) (by decide) (fun c27 => ?_) (fun c27 => ?_)
  · refine zG.blk (pc' := 93) (l' := [some (2, x0), some (0, x1), some (0, x2), some (0, x3), some (0, x4), none, some (0, x6), none, some (0, x8), some (0, x9), none, some (0, y0)]) (st' := [(0, 0)]) (M' := M) hX [(.iconst 0, 0, 0, 0)] (by decide +kernel) rfl trivial ?_
    (have k := key20; simp only [if_pos c27] at k; exact k)
  · refine zG.blk (pc' := 89) (l' := [some (2, x0), some (0, x1), some (0, x2), some (0, x3), some (0, x4), none, some (0, x6), none, some (0, x8), some (0, x9), none, some (0, y0)]) (st' := [(0, 1)]) (M' := M) hX [(.iconst 1, 0, 0, 0)] (by decide +kernel) rfl trivial ?_
    refine zG.goto (tgt := 93) (off := 4) hX (by decide +kernel) (by decide) ?_
    (have k := key20; simp only [if_neg c27] at k; exact k)
noncomputable def pX12_playOf_33 (S : ZS) (k10 : ZM → Int → Int → Int → Int → Int → Int → Int → Int → Option (Int × ZM)) (M : ZM) (x0 : Int) (x1 : Int) (x2 : Int) (x3 : Int) (x4 : Int) (x6 : Int) (x8 : Int) (y0 : Int) : Option (Int × ZM) := if ¬ w32 (Int.tdiv x6 5) = 0 then zlet (Int.tmod (w32 (Int.tdiv x4 (w32 (Int.tdiv x6 5)))) 5) fun x14 => if x14 = 0 then (if S.1 x0 = 12 then if S.1 (M x0 2) = 100 ∧ (0 : Int) ≤ y0 ∧ y0 < S.2.1 (M x0 2) then pX12_playOf_80 S k10 M x0 x1 x2 x3 x4 (w32 (Int.tdiv x6 5)) x8 y0 (M (M x0 2) y0) else none else none) else (if S.1 x0 = 12 then if S.1 (M x0 2) = 100 ∧ (0 : Int) ≤ y0 ∧ y0 < S.2.1 (M x0 2) then (pX12_beside S M x0 (M (M x0 2) y0) (w32 (x14 - 1))).bind fun q18 => pX12_playOf_80 S k10 q18.2 x0 x1 x2 x3 x4 (w32 (Int.tdiv x6 5)) x8 y0 q18.1 else none else none) else none
set_option maxHeartbeats 2000000 in
set_option maxRecDepth 20000 in
theorem pX12_playOf_33_ok {C : ZC} {E : ZE} {S : ZS} {k10 : ZM → Int → Int → Int → Int → Int → Int → Int → Int → Option (Int × ZM)} {q : (Int × ZM)} (hX : zCx C E 12 cX12_playOf 12 (some .int) false) (hRm : czR C = { frames := 4, cells := 0, slots := 0, locals := 104 }) (hk10 : ∀ M x0 x1 x2 x3 x4 x6 x7 x8, k10 M x0 x1 x2 x3 x4 x6 x7 x8 = some q → zG C E 12 S 0 0 (zQ C E 0 0 (some (0, q.1)) S q.2) 10 [some (2, x0), some (0, x1), some (0, x2), some (0, x3), some (0, x4), none, some (0, x6), some (0, x7), some (0, x8), none, none, none] [] M) {M : ZM} {x0 : Int} {x1 : Int} {x2 : Int} {x3 : Int} {x4 : Int} {x6 : Int} {x8 : Int} {y0 : Int} (h : pX12_playOf_33 S k10 M x0 x1 x2 x3 x4 x6 x8 y0 = some q) : zG C E 12 S 0 0 (zQ C E 0 0 (some (0, q.1)) S q.2) 33 [some (2, x0), some (0, x1), some (0, x2), some (0, x3), some (0, x4), none, some (0, x6), none, some (0, x8), none, none, none] [(0, y0)] M := by
  unfold pX12_playOf_33 at h
  obtain ⟨g13, h⟩ := zif h
  refine zG.blk (pc' := 50) (l' := [some (2, x0), some (0, x1), some (0, x2), some (0, x3), some (0, x4), none, some (0, w32 (Int.tdiv x6 5)), none, some (0, x8), some (0, y0), some (0, Int.tmod (w32 (Int.tdiv x4 (w32 (Int.tdiv x6 5)))) 5), none]) (st' := []) (M' := M) hX [(.istore 9, 0, 0, 0), (.iload 6, 0, 0, 0), (.iconst 5, 0, 0, 0), (.idiv, 0, 0, 0), (.istore 6, 0, 0, 0), (.iload 4, 0, 0, 0), (.iload 6, 0, 0, 0), (.idiv, 0, 0, 0), (.iconst 5, 0, 0, 0), (.irem, 0, 0, 0), (.istore 10, 0, 0, 0)] (by decide +kernel) rfl (And.intro (by decide) (And.intro g13 (And.intro (by decide) trivial))) ?_
  generalize Int.tmod (w32 (Int.tdiv x4 (w32 (Int.tdiv x6 5)))) 5 = x14 at h ⊢
  have h := zlt h
  refine zG.blk (pc' := 52) (l' := [some (2, x0), some (0, x1), some (0, x2), some (0, x3), some (0, x4), none, some (0, w32 (Int.tdiv x6 5)), none, some (0, x8), some (0, y0), some (0, x14), none]) (st' := [(0, x14)]) (M' := M) hX [(.iload 10, 0, 0, 0)] (by decide +kernel) rfl trivial ?_
  refine zG.if_ne (tgt := 65) (off := 13) hX (by decide +kernel) (by decide) (fun c15 => ?_) (fun c15 => ?_)
  · have h := zin c15 h
    obtain ⟨g16, h⟩ := zif h
    obtain ⟨g17, h⟩ := zif h
    refine zG.blk (pc' := 77) (l' := [some (2, x0), some (0, x1), some (0, x2), some (0, x3), some (0, x4), none, some (0, w32 (Int.tdiv x6 5)), none, some (0, x8), some (0, y0), some (0, x14), none]) (st' := [(0, w32 (x14 - 1)), (0, M (M x0 2) y0), (2, x0)]) (M' := M) hX [(.aload_n 0, 0, 0, 0), (.aload_n 0, 0, 0, 0), (.getfield 13, 12, 2, 2), (.iload 9, 0, 0, 0), (.iaload, 0, 0, 0), (.iload 10, 0, 0, 0), (.iconst 1, 0, 0, 0), (.isub, 0, 0, 0)] (by decide +kernel) rfl (And.intro g16 (And.intro g17 trivial)) ?_
    obtain ⟨q18, e19, h⟩ := zbd h
    refine zG.callV (b := x0) (av := [(0, M (M x0 2) y0), (0, w32 (x14 - 1))]) (st := []) (ci := 12) hX (pX12_beside_ok e19) sv_12_363 rfl ⟨by decide, rfl⟩ g16 (by decide +kernel) (by rw [hRm]; exact ⟨Nat.le_of_ble_eq_true rfl, Nat.le_of_ble_eq_true rfl⟩) (by rw [hRm]; exact ⟨Nat.le_of_ble_eq_true rfl, Nat.le_of_ble_eq_true rfl⟩) (Nat.le_of_ble_eq_true rfl) ?_
    show zG C E 12 S 0 0 _ 80 [some (2, x0), some (0, x1), some (0, x2), some (0, x3), some (0, x4), none, some (0, w32 (Int.tdiv x6 5)), none, some (0, x8), some (0, y0), some (0, x14), none] [(0, q18.1)] q18.2
    exact zG.wk [true, true, true, true, true, true, true, true, true, true, false, true] (pX12_playOf_80_ok hX hRm hk10 h)
  · have h := zip c15 h
    obtain ⟨g28, h⟩ := zif h
    obtain ⟨g29, h⟩ := zif h
    refine zG.blk (pc' := 62) (l' := [some (2, x0), some (0, x1), some (0, x2), some (0, x3), some (0, x4), none, some (0, w32 (Int.tdiv x6 5)), none, some (0, x8), some (0, y0), some (0, x14), none]) (st' := [(0, M (M x0 2) y0)]) (M' := M) hX [(.aload_n 0, 0, 0, 0), (.getfield 13, 12, 2, 2), (.iload 9, 0, 0, 0), (.iaload, 0, 0, 0)] (by decide +kernel) rfl (And.intro g28 (And.intro g29 trivial)) ?_
    refine zG.goto (tgt := 80) (off := 18) hX (by decide +kernel) (by decide) ?_
    exact zG.wk [true, true, true, true, true, true, true, true, true, true, false, true] (pX12_playOf_80_ok hX hRm hk10 h)
noncomputable def pX12_playOf_10 (S : ZS) : Nat → ZM → Int → Int → Int → Int → Int → Int → Int → Int → Option (Int × ZM)
  | 0 => fun _ _ _ _ _ _ _ _ _ => none
  | n + 1 => fun M x0 x1 x2 x3 x4 x6 x7 x8 => if x3 ≤ x8 then (pX12_playOf_124 S M x0 x1 x2 x7) else (if x7 = 0 then (pX12_playOf_124 S M x0 x1 x2 x7) else (pX12_playOf_33 S (pX12_playOf_10 S n) M x0 x1 x2 x3 x4 x6 x8 (if Int.tmod x8 2 = 0 then (x1 : Int) else x2)))
set_option maxHeartbeats 2000000 in
set_option maxRecDepth 20000 in
theorem pX12_playOf_10_ok {C : ZC} {E : ZE} {S : ZS} {q : (Int × ZM)} (hX : zCx C E 12 cX12_playOf 12 (some .int) false) (hRm : czR C = { frames := 4, cells := 0, slots := 0, locals := 104 }) : ∀ (n : Nat) (M : ZM) (x0 : Int) (x1 : Int) (x2 : Int) (x3 : Int) (x4 : Int) (x6 : Int) (x7 : Int) (x8 : Int), pX12_playOf_10 S n M x0 x1 x2 x3 x4 x6 x7 x8 = some q → zG C E 12 S 0 0 (zQ C E 0 0 (some (0, q.1)) S q.2) 10 [some (2, x0), some (0, x1), some (0, x2), some (0, x3), some (0, x4), none, some (0, x6), some (0, x7), some (0, x8), none, none, none] [] M := by
  intro n
  induction n with
  | zero => intro M x0 x1 x2 x3 x4 x6 x7 x8 h; cases h
  | succ n ih =>
    intro M x0 x1 x2 x3 x4 x6 x7 x8 h
    unfold pX12_playOf_10 at h
    refine zG.blk (pc' := 13) (l' := [some (2, x0), some (0, x1), some (0, x2), some (0, x3), some (0, x4), none, some (0, x6), some (0, x7), some (0, x8), none, none, none]) (st' := [(0, x3), (0, x8)]) (M' := M) hX [(.iload 8, 0, 0, 0), (.iload_n 3, 0, 0, 0)] (by decide +kernel) rfl trivial ?_
    refine zG.icmp_ge (tgt := 124) (off := 111) hX (by decide +kernel) (by decide) (fun c1 => ?_) (fun c1 => ?_)
    · have h := zip c1 h
      exact zG.wk [true, true, true, false, false, true, false, true, false, true, true, true] (pX12_playOf_124_ok hX hRm h)
    · have h := zin c1 h
      refine zG.blk (pc' := 18) (l' := [some (2, x0), some (0, x1), some (0, x2), some (0, x3), some (0, x4), none, some (0, x6), some (0, x7), some (0, x8), none, none, none]) (st' := [(0, x7)]) (M' := M) hX [(.iload 7, 0, 0, 0)] (by decide +kernel) rfl trivial ?_
      refine zG.if_eq (tgt := 124) (off := 106) hX (by decide +kernel) (by decide) (fun c11 => ?_) (fun c11 => ?_)
      · have h := zip c11 h
        exact zG.wk [true, true, true, false, false, true, false, true, false, true, true, true] (pX12_playOf_124_ok hX hRm h)
      · have h := zin c11 h
        refine zG.blk (pc' := 25) (l' := [some (2, x0), some (0, x1), some (0, x2), some (0, x3), some (0, x4), none, some (0, x6), some (0, x7), some (0, x8), none, none, none]) (st' := [(0, Int.tmod x8 2)]) (M' := M) hX [(.iload 8, 0, 0, 0), (.iconst 2, 0, 0, 0), (.irem, 0, 0, 0)] (by decide +kernel) rfl (And.intro (by decide) trivial) ?_
        have key12 : zG C E 12 S 0 0 (zQ C E 0 0 (some (0, q.1)) S q.2) 33 [some (2, x0), some (0, x1), some (0, x2), some (0, x3), some (0, x4), none, some (0, x6), some (0, x7), some (0, x8), none, none, none] [(0, (if Int.tmod x8 2 = 0 then (x1 : Int) else x2))] M := by
          exact zG.wk [true, true, true, true, true, true, true, false, true, true, true, true] (pX12_playOf_33_ok hX hRm ih h)
        refine zG.if_ne (tgt := 32) (off := 7) hX (by decide +kernel) (by decide) (fun c30 => ?_) (fun c30 => ?_)
        · refine zG.blk (pc' := 33) (l' := [some (2, x0), some (0, x1), some (0, x2), some (0, x3), some (0, x4), none, some (0, x6), some (0, x7), some (0, x8), none, none, none]) (st' := [(0, x2)]) (M' := M) hX [(.iload_n 2, 0, 0, 0)] (by decide +kernel) rfl trivial ?_
          (have k := key12; simp only [if_neg c30] at k; exact k)
        · refine zG.blk (pc' := 29) (l' := [some (2, x0), some (0, x1), some (0, x2), some (0, x3), some (0, x4), none, some (0, x6), some (0, x7), some (0, x8), none, none, none]) (st' := [(0, x1)]) (M' := M) hX [(.iload_n 1, 0, 0, 0)] (by decide +kernel) rfl trivial ?_
          refine zG.goto (tgt := 33) (off := 4) hX (by decide +kernel) (by decide) ?_
          (have k := key12; simp only [if_pos c30] at k; exact k)
noncomputable def pX12_playOf (S : ZS) (M : ZM) (a0 : Int) (a1 : Int) (a2 : Int) (a3 : Int) (a4 : Int) (a5 : Int) : Option (Int × ZM) := pX12_playOf_10 S zFU M a0 a1 a2 a3 a4 a5 1 0
set_option maxHeartbeats 2000000 in
set_option maxRecDepth 20000 in
theorem pX12_playOf_go {C : ZC} {E : ZE} {S : ZS} {M : ZM} {a0 a1 a2 a3 a4 a5 : Int} {q : (Int × ZM)} (hX : zCx C E 12 cX12_playOf 12 (some .int) false) (hRm : czR C = { frames := 4, cells := 0, slots := 0, locals := 104 }) (h : pX12_playOf  S M a0 a1 a2 a3 a4 a5 = some q) : zG C E 12 S 0 0 (zQ C E 0 0 (some (0, q.1)) S q.2) 0 [some (2, a0), some (0, a1), some (0, a2), some (0, a3), some (0, a4), some (0, a5), none, none, none, none, none, none] [] M := by
  unfold pX12_playOf at h
  refine zG.blk (pc' := 10) (l' := [some (2, a0), some (0, a1), some (0, a2), some (0, a3), some (0, a4), some (0, a5), some (0, a5), some (0, 1), some (0, 0), none, none, none]) (st' := []) (M' := M) hX [(.iload 5, 0, 0, 0), (.istore 6, 0, 0, 0), (.iconst 1, 0, 0, 0), (.istore 7, 0, 0, 0), (.iconst 0, 0, 0, 0), (.istore 8, 0, 0, 0)] (by decide +kernel) rfl trivial ?_
  exact zG.wk [true, true, true, true, true, false, true, true, true, true, true, true] (pX12_playOf_10_ok hX hRm zFU _ _ _ _ _ _ _ _ _ h)
theorem pX12_playOf_ok {l : Launch} {E : ZE} {S : ZS} {M : ZM} {a0 a1 a2 a3 a4 a5 : Int} {q : (Int × ZM)} (h : pX12_playOf S M a0 a1 a2 a3 a4 a5 = some q) : zMet l yX12_playOf cX12_playOf 12 (some .int) 4 104 0 0 E S M [(2, a0), (0, a1), (0, a2), (0, a3), (0, a4), (0, a5)] (some (0, q.1)) S q.2 :=
  zMet.of (o := 12) (ini := false) (by decide +kernel) rfl (fun h => by cases h) (Nat.le_of_ble_eq_true rfl) (fun C hX hl hRm => by subst hl; exact pX12_playOf_go hX hRm h)
noncomputable def pX12_game_44 (S : ZS) (M : ZM) : Option (Int × ZM) := some ((-1000), M)
set_option maxHeartbeats 2000000 in
set_option maxRecDepth 20000 in
theorem pX12_game_44_ok {C : ZC} {E : ZE} {S : ZS} {q : (Int × ZM)} (hX : zCx C E 12 cX12_game 8 (some .int) false) (hRm : czR C = { frames := 5, cells := 0, slots := 0, locals := 135 }) {M : ZM} (h : pX12_game_44 S M = some q) : zG C E 8 S 0 0 (zQ C E 0 0 (some (0, q.1)) S q.2) 44 [none, none, none, none, none, none, none, none] [] M := by
  unfold pX12_game_44 at h
  refine zG.blk (pc' := 47) (l' := [none, none, none, none, none, none, none, none]) (st' := [(0, (-1000))]) (M' := M) hX [(.sipush (-1000), 0, 0, 0)] (by decide +kernel) rfl trivial ?_
  cases h
  exact zG.iret hX (by decide +kernel)
theorem sv_12_462 : zSV 12 462 yX12_bestAt cX12_bestAt 5 (some .int) 2 := ⟨⟨gt_at 1675 (by decide +kernel) rfl, gt_at 1677 (by decide +kernel) rfl, gt_at 97 (by decide +kernel) rfl, gt_at 117 (by decide +kernel) rfl, gt_at 1678 (by decide +kernel) rfl⟩, by decide +kernel, by decide +kernel, by decide +kernel⟩
noncomputable def pX12_game_207 (S : ZS) (M : ZM) (y0 : Int) : Option (Int × ZM) := some (y0, M)
set_option maxHeartbeats 2000000 in
set_option maxRecDepth 20000 in
theorem pX12_game_207_ok {C : ZC} {E : ZE} {S : ZS} {q : (Int × ZM)} (hX : zCx C E 12 cX12_game 8 (some .int) false) (hRm : czR C = { frames := 5, cells := 0, slots := 0, locals := 135 }) {M : ZM} {y0 : Int} (h : pX12_game_207 S M y0 = some q) : zG C E 8 S 0 0 (zQ C E 0 0 (some (0, q.1)) S q.2) 207 [none, none, none, none, none, none, none, none] [(0, y0)] M := by
  unfold pX12_game_207 at h
  cases h
  exact zG.iret hX (by decide +kernel)
noncomputable def pX12_game_163 (S : ZS) (k115 : ZM → Int → Int → Int → Int → Option (Int × ZM)) (k129 : ZM → Int → Int → Int → Int → Int → Option (Int × ZM)) (M : ZM) (x0 : Int) (x4 : Int) (x5 : Int) (x6 : Int) (x7 : Int) (y0 : Int) (y1 : Int) (y2 : Int) (y3 : Int) (y4 : Int) (y5 : Int) : Option (Int × ZM) := if S.1 y2 = 12 then (pX12_bestAt S M y2 y1 y0).bind fun q29 => if S.1 y3 = 100 ∧ (0 : Int) ≤ q29.1 ∧ q29.1 < S.2.1 y3 then if S.1 y5 = 100 ∧ (0 : Int) ≤ y4 ∧ y4 < S.2.1 y5 then zlet (upM q29.2 y5 y4 (q29.2 y3 q29.1)) fun M34 => k129 M34 x0 x4 x5 x6 (w32 (x7 + 1)) else none else none else none
set_option maxHeartbeats 2000000 in
set_option maxRecDepth 20000 in
theorem pX12_game_163_ok {C : ZC} {E : ZE} {S : ZS} {k115 : ZM → Int → Int → Int → Int → Option (Int × ZM)} {k129 : ZM → Int → Int → Int → Int → Int → Option (Int × ZM)} {q : (Int × ZM)} (hX : zCx C E 12 cX12_game 8 (some .int) false) (hRm : czR C = { frames := 5, cells := 0, slots := 0, locals := 135 }) (hk115 : ∀ M x0 x4 x5 x6, k115 M x0 x4 x5 x6 = some q → zG C E 8 S 0 0 (zQ C E 0 0 (some (0, q.1)) S q.2) 115 [some (2, x0), none, none, none, some (0, x4), some (0, x5), some (0, x6), none] [] M) (hk129 : ∀ M x0 x4 x5 x6 x7, k129 M x0 x4 x5 x6 x7 = some q → zG C E 8 S 0 0 (zQ C E 0 0 (some (0, q.1)) S q.2) 129 [some (2, x0), none, none, none, some (0, x4), some (0, x5), some (0, x6), some (0, x7)] [] M) {M : ZM} {x0 : Int} {x4 : Int} {x5 : Int} {x6 : Int} {x7 : Int} {y0 : Int} {y1 : Int} {y2 : Int} {y3 : Int} {y4 : Int} {y5 : Int} (h : pX12_game_163 S k115 k129 M x0 x4 x5 x6 x7 y0 y1 y2 y3 y4 y5 = some q) : zG C E 8 S 0 0 (zQ C E 0 0 (some (0, q.1)) S q.2) 163 [some (2, x0), none, none, none, some (0, x4), some (0, x5), some (0, x6), some (0, x7)] [(0, y0), (0, y1), (2, y2), (2, y3), (0, y4), (2, y5)] M := by
  unfold pX12_game_163 at h
  obtain ⟨g31, h⟩ := zif h
  obtain ⟨q29, e30, h⟩ := zbd h
  refine zG.callV (b := y2) (av := [(0, y1), (0, y0)]) (st := [(2, y3), (0, y4), (2, y5)]) (ci := 12) hX (pX12_bestAt_ok e30) sv_12_462 rfl ⟨by decide, rfl⟩ g31 (by decide +kernel) (by rw [hRm]; exact ⟨Nat.le_of_ble_eq_true rfl, Nat.le_of_ble_eq_true rfl⟩) (by rw [hRm]; exact ⟨Nat.le_of_ble_eq_true rfl, Nat.le_of_ble_eq_true rfl⟩) (Nat.le_of_ble_eq_true rfl) ?_
  show zG C E 8 S 0 0 _ 166 [some (2, x0), none, none, none, some (0, x4), some (0, x5), some (0, x6), some (0, x7)] [(0, q29.1), (2, y3), (0, y4), (2, y5)] q29.2
  obtain ⟨g32, h⟩ := zif h
  obtain ⟨g33, h⟩ := zif h
  refine zG.blk (pc' := 168) (l' := [some (2, x0), none, none, none, some (0, x4), some (0, x5), some (0, x6), some (0, x7)]) (st' := []) (M' := (upM q29.2 y5 y4 (q29.2 y3 q29.1))) hX [(.iaload, 0, 0, 0), (.iastore, 0, 0, 0)] (by decide +kernel) rfl (And.intro g32 (And.intro g33 trivial)) ?_
  generalize upM q29.2 y5 y4 (q29.2 y3 q29.1) = M34 at h ⊢
  have h := zlt h
  refine zG.blk (pc' := 171) (l' := [some (2, x0), none, none, none, some (0, x4), some (0, x5), some (0, x6), some (0, w32 (x7 + 1))]) (st' := []) (M' := M34) hX [(.iinc 7 1, 0, 0, 0)] (by decide +kernel) rfl trivial ?_
  refine zG.goto (tgt := 129) (off := (-42)) hX (by decide +kernel) (by decide) ?_
  exact (hk129 _ _ _ _ _ _ h)
noncomputable def pX12_game_129 (S : ZS) (k115 : ZM → Int → Int → Int → Int → Option (Int × ZM)) : Nat → ZM → Int → Int → Int → Int → Int → Option (Int × ZM)
  | 0 => fun _ _ _ _ _ _ => none
  | n + 1 => fun M x0 x4 x5 x6 x7 => if x5 ≤ x7 then (k115 M x0 x4 x5 (w32 (x6 + (-1)))) else (if S.1 x0 = 12 then pX12_game_163 S k115 (pX12_game_129 S k115 n) M x0 x4 x5 x6 x7 (if Int.tmod x6 2 = 0 then (1 : Int) else 0) (w32 (5 * x7)) x0 (M x0 45) x7 (M x0 45) else none)
set_option maxHeartbeats 2000000 in
set_option maxRecDepth 20000 in
theorem pX12_game_129_ok {C : ZC} {E : ZE} {S : ZS} {k115 : ZM → Int → Int → Int → Int → Option (Int × ZM)} {q : (Int × ZM)} (hX : zCx C E 12 cX12_game 8 (some .int) false) (hRm : czR C = { frames := 5, cells := 0, slots := 0, locals := 135 }) (hk115 : ∀ M x0 x4 x5 x6, k115 M x0 x4 x5 x6 = some q → zG C E 8 S 0 0 (zQ C E 0 0 (some (0, q.1)) S q.2) 115 [some (2, x0), none, none, none, some (0, x4), some (0, x5), some (0, x6), none] [] M) : ∀ (n : Nat) (M : ZM) (x0 : Int) (x4 : Int) (x5 : Int) (x6 : Int) (x7 : Int), pX12_game_129 S k115 n M x0 x4 x5 x6 x7 = some q → zG C E 8 S 0 0 (zQ C E 0 0 (some (0, q.1)) S q.2) 129 [some (2, x0), none, none, none, some (0, x4), some (0, x5), some (0, x6), some (0, x7)] [] M := by
  intro n
  induction n with
  | zero => intro M x0 x4 x5 x6 x7 h; cases h
  | succ n ih =>
    intro M x0 x4 x5 x6 x7 h
    unfold pX12_game_129 at h
    refine zG.blk (pc' := 133) (l' := [some (2, x0), none, none, none, some (0, x4), some (0, x5), some (0, x6), some (0, x7)]) (st' := [(0, x5), (0, x7)]) (M' := M) hX [(.iload 7, 0, 0, 0), (.iload 5, 0, 0, 0)] (by decide +kernel) rfl trivial ?_
    refine zG.icmp_ge (tgt := 174) (off := 41) hX (by decide +kernel) (by decide) (fun c26 => ?_) (fun c26 => ?_)
    · have h := zip c26 h
      refine zG.blk (pc' := 177) (l' := [some (2, x0), none, none, none, some (0, x4), some (0, x5), some (0, w32 (x6 + (-1))), some (0, x7)]) (st' := []) (M' := M) hX [(.iinc 6 (-1), 0, 0, 0)] (by decide +kernel) rfl trivial ?_
      refine zG.goto (tgt := 115) (off := (-62)) hX (by decide +kernel) (by decide) ?_
      exact zG.wk [true, true, true, true, true, true, true, false] (hk115 _ _ _ _ _ h)
    · have h := zin c26 h
      obtain ⟨g27, h⟩ := zif h
      refine zG.blk (pc' := 155) (l' := [some (2, x0), none, none, none, some (0, x4), some (0, x5), some (0, x6), some (0, x7)]) (st' := [(0, Int.tmod x6 2), (0, w32 (5 * x7)), (2, x0), (2, M x0 45), (0, x7), (2, M x0 45)]) (M' := M) hX [(.aload_n 0, 0, 0, 0), (.getfield 109, 12, 45, 2), (.iload 7, 0, 0, 0), (.aload_n 0, 0, 0, 0), (.getfield 109, 12, 45, 2), (.aload_n 0, 0, 0, 0), (.iconst 5, 0, 0, 0), (.iload 7, 0, 0, 0), (.imul, 0, 0, 0), (.iload 6, 0, 0, 0), (.iconst 2, 0, 0, 0), (.irem, 0, 0, 0)] (by decide +kernel) rfl (And.intro g27 (And.intro g27 (And.intro (by decide) trivial))) ?_
      have key28 : zG C E 8 S 0 0 (zQ C E 0 0 (some (0, q.1)) S q.2) 163 [some (2, x0), none, none, none, some (0, x4), some (0, x5), some (0, x6), some (0, x7)] [(0, (if Int.tmod x6 2 = 0 then (1 : Int) else 0)), (0, w32 (5 * x7)), (2, x0), (2, M x0 45), (0, x7), (2, M x0 45)] M := by
        exact (pX12_game_163_ok hX hRm hk115 ih h)
      refine zG.if_ne (tgt := 162) (off := 7) hX (by decide +kernel) (by decide) (fun c35 => ?_) (fun c35 => ?_)
      · refine zG.blk (pc' := 163) (l' := [some (2, x0), none, none, none, some (0, x4), some (0, x5), some (0, x6), some (0, x7)]) (st' := [(0, 0), (0, w32 (5 * x7)), (2, x0), (2, M x0 45), (0, x7), (2, M x0 45)]) (M' := M) hX [(.iconst 0, 0, 0, 0)] (by decide +kernel) rfl trivial ?_
        (have k := key28; simp only [if_neg c35] at k; exact k)
      · refine zG.blk (pc' := 159) (l' := [some (2, x0), none, none, none, some (0, x4), some (0, x5), some (0, x6), some (0, x7)]) (st' := [(0, 1), (0, w32 (5 * x7)), (2, x0), (2, M x0 45), (0, x7), (2, M x0 45)]) (M' := M) hX [(.iconst 1, 0, 0, 0)] (by decide +kernel) rfl trivial ?_
        refine zG.goto (tgt := 163) (off := 4) hX (by decide +kernel) (by decide) ?_
        (have k := key28; simp only [if_pos c35] at k; exact k)
noncomputable def pX12_game_115 (S : ZS) : Nat → ZM → Int → Int → Int → Int → Option (Int × ZM)
  | 0 => fun _ _ _ _ _ => none
  | n + 1 => fun M x0 x4 x5 x6 => if x6 ≤ 0 then (if S.1 x0 = 12 then (pX12_bestAt S M x0 0 1).bind fun q21 => if x4 = 0 then (if S.1 (q21.2 x0 45) = 100 ∧ (0 : Int) ≤ q21.1 ∧ q21.1 < S.2.1 (q21.2 x0 45) then pX12_game_207 S q21.2 (q21.2 (q21.2 x0 45) q21.1) else none) else (pX12_game_207 S q21.2 (w32 (q21.1 - 1))) else none) else (pX12_game_129 S (pX12_game_115 S n) zFU M x0 x4 (w32 (Int.tdiv x5 5)) x6 0)
set_option maxHeartbeats 2000000 in
set_option maxRecDepth 20000 in
theorem pX12_game_115_ok {C : ZC} {E : ZE} {S : ZS} {q : (Int × ZM)} (hX : zCx C E 12 cX12_game 8 (some .int) false) (hRm : czR C = { frames := 5, cells := 0, slots := 0, locals := 135 }) : ∀ (n : Nat) (M : ZM) (x0 : Int) (x4 : Int) (x5 : Int) (x6 : Int), pX12_game_115 S n M x0 x4 x5 x6 = some q → zG C E 8 S 0 0 (zQ C E 0 0 (some (0, q.1)) S q.2) 115 [some (2, x0), none, none, none, some (0, x4), some (0, x5), some (0, x6), none] [] M := by
  intro n
  induction n with
  | zero => intro M x0 x4 x5 x6 h; cases h
  | succ n ih =>
    intro M x0 x4 x5 x6 h
    unfold pX12_game_115 at h
    refine zG.blk (pc' := 117) (l' := [some (2, x0), none, none, none, some (0, x4), some (0, x5), some (0, x6), none]) (st' := [(0, x6)]) (M' := M) hX [(.iload 6, 0, 0, 0)] (by decide +kernel) rfl trivial ?_
    refine zG.if_le (tgt := 180) (off := 63) hX (by decide +kernel) (by decide) (fun c20 => ?_) (fun c20 => ?_)
    · have h := zip c20 h
      refine zG.blk (pc' := 183) (l' := [some (2, x0), none, none, none, some (0, x4), some (0, x5), some (0, x6), none]) (st' := [(0, 1), (0, 0), (2, x0)]) (M' := M) hX [(.aload_n 0, 0, 0, 0), (.iconst 0, 0, 0, 0), (.iconst 1, 0, 0, 0)] (by decide +kernel) rfl trivial ?_
      obtain ⟨g23, h⟩ := zif h
      obtain ⟨q21, e22, h⟩ := zbd h
      refine zG.callV (b := x0) (av := [(0, 0), (0, 1)]) (st := []) (ci := 12) hX (pX12_bestAt_ok e22) sv_12_462 rfl ⟨by decide, rfl⟩ g23 (by decide +kernel) (by rw [hRm]; exact ⟨Nat.le_of_ble_eq_true rfl, Nat.le_of_ble_eq_true rfl⟩) (by rw [hRm]; exact ⟨Nat.le_of_ble_eq_true rfl, Nat.le_of_ble_eq_true rfl⟩) (Nat.le_of_ble_eq_true rfl) ?_
      show zG C E 8 S 0 0 _ 186 [some (2, x0), none, none, none, some (0, x4), some (0, x5), some (0, x6), none] [(0, q21.1)] q21.2
      refine zG.blk (pc' := 190) (l' := [some (2, x0), none, none, none, some (0, x4), some (0, x5), some (0, q21.1), none]) (st' := [(0, x4)]) (M' := q21.2) hX [(.istore 6, 0, 0, 0), (.iload 4, 0, 0, 0)] (by decide +kernel) rfl trivial ?_
      refine zG.if_ne (tgt := 203) (off := 13) hX (by decide +kernel) (by decide) (fun c24 => ?_) (fun c24 => ?_)
      · have h := zin c24 h
        refine zG.blk (pc' := 207) (l' := [some (2, x0), none, none, none, some (0, x4), some (0, x5), some (0, q21.1), none]) (st' := [(0, w32 (q21.1 - 1))]) (M' := q21.2) hX [(.iload 6, 0, 0, 0), (.iconst 1, 0, 0, 0), (.isub, 0, 0, 0)] (by decide +kernel) rfl trivial ?_
        exact zG.wk [false, true, true, true, false, false, false, true] (pX12_game_207_ok hX hRm h)
      · have h := zip c24 h
        obtain ⟨g25, h⟩ := zif h
        refine zG.blk (pc' := 200) (l' := [some (2, x0), none, none, none, some (0, x4), some (0, x5), some (0, q21.1), none]) (st' := [(0, q21.2 (q21.2 x0 45) q21.1)]) (M' := q21.2) hX [(.aload_n 0, 0, 0, 0), (.getfield 109, 12, 45, 2), (.iload 6, 0, 0, 0), (.iaload, 0, 0, 0)] (by decide +kernel) rfl (And.intro g23 (And.intro g25 trivial)) ?_
        refine zG.goto (tgt := 207) (off := 7) hX (by decide +kernel) (by decide) ?_
        exact zG.wk [false, true, true, true, false, false, false, true] (pX12_game_207_ok hX hRm h)
    · have h := zin c20 h
      refine zG.blk (pc' := 129) (l' := [some (2, x0), none, none, none, some (0, x4), some (0, w32 (Int.tdiv x5 5)), some (0, x6), some (0, 0)]) (st' := []) (M' := M) hX [(.iload 5, 0, 0, 0), (.iconst 5, 0, 0, 0), (.idiv, 0, 0, 0), (.istore 5, 0, 0, 0), (.iconst 0, 0, 0, 0), (.istore 7, 0, 0, 0)] (by decide +kernel) rfl (And.intro (by decide) trivial) ?_
      exact (pX12_game_129_ok hX hRm ih zFU _ _ _ _ _ _ h)
theorem sv_12_458 : zSV 12 458 yX12_playOf cX12_playOf 12 (some .int) 5 := ⟨⟨gt_at 1670 (by decide +kernel) rfl, gt_at 1672 (by decide +kernel) rfl, gt_at 96 (by decide +kernel) rfl, gt_at 117 (by decide +kernel) rfl, gt_at 1673 (by decide +kernel) rfl⟩, by decide +kernel, by decide +kernel, by decide +kernel⟩
noncomputable def pX12_game_79 (S : ZS) : Nat → ZM → Int → Int → Int → Int → Int → Int → Int → Option (Int × ZM)
  | 0 => fun _ _ _ _ _ _ _ _ => none
  | n + 1 => fun M x0 x1 x2 x3 x4 x5 x6 => if x5 ≤ x6 then (pX12_game_115 S zFU M x0 x4 x5 (w32 (x3 - 1))) else (if S.1 x0 = 12 then (pX12_playOf S M x0 x1 x2 x3 x6 x5).bind fun q37 => if S.1 (M x0 45) = 100 ∧ (0 : Int) ≤ x6 ∧ x6 < S.2.1 (M x0 45) then zlet (upM q37.2 (M x0 45) x6 q37.1) fun M40 => pX12_game_79 S n M40 x0 x1 x2 x3 x4 x5 (w32 (x6 + 1)) else none else none)
set_option maxHeartbeats 2000000 in
set_option maxRecDepth 20000 in
theorem pX12_game_79_ok {C : ZC} {E : ZE} {S : ZS} {q : (Int × ZM)} (hX : zCx C E 12 cX12_game 8 (some .int) false) (hRm : czR C = { frames := 5, cells := 0, slots := 0, locals := 135 }) : ∀ (n : Nat) (M : ZM) (x0 : Int) (x1 : Int) (x2 : Int) (x3 : Int) (x4 : Int) (x5 : Int) (x6 : Int), pX12_game_79 S n M x0 x1 x2 x3 x4 x5 x6 = some q → zG C E 8 S 0 0 (zQ C E 0 0 (some (0, q.1)) S q.2) 79 [some (2, x0), some (0, x1), some (0, x2), some (0, x3), some (0, x4), some (0, x5), some (0, x6), none] [] M := by
  intro n
  induction n with
  | zero => intro M x0 x1 x2 x3 x4 x5 x6 h; cases h
  | succ n ih =>
    intro M x0 x1 x2 x3 x4 x5 x6 h
    unfold pX12_game_79 at h
    refine zG.blk (pc' := 83) (l' := [some (2, x0), some (0, x1), some (0, x2), some (0, x3), some (0, x4), some (0, x5), some (0, x6), none]) (st' := [(0, x5), (0, x6)]) (M' := M) hX [(.iload 6, 0, 0, 0), (.iload 5, 0, 0, 0)] (by decide +kernel) rfl trivial ?_
    refine zG.icmp_ge (tgt := 110) (off := 27) hX (by decide +kernel) (by decide) (fun c19 => ?_) (fun c19 => ?_)
    · have h := zip c19 h
      refine zG.blk (pc' := 115) (l' := [some (2, x0), some (0, x1), some (0, x2), some (0, x3), some (0, x4), some (0, x5), some (0, w32 (x3 - 1)), none]) (st' := []) (M' := M) hX [(.iload_n 3, 0, 0, 0), (.iconst 1, 0, 0, 0), (.isub, 0, 0, 0), (.istore 6, 0, 0, 0)] (by decide +kernel) rfl trivial ?_
      exact zG.wk [true, false, false, false, true, true, true, true] (pX12_game_115_ok hX hRm zFU _ _ _ _ _ h)
    · have h := zin c19 h
      obtain ⟨g36, h⟩ := zif h
      refine zG.blk (pc' := 100) (l' := [some (2, x0), some (0, x1), some (0, x2), some (0, x3), some (0, x4), some (0, x5), some (0, x6), none]) (st' := [(0, x5), (0, x6), (0, x3), (0, x2), (0, x1), (2, x0), (0, x6), (2, M x0 45)]) (M' := M) hX [(.aload_n 0, 0, 0, 0), (.getfield 109, 12, 45, 2), (.iload 6, 0, 0, 0), (.aload_n 0, 0, 0, 0), (.iload_n 1, 0, 0, 0), (.iload_n 2, 0, 0, 0), (.iload_n 3, 0, 0, 0), (.iload 6, 0, 0, 0), (.iload 5, 0, 0, 0)] (by decide +kernel) rfl (And.intro g36 trivial) ?_
      obtain ⟨q37, e38, h⟩ := zbd h
      refine zG.callV (b := x0) (av := [(0, x1), (0, x2), (0, x3), (0, x6), (0, x5)]) (st := [(0, x6), (2, M x0 45)]) (ci := 12) hX (pX12_playOf_ok e38) sv_12_458 rfl ⟨by decide, rfl⟩ g36 (by decide +kernel) (by rw [hRm]; exact ⟨Nat.le_of_ble_eq_true rfl, Nat.le_of_ble_eq_true rfl⟩) (by rw [hRm]; exact ⟨Nat.le_of_ble_eq_true rfl, Nat.le_of_ble_eq_true rfl⟩) (Nat.le_of_ble_eq_true rfl) ?_
      show zG C E 8 S 0 0 _ 103 [some (2, x0), some (0, x1), some (0, x2), some (0, x3), some (0, x4), some (0, x5), some (0, x6), none] [(0, q37.1), (0, x6), (2, M x0 45)] q37.2
      obtain ⟨g39, h⟩ := zif h
      refine zG.blk (pc' := 104) (l' := [some (2, x0), some (0, x1), some (0, x2), some (0, x3), some (0, x4), some (0, x5), some (0, x6), none]) (st' := []) (M' := (upM q37.2 (M x0 45) x6 q37.1)) hX [(.iastore, 0, 0, 0)] (by decide +kernel) rfl (And.intro g39 trivial) ?_
      generalize upM q37.2 (M x0 45) x6 q37.1 = M40 at h ⊢
      have h := zlt h
      refine zG.blk (pc' := 107) (l' := [some (2, x0), some (0, x1), some (0, x2), some (0, x3), some (0, x4), some (0, x5), some (0, w32 (x6 + 1)), none]) (st' := []) (M' := M40) hX [(.iinc 6 1, 0, 0, 0)] (by decide +kernel) rfl trivial ?_
      refine zG.goto (tgt := 79) (off := (-28)) hX (by decide +kernel) (by decide) ?_
      exact ih _ _ _ _ _ _ _ _ h
noncomputable def pX12_game_54 (S : ZS) : Nat → ZM → Int → Int → Int → Int → Int → Int → Int → Option (Int × ZM)
  | 0 => fun _ _ _ _ _ _ _ _ => none
  | n + 1 => fun M x0 x1 x2 x3 x4 x5 x6 => if x3 ≤ x6 then (if S.1 x0 = 12 then (pX12_keepsAll S M x0).bind fun q16 => pX12_game_79 S zFU q16 x0 x1 x2 x3 x4 x5 0 else none) else (pX12_game_54 S n M x0 x1 x2 x3 x4 (w32 (x5 * 5)) (w32 (x6 + 1)))
set_option maxHeartbeats 2000000 in
set_option maxRecDepth 20000 in
theorem pX12_game_54_ok {C : ZC} {E : ZE} {S : ZS} {q : (Int × ZM)} (hX : zCx C E 12 cX12_game 8 (some .int) false) (hRm : czR C = { frames := 5, cells := 0, slots := 0, locals := 135 }) : ∀ (n : Nat) (M : ZM) (x0 : Int) (x1 : Int) (x2 : Int) (x3 : Int) (x4 : Int) (x5 : Int) (x6 : Int), pX12_game_54 S n M x0 x1 x2 x3 x4 x5 x6 = some q → zG C E 8 S 0 0 (zQ C E 0 0 (some (0, q.1)) S q.2) 54 [some (2, x0), some (0, x1), some (0, x2), some (0, x3), some (0, x4), some (0, x5), some (0, x6), none] [] M := by
  intro n
  induction n with
  | zero => intro M x0 x1 x2 x3 x4 x5 x6 h; cases h
  | succ n ih =>
    intro M x0 x1 x2 x3 x4 x5 x6 h
    unfold pX12_game_54 at h
    refine zG.blk (pc' := 57) (l' := [some (2, x0), some (0, x1), some (0, x2), some (0, x3), some (0, x4), some (0, x5), some (0, x6), none]) (st' := [(0, x3), (0, x6)]) (M' := M) hX [(.iload 6, 0, 0, 0), (.iload_n 3, 0, 0, 0)] (by decide +kernel) rfl trivial ?_
    refine zG.icmp_ge (tgt := 72) (off := 15) hX (by decide +kernel) (by decide) (fun c15 => ?_) (fun c15 => ?_)
    · have h := zip c15 h
      refine zG.blk (pc' := 73) (l' := [some (2, x0), some (0, x1), some (0, x2), some (0, x3), some (0, x4), some (0, x5), some (0, x6), none]) (st' := [(2, x0)]) (M' := M) hX [(.aload_n 0, 0, 0, 0)] (by decide +kernel) rfl trivial ?_
      obtain ⟨g18, h⟩ := zif h
      obtain ⟨q16, e17, h⟩ := zbd h
      refine zG.callV (b := x0) (av := []) (st := []) (ci := 12) hX (pX12_keepsAll_ok e17) sv_12_426 rfl ⟨by decide, rfl⟩ g18 (by decide +kernel) (by rw [hRm]; exact ⟨Nat.le_of_ble_eq_true rfl, Nat.le_of_ble_eq_true rfl⟩) (by rw [hRm]; exact ⟨Nat.le_of_ble_eq_true rfl, Nat.le_of_ble_eq_true rfl⟩) (Nat.le_of_ble_eq_true rfl) ?_
      show zG C E 8 S 0 0 _ 76 [some (2, x0), some (0, x1), some (0, x2), some (0, x3), some (0, x4), some (0, x5), some (0, x6), none] [] q16
      refine zG.blk (pc' := 79) (l' := [some (2, x0), some (0, x1), some (0, x2), some (0, x3), some (0, x4), some (0, x5), some (0, 0), none]) (st' := []) (M' := q16) hX [(.iconst 0, 0, 0, 0), (.istore 6, 0, 0, 0)] (by decide +kernel) rfl trivial ?_
      exact (pX12_game_79_ok hX hRm zFU _ _ _ _ _ _ _ _ h)
    · have h := zin c15 h
      refine zG.blk (pc' := 69) (l' := [some (2, x0), some (0, x1), some (0, x2), some (0, x3), some (0, x4), some (0, w32 (x5 * 5)), some (0, w32 (x6 + 1)), none]) (st' := []) (M' := M) hX [(.iload 5, 0, 0, 0), (.iconst 5, 0, 0, 0), (.imul, 0, 0, 0), (.istore 5, 0, 0, 0), (.iinc 6 1, 0, 0, 0)] (by decide +kernel) rfl trivial ?_
      refine zG.goto (tgt := 54) (off := (-15)) hX (by decide +kernel) (by decide) ?_
      exact ih _ _ _ _ _ _ _ _ h
noncomputable def pX12_game (S : ZS) (M : ZM) (a0 : Int) (a1 : Int) (a2 : Int) (a3 : Int) (a4 : Int) : Option (Int × ZM) := if S.1 a0 = 12 then (pX12_isPen S M a0 a1).bind fun q1 => if q1.1 = 0 then (pX12_game_44 S q1.2) else ((pX12_isPen S q1.2 a0 a2).bind fun q5 => if q5.1 = 0 then (pX12_game_44 S q5.2) else (if a1 = a2 then (pX12_game_44 S q5.2) else ((pX12_in S q5.2 a3 1 4).bind fun q9 => if q9.1 = 0 then (pX12_game_44 S q9.2) else ((pX12_in S q9.2 a4 0 1).bind fun q12 => if q12.1 = 0 then (pX12_game_44 S q12.2) else (pX12_game_54 S zFU q12.2 a0 a1 a2 a3 a4 1 0))))) else none
set_option maxHeartbeats 2000000 in
set_option maxRecDepth 20000 in
theorem pX12_game_go {C : ZC} {E : ZE} {S : ZS} {M : ZM} {a0 a1 a2 a3 a4 : Int} {q : (Int × ZM)} (hX : zCx C E 12 cX12_game 8 (some .int) false) (hRm : czR C = { frames := 5, cells := 0, slots := 0, locals := 135 }) (h : pX12_game  S M a0 a1 a2 a3 a4 = some q) : zG C E 8 S 0 0 (zQ C E 0 0 (some (0, q.1)) S q.2) 0 [some (2, a0), some (0, a1), some (0, a2), some (0, a3), some (0, a4), none, none, none] [] M := by
  unfold pX12_game at h
  refine zG.blk (pc' := 2) (l' := [some (2, a0), some (0, a1), some (0, a2), some (0, a3), some (0, a4), none, none, none]) (st' := [(0, a1), (2, a0)]) (M' := M) hX [(.aload_n 0, 0, 0, 0), (.iload_n 1, 0, 0, 0)] (by decide +kernel) rfl trivial ?_
  obtain ⟨g3, h⟩ := zif h
  obtain ⟨q1, e2, h⟩ := zbd h
  refine zG.callV (b := a0) (av := [(0, a1)]) (st := []) (ci := 12) hX (pX12_isPen_ok e2) sv_12_341 rfl ⟨by decide, rfl⟩ g3 (by decide +kernel) (by rw [hRm]; exact ⟨Nat.le_of_ble_eq_true rfl, Nat.le_of_ble_eq_true rfl⟩) (by rw [hRm]; exact ⟨Nat.le_of_ble_eq_true rfl, Nat.le_of_ble_eq_true rfl⟩) (Nat.le_of_ble_eq_true rfl) ?_
  show zG C E 8 S 0 0 _ 5 [some (2, a0), some (0, a1), some (0, a2), some (0, a3), some (0, a4), none, none, none] [(0, q1.1)] q1.2
  refine zG.if_eq (tgt := 44) (off := 39) hX (by decide +kernel) (by decide) (fun c4 => ?_) (fun c4 => ?_)
  · have h := zip c4 h
    exact zG.wk [false, false, false, false, false, true, true, true] (pX12_game_44_ok hX hRm h)
  · have h := zin c4 h
    refine zG.blk (pc' := 10) (l' := [some (2, a0), some (0, a1), some (0, a2), some (0, a3), some (0, a4), none, none, none]) (st' := [(0, a2), (2, a0)]) (M' := q1.2) hX [(.aload_n 0, 0, 0, 0), (.iload_n 2, 0, 0, 0)] (by decide +kernel) rfl trivial ?_
    obtain ⟨q5, e6, h⟩ := zbd h
    refine zG.callV (b := a0) (av := [(0, a2)]) (st := []) (ci := 12) hX (pX12_isPen_ok e6) sv_12_341 rfl ⟨by decide, rfl⟩ g3 (by decide +kernel) (by rw [hRm]; exact ⟨Nat.le_of_ble_eq_true rfl, Nat.le_of_ble_eq_true rfl⟩) (by rw [hRm]; exact ⟨Nat.le_of_ble_eq_true rfl, Nat.le_of_ble_eq_true rfl⟩) (Nat.le_of_ble_eq_true rfl) ?_
    show zG C E 8 S 0 0 _ 13 [some (2, a0), some (0, a1), some (0, a2), some (0, a3), some (0, a4), none, none, none] [(0, q5.1)] q5.2
    refine zG.if_eq (tgt := 44) (off := 31) hX (by decide +kernel) (by decide) (fun c7 => ?_) (fun c7 => ?_)
    · have h := zip c7 h
      exact zG.wk [false, false, false, false, false, true, true, true] (pX12_game_44_ok hX hRm h)
    · have h := zin c7 h
      refine zG.blk (pc' := 18) (l' := [some (2, a0), some (0, a1), some (0, a2), some (0, a3), some (0, a4), none, none, none]) (st' := [(0, a2), (0, a1)]) (M' := q5.2) hX [(.iload_n 1, 0, 0, 0), (.iload_n 2, 0, 0, 0)] (by decide +kernel) rfl trivial ?_
      refine zG.icmp_eq (tgt := 44) (off := 26) hX (by decide +kernel) (by decide) (fun c8 => ?_) (fun c8 => ?_)
      · have h := zip c8 h
        exact zG.wk [false, false, false, false, false, true, true, true] (pX12_game_44_ok hX hRm h)
      · have h := zin c8 h
        refine zG.blk (pc' := 27) (l' := [some (2, a0), some (0, a1), some (0, a2), some (0, a3), some (0, a4), none, none, none]) (st' := [(1, 4), (1, 1), (1, a3)]) (M' := q5.2) hX [(.iload_n 3, 0, 0, 0), (.i2l, 0, 0, 0), (.lconst 1, 1, 0, 0), (.ldc2_w 456, 4, 0, 0)] (by decide +kernel) rfl trivial ?_
        obtain ⟨q9, e10, h⟩ := zbd h
        refine zG.callS (av := [(1, a3), (1, 1), (1, 4)]) (st := []) hX (pX12_in_ok e10) ss_12_138 rfl (by decide +kernel) (by rw [hRm]; exact ⟨Nat.le_of_ble_eq_true rfl, Nat.le_of_ble_eq_true rfl⟩) (by rw [hRm]; exact ⟨Nat.le_of_ble_eq_true rfl, Nat.le_of_ble_eq_true rfl⟩) (Nat.le_of_ble_eq_true rfl) ?_
        show zG C E 8 S 0 0 _ 30 [some (2, a0), some (0, a1), some (0, a2), some (0, a3), some (0, a4), none, none, none] [(0, q9.1)] q9.2
        refine zG.if_eq (tgt := 44) (off := 14) hX (by decide +kernel) (by decide) (fun c11 => ?_) (fun c11 => ?_)
        · have h := zip c11 h
          exact zG.wk [false, false, false, false, false, true, true, true] (pX12_game_44_ok hX hRm h)
        · have h := zin c11 h
          refine zG.blk (pc' := 38) (l' := [some (2, a0), some (0, a1), some (0, a2), some (0, a3), some (0, a4), none, none, none]) (st' := [(1, 1), (1, 0), (1, a4)]) (M' := q9.2) hX [(.iload 4, 0, 0, 0), (.i2l, 0, 0, 0), (.lconst 0, 0, 0, 0), (.lconst 1, 1, 0, 0)] (by decide +kernel) rfl trivial ?_
          obtain ⟨q12, e13, h⟩ := zbd h
          refine zG.callS (av := [(1, a4), (1, 0), (1, 1)]) (st := []) hX (pX12_in_ok e13) ss_12_138 rfl (by decide +kernel) (by rw [hRm]; exact ⟨Nat.le_of_ble_eq_true rfl, Nat.le_of_ble_eq_true rfl⟩) (by rw [hRm]; exact ⟨Nat.le_of_ble_eq_true rfl, Nat.le_of_ble_eq_true rfl⟩) (Nat.le_of_ble_eq_true rfl) ?_
          show zG C E 8 S 0 0 _ 41 [some (2, a0), some (0, a1), some (0, a2), some (0, a3), some (0, a4), none, none, none] [(0, q12.1)] q12.2
          refine zG.if_ne (tgt := 48) (off := 7) hX (by decide +kernel) (by decide) (fun c14 => ?_) (fun c14 => ?_)
          · have h := zin c14 h
            refine zG.blk (pc' := 54) (l' := [some (2, a0), some (0, a1), some (0, a2), some (0, a3), some (0, a4), some (0, 1), some (0, 0), none]) (st' := []) (M' := q12.2) hX [(.iconst 1, 0, 0, 0), (.istore 5, 0, 0, 0), (.iconst 0, 0, 0, 0), (.istore 6, 0, 0, 0)] (by decide +kernel) rfl trivial ?_
            exact (pX12_game_54_ok hX hRm zFU _ _ _ _ _ _ _ _ h)
          · have h := zip c14 h
            exact zG.wk [false, false, false, false, false, true, true, true] (pX12_game_44_ok hX hRm h)
theorem pX12_game_ok {l : Launch} {E : ZE} {S : ZS} {M : ZM} {a0 a1 a2 a3 a4 : Int} {q : (Int × ZM)} (h : pX12_game S M a0 a1 a2 a3 a4 = some q) : zMet l yX12_game cX12_game 8 (some .int) 5 135 0 0 E S M [(2, a0), (0, a1), (0, a2), (0, a3), (0, a4)] (some (0, q.1)) S q.2 :=
  zMet.of (o := 12) (ini := false) (by decide +kernel) rfl (fun h => by cases h) (Nat.le_of_ble_eq_true rfl) (fun C hX hl hRm => by subst hl; exact pX12_game_go hX hRm h)
noncomputable def pX12_goesOn_63 (S : ZS) (M : ZM) (x0 : Int) (y0 : Int) : Option (Int × ZM) := if S.1 x0 = 12 then zlet (upM M x0 21 (w32 ((M x0 21) + 1))) fun M8 => if y0 = 0 ∨ y0 = 1 then some (y0, M8) else none else none
set_option maxHeartbeats 2000000 in
set_option maxRecDepth 20000 in
theorem pX12_goesOn_63_ok {C : ZC} {E : ZE} {S : ZS} {q : (Int × ZM)} (hX : zCx C E 12 cX12_goesOn 2 (some .boolean) false) (hRm : czR C = { frames := 3, cells := 0, slots := 0, locals := 80 }) {M : ZM} {x0 : Int} {y0 : Int} (h : pX12_goesOn_63 S M x0 y0 = some q) : zG C E 2 S 0 0 (zQ C E 0 0 (some (0, q.1)) S q.2) 63 [some (2, x0), none] [(0, y0)] M := by
  unfold pX12_goesOn_63 at h
  obtain ⟨g7, h⟩ := zif h
  refine zG.blk (pc' := 74) (l' := [some (2, x0), some (0, y0)]) (st' := []) (M' := (upM M x0 21 (w32 ((M x0 21) + 1)))) hX [(.istore_n 1, 0, 0, 0), (.aload_n 0, 0, 0, 0), (.dup, 0, 0, 0), (.getfield 174, 12, 21, 0), (.iconst 1, 0, 0, 0), (.iadd, 0, 0, 0), (.putfield 174, 12, 21, 0)] (by decide +kernel) rfl (And.intro g7 (And.intro g7 trivial)) ?_
  generalize upM M x0 21 (w32 ((M x0 21) + 1)) = M8 at h ⊢
  have h := zlt h
  refine zG.blk (pc' := 75) (l' := [some (2, x0), some (0, y0)]) (st' := [(0, y0)]) (M' := M8) hX [(.iload_n 1, 0, 0, 0)] (by decide +kernel) rfl trivial ?_
  obtain ⟨g9, h⟩ := zif h
  cases h
  exact zG.zret hX (by decide +kernel) g9
noncomputable def pX12_goesOn_62 (S : ZS) (M : ZM) (x0 : Int) : Option (Int × ZM) := pX12_goesOn_63 S M x0 0
set_option maxHeartbeats 2000000 in
set_option maxRecDepth 20000 in
theorem pX12_goesOn_62_ok {C : ZC} {E : ZE} {S : ZS} {q : (Int × ZM)} (hX : zCx C E 12 cX12_goesOn 2 (some .boolean) false) (hRm : czR C = { frames := 3, cells := 0, slots := 0, locals := 80 }) {M : ZM} {x0 : Int} (h : pX12_goesOn_62 S M x0 = some q) : zG C E 2 S 0 0 (zQ C E 0 0 (some (0, q.1)) S q.2) 62 [some (2, x0), none] [] M := by
  unfold pX12_goesOn_62 at h
  refine zG.blk (pc' := 63) (l' := [some (2, x0), none]) (st' := [(0, 0)]) (M' := M) hX [(.iconst 0, 0, 0, 0)] (by decide +kernel) rfl trivial ?_
  exact (pX12_goesOn_63_ok hX hRm h)
noncomputable def pX12_goesOn_40 (S : ZS) (M : ZM) (x0 : Int) : Option (Int × ZM) := if S.1 x0 = 12 then if M x0 22 = 0 then (if M x0 20 ≤ M x0 21 then (pX12_goesOn_62 S M x0) else (pX12_goesOn_63 S M x0 1)) else (pX12_goesOn_62 S M x0) else none
set_option maxHeartbeats 2000000 in
set_option maxRecDepth 20000 in
theorem pX12_goesOn_40_ok {C : ZC} {E : ZE} {S : ZS} {q : (Int × ZM)} (hX : zCx C E 12 cX12_goesOn 2 (some .boolean) false) (hRm : czR C = { frames := 3, cells := 0, slots := 0, locals := 80 }) {M : ZM} {x0 : Int} (h : pX12_goesOn_40 S M x0 = some q) : zG C E 2 S 0 0 (zQ C E 0 0 (some (0, q.1)) S q.2) 40 [some (2, x0), none] [] M := by
  unfold pX12_goesOn_40 at h
  obtain ⟨g5, h⟩ := zif h
  refine zG.blk (pc' := 44) (l' := [some (2, x0), none]) (st' := [(0, M x0 22)]) (M' := M) hX [(.aload_n 0, 0, 0, 0), (.getfield 171, 12, 22, 0)] (by decide +kernel) rfl (And.intro g5 trivial) ?_
  refine zG.if_ne (tgt := 62) (off := 18) hX (by decide +kernel) (by decide) (fun c6 => ?_) (fun c6 => ?_)
  · have h := zin c6 h
    exact (pX12_goesOn_62_ok hX hRm h)
  · have h := zip c6 h
    refine zG.blk (pc' := 55) (l' := [some (2, x0), none]) (st' := [(0, M x0 20), (0, M x0 21)]) (M' := M) hX [(.aload_n 0, 0, 0, 0), (.getfield 174, 12, 21, 0), (.aload_n 0, 0, 0, 0), (.getfield 142, 12, 20, 0)] (by decide +kernel) rfl (And.intro g5 (And.intro g5 trivial)) ?_
    refine zG.icmp_ge (tgt := 62) (off := 7) hX (by decide +kernel) (by decide) (fun c10 => ?_) (fun c10 => ?_)
    · have h := zip c10 h
      exact (pX12_goesOn_62_ok hX hRm h)
    · have h := zin c10 h
      refine zG.blk (pc' := 59) (l' := [some (2, x0), none]) (st' := [(0, 1)]) (M' := M) hX [(.iconst 1, 0, 0, 0)] (by decide +kernel) rfl trivial ?_
      refine zG.goto (tgt := 63) (off := 4) hX (by decide +kernel) (by decide) ?_
      exact (pX12_goesOn_63_ok hX hRm h)
noncomputable def pX12_goesOn (S : ZS) (M : ZM) (a0 : Int) : Option (Int × ZM) := if S.1 a0 = 12 then (pX12_blanks S M a0).bind fun q1 => if q1 a0 22 = 0 then (if q1 a0 20 ≤ q1 a0 21 then (pX12_goesOn_40 S q1 a0) else ((pX12_byteHere S q1 a0).bind fun q12 => if q12.1 = 59 then (pX12_goesOn_40 S q12.2 a0) else ((pX12_fails S q12.2 a0 0 (q12.2 a0 21)).bind fun q15 => pX12_goesOn_40 S q15 a0))) else (pX12_goesOn_40 S q1 a0) else none
set_option maxHeartbeats 2000000 in
set_option maxRecDepth 20000 in
theorem pX12_goesOn_go {C : ZC} {E : ZE} {S : ZS} {M : ZM} {a0 : Int} {q : (Int × ZM)} (hX : zCx C E 12 cX12_goesOn 2 (some .boolean) false) (hRm : czR C = { frames := 3, cells := 0, slots := 0, locals := 80 }) (h : pX12_goesOn  S M a0 = some q) : zG C E 2 S 0 0 (zQ C E 0 0 (some (0, q.1)) S q.2) 0 [some (2, a0), none] [] M := by
  unfold pX12_goesOn at h
  refine zG.blk (pc' := 1) (l' := [some (2, a0), none]) (st' := [(2, a0)]) (M' := M) hX [(.aload_n 0, 0, 0, 0)] (by decide +kernel) rfl trivial ?_
  obtain ⟨g3, h⟩ := zif h
  obtain ⟨q1, e2, h⟩ := zbd h
  refine zG.callV (b := a0) (av := []) (st := []) (ci := 12) hX (pX12_blanks_ok e2) sv_12_193 rfl ⟨by decide, rfl⟩ g3 (by decide +kernel) (by rw [hRm]; exact ⟨Nat.le_of_ble_eq_true rfl, Nat.le_of_ble_eq_true rfl⟩) (by rw [hRm]; exact ⟨Nat.le_of_ble_eq_true rfl, Nat.le_of_ble_eq_true rfl⟩) (Nat.le_of_ble_eq_true rfl) ?_
  show zG C E 2 S 0 0 _ 4 [some (2, a0), none] [] q1
  refine zG.blk (pc' := 8) (l' := [some (2, a0), none]) (st' := [(0, q1 a0 22)]) (M' := q1) hX [(.aload_n 0, 0, 0, 0), (.getfield 171, 12, 22, 0)] (by decide +kernel) rfl (And.intro g3 trivial) ?_
  refine zG.if_ne (tgt := 40) (off := 32) hX (by decide +kernel) (by decide) (fun c4 => ?_) (fun c4 => ?_)
  · have h := zin c4 h
    exact (pX12_goesOn_40_ok hX hRm h)
  · have h := zip c4 h
    refine zG.blk (pc' := 19) (l' := [some (2, a0), none]) (st' := [(0, q1 a0 20), (0, q1 a0 21)]) (M' := q1) hX [(.aload_n 0, 0, 0, 0), (.getfield 174, 12, 21, 0), (.aload_n 0, 0, 0, 0), (.getfield 142, 12, 20, 0)] (by decide +kernel) rfl (And.intro g3 (And.intro g3 trivial)) ?_
    refine zG.icmp_ge (tgt := 40) (off := 21) hX (by decide +kernel) (by decide) (fun c11 => ?_) (fun c11 => ?_)
    · have h := zip c11 h
      exact (pX12_goesOn_40_ok hX hRm h)
    · have h := zin c11 h
      refine zG.blk (pc' := 23) (l' := [some (2, a0), none]) (st' := [(2, a0)]) (M' := q1) hX [(.aload_n 0, 0, 0, 0)] (by decide +kernel) rfl trivial ?_
      obtain ⟨q12, e13, h⟩ := zbd h
      refine zG.callV (b := a0) (av := []) (st := []) (ci := 12) hX (pX12_byteHere_ok e13) sv_12_177 rfl ⟨by decide, rfl⟩ g3 (by decide +kernel) (by rw [hRm]; exact ⟨Nat.le_of_ble_eq_true rfl, Nat.le_of_ble_eq_true rfl⟩) (by rw [hRm]; exact ⟨Nat.le_of_ble_eq_true rfl, Nat.le_of_ble_eq_true rfl⟩) (Nat.le_of_ble_eq_true rfl) ?_
      show zG C E 2 S 0 0 _ 26 [some (2, a0), none] [(0, q12.1)] q12.2
      refine zG.blk (pc' := 28) (l' := [some (2, a0), none]) (st' := [(0, 59), (0, q12.1)]) (M' := q12.2) hX [(.bipush 59, 0, 0, 0)] (by decide +kernel) rfl trivial ?_
      refine zG.icmp_eq (tgt := 40) (off := 12) hX (by decide +kernel) (by decide) (fun c14 => ?_) (fun c14 => ?_)
      · have h := zip c14 h
        exact (pX12_goesOn_40_ok hX hRm h)
      · have h := zin c14 h
        refine zG.blk (pc' := 37) (l' := [some (2, a0), none]) (st' := [(0, q12.2 a0 21), (0, 0), (2, a0)]) (M' := q12.2) hX [(.aload_n 0, 0, 0, 0), (.iconst 0, 0, 0, 0), (.aload_n 0, 0, 0, 0), (.getfield 174, 12, 21, 0)] (by decide +kernel) rfl (And.intro g3 trivial) ?_
        obtain ⟨q15, e16, h⟩ := zbd h
        refine zG.callV (b := a0) (av := [(0, 0), (0, q12.2 a0 21)]) (st := []) (ci := 12) hX (pX12_fails_ok e16) sv_12_209 rfl ⟨by decide, rfl⟩ g3 (by decide +kernel) (by rw [hRm]; exact ⟨Nat.le_of_ble_eq_true rfl, Nat.le_of_ble_eq_true rfl⟩) (by rw [hRm]; exact ⟨Nat.le_of_ble_eq_true rfl, Nat.le_of_ble_eq_true rfl⟩) (Nat.le_of_ble_eq_true rfl) ?_
        show zG C E 2 S 0 0 _ 40 [some (2, a0), none] [] q15
        exact (pX12_goesOn_40_ok hX hRm h)
theorem pX12_goesOn_ok {l : Launch} {E : ZE} {S : ZS} {M : ZM} {a0 : Int} {q : (Int × ZM)} (h : pX12_goesOn S M a0 = some q) : zMet l yX12_goesOn cX12_goesOn 2 (some .boolean) 3 80 0 0 E S M [(2, a0)] (some (0, q.1)) S q.2 :=
  zMet.of (o := 12) (ini := false) (by decide +kernel) rfl (fun h => by cases h) (Nat.le_of_ble_eq_true rfl) (fun C hX hl hRm => by subst hl; exact pX12_goesOn_go hX hRm h)
noncomputable def pX12_hold_29 (S : ZS) (M : ZM) : Option (Int × ZM) := some ((-1), M)
set_option maxHeartbeats 2000000 in
set_option maxRecDepth 20000 in
theorem pX12_hold_29_ok {C : ZC} {E : ZE} {S : ZS} {q : (Int × ZM)} (hX : zCx C E 12 cX12_hold 7 (some .int) false) (hRm : czR C = { frames := 9, cells := 0, slots := 0, locals := 220 }) {M : ZM} (h : pX12_hold_29 S M = some q) : zG C E 7 S 0 0 (zQ C E 0 0 (some (0, q.1)) S q.2) 29 [none, none, none, none, none, none, none] [] M := by
  unfold pX12_hold_29 at h
  refine zG.blk (pc' := 30) (l' := [none, none, none, none, none, none, none]) (st' := [(0, (-1))]) (M' := M) hX [(.iconst (-1), 0, 0, 0)] (by decide +kernel) rfl trivial ?_
  cases h
  exact zG.iret hX (by decide +kernel)
noncomputable def pX12_hold_104 (S : ZS) (k43 : ZM → Int → Int → Int → Int → Int → Int → Option (Int × ZM)) (M : ZM) (x0 : Int) (x1 : Int) (x2 : Int) (x3 : Int) (x4 : Int) (x5 : Int) : Option (Int × ZM) := k43 M x0 x1 x2 x3 x4 (w32 (x5 + 1))
set_option maxHeartbeats 2000000 in
set_option maxRecDepth 20000 in
theorem pX12_hold_104_ok {C : ZC} {E : ZE} {S : ZS} {k43 : ZM → Int → Int → Int → Int → Int → Int → Option (Int × ZM)} {q : (Int × ZM)} (hX : zCx C E 12 cX12_hold 7 (some .int) false) (hRm : czR C = { frames := 9, cells := 0, slots := 0, locals := 220 }) (hk43 : ∀ M x0 x1 x2 x3 x4 x5, k43 M x0 x1 x2 x3 x4 x5 = some q → zG C E 7 S 0 0 (zQ C E 0 0 (some (0, q.1)) S q.2) 43 [some (2, x0), some (0, x1), some (0, x2), some (0, x3), some (0, x4), some (0, x5), none] [] M) {M : ZM} {x0 : Int} {x1 : Int} {x2 : Int} {x3 : Int} {x4 : Int} {x5 : Int} (h : pX12_hold_104 S k43 M x0 x1 x2 x3 x4 x5 = some q) : zG C E 7 S 0 0 (zQ C E 0 0 (some (0, q.1)) S q.2) 104 [some (2, x0), some (0, x1), some (0, x2), some (0, x3), some (0, x4), some (0, x5), none] [] M := by
  unfold pX12_hold_104 at h
  refine zG.blk (pc' := 107) (l' := [some (2, x0), some (0, x1), some (0, x2), some (0, x3), some (0, x4), some (0, w32 (x5 + 1)), none]) (st' := []) (M' := M) hX [(.iinc 5 1, 0, 0, 0)] (by decide +kernel) rfl trivial ?_
  refine zG.goto (tgt := 43) (off := (-64)) hX (by decide +kernel) (by decide) ?_
  exact (hk43 _ _ _ _ _ _ _ h)
noncomputable def pX12_hold_97 (S : ZS) (k43 : ZM → Int → Int → Int → Int → Int → Int → Option (Int × ZM)) (M : ZM) (x0 : Int) (x1 : Int) (x2 : Int) (x5 : Int) (x6 : Int) : Option (Int × ZM) := pX12_hold_104 S k43 M x0 x1 x2 x5 x6 x5
set_option maxHeartbeats 2000000 in
set_option maxRecDepth 20000 in
theorem pX12_hold_97_ok {C : ZC} {E : ZE} {S : ZS} {k43 : ZM → Int → Int → Int → Int → Int → Int → Option (Int × ZM)} {q : (Int × ZM)} (hX : zCx C E 12 cX12_hold 7 (some .int) false) (hRm : czR C = { frames := 9, cells := 0, slots := 0, locals := 220 }) (hk43 : ∀ M x0 x1 x2 x3 x4 x5, k43 M x0 x1 x2 x3 x4 x5 = some q → zG C E 7 S 0 0 (zQ C E 0 0 (some (0, q.1)) S q.2) 43 [some (2, x0), some (0, x1), some (0, x2), some (0, x3), some (0, x4), some (0, x5), none] [] M) {M : ZM} {x0 : Int} {x1 : Int} {x2 : Int} {x5 : Int} {x6 : Int} (h : pX12_hold_97 S k43 M x0 x1 x2 x5 x6 = some q) : zG C E 7 S 0 0 (zQ C E 0 0 (some (0, q.1)) S q.2) 97 [some (2, x0), some (0, x1), some (0, x2), none, none, some (0, x5), some (0, x6)] [] M := by
  unfold pX12_hold_97 at h
  refine zG.blk (pc' := 104) (l' := [some (2, x0), some (0, x1), some (0, x2), some (0, x5), some (0, x6), some (0, x5), some (0, x6)]) (st' := []) (M' := M) hX [(.iload 5, 0, 0, 0), (.istore_n 3, 0, 0, 0), (.iload 6, 0, 0, 0), (.istore 4, 0, 0, 0)] (by decide +kernel) rfl trivial ?_
  exact zG.wk [true, true, true, true, true, true, false] (pX12_hold_104_ok hX hRm hk43 h)
theorem ss_12_445 : zSS 12 445 yX12_bits cX12_bits 3 (some .int) 1 := ⟨⟨gt_at 1642 (by decide +kernel) rfl, gt_at 1643 (by decide +kernel) rfl, gt_at 117 (by decide +kernel) rfl, gt_at 1644 (by decide +kernel) rfl⟩, by decide +kernel, by decide +kernel, by decide +kernel⟩
noncomputable def pX12_hold_43 (S : ZS) : Nat → ZM → Int → Int → Int → Int → Int → Int → Option (Int × ZM)
  | 0 => fun _ _ _ _ _ _ _ => none
  | n + 1 => fun M x0 x1 x2 x3 x4 x5 => if S.1 x0 = 12 then if S.1 (M x0 1) = 100 ∧ (0 : Int) ≤ 2 ∧ 2 < S.2.1 (M x0 1) then if zshl 1 (M (M x0 1) 2) ≤ x5 then (some ((if x2 = 0 then (x3 : Int) else x4), M)) else (if S.1 (M x0 1) = 100 ∧ (0 : Int) ≤ 5 ∧ 5 < S.2.1 (M x0 1) then zlet (upM M (M x0 1) 5 x5) fun M19 => (pX12_likeIn S M19 x0 x1).bind fun q20 => if x4 < q20.1 then (pX12_hold_97 S (pX12_hold_43 S n) q20.2 x0 x1 x2 x5 q20.1) else (if q20.1 = x4 then ((pX12_bits S q20.2 x5).bind fun q24 => (pX12_bits S q24.2 x3).bind fun q26 => if q26.1 ≤ q24.1 then (pX12_hold_104 S (pX12_hold_43 S n) q26.2 x0 x1 x2 x3 x4 x5) else (pX12_hold_97 S (pX12_hold_43 S n) q26.2 x0 x1 x2 x5 q20.1)) else (pX12_hold_104 S (pX12_hold_43 S n) q20.2 x0 x1 x2 x3 x4 x5)) else none) else none else none
set_option maxHeartbeats 2000000 in
set_option maxRecDepth 20000 in
theorem pX12_hold_43_ok {C : ZC} {E : ZE} {S : ZS} {q : (Int × ZM)} (hX : zCx C E 12 cX12_hold 7 (some .int) false) (hRm : czR C = { frames := 9, cells := 0, slots := 0, locals := 220 }) : ∀ (n : Nat) (M : ZM) (x0 : Int) (x1 : Int) (x2 : Int) (x3 : Int) (x4 : Int) (x5 : Int), pX12_hold_43 S n M x0 x1 x2 x3 x4 x5 = some q → zG C E 7 S 0 0 (zQ C E 0 0 (some (0, q.1)) S q.2) 43 [some (2, x0), some (0, x1), some (0, x2), some (0, x3), some (0, x4), some (0, x5), none] [] M := by
  intro n
  induction n with
  | zero => intro M x0 x1 x2 x3 x4 x5 h; cases h
  | succ n ih =>
    intro M x0 x1 x2 x3 x4 x5 h
    unfold pX12_hold_43 at h
    obtain ⟨g13, h⟩ := zif h
    obtain ⟨g14, h⟩ := zif h
    refine zG.blk (pc' := 53) (l' := [some (2, x0), some (0, x1), some (0, x2), some (0, x3), some (0, x4), some (0, x5), none]) (st' := [(0, zshl 1 (M (M x0 1) 2)), (0, x5)]) (M' := M) hX [(.iload 5, 0, 0, 0), (.iconst 1, 0, 0, 0), (.aload_n 0, 0, 0, 0), (.getfield 9, 12, 1, 2), (.iconst 2, 0, 0, 0), (.iaload, 0, 0, 0), (.ishl, 0, 0, 0)] (by decide +kernel) rfl (And.intro g13 (And.intro g14 trivial)) ?_
    refine zG.icmp_ge (tgt := 110) (off := 57) hX (by decide +kernel) (by decide) (fun c15 => ?_) (fun c15 => ?_)
    · have h := zip c15 h
      refine zG.blk (pc' := 111) (l' := [some (2, x0), some (0, x1), some (0, x2), some (0, x3), some (0, x4), some (0, x5), none]) (st' := [(0, x2)]) (M' := M) hX [(.iload_n 2, 0, 0, 0)] (by decide +kernel) rfl trivial ?_
      have key16 : zG C E 7 S 0 0 (zQ C E 0 0 (some (0, q.1)) S q.2) 120 [some (2, x0), some (0, x1), some (0, x2), some (0, x3), some (0, x4), some (0, x5), none] [(0, (if x2 = 0 then (x3 : Int) else x4))] M := by
        cases h
        exact zG.iret hX (by decide +kernel)
      refine zG.if_ne (tgt := 118) (off := 7) hX (by decide +kernel) (by decide) (fun c17 => ?_) (fun c17 => ?_)
      · refine zG.blk (pc' := 120) (l' := [some (2, x0), some (0, x1), some (0, x2), some (0, x3), some (0, x4), some (0, x5), none]) (st' := [(0, x4)]) (M' := M) hX [(.iload 4, 0, 0, 0)] (by decide +kernel) rfl trivial ?_
        (have k := key16; simp only [if_neg c17] at k; exact k)
      · refine zG.blk (pc' := 115) (l' := [some (2, x0), some (0, x1), some (0, x2), some (0, x3), some (0, x4), some (0, x5), none]) (st' := [(0, x3)]) (M' := M) hX [(.iload_n 3, 0, 0, 0)] (by decide +kernel) rfl trivial ?_
        refine zG.goto (tgt := 120) (off := 5) hX (by decide +kernel) (by decide) ?_
        (have k := key16; simp only [if_pos c17] at k; exact k)
    · have h := zin c15 h
      obtain ⟨g18, h⟩ := zif h
      refine zG.blk (pc' := 64) (l' := [some (2, x0), some (0, x1), some (0, x2), some (0, x3), some (0, x4), some (0, x5), none]) (st' := []) (M' := (upM M (M x0 1) 5 x5)) hX [(.aload_n 0, 0, 0, 0), (.getfield 9, 12, 1, 2), (.iconst 5, 0, 0, 0), (.iload 5, 0, 0, 0), (.iastore, 0, 0, 0)] (by decide +kernel) rfl (And.intro g13 (And.intro g18 trivial)) ?_
      generalize upM M (M x0 1) 5 x5 = M19 at h ⊢
      have h := zlt h
      refine zG.blk (pc' := 66) (l' := [some (2, x0), some (0, x1), some (0, x2), some (0, x3), some (0, x4), some (0, x5), none]) (st' := [(0, x1), (2, x0)]) (M' := M19) hX [(.aload_n 0, 0, 0, 0), (.iload_n 1, 0, 0, 0)] (by decide +kernel) rfl trivial ?_
      obtain ⟨q20, e21, h⟩ := zbd h
      refine zG.callV (b := x0) (av := [(0, x1)]) (st := []) (ci := 12) hX (pX12_likeIn_ok e21) sv_12_442 rfl ⟨by decide, rfl⟩ g13 (by decide +kernel) (by rw [hRm]; exact ⟨Nat.le_of_ble_eq_true rfl, Nat.le_of_ble_eq_true rfl⟩) (by rw [hRm]; exact ⟨Nat.le_of_ble_eq_true rfl, Nat.le_of_ble_eq_true rfl⟩) (Nat.le_of_ble_eq_true rfl) ?_
      show zG C E 7 S 0 0 _ 69 [some (2, x0), some (0, x1), some (0, x2), some (0, x3), some (0, x4), some (0, x5), none] [(0, q20.1)] q20.2
      refine zG.blk (pc' := 75) (l' := [some (2, x0), some (0, x1), some (0, x2), some (0, x3), some (0, x4), some (0, x5), some (0, q20.1)]) (st' := [(0, x4), (0, q20.1)]) (M' := q20.2) hX [(.istore 6, 0, 0, 0), (.iload 6, 0, 0, 0), (.iload 4, 0, 0, 0)] (by decide +kernel) rfl trivial ?_
      refine zG.icmp_gt (tgt := 97) (off := 22) hX (by decide +kernel) (by decide) (fun c22 => ?_) (fun c22 => ?_)
      · have h := zip c22 h
        exact zG.wk [true, true, true, false, false, true, true] (pX12_hold_97_ok hX hRm ih h)
      · have h := zin c22 h
        refine zG.blk (pc' := 82) (l' := [some (2, x0), some (0, x1), some (0, x2), some (0, x3), some (0, x4), some (0, x5), some (0, q20.1)]) (st' := [(0, x4), (0, q20.1)]) (M' := q20.2) hX [(.iload 6, 0, 0, 0), (.iload 4, 0, 0, 0)] (by decide +kernel) rfl trivial ?_
        refine zG.icmp_ne (tgt := 104) (off := 22) hX (by decide +kernel) (by decide) (fun c23 => ?_) (fun c23 => ?_)
        · have h := zin c23 h
          exact zG.wk [true, true, true, true, true, true, false] (pX12_hold_104_ok hX hRm ih h)
        · have h := zip c23 h
          refine zG.blk (pc' := 87) (l' := [some (2, x0), some (0, x1), some (0, x2), some (0, x3), some (0, x4), some (0, x5), some (0, q20.1)]) (st' := [(0, x5)]) (M' := q20.2) hX [(.iload 5, 0, 0, 0)] (by decide +kernel) rfl trivial ?_
          obtain ⟨q24, e25, h⟩ := zbd h
          refine zG.callS (av := [(0, x5)]) (st := []) hX (pX12_bits_ok e25) ss_12_445 rfl (by decide +kernel) (by rw [hRm]; exact ⟨Nat.le_of_ble_eq_true rfl, Nat.le_of_ble_eq_true rfl⟩) (by rw [hRm]; exact ⟨Nat.le_of_ble_eq_true rfl, Nat.le_of_ble_eq_true rfl⟩) (Nat.le_of_ble_eq_true rfl) ?_
          show zG C E 7 S 0 0 _ 90 [some (2, x0), some (0, x1), some (0, x2), some (0, x3), some (0, x4), some (0, x5), some (0, q20.1)] [(0, q24.1)] q24.2
          refine zG.blk (pc' := 91) (l' := [some (2, x0), some (0, x1), some (0, x2), some (0, x3), some (0, x4), some (0, x5), some (0, q20.1)]) (st' := [(0, x3), (0, q24.1)]) (M' := q24.2) hX [(.iload_n 3, 0, 0, 0)] (by decide +kernel) rfl trivial ?_
          obtain ⟨q26, e27, h⟩ := zbd h
          refine zG.callS (av := [(0, x3)]) (st := [(0, q24.1)]) hX (pX12_bits_ok e27) ss_12_445 rfl (by decide +kernel) (by rw [hRm]; exact ⟨Nat.le_of_ble_eq_true rfl, Nat.le_of_ble_eq_true rfl⟩) (by rw [hRm]; exact ⟨Nat.le_of_ble_eq_true rfl, Nat.le_of_ble_eq_true rfl⟩) (Nat.le_of_ble_eq_true rfl) ?_
          show zG C E 7 S 0 0 _ 94 [some (2, x0), some (0, x1), some (0, x2), some (0, x3), some (0, x4), some (0, x5), some (0, q20.1)] [(0, q26.1), (0, q24.1)] q26.2
          refine zG.icmp_ge (tgt := 104) (off := 10) hX (by decide +kernel) (by decide) (fun c28 => ?_) (fun c28 => ?_)
          · have h := zip c28 h
            exact zG.wk [true, true, true, true, true, true, false] (pX12_hold_104_ok hX hRm ih h)
          · have h := zin c28 h
            exact zG.wk [true, true, true, false, false, true, true] (pX12_hold_97_ok hX hRm ih h)
noncomputable def pX12_hold (S : ZS) (M : ZM) (a0 : Int) (a1 : Int) (a2 : Int) : Option (Int × ZM) := if S.1 a0 = 12 then (pX12_isSky S M a0).bind fun q1 => if q1.1 = 0 then (pX12_hold_29 S q1.2) else ((pX12_in S q1.2 a1 1 60).bind fun q5 => if q5.1 = 0 then (pX12_hold_29 S q5.2) else ((pX12_in S q5.2 a2 0 1).bind fun q8 => if q8.1 = 0 then (pX12_hold_29 S q8.2) else ((pX12_keepsAll S q8.2 a0).bind fun q11 => pX12_hold_43 S zFU q11 a0 a1 a2 0 (-1) 0))) else none
set_option maxHeartbeats 2000000 in
set_option maxRecDepth 20000 in
theorem pX12_hold_go {C : ZC} {E : ZE} {S : ZS} {M : ZM} {a0 a1 a2 : Int} {q : (Int × ZM)} (hX : zCx C E 12 cX12_hold 7 (some .int) false) (hRm : czR C = { frames := 9, cells := 0, slots := 0, locals := 220 }) (h : pX12_hold  S M a0 a1 a2 = some q) : zG C E 7 S 0 0 (zQ C E 0 0 (some (0, q.1)) S q.2) 0 [some (2, a0), some (0, a1), some (0, a2), none, none, none, none] [] M := by
  unfold pX12_hold at h
  refine zG.blk (pc' := 1) (l' := [some (2, a0), some (0, a1), some (0, a2), none, none, none, none]) (st' := [(2, a0)]) (M' := M) hX [(.aload_n 0, 0, 0, 0)] (by decide +kernel) rfl trivial ?_
  obtain ⟨g3, h⟩ := zif h
  obtain ⟨q1, e2, h⟩ := zbd h
  refine zG.callV (b := a0) (av := []) (st := []) (ci := 12) hX (pX12_isSky_ok e2) sv_12_402 rfl ⟨by decide, rfl⟩ g3 (by decide +kernel) (by rw [hRm]; exact ⟨Nat.le_of_ble_eq_true rfl, Nat.le_of_ble_eq_true rfl⟩) (by rw [hRm]; exact ⟨Nat.le_of_ble_eq_true rfl, Nat.le_of_ble_eq_true rfl⟩) (Nat.le_of_ble_eq_true rfl) ?_
  show zG C E 7 S 0 0 _ 4 [some (2, a0), some (0, a1), some (0, a2), none, none, none, none] [(0, q1.1)] q1.2
  refine zG.if_eq (tgt := 29) (off := 25) hX (by decide +kernel) (by decide) (fun c4 => ?_) (fun c4 => ?_)
  · have h := zip c4 h
    exact zG.wk [false, false, false, true, true, true, true] (pX12_hold_29_ok hX hRm h)
  · have h := zin c4 h
    refine zG.blk (pc' := 13) (l' := [some (2, a0), some (0, a1), some (0, a2), none, none, none, none]) (st' := [(1, 60), (1, 1), (1, a1)]) (M' := q1.2) hX [(.iload_n 1, 0, 0, 0), (.i2l, 0, 0, 0), (.lconst 1, 1, 0, 0), (.ldc2_w 440, 60, 0, 0)] (by decide +kernel) rfl trivial ?_
    obtain ⟨q5, e6, h⟩ := zbd h
    refine zG.callS (av := [(1, a1), (1, 1), (1, 60)]) (st := []) hX (pX12_in_ok e6) ss_12_138 rfl (by decide +kernel) (by rw [hRm]; exact ⟨Nat.le_of_ble_eq_true rfl, Nat.le_of_ble_eq_true rfl⟩) (by rw [hRm]; exact ⟨Nat.le_of_ble_eq_true rfl, Nat.le_of_ble_eq_true rfl⟩) (Nat.le_of_ble_eq_true rfl) ?_
    show zG C E 7 S 0 0 _ 16 [some (2, a0), some (0, a1), some (0, a2), none, none, none, none] [(0, q5.1)] q5.2
    refine zG.if_eq (tgt := 29) (off := 13) hX (by decide +kernel) (by decide) (fun c7 => ?_) (fun c7 => ?_)
    · have h := zip c7 h
      exact zG.wk [false, false, false, true, true, true, true] (pX12_hold_29_ok hX hRm h)
    · have h := zin c7 h
      refine zG.blk (pc' := 23) (l' := [some (2, a0), some (0, a1), some (0, a2), none, none, none, none]) (st' := [(1, 1), (1, 0), (1, a2)]) (M' := q5.2) hX [(.iload_n 2, 0, 0, 0), (.i2l, 0, 0, 0), (.lconst 0, 0, 0, 0), (.lconst 1, 1, 0, 0)] (by decide +kernel) rfl trivial ?_
      obtain ⟨q8, e9, h⟩ := zbd h
      refine zG.callS (av := [(1, a2), (1, 0), (1, 1)]) (st := []) hX (pX12_in_ok e9) ss_12_138 rfl (by decide +kernel) (by rw [hRm]; exact ⟨Nat.le_of_ble_eq_true rfl, Nat.le_of_ble_eq_true rfl⟩) (by rw [hRm]; exact ⟨Nat.le_of_ble_eq_true rfl, Nat.le_of_ble_eq_true rfl⟩) (Nat.le_of_ble_eq_true rfl) ?_
      show zG C E 7 S 0 0 _ 26 [some (2, a0), some (0, a1), some (0, a2), none, none, none, none] [(0, q8.1)] q8.2
      refine zG.if_ne (tgt := 31) (off := 5) hX (by decide +kernel) (by decide) (fun c10 => ?_) (fun c10 => ?_)
      · have h := zin c10 h
        refine zG.blk (pc' := 37) (l' := [some (2, a0), some (0, a1), some (0, a2), some (0, 0), some (0, (-1)), none, none]) (st' := [(2, a0)]) (M' := q8.2) hX [(.iconst 0, 0, 0, 0), (.istore_n 3, 0, 0, 0), (.iconst (-1), 0, 0, 0), (.istore 4, 0, 0, 0), (.aload_n 0, 0, 0, 0)] (by decide +kernel) rfl trivial ?_
        obtain ⟨q11, e12, h⟩ := zbd h
        refine zG.callV (b := a0) (av := []) (st := []) (ci := 12) hX (pX12_keepsAll_ok e12) sv_12_426 rfl ⟨by decide, rfl⟩ g3 (by decide +kernel) (by rw [hRm]; exact ⟨Nat.le_of_ble_eq_true rfl, Nat.le_of_ble_eq_true rfl⟩) (by rw [hRm]; exact ⟨Nat.le_of_ble_eq_true rfl, Nat.le_of_ble_eq_true rfl⟩) (Nat.le_of_ble_eq_true rfl) ?_
        show zG C E 7 S 0 0 _ 40 [some (2, a0), some (0, a1), some (0, a2), some (0, 0), some (0, (-1)), none, none] [] q11
        refine zG.blk (pc' := 43) (l' := [some (2, a0), some (0, a1), some (0, a2), some (0, 0), some (0, (-1)), some (0, 0), none]) (st' := []) (M' := q11) hX [(.iconst 0, 0, 0, 0), (.istore 5, 0, 0, 0)] (by decide +kernel) rfl trivial ?_
        exact (pX12_hold_43_ok hX hRm zFU _ _ _ _ _ _ _ h)
      · have h := zip c10 h
        exact zG.wk [false, false, false, true, true, true, true] (pX12_hold_29_ok hX hRm h)
theorem pX12_hold_ok {l : Launch} {E : ZE} {S : ZS} {M : ZM} {a0 a1 a2 : Int} {q : (Int × ZM)} (h : pX12_hold S M a0 a1 a2 = some q) : zMet l yX12_hold cX12_hold 7 (some .int) 9 220 0 0 E S M [(2, a0), (0, a1), (0, a2)] (some (0, q.1)) S q.2 :=
  zMet.of (o := 12) (ini := false) (by decide +kernel) rfl (fun h => by cases h) (Nat.le_of_ble_eq_true rfl) (fun C hX hl hRm => by subst hl; exact pX12_hold_go hX hRm h)
noncomputable def pX12_image (S : ZS) (M : ZM) (a0 : Int) (a1 : Int) : Option (Int × ZM) := (pX12_in S M a1 0 3).bind fun q1 => if q1.1 = 0 then (some ((-1), q1.2)) else (if S.1 a0 = 12 then if S.1 (q1.2 a0 51) = 103 ∧ (0 : Int) ≤ a1 ∧ a1 < S.2.1 (q1.2 a0 51) then zlet (upM q1.2 (q1.2 a0 51) a1 1) fun M6 => (pX12_carriesAll S M6 a0 a1 0).bind fun q7 => if S.1 (q7 a0 1) = 100 ∧ (0 : Int) ≤ 4 ∧ 4 < S.2.1 (q7 a0 1) then some (q7 (q7 a0 1) 4, q7) else none else none else none)
set_option maxHeartbeats 2000000 in
set_option maxRecDepth 20000 in
theorem pX12_image_go {C : ZC} {E : ZE} {S : ZS} {M : ZM} {a0 a1 : Int} {q : (Int × ZM)} (hX : zCx C E 12 cX12_image 2 (some .int) false) (hRm : czR C = { frames := 3, cells := 0, slots := 0, locals := 84 }) (h : pX12_image  S M a0 a1 = some q) : zG C E 2 S 0 0 (zQ C E 0 0 (some (0, q.1)) S q.2) 0 [some (2, a0), some (0, a1)] [] M := by
  unfold pX12_image at h
  refine zG.blk (pc' := 6) (l' := [some (2, a0), some (0, a1)]) (st' := [(1, 3), (1, 0), (1, a1)]) (M' := M) hX [(.iload_n 1, 0, 0, 0), (.i2l, 0, 0, 0), (.lconst 0, 0, 0, 0), (.ldc2_w 422, 3, 0, 0)] (by decide +kernel) rfl trivial ?_
  obtain ⟨q1, e2, h⟩ := zbd h
  refine zG.callS (av := [(1, a1), (1, 0), (1, 3)]) (st := []) hX (pX12_in_ok e2) ss_12_138 rfl (by decide +kernel) (by rw [hRm]; exact ⟨Nat.le_of_ble_eq_true rfl, Nat.le_of_ble_eq_true rfl⟩) (by rw [hRm]; exact ⟨Nat.le_of_ble_eq_true rfl, Nat.le_of_ble_eq_true rfl⟩) (Nat.le_of_ble_eq_true rfl) ?_
  show zG C E 2 S 0 0 _ 9 [some (2, a0), some (0, a1)] [(0, q1.1)] q1.2
  refine zG.if_ne (tgt := 14) (off := 5) hX (by decide +kernel) (by decide) (fun c3 => ?_) (fun c3 => ?_)
  · have h := zin c3 h
    obtain ⟨g4, h⟩ := zif h
    obtain ⟨g5, h⟩ := zif h
    refine zG.blk (pc' := 21) (l' := [some (2, a0), some (0, a1)]) (st' := []) (M' := (upM q1.2 (q1.2 a0 51) a1 1)) hX [(.aload_n 0, 0, 0, 0), (.getfield 127, 12, 51, 2), (.iload_n 1, 0, 0, 0), (.iconst 1, 0, 0, 0), (.bastore, 103, 0, 0)] (by decide +kernel) rfl (And.intro g4 (And.intro g5 (And.intro (Or.inr rfl) trivial))) ?_
    generalize upM q1.2 (q1.2 a0 51) a1 1 = M6 at h ⊢
    have h := zlt h
    refine zG.blk (pc' := 24) (l' := [some (2, a0), some (0, a1)]) (st' := [(0, 0), (0, a1), (2, a0)]) (M' := M6) hX [(.aload_n 0, 0, 0, 0), (.iload_n 1, 0, 0, 0), (.iconst 0, 0, 0, 0)] (by decide +kernel) rfl trivial ?_
    obtain ⟨q7, e8, h⟩ := zbd h
    refine zG.callV (b := a0) (av := [(0, a1), (0, 0)]) (st := []) (ci := 12) hX (pX12_carriesAll_ok e8) sv_12_410 rfl ⟨by decide, rfl⟩ g4 (by decide +kernel) (by rw [hRm]; exact ⟨Nat.le_of_ble_eq_true rfl, Nat.le_of_ble_eq_true rfl⟩) (by rw [hRm]; exact ⟨Nat.le_of_ble_eq_true rfl, Nat.le_of_ble_eq_true rfl⟩) (Nat.le_of_ble_eq_true rfl) ?_
    show zG C E 2 S 0 0 _ 27 [some (2, a0), some (0, a1)] [] q7
    obtain ⟨g9, h⟩ := zif h
    refine zG.blk (pc' := 33) (l' := [some (2, a0), some (0, a1)]) (st' := [(0, q7 (q7 a0 1) 4)]) (M' := q7) hX [(.aload_n 0, 0, 0, 0), (.getfield 9, 12, 1, 2), (.iconst 4, 0, 0, 0), (.iaload, 0, 0, 0)] (by decide +kernel) rfl (And.intro g4 (And.intro g9 trivial)) ?_
    cases h
    exact zG.iret hX (by decide +kernel)
  · have h := zip c3 h
    refine zG.blk (pc' := 13) (l' := [some (2, a0), some (0, a1)]) (st' := [(0, (-1))]) (M' := q1.2) hX [(.iconst (-1), 0, 0, 0)] (by decide +kernel) rfl trivial ?_
    cases h
    exact zG.iret hX (by decide +kernel)
theorem pX12_image_ok {l : Launch} {E : ZE} {S : ZS} {M : ZM} {a0 a1 : Int} {q : (Int × ZM)} (h : pX12_image S M a0 a1 = some q) : zMet l yX12_image cX12_image 2 (some .int) 3 84 0 0 E S M [(2, a0), (0, a1)] (some (0, q.1)) S q.2 :=
  zMet.of (o := 12) (ini := false) (by decide +kernel) rfl (fun h => by cases h) (Nat.le_of_ble_eq_true rfl) (fun C hX hl hRm => by subst hl; exact pX12_image_go hX hRm h)
noncomputable def pX12_isFull_27 (S : ZS) (M : ZM) : Option (Int × ZM) := some (1, M)
set_option maxHeartbeats 2000000 in
set_option maxRecDepth 20000 in
theorem pX12_isFull_27_ok {C : ZC} {E : ZE} {S : ZS} {q : (Int × ZM)} (hX : zCx C E 12 cX12_isFull 3 (some .boolean) false) (hRm : czR C = { frames := 1, cells := 0, slots := 0, locals := 40 }) {M : ZM} (h : pX12_isFull_27 S M = some q) : zG C E 3 S 0 0 (zQ C E 0 0 (some (0, q.1)) S q.2) 27 [none, none, none] [] M := by
  unfold pX12_isFull_27 at h
  refine zG.blk (pc' := 28) (l' := [none, none, none]) (st' := [(0, 1)]) (M' := M) hX [(.iconst 1, 0, 0, 0)] (by decide +kernel) rfl trivial ?_
  cases h
  exact zG.zret hX (by decide +kernel) (Or.inr rfl)
noncomputable def pX12_isFull_65 (S : ZS) (M : ZM) (y0 : Int) : Option (Int × ZM) := if y0 = 0 ∨ y0 = 1 then some (y0, M) else none
set_option maxHeartbeats 2000000 in
set_option maxRecDepth 20000 in
theorem pX12_isFull_65_ok {C : ZC} {E : ZE} {S : ZS} {q : (Int × ZM)} (hX : zCx C E 12 cX12_isFull 3 (some .boolean) false) (hRm : czR C = { frames := 1, cells := 0, slots := 0, locals := 40 }) {M : ZM} {y0 : Int} (h : pX12_isFull_65 S M y0 = some q) : zG C E 3 S 0 0 (zQ C E 0 0 (some (0, q.1)) S q.2) 65 [none, none, none] [(0, y0)] M := by
  unfold pX12_isFull_65 at h
  obtain ⟨g7, h⟩ := zif h
  cases h
  exact zG.zret hX (by decide +kernel) g7
noncomputable def pX12_isFull_64 (S : ZS) (M : ZM) : Option (Int × ZM) := pX12_isFull_65 S M 0
set_option maxHeartbeats 2000000 in
set_option maxRecDepth 20000 in
theorem pX12_isFull_64_ok {C : ZC} {E : ZE} {S : ZS} {q : (Int × ZM)} (hX : zCx C E 12 cX12_isFull 3 (some .boolean) false) (hRm : czR C = { frames := 1, cells := 0, slots := 0, locals := 40 }) {M : ZM} (h : pX12_isFull_64 S M = some q) : zG C E 3 S 0 0 (zQ C E 0 0 (some (0, q.1)) S q.2) 64 [none, none, none] [] M := by
  unfold pX12_isFull_64 at h
  refine zG.blk (pc' := 65) (l' := [none, none, none]) (st' := [(0, 0)]) (M' := M) hX [(.iconst 0, 0, 0, 0)] (by decide +kernel) rfl trivial ?_
  exact (pX12_isFull_65_ok hX hRm h)
noncomputable def pX12_isFull_60 (S : ZS) (M : ZM) : Option (Int × ZM) := pX12_isFull_65 S M 1
set_option maxHeartbeats 2000000 in
set_option maxRecDepth 20000 in
theorem pX12_isFull_60_ok {C : ZC} {E : ZE} {S : ZS} {q : (Int × ZM)} (hX : zCx C E 12 cX12_isFull 3 (some .boolean) false) (hRm : czR C = { frames := 1, cells := 0, slots := 0, locals := 40 }) {M : ZM} (h : pX12_isFull_60 S M = some q) : zG C E 3 S 0 0 (zQ C E 0 0 (some (0, q.1)) S q.2) 60 [none, none, none] [] M := by
  unfold pX12_isFull_60 at h
  refine zG.blk (pc' := 61) (l' := [none, none, none]) (st' := [(0, 1)]) (M' := M) hX [(.iconst 1, 0, 0, 0)] (by decide +kernel) rfl trivial ?_
  refine zG.goto (tgt := 65) (off := 4) hX (by decide +kernel) (by decide) ?_
  exact (pX12_isFull_65_ok hX hRm h)
noncomputable def pX12_isFull_44 (S : ZS) (M : ZM) (x0 : Int) (x1 : Int) : Option (Int × ZM) := if x1 = 2 then (if S.1 x0 = 12 then if S.1 (M x0 14) = 100 ∧ (0 : Int) ≤ 3 ∧ 3 < S.2.1 (M x0 14) then if M (M x0 14) 3 = 12 then (pX12_isFull_60 S M) else (pX12_isFull_64 S M) else none else none) else (pX12_isFull_64 S M)
set_option maxHeartbeats 2000000 in
set_option maxRecDepth 20000 in
theorem pX12_isFull_44_ok {C : ZC} {E : ZE} {S : ZS} {q : (Int × ZM)} (hX : zCx C E 12 cX12_isFull 3 (some .boolean) false) (hRm : czR C = { frames := 1, cells := 0, slots := 0, locals := 40 }) {M : ZM} {x0 : Int} {x1 : Int} (h : pX12_isFull_44 S M x0 x1 = some q) : zG C E 3 S 0 0 (zQ C E 0 0 (some (0, q.1)) S q.2) 44 [some (2, x0), some (0, x1), none] [] M := by
  unfold pX12_isFull_44 at h
  refine zG.blk (pc' := 46) (l' := [some (2, x0), some (0, x1), none]) (st' := [(0, 2), (0, x1)]) (M' := M) hX [(.iload_n 1, 0, 0, 0), (.iconst 2, 0, 0, 0)] (by decide +kernel) rfl trivial ?_
  refine zG.icmp_ne (tgt := 64) (off := 18) hX (by decide +kernel) (by decide) (fun c6 => ?_) (fun c6 => ?_)
  · have h := zin c6 h
    exact zG.wk [false, false, true] (pX12_isFull_64_ok hX hRm h)
  · have h := zip c6 h
    obtain ⟨g8, h⟩ := zif h
    obtain ⟨g9, h⟩ := zif h
    refine zG.blk (pc' := 57) (l' := [some (2, x0), some (0, x1), none]) (st' := [(0, 12), (0, M (M x0 14) 3)]) (M' := M) hX [(.aload_n 0, 0, 0, 0), (.getfield 49, 12, 14, 2), (.iconst 3, 0, 0, 0), (.iaload, 0, 0, 0), (.bipush 12, 0, 0, 0)] (by decide +kernel) rfl (And.intro g8 (And.intro g9 trivial)) ?_
    refine zG.icmp_ne (tgt := 64) (off := 7) hX (by decide +kernel) (by decide) (fun c10 => ?_) (fun c10 => ?_)
    · have h := zin c10 h
      exact zG.wk [false, false, true] (pX12_isFull_64_ok hX hRm h)
    · have h := zip c10 h
      exact zG.wk [false, false, true] (pX12_isFull_60_ok hX hRm h)
noncomputable def pX12_isFull_24 (S : ZS) (M : ZM) (x0 : Int) (x1 : Int) (y0 : Int) (y1 : Int) : Option (Int × ZM) := if y1 = y0 then (if x1 = 1 then (if S.1 x0 = 12 then if S.1 (M x0 14) = 100 ∧ (0 : Int) ≤ 2 ∧ 2 < S.2.1 (M x0 14) then if M (M x0 14) 2 = 5 then (pX12_isFull_60 S M) else (pX12_isFull_44 S M x0 x1) else none else none) else (pX12_isFull_44 S M x0 x1)) else (pX12_isFull_27 S M)
set_option maxHeartbeats 2000000 in
set_option maxRecDepth 20000 in
theorem pX12_isFull_24_ok {C : ZC} {E : ZE} {S : ZS} {q : (Int × ZM)} (hX : zCx C E 12 cX12_isFull 3 (some .boolean) false) (hRm : czR C = { frames := 1, cells := 0, slots := 0, locals := 40 }) {M : ZM} {x0 : Int} {x1 : Int} {y0 : Int} {y1 : Int} (h : pX12_isFull_24 S M x0 x1 y0 y1 = some q) : zG C E 3 S 0 0 (zQ C E 0 0 (some (0, q.1)) S q.2) 24 [some (2, x0), some (0, x1), none] [(0, y0), (0, y1)] M := by
  unfold pX12_isFull_24 at h
  refine zG.icmp_eq (tgt := 29) (off := 5) hX (by decide +kernel) (by decide) (fun c4 => ?_) (fun c4 => ?_)
  · have h := zip c4 h
    refine zG.blk (pc' := 31) (l' := [some (2, x0), some (0, x1), none]) (st' := [(0, 1), (0, x1)]) (M' := M) hX [(.iload_n 1, 0, 0, 0), (.iconst 1, 0, 0, 0)] (by decide +kernel) rfl trivial ?_
    refine zG.icmp_ne (tgt := 44) (off := 13) hX (by decide +kernel) (by decide) (fun c5 => ?_) (fun c5 => ?_)
    · have h := zin c5 h
      exact (pX12_isFull_44_ok hX hRm h)
    · have h := zip c5 h
      obtain ⟨g11, h⟩ := zif h
      obtain ⟨g12, h⟩ := zif h
      refine zG.blk (pc' := 41) (l' := [some (2, x0), some (0, x1), none]) (st' := [(0, 5), (0, M (M x0 14) 2)]) (M' := M) hX [(.aload_n 0, 0, 0, 0), (.getfield 49, 12, 14, 2), (.iconst 2, 0, 0, 0), (.iaload, 0, 0, 0), (.iconst 5, 0, 0, 0)] (by decide +kernel) rfl (And.intro g11 (And.intro g12 trivial)) ?_
      refine zG.icmp_eq (tgt := 60) (off := 19) hX (by decide +kernel) (by decide) (fun c13 => ?_) (fun c13 => ?_)
      · have h := zip c13 h
        exact zG.wk [false, false, true] (pX12_isFull_60_ok hX hRm h)
      · have h := zin c13 h
        exact (pX12_isFull_44_ok hX hRm h)
  · have h := zin c4 h
    exact zG.wk [false, false, true] (pX12_isFull_27_ok hX hRm h)
noncomputable def pX12_isFull_15 (S : ZS) (M : ZM) (x0 : Int) (x1 : Int) (x2 : Int) (y0 : Int) : Option (Int × ZM) := pX12_isFull_24 S M x0 x1 (if x2 = 0 then (1 : Int) else 0) y0
set_option maxHeartbeats 2000000 in
set_option maxRecDepth 20000 in
theorem pX12_isFull_15_ok {C : ZC} {E : ZE} {S : ZS} {q : (Int × ZM)} (hX : zCx C E 12 cX12_isFull 3 (some .boolean) false) (hRm : czR C = { frames := 1, cells := 0, slots := 0, locals := 40 }) {M : ZM} {x0 : Int} {x1 : Int} {x2 : Int} {y0 : Int} (h : pX12_isFull_15 S M x0 x1 x2 y0 = some q) : zG C E 3 S 0 0 (zQ C E 0 0 (some (0, q.1)) S q.2) 15 [some (2, x0), some (0, x1), some (0, x2)] [(0, y0)] M := by
  unfold pX12_isFull_15 at h
  refine zG.blk (pc' := 16) (l' := [some (2, x0), some (0, x1), some (0, x2)]) (st' := [(0, x2), (0, y0)]) (M' := M) hX [(.iload_n 2, 0, 0, 0)] (by decide +kernel) rfl trivial ?_
  have key3 : zG C E 3 S 0 0 (zQ C E 0 0 (some (0, q.1)) S q.2) 24 [some (2, x0), some (0, x1), some (0, x2)] [(0, (if x2 = 0 then (1 : Int) else 0)), (0, y0)] M := by
    exact zG.wk [true, true, false] (pX12_isFull_24_ok hX hRm h)
  refine zG.if_ne (tgt := 23) (off := 7) hX (by decide +kernel) (by decide) (fun c14 => ?_) (fun c14 => ?_)
  · refine zG.blk (pc' := 24) (l' := [some (2, x0), some (0, x1), some (0, x2)]) (st' := [(0, 0), (0, y0)]) (M' := M) hX [(.iconst 0, 0, 0, 0)] (by decide +kernel) rfl trivial ?_
    (have k := key3; simp only [if_neg c14] at k; exact k)
  · refine zG.blk (pc' := 20) (l' := [some (2, x0), some (0, x1), some (0, x2)]) (st' := [(0, 1), (0, y0)]) (M' := M) hX [(.iconst 1, 0, 0, 0)] (by decide +kernel) rfl trivial ?_
    refine zG.goto (tgt := 24) (off := 4) hX (by decide +kernel) (by decide) ?_
    (have k := key3; simp only [if_pos c14] at k; exact k)
noncomputable def pX12_isFull (S : ZS) (M : ZM) (a0 : Int) (a1 : Int) (a2 : Int) : Option (Int × ZM) := if a2 = 40 then (pX12_isFull_27 S M) else (pX12_isFull_15 S M a0 a1 a2 (if a1 = 0 then (1 : Int) else 0))
set_option maxHeartbeats 2000000 in
set_option maxRecDepth 20000 in
theorem pX12_isFull_go {C : ZC} {E : ZE} {S : ZS} {M : ZM} {a0 a1 a2 : Int} {q : (Int × ZM)} (hX : zCx C E 12 cX12_isFull 3 (some .boolean) false) (hRm : czR C = { frames := 1, cells := 0, slots := 0, locals := 40 }) (h : pX12_isFull  S M a0 a1 a2 = some q) : zG C E 3 S 0 0 (zQ C E 0 0 (some (0, q.1)) S q.2) 0 [some (2, a0), some (0, a1), some (0, a2)] [] M := by
  unfold pX12_isFull at h
  refine zG.blk (pc' := 3) (l' := [some (2, a0), some (0, a1), some (0, a2)]) (st' := [(0, 40), (0, a2)]) (M' := M) hX [(.iload_n 2, 0, 0, 0), (.bipush 40, 0, 0, 0)] (by decide +kernel) rfl trivial ?_
  refine zG.icmp_eq (tgt := 27) (off := 24) hX (by decide +kernel) (by decide) (fun c1 => ?_) (fun c1 => ?_)
  · have h := zip c1 h
    exact zG.wk [false, false, false] (pX12_isFull_27_ok hX hRm h)
  · have h := zin c1 h
    refine zG.blk (pc' := 7) (l' := [some (2, a0), some (0, a1), some (0, a2)]) (st' := [(0, a1)]) (M' := M) hX [(.iload_n 1, 0, 0, 0)] (by decide +kernel) rfl trivial ?_
    have key2 : zG C E 3 S 0 0 (zQ C E 0 0 (some (0, q.1)) S q.2) 15 [some (2, a0), some (0, a1), some (0, a2)] [(0, (if a1 = 0 then (1 : Int) else 0))] M := by
      exact (pX12_isFull_15_ok hX hRm h)
    refine zG.if_ne (tgt := 14) (off := 7) hX (by decide +kernel) (by decide) (fun c15 => ?_) (fun c15 => ?_)
    · refine zG.blk (pc' := 15) (l' := [some (2, a0), some (0, a1), some (0, a2)]) (st' := [(0, 0)]) (M' := M) hX [(.iconst 0, 0, 0, 0)] (by decide +kernel) rfl trivial ?_
      (have k := key2; simp only [if_neg c15] at k; exact k)
    · refine zG.blk (pc' := 11) (l' := [some (2, a0), some (0, a1), some (0, a2)]) (st' := [(0, 1)]) (M' := M) hX [(.iconst 1, 0, 0, 0)] (by decide +kernel) rfl trivial ?_
      refine zG.goto (tgt := 15) (off := 4) hX (by decide +kernel) (by decide) ?_
      (have k := key2; simp only [if_pos c15] at k; exact k)
theorem pX12_isFull_ok {l : Launch} {E : ZE} {S : ZS} {M : ZM} {a0 a1 a2 : Int} {q : (Int × ZM)} (h : pX12_isFull S M a0 a1 a2 = some q) : zMet l yX12_isFull cX12_isFull 3 (some .boolean) 1 40 0 0 E S M [(2, a0), (0, a1), (0, a2)] (some (0, q.1)) S q.2 :=
  zMet.of (o := 12) (ini := false) (by decide +kernel) rfl (fun h => by cases h) (Nat.le_of_ble_eq_true rfl) (fun C hX hl hRm => by subst hl; exact pX12_isFull_go hX hRm h)
noncomputable def pX12_isRest_49 (S : ZS) (M : ZM) : Option (Int × ZM) := some (0, M)
set_option maxHeartbeats 2000000 in
set_option maxRecDepth 20000 in
theorem pX12_isRest_49_ok {C : ZC} {E : ZE} {S : ZS} {q : (Int × ZM)} (hX : zCx C E 12 cX12_isRest 3 (some .boolean) false) (hRm : czR C = { frames := 1, cells := 0, slots := 0, locals := 40 }) {M : ZM} (h : pX12_isRest_49 S M = some q) : zG C E 3 S 0 0 (zQ C E 0 0 (some (0, q.1)) S q.2) 49 [none, none, none] [] M := by
  unfold pX12_isRest_49 at h
  refine zG.blk (pc' := 50) (l' := [none, none, none]) (st' := [(0, 0)]) (M' := M) hX [(.iconst 0, 0, 0, 0)] (by decide +kernel) rfl trivial ?_
  cases h
  exact zG.zret hX (by decide +kernel) (Or.inl rfl)
noncomputable def pX12_isRest_2 (S : ZS) : Nat → ZM → Int → Int → Int → Option (Int × ZM)
  | 0 => fun _ _ _ _ => none
  | n + 1 => fun M x0 x1 x2 => if 4 ≤ x2 then (some (1, M)) else (if S.1 x0 = 12 then if S.1 (M x0 46) = 100 ∧ (0 : Int) ≤ w32 ((w32 (4 * x2)) + (Int.tmod x1 4)) ∧ w32 ((w32 (4 * x2)) + (Int.tmod x1 4)) < S.2.1 (M x0 46) then if S.1 (M x0 46) = 100 ∧ (0 : Int) ≤ x1 ∧ x1 < S.2.1 (M x0 46) then if M (M x0 46) x1 < M (M x0 46) (w32 ((w32 (4 * x2)) + (Int.tmod x1 4))) then (pX12_isRest_49 S M) else (if S.1 (M x0 47) = 100 ∧ (0 : Int) ≤ w32 ((w32 (x1 - (Int.tmod x1 4))) + x2) ∧ w32 ((w32 (x1 - (Int.tmod x1 4))) + x2) < S.2.1 (M x0 47) then if S.1 (M x0 47) = 100 ∧ (0 : Int) ≤ x1 ∧ x1 < S.2.1 (M x0 47) then if M (M x0 47) (w32 ((w32 (x1 - (Int.tmod x1 4))) + x2)) ≤ M (M x0 47) x1 then (pX12_isRest_2 S n M x0 x1 (w32 (x2 + 1))) else (pX12_isRest_49 S M) else none else none) else none else none else none)
set_option maxHeartbeats 2000000 in
set_option maxRecDepth 20000 in
theorem pX12_isRest_2_ok {C : ZC} {E : ZE} {S : ZS} {q : (Int × ZM)} (hX : zCx C E 12 cX12_isRest 3 (some .boolean) false) (hRm : czR C = { frames := 1, cells := 0, slots := 0, locals := 40 }) : ∀ (n : Nat) (M : ZM) (x0 : Int) (x1 : Int) (x2 : Int), pX12_isRest_2 S n M x0 x1 x2 = some q → zG C E 3 S 0 0 (zQ C E 0 0 (some (0, q.1)) S q.2) 2 [some (2, x0), some (0, x1), some (0, x2)] [] M := by
  intro n
  induction n with
  | zero => intro M x0 x1 x2 h; cases h
  | succ n ih =>
    intro M x0 x1 x2 h
    unfold pX12_isRest_2 at h
    refine zG.blk (pc' := 4) (l' := [some (2, x0), some (0, x1), some (0, x2)]) (st' := [(0, 4), (0, x2)]) (M' := M) hX [(.iload_n 2, 0, 0, 0), (.iconst 4, 0, 0, 0)] (by decide +kernel) rfl trivial ?_
    refine zG.icmp_ge (tgt := 57) (off := 53) hX (by decide +kernel) (by decide) (fun c1 => ?_) (fun c1 => ?_)
    · have h := zip c1 h
      refine zG.blk (pc' := 58) (l' := [some (2, x0), some (0, x1), some (0, x2)]) (st' := [(0, 1)]) (M' := M) hX [(.iconst 1, 0, 0, 0)] (by decide +kernel) rfl trivial ?_
      cases h
      exact zG.zret hX (by decide +kernel) (Or.inr rfl)
    · have h := zin c1 h
      obtain ⟨g2, h⟩ := zif h
      obtain ⟨g3, h⟩ := zif h
      obtain ⟨g4, h⟩ := zif h
      refine zG.blk (pc' := 25) (l' := [some (2, x0), some (0, x1), some (0, x2)]) (st' := [(0, M (M x0 46) x1), (0, M (M x0 46) (w32 ((w32 (4 * x2)) + (Int.tmod x1 4))))]) (M' := M) hX [(.aload_n 0, 0, 0, 0), (.getfield 112, 12, 46, 2), (.iconst 4, 0, 0, 0), (.iload_n 2, 0, 0, 0), (.imul, 0, 0, 0), (.iload_n 1, 0, 0, 0), (.iconst 4, 0, 0, 0), (.irem, 0, 0, 0), (.iadd, 0, 0, 0), (.iaload, 0, 0, 0), (.aload_n 0, 0, 0, 0), (.getfield 112, 12, 46, 2), (.iload_n 1, 0, 0, 0), (.iaload, 0, 0, 0)] (by decide +kernel) rfl (And.intro g2 (And.intro (by decide) (And.intro g3 (And.intro g2 (And.intro g4 trivial))))) ?_
      refine zG.icmp_gt (tgt := 49) (off := 24) hX (by decide +kernel) (by decide) (fun c5 => ?_) (fun c5 => ?_)
      · have h := zip c5 h
        exact zG.wk [false, false, false] (pX12_isRest_49_ok hX hRm h)
      · have h := zin c5 h
        obtain ⟨g6, h⟩ := zif h
        obtain ⟨g7, h⟩ := zif h
        refine zG.blk (pc' := 46) (l' := [some (2, x0), some (0, x1), some (0, x2)]) (st' := [(0, M (M x0 47) x1), (0, M (M x0 47) (w32 ((w32 (x1 - (Int.tmod x1 4))) + x2)))]) (M' := M) hX [(.aload_n 0, 0, 0, 0), (.getfield 115, 12, 47, 2), (.iload_n 1, 0, 0, 0), (.iload_n 1, 0, 0, 0), (.iconst 4, 0, 0, 0), (.irem, 0, 0, 0), (.isub, 0, 0, 0), (.iload_n 2, 0, 0, 0), (.iadd, 0, 0, 0), (.iaload, 0, 0, 0), (.aload_n 0, 0, 0, 0), (.getfield 115, 12, 47, 2), (.iload_n 1, 0, 0, 0), (.iaload, 0, 0, 0)] (by decide +kernel) rfl (And.intro g2 (And.intro (by decide) (And.intro g6 (And.intro g2 (And.intro g7 trivial))))) ?_
        refine zG.icmp_le (tgt := 51) (off := 5) hX (by decide +kernel) (by decide) (fun c8 => ?_) (fun c8 => ?_)
        · have h := zip c8 h
          refine zG.blk (pc' := 54) (l' := [some (2, x0), some (0, x1), some (0, w32 (x2 + 1))]) (st' := []) (M' := M) hX [(.iinc 2 1, 0, 0, 0)] (by decide +kernel) rfl trivial ?_
          refine zG.goto (tgt := 2) (off := (-52)) hX (by decide +kernel) (by decide) ?_
          exact ih _ _ _ _ h
        · have h := zin c8 h
          exact zG.wk [false, false, false] (pX12_isRest_49_ok hX hRm h)
noncomputable def pX12_isRest (S : ZS) (M : ZM) (a0 : Int) (a1 : Int) : Option (Int × ZM) := pX12_isRest_2 S zFU M a0 a1 0
set_option maxHeartbeats 2000000 in
set_option maxRecDepth 20000 in
theorem pX12_isRest_go {C : ZC} {E : ZE} {S : ZS} {M : ZM} {a0 a1 : Int} {q : (Int × ZM)} (hX : zCx C E 12 cX12_isRest 3 (some .boolean) false) (hRm : czR C = { frames := 1, cells := 0, slots := 0, locals := 40 }) (h : pX12_isRest  S M a0 a1 = some q) : zG C E 3 S 0 0 (zQ C E 0 0 (some (0, q.1)) S q.2) 0 [some (2, a0), some (0, a1), none] [] M := by
  unfold pX12_isRest at h
  refine zG.blk (pc' := 2) (l' := [some (2, a0), some (0, a1), some (0, 0)]) (st' := []) (M' := M) hX [(.iconst 0, 0, 0, 0), (.istore_n 2, 0, 0, 0)] (by decide +kernel) rfl trivial ?_
  exact (pX12_isRest_2_ok hX hRm zFU _ _ _ _ h)
theorem pX12_isRest_ok {l : Launch} {E : ZE} {S : ZS} {M : ZM} {a0 a1 : Int} {q : (Int × ZM)} (h : pX12_isRest S M a0 a1 = some q) : zMet l yX12_isRest cX12_isRest 3 (some .boolean) 1 40 0 0 E S M [(2, a0), (0, a1)] (some (0, q.1)) S q.2 :=
  zMet.of (o := 12) (ini := false) (by decide +kernel) rfl (fun h => by cases h) (Nat.le_of_ble_eq_true rfl) (fun C hX hl hRm => by subst hl; exact pX12_isRest_go hX hRm h)
noncomputable def pX12_laysStiffs_67 (S : ZS) (k7 : ZM → Int → Int → Int → Int → Int → Option ZM) (M : ZM) (x0 : Int) (x1 : Int) (x2 : Int) (x3 : Int) (x4 : Int) : Option ZM := if S.1 x0 = 12 then (pX12_laysBack S M x0).bind fun q21 => k7 q21 x0 x1 x2 x3 (w32 (x4 + 1)) else none
set_option maxHeartbeats 2000000 in
set_option maxRecDepth 20000 in
theorem pX12_laysStiffs_67_ok {C : ZC} {E : ZE} {S : ZS} {k7 : ZM → Int → Int → Int → Int → Int → Option ZM} {q : ZM} (hX : zCx C E 12 cX12_laysStiffs 5 none false) (hRm : czR C = { frames := 8, cells := 0, slots := 0, locals := 198 }) (hk7 : ∀ M x0 x1 x2 x3 x4, k7 M x0 x1 x2 x3 x4 = some q → zG C E 5 S 0 0 (zQ C E 0 0 none S q) 7 [some (2, x0), some (0, x1), some (0, x2), some (0, x3), some (0, x4)] [] M) {M : ZM} {x0 : Int} {x1 : Int} {x2 : Int} {x3 : Int} {x4 : Int} (h : pX12_laysStiffs_67 S k7 M x0 x1 x2 x3 x4 = some q) : zG C E 5 S 0 0 (zQ C E 0 0 none S q) 67 [some (2, x0), some (0, x1), some (0, x2), some (0, x3), some (0, x4)] [] M := by
  unfold pX12_laysStiffs_67 at h
  refine zG.blk (pc' := 68) (l' := [some (2, x0), some (0, x1), some (0, x2), some (0, x3), some (0, x4)]) (st' := [(2, x0)]) (M' := M) hX [(.aload_n 0, 0, 0, 0)] (by decide +kernel) rfl trivial ?_
  obtain ⟨g23, h⟩ := zif h
  obtain ⟨q21, e22, h⟩ := zbd h
  refine zG.callV (b := x0) (av := []) (st := []) (ci := 12) hX (pX12_laysBack_ok e22) sv_12_419 rfl ⟨by decide, rfl⟩ g23 (by decide +kernel) (by rw [hRm]; exact ⟨Nat.le_of_ble_eq_true rfl, Nat.le_of_ble_eq_true rfl⟩) (by rw [hRm]; exact ⟨Nat.le_of_ble_eq_true rfl, Nat.le_of_ble_eq_true rfl⟩) (Nat.le_of_ble_eq_true rfl) ?_
  show zG C E 5 S 0 0 _ 71 [some (2, x0), some (0, x1), some (0, x2), some (0, x3), some (0, x4)] [] q21
  refine zG.blk (pc' := 74) (l' := [some (2, x0), some (0, x1), some (0, x2), some (0, x3), some (0, w32 (x4 + 1))]) (st' := []) (M' := q21) hX [(.iinc 4 1, 0, 0, 0)] (by decide +kernel) rfl trivial ?_
  refine zG.goto (tgt := 7) (off := (-67)) hX (by decide +kernel) (by decide) ?_
  exact (hk7 _ _ _ _ _ _ h)
noncomputable def pX12_laysStiffs_43 (S : ZS) (k7 : ZM → Int → Int → Int → Int → Int → Option ZM) (M : ZM) (x0 : Int) (x1 : Int) (x2 : Int) (x3 : Int) (x4 : Int) : Option ZM := if S.1 x0 = 12 then (pX12_strokesOf S M x0 x1).bind fun q13 => if S.1 (M x0 46) = 100 ∧ (0 : Int) ≤ x4 ∧ x4 < S.2.1 (M x0 46) then zlet (upM q13.2 (M x0 46) x4 q13.1) fun M16 => (pX12_strokesOf S M16 x0 x2).bind fun q17 => if S.1 (M16 x0 47) = 100 ∧ (0 : Int) ≤ x4 ∧ x4 < S.2.1 (M16 x0 47) then zlet (upM q17.2 (M16 x0 47) x4 q17.1) fun M20 => pX12_laysStiffs_67 S k7 M20 x0 x1 x2 x3 x4 else none else none else none
set_option maxHeartbeats 2000000 in
set_option maxRecDepth 20000 in
theorem pX12_laysStiffs_43_ok {C : ZC} {E : ZE} {S : ZS} {k7 : ZM → Int → Int → Int → Int → Int → Option ZM} {q : ZM} (hX : zCx C E 12 cX12_laysStiffs 5 none false) (hRm : czR C = { frames := 8, cells := 0, slots := 0, locals := 198 }) (hk7 : ∀ M x0 x1 x2 x3 x4, k7 M x0 x1 x2 x3 x4 = some q → zG C E 5 S 0 0 (zQ C E 0 0 none S q) 7 [some (2, x0), some (0, x1), some (0, x2), some (0, x3), some (0, x4)] [] M) {M : ZM} {x0 : Int} {x1 : Int} {x2 : Int} {x3 : Int} {x4 : Int} (h : pX12_laysStiffs_43 S k7 M x0 x1 x2 x3 x4 = some q) : zG C E 5 S 0 0 (zQ C E 0 0 none S q) 43 [some (2, x0), some (0, x1), some (0, x2), some (0, x3), some (0, x4)] [] M := by
  unfold pX12_laysStiffs_43 at h
  obtain ⟨g12, h⟩ := zif h
  refine zG.blk (pc' := 51) (l' := [some (2, x0), some (0, x1), some (0, x2), some (0, x3), some (0, x4)]) (st' := [(0, x1), (2, x0), (0, x4), (2, M x0 46)]) (M' := M) hX [(.aload_n 0, 0, 0, 0), (.getfield 112, 12, 46, 2), (.iload 4, 0, 0, 0), (.aload_n 0, 0, 0, 0), (.iload_n 1, 0, 0, 0)] (by decide +kernel) rfl (And.intro g12 trivial) ?_
  obtain ⟨q13, e14, h⟩ := zbd h
  refine zG.callV (b := x0) (av := [(0, x1)]) (st := [(0, x4), (2, M x0 46)]) (ci := 12) hX (pX12_strokesOf_ok e14) sv_12_338 rfl ⟨by decide, rfl⟩ g12 (by decide +kernel) (by rw [hRm]; exact ⟨Nat.le_of_ble_eq_true rfl, Nat.le_of_ble_eq_true rfl⟩) (by rw [hRm]; exact ⟨Nat.le_of_ble_eq_true rfl, Nat.le_of_ble_eq_true rfl⟩) (Nat.le_of_ble_eq_true rfl) ?_
  show zG C E 5 S 0 0 _ 54 [some (2, x0), some (0, x1), some (0, x2), some (0, x3), some (0, x4)] [(0, q13.1), (0, x4), (2, M x0 46)] q13.2
  obtain ⟨g15, h⟩ := zif h
  refine zG.blk (pc' := 55) (l' := [some (2, x0), some (0, x1), some (0, x2), some (0, x3), some (0, x4)]) (st' := []) (M' := (upM q13.2 (M x0 46) x4 q13.1)) hX [(.iastore, 0, 0, 0)] (by decide +kernel) rfl (And.intro g15 trivial) ?_
  generalize upM q13.2 (M x0 46) x4 q13.1 = M16 at h ⊢
  have h := zlt h
  refine zG.blk (pc' := 63) (l' := [some (2, x0), some (0, x1), some (0, x2), some (0, x3), some (0, x4)]) (st' := [(0, x2), (2, x0), (0, x4), (2, M16 x0 47)]) (M' := M16) hX [(.aload_n 0, 0, 0, 0), (.getfield 115, 12, 47, 2), (.iload 4, 0, 0, 0), (.aload_n 0, 0, 0, 0), (.iload_n 2, 0, 0, 0)] (by decide +kernel) rfl (And.intro g12 trivial) ?_
  obtain ⟨q17, e18, h⟩ := zbd h
  refine zG.callV (b := x0) (av := [(0, x2)]) (st := [(0, x4), (2, M16 x0 47)]) (ci := 12) hX (pX12_strokesOf_ok e18) sv_12_338 rfl ⟨by decide, rfl⟩ g12 (by decide +kernel) (by rw [hRm]; exact ⟨Nat.le_of_ble_eq_true rfl, Nat.le_of_ble_eq_true rfl⟩) (by rw [hRm]; exact ⟨Nat.le_of_ble_eq_true rfl, Nat.le_of_ble_eq_true rfl⟩) (Nat.le_of_ble_eq_true rfl) ?_
  show zG C E 5 S 0 0 _ 66 [some (2, x0), some (0, x1), some (0, x2), some (0, x3), some (0, x4)] [(0, q17.1), (0, x4), (2, M16 x0 47)] q17.2
  obtain ⟨g19, h⟩ := zif h
  refine zG.blk (pc' := 67) (l' := [some (2, x0), some (0, x1), some (0, x2), some (0, x3), some (0, x4)]) (st' := []) (M' := (upM q17.2 (M16 x0 47) x4 q17.1)) hX [(.iastore, 0, 0, 0)] (by decide +kernel) rfl (And.intro g19 trivial) ?_
  generalize upM q17.2 (M16 x0 47) x4 q17.1 = M20 at h ⊢
  have h := zlt h
  exact (pX12_laysStiffs_67_ok hX hRm hk7 h)
noncomputable def pX12_laysStiffs_7 (S : ZS) : Nat → ZM → Int → Int → Int → Int → Int → Option ZM
  | 0 => fun _ _ _ _ _ _ => none
  | n + 1 => fun M x0 x1 x2 x3 x4 => if 16 ≤ x4 then (some M) else (if S.1 x0 = 12 then if S.1 (M x0 3) = 100 ∧ (0 : Int) ≤ x1 ∧ x1 < S.2.1 (M x0 3) then zlet (upM M (M x0 3) x1 (w32 (3 * (w32 (Int.tdiv x4 4))))) fun M7 => if S.1 (M7 x0 3) = 100 ∧ (0 : Int) ≤ x2 ∧ x2 < S.2.1 (M7 x0 3) then zlet (upM M7 (M7 x0 3) x2 (w32 (3 * (Int.tmod x4 4)))) fun M9 => (pX12_goFor S M9 x0 x3).bind fun q10 => pX12_laysStiffs_43 S (pX12_laysStiffs_7 S n) q10 x0 x1 x2 x3 x4 else none else none else none)
set_option maxHeartbeats 2000000 in
set_option maxRecDepth 20000 in
theorem pX12_laysStiffs_7_ok {C : ZC} {E : ZE} {S : ZS} {q : ZM} (hX : zCx C E 12 cX12_laysStiffs 5 none false) (hRm : czR C = { frames := 8, cells := 0, slots := 0, locals := 198 }) : ∀ (n : Nat) (M : ZM) (x0 : Int) (x1 : Int) (x2 : Int) (x3 : Int) (x4 : Int), pX12_laysStiffs_7 S n M x0 x1 x2 x3 x4 = some q → zG C E 5 S 0 0 (zQ C E 0 0 none S q) 7 [some (2, x0), some (0, x1), some (0, x2), some (0, x3), some (0, x4)] [] M := by
  intro n
  induction n with
  | zero => intro M x0 x1 x2 x3 x4 h; cases h
  | succ n ih =>
    intro M x0 x1 x2 x3 x4 h
    unfold pX12_laysStiffs_7 at h
    refine zG.blk (pc' := 11) (l' := [some (2, x0), some (0, x1), some (0, x2), some (0, x3), some (0, x4)]) (st' := [(0, 16), (0, x4)]) (M' := M) hX [(.iload 4, 0, 0, 0), (.bipush 16, 0, 0, 0)] (by decide +kernel) rfl trivial ?_
    refine zG.icmp_ge (tgt := 77) (off := 66) hX (by decide +kernel) (by decide) (fun c4 => ?_) (fun c4 => ?_)
    · have h := zip c4 h
      cases h
      exact zG.vret hX (by decide +kernel)
    · have h := zin c4 h
      obtain ⟨g5, h⟩ := zif h
      obtain ⟨g6, h⟩ := zif h
      refine zG.blk (pc' := 26) (l' := [some (2, x0), some (0, x1), some (0, x2), some (0, x3), some (0, x4)]) (st' := []) (M' := (upM M (M x0 3) x1 (w32 (3 * (w32 (Int.tdiv x4 4)))))) hX [(.aload_n 0, 0, 0, 0), (.getfield 16, 12, 3, 2), (.iload_n 1, 0, 0, 0), (.iconst 3, 0, 0, 0), (.iload 4, 0, 0, 0), (.iconst 4, 0, 0, 0), (.idiv, 0, 0, 0), (.imul, 0, 0, 0), (.iastore, 0, 0, 0)] (by decide +kernel) rfl (And.intro g5 (And.intro (by decide) (And.intro g6 trivial))) ?_
      generalize upM M (M x0 3) x1 (w32 (3 * (w32 (Int.tdiv x4 4)))) = M7 at h ⊢
      have h := zlt h
      obtain ⟨g8, h⟩ := zif h
      refine zG.blk (pc' := 38) (l' := [some (2, x0), some (0, x1), some (0, x2), some (0, x3), some (0, x4)]) (st' := []) (M' := (upM M7 (M7 x0 3) x2 (w32 (3 * (Int.tmod x4 4))))) hX [(.aload_n 0, 0, 0, 0), (.getfield 16, 12, 3, 2), (.iload_n 2, 0, 0, 0), (.iconst 3, 0, 0, 0), (.iload 4, 0, 0, 0), (.iconst 4, 0, 0, 0), (.irem, 0, 0, 0), (.imul, 0, 0, 0), (.iastore, 0, 0, 0)] (by decide +kernel) rfl (And.intro g5 (And.intro (by decide) (And.intro g8 trivial))) ?_
      generalize upM M7 (M7 x0 3) x2 (w32 (3 * (Int.tmod x4 4))) = M9 at h ⊢
      have h := zlt h
      refine zG.blk (pc' := 40) (l' := [some (2, x0), some (0, x1), some (0, x2), some (0, x3), some (0, x4)]) (st' := [(0, x3), (2, x0)]) (M' := M9) hX [(.aload_n 0, 0, 0, 0), (.iload_n 3, 0, 0, 0)] (by decide +kernel) rfl trivial ?_
      obtain ⟨q10, e11, h⟩ := zbd h
      refine zG.callV (b := x0) (av := [(0, x3)]) (st := []) (ci := 12) hX (pX12_goFor_ok e11) sv_12_413 rfl ⟨by decide, rfl⟩ g5 (by decide +kernel) (by rw [hRm]; exact ⟨Nat.le_of_ble_eq_true rfl, Nat.le_of_ble_eq_true rfl⟩) (by rw [hRm]; exact ⟨Nat.le_of_ble_eq_true rfl, Nat.le_of_ble_eq_true rfl⟩) (Nat.le_of_ble_eq_true rfl) ?_
      show zG C E 5 S 0 0 _ 43 [some (2, x0), some (0, x1), some (0, x2), some (0, x3), some (0, x4)] [] q10
      exact (pX12_laysStiffs_43_ok hX hRm ih h)
noncomputable def pX12_laysStiffs (S : ZS) (M : ZM) (a0 : Int) (a1 : Int) (a2 : Int) (a3 : Int) : Option ZM := if S.1 a0 = 12 then (pX12_keepsAll S M a0).bind fun q1 => pX12_laysStiffs_7 S zFU q1 a0 a1 a2 a3 0 else none
set_option maxHeartbeats 2000000 in
set_option maxRecDepth 20000 in
theorem pX12_laysStiffs_go {C : ZC} {E : ZE} {S : ZS} {M : ZM} {a0 a1 a2 a3 : Int} {q : ZM} (hX : zCx C E 12 cX12_laysStiffs 5 none false) (hRm : czR C = { frames := 8, cells := 0, slots := 0, locals := 198 }) (h : pX12_laysStiffs  S M a0 a1 a2 a3 = some q) : zG C E 5 S 0 0 (zQ C E 0 0 none S q) 0 [some (2, a0), some (0, a1), some (0, a2), some (0, a3), none] [] M := by
  unfold pX12_laysStiffs at h
  refine zG.blk (pc' := 1) (l' := [some (2, a0), some (0, a1), some (0, a2), some (0, a3), none]) (st' := [(2, a0)]) (M' := M) hX [(.aload_n 0, 0, 0, 0)] (by decide +kernel) rfl trivial ?_
  obtain ⟨g3, h⟩ := zif h
  obtain ⟨q1, e2, h⟩ := zbd h
  refine zG.callV (b := a0) (av := []) (st := []) (ci := 12) hX (pX12_keepsAll_ok e2) sv_12_426 rfl ⟨by decide, rfl⟩ g3 (by decide +kernel) (by rw [hRm]; exact ⟨Nat.le_of_ble_eq_true rfl, Nat.le_of_ble_eq_true rfl⟩) (by rw [hRm]; exact ⟨Nat.le_of_ble_eq_true rfl, Nat.le_of_ble_eq_true rfl⟩) (Nat.le_of_ble_eq_true rfl) ?_
  show zG C E 5 S 0 0 _ 4 [some (2, a0), some (0, a1), some (0, a2), some (0, a3), none] [] q1
  refine zG.blk (pc' := 7) (l' := [some (2, a0), some (0, a1), some (0, a2), some (0, a3), some (0, 0)]) (st' := []) (M' := q1) hX [(.iconst 0, 0, 0, 0), (.istore 4, 0, 0, 0)] (by decide +kernel) rfl trivial ?_
  exact (pX12_laysStiffs_7_ok hX hRm zFU _ _ _ _ _ _ h)
theorem pX12_laysStiffs_ok {l : Launch} {E : ZE} {S : ZS} {M : ZM} {a0 a1 a2 a3 : Int} {q : ZM} (h : pX12_laysStiffs S M a0 a1 a2 a3 = some q) : zMet l yX12_laysStiffs cX12_laysStiffs 5 none 8 198 0 0 E S M [(2, a0), (0, a1), (0, a2), (0, a3)] (none) S q :=
  zMet.of (o := 12) (ini := false) (by decide +kernel) rfl (fun h => by cases h) (Nat.le_of_ble_eq_true rfl) (fun C hX hl hRm => by subst hl; exact pX12_laysStiffs_go hX hRm h)
noncomputable def pX12_leaves_89 (S : ZS) (M : ZM) (x0 : Int) (x5 : Int) : Option (Int × ZM) := if S.1 x0 = 12 then (pX12_laysBack S M x0).bind fun q7 => if x5 = 0 ∨ x5 = 1 then some (x5, q7) else none else none
set_option maxHeartbeats 2000000 in
set_option maxRecDepth 20000 in
theorem pX12_leaves_89_ok {C : ZC} {E : ZE} {S : ZS} {q : (Int × ZM)} (hX : zCx C E 12 cX12_leaves 7 (some .boolean) false) (hRm : czR C = { frames := 7, cells := 0, slots := 0, locals := 176 }) {M : ZM} {x0 : Int} {x5 : Int} (h : pX12_leaves_89 S M x0 x5 = some q) : zG C E 7 S 0 0 (zQ C E 0 0 (some (0, q.1)) S q.2) 89 [some (2, x0), none, none, none, none, some (0, x5), none] [] M := by
  unfold pX12_leaves_89 at h
  refine zG.blk (pc' := 90) (l' := [some (2, x0), none, none, none, none, some (0, x5), none]) (st' := [(2, x0)]) (M' := M) hX [(.aload_n 0, 0, 0, 0)] (by decide +kernel) rfl trivial ?_
  obtain ⟨g9, h⟩ := zif h
  obtain ⟨q7, e8, h⟩ := zbd h
  refine zG.callV (b := x0) (av := []) (st := []) (ci := 12) hX (pX12_laysBack_ok e8) sv_12_419 rfl ⟨by decide, rfl⟩ g9 (by decide +kernel) (by rw [hRm]; exact ⟨Nat.le_of_ble_eq_true rfl, Nat.le_of_ble_eq_true rfl⟩) (by rw [hRm]; exact ⟨Nat.le_of_ble_eq_true rfl, Nat.le_of_ble_eq_true rfl⟩) (Nat.le_of_ble_eq_true rfl) ?_
  show zG C E 7 S 0 0 _ 93 [some (2, x0), none, none, none, none, some (0, x5), none] [] q7
  refine zG.blk (pc' := 95) (l' := [some (2, x0), none, none, none, none, some (0, x5), none]) (st' := [(0, x5)]) (M' := q7) hX [(.iload 5, 0, 0, 0)] (by decide +kernel) rfl trivial ?_
  obtain ⟨g10, h⟩ := zif h
  cases h
  exact zG.zret hX (by decide +kernel) g10
noncomputable def pX12_leaves_81 (S : ZS) (k39 : ZM → Int → Int → Int → Int → Int → Int → Int → Option (Int × ZM)) (M : ZM) (x0 : Int) (x1 : Int) (x2 : Int) (x3 : Int) (x4 : Int) (x6 : Int) (y0 : Int) : Option (Int × ZM) := k39 M x0 x1 x2 x3 x4 y0 (w32 (x6 + 1))
set_option maxHeartbeats 2000000 in
set_option maxRecDepth 20000 in
theorem pX12_leaves_81_ok {C : ZC} {E : ZE} {S : ZS} {k39 : ZM → Int → Int → Int → Int → Int → Int → Int → Option (Int × ZM)} {q : (Int × ZM)} (hX : zCx C E 12 cX12_leaves 7 (some .boolean) false) (hRm : czR C = { frames := 7, cells := 0, slots := 0, locals := 176 }) (hk39 : ∀ M x0 x1 x2 x3 x4 x5 x6, k39 M x0 x1 x2 x3 x4 x5 x6 = some q → zG C E 7 S 0 0 (zQ C E 0 0 (some (0, q.1)) S q.2) 39 [some (2, x0), some (0, x1), some (0, x2), some (0, x3), some (0, x4), some (0, x5), some (0, x6)] [] M) {M : ZM} {x0 : Int} {x1 : Int} {x2 : Int} {x3 : Int} {x4 : Int} {x6 : Int} {y0 : Int} (h : pX12_leaves_81 S k39 M x0 x1 x2 x3 x4 x6 y0 = some q) : zG C E 7 S 0 0 (zQ C E 0 0 (some (0, q.1)) S q.2) 81 [some (2, x0), some (0, x1), some (0, x2), some (0, x3), some (0, x4), none, some (0, x6)] [(0, y0)] M := by
  unfold pX12_leaves_81 at h
  refine zG.blk (pc' := 86) (l' := [some (2, x0), some (0, x1), some (0, x2), some (0, x3), some (0, x4), some (0, y0), some (0, w32 (x6 + 1))]) (st' := []) (M' := M) hX [(.istore 5, 0, 0, 0), (.iinc 6 1, 0, 0, 0)] (by decide +kernel) rfl trivial ?_
  refine zG.goto (tgt := 39) (off := (-47)) hX (by decide +kernel) (by decide) ?_
  exact (hk39 _ _ _ _ _ _ _ _ h)
noncomputable def pX12_leaves_80 (S : ZS) (k39 : ZM → Int → Int → Int → Int → Int → Int → Int → Option (Int × ZM)) (M : ZM) (x0 : Int) (x1 : Int) (x2 : Int) (x3 : Int) (x4 : Int) (x6 : Int) : Option (Int × ZM) := pX12_leaves_81 S k39 M x0 x1 x2 x3 x4 x6 0
set_option maxHeartbeats 2000000 in
set_option maxRecDepth 20000 in
theorem pX12_leaves_80_ok {C : ZC} {E : ZE} {S : ZS} {k39 : ZM → Int → Int → Int → Int → Int → Int → Int → Option (Int × ZM)} {q : (Int × ZM)} (hX : zCx C E 12 cX12_leaves 7 (some .boolean) false) (hRm : czR C = { frames := 7, cells := 0, slots := 0, locals := 176 }) (hk39 : ∀ M x0 x1 x2 x3 x4 x5 x6, k39 M x0 x1 x2 x3 x4 x5 x6 = some q → zG C E 7 S 0 0 (zQ C E 0 0 (some (0, q.1)) S q.2) 39 [some (2, x0), some (0, x1), some (0, x2), some (0, x3), some (0, x4), some (0, x5), some (0, x6)] [] M) {M : ZM} {x0 : Int} {x1 : Int} {x2 : Int} {x3 : Int} {x4 : Int} {x6 : Int} (h : pX12_leaves_80 S k39 M x0 x1 x2 x3 x4 x6 = some q) : zG C E 7 S 0 0 (zQ C E 0 0 (some (0, q.1)) S q.2) 80 [some (2, x0), some (0, x1), some (0, x2), some (0, x3), some (0, x4), none, some (0, x6)] [] M := by
  unfold pX12_leaves_80 at h
  refine zG.blk (pc' := 81) (l' := [some (2, x0), some (0, x1), some (0, x2), some (0, x3), some (0, x4), none, some (0, x6)]) (st' := [(0, 0)]) (M' := M) hX [(.iconst 0, 0, 0, 0)] (by decide +kernel) rfl trivial ?_
  exact (pX12_leaves_81_ok hX hRm hk39 h)
noncomputable def pX12_leaves_39 (S : ZS) : Nat → ZM → Int → Int → Int → Int → Int → Int → Int → Option (Int × ZM)
  | 0 => fun _ _ _ _ _ _ _ _ => none
  | n + 1 => fun M x0 x1 x2 x3 x4 x5 x6 => if x3 ≤ x6 then (pX12_leaves_89 S M x0 x5) else (if x5 = 0 then (if S.1 x0 = 12 then (pX12_goes S M x0).bind fun q12 => if S.1 (q12.2 x0 4) = 100 ∧ (0 : Int) ≤ x2 ∧ x2 < S.2.1 (q12.2 x0 4) then if q12.2 (q12.2 x0 4) x2 = x1 then (if S.1 (q12.2 x0 5) = 100 ∧ (0 : Int) ≤ x2 ∧ x2 < S.2.1 (q12.2 x0 5) then if q12.2 (q12.2 x0 5) x2 < x4 then (pX12_leaves_80 S (pX12_leaves_39 S n) q12.2 x0 x1 x2 x3 x4 x6) else (pX12_leaves_81 S (pX12_leaves_39 S n) q12.2 x0 x1 x2 x3 x4 x6 1) else none) else (pX12_leaves_80 S (pX12_leaves_39 S n) q12.2 x0 x1 x2 x3 x4 x6) else none else none) else (pX12_leaves_89 S M x0 x5))
set_option maxHeartbeats 2000000 in
set_option maxRecDepth 20000 in
theorem pX12_leaves_39_ok {C : ZC} {E : ZE} {S : ZS} {q : (Int × ZM)} (hX : zCx C E 12 cX12_leaves 7 (some .boolean) false) (hRm : czR C = { frames := 7, cells := 0, slots := 0, locals := 176 }) : ∀ (n : Nat) (M : ZM) (x0 : Int) (x1 : Int) (x2 : Int) (x3 : Int) (x4 : Int) (x5 : Int) (x6 : Int), pX12_leaves_39 S n M x0 x1 x2 x3 x4 x5 x6 = some q → zG C E 7 S 0 0 (zQ C E 0 0 (some (0, q.1)) S q.2) 39 [some (2, x0), some (0, x1), some (0, x2), some (0, x3), some (0, x4), some (0, x5), some (0, x6)] [] M := by
  intro n
  induction n with
  | zero => intro M x0 x1 x2 x3 x4 x5 x6 h; cases h
  | succ n ih =>
    intro M x0 x1 x2 x3 x4 x5 x6 h
    unfold pX12_leaves_39 at h
    refine zG.blk (pc' := 42) (l' := [some (2, x0), some (0, x1), some (0, x2), some (0, x3), some (0, x4), some (0, x5), some (0, x6)]) (st' := [(0, x3), (0, x6)]) (M' := M) hX [(.iload 6, 0, 0, 0), (.iload_n 3, 0, 0, 0)] (by decide +kernel) rfl trivial ?_
    refine zG.icmp_ge (tgt := 89) (off := 47) hX (by decide +kernel) (by decide) (fun c6 => ?_) (fun c6 => ?_)
    · have h := zip c6 h
      exact zG.wk [true, false, false, false, false, true, false] (pX12_leaves_89_ok hX hRm h)
    · have h := zin c6 h
      refine zG.blk (pc' := 47) (l' := [some (2, x0), some (0, x1), some (0, x2), some (0, x3), some (0, x4), some (0, x5), some (0, x6)]) (st' := [(0, x5)]) (M' := M) hX [(.iload 5, 0, 0, 0)] (by decide +kernel) rfl trivial ?_
      refine zG.if_ne (tgt := 89) (off := 42) hX (by decide +kernel) (by decide) (fun c11 => ?_) (fun c11 => ?_)
      · have h := zin c11 h
        exact zG.wk [true, false, false, false, false, true, false] (pX12_leaves_89_ok hX hRm h)
      · have h := zip c11 h
        refine zG.blk (pc' := 51) (l' := [some (2, x0), some (0, x1), some (0, x2), some (0, x3), some (0, x4), some (0, x5), some (0, x6)]) (st' := [(2, x0)]) (M' := M) hX [(.aload_n 0, 0, 0, 0)] (by decide +kernel) rfl trivial ?_
        obtain ⟨g14, h⟩ := zif h
        obtain ⟨q12, e13, h⟩ := zbd h
        refine zG.callV (b := x0) (av := []) (st := []) (ci := 12) hX (pX12_goes_ok e13) sv_12_381 rfl ⟨by decide, rfl⟩ g14 (by decide +kernel) (by rw [hRm]; exact ⟨Nat.le_of_ble_eq_true rfl, Nat.le_of_ble_eq_true rfl⟩) (by rw [hRm]; exact ⟨Nat.le_of_ble_eq_true rfl, Nat.le_of_ble_eq_true rfl⟩) (Nat.le_of_ble_eq_true rfl) ?_
        show zG C E 7 S 0 0 _ 54 [some (2, x0), some (0, x1), some (0, x2), some (0, x3), some (0, x4), some (0, x5), some (0, x6)] [(0, q12.1)] q12.2
        obtain ⟨g15, h⟩ := zif h
        refine zG.blk (pc' := 62) (l' := [some (2, x0), some (0, x1), some (0, x2), some (0, x3), some (0, x4), some (0, x5), some (0, x6)]) (st' := [(0, x1), (0, q12.2 (q12.2 x0 4) x2)]) (M' := q12.2) hX [(.pop, 0, 0, 0), (.aload_n 0, 0, 0, 0), (.getfield 19, 12, 4, 2), (.iload_n 2, 0, 0, 0), (.iaload, 0, 0, 0), (.iload_n 1, 0, 0, 0)] (by decide +kernel) rfl (And.intro g14 (And.intro g15 trivial)) ?_
        refine zG.icmp_ne (tgt := 80) (off := 18) hX (by decide +kernel) (by decide) (fun c16 => ?_) (fun c16 => ?_)
        · have h := zin c16 h
          exact zG.wk [true, true, true, true, true, false, true] (pX12_leaves_80_ok hX hRm ih h)
        · have h := zip c16 h
          obtain ⟨g17, h⟩ := zif h
          refine zG.blk (pc' := 73) (l' := [some (2, x0), some (0, x1), some (0, x2), some (0, x3), some (0, x4), some (0, x5), some (0, x6)]) (st' := [(0, x4), (0, q12.2 (q12.2 x0 5) x2)]) (M' := q12.2) hX [(.aload_n 0, 0, 0, 0), (.getfield 22, 12, 5, 2), (.iload_n 2, 0, 0, 0), (.iaload, 0, 0, 0), (.iload 4, 0, 0, 0)] (by decide +kernel) rfl (And.intro g14 (And.intro g17 trivial)) ?_
          refine zG.icmp_lt (tgt := 80) (off := 7) hX (by decide +kernel) (by decide) (fun c18 => ?_) (fun c18 => ?_)
          · have h := zip c18 h
            exact zG.wk [true, true, true, true, true, false, true] (pX12_leaves_80_ok hX hRm ih h)
          · have h := zin c18 h
            refine zG.blk (pc' := 77) (l' := [some (2, x0), some (0, x1), some (0, x2), some (0, x3), some (0, x4), some (0, x5), some (0, x6)]) (st' := [(0, 1)]) (M' := q12.2) hX [(.iconst 1, 0, 0, 0)] (by decide +kernel) rfl trivial ?_
            refine zG.goto (tgt := 81) (off := 4) hX (by decide +kernel) (by decide) ?_
            exact zG.wk [true, true, true, true, true, false, true] (pX12_leaves_81_ok hX hRm ih h)
noncomputable def pX12_leaves (S : ZS) (M : ZM) (a0 : Int) (a1 : Int) (a2 : Int) (a3 : Int) : Option (Int × ZM) := if S.1 a0 = 12 then if S.1 (M a0 1) = 100 ∧ (0 : Int) ≤ 4 ∧ 4 < S.2.1 (M a0 1) then if S.1 (M a0 1) = 100 ∧ (0 : Int) ≤ 5 ∧ 5 < S.2.1 (M a0 1) then if S.1 (M a0 1) = 100 ∧ (0 : Int) ≤ 2 ∧ 2 < S.2.1 (M a0 1) then zlet (upM M (M a0 1) 5 (zor (M (M a0 1) 5) (zand (w32 ((zshl 1 (M (M a0 1) 2)) - 1)) (zxor (zshl 1 a1) (-1))))) fun M5 => pX12_leaves_39 S zFU M5 a0 a1 a2 a3 (M (M a0 1) 4) 0 0 else none else none else none else none
set_option maxHeartbeats 2000000 in
set_option maxRecDepth 20000 in
theorem pX12_leaves_go {C : ZC} {E : ZE} {S : ZS} {M : ZM} {a0 a1 a2 a3 : Int} {q : (Int × ZM)} (hX : zCx C E 12 cX12_leaves 7 (some .boolean) false) (hRm : czR C = { frames := 7, cells := 0, slots := 0, locals := 176 }) (h : pX12_leaves  S M a0 a1 a2 a3 = some q) : zG C E 7 S 0 0 (zQ C E 0 0 (some (0, q.1)) S q.2) 0 [some (2, a0), some (0, a1), some (0, a2), some (0, a3), none, none, none] [] M := by
  unfold pX12_leaves at h
  obtain ⟨g1, h⟩ := zif h
  obtain ⟨g2, h⟩ := zif h
  obtain ⟨g3, h⟩ := zif h
  obtain ⟨g4, h⟩ := zif h
  refine zG.blk (pc' := 36) (l' := [some (2, a0), some (0, a1), some (0, a2), some (0, a3), some (0, M (M a0 1) 4), some (0, 0), none]) (st' := []) (M' := (upM M (M a0 1) 5 (zor (M (M a0 1) 5) (zand (w32 ((zshl 1 (M (M a0 1) 2)) - 1)) (zxor (zshl 1 a1) (-1)))))) hX [(.aload_n 0, 0, 0, 0), (.getfield 9, 12, 1, 2), (.iconst 4, 0, 0, 0), (.iaload, 0, 0, 0), (.istore 4, 0, 0, 0), (.iconst 0, 0, 0, 0), (.istore 5, 0, 0, 0), (.aload_n 0, 0, 0, 0), (.getfield 9, 12, 1, 2), (.iconst 5, 0, 0, 0), (.dup2, 0, 0, 0), (.iaload, 0, 0, 0), (.iconst 1, 0, 0, 0), (.aload_n 0, 0, 0, 0), (.getfield 9, 12, 1, 2), (.iconst 2, 0, 0, 0), (.iaload, 0, 0, 0), (.ishl, 0, 0, 0), (.iconst 1, 0, 0, 0), (.isub, 0, 0, 0), (.iconst 1, 0, 0, 0), (.iload_n 1, 0, 0, 0), (.ishl, 0, 0, 0), (.iconst (-1), 0, 0, 0), (.ixor, 0, 0, 0), (.iand, 0, 0, 0), (.ior, 0, 0, 0), (.iastore, 0, 0, 0)] (by decide +kernel) rfl (And.intro g1 (And.intro g2 (And.intro g1 (And.intro g3 (And.intro g1 (And.intro g4 (And.intro g3 trivial))))))) ?_
  generalize upM M (M a0 1) 5 (zor (M (M a0 1) 5) (zand (w32 ((zshl 1 (M (M a0 1) 2)) - 1)) (zxor (zshl 1 a1) (-1)))) = M5 at h ⊢
  have h := zlt h
  refine zG.blk (pc' := 39) (l' := [some (2, a0), some (0, a1), some (0, a2), some (0, a3), some (0, M (M a0 1) 4), some (0, 0), some (0, 0)]) (st' := []) (M' := M5) hX [(.iconst 0, 0, 0, 0), (.istore 6, 0, 0, 0)] (by decide +kernel) rfl trivial ?_
  exact (pX12_leaves_39_ok hX hRm zFU _ _ _ _ _ _ _ _ h)
theorem pX12_leaves_ok {l : Launch} {E : ZE} {S : ZS} {M : ZM} {a0 a1 a2 a3 : Int} {q : (Int × ZM)} (h : pX12_leaves S M a0 a1 a2 a3 = some q) : zMet l yX12_leaves cX12_leaves 7 (some .boolean) 7 176 0 0 E S M [(2, a0), (0, a1), (0, a2), (0, a3)] (some (0, q.1)) S q.2 :=
  zMet.of (o := 12) (ini := false) (by decide +kernel) rfl (fun h => by cases h) (Nat.le_of_ble_eq_true rfl) (fun C hX hl hRm => by subst hl; exact pX12_leaves_go hX hRm h)
noncomputable def pX12_mostAlike_17 (S : ZS) (k5 : ZM → Int → Int → Int → Int → Int → Option (Int × ZM)) : Nat → ZM → Int → Int → Int → Int → Int → Int → Int → Option (Int × ZM)
  | 0 => fun _ _ _ _ _ _ _ _ => none
  | n + 1 => fun M x0 x1 x2 x3 x4 x5 x6 => if x2 ≤ x6 then (k5 M x0 x1 x2 (if x5 ≤ x3 then (x3 : Int) else x5) (w32 (x4 + 1))) else (if S.1 x0 = 12 then if S.1 (M x0 48) = 100 ∧ (0 : Int) ≤ w32 ((w32 (36 * x6)) + x1) ∧ w32 ((w32 (36 * x6)) + x1) < S.2.1 (M x0 48) then if S.1 (M x0 48) = 100 ∧ (0 : Int) ≤ w32 ((w32 (36 * x4)) + x1) ∧ w32 ((w32 (36 * x4)) + x1) < S.2.1 (M x0 48) then zlet (w32 (x5 + (if M (M x0 48) (w32 ((w32 (36 * x6)) + x1)) = M (M x0 48) (w32 ((w32 (36 * x4)) + x1)) then (1 : Int) else 0))) fun x9 => pX12_mostAlike_17 S k5 n M x0 x1 x2 x3 x4 x9 (w32 (x6 + 1)) else none else none else none)
set_option maxHeartbeats 2000000 in
set_option maxRecDepth 20000 in
theorem pX12_mostAlike_17_ok {C : ZC} {E : ZE} {S : ZS} {k5 : ZM → Int → Int → Int → Int → Int → Option (Int × ZM)} {q : (Int × ZM)} (hX : zCx C E 12 cX12_mostAlike 7 (some .int) false) (hRm : czR C = { frames := 1, cells := 0, slots := 0, locals := 40 }) (hk5 : ∀ M x0 x1 x2 x3 x4, k5 M x0 x1 x2 x3 x4 = some q → zG C E 7 S 0 0 (zQ C E 0 0 (some (0, q.1)) S q.2) 5 [some (2, x0), some (0, x1), some (0, x2), some (0, x3), some (0, x4), none, none] [] M) : ∀ (n : Nat) (M : ZM) (x0 : Int) (x1 : Int) (x2 : Int) (x3 : Int) (x4 : Int) (x5 : Int) (x6 : Int), pX12_mostAlike_17 S k5 n M x0 x1 x2 x3 x4 x5 x6 = some q → zG C E 7 S 0 0 (zQ C E 0 0 (some (0, q.1)) S q.2) 17 [some (2, x0), some (0, x1), some (0, x2), some (0, x3), some (0, x4), some (0, x5), some (0, x6)] [] M := by
  intro n
  induction n with
  | zero => intro M x0 x1 x2 x3 x4 x5 x6 h; cases h
  | succ n ih =>
    intro M x0 x1 x2 x3 x4 x5 x6 h
    unfold pX12_mostAlike_17 at h
    refine zG.blk (pc' := 20) (l' := [some (2, x0), some (0, x1), some (0, x2), some (0, x3), some (0, x4), some (0, x5), some (0, x6)]) (st' := [(0, x2), (0, x6)]) (M' := M) hX [(.iload 6, 0, 0, 0), (.iload_n 2, 0, 0, 0)] (by decide +kernel) rfl trivial ?_
    refine zG.icmp_ge (tgt := 66) (off := 46) hX (by decide +kernel) (by decide) (fun c2 => ?_) (fun c2 => ?_)
    · have h := zip c2 h
      refine zG.blk (pc' := 69) (l' := [some (2, x0), some (0, x1), some (0, x2), some (0, x3), some (0, x4), some (0, x5), some (0, x6)]) (st' := [(0, x3), (0, x5)]) (M' := M) hX [(.iload 5, 0, 0, 0), (.iload_n 3, 0, 0, 0)] (by decide +kernel) rfl trivial ?_
      have key3 : zG C E 7 S 0 0 (zQ C E 0 0 (some (0, q.1)) S q.2) 78 [some (2, x0), some (0, x1), some (0, x2), some (0, x3), some (0, x4), some (0, x5), some (0, x6)] [(0, (if x5 ≤ x3 then (x3 : Int) else x5))] M := by
        refine zG.blk (pc' := 82) (l' := [some (2, x0), some (0, x1), some (0, x2), some (0, (if x5 ≤ x3 then (x3 : Int) else x5)), some (0, w32 (x4 + 1)), some (0, x5), some (0, x6)]) (st' := []) (M' := M) hX [(.istore_n 3, 0, 0, 0), (.iinc 4 1, 0, 0, 0)] (by decide +kernel) rfl trivial ?_
        refine zG.goto (tgt := 5) (off := (-77)) hX (by decide +kernel) (by decide) ?_
        exact zG.wk [true, true, true, true, true, false, false] (hk5 _ _ _ _ _ _ h)
      refine zG.icmp_le (tgt := 77) (off := 8) hX (by decide +kernel) (by decide) (fun c4 => ?_) (fun c4 => ?_)
      · refine zG.blk (pc' := 78) (l' := [some (2, x0), some (0, x1), some (0, x2), some (0, x3), some (0, x4), some (0, x5), some (0, x6)]) (st' := [(0, x3)]) (M' := M) hX [(.iload_n 3, 0, 0, 0)] (by decide +kernel) rfl trivial ?_
        (have k := key3; simp only [if_pos c4] at k; exact k)
      · refine zG.blk (pc' := 74) (l' := [some (2, x0), some (0, x1), some (0, x2), some (0, x3), some (0, x4), some (0, x5), some (0, x6)]) (st' := [(0, x5)]) (M' := M) hX [(.iload 5, 0, 0, 0)] (by decide +kernel) rfl trivial ?_
        refine zG.goto (tgt := 78) (off := 4) hX (by decide +kernel) (by decide) ?_
        (have k := key3; simp only [if_neg c4] at k; exact k)
    · have h := zin c2 h
      obtain ⟨g5, h⟩ := zif h
      obtain ⟨g6, h⟩ := zif h
      obtain ⟨g7, h⟩ := zif h
      refine zG.blk (pc' := 49) (l' := [some (2, x0), some (0, x1), some (0, x2), some (0, x3), some (0, x4), some (0, x5), some (0, x6)]) (st' := [(0, M (M x0 48) (w32 ((w32 (36 * x4)) + x1))), (0, M (M x0 48) (w32 ((w32 (36 * x6)) + x1))), (0, x5)]) (M' := M) hX [(.iload 5, 0, 0, 0), (.aload_n 0, 0, 0, 0), (.getfield 118, 12, 48, 2), (.bipush 36, 0, 0, 0), (.iload 6, 0, 0, 0), (.imul, 0, 0, 0), (.iload_n 1, 0, 0, 0), (.iadd, 0, 0, 0), (.iaload, 0, 0, 0), (.aload_n 0, 0, 0, 0), (.getfield 118, 12, 48, 2), (.bipush 36, 0, 0, 0), (.iload 4, 0, 0, 0), (.imul, 0, 0, 0), (.iload_n 1, 0, 0, 0), (.iadd, 0, 0, 0), (.iaload, 0, 0, 0)] (by decide +kernel) rfl (And.intro g5 (And.intro g6 (And.intro g5 (And.intro g7 trivial)))) ?_
      have key8 : zG C E 7 S 0 0 (zQ C E 0 0 (some (0, q.1)) S q.2) 57 [some (2, x0), some (0, x1), some (0, x2), some (0, x3), some (0, x4), some (0, x5), some (0, x6)] [(0, (if M (M x0 48) (w32 ((w32 (36 * x6)) + x1)) = M (M x0 48) (w32 ((w32 (36 * x4)) + x1)) then (1 : Int) else 0)), (0, x5)] M := by
        refine zG.blk (pc' := 60) (l' := [some (2, x0), some (0, x1), some (0, x2), some (0, x3), some (0, x4), some (0, w32 (x5 + (if M (M x0 48) (w32 ((w32 (36 * x6)) + x1)) = M (M x0 48) (w32 ((w32 (36 * x4)) + x1)) then (1 : Int) else 0))), some (0, x6)]) (st' := []) (M' := M) hX [(.iadd, 0, 0, 0), (.istore 5, 0, 0, 0)] (by decide +kernel) rfl trivial ?_
        generalize w32 (x5 + (if M (M x0 48) (w32 ((w32 (36 * x6)) + x1)) = M (M x0 48) (w32 ((w32 (36 * x4)) + x1)) then (1 : Int) else 0)) = x9 at h ⊢
        have h := zlt h
        refine zG.blk (pc' := 63) (l' := [some (2, x0), some (0, x1), some (0, x2), some (0, x3), some (0, x4), some (0, x9), some (0, w32 (x6 + 1))]) (st' := []) (M' := M) hX [(.iinc 6 1, 0, 0, 0)] (by decide +kernel) rfl trivial ?_
        refine zG.goto (tgt := 17) (off := (-46)) hX (by decide +kernel) (by decide) ?_
        exact ih _ _ _ _ _ _ _ _ h
      refine zG.icmp_ne (tgt := 56) (off := 7) hX (by decide +kernel) (by decide) (fun c10 => ?_) (fun c10 => ?_)
      · refine zG.blk (pc' := 57) (l' := [some (2, x0), some (0, x1), some (0, x2), some (0, x3), some (0, x4), some (0, x5), some (0, x6)]) (st' := [(0, 0), (0, x5)]) (M' := M) hX [(.iconst 0, 0, 0, 0)] (by decide +kernel) rfl trivial ?_
        (have k := key8; simp only [if_neg c10] at k; exact k)
      · refine zG.blk (pc' := 53) (l' := [some (2, x0), some (0, x1), some (0, x2), some (0, x3), some (0, x4), some (0, x5), some (0, x6)]) (st' := [(0, 1), (0, x5)]) (M' := M) hX [(.iconst 1, 0, 0, 0)] (by decide +kernel) rfl trivial ?_
        refine zG.goto (tgt := 57) (off := 4) hX (by decide +kernel) (by decide) ?_
        (have k := key8; simp only [if_pos c10] at k; exact k)
noncomputable def pX12_mostAlike_5 (S : ZS) : Nat → ZM → Int → Int → Int → Int → Int → Option (Int × ZM)
  | 0 => fun _ _ _ _ _ _ => none
  | n + 1 => fun M x0 x1 x2 x3 x4 => if x2 ≤ x4 then (some (x3, M)) else (pX12_mostAlike_17 S (pX12_mostAlike_5 S n) zFU M x0 x1 x2 x3 x4 0 0)
set_option maxHeartbeats 2000000 in
set_option maxRecDepth 20000 in
theorem pX12_mostAlike_5_ok {C : ZC} {E : ZE} {S : ZS} {q : (Int × ZM)} (hX : zCx C E 12 cX12_mostAlike 7 (some .int) false) (hRm : czR C = { frames := 1, cells := 0, slots := 0, locals := 40 }) : ∀ (n : Nat) (M : ZM) (x0 : Int) (x1 : Int) (x2 : Int) (x3 : Int) (x4 : Int), pX12_mostAlike_5 S n M x0 x1 x2 x3 x4 = some q → zG C E 7 S 0 0 (zQ C E 0 0 (some (0, q.1)) S q.2) 5 [some (2, x0), some (0, x1), some (0, x2), some (0, x3), some (0, x4), none, none] [] M := by
  intro n
  induction n with
  | zero => intro M x0 x1 x2 x3 x4 h; cases h
  | succ n ih =>
    intro M x0 x1 x2 x3 x4 h
    unfold pX12_mostAlike_5 at h
    refine zG.blk (pc' := 8) (l' := [some (2, x0), some (0, x1), some (0, x2), some (0, x3), some (0, x4), none, none]) (st' := [(0, x2), (0, x4)]) (M' := M) hX [(.iload 4, 0, 0, 0), (.iload_n 2, 0, 0, 0)] (by decide +kernel) rfl trivial ?_
    refine zG.icmp_ge (tgt := 85) (off := 77) hX (by decide +kernel) (by decide) (fun c1 => ?_) (fun c1 => ?_)
    · have h := zip c1 h
      refine zG.blk (pc' := 86) (l' := [some (2, x0), some (0, x1), some (0, x2), some (0, x3), some (0, x4), none, none]) (st' := [(0, x3)]) (M' := M) hX [(.iload_n 3, 0, 0, 0)] (by decide +kernel) rfl trivial ?_
      cases h
      exact zG.iret hX (by decide +kernel)
    · have h := zin c1 h
      refine zG.blk (pc' := 17) (l' := [some (2, x0), some (0, x1), some (0, x2), some (0, x3), some (0, x4), some (0, 0), some (0, 0)]) (st' := []) (M' := M) hX [(.iconst 0, 0, 0, 0), (.istore 5, 0, 0, 0), (.iconst 0, 0, 0, 0), (.istore 6, 0, 0, 0)] (by decide +kernel) rfl trivial ?_
      exact (pX12_mostAlike_17_ok hX hRm ih zFU _ _ _ _ _ _ _ _ h)
noncomputable def pX12_mostAlike (S : ZS) (M : ZM) (a0 : Int) (a1 : Int) (a2 : Int) : Option (Int × ZM) := pX12_mostAlike_5 S zFU M a0 a1 a2 0 0
set_option maxHeartbeats 2000000 in
set_option maxRecDepth 20000 in
theorem pX12_mostAlike_go {C : ZC} {E : ZE} {S : ZS} {M : ZM} {a0 a1 a2 : Int} {q : (Int × ZM)} (hX : zCx C E 12 cX12_mostAlike 7 (some .int) false) (hRm : czR C = { frames := 1, cells := 0, slots := 0, locals := 40 }) (h : pX12_mostAlike  S M a0 a1 a2 = some q) : zG C E 7 S 0 0 (zQ C E 0 0 (some (0, q.1)) S q.2) 0 [some (2, a0), some (0, a1), some (0, a2), none, none, none, none] [] M := by
  unfold pX12_mostAlike at h
  refine zG.blk (pc' := 5) (l' := [some (2, a0), some (0, a1), some (0, a2), some (0, 0), some (0, 0), none, none]) (st' := []) (M' := M) hX [(.iconst 0, 0, 0, 0), (.istore_n 3, 0, 0, 0), (.iconst 0, 0, 0, 0), (.istore 4, 0, 0, 0)] (by decide +kernel) rfl trivial ?_
  exact (pX12_mostAlike_5_ok hX hRm zFU _ _ _ _ _ _ h)
theorem pX12_mostAlike_ok {l : Launch} {E : ZE} {S : ZS} {M : ZM} {a0 a1 a2 : Int} {q : (Int × ZM)} (h : pX12_mostAlike S M a0 a1 a2 = some q) : zMet l yX12_mostAlike cX12_mostAlike 7 (some .int) 1 40 0 0 E S M [(2, a0), (0, a1), (0, a2)] (some (0, q.1)) S q.2 :=
  zMet.of (o := 12) (ini := false) (by decide +kernel) rfl (fun h => by cases h) (Nat.le_of_ble_eq_true rfl) (fun C hX hl hRm => by subst hl; exact pX12_mostAlike_go hX hRm h)
theorem sv_12_477 : zSV 12 477 yX12_mostAlike cX12_mostAlike 7 (some .int) 2 := ⟨⟨gt_at 1705 (by decide +kernel) rfl, gt_at 1707 (by decide +kernel) rfl, gt_at 101 (by decide +kernel) rfl, gt_at 117 (by decide +kernel) rfl, gt_at 1708 (by decide +kernel) rfl⟩, by decide +kernel, by decide +kernel, by decide +kernel⟩
noncomputable def pX12_parting_4 (S : ZS) : Nat → ZM → Int → Int → Int → Int → Option (Int × ZM)
  | 0 => fun _ _ _ _ _ => none
  | n + 1 => fun M x0 x1 x2 x3 => if S.1 x0 = 12 then (pX12_cells S M x0).bind fun q1 => if q1.1 ≤ x3 then (some (x2, q1.2)) else ((pX12_mostAlike S q1.2 x0 x3 x1).bind fun q5 => (pX12_mostAlike S q5.2 x0 x2 x1).bind fun q7 => pX12_parting_4 S n q7.2 x0 x1 (if q7.1 ≤ q5.1 then (x2 : Int) else x3) (w32 (x3 + 1))) else none
set_option maxHeartbeats 2000000 in
set_option maxRecDepth 20000 in
theorem pX12_parting_4_ok {C : ZC} {E : ZE} {S : ZS} {q : (Int × ZM)} (hX : zCx C E 12 cX12_parting 4 (some .int) false) (hRm : czR C = { frames := 2, cells := 0, slots := 0, locals := 66 }) : ∀ (n : Nat) (M : ZM) (x0 : Int) (x1 : Int) (x2 : Int) (x3 : Int), pX12_parting_4 S n M x0 x1 x2 x3 = some q → zG C E 4 S 0 0 (zQ C E 0 0 (some (0, q.1)) S q.2) 4 [some (2, x0), some (0, x1), some (0, x2), some (0, x3)] [] M := by
  intro n
  induction n with
  | zero => intro M x0 x1 x2 x3 h; cases h
  | succ n ih =>
    intro M x0 x1 x2 x3 h
    unfold pX12_parting_4 at h
    refine zG.blk (pc' := 6) (l' := [some (2, x0), some (0, x1), some (0, x2), some (0, x3)]) (st' := [(2, x0), (0, x3)]) (M' := M) hX [(.iload_n 3, 0, 0, 0), (.aload_n 0, 0, 0, 0)] (by decide +kernel) rfl trivial ?_
    obtain ⟨g3, h⟩ := zif h
    obtain ⟨q1, e2, h⟩ := zbd h
    refine zG.callV (b := x0) (av := []) (st := [(0, x3)]) (ci := 12) hX (pX12_cells_ok e2) sv_12_134 rfl ⟨by decide, rfl⟩ g3 (by decide +kernel) (by rw [hRm]; exact ⟨Nat.le_of_ble_eq_true rfl, Nat.le_of_ble_eq_true rfl⟩) (by rw [hRm]; exact ⟨Nat.le_of_ble_eq_true rfl, Nat.le_of_ble_eq_true rfl⟩) (Nat.le_of_ble_eq_true rfl) ?_
    show zG C E 4 S 0 0 _ 9 [some (2, x0), some (0, x1), some (0, x2), some (0, x3)] [(0, q1.1), (0, x3)] q1.2
    refine zG.icmp_ge (tgt := 39) (off := 30) hX (by decide +kernel) (by decide) (fun c4 => ?_) (fun c4 => ?_)
    · have h := zip c4 h
      refine zG.blk (pc' := 40) (l' := [some (2, x0), some (0, x1), some (0, x2), some (0, x3)]) (st' := [(0, x2)]) (M' := q1.2) hX [(.iload_n 2, 0, 0, 0)] (by decide +kernel) rfl trivial ?_
      cases h
      exact zG.iret hX (by decide +kernel)
    · have h := zin c4 h
      refine zG.blk (pc' := 15) (l' := [some (2, x0), some (0, x1), some (0, x2), some (0, x3)]) (st' := [(0, x1), (0, x3), (2, x0)]) (M' := q1.2) hX [(.aload_n 0, 0, 0, 0), (.iload_n 3, 0, 0, 0), (.iload_n 1, 0, 0, 0)] (by decide +kernel) rfl trivial ?_
      obtain ⟨q5, e6, h⟩ := zbd h
      refine zG.callV (b := x0) (av := [(0, x3), (0, x1)]) (st := []) (ci := 12) hX (pX12_mostAlike_ok e6) sv_12_477 rfl ⟨by decide, rfl⟩ g3 (by decide +kernel) (by rw [hRm]; exact ⟨Nat.le_of_ble_eq_true rfl, Nat.le_of_ble_eq_true rfl⟩) (by rw [hRm]; exact ⟨Nat.le_of_ble_eq_true rfl, Nat.le_of_ble_eq_true rfl⟩) (Nat.le_of_ble_eq_true rfl) ?_
      show zG C E 4 S 0 0 _ 18 [some (2, x0), some (0, x1), some (0, x2), some (0, x3)] [(0, q5.1)] q5.2
      refine zG.blk (pc' := 21) (l' := [some (2, x0), some (0, x1), some (0, x2), some (0, x3)]) (st' := [(0, x1), (0, x2), (2, x0), (0, q5.1)]) (M' := q5.2) hX [(.aload_n 0, 0, 0, 0), (.iload_n 2, 0, 0, 0), (.iload_n 1, 0, 0, 0)] (by decide +kernel) rfl trivial ?_
      obtain ⟨q7, e8, h⟩ := zbd h
      refine zG.callV (b := x0) (av := [(0, x2), (0, x1)]) (st := [(0, q5.1)]) (ci := 12) hX (pX12_mostAlike_ok e8) sv_12_477 rfl ⟨by decide, rfl⟩ g3 (by decide +kernel) (by rw [hRm]; exact ⟨Nat.le_of_ble_eq_true rfl, Nat.le_of_ble_eq_true rfl⟩) (by rw [hRm]; exact ⟨Nat.le_of_ble_eq_true rfl, Nat.le_of_ble_eq_true rfl⟩) (Nat.le_of_ble_eq_true rfl) ?_
      show zG C E 4 S 0 0 _ 24 [some (2, x0), some (0, x1), some (0, x2), some (0, x3)] [(0, q7.1), (0, q5.1)] q7.2
      have key9 : zG C E 4 S 0 0 (zQ C E 0 0 (some (0, q.1)) S q.2) 32 [some (2, x0), some (0, x1), some (0, x2), some (0, x3)] [(0, (if q7.1 ≤ q5.1 then (x2 : Int) else x3))] q7.2 := by
        refine zG.blk (pc' := 36) (l' := [some (2, x0), some (0, x1), some (0, (if q7.1 ≤ q5.1 then (x2 : Int) else x3)), some (0, w32 (x3 + 1))]) (st' := []) (M' := q7.2) hX [(.istore_n 2, 0, 0, 0), (.iinc 3 1, 0, 0, 0)] (by decide +kernel) rfl trivial ?_
        refine zG.goto (tgt := 4) (off := (-32)) hX (by decide +kernel) (by decide) ?_
        exact ih _ _ _ _ _ h
      refine zG.icmp_ge (tgt := 31) (off := 7) hX (by decide +kernel) (by decide) (fun c10 => ?_) (fun c10 => ?_)
      · refine zG.blk (pc' := 32) (l' := [some (2, x0), some (0, x1), some (0, x2), some (0, x3)]) (st' := [(0, x2)]) (M' := q7.2) hX [(.iload_n 2, 0, 0, 0)] (by decide +kernel) rfl trivial ?_
        (have k := key9; simp only [if_pos c10] at k; exact k)
      · refine zG.blk (pc' := 28) (l' := [some (2, x0), some (0, x1), some (0, x2), some (0, x3)]) (st' := [(0, x3)]) (M' := q7.2) hX [(.iload_n 3, 0, 0, 0)] (by decide +kernel) rfl trivial ?_
        refine zG.goto (tgt := 32) (off := 4) hX (by decide +kernel) (by decide) ?_
        (have k := key9; simp only [if_neg c10] at k; exact k)
noncomputable def pX12_parting (S : ZS) (M : ZM) (a0 : Int) (a1 : Int) : Option (Int × ZM) := pX12_parting_4 S zFU M a0 a1 0 1
set_option maxHeartbeats 2000000 in
set_option maxRecDepth 20000 in
theorem pX12_parting_go {C : ZC} {E : ZE} {S : ZS} {M : ZM} {a0 a1 : Int} {q : (Int × ZM)} (hX : zCx C E 12 cX12_parting 4 (some .int) false) (hRm : czR C = { frames := 2, cells := 0, slots := 0, locals := 66 }) (h : pX12_parting  S M a0 a1 = some q) : zG C E 4 S 0 0 (zQ C E 0 0 (some (0, q.1)) S q.2) 0 [some (2, a0), some (0, a1), none, none] [] M := by
  unfold pX12_parting at h
  refine zG.blk (pc' := 4) (l' := [some (2, a0), some (0, a1), some (0, 0), some (0, 1)]) (st' := []) (M' := M) hX [(.iconst 0, 0, 0, 0), (.istore_n 2, 0, 0, 0), (.iconst 1, 0, 0, 0), (.istore_n 3, 0, 0, 0)] (by decide +kernel) rfl trivial ?_
  exact (pX12_parting_4_ok hX hRm zFU _ _ _ _ _ h)
theorem pX12_parting_ok {l : Launch} {E : ZE} {S : ZS} {M : ZM} {a0 a1 : Int} {q : (Int × ZM)} (h : pX12_parting S M a0 a1 = some q) : zMet l yX12_parting cX12_parting 4 (some .int) 2 66 0 0 E S M [(2, a0), (0, a1)] (some (0, q.1)) S q.2 :=
  zMet.of (o := 12) (ini := false) (by decide +kernel) rfl (fun h => by cases h) (Nat.le_of_ble_eq_true rfl) (fun C hX hl hRm => by subst hl; exact pX12_parting_go hX hRm h)
noncomputable def pX12_look_29 (S : ZS) (M : ZM) : Option (Int × ZM) := some ((-1), M)
set_option maxHeartbeats 2000000 in
set_option maxRecDepth 20000 in
theorem pX12_look_29_ok {C : ZC} {E : ZE} {S : ZS} {q : (Int × ZM)} (hX : zCx C E 12 cX12_look 6 (some .int) false) (hRm : czR C = { frames := 8, cells := 0, slots := 0, locals := 199 }) {M : ZM} (h : pX12_look_29 S M = some q) : zG C E 6 S 0 0 (zQ C E 0 0 (some (0, q.1)) S q.2) 29 [none, none, none, none, none, none] [] M := by
  unfold pX12_look_29 at h
  refine zG.blk (pc' := 30) (l' := [none, none, none, none, none, none]) (st' := [(0, (-1))]) (M' := M) hX [(.iconst (-1), 0, 0, 0)] (by decide +kernel) rfl trivial ?_
  cases h
  exact zG.iret hX (by decide +kernel)
theorem sv_12_480 : zSV 12 480 yX12_parting cX12_parting 4 (some .int) 1 := ⟨⟨gt_at 1701 (by decide +kernel) rfl, gt_at 1703 (by decide +kernel) rfl, gt_at 100 (by decide +kernel) rfl, gt_at 117 (by decide +kernel) rfl, gt_at 1704 (by decide +kernel) rfl⟩, by decide +kernel, by decide +kernel, by decide +kernel⟩
noncomputable def pX12_look_137 (S : ZS) (M : ZM) (y0 : Int) : Option (Int × ZM) := some (y0, M)
set_option maxHeartbeats 2000000 in
set_option maxRecDepth 20000 in
theorem pX12_look_137_ok {C : ZC} {E : ZE} {S : ZS} {q : (Int × ZM)} (hX : zCx C E 12 cX12_look 6 (some .int) false) (hRm : czR C = { frames := 8, cells := 0, slots := 0, locals := 199 }) {M : ZM} {y0 : Int} (h : pX12_look_137 S M y0 = some q) : zG C E 6 S 0 0 (zQ C E 0 0 (some (0, q.1)) S q.2) 137 [none, none, none, none, none, none] [(0, y0)] M := by
  unfold pX12_look_137 at h
  cases h
  exact zG.iret hX (by decide +kernel)
theorem sv_12_483 : zSV 12 483 yX12_couldRule cX12_couldRule 4 (some .boolean) 1 := ⟨⟨gt_at 1717 (by decide +kernel) rfl, gt_at 1719 (by decide +kernel) rfl, gt_at 102 (by decide +kernel) rfl, gt_at 117 (by decide +kernel) rfl, gt_at 1720 (by decide +kernel) rfl⟩, by decide +kernel, by decide +kernel, by decide +kernel⟩
noncomputable def pX12_look_101 (S : ZS) (k40 : ZM → Int → Int → Int → Int → Int → Option (Int × ZM)) (M : ZM) (x0 : Int) (x1 : Int) (x2 : Int) (x3 : Int) (x4 : Int) : Option (Int × ZM) := k40 M x0 x1 x2 x3 (w32 (x4 + 1))
set_option maxHeartbeats 2000000 in
set_option maxRecDepth 20000 in
theorem pX12_look_101_ok {C : ZC} {E : ZE} {S : ZS} {k40 : ZM → Int → Int → Int → Int → Int → Option (Int × ZM)} {q : (Int × ZM)} (hX : zCx C E 12 cX12_look 6 (some .int) false) (hRm : czR C = { frames := 8, cells := 0, slots := 0, locals := 199 }) (hk40 : ∀ M x0 x1 x2 x3 x4, k40 M x0 x1 x2 x3 x4 = some q → zG C E 6 S 0 0 (zQ C E 0 0 (some (0, q.1)) S q.2) 40 [some (2, x0), some (0, x1), some (0, x2), some (0, x3), some (0, x4), none] [] M) {M : ZM} {x0 : Int} {x1 : Int} {x2 : Int} {x3 : Int} {x4 : Int} (h : pX12_look_101 S k40 M x0 x1 x2 x3 x4 = some q) : zG C E 6 S 0 0 (zQ C E 0 0 (some (0, q.1)) S q.2) 101 [some (2, x0), some (0, x1), some (0, x2), some (0, x3), some (0, x4), none] [] M := by
  unfold pX12_look_101 at h
  refine zG.blk (pc' := 104) (l' := [some (2, x0), some (0, x1), some (0, x2), some (0, x3), some (0, w32 (x4 + 1)), none]) (st' := []) (M' := M) hX [(.iinc 4 1, 0, 0, 0)] (by decide +kernel) rfl trivial ?_
  refine zG.goto (tgt := 40) (off := (-64)) hX (by decide +kernel) (by decide) ?_
  exact (hk40 _ _ _ _ _ _ h)
noncomputable def pX12_look_61 (S : ZS) (k40 : ZM → Int → Int → Int → Int → Int → Option (Int × ZM)) : Nat → ZM → Int → Int → Int → Int → Int → Int → Option (Int × ZM)
  | 0 => fun _ _ _ _ _ _ _ => none
  | n + 1 => fun M x0 x1 x2 x3 x4 x5 => if 36 ≤ x5 then (pX12_look_101 S k40 M x0 x1 x2 (w32 (x3 + 1)) x4) else (if S.1 x0 = 12 then if S.1 (M x0 49) = 100 ∧ (0 : Int) ≤ w32 ((w32 (36 * x1)) + x5) ∧ w32 ((w32 (36 * x1)) + x5) < S.2.1 (M x0 49) then if S.1 (M x0 48) = 100 ∧ (0 : Int) ≤ w32 ((w32 (36 * x3)) + x5) ∧ w32 ((w32 (36 * x3)) + x5) < S.2.1 (M x0 48) then zlet (upM M (M x0 48) (w32 ((w32 (36 * x3)) + x5)) (M (M x0 49) (w32 ((w32 (36 * x1)) + x5)))) fun M28 => pX12_look_61 S k40 n M28 x0 x1 x2 x3 x4 (w32 (x5 + 1)) else none else none else none)
set_option maxHeartbeats 2000000 in
set_option maxRecDepth 20000 in
theorem pX12_look_61_ok {C : ZC} {E : ZE} {S : ZS} {k40 : ZM → Int → Int → Int → Int → Int → Option (Int × ZM)} {q : (Int × ZM)} (hX : zCx C E 12 cX12_look 6 (some .int) false) (hRm : czR C = { frames := 8, cells := 0, slots := 0, locals := 199 }) (hk40 : ∀ M x0 x1 x2 x3 x4, k40 M x0 x1 x2 x3 x4 = some q → zG C E 6 S 0 0 (zQ C E 0 0 (some (0, q.1)) S q.2) 40 [some (2, x0), some (0, x1), some (0, x2), some (0, x3), some (0, x4), none] [] M) : ∀ (n : Nat) (M : ZM) (x0 : Int) (x1 : Int) (x2 : Int) (x3 : Int) (x4 : Int) (x5 : Int), pX12_look_61 S k40 n M x0 x1 x2 x3 x4 x5 = some q → zG C E 6 S 0 0 (zQ C E 0 0 (some (0, q.1)) S q.2) 61 [some (2, x0), some (0, x1), some (0, x2), some (0, x3), some (0, x4), some (0, x5)] [] M := by
  intro n
  induction n with
  | zero => intro M x0 x1 x2 x3 x4 x5 h; cases h
  | succ n ih =>
    intro M x0 x1 x2 x3 x4 x5 h
    unfold pX12_look_61 at h
    refine zG.blk (pc' := 65) (l' := [some (2, x0), some (0, x1), some (0, x2), some (0, x3), some (0, x4), some (0, x5)]) (st' := [(0, 36), (0, x5)]) (M' := M) hX [(.iload 5, 0, 0, 0), (.bipush 36, 0, 0, 0)] (by decide +kernel) rfl trivial ?_
    refine zG.icmp_ge (tgt := 98) (off := 33) hX (by decide +kernel) (by decide) (fun c24 => ?_) (fun c24 => ?_)
    · have h := zip c24 h
      refine zG.blk (pc' := 101) (l' := [some (2, x0), some (0, x1), some (0, x2), some (0, w32 (x3 + 1)), some (0, x4), some (0, x5)]) (st' := []) (M' := M) hX [(.iinc 3 1, 0, 0, 0)] (by decide +kernel) rfl trivial ?_
      exact zG.wk [true, true, true, true, true, false] (pX12_look_101_ok hX hRm hk40 h)
    · have h := zin c24 h
      obtain ⟨g25, h⟩ := zif h
      obtain ⟨g26, h⟩ := zif h
      obtain ⟨g27, h⟩ := zif h
      refine zG.blk (pc' := 92) (l' := [some (2, x0), some (0, x1), some (0, x2), some (0, x3), some (0, x4), some (0, x5)]) (st' := []) (M' := (upM M (M x0 48) (w32 ((w32 (36 * x3)) + x5)) (M (M x0 49) (w32 ((w32 (36 * x1)) + x5))))) hX [(.aload_n 0, 0, 0, 0), (.getfield 118, 12, 48, 2), (.bipush 36, 0, 0, 0), (.iload_n 3, 0, 0, 0), (.imul, 0, 0, 0), (.iload 5, 0, 0, 0), (.iadd, 0, 0, 0), (.aload_n 0, 0, 0, 0), (.getfield 121, 12, 49, 2), (.bipush 36, 0, 0, 0), (.iload_n 1, 0, 0, 0), (.imul, 0, 0, 0), (.iload 5, 0, 0, 0), (.iadd, 0, 0, 0), (.iaload, 0, 0, 0), (.iastore, 0, 0, 0)] (by decide +kernel) rfl (And.intro g25 (And.intro g25 (And.intro g26 (And.intro g27 trivial)))) ?_
      generalize upM M (M x0 48) (w32 ((w32 (36 * x3)) + x5)) (M (M x0 49) (w32 ((w32 (36 * x1)) + x5))) = M28 at h ⊢
      have h := zlt h
      refine zG.blk (pc' := 95) (l' := [some (2, x0), some (0, x1), some (0, x2), some (0, x3), some (0, x4), some (0, w32 (x5 + 1))]) (st' := []) (M' := M28) hX [(.iinc 5 1, 0, 0, 0)] (by decide +kernel) rfl trivial ?_
      refine zG.goto (tgt := 61) (off := (-34)) hX (by decide +kernel) (by decide) ?_
      exact ih _ _ _ _ _ _ _ h
noncomputable def pX12_look_40 (S : ZS) : Nat → ZM → Int → Int → Int → Int → Int → Option (Int × ZM)
  | 0 => fun _ _ _ _ _ _ => none
  | n + 1 => fun M x0 x1 x2 x3 x4 => if S.1 x0 = 12 then if M x0 24 ≤ x4 then (if x3 = 0 then (some ((-2), M)) else ((pX12_parting S M x0 x3).bind fun q16 => if x2 = 0 then (pX12_look_137 S q16.2 q16.1) else ((pX12_mostAlike S q16.2 x0 q16.1 x3).bind fun q19 => pX12_look_137 S q19.2 q19.1))) else ((pX12_couldRule S M x0 x4).bind fun q21 => if q21.1 = 0 then (pX12_look_101 S (pX12_look_40 S n) q21.2 x0 x1 x2 x3 x4) else (pX12_look_61 S (pX12_look_40 S n) zFU q21.2 x0 x1 x2 x3 x4 0)) else none
set_option maxHeartbeats 2000000 in
set_option maxRecDepth 20000 in
theorem pX12_look_40_ok {C : ZC} {E : ZE} {S : ZS} {q : (Int × ZM)} (hX : zCx C E 12 cX12_look 6 (some .int) false) (hRm : czR C = { frames := 8, cells := 0, slots := 0, locals := 199 }) : ∀ (n : Nat) (M : ZM) (x0 : Int) (x1 : Int) (x2 : Int) (x3 : Int) (x4 : Int), pX12_look_40 S n M x0 x1 x2 x3 x4 = some q → zG C E 6 S 0 0 (zQ C E 0 0 (some (0, q.1)) S q.2) 40 [some (2, x0), some (0, x1), some (0, x2), some (0, x3), some (0, x4), none] [] M := by
  intro n
  induction n with
  | zero => intro M x0 x1 x2 x3 x4 h; cases h
  | succ n ih =>
    intro M x0 x1 x2 x3 x4 h
    unfold pX12_look_40 at h
    obtain ⟨g13, h⟩ := zif h
    refine zG.blk (pc' := 46) (l' := [some (2, x0), some (0, x1), some (0, x2), some (0, x3), some (0, x4), none]) (st' := [(0, M x0 24), (0, x4)]) (M' := M) hX [(.iload 4, 0, 0, 0), (.aload_n 0, 0, 0, 0), (.getfield 318, 12, 24, 0)] (by decide +kernel) rfl (And.intro g13 trivial) ?_
    refine zG.icmp_ge (tgt := 107) (off := 61) hX (by decide +kernel) (by decide) (fun c14 => ?_) (fun c14 => ?_)
    · have h := zip c14 h
      refine zG.blk (pc' := 108) (l' := [some (2, x0), some (0, x1), some (0, x2), some (0, x3), some (0, x4), none]) (st' := [(0, x3)]) (M' := M) hX [(.iload_n 3, 0, 0, 0)] (by decide +kernel) rfl trivial ?_
      refine zG.if_ne (tgt := 114) (off := 6) hX (by decide +kernel) (by decide) (fun c15 => ?_) (fun c15 => ?_)
      · have h := zin c15 h
        refine zG.blk (pc' := 116) (l' := [some (2, x0), some (0, x1), some (0, x2), some (0, x3), some (0, x4), none]) (st' := [(0, x3), (2, x0)]) (M' := M) hX [(.aload_n 0, 0, 0, 0), (.iload_n 3, 0, 0, 0)] (by decide +kernel) rfl trivial ?_
        obtain ⟨q16, e17, h⟩ := zbd h
        refine zG.callV (b := x0) (av := [(0, x3)]) (st := []) (ci := 12) hX (pX12_parting_ok e17) sv_12_480 rfl ⟨by decide, rfl⟩ g13 (by decide +kernel) (by rw [hRm]; exact ⟨Nat.le_of_ble_eq_true rfl, Nat.le_of_ble_eq_true rfl⟩) (by rw [hRm]; exact ⟨Nat.le_of_ble_eq_true rfl, Nat.le_of_ble_eq_true rfl⟩) (Nat.le_of_ble_eq_true rfl) ?_
        show zG C E 6 S 0 0 _ 119 [some (2, x0), some (0, x1), some (0, x2), some (0, x3), some (0, x4), none] [(0, q16.1)] q16.2
        refine zG.blk (pc' := 122) (l' := [some (2, x0), some (0, x1), some (0, x2), some (0, x3), some (0, q16.1), none]) (st' := [(0, x2)]) (M' := q16.2) hX [(.istore 4, 0, 0, 0), (.iload_n 2, 0, 0, 0)] (by decide +kernel) rfl trivial ?_
        refine zG.if_ne (tgt := 130) (off := 8) hX (by decide +kernel) (by decide) (fun c18 => ?_) (fun c18 => ?_)
        · have h := zin c18 h
          refine zG.blk (pc' := 134) (l' := [some (2, x0), some (0, x1), some (0, x2), some (0, x3), some (0, q16.1), none]) (st' := [(0, x3), (0, q16.1), (2, x0)]) (M' := q16.2) hX [(.aload_n 0, 0, 0, 0), (.iload 4, 0, 0, 0), (.iload_n 3, 0, 0, 0)] (by decide +kernel) rfl trivial ?_
          obtain ⟨q19, e20, h⟩ := zbd h
          refine zG.callV (b := x0) (av := [(0, q16.1), (0, x3)]) (st := []) (ci := 12) hX (pX12_mostAlike_ok e20) sv_12_477 rfl ⟨by decide, rfl⟩ g13 (by decide +kernel) (by rw [hRm]; exact ⟨Nat.le_of_ble_eq_true rfl, Nat.le_of_ble_eq_true rfl⟩) (by rw [hRm]; exact ⟨Nat.le_of_ble_eq_true rfl, Nat.le_of_ble_eq_true rfl⟩) (Nat.le_of_ble_eq_true rfl) ?_
          show zG C E 6 S 0 0 _ 137 [some (2, x0), some (0, x1), some (0, x2), some (0, x3), some (0, q16.1), none] [(0, q19.1)] q19.2
          exact zG.wk [false, false, false, false, false, true] (pX12_look_137_ok hX hRm h)
        · have h := zip c18 h
          refine zG.blk (pc' := 127) (l' := [some (2, x0), some (0, x1), some (0, x2), some (0, x3), some (0, q16.1), none]) (st' := [(0, q16.1)]) (M' := q16.2) hX [(.iload 4, 0, 0, 0)] (by decide +kernel) rfl trivial ?_
          refine zG.goto (tgt := 137) (off := 10) hX (by decide +kernel) (by decide) ?_
          exact zG.wk [false, false, false, false, false, true] (pX12_look_137_ok hX hRm h)
      · have h := zip c15 h
        refine zG.blk (pc' := 113) (l' := [some (2, x0), some (0, x1), some (0, x2), some (0, x3), some (0, x4), none]) (st' := [(0, (-2))]) (M' := M) hX [(.bipush (-2), 0, 0, 0)] (by decide +kernel) rfl trivial ?_
        cases h
        exact zG.iret hX (by decide +kernel)
    · have h := zin c14 h
      refine zG.blk (pc' := 52) (l' := [some (2, x0), some (0, x1), some (0, x2), some (0, x3), some (0, x4), none]) (st' := [(0, x4), (2, x0)]) (M' := M) hX [(.aload_n 0, 0, 0, 0), (.iload 4, 0, 0, 0)] (by decide +kernel) rfl trivial ?_
      obtain ⟨q21, e22, h⟩ := zbd h
      refine zG.callV (b := x0) (av := [(0, x4)]) (st := []) (ci := 12) hX (pX12_couldRule_ok e22) sv_12_483 rfl ⟨by decide, rfl⟩ g13 (by decide +kernel) (by rw [hRm]; exact ⟨Nat.le_of_ble_eq_true rfl, Nat.le_of_ble_eq_true rfl⟩) (by rw [hRm]; exact ⟨Nat.le_of_ble_eq_true rfl, Nat.le_of_ble_eq_true rfl⟩) (Nat.le_of_ble_eq_true rfl) ?_
      show zG C E 6 S 0 0 _ 55 [some (2, x0), some (0, x1), some (0, x2), some (0, x3), some (0, x4), none] [(0, q21.1)] q21.2
      refine zG.if_eq (tgt := 101) (off := 46) hX (by decide +kernel) (by decide) (fun c23 => ?_) (fun c23 => ?_)
      · have h := zip c23 h
        exact (pX12_look_101_ok hX hRm ih h)
      · have h := zin c23 h
        refine zG.blk (pc' := 61) (l' := [some (2, x0), some (0, x1), some (0, x2), some (0, x3), some (0, x4), some (0, 0)]) (st' := []) (M' := q21.2) hX [(.iconst 0, 0, 0, 0), (.istore 5, 0, 0, 0)] (by decide +kernel) rfl trivial ?_
        exact (pX12_look_61_ok hX hRm ih zFU _ _ _ _ _ _ _ h)
noncomputable def pX12_look (S : ZS) (M : ZM) (a0 : Int) (a1 : Int) (a2 : Int) : Option (Int × ZM) := if S.1 a0 = 12 then (pX12_isSky S M a0).bind fun q1 => if q1.1 = 0 then (pX12_look_29 S q1.2) else ((pX12_in S q1.2 a1 0 60).bind fun q5 => if q5.1 = 0 then (pX12_look_29 S q5.2) else ((pX12_in S q5.2 a2 0 1).bind fun q8 => if q8.1 = 0 then (pX12_look_29 S q8.2) else ((pX12_keepsAll S q8.2 a0).bind fun q11 => pX12_look_40 S zFU q11 a0 a1 a2 0 (-1)))) else none
set_option maxHeartbeats 2000000 in
set_option maxRecDepth 20000 in
theorem pX12_look_go {C : ZC} {E : ZE} {S : ZS} {M : ZM} {a0 a1 a2 : Int} {q : (Int × ZM)} (hX : zCx C E 12 cX12_look 6 (some .int) false) (hRm : czR C = { frames := 8, cells := 0, slots := 0, locals := 199 }) (h : pX12_look  S M a0 a1 a2 = some q) : zG C E 6 S 0 0 (zQ C E 0 0 (some (0, q.1)) S q.2) 0 [some (2, a0), some (0, a1), some (0, a2), none, none, none] [] M := by
  unfold pX12_look at h
  refine zG.blk (pc' := 1) (l' := [some (2, a0), some (0, a1), some (0, a2), none, none, none]) (st' := [(2, a0)]) (M' := M) hX [(.aload_n 0, 0, 0, 0)] (by decide +kernel) rfl trivial ?_
  obtain ⟨g3, h⟩ := zif h
  obtain ⟨q1, e2, h⟩ := zbd h
  refine zG.callV (b := a0) (av := []) (st := []) (ci := 12) hX (pX12_isSky_ok e2) sv_12_402 rfl ⟨by decide, rfl⟩ g3 (by decide +kernel) (by rw [hRm]; exact ⟨Nat.le_of_ble_eq_true rfl, Nat.le_of_ble_eq_true rfl⟩) (by rw [hRm]; exact ⟨Nat.le_of_ble_eq_true rfl, Nat.le_of_ble_eq_true rfl⟩) (Nat.le_of_ble_eq_true rfl) ?_
  show zG C E 6 S 0 0 _ 4 [some (2, a0), some (0, a1), some (0, a2), none, none, none] [(0, q1.1)] q1.2
  refine zG.if_eq (tgt := 29) (off := 25) hX (by decide +kernel) (by decide) (fun c4 => ?_) (fun c4 => ?_)
  · have h := zip c4 h
    exact zG.wk [false, false, false, true, true, true] (pX12_look_29_ok hX hRm h)
  · have h := zin c4 h
    refine zG.blk (pc' := 13) (l' := [some (2, a0), some (0, a1), some (0, a2), none, none, none]) (st' := [(1, 60), (1, 0), (1, a1)]) (M' := q1.2) hX [(.iload_n 1, 0, 0, 0), (.i2l, 0, 0, 0), (.lconst 0, 0, 0, 0), (.ldc2_w 440, 60, 0, 0)] (by decide +kernel) rfl trivial ?_
    obtain ⟨q5, e6, h⟩ := zbd h
    refine zG.callS (av := [(1, a1), (1, 0), (1, 60)]) (st := []) hX (pX12_in_ok e6) ss_12_138 rfl (by decide +kernel) (by rw [hRm]; exact ⟨Nat.le_of_ble_eq_true rfl, Nat.le_of_ble_eq_true rfl⟩) (by rw [hRm]; exact ⟨Nat.le_of_ble_eq_true rfl, Nat.le_of_ble_eq_true rfl⟩) (Nat.le_of_ble_eq_true rfl) ?_
    show zG C E 6 S 0 0 _ 16 [some (2, a0), some (0, a1), some (0, a2), none, none, none] [(0, q5.1)] q5.2
    refine zG.if_eq (tgt := 29) (off := 13) hX (by decide +kernel) (by decide) (fun c7 => ?_) (fun c7 => ?_)
    · have h := zip c7 h
      exact zG.wk [false, false, false, true, true, true] (pX12_look_29_ok hX hRm h)
    · have h := zin c7 h
      refine zG.blk (pc' := 23) (l' := [some (2, a0), some (0, a1), some (0, a2), none, none, none]) (st' := [(1, 1), (1, 0), (1, a2)]) (M' := q5.2) hX [(.iload_n 2, 0, 0, 0), (.i2l, 0, 0, 0), (.lconst 0, 0, 0, 0), (.lconst 1, 1, 0, 0)] (by decide +kernel) rfl trivial ?_
      obtain ⟨q8, e9, h⟩ := zbd h
      refine zG.callS (av := [(1, a2), (1, 0), (1, 1)]) (st := []) hX (pX12_in_ok e9) ss_12_138 rfl (by decide +kernel) (by rw [hRm]; exact ⟨Nat.le_of_ble_eq_true rfl, Nat.le_of_ble_eq_true rfl⟩) (by rw [hRm]; exact ⟨Nat.le_of_ble_eq_true rfl, Nat.le_of_ble_eq_true rfl⟩) (Nat.le_of_ble_eq_true rfl) ?_
      show zG C E 6 S 0 0 _ 26 [some (2, a0), some (0, a1), some (0, a2), none, none, none] [(0, q8.1)] q8.2
      refine zG.if_ne (tgt := 31) (off := 5) hX (by decide +kernel) (by decide) (fun c10 => ?_) (fun c10 => ?_)
      · have h := zin c10 h
        refine zG.blk (pc' := 32) (l' := [some (2, a0), some (0, a1), some (0, a2), none, none, none]) (st' := [(2, a0)]) (M' := q8.2) hX [(.aload_n 0, 0, 0, 0)] (by decide +kernel) rfl trivial ?_
        obtain ⟨q11, e12, h⟩ := zbd h
        refine zG.callV (b := a0) (av := []) (st := []) (ci := 12) hX (pX12_keepsAll_ok e12) sv_12_426 rfl ⟨by decide, rfl⟩ g3 (by decide +kernel) (by rw [hRm]; exact ⟨Nat.le_of_ble_eq_true rfl, Nat.le_of_ble_eq_true rfl⟩) (by rw [hRm]; exact ⟨Nat.le_of_ble_eq_true rfl, Nat.le_of_ble_eq_true rfl⟩) (Nat.le_of_ble_eq_true rfl) ?_
        show zG C E 6 S 0 0 _ 35 [some (2, a0), some (0, a1), some (0, a2), none, none, none] [] q11
        refine zG.blk (pc' := 40) (l' := [some (2, a0), some (0, a1), some (0, a2), some (0, 0), some (0, (-1)), none]) (st' := []) (M' := q11) hX [(.iconst 0, 0, 0, 0), (.istore_n 3, 0, 0, 0), (.iconst (-1), 0, 0, 0), (.istore 4, 0, 0, 0)] (by decide +kernel) rfl trivial ?_
        exact (pX12_look_40_ok hX hRm zFU _ _ _ _ _ _ h)
      · have h := zip c10 h
        exact zG.wk [false, false, false, true, true, true] (pX12_look_29_ok hX hRm h)
theorem pX12_look_ok {l : Launch} {E : ZE} {S : ZS} {M : ZM} {a0 a1 a2 : Int} {q : (Int × ZM)} (h : pX12_look S M a0 a1 a2 = some q) : zMet l yX12_look cX12_look 6 (some .int) 8 199 0 0 E S M [(2, a0), (0, a1), (0, a2)] (some (0, q.1)) S q.2 :=
  zMet.of (o := 12) (ini := false) (by decide +kernel) rfl (fun h => by cases h) (Nat.le_of_ble_eq_true rfl) (fun C hX hl hRm => by subst hl; exact pX12_look_go hX hRm h)
noncomputable def pX12_note_64 (S : ZS) (M : ZM) : Option (Int × ZM) := some ((-2), M)
set_option maxHeartbeats 2000000 in
set_option maxRecDepth 20000 in
theorem pX12_note_64_ok {C : ZC} {E : ZE} {S : ZS} {q : (Int × ZM)} (hX : zCx C E 12 cX12_note 5 (some .int) false) (hRm : czR C = { frames := 3, cells := 0, slots := 0, locals := 86 }) {M : ZM} (h : pX12_note_64 S M = some q) : zG C E 5 S 0 0 (zQ C E 0 0 (some (0, q.1)) S q.2) 64 [none, none, none, none, none] [] M := by
  unfold pX12_note_64 at h
  refine zG.blk (pc' := 66) (l' := [none, none, none, none, none]) (st' := [(0, (-2))]) (M' := M) hX [(.bipush (-2), 0, 0, 0)] (by decide +kernel) rfl trivial ?_
  cases h
  exact zG.iret hX (by decide +kernel)
noncomputable def pX12_note_91 (S : ZS) (M : ZM) (x0 : Int) (x4 : Int) : Option (Int × ZM) := if S.1 x0 = 12 then if S.1 (M x0 1) = 100 ∧ (0 : Int) ≤ 7 ∧ 7 < S.2.1 (M x0 1) then zlet (upM M (M x0 1) 7 (w32 ((M (M x0 1) 7) + 1))) fun M21 => some (w32 (x4 + 1), M21) else none else none
set_option maxHeartbeats 2000000 in
set_option maxRecDepth 20000 in
theorem pX12_note_91_ok {C : ZC} {E : ZE} {S : ZS} {q : (Int × ZM)} (hX : zCx C E 12 cX12_note 5 (some .int) false) (hRm : czR C = { frames := 3, cells := 0, slots := 0, locals := 86 }) {M : ZM} {x0 : Int} {x4 : Int} (h : pX12_note_91 S M x0 x4 = some q) : zG C E 5 S 0 0 (zQ C E 0 0 (some (0, q.1)) S q.2) 91 [some (2, x0), none, none, none, some (0, x4)] [] M := by
  unfold pX12_note_91 at h
  obtain ⟨g19, h⟩ := zif h
  obtain ⟨g20, h⟩ := zif h
  refine zG.blk (pc' := 102) (l' := [some (2, x0), none, none, none, some (0, x4)]) (st' := []) (M' := (upM M (M x0 1) 7 (w32 ((M (M x0 1) 7) + 1)))) hX [(.aload_n 0, 0, 0, 0), (.getfield 9, 12, 1, 2), (.bipush 7, 0, 0, 0), (.dup2, 0, 0, 0), (.iaload, 0, 0, 0), (.iconst 1, 0, 0, 0), (.iadd, 0, 0, 0), (.iastore, 0, 0, 0)] (by decide +kernel) rfl (And.intro g19 (And.intro g20 (And.intro g20 trivial))) ?_
  generalize upM M (M x0 1) 7 (w32 ((M (M x0 1) 7) + 1)) = M21 at h ⊢
  have h := zlt h
  refine zG.blk (pc' := 106) (l' := [some (2, x0), none, none, none, some (0, x4)]) (st' := [(0, w32 (x4 + 1))]) (M' := M21) hX [(.iload 4, 0, 0, 0), (.iconst 1, 0, 0, 0), (.iadd, 0, 0, 0)] (by decide +kernel) rfl trivial ?_
  cases h
  exact zG.iret hX (by decide +kernel)
noncomputable def pX12_note_57 (S : ZS) (M : ZM) (x0 : Int) (x1 : Int) (x2 : Int) (x3 : Int) (x4 : Int) : Option (Int × ZM) := if x4 = 10 then (pX12_note_64 S M) else (if S.1 x0 = 12 then if S.1 (M x0 9) = 100 ∧ (0 : Int) ≤ x4 ∧ x4 < S.2.1 (M x0 9) then zlet (upM M (M x0 9) x4 x1) fun M14 => if S.1 (M14 x0 10) = 100 ∧ (0 : Int) ≤ x4 ∧ x4 < S.2.1 (M14 x0 10) then zlet (upM M14 (M14 x0 10) x4 x2) fun M16 => if S.1 (M16 x0 11) = 100 ∧ (0 : Int) ≤ x4 ∧ x4 < S.2.1 (M16 x0 11) then zlet (upM M16 (M16 x0 11) x4 x3) fun M18 => pX12_note_91 S M18 x0 x4 else none else none else none else none)
set_option maxHeartbeats 2000000 in
set_option maxRecDepth 20000 in
theorem pX12_note_57_ok {C : ZC} {E : ZE} {S : ZS} {q : (Int × ZM)} (hX : zCx C E 12 cX12_note 5 (some .int) false) (hRm : czR C = { frames := 3, cells := 0, slots := 0, locals := 86 }) {M : ZM} {x0 : Int} {x1 : Int} {x2 : Int} {x3 : Int} {x4 : Int} (h : pX12_note_57 S M x0 x1 x2 x3 x4 = some q) : zG C E 5 S 0 0 (zQ C E 0 0 (some (0, q.1)) S q.2) 57 [some (2, x0), some (0, x1), some (0, x2), some (0, x3), some (0, x4)] [] M := by
  unfold pX12_note_57 at h
  refine zG.blk (pc' := 61) (l' := [some (2, x0), some (0, x1), some (0, x2), some (0, x3), some (0, x4)]) (st' := [(0, 10), (0, x4)]) (M' := M) hX [(.iload 4, 0, 0, 0), (.bipush 10, 0, 0, 0)] (by decide +kernel) rfl trivial ?_
  refine zG.icmp_ne (tgt := 67) (off := 6) hX (by decide +kernel) (by decide) (fun c11 => ?_) (fun c11 => ?_)
  · have h := zin c11 h
    obtain ⟨g12, h⟩ := zif h
    obtain ⟨g13, h⟩ := zif h
    refine zG.blk (pc' := 75) (l' := [some (2, x0), some (0, x1), some (0, x2), some (0, x3), some (0, x4)]) (st' := []) (M' := (upM M (M x0 9) x4 x1)) hX [(.aload_n 0, 0, 0, 0), (.getfield 34, 12, 9, 2), (.iload 4, 0, 0, 0), (.iload_n 1, 0, 0, 0), (.iastore, 0, 0, 0)] (by decide +kernel) rfl (And.intro g12 (And.intro g13 trivial)) ?_
    generalize upM M (M x0 9) x4 x1 = M14 at h ⊢
    have h := zlt h
    obtain ⟨g15, h⟩ := zif h
    refine zG.blk (pc' := 83) (l' := [some (2, x0), some (0, x1), some (0, x2), some (0, x3), some (0, x4)]) (st' := []) (M' := (upM M14 (M14 x0 10) x4 x2)) hX [(.aload_n 0, 0, 0, 0), (.getfield 37, 12, 10, 2), (.iload 4, 0, 0, 0), (.iload_n 2, 0, 0, 0), (.iastore, 0, 0, 0)] (by decide +kernel) rfl (And.intro g12 (And.intro g15 trivial)) ?_
    generalize upM M14 (M14 x0 10) x4 x2 = M16 at h ⊢
    have h := zlt h
    obtain ⟨g17, h⟩ := zif h
    refine zG.blk (pc' := 91) (l' := [some (2, x0), some (0, x1), some (0, x2), some (0, x3), some (0, x4)]) (st' := []) (M' := (upM M16 (M16 x0 11) x4 x3)) hX [(.aload_n 0, 0, 0, 0), (.getfield 40, 12, 11, 2), (.iload 4, 0, 0, 0), (.iload_n 3, 0, 0, 0), (.iastore, 0, 0, 0)] (by decide +kernel) rfl (And.intro g12 (And.intro g17 trivial)) ?_
    generalize upM M16 (M16 x0 11) x4 x3 = M18 at h ⊢
    have h := zlt h
    exact zG.wk [true, false, false, false, true] (pX12_note_91_ok hX hRm h)
  · have h := zip c11 h
    exact zG.wk [false, false, false, false, false] (pX12_note_64_ok hX hRm h)
noncomputable def pX12_note (S : ZS) (M : ZM) (a0 : Int) (a1 : Int) (a2 : Int) (a3 : Int) : Option (Int × ZM) := if a1 = (-1) then (if S.1 a0 = 12 then if S.1 (M a0 1) = 100 ∧ (0 : Int) ≤ 7 ∧ 7 < S.2.1 (M a0 1) then zlet (upM M (M a0 1) 7 0) fun M27 => some (0, M27) else none else none) else (if S.1 a0 = 12 then if S.1 (M a0 1) = 100 ∧ (0 : Int) ≤ 7 ∧ 7 < S.2.1 (M a0 1) then (pX12_in S M a1 0 60).bind fun q4 => if q4.1 = 0 then (pX12_note_64 S q4.2) else ((pX12_isCell S q4.2 a0 a2).bind fun q7 => if q7.1 = 0 then (pX12_note_64 S q7.2) else (if a3 = (-1) then (pX12_note_57 S q7.2 a0 a1 a2 a3 (M (M a0 1) 7)) else ((pX12_isPen S q7.2 a0 a3).bind fun q22 => if q22.1 = 0 then (pX12_note_64 S q22.2) else (pX12_note_57 S q22.2 a0 a1 a2 a3 (M (M a0 1) 7))))) else none else none)
set_option maxHeartbeats 2000000 in
set_option maxRecDepth 20000 in
theorem pX12_note_go {C : ZC} {E : ZE} {S : ZS} {M : ZM} {a0 a1 a2 a3 : Int} {q : (Int × ZM)} (hX : zCx C E 12 cX12_note 5 (some .int) false) (hRm : czR C = { frames := 3, cells := 0, slots := 0, locals := 86 }) (h : pX12_note  S M a0 a1 a2 a3 = some q) : zG C E 5 S 0 0 (zQ C E 0 0 (some (0, q.1)) S q.2) 0 [some (2, a0), some (0, a1), some (0, a2), some (0, a3), none] [] M := by
  unfold pX12_note at h
  refine zG.blk (pc' := 2) (l' := [some (2, a0), some (0, a1), some (0, a2), some (0, a3), none]) (st' := [(0, (-1)), (0, a1)]) (M' := M) hX [(.iload_n 1, 0, 0, 0), (.iconst (-1), 0, 0, 0)] (by decide +kernel) rfl trivial ?_
  refine zG.icmp_ne (tgt := 15) (off := 13) hX (by decide +kernel) (by decide) (fun c1 => ?_) (fun c1 => ?_)
  · have h := zin c1 h
    obtain ⟨g2, h⟩ := zif h
    obtain ⟨g3, h⟩ := zif h
    refine zG.blk (pc' := 30) (l' := [some (2, a0), some (0, a1), some (0, a2), some (0, a3), some (0, M (M a0 1) 7)]) (st' := [(1, 60), (1, 0), (1, a1)]) (M' := M) hX [(.aload_n 0, 0, 0, 0), (.getfield 9, 12, 1, 2), (.bipush 7, 0, 0, 0), (.iaload, 0, 0, 0), (.istore 4, 0, 0, 0), (.iload_n 1, 0, 0, 0), (.i2l, 0, 0, 0), (.lconst 0, 0, 0, 0), (.ldc2_w 440, 60, 0, 0)] (by decide +kernel) rfl (And.intro g2 (And.intro g3 trivial)) ?_
    obtain ⟨q4, e5, h⟩ := zbd h
    refine zG.callS (av := [(1, a1), (1, 0), (1, 60)]) (st := []) hX (pX12_in_ok e5) ss_12_138 rfl (by decide +kernel) (by rw [hRm]; exact ⟨Nat.le_of_ble_eq_true rfl, Nat.le_of_ble_eq_true rfl⟩) (by rw [hRm]; exact ⟨Nat.le_of_ble_eq_true rfl, Nat.le_of_ble_eq_true rfl⟩) (Nat.le_of_ble_eq_true rfl) ?_
    show zG C E 5 S 0 0 _ 33 [some (2, a0), some (0, a1), some (0, a2), some (0, a3), some (0, M (M a0 1) 7)] [(0, q4.1)] q4.2
    refine zG.if_eq (tgt := 64) (off := 31) hX (by decide +kernel) (by decide) (fun c6 => ?_) (fun c6 => ?_)
    · have h := zip c6 h
      exact zG.wk [false, false, false, false, false] (pX12_note_64_ok hX hRm h)
    · have h := zin c6 h
      refine zG.blk (pc' := 38) (l' := [some (2, a0), some (0, a1), some (0, a2), some (0, a3), some (0, M (M a0 1) 7)]) (st' := [(0, a2), (2, a0)]) (M' := q4.2) hX [(.aload_n 0, 0, 0, 0), (.iload_n 2, 0, 0, 0)] (by decide +kernel) rfl trivial ?_
      obtain ⟨q7, e8, h⟩ := zbd h
      refine zG.callV (b := a0) (av := [(0, a2)]) (st := []) (ci := 12) hX (pX12_isCell_ok e8) sv_12_345 rfl ⟨by decide, rfl⟩ g2 (by decide +kernel) (by rw [hRm]; exact ⟨Nat.le_of_ble_eq_true rfl, Nat.le_of_ble_eq_true rfl⟩) (by rw [hRm]; exact ⟨Nat.le_of_ble_eq_true rfl, Nat.le_of_ble_eq_true rfl⟩) (Nat.le_of_ble_eq_true rfl) ?_
      show zG C E 5 S 0 0 _ 41 [some (2, a0), some (0, a1), some (0, a2), some (0, a3), some (0, M (M a0 1) 7)] [(0, q7.1)] q7.2
      refine zG.if_eq (tgt := 64) (off := 23) hX (by decide +kernel) (by decide) (fun c9 => ?_) (fun c9 => ?_)
      · have h := zip c9 h
        exact zG.wk [false, false, false, false, false] (pX12_note_64_ok hX hRm h)
      · have h := zin c9 h
        refine zG.blk (pc' := 46) (l' := [some (2, a0), some (0, a1), some (0, a2), some (0, a3), some (0, M (M a0 1) 7)]) (st' := [(0, (-1)), (0, a3)]) (M' := q7.2) hX [(.iload_n 3, 0, 0, 0), (.iconst (-1), 0, 0, 0)] (by decide +kernel) rfl trivial ?_
        refine zG.icmp_eq (tgt := 57) (off := 11) hX (by decide +kernel) (by decide) (fun c10 => ?_) (fun c10 => ?_)
        · have h := zip c10 h
          exact (pX12_note_57_ok hX hRm h)
        · have h := zin c10 h
          refine zG.blk (pc' := 51) (l' := [some (2, a0), some (0, a1), some (0, a2), some (0, a3), some (0, M (M a0 1) 7)]) (st' := [(0, a3), (2, a0)]) (M' := q7.2) hX [(.aload_n 0, 0, 0, 0), (.iload_n 3, 0, 0, 0)] (by decide +kernel) rfl trivial ?_
          obtain ⟨q22, e23, h⟩ := zbd h
          refine zG.callV (b := a0) (av := [(0, a3)]) (st := []) (ci := 12) hX (pX12_isPen_ok e23) sv_12_341 rfl ⟨by decide, rfl⟩ g2 (by decide +kernel) (by rw [hRm]; exact ⟨Nat.le_of_ble_eq_true rfl, Nat.le_of_ble_eq_true rfl⟩) (by rw [hRm]; exact ⟨Nat.le_of_ble_eq_true rfl, Nat.le_of_ble_eq_true rfl⟩) (Nat.le_of_ble_eq_true rfl) ?_
          show zG C E 5 S 0 0 _ 54 [some (2, a0), some (0, a1), some (0, a2), some (0, a3), some (0, M (M a0 1) 7)] [(0, q22.1)] q22.2
          refine zG.if_eq (tgt := 64) (off := 10) hX (by decide +kernel) (by decide) (fun c24 => ?_) (fun c24 => ?_)
          · have h := zip c24 h
            exact zG.wk [false, false, false, false, false] (pX12_note_64_ok hX hRm h)
          · have h := zin c24 h
            exact (pX12_note_57_ok hX hRm h)
  · have h := zip c1 h
    obtain ⟨g25, h⟩ := zif h
    obtain ⟨g26, h⟩ := zif h
    refine zG.blk (pc' := 13) (l' := [some (2, a0), some (0, a1), some (0, a2), some (0, a3), none]) (st' := []) (M' := (upM M (M a0 1) 7 0)) hX [(.aload_n 0, 0, 0, 0), (.getfield 9, 12, 1, 2), (.bipush 7, 0, 0, 0), (.iconst 0, 0, 0, 0), (.iastore, 0, 0, 0)] (by decide +kernel) rfl (And.intro g25 (And.intro g26 trivial)) ?_
    generalize upM M (M a0 1) 7 0 = M27 at h ⊢
    have h := zlt h
    refine zG.blk (pc' := 14) (l' := [some (2, a0), some (0, a1), some (0, a2), some (0, a3), none]) (st' := [(0, 0)]) (M' := M27) hX [(.iconst 0, 0, 0, 0)] (by decide +kernel) rfl trivial ?_
    cases h
    exact zG.iret hX (by decide +kernel)
theorem pX12_note_ok {l : Launch} {E : ZE} {S : ZS} {M : ZM} {a0 a1 a2 a3 : Int} {q : (Int × ZM)} (h : pX12_note S M a0 a1 a2 a3 = some q) : zMet l yX12_note cX12_note 5 (some .int) 3 86 0 0 E S M [(2, a0), (0, a1), (0, a2), (0, a3)] (some (0, q.1)) S q.2 :=
  zMet.of (o := 12) (ini := false) (by decide +kernel) rfl (fun h => by cases h) (Nat.le_of_ble_eq_true rfl) (fun C hX hl hRm => by subst hl; exact pX12_note_go hX hRm h)
noncomputable def pX12_pen (S : ZS) (M : ZM) (a0 : Int) (a1 : Int) (a2 : Int) : Option (Int × ZM) := if S.1 a0 = 12 then (pX12_isPen S M a0 a1).bind fun q1 => if q1.1 = 0 then (some ((-1), q1.2)) else (if a2 = 0 then (if S.1 (q1.2 a0 2) = 100 ∧ (0 : Int) ≤ a1 ∧ a1 < S.2.1 (q1.2 a0 2) then some (q1.2 (q1.2 a0 2) a1, q1.2) else none) else if a2 = 1 then (if S.1 (q1.2 a0 3) = 100 ∧ (0 : Int) ≤ a1 ∧ a1 < S.2.1 (q1.2 a0 3) then some (q1.2 (q1.2 a0 3) a1, q1.2) else none) else if a2 = 2 then (if S.1 (q1.2 a0 1) = 100 ∧ (0 : Int) ≤ 5 ∧ 5 < S.2.1 (q1.2 a0 1) then some (zand (zshr (q1.2 (q1.2 a0 1) 5) a1) 1, q1.2) else none) else if a2 = 3 then ((pX12_strokesOf S q1.2 a0 a1).bind fun q13 => some (q13.1, q13.2)) else (some ((-1), q1.2))) else none
set_option maxHeartbeats 2000000 in
set_option maxRecDepth 20000 in
theorem pX12_pen_go {C : ZC} {E : ZE} {S : ZS} {M : ZM} {a0 a1 a2 : Int} {q : (Int × ZM)} (hX : zCx C E 12 cX12_pen 3 (some .int) false) (hRm : czR C = { frames := 3, cells := 0, slots := 0, locals := 86 }) (h : pX12_pen  S M a0 a1 a2 = some q) : zG C E 3 S 0 0 (zQ C E 0 0 (some (0, q.1)) S q.2) 0 [some (2, a0), some (0, a1), some (0, a2)] [] M := by
  unfold pX12_pen at h
  refine zG.blk (pc' := 2) (l' := [some (2, a0), some (0, a1), some (0, a2)]) (st' := [(0, a1), (2, a0)]) (M' := M) hX [(.aload_n 0, 0, 0, 0), (.iload_n 1, 0, 0, 0)] (by decide +kernel) rfl trivial ?_
  obtain ⟨g3, h⟩ := zif h
  obtain ⟨q1, e2, h⟩ := zbd h
  refine zG.callV (b := a0) (av := [(0, a1)]) (st := []) (ci := 12) hX (pX12_isPen_ok e2) sv_12_341 rfl ⟨by decide, rfl⟩ g3 (by decide +kernel) (by rw [hRm]; exact ⟨Nat.le_of_ble_eq_true rfl, Nat.le_of_ble_eq_true rfl⟩) (by rw [hRm]; exact ⟨Nat.le_of_ble_eq_true rfl, Nat.le_of_ble_eq_true rfl⟩) (Nat.le_of_ble_eq_true rfl) ?_
  show zG C E 3 S 0 0 _ 5 [some (2, a0), some (0, a1), some (0, a2)] [(0, q1.1)] q1.2
  refine zG.if_ne (tgt := 10) (off := 5) hX (by decide +kernel) (by decide) (fun c4 => ?_) (fun c4 => ?_)
  · have h := zin c4 h
    refine zG.blk (pc' := 11) (l' := [some (2, a0), some (0, a1), some (0, a2)]) (st' := [(0, a2)]) (M' := q1.2) hX [(.iload_n 2, 0, 0, 0)] (by decide +kernel) rfl trivial ?_
    have hs5 : decode cX12_pen 11 = .ok (.tableswitch 60 0 3 #[29, 36, 43, 54], 29) := by decide +kernel
    by_cases c6 : a2 = 0
    · have h := zip c6 h
      refine zG.tabIn (tgt := 40) hX hs5 0 c6 (by decide) rfl (by decide) ?_
      obtain ⟨g7, h⟩ := zif h
      refine zG.blk (pc' := 46) (l' := [some (2, a0), some (0, a1), some (0, a2)]) (st' := [(0, q1.2 (q1.2 a0 2) a1)]) (M' := q1.2) hX [(.aload_n 0, 0, 0, 0), (.getfield 13, 12, 2, 2), (.iload_n 1, 0, 0, 0), (.iaload, 0, 0, 0)] (by decide +kernel) rfl (And.intro g3 (And.intro g7 trivial)) ?_
      cases h
      exact zG.iret hX (by decide +kernel)
    · have h := zin c6 h
      by_cases c8 : a2 = 1
      · have h := zip c8 h
        refine zG.tabIn (tgt := 47) hX hs5 1 c8 (by decide) rfl (by decide) ?_
        obtain ⟨g9, h⟩ := zif h
        refine zG.blk (pc' := 53) (l' := [some (2, a0), some (0, a1), some (0, a2)]) (st' := [(0, q1.2 (q1.2 a0 3) a1)]) (M' := q1.2) hX [(.aload_n 0, 0, 0, 0), (.getfield 16, 12, 3, 2), (.iload_n 1, 0, 0, 0), (.iaload, 0, 0, 0)] (by decide +kernel) rfl (And.intro g3 (And.intro g9 trivial)) ?_
        cases h
        exact zG.iret hX (by decide +kernel)
      · have h := zin c8 h
        by_cases c10 : a2 = 2
        · have h := zip c10 h
          refine zG.tabIn (tgt := 54) hX hs5 2 c10 (by decide) rfl (by decide) ?_
          obtain ⟨g11, h⟩ := zif h
          refine zG.blk (pc' := 64) (l' := [some (2, a0), some (0, a1), some (0, a2)]) (st' := [(0, zand (zshr (q1.2 (q1.2 a0 1) 5) a1) 1)]) (M' := q1.2) hX [(.aload_n 0, 0, 0, 0), (.getfield 9, 12, 1, 2), (.iconst 5, 0, 0, 0), (.iaload, 0, 0, 0), (.iload_n 1, 0, 0, 0), (.ishr, 0, 0, 0), (.iconst 1, 0, 0, 0), (.iand, 0, 0, 0)] (by decide +kernel) rfl (And.intro g3 (And.intro g11 trivial)) ?_
          cases h
          exact zG.iret hX (by decide +kernel)
        · have h := zin c10 h
          by_cases c12 : a2 = 3
          · have h := zip c12 h
            refine zG.tabIn (tgt := 65) hX hs5 3 c12 (by decide) rfl (by decide) ?_
            refine zG.blk (pc' := 67) (l' := [some (2, a0), some (0, a1), some (0, a2)]) (st' := [(0, a1), (2, a0)]) (M' := q1.2) hX [(.aload_n 0, 0, 0, 0), (.iload_n 1, 0, 0, 0)] (by decide +kernel) rfl trivial ?_
            obtain ⟨q13, e14, h⟩ := zbd h
            refine zG.callV (b := a0) (av := [(0, a1)]) (st := []) (ci := 12) hX (pX12_strokesOf_ok e14) sv_12_338 rfl ⟨by decide, rfl⟩ g3 (by decide +kernel) (by rw [hRm]; exact ⟨Nat.le_of_ble_eq_true rfl, Nat.le_of_ble_eq_true rfl⟩) (by rw [hRm]; exact ⟨Nat.le_of_ble_eq_true rfl, Nat.le_of_ble_eq_true rfl⟩) (Nat.le_of_ble_eq_true rfl) ?_
            show zG C E 3 S 0 0 _ 70 [some (2, a0), some (0, a1), some (0, a2)] [(0, q13.1)] q13.2
            cases h
            exact zG.iret hX (by decide +kernel)
          · have h := zin c12 h
            refine zG.tabOut (tgt := 71) hX hs5 (by omega) (by decide) ?_
            refine zG.blk (pc' := 72) (l' := [some (2, a0), some (0, a1), some (0, a2)]) (st' := [(0, (-1))]) (M' := q1.2) hX [(.iconst (-1), 0, 0, 0)] (by decide +kernel) rfl trivial ?_
            cases h
            exact zG.iret hX (by decide +kernel)
  · have h := zip c4 h
    refine zG.blk (pc' := 9) (l' := [some (2, a0), some (0, a1), some (0, a2)]) (st' := [(0, (-1))]) (M' := q1.2) hX [(.iconst (-1), 0, 0, 0)] (by decide +kernel) rfl trivial ?_
    cases h
    exact zG.iret hX (by decide +kernel)
theorem pX12_pen_ok {l : Launch} {E : ZE} {S : ZS} {M : ZM} {a0 a1 a2 : Int} {q : (Int × ZM)} (h : pX12_pen S M a0 a1 a2 = some q) : zMet l yX12_pen cX12_pen 3 (some .int) 3 86 0 0 E S M [(2, a0), (0, a1), (0, a2)] (some (0, q.1)) S q.2 :=
  zMet.of (o := 12) (ini := false) (by decide +kernel) rfl (fun h => by cases h) (Nat.le_of_ble_eq_true rfl) (fun C hX hl hRm => by subst hl; exact pX12_pen_go hX hRm h)
