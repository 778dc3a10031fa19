noncomputable def pX11_hold_32 (S : ZS) (M : ZM) : Option (Int × ZM) := some ((-1), M)
set_option maxHeartbeats 2000000 in
set_option maxRecDepth 20000 in
theorem pX11_hold_32_ok {C : ZC} {E : ZE} {S : ZS} {q : (Int × ZM)} (hX : zCx C E 11 cX11_hold 3 (some .int) false) (hRm : czR C = { frames := 7, cells := 0, slots := 0, locals := 192 }) {M : ZM} (h : pX11_hold_32 S M = some q) : zG C E 3 S 0 0 (zQ C E 0 0 (some (0, q.1)) S q.2) 32 [none, none, none] [] M := by
  unfold pX11_hold_32 at h
  refine zG.blk (pc' := 33) (l' := [none, none, none]) (st' := [(0, (-1))]) (M' := M) hX [(.iconst (-1), 0, 0, 0)] (by decide +kernel) rfl trivial ?_
  cases h
  exact zG.iret hX (by decide +kernel)
theorem sv_11_198 : zSV 11 198 yX1_bestStayed cX1_bestStayed 9 (some .int) 4 := ⟨⟨gt_at 932 (by decide +kernel) rfl, gt_at 933 (by decide +kernel) rfl, gt_at 934 (by decide +kernel) rfl, gt_at 114 (by decide +kernel) rfl, gt_at 935 (by decide +kernel) rfl⟩, by decide +kernel, by decide +kernel, by decide +kernel⟩
noncomputable def pX11_hold (S : ZS) (M : ZM) (a0 : Int) (a1 : Int) (a2 : Int) : Option (Int × ZM) := if S.1 a0 = 11 then if S.1 (M a0 5) = 10 then if S.1 (M (M a0 5) 0) = 9 then (pX9_isThere S M (M (M a0 5) 0)).bind fun q3 => if q3.1 = 0 then (pX11_hold_32 S q3.2) else ((pX11_within S q3.2 a1 1 60).bind fun q7 => if q7.1 = 0 then (pX11_hold_32 S q7.2) else ((pX11_within S q7.2 a2 0 1).bind fun q10 => if q10.1 = 0 then (pX11_hold_32 S q10.2) else ((pX11_ruleInForce S q10.2 a0).bind fun q13 => if S.1 (q10.2 a0 8) = 1 then (pX1_bestStayed S q13.2 (q10.2 a0 8) (q10.2 a0 5) q13.1 a1 a2).bind fun q15 => some (q15.1, q15.2) else none))) else none else none else none
set_option maxHeartbeats 2000000 in
set_option maxRecDepth 20000 in
theorem pX11_hold_go {C : ZC} {E : ZE} {S : ZS} {M : ZM} {a0 a1 a2 : Int} {q : (Int × ZM)} (hX : zCx C E 11 cX11_hold 3 (some .int) false) (hRm : czR C = { frames := 7, cells := 0, slots := 0, locals := 192 }) (h : pX11_hold  S M a0 a1 a2 = some q) : zG C E 3 S 0 0 (zQ C E 0 0 (some (0, q.1)) S q.2) 0 [some (2, a0), some (0, a1), some (0, a2)] [] M := by
  unfold pX11_hold at h
  obtain ⟨g1, h⟩ := zif h
  obtain ⟨g2, h⟩ := zif h
  refine zG.blk (pc' := 7) (l' := [some (2, a0), some (0, a1), some (0, a2)]) (st' := [(2, M (M a0 5) 0)]) (M' := M) hX [(.aload_n 0, 0, 0, 0), (.getfield 39, 11, 5, 2), (.getfield 95, 10, 0, 2)] (by decide +kernel) rfl (And.intro g1 (And.intro g2 trivial)) ?_
  obtain ⟨g5, h⟩ := zif h
  obtain ⟨q3, e4, h⟩ := zbd h
  refine zG.callV (b := M (M a0 5) 0) (av := []) (st := []) (ci := 9) hX (pX9_isThere_ok e4) sv_11_151 rfl ⟨by decide, rfl⟩ g5 (by decide +kernel) (by rw [hRm]; exact ⟨Nat.le_of_ble_eq_true rfl, Nat.le_of_ble_eq_true rfl⟩) (by rw [hRm]; exact ⟨Nat.le_of_ble_eq_true rfl, Nat.le_of_ble_eq_true rfl⟩) (Nat.le_of_ble_eq_true rfl) ?_
  show zG C E 3 S 0 0 _ 10 [some (2, a0), some (0, a1), some (0, a2)] [(0, q3.1)] q3.2
  refine zG.if_eq (tgt := 32) (off := 22) hX (by decide +kernel) (by decide) (fun c6 => ?_) (fun c6 => ?_)
  · have h := zip c6 h
    exact zG.wk [false, false, false] (pX11_hold_32_ok hX hRm h)
  · have h := zin c6 h
    refine zG.blk (pc' := 17) (l' := [some (2, a0), some (0, a1), some (0, a2)]) (st' := [(0, 60), (0, 1), (0, a1)]) (M' := q3.2) hX [(.iload_n 1, 0, 0, 0), (.iconst 1, 0, 0, 0), (.bipush 60, 0, 0, 0)] (by decide +kernel) rfl trivial ?_
    obtain ⟨q7, e8, h⟩ := zbd h
    refine zG.callS (av := [(0, a1), (0, 1), (0, 60)]) (st := []) hX (pX11_within_ok e8) ss_11_172 rfl (by decide +kernel) (by rw [hRm]; exact ⟨Nat.le_of_ble_eq_true rfl, Nat.le_of_ble_eq_true rfl⟩) (by rw [hRm]; exact ⟨Nat.le_of_ble_eq_true rfl, Nat.le_of_ble_eq_true rfl⟩) (Nat.le_of_ble_eq_true rfl) ?_
    show zG C E 3 S 0 0 _ 20 [some (2, a0), some (0, a1), some (0, a2)] [(0, q7.1)] q7.2
    refine zG.if_eq (tgt := 32) (off := 12) hX (by decide +kernel) (by decide) (fun c9 => ?_) (fun c9 => ?_)
    · have h := zip c9 h
      exact zG.wk [false, false, false] (pX11_hold_32_ok hX hRm h)
    · have h := zin c9 h
      refine zG.blk (pc' := 26) (l' := [some (2, a0), some (0, a1), some (0, a2)]) (st' := [(0, 1), (0, 0), (0, a2)]) (M' := q7.2) hX [(.iload_n 2, 0, 0, 0), (.iconst 0, 0, 0, 0), (.iconst 1, 0, 0, 0)] (by decide +kernel) rfl trivial ?_
      obtain ⟨q10, e11, h⟩ := zbd h
      refine zG.callS (av := [(0, a2), (0, 0), (0, 1)]) (st := []) hX (pX11_within_ok e11) ss_11_172 rfl (by decide +kernel) (by rw [hRm]; exact ⟨Nat.le_of_ble_eq_true rfl, Nat.le_of_ble_eq_true rfl⟩) (by rw [hRm]; exact ⟨Nat.le_of_ble_eq_true rfl, Nat.le_of_ble_eq_true rfl⟩) (Nat.le_of_ble_eq_true rfl) ?_
      show zG C E 3 S 0 0 _ 29 [some (2, a0), some (0, a1), some (0, a2)] [(0, q10.1)] q10.2
      refine zG.if_ne (tgt := 34) (off := 5) hX (by decide +kernel) (by decide) (fun c12 => ?_) (fun c12 => ?_)
      · have h := zin c12 h
        refine zG.blk (pc' := 43) (l' := [some (2, a0), some (0, a1), some (0, a2)]) (st' := [(2, a0), (2, q10.2 a0 5), (2, q10.2 a0 8)]) (M' := q10.2) hX [(.aload_n 0, 0, 0, 0), (.getfield 57, 11, 8, 2), (.aload_n 0, 0, 0, 0), (.getfield 39, 11, 5, 2), (.aload_n 0, 0, 0, 0)] (by decide +kernel) rfl (And.intro g1 (And.intro g1 trivial)) ?_
        obtain ⟨q13, e14, h⟩ := zbd h
        refine zG.callV (b := a0) (av := []) (st := [(2, q10.2 a0 5), (2, q10.2 a0 8)]) (ci := 11) hX (pX11_ruleInForce_ok e14) sv_11_161 rfl ⟨by decide, rfl⟩ g1 (by decide +kernel) (by rw [hRm]; exact ⟨Nat.le_of_ble_eq_true rfl, Nat.le_of_ble_eq_true rfl⟩) (by rw [hRm]; exact ⟨Nat.le_of_ble_eq_true rfl, Nat.le_of_ble_eq_true rfl⟩) (Nat.le_of_ble_eq_true rfl) ?_
        show zG C E 3 S 0 0 _ 46 [some (2, a0), some (0, a1), some (0, a2)] [(2, q13.1), (2, q10.2 a0 5), (2, q10.2 a0 8)] q13.2
        refine zG.blk (pc' := 48) (l' := [some (2, a0), some (0, a1), some (0, a2)]) (st' := [(0, a2), (0, a1), (2, q13.1), (2, q10.2 a0 5), (2, q10.2 a0 8)]) (M' := q13.2) hX [(.iload_n 1, 0, 0, 0), (.iload_n 2, 0, 0, 0)] (by decide +kernel) rfl trivial ?_
        obtain ⟨g17, h⟩ := zif h
        obtain ⟨q15, e16, h⟩ := zbd h
        refine zG.callV (b := q10.2 a0 8) (av := [(2, q10.2 a0 5), (2, q13.1), (0, a1), (0, a2)]) (st := []) (ci := 1) hX (pX1_bestStayed_ok e16) sv_11_198 rfl ⟨by decide, rfl⟩ g17 (by decide +kernel) (by rw [hRm]; exact ⟨Nat.le_of_ble_eq_true rfl, Nat.le_of_ble_eq_true rfl⟩) (by rw [hRm]; exact ⟨Nat.le_of_ble_eq_true rfl, Nat.le_of_ble_eq_true rfl⟩) (Nat.le_of_ble_eq_true rfl) ?_
        show zG C E 3 S 0 0 _ 51 [some (2, a0), some (0, a1), some (0, a2)] [(0, q15.1)] q15.2
        cases h
        exact zG.iret hX (by decide +kernel)
      · have h := zip c12 h
        exact zG.wk [false, false, false] (pX11_hold_32_ok hX hRm h)
theorem pX11_hold_ok {l : Launch} {E : ZE} {S : ZS} {M : ZM} {a0 a1 a2 : Int} {q : (Int × ZM)} (h : pX11_hold S M a0 a1 a2 = some q) : zMet l yX11_hold cX11_hold 3 (some .int) 7 192 0 0 E S M [(2, a0), (0, a1), (0, a2)] (some (0, q.1)) S q.2 :=
  zMet.of (o := 11) (ini := false) (by decide +kernel) rfl (fun h => by cases h) (Nat.le_of_ble_eq_true rfl) (fun C hX hl hRm => by subst hl; exact pX11_hold_go hX hRm h)
noncomputable def pX11_look_32 (S : ZS) (M : ZM) : Option (Int × ZM) := some ((-1), M)
set_option maxHeartbeats 2000000 in
set_option maxRecDepth 20000 in
theorem pX11_look_32_ok {C : ZC} {E : ZE} {S : ZS} {q : (Int × ZM)} (hX : zCx C E 11 cX11_look 3 (some .int) false) (hRm : czR C = { frames := 7, cells := 0, slots := 0, locals := 192 }) {M : ZM} (h : pX11_look_32 S M = some q) : zG C E 3 S 0 0 (zQ C E 0 0 (some (0, q.1)) S q.2) 32 [none, none, none] [] M := by
  unfold pX11_look_32 at h
  refine zG.blk (pc' := 33) (l' := [none, none, none]) (st' := [(0, (-1))]) (M' := M) hX [(.iconst (-1), 0, 0, 0)] (by decide +kernel) rfl trivial ?_
  cases h
  exact zG.iret hX (by decide +kernel)
theorem sv_11_242 : zSV 11 242 yX2_bestToLookAt cX2_bestToLookAt 9 (some .int) 5 := ⟨⟨gt_at 1078 (by decide +kernel) rfl, gt_at 1079 (by decide +kernel) rfl, gt_at 1080 (by decide +kernel) rfl, gt_at 115 (by decide +kernel) rfl, gt_at 1081 (by decide +kernel) rfl⟩, by decide +kernel, by decide +kernel, by decide +kernel⟩
noncomputable def pX11_look (S : ZS) (M : ZM) (a0 : Int) (a1 : Int) (a2 : Int) : Option (Int × ZM) := if S.1 a0 = 11 then if S.1 (M a0 5) = 10 then if S.1 (M (M a0 5) 0) = 9 then (pX9_isThere S M (M (M a0 5) 0)).bind fun q3 => if q3.1 = 0 then (pX11_look_32 S q3.2) else ((pX11_within S q3.2 a1 0 60).bind fun q7 => if q7.1 = 0 then (pX11_look_32 S q7.2) else ((pX11_within S q7.2 a2 0 1).bind fun q10 => if q10.1 = 0 then (pX11_look_32 S q10.2) else (if S.1 (q10.2 a0 9) = 2 then (pX2_bestToLookAt S q10.2 (q10.2 a0 9) (q10.2 a0 5) (q10.2 a0 3) (q10.2 a0 4) a1 a2).bind fun q13 => some (q13.1, q13.2) else none))) else none else none else none
set_option maxHeartbeats 2000000 in
set_option maxRecDepth 20000 in
theorem pX11_look_go {C : ZC} {E : ZE} {S : ZS} {M : ZM} {a0 a1 a2 : Int} {q : (Int × ZM)} (hX : zCx C E 11 cX11_look 3 (some .int) false) (hRm : czR C = { frames := 7, cells := 0, slots := 0, locals := 192 }) (h : pX11_look  S M a0 a1 a2 = some q) : zG C E 3 S 0 0 (zQ C E 0 0 (some (0, q.1)) S q.2) 0 [some (2, a0), some (0, a1), some (0, a2)] [] M := by
  unfold pX11_look at h
  obtain ⟨g1, h⟩ := zif h
  obtain ⟨g2, h⟩ := zif h
  refine zG.blk (pc' := 7) (l' := [some (2, a0), some (0, a1), some (0, a2)]) (st' := [(2, M (M a0 5) 0)]) (M' := M) hX [(.aload_n 0, 0, 0, 0), (.getfield 39, 11, 5, 2), (.getfield 95, 10, 0, 2)] (by decide +kernel) rfl (And.intro g1 (And.intro g2 trivial)) ?_
  obtain ⟨g5, h⟩ := zif h
  obtain ⟨q3, e4, h⟩ := zbd h
  refine zG.callV (b := M (M a0 5) 0) (av := []) (st := []) (ci := 9) hX (pX9_isThere_ok e4) sv_11_151 rfl ⟨by decide, rfl⟩ g5 (by decide +kernel) (by rw [hRm]; exact ⟨Nat.le_of_ble_eq_true rfl, Nat.le_of_ble_eq_true rfl⟩) (by rw [hRm]; exact ⟨Nat.le_of_ble_eq_true rfl, Nat.le_of_ble_eq_true rfl⟩) (Nat.le_of_ble_eq_true rfl) ?_
  show zG C E 3 S 0 0 _ 10 [some (2, a0), some (0, a1), some (0, a2)] [(0, q3.1)] q3.2
  refine zG.if_eq (tgt := 32) (off := 22) hX (by decide +kernel) (by decide) (fun c6 => ?_) (fun c6 => ?_)
  · have h := zip c6 h
    exact zG.wk [false, false, false] (pX11_look_32_ok hX hRm h)
  · have h := zin c6 h
    refine zG.blk (pc' := 17) (l' := [some (2, a0), some (0, a1), some (0, a2)]) (st' := [(0, 60), (0, 0), (0, a1)]) (M' := q3.2) hX [(.iload_n 1, 0, 0, 0), (.iconst 0, 0, 0, 0), (.bipush 60, 0, 0, 0)] (by decide +kernel) rfl trivial ?_
    obtain ⟨q7, e8, h⟩ := zbd h
    refine zG.callS (av := [(0, a1), (0, 0), (0, 60)]) (st := []) hX (pX11_within_ok e8) ss_11_172 rfl (by decide +kernel) (by rw [hRm]; exact ⟨Nat.le_of_ble_eq_true rfl, Nat.le_of_ble_eq_true rfl⟩) (by rw [hRm]; exact ⟨Nat.le_of_ble_eq_true rfl, Nat.le_of_ble_eq_true rfl⟩) (Nat.le_of_ble_eq_true rfl) ?_
    show zG C E 3 S 0 0 _ 20 [some (2, a0), some (0, a1), some (0, a2)] [(0, q7.1)] q7.2
    refine zG.if_eq (tgt := 32) (off := 12) hX (by decide +kernel) (by decide) (fun c9 => ?_) (fun c9 => ?_)
    · have h := zip c9 h
      exact zG.wk [false, false, false] (pX11_look_32_ok hX hRm h)
    · have h := zin c9 h
      refine zG.blk (pc' := 26) (l' := [some (2, a0), some (0, a1), some (0, a2)]) (st' := [(0, 1), (0, 0), (0, a2)]) (M' := q7.2) hX [(.iload_n 2, 0, 0, 0), (.iconst 0, 0, 0, 0), (.iconst 1, 0, 0, 0)] (by decide +kernel) rfl trivial ?_
      obtain ⟨q10, e11, h⟩ := zbd h
      refine zG.callS (av := [(0, a2), (0, 0), (0, 1)]) (st := []) hX (pX11_within_ok e11) ss_11_172 rfl (by decide +kernel) (by rw [hRm]; exact ⟨Nat.le_of_ble_eq_true rfl, Nat.le_of_ble_eq_true rfl⟩) (by rw [hRm]; exact ⟨Nat.le_of_ble_eq_true rfl, Nat.le_of_ble_eq_true rfl⟩) (Nat.le_of_ble_eq_true rfl) ?_
      show zG C E 3 S 0 0 _ 29 [some (2, a0), some (0, a1), some (0, a2)] [(0, q10.1)] q10.2
      refine zG.if_ne (tgt := 34) (off := 5) hX (by decide +kernel) (by decide) (fun c12 => ?_) (fun c12 => ?_)
      · have h := zin c12 h
        refine zG.blk (pc' := 52) (l' := [some (2, a0), some (0, a1), some (0, a2)]) (st' := [(0, a2), (0, a1), (0, q10.2 a0 4), (2, q10.2 a0 3), (2, q10.2 a0 5), (2, q10.2 a0 9)]) (M' := q10.2) hX [(.aload_n 0, 0, 0, 0), (.getfield 64, 11, 9, 2), (.aload_n 0, 0, 0, 0), (.getfield 39, 11, 5, 2), (.aload_n 0, 0, 0, 0), (.getfield 32, 11, 3, 2), (.aload_n 0, 0, 0, 0), (.getfield 101, 11, 4, 0), (.iload_n 1, 0, 0, 0), (.iload_n 2, 0, 0, 0)] (by decide +kernel) rfl (And.intro g1 (And.intro g1 (And.intro g1 (And.intro g1 trivial)))) ?_
        obtain ⟨g15, h⟩ := zif h
        obtain ⟨q13, e14, h⟩ := zbd h
        refine zG.callV (b := q10.2 a0 9) (av := [(2, q10.2 a0 5), (2, q10.2 a0 3), (0, q10.2 a0 4), (0, a1), (0, a2)]) (st := []) (ci := 2) hX (pX2_bestToLookAt_ok e14) sv_11_242 rfl ⟨by decide, rfl⟩ g15 (by decide +kernel) (by rw [hRm]; exact ⟨Nat.le_of_ble_eq_true rfl, Nat.le_of_ble_eq_true rfl⟩) (by rw [hRm]; exact ⟨Nat.le_of_ble_eq_true rfl, Nat.le_of_ble_eq_true rfl⟩) (Nat.le_of_ble_eq_true rfl) ?_
        show zG C E 3 S 0 0 _ 55 [some (2, a0), some (0, a1), some (0, a2)] [(0, q13.1)] q13.2
        cases h
        exact zG.iret hX (by decide +kernel)
      · have h := zip c12 h
        exact zG.wk [false, false, false] (pX11_look_32_ok hX hRm h)
theorem pX11_look_ok {l : Launch} {E : ZE} {S : ZS} {M : ZM} {a0 a1 a2 : Int} {q : (Int × ZM)} (h : pX11_look S M a0 a1 a2 = some q) : zMet l yX11_look cX11_look 3 (some .int) 7 192 0 0 E S M [(2, a0), (0, a1), (0, a2)] (some (0, q.1)) S q.2 :=
  zMet.of (o := 11) (ini := false) (by decide +kernel) rfl (fun h => by cases h) (Nat.le_of_ble_eq_true rfl) (fun C hX hl hRm => by subst hl; exact pX11_look_go hX hRm h)
noncomputable def pX11_note_82 (S : ZS) (M : ZM) : Option (Int × ZM) := some ((-2), M)
set_option maxHeartbeats 2000000 in
set_option maxRecDepth 20000 in
theorem pX11_note_82_ok {C : ZC} {E : ZE} {S : ZS} {q : (Int × ZM)} (hX : zCx C E 11 cX11_note 5 (some .int) false) (hRm : czR C = { frames := 2, cells := 0, slots := 0, locals := 63 }) {M : ZM} (h : pX11_note_82 S M = some q) : zG C E 5 S 0 0 (zQ C E 0 0 (some (0, q.1)) S q.2) 82 [none, none, none, none, none] [] M := by
  unfold pX11_note_82 at h
  refine zG.blk (pc' := 84) (l' := [none, none, none, none, none]) (st' := [(0, (-2))]) (M' := M) hX [(.bipush (-2), 0, 0, 0)] (by decide +kernel) rfl trivial ?_
  cases h
  exact zG.iret hX (by decide +kernel)
theorem sv_11_234 : zSV 11 234 yX10_addNote cX10_addNote 4 none 3 := ⟨⟨gt_at 1052 (by decide +kernel) rfl, gt_at 1053 (by decide +kernel) rfl, gt_at 1054 (by decide +kernel) rfl, gt_at 110 (by decide +kernel) rfl, gt_at 1055 (by decide +kernel) rfl⟩, by decide +kernel, by decide +kernel, by decide +kernel⟩
noncomputable def pX11_note_39 (S : ZS) (M : ZM) (x0 : Int) (x1 : Int) (x2 : Int) (x3 : Int) (y0 : Int) : Option (Int × ZM) := (pX11_within S M x1 0 60).bind fun q3 => if q3.1 = 0 then (pX11_note_82 S q3.2) else (if S.1 x0 = 11 then if S.1 (q3.2 x0 5) = 10 then if S.1 (q3.2 (q3.2 x0 5) 0) = 9 then (pX9_hasCell S q3.2 (q3.2 (q3.2 x0 5) 0) x2).bind fun q8 => if q8.1 = 0 then (pX11_note_82 S q8.2) else (if y0 = 0 then (pX11_note_82 S q8.2) else (if S.1 (q8.2 x0 5) = 10 then if q8.2 (q8.2 x0 5) 7 < 10 then ((pX10_addNote S q8.2 (q8.2 x0 5) x1 x2 x3).bind fun q15 => if S.1 (q15 x0 5) = 10 then some (q15 (q15 x0 5) 7, q15) else none) else (pX11_note_82 S q8.2) else none)) else none else none else none)
set_option maxHeartbeats 2000000 in
set_option maxRecDepth 20000 in
theorem pX11_note_39_ok {C : ZC} {E : ZE} {S : ZS} {q : (Int × ZM)} (hX : zCx C E 11 cX11_note 5 (some .int) false) (hRm : czR C = { frames := 2, cells := 0, slots := 0, locals := 63 }) {M : ZM} {x0 : Int} {x1 : Int} {x2 : Int} {x3 : Int} {y0 : Int} (h : pX11_note_39 S M x0 x1 x2 x3 y0 = some q) : zG C E 5 S 0 0 (zQ C E 0 0 (some (0, q.1)) S q.2) 39 [some (2, x0), some (0, x1), some (0, x2), some (0, x3), none] [(0, y0)] M := by
  unfold pX11_note_39 at h
  refine zG.blk (pc' := 45) (l' := [some (2, x0), some (0, x1), some (0, x2), some (0, x3), some (0, y0)]) (st' := [(0, 60), (0, 0), (0, x1)]) (M' := M) hX [(.istore 4, 0, 0, 0), (.iload_n 1, 0, 0, 0), (.iconst 0, 0, 0, 0), (.bipush 60, 0, 0, 0)] (by decide +kernel) rfl trivial ?_
  obtain ⟨q3, e4, h⟩ := zbd h
  refine zG.callS (av := [(0, x1), (0, 0), (0, 60)]) (st := []) hX (pX11_within_ok e4) ss_11_172 rfl (by decide +kernel) (by rw [hRm]; exact ⟨Nat.le_of_ble_eq_true rfl, Nat.le_of_ble_eq_true rfl⟩) (by rw [hRm]; exact ⟨Nat.le_of_ble_eq_true rfl, Nat.le_of_ble_eq_true rfl⟩) (Nat.le_of_ble_eq_true rfl) ?_
  show zG C E 5 S 0 0 _ 48 [some (2, x0), some (0, x1), some (0, x2), some (0, x3), some (0, y0)] [(0, q3.1)] q3.2
  refine zG.if_eq (tgt := 82) (off := 34) hX (by decide +kernel) (by decide) (fun c5 => ?_) (fun c5 => ?_)
  · have h := zip c5 h
    exact zG.wk [false, false, false, false, false] (pX11_note_82_ok hX hRm h)
  · have h := zin c5 h
    obtain ⟨g6, h⟩ := zif h
    obtain ⟨g7, h⟩ := zif h
    refine zG.blk (pc' := 59) (l' := [some (2, x0), some (0, x1), some (0, x2), some (0, x3), some (0, y0)]) (st' := [(0, x2), (2, q3.2 (q3.2 x0 5) 0)]) (M' := q3.2) hX [(.aload_n 0, 0, 0, 0), (.getfield 39, 11, 5, 2), (.getfield 95, 10, 0, 2), (.iload_n 2, 0, 0, 0)] (by decide +kernel) rfl (And.intro g6 (And.intro g7 trivial)) ?_
    obtain ⟨g10, h⟩ := zif h
    obtain ⟨q8, e9, h⟩ := zbd h
    refine zG.callV (b := q3.2 (q3.2 x0 5) 0) (av := [(0, x2)]) (st := []) (ci := 9) hX (pX9_hasCell_ok e9) sv_11_139 rfl ⟨by decide, rfl⟩ g10 (by decide +kernel) (by rw [hRm]; exact ⟨Nat.le_of_ble_eq_true rfl, Nat.le_of_ble_eq_true rfl⟩) (by rw [hRm]; exact ⟨Nat.le_of_ble_eq_true rfl, Nat.le_of_ble_eq_true rfl⟩) (Nat.le_of_ble_eq_true rfl) ?_
    show zG C E 5 S 0 0 _ 62 [some (2, x0), some (0, x1), some (0, x2), some (0, x3), some (0, y0)] [(0, q8.1)] q8.2
    refine zG.if_eq (tgt := 82) (off := 20) hX (by decide +kernel) (by decide) (fun c11 => ?_) (fun c11 => ?_)
    · have h := zip c11 h
      exact zG.wk [false, false, false, false, false] (pX11_note_82_ok hX hRm h)
    · have h := zin c11 h
      refine zG.blk (pc' := 67) (l' := [some (2, x0), some (0, x1), some (0, x2), some (0, x3), some (0, y0)]) (st' := [(0, y0)]) (M' := q8.2) hX [(.iload 4, 0, 0, 0)] (by decide +kernel) rfl trivial ?_
      refine zG.if_eq (tgt := 82) (off := 15) hX (by decide +kernel) (by decide) (fun c12 => ?_) (fun c12 => ?_)
      · have h := zip c12 h
        exact zG.wk [false, false, false, false, false] (pX11_note_82_ok hX hRm h)
      · have h := zin c12 h
        obtain ⟨g13, h⟩ := zif h
        refine zG.blk (pc' := 79) (l' := [some (2, x0), some (0, x1), some (0, x2), some (0, x3), some (0, y0)]) (st' := [(0, 10), (0, q8.2 (q8.2 x0 5) 7)]) (M' := q8.2) hX [(.aload_n 0, 0, 0, 0), (.getfield 39, 11, 5, 2), (.getfield 231, 10, 7, 0), (.bipush 10, 0, 0, 0)] (by decide +kernel) rfl (And.intro g6 (And.intro g13 trivial)) ?_
        refine zG.icmp_lt (tgt := 85) (off := 6) hX (by decide +kernel) (by decide) (fun c14 => ?_) (fun c14 => ?_)
        · have h := zip c14 h
          refine zG.blk (pc' := 92) (l' := [some (2, x0), some (0, x1), some (0, x2), some (0, x3), some (0, y0)]) (st' := [(0, x3), (0, x2), (0, x1), (2, q8.2 x0 5)]) (M' := q8.2) hX [(.aload_n 0, 0, 0, 0), (.getfield 39, 11, 5, 2), (.iload_n 1, 0, 0, 0), (.iload_n 2, 0, 0, 0), (.iload_n 3, 0, 0, 0)] (by decide +kernel) rfl (And.intro g6 trivial) ?_
          obtain ⟨q15, e16, h⟩ := zbd h
          refine zG.callV (b := q8.2 x0 5) (av := [(0, x1), (0, x2), (0, x3)]) (st := []) (ci := 10) hX (pX10_addNote_ok e16) sv_11_234 rfl ⟨by decide, rfl⟩ g13 (by decide +kernel) (by rw [hRm]; exact ⟨Nat.le_of_ble_eq_true rfl, Nat.le_of_ble_eq_true rfl⟩) (by rw [hRm]; exact ⟨Nat.le_of_ble_eq_true rfl, Nat.le_of_ble_eq_true rfl⟩) (Nat.le_of_ble_eq_true rfl) ?_
          show zG C E 5 S 0 0 _ 95 [some (2, x0), some (0, x1), some (0, x2), some (0, x3), some (0, y0)] [] q15
          obtain ⟨g17, h⟩ := zif h
          refine zG.blk (pc' := 102) (l' := [some (2, x0), some (0, x1), some (0, x2), some (0, x3), some (0, y0)]) (st' := [(0, q15 (q15 x0 5) 7)]) (M' := q15) hX [(.aload_n 0, 0, 0, 0), (.getfield 39, 11, 5, 2), (.getfield 231, 10, 7, 0)] (by decide +kernel) rfl (And.intro g6 (And.intro g17 trivial)) ?_
          cases h
          exact zG.iret hX (by decide +kernel)
        · have h := zin c14 h
          exact zG.wk [false, false, false, false, false] (pX11_note_82_ok hX hRm h)
noncomputable def pX11_note_34 (S : ZS) (M : ZM) (x0 : Int) (x1 : Int) (x2 : Int) (x3 : Int) : Option (Int × ZM) := pX11_note_39 S M x0 x1 x2 x3 1
set_option maxHeartbeats 2000000 in
set_option maxRecDepth 20000 in
theorem pX11_note_34_ok {C : ZC} {E : ZE} {S : ZS} {q : (Int × ZM)} (hX : zCx C E 11 cX11_note 5 (some .int) false) (hRm : czR C = { frames := 2, cells := 0, slots := 0, locals := 63 }) {M : ZM} {x0 : Int} {x1 : Int} {x2 : Int} {x3 : Int} (h : pX11_note_34 S M x0 x1 x2 x3 = some q) : zG C E 5 S 0 0 (zQ C E 0 0 (some (0, q.1)) S q.2) 34 [some (2, x0), some (0, x1), some (0, x2), some (0, x3), none] [] M := by
  unfold pX11_note_34 at h
  refine zG.blk (pc' := 35) (l' := [some (2, x0), some (0, x1), some (0, x2), some (0, x3), none]) (st' := [(0, 1)]) (M' := M) hX [(.iconst 1, 0, 0, 0)] (by decide +kernel) rfl trivial ?_
  refine zG.goto (tgt := 39) (off := 4) hX (by decide +kernel) (by decide) ?_
  exact (pX11_note_39_ok hX hRm h)
noncomputable def pX11_note (S : ZS) (M : ZM) (a0 : Int) (a1 : Int) (a2 : Int) (a3 : Int) : Option (Int × ZM) := if a1 = (-1) then (if S.1 a0 = 11 then if S.1 (M a0 5) = 10 then zlet (upM M (M a0 5) 7 0) fun M26 => some (0, M26) else none else none) else (if a3 = (-1) then (pX11_note_34 S M a0 a1 a2 a3) else (if S.1 a0 = 11 then if S.1 (M a0 5) = 10 then if S.1 (M (M a0 5) 0) = 9 then (pX9_hasPen S M (M (M a0 5) 0) a3).bind fun q20 => if q20.1 = 0 then (pX11_note_39 S q20.2 a0 a1 a2 a3 0) else (pX11_note_34 S q20.2 a0 a1 a2 a3) else none else none else none))
set_option maxHeartbeats 2000000 in
set_option maxRecDepth 20000 in
theorem pX11_note_go {C : ZC} {E : ZE} {S : ZS} {M : ZM} {a0 a1 a2 a3 : Int} {q : (Int × ZM)} (hX : zCx C E 11 cX11_note 5 (some .int) false) (hRm : czR C = { frames := 2, cells := 0, slots := 0, locals := 63 }) (h : pX11_note  S M a0 a1 a2 a3 = some q) : zG C E 5 S 0 0 (zQ C E 0 0 (some (0, q.1)) S q.2) 0 [some (2, a0), some (0, a1), some (0, a2), some (0, a3), none] [] M := by
  unfold pX11_note at h
  refine zG.blk (pc' := 2) (l' := [some (2, a0), some (0, a1), some (0, a2), some (0, a3), none]) (st' := [(0, (-1)), (0, a1)]) (M' := M) hX [(.iload_n 1, 0, 0, 0), (.iconst (-1), 0, 0, 0)] (by decide +kernel) rfl trivial ?_
  refine zG.icmp_ne (tgt := 15) (off := 13) hX (by decide +kernel) (by decide) (fun c1 => ?_) (fun c1 => ?_)
  · have h := zin c1 h
    refine zG.blk (pc' := 17) (l' := [some (2, a0), some (0, a1), some (0, a2), some (0, a3), none]) (st' := [(0, (-1)), (0, a3)]) (M' := M) hX [(.iload_n 3, 0, 0, 0), (.iconst (-1), 0, 0, 0)] (by decide +kernel) rfl trivial ?_
    refine zG.icmp_eq (tgt := 34) (off := 17) hX (by decide +kernel) (by decide) (fun c2 => ?_) (fun c2 => ?_)
    · have h := zip c2 h
      exact (pX11_note_34_ok hX hRm h)
    · have h := zin c2 h
      obtain ⟨g18, h⟩ := zif h
      obtain ⟨g19, h⟩ := zif h
      refine zG.blk (pc' := 28) (l' := [some (2, a0), some (0, a1), some (0, a2), some (0, a3), none]) (st' := [(0, a3), (2, M (M a0 5) 0)]) (M' := M) hX [(.aload_n 0, 0, 0, 0), (.getfield 39, 11, 5, 2), (.getfield 95, 10, 0, 2), (.iload_n 3, 0, 0, 0)] (by decide +kernel) rfl (And.intro g18 (And.intro g19 trivial)) ?_
      obtain ⟨g22, h⟩ := zif h
      obtain ⟨q20, e21, h⟩ := zbd h
      refine zG.callV (b := M (M a0 5) 0) (av := [(0, a3)]) (st := []) (ci := 9) hX (pX9_hasPen_ok e21) sv_11_115 rfl ⟨by decide, rfl⟩ g22 (by decide +kernel) (by rw [hRm]; exact ⟨Nat.le_of_ble_eq_true rfl, Nat.le_of_ble_eq_true rfl⟩) (by rw [hRm]; exact ⟨Nat.le_of_ble_eq_true rfl, Nat.le_of_ble_eq_true rfl⟩) (Nat.le_of_ble_eq_true rfl) ?_
      show zG C E 5 S 0 0 _ 31 [some (2, a0), some (0, a1), some (0, a2), some (0, a3), none] [(0, q20.1)] q20.2
      refine zG.if_eq (tgt := 38) (off := 7) hX (by decide +kernel) (by decide) (fun c23 => ?_) (fun c23 => ?_)
      · have h := zip c23 h
        refine zG.blk (pc' := 39) (l' := [some (2, a0), some (0, a1), some (0, a2), some (0, a3), none]) (st' := [(0, 0)]) (M' := q20.2) hX [(.iconst 0, 0, 0, 0)] (by decide +kernel) rfl trivial ?_
        exact (pX11_note_39_ok hX hRm h)
      · have h := zin c23 h
        exact (pX11_note_34_ok hX hRm h)
  · have h := zip c1 h
    obtain ⟨g24, h⟩ := zif h
    obtain ⟨g25, h⟩ := zif h
    refine zG.blk (pc' := 13) (l' := [some (2, a0), some (0, a1), some (0, a2), some (0, a3), none]) (st' := []) (M' := (upM M (M a0 5) 7 0)) hX [(.aload_n 0, 0, 0, 0), (.getfield 39, 11, 5, 2), (.iconst 0, 0, 0, 0), (.putfield 231, 10, 7, 0)] (by decide +kernel) rfl (And.intro g24 (And.intro g25 trivial)) ?_
    generalize upM M (M a0 5) 7 0 = M26 at h ⊢
    have h := zlt h
    refine zG.blk (pc' := 14) (l' := [some (2, a0), some (0, a1), some (0, a2), some (0, a3), none]) (st' := [(0, 0)]) (M' := M26) hX [(.iconst 0, 0, 0, 0)] (by decide +kernel) rfl trivial ?_
    cases h
    exact zG.iret hX (by decide +kernel)
theorem pX11_note_ok {l : Launch} {E : ZE} {S : ZS} {M : ZM} {a0 a1 a2 a3 : Int} {q : (Int × ZM)} (h : pX11_note S M a0 a1 a2 a3 = some q) : zMet l yX11_note cX11_note 5 (some .int) 2 63 0 0 E S M [(2, a0), (0, a1), (0, a2), (0, a3)] (some (0, q.1)) S q.2 :=
  zMet.of (o := 11) (ini := false) (by decide +kernel) rfl (fun h => by cases h) (Nat.le_of_ble_eq_true rfl) (fun C hX hl hRm => by subst hl; exact pX11_note_go hX hRm h)
theorem sv_11_132 : zSV 11 132 yX6_isStayed cX6_isStayed 2 (some .boolean) 1 := ⟨⟨gt_at 752 (by decide +kernel) rfl, gt_at 753 (by decide +kernel) rfl, gt_at 754 (by decide +kernel) rfl, gt_at 111 (by decide +kernel) rfl, gt_at 755 (by decide +kernel) rfl⟩, by decide +kernel, by decide +kernel, by decide +kernel⟩
theorem sv_11_135 : zSV 11 135 yX6_strokesOf cX6_strokesOf 4 (some .int) 1 := ⟨⟨gt_at 756 (by decide +kernel) rfl, gt_at 757 (by decide +kernel) rfl, gt_at 758 (by decide +kernel) rfl, gt_at 111 (by decide +kernel) rfl, gt_at 759 (by decide +kernel) rfl⟩, by decide +kernel, by decide +kernel, by decide +kernel⟩
noncomputable def pX11_pen (S : ZS) (M : ZM) (a0 : Int) (a1 : Int) (a2 : Int) : Option (Int × ZM) := if S.1 a0 = 11 then if S.1 (M a0 5) = 10 then if S.1 (M (M a0 5) 0) = 9 then (pX9_hasPen S M (M (M a0 5) 0) a1).bind fun q3 => if q3.1 = 0 then (some ((-1), q3.2)) else (if a2 = 0 then (if S.1 (q3.2 a0 5) = 10 then if S.1 (q3.2 (q3.2 a0 5) 1) = 6 then if S.1 (q3.2 (q3.2 (q3.2 a0 5) 1) 0) = 100 ∧ (0 : Int) ≤ a1 ∧ a1 < S.2.1 (q3.2 (q3.2 (q3.2 a0 5) 1) 0) then some (q3.2 (q3.2 (q3.2 (q3.2 a0 5) 1) 0) a1, q3.2) else none else none else none) else if a2 = 1 then (if S.1 (q3.2 a0 5) = 10 then if S.1 (q3.2 (q3.2 a0 5) 1) = 6 then if S.1 (q3.2 (q3.2 (q3.2 a0 5) 1) 1) = 100 ∧ (0 : Int) ≤ a1 ∧ a1 < S.2.1 (q3.2 (q3.2 (q3.2 a0 5) 1) 1) then some (q3.2 (q3.2 (q3.2 (q3.2 a0 5) 1) 1) a1, q3.2) else none else none else none) else if a2 = 2 then (if S.1 (q3.2 a0 5) = 10 then if S.1 (q3.2 (q3.2 a0 5) 1) = 6 then (pX6_isStayed S q3.2 (q3.2 (q3.2 a0 5) 1) a1).bind fun q18 => some ((if q18.1 = 0 then (0 : Int) else 1), q18.2) else none else none) else if a2 = 3 then (if S.1 (q3.2 a0 5) = 10 then if S.1 (q3.2 (q3.2 a0 5) 1) = 6 then (pX6_strokesOf S q3.2 (q3.2 (q3.2 a0 5) 1) a1).bind fun q25 => some (q25.1, q25.2) else none else none) else (some ((-1), q3.2))) else none else none else none
set_option maxHeartbeats 2000000 in
set_option maxRecDepth 20000 in
theorem pX11_pen_go {C : ZC} {E : ZE} {S : ZS} {M : ZM} {a0 a1 a2 : Int} {q : (Int × ZM)} (hX : zCx C E 11 cX11_pen 3 (some .int) false) (hRm : czR C = { frames := 2, cells := 0, slots := 0, locals := 63 }) (h : pX11_pen  S M a0 a1 a2 = some q) : zG C E 3 S 0 0 (zQ C E 0 0 (some (0, q.1)) S q.2) 0 [some (2, a0), some (0, a1), some (0, a2)] [] M := by
  unfold pX11_pen at h
  obtain ⟨g1, h⟩ := zif h
  obtain ⟨g2, h⟩ := zif h
  refine zG.blk (pc' := 8) (l' := [some (2, a0), some (0, a1), some (0, a2)]) (st' := [(0, a1), (2, M (M a0 5) 0)]) (M' := M) hX [(.aload_n 0, 0, 0, 0), (.getfield 39, 11, 5, 2), (.getfield 95, 10, 0, 2), (.iload_n 1, 0, 0, 0)] (by decide +kernel) rfl (And.intro g1 (And.intro g2 trivial)) ?_
  obtain ⟨g5, h⟩ := zif h
  obtain ⟨q3, e4, h⟩ := zbd h
  refine zG.callV (b := M (M a0 5) 0) (av := [(0, a1)]) (st := []) (ci := 9) hX (pX9_hasPen_ok e4) sv_11_115 rfl ⟨by decide, rfl⟩ g5 (by decide +kernel) (by rw [hRm]; exact ⟨Nat.le_of_ble_eq_true rfl, Nat.le_of_ble_eq_true rfl⟩) (by rw [hRm]; exact ⟨Nat.le_of_ble_eq_true rfl, Nat.le_of_ble_eq_true rfl⟩) (Nat.le_of_ble_eq_true rfl) ?_
  show zG C E 3 S 0 0 _ 11 [some (2, a0), some (0, a1), some (0, a2)] [(0, q3.1)] q3.2
  refine zG.if_ne (tgt := 16) (off := 5) hX (by decide +kernel) (by decide) (fun c6 => ?_) (fun c6 => ?_)
  · have h := zin c6 h
    refine zG.blk (pc' := 17) (l' := [some (2, a0), some (0, a1), some (0, a2)]) (st' := [(0, a2)]) (M' := q3.2) hX [(.iload_n 2, 0, 0, 0)] (by decide +kernel) rfl trivial ?_
    have hs7 : decode cX11_pen 17 = .ok (.tableswitch 89 0 3 #[31, 44, 57, 77], 31) := by decide +kernel
    by_cases c8 : a2 = 0
    · have h := zip c8 h
      refine zG.tabIn (tgt := 48) hX hs7 0 c8 (by decide) rfl (by decide) ?_
      obtain ⟨g9, h⟩ := zif h
      obtain ⟨g10, h⟩ := zif h
      obtain ⟨g11, h⟩ := zif h
      refine zG.blk (pc' := 60) (l' := [some (2, a0), some (0, a1), some (0, a2)]) (st' := [(0, q3.2 (q3.2 (q3.2 (q3.2 a0 5) 1) 0) a1)]) (M' := q3.2) hX [(.aload_n 0, 0, 0, 0), (.getfield 39, 11, 5, 2), (.getfield 119, 10, 1, 2), (.getfield 123, 6, 0, 2), (.iload_n 1, 0, 0, 0), (.iaload, 0, 0, 0)] (by decide +kernel) rfl (And.intro g1 (And.intro g9 (And.intro g10 (And.intro g11 trivial)))) ?_
      cases h
      exact zG.iret hX (by decide +kernel)
    · have h := zin c8 h
      by_cases c12 : a2 = 1
      · have h := zip c12 h
        refine zG.tabIn (tgt := 61) hX hs7 1 c12 (by decide) rfl (by decide) ?_
        obtain ⟨g13, h⟩ := zif h
        obtain ⟨g14, h⟩ := zif h
        obtain ⟨g15, h⟩ := zif h
        refine zG.blk (pc' := 73) (l' := [some (2, a0), some (0, a1), some (0, a2)]) (st' := [(0, q3.2 (q3.2 (q3.2 (q3.2 a0 5) 1) 1) a1)]) (M' := q3.2) hX [(.aload_n 0, 0, 0, 0), (.getfield 39, 11, 5, 2), (.getfield 119, 10, 1, 2), (.getfield 129, 6, 1, 2), (.iload_n 1, 0, 0, 0), (.iaload, 0, 0, 0)] (by decide +kernel) rfl (And.intro g1 (And.intro g13 (And.intro g14 (And.intro g15 trivial)))) ?_
        cases h
        exact zG.iret hX (by decide +kernel)
      · have h := zin c12 h
        by_cases c16 : a2 = 2
        · have h := zip c16 h
          refine zG.tabIn (tgt := 74) hX hs7 2 c16 (by decide) rfl (by decide) ?_
          obtain ⟨g17, h⟩ := zif h
          refine zG.blk (pc' := 82) (l' := [some (2, a0), some (0, a1), some (0, a2)]) (st' := [(0, a1), (2, q3.2 (q3.2 a0 5) 1)]) (M' := q3.2) hX [(.aload_n 0, 0, 0, 0), (.getfield 39, 11, 5, 2), (.getfield 119, 10, 1, 2), (.iload_n 1, 0, 0, 0)] (by decide +kernel) rfl (And.intro g1 (And.intro g17 trivial)) ?_
          obtain ⟨g20, h⟩ := zif h
          obtain ⟨q18, e19, h⟩ := zbd h
          refine zG.callV (b := q3.2 (q3.2 a0 5) 1) (av := [(0, a1)]) (st := []) (ci := 6) hX (pX6_isStayed_ok e19) sv_11_132 rfl ⟨by decide, rfl⟩ g20 (by decide +kernel) (by rw [hRm]; exact ⟨Nat.le_of_ble_eq_true rfl, Nat.le_of_ble_eq_true rfl⟩) (by rw [hRm]; exact ⟨Nat.le_of_ble_eq_true rfl, Nat.le_of_ble_eq_true rfl⟩) (Nat.le_of_ble_eq_true rfl) ?_
          show zG C E 3 S 0 0 _ 85 [some (2, a0), some (0, a1), some (0, a2)] [(0, q18.1)] q18.2
          have key21 : zG C E 3 S 0 0 (zQ C E 0 0 (some (0, q.1)) S q.2) 93 [some (2, a0), some (0, a1), some (0, a2)] [(0, (if q18.1 = 0 then (0 : Int) else 1))] q18.2 := by
            cases h
            exact zG.iret hX (by decide +kernel)
          refine zG.if_eq (tgt := 92) (off := 7) hX (by decide +kernel) (by decide) (fun c22 => ?_) (fun c22 => ?_)
          · refine zG.blk (pc' := 93) (l' := [some (2, a0), some (0, a1), some (0, a2)]) (st' := [(0, 0)]) (M' := q18.2) hX [(.iconst 0, 0, 0, 0)] (by decide +kernel) rfl trivial ?_
            (have k := key21; simp only [if_pos c22] at k; exact k)
          · refine zG.blk (pc' := 89) (l' := [some (2, a0), some (0, a1), some (0, a2)]) (st' := [(0, 1)]) (M' := q18.2) hX [(.iconst 1, 0, 0, 0)] (by decide +kernel) rfl trivial ?_
            refine zG.goto (tgt := 93) (off := 4) hX (by decide +kernel) (by decide) ?_
            (have k := key21; simp only [if_neg c22] at k; exact k)
        · have h := zin c16 h
          by_cases c23 : a2 = 3
          · have h := zip c23 h
            refine zG.tabIn (tgt := 94) hX hs7 3 c23 (by decide) rfl (by decide) ?_
            obtain ⟨g24, h⟩ := zif h
            refine zG.blk (pc' := 102) (l' := [some (2, a0), some (0, a1), some (0, a2)]) (st' := [(0, a1), (2, q3.2 (q3.2 a0 5) 1)]) (M' := q3.2) hX [(.aload_n 0, 0, 0, 0), (.getfield 39, 11, 5, 2), (.getfield 119, 10, 1, 2), (.iload_n 1, 0, 0, 0)] (by decide +kernel) rfl (And.intro g1 (And.intro g24 trivial)) ?_
            obtain ⟨g27, h⟩ := zif h
            obtain ⟨q25, e26, h⟩ := zbd h
            refine zG.callV (b := q3.2 (q3.2 a0 5) 1) (av := [(0, a1)]) (st := []) (ci := 6) hX (pX6_strokesOf_ok e26) sv_11_135 rfl ⟨by decide, rfl⟩ g27 (by decide +kernel) (by rw [hRm]; exact ⟨Nat.le_of_ble_eq_true rfl, Nat.le_of_ble_eq_true rfl⟩) (by rw [hRm]; exact ⟨Nat.le_of_ble_eq_true rfl, Nat.le_of_ble_eq_true rfl⟩) (Nat.le_of_ble_eq_true rfl) ?_
            show zG C E 3 S 0 0 _ 105 [some (2, a0), some (0, a1), some (0, a2)] [(0, q25.1)] q25.2
            cases h
            exact zG.iret hX (by decide +kernel)
          · have h := zin c23 h
            refine zG.tabOut (tgt := 106) hX hs7 (by omega) (by decide) ?_
            refine zG.blk (pc' := 107) (l' := [some (2, a0), some (0, a1), some (0, a2)]) (st' := [(0, (-1))]) (M' := q3.2) hX [(.iconst (-1), 0, 0, 0)] (by decide +kernel) rfl trivial ?_
            cases h
            exact zG.iret hX (by decide +kernel)
  · have h := zip c6 h
    refine zG.blk (pc' := 15) (l' := [some (2, a0), some (0, a1), some (0, a2)]) (st' := [(0, (-1))]) (M' := q3.2) hX [(.iconst (-1), 0, 0, 0)] (by decide +kernel) rfl trivial ?_
    cases h
    exact zG.iret hX (by decide +kernel)
theorem pX11_pen_ok {l : Launch} {E : ZE} {S : ZS} {M : ZM} {a0 a1 a2 : Int} {q : (Int × ZM)} (h : pX11_pen S M a0 a1 a2 = some q) : zMet l yX11_pen cX11_pen 3 (some .int) 2 63 0 0 E S M [(2, a0), (0, a1), (0, a2)] (some (0, q.1)) S q.2 :=
  zMet.of (o := 11) (ini := false) (by decide +kernel) rfl (fun h => by cases h) (Nat.le_of_ble_eq_true rfl) (fun C hX hl hRm => by subst hl; exact pX11_pen_go hX hRm h)
noncomputable def pX11_pence_25 (S : ZS) (M : ZM) : Option (Int × ZM) := some ((-1), M)
set_option maxHeartbeats 2000000 in
set_option maxRecDepth 20000 in
theorem pX11_pence_25_ok {C : ZC} {E : ZE} {S : ZS} {q : (Int × ZM)} (hX : zCx C E 11 cX11_pence 3 (some .int) false) (hRm : czR C = { frames := 3, cells := 0, slots := 0, locals := 92 }) {M : ZM} (h : pX11_pence_25 S M = some q) : zG C E 3 S 0 0 (zQ C E 0 0 (some (0, q.1)) S q.2) 25 [none, none, none] [] M := by
  unfold pX11_pence_25 at h
  refine zG.blk (pc' := 26) (l' := [none, none, none]) (st' := [(0, (-1))]) (M' := M) hX [(.iconst (-1), 0, 0, 0)] (by decide +kernel) rfl trivial ?_
  cases h
  exact zG.iret hX (by decide +kernel)
theorem sv_11_223 : zSV 11 223 yX10_penceOf cX10_penceOf 10 (some .int) 2 := ⟨⟨gt_at 1017 (by decide +kernel) rfl, gt_at 1018 (by decide +kernel) rfl, gt_at 1019 (by decide +kernel) rfl, gt_at 110 (by decide +kernel) rfl, gt_at 1020 (by decide +kernel) rfl⟩, by decide +kernel, by decide +kernel, by decide +kernel⟩
noncomputable def pX11_pence (S : ZS) (M : ZM) (a0 : Int) (a1 : Int) (a2 : Int) : Option (Int × ZM) := if S.1 a0 = 11 then if S.1 (M a0 5) = 10 then if S.1 (M (M a0 5) 0) = 9 then (pX9_hasPen S M (M (M a0 5) 0) a2).bind fun q3 => if q3.1 = 0 then (pX11_pence_25 S q3.2) else ((pX11_within S q3.2 a1 0 9999).bind fun q7 => if q7.1 = 0 then (pX11_pence_25 S q7.2) else (if S.1 (q7.2 a0 5) = 10 then (pX10_penceOf S q7.2 (q7.2 a0 5) a1 a2).bind fun q10 => some (q10.1, q10.2) else none)) else none else none else none
set_option maxHeartbeats 2000000 in
set_option maxRecDepth 20000 in
theorem pX11_pence_go {C : ZC} {E : ZE} {S : ZS} {M : ZM} {a0 a1 a2 : Int} {q : (Int × ZM)} (hX : zCx C E 11 cX11_pence 3 (some .int) false) (hRm : czR C = { frames := 3, cells := 0, slots := 0, locals := 92 }) (h : pX11_pence  S M a0 a1 a2 = some q) : zG C E 3 S 0 0 (zQ C E 0 0 (some (0, q.1)) S q.2) 0 [some (2, a0), some (0, a1), some (0, a2)] [] M := by
  unfold pX11_pence at h
  obtain ⟨g1, h⟩ := zif h
  obtain ⟨g2, h⟩ := zif h
  refine zG.blk (pc' := 8) (l' := [some (2, a0), some (0, a1), some (0, a2)]) (st' := [(0, a2), (2, M (M a0 5) 0)]) (M' := M) hX [(.aload_n 0, 0, 0, 0), (.getfield 39, 11, 5, 2), (.getfield 95, 10, 0, 2), (.iload_n 2, 0, 0, 0)] (by decide +kernel) rfl (And.intro g1 (And.intro g2 trivial)) ?_
  obtain ⟨g5, h⟩ := zif h
  obtain ⟨q3, e4, h⟩ := zbd h
  refine zG.callV (b := M (M a0 5) 0) (av := [(0, a2)]) (st := []) (ci := 9) hX (pX9_hasPen_ok e4) sv_11_115 rfl ⟨by decide, rfl⟩ g5 (by decide +kernel) (by rw [hRm]; exact ⟨Nat.le_of_ble_eq_true rfl, Nat.le_of_ble_eq_true rfl⟩) (by rw [hRm]; exact ⟨Nat.le_of_ble_eq_true rfl, Nat.le_of_ble_eq_true rfl⟩) (Nat.le_of_ble_eq_true rfl) ?_
  show zG C E 3 S 0 0 _ 11 [some (2, a0), some (0, a1), some (0, a2)] [(0, q3.1)] q3.2
  refine zG.if_eq (tgt := 25) (off := 14) hX (by decide +kernel) (by decide) (fun c6 => ?_) (fun c6 => ?_)
  · have h := zip c6 h
    exact zG.wk [false, false, false] (pX11_pence_25_ok hX hRm h)
  · have h := zin c6 h
    refine zG.blk (pc' := 19) (l' := [some (2, a0), some (0, a1), some (0, a2)]) (st' := [(0, 9999), (0, 0), (0, a1)]) (M' := q3.2) hX [(.iload_n 1, 0, 0, 0), (.iconst 0, 0, 0, 0), (.sipush 9999, 0, 0, 0)] (by decide +kernel) rfl trivial ?_
    obtain ⟨q7, e8, h⟩ := zbd h
    refine zG.callS (av := [(0, a1), (0, 0), (0, 9999)]) (st := []) hX (pX11_within_ok e8) ss_11_172 rfl (by decide +kernel) (by rw [hRm]; exact ⟨Nat.le_of_ble_eq_true rfl, Nat.le_of_ble_eq_true rfl⟩) (by rw [hRm]; exact ⟨Nat.le_of_ble_eq_true rfl, Nat.le_of_ble_eq_true rfl⟩) (Nat.le_of_ble_eq_true rfl) ?_
    show zG C E 3 S 0 0 _ 22 [some (2, a0), some (0, a1), some (0, a2)] [(0, q7.1)] q7.2
    refine zG.if_ne (tgt := 27) (off := 5) hX (by decide +kernel) (by decide) (fun c9 => ?_) (fun c9 => ?_)
    · have h := zin c9 h
      refine zG.blk (pc' := 33) (l' := [some (2, a0), some (0, a1), some (0, a2)]) (st' := [(0, a2), (0, a1), (2, q7.2 a0 5)]) (M' := q7.2) hX [(.aload_n 0, 0, 0, 0), (.getfield 39, 11, 5, 2), (.iload_n 1, 0, 0, 0), (.iload_n 2, 0, 0, 0)] (by decide +kernel) rfl (And.intro g1 trivial) ?_
      obtain ⟨g12, h⟩ := zif h
      obtain ⟨q10, e11, h⟩ := zbd h
      refine zG.callV (b := q7.2 a0 5) (av := [(0, a1), (0, a2)]) (st := []) (ci := 10) hX (pX10_penceOf_ok e11) sv_11_223 rfl ⟨by decide, rfl⟩ g12 (by decide +kernel) (by rw [hRm]; exact ⟨Nat.le_of_ble_eq_true rfl, Nat.le_of_ble_eq_true rfl⟩) (by rw [hRm]; exact ⟨Nat.le_of_ble_eq_true rfl, Nat.le_of_ble_eq_true rfl⟩) (Nat.le_of_ble_eq_true rfl) ?_
      show zG C E 3 S 0 0 _ 36 [some (2, a0), some (0, a1), some (0, a2)] [(0, q10.1)] q10.2
      cases h
      exact zG.iret hX (by decide +kernel)
    · have h := zip c9 h
      exact zG.wk [false, false, false] (pX11_pence_25_ok hX hRm h)
theorem pX11_pence_ok {l : Launch} {E : ZE} {S : ZS} {M : ZM} {a0 a1 a2 : Int} {q : (Int × ZM)} (h : pX11_pence S M a0 a1 a2 = some q) : zMet l yX11_pence cX11_pence 3 (some .int) 3 92 0 0 E S M [(2, a0), (0, a1), (0, a2)] (some (0, q.1)) S q.2 :=
  zMet.of (o := 11) (ini := false) (by decide +kernel) rfl (fun h => by cases h) (Nat.le_of_ble_eq_true rfl) (fun C hX hl hRm => by subst hl; exact pX11_pence_go hX hRm h)
noncomputable def pX11_rains_65 (S : ZS) (M : ZM) : Option (Int × ZM) := some ((-1), M)
set_option maxHeartbeats 2000000 in
set_option maxRecDepth 20000 in
theorem pX11_rains_65_ok {C : ZC} {E : ZE} {S : ZS} {q : (Int × ZM)} (hX : zCx C E 11 cX11_rains 6 (some .int) false) (hRm : czR C = { frames := 6, cells := 0, slots := 0, locals := 170 }) {M : ZM} (h : pX11_rains_65 S M = some q) : zG C E 6 S 0 0 (zQ C E 0 0 (some (0, q.1)) S q.2) 65 [none, none, none, none, none, none] [] M := by
  unfold pX11_rains_65 at h
  refine zG.blk (pc' := 66) (l' := [none, none, none, none, none, none]) (st' := [(0, (-1))]) (M' := M) hX [(.iconst (-1), 0, 0, 0)] (by decide +kernel) rfl trivial ?_
  cases h
  exact zG.iret hX (by decide +kernel)
theorem sv_11_248 : zSV 11 248 yX1_summers cX1_summers 12 (some .int) 6 := ⟨⟨gt_at 1090 (by decide +kernel) rfl, gt_at 1091 (by decide +kernel) rfl, gt_at 1092 (by decide +kernel) rfl, gt_at 114 (by decide +kernel) rfl, gt_at 1093 (by decide +kernel) rfl⟩, by decide +kernel, by decide +kernel, by decide +kernel⟩
noncomputable def pX11_rains_35 (S : ZS) (M : ZM) (x0 : Int) (x1 : Int) (x2 : Int) (x3 : Int) (x4 : Int) (y0 : Int) : Option (Int × ZM) := if S.1 x0 = 11 then if S.1 (M x0 5) = 10 then if S.1 (M (M x0 5) 0) = 9 then (pX9_isThere S M (M (M x0 5) 0)).bind fun q6 => if q6.1 = 0 then (pX11_rains_65 S q6.2) else (if y0 = 0 then (pX11_rains_65 S q6.2) else ((pX11_within S q6.2 x4 0 1).bind fun q11 => if q11.1 = 0 then (pX11_rains_65 S q11.2) else ((pX11_ruleInForce S q11.2 x0).bind fun q14 => if S.1 (q11.2 x0 8) = 1 then (pX1_summers S q14.2 (q11.2 x0 8) (q11.2 x0 5) q14.1 x1 x2 x3 x4).bind fun q16 => some (q16.1, q16.2) else none))) else none else none else none
set_option maxHeartbeats 2000000 in
set_option maxRecDepth 20000 in
theorem pX11_rains_35_ok {C : ZC} {E : ZE} {S : ZS} {q : (Int × ZM)} (hX : zCx C E 11 cX11_rains 6 (some .int) false) (hRm : czR C = { frames := 6, cells := 0, slots := 0, locals := 170 }) {M : ZM} {x0 : Int} {x1 : Int} {x2 : Int} {x3 : Int} {x4 : Int} {y0 : Int} (h : pX11_rains_35 S M x0 x1 x2 x3 x4 y0 = some q) : zG C E 6 S 0 0 (zQ C E 0 0 (some (0, q.1)) S q.2) 35 [some (2, x0), some (0, x1), some (0, x2), some (0, x3), some (0, x4), none] [(0, y0)] M := by
  unfold pX11_rains_35 at h
  obtain ⟨g4, h⟩ := zif h
  obtain ⟨g5, h⟩ := zif h
  refine zG.blk (pc' := 44) (l' := [some (2, x0), some (0, x1), some (0, x2), some (0, x3), some (0, x4), some (0, y0)]) (st' := [(2, M (M x0 5) 0)]) (M' := M) hX [(.istore 5, 0, 0, 0), (.aload_n 0, 0, 0, 0), (.getfield 39, 11, 5, 2), (.getfield 95, 10, 0, 2)] (by decide +kernel) rfl (And.intro g4 (And.intro g5 trivial)) ?_
  obtain ⟨g8, h⟩ := zif h
  obtain ⟨q6, e7, h⟩ := zbd h
  refine zG.callV (b := M (M x0 5) 0) (av := []) (st := []) (ci := 9) hX (pX9_isThere_ok e7) sv_11_151 rfl ⟨by decide, rfl⟩ g8 (by decide +kernel) (by rw [hRm]; exact ⟨Nat.le_of_ble_eq_true rfl, Nat.le_of_ble_eq_true rfl⟩) (by rw [hRm]; exact ⟨Nat.le_of_ble_eq_true rfl, Nat.le_of_ble_eq_true rfl⟩) (Nat.le_of_ble_eq_true rfl) ?_
  show zG C E 6 S 0 0 _ 47 [some (2, x0), some (0, x1), some (0, x2), some (0, x3), some (0, x4), some (0, y0)] [(0, q6.1)] q6.2
  refine zG.if_eq (tgt := 65) (off := 18) hX (by decide +kernel) (by decide) (fun c9 => ?_) (fun c9 => ?_)
  · have h := zip c9 h
    exact zG.wk [false, false, false, false, false, false] (pX11_rains_65_ok hX hRm h)
  · have h := zin c9 h
    refine zG.blk (pc' := 52) (l' := [some (2, x0), some (0, x1), some (0, x2), some (0, x3), some (0, x4), some (0, y0)]) (st' := [(0, y0)]) (M' := q6.2) hX [(.iload 5, 0, 0, 0)] (by decide +kernel) rfl trivial ?_
    refine zG.if_eq (tgt := 65) (off := 13) hX (by decide +kernel) (by decide) (fun c10 => ?_) (fun c10 => ?_)
    · have h := zip c10 h
      exact zG.wk [false, false, false, false, false, false] (pX11_rains_65_ok hX hRm h)
    · have h := zin c10 h
      refine zG.blk (pc' := 59) (l' := [some (2, x0), some (0, x1), some (0, x2), some (0, x3), some (0, x4), some (0, y0)]) (st' := [(0, 1), (0, 0), (0, x4)]) (M' := q6.2) hX [(.iload 4, 0, 0, 0), (.iconst 0, 0, 0, 0), (.iconst 1, 0, 0, 0)] (by decide +kernel) rfl trivial ?_
      obtain ⟨q11, e12, h⟩ := zbd h
      refine zG.callS (av := [(0, x4), (0, 0), (0, 1)]) (st := []) hX (pX11_within_ok e12) ss_11_172 rfl (by decide +kernel) (by rw [hRm]; exact ⟨Nat.le_of_ble_eq_true rfl, Nat.le_of_ble_eq_true rfl⟩) (by rw [hRm]; exact ⟨Nat.le_of_ble_eq_true rfl, Nat.le_of_ble_eq_true rfl⟩) (Nat.le_of_ble_eq_true rfl) ?_
      show zG C E 6 S 0 0 _ 62 [some (2, x0), some (0, x1), some (0, x2), some (0, x3), some (0, x4), some (0, y0)] [(0, q11.1)] q11.2
      refine zG.if_ne (tgt := 67) (off := 5) hX (by decide +kernel) (by decide) (fun c13 => ?_) (fun c13 => ?_)
      · have h := zin c13 h
        refine zG.blk (pc' := 76) (l' := [some (2, x0), some (0, x1), some (0, x2), some (0, x3), some (0, x4), some (0, y0)]) (st' := [(2, x0), (2, q11.2 x0 5), (2, q11.2 x0 8)]) (M' := q11.2) hX [(.aload_n 0, 0, 0, 0), (.getfield 57, 11, 8, 2), (.aload_n 0, 0, 0, 0), (.getfield 39, 11, 5, 2), (.aload_n 0, 0, 0, 0)] (by decide +kernel) rfl (And.intro g4 (And.intro g4 trivial)) ?_
        obtain ⟨q14, e15, h⟩ := zbd h
        refine zG.callV (b := x0) (av := []) (st := [(2, q11.2 x0 5), (2, q11.2 x0 8)]) (ci := 11) hX (pX11_ruleInForce_ok e15) sv_11_161 rfl ⟨by decide, rfl⟩ g4 (by decide +kernel) (by rw [hRm]; exact ⟨Nat.le_of_ble_eq_true rfl, Nat.le_of_ble_eq_true rfl⟩) (by rw [hRm]; exact ⟨Nat.le_of_ble_eq_true rfl, Nat.le_of_ble_eq_true rfl⟩) (Nat.le_of_ble_eq_true rfl) ?_
        show zG C E 6 S 0 0 _ 79 [some (2, x0), some (0, x1), some (0, x2), some (0, x3), some (0, x4), some (0, y0)] [(2, q14.1), (2, q11.2 x0 5), (2, q11.2 x0 8)] q14.2
        refine zG.blk (pc' := 84) (l' := [some (2, x0), some (0, x1), some (0, x2), some (0, x3), some (0, x4), some (0, y0)]) (st' := [(0, x4), (0, x3), (0, x2), (0, x1), (2, q14.1), (2, q11.2 x0 5), (2, q11.2 x0 8)]) (M' := q14.2) hX [(.iload_n 1, 0, 0, 0), (.iload_n 2, 0, 0, 0), (.iload_n 3, 0, 0, 0), (.iload 4, 0, 0, 0)] (by decide +kernel) rfl trivial ?_
        obtain ⟨g18, h⟩ := zif h
        obtain ⟨q16, e17, h⟩ := zbd h
        refine zG.callV (b := q11.2 x0 8) (av := [(2, q11.2 x0 5), (2, q14.1), (0, x1), (0, x2), (0, x3), (0, x4)]) (st := []) (ci := 1) hX (pX1_summers_ok e17) sv_11_248 rfl ⟨by decide, rfl⟩ g18 (by decide +kernel) (by rw [hRm]; exact ⟨Nat.le_of_ble_eq_true rfl, Nat.le_of_ble_eq_true rfl⟩) (by rw [hRm]; exact ⟨Nat.le_of_ble_eq_true rfl, Nat.le_of_ble_eq_true rfl⟩) (Nat.le_of_ble_eq_true rfl) ?_
        show zG C E 6 S 0 0 _ 87 [some (2, x0), some (0, x1), some (0, x2), some (0, x3), some (0, x4), some (0, y0)] [(0, q16.1)] q16.2
        cases h
        exact zG.iret hX (by decide +kernel)
      · have h := zip c13 h
        exact zG.wk [false, false, false, false, false, false] (pX11_rains_65_ok hX hRm h)
noncomputable def pX11_rains_34 (S : ZS) (M : ZM) (x0 : Int) (x1 : Int) (x2 : Int) (x3 : Int) (x4 : Int) : Option (Int × ZM) := pX11_rains_35 S M x0 x1 x2 x3 x4 0
set_option maxHeartbeats 2000000 in
set_option maxRecDepth 20000 in
theorem pX11_rains_34_ok {C : ZC} {E : ZE} {S : ZS} {q : (Int × ZM)} (hX : zCx C E 11 cX11_rains 6 (some .int) false) (hRm : czR C = { frames := 6, cells := 0, slots := 0, locals := 170 }) {M : ZM} {x0 : Int} {x1 : Int} {x2 : Int} {x3 : Int} {x4 : Int} (h : pX11_rains_34 S M x0 x1 x2 x3 x4 = some q) : zG C E 6 S 0 0 (zQ C E 0 0 (some (0, q.1)) S q.2) 34 [some (2, x0), some (0, x1), some (0, x2), some (0, x3), some (0, x4), none] [] M := by
  unfold pX11_rains_34 at h
  refine zG.blk (pc' := 35) (l' := [some (2, x0), some (0, x1), some (0, x2), some (0, x3), some (0, x4), none]) (st' := [(0, 0)]) (M' := M) hX [(.iconst 0, 0, 0, 0)] (by decide +kernel) rfl trivial ?_
  exact (pX11_rains_35_ok hX hRm h)
noncomputable def pX11_rains (S : ZS) (M : ZM) (a0 : Int) (a1 : Int) (a2 : Int) (a3 : Int) (a4 : Int) : Option (Int × ZM) := (pX11_within S M a1 1 10).bind fun q1 => if q1.1 = 0 then (pX11_rains_34 S q1.2 a0 a1 a2 a3 a4) else ((pX11_within S q1.2 a2 1 60).bind fun q19 => if q19.1 = 0 then (pX11_rains_34 S q19.2 a0 a1 a2 a3 a4) else ((pX11_within S q19.2 a3 0 100).bind fun q22 => if q22.1 = 0 then (pX11_rains_34 S q22.2 a0 a1 a2 a3 a4) else (pX11_rains_35 S q22.2 a0 a1 a2 a3 a4 1)))
set_option maxHeartbeats 2000000 in
set_option maxRecDepth 20000 in
theorem pX11_rains_go {C : ZC} {E : ZE} {S : ZS} {M : ZM} {a0 a1 a2 a3 a4 : Int} {q : (Int × ZM)} (hX : zCx C E 11 cX11_rains 6 (some .int) false) (hRm : czR C = { frames := 6, cells := 0, slots := 0, locals := 170 }) (h : pX11_rains  S M a0 a1 a2 a3 a4 = some q) : zG C E 6 S 0 0 (zQ C E 0 0 (some (0, q.1)) S q.2) 0 [some (2, a0), some (0, a1), some (0, a2), some (0, a3), some (0, a4), none] [] M := by
  unfold pX11_rains at h
  refine zG.blk (pc' := 4) (l' := [some (2, a0), some (0, a1), some (0, a2), some (0, a3), some (0, a4), none]) (st' := [(0, 10), (0, 1), (0, a1)]) (M' := M) hX [(.iload_n 1, 0, 0, 0), (.iconst 1, 0, 0, 0), (.bipush 10, 0, 0, 0)] (by decide +kernel) rfl trivial ?_
  obtain ⟨q1, e2, h⟩ := zbd h
  refine zG.callS (av := [(0, a1), (0, 1), (0, 10)]) (st := []) hX (pX11_within_ok e2) ss_11_172 rfl (by decide +kernel) (by rw [hRm]; exact ⟨Nat.le_of_ble_eq_true rfl, Nat.le_of_ble_eq_true rfl⟩) (by rw [hRm]; exact ⟨Nat.le_of_ble_eq_true rfl, Nat.le_of_ble_eq_true rfl⟩) (Nat.le_of_ble_eq_true rfl) ?_
  show zG C E 6 S 0 0 _ 7 [some (2, a0), some (0, a1), some (0, a2), some (0, a3), some (0, a4), none] [(0, q1.1)] q1.2
  refine zG.if_eq (tgt := 34) (off := 27) hX (by decide +kernel) (by decide) (fun c3 => ?_) (fun c3 => ?_)
  · have h := zip c3 h
    exact (pX11_rains_34_ok hX hRm h)
  · have h := zin c3 h
    refine zG.blk (pc' := 14) (l' := [some (2, a0), some (0, a1), some (0, a2), some (0, a3), some (0, a4), none]) (st' := [(0, 60), (0, 1), (0, a2)]) (M' := q1.2) hX [(.iload_n 2, 0, 0, 0), (.iconst 1, 0, 0, 0), (.bipush 60, 0, 0, 0)] (by decide +kernel) rfl trivial ?_
    obtain ⟨q19, e20, h⟩ := zbd h
    refine zG.callS (av := [(0, a2), (0, 1), (0, 60)]) (st := []) hX (pX11_within_ok e20) ss_11_172 rfl (by decide +kernel) (by rw [hRm]; exact ⟨Nat.le_of_ble_eq_true rfl, Nat.le_of_ble_eq_true rfl⟩) (by rw [hRm]; exact ⟨Nat.le_of_ble_eq_true rfl, Nat.le_of_ble_eq_true rfl⟩) (Nat.le_of_ble_eq_true rfl) ?_
    show zG C E 6 S 0 0 _ 17 [some (2, a0), some (0, a1), some (0, a2), some (0, a3), some (0, a4), none] [(0, q19.1)] q19.2
    refine zG.if_eq (tgt := 34) (off := 17) hX (by decide +kernel) (by decide) (fun c21 => ?_) (fun c21 => ?_)
    · have h := zip c21 h
      exact (pX11_rains_34_ok hX hRm h)
    · have h := zin c21 h
      refine zG.blk (pc' := 24) (l' := [some (2, a0), some (0, a1), some (0, a2), some (0, a3), some (0, a4), none]) (st' := [(0, 100), (0, 0), (0, a3)]) (M' := q19.2) hX [(.iload_n 3, 0, 0, 0), (.iconst 0, 0, 0, 0), (.bipush 100, 0, 0, 0)] (by decide +kernel) rfl trivial ?_
      obtain ⟨q22, e23, h⟩ := zbd h
      refine zG.callS (av := [(0, a3), (0, 0), (0, 100)]) (st := []) hX (pX11_within_ok e23) ss_11_172 rfl (by decide +kernel) (by rw [hRm]; exact ⟨Nat.le_of_ble_eq_true rfl, Nat.le_of_ble_eq_true rfl⟩) (by rw [hRm]; exact ⟨Nat.le_of_ble_eq_true rfl, Nat.le_of_ble_eq_true rfl⟩) (Nat.le_of_ble_eq_true rfl) ?_
      show zG C E 6 S 0 0 _ 27 [some (2, a0), some (0, a1), some (0, a2), some (0, a3), some (0, a4), none] [(0, q22.1)] q22.2
      refine zG.if_eq (tgt := 34) (off := 7) hX (by decide +kernel) (by decide) (fun c24 => ?_) (fun c24 => ?_)
      · have h := zip c24 h
        exact (pX11_rains_34_ok hX hRm h)
      · have h := zin c24 h
        refine zG.blk (pc' := 31) (l' := [some (2, a0), some (0, a1), some (0, a2), some (0, a3), some (0, a4), none]) (st' := [(0, 1)]) (M' := q22.2) hX [(.iconst 1, 0, 0, 0)] (by decide +kernel) rfl trivial ?_
        refine zG.goto (tgt := 35) (off := 4) hX (by decide +kernel) (by decide) ?_
        exact (pX11_rains_35_ok hX hRm h)
theorem pX11_rains_ok {l : Launch} {E : ZE} {S : ZS} {M : ZM} {a0 a1 a2 a3 a4 : Int} {q : (Int × ZM)} (h : pX11_rains S M a0 a1 a2 a3 a4 = some q) : zMet l yX11_rains cX11_rains 6 (some .int) 6 170 0 0 E S M [(2, a0), (0, a1), (0, a2), (0, a3), (0, a4)] (some (0, q.1)) S q.2 :=
  zMet.of (o := 11) (ini := false) (by decide +kernel) rfl (fun h => by cases h) (Nat.le_of_ble_eq_true rfl) (fun C hX hl hRm => by subst hl; exact pX11_rains_go hX hRm h)
noncomputable def pX11_read_32 (S : ZS) (M : ZM) : Option (Int × ZM) := some ((-1), M)
set_option maxHeartbeats 2000000 in
set_option maxRecDepth 20000 in
theorem pX11_read_32_ok {C : ZC} {E : ZE} {S : ZS} {q : (Int × ZM)} (hX : zCx C E 11 cX11_read 3 (some .int) false) (hRm : czR C = { frames := 7, cells := 0, slots := 0, locals := 190 }) {M : ZM} (h : pX11_read_32 S M = some q) : zG C E 3 S 0 0 (zQ C E 0 0 (some (0, q.1)) S q.2) 32 [none, none, none] [] M := by
  unfold pX11_read_32 at h
  refine zG.blk (pc' := 33) (l' := [none, none, none]) (st' := [(0, (-1))]) (M' := M) hX [(.iconst (-1), 0, 0, 0)] (by decide +kernel) rfl trivial ?_
  cases h
  exact zG.iret hX (by decide +kernel)
theorem sv_11_227 : zSV 11 227 yX2_bestToRead cX2_bestToRead 7 (some .int) 5 := ⟨⟨gt_at 1027 (by decide +kernel) rfl, gt_at 1028 (by decide +kernel) rfl, gt_at 1029 (by decide +kernel) rfl, gt_at 115 (by decide +kernel) rfl, gt_at 1030 (by decide +kernel) rfl⟩, by decide +kernel, by decide +kernel, by decide +kernel⟩
noncomputable def pX11_read (S : ZS) (M : ZM) (a0 : Int) (a1 : Int) (a2 : Int) : Option (Int × ZM) := if S.1 a0 = 11 then if S.1 (M a0 5) = 10 then if S.1 (M (M a0 5) 0) = 9 then (pX9_isThere S M (M (M a0 5) 0)).bind fun q3 => if q3.1 = 0 then (pX11_read_32 S q3.2) else ((pX11_within S q3.2 a1 1 60).bind fun q7 => if q7.1 = 0 then (pX11_read_32 S q7.2) else ((pX11_within S q7.2 a2 0 1).bind fun q10 => if q10.1 = 0 then (pX11_read_32 S q10.2) else (if S.1 (q10.2 a0 9) = 2 then (pX2_bestToRead S q10.2 (q10.2 a0 9) (q10.2 a0 5) (q10.2 a0 3) (q10.2 a0 4) a1 a2).bind fun q13 => some (q13.1, q13.2) else none))) else none else none else none
set_option maxHeartbeats 2000000 in
set_option maxRecDepth 20000 in
theorem pX11_read_go {C : ZC} {E : ZE} {S : ZS} {M : ZM} {a0 a1 a2 : Int} {q : (Int × ZM)} (hX : zCx C E 11 cX11_read 3 (some .int) false) (hRm : czR C = { frames := 7, cells := 0, slots := 0, locals := 190 }) (h : pX11_read  S M a0 a1 a2 = some q) : zG C E 3 S 0 0 (zQ C E 0 0 (some (0, q.1)) S q.2) 0 [some (2, a0), some (0, a1), some (0, a2)] [] M := by
  unfold pX11_read at h
  obtain ⟨g1, h⟩ := zif h
  obtain ⟨g2, h⟩ := zif h
  refine zG.blk (pc' := 7) (l' := [some (2, a0), some (0, a1), some (0, a2)]) (st' := [(2, M (M a0 5) 0)]) (M' := M) hX [(.aload_n 0, 0, 0, 0), (.getfield 39, 11, 5, 2), (.getfield 95, 10, 0, 2)] (by decide +kernel) rfl (And.intro g1 (And.intro g2 trivial)) ?_
  obtain ⟨g5, h⟩ := zif h
  obtain ⟨q3, e4, h⟩ := zbd h
  refine zG.callV (b := M (M a0 5) 0) (av := []) (st := []) (ci := 9) hX (pX9_isThere_ok e4) sv_11_151 rfl ⟨by decide, rfl⟩ g5 (by decide +kernel) (by rw [hRm]; exact ⟨Nat.le_of_ble_eq_true rfl, Nat.le_of_ble_eq_true rfl⟩) (by rw [hRm]; exact ⟨Nat.le_of_ble_eq_true rfl, Nat.le_of_ble_eq_true rfl⟩) (Nat.le_of_ble_eq_true rfl) ?_
  show zG C E 3 S 0 0 _ 10 [some (2, a0), some (0, a1), some (0, a2)] [(0, q3.1)] q3.2
  refine zG.if_eq (tgt := 32) (off := 22) hX (by decide +kernel) (by decide) (fun c6 => ?_) (fun c6 => ?_)
  · have h := zip c6 h
    exact zG.wk [false, false, false] (pX11_read_32_ok hX hRm h)
  · have h := zin c6 h
    refine zG.blk (pc' := 17) (l' := [some (2, a0), some (0, a1), some (0, a2)]) (st' := [(0, 60), (0, 1), (0, a1)]) (M' := q3.2) hX [(.iload_n 1, 0, 0, 0), (.iconst 1, 0, 0, 0), (.bipush 60, 0, 0, 0)] (by decide +kernel) rfl trivial ?_
    obtain ⟨q7, e8, h⟩ := zbd h
    refine zG.callS (av := [(0, a1), (0, 1), (0, 60)]) (st := []) hX (pX11_within_ok e8) ss_11_172 rfl (by decide +kernel) (by rw [hRm]; exact ⟨Nat.le_of_ble_eq_true rfl, Nat.le_of_ble_eq_true rfl⟩) (by rw [hRm]; exact ⟨Nat.le_of_ble_eq_true rfl, Nat.le_of_ble_eq_true rfl⟩) (Nat.le_of_ble_eq_true rfl) ?_
    show zG C E 3 S 0 0 _ 20 [some (2, a0), some (0, a1), some (0, a2)] [(0, q7.1)] q7.2
    refine zG.if_eq (tgt := 32) (off := 12) hX (by decide +kernel) (by decide) (fun c9 => ?_) (fun c9 => ?_)
    · have h := zip c9 h
      exact zG.wk [false, false, false] (pX11_read_32_ok hX hRm h)
    · have h := zin c9 h
      refine zG.blk (pc' := 26) (l' := [some (2, a0), some (0, a1), some (0, a2)]) (st' := [(0, 1), (0, 0), (0, a2)]) (M' := q7.2) hX [(.iload_n 2, 0, 0, 0), (.iconst 0, 0, 0, 0), (.iconst 1, 0, 0, 0)] (by decide +kernel) rfl trivial ?_
      obtain ⟨q10, e11, h⟩ := zbd h
      refine zG.callS (av := [(0, a2), (0, 0), (0, 1)]) (st := []) hX (pX11_within_ok e11) ss_11_172 rfl (by decide +kernel) (by rw [hRm]; exact ⟨Nat.le_of_ble_eq_true rfl, Nat.le_of_ble_eq_true rfl⟩) (by rw [hRm]; exact ⟨Nat.le_of_ble_eq_true rfl, Nat.le_of_ble_eq_true rfl⟩) (Nat.le_of_ble_eq_true rfl) ?_
      show zG C E 3 S 0 0 _ 29 [some (2, a0), some (0, a1), some (0, a2)] [(0, q10.1)] q10.2
      refine zG.if_ne (tgt := 34) (off := 5) hX (by decide +kernel) (by decide) (fun c12 => ?_) (fun c12 => ?_)
      · have h := zin c12 h
        refine zG.blk (pc' := 52) (l' := [some (2, a0), some (0, a1), some (0, a2)]) (st' := [(0, a2), (0, a1), (0, q10.2 a0 4), (2, q10.2 a0 3), (2, q10.2 a0 5), (2, q10.2 a0 9)]) (M' := q10.2) hX [(.aload_n 0, 0, 0, 0), (.getfield 64, 11, 9, 2), (.aload_n 0, 0, 0, 0), (.getfield 39, 11, 5, 2), (.aload_n 0, 0, 0, 0), (.getfield 32, 11, 3, 2), (.aload_n 0, 0, 0, 0), (.getfield 101, 11, 4, 0), (.iload_n 1, 0, 0, 0), (.iload_n 2, 0, 0, 0)] (by decide +kernel) rfl (And.intro g1 (And.intro g1 (And.intro g1 (And.intro g1 trivial)))) ?_
        obtain ⟨g15, h⟩ := zif h
        obtain ⟨q13, e14, h⟩ := zbd h
        refine zG.callV (b := q10.2 a0 9) (av := [(2, q10.2 a0 5), (2, q10.2 a0 3), (0, q10.2 a0 4), (0, a1), (0, a2)]) (st := []) (ci := 2) hX (pX2_bestToRead_ok e14) sv_11_227 rfl ⟨by decide, rfl⟩ g15 (by decide +kernel) (by rw [hRm]; exact ⟨Nat.le_of_ble_eq_true rfl, Nat.le_of_ble_eq_true rfl⟩) (by rw [hRm]; exact ⟨Nat.le_of_ble_eq_true rfl, Nat.le_of_ble_eq_true rfl⟩) (Nat.le_of_ble_eq_true rfl) ?_
        show zG C E 3 S 0 0 _ 55 [some (2, a0), some (0, a1), some (0, a2)] [(0, q13.1)] q13.2
        cases h
        exact zG.iret hX (by decide +kernel)
      · have h := zip c12 h
        exact zG.wk [false, false, false] (pX11_read_32_ok hX hRm h)
theorem pX11_read_ok {l : Launch} {E : ZE} {S : ZS} {M : ZM} {a0 a1 a2 : Int} {q : (Int × ZM)} (h : pX11_read S M a0 a1 a2 = some q) : zMet l yX11_read cX11_read 3 (some .int) 7 190 0 0 E S M [(2, a0), (0, a1), (0, a2)] (some (0, q.1)) S q.2 :=
  zMet.of (o := 11) (ini := false) (by decide +kernel) rfl (fun h => by cases h) (Nat.le_of_ble_eq_true rfl) (fun C hX hl hRm => by subst hl; exact pX11_read_go hX hRm h)
theorem sv_11_212 : zSV 11 212 yX11_areTwoPens cX11_areTwoPens 3 (some .boolean) 2 := ⟨⟨gt_at 977 (by decide +kernel) rfl, gt_at 979 (by decide +kernel) rfl, gt_at 26 (by decide +kernel) rfl, gt_at 105 (by decide +kernel) rfl, gt_at 980 (by decide +kernel) rfl⟩, by decide +kernel, by decide +kernel, by decide +kernel⟩
noncomputable def pX11_rests_29 (S : ZS) (M : ZM) : Option (Int × ZM) := some ((-1), M)
set_option maxHeartbeats 2000000 in
set_option maxRecDepth 20000 in
theorem pX11_rests_29_ok {C : ZC} {E : ZE} {S : ZS} {q : (Int × ZM)} (hX : zCx C E 11 cX11_rests 5 (some .int) false) (hRm : czR C = { frames := 7, cells := 0, slots := 0, locals := 193 }) {M : ZM} (h : pX11_rests_29 S M = some q) : zG C E 5 S 0 0 (zQ C E 0 0 (some (0, q.1)) S q.2) 29 [none, none, none, none, none] [] M := by
  unfold pX11_rests_29 at h
  refine zG.blk (pc' := 30) (l' := [none, none, none, none, none]) (st' := [(0, (-1))]) (M' := M) hX [(.iconst (-1), 0, 0, 0)] (by decide +kernel) rfl trivial ?_
  cases h
  exact zG.iret hX (by decide +kernel)
theorem sv_11_219 : zSV 11 219 yX1_restsOfTwo cX1_restsOfTwo 10 (some .int) 6 := ⟨⟨gt_at 1004 (by decide +kernel) rfl, gt_at 1005 (by decide +kernel) rfl, gt_at 1006 (by decide +kernel) rfl, gt_at 114 (by decide +kernel) rfl, gt_at 1007 (by decide +kernel) rfl⟩, by decide +kernel, by decide +kernel, by decide +kernel⟩
noncomputable def pX11_rests (S : ZS) (M : ZM) (a0 : Int) (a1 : Int) (a2 : Int) (a3 : Int) (a4 : Int) : Option (Int × ZM) := if S.1 a0 = 11 then (pX11_areTwoPens S M a0 a1 a2).bind fun q1 => if q1.1 = 0 then (pX11_rests_29 S q1.2) else ((pX11_within S q1.2 a3 1 20).bind fun q5 => if q5.1 = 0 then (pX11_rests_29 S q5.2) else ((pX11_within S q5.2 a4 0 2).bind fun q8 => if q8.1 = 0 then (pX11_rests_29 S q8.2) else ((pX11_ruleInForce S q8.2 a0).bind fun q11 => if S.1 (q8.2 a0 8) = 1 then (pX1_restsOfTwo S q11.2 (q8.2 a0 8) (q8.2 a0 5) q11.1 a1 a2 a3 a4).bind fun q13 => some (q13.1, q13.2) else none))) else none
set_option maxHeartbeats 2000000 in
set_option maxRecDepth 20000 in
theorem pX11_rests_go {C : ZC} {E : ZE} {S : ZS} {M : ZM} {a0 a1 a2 a3 a4 : Int} {q : (Int × ZM)} (hX : zCx C E 11 cX11_rests 5 (some .int) false) (hRm : czR C = { frames := 7, cells := 0, slots := 0, locals := 193 }) (h : pX11_rests  S M a0 a1 a2 a3 a4 = some q) : zG C E 5 S 0 0 (zQ C E 0 0 (some (0, q.1)) S q.2) 0 [some (2, a0), some (0, a1), some (0, a2), some (0, a3), some (0, a4)] [] M := by
  unfold pX11_rests at h
  refine zG.blk (pc' := 3) (l' := [some (2, a0), some (0, a1), some (0, a2), some (0, a3), some (0, a4)]) (st' := [(0, a2), (0, a1), (2, a0)]) (M' := M) hX [(.aload_n 0, 0, 0, 0), (.iload_n 1, 0, 0, 0), (.iload_n 2, 0, 0, 0)] (by decide +kernel) rfl trivial ?_
  obtain ⟨g3, h⟩ := zif h
  obtain ⟨q1, e2, h⟩ := zbd h
  refine zG.callV (b := a0) (av := [(0, a1), (0, a2)]) (st := []) (ci := 11) hX (pX11_areTwoPens_ok e2) sv_11_212 rfl ⟨by decide, rfl⟩ g3 (by decide +kernel) (by rw [hRm]; exact ⟨Nat.le_of_ble_eq_true rfl, Nat.le_of_ble_eq_true rfl⟩) (by rw [hRm]; exact ⟨Nat.le_of_ble_eq_true rfl, Nat.le_of_ble_eq_true rfl⟩) (Nat.le_of_ble_eq_true rfl) ?_
  show zG C E 5 S 0 0 _ 6 [some (2, a0), some (0, a1), some (0, a2), some (0, a3), some (0, a4)] [(0, q1.1)] q1.2
  refine zG.if_eq (tgt := 29) (off := 23) hX (by decide +kernel) (by decide) (fun c4 => ?_) (fun c4 => ?_)
  · have h := zip c4 h
    exact zG.wk [false, false, false, false, false] (pX11_rests_29_ok hX hRm h)
  · have h := zin c4 h
    refine zG.blk (pc' := 13) (l' := [some (2, a0), some (0, a1), some (0, a2), some (0, a3), some (0, a4)]) (st' := [(0, 20), (0, 1), (0, a3)]) (M' := q1.2) hX [(.iload_n 3, 0, 0, 0), (.iconst 1, 0, 0, 0), (.bipush 20, 0, 0, 0)] (by decide +kernel) rfl trivial ?_
    obtain ⟨q5, e6, h⟩ := zbd h
    refine zG.callS (av := [(0, a3), (0, 1), (0, 20)]) (st := []) hX (pX11_within_ok e6) ss_11_172 rfl (by decide +kernel) (by rw [hRm]; exact ⟨Nat.le_of_ble_eq_true rfl, Nat.le_of_ble_eq_true rfl⟩) (by rw [hRm]; exact ⟨Nat.le_of_ble_eq_true rfl, Nat.le_of_ble_eq_true rfl⟩) (Nat.le_of_ble_eq_true rfl) ?_
    show zG C E 5 S 0 0 _ 16 [some (2, a0), some (0, a1), some (0, a2), some (0, a3), some (0, a4)] [(0, q5.1)] q5.2
    refine zG.if_eq (tgt := 29) (off := 13) hX (by decide +kernel) (by decide) (fun c7 => ?_) (fun c7 => ?_)
    · have h := zip c7 h
      exact zG.wk [false, false, false, false, false] (pX11_rests_29_ok hX hRm h)
    · have h := zin c7 h
      refine zG.blk (pc' := 23) (l' := [some (2, a0), some (0, a1), some (0, a2), some (0, a3), some (0, a4)]) (st' := [(0, 2), (0, 0), (0, a4)]) (M' := q5.2) hX [(.iload 4, 0, 0, 0), (.iconst 0, 0, 0, 0), (.iconst 2, 0, 0, 0)] (by decide +kernel) rfl trivial ?_
      obtain ⟨q8, e9, h⟩ := zbd h
      refine zG.callS (av := [(0, a4), (0, 0), (0, 2)]) (st := []) hX (pX11_within_ok e9) ss_11_172 rfl (by decide +kernel) (by rw [hRm]; exact ⟨Nat.le_of_ble_eq_true rfl, Nat.le_of_ble_eq_true rfl⟩) (by rw [hRm]; exact ⟨Nat.le_of_ble_eq_true rfl, Nat.le_of_ble_eq_true rfl⟩) (Nat.le_of_ble_eq_true rfl) ?_
      show zG C E 5 S 0 0 _ 26 [some (2, a0), some (0, a1), some (0, a2), some (0, a3), some (0, a4)] [(0, q8.1)] q8.2
      refine zG.if_ne (tgt := 31) (off := 5) hX (by decide +kernel) (by decide) (fun c10 => ?_) (fun c10 => ?_)
      · have h := zin c10 h
        refine zG.blk (pc' := 40) (l' := [some (2, a0), some (0, a1), some (0, a2), some (0, a3), some (0, a4)]) (st' := [(2, a0), (2, q8.2 a0 5), (2, q8.2 a0 8)]) (M' := q8.2) hX [(.aload_n 0, 0, 0, 0), (.getfield 57, 11, 8, 2), (.aload_n 0, 0, 0, 0), (.getfield 39, 11, 5, 2), (.aload_n 0, 0, 0, 0)] (by decide +kernel) rfl (And.intro g3 (And.intro g3 trivial)) ?_
        obtain ⟨q11, e12, h⟩ := zbd h
        refine zG.callV (b := a0) (av := []) (st := [(2, q8.2 a0 5), (2, q8.2 a0 8)]) (ci := 11) hX (pX11_ruleInForce_ok e12) sv_11_161 rfl ⟨by decide, rfl⟩ g3 (by decide +kernel) (by rw [hRm]; exact ⟨Nat.le_of_ble_eq_true rfl, Nat.le_of_ble_eq_true rfl⟩) (by rw [hRm]; exact ⟨Nat.le_of_ble_eq_true rfl, Nat.le_of_ble_eq_true rfl⟩) (Nat.le_of_ble_eq_true rfl) ?_
        show zG C E 5 S 0 0 _ 43 [some (2, a0), some (0, a1), some (0, a2), some (0, a3), some (0, a4)] [(2, q11.1), (2, q8.2 a0 5), (2, q8.2 a0 8)] q11.2
        refine zG.blk (pc' := 48) (l' := [some (2, a0), some (0, a1), some (0, a2), some (0, a3), some (0, a4)]) (st' := [(0, a4), (0, a3), (0, a2), (0, a1), (2, q11.1), (2, q8.2 a0 5), (2, q8.2 a0 8)]) (M' := q11.2) hX [(.iload_n 1, 0, 0, 0), (.iload_n 2, 0, 0, 0), (.iload_n 3, 0, 0, 0), (.iload 4, 0, 0, 0)] (by decide +kernel) rfl trivial ?_
        obtain ⟨g15, h⟩ := zif h
        obtain ⟨q13, e14, h⟩ := zbd h
        refine zG.callV (b := q8.2 a0 8) (av := [(2, q8.2 a0 5), (2, q11.1), (0, a1), (0, a2), (0, a3), (0, a4)]) (st := []) (ci := 1) hX (pX1_restsOfTwo_ok e14) sv_11_219 rfl ⟨by decide, rfl⟩ g15 (by decide +kernel) (by rw [hRm]; exact ⟨Nat.le_of_ble_eq_true rfl, Nat.le_of_ble_eq_true rfl⟩) (by rw [hRm]; exact ⟨Nat.le_of_ble_eq_true rfl, Nat.le_of_ble_eq_true rfl⟩) (Nat.le_of_ble_eq_true rfl) ?_
        show zG C E 5 S 0 0 _ 51 [some (2, a0), some (0, a1), some (0, a2), some (0, a3), some (0, a4)] [(0, q13.1)] q13.2
        cases h
        exact zG.iret hX (by decide +kernel)
      · have h := zip c10 h
        exact zG.wk [false, false, false, false, false] (pX11_rests_29_ok hX hRm h)
theorem pX11_rests_ok {l : Launch} {E : ZE} {S : ZS} {M : ZM} {a0 a1 a2 a3 a4 : Int} {q : (Int × ZM)} (h : pX11_rests S M a0 a1 a2 a3 a4 = some q) : zMet l yX11_rests cX11_rests 5 (some .int) 7 193 0 0 E S M [(2, a0), (0, a1), (0, a2), (0, a3), (0, a4)] (some (0, q.1)) S q.2 :=
  zMet.of (o := 11) (ini := false) (by decide +kernel) rfl (fun h => by cases h) (Nat.le_of_ble_eq_true rfl) (fun C hX hl hRm => by subst hl; exact pX11_rests_go hX hRm h)
noncomputable def pX11_ruled_22 (S : ZS) (M : ZM) : Option (Int × ZM) := some ((-3), M)
set_option maxHeartbeats 2000000 in
set_option maxRecDepth 20000 in
theorem pX11_ruled_22_ok {C : ZC} {E : ZE} {S : ZS} {q : (Int × ZM)} (hX : zCx C E 11 cX11_ruled 2 (some .int) false) (hRm : czR C = { frames := 7, cells := 0, slots := 0, locals := 190 }) {M : ZM} (h : pX11_ruled_22 S M = some q) : zG C E 2 S 0 0 (zQ C E 0 0 (some (0, q.1)) S q.2) 22 [none, none] [] M := by
  unfold pX11_ruled_22 at h
  refine zG.blk (pc' := 24) (l' := [none, none]) (st' := [(0, (-3))]) (M' := M) hX [(.bipush (-3), 0, 0, 0)] (by decide +kernel) rfl trivial ?_
  cases h
  exact zG.iret hX (by decide +kernel)
theorem sv_11_238 : zSV 11 238 yX2_agreeing cX2_agreeing 8 (some .int) 4 := ⟨⟨gt_at 1060 (by decide +kernel) rfl, gt_at 1061 (by decide +kernel) rfl, gt_at 1062 (by decide +kernel) rfl, gt_at 115 (by decide +kernel) rfl, gt_at 1063 (by decide +kernel) rfl⟩, by decide +kernel, by decide +kernel, by decide +kernel⟩
noncomputable def pX11_ruled (S : ZS) (M : ZM) (a0 : Int) (a1 : Int) : Option (Int × ZM) := if S.1 a0 = 11 then if S.1 (M a0 5) = 10 then if S.1 (M (M a0 5) 0) = 9 then (pX9_isThere S M (M (M a0 5) 0)).bind fun q3 => if q3.1 = 0 then (pX11_ruled_22 S q3.2) else ((pX11_within S q3.2 a1 0 1).bind fun q7 => if q7.1 = 0 then (pX11_ruled_22 S q7.2) else (if S.1 (q7.2 a0 9) = 2 then (pX2_agreeing S q7.2 (q7.2 a0 9) (q7.2 a0 5) (q7.2 a0 3) (q7.2 a0 4) a1).bind fun q10 => some (q10.1, q10.2) else none)) else none else none else none
set_option maxHeartbeats 2000000 in
set_option maxRecDepth 20000 in
theorem pX11_ruled_go {C : ZC} {E : ZE} {S : ZS} {M : ZM} {a0 a1 : Int} {q : (Int × ZM)} (hX : zCx C E 11 cX11_ruled 2 (some .int) false) (hRm : czR C = { frames := 7, cells := 0, slots := 0, locals := 190 }) (h : pX11_ruled  S M a0 a1 = some q) : zG C E 2 S 0 0 (zQ C E 0 0 (some (0, q.1)) S q.2) 0 [some (2, a0), some (0, a1)] [] M := by
  unfold pX11_ruled at h
  obtain ⟨g1, h⟩ := zif h
  obtain ⟨g2, h⟩ := zif h
  refine zG.blk (pc' := 7) (l' := [some (2, a0), some (0, a1)]) (st' := [(2, M (M a0 5) 0)]) (M' := M) hX [(.aload_n 0, 0, 0, 0), (.getfield 39, 11, 5, 2), (.getfield 95, 10, 0, 2)] (by decide +kernel) rfl (And.intro g1 (And.intro g2 trivial)) ?_
  obtain ⟨g5, h⟩ := zif h
  obtain ⟨q3, e4, h⟩ := zbd h
  refine zG.callV (b := M (M a0 5) 0) (av := []) (st := []) (ci := 9) hX (pX9_isThere_ok e4) sv_11_151 rfl ⟨by decide, rfl⟩ g5 (by decide +kernel) (by rw [hRm]; exact ⟨Nat.le_of_ble_eq_true rfl, Nat.le_of_ble_eq_true rfl⟩) (by rw [hRm]; exact ⟨Nat.le_of_ble_eq_true rfl, Nat.le_of_ble_eq_true rfl⟩) (Nat.le_of_ble_eq_true rfl) ?_
  show zG C E 2 S 0 0 _ 10 [some (2, a0), some (0, a1)] [(0, q3.1)] q3.2
  refine zG.if_eq (tgt := 22) (off := 12) hX (by decide +kernel) (by decide) (fun c6 => ?_) (fun c6 => ?_)
  · have h := zip c6 h
    exact zG.wk [false, false] (pX11_ruled_22_ok hX hRm h)
  · have h := zin c6 h
    refine zG.blk (pc' := 16) (l' := [some (2, a0), some (0, a1)]) (st' := [(0, 1), (0, 0), (0, a1)]) (M' := q3.2) hX [(.iload_n 1, 0, 0, 0), (.iconst 0, 0, 0, 0), (.iconst 1, 0, 0, 0)] (by decide +kernel) rfl trivial ?_
    obtain ⟨q7, e8, h⟩ := zbd h
    refine zG.callS (av := [(0, a1), (0, 0), (0, 1)]) (st := []) hX (pX11_within_ok e8) ss_11_172 rfl (by decide +kernel) (by rw [hRm]; exact ⟨Nat.le_of_ble_eq_true rfl, Nat.le_of_ble_eq_true rfl⟩) (by rw [hRm]; exact ⟨Nat.le_of_ble_eq_true rfl, Nat.le_of_ble_eq_true rfl⟩) (Nat.le_of_ble_eq_true rfl) ?_
    show zG C E 2 S 0 0 _ 19 [some (2, a0), some (0, a1)] [(0, q7.1)] q7.2
    refine zG.if_ne (tgt := 25) (off := 6) hX (by decide +kernel) (by decide) (fun c9 => ?_) (fun c9 => ?_)
    · have h := zin c9 h
      refine zG.blk (pc' := 42) (l' := [some (2, a0), some (0, a1)]) (st' := [(0, a1), (0, q7.2 a0 4), (2, q7.2 a0 3), (2, q7.2 a0 5), (2, q7.2 a0 9)]) (M' := q7.2) hX [(.aload_n 0, 0, 0, 0), (.getfield 64, 11, 9, 2), (.aload_n 0, 0, 0, 0), (.getfield 39, 11, 5, 2), (.aload_n 0, 0, 0, 0), (.getfield 32, 11, 3, 2), (.aload_n 0, 0, 0, 0), (.getfield 101, 11, 4, 0), (.iload_n 1, 0, 0, 0)] (by decide +kernel) rfl (And.intro g1 (And.intro g1 (And.intro g1 (And.intro g1 trivial)))) ?_
      obtain ⟨g12, h⟩ := zif h
      obtain ⟨q10, e11, h⟩ := zbd h
      refine zG.callV (b := q7.2 a0 9) (av := [(2, q7.2 a0 5), (2, q7.2 a0 3), (0, q7.2 a0 4), (0, a1)]) (st := []) (ci := 2) hX (pX2_agreeing_ok e11) sv_11_238 rfl ⟨by decide, rfl⟩ g12 (by decide +kernel) (by rw [hRm]; exact ⟨Nat.le_of_ble_eq_true rfl, Nat.le_of_ble_eq_true rfl⟩) (by rw [hRm]; exact ⟨Nat.le_of_ble_eq_true rfl, Nat.le_of_ble_eq_true rfl⟩) (Nat.le_of_ble_eq_true rfl) ?_
      show zG C E 2 S 0 0 _ 45 [some (2, a0), some (0, a1)] [(0, q10.1)] q10.2
      cases h
      exact zG.iret hX (by decide +kernel)
    · have h := zip c9 h
      exact zG.wk [false, false] (pX11_ruled_22_ok hX hRm h)
theorem pX11_ruled_ok {l : Launch} {E : ZE} {S : ZS} {M : ZM} {a0 a1 : Int} {q : (Int × ZM)} (h : pX11_ruled S M a0 a1 = some q) : zMet l yX11_ruled cX11_ruled 2 (some .int) 7 190 0 0 E S M [(2, a0), (0, a1)] (some (0, q.1)) S q.2 :=
  zMet.of (o := 11) (ini := false) (by decide +kernel) rfl (fun h => by cases h) (Nat.le_of_ble_eq_true rfl) (fun C hX hl hRm => by subst hl; exact pX11_ruled_go hX hRm h)
noncomputable def pX11_seed (S : ZS) (M : ZM) (a0 : Int) (a1 : Int) : Option (Int × ZM) := if 0 ≤ a1 then (if S.1 a0 = 11 then if S.1 (M a0 5) = 10 then zlet (upM M (M a0 5) 8 a1) fun M4 => some (M (M a0 5) 8, M4) else none else none) else (some ((-1), M))
set_option maxHeartbeats 2000000 in
set_option maxRecDepth 20000 in
theorem pX11_seed_go {C : ZC} {E : ZE} {S : ZS} {M : ZM} {a0 a1 : Int} {q : (Int × ZM)} (hX : zCx C E 11 cX11_seed 3 (some .int) false) (hRm : czR C = { frames := 1, cells := 0, slots := 0, locals := 40 }) (h : pX11_seed  S M a0 a1 = some q) : zG C E 3 S 0 0 (zQ C E 0 0 (some (0, q.1)) S q.2) 0 [some (2, a0), some (0, a1), none] [] M := by
  unfold pX11_seed at h
  refine zG.blk (pc' := 1) (l' := [some (2, a0), some (0, a1), none]) (st' := [(0, a1)]) (M' := M) hX [(.iload_n 1, 0, 0, 0)] (by decide +kernel) rfl trivial ?_
  refine zG.if_ge (tgt := 6) (off := 5) hX (by decide +kernel) (by decide) (fun c1 => ?_) (fun c1 => ?_)
  · have h := zip c1 h
    obtain ⟨g2, h⟩ := zif h
    obtain ⟨g3, h⟩ := zif h
    refine zG.blk (pc' := 22) (l' := [some (2, a0), some (0, a1), some (0, M (M a0 5) 8)]) (st' := []) (M' := (upM M (M a0 5) 8 a1)) hX [(.aload_n 0, 0, 0, 0), (.getfield 39, 11, 5, 2), (.getfield 245, 10, 8, 0), (.istore_n 2, 0, 0, 0), (.aload_n 0, 0, 0, 0), (.getfield 39, 11, 5, 2), (.iload_n 1, 0, 0, 0), (.putfield 245, 10, 8, 0)] (by decide +kernel) rfl (And.intro g2 (And.intro g3 (And.intro g2 (And.intro g3 trivial)))) ?_
    generalize upM M (M a0 5) 8 a1 = M4 at h ⊢
    have h := zlt h
    refine zG.blk (pc' := 23) (l' := [some (2, a0), some (0, a1), some (0, M (M a0 5) 8)]) (st' := [(0, M (M a0 5) 8)]) (M' := M4) hX [(.iload_n 2, 0, 0, 0)] (by decide +kernel) rfl trivial ?_
    cases h
    exact zG.iret hX (by decide +kernel)
  · have h := zin c1 h
    refine zG.blk (pc' := 5) (l' := [some (2, a0), some (0, a1), none]) (st' := [(0, (-1))]) (M' := M) hX [(.iconst (-1), 0, 0, 0)] (by decide +kernel) rfl trivial ?_
    cases h
    exact zG.iret hX (by decide +kernel)
theorem pX11_seed_ok {l : Launch} {E : ZE} {S : ZS} {M : ZM} {a0 a1 : Int} {q : (Int × ZM)} (h : pX11_seed S M a0 a1 = some q) : zMet l yX11_seed cX11_seed 3 (some .int) 1 40 0 0 E S M [(2, a0), (0, a1)] (some (0, q.1)) S q.2 :=
  zMet.of (o := 11) (ini := false) (by decide +kernel) rfl (fun h => by cases h) (Nat.le_of_ble_eq_true rfl) (fun C hX hl hRm => by subst hl; exact pX11_seed_go hX hRm h)
noncomputable def pX11_set_44 (S : ZS) (M : ZM) : Option (Int × ZM) := some ((-1), M)
set_option maxHeartbeats 2000000 in
set_option maxRecDepth 20000 in
theorem pX11_set_44_ok {C : ZC} {E : ZE} {S : ZS} {q : (Int × ZM)} (hX : zCx C E 11 cX11_set 4 (some .int) false) (hRm : czR C = { frames := 3, cells := 0, slots := 0, locals := 101 }) {M : ZM} (h : pX11_set_44 S M = some q) : zG C E 4 S 0 0 (zQ C E 0 0 (some (0, q.1)) S q.2) 44 [none, none, none, none] [] M := by
  unfold pX11_set_44 at h
  refine zG.blk (pc' := 45) (l' := [none, none, none, none]) (st' := [(0, (-1))]) (M' := M) hX [(.iconst (-1), 0, 0, 0)] (by decide +kernel) rfl trivial ?_
  cases h
  exact zG.iret hX (by decide +kernel)
noncomputable def pX11_set (S : ZS) (M : ZM) (a0 : Int) (a1 : Int) (a2 : Int) : Option (Int × ZM) := if S.1 a0 = 11 then if S.1 (M a0 5) = 10 then if S.1 (M (M a0 5) 0) = 9 then (pX9_hasPen S M (M (M a0 5) 0) a1).bind fun q3 => if q3.1 = 0 then (pX11_set_44 S q3.2) else (if S.1 (q3.2 a0 5) = 10 then if S.1 (q3.2 (q3.2 a0 5) 0) = 9 then (pX9_hasCell S q3.2 (q3.2 (q3.2 a0 5) 0) a2).bind fun q8 => if q8.1 = 0 then (pX11_set_44 S q8.2) else (if S.1 (q8.2 a0 5) = 10 then if S.1 (q8.2 (q8.2 a0 5) 1) = 6 then if S.1 (q8.2 (q8.2 (q8.2 a0 5) 1) 0) = 100 ∧ (0 : Int) ≤ a1 ∧ a1 < S.2.1 (q8.2 (q8.2 (q8.2 a0 5) 1) 0) then if q8.2 (q8.2 (q8.2 (q8.2 a0 5) 1) 0) a1 = a2 then (pX11_set_44 S q8.2) else ((pX10_remember S q8.2 (q8.2 a0 5)).bind fun q16 => if S.1 (q16 a0 5) = 10 then if S.1 (q16 (q16 a0 5) 1) = 6 then if S.1 (q16 (q16 (q16 a0 5) 1) 0) = 100 ∧ (0 : Int) ≤ a1 ∧ a1 < S.2.1 (q16 (q16 (q16 a0 5) 1) 0) then zlet (upM q16 (q16 (q16 (q16 a0 5) 1) 0) a1 a2) fun M21 => some (q16 (q16 (q16 (q16 a0 5) 1) 0) a1, M21) else none else none else none) else none else none else none) else none else none) else none else none else none
set_option maxHeartbeats 2000000 in
set_option maxRecDepth 20000 in
theorem pX11_set_go {C : ZC} {E : ZE} {S : ZS} {M : ZM} {a0 a1 a2 : Int} {q : (Int × ZM)} (hX : zCx C E 11 cX11_set 4 (some .int) false) (hRm : czR C = { frames := 3, cells := 0, slots := 0, locals := 101 }) (h : pX11_set  S M a0 a1 a2 = some q) : zG C E 4 S 0 0 (zQ C E 0 0 (some (0, q.1)) S q.2) 0 [some (2, a0), some (0, a1), some (0, a2), none] [] M := by
  unfold pX11_set at h
  obtain ⟨g1, h⟩ := zif h
  obtain ⟨g2, h⟩ := zif h
  refine zG.blk (pc' := 8) (l' := [some (2, a0), some (0, a1), some (0, a2), none]) (st' := [(0, a1), (2, M (M a0 5) 0)]) (M' := M) hX [(.aload_n 0, 0, 0, 0), (.getfield 39, 11, 5, 2), (.getfield 95, 10, 0, 2), (.iload_n 1, 0, 0, 0)] (by decide +kernel) rfl (And.intro g1 (And.intro g2 trivial)) ?_
  obtain ⟨g5, h⟩ := zif h
  obtain ⟨q3, e4, h⟩ := zbd h
  refine zG.callV (b := M (M a0 5) 0) (av := [(0, a1)]) (st := []) (ci := 9) hX (pX9_hasPen_ok e4) sv_11_115 rfl ⟨by decide, rfl⟩ g5 (by decide +kernel) (by rw [hRm]; exact ⟨Nat.le_of_ble_eq_true rfl, Nat.le_of_ble_eq_true rfl⟩) (by rw [hRm]; exact ⟨Nat.le_of_ble_eq_true rfl, Nat.le_of_ble_eq_true rfl⟩) (Nat.le_of_ble_eq_true rfl) ?_
  show zG C E 4 S 0 0 _ 11 [some (2, a0), some (0, a1), some (0, a2), none] [(0, q3.1)] q3.2
  refine zG.if_eq (tgt := 44) (off := 33) hX (by decide +kernel) (by decide) (fun c6 => ?_) (fun c6 => ?_)
  · have h := zip c6 h
    exact zG.wk [false, false, false, true] (pX11_set_44_ok hX hRm h)
  · have h := zin c6 h
    obtain ⟨g7, h⟩ := zif h
    refine zG.blk (pc' := 22) (l' := [some (2, a0), some (0, a1), some (0, a2), none]) (st' := [(0, a2), (2, q3.2 (q3.2 a0 5) 0)]) (M' := q3.2) hX [(.aload_n 0, 0, 0, 0), (.getfield 39, 11, 5, 2), (.getfield 95, 10, 0, 2), (.iload_n 2, 0, 0, 0)] (by decide +kernel) rfl (And.intro g1 (And.intro g7 trivial)) ?_
    obtain ⟨g10, h⟩ := zif h
    obtain ⟨q8, e9, h⟩ := zbd h
    refine zG.callV (b := q3.2 (q3.2 a0 5) 0) (av := [(0, a2)]) (st := []) (ci := 9) hX (pX9_hasCell_ok e9) sv_11_139 rfl ⟨by decide, rfl⟩ g10 (by decide +kernel) (by rw [hRm]; exact ⟨Nat.le_of_ble_eq_true rfl, Nat.le_of_ble_eq_true rfl⟩) (by rw [hRm]; exact ⟨Nat.le_of_ble_eq_true rfl, Nat.le_of_ble_eq_true rfl⟩) (Nat.le_of_ble_eq_true rfl) ?_
    show zG C E 4 S 0 0 _ 25 [some (2, a0), some (0, a1), some (0, a2), none] [(0, q8.1)] q8.2
    refine zG.if_eq (tgt := 44) (off := 19) hX (by decide +kernel) (by decide) (fun c11 => ?_) (fun c11 => ?_)
    · have h := zip c11 h
      exact zG.wk [false, false, false, true] (pX11_set_44_ok hX hRm h)
    · have h := zin c11 h
      obtain ⟨g12, h⟩ := zif h
      obtain ⟨g13, h⟩ := zif h
      obtain ⟨g14, h⟩ := zif h
      refine zG.blk (pc' := 41) (l' := [some (2, a0), some (0, a1), some (0, a2), none]) (st' := [(0, a2), (0, q8.2 (q8.2 (q8.2 (q8.2 a0 5) 1) 0) a1)]) (M' := q8.2) hX [(.aload_n 0, 0, 0, 0), (.getfield 39, 11, 5, 2), (.getfield 119, 10, 1, 2), (.getfield 123, 6, 0, 2), (.iload_n 1, 0, 0, 0), (.iaload, 0, 0, 0), (.iload_n 2, 0, 0, 0)] (by decide +kernel) rfl (And.intro g1 (And.intro g12 (And.intro g13 (And.intro g14 trivial)))) ?_
      refine zG.icmp_ne (tgt := 46) (off := 5) hX (by decide +kernel) (by decide) (fun c15 => ?_) (fun c15 => ?_)
      · have h := zin c15 h
        refine zG.blk (pc' := 50) (l' := [some (2, a0), some (0, a1), some (0, a2), none]) (st' := [(2, q8.2 a0 5)]) (M' := q8.2) hX [(.aload_n 0, 0, 0, 0), (.getfield 39, 11, 5, 2)] (by decide +kernel) rfl (And.intro g1 trivial) ?_
        obtain ⟨q16, e17, h⟩ := zbd h
        refine zG.callV (b := q8.2 a0 5) (av := []) (st := []) (ci := 10) hX (pX10_remember_ok e17) sv_11_158 rfl ⟨by decide, rfl⟩ g12 (by decide +kernel) (by rw [hRm]; exact ⟨Nat.le_of_ble_eq_true rfl, Nat.le_of_ble_eq_true rfl⟩) (by rw [hRm]; exact ⟨Nat.le_of_ble_eq_true rfl, Nat.le_of_ble_eq_true rfl⟩) (Nat.le_of_ble_eq_true rfl) ?_
        show zG C E 4 S 0 0 _ 53 [some (2, a0), some (0, a1), some (0, a2), none] [] q16
        obtain ⟨g18, h⟩ := zif h
        obtain ⟨g19, h⟩ := zif h
        obtain ⟨g20, h⟩ := zif h
        refine zG.blk (pc' := 79) (l' := [some (2, a0), some (0, a1), some (0, a2), some (0, q16 (q16 (q16 (q16 a0 5) 1) 0) a1)]) (st' := []) (M' := (upM q16 (q16 (q16 (q16 a0 5) 1) 0) a1 a2)) hX [(.aload_n 0, 0, 0, 0), (.getfield 39, 11, 5, 2), (.getfield 119, 10, 1, 2), (.getfield 123, 6, 0, 2), (.iload_n 1, 0, 0, 0), (.iaload, 0, 0, 0), (.istore_n 3, 0, 0, 0), (.aload_n 0, 0, 0, 0), (.getfield 39, 11, 5, 2), (.getfield 119, 10, 1, 2), (.getfield 123, 6, 0, 2), (.iload_n 1, 0, 0, 0), (.iload_n 2, 0, 0, 0), (.iastore, 0, 0, 0)] (by decide +kernel) rfl (And.intro g1 (And.intro g18 (And.intro g19 (And.intro g20 (And.intro g1 (And.intro g18 (And.intro g19 (And.intro g20 trivial)))))))) ?_
        generalize upM q16 (q16 (q16 (q16 a0 5) 1) 0) a1 a2 = M21 at h ⊢
        have h := zlt h
        refine zG.blk (pc' := 80) (l' := [some (2, a0), some (0, a1), some (0, a2), some (0, q16 (q16 (q16 (q16 a0 5) 1) 0) a1)]) (st' := [(0, q16 (q16 (q16 (q16 a0 5) 1) 0) a1)]) (M' := M21) hX [(.iload_n 3, 0, 0, 0)] (by decide +kernel) rfl trivial ?_
        cases h
        exact zG.iret hX (by decide +kernel)
      · have h := zip c15 h
        exact zG.wk [false, false, false, true] (pX11_set_44_ok hX hRm h)
theorem pX11_set_ok {l : Launch} {E : ZE} {S : ZS} {M : ZM} {a0 a1 a2 : Int} {q : (Int × ZM)} (h : pX11_set S M a0 a1 a2 = some q) : zMet l yX11_set cX11_set 4 (some .int) 3 101 0 0 E S M [(2, a0), (0, a1), (0, a2)] (some (0, q.1)) S q.2 :=
  zMet.of (o := 11) (ini := false) (by decide +kernel) rfl (fun h => by cases h) (Nat.le_of_ble_eq_true rfl) (fun C hX hl hRm => by subst hl; exact pX11_set_go hX hRm h)
noncomputable def pX11_sign_33 (S : ZS) (M : ZM) (y0 : Int) : Option (Int × ZM) := some (y0, M)
set_option maxHeartbeats 2000000 in
set_option maxRecDepth 20000 in
theorem pX11_sign_33_ok {C : ZC} {E : ZE} {S : ZS} {q : (Int × ZM)} (hX : zCx C E 11 cX11_sign 1 (some .int) false) (hRm : czR C = { frames := 6, cells := 0, slots := 0, locals := 164 }) {M : ZM} {y0 : Int} (h : pX11_sign_33 S M y0 = some q) : zG C E 1 S 0 0 (zQ C E 0 0 (some (0, q.1)) S q.2) 33 [none] [(0, y0)] M := by
  unfold pX11_sign_33 at h
  cases h
  exact zG.iret hX (by decide +kernel)
noncomputable def pX11_sign (S : ZS) (M : ZM) (a0 : Int) : Option (Int × ZM) := if S.1 a0 = 11 then if S.1 (M a0 5) = 10 then if S.1 (M (M a0 5) 0) = 9 then (pX9_isThere S M (M (M a0 5) 0)).bind fun q3 => if q3.1 = 0 then (pX11_sign_33 S q3.2 (-1)) else ((pX11_ruleInForce S q3.2 a0).bind fun q7 => if S.1 (q3.2 a0 8) = 1 then (pX1_firstMark S q7.2 (q3.2 a0 8) (q3.2 a0 5) q7.1 0).bind fun q9 => pX11_sign_33 S q9.2 q9.1 else none) else none else none else none
set_option maxHeartbeats 2000000 in
set_option maxRecDepth 20000 in
theorem pX11_sign_go {C : ZC} {E : ZE} {S : ZS} {M : ZM} {a0 : Int} {q : (Int × ZM)} (hX : zCx C E 11 cX11_sign 1 (some .int) false) (hRm : czR C = { frames := 6, cells := 0, slots := 0, locals := 164 }) (h : pX11_sign  S M a0 = some q) : zG C E 1 S 0 0 (zQ C E 0 0 (some (0, q.1)) S q.2) 0 [some (2, a0)] [] M := by
  unfold pX11_sign at h
  obtain ⟨g1, h⟩ := zif h
  obtain ⟨g2, h⟩ := zif h
  refine zG.blk (pc' := 7) (l' := [some (2, a0)]) (st' := [(2, M (M a0 5) 0)]) (M' := M) hX [(.aload_n 0, 0, 0, 0), (.getfield 39, 11, 5, 2), (.getfield 95, 10, 0, 2)] (by decide +kernel) rfl (And.intro g1 (And.intro g2 trivial)) ?_
  obtain ⟨g5, h⟩ := zif h
  obtain ⟨q3, e4, h⟩ := zbd h
  refine zG.callV (b := M (M a0 5) 0) (av := []) (st := []) (ci := 9) hX (pX9_isThere_ok e4) sv_11_151 rfl ⟨by decide, rfl⟩ g5 (by decide +kernel) (by rw [hRm]; exact ⟨Nat.le_of_ble_eq_true rfl, Nat.le_of_ble_eq_true rfl⟩) (by rw [hRm]; exact ⟨Nat.le_of_ble_eq_true rfl, Nat.le_of_ble_eq_true rfl⟩) (Nat.le_of_ble_eq_true rfl) ?_
  show zG C E 1 S 0 0 _ 10 [some (2, a0)] [(0, q3.1)] q3.2
  refine zG.if_eq (tgt := 32) (off := 22) hX (by decide +kernel) (by decide) (fun c6 => ?_) (fun c6 => ?_)
  · have h := zip c6 h
    refine zG.blk (pc' := 33) (l' := [some (2, a0)]) (st' := [(0, (-1))]) (M' := q3.2) hX [(.iconst (-1), 0, 0, 0)] (by decide +kernel) rfl trivial ?_
    exact zG.wk [false] (pX11_sign_33_ok hX hRm h)
  · have h := zin c6 h
    refine zG.blk (pc' := 22) (l' := [some (2, a0)]) (st' := [(2, a0), (2, q3.2 a0 5), (2, q3.2 a0 8)]) (M' := q3.2) hX [(.aload_n 0, 0, 0, 0), (.getfield 57, 11, 8, 2), (.aload_n 0, 0, 0, 0), (.getfield 39, 11, 5, 2), (.aload_n 0, 0, 0, 0)] (by decide +kernel) rfl (And.intro g1 (And.intro g1 trivial)) ?_
    obtain ⟨q7, e8, h⟩ := zbd h
    refine zG.callV (b := a0) (av := []) (st := [(2, q3.2 a0 5), (2, q3.2 a0 8)]) (ci := 11) hX (pX11_ruleInForce_ok e8) sv_11_161 rfl ⟨by decide, rfl⟩ g1 (by decide +kernel) (by rw [hRm]; exact ⟨Nat.le_of_ble_eq_true rfl, Nat.le_of_ble_eq_true rfl⟩) (by rw [hRm]; exact ⟨Nat.le_of_ble_eq_true rfl, Nat.le_of_ble_eq_true rfl⟩) (Nat.le_of_ble_eq_true rfl) ?_
    show zG C E 1 S 0 0 _ 25 [some (2, a0)] [(2, q7.1), (2, q3.2 a0 5), (2, q3.2 a0 8)] q7.2
    refine zG.blk (pc' := 26) (l' := [some (2, a0)]) (st' := [(0, 0), (2, q7.1), (2, q3.2 a0 5), (2, q3.2 a0 8)]) (M' := q7.2) hX [(.iconst 0, 0, 0, 0)] (by decide +kernel) rfl trivial ?_
    obtain ⟨g11, h⟩ := zif h
    obtain ⟨q9, e10, h⟩ := zbd h
    refine zG.callV (b := q3.2 a0 8) (av := [(2, q3.2 a0 5), (2, q7.1), (0, 0)]) (st := []) (ci := 1) hX (pX1_firstMark_ok e10) sv_11_194 rfl ⟨by decide, rfl⟩ g11 (by decide +kernel) (by rw [hRm]; exact ⟨Nat.le_of_ble_eq_true rfl, Nat.le_of_ble_eq_true rfl⟩) (by rw [hRm]; exact ⟨Nat.le_of_ble_eq_true rfl, Nat.le_of_ble_eq_true rfl⟩) (Nat.le_of_ble_eq_true rfl) ?_
    show zG C E 1 S 0 0 _ 29 [some (2, a0)] [(0, q9.1)] q9.2
    refine zG.goto (tgt := 33) (off := 4) hX (by decide +kernel) (by decide) ?_
    exact zG.wk [false] (pX11_sign_33_ok hX hRm h)
theorem pX11_sign_ok {l : Launch} {E : ZE} {S : ZS} {M : ZM} {a0 : Int} {q : (Int × ZM)} (h : pX11_sign S M a0 = some q) : zMet l yX11_sign cX11_sign 1 (some .int) 6 164 0 0 E S M [(2, a0)] (some (0, q.1)) S q.2 :=
  zMet.of (o := 11) (ini := false) (by decide +kernel) rfl (fun h => by cases h) (Nat.le_of_ble_eq_true rfl) (fun C hX hl hRm => by subst hl; exact pX11_sign_go hX hRm h)
noncomputable def pX11_stay (S : ZS) (M : ZM) (a0 : Int) (a1 : Int) : Option (Int × ZM) := if S.1 a0 = 11 then if S.1 (M a0 5) = 10 then if S.1 (M (M a0 5) 0) = 9 then (pX9_hasPen S M (M (M a0 5) 0) a1).bind fun q3 => if q3.1 = 0 then (some ((-1), q3.2)) else (if S.1 (q3.2 a0 5) = 10 then (pX10_remember S q3.2 (q3.2 a0 5)).bind fun q7 => if S.1 (q7 a0 5) = 10 then if S.1 (q7 (q7 a0 5) 1) = 6 then zlet (upM q7 (q7 (q7 a0 5) 1) 4 (zxor (q7 (q7 (q7 a0 5) 1) 4) (zshl 1 a1))) fun M12 => if S.1 (M12 a0 5) = 10 then if S.1 (M12 (M12 a0 5) 1) = 6 then some (M12 (M12 (M12 a0 5) 1) 4, M12) else none else none else none else none else none) else none else none else none
set_option maxHeartbeats 2000000 in
set_option maxRecDepth 20000 in
theorem pX11_stay_go {C : ZC} {E : ZE} {S : ZS} {M : ZM} {a0 a1 : Int} {q : (Int × ZM)} (hX : zCx C E 11 cX11_stay 2 (some .int) false) (hRm : czR C = { frames := 3, cells := 0, slots := 0, locals := 101 }) (h : pX11_stay  S M a0 a1 = some q) : zG C E 2 S 0 0 (zQ C E 0 0 (some (0, q.1)) S q.2) 0 [some (2, a0), some (0, a1)] [] M := by
  unfold pX11_stay at h
  obtain ⟨g1, h⟩ := zif h
  obtain ⟨g2, h⟩ := zif h
  refine zG.blk (pc' := 8) (l' := [some (2, a0), some (0, a1)]) (st' := [(0, a1), (2, M (M a0 5) 0)]) (M' := M) hX [(.aload_n 0, 0, 0, 0), (.getfield 39, 11, 5, 2), (.getfield 95, 10, 0, 2), (.iload_n 1, 0, 0, 0)] (by decide +kernel) rfl (And.intro g1 (And.intro g2 trivial)) ?_
  obtain ⟨g5, h⟩ := zif h
  obtain ⟨q3, e4, h⟩ := zbd h
  refine zG.callV (b := M (M a0 5) 0) (av := [(0, a1)]) (st := []) (ci := 9) hX (pX9_hasPen_ok e4) sv_11_115 rfl ⟨by decide, rfl⟩ g5 (by decide +kernel) (by rw [hRm]; exact ⟨Nat.le_of_ble_eq_true rfl, Nat.le_of_ble_eq_true rfl⟩) (by rw [hRm]; exact ⟨Nat.le_of_ble_eq_true rfl, Nat.le_of_ble_eq_true rfl⟩) (Nat.le_of_ble_eq_true rfl) ?_
  show zG C E 2 S 0 0 _ 11 [some (2, a0), some (0, a1)] [(0, q3.1)] q3.2
  refine zG.if_ne (tgt := 16) (off := 5) hX (by decide +kernel) (by decide) (fun c6 => ?_) (fun c6 => ?_)
  · have h := zin c6 h
    refine zG.blk (pc' := 20) (l' := [some (2, a0), some (0, a1)]) (st' := [(2, q3.2 a0 5)]) (M' := q3.2) hX [(.aload_n 0, 0, 0, 0), (.getfield 39, 11, 5, 2)] (by decide +kernel) rfl (And.intro g1 trivial) ?_
    obtain ⟨g9, h⟩ := zif h
    obtain ⟨q7, e8, h⟩ := zbd h
    refine zG.callV (b := q3.2 a0 5) (av := []) (st := []) (ci := 10) hX (pX10_remember_ok e8) sv_11_158 rfl ⟨by decide, rfl⟩ g9 (by decide +kernel) (by rw [hRm]; exact ⟨Nat.le_of_ble_eq_true rfl, Nat.le_of_ble_eq_true rfl⟩) (by rw [hRm]; exact ⟨Nat.le_of_ble_eq_true rfl, Nat.le_of_ble_eq_true rfl⟩) (Nat.le_of_ble_eq_true rfl) ?_
    show zG C E 2 S 0 0 _ 23 [some (2, a0), some (0, a1)] [] q7
    obtain ⟨g10, h⟩ := zif h
    obtain ⟨g11, h⟩ := zif h
    refine zG.blk (pc' := 47) (l' := [some (2, a0), some (0, a1)]) (st' := []) (M' := (upM q7 (q7 (q7 a0 5) 1) 4 (zxor (q7 (q7 (q7 a0 5) 1) 4) (zshl 1 a1)))) hX [(.aload_n 0, 0, 0, 0), (.getfield 39, 11, 5, 2), (.getfield 119, 10, 1, 2), (.aload_n 0, 0, 0, 0), (.getfield 39, 11, 5, 2), (.getfield 119, 10, 1, 2), (.getfield 169, 6, 4, 0), (.iconst 1, 0, 0, 0), (.iload_n 1, 0, 0, 0), (.ishl, 0, 0, 0), (.ixor, 0, 0, 0), (.putfield 169, 6, 4, 0)] (by decide +kernel) rfl (And.intro g1 (And.intro g10 (And.intro g1 (And.intro g10 (And.intro g11 (And.intro g11 trivial)))))) ?_
    generalize upM q7 (q7 (q7 a0 5) 1) 4 (zxor (q7 (q7 (q7 a0 5) 1) 4) (zshl 1 a1)) = M12 at h ⊢
    have h := zlt h
    obtain ⟨g13, h⟩ := zif h
    obtain ⟨g14, h⟩ := zif h
    refine zG.blk (pc' := 57) (l' := [some (2, a0), some (0, a1)]) (st' := [(0, M12 (M12 (M12 a0 5) 1) 4)]) (M' := M12) hX [(.aload_n 0, 0, 0, 0), (.getfield 39, 11, 5, 2), (.getfield 119, 10, 1, 2), (.getfield 169, 6, 4, 0)] (by decide +kernel) rfl (And.intro g1 (And.intro g13 (And.intro g14 trivial))) ?_
    cases h
    exact zG.iret hX (by decide +kernel)
  · have h := zip c6 h
    refine zG.blk (pc' := 15) (l' := [some (2, a0), some (0, a1)]) (st' := [(0, (-1))]) (M' := q3.2) hX [(.iconst (-1), 0, 0, 0)] (by decide +kernel) rfl trivial ?_
    cases h
    exact zG.iret hX (by decide +kernel)
theorem pX11_stay_ok {l : Launch} {E : ZE} {S : ZS} {M : ZM} {a0 a1 : Int} {q : (Int × ZM)} (h : pX11_stay S M a0 a1 = some q) : zMet l yX11_stay cX11_stay 2 (some .int) 3 101 0 0 E S M [(2, a0), (0, a1)] (some (0, q.1)) S q.2 :=
  zMet.of (o := 11) (ini := false) (by decide +kernel) rfl (fun h => by cases h) (Nat.le_of_ble_eq_true rfl) (fun C hX hl hRm => by subst hl; exact pX11_stay_go hX hRm h)
theorem sv_11_179 : zSV 11 179 yX10_recall cX10_recall 1 none 0 := ⟨⟨gt_at 884 (by decide +kernel) rfl, gt_at 885 (by decide +kernel) rfl, gt_at 886 (by decide +kernel) rfl, gt_at 110 (by decide +kernel) rfl, gt_at 887 (by decide +kernel) rfl⟩, by decide +kernel, by decide +kernel, by decide +kernel⟩
noncomputable def pX11_undo (S : ZS) (M : ZM) (a0 : Int) : Option (Int × ZM) := if S.1 a0 = 11 then if S.1 (M a0 5) = 10 then if M (M a0 5) 3 = 0 then (some ((-2), M)) else ((pX10_recall S M (M a0 5)).bind fun q4 => if S.1 (q4 a0 5) = 10 then some (q4 (q4 a0 5) 3, q4) else none) else none else none
set_option maxHeartbeats 2000000 in
set_option maxRecDepth 20000 in
theorem pX11_undo_go {C : ZC} {E : ZE} {S : ZS} {M : ZM} {a0 : Int} {q : (Int × ZM)} (hX : zCx C E 11 cX11_undo 1 (some .int) false) (hRm : czR C = { frames := 3, cells := 0, slots := 0, locals := 101 }) (h : pX11_undo  S M a0 = some q) : zG C E 1 S 0 0 (zQ C E 0 0 (some (0, q.1)) S q.2) 0 [some (2, a0)] [] M := by
  unfold pX11_undo at h
  obtain ⟨g1, h⟩ := zif h
  obtain ⟨g2, h⟩ := zif h
  refine zG.blk (pc' := 7) (l' := [some (2, a0)]) (st' := [(0, M (M a0 5) 3)]) (M' := M) hX [(.aload_n 0, 0, 0, 0), (.getfield 39, 11, 5, 2), (.getfield 176, 10, 3, 0)] (by decide +kernel) rfl (And.intro g1 (And.intro g2 trivial)) ?_
  refine zG.if_ne (tgt := 13) (off := 6) hX (by decide +kernel) (by decide) (fun c3 => ?_) (fun c3 => ?_)
  · have h := zin c3 h
    refine zG.blk (pc' := 17) (l' := [some (2, a0)]) (st' := [(2, M a0 5)]) (M' := M) hX [(.aload_n 0, 0, 0, 0), (.getfield 39, 11, 5, 2)] (by decide +kernel) rfl (And.intro g1 trivial) ?_
    obtain ⟨q4, e5, h⟩ := zbd h
    refine zG.callV (b := M a0 5) (av := []) (st := []) (ci := 10) hX (pX10_recall_ok e5) sv_11_179 rfl ⟨by decide, rfl⟩ g2 (by decide +kernel) (by rw [hRm]; exact ⟨Nat.le_of_ble_eq_true rfl, Nat.le_of_ble_eq_true rfl⟩) (by rw [hRm]; exact ⟨Nat.le_of_ble_eq_true rfl, Nat.le_of_ble_eq_true rfl⟩) (Nat.le_of_ble_eq_true rfl) ?_
    show zG C E 1 S 0 0 _ 20 [some (2, a0)] [] q4
    obtain ⟨g6, h⟩ := zif h
    refine zG.blk (pc' := 27) (l' := [some (2, a0)]) (st' := [(0, q4 (q4 a0 5) 3)]) (M' := q4) hX [(.aload_n 0, 0, 0, 0), (.getfield 39, 11, 5, 2), (.getfield 176, 10, 3, 0)] (by decide +kernel) rfl (And.intro g1 (And.intro g6 trivial)) ?_
    cases h
    exact zG.iret hX (by decide +kernel)
  · have h := zip c3 h
    refine zG.blk (pc' := 12) (l' := [some (2, a0)]) (st' := [(0, (-2))]) (M' := M) hX [(.bipush (-2), 0, 0, 0)] (by decide +kernel) rfl trivial ?_
    cases h
    exact zG.iret hX (by decide +kernel)
theorem pX11_undo_ok {l : Launch} {E : ZE} {S : ZS} {M : ZM} {a0 : Int} {q : (Int × ZM)} (h : pX11_undo S M a0 = some q) : zMet l yX11_undo cX11_undo 1 (some .int) 3 101 0 0 E S M [(2, a0)] (some (0, q.1)) S q.2 :=
  zMet.of (o := 11) (ini := false) (by decide +kernel) rfl (fun h => by cases h) (Nat.le_of_ble_eq_true rfl) (fun C hX hl hRm => by subst hl; exact pX11_undo_go hX hRm h)
noncomputable def pX11_wrote_24 (S : ZS) (M : ZM) : Option (Int × ZM) := some ((-1), M)
set_option maxHeartbeats 2000000 in
set_option maxRecDepth 20000 in
theorem pX11_wrote_24_ok {C : ZC} {E : ZE} {S : ZS} {q : (Int × ZM)} (hX : zCx C E 11 cX11_wrote 3 (some .int) false) (hRm : czR C = { frames := 6, cells := 0, slots := 0, locals := 167 }) {M : ZM} (h : pX11_wrote_24 S M = some q) : zG C E 3 S 0 0 (zQ C E 0 0 (some (0, q.1)) S q.2) 24 [none, none, none] [] M := by
  unfold pX11_wrote_24 at h
  refine zG.blk (pc' := 25) (l' := [none, none, none]) (st' := [(0, (-1))]) (M' := M) hX [(.iconst (-1), 0, 0, 0)] (by decide +kernel) rfl trivial ?_
  cases h
  exact zG.iret hX (by decide +kernel)
theorem sv_11_202 : zSV 11 202 yX1_writersIn cX1_writersIn 9 (some .int) 4 := ⟨⟨gt_at 947 (by decide +kernel) rfl, gt_at 948 (by decide +kernel) rfl, gt_at 949 (by decide +kernel) rfl, gt_at 114 (by decide +kernel) rfl, gt_at 950 (by decide +kernel) rfl⟩, by decide +kernel, by decide +kernel, by decide +kernel⟩
noncomputable def pX11_wrote (S : ZS) (M : ZM) (a0 : Int) (a1 : Int) (a2 : Int) : Option (Int × ZM) := if S.1 a0 = 11 then if S.1 (M a0 5) = 10 then if S.1 (M (M a0 5) 0) = 9 then (pX9_hasCell S M (M (M a0 5) 0) a1).bind fun q3 => if q3.1 = 0 then (pX11_wrote_24 S q3.2) else ((pX11_within S q3.2 a2 1 60).bind fun q7 => if q7.1 = 0 then (pX11_wrote_24 S q7.2) else ((pX11_ruleInForce S q7.2 a0).bind fun q10 => if S.1 (q7.2 a0 8) = 1 then (pX1_writersIn S q10.2 (q7.2 a0 8) (q7.2 a0 5) q10.1 a1 a2).bind fun q12 => some (q12.1, q12.2) else none)) else none else none else none
set_option maxHeartbeats 2000000 in
set_option maxRecDepth 20000 in
theorem pX11_wrote_go {C : ZC} {E : ZE} {S : ZS} {M : ZM} {a0 a1 a2 : Int} {q : (Int × ZM)} (hX : zCx C E 11 cX11_wrote 3 (some .int) false) (hRm : czR C = { frames := 6, cells := 0, slots := 0, locals := 167 }) (h : pX11_wrote  S M a0 a1 a2 = some q) : zG C E 3 S 0 0 (zQ C E 0 0 (some (0, q.1)) S q.2) 0 [some (2, a0), some (0, a1), some (0, a2)] [] M := by
  unfold pX11_wrote at h
  obtain ⟨g1, h⟩ := zif h
  obtain ⟨g2, h⟩ := zif h
  refine zG.blk (pc' := 8) (l' := [some (2, a0), some (0, a1), some (0, a2)]) (st' := [(0, a1), (2, M (M a0 5) 0)]) (M' := M) hX [(.aload_n 0, 0, 0, 0), (.getfield 39, 11, 5, 2), (.getfield 95, 10, 0, 2), (.iload_n 1, 0, 0, 0)] (by decide +kernel) rfl (And.intro g1 (And.intro g2 trivial)) ?_
  obtain ⟨g5, h⟩ := zif h
  obtain ⟨q3, e4, h⟩ := zbd h
  refine zG.callV (b := M (M a0 5) 0) (av := [(0, a1)]) (st := []) (ci := 9) hX (pX9_hasCell_ok e4) sv_11_139 rfl ⟨by decide, rfl⟩ g5 (by decide +kernel) (by rw [hRm]; exact ⟨Nat.le_of_ble_eq_true rfl, Nat.le_of_ble_eq_true rfl⟩) (by rw [hRm]; exact ⟨Nat.le_of_ble_eq_true rfl, Nat.le_of_ble_eq_true rfl⟩) (Nat.le_of_ble_eq_true rfl) ?_
  show zG C E 3 S 0 0 _ 11 [some (2, a0), some (0, a1), some (0, a2)] [(0, q3.1)] q3.2
  refine zG.if_eq (tgt := 24) (off := 13) hX (by decide +kernel) (by decide) (fun c6 => ?_) (fun c6 => ?_)
  · have h := zip c6 h
    exact zG.wk [false, false, false] (pX11_wrote_24_ok hX hRm h)
  · have h := zin c6 h
    refine zG.blk (pc' := 18) (l' := [some (2, a0), some (0, a1), some (0, a2)]) (st' := [(0, 60), (0, 1), (0, a2)]) (M' := q3.2) hX [(.iload_n 2, 0, 0, 0), (.iconst 1, 0, 0, 0), (.bipush 60, 0, 0, 0)] (by decide +kernel) rfl trivial ?_
    obtain ⟨q7, e8, h⟩ := zbd h
    refine zG.callS (av := [(0, a2), (0, 1), (0, 60)]) (st := []) hX (pX11_within_ok e8) ss_11_172 rfl (by decide +kernel) (by rw [hRm]; exact ⟨Nat.le_of_ble_eq_true rfl, Nat.le_of_ble_eq_true rfl⟩) (by rw [hRm]; exact ⟨Nat.le_of_ble_eq_true rfl, Nat.le_of_ble_eq_true rfl⟩) (Nat.le_of_ble_eq_true rfl) ?_
    show zG C E 3 S 0 0 _ 21 [some (2, a0), some (0, a1), some (0, a2)] [(0, q7.1)] q7.2
    refine zG.if_ne (tgt := 26) (off := 5) hX (by decide +kernel) (by decide) (fun c9 => ?_) (fun c9 => ?_)
    · have h := zin c9 h
      refine zG.blk (pc' := 35) (l' := [some (2, a0), some (0, a1), some (0, a2)]) (st' := [(2, a0), (2, q7.2 a0 5), (2, q7.2 a0 8)]) (M' := q7.2) hX [(.aload_n 0, 0, 0, 0), (.getfield 57, 11, 8, 2), (.aload_n 0, 0, 0, 0), (.getfield 39, 11, 5, 2), (.aload_n 0, 0, 0, 0)] (by decide +kernel) rfl (And.intro g1 (And.intro g1 trivial)) ?_
      obtain ⟨q10, e11, h⟩ := zbd h
      refine zG.callV (b := a0) (av := []) (st := [(2, q7.2 a0 5), (2, q7.2 a0 8)]) (ci := 11) hX (pX11_ruleInForce_ok e11) sv_11_161 rfl ⟨by decide, rfl⟩ g1 (by decide +kernel) (by rw [hRm]; exact ⟨Nat.le_of_ble_eq_true rfl, Nat.le_of_ble_eq_true rfl⟩) (by rw [hRm]; exact ⟨Nat.le_of_ble_eq_true rfl, Nat.le_of_ble_eq_true rfl⟩) (Nat.le_of_ble_eq_true rfl) ?_
      show zG C E 3 S 0 0 _ 38 [some (2, a0), some (0, a1), some (0, a2)] [(2, q10.1), (2, q7.2 a0 5), (2, q7.2 a0 8)] q10.2
      refine zG.blk (pc' := 40) (l' := [some (2, a0), some (0, a1), some (0, a2)]) (st' := [(0, a2), (0, a1), (2, q10.1), (2, q7.2 a0 5), (2, q7.2 a0 8)]) (M' := q10.2) hX [(.iload_n 1, 0, 0, 0), (.iload_n 2, 0, 0, 0)] (by decide +kernel) rfl trivial ?_
      obtain ⟨g14, h⟩ := zif h
      obtain ⟨q12, e13, h⟩ := zbd h
      refine zG.callV (b := q7.2 a0 8) (av := [(2, q7.2 a0 5), (2, q10.1), (0, a1), (0, a2)]) (st := []) (ci := 1) hX (pX1_writersIn_ok e13) sv_11_202 rfl ⟨by decide, rfl⟩ g14 (by decide +kernel) (by rw [hRm]; exact ⟨Nat.le_of_ble_eq_true rfl, Nat.le_of_ble_eq_true rfl⟩) (by rw [hRm]; exact ⟨Nat.le_of_ble_eq_true rfl, Nat.le_of_ble_eq_true rfl⟩) (Nat.le_of_ble_eq_true rfl) ?_
      show zG C E 3 S 0 0 _ 43 [some (2, a0), some (0, a1), some (0, a2)] [(0, q12.1)] q12.2
      cases h
      exact zG.iret hX (by decide +kernel)
    · have h := zip c9 h
      exact zG.wk [false, false, false] (pX11_wrote_24_ok hX hRm h)
theorem pX11_wrote_ok {l : Launch} {E : ZE} {S : ZS} {M : ZM} {a0 a1 a2 : Int} {q : (Int × ZM)} (h : pX11_wrote S M a0 a1 a2 = some q) : zMet l yX11_wrote cX11_wrote 3 (some .int) 6 167 0 0 E S M [(2, a0), (0, a1), (0, a2)] (some (0, q.1)) S q.2 :=
  zMet.of (o := 11) (ini := false) (by decide +kernel) rfl (fun h => by cases h) (Nat.le_of_ble_eq_true rfl) (fun C hX hl hRm => by subst hl; exact pX11_wrote_go hX hRm h)
