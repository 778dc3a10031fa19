theorem sv_5_58 : zSV 5 58 yX5_takeTest cX5_takeTest 6 (some .boolean) 2 := ⟨⟨gt_at 702 (by decide +kernel) rfl, gt_at 704 (by decide +kernel) rfl, gt_at 16 (by decide +kernel) rfl, gt_at 109 (by decide +kernel) rfl, gt_at 705 (by decide +kernel) rfl⟩, by decide +kernel, by decide +kernel, by decide +kernel⟩
noncomputable def pX5_takeFact_102 (fX5_takeFact : ZS → ZM → Int → Int → Int → Option (Int × ZM)) (fX5_takeTest : ZS → ZM → Int → Int → Int → Option (Int × ZM)) (S : ZS) (M : ZM) (y0 : Int) : Option (Int × ZM) := if y0 = 0 ∨ y0 = 1 then some (y0, M) else none
set_option maxHeartbeats 2000000 in
set_option maxRecDepth 20000 in
theorem pX5_takeFact_102_ok {C : ZC} {E : ZE} {S : ZS} {fX5_takeFact : ZS → ZM → Int → Int → Int → Option (Int × ZM)} {fX5_takeTest : ZS → ZM → Int → Int → Int → Option (Int × ZM)} {frc loc fr lo : Nat} {q : (Int × ZM)} (hfX5_takeFact : ∀ {M : ZM} {a0 a1 a2 : Int} {q : Int × ZM}, fX5_takeFact S M a0 a1 a2 = some q → zMet (czl C) yX5_takeFact cX5_takeFact 6 (some .boolean) frc loc 0 0 E S M [(2, a0), (2, a1), (0, a2)] (some (0, q.1)) S q.2) (hfX5_takeTest : ∀ {M : ZM} {a0 a1 a2 : Int} {q : Int × ZM}, fX5_takeTest S M a0 a1 a2 = some q → zMet (czl C) yX5_takeTest cX5_takeTest 6 (some .boolean) frc loc 0 0 E S M [(2, a0), (2, a1), (0, a2)] (some (0, q.1)) S q.2) (hfr : frc + 1 ≤ fr ∧ 5 ≤ fr) (hlo : loc + 50 ≤ lo ∧ 128 ≤ lo) (hX : zCx C E 5 cX5_takeFact 6 (some .boolean) false) (hRm : czR C = { frames := fr, cells := 0, slots := 0, locals := lo }) {M : ZM} {y0 : Int} (h : pX5_takeFact_102 fX5_takeFact fX5_takeTest S M y0 = some q) : zG C E 6 S 0 0 (zQ C E 0 0 (some (0, q.1)) S q.2) 102 [none, none, none, none, none, none] [(0, y0)] M := by
  unfold pX5_takeFact_102 at h
  obtain ⟨g15, h⟩ := zif h
  cases h
  exact zG.zret hX (by decide +kernel) g15
noncomputable def pX5_takeFact_101 (fX5_takeFact : ZS → ZM → Int → Int → Int → Option (Int × ZM)) (fX5_takeTest : ZS → ZM → Int → Int → Int → Option (Int × ZM)) (S : ZS) (M : ZM) : Option (Int × ZM) := pX5_takeFact_102 fX5_takeFact fX5_takeTest S M 0
set_option maxHeartbeats 2000000 in
set_option maxRecDepth 20000 in
theorem pX5_takeFact_101_ok {C : ZC} {E : ZE} {S : ZS} {fX5_takeFact : ZS → ZM → Int → Int → Int → Option (Int × ZM)} {fX5_takeTest : ZS → ZM → Int → Int → Int → Option (Int × ZM)} {frc loc fr lo : Nat} {q : (Int × ZM)} (hfX5_takeFact : ∀ {M : ZM} {a0 a1 a2 : Int} {q : Int × ZM}, fX5_takeFact S M a0 a1 a2 = some q → zMet (czl C) yX5_takeFact cX5_takeFact 6 (some .boolean) frc loc 0 0 E S M [(2, a0), (2, a1), (0, a2)] (some (0, q.1)) S q.2) (hfX5_takeTest : ∀ {M : ZM} {a0 a1 a2 : Int} {q : Int × ZM}, fX5_takeTest S M a0 a1 a2 = some q → zMet (czl C) yX5_takeTest cX5_takeTest 6 (some .boolean) frc loc 0 0 E S M [(2, a0), (2, a1), (0, a2)] (some (0, q.1)) S q.2) (hfr : frc + 1 ≤ fr ∧ 5 ≤ fr) (hlo : loc + 50 ≤ lo ∧ 128 ≤ lo) (hX : zCx C E 5 cX5_takeFact 6 (some .boolean) false) (hRm : czR C = { frames := fr, cells := 0, slots := 0, locals := lo }) {M : ZM} (h : pX5_takeFact_101 fX5_takeFact fX5_takeTest S M = some q) : zG C E 6 S 0 0 (zQ C E 0 0 (some (0, q.1)) S q.2) 101 [none, none, none, none, none, none] [] M := by
  unfold pX5_takeFact_101 at h
  refine zG.blk (pc' := 102) (l' := [none, none, none, none, none, none]) (st' := [(0, 0)]) (M' := M) hX [(.iconst 0, 0, 0, 0)] (by decide +kernel) rfl trivial ?_
  exact (pX5_takeFact_102_ok hfX5_takeFact hfX5_takeTest hfr hlo hX hRm h)
theorem sv_5_38 : zSV 5 38 yX8_takes cX8_takes 2 (some .boolean) 1 := ⟨⟨gt_at 701 (by decide +kernel) rfl, gt_at 646 (by decide +kernel) rfl, gt_at 647 (by decide +kernel) rfl, gt_at 106 (by decide +kernel) rfl, gt_at 648 (by decide +kernel) rfl⟩, by decide +kernel, by decide +kernel, by decide +kernel⟩
noncomputable def pX5_takeFact_97 (fX5_takeFact : ZS → ZM → Int → Int → Int → Option (Int × ZM)) (fX5_takeTest : ZS → ZM → Int → Int → Int → Option (Int × ZM)) (S : ZS) (M : ZM) : Option (Int × ZM) := pX5_takeFact_102 fX5_takeFact fX5_takeTest S M 1
set_option maxHeartbeats 2000000 in
set_option maxRecDepth 20000 in
theorem pX5_takeFact_97_ok {C : ZC} {E : ZE} {S : ZS} {fX5_takeFact : ZS → ZM → Int → Int → Int → Option (Int × ZM)} {fX5_takeTest : ZS → ZM → Int → Int → Int → Option (Int × ZM)} {frc loc fr lo : Nat} {q : (Int × ZM)} (hfX5_takeFact : ∀ {M : ZM} {a0 a1 a2 : Int} {q : Int × ZM}, fX5_takeFact S M a0 a1 a2 = some q → zMet (czl C) yX5_takeFact cX5_takeFact 6 (some .boolean) frc loc 0 0 E S M [(2, a0), (2, a1), (0, a2)] (some (0, q.1)) S q.2) (hfX5_takeTest : ∀ {M : ZM} {a0 a1 a2 : Int} {q : Int × ZM}, fX5_takeTest S M a0 a1 a2 = some q → zMet (czl C) yX5_takeTest cX5_takeTest 6 (some .boolean) frc loc 0 0 E S M [(2, a0), (2, a1), (0, a2)] (some (0, q.1)) S q.2) (hfr : frc + 1 ≤ fr ∧ 5 ≤ fr) (hlo : loc + 50 ≤ lo ∧ 128 ≤ lo) (hX : zCx C E 5 cX5_takeFact 6 (some .boolean) false) (hRm : czR C = { frames := fr, cells := 0, slots := 0, locals := lo }) {M : ZM} (h : pX5_takeFact_97 fX5_takeFact fX5_takeTest S M = some q) : zG C E 6 S 0 0 (zQ C E 0 0 (some (0, q.1)) S q.2) 97 [none, none, none, none, none, none] [] M := by
  unfold pX5_takeFact_97 at h
  refine zG.blk (pc' := 98) (l' := [none, none, none, none, none, none]) (st' := [(0, 1)]) (M' := M) hX [(.iconst 1, 0, 0, 0)] (by decide +kernel) rfl trivial ?_
  refine zG.goto (tgt := 102) (off := 4) hX (by decide +kernel) (by decide) ?_
  exact (pX5_takeFact_102_ok hfX5_takeFact hfX5_takeTest hfr hlo hX hRm h)
theorem sv_5_65 : zSV 5 65 yX5_takeFact cX5_takeFact 6 (some .boolean) 2 := ⟨⟨gt_at 706 (by decide +kernel) rfl, gt_at 708 (by decide +kernel) rfl, gt_at 17 (by decide +kernel) rfl, gt_at 109 (by decide +kernel) rfl, gt_at 709 (by decide +kernel) rfl⟩, by decide +kernel, by decide +kernel, by decide +kernel⟩
noncomputable def pX5_takeFact_29 (fX5_takeFact : ZS → ZM → Int → Int → Int → Option (Int × ZM)) (fX5_takeTest : ZS → ZM → Int → Int → Int → Option (Int × ZM)) (S : ZS) (M : ZM) (x0 : Int) (x1 : Int) (x2 : Int) (x3 : Int) : Option (Int × ZM) := if x2 < 10 then (if S.1 x1 = 8 then (pX8_advance S M x1).bind fun q7 => if x3 = 0 then (if S.1 x0 = 5 then (fX5_takeTest S q7 x0 x1 (w32 (x2 + 1))).bind fun q11 => if q11.1 = 0 then (pX5_takeFact_101 fX5_takeFact fX5_takeTest S q11.2) else ((pX8_takes S q11.2 x1 93).bind fun q16 => if q16.1 = 0 then ((pX8_fail S q16.2 x1 0).bind fun q19 => if q19.1 = 0 then (pX5_takeFact_101 fX5_takeFact fX5_takeTest S q19.2) else (pX5_takeFact_97 fX5_takeFact fX5_takeTest S q19.2)) else (pX5_takeFact_97 fX5_takeFact fX5_takeTest S q16.2)) else none) else (if S.1 x0 = 5 then (fX5_takeFact S q7 x0 x1 (w32 (x2 + 1))).bind fun q22 => (pX5_addOrder S q22.2 x0 14 0).bind fun q25 => if q22.1 = 0 ∨ q22.1 = 1 then some (q22.1, q25) else none else none) else none) else (if S.1 x1 = 8 then (pX8_fail S M x1 2).bind fun q28 => if q28.1 = 0 ∨ q28.1 = 1 then some (q28.1, q28.2) else none else none)
set_option maxHeartbeats 2000000 in
set_option maxRecDepth 20000 in
theorem pX5_takeFact_29_ok {C : ZC} {E : ZE} {S : ZS} {fX5_takeFact : ZS → ZM → Int → Int → Int → Option (Int × ZM)} {fX5_takeTest : ZS → ZM → Int → Int → Int → Option (Int × ZM)} {frc loc fr lo : Nat} {q : (Int × ZM)} (hfX5_takeFact : ∀ {M : ZM} {a0 a1 a2 : Int} {q : Int × ZM}, fX5_takeFact S M a0 a1 a2 = some q → zMet (czl C) yX5_takeFact cX5_takeFact 6 (some .boolean) frc loc 0 0 E S M [(2, a0), (2, a1), (0, a2)] (some (0, q.1)) S q.2) (hfX5_takeTest : ∀ {M : ZM} {a0 a1 a2 : Int} {q : Int × ZM}, fX5_takeTest S M a0 a1 a2 = some q → zMet (czl C) yX5_takeTest cX5_takeTest 6 (some .boolean) frc loc 0 0 E S M [(2, a0), (2, a1), (0, a2)] (some (0, q.1)) S q.2) (hfr : frc + 1 ≤ fr ∧ 5 ≤ fr) (hlo : loc + 50 ≤ lo ∧ 128 ≤ lo) (hX : zCx C E 5 cX5_takeFact 6 (some .boolean) false) (hRm : czR C = { frames := fr, cells := 0, slots := 0, locals := lo }) {M : ZM} {x0 : Int} {x1 : Int} {x2 : Int} {x3 : Int} (h : pX5_takeFact_29 fX5_takeFact fX5_takeTest S M x0 x1 x2 x3 = some q) : zG C E 6 S 0 0 (zQ C E 0 0 (some (0, q.1)) S q.2) 29 [some (2, x0), some (2, x1), some (0, x2), some (0, x3), none, none] [] M := by
  unfold pX5_takeFact_29 at h
  refine zG.blk (pc' := 32) (l' := [some (2, x0), some (2, x1), some (0, x2), some (0, x3), none, none]) (st' := [(0, 10), (0, x2)]) (M' := M) hX [(.iload_n 2, 0, 0, 0), (.bipush 10, 0, 0, 0)] (by decide +kernel) rfl trivial ?_
  refine zG.icmp_lt (tgt := 41) (off := 9) hX (by decide +kernel) (by decide) (fun c6 => ?_) (fun c6 => ?_)
  · have h := zip c6 h
    refine zG.blk (pc' := 42) (l' := [some (2, x0), some (2, x1), some (0, x2), some (0, x3), none, none]) (st' := [(2, x1)]) (M' := M) hX [(.aload_n 1, 0, 0, 0)] (by decide +kernel) rfl trivial ?_
    obtain ⟨g9, h⟩ := zif h
    obtain ⟨q7, e8, h⟩ := zbd h
    refine zG.callV (b := x1) (av := []) (st := []) (ci := 8) hX (pX8_advance_ok e8) sv_5_51 rfl ⟨by decide, rfl⟩ g9 (by decide +kernel) (by rw [hRm]; exact ⟨by show (3 : Nat) ≤ fr; omega, by show (80 : Nat) ≤ lo; omega⟩) (by rw [hRm]; exact ⟨Nat.le_refl _, Nat.le_refl _⟩) (Nat.le_of_ble_eq_true rfl) ?_
    show zG C E 6 S 0 0 _ 45 [some (2, x0), some (2, x1), some (0, x2), some (0, x3), none, none] [] q7
    refine zG.blk (pc' := 46) (l' := [some (2, x0), some (2, x1), some (0, x2), some (0, x3), none, none]) (st' := [(0, x3)]) (M' := q7) hX [(.iload_n 3, 0, 0, 0)] (by decide +kernel) rfl trivial ?_
    refine zG.if_eq (tgt := 69) (off := 23) hX (by decide +kernel) (by decide) (fun c10 => ?_) (fun c10 => ?_)
    · have h := zip c10 h
      refine zG.blk (pc' := 74) (l' := [some (2, x0), some (2, x1), some (0, x2), some (0, x3), none, none]) (st' := [(0, w32 (x2 + 1)), (2, x1), (2, x0)]) (M' := q7) hX [(.aload_n 0, 0, 0, 0), (.aload_n 1, 0, 0, 0), (.iload_n 2, 0, 0, 0), (.iconst 1, 0, 0, 0), (.iadd, 0, 0, 0)] (by decide +kernel) rfl trivial ?_
      obtain ⟨g13, h⟩ := zif h
      obtain ⟨q11, e12, h⟩ := zbd h
      refine zG.callV (b := x0) (av := [(2, x1), (0, w32 (x2 + 1))]) (st := []) (ci := 5) hX (hfX5_takeTest e12) sv_5_58 rfl ⟨by decide, rfl⟩ g13 (by decide +kernel) (by rw [hRm]; exact ⟨by show frc + 1 ≤ fr; omega, by show 8 + (6 + 11) + loc ≤ lo; omega⟩) (by rw [hRm]; exact ⟨Nat.le_refl _, Nat.le_refl _⟩) (Nat.le_of_ble_eq_true rfl) ?_
      show zG C E 6 S 0 0 _ 77 [some (2, x0), some (2, x1), some (0, x2), some (0, x3), none, none] [(0, q11.1)] q11.2
      refine zG.if_eq (tgt := 101) (off := 24) hX (by decide +kernel) (by decide) (fun c14 => ?_) (fun c14 => ?_)
      · have h := zip c14 h
        exact zG.wk [false, false, false, false, true, true] (pX5_takeFact_101_ok hfX5_takeFact hfX5_takeTest hfr hlo hX hRm h)
      · have h := zin c14 h
        refine zG.blk (pc' := 83) (l' := [some (2, x0), some (2, x1), some (0, x2), some (0, x3), none, none]) (st' := [(0, 93), (2, x1)]) (M' := q11.2) hX [(.aload_n 1, 0, 0, 0), (.bipush 93, 0, 0, 0)] (by decide +kernel) rfl trivial ?_
        obtain ⟨q16, e17, h⟩ := zbd h
        refine zG.callV (b := x1) (av := [(0, 93)]) (st := []) (ci := 8) hX (pX8_takes_ok e17) sv_5_38 rfl ⟨by decide, rfl⟩ g9 (by decide +kernel) (by rw [hRm]; exact ⟨by show (4 : Nat) ≤ fr; omega, by show (101 : Nat) ≤ lo; omega⟩) (by rw [hRm]; exact ⟨Nat.le_refl _, Nat.le_refl _⟩) (Nat.le_of_ble_eq_true rfl) ?_
        show zG C E 6 S 0 0 _ 86 [some (2, x0), some (2, x1), some (0, x2), some (0, x3), none, none] [(0, q16.1)] q16.2
        refine zG.if_ne (tgt := 97) (off := 11) hX (by decide +kernel) (by decide) (fun c18 => ?_) (fun c18 => ?_)
        · have h := zin c18 h
          exact zG.wk [false, false, false, false, true, true] (pX5_takeFact_97_ok hfX5_takeFact hfX5_takeTest hfr hlo hX hRm h)
        · have h := zip c18 h
          refine zG.blk (pc' := 91) (l' := [some (2, x0), some (2, x1), some (0, x2), some (0, x3), none, none]) (st' := [(0, 0), (2, x1)]) (M' := q16.2) hX [(.aload_n 1, 0, 0, 0), (.iconst 0, 0, 0, 0)] (by decide +kernel) rfl trivial ?_
          obtain ⟨q19, e20, h⟩ := zbd h
          refine zG.callV (b := x1) (av := [(0, 0)]) (st := []) (ci := 8) hX (pX8_fail_ok e20) sv_5_42 rfl ⟨by decide, rfl⟩ g9 (by decide +kernel) (by rw [hRm]; exact ⟨by show (2 : Nat) ≤ fr; omega, by show (61 : Nat) ≤ lo; omega⟩) (by rw [hRm]; exact ⟨Nat.le_refl _, Nat.le_refl _⟩) (Nat.le_of_ble_eq_true rfl) ?_
          show zG C E 6 S 0 0 _ 94 [some (2, x0), some (2, x1), some (0, x2), some (0, x3), none, none] [(0, q19.1)] q19.2
          refine zG.if_eq (tgt := 101) (off := 7) hX (by decide +kernel) (by decide) (fun c21 => ?_) (fun c21 => ?_)
          · have h := zip c21 h
            exact zG.wk [false, false, false, false, true, true] (pX5_takeFact_101_ok hfX5_takeFact hfX5_takeTest hfr hlo hX hRm h)
          · have h := zin c21 h
            exact zG.wk [false, false, false, false, true, true] (pX5_takeFact_97_ok hfX5_takeFact hfX5_takeTest hfr hlo hX hRm h)
    · have h := zin c10 h
      refine zG.blk (pc' := 54) (l' := [some (2, x0), some (2, x1), some (0, x2), some (0, x3), none, none]) (st' := [(0, w32 (x2 + 1)), (2, x1), (2, x0)]) (M' := q7) hX [(.aload_n 0, 0, 0, 0), (.aload_n 1, 0, 0, 0), (.iload_n 2, 0, 0, 0), (.iconst 1, 0, 0, 0), (.iadd, 0, 0, 0)] (by decide +kernel) rfl trivial ?_
      obtain ⟨g24, h⟩ := zif h
      obtain ⟨q22, e23, h⟩ := zbd h
      refine zG.callV (b := x0) (av := [(2, x1), (0, w32 (x2 + 1))]) (st := []) (ci := 5) hX (hfX5_takeFact e23) sv_5_65 rfl ⟨by decide, rfl⟩ g24 (by decide +kernel) (by rw [hRm]; exact ⟨by show frc + 1 ≤ fr; omega, by show 8 + (6 + 11) + loc ≤ lo; omega⟩) (by rw [hRm]; exact ⟨Nat.le_refl _, Nat.le_refl _⟩) (Nat.le_of_ble_eq_true rfl) ?_
      show zG C E 6 S 0 0 _ 57 [some (2, x0), some (2, x1), some (0, x2), some (0, x3), none, none] [(0, q22.1)] q22.2
      refine zG.blk (pc' := 63) (l' := [some (2, x0), some (2, x1), some (0, x2), some (0, x3), some (0, q22.1), none]) (st' := [(0, 0), (0, 14), (2, x0)]) (M' := q22.2) hX [(.istore 4, 0, 0, 0), (.aload_n 0, 0, 0, 0), (.bipush 14, 0, 0, 0), (.iconst 0, 0, 0, 0)] (by decide +kernel) rfl trivial ?_
      obtain ⟨q25, e26, h⟩ := zbd h
      refine zG.callV (b := x0) (av := [(0, 14), (0, 0)]) (st := []) (ci := 5) hX (pX5_addOrder_ok e26) sv_5_61 rfl ⟨by decide, rfl⟩ g24 (by decide +kernel) (by rw [hRm]; exact ⟨by show (2 : Nat) ≤ fr; omega, by show (62 : Nat) ≤ lo; omega⟩) (by rw [hRm]; exact ⟨Nat.le_refl _, Nat.le_refl _⟩) (Nat.le_of_ble_eq_true rfl) ?_
      show zG C E 6 S 0 0 _ 66 [some (2, x0), some (2, x1), some (0, x2), some (0, x3), some (0, q22.1), none] [] q25
      refine zG.blk (pc' := 68) (l' := [some (2, x0), some (2, x1), some (0, x2), some (0, x3), some (0, q22.1), none]) (st' := [(0, q22.1)]) (M' := q25) hX [(.iload 4, 0, 0, 0)] (by decide +kernel) rfl trivial ?_
      obtain ⟨g27, h⟩ := zif h
      cases h
      exact zG.zret hX (by decide +kernel) g27
  · have h := zin c6 h
    refine zG.blk (pc' := 37) (l' := [some (2, x0), some (2, x1), some (0, x2), some (0, x3), none, none]) (st' := [(0, 2), (2, x1)]) (M' := M) hX [(.aload_n 1, 0, 0, 0), (.iconst 2, 0, 0, 0)] (by decide +kernel) rfl trivial ?_
    obtain ⟨g30, h⟩ := zif h
    obtain ⟨q28, e29, h⟩ := zbd h
    refine zG.callV (b := x1) (av := [(0, 2)]) (st := []) (ci := 8) hX (pX8_fail_ok e29) sv_5_42 rfl ⟨by decide, rfl⟩ g30 (by decide +kernel) (by rw [hRm]; exact ⟨by show (2 : Nat) ≤ fr; omega, by show (61 : Nat) ≤ lo; omega⟩) (by rw [hRm]; exact ⟨Nat.le_refl _, Nat.le_refl _⟩) (Nat.le_of_ble_eq_true rfl) ?_
    show zG C E 6 S 0 0 _ 40 [some (2, x0), some (2, x1), some (0, x2), some (0, x3), none, none] [(0, q28.1)] q28.2
    obtain ⟨g31, h⟩ := zif h
    cases h
    exact zG.zret hX (by decide +kernel) g31
theorem sv_5_54 : zSV 5 54 yX5_takeSum cX5_takeSum 5 (some .boolean) 1 := ⟨⟨gt_at 683 (by decide +kernel) rfl, gt_at 685 (by decide +kernel) rfl, gt_at 13 (by decide +kernel) rfl, gt_at 109 (by decide +kernel) rfl, gt_at 686 (by decide +kernel) rfl⟩, by decide +kernel, by decide +kernel, by decide +kernel⟩
theorem ss_5_68 : zSS 5 68 yX5_comparingOrder cX5_comparingOrder 1 (some .int) 1 := ⟨⟨gt_at 710 (by decide +kernel) rfl, gt_at 711 (by decide +kernel) rfl, gt_at 109 (by decide +kernel) rfl, gt_at 712 (by decide +kernel) rfl⟩, by decide +kernel, by decide +kernel, by decide +kernel⟩
noncomputable def pX5_takeFact_15 (fX5_takeFact : ZS → ZM → Int → Int → Int → Option (Int × ZM)) (fX5_takeTest : ZS → ZM → Int → Int → Int → Option (Int × ZM)) (S : ZS) (M : ZM) (x0 : Int) (x1 : Int) (x2 : Int) (y0 : Int) : Option (Int × ZM) := if y0 = 0 then (if S.1 x1 = 8 then (pX8_token S M x1).bind fun q32 => if q32.1 = 91 then (pX5_takeFact_29 fX5_takeFact fX5_takeTest S q32.2 x0 x1 x2 y0) else (if S.1 x0 = 5 then (pX5_takeSum S q32.2 x0 x1).bind fun q36 => if q36.1 = 0 then (some (0, q36.2)) else ((pX8_token S q36.2 x1).bind fun q40 => (pX5_comparingOrder S q40.2 q40.1).bind fun q42 => if q42.1 = (-1) then ((pX8_fail S q42.2 x1 0).bind fun q57 => if q57.1 = 0 ∨ q57.1 = 1 then some (q57.1, q57.2) else none) else (zlet (upM q42.2 x0 2 (w32 ((q42.2 x0 2) + 1))) fun M45 => if M45 x0 2 ≤ 60 then ((pX8_advance S M45 x1).bind fun q47 => (pX5_takeSum S q47 x0 x1).bind fun q49 => (pX5_addOrder S q49.2 x0 q42.1 0).bind fun q51 => if q49.1 = 0 ∨ q49.1 = 1 then some (q49.1, q51) else none) else ((pX8_fail S M45 x1 3).bind fun q54 => if q54.1 = 0 ∨ q54.1 = 1 then some (q54.1, q54.2) else none))) else none) else none) else (pX5_takeFact_29 fX5_takeFact fX5_takeTest S M x0 x1 x2 y0)
set_option maxHeartbeats 2000000 in
set_option maxRecDepth 20000 in
theorem pX5_takeFact_15_ok {C : ZC} {E : ZE} {S : ZS} {fX5_takeFact : ZS → ZM → Int → Int → Int → Option (Int × ZM)} {fX5_takeTest : ZS → ZM → Int → Int → Int → Option (Int × ZM)} {frc loc fr lo : Nat} {q : (Int × ZM)} (hfX5_takeFact : ∀ {M : ZM} {a0 a1 a2 : Int} {q : Int × ZM}, fX5_takeFact S M a0 a1 a2 = some q → zMet (czl C) yX5_takeFact cX5_takeFact 6 (some .boolean) frc loc 0 0 E S M [(2, a0), (2, a1), (0, a2)] (some (0, q.1)) S q.2) (hfX5_takeTest : ∀ {M : ZM} {a0 a1 a2 : Int} {q : Int × ZM}, fX5_takeTest S M a0 a1 a2 = some q → zMet (czl C) yX5_takeTest cX5_takeTest 6 (some .boolean) frc loc 0 0 E S M [(2, a0), (2, a1), (0, a2)] (some (0, q.1)) S q.2) (hfr : frc + 1 ≤ fr ∧ 5 ≤ fr) (hlo : loc + 50 ≤ lo ∧ 128 ≤ lo) (hX : zCx C E 5 cX5_takeFact 6 (some .boolean) false) (hRm : czR C = { frames := fr, cells := 0, slots := 0, locals := lo }) {M : ZM} {x0 : Int} {x1 : Int} {x2 : Int} {y0 : Int} (h : pX5_takeFact_15 fX5_takeFact fX5_takeTest S M x0 x1 x2 y0 = some q) : zG C E 6 S 0 0 (zQ C E 0 0 (some (0, q.1)) S q.2) 15 [some (2, x0), some (2, x1), some (0, x2), none, none, none] [(0, y0)] M := by
  unfold pX5_takeFact_15 at h
  refine zG.blk (pc' := 17) (l' := [some (2, x0), some (2, x1), some (0, x2), some (0, y0), none, none]) (st' := [(0, y0)]) (M' := M) hX [(.istore_n 3, 0, 0, 0), (.iload_n 3, 0, 0, 0)] (by decide +kernel) rfl trivial ?_
  refine zG.if_ne (tgt := 29) (off := 12) hX (by decide +kernel) (by decide) (fun c5 => ?_) (fun c5 => ?_)
  · have h := zin c5 h
    exact (pX5_takeFact_29_ok hfX5_takeFact hfX5_takeTest hfr hlo hX hRm h)
  · have h := zip c5 h
    refine zG.blk (pc' := 21) (l' := [some (2, x0), some (2, x1), some (0, x2), some (0, y0), none, none]) (st' := [(2, x1)]) (M' := M) hX [(.aload_n 1, 0, 0, 0)] (by decide +kernel) rfl trivial ?_
    obtain ⟨g34, h⟩ := zif h
    obtain ⟨q32, e33, h⟩ := zbd h
    refine zG.callV (b := x1) (av := []) (st := []) (ci := 8) hX (pX8_token_ok e33) sv_5_31 rfl ⟨by decide, rfl⟩ g34 (by decide +kernel) (by rw [hRm]; exact ⟨by show (2 : Nat) ≤ fr; omega, by show (60 : Nat) ≤ lo; omega⟩) (by rw [hRm]; exact ⟨Nat.le_refl _, Nat.le_refl _⟩) (Nat.le_of_ble_eq_true rfl) ?_
    show zG C E 6 S 0 0 _ 24 [some (2, x0), some (2, x1), some (0, x2), some (0, y0), none, none] [(0, q32.1)] q32.2
    refine zG.blk (pc' := 26) (l' := [some (2, x0), some (2, x1), some (0, x2), some (0, y0), none, none]) (st' := [(0, 91), (0, q32.1)]) (M' := q32.2) hX [(.bipush 91, 0, 0, 0)] (by decide +kernel) rfl trivial ?_
    refine zG.icmp_ne (tgt := 103) (off := 77) hX (by decide +kernel) (by decide) (fun c35 => ?_) (fun c35 => ?_)
    · have h := zin c35 h
      refine zG.blk (pc' := 105) (l' := [some (2, x0), some (2, x1), some (0, x2), some (0, y0), none, none]) (st' := [(2, x1), (2, x0)]) (M' := q32.2) hX [(.aload_n 0, 0, 0, 0), (.aload_n 1, 0, 0, 0)] (by decide +kernel) rfl trivial ?_
      obtain ⟨g38, h⟩ := zif h
      obtain ⟨q36, e37, h⟩ := zbd h
      refine zG.callV (b := x0) (av := [(2, x1)]) (st := []) (ci := 5) hX (pX5_takeSum_ok e37) sv_5_54 rfl ⟨by decide, rfl⟩ g38 (by decide +kernel) (by rw [hRm]; exact ⟨by show (5 : Nat) ≤ fr; omega, by show (128 : Nat) ≤ lo; omega⟩) (by rw [hRm]; exact ⟨Nat.le_refl _, Nat.le_refl _⟩) (Nat.le_of_ble_eq_true rfl) ?_
      show zG C E 6 S 0 0 _ 108 [some (2, x0), some (2, x1), some (0, x2), some (0, y0), none, none] [(0, q36.1)] q36.2
      refine zG.if_ne (tgt := 113) (off := 5) hX (by decide +kernel) (by decide) (fun c39 => ?_) (fun c39 => ?_)
      · have h := zin c39 h
        refine zG.blk (pc' := 114) (l' := [some (2, x0), some (2, x1), some (0, x2), some (0, y0), none, none]) (st' := [(2, x1)]) (M' := q36.2) hX [(.aload_n 1, 0, 0, 0)] (by decide +kernel) rfl trivial ?_
        obtain ⟨q40, e41, h⟩ := zbd h
        refine zG.callV (b := x1) (av := []) (st := []) (ci := 8) hX (pX8_token_ok e41) sv_5_31 rfl ⟨by decide, rfl⟩ g34 (by decide +kernel) (by rw [hRm]; exact ⟨by show (2 : Nat) ≤ fr; omega, by show (60 : Nat) ≤ lo; omega⟩) (by rw [hRm]; exact ⟨Nat.le_refl _, Nat.le_refl _⟩) (Nat.le_of_ble_eq_true rfl) ?_
        show zG C E 6 S 0 0 _ 117 [some (2, x0), some (2, x1), some (0, x2), some (0, y0), none, none] [(0, q40.1)] q40.2
        obtain ⟨q42, e43, h⟩ := zbd h
        refine zG.callS (av := [(0, q40.1)]) (st := []) hX (pX5_comparingOrder_ok e43) ss_5_68 rfl (by decide +kernel) (by rw [hRm]; exact ⟨by show (2 : Nat) ≤ fr; omega, by show (60 : Nat) ≤ lo; omega⟩) (by rw [hRm]; exact ⟨Nat.le_refl _, Nat.le_refl _⟩) (Nat.le_of_ble_eq_true rfl) ?_
        show zG C E 6 S 0 0 _ 120 [some (2, x0), some (2, x1), some (0, x2), some (0, y0), none, none] [(0, q42.1)] q42.2
        refine zG.blk (pc' := 125) (l' := [some (2, x0), some (2, x1), some (0, x2), some (0, y0), some (0, q42.1), none]) (st' := [(0, (-1)), (0, q42.1)]) (M' := q42.2) hX [(.istore 4, 0, 0, 0), (.iload 4, 0, 0, 0), (.iconst (-1), 0, 0, 0)] (by decide +kernel) rfl trivial ?_
        refine zG.icmp_ne (tgt := 134) (off := 9) hX (by decide +kernel) (by decide) (fun c44 => ?_) (fun c44 => ?_)
        · have h := zin c44 h
          refine zG.blk (pc' := 144) (l' := [some (2, x0), some (2, x1), some (0, x2), some (0, y0), some (0, q42.1), none]) (st' := []) (M' := (upM q42.2 x0 2 (w32 ((q42.2 x0 2) + 1)))) hX [(.aload_n 0, 0, 0, 0), (.dup, 0, 0, 0), (.getfield 24, 5, 2, 0), (.iconst 1, 0, 0, 0), (.iadd, 0, 0, 0), (.putfield 24, 5, 2, 0)] (by decide +kernel) rfl (And.intro g38 (And.intro g38 trivial)) ?_
          generalize upM q42.2 x0 2 (w32 ((q42.2 x0 2) + 1)) = M45 at h ⊢
          have h := zlt h
          refine zG.blk (pc' := 150) (l' := [some (2, x0), some (2, x1), some (0, x2), some (0, y0), some (0, q42.1), none]) (st' := [(0, 60), (0, M45 x0 2)]) (M' := M45) hX [(.aload_n 0, 0, 0, 0), (.getfield 24, 5, 2, 0), (.bipush 60, 0, 0, 0)] (by decide +kernel) rfl (And.intro g38 trivial) ?_
          refine zG.icmp_le (tgt := 159) (off := 9) hX (by decide +kernel) (by decide) (fun c46 => ?_) (fun c46 => ?_)
          · have h := zip c46 h
            refine zG.blk (pc' := 160) (l' := [some (2, x0), some (2, x1), some (0, x2), some (0, y0), some (0, q42.1), none]) (st' := [(2, x1)]) (M' := M45) hX [(.aload_n 1, 0, 0, 0)] (by decide +kernel) rfl trivial ?_
            obtain ⟨q47, e48, h⟩ := zbd h
            refine zG.callV (b := x1) (av := []) (st := []) (ci := 8) hX (pX8_advance_ok e48) sv_5_51 rfl ⟨by decide, rfl⟩ g34 (by decide +kernel) (by rw [hRm]; exact ⟨by show (3 : Nat) ≤ fr; omega, by show (80 : Nat) ≤ lo; omega⟩) (by rw [hRm]; exact ⟨Nat.le_refl _, Nat.le_refl _⟩) (Nat.le_of_ble_eq_true rfl) ?_
            show zG C E 6 S 0 0 _ 163 [some (2, x0), some (2, x1), some (0, x2), some (0, y0), some (0, q42.1), none] [] q47
            refine zG.blk (pc' := 165) (l' := [some (2, x0), some (2, x1), some (0, x2), some (0, y0), some (0, q42.1), none]) (st' := [(2, x1), (2, x0)]) (M' := q47) hX [(.aload_n 0, 0, 0, 0), (.aload_n 1, 0, 0, 0)] (by decide +kernel) rfl trivial ?_
            obtain ⟨q49, e50, h⟩ := zbd h
            refine zG.callV (b := x0) (av := [(2, x1)]) (st := []) (ci := 5) hX (pX5_takeSum_ok e50) sv_5_54 rfl ⟨by decide, rfl⟩ g38 (by decide +kernel) (by rw [hRm]; exact ⟨by show (5 : Nat) ≤ fr; omega, by show (128 : Nat) ≤ lo; omega⟩) (by rw [hRm]; exact ⟨Nat.le_refl _, Nat.le_refl _⟩) (Nat.le_of_ble_eq_true rfl) ?_
            show zG C E 6 S 0 0 _ 168 [some (2, x0), some (2, x1), some (0, x2), some (0, y0), some (0, q42.1), none] [(0, q49.1)] q49.2
            refine zG.blk (pc' := 174) (l' := [some (2, x0), some (2, x1), some (0, x2), some (0, y0), some (0, q42.1), some (0, q49.1)]) (st' := [(0, 0), (0, q42.1), (2, x0)]) (M' := q49.2) hX [(.istore 5, 0, 0, 0), (.aload_n 0, 0, 0, 0), (.iload 4, 0, 0, 0), (.iconst 0, 0, 0, 0)] (by decide +kernel) rfl trivial ?_
            obtain ⟨q51, e52, h⟩ := zbd h
            refine zG.callV (b := x0) (av := [(0, q42.1), (0, 0)]) (st := []) (ci := 5) hX (pX5_addOrder_ok e52) sv_5_61 rfl ⟨by decide, rfl⟩ g38 (by decide +kernel) (by rw [hRm]; exact ⟨by show (2 : Nat) ≤ fr; omega, by show (62 : Nat) ≤ lo; omega⟩) (by rw [hRm]; exact ⟨Nat.le_refl _, Nat.le_refl _⟩) (Nat.le_of_ble_eq_true rfl) ?_
            show zG C E 6 S 0 0 _ 177 [some (2, x0), some (2, x1), some (0, x2), some (0, y0), some (0, q42.1), some (0, q49.1)] [] q51
            refine zG.blk (pc' := 179) (l' := [some (2, x0), some (2, x1), some (0, x2), some (0, y0), some (0, q42.1), some (0, q49.1)]) (st' := [(0, q49.1)]) (M' := q51) hX [(.iload 5, 0, 0, 0)] (by decide +kernel) rfl trivial ?_
            obtain ⟨g53, h⟩ := zif h
            cases h
            exact zG.zret hX (by decide +kernel) g53
          · have h := zin c46 h
            refine zG.blk (pc' := 155) (l' := [some (2, x0), some (2, x1), some (0, x2), some (0, y0), some (0, q42.1), none]) (st' := [(0, 3), (2, x1)]) (M' := M45) hX [(.aload_n 1, 0, 0, 0), (.iconst 3, 0, 0, 0)] (by decide +kernel) rfl trivial ?_
            obtain ⟨q54, e55, h⟩ := zbd h
            refine zG.callV (b := x1) (av := [(0, 3)]) (st := []) (ci := 8) hX (pX8_fail_ok e55) sv_5_42 rfl ⟨by decide, rfl⟩ g34 (by decide +kernel) (by rw [hRm]; exact ⟨by show (2 : Nat) ≤ fr; omega, by show (61 : Nat) ≤ lo; omega⟩) (by rw [hRm]; exact ⟨Nat.le_refl _, Nat.le_refl _⟩) (Nat.le_of_ble_eq_true rfl) ?_
            show zG C E 6 S 0 0 _ 158 [some (2, x0), some (2, x1), some (0, x2), some (0, y0), some (0, q42.1), none] [(0, q54.1)] q54.2
            obtain ⟨g56, h⟩ := zif h
            cases h
            exact zG.zret hX (by decide +kernel) g56
        · have h := zip c44 h
          refine zG.blk (pc' := 130) (l' := [some (2, x0), some (2, x1), some (0, x2), some (0, y0), some (0, q42.1), none]) (st' := [(0, 0), (2, x1)]) (M' := q42.2) hX [(.aload_n 1, 0, 0, 0), (.iconst 0, 0, 0, 0)] (by decide +kernel) rfl trivial ?_
          obtain ⟨q57, e58, h⟩ := zbd h
          refine zG.callV (b := x1) (av := [(0, 0)]) (st := []) (ci := 8) hX (pX8_fail_ok e58) sv_5_42 rfl ⟨by decide, rfl⟩ g34 (by decide +kernel) (by rw [hRm]; exact ⟨by show (2 : Nat) ≤ fr; omega, by show (61 : Nat) ≤ lo; omega⟩) (by rw [hRm]; exact ⟨Nat.le_refl _, Nat.le_refl _⟩) (Nat.le_of_ble_eq_true rfl) ?_
          show zG C E 6 S 0 0 _ 133 [some (2, x0), some (2, x1), some (0, x2), some (0, y0), some (0, q42.1), none] [(0, q57.1)] q57.2
          obtain ⟨g59, h⟩ := zif h
          cases h
          exact zG.zret hX (by decide +kernel) g59
      · have h := zip c39 h
        refine zG.blk (pc' := 112) (l' := [some (2, x0), some (2, x1), some (0, x2), some (0, y0), none, none]) (st' := [(0, 0)]) (M' := q36.2) hX [(.iconst 0, 0, 0, 0)] (by decide +kernel) rfl trivial ?_
        cases h
        exact zG.zret hX (by decide +kernel) (Or.inl rfl)
    · have h := zip c35 h
      exact (pX5_takeFact_29_ok hfX5_takeFact hfX5_takeTest hfr hlo hX hRm h)
noncomputable def pX5_takeFact (fX5_takeFact : ZS → ZM → Int → Int → Int → Option (Int × ZM)) (fX5_takeTest : ZS → ZM → Int → Int → Int → Option (Int × ZM)) (S : ZS) (M : ZM) (a0 : Int) (a1 : Int) (a2 : Int) : Option (Int × ZM) := if S.1 a1 = 8 then (pX8_token S M a1).bind fun q1 => pX5_takeFact_15 fX5_takeFact fX5_takeTest S q1.2 a0 a1 a2 (if q1.1 = 274 then (1 : Int) else 0) else none
set_option maxHeartbeats 2000000 in
set_option maxRecDepth 20000 in
theorem pX5_takeFact_go {C : ZC} {E : ZE} {S : ZS} {M : ZM} {a0 a1 a2 : Int} {fX5_takeFact : ZS → ZM → Int → Int → Int → Option (Int × ZM)} {fX5_takeTest : ZS → ZM → Int → Int → Int → Option (Int × ZM)} {frc loc fr lo : Nat} {q : (Int × ZM)} (hfX5_takeFact : ∀ {M : ZM} {a0 a1 a2 : Int} {q : Int × ZM}, fX5_takeFact S M a0 a1 a2 = some q → zMet (czl C) yX5_takeFact cX5_takeFact 6 (some .boolean) frc loc 0 0 E S M [(2, a0), (2, a1), (0, a2)] (some (0, q.1)) S q.2) (hfX5_takeTest : ∀ {M : ZM} {a0 a1 a2 : Int} {q : Int × ZM}, fX5_takeTest S M a0 a1 a2 = some q → zMet (czl C) yX5_takeTest cX5_takeTest 6 (some .boolean) frc loc 0 0 E S M [(2, a0), (2, a1), (0, a2)] (some (0, q.1)) S q.2) (hfr : frc + 1 ≤ fr ∧ 5 ≤ fr) (hlo : loc + 50 ≤ lo ∧ 128 ≤ lo) (hX : zCx C E 5 cX5_takeFact 6 (some .boolean) false) (hRm : czR C = { frames := fr, cells := 0, slots := 0, locals := lo }) (h : pX5_takeFact fX5_takeFact fX5_takeTest S M a0 a1 a2 = some q) : zG C E 6 S 0 0 (zQ C E 0 0 (some (0, q.1)) S q.2) 0 [some (2, a0), some (2, a1), some (0, a2), none, none, none] [] M := by
  unfold pX5_takeFact at h
  refine zG.blk (pc' := 1) (l' := [some (2, a0), some (2, a1), some (0, a2), none, none, none]) (st' := [(2, a1)]) (M' := M) hX [(.aload_n 1, 0, 0, 0)] (by decide +kernel) rfl trivial ?_
  obtain ⟨g3, h⟩ := zif h
  obtain ⟨q1, e2, h⟩ := zbd h
  refine zG.callV (b := a1) (av := []) (st := []) (ci := 8) hX (pX8_token_ok e2) sv_5_31 rfl ⟨by decide, rfl⟩ g3 (by decide +kernel) (by rw [hRm]; exact ⟨by show (2 : Nat) ≤ fr; omega, by show (60 : Nat) ≤ lo; omega⟩) (by rw [hRm]; exact ⟨Nat.le_refl _, Nat.le_refl _⟩) (Nat.le_of_ble_eq_true rfl) ?_
  show zG C E 6 S 0 0 _ 4 [some (2, a0), some (2, a1), some (0, a2), none, none, none] [(0, q1.1)] q1.2
  refine zG.blk (pc' := 7) (l' := [some (2, a0), some (2, a1), some (0, a2), none, none, none]) (st' := [(0, 274), (0, q1.1)]) (M' := q1.2) hX [(.sipush 274, 0, 0, 0)] (by decide +kernel) rfl trivial ?_
  have key4 : zG C E 6 S 0 0 (zQ C E 0 0 (some (0, q.1)) S q.2) 15 [some (2, a0), some (2, a1), some (0, a2), none, none, none] [(0, (if q1.1 = 274 then (1 : Int) else 0))] q1.2 := by
    exact (pX5_takeFact_15_ok hfX5_takeFact hfX5_takeTest hfr hlo hX hRm h)
  refine zG.icmp_ne (tgt := 14) (off := 7) hX (by decide +kernel) (by decide) (fun c60 => ?_) (fun c60 => ?_)
  · refine zG.blk (pc' := 15) (l' := [some (2, a0), some (2, a1), some (0, a2), none, none, none]) (st' := [(0, 0)]) (M' := q1.2) hX [(.iconst 0, 0, 0, 0)] (by decide +kernel) rfl trivial ?_
    (have k := key4; simp only [if_neg c60] at k; exact k)
  · refine zG.blk (pc' := 11) (l' := [some (2, a0), some (2, a1), some (0, a2), none, none, none]) (st' := [(0, 1)]) (M' := q1.2) hX [(.iconst 1, 0, 0, 0)] (by decide +kernel) rfl trivial ?_
    refine zG.goto (tgt := 15) (off := 4) hX (by decide +kernel) (by decide) ?_
    (have k := key4; simp only [if_pos c60] at k; exact k)
noncomputable def pX5_takeTest_78 (fX5_takeFact : ZS → ZM → Int → Int → Int → Option (Int × ZM)) (S : ZS) (k8 : ZM → Int → Int → Int → Int → Int → Int → Option (Int × ZM)) (M : ZM) (x0 : Int) (x1 : Int) (x2 : Int) (x3 : Int) (x4 : Int) (x5 : Int) : Option (Int × ZM) := k8 M x0 x1 x2 x3 x4 (w32 (x5 + 1))
set_option maxHeartbeats 2000000 in
set_option maxRecDepth 20000 in
theorem pX5_takeTest_78_ok {C : ZC} {E : ZE} {S : ZS} {fX5_takeFact : ZS → ZM → Int → Int → Int → Option (Int × ZM)} {frc loc fr lo : Nat} {k8 : ZM → Int → Int → Int → Int → Int → Int → Option (Int × ZM)} {q : (Int × ZM)} (hfX5_takeFact : ∀ {M : ZM} {a0 a1 a2 : Int} {q : Int × ZM}, fX5_takeFact S M a0 a1 a2 = some q → zMet (czl C) yX5_takeFact cX5_takeFact 6 (some .boolean) frc loc 0 0 E S M [(2, a0), (2, a1), (0, a2)] (some (0, q.1)) S q.2) (hfr : frc + 1 ≤ fr ∧ 4 ≤ fr) (hlo : loc + 50 ≤ lo ∧ 101 ≤ lo) (hX : zCx C E 5 cX5_takeTest 6 (some .boolean) false) (hRm : czR C = { frames := fr, cells := 0, slots := 0, locals := lo }) (hk8 : ∀ M x0 x1 x2 x3 x4 x5, k8 M x0 x1 x2 x3 x4 x5 = some q → zG C E 6 S 0 0 (zQ C E 0 0 (some (0, q.1)) S q.2) 8 [some (2, x0), some (2, x1), some (0, x2), some (0, x3), some (0, x4), some (0, x5)] [] M) {M : ZM} {x0 : Int} {x1 : Int} {x2 : Int} {x3 : Int} {x4 : Int} {x5 : Int} (h : pX5_takeTest_78 fX5_takeFact S k8 M x0 x1 x2 x3 x4 x5 = some q) : zG C E 6 S 0 0 (zQ C E 0 0 (some (0, q.1)) S q.2) 78 [some (2, x0), some (2, x1), some (0, x2), some (0, x3), some (0, x4), some (0, x5)] [] M := by
  unfold pX5_takeTest_78 at h
  refine zG.blk (pc' := 81) (l' := [some (2, x0), some (2, x1), some (0, x2), some (0, x3), some (0, x4), some (0, w32 (x5 + 1))]) (st' := []) (M' := M) hX [(.iinc 5 1, 0, 0, 0)] (by decide +kernel) rfl trivial ?_
  refine zG.goto (tgt := 8) (off := (-73)) hX (by decide +kernel) (by decide) ?_
  exact (hk8 _ _ _ _ _ _ _ h)
noncomputable def pX5_takeTest_62 (fX5_takeFact : ZS → ZM → Int → Int → Int → Option (Int × ZM)) (S : ZS) (k8 : ZM → Int → Int → Int → Int → Int → Int → Option (Int × ZM)) (M : ZM) (x0 : Int) (x1 : Int) (x2 : Int) (x3 : Int) (x5 : Int) : Option (Int × ZM) := if S.1 x1 = 8 then (pX8_takes S M x1 272).bind fun q12 => if q12.1 = 0 then (some (1, q12.2)) else (pX5_takeTest_78 fX5_takeFact S k8 q12.2 x0 x1 x2 x3 q12.1 x5) else none
set_option maxHeartbeats 2000000 in
set_option maxRecDepth 20000 in
theorem pX5_takeTest_62_ok {C : ZC} {E : ZE} {S : ZS} {fX5_takeFact : ZS → ZM → Int → Int → Int → Option (Int × ZM)} {frc loc fr lo : Nat} {k8 : ZM → Int → Int → Int → Int → Int → Int → Option (Int × ZM)} {q : (Int × ZM)} (hfX5_takeFact : ∀ {M : ZM} {a0 a1 a2 : Int} {q : Int × ZM}, fX5_takeFact S M a0 a1 a2 = some q → zMet (czl C) yX5_takeFact cX5_takeFact 6 (some .boolean) frc loc 0 0 E S M [(2, a0), (2, a1), (0, a2)] (some (0, q.1)) S q.2) (hfr : frc + 1 ≤ fr ∧ 4 ≤ fr) (hlo : loc + 50 ≤ lo ∧ 101 ≤ lo) (hX : zCx C E 5 cX5_takeTest 6 (some .boolean) false) (hRm : czR C = { frames := fr, cells := 0, slots := 0, locals := lo }) (hk8 : ∀ M x0 x1 x2 x3 x4 x5, k8 M x0 x1 x2 x3 x4 x5 = some q → zG C E 6 S 0 0 (zQ C E 0 0 (some (0, q.1)) S q.2) 8 [some (2, x0), some (2, x1), some (0, x2), some (0, x3), some (0, x4), some (0, x5)] [] M) {M : ZM} {x0 : Int} {x1 : Int} {x2 : Int} {x3 : Int} {x5 : Int} (h : pX5_takeTest_62 fX5_takeFact S k8 M x0 x1 x2 x3 x5 = some q) : zG C E 6 S 0 0 (zQ C E 0 0 (some (0, q.1)) S q.2) 62 [some (2, x0), some (2, x1), some (0, x2), some (0, x3), none, some (0, x5)] [] M := by
  unfold pX5_takeTest_62 at h
  refine zG.blk (pc' := 66) (l' := [some (2, x0), some (2, x1), some (0, x2), some (0, x3), none, some (0, x5)]) (st' := [(0, 272), (2, x1)]) (M' := M) hX [(.aload_n 1, 0, 0, 0), (.sipush 272, 0, 0, 0)] (by decide +kernel) rfl trivial ?_
  obtain ⟨g14, h⟩ := zif h
  obtain ⟨q12, e13, h⟩ := zbd h
  refine zG.callV (b := x1) (av := [(0, 272)]) (st := []) (ci := 8) hX (pX8_takes_ok e13) sv_5_38 rfl ⟨by decide, rfl⟩ g14 (by decide +kernel) (by rw [hRm]; exact ⟨by show (4 : Nat) ≤ fr; omega, by show (101 : Nat) ≤ lo; omega⟩) (by rw [hRm]; exact ⟨Nat.le_refl _, Nat.le_refl _⟩) (Nat.le_of_ble_eq_true rfl) ?_
  show zG C E 6 S 0 0 _ 69 [some (2, x0), some (2, x1), some (0, x2), some (0, x3), none, some (0, x5)] [(0, q12.1)] q12.2
  refine zG.blk (pc' := 73) (l' := [some (2, x0), some (2, x1), some (0, x2), some (0, x3), some (0, q12.1), some (0, x5)]) (st' := [(0, q12.1)]) (M' := q12.2) hX [(.istore 4, 0, 0, 0), (.iload 4, 0, 0, 0)] (by decide +kernel) rfl trivial ?_
  refine zG.if_ne (tgt := 78) (off := 5) hX (by decide +kernel) (by decide) (fun c15 => ?_) (fun c15 => ?_)
  · have h := zin c15 h
    exact (pX5_takeTest_78_ok hfX5_takeFact hfr hlo hX hRm hk8 h)
  · have h := zip c15 h
    refine zG.blk (pc' := 77) (l' := [some (2, x0), some (2, x1), some (0, x2), some (0, x3), some (0, q12.1), some (0, x5)]) (st' := [(0, 1)]) (M' := q12.2) hX [(.iconst 1, 0, 0, 0)] (by decide +kernel) rfl trivial ?_
    cases h
    exact zG.zret hX (by decide +kernel) (Or.inr rfl)
noncomputable def pX5_takeTest_38 (fX5_takeFact : ZS → ZM → Int → Int → Int → Option (Int × ZM)) (S : ZS) (k8 : ZM → Int → Int → Int → Int → Int → Int → Option (Int × ZM)) (M : ZM) (x0 : Int) (x1 : Int) (x2 : Int) (x4 : Int) (x5 : Int) : Option (Int × ZM) := if S.1 x1 = 8 then (pX8_takes S M x1 273).bind fun q7 => if q7.1 = 0 then (if x4 = 0 then (pX5_takeTest_62 fX5_takeFact S k8 q7.2 x0 x1 x2 q7.1 x5) else (if S.1 x0 = 5 then (pX5_addOrder S q7.2 x0 13 0).bind fun q16 => pX5_takeTest_62 fX5_takeFact S k8 q16 x0 x1 x2 q7.1 x5 else none)) else (pX5_takeTest_78 fX5_takeFact S k8 q7.2 x0 x1 x2 q7.1 x4 x5) else none
set_option maxHeartbeats 2000000 in
set_option maxRecDepth 20000 in
theorem pX5_takeTest_38_ok {C : ZC} {E : ZE} {S : ZS} {fX5_takeFact : ZS → ZM → Int → Int → Int → Option (Int × ZM)} {frc loc fr lo : Nat} {k8 : ZM → Int → Int → Int → Int → Int → Int → Option (Int × ZM)} {q : (Int × ZM)} (hfX5_takeFact : ∀ {M : ZM} {a0 a1 a2 : Int} {q : Int × ZM}, fX5_takeFact S M a0 a1 a2 = some q → zMet (czl C) yX5_takeFact cX5_takeFact 6 (some .boolean) frc loc 0 0 E S M [(2, a0), (2, a1), (0, a2)] (some (0, q.1)) S q.2) (hfr : frc + 1 ≤ fr ∧ 4 ≤ fr) (hlo : loc + 50 ≤ lo ∧ 101 ≤ lo) (hX : zCx C E 5 cX5_takeTest 6 (some .boolean) false) (hRm : czR C = { frames := fr, cells := 0, slots := 0, locals := lo }) (hk8 : ∀ M x0 x1 x2 x3 x4 x5, k8 M x0 x1 x2 x3 x4 x5 = some q → zG C E 6 S 0 0 (zQ C E 0 0 (some (0, q.1)) S q.2) 8 [some (2, x0), some (2, x1), some (0, x2), some (0, x3), some (0, x4), some (0, x5)] [] M) {M : ZM} {x0 : Int} {x1 : Int} {x2 : Int} {x4 : Int} {x5 : Int} (h : pX5_takeTest_38 fX5_takeFact S k8 M x0 x1 x2 x4 x5 = some q) : zG C E 6 S 0 0 (zQ C E 0 0 (some (0, q.1)) S q.2) 38 [some (2, x0), some (2, x1), some (0, x2), none, some (0, x4), some (0, x5)] [] M := by
  unfold pX5_takeTest_38 at h
  refine zG.blk (pc' := 42) (l' := [some (2, x0), some (2, x1), some (0, x2), none, some (0, x4), some (0, x5)]) (st' := [(0, 273), (2, x1)]) (M' := M) hX [(.aload_n 1, 0, 0, 0), (.sipush 273, 0, 0, 0)] (by decide +kernel) rfl trivial ?_
  obtain ⟨g9, h⟩ := zif h
  obtain ⟨q7, e8, h⟩ := zbd h
  refine zG.callV (b := x1) (av := [(0, 273)]) (st := []) (ci := 8) hX (pX8_takes_ok e8) sv_5_38 rfl ⟨by decide, rfl⟩ g9 (by decide +kernel) (by rw [hRm]; exact ⟨by show (4 : Nat) ≤ fr; omega, by show (101 : Nat) ≤ lo; omega⟩) (by rw [hRm]; exact ⟨Nat.le_refl _, Nat.le_refl _⟩) (Nat.le_of_ble_eq_true rfl) ?_
  show zG C E 6 S 0 0 _ 45 [some (2, x0), some (2, x1), some (0, x2), none, some (0, x4), some (0, x5)] [(0, q7.1)] q7.2
  refine zG.blk (pc' := 47) (l' := [some (2, x0), some (2, x1), some (0, x2), some (0, q7.1), some (0, x4), some (0, x5)]) (st' := [(0, q7.1)]) (M' := q7.2) hX [(.istore_n 3, 0, 0, 0), (.iload_n 3, 0, 0, 0)] (by decide +kernel) rfl trivial ?_
  refine zG.if_ne (tgt := 78) (off := 31) hX (by decide +kernel) (by decide) (fun c10 => ?_) (fun c10 => ?_)
  · have h := zin c10 h
    exact (pX5_takeTest_78_ok hfX5_takeFact hfr hlo hX hRm hk8 h)
  · have h := zip c10 h
    refine zG.blk (pc' := 52) (l' := [some (2, x0), some (2, x1), some (0, x2), some (0, q7.1), some (0, x4), some (0, x5)]) (st' := [(0, x4)]) (M' := q7.2) hX [(.iload 4, 0, 0, 0)] (by decide +kernel) rfl trivial ?_
    refine zG.if_eq (tgt := 62) (off := 10) hX (by decide +kernel) (by decide) (fun c11 => ?_) (fun c11 => ?_)
    · have h := zip c11 h
      exact zG.wk [true, true, true, true, false, true] (pX5_takeTest_62_ok hfX5_takeFact hfr hlo hX hRm hk8 h)
    · have h := zin c11 h
      refine zG.blk (pc' := 59) (l' := [some (2, x0), some (2, x1), some (0, x2), some (0, q7.1), some (0, x4), some (0, x5)]) (st' := [(0, 0), (0, 13), (2, x0)]) (M' := q7.2) hX [(.aload_n 0, 0, 0, 0), (.bipush 13, 0, 0, 0), (.iconst 0, 0, 0, 0)] (by decide +kernel) rfl trivial ?_
      obtain ⟨g18, h⟩ := zif h
      obtain ⟨q16, e17, h⟩ := zbd h
      refine zG.callV (b := x0) (av := [(0, 13), (0, 0)]) (st := []) (ci := 5) hX (pX5_addOrder_ok e17) sv_5_61 rfl ⟨by decide, rfl⟩ g18 (by decide +kernel) (by rw [hRm]; exact ⟨by show (2 : Nat) ≤ fr; omega, by show (62 : Nat) ≤ lo; omega⟩) (by rw [hRm]; exact ⟨Nat.le_refl _, Nat.le_refl _⟩) (Nat.le_of_ble_eq_true rfl) ?_
      show zG C E 6 S 0 0 _ 62 [some (2, x0), some (2, x1), some (0, x2), some (0, q7.1), some (0, x4), some (0, x5)] [] q16
      exact zG.wk [true, true, true, true, false, true] (pX5_takeTest_62_ok hfX5_takeFact hfr hlo hX hRm hk8 h)
noncomputable def pX5_takeTest_8 (fX5_takeFact : ZS → ZM → Int → Int → Int → Option (Int × ZM)) (S : ZS) : Nat → ZM → Int → Int → Int → Int → Int → Int → Option (Int × ZM)
  | 0 => fun _ _ _ _ _ _ _ => none
  | n + 1 => fun M x0 x1 x2 x3 x4 x5 => if 400 ≤ x5 then (some (1, M)) else (if S.1 x0 = 5 then (fX5_takeFact S M x0 x1 x2).bind fun q2 => if q2.1 = 0 then (some (0, q2.2)) else (if x3 = 0 then (pX5_takeTest_38 fX5_takeFact S (pX5_takeTest_8 fX5_takeFact S n) q2.2 x0 x1 x2 x4 x5) else ((pX5_addOrder S q2.2 x0 12 0).bind fun q19 => pX5_takeTest_38 fX5_takeFact S (pX5_takeTest_8 fX5_takeFact S n) q19 x0 x1 x2 x4 x5)) else none)
set_option maxHeartbeats 2000000 in
set_option maxRecDepth 20000 in
theorem pX5_takeTest_8_ok {C : ZC} {E : ZE} {S : ZS} {fX5_takeFact : ZS → ZM → Int → Int → Int → Option (Int × ZM)} {frc loc fr lo : Nat} {q : (Int × ZM)} (hfX5_takeFact : ∀ {M : ZM} {a0 a1 a2 : Int} {q : Int × ZM}, fX5_takeFact S M a0 a1 a2 = some q → zMet (czl C) yX5_takeFact cX5_takeFact 6 (some .boolean) frc loc 0 0 E S M [(2, a0), (2, a1), (0, a2)] (some (0, q.1)) S q.2) (hfr : frc + 1 ≤ fr ∧ 4 ≤ fr) (hlo : loc + 50 ≤ lo ∧ 101 ≤ lo) (hX : zCx C E 5 cX5_takeTest 6 (some .boolean) false) (hRm : czR C = { frames := fr, cells := 0, slots := 0, locals := lo }) : ∀ (n : Nat) (M : ZM) (x0 : Int) (x1 : Int) (x2 : Int) (x3 : Int) (x4 : Int) (x5 : Int), pX5_takeTest_8 fX5_takeFact S n M x0 x1 x2 x3 x4 x5 = some q → zG C E 6 S 0 0 (zQ C E 0 0 (some (0, q.1)) S q.2) 8 [some (2, x0), some (2, x1), some (0, x2), some (0, x3), some (0, x4), some (0, x5)] [] M := by
  intro n
  induction n with
  | zero => intro M x0 x1 x2 x3 x4 x5 h; cases h
  | succ n ih =>
    intro M x0 x1 x2 x3 x4 x5 h
    unfold pX5_takeTest_8 at h
    refine zG.blk (pc' := 13) (l' := [some (2, x0), some (2, x1), some (0, x2), some (0, x3), some (0, x4), some (0, x5)]) (st' := [(0, 400), (0, x5)]) (M' := M) hX [(.iload 5, 0, 0, 0), (.sipush 400, 0, 0, 0)] (by decide +kernel) rfl trivial ?_
    refine zG.icmp_ge (tgt := 84) (off := 71) hX (by decide +kernel) (by decide) (fun c1 => ?_) (fun c1 => ?_)
    · have h := zip c1 h
      refine zG.blk (pc' := 85) (l' := [some (2, x0), some (2, x1), some (0, x2), some (0, x3), some (0, x4), some (0, x5)]) (st' := [(0, 1)]) (M' := M) hX [(.iconst 1, 0, 0, 0)] (by decide +kernel) rfl trivial ?_
      cases h
      exact zG.zret hX (by decide +kernel) (Or.inr rfl)
    · have h := zin c1 h
      refine zG.blk (pc' := 19) (l' := [some (2, x0), some (2, x1), some (0, x2), some (0, x3), some (0, x4), some (0, x5)]) (st' := [(0, x2), (2, x1), (2, x0)]) (M' := M) hX [(.aload_n 0, 0, 0, 0), (.aload_n 1, 0, 0, 0), (.iload_n 2, 0, 0, 0)] (by decide +kernel) rfl trivial ?_
      obtain ⟨g4, h⟩ := zif h
      obtain ⟨q2, e3, h⟩ := zbd h
      refine zG.callV (b := x0) (av := [(2, x1), (0, x2)]) (st := []) (ci := 5) hX (hfX5_takeFact e3) sv_5_65 rfl ⟨by decide, rfl⟩ g4 (by decide +kernel) (by rw [hRm]; exact ⟨by show frc + 1 ≤ fr; omega, by show 8 + (6 + 11) + loc ≤ lo; omega⟩) (by rw [hRm]; exact ⟨Nat.le_refl _, Nat.le_refl _⟩) (Nat.le_of_ble_eq_true rfl) ?_
      show zG C E 6 S 0 0 _ 22 [some (2, x0), some (2, x1), some (0, x2), some (0, x3), some (0, x4), some (0, x5)] [(0, q2.1)] q2.2
      refine zG.if_ne (tgt := 27) (off := 5) hX (by decide +kernel) (by decide) (fun c5 => ?_) (fun c5 => ?_)
      · have h := zin c5 h
        refine zG.blk (pc' := 28) (l' := [some (2, x0), some (2, x1), some (0, x2), some (0, x3), some (0, x4), some (0, x5)]) (st' := [(0, x3)]) (M' := q2.2) hX [(.iload_n 3, 0, 0, 0)] (by decide +kernel) rfl trivial ?_
        refine zG.if_eq (tgt := 38) (off := 10) hX (by decide +kernel) (by decide) (fun c6 => ?_) (fun c6 => ?_)
        · have h := zip c6 h
          exact zG.wk [true, true, true, false, true, true] (pX5_takeTest_38_ok hfX5_takeFact hfr hlo hX hRm ih h)
        · have h := zin c6 h
          refine zG.blk (pc' := 35) (l' := [some (2, x0), some (2, x1), some (0, x2), some (0, x3), some (0, x4), some (0, x5)]) (st' := [(0, 0), (0, 12), (2, x0)]) (M' := q2.2) hX [(.aload_n 0, 0, 0, 0), (.bipush 12, 0, 0, 0), (.iconst 0, 0, 0, 0)] (by decide +kernel) rfl trivial ?_
          obtain ⟨q19, e20, h⟩ := zbd h
          refine zG.callV (b := x0) (av := [(0, 12), (0, 0)]) (st := []) (ci := 5) hX (pX5_addOrder_ok e20) sv_5_61 rfl ⟨by decide, rfl⟩ g4 (by decide +kernel) (by rw [hRm]; exact ⟨by show (2 : Nat) ≤ fr; omega, by show (62 : Nat) ≤ lo; omega⟩) (by rw [hRm]; exact ⟨Nat.le_refl _, Nat.le_refl _⟩) (Nat.le_of_ble_eq_true rfl) ?_
          show zG C E 6 S 0 0 _ 38 [some (2, x0), some (2, x1), some (0, x2), some (0, x3), some (0, x4), some (0, x5)] [] q19
          exact zG.wk [true, true, true, false, true, true] (pX5_takeTest_38_ok hfX5_takeFact hfr hlo hX hRm ih h)
      · have h := zip c5 h
        refine zG.blk (pc' := 26) (l' := [some (2, x0), some (2, x1), some (0, x2), some (0, x3), some (0, x4), some (0, x5)]) (st' := [(0, 0)]) (M' := q2.2) hX [(.iconst 0, 0, 0, 0)] (by decide +kernel) rfl trivial ?_
        cases h
        exact zG.zret hX (by decide +kernel) (Or.inl rfl)
noncomputable def pX5_takeTest (fX5_takeFact : ZS → ZM → Int → Int → Int → Option (Int × ZM)) (S : ZS) (M : ZM) (a0 : Int) (a1 : Int) (a2 : Int) : Option (Int × ZM) := pX5_takeTest_8 fX5_takeFact S zFU M a0 a1 a2 0 0 0
set_option maxHeartbeats 2000000 in
set_option maxRecDepth 20000 in
theorem pX5_takeTest_go {C : ZC} {E : ZE} {S : ZS} {M : ZM} {a0 a1 a2 : Int} {fX5_takeFact : ZS → ZM → Int → Int → Int → Option (Int × ZM)} {frc loc fr lo : Nat} {q : (Int × ZM)} (hfX5_takeFact : ∀ {M : ZM} {a0 a1 a2 : Int} {q : Int × ZM}, fX5_takeFact S M a0 a1 a2 = some q → zMet (czl C) yX5_takeFact cX5_takeFact 6 (some .boolean) frc loc 0 0 E S M [(2, a0), (2, a1), (0, a2)] (some (0, q.1)) S q.2) (hfr : frc + 1 ≤ fr ∧ 4 ≤ fr) (hlo : loc + 50 ≤ lo ∧ 101 ≤ lo) (hX : zCx C E 5 cX5_takeTest 6 (some .boolean) false) (hRm : czR C = { frames := fr, cells := 0, slots := 0, locals := lo }) (h : pX5_takeTest fX5_takeFact S M a0 a1 a2 = some q) : zG C E 6 S 0 0 (zQ C E 0 0 (some (0, q.1)) S q.2) 0 [some (2, a0), some (2, a1), some (0, a2), none, none, none] [] M := by
  unfold pX5_takeTest at h
  refine zG.blk (pc' := 8) (l' := [some (2, a0), some (2, a1), some (0, a2), some (0, 0), some (0, 0), some (0, 0)]) (st' := []) (M' := M) hX [(.iconst 0, 0, 0, 0), (.istore_n 3, 0, 0, 0), (.iconst 0, 0, 0, 0), (.istore 4, 0, 0, 0), (.iconst 0, 0, 0, 0), (.istore 5, 0, 0, 0)] (by decide +kernel) rfl trivial ?_
  exact (pX5_takeTest_8_ok hfX5_takeFact hfr hlo hX hRm zFU _ _ _ _ _ _ _ h)
noncomputable def tfX5 : Nat → (ZS → ZM → Int → Int → Int → Option (Int × ZM)) × (ZS → ZM → Int → Int → Int → Option (Int × ZM))
  | 0 => (fun _ _ _ _ _ => none, fun _ _ _ _ _ => none)
  | n + 1 => (pX5_takeFact (tfX5 n).1 (tfX5 n).2, pX5_takeTest (tfX5 n).1)
theorem tfX5_ok {l : Launch} {E : ZE} {S : ZS} : ∀ n : Nat, (∀ {M : ZM} {a0 a1 a2 : Int} {q : Int × ZM}, (tfX5 n).1 S M a0 a1 a2 = some q → zMet l yX5_takeFact cX5_takeFact 6 (some .boolean) (5 + n) (128 + 60 * n) 0 0 E S M [(2, a0), (2, a1), (0, a2)] (some (0, q.1)) S q.2) ∧ (∀ {M : ZM} {a0 a1 a2 : Int} {q : Int × ZM}, (tfX5 n).2 S M a0 a1 a2 = some q → zMet l yX5_takeTest cX5_takeTest 6 (some .boolean) (5 + n) (128 + 60 * n) 0 0 E S M [(2, a0), (2, a1), (0, a2)] (some (0, q.1)) S q.2) := by
  intro n
  induction n with
  | zero => exact ⟨fun h => (by cases h), fun h => (by cases h)⟩
  | succ n ih =>
    obtain ⟨ih1, ih2⟩ := ih
    refine ⟨fun h => ?_, fun h => ?_⟩
    · exact zMet.of (o := 5) (ini := false) (by decide +kernel) rfl (fun h => by cases h) (Nat.le_of_ble_eq_true rfl) (fun C hX hl hRm => by subst hl; exact pX5_takeFact_go (frc := 5 + n) (loc := 128 + 60 * n) ih1 ih2 ⟨by omega, by omega⟩ ⟨by omega, by omega⟩ hX hRm h)
    · exact zMet.of (o := 5) (ini := false) (by decide +kernel) rfl (fun h => by cases h) (Nat.le_of_ble_eq_true rfl) (fun C hX hl hRm => by subst hl; exact pX5_takeTest_go (frc := 5 + n) (loc := 128 + 60 * n) ih1 ⟨by omega, by omega⟩ ⟨by omega, by omega⟩ hX hRm h)
noncomputable def qX5_takeFact : (ZS → ZM → Int → Int → Int → Option (Int × ZM)) := (tfX5 40).1
theorem qX5_takeFact_ok {l : Launch} {E : ZE} {S : ZS} {M : ZM} {a0 a1 a2 : Int} {q : Int × ZM} (h : qX5_takeFact S M a0 a1 a2 = some q) : zMet l yX5_takeFact cX5_takeFact 6 (some .boolean) 45 2528 0 0 E S M [(2, a0), (2, a1), (0, a2)] (some (0, q.1)) S q.2 := (tfX5_ok 40).1 h
noncomputable def qX5_takeTest : (ZS → ZM → Int → Int → Int → Option (Int × ZM)) := (tfX5 40).2
theorem qX5_takeTest_ok {l : Launch} {E : ZE} {S : ZS} {M : ZM} {a0 a1 a2 : Int} {q : Int × ZM} (h : qX5_takeTest S M a0 a1 a2 = some q) : zMet l yX5_takeTest cX5_takeTest 6 (some .boolean) 45 2528 0 0 E S M [(2, a0), (2, a1), (0, a2)] (some (0, q.1)) S q.2 := (tfX5_ok 40).2 h
theorem sv_3_59 : zSV 3 59 yX3_difference cX3_difference 3 (some .int) 0 := ⟨⟨gt_at 991 (by decide +kernel) rfl, gt_at 993 (by decide +kernel) rfl, gt_at 28 (by decide +kernel) rfl, gt_at 116 (by decide +kernel) rfl, gt_at 994 (by decide +kernel) rfl⟩, by decide +kernel, by decide +kernel, by decide +kernel⟩
noncomputable def pX3_outcomeFrom_10 (fX3_outcomeOfGoing : ZS → ZM → Int → Int → Int → Int → Int → Option (Int × ZM)) (S : ZS) (M : ZM) (x0 : Int) : Option (Int × ZM) := if S.1 x0 = 3 then (pX3_difference S M x0).bind fun q2 => some (q2.1, q2.2) else none
set_option maxHeartbeats 2000000 in
set_option maxRecDepth 20000 in
theorem pX3_outcomeFrom_10_ok {C : ZC} {E : ZE} {S : ZS} {fX3_outcomeOfGoing : ZS → ZM → Int → Int → Int → Int → Int → Option (Int × ZM)} {frc loc fr lo : Nat} {q : (Int × ZM)} (hfX3_outcomeOfGoing : ∀ {M : ZM} {a0 a1 a2 a3 a4 : Int} {q : Int × ZM}, fX3_outcomeOfGoing S M a0 a1 a2 a3 a4 = some q → zMet (czl C) yX3_outcomeOfGoing cX3_outcomeOfGoing 8 (some .int) frc loc 0 0 E S M [(2, a0), (0, a1), (0, a2), (0, a3), (0, a4)] (some (0, q.1)) S q.2) (hfr : frc + 1 ≤ fr ∧ 3 ≤ fr) (hlo : loc + 50 ≤ lo ∧ 83 ≤ lo) (hX : zCx C E 3 cX3_outcomeFrom 10 (some .int) false) (hRm : czR C = { frames := fr, cells := 0, slots := 0, locals := lo }) {M : ZM} {x0 : Int} (h : pX3_outcomeFrom_10 fX3_outcomeOfGoing S M x0 = some q) : zG C E 10 S 0 0 (zQ C E 0 0 (some (0, q.1)) S q.2) 10 [some (2, x0), none, none, none, none, none, none, none, none, none] [] M := by
  unfold pX3_outcomeFrom_10 at h
  refine zG.blk (pc' := 11) (l' := [some (2, x0), none, none, none, none, none, none, none, none, none]) (st' := [(2, x0)]) (M' := M) hX [(.aload_n 0, 0, 0, 0)] (by decide +kernel) rfl trivial ?_
  obtain ⟨g4, h⟩ := zif h
  obtain ⟨q2, e3, h⟩ := zbd h
  refine zG.callV (b := x0) (av := []) (st := []) (ci := 3) hX (pX3_difference_ok e3) sv_3_59 rfl ⟨by decide, rfl⟩ g4 (by decide +kernel) (by rw [hRm]; exact ⟨by show (2 : Nat) ≤ fr; omega, by show (62 : Nat) ≤ lo; omega⟩) (by rw [hRm]; exact ⟨Nat.le_refl _, Nat.le_refl _⟩) (Nat.le_of_ble_eq_true rfl) ?_
  show zG C E 10 S 0 0 _ 14 [some (2, x0), none, none, none, none, none, none, none, none, none] [(0, q2.1)] q2.2
  cases h
  exact zG.iret hX (by decide +kernel)
noncomputable def pX3_outcomeFrom_143 (fX3_outcomeOfGoing : ZS → ZM → Int → Int → Int → Int → Int → Option (Int × ZM)) (S : ZS) (M : ZM) (x5 : Int) : Option (Int × ZM) := some (x5, M)
set_option maxHeartbeats 2000000 in
set_option maxRecDepth 20000 in
theorem pX3_outcomeFrom_143_ok {C : ZC} {E : ZE} {S : ZS} {fX3_outcomeOfGoing : ZS → ZM → Int → Int → Int → Int → Int → Option (Int × ZM)} {frc loc fr lo : Nat} {q : (Int × ZM)} (hfX3_outcomeOfGoing : ∀ {M : ZM} {a0 a1 a2 a3 a4 : Int} {q : Int × ZM}, fX3_outcomeOfGoing S M a0 a1 a2 a3 a4 = some q → zMet (czl C) yX3_outcomeOfGoing cX3_outcomeOfGoing 8 (some .int) frc loc 0 0 E S M [(2, a0), (0, a1), (0, a2), (0, a3), (0, a4)] (some (0, q.1)) S q.2) (hfr : frc + 1 ≤ fr ∧ 3 ≤ fr) (hlo : loc + 50 ≤ lo ∧ 83 ≤ lo) (hX : zCx C E 3 cX3_outcomeFrom 10 (some .int) false) (hRm : czR C = { frames := fr, cells := 0, slots := 0, locals := lo }) {M : ZM} {x5 : Int} (h : pX3_outcomeFrom_143 fX3_outcomeOfGoing S M x5 = some q) : zG C E 10 S 0 0 (zQ C E 0 0 (some (0, q.1)) S q.2) 143 [none, none, none, none, none, some (0, x5), none, none, none, none] [] M := by
  unfold pX3_outcomeFrom_143 at h
  refine zG.blk (pc' := 145) (l' := [none, none, none, none, none, some (0, x5), none, none, none, none]) (st' := [(0, x5)]) (M' := M) hX [(.iload 5, 0, 0, 0)] (by decide +kernel) rfl trivial ?_
  cases h
  exact zG.iret hX (by decide +kernel)
theorem sv_3_63 : zSV 3 63 yX9_beside cX9_beside 3 (some .int) 2 := ⟨⟨gt_at 995 (by decide +kernel) rfl, gt_at 848 (by decide +kernel) rfl, gt_at 849 (by decide +kernel) rfl, gt_at 108 (by decide +kernel) rfl, gt_at 850 (by decide +kernel) rfl⟩, by decide +kernel, by decide +kernel, by decide +kernel⟩
theorem sv_3_66 : zSV 3 66 yX3_outcomeOfGoing cX3_outcomeOfGoing 8 (some .int) 4 := ⟨⟨gt_at 996 (by decide +kernel) rfl, gt_at 998 (by decide +kernel) rfl, gt_at 29 (by decide +kernel) rfl, gt_at 116 (by decide +kernel) rfl, gt_at 999 (by decide +kernel) rfl⟩, by decide +kernel, by decide +kernel, by decide +kernel⟩
noncomputable def pX3_outcomeFrom_127 (fX3_outcomeOfGoing : ZS → ZM → Int → Int → Int → Int → Int → Option (Int × ZM)) (S : ZS) (k37 : ZM → Int → Int → Int → Int → Int → Int → Int → Int → Option (Int × ZM)) (M : ZM) (x0 : Int) (x1 : Int) (x2 : Int) (x3 : Int) (x4 : Int) (x5 : Int) (x6 : Int) (x7 : Int) : Option (Int × ZM) := k37 M x0 x1 x2 x3 x4 x5 x6 (w32 (x7 + 1))
set_option maxHeartbeats 2000000 in
set_option maxRecDepth 20000 in
theorem pX3_outcomeFrom_127_ok {C : ZC} {E : ZE} {S : ZS} {fX3_outcomeOfGoing : ZS → ZM → Int → Int → Int → Int → Int → Option (Int × ZM)} {frc loc fr lo : Nat} {k37 : ZM → Int → Int → Int → Int → Int → Int → Int → Int → Option (Int × ZM)} {q : (Int × ZM)} (hfX3_outcomeOfGoing : ∀ {M : ZM} {a0 a1 a2 a3 a4 : Int} {q : Int × ZM}, fX3_outcomeOfGoing S M a0 a1 a2 a3 a4 = some q → zMet (czl C) yX3_outcomeOfGoing cX3_outcomeOfGoing 8 (some .int) frc loc 0 0 E S M [(2, a0), (0, a1), (0, a2), (0, a3), (0, a4)] (some (0, q.1)) S q.2) (hfr : frc + 1 ≤ fr ∧ 3 ≤ fr) (hlo : loc + 50 ≤ lo ∧ 83 ≤ lo) (hX : zCx C E 3 cX3_outcomeFrom 10 (some .int) false) (hRm : czR C = { frames := fr, cells := 0, slots := 0, locals := lo }) (hk37 : ∀ M x0 x1 x2 x3 x4 x5 x6 x7, k37 M x0 x1 x2 x3 x4 x5 x6 x7 = some q → zG C E 10 S 0 0 (zQ C E 0 0 (some (0, q.1)) S q.2) 37 [some (2, x0), some (0, x1), some (0, x2), some (0, x3), some (0, x4), some (0, x5), some (0, x6), some (0, x7), none, none] [] M) {M : ZM} {x0 : Int} {x1 : Int} {x2 : Int} {x3 : Int} {x4 : Int} {x5 : Int} {x6 : Int} {x7 : Int} (h : pX3_outcomeFrom_127 fX3_outcomeOfGoing S k37 M x0 x1 x2 x3 x4 x5 x6 x7 = some q) : zG C E 10 S 0 0 (zQ C E 0 0 (some (0, q.1)) S q.2) 127 [some (2, x0), some (0, x1), some (0, x2), some (0, x3), some (0, x4), some (0, x5), some (0, x6), some (0, x7), none, none] [] M := by
  unfold pX3_outcomeFrom_127 at h
  refine zG.blk (pc' := 130) (l' := [some (2, x0), some (0, x1), some (0, x2), some (0, x3), some (0, x4), some (0, x5), some (0, x6), some (0, w32 (x7 + 1)), none, none]) (st' := []) (M' := M) hX [(.iinc 7 1, 0, 0, 0)] (by decide +kernel) rfl trivial ?_
  refine zG.goto (tgt := 37) (off := (-93)) hX (by decide +kernel) (by decide) ?_
  exact (hk37 _ _ _ _ _ _ _ _ _ h)
noncomputable def pX3_outcomeFrom_119 (fX3_outcomeOfGoing : ZS → ZM → Int → Int → Int → Int → Int → Option (Int × ZM)) (S : ZS) (k37 : ZM → Int → Int → Int → Int → Int → Int → Int → Int → Option (Int × ZM)) (M : ZM) (x0 : Int) (x1 : Int) (x2 : Int) (x3 : Int) (x4 : Int) (x7 : Int) (x9 : Int) : Option (Int × ZM) := pX3_outcomeFrom_127 fX3_outcomeOfGoing S k37 M x0 x1 x2 x3 x4 x9 x7 x7
set_option maxHeartbeats 2000000 in
set_option maxRecDepth 20000 in
theorem pX3_outcomeFrom_119_ok {C : ZC} {E : ZE} {S : ZS} {fX3_outcomeOfGoing : ZS → ZM → Int → Int → Int → Int → Int → Option (Int × ZM)} {frc loc fr lo : Nat} {k37 : ZM → Int → Int → Int → Int → Int → Int → Int → Int → Option (Int × ZM)} {q : (Int × ZM)} (hfX3_outcomeOfGoing : ∀ {M : ZM} {a0 a1 a2 a3 a4 : Int} {q : Int × ZM}, fX3_outcomeOfGoing S M a0 a1 a2 a3 a4 = some q → zMet (czl C) yX3_outcomeOfGoing cX3_outcomeOfGoing 8 (some .int) frc loc 0 0 E S M [(2, a0), (0, a1), (0, a2), (0, a3), (0, a4)] (some (0, q.1)) S q.2) (hfr : frc + 1 ≤ fr ∧ 3 ≤ fr) (hlo : loc + 50 ≤ lo ∧ 83 ≤ lo) (hX : zCx C E 3 cX3_outcomeFrom 10 (some .int) false) (hRm : czR C = { frames := fr, cells := 0, slots := 0, locals := lo }) (hk37 : ∀ M x0 x1 x2 x3 x4 x5 x6 x7, k37 M x0 x1 x2 x3 x4 x5 x6 x7 = some q → zG C E 10 S 0 0 (zQ C E 0 0 (some (0, q.1)) S q.2) 37 [some (2, x0), some (0, x1), some (0, x2), some (0, x3), some (0, x4), some (0, x5), some (0, x6), some (0, x7), none, none] [] M) {M : ZM} {x0 : Int} {x1 : Int} {x2 : Int} {x3 : Int} {x4 : Int} {x7 : Int} {x9 : Int} (h : pX3_outcomeFrom_119 fX3_outcomeOfGoing S k37 M x0 x1 x2 x3 x4 x7 x9 = some q) : zG C E 10 S 0 0 (zQ C E 0 0 (some (0, q.1)) S q.2) 119 [some (2, x0), some (0, x1), some (0, x2), some (0, x3), some (0, x4), none, none, some (0, x7), none, some (0, x9)] [] M := by
  unfold pX3_outcomeFrom_119 at h
  refine zG.blk (pc' := 127) (l' := [some (2, x0), some (0, x1), some (0, x2), some (0, x3), some (0, x4), some (0, x9), some (0, x7), some (0, x7), none, some (0, x9)]) (st' := []) (M' := M) hX [(.iload 9, 0, 0, 0), (.istore 5, 0, 0, 0), (.iload 7, 0, 0, 0), (.istore 6, 0, 0, 0)] (by decide +kernel) rfl trivial ?_
  exact zG.wk [true, true, true, true, true, true, true, true, true, false] (pX3_outcomeFrom_127_ok hfX3_outcomeOfGoing hfr hlo hX hRm hk37 h)
noncomputable def pX3_outcomeFrom_80 (fX3_outcomeOfGoing : ZS → ZM → Int → Int → Int → Int → Int → Option (Int × ZM)) (S : ZS) (k37 : ZM → Int → Int → Int → Int → Int → Int → Int → Int → Option (Int × ZM)) (M : ZM) (x0 : Int) (x1 : Int) (x2 : Int) (x3 : Int) (x4 : Int) (x5 : Int) (x6 : Int) (x7 : Int) (x8 : Int) : Option (Int × ZM) := if S.1 x0 = 3 then (fX3_outcomeOfGoing S M x0 x3 x8 x1 x2).bind fun q18 => if x6 = (-2) then (pX3_outcomeFrom_119 fX3_outcomeOfGoing S k37 q18.2 x0 x1 x2 x3 x4 x7 q18.1) else (if x3 = 0 then (if q18.1 ≤ x5 then (pX3_outcomeFrom_127 fX3_outcomeOfGoing S k37 q18.2 x0 x1 x2 x3 x4 x5 x6 x7) else (pX3_outcomeFrom_119 fX3_outcomeOfGoing S k37 q18.2 x0 x1 x2 x3 x4 x7 q18.1)) else (if x5 ≤ q18.1 then (pX3_outcomeFrom_127 fX3_outcomeOfGoing S k37 q18.2 x0 x1 x2 x3 x4 x5 x6 x7) else (pX3_outcomeFrom_119 fX3_outcomeOfGoing S k37 q18.2 x0 x1 x2 x3 x4 x7 q18.1))) else none
set_option maxHeartbeats 2000000 in
set_option maxRecDepth 20000 in
theorem pX3_outcomeFrom_80_ok {C : ZC} {E : ZE} {S : ZS} {fX3_outcomeOfGoing : ZS → ZM → Int → Int → Int → Int → Int → Option (Int × ZM)} {frc loc fr lo : Nat} {k37 : ZM → Int → Int → Int → Int → Int → Int → Int → Int → Option (Int × ZM)} {q : (Int × ZM)} (hfX3_outcomeOfGoing : ∀ {M : ZM} {a0 a1 a2 a3 a4 : Int} {q : Int × ZM}, fX3_outcomeOfGoing S M a0 a1 a2 a3 a4 = some q → zMet (czl C) yX3_outcomeOfGoing cX3_outcomeOfGoing 8 (some .int) frc loc 0 0 E S M [(2, a0), (0, a1), (0, a2), (0, a3), (0, a4)] (some (0, q.1)) S q.2) (hfr : frc + 1 ≤ fr ∧ 3 ≤ fr) (hlo : loc + 50 ≤ lo ∧ 83 ≤ lo) (hX : zCx C E 3 cX3_outcomeFrom 10 (some .int) false) (hRm : czR C = { frames := fr, cells := 0, slots := 0, locals := lo }) (hk37 : ∀ M x0 x1 x2 x3 x4 x5 x6 x7, k37 M x0 x1 x2 x3 x4 x5 x6 x7 = some q → zG C E 10 S 0 0 (zQ C E 0 0 (some (0, q.1)) S q.2) 37 [some (2, x0), some (0, x1), some (0, x2), some (0, x3), some (0, x4), some (0, x5), some (0, x6), some (0, x7), none, none] [] M) {M : ZM} {x0 : Int} {x1 : Int} {x2 : Int} {x3 : Int} {x4 : Int} {x5 : Int} {x6 : Int} {x7 : Int} {x8 : Int} (h : pX3_outcomeFrom_80 fX3_outcomeOfGoing S k37 M x0 x1 x2 x3 x4 x5 x6 x7 x8 = some q) : zG C E 10 S 0 0 (zQ C E 0 0 (some (0, q.1)) S q.2) 80 [some (2, x0), some (0, x1), some (0, x2), some (0, x3), some (0, x4), some (0, x5), some (0, x6), some (0, x7), some (0, x8), none] [] M := by
  unfold pX3_outcomeFrom_80 at h
  refine zG.blk (pc' := 86) (l' := [some (2, x0), some (0, x1), some (0, x2), some (0, x3), some (0, x4), some (0, x5), some (0, x6), some (0, x7), some (0, x8), none]) (st' := [(0, x2), (0, x1), (0, x8), (0, x3), (2, x0)]) (M' := M) hX [(.aload_n 0, 0, 0, 0), (.iload_n 3, 0, 0, 0), (.iload 8, 0, 0, 0), (.iload_n 1, 0, 0, 0), (.iload_n 2, 0, 0, 0)] (by decide +kernel) rfl trivial ?_
  obtain ⟨g20, h⟩ := zif h
  obtain ⟨q18, e19, h⟩ := zbd h
  refine zG.callV (b := x0) (av := [(0, x3), (0, x8), (0, x1), (0, x2)]) (st := []) (ci := 3) hX (hfX3_outcomeOfGoing e19) sv_3_66 rfl ⟨by decide, rfl⟩ g20 (by decide +kernel) (by rw [hRm]; exact ⟨by show frc + 1 ≤ fr; omega, by show 8 + (8 + 11) + loc ≤ lo; omega⟩) (by rw [hRm]; exact ⟨Nat.le_refl _, Nat.le_refl _⟩) (Nat.le_of_ble_eq_true rfl) ?_
  show zG C E 10 S 0 0 _ 89 [some (2, x0), some (0, x1), some (0, x2), some (0, x3), some (0, x4), some (0, x5), some (0, x6), some (0, x7), some (0, x8), none] [(0, q18.1)] q18.2
  refine zG.blk (pc' := 95) (l' := [some (2, x0), some (0, x1), some (0, x2), some (0, x3), some (0, x4), some (0, x5), some (0, x6), some (0, x7), some (0, x8), some (0, q18.1)]) (st' := [(0, (-2)), (0, x6)]) (M' := q18.2) hX [(.istore 9, 0, 0, 0), (.iload 6, 0, 0, 0), (.bipush (-2), 0, 0, 0)] (by decide +kernel) rfl trivial ?_
  refine zG.icmp_eq (tgt := 119) (off := 24) hX (by decide +kernel) (by decide) (fun c21 => ?_) (fun c21 => ?_)
  · have h := zip c21 h
    exact zG.wk [true, true, true, true, true, false, false, true, false, true] (pX3_outcomeFrom_119_ok hfX3_outcomeOfGoing hfr hlo hX hRm hk37 h)
  · have h := zin c21 h
    refine zG.blk (pc' := 99) (l' := [some (2, x0), some (0, x1), some (0, x2), some (0, x3), some (0, x4), some (0, x5), some (0, x6), some (0, x7), some (0, x8), some (0, q18.1)]) (st' := [(0, x3)]) (M' := q18.2) hX [(.iload_n 3, 0, 0, 0)] (by decide +kernel) rfl trivial ?_
    refine zG.if_ne (tgt := 112) (off := 13) hX (by decide +kernel) (by decide) (fun c22 => ?_) (fun c22 => ?_)
    · have h := zin c22 h
      refine zG.blk (pc' := 116) (l' := [some (2, x0), some (0, x1), some (0, x2), some (0, x3), some (0, x4), some (0, x5), some (0, x6), some (0, x7), some (0, x8), some (0, q18.1)]) (st' := [(0, x5), (0, q18.1)]) (M' := q18.2) hX [(.iload 9, 0, 0, 0), (.iload 5, 0, 0, 0)] (by decide +kernel) rfl trivial ?_
      refine zG.icmp_ge (tgt := 127) (off := 11) hX (by decide +kernel) (by decide) (fun c23 => ?_) (fun c23 => ?_)
      · have h := zip c23 h
        exact zG.wk [true, true, true, true, true, true, true, true, false, false] (pX3_outcomeFrom_127_ok hfX3_outcomeOfGoing hfr hlo hX hRm hk37 h)
      · have h := zin c23 h
        exact zG.wk [true, true, true, true, true, false, false, true, false, true] (pX3_outcomeFrom_119_ok hfX3_outcomeOfGoing hfr hlo hX hRm hk37 h)
    · have h := zip c22 h
      refine zG.blk (pc' := 106) (l' := [some (2, x0), some (0, x1), some (0, x2), some (0, x3), some (0, x4), some (0, x5), some (0, x6), some (0, x7), some (0, x8), some (0, q18.1)]) (st' := [(0, x5), (0, q18.1)]) (M' := q18.2) hX [(.iload 9, 0, 0, 0), (.iload 5, 0, 0, 0)] (by decide +kernel) rfl trivial ?_
      refine zG.icmp_le (tgt := 127) (off := 21) hX (by decide +kernel) (by decide) (fun c24 => ?_) (fun c24 => ?_)
      · have h := zip c24 h
        exact zG.wk [true, true, true, true, true, true, true, true, false, false] (pX3_outcomeFrom_127_ok hfX3_outcomeOfGoing hfr hlo hX hRm hk37 h)
      · have h := zin c24 h
        refine zG.goto (tgt := 119) (off := 10) hX (by decide +kernel) (by decide) ?_
        exact zG.wk [true, true, true, true, true, false, false, true, false, true] (pX3_outcomeFrom_119_ok hfX3_outcomeOfGoing hfr hlo hX hRm hk37 h)
noncomputable def pX3_outcomeFrom_65 (fX3_outcomeOfGoing : ZS → ZM → Int → Int → Int → Int → Int → Option (Int × ZM)) (S : ZS) (k37 : ZM → Int → Int → Int → Int → Int → Int → Int → Int → Option (Int × ZM)) (M : ZM) (x0 : Int) (x1 : Int) (x2 : Int) (x3 : Int) (x4 : Int) (x5 : Int) (x6 : Int) (x7 : Int) (y0 : Int) : Option (Int × ZM) := if x7 = (-1) then (pX3_outcomeFrom_80 fX3_outcomeOfGoing S k37 M x0 x1 x2 x3 x4 x5 x6 x7 y0) else (if y0 = x4 then (pX3_outcomeFrom_127 fX3_outcomeOfGoing S k37 M x0 x1 x2 x3 x4 x5 x6 x7) else (pX3_outcomeFrom_80 fX3_outcomeOfGoing S k37 M x0 x1 x2 x3 x4 x5 x6 x7 y0))
set_option maxHeartbeats 2000000 in
set_option maxRecDepth 20000 in
theorem pX3_outcomeFrom_65_ok {C : ZC} {E : ZE} {S : ZS} {fX3_outcomeOfGoing : ZS → ZM → Int → Int → Int → Int → Int → Option (Int × ZM)} {frc loc fr lo : Nat} {k37 : ZM → Int → Int → Int → Int → Int → Int → Int → Int → Option (Int × ZM)} {q : (Int × ZM)} (hfX3_outcomeOfGoing : ∀ {M : ZM} {a0 a1 a2 a3 a4 : Int} {q : Int × ZM}, fX3_outcomeOfGoing S M a0 a1 a2 a3 a4 = some q → zMet (czl C) yX3_outcomeOfGoing cX3_outcomeOfGoing 8 (some .int) frc loc 0 0 E S M [(2, a0), (0, a1), (0, a2), (0, a3), (0, a4)] (some (0, q.1)) S q.2) (hfr : frc + 1 ≤ fr ∧ 3 ≤ fr) (hlo : loc + 50 ≤ lo ∧ 83 ≤ lo) (hX : zCx C E 3 cX3_outcomeFrom 10 (some .int) false) (hRm : czR C = { frames := fr, cells := 0, slots := 0, locals := lo }) (hk37 : ∀ M x0 x1 x2 x3 x4 x5 x6 x7, k37 M x0 x1 x2 x3 x4 x5 x6 x7 = some q → zG C E 10 S 0 0 (zQ C E 0 0 (some (0, q.1)) S q.2) 37 [some (2, x0), some (0, x1), some (0, x2), some (0, x3), some (0, x4), some (0, x5), some (0, x6), some (0, x7), none, none] [] M) {M : ZM} {x0 : Int} {x1 : Int} {x2 : Int} {x3 : Int} {x4 : Int} {x5 : Int} {x6 : Int} {x7 : Int} {y0 : Int} (h : pX3_outcomeFrom_65 fX3_outcomeOfGoing S k37 M x0 x1 x2 x3 x4 x5 x6 x7 y0 = some q) : zG C E 10 S 0 0 (zQ C E 0 0 (some (0, q.1)) S q.2) 65 [some (2, x0), some (0, x1), some (0, x2), some (0, x3), some (0, x4), some (0, x5), some (0, x6), some (0, x7), none, none] [(0, y0)] M := by
  unfold pX3_outcomeFrom_65 at h
  refine zG.blk (pc' := 70) (l' := [some (2, x0), some (0, x1), some (0, x2), some (0, x3), some (0, x4), some (0, x5), some (0, x6), some (0, x7), some (0, y0), none]) (st' := [(0, (-1)), (0, x7)]) (M' := M) hX [(.istore 8, 0, 0, 0), (.iload 7, 0, 0, 0), (.iconst (-1), 0, 0, 0)] (by decide +kernel) rfl trivial ?_
  refine zG.icmp_eq (tgt := 80) (off := 10) hX (by decide +kernel) (by decide) (fun c17 => ?_) (fun c17 => ?_)
  · have h := zip c17 h
    exact (pX3_outcomeFrom_80_ok hfX3_outcomeOfGoing hfr hlo hX hRm hk37 h)
  · have h := zin c17 h
    refine zG.blk (pc' := 77) (l' := [some (2, x0), some (0, x1), some (0, x2), some (0, x3), some (0, x4), some (0, x5), some (0, x6), some (0, x7), some (0, y0), none]) (st' := [(0, x4), (0, y0)]) (M' := M) hX [(.iload 8, 0, 0, 0), (.iload 4, 0, 0, 0)] (by decide +kernel) rfl trivial ?_
    refine zG.icmp_eq (tgt := 127) (off := 50) hX (by decide +kernel) (by decide) (fun c25 => ?_) (fun c25 => ?_)
    · have h := zip c25 h
      exact zG.wk [true, true, true, true, true, true, true, true, false, true] (pX3_outcomeFrom_127_ok hfX3_outcomeOfGoing hfr hlo hX hRm hk37 h)
    · have h := zin c25 h
      exact (pX3_outcomeFrom_80_ok hfX3_outcomeOfGoing hfr hlo hX hRm hk37 h)
noncomputable def pX3_outcomeFrom_37 (fX3_outcomeOfGoing : ZS → ZM → Int → Int → Int → Int → Int → Option (Int × ZM)) (S : ZS) : Nat → ZM → Int → Int → Int → Int → Int → Int → Int → Int → Option (Int × ZM)
  | 0 => fun _ _ _ _ _ _ _ _ _ => none
  | n + 1 => fun M x0 x1 x2 x3 x4 x5 x6 x7 => if 4 ≤ x7 then (if x1 = 0 then (if S.1 x0 = 3 then zlet (upM M x0 4 x6) fun M11 => pX3_outcomeFrom_143 fX3_outcomeOfGoing S M11 x5 else none) else (pX3_outcomeFrom_143 fX3_outcomeOfGoing S M x5)) else (if x7 = (-1) then (pX3_outcomeFrom_65 fX3_outcomeOfGoing S (pX3_outcomeFrom_37 fX3_outcomeOfGoing S n) M x0 x1 x2 x3 x4 x5 x6 x7 x4) else (if S.1 x0 = 3 then if S.1 (M x0 0) = 9 then (pX9_beside S M (M x0 0) x4 x7).bind fun q14 => pX3_outcomeFrom_65 fX3_outcomeOfGoing S (pX3_outcomeFrom_37 fX3_outcomeOfGoing S n) q14.2 x0 x1 x2 x3 x4 x5 x6 x7 q14.1 else none else none))
set_option maxHeartbeats 2000000 in
set_option maxRecDepth 20000 in
theorem pX3_outcomeFrom_37_ok {C : ZC} {E : ZE} {S : ZS} {fX3_outcomeOfGoing : ZS → ZM → Int → Int → Int → Int → Int → Option (Int × ZM)} {frc loc fr lo : Nat} {q : (Int × ZM)} (hfX3_outcomeOfGoing : ∀ {M : ZM} {a0 a1 a2 a3 a4 : Int} {q : Int × ZM}, fX3_outcomeOfGoing S M a0 a1 a2 a3 a4 = some q → zMet (czl C) yX3_outcomeOfGoing cX3_outcomeOfGoing 8 (some .int) frc loc 0 0 E S M [(2, a0), (0, a1), (0, a2), (0, a3), (0, a4)] (some (0, q.1)) S q.2) (hfr : frc + 1 ≤ fr ∧ 3 ≤ fr) (hlo : loc + 50 ≤ lo ∧ 83 ≤ lo) (hX : zCx C E 3 cX3_outcomeFrom 10 (some .int) false) (hRm : czR C = { frames := fr, cells := 0, slots := 0, locals := lo }) : ∀ (n : Nat) (M : ZM) (x0 : Int) (x1 : Int) (x2 : Int) (x3 : Int) (x4 : Int) (x5 : Int) (x6 : Int) (x7 : Int), pX3_outcomeFrom_37 fX3_outcomeOfGoing S n M x0 x1 x2 x3 x4 x5 x6 x7 = some q → zG C E 10 S 0 0 (zQ C E 0 0 (some (0, q.1)) S q.2) 37 [some (2, x0), some (0, x1), some (0, x2), some (0, x3), some (0, x4), some (0, x5), some (0, x6), some (0, x7), none, none] [] M := by
  intro n
  induction n with
  | zero => intro M x0 x1 x2 x3 x4 x5 x6 x7 h; cases h
  | succ n ih =>
    intro M x0 x1 x2 x3 x4 x5 x6 x7 h
    unfold pX3_outcomeFrom_37 at h
    refine zG.blk (pc' := 40) (l' := [some (2, x0), some (0, x1), some (0, x2), some (0, x3), some (0, x4), some (0, x5), some (0, x6), some (0, x7), none, none]) (st' := [(0, 4), (0, x7)]) (M' := M) hX [(.iload 7, 0, 0, 0), (.iconst 4, 0, 0, 0)] (by decide +kernel) rfl trivial ?_
    refine zG.icmp_ge (tgt := 133) (off := 93) hX (by decide +kernel) (by decide) (fun c8 => ?_) (fun c8 => ?_)
    · have h := zip c8 h
      refine zG.blk (pc' := 134) (l' := [some (2, x0), some (0, x1), some (0, x2), some (0, x3), some (0, x4), some (0, x5), some (0, x6), some (0, x7), none, none]) (st' := [(0, x1)]) (M' := M) hX [(.iload_n 1, 0, 0, 0)] (by decide +kernel) rfl trivial ?_
      refine zG.if_ne (tgt := 143) (off := 9) hX (by decide +kernel) (by decide) (fun c9 => ?_) (fun c9 => ?_)
      · have h := zin c9 h
        exact zG.wk [false, false, false, false, false, true, false, false, true, true] (pX3_outcomeFrom_143_ok hfX3_outcomeOfGoing hfr hlo hX hRm h)
      · have h := zip c9 h
        obtain ⟨g10, h⟩ := zif h
        refine zG.blk (pc' := 143) (l' := [some (2, x0), some (0, x1), some (0, x2), some (0, x3), some (0, x4), some (0, x5), some (0, x6), some (0, x7), none, none]) (st' := []) (M' := (upM M x0 4 x6)) hX [(.aload_n 0, 0, 0, 0), (.iload 6, 0, 0, 0), (.putfield 55, 3, 4, 0)] (by decide +kernel) rfl (And.intro g10 trivial) ?_
        generalize upM M x0 4 x6 = M11 at h ⊢
        have h := zlt h
        exact zG.wk [false, false, false, false, false, true, false, false, true, true] (pX3_outcomeFrom_143_ok hfX3_outcomeOfGoing hfr hlo hX hRm h)
    · have h := zin c8 h
      refine zG.blk (pc' := 46) (l' := [some (2, x0), some (0, x1), some (0, x2), some (0, x3), some (0, x4), some (0, x5), some (0, x6), some (0, x7), none, none]) (st' := [(0, (-1)), (0, x7)]) (M' := M) hX [(.iload 7, 0, 0, 0), (.iconst (-1), 0, 0, 0)] (by decide +kernel) rfl trivial ?_
      refine zG.icmp_ne (tgt := 54) (off := 8) hX (by decide +kernel) (by decide) (fun c12 => ?_) (fun c12 => ?_)
      · have h := zin c12 h
        obtain ⟨g13, h⟩ := zif h
        refine zG.blk (pc' := 62) (l' := [some (2, x0), some (0, x1), some (0, x2), some (0, x3), some (0, x4), some (0, x5), some (0, x6), some (0, x7), none, none]) (st' := [(0, x7), (0, x4), (2, M x0 0)]) (M' := M) hX [(.aload_n 0, 0, 0, 0), (.getfield 12, 3, 0, 2), (.iload 4, 0, 0, 0), (.iload 7, 0, 0, 0)] (by decide +kernel) rfl (And.intro g13 trivial) ?_
        obtain ⟨g16, h⟩ := zif h
        obtain ⟨q14, e15, h⟩ := zbd h
        refine zG.callV (b := M x0 0) (av := [(0, x4), (0, x7)]) (st := []) (ci := 9) hX (pX9_beside_ok e15) sv_3_63 rfl ⟨by decide, rfl⟩ g16 (by decide +kernel) (by rw [hRm]; exact ⟨by show (3 : Nat) ≤ fr; omega, by show (83 : Nat) ≤ lo; omega⟩) (by rw [hRm]; exact ⟨Nat.le_refl _, Nat.le_refl _⟩) (Nat.le_of_ble_eq_true rfl) ?_
        show zG C E 10 S 0 0 _ 65 [some (2, x0), some (0, x1), some (0, x2), some (0, x3), some (0, x4), some (0, x5), some (0, x6), some (0, x7), none, none] [(0, q14.1)] q14.2
        exact (pX3_outcomeFrom_65_ok hfX3_outcomeOfGoing hfr hlo hX hRm ih h)
      · have h := zip c12 h
        refine zG.blk (pc' := 51) (l' := [some (2, x0), some (0, x1), some (0, x2), some (0, x3), some (0, x4), some (0, x5), some (0, x6), some (0, x7), none, none]) (st' := [(0, x4)]) (M' := M) hX [(.iload 4, 0, 0, 0)] (by decide +kernel) rfl trivial ?_
        refine zG.goto (tgt := 65) (off := 14) hX (by decide +kernel) (by decide) ?_
        exact (pX3_outcomeFrom_65_ok hfX3_outcomeOfGoing hfr hlo hX hRm ih h)
noncomputable def pX3_outcomeFrom (fX3_outcomeOfGoing : ZS → ZM → Int → Int → Int → Int → Int → Option (Int × ZM)) (S : ZS) (M : ZM) (a0 : Int) (a1 : Int) (a2 : Int) : Option (Int × ZM) := if a2 ≤ a1 then (pX3_outcomeFrom_10 fX3_outcomeOfGoing S M a0) else (if a1 < 4 then (if S.1 a0 = 3 then if S.1 (M a0 3) = 100 ∧ (0 : Int) ≤ zand a1 1 ∧ zand a1 1 < S.2.1 (M a0 3) then pX3_outcomeFrom_37 fX3_outcomeOfGoing S zFU M a0 a1 a2 (zand a1 1) (M (M a0 3) (zand a1 1)) 0 (-2) (-1) else none else none) else (pX3_outcomeFrom_10 fX3_outcomeOfGoing S M a0))
set_option maxHeartbeats 2000000 in
set_option maxRecDepth 20000 in
theorem pX3_outcomeFrom_go {C : ZC} {E : ZE} {S : ZS} {M : ZM} {a0 a1 a2 : Int} {fX3_outcomeOfGoing : ZS → ZM → Int → Int → Int → Int → Int → Option (Int × ZM)} {frc loc fr lo : Nat} {q : (Int × ZM)} (hfX3_outcomeOfGoing : ∀ {M : ZM} {a0 a1 a2 a3 a4 : Int} {q : Int × ZM}, fX3_outcomeOfGoing S M a0 a1 a2 a3 a4 = some q → zMet (czl C) yX3_outcomeOfGoing cX3_outcomeOfGoing 8 (some .int) frc loc 0 0 E S M [(2, a0), (0, a1), (0, a2), (0, a3), (0, a4)] (some (0, q.1)) S q.2) (hfr : frc + 1 ≤ fr ∧ 3 ≤ fr) (hlo : loc + 50 ≤ lo ∧ 83 ≤ lo) (hX : zCx C E 3 cX3_outcomeFrom 10 (some .int) false) (hRm : czR C = { frames := fr, cells := 0, slots := 0, locals := lo }) (h : pX3_outcomeFrom fX3_outcomeOfGoing S M a0 a1 a2 = some q) : zG C E 10 S 0 0 (zQ C E 0 0 (some (0, q.1)) S q.2) 0 [some (2, a0), some (0, a1), some (0, a2), none, none, none, none, none, none, none] [] M := by
  unfold pX3_outcomeFrom at h
  refine zG.blk (pc' := 2) (l' := [some (2, a0), some (0, a1), some (0, a2), none, none, none, none, none, none, none]) (st' := [(0, a2), (0, a1)]) (M' := M) hX [(.iload_n 1, 0, 0, 0), (.iload_n 2, 0, 0, 0)] (by decide +kernel) rfl trivial ?_
  refine zG.icmp_ge (tgt := 10) (off := 8) hX (by decide +kernel) (by decide) (fun c1 => ?_) (fun c1 => ?_)
  · have h := zip c1 h
    exact zG.wk [true, false, false, true, true, true, true, true, true, true] (pX3_outcomeFrom_10_ok hfX3_outcomeOfGoing hfr hlo hX hRm h)
  · have h := zin c1 h
    refine zG.blk (pc' := 7) (l' := [some (2, a0), some (0, a1), some (0, a2), none, none, none, none, none, none, none]) (st' := [(0, 4), (0, a1)]) (M' := M) hX [(.iload_n 1, 0, 0, 0), (.iconst 4, 0, 0, 0)] (by decide +kernel) rfl trivial ?_
    refine zG.icmp_lt (tgt := 15) (off := 8) hX (by decide +kernel) (by decide) (fun c5 => ?_) (fun c5 => ?_)
    · have h := zip c5 h
      obtain ⟨g6, h⟩ := zif h
      obtain ⟨g7, h⟩ := zif h
      refine zG.blk (pc' := 37) (l' := [some (2, a0), some (0, a1), some (0, a2), some (0, zand a1 1), some (0, M (M a0 3) (zand a1 1)), some (0, 0), some (0, (-2)), some (0, (-1)), none, none]) (st' := []) (M' := M) hX [(.iload_n 1, 0, 0, 0), (.iconst 1, 0, 0, 0), (.iand, 0, 0, 0), (.istore_n 3, 0, 0, 0), (.aload_n 0, 0, 0, 0), (.getfield 25, 3, 3, 2), (.iload_n 3, 0, 0, 0), (.iaload, 0, 0, 0), (.istore 4, 0, 0, 0), (.iconst 0, 0, 0, 0), (.istore 5, 0, 0, 0), (.bipush (-2), 0, 0, 0), (.istore 6, 0, 0, 0), (.iconst (-1), 0, 0, 0), (.istore 7, 0, 0, 0)] (by decide +kernel) rfl (And.intro g6 (And.intro g7 trivial)) ?_
      exact (pX3_outcomeFrom_37_ok hfX3_outcomeOfGoing hfr hlo hX hRm zFU _ _ _ _ _ _ _ _ _ h)
    · have h := zin c5 h
      exact zG.wk [true, false, false, true, true, true, true, true, true, true] (pX3_outcomeFrom_10_ok hfX3_outcomeOfGoing hfr hlo hX hRm h)
theorem sv_3_51 : zSV 3 51 yX3_outcomeFrom cX3_outcomeFrom 10 (some .int) 2 := ⟨⟨gt_at 987 (by decide +kernel) rfl, gt_at 989 (by decide +kernel) rfl, gt_at 27 (by decide +kernel) rfl, gt_at 116 (by decide +kernel) rfl, gt_at 990 (by decide +kernel) rfl⟩, by decide +kernel, by decide +kernel, by decide +kernel⟩
noncomputable def pX3_outcomeOfGoing_62 (fX3_outcomeFrom : ZS → ZM → Int → Int → Int → Option (Int × ZM)) (S : ZS) (M : ZM) (x7 : Int) : Option (Int × ZM) := some (x7, M)
set_option maxHeartbeats 2000000 in
set_option maxRecDepth 20000 in
theorem pX3_outcomeOfGoing_62_ok {C : ZC} {E : ZE} {S : ZS} {fX3_outcomeFrom : ZS → ZM → Int → Int → Int → Option (Int × ZM)} {frc loc fr lo : Nat} {q : (Int × ZM)} (hfX3_outcomeFrom : ∀ {M : ZM} {a0 a1 a2 : Int} {q : Int × ZM}, fX3_outcomeFrom S M a0 a1 a2 = some q → zMet (czl C) yX3_outcomeFrom cX3_outcomeFrom 10 (some .int) frc loc 0 0 E S M [(2, a0), (0, a1), (0, a2)] (some (0, q.1)) S q.2) (hfr : frc + 1 ≤ fr ∧ 1 ≤ fr) (hlo : loc + 50 ≤ lo ∧ 40 ≤ lo) (hX : zCx C E 3 cX3_outcomeOfGoing 8 (some .int) false) (hRm : czR C = { frames := fr, cells := 0, slots := 0, locals := lo }) {M : ZM} {x7 : Int} (h : pX3_outcomeOfGoing_62 fX3_outcomeFrom S M x7 = some q) : zG C E 8 S 0 0 (zQ C E 0 0 (some (0, q.1)) S q.2) 62 [none, none, none, none, none, none, none, some (0, x7)] [] M := by
  unfold pX3_outcomeOfGoing_62 at h
  refine zG.blk (pc' := 64) (l' := [none, none, none, none, none, none, none, some (0, x7)]) (st' := [(0, x7)]) (M' := M) hX [(.iload 7, 0, 0, 0)] (by decide +kernel) rfl trivial ?_
  cases h
  exact zG.iret hX (by decide +kernel)
noncomputable def pX3_outcomeOfGoing_35 (fX3_outcomeFrom : ZS → ZM → Int → Int → Int → Option (Int × ZM)) (S : ZS) (M : ZM) (x0 : Int) (x1 : Int) (x2 : Int) (x3 : Int) (x4 : Int) (x5 : Int) (x6 : Int) : Option (Int × ZM) := if S.1 x0 = 3 then (fX3_outcomeFrom S M x0 (w32 (x3 + 1)) x4).bind fun q8 => if S.1 (q8.2 x0 1) = 100 ∧ (0 : Int) ≤ x2 ∧ x2 < S.2.1 (q8.2 x0 1) then zlet (upM q8.2 (q8.2 x0 1) x2 x6) fun M12 => if S.1 (M12 x0 3) = 100 ∧ (0 : Int) ≤ x1 ∧ x1 < S.2.1 (M12 x0 3) then zlet (upM M12 (M12 x0 3) x1 x5) fun M14 => pX3_outcomeOfGoing_62 fX3_outcomeFrom S M14 q8.1 else none else none else none
set_option maxHeartbeats 2000000 in
set_option maxRecDepth 20000 in
theorem pX3_outcomeOfGoing_35_ok {C : ZC} {E : ZE} {S : ZS} {fX3_outcomeFrom : ZS → ZM → Int → Int → Int → Option (Int × ZM)} {frc loc fr lo : Nat} {q : (Int × ZM)} (hfX3_outcomeFrom : ∀ {M : ZM} {a0 a1 a2 : Int} {q : Int × ZM}, fX3_outcomeFrom S M a0 a1 a2 = some q → zMet (czl C) yX3_outcomeFrom cX3_outcomeFrom 10 (some .int) frc loc 0 0 E S M [(2, a0), (0, a1), (0, a2)] (some (0, q.1)) S q.2) (hfr : frc + 1 ≤ fr ∧ 1 ≤ fr) (hlo : loc + 50 ≤ lo ∧ 40 ≤ lo) (hX : zCx C E 3 cX3_outcomeOfGoing 8 (some .int) false) (hRm : czR C = { frames := fr, cells := 0, slots := 0, locals := lo }) {M : ZM} {x0 : Int} {x1 : Int} {x2 : Int} {x3 : Int} {x4 : Int} {x5 : Int} {x6 : Int} (h : pX3_outcomeOfGoing_35 fX3_outcomeFrom S M x0 x1 x2 x3 x4 x5 x6 = some q) : zG C E 8 S 0 0 (zQ C E 0 0 (some (0, q.1)) S q.2) 35 [some (2, x0), some (0, x1), some (0, x2), some (0, x3), some (0, x4), some (0, x5), some (0, x6), none] [] M := by
  unfold pX3_outcomeOfGoing_35 at h
  refine zG.blk (pc' := 41) (l' := [some (2, x0), some (0, x1), some (0, x2), some (0, x3), some (0, x4), some (0, x5), some (0, x6), none]) (st' := [(0, x4), (0, w32 (x3 + 1)), (2, x0)]) (M' := M) hX [(.aload_n 0, 0, 0, 0), (.iload_n 3, 0, 0, 0), (.iconst 1, 0, 0, 0), (.iadd, 0, 0, 0), (.iload 4, 0, 0, 0)] (by decide +kernel) rfl trivial ?_
  obtain ⟨g10, h⟩ := zif h
  obtain ⟨q8, e9, h⟩ := zbd h
  refine zG.callV (b := x0) (av := [(0, w32 (x3 + 1)), (0, x4)]) (st := []) (ci := 3) hX (hfX3_outcomeFrom e9) sv_3_51 rfl ⟨by decide, rfl⟩ g10 (by decide +kernel) (by rw [hRm]; exact ⟨by show frc + 1 ≤ fr; omega, by show 8 + (10 + 11) + loc ≤ lo; omega⟩) (by rw [hRm]; exact ⟨Nat.le_refl _, Nat.le_refl _⟩) (Nat.le_of_ble_eq_true rfl) ?_
  show zG C E 8 S 0 0 _ 44 [some (2, x0), some (0, x1), some (0, x2), some (0, x3), some (0, x4), some (0, x5), some (0, x6), none] [(0, q8.1)] q8.2
  obtain ⟨g11, h⟩ := zif h
  refine zG.blk (pc' := 54) (l' := [some (2, x0), some (0, x1), some (0, x2), some (0, x3), some (0, x4), some (0, x5), some (0, x6), some (0, q8.1)]) (st' := []) (M' := (upM q8.2 (q8.2 x0 1) x2 x6)) hX [(.istore 7, 0, 0, 0), (.aload_n 0, 0, 0, 0), (.getfield 18, 3, 1, 2), (.iload_n 2, 0, 0, 0), (.iload 6, 0, 0, 0), (.iastore, 0, 0, 0)] (by decide +kernel) rfl (And.intro g10 (And.intro g11 trivial)) ?_
  generalize upM q8.2 (q8.2 x0 1) x2 x6 = M12 at h ⊢
  have h := zlt h
  obtain ⟨g13, h⟩ := zif h
  refine zG.blk (pc' := 62) (l' := [some (2, x0), some (0, x1), some (0, x2), some (0, x3), some (0, x4), some (0, x5), some (0, x6), some (0, q8.1)]) (st' := []) (M' := (upM M12 (M12 x0 3) x1 x5)) hX [(.aload_n 0, 0, 0, 0), (.getfield 25, 3, 3, 2), (.iload_n 1, 0, 0, 0), (.iload 5, 0, 0, 0), (.iastore, 0, 0, 0)] (by decide +kernel) rfl (And.intro g10 (And.intro g13 trivial)) ?_
  generalize upM M12 (M12 x0 3) x1 x5 = M14 at h ⊢
  have h := zlt h
  exact zG.wk [false, false, false, false, false, false, false, true] (pX3_outcomeOfGoing_62_ok hfX3_outcomeFrom hfr hlo hX hRm h)
noncomputable def pX3_outcomeOfGoing (fX3_outcomeFrom : ZS → ZM → Int → Int → Int → Option (Int × ZM)) (S : ZS) (M : ZM) (a0 : Int) (a1 : Int) (a2 : Int) (a3 : Int) (a4 : Int) : Option (Int × ZM) := if S.1 a0 = 3 then if S.1 (M a0 3) = 100 ∧ (0 : Int) ≤ a1 ∧ a1 < S.2.1 (M a0 3) then if S.1 (M a0 1) = 100 ∧ (0 : Int) ≤ a2 ∧ a2 < S.2.1 (M a0 1) then zlet (upM M (M a0 3) a1 a2) fun M4 => if S.1 (M4 a0 2) = 100 ∧ (0 : Int) ≤ a1 ∧ a1 < S.2.1 (M4 a0 2) then if S.1 (M4 a0 1) = 100 ∧ (0 : Int) ≤ a2 ∧ a2 < S.2.1 (M4 a0 1) then zlet (upM M4 (M4 a0 1) a2 (M4 (M4 a0 2) a1)) fun M7 => pX3_outcomeOfGoing_35 fX3_outcomeFrom S M7 a0 a1 a2 a3 a4 (M (M a0 3) a1) (M (M a0 1) a2) else none else none else none else none else none
set_option maxHeartbeats 2000000 in
set_option maxRecDepth 20000 in
theorem pX3_outcomeOfGoing_go {C : ZC} {E : ZE} {S : ZS} {M : ZM} {a0 a1 a2 a3 a4 : Int} {fX3_outcomeFrom : ZS → ZM → Int → Int → Int → Option (Int × ZM)} {frc loc fr lo : Nat} {q : (Int × ZM)} (hfX3_outcomeFrom : ∀ {M : ZM} {a0 a1 a2 : Int} {q : Int × ZM}, fX3_outcomeFrom S M a0 a1 a2 = some q → zMet (czl C) yX3_outcomeFrom cX3_outcomeFrom 10 (some .int) frc loc 0 0 E S M [(2, a0), (0, a1), (0, a2)] (some (0, q.1)) S q.2) (hfr : frc + 1 ≤ fr ∧ 1 ≤ fr) (hlo : loc + 50 ≤ lo ∧ 40 ≤ lo) (hX : zCx C E 3 cX3_outcomeOfGoing 8 (some .int) false) (hRm : czR C = { frames := fr, cells := 0, slots := 0, locals := lo }) (h : pX3_outcomeOfGoing fX3_outcomeFrom S M a0 a1 a2 a3 a4 = some q) : zG C E 8 S 0 0 (zQ C E 0 0 (some (0, q.1)) S q.2) 0 [some (2, a0), some (0, a1), some (0, a2), some (0, a3), some (0, a4), none, none, none] [] M := by
  unfold pX3_outcomeOfGoing at h
  obtain ⟨g1, h⟩ := zif h
  obtain ⟨g2, h⟩ := zif h
  obtain ⟨g3, h⟩ := zif h
  refine zG.blk (pc' := 23) (l' := [some (2, a0), some (0, a1), some (0, a2), some (0, a3), some (0, a4), some (0, M (M a0 3) a1), some (0, M (M a0 1) a2), none]) (st' := []) (M' := (upM M (M a0 3) a1 a2)) hX [(.aload_n 0, 0, 0, 0), (.getfield 25, 3, 3, 2), (.iload_n 1, 0, 0, 0), (.iaload, 0, 0, 0), (.istore 5, 0, 0, 0), (.aload_n 0, 0, 0, 0), (.getfield 18, 3, 1, 2), (.iload_n 2, 0, 0, 0), (.iaload, 0, 0, 0), (.istore 6, 0, 0, 0), (.aload_n 0, 0, 0, 0), (.getfield 25, 3, 3, 2), (.iload_n 1, 0, 0, 0), (.iload_n 2, 0, 0, 0), (.iastore, 0, 0, 0)] (by decide +kernel) rfl (And.intro g1 (And.intro g2 (And.intro g1 (And.intro g3 (And.intro g1 (And.intro g2 trivial)))))) ?_
  generalize upM M (M a0 3) a1 a2 = M4 at h ⊢
  have h := zlt h
  obtain ⟨g5, h⟩ := zif h
  obtain ⟨g6, h⟩ := zif h
  refine zG.blk (pc' := 35) (l' := [some (2, a0), some (0, a1), some (0, a2), some (0, a3), some (0, a4), some (0, M (M a0 3) a1), some (0, M (M a0 1) a2), none]) (st' := []) (M' := (upM M4 (M4 a0 1) a2 (M4 (M4 a0 2) a1))) hX [(.aload_n 0, 0, 0, 0), (.getfield 18, 3, 1, 2), (.iload_n 2, 0, 0, 0), (.aload_n 0, 0, 0, 0), (.getfield 22, 3, 2, 2), (.iload_n 1, 0, 0, 0), (.iaload, 0, 0, 0), (.iastore, 0, 0, 0)] (by decide +kernel) rfl (And.intro g1 (And.intro g1 (And.intro g5 (And.intro g6 trivial)))) ?_
  generalize upM M4 (M4 a0 1) a2 (M4 (M4 a0 2) a1) = M7 at h ⊢
  have h := zlt h
  exact (pX3_outcomeOfGoing_35_ok hfX3_outcomeFrom hfr hlo hX hRm h)
noncomputable def ogX3 : Nat → (ZS → ZM → Int → Int → Int → Option (Int × ZM)) × (ZS → ZM → Int → Int → Int → Int → Int → Option (Int × ZM))
  | 0 => (fun _ _ _ _ _ => none, fun _ _ _ _ _ _ _ => none)
  | n + 1 => (pX3_outcomeFrom (ogX3 n).2, pX3_outcomeOfGoing (ogX3 n).1)
theorem ogX3_ok {l : Launch} {E : ZE} {S : ZS} : ∀ n : Nat, (∀ {M : ZM} {a0 a1 a2 : Int} {q : Int × ZM}, (ogX3 n).1 S M a0 a1 a2 = some q → zMet l yX3_outcomeFrom cX3_outcomeFrom 10 (some .int) (3 + n) (83 + 60 * n) 0 0 E S M [(2, a0), (0, a1), (0, a2)] (some (0, q.1)) S q.2) ∧ (∀ {M : ZM} {a0 a1 a2 a3 a4 : Int} {q : Int × ZM}, (ogX3 n).2 S M a0 a1 a2 a3 a4 = some q → zMet l yX3_outcomeOfGoing cX3_outcomeOfGoing 8 (some .int) (3 + n) (83 + 60 * n) 0 0 E S M [(2, a0), (0, a1), (0, a2), (0, a3), (0, a4)] (some (0, q.1)) S q.2) := by
  intro n
  induction n with
  | zero => exact ⟨fun h => (by cases h), fun h => (by cases h)⟩
  | succ n ih =>
    obtain ⟨ih1, ih2⟩ := ih
    refine ⟨fun h => ?_, fun h => ?_⟩
    · exact zMet.of (o := 3) (ini := false) (by decide +kernel) rfl (fun h => by cases h) (Nat.le_of_ble_eq_true rfl) (fun C hX hl hRm => by subst hl; exact pX3_outcomeFrom_go (frc := 3 + n) (loc := 83 + 60 * n) ih2 ⟨by omega, by omega⟩ ⟨by omega, by omega⟩ hX hRm h)
    · exact zMet.of (o := 3) (ini := false) (by decide +kernel) rfl (fun h => by cases h) (Nat.le_of_ble_eq_true rfl) (fun C hX hl hRm => by subst hl; exact pX3_outcomeOfGoing_go (frc := 3 + n) (loc := 83 + 60 * n) ih1 ⟨by omega, by omega⟩ ⟨by omega, by omega⟩ hX hRm h)
noncomputable def qX3_outcomeFrom : (ZS → ZM → Int → Int → Int → Option (Int × ZM)) := (ogX3 20).1
theorem qX3_outcomeFrom_ok {l : Launch} {E : ZE} {S : ZS} {M : ZM} {a0 a1 a2 : Int} {q : Int × ZM} (h : qX3_outcomeFrom S M a0 a1 a2 = some q) : zMet l yX3_outcomeFrom cX3_outcomeFrom 10 (some .int) 23 1283 0 0 E S M [(2, a0), (0, a1), (0, a2)] (some (0, q.1)) S q.2 := (ogX3_ok 20).1 h
noncomputable def qX3_outcomeOfGoing : (ZS → ZM → Int → Int → Int → Int → Int → Option (Int × ZM)) := (ogX3 20).2
theorem qX3_outcomeOfGoing_ok {l : Launch} {E : ZE} {S : ZS} {M : ZM} {a0 a1 a2 a3 a4 : Int} {q : Int × ZM} (h : qX3_outcomeOfGoing S M a0 a1 a2 a3 a4 = some q) : zMet l yX3_outcomeOfGoing cX3_outcomeOfGoing 8 (some .int) 23 1283 0 0 E S M [(2, a0), (0, a1), (0, a2), (0, a3), (0, a4)] (some (0, q.1)) S q.2 := (ogX3_ok 20).2 h
noncomputable def pX5_takeClause_77 (S : ZS) (M : ZM) (y0 : Int) (y1 : Int) : Option (Int × ZM) := if S.1 y1 = 5 then (pX5_addOrder S M y1 y0 0).bind fun q16 => some (1, q16) else none
set_option maxHeartbeats 2000000 in
set_option maxRecDepth 20000 in
theorem pX5_takeClause_77_ok {C : ZC} {E : ZE} {S : ZS} {q : (Int × ZM)} (hX : zCx C E 5 cX5_takeClause 4 (some .boolean) false) (hRm : czR C = { frames := 46, cells := 0, slots := 0, locals := 2553 }) {M : ZM} {y0 : Int} {y1 : Int} (h : pX5_takeClause_77 S M y0 y1 = some q) : zG C E 4 S 0 0 (zQ C E 0 0 (some (0, q.1)) S q.2) 77 [none, none, none, none] [(0, y0), (2, y1)] M := by
  unfold pX5_takeClause_77 at h
  refine zG.blk (pc' := 78) (l' := [none, none, none, none]) (st' := [(0, 0), (0, y0), (2, y1)]) (M' := M) hX [(.iconst 0, 0, 0, 0)] (by decide +kernel) rfl trivial ?_
  obtain ⟨g18, h⟩ := zif h
  obtain ⟨q16, e17, h⟩ := zbd h
  refine zG.callV (b := y1) (av := [(0, y0), (0, 0)]) (st := []) (ci := 5) hX (pX5_addOrder_ok e17) sv_5_61 rfl ⟨by decide, rfl⟩ g18 (by decide +kernel) (by rw [hRm]; exact ⟨Nat.le_of_ble_eq_true rfl, Nat.le_of_ble_eq_true rfl⟩) (by rw [hRm]; exact ⟨Nat.le_of_ble_eq_true rfl, Nat.le_of_ble_eq_true rfl⟩) (Nat.le_of_ble_eq_true rfl) ?_
  show zG C E 4 S 0 0 _ 81 [none, none, none, none] [] q16
  refine zG.blk (pc' := 82) (l' := [none, none, none, none]) (st' := [(0, 1)]) (M' := q16) hX [(.iconst 1, 0, 0, 0)] (by decide +kernel) rfl trivial ?_
  cases h
  exact zG.zret hX (by decide +kernel) (Or.inr rfl)
noncomputable def pX5_takeClause_65 (S : ZS) (M : ZM) (x0 : Int) (x3 : Int) : Option (Int × ZM) := pX5_takeClause_77 S M (if x3 = 0 then (15 : Int) else 16) x0
set_option maxHeartbeats 2000000 in
set_option maxRecDepth 20000 in
theorem pX5_takeClause_65_ok {C : ZC} {E : ZE} {S : ZS} {q : (Int × ZM)} (hX : zCx C E 5 cX5_takeClause 4 (some .boolean) false) (hRm : czR C = { frames := 46, cells := 0, slots := 0, locals := 2553 }) {M : ZM} {x0 : Int} {x3 : Int} (h : pX5_takeClause_65 S M x0 x3 = some q) : zG C E 4 S 0 0 (zQ C E 0 0 (some (0, q.1)) S q.2) 65 [some (2, x0), none, none, some (0, x3)] [] M := by
  unfold pX5_takeClause_65 at h
  refine zG.blk (pc' := 67) (l' := [some (2, x0), none, none, some (0, x3)]) (st' := [(0, x3), (2, x0)]) (M' := M) hX [(.aload_n 0, 0, 0, 0), (.iload_n 3, 0, 0, 0)] (by decide +kernel) rfl trivial ?_
  have key15 : zG C E 4 S 0 0 (zQ C E 0 0 (some (0, q.1)) S q.2) 77 [some (2, x0), none, none, some (0, x3)] [(0, (if x3 = 0 then (15 : Int) else 16)), (2, x0)] M := by
    exact zG.wk [false, true, true, false] (pX5_takeClause_77_ok hX hRm h)
  refine zG.if_eq (tgt := 75) (off := 8) hX (by decide +kernel) (by decide) (fun c19 => ?_) (fun c19 => ?_)
  · refine zG.blk (pc' := 77) (l' := [some (2, x0), none, none, some (0, x3)]) (st' := [(0, 15), (2, x0)]) (M' := M) hX [(.bipush 15, 0, 0, 0)] (by decide +kernel) rfl trivial ?_
    (have k := key15; simp only [if_pos c19] at k; exact k)
  · refine zG.blk (pc' := 72) (l' := [some (2, x0), none, none, some (0, x3)]) (st' := [(0, 16), (2, x0)]) (M' := M) hX [(.bipush 16, 0, 0, 0)] (by decide +kernel) rfl trivial ?_
    refine zG.goto (tgt := 77) (off := 5) hX (by decide +kernel) (by decide) ?_
    (have k := key15; simp only [if_neg c19] at k; exact k)
noncomputable def pX5_takeClause (S : ZS) (M : ZM) (a0 : Int) (a1 : Int) (a2 : Int) : Option (Int × ZM) := if S.1 a1 = 8 then (pX8_token S M a1).bind fun q1 => if q1.1 = 270 then (if a2 < 12 then ((pX8_advance S q1.2 a1).bind fun q6 => if S.1 a0 = 5 then (pX5_takeSum S q6 a0 a1).bind fun q8 => if q8.1 = 0 then (some (0, q8.2)) else ((pX8_takes S q8.2 a1 271).bind fun q12 => if q12.1 = 0 then (pX5_takeClause_65 S q12.2 a0 q12.1) else ((qX5_takeTest S q12.2 a0 a1 0).bind fun q20 => if q20.1 = 0 then (some (0, q20.2)) else (pX5_takeClause_65 S q20.2 a0 q12.1))) else none) else ((pX8_fail S q1.2 a1 4).bind fun q23 => if q23.1 = 0 ∨ q23.1 = 1 then some (q23.1, q23.2) else none)) else ((pX8_fail S q1.2 a1 0).bind fun q26 => if q26.1 = 0 ∨ q26.1 = 1 then some (q26.1, q26.2) else none) else none
set_option maxHeartbeats 2000000 in
set_option maxRecDepth 20000 in
theorem pX5_takeClause_go {C : ZC} {E : ZE} {S : ZS} {M : ZM} {a0 a1 a2 : Int} {q : (Int × ZM)} (hX : zCx C E 5 cX5_takeClause 4 (some .boolean) false) (hRm : czR C = { frames := 46, cells := 0, slots := 0, locals := 2553 }) (h : pX5_takeClause  S M a0 a1 a2 = some q) : zG C E 4 S 0 0 (zQ C E 0 0 (some (0, q.1)) S q.2) 0 [some (2, a0), some (2, a1), some (0, a2), none] [] M := by
  unfold pX5_takeClause at h
  refine zG.blk (pc' := 1) (l' := [some (2, a0), some (2, a1), some (0, a2), none]) (st' := [(2, a1)]) (M' := M) hX [(.aload_n 1, 0, 0, 0)] (by decide +kernel) rfl trivial ?_
  obtain ⟨g3, h⟩ := zif h
  obtain ⟨q1, e2, h⟩ := zbd h
  refine zG.callV (b := a1) (av := []) (st := []) (ci := 8) hX (pX8_token_ok e2) sv_5_31 rfl ⟨by decide, rfl⟩ g3 (by decide +kernel) (by rw [hRm]; exact ⟨Nat.le_of_ble_eq_true rfl, Nat.le_of_ble_eq_true rfl⟩) (by rw [hRm]; exact ⟨Nat.le_of_ble_eq_true rfl, Nat.le_of_ble_eq_true rfl⟩) (Nat.le_of_ble_eq_true rfl) ?_
  show zG C E 4 S 0 0 _ 4 [some (2, a0), some (2, a1), some (0, a2), none] [(0, q1.1)] q1.2
  refine zG.blk (pc' := 7) (l' := [some (2, a0), some (2, a1), some (0, a2), none]) (st' := [(0, 270), (0, q1.1)]) (M' := q1.2) hX [(.sipush 270, 0, 0, 0)] (by decide +kernel) rfl trivial ?_
  refine zG.icmp_eq (tgt := 16) (off := 9) hX (by decide +kernel) (by decide) (fun c4 => ?_) (fun c4 => ?_)
  · have h := zip c4 h
    refine zG.blk (pc' := 19) (l' := [some (2, a0), some (2, a1), some (0, a2), none]) (st' := [(0, 12), (0, a2)]) (M' := q1.2) hX [(.iload_n 2, 0, 0, 0), (.bipush 12, 0, 0, 0)] (by decide +kernel) rfl trivial ?_
    refine zG.icmp_lt (tgt := 28) (off := 9) hX (by decide +kernel) (by decide) (fun c5 => ?_) (fun c5 => ?_)
    · have h := zip c5 h
      refine zG.blk (pc' := 29) (l' := [some (2, a0), some (2, a1), some (0, a2), none]) (st' := [(2, a1)]) (M' := q1.2) hX [(.aload_n 1, 0, 0, 0)] (by decide +kernel) rfl trivial ?_
      obtain ⟨q6, e7, h⟩ := zbd h
      refine zG.callV (b := a1) (av := []) (st := []) (ci := 8) hX (pX8_advance_ok e7) sv_5_51 rfl ⟨by decide, rfl⟩ g3 (by decide +kernel) (by rw [hRm]; exact ⟨Nat.le_of_ble_eq_true rfl, Nat.le_of_ble_eq_true rfl⟩) (by rw [hRm]; exact ⟨Nat.le_of_ble_eq_true rfl, Nat.le_of_ble_eq_true rfl⟩) (Nat.le_of_ble_eq_true rfl) ?_
      show zG C E 4 S 0 0 _ 32 [some (2, a0), some (2, a1), some (0, a2), none] [] q6
      refine zG.blk (pc' := 34) (l' := [some (2, a0), some (2, a1), some (0, a2), none]) (st' := [(2, a1), (2, a0)]) (M' := q6) hX [(.aload_n 0, 0, 0, 0), (.aload_n 1, 0, 0, 0)] (by decide +kernel) rfl trivial ?_
      obtain ⟨g10, h⟩ := zif h
      obtain ⟨q8, e9, h⟩ := zbd h
      refine zG.callV (b := a0) (av := [(2, a1)]) (st := []) (ci := 5) hX (pX5_takeSum_ok e9) sv_5_54 rfl ⟨by decide, rfl⟩ g10 (by decide +kernel) (by rw [hRm]; exact ⟨Nat.le_of_ble_eq_true rfl, Nat.le_of_ble_eq_true rfl⟩) (by rw [hRm]; exact ⟨Nat.le_of_ble_eq_true rfl, Nat.le_of_ble_eq_true rfl⟩) (Nat.le_of_ble_eq_true rfl) ?_
      show zG C E 4 S 0 0 _ 37 [some (2, a0), some (2, a1), some (0, a2), none] [(0, q8.1)] q8.2
      refine zG.if_ne (tgt := 42) (off := 5) hX (by decide +kernel) (by decide) (fun c11 => ?_) (fun c11 => ?_)
      · have h := zin c11 h
        refine zG.blk (pc' := 46) (l' := [some (2, a0), some (2, a1), some (0, a2), none]) (st' := [(0, 271), (2, a1)]) (M' := q8.2) hX [(.aload_n 1, 0, 0, 0), (.sipush 271, 0, 0, 0)] (by decide +kernel) rfl trivial ?_
        obtain ⟨q12, e13, h⟩ := zbd h
        refine zG.callV (b := a1) (av := [(0, 271)]) (st := []) (ci := 8) hX (pX8_takes_ok e13) sv_5_38 rfl ⟨by decide, rfl⟩ g3 (by decide +kernel) (by rw [hRm]; exact ⟨Nat.le_of_ble_eq_true rfl, Nat.le_of_ble_eq_true rfl⟩) (by rw [hRm]; exact ⟨Nat.le_of_ble_eq_true rfl, Nat.le_of_ble_eq_true rfl⟩) (Nat.le_of_ble_eq_true rfl) ?_
        show zG C E 4 S 0 0 _ 49 [some (2, a0), some (2, a1), some (0, a2), none] [(0, q12.1)] q12.2
        refine zG.blk (pc' := 51) (l' := [some (2, a0), some (2, a1), some (0, a2), some (0, q12.1)]) (st' := [(0, q12.1)]) (M' := q12.2) hX [(.istore_n 3, 0, 0, 0), (.iload_n 3, 0, 0, 0)] (by decide +kernel) rfl trivial ?_
        refine zG.if_eq (tgt := 65) (off := 14) hX (by decide +kernel) (by decide) (fun c14 => ?_) (fun c14 => ?_)
        · have h := zip c14 h
          exact zG.wk [true, false, false, true] (pX5_takeClause_65_ok hX hRm h)
        · have h := zin c14 h
          refine zG.blk (pc' := 57) (l' := [some (2, a0), some (2, a1), some (0, a2), some (0, q12.1)]) (st' := [(0, 0), (2, a1), (2, a0)]) (M' := q12.2) hX [(.aload_n 0, 0, 0, 0), (.aload_n 1, 0, 0, 0), (.iconst 0, 0, 0, 0)] (by decide +kernel) rfl trivial ?_
          obtain ⟨q20, e21, h⟩ := zbd h
          refine zG.callV (b := a0) (av := [(2, a1), (0, 0)]) (st := []) (ci := 5) hX (qX5_takeTest_ok e21) sv_5_58 rfl ⟨by decide, rfl⟩ g10 (by decide +kernel) (by rw [hRm]; exact ⟨Nat.le_of_ble_eq_true rfl, Nat.le_of_ble_eq_true rfl⟩) (by rw [hRm]; exact ⟨Nat.le_of_ble_eq_true rfl, Nat.le_of_ble_eq_true rfl⟩) (Nat.le_of_ble_eq_true rfl) ?_
          show zG C E 4 S 0 0 _ 60 [some (2, a0), some (2, a1), some (0, a2), some (0, q12.1)] [(0, q20.1)] q20.2
          refine zG.if_ne (tgt := 65) (off := 5) hX (by decide +kernel) (by decide) (fun c22 => ?_) (fun c22 => ?_)
          · have h := zin c22 h
            exact zG.wk [true, false, false, true] (pX5_takeClause_65_ok hX hRm h)
          · have h := zip c22 h
            refine zG.blk (pc' := 64) (l' := [some (2, a0), some (2, a1), some (0, a2), some (0, q12.1)]) (st' := [(0, 0)]) (M' := q20.2) hX [(.iconst 0, 0, 0, 0)] (by decide +kernel) rfl trivial ?_
            cases h
            exact zG.zret hX (by decide +kernel) (Or.inl rfl)
      · have h := zip c11 h
        refine zG.blk (pc' := 41) (l' := [some (2, a0), some (2, a1), some (0, a2), none]) (st' := [(0, 0)]) (M' := q8.2) hX [(.iconst 0, 0, 0, 0)] (by decide +kernel) rfl trivial ?_
        cases h
        exact zG.zret hX (by decide +kernel) (Or.inl rfl)
    · have h := zin c5 h
      refine zG.blk (pc' := 24) (l' := [some (2, a0), some (2, a1), some (0, a2), none]) (st' := [(0, 4), (2, a1)]) (M' := q1.2) hX [(.aload_n 1, 0, 0, 0), (.iconst 4, 0, 0, 0)] (by decide +kernel) rfl trivial ?_
      obtain ⟨q23, e24, h⟩ := zbd h
      refine zG.callV (b := a1) (av := [(0, 4)]) (st := []) (ci := 8) hX (pX8_fail_ok e24) sv_5_42 rfl ⟨by decide, rfl⟩ g3 (by decide +kernel) (by rw [hRm]; exact ⟨Nat.le_of_ble_eq_true rfl, Nat.le_of_ble_eq_true rfl⟩) (by rw [hRm]; exact ⟨Nat.le_of_ble_eq_true rfl, Nat.le_of_ble_eq_true rfl⟩) (Nat.le_of_ble_eq_true rfl) ?_
      show zG C E 4 S 0 0 _ 27 [some (2, a0), some (2, a1), some (0, a2), none] [(0, q23.1)] q23.2
      obtain ⟨g25, h⟩ := zif h
      cases h
      exact zG.zret hX (by decide +kernel) g25
  · have h := zin c4 h
    refine zG.blk (pc' := 12) (l' := [some (2, a0), some (2, a1), some (0, a2), none]) (st' := [(0, 0), (2, a1)]) (M' := q1.2) hX [(.aload_n 1, 0, 0, 0), (.iconst 0, 0, 0, 0)] (by decide +kernel) rfl trivial ?_
    obtain ⟨q26, e27, h⟩ := zbd h
    refine zG.callV (b := a1) (av := [(0, 0)]) (st := []) (ci := 8) hX (pX8_fail_ok e27) sv_5_42 rfl ⟨by decide, rfl⟩ g3 (by decide +kernel) (by rw [hRm]; exact ⟨Nat.le_of_ble_eq_true rfl, Nat.le_of_ble_eq_true rfl⟩) (by rw [hRm]; exact ⟨Nat.le_of_ble_eq_true rfl, Nat.le_of_ble_eq_true rfl⟩) (Nat.le_of_ble_eq_true rfl) ?_
    show zG C E 4 S 0 0 _ 15 [some (2, a0), some (2, a1), some (0, a2), none] [(0, q26.1)] q26.2
    obtain ⟨g28, h⟩ := zif h
    cases h
    exact zG.zret hX (by decide +kernel) g28
theorem pX5_takeClause_ok {l : Launch} {E : ZE} {S : ZS} {M : ZM} {a0 a1 a2 : Int} {q : (Int × ZM)} (h : pX5_takeClause S M a0 a1 a2 = some q) : zMet l yX5_takeClause cX5_takeClause 4 (some .boolean) 46 2553 0 0 E S M [(2, a0), (2, a1), (0, a2)] (some (0, q.1)) S q.2 :=
  zMet.of (o := 5) (ini := false) (by decide +kernel) rfl (fun h => by cases h) (Nat.le_of_ble_eq_true rfl) (fun C hX hl hRm => by subst hl; exact pX5_takeClause_go hX hRm h)
theorem sv_5_15 : zSV 5 15 yX8_cut cX8_cut 5 none 0 := ⟨⟨gt_at 675 (by decide +kernel) rfl, gt_at 516 (by decide +kernel) rfl, gt_at 517 (by decide +kernel) rfl, gt_at 106 (by decide +kernel) rfl, gt_at 518 (by decide +kernel) rfl⟩, by decide +kernel, by decide +kernel, by decide +kernel⟩
theorem sv_5_27 : zSV 5 27 yX5_takeClause cX5_takeClause 4 (some .boolean) 2 := ⟨⟨gt_at 676 (by decide +kernel) rfl, gt_at 678 (by decide +kernel) rfl, gt_at 12 (by decide +kernel) rfl, gt_at 109 (by decide +kernel) rfl, gt_at 679 (by decide +kernel) rfl⟩, by decide +kernel, by decide +kernel, by decide +kernel⟩
noncomputable def pX5_faultOf_41 (S : ZS) (M : ZM) (x1 : Int) : Option (Int × ZM) := if S.1 x1 = 8 then some (M x1 5, M) else none
set_option maxHeartbeats 2000000 in
set_option maxRecDepth 20000 in
theorem pX5_faultOf_41_ok {C : ZC} {E : ZE} {S : ZS} {q : (Int × ZM)} (hX : zCx C E 5 cX5_faultOf 3 (some .int) false) (hRm : czR C = { frames := 47, cells := 0, slots := 0, locals := 2576 }) {M : ZM} {x1 : Int} (h : pX5_faultOf_41 S M x1 = some q) : zG C E 3 S 0 0 (zQ C E 0 0 (some (0, q.1)) S q.2) 41 [none, some (2, x1), none] [] M := by
  unfold pX5_faultOf_41 at h
  obtain ⟨g13, h⟩ := zif h
  refine zG.blk (pc' := 45) (l' := [none, some (2, x1), none]) (st' := [(0, M x1 5)]) (M' := M) hX [(.aload_n 1, 0, 0, 0), (.getfield 35, 8, 5, 0)] (by decide +kernel) rfl (And.intro g13 trivial) ?_
  cases h
  exact zG.iret hX (by decide +kernel)
noncomputable def pX5_faultOf_16 (S : ZS) : Nat → ZM → Int → Int → Int → Option (Int × ZM)
  | 0 => fun _ _ _ _ => none
  | n + 1 => fun M x0 x1 x2 => if 12 < x2 then (if S.1 x1 = 8 then some (M x1 5, M) else none) else (if S.1 x0 = 5 then (pX5_takeClause S M x0 x1 x2).bind fun q9 => if q9.1 = 0 then (pX5_faultOf_41 S q9.2 x1) else (if S.1 x1 = 8 then (pX8_token S q9.2 x1).bind fun q14 => if q14.1 = 303 then (pX5_faultOf_41 S q14.2 x1) else ((pX8_takes S q14.2 x1 59).bind fun q18 => if q18.1 = 0 then ((pX8_fail S q18.2 x1 0).bind fun q21 => some (q21.2 x1 5, q21.2)) else (pX5_faultOf_16 S n q18.2 x0 x1 (w32 (x2 + 1)))) else none) else none)
set_option maxHeartbeats 2000000 in
set_option maxRecDepth 20000 in
theorem pX5_faultOf_16_ok {C : ZC} {E : ZE} {S : ZS} {q : (Int × ZM)} (hX : zCx C E 5 cX5_faultOf 3 (some .int) false) (hRm : czR C = { frames := 47, cells := 0, slots := 0, locals := 2576 }) : ∀ (n : Nat) (M : ZM) (x0 : Int) (x1 : Int) (x2 : Int), pX5_faultOf_16 S n M x0 x1 x2 = some q → zG C E 3 S 0 0 (zQ C E 0 0 (some (0, q.1)) S q.2) 16 [some (2, x0), some (2, x1), some (0, x2)] [] M := by
  intro n
  induction n with
  | zero => intro M x0 x1 x2 h; cases h
  | succ n ih =>
    intro M x0 x1 x2 h
    unfold pX5_faultOf_16 at h
    refine zG.blk (pc' := 19) (l' := [some (2, x0), some (2, x1), some (0, x2)]) (st' := [(0, 12), (0, x2)]) (M' := M) hX [(.iload_n 2, 0, 0, 0), (.bipush 12, 0, 0, 0)] (by decide +kernel) rfl trivial ?_
    refine zG.icmp_gt (tgt := 72) (off := 53) hX (by decide +kernel) (by decide) (fun c7 => ?_) (fun c7 => ?_)
    · have h := zip c7 h
      obtain ⟨g8, h⟩ := zif h
      refine zG.blk (pc' := 76) (l' := [some (2, x0), some (2, x1), some (0, x2)]) (st' := [(0, M x1 5)]) (M' := M) hX [(.aload_n 1, 0, 0, 0), (.getfield 35, 8, 5, 0)] (by decide +kernel) rfl (And.intro g8 trivial) ?_
      cases h
      exact zG.iret hX (by decide +kernel)
    · have h := zin c7 h
      refine zG.blk (pc' := 25) (l' := [some (2, x0), some (2, x1), some (0, x2)]) (st' := [(0, x2), (2, x1), (2, x0)]) (M' := M) hX [(.aload_n 0, 0, 0, 0), (.aload_n 1, 0, 0, 0), (.iload_n 2, 0, 0, 0)] (by decide +kernel) rfl trivial ?_
      obtain ⟨g11, h⟩ := zif h
      obtain ⟨q9, e10, h⟩ := zbd h
      refine zG.callV (b := x0) (av := [(2, x1), (0, x2)]) (st := []) (ci := 5) hX (pX5_takeClause_ok e10) sv_5_27 rfl ⟨by decide, rfl⟩ g11 (by decide +kernel) (by rw [hRm]; exact ⟨Nat.le_of_ble_eq_true rfl, Nat.le_of_ble_eq_true rfl⟩) (by rw [hRm]; exact ⟨Nat.le_of_ble_eq_true rfl, Nat.le_of_ble_eq_true rfl⟩) (Nat.le_of_ble_eq_true rfl) ?_
      show zG C E 3 S 0 0 _ 28 [some (2, x0), some (2, x1), some (0, x2)] [(0, q9.1)] q9.2
      refine zG.if_eq (tgt := 41) (off := 13) hX (by decide +kernel) (by decide) (fun c12 => ?_) (fun c12 => ?_)
      · have h := zip c12 h
        exact zG.wk [false, true, false] (pX5_faultOf_41_ok hX hRm h)
      · have h := zin c12 h
        refine zG.blk (pc' := 32) (l' := [some (2, x0), some (2, x1), some (0, x2)]) (st' := [(2, x1)]) (M' := q9.2) hX [(.aload_n 1, 0, 0, 0)] (by decide +kernel) rfl trivial ?_
        obtain ⟨g16, h⟩ := zif h
        obtain ⟨q14, e15, h⟩ := zbd h
        refine zG.callV (b := x1) (av := []) (st := []) (ci := 8) hX (pX8_token_ok e15) sv_5_31 rfl ⟨by decide, rfl⟩ g16 (by decide +kernel) (by rw [hRm]; exact ⟨Nat.le_of_ble_eq_true rfl, Nat.le_of_ble_eq_true rfl⟩) (by rw [hRm]; exact ⟨Nat.le_of_ble_eq_true rfl, Nat.le_of_ble_eq_true rfl⟩) (Nat.le_of_ble_eq_true rfl) ?_
        show zG C E 3 S 0 0 _ 35 [some (2, x0), some (2, x1), some (0, x2)] [(0, q14.1)] q14.2
        refine zG.blk (pc' := 38) (l' := [some (2, x0), some (2, x1), some (0, x2)]) (st' := [(0, 303), (0, q14.1)]) (M' := q14.2) hX [(.sipush 303, 0, 0, 0)] (by decide +kernel) rfl trivial ?_
        refine zG.icmp_ne (tgt := 46) (off := 8) hX (by decide +kernel) (by decide) (fun c17 => ?_) (fun c17 => ?_)
        · have h := zin c17 h
          refine zG.blk (pc' := 49) (l' := [some (2, x0), some (2, x1), some (0, x2)]) (st' := [(0, 59), (2, x1)]) (M' := q14.2) hX [(.aload_n 1, 0, 0, 0), (.bipush 59, 0, 0, 0)] (by decide +kernel) rfl trivial ?_
          obtain ⟨q18, e19, h⟩ := zbd h
          refine zG.callV (b := x1) (av := [(0, 59)]) (st := []) (ci := 8) hX (pX8_takes_ok e19) sv_5_38 rfl ⟨by decide, rfl⟩ g16 (by decide +kernel) (by rw [hRm]; exact ⟨Nat.le_of_ble_eq_true rfl, Nat.le_of_ble_eq_true rfl⟩) (by rw [hRm]; exact ⟨Nat.le_of_ble_eq_true rfl, Nat.le_of_ble_eq_true rfl⟩) (Nat.le_of_ble_eq_true rfl) ?_
          show zG C E 3 S 0 0 _ 52 [some (2, x0), some (2, x1), some (0, x2)] [(0, q18.1)] q18.2
          refine zG.if_ne (tgt := 66) (off := 14) hX (by decide +kernel) (by decide) (fun c20 => ?_) (fun c20 => ?_)
          · have h := zin c20 h
            refine zG.blk (pc' := 69) (l' := [some (2, x0), some (2, x1), some (0, w32 (x2 + 1))]) (st' := []) (M' := q18.2) hX [(.iinc 2 1, 0, 0, 0)] (by decide +kernel) rfl trivial ?_
            refine zG.goto (tgt := 16) (off := (-53)) hX (by decide +kernel) (by decide) ?_
            exact ih _ _ _ _ h
          · have h := zip c20 h
            refine zG.blk (pc' := 57) (l' := [some (2, x0), some (2, x1), some (0, x2)]) (st' := [(0, 0), (2, x1)]) (M' := q18.2) hX [(.aload_n 1, 0, 0, 0), (.iconst 0, 0, 0, 0)] (by decide +kernel) rfl trivial ?_
            obtain ⟨q21, e22, h⟩ := zbd h
            refine zG.callV (b := x1) (av := [(0, 0)]) (st := []) (ci := 8) hX (pX8_fail_ok e22) sv_5_42 rfl ⟨by decide, rfl⟩ g16 (by decide +kernel) (by rw [hRm]; exact ⟨Nat.le_of_ble_eq_true rfl, Nat.le_of_ble_eq_true rfl⟩) (by rw [hRm]; exact ⟨Nat.le_of_ble_eq_true rfl, Nat.le_of_ble_eq_true rfl⟩) (Nat.le_of_ble_eq_true rfl) ?_
            show zG C E 3 S 0 0 _ 60 [some (2, x0), some (2, x1), some (0, x2)] [(0, q21.1)] q21.2
            refine zG.blk (pc' := 65) (l' := [some (2, x0), some (2, x1), some (0, x2)]) (st' := [(0, q21.2 x1 5)]) (M' := q21.2) hX [(.pop, 0, 0, 0), (.aload_n 1, 0, 0, 0), (.getfield 35, 8, 5, 0)] (by decide +kernel) rfl (And.intro g16 trivial) ?_
            cases h
            exact zG.iret hX (by decide +kernel)
        · have h := zip c17 h
          exact zG.wk [false, true, false] (pX5_faultOf_41_ok hX hRm h)
noncomputable def pX5_faultOf (S : ZS) (M : ZM) (a0 : Int) (a1 : Int) : Option (Int × ZM) := if S.1 a1 = 8 then (pX8_cut S M a1).bind fun q1 => if S.1 a0 = 5 then zlet (upM q1 a0 1 0) fun M5 => zlet (upM M5 a0 2 0) fun M6 => pX5_faultOf_16 S zFU M6 a0 a1 0 else none else none
set_option maxHeartbeats 2000000 in
set_option maxRecDepth 20000 in
theorem pX5_faultOf_go {C : ZC} {E : ZE} {S : ZS} {M : ZM} {a0 a1 : Int} {q : (Int × ZM)} (hX : zCx C E 5 cX5_faultOf 3 (some .int) false) (hRm : czR C = { frames := 47, cells := 0, slots := 0, locals := 2576 }) (h : pX5_faultOf  S M a0 a1 = some q) : zG C E 3 S 0 0 (zQ C E 0 0 (some (0, q.1)) S q.2) 0 [some (2, a0), some (2, a1), none] [] M := by
  unfold pX5_faultOf at h
  refine zG.blk (pc' := 1) (l' := [some (2, a0), some (2, a1), none]) (st' := [(2, a1)]) (M' := M) hX [(.aload_n 1, 0, 0, 0)] (by decide +kernel) rfl trivial ?_
  obtain ⟨g3, h⟩ := zif h
  obtain ⟨q1, e2, h⟩ := zbd h
  refine zG.callV (b := a1) (av := []) (st := []) (ci := 8) hX (pX8_cut_ok e2) sv_5_15 rfl ⟨by decide, rfl⟩ g3 (by decide +kernel) (by rw [hRm]; exact ⟨Nat.le_of_ble_eq_true rfl, Nat.le_of_ble_eq_true rfl⟩) (by rw [hRm]; exact ⟨Nat.le_of_ble_eq_true rfl, Nat.le_of_ble_eq_true rfl⟩) (Nat.le_of_ble_eq_true rfl) ?_
  show zG C E 3 S 0 0 _ 4 [some (2, a0), some (2, a1), none] [] q1
  obtain ⟨g4, h⟩ := zif h
  refine zG.blk (pc' := 9) (l' := [some (2, a0), some (2, a1), none]) (st' := []) (M' := (upM q1 a0 1 0)) hX [(.aload_n 0, 0, 0, 0), (.iconst 0, 0, 0, 0), (.putfield 20, 5, 1, 0)] (by decide +kernel) rfl (And.intro g4 trivial) ?_
  generalize upM q1 a0 1 0 = M5 at h ⊢
  have h := zlt h
  refine zG.blk (pc' := 14) (l' := [some (2, a0), some (2, a1), none]) (st' := []) (M' := (upM M5 a0 2 0)) hX [(.aload_n 0, 0, 0, 0), (.iconst 0, 0, 0, 0), (.putfield 24, 5, 2, 0)] (by decide +kernel) rfl (And.intro g4 trivial) ?_
  generalize upM M5 a0 2 0 = M6 at h ⊢
  have h := zlt h
  refine zG.blk (pc' := 16) (l' := [some (2, a0), some (2, a1), some (0, 0)]) (st' := []) (M' := M6) hX [(.iconst 0, 0, 0, 0), (.istore_n 2, 0, 0, 0)] (by decide +kernel) rfl trivial ?_
  exact (pX5_faultOf_16_ok hX hRm zFU _ _ _ _ h)
theorem pX5_faultOf_ok {l : Launch} {E : ZE} {S : ZS} {M : ZM} {a0 a1 : Int} {q : (Int × ZM)} (h : pX5_faultOf S M a0 a1 = some q) : zMet l yX5_faultOf cX5_faultOf 3 (some .int) 47 2576 0 0 E S M [(2, a0), (2, a1)] (some (0, q.1)) S q.2 :=
  zMet.of (o := 5) (ini := false) (by decide +kernel) rfl (fun h => by cases h) (Nat.le_of_ble_eq_true rfl) (fun C hX hl hRm => by subst hl; exact pX5_faultOf_go hX hRm h)
theorem sv_3_31 : zSV 3 31 yX9_copyFrom cX9_copyFrom 2 none 1 := ⟨⟨gt_at 985 (by decide +kernel) rfl, gt_at 655 (by decide +kernel) rfl, gt_at 656 (by decide +kernel) rfl, gt_at 108 (by decide +kernel) rfl, gt_at 657 (by decide +kernel) rfl⟩, by decide +kernel, by decide +kernel, by decide +kernel⟩
theorem sk_3_42 : Cond.methodLink (zOwn 3) 42 arraycopyName ∈ gt := gt_at 986 (by decide +kernel) rfl
noncomputable def pX3_play_96 (S : ZS) (M : ZM) (y0 : Int) : Option (Int × ZM) := some (y0, M)
set_option maxHeartbeats 2000000 in
set_option maxRecDepth 20000 in
theorem pX3_play_96_ok {C : ZC} {E : ZE} {S : ZS} {q : (Int × ZM)} (hX : zCx C E 3 cX3_play 7 (some .int) false) (hRm : czR C = { frames := 24, cells := 0, slots := 0, locals := 1312 }) {M : ZM} {y0 : Int} (h : pX3_play_96 S M y0 = some q) : zG C E 7 S 0 0 (zQ C E 0 0 (some (0, q.1)) S q.2) 96 [none, none, none, none, none, none, none] [(0, y0)] M := by
  unfold pX3_play_96 at h
  cases h
  exact zG.iret hX (by decide +kernel)
noncomputable def pX3_play_73 (S : ZS) (M : ZM) (x0 : Int) (x4 : Int) (x5 : Int) : Option (Int × ZM) := if S.1 x0 = 3 then (qX3_outcomeFrom S M x0 0 x4).bind fun q27 => if x5 = 0 then (pX3_play_96 S q27.2 q27.1) else (pX3_play_96 S q27.2 (q27.2 x0 4)) else none
set_option maxHeartbeats 2000000 in
set_option maxRecDepth 20000 in
theorem pX3_play_73_ok {C : ZC} {E : ZE} {S : ZS} {q : (Int × ZM)} (hX : zCx C E 3 cX3_play 7 (some .int) false) (hRm : czR C = { frames := 24, cells := 0, slots := 0, locals := 1312 }) {M : ZM} {x0 : Int} {x4 : Int} {x5 : Int} (h : pX3_play_73 S M x0 x4 x5 = some q) : zG C E 7 S 0 0 (zQ C E 0 0 (some (0, q.1)) S q.2) 73 [some (2, x0), none, none, none, some (0, x4), some (0, x5), none] [] M := by
  unfold pX3_play_73 at h
  refine zG.blk (pc' := 77) (l' := [some (2, x0), none, none, none, some (0, x4), some (0, x5), none]) (st' := [(0, x4), (0, 0), (2, x0)]) (M' := M) hX [(.aload_n 0, 0, 0, 0), (.iconst 0, 0, 0, 0), (.iload 4, 0, 0, 0)] (by decide +kernel) rfl trivial ?_
  obtain ⟨g29, h⟩ := zif h
  obtain ⟨q27, e28, h⟩ := zbd h
  refine zG.callV (b := x0) (av := [(0, 0), (0, x4)]) (st := []) (ci := 3) hX (qX3_outcomeFrom_ok e28) sv_3_51 rfl ⟨by decide, rfl⟩ g29 (by decide +kernel) (by rw [hRm]; exact ⟨Nat.le_of_ble_eq_true rfl, Nat.le_of_ble_eq_true rfl⟩) (by rw [hRm]; exact ⟨Nat.le_of_ble_eq_true rfl, Nat.le_of_ble_eq_true rfl⟩) (Nat.le_of_ble_eq_true rfl) ?_
  show zG C E 7 S 0 0 _ 80 [some (2, x0), none, none, none, some (0, x4), some (0, x5), none] [(0, q27.1)] q27.2
  refine zG.blk (pc' := 84) (l' := [some (2, x0), none, none, none, some (0, x4), some (0, x5), some (0, q27.1)]) (st' := [(0, x5)]) (M' := q27.2) hX [(.istore 6, 0, 0, 0), (.iload 5, 0, 0, 0)] (by decide +kernel) rfl trivial ?_
  refine zG.if_ne (tgt := 92) (off := 8) hX (by decide +kernel) (by decide) (fun c30 => ?_) (fun c30 => ?_)
  · have h := zin c30 h
    refine zG.blk (pc' := 96) (l' := [some (2, x0), none, none, none, some (0, x4), some (0, x5), some (0, q27.1)]) (st' := [(0, q27.2 x0 4)]) (M' := q27.2) hX [(.aload_n 0, 0, 0, 0), (.getfield 55, 3, 4, 0)] (by decide +kernel) rfl (And.intro g29 trivial) ?_
    exact zG.wk [false, true, true, true, false, false, false] (pX3_play_96_ok hX hRm h)
  · have h := zip c30 h
    refine zG.blk (pc' := 89) (l' := [some (2, x0), none, none, none, some (0, x4), some (0, x5), some (0, q27.1)]) (st' := [(0, q27.1)]) (M' := q27.2) hX [(.iload 6, 0, 0, 0)] (by decide +kernel) rfl trivial ?_
    refine zG.goto (tgt := 96) (off := 7) hX (by decide +kernel) (by decide) ?_
    exact zG.wk [false, true, true, true, false, false, false] (pX3_play_96_ok hX hRm h)
noncomputable def pX3_play_58 (S : ZS) (M : ZM) (x0 : Int) (x1 : Int) (x3 : Int) (x4 : Int) (x5 : Int) : Option (Int × ZM) := if S.1 x0 = 3 then if S.1 x1 = 10 then if S.1 (M x1 1) = 6 then if S.1 (M (M x1 1) 0) = 100 ∧ (0 : Int) ≤ x3 ∧ x3 < S.2.1 (M (M x1 1) 0) then if S.1 (M x0 3) = 100 ∧ (0 : Int) ≤ 1 ∧ 1 < S.2.1 (M x0 3) then zlet (upM M (M x0 3) 1 (M (M (M x1 1) 0) x3)) fun M26 => pX3_play_73 S M26 x0 x4 x5 else none else none else none else none else none
set_option maxHeartbeats 2000000 in
set_option maxRecDepth 20000 in
theorem pX3_play_58_ok {C : ZC} {E : ZE} {S : ZS} {q : (Int × ZM)} (hX : zCx C E 3 cX3_play 7 (some .int) false) (hRm : czR C = { frames := 24, cells := 0, slots := 0, locals := 1312 }) {M : ZM} {x0 : Int} {x1 : Int} {x3 : Int} {x4 : Int} {x5 : Int} (h : pX3_play_58 S M x0 x1 x3 x4 x5 = some q) : zG C E 7 S 0 0 (zQ C E 0 0 (some (0, q.1)) S q.2) 58 [some (2, x0), some (2, x1), none, some (0, x3), some (0, x4), some (0, x5), none] [] M := by
  unfold pX3_play_58 at h
  obtain ⟨g21, h⟩ := zif h
  obtain ⟨g22, h⟩ := zif h
  obtain ⟨g23, h⟩ := zif h
  obtain ⟨g24, h⟩ := zif h
  obtain ⟨g25, h⟩ := zif h
  refine zG.blk (pc' := 73) (l' := [some (2, x0), some (2, x1), none, some (0, x3), some (0, x4), some (0, x5), none]) (st' := []) (M' := (upM M (M x0 3) 1 (M (M (M x1 1) 0) x3))) hX [(.aload_n 0, 0, 0, 0), (.getfield 25, 3, 3, 2), (.iconst 1, 0, 0, 0), (.aload_n 1, 0, 0, 0), (.getfield 35, 10, 1, 2), (.getfield 48, 6, 0, 2), (.iload_n 3, 0, 0, 0), (.iaload, 0, 0, 0), (.iastore, 0, 0, 0)] (by decide +kernel) rfl (And.intro g21 (And.intro g22 (And.intro g23 (And.intro g24 (And.intro g25 trivial))))) ?_
  generalize upM M (M x0 3) 1 (M (M (M x1 1) 0) x3) = M26 at h ⊢
  have h := zlt h
  exact zG.wk [true, false, true, false, true, true, true] (pX3_play_73_ok hX hRm h)
noncomputable def pX3_play_29 (S : ZS) (M : ZM) (x0 : Int) (x1 : Int) (x2 : Int) (x3 : Int) (x4 : Int) (x5 : Int) : Option (Int × ZM) := if S.1 x0 = 3 then if S.1 (M x0 2) = 100 ∧ (0 : Int) ≤ 0 ∧ 0 < S.2.1 (M x0 2) then zlet (upM M (M x0 2) 0 x2) fun M13 => if S.1 (M13 x0 2) = 100 ∧ (0 : Int) ≤ 1 ∧ 1 < S.2.1 (M13 x0 2) then zlet (upM M13 (M13 x0 2) 1 x3) fun M15 => if S.1 x1 = 10 then if S.1 (M15 x1 1) = 6 then if S.1 (M15 (M15 x1 1) 0) = 100 ∧ (0 : Int) ≤ x2 ∧ x2 < S.2.1 (M15 (M15 x1 1) 0) then if S.1 (M15 x0 3) = 100 ∧ (0 : Int) ≤ 0 ∧ 0 < S.2.1 (M15 x0 3) then zlet (upM M15 (M15 x0 3) 0 (M15 (M15 (M15 x1 1) 0) x2)) fun M20 => pX3_play_58 S M20 x0 x1 x3 x4 x5 else none else none else none else none else none else none else none
set_option maxHeartbeats 2000000 in
set_option maxRecDepth 20000 in
theorem pX3_play_29_ok {C : ZC} {E : ZE} {S : ZS} {q : (Int × ZM)} (hX : zCx C E 3 cX3_play 7 (some .int) false) (hRm : czR C = { frames := 24, cells := 0, slots := 0, locals := 1312 }) {M : ZM} {x0 : Int} {x1 : Int} {x2 : Int} {x3 : Int} {x4 : Int} {x5 : Int} (h : pX3_play_29 S M x0 x1 x2 x3 x4 x5 = some q) : zG C E 7 S 0 0 (zQ C E 0 0 (some (0, q.1)) S q.2) 29 [some (2, x0), some (2, x1), some (0, x2), some (0, x3), some (0, x4), some (0, x5), none] [] M := by
  unfold pX3_play_29 at h
  obtain ⟨g11, h⟩ := zif h
  obtain ⟨g12, h⟩ := zif h
  refine zG.blk (pc' := 36) (l' := [some (2, x0), some (2, x1), some (0, x2), some (0, x3), some (0, x4), some (0, x5), none]) (st' := []) (M' := (upM M (M x0 2) 0 x2)) hX [(.aload_n 0, 0, 0, 0), (.getfield 22, 3, 2, 2), (.iconst 0, 0, 0, 0), (.iload_n 2, 0, 0, 0), (.iastore, 0, 0, 0)] (by decide +kernel) rfl (And.intro g11 (And.intro g12 trivial)) ?_
  generalize upM M (M x0 2) 0 x2 = M13 at h ⊢
  have h := zlt h
  obtain ⟨g14, h⟩ := zif h
  refine zG.blk (pc' := 43) (l' := [some (2, x0), some (2, x1), some (0, x2), some (0, x3), some (0, x4), some (0, x5), none]) (st' := []) (M' := (upM M13 (M13 x0 2) 1 x3)) hX [(.aload_n 0, 0, 0, 0), (.getfield 22, 3, 2, 2), (.iconst 1, 0, 0, 0), (.iload_n 3, 0, 0, 0), (.iastore, 0, 0, 0)] (by decide +kernel) rfl (And.intro g11 (And.intro g14 trivial)) ?_
  generalize upM M13 (M13 x0 2) 1 x3 = M15 at h ⊢
  have h := zlt h
  obtain ⟨g16, h⟩ := zif h
  obtain ⟨g17, h⟩ := zif h
  obtain ⟨g18, h⟩ := zif h
  obtain ⟨g19, h⟩ := zif h
  refine zG.blk (pc' := 58) (l' := [some (2, x0), some (2, x1), some (0, x2), some (0, x3), some (0, x4), some (0, x5), none]) (st' := []) (M' := (upM M15 (M15 x0 3) 0 (M15 (M15 (M15 x1 1) 0) x2))) hX [(.aload_n 0, 0, 0, 0), (.getfield 25, 3, 3, 2), (.iconst 0, 0, 0, 0), (.aload_n 1, 0, 0, 0), (.getfield 35, 10, 1, 2), (.getfield 48, 6, 0, 2), (.iload_n 2, 0, 0, 0), (.iaload, 0, 0, 0), (.iastore, 0, 0, 0)] (by decide +kernel) rfl (And.intro g11 (And.intro g16 (And.intro g17 (And.intro g18 (And.intro g19 trivial))))) ?_
  generalize upM M15 (M15 x0 3) 0 (M15 (M15 (M15 x1 1) 0) x2) = M20 at h ⊢
  have h := zlt h
  exact zG.wk [true, true, false, true, true, true, true] (pX3_play_58_ok hX hRm h)
noncomputable def pX3_play (S : ZS) (M : ZM) (a0 : Int) (a1 : Int) (a2 : Int) (a3 : Int) (a4 : Int) (a5 : Int) : Option (Int × ZM) := if S.1 a0 = 3 then if S.1 a1 = 10 then if S.1 (M a0 0) = 9 then (pX9_copyFrom S M (M a0 0) (M a1 0)).bind fun q3 => if S.1 (q3 a1 1) = 6 then if S.1 (q3 (q3 a1 1) 2) = 100 then if S.1 (q3 a0 1) = 100 then if (0 : Int) ≤ 36 ∧ 36 ≤ S.2.1 (q3 (q3 a1 1) 2) ∧ 36 ≤ S.2.1 (q3 a0 1) then zlet (zCpy q3 (q3 (q3 a1 1) 2) (q3 a0 1) 36) fun M10 => pX3_play_29 S M10 a0 a1 a2 a3 a4 a5 else none else none else none else none else none else none else none
set_option maxHeartbeats 2000000 in
set_option maxRecDepth 20000 in
theorem pX3_play_go {C : ZC} {E : ZE} {S : ZS} {M : ZM} {a0 a1 a2 a3 a4 a5 : Int} {q : (Int × ZM)} (hX : zCx C E 3 cX3_play 7 (some .int) false) (hRm : czR C = { frames := 24, cells := 0, slots := 0, locals := 1312 }) (h : pX3_play  S M a0 a1 a2 a3 a4 a5 = some q) : zG C E 7 S 0 0 (zQ C E 0 0 (some (0, q.1)) S q.2) 0 [some (2, a0), some (2, a1), some (0, a2), some (0, a3), some (0, a4), some (0, a5), none] [] M := by
  unfold pX3_play at h
  obtain ⟨g1, h⟩ := zif h
  obtain ⟨g2, h⟩ := zif h
  refine zG.blk (pc' := 8) (l' := [some (2, a0), some (2, a1), some (0, a2), some (0, a3), some (0, a4), some (0, a5), none]) (st' := [(2, M a1 0), (2, M a0 0)]) (M' := M) hX [(.aload_n 0, 0, 0, 0), (.getfield 12, 3, 0, 2), (.aload_n 1, 0, 0, 0), (.getfield 28, 10, 0, 2)] (by decide +kernel) rfl (And.intro g1 (And.intro g2 trivial)) ?_
  obtain ⟨g5, h⟩ := zif h
  obtain ⟨q3, e4, h⟩ := zbd h
  refine zG.callV (b := M a0 0) (av := [(2, M a1 0)]) (st := []) (ci := 9) hX (pX9_copyFrom_ok e4) sv_3_31 rfl ⟨by decide, rfl⟩ g5 (by decide +kernel) (by rw [hRm]; exact ⟨Nat.le_of_ble_eq_true rfl, Nat.le_of_ble_eq_true rfl⟩) (by rw [hRm]; exact ⟨Nat.le_of_ble_eq_true rfl, Nat.le_of_ble_eq_true rfl⟩) (Nat.le_of_ble_eq_true rfl) ?_
  show zG C E 7 S 0 0 _ 11 [some (2, a0), some (2, a1), some (0, a2), some (0, a3), some (0, a4), some (0, a5), none] [] q3
  obtain ⟨g6, h⟩ := zif h
  refine zG.blk (pc' := 26) (l' := [some (2, a0), some (2, a1), some (0, a2), some (0, a3), some (0, a4), some (0, a5), none]) (st' := [(0, 36), (0, 0), (2, q3 a0 1), (0, 0), (2, q3 (q3 a1 1) 2)]) (M' := q3) hX [(.aload_n 1, 0, 0, 0), (.getfield 35, 10, 1, 2), (.getfield 39, 6, 2, 2), (.iconst 0, 0, 0, 0), (.aload_n 0, 0, 0, 0), (.getfield 18, 3, 1, 2), (.iconst 0, 0, 0, 0), (.bipush 36, 0, 0, 0)] (by decide +kernel) rfl (And.intro g2 (And.intro g6 (And.intro g1 trivial))) ?_
  obtain ⟨g7, h⟩ := zif h
  obtain ⟨g8, h⟩ := zif h
  obtain ⟨g9, h⟩ := zif h
  refine zG.copy hX sk_3_42 sk_1 sk_2 sk_3 (by decide +kernel) g7 g8 g9 (by rw [hRm]; exact ⟨Nat.le_of_ble_eq_true rfl, Nat.le_of_ble_eq_true rfl⟩) ?_
  show zG C E 7 S 0 0 _ 29 [some (2, a0), some (2, a1), some (0, a2), some (0, a3), some (0, a4), some (0, a5), none] [] (zCpy q3 (q3 (q3 a1 1) 2) (q3 a0 1) 36)
  generalize zCpy q3 (q3 (q3 a1 1) 2) (q3 a0 1) 36 = M10 at h ⊢
  have h := zlt h
  exact (pX3_play_29_ok hX hRm h)
theorem pX3_play_ok {l : Launch} {E : ZE} {S : ZS} {M : ZM} {a0 a1 a2 a3 a4 a5 : Int} {q : (Int × ZM)} (h : pX3_play S M a0 a1 a2 a3 a4 a5 = some q) : zMet l yX3_play cX3_play 7 (some .int) 24 1312 0 0 E S M [(2, a0), (2, a1), (0, a2), (0, a3), (0, a4), (0, a5)] (some (0, q.1)) S q.2 :=
  zMet.of (o := 3) (ini := false) (by decide +kernel) rfl (fun h => by cases h) (Nat.le_of_ble_eq_true rfl) (fun C hX hl hRm => by subst hl; exact pX3_play_go hX hRm h)
noncomputable def pX11_game_28 (S : ZS) (M : ZM) : Option (Int × ZM) := some ((-1000), M)
set_option maxHeartbeats 2000000 in
set_option maxRecDepth 20000 in
theorem pX11_game_28_ok {C : ZC} {E : ZE} {S : ZS} {q : (Int × ZM)} (hX : zCx C E 11 cX11_game 5 (some .int) false) (hRm : czR C = { frames := 25, cells := 0, slots := 0, locals := 1338 }) {M : ZM} (h : pX11_game_28 S M = some q) : zG C E 5 S 0 0 (zQ C E 0 0 (some (0, q.1)) S q.2) 28 [none, none, none, none, none] [] M := by
  unfold pX11_game_28 at h
  refine zG.blk (pc' := 31) (l' := [none, none, none, none, none]) (st' := [(0, (-1000))]) (M' := M) hX [(.sipush (-1000), 0, 0, 0)] (by decide +kernel) rfl trivial ?_
  cases h
  exact zG.iret hX (by decide +kernel)
theorem sv_11_216 : zSV 11 216 yX3_play cX3_play 7 (some .int) 5 := ⟨⟨gt_at 981 (by decide +kernel) rfl, gt_at 982 (by decide +kernel) rfl, gt_at 983 (by decide +kernel) rfl, gt_at 116 (by decide +kernel) rfl, gt_at 984 (by decide +kernel) rfl⟩, by decide +kernel, by decide +kernel, by decide +kernel⟩
noncomputable def pX11_game (S : ZS) (M : ZM) (a0 : Int) (a1 : Int) (a2 : Int) (a3 : Int) (a4 : Int) : Option (Int × ZM) := if S.1 a0 = 11 then (pX11_areTwoPens S M a0 a1 a2).bind fun q1 => if q1.1 = 0 then (pX11_game_28 S q1.2) else ((pX11_within S q1.2 a3 1 4).bind fun q5 => if q5.1 = 0 then (pX11_game_28 S q5.2) else ((pX11_within S q5.2 a4 0 1).bind fun q8 => if q8.1 = 0 then (pX11_game_28 S q8.2) else (if S.1 (q8.2 a0 10) = 3 then (pX3_play S q8.2 (q8.2 a0 10) (q8.2 a0 5) a1 a2 a3 a4).bind fun q11 => some (q11.1, q11.2) else none))) else none
set_option maxHeartbeats 2000000 in
set_option maxRecDepth 20000 in
theorem pX11_game_go {C : ZC} {E : ZE} {S : ZS} {M : ZM} {a0 a1 a2 a3 a4 : Int} {q : (Int × ZM)} (hX : zCx C E 11 cX11_game 5 (some .int) false) (hRm : czR C = { frames := 25, cells := 0, slots := 0, locals := 1338 }) (h : pX11_game  S M a0 a1 a2 a3 a4 = some q) : zG C E 5 S 0 0 (zQ C E 0 0 (some (0, q.1)) S q.2) 0 [some (2, a0), some (0, a1), some (0, a2), some (0, a3), some (0, a4)] [] M := by
  unfold pX11_game at h
  refine zG.blk (pc' := 3) (l' := [some (2, a0), some (0, a1), some (0, a2), some (0, a3), some (0, a4)]) (st' := [(0, a2), (0, a1), (2, a0)]) (M' := M) hX [(.aload_n 0, 0, 0, 0), (.iload_n 1, 0, 0, 0), (.iload_n 2, 0, 0, 0)] (by decide +kernel) rfl trivial ?_
  obtain ⟨g3, h⟩ := zif h
  obtain ⟨q1, e2, h⟩ := zbd h
  refine zG.callV (b := a0) (av := [(0, a1), (0, a2)]) (st := []) (ci := 11) hX (pX11_areTwoPens_ok e2) sv_11_212 rfl ⟨by decide, rfl⟩ g3 (by decide +kernel) (by rw [hRm]; exact ⟨Nat.le_of_ble_eq_true rfl, Nat.le_of_ble_eq_true rfl⟩) (by rw [hRm]; exact ⟨Nat.le_of_ble_eq_true rfl, Nat.le_of_ble_eq_true rfl⟩) (Nat.le_of_ble_eq_true rfl) ?_
  show zG C E 5 S 0 0 _ 6 [some (2, a0), some (0, a1), some (0, a2), some (0, a3), some (0, a4)] [(0, q1.1)] q1.2
  refine zG.if_eq (tgt := 28) (off := 22) hX (by decide +kernel) (by decide) (fun c4 => ?_) (fun c4 => ?_)
  · have h := zip c4 h
    exact zG.wk [false, false, false, false, false] (pX11_game_28_ok hX hRm h)
  · have h := zin c4 h
    refine zG.blk (pc' := 12) (l' := [some (2, a0), some (0, a1), some (0, a2), some (0, a3), some (0, a4)]) (st' := [(0, 4), (0, 1), (0, a3)]) (M' := q1.2) hX [(.iload_n 3, 0, 0, 0), (.iconst 1, 0, 0, 0), (.iconst 4, 0, 0, 0)] (by decide +kernel) rfl trivial ?_
    obtain ⟨q5, e6, h⟩ := zbd h
    refine zG.callS (av := [(0, a3), (0, 1), (0, 4)]) (st := []) hX (pX11_within_ok e6) ss_11_172 rfl (by decide +kernel) (by rw [hRm]; exact ⟨Nat.le_of_ble_eq_true rfl, Nat.le_of_ble_eq_true rfl⟩) (by rw [hRm]; exact ⟨Nat.le_of_ble_eq_true rfl, Nat.le_of_ble_eq_true rfl⟩) (Nat.le_of_ble_eq_true rfl) ?_
    show zG C E 5 S 0 0 _ 15 [some (2, a0), some (0, a1), some (0, a2), some (0, a3), some (0, a4)] [(0, q5.1)] q5.2
    refine zG.if_eq (tgt := 28) (off := 13) hX (by decide +kernel) (by decide) (fun c7 => ?_) (fun c7 => ?_)
    · have h := zip c7 h
      exact zG.wk [false, false, false, false, false] (pX11_game_28_ok hX hRm h)
    · have h := zin c7 h
      refine zG.blk (pc' := 22) (l' := [some (2, a0), some (0, a1), some (0, a2), some (0, a3), some (0, a4)]) (st' := [(0, 1), (0, 0), (0, a4)]) (M' := q5.2) hX [(.iload 4, 0, 0, 0), (.iconst 0, 0, 0, 0), (.iconst 1, 0, 0, 0)] (by decide +kernel) rfl trivial ?_
      obtain ⟨q8, e9, h⟩ := zbd h
      refine zG.callS (av := [(0, a4), (0, 0), (0, 1)]) (st := []) hX (pX11_within_ok e9) ss_11_172 rfl (by decide +kernel) (by rw [hRm]; exact ⟨Nat.le_of_ble_eq_true rfl, Nat.le_of_ble_eq_true rfl⟩) (by rw [hRm]; exact ⟨Nat.le_of_ble_eq_true rfl, Nat.le_of_ble_eq_true rfl⟩) (Nat.le_of_ble_eq_true rfl) ?_
      show zG C E 5 S 0 0 _ 25 [some (2, a0), some (0, a1), some (0, a2), some (0, a3), some (0, a4)] [(0, q8.1)] q8.2
      refine zG.if_ne (tgt := 32) (off := 7) hX (by decide +kernel) (by decide) (fun c10 => ?_) (fun c10 => ?_)
      · have h := zin c10 h
        refine zG.blk (pc' := 45) (l' := [some (2, a0), some (0, a1), some (0, a2), some (0, a3), some (0, a4)]) (st' := [(0, a4), (0, a3), (0, a2), (0, a1), (2, q8.2 a0 5), (2, q8.2 a0 10)]) (M' := q8.2) hX [(.aload_n 0, 0, 0, 0), (.getfield 71, 11, 10, 2), (.aload_n 0, 0, 0, 0), (.getfield 39, 11, 5, 2), (.iload_n 1, 0, 0, 0), (.iload_n 2, 0, 0, 0), (.iload_n 3, 0, 0, 0), (.iload 4, 0, 0, 0)] (by decide +kernel) rfl (And.intro g3 (And.intro g3 trivial)) ?_
        obtain ⟨g13, h⟩ := zif h
        obtain ⟨q11, e12, h⟩ := zbd h
        refine zG.callV (b := q8.2 a0 10) (av := [(2, q8.2 a0 5), (0, a1), (0, a2), (0, a3), (0, a4)]) (st := []) (ci := 3) hX (pX3_play_ok e12) sv_11_216 rfl ⟨by decide, rfl⟩ g13 (by decide +kernel) (by rw [hRm]; exact ⟨Nat.le_of_ble_eq_true rfl, Nat.le_of_ble_eq_true rfl⟩) (by rw [hRm]; exact ⟨Nat.le_of_ble_eq_true rfl, Nat.le_of_ble_eq_true rfl⟩) (Nat.le_of_ble_eq_true rfl) ?_
        show zG C E 5 S 0 0 _ 48 [some (2, a0), some (0, a1), some (0, a2), some (0, a3), some (0, a4)] [(0, q11.1)] q11.2
        cases h
        exact zG.iret hX (by decide +kernel)
      · have h := zip c10 h
        exact zG.wk [false, false, false, false, false] (pX11_game_28_ok hX hRm h)
theorem pX11_game_ok {l : Launch} {E : ZE} {S : ZS} {M : ZM} {a0 a1 a2 a3 a4 : Int} {q : (Int × ZM)} (h : pX11_game S M a0 a1 a2 a3 a4 = some q) : zMet l yX11_game cX11_game 5 (some .int) 25 1338 0 0 E S M [(2, a0), (0, a1), (0, a2), (0, a3), (0, a4)] (some (0, q.1)) S q.2 :=
  zMet.of (o := 11) (ini := false) (by decide +kernel) rfl (fun h => by cases h) (Nat.le_of_ble_eq_true rfl) (fun C hX hl hRm => by subst hl; exact pX11_game_go hX hRm h)
