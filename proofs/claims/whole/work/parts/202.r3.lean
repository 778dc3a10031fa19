theorem sv_12_213 : zSV 12 213 yX12_isDigit cX12_isDigit 1 (some .boolean) 0 := ⟨⟨gt_at 1361 (by decide +kernel) rfl, gt_at 1363 (by decide +kernel) rfl, gt_at 48 (by decide +kernel) rfl, gt_at 117 (by decide +kernel) rfl, gt_at 1364 (by decide +kernel) rfl⟩, by decide +kernel, by decide +kernel, by decide +kernel⟩
theorem sv_12_209 : zSV 12 209 yX12_fails cX12_fails 3 none 2 := ⟨⟨gt_at 1340 (by decide +kernel) rfl, gt_at 1342 (by decide +kernel) rfl, gt_at 43 (by decide +kernel) rfl, gt_at 117 (by decide +kernel) rfl, gt_at 1343 (by decide +kernel) rfl⟩, by decide +kernel, by decide +kernel, by decide +kernel⟩
noncomputable def pX12_digits_93 (S : ZS) (M : ZM) (x3 : Int) : Option (Int × ZM) := some (x3, M)
set_option maxHeartbeats 2000000 in
set_option maxRecDepth 20000 in
theorem pX12_digits_93_ok {C : ZC} {E : ZE} {S : ZS} {q : (Int × ZM)} (hX : zCx C E 12 cX12_digits 4 (some .int) false) (hRm : czR C = { frames := 3, cells := 0, slots := 0, locals := 85 }) {M : ZM} {x3 : Int} (h : pX12_digits_93 S M x3 = some q) : zG C E 4 S 0 0 (zQ C E 0 0 (some (0, q.1)) S q.2) 93 [none, none, none, some (0, x3)] [] M := by
  unfold pX12_digits_93 at h
  refine zG.blk (pc' := 94) (l' := [none, none, none, some (0, x3)]) (st' := [(0, x3)]) (M' := M) hX [(.iload_n 3, 0, 0, 0)] (by decide +kernel) rfl trivial ?_
  cases h
  exact zG.iret hX (by decide +kernel)
noncomputable def pX12_digits_87 (S : ZS) (M : ZM) (x0 : Int) (x2 : Int) (x3 : Int) : Option (Int × ZM) := if S.1 x0 = 12 then (pX12_fails S M x0 1 x2).bind fun q10 => pX12_digits_93 S q10 x3 else none
set_option maxHeartbeats 2000000 in
set_option maxRecDepth 20000 in
theorem pX12_digits_87_ok {C : ZC} {E : ZE} {S : ZS} {q : (Int × ZM)} (hX : zCx C E 12 cX12_digits 4 (some .int) false) (hRm : czR C = { frames := 3, cells := 0, slots := 0, locals := 85 }) {M : ZM} {x0 : Int} {x2 : Int} {x3 : Int} (h : pX12_digits_87 S M x0 x2 x3 = some q) : zG C E 4 S 0 0 (zQ C E 0 0 (some (0, q.1)) S q.2) 87 [some (2, x0), none, some (0, x2), some (0, x3)] [] M := by
  unfold pX12_digits_87 at h
  refine zG.blk (pc' := 90) (l' := [some (2, x0), none, some (0, x2), some (0, x3)]) (st' := [(0, x2), (0, 1), (2, x0)]) (M' := M) hX [(.aload_n 0, 0, 0, 0), (.iconst 1, 0, 0, 0), (.iload_n 2, 0, 0, 0)] (by decide +kernel) rfl trivial ?_
  obtain ⟨g12, h⟩ := zif h
  obtain ⟨q10, e11, h⟩ := zbd h
  refine zG.callV (b := x0) (av := [(0, 1), (0, x2)]) (st := []) (ci := 12) hX (pX12_fails_ok e11) sv_12_209 rfl ⟨by decide, rfl⟩ g12 (by decide +kernel) (by rw [hRm]; exact ⟨Nat.le_of_ble_eq_true rfl, Nat.le_of_ble_eq_true rfl⟩) (by rw [hRm]; exact ⟨Nat.le_of_ble_eq_true rfl, Nat.le_of_ble_eq_true rfl⟩) (Nat.le_of_ble_eq_true rfl) ?_
  show zG C E 4 S 0 0 _ 93 [some (2, x0), none, some (0, x2), some (0, x3)] [] q10
  exact zG.wk [false, true, false, true] (pX12_digits_93_ok hX hRm h)
noncomputable def pX12_digits_58 (S : ZS) (k25 : ZM → Int → Int → Int → Int → Option (Int × ZM)) (M : ZM) (x0 : Int) (x1 : Int) (x2 : Int) (y0 : Int) : Option (Int × ZM) := if S.1 x0 = 12 then zlet (upM M x0 21 (w32 ((M x0 21) + 1))) fun M16 => k25 M16 x0 x1 x2 y0 else none
set_option maxHeartbeats 2000000 in
set_option maxRecDepth 20000 in
theorem pX12_digits_58_ok {C : ZC} {E : ZE} {S : ZS} {k25 : ZM → Int → Int → Int → Int → Option (Int × ZM)} {q : (Int × ZM)} (hX : zCx C E 12 cX12_digits 4 (some .int) false) (hRm : czR C = { frames := 3, cells := 0, slots := 0, locals := 85 }) (hk25 : ∀ M x0 x1 x2 x3, k25 M x0 x1 x2 x3 = some q → zG C E 4 S 0 0 (zQ C E 0 0 (some (0, q.1)) S q.2) 25 [some (2, x0), some (0, x1), some (0, x2), some (0, x3)] [] M) {M : ZM} {x0 : Int} {x1 : Int} {x2 : Int} {y0 : Int} (h : pX12_digits_58 S k25 M x0 x1 x2 y0 = some q) : zG C E 4 S 0 0 (zQ C E 0 0 (some (0, q.1)) S q.2) 58 [some (2, x0), some (0, x1), some (0, x2), none] [(0, y0)] M := by
  unfold pX12_digits_58 at h
  obtain ⟨g15, h⟩ := zif h
  refine zG.blk (pc' := 69) (l' := [some (2, x0), some (0, x1), some (0, x2), some (0, y0)]) (st' := []) (M' := (upM M x0 21 (w32 ((M x0 21) + 1)))) hX [(.istore_n 3, 0, 0, 0), (.aload_n 0, 0, 0, 0), (.dup, 0, 0, 0), (.getfield 174, 12, 21, 0), (.iconst 1, 0, 0, 0), (.iadd, 0, 0, 0), (.putfield 174, 12, 21, 0)] (by decide +kernel) rfl (And.intro g15 (And.intro g15 trivial)) ?_
  generalize upM M x0 21 (w32 ((M x0 21) + 1)) = M16 at h ⊢
  have h := zlt h
  refine zG.goto (tgt := 25) (off := (-44)) hX (by decide +kernel) (by decide) ?_
  exact (hk25 _ _ _ _ _ h)
noncomputable def pX12_digits_25 (S : ZS) : Nat → ZM → Int → Int → Int → Int → Option (Int × ZM)
  | 0 => fun _ _ _ _ _ => none
  | n + 1 => fun M x0 x1 x2 x3 => if S.1 x0 = 12 then (pX12_isDigit S M x0).bind fun q5 => if q5.1 = 0 then (if 5 < w32 ((q5.2 x0 21) - x2) then (pX12_digits_87 S q5.2 x0 x2 x3) else (if x3 ≤ x1 then (pX12_digits_93 S q5.2 x3) else (pX12_digits_87 S q5.2 x0 x2 x3))) else (if 5 ≤ w32 ((q5.2 x0 21) - x2) then (pX12_digits_58 S (pX12_digits_25 S n) q5.2 x0 x1 x2 x3) else ((pX12_byteHere S q5.2 x0).bind fun q17 => pX12_digits_58 S (pX12_digits_25 S n) q17.2 x0 x1 x2 (w32 ((w32 ((w32 (10 * x3)) + q17.1)) - 48)))) else none
set_option maxHeartbeats 2000000 in
set_option maxRecDepth 20000 in
theorem pX12_digits_25_ok {C : ZC} {E : ZE} {S : ZS} {q : (Int × ZM)} (hX : zCx C E 12 cX12_digits 4 (some .int) false) (hRm : czR C = { frames := 3, cells := 0, slots := 0, locals := 85 }) : ∀ (n : Nat) (M : ZM) (x0 : Int) (x1 : Int) (x2 : Int) (x3 : Int), pX12_digits_25 S n M x0 x1 x2 x3 = some q → zG C E 4 S 0 0 (zQ C E 0 0 (some (0, q.1)) S q.2) 25 [some (2, x0), some (0, x1), some (0, x2), some (0, x3)] [] M := by
  intro n
  induction n with
  | zero => intro M x0 x1 x2 x3 h; cases h
  | succ n ih =>
    intro M x0 x1 x2 x3 h
    unfold pX12_digits_25 at h
    refine zG.blk (pc' := 26) (l' := [some (2, x0), some (0, x1), some (0, x2), some (0, x3)]) (st' := [(2, x0)]) (M' := M) hX [(.aload_n 0, 0, 0, 0)] (by decide +kernel) rfl trivial ?_
    obtain ⟨g7, h⟩ := zif h
    obtain ⟨q5, e6, h⟩ := zbd h
    refine zG.callV (b := x0) (av := []) (st := []) (ci := 12) hX (pX12_isDigit_ok e6) sv_12_213 rfl ⟨by decide, rfl⟩ g7 (by decide +kernel) (by rw [hRm]; exact ⟨Nat.le_of_ble_eq_true rfl, Nat.le_of_ble_eq_true rfl⟩) (by rw [hRm]; exact ⟨Nat.le_of_ble_eq_true rfl, Nat.le_of_ble_eq_true rfl⟩) (Nat.le_of_ble_eq_true rfl) ?_
    show zG C E 4 S 0 0 _ 29 [some (2, x0), some (0, x1), some (0, x2), some (0, x3)] [(0, q5.1)] q5.2
    refine zG.if_eq (tgt := 72) (off := 43) hX (by decide +kernel) (by decide) (fun c8 => ?_) (fun c8 => ?_)
    · have h := zip c8 h
      refine zG.blk (pc' := 79) (l' := [some (2, x0), some (0, x1), some (0, x2), some (0, x3)]) (st' := [(0, 5), (0, w32 ((q5.2 x0 21) - x2))]) (M' := q5.2) hX [(.aload_n 0, 0, 0, 0), (.getfield 174, 12, 21, 0), (.iload_n 2, 0, 0, 0), (.isub, 0, 0, 0), (.iconst 5, 0, 0, 0)] (by decide +kernel) rfl (And.intro g7 trivial) ?_
      refine zG.icmp_gt (tgt := 87) (off := 8) hX (by decide +kernel) (by decide) (fun c9 => ?_) (fun c9 => ?_)
      · have h := zip c9 h
        exact zG.wk [true, false, true, true] (pX12_digits_87_ok hX hRm h)
      · have h := zin c9 h
        refine zG.blk (pc' := 84) (l' := [some (2, x0), some (0, x1), some (0, x2), some (0, x3)]) (st' := [(0, x1), (0, x3)]) (M' := q5.2) hX [(.iload_n 3, 0, 0, 0), (.iload_n 1, 0, 0, 0)] (by decide +kernel) rfl trivial ?_
        refine zG.icmp_le (tgt := 93) (off := 9) hX (by decide +kernel) (by decide) (fun c13 => ?_) (fun c13 => ?_)
        · have h := zip c13 h
          exact zG.wk [false, false, false, true] (pX12_digits_93_ok hX hRm h)
        · have h := zin c13 h
          exact zG.wk [true, false, true, true] (pX12_digits_87_ok hX hRm h)
    · have h := zin c8 h
      refine zG.blk (pc' := 39) (l' := [some (2, x0), some (0, x1), some (0, x2), some (0, x3)]) (st' := [(0, 5), (0, w32 ((q5.2 x0 21) - x2))]) (M' := q5.2) hX [(.aload_n 0, 0, 0, 0), (.getfield 174, 12, 21, 0), (.iload_n 2, 0, 0, 0), (.isub, 0, 0, 0), (.iconst 5, 0, 0, 0)] (by decide +kernel) rfl (And.intro g7 trivial) ?_
      refine zG.icmp_ge (tgt := 57) (off := 18) hX (by decide +kernel) (by decide) (fun c14 => ?_) (fun c14 => ?_)
      · have h := zip c14 h
        refine zG.blk (pc' := 58) (l' := [some (2, x0), some (0, x1), some (0, x2), some (0, x3)]) (st' := [(0, x3)]) (M' := q5.2) hX [(.iload_n 3, 0, 0, 0)] (by decide +kernel) rfl trivial ?_
        exact zG.wk [true, true, true, false] (pX12_digits_58_ok hX hRm ih h)
      · have h := zin c14 h
        refine zG.blk (pc' := 47) (l' := [some (2, x0), some (0, x1), some (0, x2), some (0, x3)]) (st' := [(2, x0), (0, w32 (10 * x3))]) (M' := q5.2) hX [(.bipush 10, 0, 0, 0), (.iload_n 3, 0, 0, 0), (.imul, 0, 0, 0), (.aload_n 0, 0, 0, 0)] (by decide +kernel) rfl trivial ?_
        obtain ⟨q17, e18, h⟩ := zbd h
        refine zG.callV (b := x0) (av := []) (st := [(0, w32 (10 * x3))]) (ci := 12) hX (pX12_byteHere_ok e18) sv_12_177 rfl ⟨by decide, rfl⟩ g7 (by decide +kernel) (by rw [hRm]; exact ⟨Nat.le_of_ble_eq_true rfl, Nat.le_of_ble_eq_true rfl⟩) (by rw [hRm]; exact ⟨Nat.le_of_ble_eq_true rfl, Nat.le_of_ble_eq_true rfl⟩) (Nat.le_of_ble_eq_true rfl) ?_
        show zG C E 4 S 0 0 _ 50 [some (2, x0), some (0, x1), some (0, x2), some (0, x3)] [(0, q17.1), (0, w32 (10 * x3))] q17.2
        refine zG.blk (pc' := 54) (l' := [some (2, x0), some (0, x1), some (0, x2), some (0, x3)]) (st' := [(0, w32 ((w32 ((w32 (10 * x3)) + q17.1)) - 48))]) (M' := q17.2) hX [(.iadd, 0, 0, 0), (.bipush 48, 0, 0, 0), (.isub, 0, 0, 0)] (by decide +kernel) rfl trivial ?_
        refine zG.goto (tgt := 58) (off := 4) hX (by decide +kernel) (by decide) ?_
        exact zG.wk [true, true, true, false] (pX12_digits_58_ok hX hRm ih h)
noncomputable def pX12_digits (S : ZS) (M : ZM) (a0 : Int) (a1 : Int) : Option (Int × ZM) := if S.1 a0 = 12 then (pX12_isDigit S M a0).bind fun q1 => if q1.1 = 0 then ((pX12_fails S q1.2 a0 0 (q1.2 a0 21)).bind fun q19 => some (0, q19)) else (pX12_digits_25 S zFU q1.2 a0 a1 (q1.2 a0 21) 0) else none
set_option maxHeartbeats 2000000 in
set_option maxRecDepth 20000 in
theorem pX12_digits_go {C : ZC} {E : ZE} {S : ZS} {M : ZM} {a0 a1 : Int} {q : (Int × ZM)} (hX : zCx C E 12 cX12_digits 4 (some .int) false) (hRm : czR C = { frames := 3, cells := 0, slots := 0, locals := 85 }) (h : pX12_digits  S M a0 a1 = some q) : zG C E 4 S 0 0 (zQ C E 0 0 (some (0, q.1)) S q.2) 0 [some (2, a0), some (0, a1), none, none] [] M := by
  unfold pX12_digits at h
  refine zG.blk (pc' := 1) (l' := [some (2, a0), some (0, a1), none, none]) (st' := [(2, a0)]) (M' := M) hX [(.aload_n 0, 0, 0, 0)] (by decide +kernel) rfl trivial ?_
  obtain ⟨g3, h⟩ := zif h
  obtain ⟨q1, e2, h⟩ := zbd h
  refine zG.callV (b := a0) (av := []) (st := []) (ci := 12) hX (pX12_isDigit_ok e2) sv_12_213 rfl ⟨by decide, rfl⟩ g3 (by decide +kernel) (by rw [hRm]; exact ⟨Nat.le_of_ble_eq_true rfl, Nat.le_of_ble_eq_true rfl⟩) (by rw [hRm]; exact ⟨Nat.le_of_ble_eq_true rfl, Nat.le_of_ble_eq_true rfl⟩) (Nat.le_of_ble_eq_true rfl) ?_
  show zG C E 4 S 0 0 _ 4 [some (2, a0), some (0, a1), none, none] [(0, q1.1)] q1.2
  refine zG.if_ne (tgt := 18) (off := 14) hX (by decide +kernel) (by decide) (fun c4 => ?_) (fun c4 => ?_)
  · have h := zin c4 h
    refine zG.blk (pc' := 25) (l' := [some (2, a0), some (0, a1), some (0, q1.2 a0 21), some (0, 0)]) (st' := []) (M' := q1.2) hX [(.aload_n 0, 0, 0, 0), (.getfield 174, 12, 21, 0), (.istore_n 2, 0, 0, 0), (.iconst 0, 0, 0, 0), (.istore_n 3, 0, 0, 0)] (by decide +kernel) rfl (And.intro g3 trivial) ?_
    exact (pX12_digits_25_ok hX hRm zFU _ _ _ _ _ h)
  · have h := zip c4 h
    refine zG.blk (pc' := 13) (l' := [some (2, a0), some (0, a1), none, none]) (st' := [(0, q1.2 a0 21), (0, 0), (2, a0)]) (M' := q1.2) hX [(.aload_n 0, 0, 0, 0), (.iconst 0, 0, 0, 0), (.aload_n 0, 0, 0, 0), (.getfield 174, 12, 21, 0)] (by decide +kernel) rfl (And.intro g3 trivial) ?_
    obtain ⟨q19, e20, h⟩ := zbd h
    refine zG.callV (b := a0) (av := [(0, 0), (0, q1.2 a0 21)]) (st := []) (ci := 12) hX (pX12_fails_ok e20) sv_12_209 rfl ⟨by decide, rfl⟩ g3 (by decide +kernel) (by rw [hRm]; exact ⟨Nat.le_of_ble_eq_true rfl, Nat.le_of_ble_eq_true rfl⟩) (by rw [hRm]; exact ⟨Nat.le_of_ble_eq_true rfl, Nat.le_of_ble_eq_true rfl⟩) (Nat.le_of_ble_eq_true rfl) ?_
    show zG C E 4 S 0 0 _ 16 [some (2, a0), some (0, a1), none, none] [] q19
    refine zG.blk (pc' := 17) (l' := [some (2, a0), some (0, a1), none, none]) (st' := [(0, 0)]) (M' := q19) hX [(.iconst 0, 0, 0, 0)] (by decide +kernel) rfl trivial ?_
    cases h
    exact zG.iret hX (by decide +kernel)
theorem pX12_digits_ok {l : Launch} {E : ZE} {S : ZS} {M : ZM} {a0 a1 : Int} {q : (Int × ZM)} (h : pX12_digits S M a0 a1 = some q) : zMet l yX12_digits cX12_digits 4 (some .int) 3 85 0 0 E S M [(2, a0), (0, a1)] (some (0, q.1)) S q.2 :=
  zMet.of (o := 12) (ini := false) (by decide +kernel) rfl (fun h => by cases h) (Nat.le_of_ble_eq_true rfl) (fun C hX hl hRm => by subst hl; exact pX12_digits_go hX hRm h)
theorem sv_12_193 : zSV 12 193 yX12_blanks cX12_blanks 1 none 0 := ⟨⟨gt_at 1319 (by decide +kernel) rfl, gt_at 1321 (by decide +kernel) rfl, gt_at 40 (by decide +kernel) rfl, gt_at 117 (by decide +kernel) rfl, gt_at 1322 (by decide +kernel) rfl⟩, by decide +kernel, by decide +kernel, by decide +kernel⟩
noncomputable def pX12_amount_54 (S : ZS) (M : ZM) (x4 : Int) : Option (Int × ZM) := some (x4, M)
set_option maxHeartbeats 2000000 in
set_option maxRecDepth 20000 in
theorem pX12_amount_54_ok {C : ZC} {E : ZE} {S : ZS} {q : (Int × ZM)} (hX : zCx C E 12 cX12_amount 5 (some .int) false) (hRm : czR C = { frames := 4, cells := 0, slots := 0, locals := 108 }) {M : ZM} {x4 : Int} (h : pX12_amount_54 S M x4 = some q) : zG C E 5 S 0 0 (zQ C E 0 0 (some (0, q.1)) S q.2) 54 [none, none, none, none, some (0, x4)] [] M := by
  unfold pX12_amount_54 at h
  refine zG.blk (pc' := 56) (l' := [none, none, none, none, some (0, x4)]) (st' := [(0, x4)]) (M' := M) hX [(.iload 4, 0, 0, 0)] (by decide +kernel) rfl trivial ?_
  cases h
  exact zG.iret hX (by decide +kernel)
noncomputable def pX12_amount_26 (S : ZS) (M : ZM) (x0 : Int) (x1 : Int) (x2 : Int) (x3 : Int) (y0 : Int) : Option (Int × ZM) := if S.1 x0 = 12 then if M x0 22 = 0 then ((pX12_in S M y0 x1 x2).bind fun q7 => if q7.1 = 0 then ((pX12_fails S q7.2 x0 1 x3).bind fun q10 => pX12_amount_54 S q10 y0) else (pX12_amount_54 S q7.2 y0)) else (pX12_amount_54 S M y0) else none
set_option maxHeartbeats 2000000 in
set_option maxRecDepth 20000 in
theorem pX12_amount_26_ok {C : ZC} {E : ZE} {S : ZS} {q : (Int × ZM)} (hX : zCx C E 12 cX12_amount 5 (some .int) false) (hRm : czR C = { frames := 4, cells := 0, slots := 0, locals := 108 }) {M : ZM} {x0 : Int} {x1 : Int} {x2 : Int} {x3 : Int} {y0 : Int} (h : pX12_amount_26 S M x0 x1 x2 x3 y0 = some q) : zG C E 5 S 0 0 (zQ C E 0 0 (some (0, q.1)) S q.2) 26 [some (2, x0), some (0, x1), some (0, x2), some (0, x3), none] [(0, y0)] M := by
  unfold pX12_amount_26 at h
  obtain ⟨g5, h⟩ := zif h
  refine zG.blk (pc' := 32) (l' := [some (2, x0), some (0, x1), some (0, x2), some (0, x3), some (0, y0)]) (st' := [(0, M x0 22)]) (M' := M) hX [(.istore 4, 0, 0, 0), (.aload_n 0, 0, 0, 0), (.getfield 171, 12, 22, 0)] (by decide +kernel) rfl (And.intro g5 trivial) ?_
  refine zG.if_ne (tgt := 54) (off := 22) hX (by decide +kernel) (by decide) (fun c6 => ?_) (fun c6 => ?_)
  · have h := zin c6 h
    exact zG.wk [false, false, false, false, true] (pX12_amount_54_ok hX hRm h)
  · have h := zip c6 h
    refine zG.blk (pc' := 42) (l' := [some (2, x0), some (0, x1), some (0, x2), some (0, x3), some (0, y0)]) (st' := [(1, x2), (1, x1), (1, y0)]) (M' := M) hX [(.iload 4, 0, 0, 0), (.i2l, 0, 0, 0), (.iload_n 1, 0, 0, 0), (.i2l, 0, 0, 0), (.iload_n 2, 0, 0, 0), (.i2l, 0, 0, 0)] (by decide +kernel) rfl trivial ?_
    obtain ⟨q7, e8, h⟩ := zbd h
    refine zG.callS (av := [(1, y0), (1, x1), (1, x2)]) (st := []) hX (pX12_in_ok e8) ss_12_138 rfl (by decide +kernel) (by rw [hRm]; exact ⟨Nat.le_of_ble_eq_true rfl, Nat.le_of_ble_eq_true rfl⟩) (by rw [hRm]; exact ⟨Nat.le_of_ble_eq_true rfl, Nat.le_of_ble_eq_true rfl⟩) (Nat.le_of_ble_eq_true rfl) ?_
    show zG C E 5 S 0 0 _ 45 [some (2, x0), some (0, x1), some (0, x2), some (0, x3), some (0, y0)] [(0, q7.1)] q7.2
    refine zG.if_ne (tgt := 54) (off := 9) hX (by decide +kernel) (by decide) (fun c9 => ?_) (fun c9 => ?_)
    · have h := zin c9 h
      exact zG.wk [false, false, false, false, true] (pX12_amount_54_ok hX hRm h)
    · have h := zip c9 h
      refine zG.blk (pc' := 51) (l' := [some (2, x0), some (0, x1), some (0, x2), some (0, x3), some (0, y0)]) (st' := [(0, x3), (0, 1), (2, x0)]) (M' := q7.2) hX [(.aload_n 0, 0, 0, 0), (.iconst 1, 0, 0, 0), (.iload_n 3, 0, 0, 0)] (by decide +kernel) rfl trivial ?_
      obtain ⟨q10, e11, h⟩ := zbd h
      refine zG.callV (b := x0) (av := [(0, 1), (0, x3)]) (st := []) (ci := 12) hX (pX12_fails_ok e11) sv_12_209 rfl ⟨by decide, rfl⟩ g5 (by decide +kernel) (by rw [hRm]; exact ⟨Nat.le_of_ble_eq_true rfl, Nat.le_of_ble_eq_true rfl⟩) (by rw [hRm]; exact ⟨Nat.le_of_ble_eq_true rfl, Nat.le_of_ble_eq_true rfl⟩) (Nat.le_of_ble_eq_true rfl) ?_
      show zG C E 5 S 0 0 _ 54 [some (2, x0), some (0, x1), some (0, x2), some (0, x3), some (0, y0)] [] q10
      exact zG.wk [false, false, false, false, true] (pX12_amount_54_ok hX hRm h)
theorem sv_12_218 : zSV 12 218 yX12_digits cX12_digits 4 (some .int) 1 := ⟨⟨gt_at 1357 (by decide +kernel) rfl, gt_at 1359 (by decide +kernel) rfl, gt_at 47 (by decide +kernel) rfl, gt_at 117 (by decide +kernel) rfl, gt_at 1360 (by decide +kernel) rfl⟩, by decide +kernel, by decide +kernel, by decide +kernel⟩
noncomputable def pX12_amount (S : ZS) (M : ZM) (a0 : Int) (a1 : Int) (a2 : Int) : Option (Int × ZM) := if S.1 a0 = 12 then (pX12_blanks S M a0).bind fun q1 => if q1 a0 22 = 0 then ((pX12_digits S q1 a0 99999).bind fun q12 => pX12_amount_26 S q12.2 a0 a1 a2 (q1 a0 21) q12.1) else (pX12_amount_26 S q1 a0 a1 a2 (q1 a0 21) 0) else none
set_option maxHeartbeats 2000000 in
set_option maxRecDepth 20000 in
theorem pX12_amount_go {C : ZC} {E : ZE} {S : ZS} {M : ZM} {a0 a1 a2 : Int} {q : (Int × ZM)} (hX : zCx C E 12 cX12_amount 5 (some .int) false) (hRm : czR C = { frames := 4, cells := 0, slots := 0, locals := 108 }) (h : pX12_amount  S M a0 a1 a2 = some q) : zG C E 5 S 0 0 (zQ C E 0 0 (some (0, q.1)) S q.2) 0 [some (2, a0), some (0, a1), some (0, a2), none, none] [] M := by
  unfold pX12_amount at h
  refine zG.blk (pc' := 1) (l' := [some (2, a0), some (0, a1), some (0, a2), none, none]) (st' := [(2, a0)]) (M' := M) hX [(.aload_n 0, 0, 0, 0)] (by decide +kernel) rfl trivial ?_
  obtain ⟨g3, h⟩ := zif h
  obtain ⟨q1, e2, h⟩ := zbd h
  refine zG.callV (b := a0) (av := []) (st := []) (ci := 12) hX (pX12_blanks_ok e2) sv_12_193 rfl ⟨by decide, rfl⟩ g3 (by decide +kernel) (by rw [hRm]; exact ⟨Nat.le_of_ble_eq_true rfl, Nat.le_of_ble_eq_true rfl⟩) (by rw [hRm]; exact ⟨Nat.le_of_ble_eq_true rfl, Nat.le_of_ble_eq_true rfl⟩) (Nat.le_of_ble_eq_true rfl) ?_
  show zG C E 5 S 0 0 _ 4 [some (2, a0), some (0, a1), some (0, a2), none, none] [] q1
  refine zG.blk (pc' := 13) (l' := [some (2, a0), some (0, a1), some (0, a2), some (0, q1 a0 21), none]) (st' := [(0, q1 a0 22)]) (M' := q1) hX [(.aload_n 0, 0, 0, 0), (.getfield 174, 12, 21, 0), (.istore_n 3, 0, 0, 0), (.aload_n 0, 0, 0, 0), (.getfield 171, 12, 22, 0)] (by decide +kernel) rfl (And.intro g3 (And.intro g3 trivial)) ?_
  refine zG.if_ne (tgt := 25) (off := 12) hX (by decide +kernel) (by decide) (fun c4 => ?_) (fun c4 => ?_)
  · have h := zin c4 h
    refine zG.blk (pc' := 26) (l' := [some (2, a0), some (0, a1), some (0, a2), some (0, q1 a0 21), none]) (st' := [(0, 0)]) (M' := q1) hX [(.iconst 0, 0, 0, 0)] (by decide +kernel) rfl trivial ?_
    exact (pX12_amount_26_ok hX hRm h)
  · have h := zip c4 h
    refine zG.blk (pc' := 19) (l' := [some (2, a0), some (0, a1), some (0, a2), some (0, q1 a0 21), none]) (st' := [(0, 99999), (2, a0)]) (M' := q1) hX [(.aload_n 0, 0, 0, 0), (.ldc 217, 99999, 0, 0)] (by decide +kernel) rfl trivial ?_
    obtain ⟨q12, e13, h⟩ := zbd h
    refine zG.callV (b := a0) (av := [(0, 99999)]) (st := []) (ci := 12) hX (pX12_digits_ok e13) sv_12_218 rfl ⟨by decide, rfl⟩ g3 (by decide +kernel) (by rw [hRm]; exact ⟨Nat.le_of_ble_eq_true rfl, Nat.le_of_ble_eq_true rfl⟩) (by rw [hRm]; exact ⟨Nat.le_of_ble_eq_true rfl, Nat.le_of_ble_eq_true rfl⟩) (Nat.le_of_ble_eq_true rfl) ?_
    show zG C E 5 S 0 0 _ 22 [some (2, a0), some (0, a1), some (0, a2), some (0, q1 a0 21), none] [(0, q12.1)] q12.2
    refine zG.goto (tgt := 26) (off := 4) hX (by decide +kernel) (by decide) ?_
    exact (pX12_amount_26_ok hX hRm h)
theorem pX12_amount_ok {l : Launch} {E : ZE} {S : ZS} {M : ZM} {a0 a1 a2 : Int} {q : (Int × ZM)} (h : pX12_amount S M a0 a1 a2 = some q) : zMet l yX12_amount cX12_amount 5 (some .int) 4 108 0 0 E S M [(2, a0), (0, a1), (0, a2)] (some (0, q.1)) S q.2 :=
  zMet.of (o := 12) (ini := false) (by decide +kernel) rfl (fun h => by cases h) (Nat.le_of_ble_eq_true rfl) (fun C hX hl hRm => by subst hl; exact pX12_amount_go hX hRm h)
noncomputable def pX12_entry_55 (S : ZS) (M : ZM) : Option ZM := some M
set_option maxHeartbeats 2000000 in
set_option maxRecDepth 20000 in
theorem pX12_entry_55_ok {C : ZC} {E : ZE} {S : ZS} {q : ZM} (hX : zCx C E 12 cX12_entry 3 none false) (hRm : czR C = { frames := 1, cells := 0, slots := 0, locals := 40 }) {M : ZM} (h : pX12_entry_55 S M = some q) : zG C E 3 S 0 0 (zQ C E 0 0 none S q) 55 [none, none, none] [] M := by
  unfold pX12_entry_55 at h
  cases h
  exact zG.vret hX (by decide +kernel)
noncomputable def pX12_entry (S : ZS) (M : ZM) (a0 : Int) (a1 : Int) (a2 : Int) : Option ZM := if S.1 a0 = 12 then if M a0 22 = 0 then (if S.1 (M a0 31) = 100 ∧ (0 : Int) ≤ w32 ((w32 (300 * (M a0 23))) + (M a0 25)) ∧ w32 ((w32 (300 * (M a0 23))) + (M a0 25)) < S.2.1 (M a0 31) then zlet (upM M (M a0 31) (w32 ((w32 (300 * (M a0 23))) + (M a0 25))) a1) fun M4 => if S.1 (M4 a0 32) = 100 ∧ (0 : Int) ≤ w32 ((w32 (300 * (M4 a0 23))) + (M4 a0 25)) ∧ w32 ((w32 (300 * (M4 a0 23))) + (M4 a0 25)) < S.2.1 (M4 a0 32) then zlet (upM M4 (M4 a0 32) (w32 ((w32 (300 * (M4 a0 23))) + (M4 a0 25))) a2) fun M6 => zlet (upM M6 a0 25 (w32 ((M6 a0 25) + 1))) fun M7 => pX12_entry_55 S M7 else none else none) else (pX12_entry_55 S M) else none
set_option maxHeartbeats 2000000 in
set_option maxRecDepth 20000 in
theorem pX12_entry_go {C : ZC} {E : ZE} {S : ZS} {M : ZM} {a0 a1 a2 : Int} {q : ZM} (hX : zCx C E 12 cX12_entry 3 none false) (hRm : czR C = { frames := 1, cells := 0, slots := 0, locals := 40 }) (h : pX12_entry  S M a0 a1 a2 = some q) : zG C E 3 S 0 0 (zQ C E 0 0 none S q) 0 [some (2, a0), some (0, a1), some (0, a2)] [] M := by
  unfold pX12_entry at h
  obtain ⟨g1, h⟩ := zif h
  refine zG.blk (pc' := 4) (l' := [some (2, a0), some (0, a1), some (0, a2)]) (st' := [(0, M a0 22)]) (M' := M) hX [(.aload_n 0, 0, 0, 0), (.getfield 171, 12, 22, 0)] (by decide +kernel) rfl (And.intro g1 trivial) ?_
  refine zG.if_ne (tgt := 55) (off := 51) hX (by decide +kernel) (by decide) (fun c2 => ?_) (fun c2 => ?_)
  · have h := zin c2 h
    exact zG.wk [false, false, false] (pX12_entry_55_ok hX hRm h)
  · have h := zip c2 h
    obtain ⟨g3, h⟩ := zif h
    refine zG.blk (pc' := 26) (l' := [some (2, a0), some (0, a1), some (0, a2)]) (st' := []) (M' := (upM M (M a0 31) (w32 ((w32 (300 * (M a0 23))) + (M a0 25))) a1)) hX [(.aload_n 0, 0, 0, 0), (.getfield 75, 12, 31, 2), (.sipush 300, 0, 0, 0), (.aload_n 0, 0, 0, 0), (.getfield 200, 12, 23, 0), (.imul, 0, 0, 0), (.aload_n 0, 0, 0, 0), (.getfield 203, 12, 25, 0), (.iadd, 0, 0, 0), (.iload_n 1, 0, 0, 0), (.iastore, 0, 0, 0)] (by decide +kernel) rfl (And.intro g1 (And.intro g1 (And.intro g1 (And.intro g3 trivial)))) ?_
    generalize upM M (M a0 31) (w32 ((w32 (300 * (M a0 23))) + (M a0 25))) a1 = M4 at h ⊢
    have h := zlt h
    obtain ⟨g5, h⟩ := zif h
    refine zG.blk (pc' := 45) (l' := [some (2, a0), some (0, a1), some (0, a2)]) (st' := []) (M' := (upM M4 (M4 a0 32) (w32 ((w32 (300 * (M4 a0 23))) + (M4 a0 25))) a2)) hX [(.aload_n 0, 0, 0, 0), (.getfield 78, 12, 32, 2), (.sipush 300, 0, 0, 0), (.aload_n 0, 0, 0, 0), (.getfield 200, 12, 23, 0), (.imul, 0, 0, 0), (.aload_n 0, 0, 0, 0), (.getfield 203, 12, 25, 0), (.iadd, 0, 0, 0), (.iload_n 2, 0, 0, 0), (.iastore, 0, 0, 0)] (by decide +kernel) rfl (And.intro g1 (And.intro g1 (And.intro g1 (And.intro g5 trivial)))) ?_
    generalize upM M4 (M4 a0 32) (w32 ((w32 (300 * (M4 a0 23))) + (M4 a0 25))) a2 = M6 at h ⊢
    have h := zlt h
    refine zG.blk (pc' := 55) (l' := [some (2, a0), some (0, a1), some (0, a2)]) (st' := []) (M' := (upM M6 a0 25 (w32 ((M6 a0 25) + 1)))) hX [(.aload_n 0, 0, 0, 0), (.dup, 0, 0, 0), (.getfield 203, 12, 25, 0), (.iconst 1, 0, 0, 0), (.iadd, 0, 0, 0), (.putfield 203, 12, 25, 0)] (by decide +kernel) rfl (And.intro g1 (And.intro g1 trivial)) ?_
    generalize upM M6 a0 25 (w32 ((M6 a0 25) + 1)) = M7 at h ⊢
    have h := zlt h
    exact zG.wk [false, false, false] (pX12_entry_55_ok hX hRm h)
theorem pX12_entry_ok {l : Launch} {E : ZE} {S : ZS} {M : ZM} {a0 a1 a2 : Int} {q : ZM} (h : pX12_entry S M a0 a1 a2 = some q) : zMet l yX12_entry cX12_entry 3 none 1 40 0 0 E S M [(2, a0), (0, a1), (0, a2)] (none) S q :=
  zMet.of (o := 12) (ini := false) (by decide +kernel) rfl (fun h => by cases h) (Nat.le_of_ble_eq_true rfl) (fun C hX hl hRm => by subst hl; exact pX12_entry_go hX hRm h)
noncomputable def pX12_top_22 (S : ZS) (M : ZM) (y0 : Int) : Option (Int × ZM) := some (y0, M)
set_option maxHeartbeats 2000000 in
set_option maxRecDepth 20000 in
theorem pX12_top_22_ok {C : ZC} {E : ZE} {S : ZS} {q : (Int × ZM)} (hX : zCx C E 12 cX12_top 1 (some .int) false) (hRm : czR C = { frames := 1, cells := 0, slots := 0, locals := 40 }) {M : ZM} {y0 : Int} (h : pX12_top_22 S M y0 = some q) : zG C E 1 S 0 0 (zQ C E 0 0 (some (0, q.1)) S q.2) 22 [none] [(0, y0)] M := by
  unfold pX12_top_22 at h
  cases h
  exact zG.iret hX (by decide +kernel)
noncomputable def pX12_top (S : ZS) (M : ZM) (a0 : Int) : Option (Int × ZM) := if S.1 a0 = 12 then if M a0 28 = 0 then (pX12_top_22 S M (-1)) else (if S.1 (M a0 37) = 100 ∧ (0 : Int) ≤ w32 ((M a0 28) - 1) ∧ w32 ((M a0 28) - 1) < S.2.1 (M a0 37) then pX12_top_22 S M (M (M a0 37) (w32 ((M a0 28) - 1))) else none) else none
set_option maxHeartbeats 2000000 in
set_option maxRecDepth 20000 in
theorem pX12_top_go {C : ZC} {E : ZE} {S : ZS} {M : ZM} {a0 : Int} {q : (Int × ZM)} (hX : zCx C E 12 cX12_top 1 (some .int) false) (hRm : czR C = { frames := 1, cells := 0, slots := 0, locals := 40 }) (h : pX12_top  S M a0 = some q) : zG C E 1 S 0 0 (zQ C E 0 0 (some (0, q.1)) S q.2) 0 [some (2, a0)] [] M := by
  unfold pX12_top at h
  obtain ⟨g1, h⟩ := zif h
  refine zG.blk (pc' := 4) (l' := [some (2, a0)]) (st' := [(0, M a0 28)]) (M' := M) hX [(.aload_n 0, 0, 0, 0), (.getfield 241, 12, 28, 0)] (by decide +kernel) rfl (And.intro g1 trivial) ?_
  refine zG.if_ne (tgt := 11) (off := 7) hX (by decide +kernel) (by decide) (fun c2 => ?_) (fun c2 => ?_)
  · have h := zin c2 h
    obtain ⟨g3, h⟩ := zif h
    refine zG.blk (pc' := 22) (l' := [some (2, a0)]) (st' := [(0, M (M a0 37) (w32 ((M a0 28) - 1)))]) (M' := M) hX [(.aload_n 0, 0, 0, 0), (.getfield 93, 12, 37, 2), (.aload_n 0, 0, 0, 0), (.getfield 241, 12, 28, 0), (.iconst 1, 0, 0, 0), (.isub, 0, 0, 0), (.iaload, 0, 0, 0)] (by decide +kernel) rfl (And.intro g1 (And.intro g1 (And.intro g3 trivial))) ?_
    exact zG.wk [false] (pX12_top_22_ok hX hRm h)
  · have h := zip c2 h
    refine zG.blk (pc' := 8) (l' := [some (2, a0)]) (st' := [(0, (-1))]) (M' := M) hX [(.iconst (-1), 0, 0, 0)] (by decide +kernel) rfl trivial ?_
    refine zG.goto (tgt := 22) (off := 14) hX (by decide +kernel) (by decide) ?_
    exact zG.wk [false] (pX12_top_22_ok hX hRm h)
theorem pX12_top_ok {l : Launch} {E : ZE} {S : ZS} {M : ZM} {a0 : Int} {q : (Int × ZM)} (h : pX12_top S M a0 = some q) : zMet l yX12_top cX12_top 1 (some .int) 1 40 0 0 E S M [(2, a0)] (some (0, q.1)) S q.2 :=
  zMet.of (o := 12) (ini := false) (by decide +kernel) rfl (fun h => by cases h) (Nat.le_of_ble_eq_true rfl) (fun C hX hl hRm => by subst hl; exact pX12_top_go hX hRm h)
theorem sv_12_247 : zSV 12 247 yX12_top cX12_top 1 (some .int) 0 := ⟨⟨gt_at 1449 (by decide +kernel) rfl, gt_at 1451 (by decide +kernel) rfl, gt_at 63 (by decide +kernel) rfl, gt_at 117 (by decide +kernel) rfl, gt_at 1452 (by decide +kernel) rfl⟩, by decide +kernel, by decide +kernel, by decide +kernel⟩
noncomputable def pX12_answers_54 (S : ZS) (M : ZM) : Option ZM := some M
set_option maxHeartbeats 2000000 in
set_option maxRecDepth 20000 in
theorem pX12_answers_54_ok {C : ZC} {E : ZE} {S : ZS} {q : ZM} (hX : zCx C E 12 cX12_answers 2 none false) (hRm : czR C = { frames := 2, cells := 0, slots := 0, locals := 62 }) {M : ZM} (h : pX12_answers_54 S M = some q) : zG C E 2 S 0 0 (zQ C E 0 0 none S q) 54 [none, none] [] M := by
  unfold pX12_answers_54 at h
  cases h
  exact zG.vret hX (by decide +kernel)
theorem sv_12_225 : zSV 12 225 yX12_entry cX12_entry 3 none 2 := ⟨⟨gt_at 1406 (by decide +kernel) rfl, gt_at 1408 (by decide +kernel) rfl, gt_at 56 (by decide +kernel) rfl, gt_at 117 (by decide +kernel) rfl, gt_at 1409 (by decide +kernel) rfl⟩, by decide +kernel, by decide +kernel, by decide +kernel⟩
noncomputable def pX12_answers_47 (S : ZS) (k0 : ZM → Int → Int → Option ZM) (M : ZM) (x0 : Int) (x1 : Int) (y0 : Int) (y1 : Int) (y2 : Int) : Option ZM := if S.1 y2 = 12 then zlet (upM M y2 26 (w32 (y1 - y0))) fun M11 => k0 M11 x0 x1 else none
set_option maxHeartbeats 2000000 in
set_option maxRecDepth 20000 in
theorem pX12_answers_47_ok {C : ZC} {E : ZE} {S : ZS} {k0 : ZM → Int → Int → Option ZM} {q : ZM} (hX : zCx C E 12 cX12_answers 2 none false) (hRm : czR C = { frames := 2, cells := 0, slots := 0, locals := 62 }) (hk0 : ∀ M x0 x1, k0 M x0 x1 = some q → zG C E 2 S 0 0 (zQ C E 0 0 none S q) 0 [some (2, x0), some (0, x1)] [] M) {M : ZM} {x0 : Int} {x1 : Int} {y0 : Int} {y1 : Int} {y2 : Int} (h : pX12_answers_47 S k0 M x0 x1 y0 y1 y2 = some q) : zG C E 2 S 0 0 (zQ C E 0 0 none S q) 47 [some (2, x0), some (0, x1)] [(0, y0), (0, y1), (2, y2)] M := by
  unfold pX12_answers_47 at h
  obtain ⟨g10, h⟩ := zif h
  refine zG.blk (pc' := 51) (l' := [some (2, x0), some (0, x1)]) (st' := []) (M' := (upM M y2 26 (w32 (y1 - y0)))) hX [(.isub, 0, 0, 0), (.putfield 244, 12, 26, 0)] (by decide +kernel) rfl (And.intro g10 trivial) ?_
  generalize upM M y2 26 (w32 (y1 - y0)) = M11 at h ⊢
  have h := zlt h
  refine zG.goto (tgt := 0) (off := (-51)) hX (by decide +kernel) (by decide) ?_
  exact (hk0 _ _ _ h)
noncomputable def pX12_answers_0 (S : ZS) : Nat → ZM → Int → Int → Option ZM
  | 0 => fun _ _ _ => none
  | n + 1 => fun M x0 x1 => if S.1 x0 = 12 then (pX12_top S M x0).bind fun q1 => if q1.1 = x1 then (if q1.2 x0 22 = 0 then ((pX12_entry S q1.2 x0 x1 0).bind fun q6 => zlet (upM q6 x0 28 (w32 ((q6 x0 28) - 1))) fun M8 => pX12_answers_47 S (pX12_answers_0 S n) M8 x0 x1 (if x1 = 9 then (1 : Int) else 0) (M8 x0 26) x0) else (pX12_answers_54 S q1.2)) else (pX12_answers_54 S q1.2) else none
set_option maxHeartbeats 2000000 in
set_option maxRecDepth 20000 in
theorem pX12_answers_0_ok {C : ZC} {E : ZE} {S : ZS} {q : ZM} (hX : zCx C E 12 cX12_answers 2 none false) (hRm : czR C = { frames := 2, cells := 0, slots := 0, locals := 62 }) : ∀ (n : Nat) (M : ZM) (x0 : Int) (x1 : Int), pX12_answers_0 S n M x0 x1 = some q → zG C E 2 S 0 0 (zQ C E 0 0 none S q) 0 [some (2, x0), some (0, x1)] [] M := by
  intro n
  induction n with
  | zero => intro M x0 x1 h; cases h
  | succ n ih =>
    intro M x0 x1 h
    unfold pX12_answers_0 at h
    refine zG.blk (pc' := 1) (l' := [some (2, x0), some (0, x1)]) (st' := [(2, x0)]) (M' := M) hX [(.aload_n 0, 0, 0, 0)] (by decide +kernel) rfl trivial ?_
    obtain ⟨g3, h⟩ := zif h
    obtain ⟨q1, e2, h⟩ := zbd h
    refine zG.callV (b := x0) (av := []) (st := []) (ci := 12) hX (pX12_top_ok e2) sv_12_247 rfl ⟨by decide, rfl⟩ g3 (by decide +kernel) (by rw [hRm]; exact ⟨Nat.le_of_ble_eq_true rfl, Nat.le_of_ble_eq_true rfl⟩) (by rw [hRm]; exact ⟨Nat.le_of_ble_eq_true rfl, Nat.le_of_ble_eq_true rfl⟩) (Nat.le_of_ble_eq_true rfl) ?_
    show zG C E 2 S 0 0 _ 4 [some (2, x0), some (0, x1)] [(0, q1.1)] q1.2
    refine zG.blk (pc' := 5) (l' := [some (2, x0), some (0, x1)]) (st' := [(0, x1), (0, q1.1)]) (M' := q1.2) hX [(.iload_n 1, 0, 0, 0)] (by decide +kernel) rfl trivial ?_
    refine zG.icmp_ne (tgt := 54) (off := 49) hX (by decide +kernel) (by decide) (fun c4 => ?_) (fun c4 => ?_)
    · have h := zin c4 h
      exact zG.wk [false, false] (pX12_answers_54_ok hX hRm h)
    · have h := zip c4 h
      refine zG.blk (pc' := 12) (l' := [some (2, x0), some (0, x1)]) (st' := [(0, q1.2 x0 22)]) (M' := q1.2) hX [(.aload_n 0, 0, 0, 0), (.getfield 171, 12, 22, 0)] (by decide +kernel) rfl (And.intro g3 trivial) ?_
      refine zG.if_ne (tgt := 54) (off := 42) hX (by decide +kernel) (by decide) (fun c5 => ?_) (fun c5 => ?_)
      · have h := zin c5 h
        exact zG.wk [false, false] (pX12_answers_54_ok hX hRm h)
      · have h := zip c5 h
        refine zG.blk (pc' := 18) (l' := [some (2, x0), some (0, x1)]) (st' := [(0, 0), (0, x1), (2, x0)]) (M' := q1.2) hX [(.aload_n 0, 0, 0, 0), (.iload_n 1, 0, 0, 0), (.iconst 0, 0, 0, 0)] (by decide +kernel) rfl trivial ?_
        obtain ⟨q6, e7, h⟩ := zbd h
        refine zG.callV (b := x0) (av := [(0, x1), (0, 0)]) (st := []) (ci := 12) hX (pX12_entry_ok e7) sv_12_225 rfl ⟨by decide, rfl⟩ g3 (by decide +kernel) (by rw [hRm]; exact ⟨Nat.le_of_ble_eq_true rfl, Nat.le_of_ble_eq_true rfl⟩) (by rw [hRm]; exact ⟨Nat.le_of_ble_eq_true rfl, Nat.le_of_ble_eq_true rfl⟩) (Nat.le_of_ble_eq_true rfl) ?_
        show zG C E 2 S 0 0 _ 21 [some (2, x0), some (0, x1)] [] q6
        refine zG.blk (pc' := 31) (l' := [some (2, x0), some (0, x1)]) (st' := []) (M' := (upM q6 x0 28 (w32 ((q6 x0 28) - 1)))) hX [(.aload_n 0, 0, 0, 0), (.dup, 0, 0, 0), (.getfield 241, 12, 28, 0), (.iconst 1, 0, 0, 0), (.isub, 0, 0, 0), (.putfield 241, 12, 28, 0)] (by decide +kernel) rfl (And.intro g3 (And.intro g3 trivial)) ?_
        generalize upM q6 x0 28 (w32 ((q6 x0 28) - 1)) = M8 at h ⊢
        have h := zlt h
        refine zG.blk (pc' := 39) (l' := [some (2, x0), some (0, x1)]) (st' := [(0, 9), (0, x1), (0, M8 x0 26), (2, x0)]) (M' := M8) hX [(.aload_n 0, 0, 0, 0), (.dup, 0, 0, 0), (.getfield 244, 12, 26, 0), (.iload_n 1, 0, 0, 0), (.bipush 9, 0, 0, 0)] (by decide +kernel) rfl (And.intro g3 trivial) ?_
        have key9 : zG C E 2 S 0 0 (zQ C E 0 0 none S q) 47 [some (2, x0), some (0, x1)] [(0, (if x1 = 9 then (1 : Int) else 0)), (0, M8 x0 26), (2, x0)] M8 := by
          exact (pX12_answers_47_ok hX hRm ih h)
        refine zG.icmp_ne (tgt := 46) (off := 7) hX (by decide +kernel) (by decide) (fun c12 => ?_) (fun c12 => ?_)
        · refine zG.blk (pc' := 47) (l' := [some (2, x0), some (0, x1)]) (st' := [(0, 0), (0, M8 x0 26), (2, x0)]) (M' := M8) hX [(.iconst 0, 0, 0, 0)] (by decide +kernel) rfl trivial ?_
          (have k := key9; simp only [if_neg c12] at k; exact k)
        · refine zG.blk (pc' := 43) (l' := [some (2, x0), some (0, x1)]) (st' := [(0, 1), (0, M8 x0 26), (2, x0)]) (M' := M8) hX [(.iconst 1, 0, 0, 0)] (by decide +kernel) rfl trivial ?_
          refine zG.goto (tgt := 47) (off := 4) hX (by decide +kernel) (by decide) ?_
          (have k := key9; simp only [if_pos c12] at k; exact k)
noncomputable def pX12_answers (S : ZS) (M : ZM) (a0 : Int) (a1 : Int) : Option ZM := pX12_answers_0 S zFU M a0 a1
set_option maxHeartbeats 2000000 in
set_option maxRecDepth 20000 in
theorem pX12_answers_go {C : ZC} {E : ZE} {S : ZS} {M : ZM} {a0 a1 : Int} {q : ZM} (hX : zCx C E 12 cX12_answers 2 none false) (hRm : czR C = { frames := 2, cells := 0, slots := 0, locals := 62 }) (h : pX12_answers  S M a0 a1 = some q) : zG C E 2 S 0 0 (zQ C E 0 0 none S q) 0 [some (2, a0), some (0, a1)] [] M := by
  unfold pX12_answers at h
  exact (pX12_answers_0_ok hX hRm zFU _ _ _ h)
theorem pX12_answers_ok {l : Launch} {E : ZE} {S : ZS} {M : ZM} {a0 a1 : Int} {q : ZM} (h : pX12_answers S M a0 a1 = some q) : zMet l yX12_answers cX12_answers 2 none 2 62 0 0 E S M [(2, a0), (0, a1)] (none) S q :=
  zMet.of (o := 12) (ini := false) (by decide +kernel) rfl (fun h => by cases h) (Nat.le_of_ble_eq_true rfl) (fun C hX hl hRm => by subst hl; exact pX12_answers_go hX hRm h)
noncomputable def pX12_back_21 (S : ZS) (M : ZM) : Option (Int × ZM) := some ((-1), M)
set_option maxHeartbeats 2000000 in
set_option maxRecDepth 20000 in
theorem pX12_back_21_ok {C : ZC} {E : ZE} {S : ZS} {q : (Int × ZM)} (hX : zCx C E 12 cX12_back 2 (some .int) false) (hRm : czR C = { frames := 3, cells := 0, slots := 0, locals := 84 }) {M : ZM} (h : pX12_back_21 S M = some q) : zG C E 2 S 0 0 (zQ C E 0 0 (some (0, q.1)) S q.2) 21 [none, none] [] M := by
  unfold pX12_back_21 at h
  refine zG.blk (pc' := 22) (l' := [none, none]) (st' := [(0, (-1))]) (M' := M) hX [(.iconst (-1), 0, 0, 0)] (by decide +kernel) rfl trivial ?_
  cases h
  exact zG.iret hX (by decide +kernel)
noncomputable def pX12_back (S : ZS) (M : ZM) (a0 : Int) (a1 : Int) : Option (Int × ZM) := (pX12_in S M a1 0 3).bind fun q1 => if q1.1 = 0 then (pX12_back_21 S q1.2) else (if S.1 a0 = 12 then if S.1 (q1.2 a0 51) = 103 ∧ (0 : Int) ≤ a1 ∧ a1 < S.2.1 (q1.2 a0 51) then if q1.2 (q1.2 a0 51) a1 = 0 then (pX12_back_21 S q1.2) else ((pX12_carriesAll S q1.2 a0 a1 1).bind fun q7 => if S.1 (q7 a0 1) = 100 ∧ (0 : Int) ≤ 4 ∧ 4 < S.2.1 (q7 a0 1) then some (q7 (q7 a0 1) 4, q7) else none) else none else none)
set_option maxHeartbeats 2000000 in
set_option maxRecDepth 20000 in
theorem pX12_back_go {C : ZC} {E : ZE} {S : ZS} {M : ZM} {a0 a1 : Int} {q : (Int × ZM)} (hX : zCx C E 12 cX12_back 2 (some .int) false) (hRm : czR C = { frames := 3, cells := 0, slots := 0, locals := 84 }) (h : pX12_back  S M a0 a1 = some q) : zG C E 2 S 0 0 (zQ C E 0 0 (some (0, q.1)) S q.2) 0 [some (2, a0), some (0, a1)] [] M := by
  unfold pX12_back at h
  refine zG.blk (pc' := 6) (l' := [some (2, a0), some (0, a1)]) (st' := [(1, 3), (1, 0), (1, a1)]) (M' := M) hX [(.iload_n 1, 0, 0, 0), (.i2l, 0, 0, 0), (.lconst 0, 0, 0, 0), (.ldc2_w 422, 3, 0, 0)] (by decide +kernel) rfl trivial ?_
  obtain ⟨q1, e2, h⟩ := zbd h
  refine zG.callS (av := [(1, a1), (1, 0), (1, 3)]) (st := []) hX (pX12_in_ok e2) ss_12_138 rfl (by decide +kernel) (by rw [hRm]; exact ⟨Nat.le_of_ble_eq_true rfl, Nat.le_of_ble_eq_true rfl⟩) (by rw [hRm]; exact ⟨Nat.le_of_ble_eq_true rfl, Nat.le_of_ble_eq_true rfl⟩) (Nat.le_of_ble_eq_true rfl) ?_
  show zG C E 2 S 0 0 _ 9 [some (2, a0), some (0, a1)] [(0, q1.1)] q1.2
  refine zG.if_eq (tgt := 21) (off := 12) hX (by decide +kernel) (by decide) (fun c3 => ?_) (fun c3 => ?_)
  · have h := zip c3 h
    exact zG.wk [false, false] (pX12_back_21_ok hX hRm h)
  · have h := zin c3 h
    obtain ⟨g4, h⟩ := zif h
    obtain ⟨g5, h⟩ := zif h
    refine zG.blk (pc' := 18) (l' := [some (2, a0), some (0, a1)]) (st' := [(0, q1.2 (q1.2 a0 51) a1)]) (M' := q1.2) hX [(.aload_n 0, 0, 0, 0), (.getfield 127, 12, 51, 2), (.iload_n 1, 0, 0, 0), (.baload, 103, 0, 0)] (by decide +kernel) rfl (And.intro g4 (And.intro g5 trivial)) ?_
    refine zG.if_ne (tgt := 23) (off := 5) hX (by decide +kernel) (by decide) (fun c6 => ?_) (fun c6 => ?_)
    · have h := zin c6 h
      refine zG.blk (pc' := 26) (l' := [some (2, a0), some (0, a1)]) (st' := [(0, 1), (0, a1), (2, a0)]) (M' := q1.2) hX [(.aload_n 0, 0, 0, 0), (.iload_n 1, 0, 0, 0), (.iconst 1, 0, 0, 0)] (by decide +kernel) rfl trivial ?_
      obtain ⟨q7, e8, h⟩ := zbd h
      refine zG.callV (b := a0) (av := [(0, a1), (0, 1)]) (st := []) (ci := 12) hX (pX12_carriesAll_ok e8) sv_12_410 rfl ⟨by decide, rfl⟩ g4 (by decide +kernel) (by rw [hRm]; exact ⟨Nat.le_of_ble_eq_true rfl, Nat.le_of_ble_eq_true rfl⟩) (by rw [hRm]; exact ⟨Nat.le_of_ble_eq_true rfl, Nat.le_of_ble_eq_true rfl⟩) (Nat.le_of_ble_eq_true rfl) ?_
      show zG C E 2 S 0 0 _ 29 [some (2, a0), some (0, a1)] [] q7
      obtain ⟨g9, h⟩ := zif h
      refine zG.blk (pc' := 35) (l' := [some (2, a0), some (0, a1)]) (st' := [(0, q7 (q7 a0 1) 4)]) (M' := q7) hX [(.aload_n 0, 0, 0, 0), (.getfield 9, 12, 1, 2), (.iconst 4, 0, 0, 0), (.iaload, 0, 0, 0)] (by decide +kernel) rfl (And.intro g4 (And.intro g9 trivial)) ?_
      cases h
      exact zG.iret hX (by decide +kernel)
    · have h := zip c6 h
      exact zG.wk [false, false] (pX12_back_21_ok hX hRm h)
theorem pX12_back_ok {l : Launch} {E : ZE} {S : ZS} {M : ZM} {a0 a1 : Int} {q : (Int × ZM)} (h : pX12_back S M a0 a1 = some q) : zMet l yX12_back cX12_back 2 (some .int) 3 84 0 0 E S M [(2, a0), (0, a1)] (some (0, q.1)) S q.2 :=
  zMet.of (o := 12) (ini := false) (by decide +kernel) rfl (fun h => by cases h) (Nat.le_of_ble_eq_true rfl) (fun C hX hl hRm => by subst hl; exact pX12_back_go hX hRm h)
noncomputable def pX12_copies_2 (S : ZS) : Nat → ZM → Int → Int → Int → Option ZM
  | 0 => fun _ _ _ _ => none
  | n + 1 => fun M x0 x1 x2 => if S.1 x0 = 100 then if S.2.1 x0 ≤ x2 then (some M) else (if S.1 x0 = 100 ∧ (0 : Int) ≤ x2 ∧ x2 < S.2.1 x0 then if S.1 x1 = 100 ∧ (0 : Int) ≤ x2 ∧ x2 < S.2.1 x1 then zlet (upM M x1 x2 (M x0 x2)) fun M5 => pX12_copies_2 S n M5 x0 x1 (w32 (x2 + 1)) else none else none) else none
set_option maxHeartbeats 2000000 in
set_option maxRecDepth 20000 in
theorem pX12_copies_2_ok {C : ZC} {E : ZE} {S : ZS} {q : ZM} (hX : zCx C E 12 cX12_copies 3 none false) (hRm : czR C = { frames := 1, cells := 0, slots := 0, locals := 40 }) : ∀ (n : Nat) (M : ZM) (x0 : Int) (x1 : Int) (x2 : Int), pX12_copies_2 S n M x0 x1 x2 = some q → zG C E 3 S 0 0 (zQ C E 0 0 none S q) 2 [some (2, x0), some (2, x1), some (0, x2)] [] M := by
  intro n
  induction n with
  | zero => intro M x0 x1 x2 h; cases h
  | succ n ih =>
    intro M x0 x1 x2 h
    unfold pX12_copies_2 at h
    obtain ⟨g1, h⟩ := zif h
    refine zG.blk (pc' := 5) (l' := [some (2, x0), some (2, x1), some (0, x2)]) (st' := [(0, S.2.1 x0), (0, x2)]) (M' := M) hX [(.iload_n 2, 0, 0, 0), (.aload_n 0, 0, 0, 0), (.arraylength, 100, 0, 0)] (by decide +kernel) rfl (And.intro g1 trivial) ?_
    refine zG.icmp_ge (tgt := 20) (off := 15) hX (by decide +kernel) (by decide) (fun c2 => ?_) (fun c2 => ?_)
    · have h := zip c2 h
      cases h
      exact zG.vret hX (by decide +kernel)
    · have h := zin c2 h
      obtain ⟨g3, h⟩ := zif h
      obtain ⟨g4, h⟩ := zif h
      refine zG.blk (pc' := 14) (l' := [some (2, x0), some (2, x1), some (0, x2)]) (st' := []) (M' := (upM M x1 x2 (M x0 x2))) hX [(.aload_n 1, 0, 0, 0), (.iload_n 2, 0, 0, 0), (.aload_n 0, 0, 0, 0), (.iload_n 2, 0, 0, 0), (.iaload, 0, 0, 0), (.iastore, 0, 0, 0)] (by decide +kernel) rfl (And.intro g3 (And.intro g4 trivial)) ?_
      generalize upM M x1 x2 (M x0 x2) = M5 at h ⊢
      have h := zlt h
      refine zG.blk (pc' := 17) (l' := [some (2, x0), some (2, x1), some (0, w32 (x2 + 1))]) (st' := []) (M' := M5) hX [(.iinc 2 1, 0, 0, 0)] (by decide +kernel) rfl trivial ?_
      refine zG.goto (tgt := 2) (off := (-15)) hX (by decide +kernel) (by decide) ?_
      exact ih _ _ _ _ h
noncomputable def pX12_copies (S : ZS) (M : ZM) (a0 : Int) (a1 : Int) : Option ZM := pX12_copies_2 S zFU M a0 a1 0
set_option maxHeartbeats 2000000 in
set_option maxRecDepth 20000 in
theorem pX12_copies_go {C : ZC} {E : ZE} {S : ZS} {M : ZM} {a0 a1 : Int} {q : ZM} (hX : zCx C E 12 cX12_copies 3 none false) (hRm : czR C = { frames := 1, cells := 0, slots := 0, locals := 40 }) (h : pX12_copies  S M a0 a1 = some q) : zG C E 3 S 0 0 (zQ C E 0 0 none S q) 0 [some (2, a0), some (2, a1), none] [] M := by
  unfold pX12_copies at h
  refine zG.blk (pc' := 2) (l' := [some (2, a0), some (2, a1), some (0, 0)]) (st' := []) (M' := M) hX [(.iconst 0, 0, 0, 0), (.istore_n 2, 0, 0, 0)] (by decide +kernel) rfl trivial ?_
  exact (pX12_copies_2_ok hX hRm zFU _ _ _ _ h)
theorem pX12_copies_ok {l : Launch} {E : ZE} {S : ZS} {M : ZM} {a0 a1 : Int} {q : ZM} (h : pX12_copies S M a0 a1 = some q) : zMet l yX12_copies cX12_copies 3 none 1 40 0 0 E S M [(2, a0), (2, a1)] (none) S q :=
  zMet.of (o := 12) (ini := false) (by decide +kernel) rfl (fun h => by cases h) (Nat.le_of_ble_eq_true rfl) (fun C hX hl hRm => by subst hl; exact pX12_copies_go hX hRm h)
theorem ss_12_295 : zSS 12 295 yX12_copies cX12_copies 3 none 2 := ⟨⟨gt_at 1374 (by decide +kernel) rfl, gt_at 1375 (by decide +kernel) rfl, gt_at 117 (by decide +kernel) rfl, gt_at 1376 (by decide +kernel) rfl⟩, by decide +kernel, by decide +kernel, by decide +kernel⟩
noncomputable def pX12_begins_46 (S : ZS) : Nat → ZM → Int → Int → Option ZM
  | 0 => fun _ _ _ => none
  | n + 1 => fun M x0 x1 => if 36 ≤ x1 then (some M) else (if S.1 x0 = 12 then if S.1 (M x0 4) = 100 ∧ (0 : Int) ≤ x1 ∧ x1 < S.2.1 (M x0 4) then zlet (upM M (M x0 4) x1 (-1)) fun M16 => if S.1 (M16 x0 5) = 100 ∧ (0 : Int) ≤ x1 ∧ x1 < S.2.1 (M16 x0 5) then zlet (upM M16 (M16 x0 5) x1 (-1)) fun M18 => pX12_begins_46 S n M18 x0 (w32 (x1 + 1)) else none else none else none)
set_option maxHeartbeats 2000000 in
set_option maxRecDepth 20000 in
theorem pX12_begins_46_ok {C : ZC} {E : ZE} {S : ZS} {q : ZM} (hX : zCx C E 12 cX12_begins 2 none false) (hRm : czR C = { frames := 2, cells := 0, slots := 0, locals := 62 }) : ∀ (n : Nat) (M : ZM) (x0 : Int) (x1 : Int), pX12_begins_46 S n M x0 x1 = some q → zG C E 2 S 0 0 (zQ C E 0 0 none S q) 46 [some (2, x0), some (0, x1)] [] M := by
  intro n
  induction n with
  | zero => intro M x0 x1 h; cases h
  | succ n ih =>
    intro M x0 x1 h
    unfold pX12_begins_46 at h
    refine zG.blk (pc' := 49) (l' := [some (2, x0), some (0, x1)]) (st' := [(0, 36), (0, x1)]) (M' := M) hX [(.iload_n 1, 0, 0, 0), (.bipush 36, 0, 0, 0)] (by decide +kernel) rfl trivial ?_
    refine zG.icmp_ge (tgt := 72) (off := 23) hX (by decide +kernel) (by decide) (fun c13 => ?_) (fun c13 => ?_)
    · have h := zip c13 h
      cases h
      exact zG.vret hX (by decide +kernel)
    · have h := zin c13 h
      obtain ⟨g14, h⟩ := zif h
      obtain ⟨g15, h⟩ := zif h
      refine zG.blk (pc' := 59) (l' := [some (2, x0), some (0, x1)]) (st' := []) (M' := (upM M (M x0 4) x1 (-1))) hX [(.aload_n 0, 0, 0, 0), (.getfield 19, 12, 4, 2), (.iload_n 1, 0, 0, 0), (.iconst (-1), 0, 0, 0), (.iastore, 0, 0, 0)] (by decide +kernel) rfl (And.intro g14 (And.intro g15 trivial)) ?_
      generalize upM M (M x0 4) x1 (-1) = M16 at h ⊢
      have h := zlt h
      obtain ⟨g17, h⟩ := zif h
      refine zG.blk (pc' := 66) (l' := [some (2, x0), some (0, x1)]) (st' := []) (M' := (upM M16 (M16 x0 5) x1 (-1))) hX [(.aload_n 0, 0, 0, 0), (.getfield 22, 12, 5, 2), (.iload_n 1, 0, 0, 0), (.iconst (-1), 0, 0, 0), (.iastore, 0, 0, 0)] (by decide +kernel) rfl (And.intro g14 (And.intro g17 trivial)) ?_
      generalize upM M16 (M16 x0 5) x1 (-1) = M18 at h ⊢
      have h := zlt h
      refine zG.blk (pc' := 69) (l' := [some (2, x0), some (0, w32 (x1 + 1))]) (st' := []) (M' := M18) hX [(.iinc 1 1, 0, 0, 0)] (by decide +kernel) rfl trivial ?_
      refine zG.goto (tgt := 46) (off := (-23)) hX (by decide +kernel) (by decide) ?_
      exact ih _ _ _ h
noncomputable def pX12_begins_36 (S : ZS) (M : ZM) (x0 : Int) : Option ZM := if S.1 x0 = 12 then if S.1 (M x0 1) = 100 ∧ (0 : Int) ≤ 6 ∧ 6 < S.2.1 (M x0 1) then zlet (upM M (M x0 1) 6 0) fun M12 => pX12_begins_46 S zFU M12 x0 0 else none else none
set_option maxHeartbeats 2000000 in
set_option maxRecDepth 20000 in
theorem pX12_begins_36_ok {C : ZC} {E : ZE} {S : ZS} {q : ZM} (hX : zCx C E 12 cX12_begins 2 none false) (hRm : czR C = { frames := 2, cells := 0, slots := 0, locals := 62 }) {M : ZM} {x0 : Int} (h : pX12_begins_36 S M x0 = some q) : zG C E 2 S 0 0 (zQ C E 0 0 none S q) 36 [some (2, x0), none] [] M := by
  unfold pX12_begins_36 at h
  obtain ⟨g10, h⟩ := zif h
  obtain ⟨g11, h⟩ := zif h
  refine zG.blk (pc' := 44) (l' := [some (2, x0), none]) (st' := []) (M' := (upM M (M x0 1) 6 0)) hX [(.aload_n 0, 0, 0, 0), (.getfield 9, 12, 1, 2), (.bipush 6, 0, 0, 0), (.iconst 0, 0, 0, 0), (.iastore, 0, 0, 0)] (by decide +kernel) rfl (And.intro g10 (And.intro g11 trivial)) ?_
  generalize upM M (M x0 1) 6 0 = M12 at h ⊢
  have h := zlt h
  refine zG.blk (pc' := 46) (l' := [some (2, x0), some (0, 0)]) (st' := []) (M' := M12) hX [(.iconst 0, 0, 0, 0), (.istore_n 1, 0, 0, 0)] (by decide +kernel) rfl trivial ?_
  exact (pX12_begins_46_ok hX hRm zFU _ _ _ h)
noncomputable def pX12_begins (S : ZS) (M : ZM) (a0 : Int) : Option ZM := if S.1 a0 = 12 then (pX12_copies S M (M a0 12) (M a0 2)).bind fun q2 => (pX12_copies S q2 (q2 a0 13) (q2 a0 3)).bind fun q4 => if S.1 (q4 a0 1) = 100 ∧ (0 : Int) ≤ 4 ∧ 4 < S.2.1 (q4 a0 1) then zlet (upM q4 (q4 a0 1) 4 0) fun M7 => if S.1 (M7 a0 1) = 100 ∧ (0 : Int) ≤ 5 ∧ 5 < S.2.1 (M7 a0 1) then zlet (upM M7 (M7 a0 1) 5 0) fun M9 => pX12_begins_36 S M9 a0 else none else none else none
set_option maxHeartbeats 2000000 in
set_option maxRecDepth 20000 in
theorem pX12_begins_go {C : ZC} {E : ZE} {S : ZS} {M : ZM} {a0 : Int} {q : ZM} (hX : zCx C E 12 cX12_begins 2 none false) (hRm : czR C = { frames := 2, cells := 0, slots := 0, locals := 62 }) (h : pX12_begins  S M a0 = some q) : zG C E 2 S 0 0 (zQ C E 0 0 none S q) 0 [some (2, a0), none] [] M := by
  unfold pX12_begins at h
  obtain ⟨g1, h⟩ := zif h
  refine zG.blk (pc' := 8) (l' := [some (2, a0), none]) (st' := [(2, M a0 2), (2, M a0 12)]) (M' := M) hX [(.aload_n 0, 0, 0, 0), (.getfield 43, 12, 12, 2), (.aload_n 0, 0, 0, 0), (.getfield 13, 12, 2, 2)] (by decide +kernel) rfl (And.intro g1 (And.intro g1 trivial)) ?_
  obtain ⟨q2, e3, h⟩ := zbd h
  refine zG.callS (av := [(2, M a0 12), (2, M a0 2)]) (st := []) hX (pX12_copies_ok e3) ss_12_295 rfl (by decide +kernel) (by rw [hRm]; exact ⟨Nat.le_of_ble_eq_true rfl, Nat.le_of_ble_eq_true rfl⟩) (by rw [hRm]; exact ⟨Nat.le_of_ble_eq_true rfl, Nat.le_of_ble_eq_true rfl⟩) (Nat.le_of_ble_eq_true rfl) ?_
  show zG C E 2 S 0 0 _ 11 [some (2, a0), none] [] q2
  refine zG.blk (pc' := 19) (l' := [some (2, a0), none]) (st' := [(2, q2 a0 3), (2, q2 a0 13)]) (M' := q2) hX [(.aload_n 0, 0, 0, 0), (.getfield 46, 12, 13, 2), (.aload_n 0, 0, 0, 0), (.getfield 16, 12, 3, 2)] (by decide +kernel) rfl (And.intro g1 (And.intro g1 trivial)) ?_
  obtain ⟨q4, e5, h⟩ := zbd h
  refine zG.callS (av := [(2, q2 a0 13), (2, q2 a0 3)]) (st := []) hX (pX12_copies_ok e5) ss_12_295 rfl (by decide +kernel) (by rw [hRm]; exact ⟨Nat.le_of_ble_eq_true rfl, Nat.le_of_ble_eq_true rfl⟩) (by rw [hRm]; exact ⟨Nat.le_of_ble_eq_true rfl, Nat.le_of_ble_eq_true rfl⟩) (Nat.le_of_ble_eq_true rfl) ?_
  show zG C E 2 S 0 0 _ 22 [some (2, a0), none] [] q4
  obtain ⟨g6, h⟩ := zif h
  refine zG.blk (pc' := 29) (l' := [some (2, a0), none]) (st' := []) (M' := (upM q4 (q4 a0 1) 4 0)) hX [(.aload_n 0, 0, 0, 0), (.getfield 9, 12, 1, 2), (.iconst 4, 0, 0, 0), (.iconst 0, 0, 0, 0), (.iastore, 0, 0, 0)] (by decide +kernel) rfl (And.intro g1 (And.intro g6 trivial)) ?_
  generalize upM q4 (q4 a0 1) 4 0 = M7 at h ⊢
  have h := zlt h
  obtain ⟨g8, h⟩ := zif h
  refine zG.blk (pc' := 36) (l' := [some (2, a0), none]) (st' := []) (M' := (upM M7 (M7 a0 1) 5 0)) hX [(.aload_n 0, 0, 0, 0), (.getfield 9, 12, 1, 2), (.iconst 5, 0, 0, 0), (.iconst 0, 0, 0, 0), (.iastore, 0, 0, 0)] (by decide +kernel) rfl (And.intro g1 (And.intro g8 trivial)) ?_
  generalize upM M7 (M7 a0 1) 5 0 = M9 at h ⊢
  have h := zlt h
  exact (pX12_begins_36_ok hX hRm h)
theorem pX12_begins_ok {l : Launch} {E : ZE} {S : ZS} {M : ZM} {a0 : Int} {q : ZM} (h : pX12_begins S M a0 = some q) : zMet l yX12_begins cX12_begins 2 none 2 62 0 0 E S M [(2, a0)] (none) S q :=
  zMet.of (o := 12) (ini := false) (by decide +kernel) rfl (fun h => by cases h) (Nat.le_of_ble_eq_true rfl) (fun C hX hl hRm => by subst hl; exact pX12_begins_go hX hRm h)
noncomputable def pX12_moves_20 (S : ZS) (M : ZM) (x0 : Int) (y0 : Int) : Option (Int × ZM) := if S.1 x0 = 12 then if S.1 (M x0 40) = 100 ∧ (0 : Int) ≤ M x0 43 ∧ M x0 43 < S.2.1 (M x0 40) then zlet (upM M (M x0 40) (M x0 43) y0) fun M5 => zlet (upM M5 x0 43 (w32 ((M5 x0 43) + 1))) fun M6 => some (y0, M6) else none else none
set_option maxHeartbeats 2000000 in
set_option maxRecDepth 20000 in
theorem pX12_moves_20_ok {C : ZC} {E : ZE} {S : ZS} {q : (Int × ZM)} (hX : zCx C E 12 cX12_moves 3 (some .int) false) (hRm : czR C = { frames := 1, cells := 0, slots := 0, locals := 40 }) {M : ZM} {x0 : Int} {y0 : Int} (h : pX12_moves_20 S M x0 y0 = some q) : zG C E 3 S 0 0 (zQ C E 0 0 (some (0, q.1)) S q.2) 20 [some (2, x0), none, none] [(0, y0)] M := by
  unfold pX12_moves_20 at h
  obtain ⟨g3, h⟩ := zif h
  obtain ⟨g4, h⟩ := zif h
  refine zG.blk (pc' := 31) (l' := [some (2, x0), none, some (0, y0)]) (st' := []) (M' := (upM M (M x0 40) (M x0 43) y0)) hX [(.istore_n 2, 0, 0, 0), (.aload_n 0, 0, 0, 0), (.getfield 103, 12, 40, 2), (.aload_n 0, 0, 0, 0), (.getfield 388, 12, 43, 0), (.iload_n 2, 0, 0, 0), (.iastore, 0, 0, 0)] (by decide +kernel) rfl (And.intro g3 (And.intro g3 (And.intro g4 trivial))) ?_
  generalize upM M (M x0 40) (M x0 43) y0 = M5 at h ⊢
  have h := zlt h
  refine zG.blk (pc' := 41) (l' := [some (2, x0), none, some (0, y0)]) (st' := []) (M' := (upM M5 x0 43 (w32 ((M5 x0 43) + 1)))) hX [(.aload_n 0, 0, 0, 0), (.dup, 0, 0, 0), (.getfield 388, 12, 43, 0), (.iconst 1, 0, 0, 0), (.iadd, 0, 0, 0), (.putfield 388, 12, 43, 0)] (by decide +kernel) rfl (And.intro g3 (And.intro g3 trivial)) ?_
  generalize upM M5 x0 43 (w32 ((M5 x0 43) + 1)) = M6 at h ⊢
  have h := zlt h
  refine zG.blk (pc' := 42) (l' := [some (2, x0), none, some (0, y0)]) (st' := [(0, y0)]) (M' := M6) hX [(.iload_n 2, 0, 0, 0)] (by decide +kernel) rfl trivial ?_
  cases h
  exact zG.iret hX (by decide +kernel)
noncomputable def pX12_moves (S : ZS) (M : ZM) (a0 : Int) (a1 : Int) : Option (Int × ZM) := if S.1 a0 = 12 then if M a0 44 = 0 then (pX12_moves_20 S M a0 a1) else (if S.1 (M a0 40) = 100 ∧ (0 : Int) ≤ M a0 43 ∧ M a0 43 < S.2.1 (M a0 40) then pX12_moves_20 S M a0 (M (M a0 40) (M a0 43)) else none) else none
set_option maxHeartbeats 2000000 in
set_option maxRecDepth 20000 in
theorem pX12_moves_go {C : ZC} {E : ZE} {S : ZS} {M : ZM} {a0 a1 : Int} {q : (Int × ZM)} (hX : zCx C E 12 cX12_moves 3 (some .int) false) (hRm : czR C = { frames := 1, cells := 0, slots := 0, locals := 40 }) (h : pX12_moves  S M a0 a1 = some q) : zG C E 3 S 0 0 (zQ C E 0 0 (some (0, q.1)) S q.2) 0 [some (2, a0), some (0, a1), none] [] M := by
  unfold pX12_moves at h
  obtain ⟨g1, h⟩ := zif h
  refine zG.blk (pc' := 4) (l' := [some (2, a0), some (0, a1), none]) (st' := [(0, M a0 44)]) (M' := M) hX [(.aload_n 0, 0, 0, 0), (.getfield 384, 12, 44, 5)] (by decide +kernel) rfl (And.intro g1 trivial) ?_
  refine zG.if_eq (tgt := 19) (off := 15) hX (by decide +kernel) (by decide) (fun c2 => ?_) (fun c2 => ?_)
  · have h := zip c2 h
    refine zG.blk (pc' := 20) (l' := [some (2, a0), some (0, a1), none]) (st' := [(0, a1)]) (M' := M) hX [(.iload_n 1, 0, 0, 0)] (by decide +kernel) rfl trivial ?_
    exact zG.wk [true, false, true] (pX12_moves_20_ok hX hRm h)
  · have h := zin c2 h
    obtain ⟨g7, h⟩ := zif h
    refine zG.blk (pc' := 16) (l' := [some (2, a0), some (0, a1), none]) (st' := [(0, M (M a0 40) (M a0 43))]) (M' := M) hX [(.aload_n 0, 0, 0, 0), (.getfield 103, 12, 40, 2), (.aload_n 0, 0, 0, 0), (.getfield 388, 12, 43, 0), (.iaload, 0, 0, 0)] (by decide +kernel) rfl (And.intro g1 (And.intro g1 (And.intro g7 trivial))) ?_
    refine zG.goto (tgt := 20) (off := 4) hX (by decide +kernel) (by decide) ?_
    exact zG.wk [true, false, true] (pX12_moves_20_ok hX hRm h)
theorem pX12_moves_ok {l : Launch} {E : ZE} {S : ZS} {M : ZM} {a0 a1 : Int} {q : (Int × ZM)} (h : pX12_moves S M a0 a1 = some q) : zMet l yX12_moves cX12_moves 3 (some .int) 1 40 0 0 E S M [(2, a0), (0, a1)] (some (0, q.1)) S q.2 :=
  zMet.of (o := 12) (ini := false) (by decide +kernel) rfl (fun h => by cases h) (Nat.le_of_ble_eq_true rfl) (fun C hX hl hRm => by subst hl; exact pX12_moves_go hX hRm h)
theorem sv_12_391 : zSV 12 391 yX12_moves cX12_moves 3 (some .int) 1 := ⟨⟨gt_at 1493 (by decide +kernel) rfl, gt_at 1495 (by decide +kernel) rfl, gt_at 69 (by decide +kernel) rfl, gt_at 117 (by decide +kernel) rfl, gt_at 1496 (by decide +kernel) rfl⟩, by decide +kernel, by decide +kernel, by decide +kernel⟩
noncomputable def pX12_movesRow_2 (S : ZS) : Nat → ZM → Int → Int → Int → Option ZM
  | 0 => fun _ _ _ _ => none
  | n + 1 => fun M x0 x1 x2 => if S.1 x1 = 100 then if S.2.1 x1 ≤ x2 then (some M) else (if S.1 x1 = 100 ∧ (0 : Int) ≤ x2 ∧ x2 < S.2.1 x1 then if S.1 x0 = 12 then (pX12_moves S M x0 (M x1 x2)).bind fun q4 => zlet (upM q4.2 x1 x2 q4.1) fun M7 => pX12_movesRow_2 S n M7 x0 x1 (w32 (x2 + 1)) else none else none) else none
set_option maxHeartbeats 2000000 in
set_option maxRecDepth 20000 in
theorem pX12_movesRow_2_ok {C : ZC} {E : ZE} {S : ZS} {q : ZM} (hX : zCx C E 12 cX12_movesRow 3 none false) (hRm : czR C = { frames := 2, cells := 0, slots := 0, locals := 62 }) : ∀ (n : Nat) (M : ZM) (x0 : Int) (x1 : Int) (x2 : Int), pX12_movesRow_2 S n M x0 x1 x2 = some q → zG C E 3 S 0 0 (zQ C E 0 0 none S q) 2 [some (2, x0), some (2, x1), some (0, x2)] [] M := by
  intro n
  induction n with
  | zero => intro M x0 x1 x2 h; cases h
  | succ n ih =>
    intro M x0 x1 x2 h
    unfold pX12_movesRow_2 at h
    obtain ⟨g1, h⟩ := zif h
    refine zG.blk (pc' := 5) (l' := [some (2, x0), some (2, x1), some (0, x2)]) (st' := [(0, S.2.1 x1), (0, x2)]) (M' := M) hX [(.iload_n 2, 0, 0, 0), (.aload_n 1, 0, 0, 0), (.arraylength, 100, 0, 0)] (by decide +kernel) rfl (And.intro g1 trivial) ?_
    refine zG.icmp_ge (tgt := 24) (off := 19) hX (by decide +kernel) (by decide) (fun c2 => ?_) (fun c2 => ?_)
    · have h := zip c2 h
      cases h
      exact zG.vret hX (by decide +kernel)
    · have h := zin c2 h
      obtain ⟨g3, h⟩ := zif h
      refine zG.blk (pc' := 14) (l' := [some (2, x0), some (2, x1), some (0, x2)]) (st' := [(0, M x1 x2), (2, x0), (0, x2), (2, x1)]) (M' := M) hX [(.aload_n 1, 0, 0, 0), (.iload_n 2, 0, 0, 0), (.aload_n 0, 0, 0, 0), (.aload_n 1, 0, 0, 0), (.iload_n 2, 0, 0, 0), (.iaload, 0, 0, 0)] (by decide +kernel) rfl (And.intro g3 trivial) ?_
      obtain ⟨g6, h⟩ := zif h
      obtain ⟨q4, e5, h⟩ := zbd h
      refine zG.callV (b := x0) (av := [(0, M x1 x2)]) (st := [(0, x2), (2, x1)]) (ci := 12) hX (pX12_moves_ok e5) sv_12_391 rfl ⟨by decide, rfl⟩ g6 (by decide +kernel) (by rw [hRm]; exact ⟨Nat.le_of_ble_eq_true rfl, Nat.le_of_ble_eq_true rfl⟩) (by rw [hRm]; exact ⟨Nat.le_of_ble_eq_true rfl, Nat.le_of_ble_eq_true rfl⟩) (Nat.le_of_ble_eq_true rfl) ?_
      show zG C E 3 S 0 0 _ 17 [some (2, x0), some (2, x1), some (0, x2)] [(0, q4.1), (0, x2), (2, x1)] q4.2
      refine zG.blk (pc' := 18) (l' := [some (2, x0), some (2, x1), some (0, x2)]) (st' := []) (M' := (upM q4.2 x1 x2 q4.1)) hX [(.iastore, 0, 0, 0)] (by decide +kernel) rfl (And.intro g3 trivial) ?_
      generalize upM q4.2 x1 x2 q4.1 = M7 at h ⊢
      have h := zlt h
      refine zG.blk (pc' := 21) (l' := [some (2, x0), some (2, x1), some (0, w32 (x2 + 1))]) (st' := []) (M' := M7) hX [(.iinc 2 1, 0, 0, 0)] (by decide +kernel) rfl trivial ?_
      refine zG.goto (tgt := 2) (off := (-19)) hX (by decide +kernel) (by decide) ?_
      exact ih _ _ _ _ h
noncomputable def pX12_movesRow (S : ZS) (M : ZM) (a0 : Int) (a1 : Int) : Option ZM := pX12_movesRow_2 S zFU M a0 a1 0
set_option maxHeartbeats 2000000 in
set_option maxRecDepth 20000 in
theorem pX12_movesRow_go {C : ZC} {E : ZE} {S : ZS} {M : ZM} {a0 a1 : Int} {q : ZM} (hX : zCx C E 12 cX12_movesRow 3 none false) (hRm : czR C = { frames := 2, cells := 0, slots := 0, locals := 62 }) (h : pX12_movesRow  S M a0 a1 = some q) : zG C E 3 S 0 0 (zQ C E 0 0 none S q) 0 [some (2, a0), some (2, a1), none] [] M := by
  unfold pX12_movesRow at h
  refine zG.blk (pc' := 2) (l' := [some (2, a0), some (2, a1), some (0, 0)]) (st' := []) (M' := M) hX [(.iconst 0, 0, 0, 0), (.istore_n 2, 0, 0, 0)] (by decide +kernel) rfl trivial ?_
  exact (pX12_movesRow_2_ok hX hRm zFU _ _ _ _ h)
theorem pX12_movesRow_ok {l : Launch} {E : ZE} {S : ZS} {M : ZM} {a0 a1 : Int} {q : ZM} (h : pX12_movesRow S M a0 a1 = some q) : zMet l yX12_movesRow cX12_movesRow 3 none 2 62 0 0 E S M [(2, a0), (2, a1)] (none) S q :=
  zMet.of (o := 12) (ini := false) (by decide +kernel) rfl (fun h => by cases h) (Nat.le_of_ble_eq_true rfl) (fun C hX hl hRm => by subst hl; exact pX12_movesRow_go hX hRm h)
theorem sv_12_394 : zSV 12 394 yX12_movesRow cX12_movesRow 3 none 1 := ⟨⟨gt_at 1497 (by decide +kernel) rfl, gt_at 1499 (by decide +kernel) rfl, gt_at 70 (by decide +kernel) rfl, gt_at 117 (by decide +kernel) rfl, gt_at 1500 (by decide +kernel) rfl⟩, by decide +kernel, by decide +kernel, by decide +kernel⟩
noncomputable def pX12_movesAll_15 (S : ZS) : Nat → ZM → Int → Int → Option ZM
  | 0 => fun _ _ _ => none
  | n + 1 => fun M x0 x3 => if 7 ≤ x3 then (if S.1 x0 = 12 then (pX12_movesRow S M x0 (M x0 2)).bind fun q7 => (pX12_movesRow S q7 x0 (q7 x0 3)).bind fun q9 => (pX12_movesRow S q9 x0 (q9 x0 4)).bind fun q11 => (pX12_movesRow S q11 x0 (q11 x0 5)).bind fun q13 => some q13 else none) else (if S.1 x0 = 12 then if S.1 (M x0 1) = 100 ∧ (0 : Int) ≤ x3 ∧ x3 < S.2.1 (M x0 1) then (pX12_moves S M x0 (M (M x0 1) x3)).bind fun q17 => zlet (upM q17.2 (M x0 1) x3 q17.1) fun M19 => pX12_movesAll_15 S n M19 x0 (w32 (x3 + 1)) else none else none)
set_option maxHeartbeats 2000000 in
set_option maxRecDepth 20000 in
theorem pX12_movesAll_15_ok {C : ZC} {E : ZE} {S : ZS} {q : ZM} (hX : zCx C E 12 cX12_movesAll 4 none false) (hRm : czR C = { frames := 3, cells := 0, slots := 0, locals := 84 }) : ∀ (n : Nat) (M : ZM) (x0 : Int) (x3 : Int), pX12_movesAll_15 S n M x0 x3 = some q → zG C E 4 S 0 0 (zQ C E 0 0 none S q) 15 [some (2, x0), none, none, some (0, x3)] [] M := by
  intro n
  induction n with
  | zero => intro M x0 x3 h; cases h
  | succ n ih =>
    intro M x0 x3 h
    unfold pX12_movesAll_15 at h
    refine zG.blk (pc' := 18) (l' := [some (2, x0), none, none, some (0, x3)]) (st' := [(0, 7), (0, x3)]) (M' := M) hX [(.iload_n 3, 0, 0, 0), (.bipush 7, 0, 0, 0)] (by decide +kernel) rfl trivial ?_
    refine zG.icmp_ge (tgt := 43) (off := 25) hX (by decide +kernel) (by decide) (fun c5 => ?_) (fun c5 => ?_)
    · have h := zip c5 h
      obtain ⟨g6, h⟩ := zif h
      refine zG.blk (pc' := 48) (l' := [some (2, x0), none, none, some (0, x3)]) (st' := [(2, M x0 2), (2, x0)]) (M' := M) hX [(.aload_n 0, 0, 0, 0), (.aload_n 0, 0, 0, 0), (.getfield 13, 12, 2, 2)] (by decide +kernel) rfl (And.intro g6 trivial) ?_
      obtain ⟨q7, e8, h⟩ := zbd h
      refine zG.callV (b := x0) (av := [(2, M x0 2)]) (st := []) (ci := 12) hX (pX12_movesRow_ok e8) sv_12_394 rfl ⟨by decide, rfl⟩ g6 (by decide +kernel) (by rw [hRm]; exact ⟨Nat.le_of_ble_eq_true rfl, Nat.le_of_ble_eq_true rfl⟩) (by rw [hRm]; exact ⟨Nat.le_of_ble_eq_true rfl, Nat.le_of_ble_eq_true rfl⟩) (Nat.le_of_ble_eq_true rfl) ?_
      show zG C E 4 S 0 0 _ 51 [some (2, x0), none, none, some (0, x3)] [] q7
      refine zG.blk (pc' := 56) (l' := [some (2, x0), none, none, some (0, x3)]) (st' := [(2, q7 x0 3), (2, x0)]) (M' := q7) hX [(.aload_n 0, 0, 0, 0), (.aload_n 0, 0, 0, 0), (.getfield 16, 12, 3, 2)] (by decide +kernel) rfl (And.intro g6 trivial) ?_
      obtain ⟨q9, e10, h⟩ := zbd h
      refine zG.callV (b := x0) (av := [(2, q7 x0 3)]) (st := []) (ci := 12) hX (pX12_movesRow_ok e10) sv_12_394 rfl ⟨by decide, rfl⟩ g6 (by decide +kernel) (by rw [hRm]; exact ⟨Nat.le_of_ble_eq_true rfl, Nat.le_of_ble_eq_true rfl⟩) (by rw [hRm]; exact ⟨Nat.le_of_ble_eq_true rfl, Nat.le_of_ble_eq_true rfl⟩) (Nat.le_of_ble_eq_true rfl) ?_
      show zG C E 4 S 0 0 _ 59 [some (2, x0), none, none, some (0, x3)] [] q9
      refine zG.blk (pc' := 64) (l' := [some (2, x0), none, none, some (0, x3)]) (st' := [(2, q9 x0 4), (2, x0)]) (M' := q9) hX [(.aload_n 0, 0, 0, 0), (.aload_n 0, 0, 0, 0), (.getfield 19, 12, 4, 2)] (by decide +kernel) rfl (And.intro g6 trivial) ?_
      obtain ⟨q11, e12, h⟩ := zbd h
      refine zG.callV (b := x0) (av := [(2, q9 x0 4)]) (st := []) (ci := 12) hX (pX12_movesRow_ok e12) sv_12_394 rfl ⟨by decide, rfl⟩ g6 (by decide +kernel) (by rw [hRm]; exact ⟨Nat.le_of_ble_eq_true rfl, Nat.le_of_ble_eq_true rfl⟩) (by rw [hRm]; exact ⟨Nat.le_of_ble_eq_true rfl, Nat.le_of_ble_eq_true rfl⟩) (Nat.le_of_ble_eq_true rfl) ?_
      show zG C E 4 S 0 0 _ 67 [some (2, x0), none, none, some (0, x3)] [] q11
      refine zG.blk (pc' := 72) (l' := [some (2, x0), none, none, some (0, x3)]) (st' := [(2, q11 x0 5), (2, x0)]) (M' := q11) hX [(.aload_n 0, 0, 0, 0), (.aload_n 0, 0, 0, 0), (.getfield 22, 12, 5, 2)] (by decide +kernel) rfl (And.intro g6 trivial) ?_
      obtain ⟨q13, e14, h⟩ := zbd h
      refine zG.callV (b := x0) (av := [(2, q11 x0 5)]) (st := []) (ci := 12) hX (pX12_movesRow_ok e14) sv_12_394 rfl ⟨by decide, rfl⟩ g6 (by decide +kernel) (by rw [hRm]; exact ⟨Nat.le_of_ble_eq_true rfl, Nat.le_of_ble_eq_true rfl⟩) (by rw [hRm]; exact ⟨Nat.le_of_ble_eq_true rfl, Nat.le_of_ble_eq_true rfl⟩) (Nat.le_of_ble_eq_true rfl) ?_
      show zG C E 4 S 0 0 _ 75 [some (2, x0), none, none, some (0, x3)] [] q13
      cases h
      exact zG.vret hX (by decide +kernel)
    · have h := zin c5 h
      obtain ⟨g15, h⟩ := zif h
      obtain ⟨g16, h⟩ := zif h
      refine zG.blk (pc' := 33) (l' := [some (2, x0), none, none, some (0, x3)]) (st' := [(0, M (M x0 1) x3), (2, x0), (0, x3), (2, M x0 1)]) (M' := M) hX [(.aload_n 0, 0, 0, 0), (.getfield 9, 12, 1, 2), (.iload_n 3, 0, 0, 0), (.aload_n 0, 0, 0, 0), (.aload_n 0, 0, 0, 0), (.getfield 9, 12, 1, 2), (.iload_n 3, 0, 0, 0), (.iaload, 0, 0, 0)] (by decide +kernel) rfl (And.intro g15 (And.intro g15 (And.intro g16 trivial))) ?_
      obtain ⟨q17, e18, h⟩ := zbd h
      refine zG.callV (b := x0) (av := [(0, M (M x0 1) x3)]) (st := [(0, x3), (2, M x0 1)]) (ci := 12) hX (pX12_moves_ok e18) sv_12_391 rfl ⟨by decide, rfl⟩ g15 (by decide +kernel) (by rw [hRm]; exact ⟨Nat.le_of_ble_eq_true rfl, Nat.le_of_ble_eq_true rfl⟩) (by rw [hRm]; exact ⟨Nat.le_of_ble_eq_true rfl, Nat.le_of_ble_eq_true rfl⟩) (Nat.le_of_ble_eq_true rfl) ?_
      show zG C E 4 S 0 0 _ 36 [some (2, x0), none, none, some (0, x3)] [(0, q17.1), (0, x3), (2, M x0 1)] q17.2
      refine zG.blk (pc' := 37) (l' := [some (2, x0), none, none, some (0, x3)]) (st' := []) (M' := (upM q17.2 (M x0 1) x3 q17.1)) hX [(.iastore, 0, 0, 0)] (by decide +kernel) rfl (And.intro g16 trivial) ?_
      generalize upM q17.2 (M x0 1) x3 q17.1 = M19 at h ⊢
      have h := zlt h
      refine zG.blk (pc' := 40) (l' := [some (2, x0), none, none, some (0, w32 (x3 + 1))]) (st' := []) (M' := M19) hX [(.iinc 3 1, 0, 0, 0)] (by decide +kernel) rfl trivial ?_
      refine zG.goto (tgt := 15) (off := (-25)) hX (by decide +kernel) (by decide) ?_
      exact ih _ _ _ h
noncomputable def pX12_movesAll (S : ZS) (M : ZM) (a0 : Int) (a1 : Int) (a2 : Int) : Option ZM := if S.1 a0 = 12 then zlet (upM M a0 43 (w32 (85 * a1))) fun M2 => if a2 = 0 ∨ a2 = 1 then zlet (upM M2 a0 44 a2) fun M4 => pX12_movesAll_15 S zFU M4 a0 4 else none else none
set_option maxHeartbeats 2000000 in
set_option maxRecDepth 20000 in
theorem pX12_movesAll_go {C : ZC} {E : ZE} {S : ZS} {M : ZM} {a0 a1 a2 : Int} {q : ZM} (hX : zCx C E 12 cX12_movesAll 4 none false) (hRm : czR C = { frames := 3, cells := 0, slots := 0, locals := 84 }) (h : pX12_movesAll  S M a0 a1 a2 = some q) : zG C E 4 S 0 0 (zQ C E 0 0 none S q) 0 [some (2, a0), some (0, a1), some (0, a2), none] [] M := by
  unfold pX12_movesAll at h
  obtain ⟨g1, h⟩ := zif h
  refine zG.blk (pc' := 8) (l' := [some (2, a0), some (0, a1), some (0, a2), none]) (st' := []) (M' := (upM M a0 43 (w32 (85 * a1)))) hX [(.aload_n 0, 0, 0, 0), (.bipush 85, 0, 0, 0), (.iload_n 1, 0, 0, 0), (.imul, 0, 0, 0), (.putfield 388, 12, 43, 0)] (by decide +kernel) rfl (And.intro g1 trivial) ?_
  generalize upM M a0 43 (w32 (85 * a1)) = M2 at h ⊢
  have h := zlt h
  obtain ⟨g3, h⟩ := zif h
  refine zG.blk (pc' := 13) (l' := [some (2, a0), some (0, a1), some (0, a2), none]) (st' := []) (M' := (upM M2 a0 44 a2)) hX [(.aload_n 0, 0, 0, 0), (.iload_n 2, 0, 0, 0), (.putfield 384, 12, 44, 5)] (by decide +kernel) rfl (And.intro g1 (And.intro g3 trivial)) ?_
  generalize upM M2 a0 44 a2 = M4 at h ⊢
  have h := zlt h
  refine zG.blk (pc' := 15) (l' := [some (2, a0), some (0, a1), some (0, a2), some (0, 4)]) (st' := []) (M' := M4) hX [(.iconst 4, 0, 0, 0), (.istore_n 3, 0, 0, 0)] (by decide +kernel) rfl trivial ?_
  exact zG.wk [true, false, false, true] (pX12_movesAll_15_ok hX hRm zFU _ _ _ h)
theorem pX12_movesAll_ok {l : Launch} {E : ZE} {S : ZS} {M : ZM} {a0 a1 a2 : Int} {q : ZM} (h : pX12_movesAll S M a0 a1 a2 = some q) : zMet l yX12_movesAll cX12_movesAll 4 none 3 84 0 0 E S M [(2, a0), (0, a1), (0, a2)] (none) S q :=
  zMet.of (o := 12) (ini := false) (by decide +kernel) rfl (fun h => by cases h) (Nat.le_of_ble_eq_true rfl) (fun C hX hl hRm => by subst hl; exact pX12_movesAll_go hX hRm h)
theorem sv_12_398 : zSV 12 398 yX12_movesAll cX12_movesAll 4 none 2 := ⟨⟨gt_at 1489 (by decide +kernel) rfl, gt_at 1491 (by decide +kernel) rfl, gt_at 68 (by decide +kernel) rfl, gt_at 117 (by decide +kernel) rfl, gt_at 1492 (by decide +kernel) rfl⟩, by decide +kernel, by decide +kernel, by decide +kernel⟩
noncomputable def pX12_keepsAct_50 (S : ZS) (M : ZM) (x0 : Int) : Option ZM := if S.1 x0 = 12 then (pX12_movesAll S M x0 (M x0 42) 0).bind fun q4 => zlet (upM q4 x0 42 (w32 ((q4 x0 42) + 1))) fun M6 => some M6 else none
set_option maxHeartbeats 2000000 in
set_option maxRecDepth 20000 in
theorem pX12_keepsAct_50_ok {C : ZC} {E : ZE} {S : ZS} {q : ZM} (hX : zCx C E 12 cX12_keepsAct 2 none false) (hRm : czR C = { frames := 4, cells := 0, slots := 0, locals := 107 }) {M : ZM} {x0 : Int} (h : pX12_keepsAct_50 S M x0 = some q) : zG C E 2 S 0 0 (zQ C E 0 0 none S q) 50 [some (2, x0), none] [] M := by
  unfold pX12_keepsAct_50 at h
  obtain ⟨g3, h⟩ := zif h
  refine zG.blk (pc' := 56) (l' := [some (2, x0), none]) (st' := [(0, 0), (0, M x0 42), (2, x0)]) (M' := M) hX [(.aload_n 0, 0, 0, 0), (.aload_n 0, 0, 0, 0), (.getfield 305, 12, 42, 0), (.iconst 0, 0, 0, 0)] (by decide +kernel) rfl (And.intro g3 trivial) ?_
  obtain ⟨q4, e5, h⟩ := zbd h
  refine zG.callV (b := x0) (av := [(0, M x0 42), (0, 0)]) (st := []) (ci := 12) hX (pX12_movesAll_ok e5) sv_12_398 rfl ⟨by decide, rfl⟩ g3 (by decide +kernel) (by rw [hRm]; exact ⟨Nat.le_of_ble_eq_true rfl, Nat.le_of_ble_eq_true rfl⟩) (by rw [hRm]; exact ⟨Nat.le_of_ble_eq_true rfl, Nat.le_of_ble_eq_true rfl⟩) (Nat.le_of_ble_eq_true rfl) ?_
  show zG C E 2 S 0 0 _ 59 [some (2, x0), none] [] q4
  refine zG.blk (pc' := 69) (l' := [some (2, x0), none]) (st' := []) (M' := (upM q4 x0 42 (w32 ((q4 x0 42) + 1)))) hX [(.aload_n 0, 0, 0, 0), (.dup, 0, 0, 0), (.getfield 305, 12, 42, 0), (.iconst 1, 0, 0, 0), (.iadd, 0, 0, 0), (.putfield 305, 12, 42, 0)] (by decide +kernel) rfl (And.intro g3 (And.intro g3 trivial)) ?_
  generalize upM q4 x0 42 (w32 ((q4 x0 42) + 1)) = M6 at h ⊢
  have h := zlt h
  cases h
  exact zG.vret hX (by decide +kernel)
noncomputable def pX12_keepsAct_12 (S : ZS) : Nat → ZM → Int → Int → Option ZM
  | 0 => fun _ _ _ => none
  | n + 1 => fun M x0 x1 => if 1700 ≤ x1 then (if S.1 x0 = 12 then zlet (upM M x0 42 (w32 ((M x0 42) - 1))) fun M9 => pX12_keepsAct_50 S M9 x0 else none) else (if S.1 x0 = 12 then if S.1 (M x0 40) = 100 ∧ (0 : Int) ≤ x1 ∧ x1 < S.2.1 (M x0 40) then if S.1 (M x0 40) = 100 ∧ (0 : Int) ≤ w32 (x1 - 85) ∧ w32 (x1 - 85) < S.2.1 (M x0 40) then zlet (upM M (M x0 40) (w32 (x1 - 85)) (M (M x0 40) x1)) fun M13 => pX12_keepsAct_12 S n M13 x0 (w32 (x1 + 1)) else none else none else none)
set_option maxHeartbeats 2000000 in
set_option maxRecDepth 20000 in
theorem pX12_keepsAct_12_ok {C : ZC} {E : ZE} {S : ZS} {q : ZM} (hX : zCx C E 12 cX12_keepsAct 2 none false) (hRm : czR C = { frames := 4, cells := 0, slots := 0, locals := 107 }) : ∀ (n : Nat) (M : ZM) (x0 : Int) (x1 : Int), pX12_keepsAct_12 S n M x0 x1 = some q → zG C E 2 S 0 0 (zQ C E 0 0 none S q) 12 [some (2, x0), some (0, x1)] [] M := by
  intro n
  induction n with
  | zero => intro M x0 x1 h; cases h
  | succ n ih =>
    intro M x0 x1 h
    unfold pX12_keepsAct_12 at h
    refine zG.blk (pc' := 16) (l' := [some (2, x0), some (0, x1)]) (st' := [(0, 1700), (0, x1)]) (M' := M) hX [(.iload_n 1, 0, 0, 0), (.sipush 1700, 0, 0, 0)] (by decide +kernel) rfl trivial ?_
    refine zG.icmp_ge (tgt := 40) (off := 24) hX (by decide +kernel) (by decide) (fun c7 => ?_) (fun c7 => ?_)
    · have h := zip c7 h
      obtain ⟨g8, h⟩ := zif h
      refine zG.blk (pc' := 50) (l' := [some (2, x0), some (0, x1)]) (st' := []) (M' := (upM M x0 42 (w32 ((M x0 42) - 1)))) hX [(.aload_n 0, 0, 0, 0), (.dup, 0, 0, 0), (.getfield 305, 12, 42, 0), (.iconst 1, 0, 0, 0), (.isub, 0, 0, 0), (.putfield 305, 12, 42, 0)] (by decide +kernel) rfl (And.intro g8 (And.intro g8 trivial)) ?_
      generalize upM M x0 42 (w32 ((M x0 42) - 1)) = M9 at h ⊢
      have h := zlt h
      exact zG.wk [true, false] (pX12_keepsAct_50_ok hX hRm h)
    · have h := zin c7 h
      obtain ⟨g10, h⟩ := zif h
      obtain ⟨g11, h⟩ := zif h
      obtain ⟨g12, h⟩ := zif h
      refine zG.blk (pc' := 34) (l' := [some (2, x0), some (0, x1)]) (st' := []) (M' := (upM M (M x0 40) (w32 (x1 - 85)) (M (M x0 40) x1))) hX [(.aload_n 0, 0, 0, 0), (.getfield 103, 12, 40, 2), (.iload_n 1, 0, 0, 0), (.bipush 85, 0, 0, 0), (.isub, 0, 0, 0), (.aload_n 0, 0, 0, 0), (.getfield 103, 12, 40, 2), (.iload_n 1, 0, 0, 0), (.iaload, 0, 0, 0), (.iastore, 0, 0, 0)] (by decide +kernel) rfl (And.intro g10 (And.intro g10 (And.intro g11 (And.intro g12 trivial)))) ?_
      generalize upM M (M x0 40) (w32 (x1 - 85)) (M (M x0 40) x1) = M13 at h ⊢
      have h := zlt h
      refine zG.blk (pc' := 37) (l' := [some (2, x0), some (0, w32 (x1 + 1))]) (st' := []) (M' := M13) hX [(.iinc 1 1, 0, 0, 0)] (by decide +kernel) rfl trivial ?_
      refine zG.goto (tgt := 12) (off := (-25)) hX (by decide +kernel) (by decide) ?_
      exact ih _ _ _ h
noncomputable def pX12_keepsAct (S : ZS) (M : ZM) (a0 : Int) : Option ZM := if S.1 a0 = 12 then if M a0 42 = 20 then (pX12_keepsAct_12 S zFU M a0 85) else (pX12_keepsAct_50 S M a0) else none
set_option maxHeartbeats 2000000 in
set_option maxRecDepth 20000 in
theorem pX12_keepsAct_go {C : ZC} {E : ZE} {S : ZS} {M : ZM} {a0 : Int} {q : ZM} (hX : zCx C E 12 cX12_keepsAct 2 none false) (hRm : czR C = { frames := 4, cells := 0, slots := 0, locals := 107 }) (h : pX12_keepsAct  S M a0 = some q) : zG C E 2 S 0 0 (zQ C E 0 0 none S q) 0 [some (2, a0), none] [] M := by
  unfold pX12_keepsAct at h
  obtain ⟨g1, h⟩ := zif h
  refine zG.blk (pc' := 6) (l' := [some (2, a0), none]) (st' := [(0, 20), (0, M a0 42)]) (M' := M) hX [(.aload_n 0, 0, 0, 0), (.getfield 305, 12, 42, 0), (.bipush 20, 0, 0, 0)] (by decide +kernel) rfl (And.intro g1 trivial) ?_
  refine zG.icmp_ne (tgt := 50) (off := 44) hX (by decide +kernel) (by decide) (fun c2 => ?_) (fun c2 => ?_)
  · have h := zin c2 h
    exact (pX12_keepsAct_50_ok hX hRm h)
  · have h := zip c2 h
    refine zG.blk (pc' := 12) (l' := [some (2, a0), some (0, 85)]) (st' := []) (M' := M) hX [(.bipush 85, 0, 0, 0), (.istore_n 1, 0, 0, 0)] (by decide +kernel) rfl trivial ?_
    exact (pX12_keepsAct_12_ok hX hRm zFU _ _ _ h)
theorem pX12_keepsAct_ok {l : Launch} {E : ZE} {S : ZS} {M : ZM} {a0 : Int} {q : ZM} (h : pX12_keepsAct S M a0 = some q) : zMet l yX12_keepsAct cX12_keepsAct 2 none 4 107 0 0 E S M [(2, a0)] (none) S q :=
  zMet.of (o := 12) (ini := false) (by decide +kernel) rfl (fun h => by cases h) (Nat.le_of_ble_eq_true rfl) (fun C hX hl hRm => by subst hl; exact pX12_keepsAct_go hX hRm h)
noncomputable def pX12_bend_30 (S : ZS) (M : ZM) : Option (Int × ZM) := some ((-1), M)
set_option maxHeartbeats 2000000 in
set_option maxRecDepth 20000 in
theorem pX12_bend_30_ok {C : ZC} {E : ZE} {S : ZS} {q : (Int × ZM)} (hX : zCx C E 12 cX12_bend 4 (some .int) false) (hRm : czR C = { frames := 5, cells := 0, slots := 0, locals := 128 }) {M : ZM} (h : pX12_bend_30 S M = some q) : zG C E 4 S 0 0 (zQ C E 0 0 (some (0, q.1)) S q.2) 30 [none, none, none, none] [] M := by
  unfold pX12_bend_30 at h
  refine zG.blk (pc' := 31) (l' := [none, none, none, none]) (st' := [(0, (-1))]) (M' := M) hX [(.iconst (-1), 0, 0, 0)] (by decide +kernel) rfl trivial ?_
  cases h
  exact zG.iret hX (by decide +kernel)
theorem sv_12_405 : zSV 12 405 yX12_keepsAct cX12_keepsAct 2 none 0 := ⟨⟨gt_at 1509 (by decide +kernel) rfl, gt_at 1511 (by decide +kernel) rfl, gt_at 72 (by decide +kernel) rfl, gt_at 117 (by decide +kernel) rfl, gt_at 1512 (by decide +kernel) rfl⟩, by decide +kernel, by decide +kernel, by decide +kernel⟩
noncomputable def pX12_bend (S : ZS) (M : ZM) (a0 : Int) (a1 : Int) (a2 : Int) : Option (Int × ZM) := if S.1 a0 = 12 then (pX12_isPen S M a0 a1).bind fun q1 => if q1.1 = 0 then (pX12_bend_30 S q1.2) else ((pX12_in S q1.2 a2 0 9).bind fun q5 => if q5.1 = 0 then (pX12_bend_30 S q5.2) else (if S.1 (q5.2 a0 3) = 100 ∧ (0 : Int) ≤ a1 ∧ a1 < S.2.1 (q5.2 a0 3) then if q5.2 (q5.2 a0 3) a1 = a2 then (pX12_bend_30 S q5.2) else ((pX12_keepsAct S q5.2 a0).bind fun q10 => if S.1 (q10 a0 3) = 100 ∧ (0 : Int) ≤ a1 ∧ a1 < S.2.1 (q10 a0 3) then zlet (upM q10 (q10 a0 3) a1 a2) fun M13 => some (q10 (q10 a0 3) a1, M13) else none) else none)) else none
set_option maxHeartbeats 2000000 in
set_option maxRecDepth 20000 in
theorem pX12_bend_go {C : ZC} {E : ZE} {S : ZS} {M : ZM} {a0 a1 a2 : Int} {q : (Int × ZM)} (hX : zCx C E 12 cX12_bend 4 (some .int) false) (hRm : czR C = { frames := 5, cells := 0, slots := 0, locals := 128 }) (h : pX12_bend  S M a0 a1 a2 = some q) : zG C E 4 S 0 0 (zQ C E 0 0 (some (0, q.1)) S q.2) 0 [some (2, a0), some (0, a1), some (0, a2), none] [] M := by
  unfold pX12_bend at h
  refine zG.blk (pc' := 2) (l' := [some (2, a0), some (0, a1), some (0, a2), none]) (st' := [(0, a1), (2, a0)]) (M' := M) hX [(.aload_n 0, 0, 0, 0), (.iload_n 1, 0, 0, 0)] (by decide +kernel) rfl trivial ?_
  obtain ⟨g3, h⟩ := zif h
  obtain ⟨q1, e2, h⟩ := zbd h
  refine zG.callV (b := a0) (av := [(0, a1)]) (st := []) (ci := 12) hX (pX12_isPen_ok e2) sv_12_341 rfl ⟨by decide, rfl⟩ g3 (by decide +kernel) (by rw [hRm]; exact ⟨Nat.le_of_ble_eq_true rfl, Nat.le_of_ble_eq_true rfl⟩) (by rw [hRm]; exact ⟨Nat.le_of_ble_eq_true rfl, Nat.le_of_ble_eq_true rfl⟩) (Nat.le_of_ble_eq_true rfl) ?_
  show zG C E 4 S 0 0 _ 5 [some (2, a0), some (0, a1), some (0, a2), none] [(0, q1.1)] q1.2
  refine zG.if_eq (tgt := 30) (off := 25) hX (by decide +kernel) (by decide) (fun c4 => ?_) (fun c4 => ?_)
  · have h := zip c4 h
    exact zG.wk [false, false, false, true] (pX12_bend_30_ok hX hRm h)
  · have h := zin c4 h
    refine zG.blk (pc' := 14) (l' := [some (2, a0), some (0, a1), some (0, a2), none]) (st' := [(1, 9), (1, 0), (1, a2)]) (M' := q1.2) hX [(.iload_n 2, 0, 0, 0), (.i2l, 0, 0, 0), (.lconst 0, 0, 0, 0), (.ldc2_w 408, 9, 0, 0)] (by decide +kernel) rfl trivial ?_
    obtain ⟨q5, e6, h⟩ := zbd h
    refine zG.callS (av := [(1, a2), (1, 0), (1, 9)]) (st := []) hX (pX12_in_ok e6) ss_12_138 rfl (by decide +kernel) (by rw [hRm]; exact ⟨Nat.le_of_ble_eq_true rfl, Nat.le_of_ble_eq_true rfl⟩) (by rw [hRm]; exact ⟨Nat.le_of_ble_eq_true rfl, Nat.le_of_ble_eq_true rfl⟩) (Nat.le_of_ble_eq_true rfl) ?_
    show zG C E 4 S 0 0 _ 17 [some (2, a0), some (0, a1), some (0, a2), none] [(0, q5.1)] q5.2
    refine zG.if_eq (tgt := 30) (off := 13) hX (by decide +kernel) (by decide) (fun c7 => ?_) (fun c7 => ?_)
    · have h := zip c7 h
      exact zG.wk [false, false, false, true] (pX12_bend_30_ok hX hRm h)
    · have h := zin c7 h
      obtain ⟨g8, h⟩ := zif h
      refine zG.blk (pc' := 27) (l' := [some (2, a0), some (0, a1), some (0, a2), none]) (st' := [(0, a2), (0, q5.2 (q5.2 a0 3) a1)]) (M' := q5.2) hX [(.aload_n 0, 0, 0, 0), (.getfield 16, 12, 3, 2), (.iload_n 1, 0, 0, 0), (.iaload, 0, 0, 0), (.iload_n 2, 0, 0, 0)] (by decide +kernel) rfl (And.intro g3 (And.intro g8 trivial)) ?_
      refine zG.icmp_ne (tgt := 32) (off := 5) hX (by decide +kernel) (by decide) (fun c9 => ?_) (fun c9 => ?_)
      · have h := zin c9 h
        refine zG.blk (pc' := 33) (l' := [some (2, a0), some (0, a1), some (0, a2), none]) (st' := [(2, a0)]) (M' := q5.2) hX [(.aload_n 0, 0, 0, 0)] (by decide +kernel) rfl trivial ?_
        obtain ⟨q10, e11, h⟩ := zbd h
        refine zG.callV (b := a0) (av := []) (st := []) (ci := 12) hX (pX12_keepsAct_ok e11) sv_12_405 rfl ⟨by decide, rfl⟩ g3 (by decide +kernel) (by rw [hRm]; exact ⟨Nat.le_of_ble_eq_true rfl, Nat.le_of_ble_eq_true rfl⟩) (by rw [hRm]; exact ⟨Nat.le_of_ble_eq_true rfl, Nat.le_of_ble_eq_true rfl⟩) (Nat.le_of_ble_eq_true rfl) ?_
        show zG C E 4 S 0 0 _ 36 [some (2, a0), some (0, a1), some (0, a2), none] [] q10
        obtain ⟨g12, h⟩ := zif h
        refine zG.blk (pc' := 50) (l' := [some (2, a0), some (0, a1), some (0, a2), some (0, q10 (q10 a0 3) a1)]) (st' := []) (M' := (upM q10 (q10 a0 3) a1 a2)) hX [(.aload_n 0, 0, 0, 0), (.getfield 16, 12, 3, 2), (.iload_n 1, 0, 0, 0), (.iaload, 0, 0, 0), (.istore_n 3, 0, 0, 0), (.aload_n 0, 0, 0, 0), (.getfield 16, 12, 3, 2), (.iload_n 1, 0, 0, 0), (.iload_n 2, 0, 0, 0), (.iastore, 0, 0, 0)] (by decide +kernel) rfl (And.intro g3 (And.intro g12 (And.intro g3 (And.intro g12 trivial)))) ?_
        generalize upM q10 (q10 a0 3) a1 a2 = M13 at h ⊢
        have h := zlt h
        refine zG.blk (pc' := 51) (l' := [some (2, a0), some (0, a1), some (0, a2), some (0, q10 (q10 a0 3) a1)]) (st' := [(0, q10 (q10 a0 3) a1)]) (M' := M13) hX [(.iload_n 3, 0, 0, 0)] (by decide +kernel) rfl trivial ?_
        cases h
        exact zG.iret hX (by decide +kernel)
      · have h := zip c9 h
        exact zG.wk [false, false, false, true] (pX12_bend_30_ok hX hRm h)
theorem pX12_bend_ok {l : Launch} {E : ZE} {S : ZS} {M : ZM} {a0 a1 a2 : Int} {q : (Int × ZM)} (h : pX12_bend S M a0 a1 a2 = some q) : zMet l yX12_bend cX12_bend 4 (some .int) 5 128 0 0 E S M [(2, a0), (0, a1), (0, a2)] (some (0, q.1)) S q.2 :=
  zMet.of (o := 12) (ini := false) (by decide +kernel) rfl (fun h => by cases h) (Nat.le_of_ble_eq_true rfl) (fun C hX hl hRm => by subst hl; exact pX12_bend_go hX hRm h)
noncomputable def pX12_bestAt_70 (S : ZS) (k7 : ZM → Int → Int → Int → Int → Int → Option (Int × ZM)) (M : ZM) (x0 : Int) (x1 : Int) (x2 : Int) (x3 : Int) (x4 : Int) : Option (Int × ZM) := k7 M x0 x1 x2 x3 (w32 (x4 + 1))
set_option maxHeartbeats 2000000 in
set_option maxRecDepth 20000 in
theorem pX12_bestAt_70_ok {C : ZC} {E : ZE} {S : ZS} {k7 : ZM → Int → Int → Int → Int → Int → Option (Int × ZM)} {q : (Int × ZM)} (hX : zCx C E 12 cX12_bestAt 5 (some .int) false) (hRm : czR C = { frames := 1, cells := 0, slots := 0, locals := 40 }) (hk7 : ∀ M x0 x1 x2 x3 x4, k7 M x0 x1 x2 x3 x4 = some q → zG C E 5 S 0 0 (zQ C E 0 0 (some (0, q.1)) S q.2) 7 [some (2, x0), some (0, x1), some (0, x2), some (0, x3), some (0, x4)] [] M) {M : ZM} {x0 : Int} {x1 : Int} {x2 : Int} {x3 : Int} {x4 : Int} (h : pX12_bestAt_70 S k7 M x0 x1 x2 x3 x4 = some q) : zG C E 5 S 0 0 (zQ C E 0 0 (some (0, q.1)) S q.2) 70 [some (2, x0), some (0, x1), some (0, x2), some (0, x3), some (0, x4)] [] M := by
  unfold pX12_bestAt_70 at h
  refine zG.blk (pc' := 73) (l' := [some (2, x0), some (0, x1), some (0, x2), some (0, x3), some (0, w32 (x4 + 1))]) (st' := []) (M' := M) hX [(.iinc 4 1, 0, 0, 0)] (by decide +kernel) rfl trivial ?_
  refine zG.goto (tgt := 7) (off := (-66)) hX (by decide +kernel) (by decide) ?_
  exact (hk7 _ _ _ _ _ _ h)
noncomputable def pX12_bestAt_67 (S : ZS) (k7 : ZM → Int → Int → Int → Int → Int → Option (Int × ZM)) (M : ZM) (x0 : Int) (x1 : Int) (x2 : Int) (x4 : Int) : Option (Int × ZM) := pX12_bestAt_70 S k7 M x0 x1 x2 x4 x4
set_option maxHeartbeats 2000000 in
set_option maxRecDepth 20000 in
theorem pX12_bestAt_67_ok {C : ZC} {E : ZE} {S : ZS} {k7 : ZM → Int → Int → Int → Int → Int → Option (Int × ZM)} {q : (Int × ZM)} (hX : zCx C E 12 cX12_bestAt 5 (some .int) false) (hRm : czR C = { frames := 1, cells := 0, slots := 0, locals := 40 }) (hk7 : ∀ M x0 x1 x2 x3 x4, k7 M x0 x1 x2 x3 x4 = some q → zG C E 5 S 0 0 (zQ C E 0 0 (some (0, q.1)) S q.2) 7 [some (2, x0), some (0, x1), some (0, x2), some (0, x3), some (0, x4)] [] M) {M : ZM} {x0 : Int} {x1 : Int} {x2 : Int} {x4 : Int} (h : pX12_bestAt_67 S k7 M x0 x1 x2 x4 = some q) : zG C E 5 S 0 0 (zQ C E 0 0 (some (0, q.1)) S q.2) 67 [some (2, x0), some (0, x1), some (0, x2), none, some (0, x4)] [] M := by
  unfold pX12_bestAt_67 at h
  refine zG.blk (pc' := 70) (l' := [some (2, x0), some (0, x1), some (0, x2), some (0, x4), some (0, x4)]) (st' := []) (M' := M) hX [(.iload 4, 0, 0, 0), (.istore_n 3, 0, 0, 0)] (by decide +kernel) rfl trivial ?_
  exact (pX12_bestAt_70_ok hX hRm hk7 h)
noncomputable def pX12_bestAt_7 (S : ZS) : Nat → ZM → Int → Int → Int → Int → Int → Option (Int × ZM)
  | 0 => fun _ _ _ _ _ _ => none
  | n + 1 => fun M x0 x1 x2 x3 x4 => if w32 (x1 + 5) ≤ x4 then (some (x3, M)) else (if S.1 x0 = 12 then if S.1 (M x0 45) = 100 ∧ (0 : Int) ≤ x4 ∧ x4 < S.2.1 (M x0 45) then if M (M x0 45) x4 = (-100000) then (pX12_bestAt_70 S (pX12_bestAt_7 S n) M x0 x1 x2 x3 x4) else (if x2 = 0 then (if S.1 (M x0 45) = 100 ∧ (0 : Int) ≤ x3 ∧ x3 < S.2.1 (M x0 45) then if M (M x0 45) x3 ≤ M (M x0 45) x4 then (pX12_bestAt_70 S (pX12_bestAt_7 S n) M x0 x1 x2 x3 x4) else (pX12_bestAt_67 S (pX12_bestAt_7 S n) M x0 x1 x2 x4) else none) else (if S.1 (M x0 45) = 100 ∧ (0 : Int) ≤ x3 ∧ x3 < S.2.1 (M x0 45) then if M (M x0 45) x4 ≤ M (M x0 45) x3 then (pX12_bestAt_70 S (pX12_bestAt_7 S n) M x0 x1 x2 x3 x4) else (pX12_bestAt_67 S (pX12_bestAt_7 S n) M x0 x1 x2 x4) else none)) else none else none)
set_option maxHeartbeats 2000000 in
set_option maxRecDepth 20000 in
theorem pX12_bestAt_7_ok {C : ZC} {E : ZE} {S : ZS} {q : (Int × ZM)} (hX : zCx C E 12 cX12_bestAt 5 (some .int) false) (hRm : czR C = { frames := 1, cells := 0, slots := 0, locals := 40 }) : ∀ (n : Nat) (M : ZM) (x0 : Int) (x1 : Int) (x2 : Int) (x3 : Int) (x4 : Int), pX12_bestAt_7 S n M x0 x1 x2 x3 x4 = some q → zG C E 5 S 0 0 (zQ C E 0 0 (some (0, q.1)) S q.2) 7 [some (2, x0), some (0, x1), some (0, x2), some (0, x3), some (0, x4)] [] M := by
  intro n
  induction n with
  | zero => intro M x0 x1 x2 x3 x4 h; cases h
  | succ n ih =>
    intro M x0 x1 x2 x3 x4 h
    unfold pX12_bestAt_7 at h
    refine zG.blk (pc' := 12) (l' := [some (2, x0), some (0, x1), some (0, x2), some (0, x3), some (0, x4)]) (st' := [(0, w32 (x1 + 5)), (0, x4)]) (M' := M) hX [(.iload 4, 0, 0, 0), (.iload_n 1, 0, 0, 0), (.iconst 5, 0, 0, 0), (.iadd, 0, 0, 0)] (by decide +kernel) rfl trivial ?_
    refine zG.icmp_ge (tgt := 76) (off := 64) hX (by decide +kernel) (by decide) (fun c1 => ?_) (fun c1 => ?_)
    · have h := zip c1 h
      refine zG.blk (pc' := 77) (l' := [some (2, x0), some (0, x1), some (0, x2), some (0, x3), some (0, x4)]) (st' := [(0, x3)]) (M' := M) hX [(.iload_n 3, 0, 0, 0)] (by decide +kernel) rfl trivial ?_
      cases h
      exact zG.iret hX (by decide +kernel)
    · have h := zin c1 h
      obtain ⟨g2, h⟩ := zif h
      obtain ⟨g3, h⟩ := zif h
      refine zG.blk (pc' := 25) (l' := [some (2, x0), some (0, x1), some (0, x2), some (0, x3), some (0, x4)]) (st' := [(0, (-100000)), (0, M (M x0 45) x4)]) (M' := M) hX [(.aload_n 0, 0, 0, 0), (.getfield 109, 12, 45, 2), (.iload 4, 0, 0, 0), (.iaload, 0, 0, 0), (.ldc_w 455, (-100000), 0, 0)] (by decide +kernel) rfl (And.intro g2 (And.intro g3 trivial)) ?_
      refine zG.icmp_eq (tgt := 70) (off := 45) hX (by decide +kernel) (by decide) (fun c4 => ?_) (fun c4 => ?_)
      · have h := zip c4 h
        exact (pX12_bestAt_70_ok hX hRm ih h)
      · have h := zin c4 h
        refine zG.blk (pc' := 29) (l' := [some (2, x0), some (0, x1), some (0, x2), some (0, x3), some (0, x4)]) (st' := [(0, x2)]) (M' := M) hX [(.iload_n 2, 0, 0, 0)] (by decide +kernel) rfl trivial ?_
        refine zG.if_eq (tgt := 51) (off := 22) hX (by decide +kernel) (by decide) (fun c5 => ?_) (fun c5 => ?_)
        · have h := zip c5 h
          obtain ⟨g6, h⟩ := zif h
          refine zG.blk (pc' := 64) (l' := [some (2, x0), some (0, x1), some (0, x2), some (0, x3), some (0, x4)]) (st' := [(0, M (M x0 45) x3), (0, M (M x0 45) x4)]) (M' := M) hX [(.aload_n 0, 0, 0, 0), (.getfield 109, 12, 45, 2), (.iload 4, 0, 0, 0), (.iaload, 0, 0, 0), (.aload_n 0, 0, 0, 0), (.getfield 109, 12, 45, 2), (.iload_n 3, 0, 0, 0), (.iaload, 0, 0, 0)] (by decide +kernel) rfl (And.intro g2 (And.intro g3 (And.intro g2 (And.intro g6 trivial)))) ?_
          refine zG.icmp_ge (tgt := 70) (off := 6) hX (by decide +kernel) (by decide) (fun c7 => ?_) (fun c7 => ?_)
          · have h := zip c7 h
            exact (pX12_bestAt_70_ok hX hRm ih h)
          · have h := zin c7 h
            exact zG.wk [true, true, true, false, true] (pX12_bestAt_67_ok hX hRm ih h)
        · have h := zin c5 h
          obtain ⟨g8, h⟩ := zif h
          refine zG.blk (pc' := 45) (l' := [some (2, x0), some (0, x1), some (0, x2), some (0, x3), some (0, x4)]) (st' := [(0, M (M x0 45) x3), (0, M (M x0 45) x4)]) (M' := M) hX [(.aload_n 0, 0, 0, 0), (.getfield 109, 12, 45, 2), (.iload 4, 0, 0, 0), (.iaload, 0, 0, 0), (.aload_n 0, 0, 0, 0), (.getfield 109, 12, 45, 2), (.iload_n 3, 0, 0, 0), (.iaload, 0, 0, 0)] (by decide +kernel) rfl (And.intro g2 (And.intro g3 (And.intro g2 (And.intro g8 trivial)))) ?_
          refine zG.icmp_le (tgt := 70) (off := 25) hX (by decide +kernel) (by decide) (fun c9 => ?_) (fun c9 => ?_)
          · have h := zip c9 h
            exact (pX12_bestAt_70_ok hX hRm ih h)
          · have h := zin c9 h
            refine zG.goto (tgt := 67) (off := 19) hX (by decide +kernel) (by decide) ?_
            exact zG.wk [true, true, true, false, true] (pX12_bestAt_67_ok hX hRm ih h)
noncomputable def pX12_bestAt (S : ZS) (M : ZM) (a0 : Int) (a1 : Int) (a2 : Int) : Option (Int × ZM) := pX12_bestAt_7 S zFU M a0 a1 a2 a1 (w32 (a1 + 1))
set_option maxHeartbeats 2000000 in
set_option maxRecDepth 20000 in
theorem pX12_bestAt_go {C : ZC} {E : ZE} {S : ZS} {M : ZM} {a0 a1 a2 : Int} {q : (Int × ZM)} (hX : zCx C E 12 cX12_bestAt 5 (some .int) false) (hRm : czR C = { frames := 1, cells := 0, slots := 0, locals := 40 }) (h : pX12_bestAt  S M a0 a1 a2 = some q) : zG C E 5 S 0 0 (zQ C E 0 0 (some (0, q.1)) S q.2) 0 [some (2, a0), some (0, a1), some (0, a2), none, none] [] M := by
  unfold pX12_bestAt at h
  refine zG.blk (pc' := 7) (l' := [some (2, a0), some (0, a1), some (0, a2), some (0, a1), some (0, w32 (a1 + 1))]) (st' := []) (M' := M) hX [(.iload_n 1, 0, 0, 0), (.istore_n 3, 0, 0, 0), (.iload_n 1, 0, 0, 0), (.iconst 1, 0, 0, 0), (.iadd, 0, 0, 0), (.istore 4, 0, 0, 0)] (by decide +kernel) rfl trivial ?_
  exact (pX12_bestAt_7_ok hX hRm zFU _ _ _ _ _ _ h)
theorem pX12_bestAt_ok {l : Launch} {E : ZE} {S : ZS} {M : ZM} {a0 a1 a2 : Int} {q : (Int × ZM)} (h : pX12_bestAt S M a0 a1 a2 = some q) : zMet l yX12_bestAt cX12_bestAt 5 (some .int) 1 40 0 0 E S M [(2, a0), (0, a1), (0, a2)] (some (0, q.1)) S q.2 :=
  zMet.of (o := 12) (ini := false) (by decide +kernel) rfl (fun h => by cases h) (Nat.le_of_ble_eq_true rfl) (fun C hX hl hRm => by subst hl; exact pX12_bestAt_go hX hRm h)
noncomputable def pX12_bits_4 (S : ZS) : Nat → ZM → Int → Int → Int → Option (Int × ZM)
  | 0 => fun _ _ _ _ => none
  | n + 1 => fun M x0 x1 x2 => if 16 ≤ x2 then (some (x1, M)) else (pX12_bits_4 S n M x0 (w32 (x1 + (zand (zshr x0 x2) 1))) (w32 (x2 + 1)))
set_option maxHeartbeats 2000000 in
set_option maxRecDepth 20000 in
theorem pX12_bits_4_ok {C : ZC} {E : ZE} {S : ZS} {q : (Int × ZM)} (hX : zCx C E 12 cX12_bits 3 (some .int) false) (hRm : czR C = { frames := 1, cells := 0, slots := 0, locals := 40 }) : ∀ (n : Nat) (M : ZM) (x0 : Int) (x1 : Int) (x2 : Int), pX12_bits_4 S n M x0 x1 x2 = some q → zG C E 3 S 0 0 (zQ C E 0 0 (some (0, q.1)) S q.2) 4 [some (0, x0), some (0, x1), some (0, x2)] [] M := by
  intro n
  induction n with
  | zero => intro M x0 x1 x2 h; cases h
  | succ n ih =>
    intro M x0 x1 x2 h
    unfold pX12_bits_4 at h
    refine zG.blk (pc' := 7) (l' := [some (0, x0), some (0, x1), some (0, x2)]) (st' := [(0, 16), (0, x2)]) (M' := M) hX [(.iload_n 2, 0, 0, 0), (.bipush 16, 0, 0, 0)] (by decide +kernel) rfl trivial ?_
    refine zG.icmp_ge (tgt := 24) (off := 17) hX (by decide +kernel) (by decide) (fun c1 => ?_) (fun c1 => ?_)
    · have h := zip c1 h
      refine zG.blk (pc' := 25) (l' := [some (0, x0), some (0, x1), some (0, x2)]) (st' := [(0, x1)]) (M' := M) hX [(.iload_n 1, 0, 0, 0)] (by decide +kernel) rfl trivial ?_
      cases h
      exact zG.iret hX (by decide +kernel)
    · have h := zin c1 h
      refine zG.blk (pc' := 21) (l' := [some (0, x0), some (0, w32 (x1 + (zand (zshr x0 x2) 1))), some (0, w32 (x2 + 1))]) (st' := []) (M' := M) hX [(.iload_n 1, 0, 0, 0), (.iload_n 0, 0, 0, 0), (.iload_n 2, 0, 0, 0), (.ishr, 0, 0, 0), (.iconst 1, 0, 0, 0), (.iand, 0, 0, 0), (.iadd, 0, 0, 0), (.istore_n 1, 0, 0, 0), (.iinc 2 1, 0, 0, 0)] (by decide +kernel) rfl trivial ?_
      refine zG.goto (tgt := 4) (off := (-17)) hX (by decide +kernel) (by decide) ?_
      exact ih _ _ _ _ h
noncomputable def pX12_bits (S : ZS) (M : ZM) (a0 : Int) : Option (Int × ZM) := pX12_bits_4 S zFU M a0 0 0
set_option maxHeartbeats 2000000 in
set_option maxRecDepth 20000 in
theorem pX12_bits_go {C : ZC} {E : ZE} {S : ZS} {M : ZM} {a0 : Int} {q : (Int × ZM)} (hX : zCx C E 12 cX12_bits 3 (some .int) false) (hRm : czR C = { frames := 1, cells := 0, slots := 0, locals := 40 }) (h : pX12_bits  S M a0 = some q) : zG C E 3 S 0 0 (zQ C E 0 0 (some (0, q.1)) S q.2) 0 [some (0, a0), none, none] [] M := by
  unfold pX12_bits at h
  refine zG.blk (pc' := 4) (l' := [some (0, a0), some (0, 0), some (0, 0)]) (st' := []) (M' := M) hX [(.iconst 0, 0, 0, 0), (.istore_n 1, 0, 0, 0), (.iconst 0, 0, 0, 0), (.istore_n 2, 0, 0, 0)] (by decide +kernel) rfl trivial ?_
  exact (pX12_bits_4_ok hX hRm zFU _ _ _ _ h)
theorem pX12_bits_ok {l : Launch} {E : ZE} {S : ZS} {M : ZM} {a0 : Int} {q : (Int × ZM)} (h : pX12_bits S M a0 = some q) : zMet l yX12_bits cX12_bits 3 (some .int) 1 40 0 0 E S M [(0, a0)] (some (0, q.1)) S q.2 :=
  zMet.of (o := 12) (ini := false) (by decide +kernel) rfl (fun h => by cases h) (Nat.le_of_ble_eq_true rfl) (fun C hX hl hRm => by subst hl; exact pX12_bits_go hX hRm h)
noncomputable def pX12_blot_18 (S : ZS) (M : ZM) : Option (Int × ZM) := some ((-1), M)
set_option maxHeartbeats 2000000 in
set_option maxRecDepth 20000 in
theorem pX12_blot_18_ok {C : ZC} {E : ZE} {S : ZS} {q : (Int × ZM)} (hX : zCx C E 12 cX12_blot 3 (some .int) false) (hRm : czR C = { frames := 5, cells := 0, slots := 0, locals := 128 }) {M : ZM} (h : pX12_blot_18 S M = some q) : zG C E 3 S 0 0 (zQ C E 0 0 (some (0, q.1)) S q.2) 18 [none, none, none] [] M := by
  unfold pX12_blot_18 at h
  refine zG.blk (pc' := 19) (l' := [none, none, none]) (st' := [(0, (-1))]) (M' := M) hX [(.iconst (-1), 0, 0, 0)] (by decide +kernel) rfl trivial ?_
  cases h
  exact zG.iret hX (by decide +kernel)
noncomputable def pX12_blot (S : ZS) (M : ZM) (a0 : Int) (a1 : Int) : Option (Int × ZM) := if S.1 a0 = 12 then (pX12_isCell S M a0 a1).bind fun q1 => if q1.1 = 0 then (pX12_blot_18 S q1.2) else (if S.1 (q1.2 a0 4) = 100 ∧ (0 : Int) ≤ a1 ∧ a1 < S.2.1 (q1.2 a0 4) then if q1.2 (q1.2 a0 4) a1 = (-1) then (pX12_blot_18 S q1.2) else ((pX12_keepsAct S q1.2 a0).bind fun q7 => if S.1 (q7 a0 4) = 100 ∧ (0 : Int) ≤ a1 ∧ a1 < S.2.1 (q7 a0 4) then (pX12_lays S q7 a0 a1 (-1)).bind fun q10 => some (q7 (q7 a0 4) a1, q10) else none) else none) else none
set_option maxHeartbeats 2000000 in
set_option maxRecDepth 20000 in
theorem pX12_blot_go {C : ZC} {E : ZE} {S : ZS} {M : ZM} {a0 a1 : Int} {q : (Int × ZM)} (hX : zCx C E 12 cX12_blot 3 (some .int) false) (hRm : czR C = { frames := 5, cells := 0, slots := 0, locals := 128 }) (h : pX12_blot  S M a0 a1 = some q) : zG C E 3 S 0 0 (zQ C E 0 0 (some (0, q.1)) S q.2) 0 [some (2, a0), some (0, a1), none] [] M := by
  unfold pX12_blot at h
  refine zG.blk (pc' := 2) (l' := [some (2, a0), some (0, a1), none]) (st' := [(0, a1), (2, a0)]) (M' := M) hX [(.aload_n 0, 0, 0, 0), (.iload_n 1, 0, 0, 0)] (by decide +kernel) rfl trivial ?_
  obtain ⟨g3, h⟩ := zif h
  obtain ⟨q1, e2, h⟩ := zbd h
  refine zG.callV (b := a0) (av := [(0, a1)]) (st := []) (ci := 12) hX (pX12_isCell_ok e2) sv_12_345 rfl ⟨by decide, rfl⟩ g3 (by decide +kernel) (by rw [hRm]; exact ⟨Nat.le_of_ble_eq_true rfl, Nat.le_of_ble_eq_true rfl⟩) (by rw [hRm]; exact ⟨Nat.le_of_ble_eq_true rfl, Nat.le_of_ble_eq_true rfl⟩) (Nat.le_of_ble_eq_true rfl) ?_
  show zG C E 3 S 0 0 _ 5 [some (2, a0), some (0, a1), none] [(0, q1.1)] q1.2
  refine zG.if_eq (tgt := 18) (off := 13) hX (by decide +kernel) (by decide) (fun c4 => ?_) (fun c4 => ?_)
  · have h := zip c4 h
    exact zG.wk [false, false, true] (pX12_blot_18_ok hX hRm h)
  · have h := zin c4 h
    obtain ⟨g5, h⟩ := zif h
    refine zG.blk (pc' := 15) (l' := [some (2, a0), some (0, a1), none]) (st' := [(0, (-1)), (0, q1.2 (q1.2 a0 4) a1)]) (M' := q1.2) hX [(.aload_n 0, 0, 0, 0), (.getfield 19, 12, 4, 2), (.iload_n 1, 0, 0, 0), (.iaload, 0, 0, 0), (.iconst (-1), 0, 0, 0)] (by decide +kernel) rfl (And.intro g3 (And.intro g5 trivial)) ?_
    refine zG.icmp_ne (tgt := 20) (off := 5) hX (by decide +kernel) (by decide) (fun c6 => ?_) (fun c6 => ?_)
    · have h := zin c6 h
      refine zG.blk (pc' := 21) (l' := [some (2, a0), some (0, a1), none]) (st' := [(2, a0)]) (M' := q1.2) hX [(.aload_n 0, 0, 0, 0)] (by decide +kernel) rfl trivial ?_
      obtain ⟨q7, e8, h⟩ := zbd h
      refine zG.callV (b := a0) (av := []) (st := []) (ci := 12) hX (pX12_keepsAct_ok e8) sv_12_405 rfl ⟨by decide, rfl⟩ g3 (by decide +kernel) (by rw [hRm]; exact ⟨Nat.le_of_ble_eq_true rfl, Nat.le_of_ble_eq_true rfl⟩) (by rw [hRm]; exact ⟨Nat.le_of_ble_eq_true rfl, Nat.le_of_ble_eq_true rfl⟩) (Nat.le_of_ble_eq_true rfl) ?_
      show zG C E 3 S 0 0 _ 24 [some (2, a0), some (0, a1), none] [] q7
      obtain ⟨g9, h⟩ := zif h
      refine zG.blk (pc' := 34) (l' := [some (2, a0), some (0, a1), some (0, q7 (q7 a0 4) a1)]) (st' := [(0, (-1)), (0, a1), (2, a0)]) (M' := q7) hX [(.aload_n 0, 0, 0, 0), (.getfield 19, 12, 4, 2), (.iload_n 1, 0, 0, 0), (.iaload, 0, 0, 0), (.istore_n 2, 0, 0, 0), (.aload_n 0, 0, 0, 0), (.iload_n 1, 0, 0, 0), (.iconst (-1), 0, 0, 0)] (by decide +kernel) rfl (And.intro g3 (And.intro g9 trivial)) ?_
      obtain ⟨q10, e11, h⟩ := zbd h
      refine zG.callV (b := a0) (av := [(0, a1), (0, (-1))]) (st := []) (ci := 12) hX (pX12_lays_ok e11) sv_12_366 rfl ⟨by decide, rfl⟩ g3 (by decide +kernel) (by rw [hRm]; exact ⟨Nat.le_of_ble_eq_true rfl, Nat.le_of_ble_eq_true rfl⟩) (by rw [hRm]; exact ⟨Nat.le_of_ble_eq_true rfl, Nat.le_of_ble_eq_true rfl⟩) (Nat.le_of_ble_eq_true rfl) ?_
      show zG C E 3 S 0 0 _ 37 [some (2, a0), some (0, a1), some (0, q7 (q7 a0 4) a1)] [] q10
      refine zG.blk (pc' := 38) (l' := [some (2, a0), some (0, a1), some (0, q7 (q7 a0 4) a1)]) (st' := [(0, q7 (q7 a0 4) a1)]) (M' := q10) hX [(.iload_n 2, 0, 0, 0)] (by decide +kernel) rfl trivial ?_
      cases h
      exact zG.iret hX (by decide +kernel)
    · have h := zip c6 h
      exact zG.wk [false, false, true] (pX12_blot_18_ok hX hRm h)
theorem pX12_blot_ok {l : Launch} {E : ZE} {S : ZS} {M : ZM} {a0 a1 : Int} {q : (Int × ZM)} (h : pX12_blot S M a0 a1 = some q) : zMet l yX12_blot cX12_blot 3 (some .int) 5 128 0 0 E S M [(2, a0), (0, a1)] (some (0, q.1)) S q.2 :=
  zMet.of (o := 12) (ini := false) (by decide +kernel) rfl (fun h => by cases h) (Nat.le_of_ble_eq_true rfl) (fun C hX hl hRm => by subst hl; exact pX12_blot_go hX hRm h)
