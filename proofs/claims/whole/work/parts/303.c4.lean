noncomputable def pX8_isDigit (S : ZS) (M : ZM) (a0 : Int) : Option (Int × ZM) := some ((if a0 < 48 then (0 : Int) else (if 57 < a0 then (0 : Int) else 1)), M)
set_option maxHeartbeats 2000000 in
set_option maxRecDepth 20000 in
theorem pX8_isDigit_go {C : ZC} {E : ZE} {S : ZS} {M : ZM} {a0 : Int} {q : (Int × ZM)} (hX : zCx C E 8 cX8_isDigit 1 (some .boolean) false) (hRm : czR C = { frames := 1, cells := 0, slots := 0, locals := 40 }) (h : pX8_isDigit  S M a0 = some q) : zG C E 1 S 0 0 (zQ C E 0 0 (some (0, q.1)) S q.2) 0 [some (0, a0)] [] M := by
  unfold pX8_isDigit at h
  refine zG.blk (pc' := 3) (l' := [some (0, a0)]) (st' := [(0, 48), (0, a0)]) (M' := M) hX [(.iload_n 0, 0, 0, 0), (.bipush 48, 0, 0, 0)] (by decide +kernel) rfl trivial ?_
  have key1 : zG C E 1 S 0 0 (zQ C E 0 0 (some (0, q.1)) S q.2) 17 [some (0, a0)] [(0, (if a0 < 48 then (0 : Int) else (if 57 < a0 then (0 : Int) else 1)))] M := by
    cases h
    exact zG.zret hX (by decide +kernel) (z01_ite (Or.inl rfl) (z01_ite (Or.inl rfl) (Or.inr rfl)))
  refine zG.icmp_lt (tgt := 16) (off := 13) hX (by decide +kernel) (by decide) (fun c2 => ?_) (fun c2 => ?_)
  · refine zG.blk (pc' := 17) (l' := [some (0, a0)]) (st' := [(0, 0)]) (M' := M) hX [(.iconst 0, 0, 0, 0)] (by decide +kernel) rfl trivial ?_
    (have k := key1; simp only [if_pos c2] at k; exact k)
  · refine zG.blk (pc' := 9) (l' := [some (0, a0)]) (st' := [(0, 57), (0, a0)]) (M' := M) hX [(.iload_n 0, 0, 0, 0), (.bipush 57, 0, 0, 0)] (by decide +kernel) rfl trivial ?_
    refine zG.icmp_gt (tgt := 16) (off := 7) hX (by decide +kernel) (by decide) (fun c3 => ?_) (fun c3 => ?_)
    · refine zG.blk (pc' := 17) (l' := [some (0, a0)]) (st' := [(0, 0)]) (M' := M) hX [(.iconst 0, 0, 0, 0)] (by decide +kernel) rfl trivial ?_
      (have k := key1; simp only [if_neg c2, if_pos c3] at k; exact k)
    · refine zG.blk (pc' := 13) (l' := [some (0, a0)]) (st' := [(0, 1)]) (M' := M) hX [(.iconst 1, 0, 0, 0)] (by decide +kernel) rfl trivial ?_
      refine zG.goto (tgt := 17) (off := 4) hX (by decide +kernel) (by decide) ?_
      (have k := key1; simp only [if_neg c2, if_neg c3] at k; exact k)
theorem pX8_isDigit_ok {l : Launch} {E : ZE} {S : ZS} {M : ZM} {a0 : Int} {q : (Int × ZM)} (h : pX8_isDigit S M a0 = some q) : zMet l yX8_isDigit cX8_isDigit 1 (some .boolean) 1 40 0 0 E S M [(0, a0)] (some (0, q.1)) S q.2 :=
  zMet.of (o := 8) (ini := false) (by decide +kernel) rfl (fun h => by cases h) (Nat.le_of_ble_eq_true rfl) (fun C hX hl hRm => by subst hl; exact pX8_isDigit_go hX hRm h)
noncomputable def pX8_isLetter (S : ZS) (M : ZM) (a0 : Int) : Option (Int × ZM) := some ((if a0 < 97 then (0 : Int) else (if 122 < a0 then (0 : Int) else 1)), M)
set_option maxHeartbeats 2000000 in
set_option maxRecDepth 20000 in
theorem pX8_isLetter_go {C : ZC} {E : ZE} {S : ZS} {M : ZM} {a0 : Int} {q : (Int × ZM)} (hX : zCx C E 8 cX8_isLetter 1 (some .boolean) false) (hRm : czR C = { frames := 1, cells := 0, slots := 0, locals := 40 }) (h : pX8_isLetter  S M a0 = some q) : zG C E 1 S 0 0 (zQ C E 0 0 (some (0, q.1)) S q.2) 0 [some (0, a0)] [] M := by
  unfold pX8_isLetter at h
  refine zG.blk (pc' := 3) (l' := [some (0, a0)]) (st' := [(0, 97), (0, a0)]) (M' := M) hX [(.iload_n 0, 0, 0, 0), (.bipush 97, 0, 0, 0)] (by decide +kernel) rfl trivial ?_
  have key1 : zG C E 1 S 0 0 (zQ C E 0 0 (some (0, q.1)) S q.2) 17 [some (0, a0)] [(0, (if a0 < 97 then (0 : Int) else (if 122 < a0 then (0 : Int) else 1)))] M := by
    cases h
    exact zG.zret hX (by decide +kernel) (z01_ite (Or.inl rfl) (z01_ite (Or.inl rfl) (Or.inr rfl)))
  refine zG.icmp_lt (tgt := 16) (off := 13) hX (by decide +kernel) (by decide) (fun c2 => ?_) (fun c2 => ?_)
  · refine zG.blk (pc' := 17) (l' := [some (0, a0)]) (st' := [(0, 0)]) (M' := M) hX [(.iconst 0, 0, 0, 0)] (by decide +kernel) rfl trivial ?_
    (have k := key1; simp only [if_pos c2] at k; exact k)
  · refine zG.blk (pc' := 9) (l' := [some (0, a0)]) (st' := [(0, 122), (0, a0)]) (M' := M) hX [(.iload_n 0, 0, 0, 0), (.bipush 122, 0, 0, 0)] (by decide +kernel) rfl trivial ?_
    refine zG.icmp_gt (tgt := 16) (off := 7) hX (by decide +kernel) (by decide) (fun c3 => ?_) (fun c3 => ?_)
    · refine zG.blk (pc' := 17) (l' := [some (0, a0)]) (st' := [(0, 0)]) (M' := M) hX [(.iconst 0, 0, 0, 0)] (by decide +kernel) rfl trivial ?_
      (have k := key1; simp only [if_neg c2, if_pos c3] at k; exact k)
    · refine zG.blk (pc' := 13) (l' := [some (0, a0)]) (st' := [(0, 1)]) (M' := M) hX [(.iconst 1, 0, 0, 0)] (by decide +kernel) rfl trivial ?_
      refine zG.goto (tgt := 17) (off := 4) hX (by decide +kernel) (by decide) ?_
      (have k := key1; simp only [if_neg c2, if_neg c3] at k; exact k)
theorem pX8_isLetter_ok {l : Launch} {E : ZE} {S : ZS} {M : ZM} {a0 : Int} {q : (Int × ZM)} (h : pX8_isLetter S M a0 = some q) : zMet l yX8_isLetter cX8_isLetter 1 (some .boolean) 1 40 0 0 E S M [(0, a0)] (some (0, q.1)) S q.2 :=
  zMet.of (o := 8) (ini := false) (by decide +kernel) rfl (fun h => by cases h) (Nat.le_of_ble_eq_true rfl) (fun C hX hl hRm => by subst hl; exact pX8_isLetter_go hX hRm h)
theorem sv_8_29 : zSV 8 29 yX8_byteAt cX8_byteAt 2 (some .int) 1 := ⟨⟨gt_at 523 (by decide +kernel) rfl, gt_at 525 (by decide +kernel) rfl, gt_at 1 (by decide +kernel) rfl, gt_at 106 (by decide +kernel) rfl, gt_at 526 (by decide +kernel) rfl⟩, by decide +kernel, by decide +kernel, by decide +kernel⟩
noncomputable def pX8_endOfToken_22 (S : ZS) (M : ZM) (x0 : Int) (x3 : Int) : Option (Int × ZM) := if S.1 x0 = 8 then (pX8_byteAt S M x0 x3).bind fun q5 => some ((if q5.1 = 61 then (w32 (x3 + 1) : Int) else x3), q5.2) else none
set_option maxHeartbeats 2000000 in
set_option maxRecDepth 20000 in
theorem pX8_endOfToken_22_ok {C : ZC} {E : ZE} {S : ZS} {q : (Int × ZM)} (hX : zCx C E 8 cX8_endOfToken 4 (some .int) false) (hRm : czR C = { frames := 2, cells := 0, slots := 0, locals := 61 }) {M : ZM} {x0 : Int} {x3 : Int} (h : pX8_endOfToken_22 S M x0 x3 = some q) : zG C E 4 S 0 0 (zQ C E 0 0 (some (0, q.1)) S q.2) 22 [some (2, x0), none, none, some (0, x3)] [] M := by
  unfold pX8_endOfToken_22 at h
  refine zG.blk (pc' := 24) (l' := [some (2, x0), none, none, some (0, x3)]) (st' := [(0, x3), (2, x0)]) (M' := M) hX [(.aload_n 0, 0, 0, 0), (.iload_n 3, 0, 0, 0)] (by decide +kernel) rfl trivial ?_
  obtain ⟨g7, h⟩ := zif h
  obtain ⟨q5, e6, h⟩ := zbd h
  refine zG.callV (b := x0) (av := [(0, x3)]) (st := []) (ci := 8) hX (pX8_byteAt_ok e6) sv_8_29 rfl ⟨by decide, rfl⟩ g7 (by decide +kernel) (by rw [hRm]; exact ⟨Nat.le_of_ble_eq_true rfl, Nat.le_of_ble_eq_true rfl⟩) (by rw [hRm]; exact ⟨Nat.le_of_ble_eq_true rfl, Nat.le_of_ble_eq_true rfl⟩) (Nat.le_of_ble_eq_true rfl) ?_
  show zG C E 4 S 0 0 _ 27 [some (2, x0), none, none, some (0, x3)] [(0, q5.1)] q5.2
  refine zG.blk (pc' := 29) (l' := [some (2, x0), none, none, some (0, x3)]) (st' := [(0, 61), (0, q5.1)]) (M' := q5.2) hX [(.bipush 61, 0, 0, 0)] (by decide +kernel) rfl trivial ?_
  have key8 : zG C E 4 S 0 0 (zQ C E 0 0 (some (0, q.1)) S q.2) 39 [some (2, x0), none, none, some (0, x3)] [(0, (if q5.1 = 61 then (w32 (x3 + 1) : Int) else x3))] q5.2 := by
    cases h
    exact zG.iret hX (by decide +kernel)
  refine zG.icmp_ne (tgt := 38) (off := 9) hX (by decide +kernel) (by decide) (fun c9 => ?_) (fun c9 => ?_)
  · refine zG.blk (pc' := 39) (l' := [some (2, x0), none, none, some (0, x3)]) (st' := [(0, x3)]) (M' := q5.2) hX [(.iload_n 3, 0, 0, 0)] (by decide +kernel) rfl trivial ?_
    (have k := key8; simp only [if_neg c9] at k; exact k)
  · refine zG.blk (pc' := 35) (l' := [some (2, x0), none, none, some (0, x3)]) (st' := [(0, w32 (x3 + 1))]) (M' := q5.2) hX [(.iload_n 3, 0, 0, 0), (.iconst 1, 0, 0, 0), (.iadd, 0, 0, 0)] (by decide +kernel) rfl trivial ?_
    refine zG.goto (tgt := 39) (off := 4) hX (by decide +kernel) (by decide) ?_
    (have k := key8; simp only [if_pos c9] at k; exact k)
theorem ss_8_42 : zSS 8 42 yX8_isDigit cX8_isDigit 1 (some .boolean) 1 := ⟨⟨gt_at 527 (by decide +kernel) rfl, gt_at 528 (by decide +kernel) rfl, gt_at 106 (by decide +kernel) rfl, gt_at 529 (by decide +kernel) rfl⟩, by decide +kernel, by decide +kernel, by decide +kernel⟩
theorem ss_8_46 : zSS 8 46 yX8_isLetter cX8_isLetter 1 (some .boolean) 1 := ⟨⟨gt_at 530 (by decide +kernel) rfl, gt_at 531 (by decide +kernel) rfl, gt_at 106 (by decide +kernel) rfl, gt_at 532 (by decide +kernel) rfl⟩, by decide +kernel, by decide +kernel, by decide +kernel⟩
noncomputable def pX8_endOfToken_104 (S : ZS) (M : ZM) (x3 : Int) : Option (Int × ZM) := some (x3, M)
set_option maxHeartbeats 2000000 in
set_option maxRecDepth 20000 in
theorem pX8_endOfToken_104_ok {C : ZC} {E : ZE} {S : ZS} {q : (Int × ZM)} (hX : zCx C E 8 cX8_endOfToken 4 (some .int) false) (hRm : czR C = { frames := 2, cells := 0, slots := 0, locals := 61 }) {M : ZM} {x3 : Int} (h : pX8_endOfToken_104 S M x3 = some q) : zG C E 4 S 0 0 (zQ C E 0 0 (some (0, q.1)) S q.2) 104 [none, none, none, some (0, x3)] [] M := by
  unfold pX8_endOfToken_104 at h
  refine zG.blk (pc' := 105) (l' := [none, none, none, some (0, x3)]) (st' := [(0, x3)]) (M' := M) hX [(.iload_n 3, 0, 0, 0)] (by decide +kernel) rfl trivial ?_
  cases h
  exact zG.iret hX (by decide +kernel)
noncomputable def pX8_endOfToken_79 (S : ZS) : Nat → ZM → Int → Int → Option (Int × ZM)
  | 0 => fun _ _ _ => none
  | n + 1 => fun M x0 x3 => if S.1 x0 = 8 then if M x0 1 ≤ x3 then (pX8_endOfToken_104 S M x3) else ((pX8_byteAt S M x0 x3).bind fun q19 => (pX8_isLetter S q19.2 q19.1).bind fun q21 => if q21.1 = 0 then (pX8_endOfToken_104 S q21.2 x3) else (pX8_endOfToken_79 S n q21.2 x0 (w32 (x3 + 1)))) else none
set_option maxHeartbeats 2000000 in
set_option maxRecDepth 20000 in
theorem pX8_endOfToken_79_ok {C : ZC} {E : ZE} {S : ZS} {q : (Int × ZM)} (hX : zCx C E 8 cX8_endOfToken 4 (some .int) false) (hRm : czR C = { frames := 2, cells := 0, slots := 0, locals := 61 }) : ∀ (n : Nat) (M : ZM) (x0 : Int) (x3 : Int), pX8_endOfToken_79 S n M x0 x3 = some q → zG C E 4 S 0 0 (zQ C E 0 0 (some (0, q.1)) S q.2) 79 [some (2, x0), none, none, some (0, x3)] [] M := by
  intro n
  induction n with
  | zero => intro M x0 x3 h; cases h
  | succ n ih =>
    intro M x0 x3 h
    unfold pX8_endOfToken_79 at h
    obtain ⟨g17, h⟩ := zif h
    refine zG.blk (pc' := 84) (l' := [some (2, x0), none, none, some (0, x3)]) (st' := [(0, M x0 1), (0, x3)]) (M' := M) hX [(.iload_n 3, 0, 0, 0), (.aload_n 0, 0, 0, 0), (.getfield 21, 8, 1, 0)] (by decide +kernel) rfl (And.intro g17 trivial) ?_
    refine zG.icmp_ge (tgt := 104) (off := 20) hX (by decide +kernel) (by decide) (fun c18 => ?_) (fun c18 => ?_)
    · have h := zip c18 h
      exact zG.wk [false, true, true, true] (pX8_endOfToken_104_ok hX hRm h)
    · have h := zin c18 h
      refine zG.blk (pc' := 89) (l' := [some (2, x0), none, none, some (0, x3)]) (st' := [(0, x3), (2, x0)]) (M' := M) hX [(.aload_n 0, 0, 0, 0), (.iload_n 3, 0, 0, 0)] (by decide +kernel) rfl trivial ?_
      obtain ⟨q19, e20, h⟩ := zbd h
      refine zG.callV (b := x0) (av := [(0, x3)]) (st := []) (ci := 8) hX (pX8_byteAt_ok e20) sv_8_29 rfl ⟨by decide, rfl⟩ g17 (by decide +kernel) (by rw [hRm]; exact ⟨Nat.le_of_ble_eq_true rfl, Nat.le_of_ble_eq_true rfl⟩) (by rw [hRm]; exact ⟨Nat.le_of_ble_eq_true rfl, Nat.le_of_ble_eq_true rfl⟩) (Nat.le_of_ble_eq_true rfl) ?_
      show zG C E 4 S 0 0 _ 92 [some (2, x0), none, none, some (0, x3)] [(0, q19.1)] q19.2
      obtain ⟨q21, e22, h⟩ := zbd h
      refine zG.callS (av := [(0, q19.1)]) (st := []) hX (pX8_isLetter_ok e22) ss_8_46 rfl (by decide +kernel) (by rw [hRm]; exact ⟨Nat.le_of_ble_eq_true rfl, Nat.le_of_ble_eq_true rfl⟩) (by rw [hRm]; exact ⟨Nat.le_of_ble_eq_true rfl, Nat.le_of_ble_eq_true rfl⟩) (Nat.le_of_ble_eq_true rfl) ?_
      show zG C E 4 S 0 0 _ 95 [some (2, x0), none, none, some (0, x3)] [(0, q21.1)] q21.2
      refine zG.if_eq (tgt := 104) (off := 9) hX (by decide +kernel) (by decide) (fun c23 => ?_) (fun c23 => ?_)
      · have h := zip c23 h
        exact zG.wk [false, true, true, true] (pX8_endOfToken_104_ok hX hRm h)
      · have h := zin c23 h
        refine zG.blk (pc' := 101) (l' := [some (2, x0), none, none, some (0, w32 (x3 + 1))]) (st' := []) (M' := q21.2) hX [(.iinc 3 1, 0, 0, 0)] (by decide +kernel) rfl trivial ?_
        refine zG.goto (tgt := 79) (off := (-22)) hX (by decide +kernel) (by decide) ?_
        exact ih _ _ _ h
noncomputable def pX8_endOfToken_47 (S : ZS) : Nat → ZM → Int → Int → Option (Int × ZM)
  | 0 => fun _ _ _ => none
  | n + 1 => fun M x0 x3 => if S.1 x0 = 8 then if M x0 1 ≤ x3 then (pX8_endOfToken_104 S M x3) else ((pX8_byteAt S M x0 x3).bind fun q26 => (pX8_isDigit S q26.2 q26.1).bind fun q28 => if q28.1 = 0 then (pX8_endOfToken_104 S q28.2 x3) else (pX8_endOfToken_47 S n q28.2 x0 (w32 (x3 + 1)))) else none
set_option maxHeartbeats 2000000 in
set_option maxRecDepth 20000 in
theorem pX8_endOfToken_47_ok {C : ZC} {E : ZE} {S : ZS} {q : (Int × ZM)} (hX : zCx C E 8 cX8_endOfToken 4 (some .int) false) (hRm : czR C = { frames := 2, cells := 0, slots := 0, locals := 61 }) : ∀ (n : Nat) (M : ZM) (x0 : Int) (x3 : Int), pX8_endOfToken_47 S n M x0 x3 = some q → zG C E 4 S 0 0 (zQ C E 0 0 (some (0, q.1)) S q.2) 47 [some (2, x0), none, none, some (0, x3)] [] M := by
  intro n
  induction n with
  | zero => intro M x0 x3 h; cases h
  | succ n ih =>
    intro M x0 x3 h
    unfold pX8_endOfToken_47 at h
    obtain ⟨g24, h⟩ := zif h
    refine zG.blk (pc' := 52) (l' := [some (2, x0), none, none, some (0, x3)]) (st' := [(0, M x0 1), (0, x3)]) (M' := M) hX [(.iload_n 3, 0, 0, 0), (.aload_n 0, 0, 0, 0), (.getfield 21, 8, 1, 0)] (by decide +kernel) rfl (And.intro g24 trivial) ?_
    refine zG.icmp_ge (tgt := 104) (off := 52) hX (by decide +kernel) (by decide) (fun c25 => ?_) (fun c25 => ?_)
    · have h := zip c25 h
      exact zG.wk [false, true, true, true] (pX8_endOfToken_104_ok hX hRm h)
    · have h := zin c25 h
      refine zG.blk (pc' := 57) (l' := [some (2, x0), none, none, some (0, x3)]) (st' := [(0, x3), (2, x0)]) (M' := M) hX [(.aload_n 0, 0, 0, 0), (.iload_n 3, 0, 0, 0)] (by decide +kernel) rfl trivial ?_
      obtain ⟨q26, e27, h⟩ := zbd h
      refine zG.callV (b := x0) (av := [(0, x3)]) (st := []) (ci := 8) hX (pX8_byteAt_ok e27) sv_8_29 rfl ⟨by decide, rfl⟩ g24 (by decide +kernel) (by rw [hRm]; exact ⟨Nat.le_of_ble_eq_true rfl, Nat.le_of_ble_eq_true rfl⟩) (by rw [hRm]; exact ⟨Nat.le_of_ble_eq_true rfl, Nat.le_of_ble_eq_true rfl⟩) (Nat.le_of_ble_eq_true rfl) ?_
      show zG C E 4 S 0 0 _ 60 [some (2, x0), none, none, some (0, x3)] [(0, q26.1)] q26.2
      obtain ⟨q28, e29, h⟩ := zbd h
      refine zG.callS (av := [(0, q26.1)]) (st := []) hX (pX8_isDigit_ok e29) ss_8_42 rfl (by decide +kernel) (by rw [hRm]; exact ⟨Nat.le_of_ble_eq_true rfl, Nat.le_of_ble_eq_true rfl⟩) (by rw [hRm]; exact ⟨Nat.le_of_ble_eq_true rfl, Nat.le_of_ble_eq_true rfl⟩) (Nat.le_of_ble_eq_true rfl) ?_
      show zG C E 4 S 0 0 _ 63 [some (2, x0), none, none, some (0, x3)] [(0, q28.1)] q28.2
      refine zG.if_eq (tgt := 104) (off := 41) hX (by decide +kernel) (by decide) (fun c30 => ?_) (fun c30 => ?_)
      · have h := zip c30 h
        exact zG.wk [false, true, true, true] (pX8_endOfToken_104_ok hX hRm h)
      · have h := zin c30 h
        refine zG.blk (pc' := 69) (l' := [some (2, x0), none, none, some (0, w32 (x3 + 1))]) (st' := []) (M' := q28.2) hX [(.iinc 3 1, 0, 0, 0)] (by decide +kernel) rfl trivial ?_
        refine zG.goto (tgt := 47) (off := (-22)) hX (by decide +kernel) (by decide) ?_
        exact ih _ _ _ h
noncomputable def pX8_endOfToken (S : ZS) (M : ZM) (a0 : Int) (a1 : Int) : Option (Int × ZM) := if S.1 a0 = 8 then (pX8_byteAt S M a0 a1).bind fun q1 => if q1.1 = 60 then (pX8_endOfToken_22 S q1.2 a0 (w32 (a1 + 1))) else (if q1.1 = 62 then (pX8_endOfToken_22 S q1.2 a0 (w32 (a1 + 1))) else ((pX8_isDigit S q1.2 q1.1).bind fun q11 => if q11.1 = 0 then ((pX8_isLetter S q11.2 q1.1).bind fun q14 => if q14.1 = 0 then (pX8_endOfToken_104 S q14.2 (w32 (a1 + 1))) else (pX8_endOfToken_79 S zFU q14.2 a0 (w32 (a1 + 1)))) else (pX8_endOfToken_47 S zFU q11.2 a0 (w32 (a1 + 1))))) else none
set_option maxHeartbeats 2000000 in
set_option maxRecDepth 20000 in
theorem pX8_endOfToken_go {C : ZC} {E : ZE} {S : ZS} {M : ZM} {a0 a1 : Int} {q : (Int × ZM)} (hX : zCx C E 8 cX8_endOfToken 4 (some .int) false) (hRm : czR C = { frames := 2, cells := 0, slots := 0, locals := 61 }) (h : pX8_endOfToken  S M a0 a1 = some q) : zG C E 4 S 0 0 (zQ C E 0 0 (some (0, q.1)) S q.2) 0 [some (2, a0), some (0, a1), none, none] [] M := by
  unfold pX8_endOfToken at h
  refine zG.blk (pc' := 2) (l' := [some (2, a0), some (0, a1), none, none]) (st' := [(0, a1), (2, a0)]) (M' := M) hX [(.aload_n 0, 0, 0, 0), (.iload_n 1, 0, 0, 0)] (by decide +kernel) rfl trivial ?_
  obtain ⟨g3, h⟩ := zif h
  obtain ⟨q1, e2, h⟩ := zbd h
  refine zG.callV (b := a0) (av := [(0, a1)]) (st := []) (ci := 8) hX (pX8_byteAt_ok e2) sv_8_29 rfl ⟨by decide, rfl⟩ g3 (by decide +kernel) (by rw [hRm]; exact ⟨Nat.le_of_ble_eq_true rfl, Nat.le_of_ble_eq_true rfl⟩) (by rw [hRm]; exact ⟨Nat.le_of_ble_eq_true rfl, Nat.le_of_ble_eq_true rfl⟩) (Nat.le_of_ble_eq_true rfl) ?_
  show zG C E 4 S 0 0 _ 5 [some (2, a0), some (0, a1), none, none] [(0, q1.1)] q1.2
  refine zG.blk (pc' := 13) (l' := [some (2, a0), some (0, a1), some (0, q1.1), some (0, w32 (a1 + 1))]) (st' := [(0, 60), (0, q1.1)]) (M' := q1.2) hX [(.istore_n 2, 0, 0, 0), (.iload_n 1, 0, 0, 0), (.iconst 1, 0, 0, 0), (.iadd, 0, 0, 0), (.istore_n 3, 0, 0, 0), (.iload_n 2, 0, 0, 0), (.bipush 60, 0, 0, 0)] (by decide +kernel) rfl trivial ?_
  refine zG.icmp_eq (tgt := 22) (off := 9) hX (by decide +kernel) (by decide) (fun c4 => ?_) (fun c4 => ?_)
  · have h := zip c4 h
    exact zG.wk [true, false, false, true] (pX8_endOfToken_22_ok hX hRm h)
  · have h := zin c4 h
    refine zG.blk (pc' := 19) (l' := [some (2, a0), some (0, a1), some (0, q1.1), some (0, w32 (a1 + 1))]) (st' := [(0, 62), (0, q1.1)]) (M' := q1.2) hX [(.iload_n 2, 0, 0, 0), (.bipush 62, 0, 0, 0)] (by decide +kernel) rfl trivial ?_
    refine zG.icmp_ne (tgt := 40) (off := 21) hX (by decide +kernel) (by decide) (fun c10 => ?_) (fun c10 => ?_)
    · have h := zin c10 h
      refine zG.blk (pc' := 41) (l' := [some (2, a0), some (0, a1), some (0, q1.1), some (0, w32 (a1 + 1))]) (st' := [(0, q1.1)]) (M' := q1.2) hX [(.iload_n 2, 0, 0, 0)] (by decide +kernel) rfl trivial ?_
      obtain ⟨q11, e12, h⟩ := zbd h
      refine zG.callS (av := [(0, q1.1)]) (st := []) hX (pX8_isDigit_ok e12) ss_8_42 rfl (by decide +kernel) (by rw [hRm]; exact ⟨Nat.le_of_ble_eq_true rfl, Nat.le_of_ble_eq_true rfl⟩) (by rw [hRm]; exact ⟨Nat.le_of_ble_eq_true rfl, Nat.le_of_ble_eq_true rfl⟩) (Nat.le_of_ble_eq_true rfl) ?_
      show zG C E 4 S 0 0 _ 44 [some (2, a0), some (0, a1), some (0, q1.1), some (0, w32 (a1 + 1))] [(0, q11.1)] q11.2
      refine zG.if_eq (tgt := 72) (off := 28) hX (by decide +kernel) (by decide) (fun c13 => ?_) (fun c13 => ?_)
      · have h := zip c13 h
        refine zG.blk (pc' := 73) (l' := [some (2, a0), some (0, a1), some (0, q1.1), some (0, w32 (a1 + 1))]) (st' := [(0, q1.1)]) (M' := q11.2) hX [(.iload_n 2, 0, 0, 0)] (by decide +kernel) rfl trivial ?_
        obtain ⟨q14, e15, h⟩ := zbd h
        refine zG.callS (av := [(0, q1.1)]) (st := []) hX (pX8_isLetter_ok e15) ss_8_46 rfl (by decide +kernel) (by rw [hRm]; exact ⟨Nat.le_of_ble_eq_true rfl, Nat.le_of_ble_eq_true rfl⟩) (by rw [hRm]; exact ⟨Nat.le_of_ble_eq_true rfl, Nat.le_of_ble_eq_true rfl⟩) (Nat.le_of_ble_eq_true rfl) ?_
        show zG C E 4 S 0 0 _ 76 [some (2, a0), some (0, a1), some (0, q1.1), some (0, w32 (a1 + 1))] [(0, q14.1)] q14.2
        refine zG.if_eq (tgt := 104) (off := 28) hX (by decide +kernel) (by decide) (fun c16 => ?_) (fun c16 => ?_)
        · have h := zip c16 h
          exact zG.wk [false, false, false, true] (pX8_endOfToken_104_ok hX hRm h)
        · have h := zin c16 h
          exact zG.wk [true, false, false, true] (pX8_endOfToken_79_ok hX hRm zFU _ _ _ h)
      · have h := zin c13 h
        exact zG.wk [true, false, false, true] (pX8_endOfToken_47_ok hX hRm zFU _ _ _ h)
    · have h := zip c10 h
      exact zG.wk [true, false, false, true] (pX8_endOfToken_22_ok hX hRm h)
theorem pX8_endOfToken_ok {l : Launch} {E : ZE} {S : ZS} {M : ZM} {a0 a1 : Int} {q : (Int × ZM)} (h : pX8_endOfToken S M a0 a1 = some q) : zMet l yX8_endOfToken cX8_endOfToken 4 (some .int) 2 61 0 0 E S M [(2, a0), (0, a1)] (some (0, q.1)) S q.2 :=
  zMet.of (o := 8) (ini := false) (by decide +kernel) rfl (fun h => by cases h) (Nat.le_of_ble_eq_true rfl) (fun C hX hl hRm => by subst hl; exact pX8_endOfToken_go hX hRm h)
noncomputable def pX8_numberToken_16 (S : ZS) : Nat → ZM → Int → Int → Int → Int → Option (Int × ZM)
  | 0 => fun _ _ _ _ _ => none
  | n + 1 => fun M x0 x2 x3 x4 => if x2 ≤ x4 then (some (w32 (1000 + x3), M)) else (if S.1 x0 = 8 then (pX8_byteAt S M x0 x4).bind fun q3 => pX8_numberToken_16 S n q3.2 x0 x2 (w32 ((w32 ((w32 (x3 * 10)) + q3.1)) - 48)) (w32 (x4 + 1)) else none)
set_option maxHeartbeats 2000000 in
set_option maxRecDepth 20000 in
theorem pX8_numberToken_16_ok {C : ZC} {E : ZE} {S : ZS} {q : (Int × ZM)} (hX : zCx C E 8 cX8_numberToken 5 (some .int) false) (hRm : czR C = { frames := 2, cells := 0, slots := 0, locals := 61 }) : ∀ (n : Nat) (M : ZM) (x0 : Int) (x2 : Int) (x3 : Int) (x4 : Int), pX8_numberToken_16 S n M x0 x2 x3 x4 = some q → zG C E 5 S 0 0 (zQ C E 0 0 (some (0, q.1)) S q.2) 16 [some (2, x0), none, some (0, x2), some (0, x3), some (0, x4)] [] M := by
  intro n
  induction n with
  | zero => intro M x0 x2 x3 x4 h; cases h
  | succ n ih =>
    intro M x0 x2 x3 x4 h
    unfold pX8_numberToken_16 at h
    refine zG.blk (pc' := 19) (l' := [some (2, x0), none, some (0, x2), some (0, x3), some (0, x4)]) (st' := [(0, x2), (0, x4)]) (M' := M) hX [(.iload 4, 0, 0, 0), (.iload_n 2, 0, 0, 0)] (by decide +kernel) rfl trivial ?_
    refine zG.icmp_ge (tgt := 43) (off := 24) hX (by decide +kernel) (by decide) (fun c2 => ?_) (fun c2 => ?_)
    · have h := zip c2 h
      refine zG.blk (pc' := 48) (l' := [some (2, x0), none, some (0, x2), some (0, x3), some (0, x4)]) (st' := [(0, w32 (1000 + x3))]) (M' := M) hX [(.sipush 1000, 0, 0, 0), (.iload_n 3, 0, 0, 0), (.iadd, 0, 0, 0)] (by decide +kernel) rfl trivial ?_
      cases h
      exact zG.iret hX (by decide +kernel)
    · have h := zin c2 h
      refine zG.blk (pc' := 29) (l' := [some (2, x0), none, some (0, x2), some (0, x3), some (0, x4)]) (st' := [(0, x4), (2, x0), (0, w32 (x3 * 10))]) (M' := M) hX [(.iload_n 3, 0, 0, 0), (.bipush 10, 0, 0, 0), (.imul, 0, 0, 0), (.aload_n 0, 0, 0, 0), (.iload 4, 0, 0, 0)] (by decide +kernel) rfl trivial ?_
      obtain ⟨g5, h⟩ := zif h
      obtain ⟨q3, e4, h⟩ := zbd h
      refine zG.callV (b := x0) (av := [(0, x4)]) (st := [(0, w32 (x3 * 10))]) (ci := 8) hX (pX8_byteAt_ok e4) sv_8_29 rfl ⟨by decide, rfl⟩ g5 (by decide +kernel) (by rw [hRm]; exact ⟨Nat.le_of_ble_eq_true rfl, Nat.le_of_ble_eq_true rfl⟩) (by rw [hRm]; exact ⟨Nat.le_of_ble_eq_true rfl, Nat.le_of_ble_eq_true rfl⟩) (Nat.le_of_ble_eq_true rfl) ?_
      show zG C E 5 S 0 0 _ 32 [some (2, x0), none, some (0, x2), some (0, x3), some (0, x4)] [(0, q3.1), (0, w32 (x3 * 10))] q3.2
      refine zG.blk (pc' := 40) (l' := [some (2, x0), none, some (0, x2), some (0, w32 ((w32 ((w32 (x3 * 10)) + q3.1)) - 48)), some (0, w32 (x4 + 1))]) (st' := []) (M' := q3.2) hX [(.iadd, 0, 0, 0), (.bipush 48, 0, 0, 0), (.isub, 0, 0, 0), (.istore_n 3, 0, 0, 0), (.iinc 4 1, 0, 0, 0)] (by decide +kernel) rfl trivial ?_
      refine zG.goto (tgt := 16) (off := (-24)) hX (by decide +kernel) (by decide) ?_
      exact ih _ _ _ _ _ h
noncomputable def pX8_numberToken (S : ZS) (M : ZM) (a0 : Int) (a1 : Int) (a2 : Int) : Option (Int × ZM) := if w32 (a2 - a1) ≤ 5 then (pX8_numberToken_16 S zFU M a0 a2 0 a1) else (some (304, M))
set_option maxHeartbeats 2000000 in
set_option maxRecDepth 20000 in
theorem pX8_numberToken_go {C : ZC} {E : ZE} {S : ZS} {M : ZM} {a0 a1 a2 : Int} {q : (Int × ZM)} (hX : zCx C E 8 cX8_numberToken 5 (some .int) false) (hRm : czR C = { frames := 2, cells := 0, slots := 0, locals := 61 }) (h : pX8_numberToken  S M a0 a1 a2 = some q) : zG C E 5 S 0 0 (zQ C E 0 0 (some (0, q.1)) S q.2) 0 [some (2, a0), some (0, a1), some (0, a2), none, none] [] M := by
  unfold pX8_numberToken at h
  refine zG.blk (pc' := 4) (l' := [some (2, a0), some (0, a1), some (0, a2), none, none]) (st' := [(0, 5), (0, w32 (a2 - a1))]) (M' := M) hX [(.iload_n 2, 0, 0, 0), (.iload_n 1, 0, 0, 0), (.isub, 0, 0, 0), (.iconst 5, 0, 0, 0)] (by decide +kernel) rfl trivial ?_
  refine zG.icmp_le (tgt := 11) (off := 7) hX (by decide +kernel) (by decide) (fun c1 => ?_) (fun c1 => ?_)
  · have h := zip c1 h
    refine zG.blk (pc' := 16) (l' := [some (2, a0), some (0, a1), some (0, a2), some (0, 0), some (0, a1)]) (st' := []) (M' := M) hX [(.iconst 0, 0, 0, 0), (.istore_n 3, 0, 0, 0), (.iload_n 1, 0, 0, 0), (.istore 4, 0, 0, 0)] (by decide +kernel) rfl trivial ?_
    exact zG.wk [true, false, true, true, true] (pX8_numberToken_16_ok hX hRm zFU _ _ _ _ _ h)
  · have h := zin c1 h
    refine zG.blk (pc' := 10) (l' := [some (2, a0), some (0, a1), some (0, a2), none, none]) (st' := [(0, 304)]) (M' := M) hX [(.sipush 304, 0, 0, 0)] (by decide +kernel) rfl trivial ?_
    cases h
    exact zG.iret hX (by decide +kernel)
theorem pX8_numberToken_ok {l : Launch} {E : ZE} {S : ZS} {M : ZM} {a0 a1 a2 : Int} {q : (Int × ZM)} (h : pX8_numberToken S M a0 a1 a2 = some q) : zMet l yX8_numberToken cX8_numberToken 5 (some .int) 2 61 0 0 E S M [(2, a0), (0, a1), (0, a2)] (some (0, q.1)) S q.2 :=
  zMet.of (o := 8) (ini := false) (by decide +kernel) rfl (fun h => by cases h) (Nat.le_of_ble_eq_true rfl) (fun C hX hl hRm => by subst hl; exact pX8_numberToken_go hX hRm h)
noncomputable def pX6_strokes_4 (S : ZS) : Nat → ZM → Int → Int → Int → Option (Int × ZM)
  | 0 => fun _ _ _ _ => none
  | n + 1 => fun M x0 x1 x2 => if 36 ≤ x2 then (some (x1, M)) else (if S.1 x0 = 6 then if S.1 (M x0 2) = 100 ∧ (0 : Int) ≤ x2 ∧ x2 < S.2.1 (M x0 2) then pX6_strokes_4 S n M x0 (if M (M x0 2) x2 = (-1) then (x1 : Int) else (w32 (x1 + 1))) (w32 (x2 + 1)) else none else none)
set_option maxHeartbeats 2000000 in
set_option maxRecDepth 20000 in
theorem pX6_strokes_4_ok {C : ZC} {E : ZE} {S : ZS} {q : (Int × ZM)} (hX : zCx C E 6 cX6_strokes 3 (some .int) false) (hRm : czR C = { frames := 1, cells := 0, slots := 0, locals := 40 }) : ∀ (n : Nat) (M : ZM) (x0 : Int) (x1 : Int) (x2 : Int), pX6_strokes_4 S n M x0 x1 x2 = some q → zG C E 3 S 0 0 (zQ C E 0 0 (some (0, q.1)) S q.2) 4 [some (2, x0), some (0, x1), some (0, x2)] [] M := by
  intro n
  induction n with
  | zero => intro M x0 x1 x2 h; cases h
  | succ n ih =>
    intro M x0 x1 x2 h
    unfold pX6_strokes_4 at h
    refine zG.blk (pc' := 7) (l' := [some (2, x0), some (0, x1), some (0, x2)]) (st' := [(0, 36), (0, x2)]) (M' := M) hX [(.iload_n 2, 0, 0, 0), (.bipush 36, 0, 0, 0)] (by decide +kernel) rfl trivial ?_
    refine zG.icmp_ge (tgt := 29) (off := 22) hX (by decide +kernel) (by decide) (fun c1 => ?_) (fun c1 => ?_)
    · have h := zip c1 h
      refine zG.blk (pc' := 30) (l' := [some (2, x0), some (0, x1), some (0, x2)]) (st' := [(0, x1)]) (M' := M) hX [(.iload_n 1, 0, 0, 0)] (by decide +kernel) rfl trivial ?_
      cases h
      exact zG.iret hX (by decide +kernel)
    · have h := zin c1 h
      obtain ⟨g2, h⟩ := zif h
      obtain ⟨g3, h⟩ := zif h
      refine zG.blk (pc' := 17) (l' := [some (2, x0), some (0, x1), some (0, x2)]) (st' := [(0, (-1)), (0, M (M x0 2) x2)]) (M' := M) hX [(.aload_n 0, 0, 0, 0), (.getfield 18, 6, 2, 2), (.iload_n 2, 0, 0, 0), (.iaload, 0, 0, 0), (.iconst (-1), 0, 0, 0)] (by decide +kernel) rfl (And.intro g2 (And.intro g3 trivial)) ?_
      have key4 : zG C E 3 S 0 0 (zQ C E 0 0 (some (0, q.1)) S q.2) 23 [some (2, x0), some (0, (if M (M x0 2) x2 = (-1) then (x1 : Int) else (w32 (x1 + 1)))), some (0, x2)] [] M := by
        refine zG.blk (pc' := 26) (l' := [some (2, x0), some (0, (if M (M x0 2) x2 = (-1) then (x1 : Int) else (w32 (x1 + 1)))), some (0, w32 (x2 + 1))]) (st' := []) (M' := M) hX [(.iinc 2 1, 0, 0, 0)] (by decide +kernel) rfl trivial ?_
        refine zG.goto (tgt := 4) (off := (-22)) hX (by decide +kernel) (by decide) ?_
        exact ih _ _ _ _ h
      refine zG.icmp_eq (tgt := 23) (off := 6) hX (by decide +kernel) (by decide) (fun c5 => ?_) (fun c5 => ?_)
      · (have k := key4; simp only [if_pos c5] at k; exact k)
      · refine zG.blk (pc' := 23) (l' := [some (2, x0), some (0, w32 (x1 + 1)), some (0, x2)]) (st' := []) (M' := M) hX [(.iinc 1 1, 0, 0, 0)] (by decide +kernel) rfl trivial ?_
        (have k := key4; simp only [if_neg c5] at k; exact k)
noncomputable def pX6_strokes (S : ZS) (M : ZM) (a0 : Int) : Option (Int × ZM) := pX6_strokes_4 S zFU M a0 0 0
set_option maxHeartbeats 2000000 in
set_option maxRecDepth 20000 in
theorem pX6_strokes_go {C : ZC} {E : ZE} {S : ZS} {M : ZM} {a0 : Int} {q : (Int × ZM)} (hX : zCx C E 6 cX6_strokes 3 (some .int) false) (hRm : czR C = { frames := 1, cells := 0, slots := 0, locals := 40 }) (h : pX6_strokes  S M a0 = some q) : zG C E 3 S 0 0 (zQ C E 0 0 (some (0, q.1)) S q.2) 0 [some (2, a0), none, none] [] M := by
  unfold pX6_strokes at h
  refine zG.blk (pc' := 4) (l' := [some (2, a0), some (0, 0), some (0, 0)]) (st' := []) (M' := M) hX [(.iconst 0, 0, 0, 0), (.istore_n 1, 0, 0, 0), (.iconst 0, 0, 0, 0), (.istore_n 2, 0, 0, 0)] (by decide +kernel) rfl trivial ?_
  exact (pX6_strokes_4_ok hX hRm zFU _ _ _ _ h)
theorem pX6_strokes_ok {l : Launch} {E : ZE} {S : ZS} {M : ZM} {a0 : Int} {q : (Int × ZM)} (h : pX6_strokes S M a0 = some q) : zMet l yX6_strokes cX6_strokes 3 (some .int) 1 40 0 0 E S M [(2, a0)] (some (0, q.1)) S q.2 :=
  zMet.of (o := 6) (ini := false) (by decide +kernel) rfl (fun h => by cases h) (Nat.le_of_ble_eq_true rfl) (fun C hX hl hRm => by subst hl; exact pX6_strokes_go hX hRm h)
noncomputable def pX7_canStand_32 (S : ZS) (M : ZM) : Option (Int × ZM) := some (0, M)
set_option maxHeartbeats 2000000 in
set_option maxRecDepth 20000 in
theorem pX7_canStand_32_ok {C : ZC} {E : ZE} {S : ZS} {q : (Int × ZM)} (hX : zCx C E 7 cX7_canStand 4 (some .boolean) false) (hRm : czR C = { frames := 1, cells := 0, slots := 0, locals := 40 }) {M : ZM} (h : pX7_canStand_32 S M = some q) : zG C E 4 S 0 0 (zQ C E 0 0 (some (0, q.1)) S q.2) 32 [none, none, none, none] [] M := by
  unfold pX7_canStand_32 at h
  refine zG.blk (pc' := 33) (l' := [none, none, none, none]) (st' := [(0, 0)]) (M' := M) hX [(.iconst 0, 0, 0, 0)] (by decide +kernel) rfl trivial ?_
  cases h
  exact zG.zret hX (by decide +kernel) (Or.inl rfl)
noncomputable def pX7_canStand_82 (S : ZS) (M : ZM) (y0 : Int) : Option (Int × ZM) := if y0 = 0 ∨ y0 = 1 then some (y0, M) else none
set_option maxHeartbeats 2000000 in
set_option maxRecDepth 20000 in
theorem pX7_canStand_82_ok {C : ZC} {E : ZE} {S : ZS} {q : (Int × ZM)} (hX : zCx C E 7 cX7_canStand 4 (some .boolean) false) (hRm : czR C = { frames := 1, cells := 0, slots := 0, locals := 40 }) {M : ZM} {y0 : Int} (h : pX7_canStand_82 S M y0 = some q) : zG C E 4 S 0 0 (zQ C E 0 0 (some (0, q.1)) S q.2) 82 [none, none, none, none] [(0, y0)] M := by
  unfold pX7_canStand_82 at h
  obtain ⟨g7, h⟩ := zif h
  cases h
  exact zG.zret hX (by decide +kernel) g7
noncomputable def pX7_canStand_77 (S : ZS) (M : ZM) : Option (Int × ZM) := pX7_canStand_82 S M 1
set_option maxHeartbeats 2000000 in
set_option maxRecDepth 20000 in
theorem pX7_canStand_77_ok {C : ZC} {E : ZE} {S : ZS} {q : (Int × ZM)} (hX : zCx C E 7 cX7_canStand 4 (some .boolean) false) (hRm : czR C = { frames := 1, cells := 0, slots := 0, locals := 40 }) {M : ZM} (h : pX7_canStand_77 S M = some q) : zG C E 4 S 0 0 (zQ C E 0 0 (some (0, q.1)) S q.2) 77 [none, none, none, none] [] M := by
  unfold pX7_canStand_77 at h
  refine zG.blk (pc' := 78) (l' := [none, none, none, none]) (st' := [(0, 1)]) (M' := M) hX [(.iconst 1, 0, 0, 0)] (by decide +kernel) rfl trivial ?_
  refine zG.goto (tgt := 82) (off := 4) hX (by decide +kernel) (by decide) ?_
  exact (pX7_canStand_82_ok hX hRm h)
noncomputable def pX7_canStand_29 (S : ZS) (M : ZM) (x0 : Int) (x1 : Int) (y0 : Int) (y1 : Int) : Option (Int × ZM) := if y1 = y0 then (if x1 = 256 then (if S.1 x0 = 7 then if S.1 (M x0 0) = 9 then some ((if 5 ≤ M (M x0 0) 3 then (0 : Int) else 1), M) else none else none) else (if x1 = 269 then (if S.1 x0 = 7 then if S.1 (M x0 0) = 9 then if 12 ≤ M (M x0 0) 4 then (pX7_canStand_82 S M 0) else (pX7_canStand_77 S M) else none else none) else (pX7_canStand_77 S M))) else (pX7_canStand_32 S M)
set_option maxHeartbeats 2000000 in
set_option maxRecDepth 20000 in
theorem pX7_canStand_29_ok {C : ZC} {E : ZE} {S : ZS} {q : (Int × ZM)} (hX : zCx C E 7 cX7_canStand 4 (some .boolean) false) (hRm : czR C = { frames := 1, cells := 0, slots := 0, locals := 40 }) {M : ZM} {x0 : Int} {x1 : Int} {y0 : Int} {y1 : Int} (h : pX7_canStand_29 S M x0 x1 y0 y1 = some q) : zG C E 4 S 0 0 (zQ C E 0 0 (some (0, q.1)) S q.2) 29 [some (2, x0), some (0, x1), none, none] [(0, y0), (0, y1)] M := by
  unfold pX7_canStand_29 at h
  refine zG.icmp_eq (tgt := 34) (off := 5) hX (by decide +kernel) (by decide) (fun c4 => ?_) (fun c4 => ?_)
  · have h := zip c4 h
    refine zG.blk (pc' := 38) (l' := [some (2, x0), some (0, x1), none, none]) (st' := [(0, 256), (0, x1)]) (M' := M) hX [(.iload_n 1, 0, 0, 0), (.sipush 256, 0, 0, 0)] (by decide +kernel) rfl trivial ?_
    refine zG.icmp_ne (tgt := 58) (off := 20) hX (by decide +kernel) (by decide) (fun c5 => ?_) (fun c5 => ?_)
    · have h := zin c5 h
      refine zG.blk (pc' := 62) (l' := [some (2, x0), some (0, x1), none, none]) (st' := [(0, 269), (0, x1)]) (M' := M) hX [(.iload_n 1, 0, 0, 0), (.sipush 269, 0, 0, 0)] (by decide +kernel) rfl trivial ?_
      refine zG.icmp_ne (tgt := 77) (off := 15) hX (by decide +kernel) (by decide) (fun c6 => ?_) (fun c6 => ?_)
      · have h := zin c6 h
        exact zG.wk [false, false, true, true] (pX7_canStand_77_ok hX hRm h)
      · have h := zip c6 h
        obtain ⟨g8, h⟩ := zif h
        obtain ⟨g9, h⟩ := zif h
        refine zG.blk (pc' := 74) (l' := [some (2, x0), some (0, x1), none, none]) (st' := [(0, 12), (0, M (M x0 0) 4)]) (M' := M) hX [(.aload_n 0, 0, 0, 0), (.getfield 12, 7, 0, 2), (.getfield 68, 9, 4, 0), (.bipush 12, 0, 0, 0)] (by decide +kernel) rfl (And.intro g8 (And.intro g9 trivial)) ?_
        refine zG.icmp_ge (tgt := 81) (off := 7) hX (by decide +kernel) (by decide) (fun c10 => ?_) (fun c10 => ?_)
        · have h := zip c10 h
          refine zG.blk (pc' := 82) (l' := [some (2, x0), some (0, x1), none, none]) (st' := [(0, 0)]) (M' := M) hX [(.iconst 0, 0, 0, 0)] (by decide +kernel) rfl trivial ?_
          exact zG.wk [false, false, true, true] (pX7_canStand_82_ok hX hRm h)
        · have h := zin c10 h
          exact zG.wk [false, false, true, true] (pX7_canStand_77_ok hX hRm h)
    · have h := zip c5 h
      obtain ⟨g11, h⟩ := zif h
      obtain ⟨g12, h⟩ := zif h
      refine zG.blk (pc' := 49) (l' := [some (2, x0), some (0, x1), none, none]) (st' := [(0, 5), (0, M (M x0 0) 3)]) (M' := M) hX [(.aload_n 0, 0, 0, 0), (.getfield 12, 7, 0, 2), (.getfield 65, 9, 3, 0), (.iconst 5, 0, 0, 0)] (by decide +kernel) rfl (And.intro g11 (And.intro g12 trivial)) ?_
      have key13 : zG C E 4 S 0 0 (zQ C E 0 0 (some (0, q.1)) S q.2) 57 [some (2, x0), some (0, x1), none, none] [(0, (if 5 ≤ M (M x0 0) 3 then (0 : Int) else 1))] M := by
        cases h
        exact zG.zret hX (by decide +kernel) (z01_ite (Or.inl rfl) (Or.inr rfl))
      refine zG.icmp_ge (tgt := 56) (off := 7) hX (by decide +kernel) (by decide) (fun c14 => ?_) (fun c14 => ?_)
      · refine zG.blk (pc' := 57) (l' := [some (2, x0), some (0, x1), none, none]) (st' := [(0, 0)]) (M' := M) hX [(.iconst 0, 0, 0, 0)] (by decide +kernel) rfl trivial ?_
        (have k := key13; simp only [if_pos c14] at k; exact k)
      · refine zG.blk (pc' := 53) (l' := [some (2, x0), some (0, x1), none, none]) (st' := [(0, 1)]) (M' := M) hX [(.iconst 1, 0, 0, 0)] (by decide +kernel) rfl trivial ?_
        refine zG.goto (tgt := 57) (off := 4) hX (by decide +kernel) (by decide) ?_
        (have k := key13; simp only [if_neg c14] at k; exact k)
  · have h := zin c4 h
    exact zG.wk [false, false, true, true] (pX7_canStand_32_ok hX hRm h)
noncomputable def pX7_canStand_9 (S : ZS) (M : ZM) (x0 : Int) (x1 : Int) (x2 : Int) (y0 : Int) : Option (Int × ZM) := if 40 ≤ x2 then (pX7_canStand_32 S M) else (pX7_canStand_29 S M x0 x1 (if x1 = 268 then (1 : Int) else 0) y0)
set_option maxHeartbeats 2000000 in
set_option maxRecDepth 20000 in
theorem pX7_canStand_9_ok {C : ZC} {E : ZE} {S : ZS} {q : (Int × ZM)} (hX : zCx C E 7 cX7_canStand 4 (some .boolean) false) (hRm : czR C = { frames := 1, cells := 0, slots := 0, locals := 40 }) {M : ZM} {x0 : Int} {x1 : Int} {x2 : Int} {y0 : Int} (h : pX7_canStand_9 S M x0 x1 x2 y0 = some q) : zG C E 4 S 0 0 (zQ C E 0 0 (some (0, q.1)) S q.2) 9 [some (2, x0), some (0, x1), some (0, x2), none] [(0, y0)] M := by
  unfold pX7_canStand_9 at h
  refine zG.blk (pc' := 13) (l' := [some (2, x0), some (0, x1), some (0, x2), some (0, y0)]) (st' := [(0, 40), (0, x2)]) (M' := M) hX [(.istore_n 3, 0, 0, 0), (.iload_n 2, 0, 0, 0), (.bipush 40, 0, 0, 0)] (by decide +kernel) rfl trivial ?_
  refine zG.icmp_ge (tgt := 32) (off := 19) hX (by decide +kernel) (by decide) (fun c2 => ?_) (fun c2 => ?_)
  · have h := zip c2 h
    exact zG.wk [false, false, false, false] (pX7_canStand_32_ok hX hRm h)
  · have h := zin c2 h
    refine zG.blk (pc' := 21) (l' := [some (2, x0), some (0, x1), some (0, x2), some (0, y0)]) (st' := [(0, 268), (0, x1), (0, y0)]) (M' := M) hX [(.iload_n 3, 0, 0, 0), (.iload_n 1, 0, 0, 0), (.sipush 268, 0, 0, 0)] (by decide +kernel) rfl trivial ?_
    have key3 : zG C E 4 S 0 0 (zQ C E 0 0 (some (0, q.1)) S q.2) 29 [some (2, x0), some (0, x1), some (0, x2), some (0, y0)] [(0, (if x1 = 268 then (1 : Int) else 0)), (0, y0)] M := by
      exact zG.wk [true, true, false, false] (pX7_canStand_29_ok hX hRm h)
    refine zG.icmp_ne (tgt := 28) (off := 7) hX (by decide +kernel) (by decide) (fun c15 => ?_) (fun c15 => ?_)
    · refine zG.blk (pc' := 29) (l' := [some (2, x0), some (0, x1), some (0, x2), some (0, y0)]) (st' := [(0, 0), (0, y0)]) (M' := M) hX [(.iconst 0, 0, 0, 0)] (by decide +kernel) rfl trivial ?_
      (have k := key3; simp only [if_neg c15] at k; exact k)
    · refine zG.blk (pc' := 25) (l' := [some (2, x0), some (0, x1), some (0, x2), some (0, y0)]) (st' := [(0, 1), (0, y0)]) (M' := M) hX [(.iconst 1, 0, 0, 0)] (by decide +kernel) rfl trivial ?_
      refine zG.goto (tgt := 29) (off := 4) hX (by decide +kernel) (by decide) ?_
      (have k := key3; simp only [if_pos c15] at k; exact k)
noncomputable def pX7_canStand (S : ZS) (M : ZM) (a0 : Int) (a1 : Int) (a2 : Int) : Option (Int × ZM) := pX7_canStand_9 S M a0 a1 a2 (if a2 = 0 then (1 : Int) else 0)
set_option maxHeartbeats 2000000 in
set_option maxRecDepth 20000 in
theorem pX7_canStand_go {C : ZC} {E : ZE} {S : ZS} {M : ZM} {a0 a1 a2 : Int} {q : (Int × ZM)} (hX : zCx C E 7 cX7_canStand 4 (some .boolean) false) (hRm : czR C = { frames := 1, cells := 0, slots := 0, locals := 40 }) (h : pX7_canStand  S M a0 a1 a2 = some q) : zG C E 4 S 0 0 (zQ C E 0 0 (some (0, q.1)) S q.2) 0 [some (2, a0), some (0, a1), some (0, a2), none] [] M := by
  unfold pX7_canStand at h
  refine zG.blk (pc' := 1) (l' := [some (2, a0), some (0, a1), some (0, a2), none]) (st' := [(0, a2)]) (M' := M) hX [(.iload_n 2, 0, 0, 0)] (by decide +kernel) rfl trivial ?_
  have key1 : zG C E 4 S 0 0 (zQ C E 0 0 (some (0, q.1)) S q.2) 9 [some (2, a0), some (0, a1), some (0, a2), none] [(0, (if a2 = 0 then (1 : Int) else 0))] M := by
    exact (pX7_canStand_9_ok hX hRm h)
  refine zG.if_ne (tgt := 8) (off := 7) hX (by decide +kernel) (by decide) (fun c16 => ?_) (fun c16 => ?_)
  · refine zG.blk (pc' := 9) (l' := [some (2, a0), some (0, a1), some (0, a2), none]) (st' := [(0, 0)]) (M' := M) hX [(.iconst 0, 0, 0, 0)] (by decide +kernel) rfl trivial ?_
    (have k := key1; simp only [if_neg c16] at k; exact k)
  · refine zG.blk (pc' := 5) (l' := [some (2, a0), some (0, a1), some (0, a2), none]) (st' := [(0, 1)]) (M' := M) hX [(.iconst 1, 0, 0, 0)] (by decide +kernel) rfl trivial ?_
    refine zG.goto (tgt := 9) (off := 4) hX (by decide +kernel) (by decide) ?_
    (have k := key1; simp only [if_pos c16] at k; exact k)
theorem pX7_canStand_ok {l : Launch} {E : ZE} {S : ZS} {M : ZM} {a0 a1 a2 : Int} {q : (Int × ZM)} (h : pX7_canStand S M a0 a1 a2 = some q) : zMet l yX7_canStand cX7_canStand 4 (some .boolean) 1 40 0 0 E S M [(2, a0), (0, a1), (0, a2)] (some (0, q.1)) S q.2 :=
  zMet.of (o := 7) (ini := false) (by decide +kernel) rfl (fun h => by cases h) (Nat.le_of_ble_eq_true rfl) (fun C hX hl hRm => by subst hl; exact pX7_canStand_go hX hRm h)
theorem sv_8_76 : zSV 8 76 yX8_fail cX8_fail 2 (some .boolean) 1 := ⟨⟨gt_at 632 (by decide +kernel) rfl, gt_at 612 (by decide +kernel) rfl, gt_at 613 (by decide +kernel) rfl, gt_at 106 (by decide +kernel) rfl, gt_at 614 (by decide +kernel) rfl⟩, by decide +kernel, by decide +kernel, by decide +kernel⟩
noncomputable def pX8_takeNumber_53 (S : ZS) (M : ZM) (x0 : Int) : Option (Int × ZM) := if S.1 x0 = 8 then (pX8_fail S M x0 1).bind fun q6 => some ((-1), q6.2) else none
set_option maxHeartbeats 2000000 in
set_option maxRecDepth 20000 in
theorem pX8_takeNumber_53_ok {C : ZC} {E : ZE} {S : ZS} {q : (Int × ZM)} (hX : zCx C E 8 cX8_takeNumber 5 (some .int) false) (hRm : czR C = { frames := 2, cells := 0, slots := 0, locals := 61 }) {M : ZM} {x0 : Int} (h : pX8_takeNumber_53 S M x0 = some q) : zG C E 5 S 0 0 (zQ C E 0 0 (some (0, q.1)) S q.2) 53 [some (2, x0), none, none, none, none] [] M := by
  unfold pX8_takeNumber_53 at h
  refine zG.blk (pc' := 55) (l' := [some (2, x0), none, none, none, none]) (st' := [(0, 1), (2, x0)]) (M' := M) hX [(.aload_n 0, 0, 0, 0), (.iconst 1, 0, 0, 0)] (by decide +kernel) rfl trivial ?_
  obtain ⟨g8, h⟩ := zif h
  obtain ⟨q6, e7, h⟩ := zbd h
  refine zG.callV (b := x0) (av := [(0, 1)]) (st := []) (ci := 8) hX (pX8_fail_ok e7) sv_8_76 rfl ⟨by decide, rfl⟩ g8 (by decide +kernel) (by rw [hRm]; exact ⟨Nat.le_of_ble_eq_true rfl, Nat.le_of_ble_eq_true rfl⟩) (by rw [hRm]; exact ⟨Nat.le_of_ble_eq_true rfl, Nat.le_of_ble_eq_true rfl⟩) (Nat.le_of_ble_eq_true rfl) ?_
  show zG C E 5 S 0 0 _ 58 [some (2, x0), none, none, none, none] [(0, q6.1)] q6.2
  refine zG.blk (pc' := 60) (l' := [some (2, x0), none, none, none, none]) (st' := [(0, (-1))]) (M' := q6.2) hX [(.pop, 0, 0, 0), (.iconst (-1), 0, 0, 0)] (by decide +kernel) rfl trivial ?_
  cases h
  exact zG.iret hX (by decide +kernel)
noncomputable def pX8_takeNumber_27 (S : ZS) (M : ZM) (x0 : Int) (x1 : Int) (x2 : Int) (x3 : Int) : Option (Int × ZM) := if x3 = 304 then (pX8_takeNumber_53 S M x0) else (if w32 (x3 - 1000) < x1 then (pX8_takeNumber_53 S M x0) else (if w32 (x3 - 1000) ≤ x2 then (if S.1 x0 = 8 then zlet (upM M x0 4 (w32 ((M x0 4) + 1))) fun M12 => some (w32 (x3 - 1000), M12) else none) else (pX8_takeNumber_53 S M x0)))
set_option maxHeartbeats 2000000 in
set_option maxRecDepth 20000 in
theorem pX8_takeNumber_27_ok {C : ZC} {E : ZE} {S : ZS} {q : (Int × ZM)} (hX : zCx C E 8 cX8_takeNumber 5 (some .int) false) (hRm : czR C = { frames := 2, cells := 0, slots := 0, locals := 61 }) {M : ZM} {x0 : Int} {x1 : Int} {x2 : Int} {x3 : Int} (h : pX8_takeNumber_27 S M x0 x1 x2 x3 = some q) : zG C E 5 S 0 0 (zQ C E 0 0 (some (0, q.1)) S q.2) 27 [some (2, x0), some (0, x1), some (0, x2), some (0, x3), none] [] M := by
  unfold pX8_takeNumber_27 at h
  refine zG.blk (pc' := 38) (l' := [some (2, x0), some (0, x1), some (0, x2), some (0, x3), some (0, w32 (x3 - 1000))]) (st' := [(0, 304), (0, x3)]) (M' := M) hX [(.iload_n 3, 0, 0, 0), (.sipush 1000, 0, 0, 0), (.isub, 0, 0, 0), (.istore 4, 0, 0, 0), (.iload_n 3, 0, 0, 0), (.sipush 304, 0, 0, 0)] (by decide +kernel) rfl trivial ?_
  refine zG.icmp_eq (tgt := 53) (off := 15) hX (by decide +kernel) (by decide) (fun c5 => ?_) (fun c5 => ?_)
  · have h := zip c5 h
    exact zG.wk [true, false, false, false, false] (pX8_takeNumber_53_ok hX hRm h)
  · have h := zin c5 h
    refine zG.blk (pc' := 44) (l' := [some (2, x0), some (0, x1), some (0, x2), some (0, x3), some (0, w32 (x3 - 1000))]) (st' := [(0, x1), (0, w32 (x3 - 1000))]) (M' := M) hX [(.iload 4, 0, 0, 0), (.iload_n 1, 0, 0, 0)] (by decide +kernel) rfl trivial ?_
    refine zG.icmp_lt (tgt := 53) (off := 9) hX (by decide +kernel) (by decide) (fun c9 => ?_) (fun c9 => ?_)
    · have h := zip c9 h
      exact zG.wk [true, false, false, false, false] (pX8_takeNumber_53_ok hX hRm h)
    · have h := zin c9 h
      refine zG.blk (pc' := 50) (l' := [some (2, x0), some (0, x1), some (0, x2), some (0, x3), some (0, w32 (x3 - 1000))]) (st' := [(0, x2), (0, w32 (x3 - 1000))]) (M' := M) hX [(.iload 4, 0, 0, 0), (.iload_n 2, 0, 0, 0)] (by decide +kernel) rfl trivial ?_
      refine zG.icmp_le (tgt := 61) (off := 11) hX (by decide +kernel) (by decide) (fun c10 => ?_) (fun c10 => ?_)
      · have h := zip c10 h
        obtain ⟨g11, h⟩ := zif h
        refine zG.blk (pc' := 71) (l' := [some (2, x0), some (0, x1), some (0, x2), some (0, x3), some (0, w32 (x3 - 1000))]) (st' := []) (M' := (upM M x0 4 (w32 ((M x0 4) + 1)))) hX [(.aload_n 0, 0, 0, 0), (.dup, 0, 0, 0), (.getfield 36, 8, 4, 0), (.iconst 1, 0, 0, 0), (.iadd, 0, 0, 0), (.putfield 36, 8, 4, 0)] (by decide +kernel) rfl (And.intro g11 (And.intro g11 trivial)) ?_
        generalize upM M x0 4 (w32 ((M x0 4) + 1)) = M12 at h ⊢
        have h := zlt h
        refine zG.blk (pc' := 73) (l' := [some (2, x0), some (0, x1), some (0, x2), some (0, x3), some (0, w32 (x3 - 1000))]) (st' := [(0, w32 (x3 - 1000))]) (M' := M12) hX [(.iload 4, 0, 0, 0)] (by decide +kernel) rfl trivial ?_
        cases h
        exact zG.iret hX (by decide +kernel)
      · have h := zin c10 h
        exact zG.wk [true, false, false, false, false] (pX8_takeNumber_53_ok hX hRm h)
noncomputable def pX8_takeNumber (S : ZS) (M : ZM) (a0 : Int) (a1 : Int) (a2 : Int) : Option (Int × ZM) := if S.1 a0 = 8 then (pX8_token S M a0).bind fun q1 => if q1.1 = 304 then (pX8_takeNumber_27 S q1.2 a0 a1 a2 q1.1) else (if 1000 ≤ q1.1 then (pX8_takeNumber_27 S q1.2 a0 a1 a2 q1.1) else ((pX8_fail S q1.2 a0 0).bind fun q14 => some ((-1), q14.2))) else none
set_option maxHeartbeats 2000000 in
set_option maxRecDepth 20000 in
theorem pX8_takeNumber_go {C : ZC} {E : ZE} {S : ZS} {M : ZM} {a0 a1 a2 : Int} {q : (Int × ZM)} (hX : zCx C E 8 cX8_takeNumber 5 (some .int) false) (hRm : czR C = { frames := 2, cells := 0, slots := 0, locals := 61 }) (h : pX8_takeNumber  S M a0 a1 a2 = some q) : zG C E 5 S 0 0 (zQ C E 0 0 (some (0, q.1)) S q.2) 0 [some (2, a0), some (0, a1), some (0, a2), none, none] [] M := by
  unfold pX8_takeNumber at h
  refine zG.blk (pc' := 1) (l' := [some (2, a0), some (0, a1), some (0, a2), none, none]) (st' := [(2, a0)]) (M' := M) hX [(.aload_n 0, 0, 0, 0)] (by decide +kernel) rfl trivial ?_
  obtain ⟨g3, h⟩ := zif h
  obtain ⟨q1, e2, h⟩ := zbd h
  refine zG.callV (b := a0) (av := []) (st := []) (ci := 8) hX (pX8_token_ok e2) sv_8_70 rfl ⟨by decide, rfl⟩ g3 (by decide +kernel) (by rw [hRm]; exact ⟨Nat.le_of_ble_eq_true rfl, Nat.le_of_ble_eq_true rfl⟩) (by rw [hRm]; exact ⟨Nat.le_of_ble_eq_true rfl, Nat.le_of_ble_eq_true rfl⟩) (Nat.le_of_ble_eq_true rfl) ?_
  show zG C E 5 S 0 0 _ 4 [some (2, a0), some (0, a1), some (0, a2), none, none] [(0, q1.1)] q1.2
  refine zG.blk (pc' := 9) (l' := [some (2, a0), some (0, a1), some (0, a2), some (0, q1.1), none]) (st' := [(0, 304), (0, q1.1)]) (M' := q1.2) hX [(.istore_n 3, 0, 0, 0), (.iload_n 3, 0, 0, 0), (.sipush 304, 0, 0, 0)] (by decide +kernel) rfl trivial ?_
  refine zG.icmp_eq (tgt := 27) (off := 18) hX (by decide +kernel) (by decide) (fun c4 => ?_) (fun c4 => ?_)
  · have h := zip c4 h
    exact (pX8_takeNumber_27_ok hX hRm h)
  · have h := zin c4 h
    refine zG.blk (pc' := 16) (l' := [some (2, a0), some (0, a1), some (0, a2), some (0, q1.1), none]) (st' := [(0, 1000), (0, q1.1)]) (M' := q1.2) hX [(.iload_n 3, 0, 0, 0), (.sipush 1000, 0, 0, 0)] (by decide +kernel) rfl trivial ?_
    refine zG.icmp_ge (tgt := 27) (off := 11) hX (by decide +kernel) (by decide) (fun c13 => ?_) (fun c13 => ?_)
    · have h := zip c13 h
      exact (pX8_takeNumber_27_ok hX hRm h)
    · have h := zin c13 h
      refine zG.blk (pc' := 21) (l' := [some (2, a0), some (0, a1), some (0, a2), some (0, q1.1), none]) (st' := [(0, 0), (2, a0)]) (M' := q1.2) hX [(.aload_n 0, 0, 0, 0), (.iconst 0, 0, 0, 0)] (by decide +kernel) rfl trivial ?_
      obtain ⟨q14, e15, h⟩ := zbd h
      refine zG.callV (b := a0) (av := [(0, 0)]) (st := []) (ci := 8) hX (pX8_fail_ok e15) sv_8_76 rfl ⟨by decide, rfl⟩ g3 (by decide +kernel) (by rw [hRm]; exact ⟨Nat.le_of_ble_eq_true rfl, Nat.le_of_ble_eq_true rfl⟩) (by rw [hRm]; exact ⟨Nat.le_of_ble_eq_true rfl, Nat.le_of_ble_eq_true rfl⟩) (Nat.le_of_ble_eq_true rfl) ?_
      show zG C E 5 S 0 0 _ 24 [some (2, a0), some (0, a1), some (0, a2), some (0, q1.1), none] [(0, q14.1)] q14.2
      refine zG.blk (pc' := 26) (l' := [some (2, a0), some (0, a1), some (0, a2), some (0, q1.1), none]) (st' := [(0, (-1))]) (M' := q14.2) hX [(.pop, 0, 0, 0), (.iconst (-1), 0, 0, 0)] (by decide +kernel) rfl trivial ?_
      cases h
      exact zG.iret hX (by decide +kernel)
theorem pX8_takeNumber_ok {l : Launch} {E : ZE} {S : ZS} {M : ZM} {a0 a1 a2 : Int} {q : (Int × ZM)} (h : pX8_takeNumber S M a0 a1 a2 = some q) : zMet l yX8_takeNumber cX8_takeNumber 5 (some .int) 2 61 0 0 E S M [(2, a0), (0, a1), (0, a2)] (some (0, q.1)) S q.2 :=
  zMet.of (o := 8) (ini := false) (by decide +kernel) rfl (fun h => by cases h) (Nat.le_of_ble_eq_true rfl) (fun C hX hl hRm => by subst hl; exact pX8_takeNumber_go hX hRm h)
theorem sv_7_71 : zSV 7 71 yX8_takeNumber cX8_takeNumber 5 (some .int) 2 := ⟨⟨gt_at 627 (by decide +kernel) rfl, gt_at 628 (by decide +kernel) rfl, gt_at 629 (by decide +kernel) rfl, gt_at 106 (by decide +kernel) rfl, gt_at 630 (by decide +kernel) rfl⟩, by decide +kernel, by decide +kernel, by decide +kernel⟩
noncomputable def pX7_takeMark (S : ZS) (M : ZM) (a0 : Int) (a1 : Int) : Option (Int × ZM) := if S.1 a0 = 7 then if S.1 (M a0 0) = 9 then if S.1 a1 = 8 then (pX8_takeNumber S M a1 0 (w32 ((M (M a0 0) 1) - 1))).bind fun q3 => if q3.1 = (-1) then (some (0, q3.2)) else (if S.1 (q3.2 a0 0) = 9 then if S.1 (q3.2 (q3.2 a0 0) 9) = 100 ∧ (0 : Int) ≤ q3.1 ∧ q3.1 < S.2.1 (q3.2 (q3.2 a0 0) 9) then zlet (upM q3.2 (q3.2 (q3.2 a0 0) 9) q3.1 1) fun M9 => some (1, M9) else none else none) else none else none else none
set_option maxHeartbeats 2000000 in
set_option maxRecDepth 20000 in
theorem pX7_takeMark_go {C : ZC} {E : ZE} {S : ZS} {M : ZM} {a0 a1 : Int} {q : (Int × ZM)} (hX : zCx C E 7 cX7_takeMark 3 (some .boolean) false) (hRm : czR C = { frames := 3, cells := 0, slots := 0, locals := 85 }) (h : pX7_takeMark  S M a0 a1 = some q) : zG C E 3 S 0 0 (zQ C E 0 0 (some (0, q.1)) S q.2) 0 [some (2, a0), some (2, a1), none] [] M := by
  unfold pX7_takeMark at h
  obtain ⟨g1, h⟩ := zif h
  obtain ⟨g2, h⟩ := zif h
  refine zG.blk (pc' := 11) (l' := [some (2, a0), some (2, a1), none]) (st' := [(0, w32 ((M (M a0 0) 1) - 1)), (0, 0), (2, a1)]) (M' := M) hX [(.aload_n 1, 0, 0, 0), (.iconst 0, 0, 0, 0), (.aload_n 0, 0, 0, 0), (.getfield 12, 7, 0, 2), (.getfield 78, 9, 1, 0), (.iconst 1, 0, 0, 0), (.isub, 0, 0, 0)] (by decide +kernel) rfl (And.intro g1 (And.intro g2 trivial)) ?_
  obtain ⟨g5, h⟩ := zif h
  obtain ⟨q3, e4, h⟩ := zbd h
  refine zG.callV (b := a1) (av := [(0, 0), (0, w32 ((M (M a0 0) 1) - 1))]) (st := []) (ci := 8) hX (pX8_takeNumber_ok e4) sv_7_71 rfl ⟨by decide, rfl⟩ g5 (by decide +kernel) (by rw [hRm]; exact ⟨Nat.le_of_ble_eq_true rfl, Nat.le_of_ble_eq_true rfl⟩) (by rw [hRm]; exact ⟨Nat.le_of_ble_eq_true rfl, Nat.le_of_ble_eq_true rfl⟩) (Nat.le_of_ble_eq_true rfl) ?_
  show zG C E 3 S 0 0 _ 14 [some (2, a0), some (2, a1), none] [(0, q3.1)] q3.2
  refine zG.blk (pc' := 17) (l' := [some (2, a0), some (2, a1), some (0, q3.1)]) (st' := [(0, (-1)), (0, q3.1)]) (M' := q3.2) hX [(.istore_n 2, 0, 0, 0), (.iload_n 2, 0, 0, 0), (.iconst (-1), 0, 0, 0)] (by decide +kernel) rfl trivial ?_
  refine zG.icmp_ne (tgt := 22) (off := 5) hX (by decide +kernel) (by decide) (fun c6 => ?_) (fun c6 => ?_)
  · have h := zin c6 h
    obtain ⟨g7, h⟩ := zif h
    obtain ⟨g8, h⟩ := zif h
    refine zG.blk (pc' := 32) (l' := [some (2, a0), some (2, a1), some (0, q3.1)]) (st' := []) (M' := (upM q3.2 (q3.2 (q3.2 a0 0) 9) q3.1 1)) hX [(.aload_n 0, 0, 0, 0), (.getfield 12, 7, 0, 2), (.getfield 97, 9, 9, 2), (.iload_n 2, 0, 0, 0), (.iconst 1, 0, 0, 0), (.iastore, 0, 0, 0)] (by decide +kernel) rfl (And.intro g1 (And.intro g7 (And.intro g8 trivial))) ?_
    generalize upM q3.2 (q3.2 (q3.2 a0 0) 9) q3.1 1 = M9 at h ⊢
    have h := zlt h
    refine zG.blk (pc' := 33) (l' := [some (2, a0), some (2, a1), some (0, q3.1)]) (st' := [(0, 1)]) (M' := M9) hX [(.iconst 1, 0, 0, 0)] (by decide +kernel) rfl trivial ?_
    cases h
    exact zG.zret hX (by decide +kernel) (Or.inr rfl)
  · have h := zip c6 h
    refine zG.blk (pc' := 21) (l' := [some (2, a0), some (2, a1), some (0, q3.1)]) (st' := [(0, 0)]) (M' := q3.2) hX [(.iconst 0, 0, 0, 0)] (by decide +kernel) rfl trivial ?_
    cases h
    exact zG.zret hX (by decide +kernel) (Or.inl rfl)
theorem pX7_takeMark_ok {l : Launch} {E : ZE} {S : ZS} {M : ZM} {a0 a1 : Int} {q : (Int × ZM)} (h : pX7_takeMark S M a0 a1 = some q) : zMet l yX7_takeMark cX7_takeMark 3 (some .boolean) 3 85 0 0 E S M [(2, a0), (2, a1)] (some (0, q.1)) S q.2 :=
  zMet.of (o := 7) (ini := false) (by decide +kernel) rfl (fun h => by cases h) (Nat.le_of_ble_eq_true rfl) (fun C hX hl hRm => by subst hl; exact pX7_takeMark_go hX hRm h)
noncomputable def pX7_takePen_46 (S : ZS) (M : ZM) : Option (Int × ZM) := some (0, M)
set_option maxHeartbeats 2000000 in
set_option maxRecDepth 20000 in
theorem pX7_takePen_46_ok {C : ZC} {E : ZE} {S : ZS} {q : (Int × ZM)} (hX : zCx C E 7 cX7_takePen 4 (some .boolean) false) (hRm : czR C = { frames := 3, cells := 0, slots := 0, locals := 85 }) {M : ZM} (h : pX7_takePen_46 S M = some q) : zG C E 4 S 0 0 (zQ C E 0 0 (some (0, q.1)) S q.2) 46 [none, none, none, none] [] M := by
  unfold pX7_takePen_46 at h
  refine zG.blk (pc' := 47) (l' := [none, none, none, none]) (st' := [(0, 0)]) (M' := M) hX [(.iconst 0, 0, 0, 0)] (by decide +kernel) rfl trivial ?_
  cases h
  exact zG.zret hX (by decide +kernel) (Or.inl rfl)
noncomputable def pX7_takePen_93 (S : ZS) (M : ZM) : Option (Int × ZM) := some (1, M)
set_option maxHeartbeats 2000000 in
set_option maxRecDepth 20000 in
theorem pX7_takePen_93_ok {C : ZC} {E : ZE} {S : ZS} {q : (Int × ZM)} (hX : zCx C E 7 cX7_takePen 4 (some .boolean) false) (hRm : czR C = { frames := 3, cells := 0, slots := 0, locals := 85 }) {M : ZM} (h : pX7_takePen_93 S M = some q) : zG C E 4 S 0 0 (zQ C E 0 0 (some (0, q.1)) S q.2) 93 [none, none, none, none] [] M := by
  unfold pX7_takePen_93 at h
  refine zG.blk (pc' := 94) (l' := [none, none, none, none]) (st' := [(0, 1)]) (M' := M) hX [(.iconst 1, 0, 0, 0)] (by decide +kernel) rfl trivial ?_
  cases h
  exact zG.zret hX (by decide +kernel) (Or.inr rfl)
noncomputable def pX7_takePen (S : ZS) (M : ZM) (a0 : Int) (a1 : Int) : Option (Int × ZM) := if S.1 a0 = 7 then if S.1 (M a0 0) = 9 then if S.1 a1 = 8 then (pX8_takeNumber S M a1 0 (w32 ((M (M a0 0) 1) - 1))).bind fun q3 => if q3.1 = (-1) then (some (0, q3.2)) else ((pX8_takeNumber S q3.2 a1 0 9).bind fun q7 => if q7.1 = (-1) then (pX7_takePen_46 S q7.2) else (if S.1 (q7.2 a0 0) = 9 then if q7.2 (q7.2 a0 0) 3 < 5 then (if S.1 (q7.2 (q7.2 a0 0) 5) = 100 ∧ (0 : Int) ≤ q7.2 (q7.2 a0 0) 3 ∧ q7.2 (q7.2 a0 0) 3 < S.2.1 (q7.2 (q7.2 a0 0) 5) then zlet (upM q7.2 (q7.2 (q7.2 a0 0) 5) (q7.2 (q7.2 a0 0) 3) q3.1) fun M13 => if S.1 (M13 a0 0) = 9 then if S.1 (M13 (M13 a0 0) 6) = 100 ∧ (0 : Int) ≤ M13 (M13 a0 0) 3 ∧ M13 (M13 a0 0) 3 < S.2.1 (M13 (M13 a0 0) 6) then zlet (upM M13 (M13 (M13 a0 0) 6) (M13 (M13 a0 0) 3) q7.1) fun M16 => if S.1 (M16 a0 0) = 9 then zlet (upM M16 (M16 a0 0) 3 (w32 ((M16 (M16 a0 0) 3) + 1))) fun M18 => pX7_takePen_93 S M18 else none else none else none else none) else (pX7_takePen_46 S q7.2) else none)) else none else none else none
set_option maxHeartbeats 2000000 in
set_option maxRecDepth 20000 in
theorem pX7_takePen_go {C : ZC} {E : ZE} {S : ZS} {M : ZM} {a0 a1 : Int} {q : (Int × ZM)} (hX : zCx C E 7 cX7_takePen 4 (some .boolean) false) (hRm : czR C = { frames := 3, cells := 0, slots := 0, locals := 85 }) (h : pX7_takePen  S M a0 a1 = some q) : zG C E 4 S 0 0 (zQ C E 0 0 (some (0, q.1)) S q.2) 0 [some (2, a0), some (2, a1), none, none] [] M := by
  unfold pX7_takePen at h
  obtain ⟨g1, h⟩ := zif h
  obtain ⟨g2, h⟩ := zif h
  refine zG.blk (pc' := 11) (l' := [some (2, a0), some (2, a1), none, none]) (st' := [(0, w32 ((M (M a0 0) 1) - 1)), (0, 0), (2, a1)]) (M' := M) hX [(.aload_n 1, 0, 0, 0), (.iconst 0, 0, 0, 0), (.aload_n 0, 0, 0, 0), (.getfield 12, 7, 0, 2), (.getfield 78, 9, 1, 0), (.iconst 1, 0, 0, 0), (.isub, 0, 0, 0)] (by decide +kernel) rfl (And.intro g1 (And.intro g2 trivial)) ?_
  obtain ⟨g5, h⟩ := zif h
  obtain ⟨q3, e4, h⟩ := zbd h
  refine zG.callV (b := a1) (av := [(0, 0), (0, w32 ((M (M a0 0) 1) - 1))]) (st := []) (ci := 8) hX (pX8_takeNumber_ok e4) sv_7_71 rfl ⟨by decide, rfl⟩ g5 (by decide +kernel) (by rw [hRm]; exact ⟨Nat.le_of_ble_eq_true rfl, Nat.le_of_ble_eq_true rfl⟩) (by rw [hRm]; exact ⟨Nat.le_of_ble_eq_true rfl, Nat.le_of_ble_eq_true rfl⟩) (Nat.le_of_ble_eq_true rfl) ?_
  show zG C E 4 S 0 0 _ 14 [some (2, a0), some (2, a1), none, none] [(0, q3.1)] q3.2
  refine zG.blk (pc' := 17) (l' := [some (2, a0), some (2, a1), some (0, q3.1), none]) (st' := [(0, (-1)), (0, q3.1)]) (M' := q3.2) hX [(.istore_n 2, 0, 0, 0), (.iload_n 2, 0, 0, 0), (.iconst (-1), 0, 0, 0)] (by decide +kernel) rfl trivial ?_
  refine zG.icmp_ne (tgt := 22) (off := 5) hX (by decide +kernel) (by decide) (fun c6 => ?_) (fun c6 => ?_)
  · have h := zin c6 h
    refine zG.blk (pc' := 26) (l' := [some (2, a0), some (2, a1), some (0, q3.1), none]) (st' := [(0, 9), (0, 0), (2, a1)]) (M' := q3.2) hX [(.aload_n 1, 0, 0, 0), (.iconst 0, 0, 0, 0), (.bipush 9, 0, 0, 0)] (by decide +kernel) rfl trivial ?_
    obtain ⟨q7, e8, h⟩ := zbd h
    refine zG.callV (b := a1) (av := [(0, 0), (0, 9)]) (st := []) (ci := 8) hX (pX8_takeNumber_ok e8) sv_7_71 rfl ⟨by decide, rfl⟩ g5 (by decide +kernel) (by rw [hRm]; exact ⟨Nat.le_of_ble_eq_true rfl, Nat.le_of_ble_eq_true rfl⟩) (by rw [hRm]; exact ⟨Nat.le_of_ble_eq_true rfl, Nat.le_of_ble_eq_true rfl⟩) (Nat.le_of_ble_eq_true rfl) ?_
    show zG C E 4 S 0 0 _ 29 [some (2, a0), some (2, a1), some (0, q3.1), none] [(0, q7.1)] q7.2
    refine zG.blk (pc' := 32) (l' := [some (2, a0), some (2, a1), some (0, q3.1), some (0, q7.1)]) (st' := [(0, (-1)), (0, q7.1)]) (M' := q7.2) hX [(.istore_n 3, 0, 0, 0), (.iload_n 3, 0, 0, 0), (.iconst (-1), 0, 0, 0)] (by decide +kernel) rfl trivial ?_
    refine zG.icmp_eq (tgt := 46) (off := 14) hX (by decide +kernel) (by decide) (fun c9 => ?_) (fun c9 => ?_)
    · have h := zip c9 h
      exact zG.wk [false, false, false, false] (pX7_takePen_46_ok hX hRm h)
    · have h := zin c9 h
      obtain ⟨g10, h⟩ := zif h
      refine zG.blk (pc' := 43) (l' := [some (2, a0), some (2, a1), some (0, q3.1), some (0, q7.1)]) (st' := [(0, 5), (0, q7.2 (q7.2 a0 0) 3)]) (M' := q7.2) hX [(.aload_n 0, 0, 0, 0), (.getfield 12, 7, 0, 2), (.getfield 65, 9, 3, 0), (.iconst 5, 0, 0, 0)] (by decide +kernel) rfl (And.intro g1 (And.intro g10 trivial)) ?_
      refine zG.icmp_lt (tgt := 48) (off := 5) hX (by decide +kernel) (by decide) (fun c11 => ?_) (fun c11 => ?_)
      · have h := zip c11 h
        obtain ⟨g12, h⟩ := zif h
        refine zG.blk (pc' := 64) (l' := [some (2, a0), some (2, a1), some (0, q3.1), some (0, q7.1)]) (st' := []) (M' := (upM q7.2 (q7.2 (q7.2 a0 0) 5) (q7.2 (q7.2 a0 0) 3) q3.1)) hX [(.aload_n 0, 0, 0, 0), (.getfield 12, 7, 0, 2), (.getfield 84, 9, 5, 2), (.aload_n 0, 0, 0, 0), (.getfield 12, 7, 0, 2), (.getfield 65, 9, 3, 0), (.iload_n 2, 0, 0, 0), (.iastore, 0, 0, 0)] (by decide +kernel) rfl (And.intro g1 (And.intro g10 (And.intro g1 (And.intro g10 (And.intro g12 trivial))))) ?_
        generalize upM q7.2 (q7.2 (q7.2 a0 0) 5) (q7.2 (q7.2 a0 0) 3) q3.1 = M13 at h ⊢
        have h := zlt h
        obtain ⟨g14, h⟩ := zif h
        obtain ⟨g15, h⟩ := zif h
        refine zG.blk (pc' := 80) (l' := [some (2, a0), some (2, a1), some (0, q3.1), some (0, q7.1)]) (st' := []) (M' := (upM M13 (M13 (M13 a0 0) 6) (M13 (M13 a0 0) 3) q7.1)) hX [(.aload_n 0, 0, 0, 0), (.getfield 12, 7, 0, 2), (.getfield 88, 9, 6, 2), (.aload_n 0, 0, 0, 0), (.getfield 12, 7, 0, 2), (.getfield 65, 9, 3, 0), (.iload_n 3, 0, 0, 0), (.iastore, 0, 0, 0)] (by decide +kernel) rfl (And.intro g1 (And.intro g14 (And.intro g1 (And.intro g14 (And.intro g15 trivial))))) ?_
        generalize upM M13 (M13 (M13 a0 0) 6) (M13 (M13 a0 0) 3) q7.1 = M16 at h ⊢
        have h := zlt h
        obtain ⟨g17, h⟩ := zif h
        refine zG.blk (pc' := 93) (l' := [some (2, a0), some (2, a1), some (0, q3.1), some (0, q7.1)]) (st' := []) (M' := (upM M16 (M16 a0 0) 3 (w32 ((M16 (M16 a0 0) 3) + 1)))) hX [(.aload_n 0, 0, 0, 0), (.getfield 12, 7, 0, 2), (.dup, 0, 0, 0), (.getfield 65, 9, 3, 0), (.iconst 1, 0, 0, 0), (.iadd, 0, 0, 0), (.putfield 65, 9, 3, 0)] (by decide +kernel) rfl (And.intro g1 (And.intro g17 (And.intro g17 trivial))) ?_
        generalize upM M16 (M16 a0 0) 3 (w32 ((M16 (M16 a0 0) 3) + 1)) = M18 at h ⊢
        have h := zlt h
        exact zG.wk [false, false, false, false] (pX7_takePen_93_ok hX hRm h)
      · have h := zin c11 h
        exact zG.wk [false, false, false, false] (pX7_takePen_46_ok hX hRm h)
  · have h := zip c6 h
    refine zG.blk (pc' := 21) (l' := [some (2, a0), some (2, a1), some (0, q3.1), none]) (st' := [(0, 0)]) (M' := q3.2) hX [(.iconst 0, 0, 0, 0)] (by decide +kernel) rfl trivial ?_
    cases h
    exact zG.zret hX (by decide +kernel) (Or.inl rfl)
theorem pX7_takePen_ok {l : Launch} {E : ZE} {S : ZS} {M : ZM} {a0 a1 : Int} {q : (Int × ZM)} (h : pX7_takePen S M a0 a1 = some q) : zMet l yX7_takePen cX7_takePen 4 (some .boolean) 3 85 0 0 E S M [(2, a0), (2, a1)] (some (0, q.1)) S q.2 :=
  zMet.of (o := 7) (ini := false) (by decide +kernel) rfl (fun h => by cases h) (Nat.le_of_ble_eq_true rfl) (fun C hX hl hRm => by subst hl; exact pX7_takePen_go hX hRm h)
noncomputable def pX7_takeSheet_56 (S : ZS) (M : ZM) : Option (Int × ZM) := some (1, M)
set_option maxHeartbeats 2000000 in
set_option maxRecDepth 20000 in
theorem pX7_takeSheet_56_ok {C : ZC} {E : ZE} {S : ZS} {q : (Int × ZM)} (hX : zCx C E 7 cX7_takeSheet 4 (some .boolean) false) (hRm : czR C = { frames := 3, cells := 0, slots := 0, locals := 85 }) {M : ZM} (h : pX7_takeSheet_56 S M = some q) : zG C E 4 S 0 0 (zQ C E 0 0 (some (0, q.1)) S q.2) 56 [none, none, none, none] [] M := by
  unfold pX7_takeSheet_56 at h
  refine zG.blk (pc' := 57) (l' := [none, none, none, none]) (st' := [(0, 1)]) (M' := M) hX [(.iconst 1, 0, 0, 0)] (by decide +kernel) rfl trivial ?_
  cases h
  exact zG.zret hX (by decide +kernel) (Or.inr rfl)
noncomputable def pX7_takeSheet (S : ZS) (M : ZM) (a0 : Int) (a1 : Int) : Option (Int × ZM) := if S.1 a1 = 8 then (pX8_takeNumber S M a1 2 6).bind fun q1 => if q1.1 = (-1) then (some (0, q1.2)) else ((pX8_takeNumber S q1.2 a1 1 60).bind fun q5 => if q5.1 = (-1) then (some (0, q5.2)) else (if S.1 a0 = 7 then if S.1 (q5.2 a0 0) = 9 then zlet (upM q5.2 (q5.2 a0 0) 0 q1.1) fun M10 => if S.1 (M10 a0 0) = 9 then zlet (upM M10 (M10 a0 0) 1 (w32 (q1.1 * q1.1))) fun M12 => if S.1 (M12 a0 0) = 9 then zlet (upM M12 (M12 a0 0) 2 q5.1) fun M14 => pX7_takeSheet_56 S M14 else none else none else none else none)) else none
set_option maxHeartbeats 2000000 in
set_option maxRecDepth 20000 in
theorem pX7_takeSheet_go {C : ZC} {E : ZE} {S : ZS} {M : ZM} {a0 a1 : Int} {q : (Int × ZM)} (hX : zCx C E 7 cX7_takeSheet 4 (some .boolean) false) (hRm : czR C = { frames := 3, cells := 0, slots := 0, locals := 85 }) (h : pX7_takeSheet  S M a0 a1 = some q) : zG C E 4 S 0 0 (zQ C E 0 0 (some (0, q.1)) S q.2) 0 [some (2, a0), some (2, a1), none, none] [] M := by
  unfold pX7_takeSheet at h
  refine zG.blk (pc' := 4) (l' := [some (2, a0), some (2, a1), none, none]) (st' := [(0, 6), (0, 2), (2, a1)]) (M' := M) hX [(.aload_n 1, 0, 0, 0), (.iconst 2, 0, 0, 0), (.bipush 6, 0, 0, 0)] (by decide +kernel) rfl trivial ?_
  obtain ⟨g3, h⟩ := zif h
  obtain ⟨q1, e2, h⟩ := zbd h
  refine zG.callV (b := a1) (av := [(0, 2), (0, 6)]) (st := []) (ci := 8) hX (pX8_takeNumber_ok e2) sv_7_71 rfl ⟨by decide, rfl⟩ g3 (by decide +kernel) (by rw [hRm]; exact ⟨Nat.le_of_ble_eq_true rfl, Nat.le_of_ble_eq_true rfl⟩) (by rw [hRm]; exact ⟨Nat.le_of_ble_eq_true rfl, Nat.le_of_ble_eq_true rfl⟩) (Nat.le_of_ble_eq_true rfl) ?_
  show zG C E 4 S 0 0 _ 7 [some (2, a0), some (2, a1), none, none] [(0, q1.1)] q1.2
  refine zG.blk (pc' := 10) (l' := [some (2, a0), some (2, a1), some (0, q1.1), none]) (st' := [(0, (-1)), (0, q1.1)]) (M' := q1.2) hX [(.istore_n 2, 0, 0, 0), (.iload_n 2, 0, 0, 0), (.iconst (-1), 0, 0, 0)] (by decide +kernel) rfl trivial ?_
  refine zG.icmp_ne (tgt := 15) (off := 5) hX (by decide +kernel) (by decide) (fun c4 => ?_) (fun c4 => ?_)
  · have h := zin c4 h
    refine zG.blk (pc' := 19) (l' := [some (2, a0), some (2, a1), some (0, q1.1), none]) (st' := [(0, 60), (0, 1), (2, a1)]) (M' := q1.2) hX [(.aload_n 1, 0, 0, 0), (.iconst 1, 0, 0, 0), (.bipush 60, 0, 0, 0)] (by decide +kernel) rfl trivial ?_
    obtain ⟨q5, e6, h⟩ := zbd h
    refine zG.callV (b := a1) (av := [(0, 1), (0, 60)]) (st := []) (ci := 8) hX (pX8_takeNumber_ok e6) sv_7_71 rfl ⟨by decide, rfl⟩ g3 (by decide +kernel) (by rw [hRm]; exact ⟨Nat.le_of_ble_eq_true rfl, Nat.le_of_ble_eq_true rfl⟩) (by rw [hRm]; exact ⟨Nat.le_of_ble_eq_true rfl, Nat.le_of_ble_eq_true rfl⟩) (Nat.le_of_ble_eq_true rfl) ?_
    show zG C E 4 S 0 0 _ 22 [some (2, a0), some (2, a1), some (0, q1.1), none] [(0, q5.1)] q5.2
    refine zG.blk (pc' := 25) (l' := [some (2, a0), some (2, a1), some (0, q1.1), some (0, q5.1)]) (st' := [(0, (-1)), (0, q5.1)]) (M' := q5.2) hX [(.istore_n 3, 0, 0, 0), (.iload_n 3, 0, 0, 0), (.iconst (-1), 0, 0, 0)] (by decide +kernel) rfl trivial ?_
    refine zG.icmp_ne (tgt := 30) (off := 5) hX (by decide +kernel) (by decide) (fun c7 => ?_) (fun c7 => ?_)
    · have h := zin c7 h
      obtain ⟨g8, h⟩ := zif h
      obtain ⟨g9, h⟩ := zif h
      refine zG.blk (pc' := 38) (l' := [some (2, a0), some (2, a1), some (0, q1.1), some (0, q5.1)]) (st' := []) (M' := (upM q5.2 (q5.2 a0 0) 0 q1.1)) hX [(.aload_n 0, 0, 0, 0), (.getfield 12, 7, 0, 2), (.iload_n 2, 0, 0, 0), (.putfield 75, 9, 0, 0)] (by decide +kernel) rfl (And.intro g8 (And.intro g9 trivial)) ?_
      generalize upM q5.2 (q5.2 a0 0) 0 q1.1 = M10 at h ⊢
      have h := zlt h
      obtain ⟨g11, h⟩ := zif h
      refine zG.blk (pc' := 48) (l' := [some (2, a0), some (2, a1), some (0, q1.1), some (0, q5.1)]) (st' := []) (M' := (upM M10 (M10 a0 0) 1 (w32 (q1.1 * q1.1)))) hX [(.aload_n 0, 0, 0, 0), (.getfield 12, 7, 0, 2), (.iload_n 2, 0, 0, 0), (.iload_n 2, 0, 0, 0), (.imul, 0, 0, 0), (.putfield 78, 9, 1, 0)] (by decide +kernel) rfl (And.intro g8 (And.intro g11 trivial)) ?_
      generalize upM M10 (M10 a0 0) 1 (w32 (q1.1 * q1.1)) = M12 at h ⊢
      have h := zlt h
      obtain ⟨g13, h⟩ := zif h
      refine zG.blk (pc' := 56) (l' := [some (2, a0), some (2, a1), some (0, q1.1), some (0, q5.1)]) (st' := []) (M' := (upM M12 (M12 a0 0) 2 q5.1)) hX [(.aload_n 0, 0, 0, 0), (.getfield 12, 7, 0, 2), (.iload_n 3, 0, 0, 0), (.putfield 81, 9, 2, 0)] (by decide +kernel) rfl (And.intro g8 (And.intro g13 trivial)) ?_
      generalize upM M12 (M12 a0 0) 2 q5.1 = M14 at h ⊢
      have h := zlt h
      exact zG.wk [false, false, false, false] (pX7_takeSheet_56_ok hX hRm h)
    · have h := zip c7 h
      refine zG.blk (pc' := 29) (l' := [some (2, a0), some (2, a1), some (0, q1.1), some (0, q5.1)]) (st' := [(0, 0)]) (M' := q5.2) hX [(.iconst 0, 0, 0, 0)] (by decide +kernel) rfl trivial ?_
      cases h
      exact zG.zret hX (by decide +kernel) (Or.inl rfl)
  · have h := zip c4 h
    refine zG.blk (pc' := 14) (l' := [some (2, a0), some (2, a1), some (0, q1.1), none]) (st' := [(0, 0)]) (M' := q1.2) hX [(.iconst 0, 0, 0, 0)] (by decide +kernel) rfl trivial ?_
    cases h
    exact zG.zret hX (by decide +kernel) (Or.inl rfl)
theorem pX7_takeSheet_ok {l : Launch} {E : ZE} {S : ZS} {M : ZM} {a0 a1 : Int} {q : (Int × ZM)} (h : pX7_takeSheet S M a0 a1 = some q) : zMet l yX7_takeSheet cX7_takeSheet 4 (some .boolean) 3 85 0 0 E S M [(2, a0), (2, a1)] (some (0, q.1)) S q.2 :=
  zMet.of (o := 7) (ini := false) (by decide +kernel) rfl (fun h => by cases h) (Nat.le_of_ble_eq_true rfl) (fun C hX hl hRm => by subst hl; exact pX7_takeSheet_go hX hRm h)
noncomputable def pX7_takeWind_39 (S : ZS) (M : ZM) : Option (Int × ZM) := some (0, M)
set_option maxHeartbeats 2000000 in
set_option maxRecDepth 20000 in
theorem pX7_takeWind_39_ok {C : ZC} {E : ZE} {S : ZS} {q : (Int × ZM)} (hX : zCx C E 7 cX7_takeWind 4 (some .boolean) false) (hRm : czR C = { frames := 3, cells := 0, slots := 0, locals := 85 }) {M : ZM} (h : pX7_takeWind_39 S M = some q) : zG C E 4 S 0 0 (zQ C E 0 0 (some (0, q.1)) S q.2) 39 [none, none, none, none] [] M := by
  unfold pX7_takeWind_39 at h
  refine zG.blk (pc' := 40) (l' := [none, none, none, none]) (st' := [(0, 0)]) (M' := M) hX [(.iconst 0, 0, 0, 0)] (by decide +kernel) rfl trivial ?_
  cases h
  exact zG.zret hX (by decide +kernel) (Or.inl rfl)
noncomputable def pX7_takeWind_86 (S : ZS) (M : ZM) : Option (Int × ZM) := some (1, M)
set_option maxHeartbeats 2000000 in
set_option maxRecDepth 20000 in
theorem pX7_takeWind_86_ok {C : ZC} {E : ZE} {S : ZS} {q : (Int × ZM)} (hX : zCx C E 7 cX7_takeWind 4 (some .boolean) false) (hRm : czR C = { frames := 3, cells := 0, slots := 0, locals := 85 }) {M : ZM} (h : pX7_takeWind_86 S M = some q) : zG C E 4 S 0 0 (zQ C E 0 0 (some (0, q.1)) S q.2) 86 [none, none, none, none] [] M := by
  unfold pX7_takeWind_86 at h
  refine zG.blk (pc' := 87) (l' := [none, none, none, none]) (st' := [(0, 1)]) (M' := M) hX [(.iconst 1, 0, 0, 0)] (by decide +kernel) rfl trivial ?_
  cases h
  exact zG.zret hX (by decide +kernel) (Or.inr rfl)
noncomputable def pX7_takeWind (S : ZS) (M : ZM) (a0 : Int) (a1 : Int) : Option (Int × ZM) := if S.1 a1 = 8 then (pX8_takeNumber S M a1 0 3).bind fun q1 => if q1.1 = (-1) then (some (0, q1.2)) else ((pX8_takeNumber S q1.2 a1 0 9).bind fun q5 => if q5.1 = (-1) then (pX7_takeWind_39 S q5.2) else (if S.1 a0 = 7 then if S.1 (q5.2 a0 0) = 9 then if q5.2 (q5.2 a0 0) 4 < 12 then (if S.1 (q5.2 (q5.2 a0 0) 7) = 100 ∧ (0 : Int) ≤ q5.2 (q5.2 a0 0) 4 ∧ q5.2 (q5.2 a0 0) 4 < S.2.1 (q5.2 (q5.2 a0 0) 7) then zlet (upM q5.2 (q5.2 (q5.2 a0 0) 7) (q5.2 (q5.2 a0 0) 4) q1.1) fun M12 => if S.1 (M12 a0 0) = 9 then if S.1 (M12 (M12 a0 0) 8) = 100 ∧ (0 : Int) ≤ M12 (M12 a0 0) 4 ∧ M12 (M12 a0 0) 4 < S.2.1 (M12 (M12 a0 0) 8) then zlet (upM M12 (M12 (M12 a0 0) 8) (M12 (M12 a0 0) 4) q5.1) fun M15 => if S.1 (M15 a0 0) = 9 then zlet (upM M15 (M15 a0 0) 4 (w32 ((M15 (M15 a0 0) 4) + 1))) fun M17 => pX7_takeWind_86 S M17 else none else none else none else none) else (pX7_takeWind_39 S q5.2) else none else none)) else none
set_option maxHeartbeats 2000000 in
set_option maxRecDepth 20000 in
theorem pX7_takeWind_go {C : ZC} {E : ZE} {S : ZS} {M : ZM} {a0 a1 : Int} {q : (Int × ZM)} (hX : zCx C E 7 cX7_takeWind 4 (some .boolean) false) (hRm : czR C = { frames := 3, cells := 0, slots := 0, locals := 85 }) (h : pX7_takeWind  S M a0 a1 = some q) : zG C E 4 S 0 0 (zQ C E 0 0 (some (0, q.1)) S q.2) 0 [some (2, a0), some (2, a1), none, none] [] M := by
  unfold pX7_takeWind at h
  refine zG.blk (pc' := 3) (l' := [some (2, a0), some (2, a1), none, none]) (st' := [(0, 3), (0, 0), (2, a1)]) (M' := M) hX [(.aload_n 1, 0, 0, 0), (.iconst 0, 0, 0, 0), (.iconst 3, 0, 0, 0)] (by decide +kernel) rfl trivial ?_
  obtain ⟨g3, h⟩ := zif h
  obtain ⟨q1, e2, h⟩ := zbd h
  refine zG.callV (b := a1) (av := [(0, 0), (0, 3)]) (st := []) (ci := 8) hX (pX8_takeNumber_ok e2) sv_7_71 rfl ⟨by decide, rfl⟩ g3 (by decide +kernel) (by rw [hRm]; exact ⟨Nat.le_of_ble_eq_true rfl, Nat.le_of_ble_eq_true rfl⟩) (by rw [hRm]; exact ⟨Nat.le_of_ble_eq_true rfl, Nat.le_of_ble_eq_true rfl⟩) (Nat.le_of_ble_eq_true rfl) ?_
  show zG C E 4 S 0 0 _ 6 [some (2, a0), some (2, a1), none, none] [(0, q1.1)] q1.2
  refine zG.blk (pc' := 9) (l' := [some (2, a0), some (2, a1), some (0, q1.1), none]) (st' := [(0, (-1)), (0, q1.1)]) (M' := q1.2) hX [(.istore_n 2, 0, 0, 0), (.iload_n 2, 0, 0, 0), (.iconst (-1), 0, 0, 0)] (by decide +kernel) rfl trivial ?_
  refine zG.icmp_ne (tgt := 14) (off := 5) hX (by decide +kernel) (by decide) (fun c4 => ?_) (fun c4 => ?_)
  · have h := zin c4 h
    refine zG.blk (pc' := 18) (l' := [some (2, a0), some (2, a1), some (0, q1.1), none]) (st' := [(0, 9), (0, 0), (2, a1)]) (M' := q1.2) hX [(.aload_n 1, 0, 0, 0), (.iconst 0, 0, 0, 0), (.bipush 9, 0, 0, 0)] (by decide +kernel) rfl trivial ?_
    obtain ⟨q5, e6, h⟩ := zbd h
    refine zG.callV (b := a1) (av := [(0, 0), (0, 9)]) (st := []) (ci := 8) hX (pX8_takeNumber_ok e6) sv_7_71 rfl ⟨by decide, rfl⟩ g3 (by decide +kernel) (by rw [hRm]; exact ⟨Nat.le_of_ble_eq_true rfl, Nat.le_of_ble_eq_true rfl⟩) (by rw [hRm]; exact ⟨Nat.le_of_ble_eq_true rfl, Nat.le_of_ble_eq_true rfl⟩) (Nat.le_of_ble_eq_true rfl) ?_
    show zG C E 4 S 0 0 _ 21 [some (2, a0), some (2, a1), some (0, q1.1), none] [(0, q5.1)] q5.2
    refine zG.blk (pc' := 24) (l' := [some (2, a0), some (2, a1), some (0, q1.1), some (0, q5.1)]) (st' := [(0, (-1)), (0, q5.1)]) (M' := q5.2) hX [(.istore_n 3, 0, 0, 0), (.iload_n 3, 0, 0, 0), (.iconst (-1), 0, 0, 0)] (by decide +kernel) rfl trivial ?_
    refine zG.icmp_eq (tgt := 39) (off := 15) hX (by decide +kernel) (by decide) (fun c7 => ?_) (fun c7 => ?_)
    · have h := zip c7 h
      exact zG.wk [false, false, false, false] (pX7_takeWind_39_ok hX hRm h)
    · have h := zin c7 h
      obtain ⟨g8, h⟩ := zif h
      obtain ⟨g9, h⟩ := zif h
      refine zG.blk (pc' := 36) (l' := [some (2, a0), some (2, a1), some (0, q1.1), some (0, q5.1)]) (st' := [(0, 12), (0, q5.2 (q5.2 a0 0) 4)]) (M' := q5.2) hX [(.aload_n 0, 0, 0, 0), (.getfield 12, 7, 0, 2), (.getfield 68, 9, 4, 0), (.bipush 12, 0, 0, 0)] (by decide +kernel) rfl (And.intro g8 (And.intro g9 trivial)) ?_
      refine zG.icmp_lt (tgt := 41) (off := 5) hX (by decide +kernel) (by decide) (fun c10 => ?_) (fun c10 => ?_)
      · have h := zip c10 h
        obtain ⟨g11, h⟩ := zif h
        refine zG.blk (pc' := 57) (l' := [some (2, a0), some (2, a1), some (0, q1.1), some (0, q5.1)]) (st' := []) (M' := (upM q5.2 (q5.2 (q5.2 a0 0) 7) (q5.2 (q5.2 a0 0) 4) q1.1)) hX [(.aload_n 0, 0, 0, 0), (.getfield 12, 7, 0, 2), (.getfield 91, 9, 7, 2), (.aload_n 0, 0, 0, 0), (.getfield 12, 7, 0, 2), (.getfield 68, 9, 4, 0), (.iload_n 2, 0, 0, 0), (.iastore, 0, 0, 0)] (by decide +kernel) rfl (And.intro g8 (And.intro g9 (And.intro g8 (And.intro g9 (And.intro g11 trivial))))) ?_
        generalize upM q5.2 (q5.2 (q5.2 a0 0) 7) (q5.2 (q5.2 a0 0) 4) q1.1 = M12 at h ⊢
        have h := zlt h
        obtain ⟨g13, h⟩ := zif h
        obtain ⟨g14, h⟩ := zif h
        refine zG.blk (pc' := 73) (l' := [some (2, a0), some (2, a1), some (0, q1.1), some (0, q5.1)]) (st' := []) (M' := (upM M12 (M12 (M12 a0 0) 8) (M12 (M12 a0 0) 4) q5.1)) hX [(.aload_n 0, 0, 0, 0), (.getfield 12, 7, 0, 2), (.getfield 94, 9, 8, 2), (.aload_n 0, 0, 0, 0), (.getfield 12, 7, 0, 2), (.getfield 68, 9, 4, 0), (.iload_n 3, 0, 0, 0), (.iastore, 0, 0, 0)] (by decide +kernel) rfl (And.intro g8 (And.intro g13 (And.intro g8 (And.intro g13 (And.intro g14 trivial))))) ?_
        generalize upM M12 (M12 (M12 a0 0) 8) (M12 (M12 a0 0) 4) q5.1 = M15 at h ⊢
        have h := zlt h
        obtain ⟨g16, h⟩ := zif h
        refine zG.blk (pc' := 86) (l' := [some (2, a0), some (2, a1), some (0, q1.1), some (0, q5.1)]) (st' := []) (M' := (upM M15 (M15 a0 0) 4 (w32 ((M15 (M15 a0 0) 4) + 1)))) hX [(.aload_n 0, 0, 0, 0), (.getfield 12, 7, 0, 2), (.dup, 0, 0, 0), (.getfield 68, 9, 4, 0), (.iconst 1, 0, 0, 0), (.iadd, 0, 0, 0), (.putfield 68, 9, 4, 0)] (by decide +kernel) rfl (And.intro g8 (And.intro g16 (And.intro g16 trivial))) ?_
        generalize upM M15 (M15 a0 0) 4 (w32 ((M15 (M15 a0 0) 4) + 1)) = M17 at h ⊢
        have h := zlt h
        exact zG.wk [false, false, false, false] (pX7_takeWind_86_ok hX hRm h)
      · have h := zin c10 h
        exact zG.wk [false, false, false, false] (pX7_takeWind_39_ok hX hRm h)
  · have h := zip c4 h
    refine zG.blk (pc' := 13) (l' := [some (2, a0), some (2, a1), some (0, q1.1), none]) (st' := [(0, 0)]) (M' := q1.2) hX [(.iconst 0, 0, 0, 0)] (by decide +kernel) rfl trivial ?_
    cases h
    exact zG.zret hX (by decide +kernel) (Or.inl rfl)
theorem pX7_takeWind_ok {l : Launch} {E : ZE} {S : ZS} {M : ZM} {a0 a1 : Int} {q : (Int × ZM)} (h : pX7_takeWind S M a0 a1 = some q) : zMet l yX7_takeWind cX7_takeWind 4 (some .boolean) 3 85 0 0 E S M [(2, a0), (2, a1)] (some (0, q.1)) S q.2 :=
  zMet.of (o := 7) (ini := false) (by decide +kernel) rfl (fun h => by cases h) (Nat.le_of_ble_eq_true rfl) (fun C hX hl hRm => by subst hl; exact pX7_takeWind_go hX hRm h)
theorem sv_7_30 : zSV 7 30 yX8_token cX8_token 1 (some .int) 0 := ⟨⟨gt_at 607 (by decide +kernel) rfl, gt_at 608 (by decide +kernel) rfl, gt_at 609 (by decide +kernel) rfl, gt_at 106 (by decide +kernel) rfl, gt_at 610 (by decide +kernel) rfl⟩, by decide +kernel, by decide +kernel, by decide +kernel⟩
theorem sv_7_45 : zSV 7 45 yX7_canStand cX7_canStand 4 (some .boolean) 2 := ⟨⟨gt_at 615 (by decide +kernel) rfl, gt_at 617 (by decide +kernel) rfl, gt_at 7 (by decide +kernel) rfl, gt_at 107 (by decide +kernel) rfl, gt_at 618 (by decide +kernel) rfl⟩, by decide +kernel, by decide +kernel, by decide +kernel⟩
theorem sv_7_49 : zSV 7 49 yX8_advance cX8_advance 1 none 0 := ⟨⟨gt_at 619 (by decide +kernel) rfl, gt_at 620 (by decide +kernel) rfl, gt_at 621 (by decide +kernel) rfl, gt_at 106 (by decide +kernel) rfl, gt_at 622 (by decide +kernel) rfl⟩, by decide +kernel, by decide +kernel, by decide +kernel⟩
theorem sv_7_56 : zSV 7 56 yX7_takePen cX7_takePen 4 (some .boolean) 1 := ⟨⟨gt_at 633 (by decide +kernel) rfl, gt_at 635 (by decide +kernel) rfl, gt_at 9 (by decide +kernel) rfl, gt_at 107 (by decide +kernel) rfl, gt_at 636 (by decide +kernel) rfl⟩, by decide +kernel, by decide +kernel, by decide +kernel⟩
theorem sv_7_52 : zSV 7 52 yX7_takeSheet cX7_takeSheet 4 (some .boolean) 1 := ⟨⟨gt_at 623 (by decide +kernel) rfl, gt_at 625 (by decide +kernel) rfl, gt_at 8 (by decide +kernel) rfl, gt_at 107 (by decide +kernel) rfl, gt_at 626 (by decide +kernel) rfl⟩, by decide +kernel, by decide +kernel, by decide +kernel⟩
theorem sv_7_59 : zSV 7 59 yX7_takeWind cX7_takeWind 4 (some .boolean) 1 := ⟨⟨gt_at 637 (by decide +kernel) rfl, gt_at 639 (by decide +kernel) rfl, gt_at 10 (by decide +kernel) rfl, gt_at 107 (by decide +kernel) rfl, gt_at 640 (by decide +kernel) rfl⟩, by decide +kernel, by decide +kernel, by decide +kernel⟩
theorem sv_7_62 : zSV 7 62 yX7_takeMark cX7_takeMark 3 (some .boolean) 1 := ⟨⟨gt_at 641 (by decide +kernel) rfl, gt_at 643 (by decide +kernel) rfl, gt_at 11 (by decide +kernel) rfl, gt_at 107 (by decide +kernel) rfl, gt_at 644 (by decide +kernel) rfl⟩, by decide +kernel, by decide +kernel, by decide +kernel⟩
theorem sv_7_42 : zSV 7 42 yX8_fail cX8_fail 2 (some .boolean) 1 := ⟨⟨gt_at 611 (by decide +kernel) rfl, gt_at 612 (by decide +kernel) rfl, gt_at 613 (by decide +kernel) rfl, gt_at 106 (by decide +kernel) rfl, gt_at 614 (by decide +kernel) rfl⟩, by decide +kernel, by decide +kernel, by decide +kernel⟩
noncomputable def pX7_takeClause_39 (S : ZS) (M : ZM) (x0 : Int) (x1 : Int) (x2 : Int) (x3 : Int) : Option (Int × ZM) := if S.1 x0 = 7 then (pX7_canStand S M x0 x3 x2).bind fun q5 => if q5.1 = 0 then (if S.1 x1 = 8 then (pX8_fail S q5.2 x1 4).bind fun q28 => if q28.1 = 0 ∨ q28.1 = 1 then some (q28.1, q28.2) else none else none) else (if S.1 x1 = 8 then (pX8_advance S q5.2 x1).bind fun q9 => if x3 = 256 then ((pX7_takePen S q9 x0 x1).bind fun q14 => if q14.1 = 0 ∨ q14.1 = 1 then some (q14.1, q14.2) else none) else if x3 = 268 then ((pX7_takeSheet S q9 x0 x1).bind fun q18 => if q18.1 = 0 ∨ q18.1 = 1 then some (q18.1, q18.2) else none) else if x3 = 269 then ((pX7_takeWind S q9 x0 x1).bind fun q22 => if q22.1 = 0 ∨ q22.1 = 1 then some (q22.1, q22.2) else none) else ((pX7_takeMark S q9 x0 x1).bind fun q25 => if q25.1 = 0 ∨ q25.1 = 1 then some (q25.1, q25.2) else none) else none) else none
set_option maxHeartbeats 2000000 in
set_option maxRecDepth 20000 in
theorem pX7_takeClause_39_ok {C : ZC} {E : ZE} {S : ZS} {q : (Int × ZM)} (hX : zCx C E 7 cX7_takeClause 4 (some .boolean) false) (hRm : czR C = { frames := 4, cells := 0, slots := 0, locals := 108 }) {M : ZM} {x0 : Int} {x1 : Int} {x2 : Int} {x3 : Int} (h : pX7_takeClause_39 S M x0 x1 x2 x3 = some q) : zG C E 4 S 0 0 (zQ C E 0 0 (some (0, q.1)) S q.2) 39 [some (2, x0), some (2, x1), some (0, x2), some (0, x3)] [] M := by
  unfold pX7_takeClause_39 at h
  refine zG.blk (pc' := 42) (l' := [some (2, x0), some (2, x1), some (0, x2), some (0, x3)]) (st' := [(0, x2), (0, x3), (2, x0)]) (M' := M) hX [(.aload_n 0, 0, 0, 0), (.iload_n 3, 0, 0, 0), (.iload_n 2, 0, 0, 0)] (by decide +kernel) rfl trivial ?_
  obtain ⟨g7, h⟩ := zif h
  obtain ⟨q5, e6, h⟩ := zbd h
  refine zG.callV (b := x0) (av := [(0, x3), (0, x2)]) (st := []) (ci := 7) hX (pX7_canStand_ok e6) sv_7_45 rfl ⟨by decide, rfl⟩ g7 (by decide +kernel) (by rw [hRm]; exact ⟨Nat.le_of_ble_eq_true rfl, Nat.le_of_ble_eq_true rfl⟩) (by rw [hRm]; exact ⟨Nat.le_of_ble_eq_true rfl, Nat.le_of_ble_eq_true rfl⟩) (Nat.le_of_ble_eq_true rfl) ?_
  show zG C E 4 S 0 0 _ 45 [some (2, x0), some (2, x1), some (0, x2), some (0, x3)] [(0, q5.1)] q5.2
  refine zG.if_ne (tgt := 54) (off := 9) hX (by decide +kernel) (by decide) (fun c8 => ?_) (fun c8 => ?_)
  · have h := zin c8 h
    refine zG.blk (pc' := 55) (l' := [some (2, x0), some (2, x1), some (0, x2), some (0, x3)]) (st' := [(2, x1)]) (M' := q5.2) hX [(.aload_n 1, 0, 0, 0)] (by decide +kernel) rfl trivial ?_
    obtain ⟨g11, h⟩ := zif h
    obtain ⟨q9, e10, h⟩ := zbd h
    refine zG.callV (b := x1) (av := []) (st := []) (ci := 8) hX (pX8_advance_ok e10) sv_7_49 rfl ⟨by decide, rfl⟩ g11 (by decide +kernel) (by rw [hRm]; exact ⟨Nat.le_of_ble_eq_true rfl, Nat.le_of_ble_eq_true rfl⟩) (by rw [hRm]; exact ⟨Nat.le_of_ble_eq_true rfl, Nat.le_of_ble_eq_true rfl⟩) (Nat.le_of_ble_eq_true rfl) ?_
    show zG C E 4 S 0 0 _ 58 [some (2, x0), some (2, x1), some (0, x2), some (0, x3)] [] q9
    refine zG.blk (pc' := 59) (l' := [some (2, x0), some (2, x1), some (0, x2), some (0, x3)]) (st' := [(0, x3)]) (M' := q9) hX [(.iload_n 3, 0, 0, 0)] (by decide +kernel) rfl trivial ?_
    have hs12 : decode cX7_takeClause 59 = .ok (.lookupswitch 51 #[(256, 39), (268, 33), (269, 45)], 33) := by decide +kernel
    by_cases c13 : x3 = 256
    · have h := zip c13 h
      refine zG.look (tgt := 98) hX hs12 rfl (by rw [c13]) (by decide) ?_
      refine zG.blk (pc' := 100) (l' := [some (2, x0), some (2, x1), some (0, x2), some (0, x3)]) (st' := [(2, x1), (2, x0)]) (M' := q9) hX [(.aload_n 0, 0, 0, 0), (.aload_n 1, 0, 0, 0)] (by decide +kernel) rfl trivial ?_
      obtain ⟨q14, e15, h⟩ := zbd h
      refine zG.callV (b := x0) (av := [(2, x1)]) (st := []) (ci := 7) hX (pX7_takePen_ok e15) sv_7_56 rfl ⟨by decide, rfl⟩ g7 (by decide +kernel) (by rw [hRm]; exact ⟨Nat.le_of_ble_eq_true rfl, Nat.le_of_ble_eq_true rfl⟩) (by rw [hRm]; exact ⟨Nat.le_of_ble_eq_true rfl, Nat.le_of_ble_eq_true rfl⟩) (Nat.le_of_ble_eq_true rfl) ?_
      show zG C E 4 S 0 0 _ 103 [some (2, x0), some (2, x1), some (0, x2), some (0, x3)] [(0, q14.1)] q14.2
      obtain ⟨g16, h⟩ := zif h
      cases h
      exact zG.zret hX (by decide +kernel) g16
    · have h := zin c13 h
      by_cases c17 : x3 = 268
      · have h := zip c17 h
        refine zG.look (tgt := 92) hX hs12 rfl (by rw [c17]) (by decide) ?_
        refine zG.blk (pc' := 94) (l' := [some (2, x0), some (2, x1), some (0, x2), some (0, x3)]) (st' := [(2, x1), (2, x0)]) (M' := q9) hX [(.aload_n 0, 0, 0, 0), (.aload_n 1, 0, 0, 0)] (by decide +kernel) rfl trivial ?_
        obtain ⟨q18, e19, h⟩ := zbd h
        refine zG.callV (b := x0) (av := [(2, x1)]) (st := []) (ci := 7) hX (pX7_takeSheet_ok e19) sv_7_52 rfl ⟨by decide, rfl⟩ g7 (by decide +kernel) (by rw [hRm]; exact ⟨Nat.le_of_ble_eq_true rfl, Nat.le_of_ble_eq_true rfl⟩) (by rw [hRm]; exact ⟨Nat.le_of_ble_eq_true rfl, Nat.le_of_ble_eq_true rfl⟩) (Nat.le_of_ble_eq_true rfl) ?_
        show zG C E 4 S 0 0 _ 97 [some (2, x0), some (2, x1), some (0, x2), some (0, x3)] [(0, q18.1)] q18.2
        obtain ⟨g20, h⟩ := zif h
        cases h
        exact zG.zret hX (by decide +kernel) g20
      · have h := zin c17 h
        by_cases c21 : x3 = 269
        · have h := zip c21 h
          refine zG.look (tgt := 104) hX hs12 rfl (by rw [c21]) (by decide) ?_
          refine zG.blk (pc' := 106) (l' := [some (2, x0), some (2, x1), some (0, x2), some (0, x3)]) (st' := [(2, x1), (2, x0)]) (M' := q9) hX [(.aload_n 0, 0, 0, 0), (.aload_n 1, 0, 0, 0)] (by decide +kernel) rfl trivial ?_
          obtain ⟨q22, e23, h⟩ := zbd h
          refine zG.callV (b := x0) (av := [(2, x1)]) (st := []) (ci := 7) hX (pX7_takeWind_ok e23) sv_7_59 rfl ⟨by decide, rfl⟩ g7 (by decide +kernel) (by rw [hRm]; exact ⟨Nat.le_of_ble_eq_true rfl, Nat.le_of_ble_eq_true rfl⟩) (by rw [hRm]; exact ⟨Nat.le_of_ble_eq_true rfl, Nat.le_of_ble_eq_true rfl⟩) (Nat.le_of_ble_eq_true rfl) ?_
          show zG C E 4 S 0 0 _ 109 [some (2, x0), some (2, x1), some (0, x2), some (0, x3)] [(0, q22.1)] q22.2
          obtain ⟨g24, h⟩ := zif h
          cases h
          exact zG.zret hX (by decide +kernel) g24
        · have h := zin c21 h
          refine zG.look (tgt := 110) (off := 51) hX hs12 rfl (by simp [Op.lookupswitch.offset, c13, c17, c21, Ne.symm c13, Ne.symm c17, Ne.symm c21]) (by decide) ?_
          refine zG.blk (pc' := 112) (l' := [some (2, x0), some (2, x1), some (0, x2), some (0, x3)]) (st' := [(2, x1), (2, x0)]) (M' := q9) hX [(.aload_n 0, 0, 0, 0), (.aload_n 1, 0, 0, 0)] (by decide +kernel) rfl trivial ?_
          obtain ⟨q25, e26, h⟩ := zbd h
          refine zG.callV (b := x0) (av := [(2, x1)]) (st := []) (ci := 7) hX (pX7_takeMark_ok e26) sv_7_62 rfl ⟨by decide, rfl⟩ g7 (by decide +kernel) (by rw [hRm]; exact ⟨Nat.le_of_ble_eq_true rfl, Nat.le_of_ble_eq_true rfl⟩) (by rw [hRm]; exact ⟨Nat.le_of_ble_eq_true rfl, Nat.le_of_ble_eq_true rfl⟩) (Nat.le_of_ble_eq_true rfl) ?_
          show zG C E 4 S 0 0 _ 115 [some (2, x0), some (2, x1), some (0, x2), some (0, x3)] [(0, q25.1)] q25.2
          obtain ⟨g27, h⟩ := zif h
          cases h
          exact zG.zret hX (by decide +kernel) g27
  · have h := zip c8 h
    refine zG.blk (pc' := 50) (l' := [some (2, x0), some (2, x1), some (0, x2), some (0, x3)]) (st' := [(0, 4), (2, x1)]) (M' := q5.2) hX [(.aload_n 1, 0, 0, 0), (.iconst 4, 0, 0, 0)] (by decide +kernel) rfl trivial ?_
    obtain ⟨g30, h⟩ := zif h
    obtain ⟨q28, e29, h⟩ := zbd h
    refine zG.callV (b := x1) (av := [(0, 4)]) (st := []) (ci := 8) hX (pX8_fail_ok e29) sv_7_42 rfl ⟨by decide, rfl⟩ g30 (by decide +kernel) (by rw [hRm]; exact ⟨Nat.le_of_ble_eq_true rfl, Nat.le_of_ble_eq_true rfl⟩) (by rw [hRm]; exact ⟨Nat.le_of_ble_eq_true rfl, Nat.le_of_ble_eq_true rfl⟩) (Nat.le_of_ble_eq_true rfl) ?_
    show zG C E 4 S 0 0 _ 53 [some (2, x0), some (2, x1), some (0, x2), some (0, x3)] [(0, q28.1)] q28.2
    obtain ⟨g31, h⟩ := zif h
    cases h
    exact zG.zret hX (by decide +kernel) g31
noncomputable def pX7_takeClause (S : ZS) (M : ZM) (a0 : Int) (a1 : Int) (a2 : Int) : Option (Int × ZM) := if S.1 a1 = 8 then (pX8_token S M a1).bind fun q1 => if q1.1 = 268 then (pX7_takeClause_39 S q1.2 a0 a1 a2 q1.1) else (if q1.1 = 256 then (pX7_takeClause_39 S q1.2 a0 a1 a2 q1.1) else (if q1.1 = 269 then (pX7_takeClause_39 S q1.2 a0 a1 a2 q1.1) else (if q1.1 = 265 then (pX7_takeClause_39 S q1.2 a0 a1 a2 q1.1) else ((pX8_fail S q1.2 a1 0).bind fun q35 => if q35.1 = 0 ∨ q35.1 = 1 then some (q35.1, q35.2) else none)))) else none
set_option maxHeartbeats 2000000 in
set_option maxRecDepth 20000 in
theorem pX7_takeClause_go {C : ZC} {E : ZE} {S : ZS} {M : ZM} {a0 a1 a2 : Int} {q : (Int × ZM)} (hX : zCx C E 7 cX7_takeClause 4 (some .boolean) false) (hRm : czR C = { frames := 4, cells := 0, slots := 0, locals := 108 }) (h : pX7_takeClause  S M a0 a1 a2 = some q) : zG C E 4 S 0 0 (zQ C E 0 0 (some (0, q.1)) S q.2) 0 [some (2, a0), some (2, a1), some (0, a2), none] [] M := by
  unfold pX7_takeClause at h
  refine zG.blk (pc' := 1) (l' := [some (2, a0), some (2, a1), some (0, a2), none]) (st' := [(2, a1)]) (M' := M) hX [(.aload_n 1, 0, 0, 0)] (by decide +kernel) rfl trivial ?_
  obtain ⟨g3, h⟩ := zif h
  obtain ⟨q1, e2, h⟩ := zbd h
  refine zG.callV (b := a1) (av := []) (st := []) (ci := 8) hX (pX8_token_ok e2) sv_7_30 rfl ⟨by decide, rfl⟩ g3 (by decide +kernel) (by rw [hRm]; exact ⟨Nat.le_of_ble_eq_true rfl, Nat.le_of_ble_eq_true rfl⟩) (by rw [hRm]; exact ⟨Nat.le_of_ble_eq_true rfl, Nat.le_of_ble_eq_true rfl⟩) (Nat.le_of_ble_eq_true rfl) ?_
  show zG C E 4 S 0 0 _ 4 [some (2, a0), some (2, a1), some (0, a2), none] [(0, q1.1)] q1.2
  refine zG.blk (pc' := 9) (l' := [some (2, a0), some (2, a1), some (0, a2), some (0, q1.1)]) (st' := [(0, 268), (0, q1.1)]) (M' := q1.2) hX [(.istore_n 3, 0, 0, 0), (.iload_n 3, 0, 0, 0), (.sipush 268, 0, 0, 0)] (by decide +kernel) rfl trivial ?_
  refine zG.icmp_eq (tgt := 39) (off := 30) hX (by decide +kernel) (by decide) (fun c4 => ?_) (fun c4 => ?_)
  · have h := zip c4 h
    exact (pX7_takeClause_39_ok hX hRm h)
  · have h := zin c4 h
    refine zG.blk (pc' := 16) (l' := [some (2, a0), some (2, a1), some (0, a2), some (0, q1.1)]) (st' := [(0, 256), (0, q1.1)]) (M' := q1.2) hX [(.iload_n 3, 0, 0, 0), (.sipush 256, 0, 0, 0)] (by decide +kernel) rfl trivial ?_
    refine zG.icmp_eq (tgt := 39) (off := 23) hX (by decide +kernel) (by decide) (fun c32 => ?_) (fun c32 => ?_)
    · have h := zip c32 h
      exact (pX7_takeClause_39_ok hX hRm h)
    · have h := zin c32 h
      refine zG.blk (pc' := 23) (l' := [some (2, a0), some (2, a1), some (0, a2), some (0, q1.1)]) (st' := [(0, 269), (0, q1.1)]) (M' := q1.2) hX [(.iload_n 3, 0, 0, 0), (.sipush 269, 0, 0, 0)] (by decide +kernel) rfl trivial ?_
      refine zG.icmp_eq (tgt := 39) (off := 16) hX (by decide +kernel) (by decide) (fun c33 => ?_) (fun c33 => ?_)
      · have h := zip c33 h
        exact (pX7_takeClause_39_ok hX hRm h)
      · have h := zin c33 h
        refine zG.blk (pc' := 30) (l' := [some (2, a0), some (2, a1), some (0, a2), some (0, q1.1)]) (st' := [(0, 265), (0, q1.1)]) (M' := q1.2) hX [(.iload_n 3, 0, 0, 0), (.sipush 265, 0, 0, 0)] (by decide +kernel) rfl trivial ?_
        refine zG.icmp_eq (tgt := 39) (off := 9) hX (by decide +kernel) (by decide) (fun c34 => ?_) (fun c34 => ?_)
        · have h := zip c34 h
          exact (pX7_takeClause_39_ok hX hRm h)
        · have h := zin c34 h
          refine zG.blk (pc' := 35) (l' := [some (2, a0), some (2, a1), some (0, a2), some (0, q1.1)]) (st' := [(0, 0), (2, a1)]) (M' := q1.2) hX [(.aload_n 1, 0, 0, 0), (.iconst 0, 0, 0, 0)] (by decide +kernel) rfl trivial ?_
          obtain ⟨q35, e36, h⟩ := zbd h
          refine zG.callV (b := a1) (av := [(0, 0)]) (st := []) (ci := 8) hX (pX8_fail_ok e36) sv_7_42 rfl ⟨by decide, rfl⟩ g3 (by decide +kernel) (by rw [hRm]; exact ⟨Nat.le_of_ble_eq_true rfl, Nat.le_of_ble_eq_true rfl⟩) (by rw [hRm]; exact ⟨Nat.le_of_ble_eq_true rfl, Nat.le_of_ble_eq_true rfl⟩) (Nat.le_of_ble_eq_true rfl) ?_
          show zG C E 4 S 0 0 _ 38 [some (2, a0), some (2, a1), some (0, a2), some (0, q1.1)] [(0, q35.1)] q35.2
          obtain ⟨g37, h⟩ := zif h
          cases h
          exact zG.zret hX (by decide +kernel) g37
theorem pX7_takeClause_ok {l : Launch} {E : ZE} {S : ZS} {M : ZM} {a0 a1 a2 : Int} {q : (Int × ZM)} (h : pX7_takeClause S M a0 a1 a2 = some q) : zMet l yX7_takeClause cX7_takeClause 4 (some .boolean) 4 108 0 0 E S M [(2, a0), (2, a1), (0, a2)] (some (0, q.1)) S q.2 :=
  zMet.of (o := 7) (ini := false) (by decide +kernel) rfl (fun h => by cases h) (Nat.le_of_ble_eq_true rfl) (fun C hX hl hRm => by subst hl; exact pX7_takeClause_go hX hRm h)
theorem ss_9_43 : zSS 9 43 yJ7_fill_53178 cJ7_fill_53178 4 none 2 := ⟨⟨gt_at 602 (by decide +kernel) rfl, gt_at 273 (by decide +kernel) rfl, gt_at 112 (by decide +kernel) rfl, gt_at 274 (by decide +kernel) rfl⟩, by decide +kernel, by decide +kernel, by decide +kernel⟩
noncomputable def pX9_clear_25 (S : ZS) (M : ZM) (x0 : Int) : Option ZM := if S.1 x0 = 9 then (pJ7_fill_53178 S M (M x0 9) 0).bind fun q8 => some q8 else none
set_option maxHeartbeats 2000000 in
set_option maxRecDepth 20000 in
theorem pX9_clear_25_ok {C : ZC} {E : ZE} {S : ZS} {q : ZM} (hX : zCx C E 9 cX9_clear 1 none false) (hRm : czR C = { frames := 2, cells := 0, slots := 0, locals := 63 }) {M : ZM} {x0 : Int} (h : pX9_clear_25 S M x0 = some q) : zG C E 1 S 0 0 (zQ C E 0 0 none S q) 25 [some (2, x0)] [] M := by
  unfold pX9_clear_25 at h
  obtain ⟨g7, h⟩ := zif h
  refine zG.blk (pc' := 30) (l' := [some (2, x0)]) (st' := [(0, 0), (2, M x0 9)]) (M' := M) hX [(.aload_n 0, 0, 0, 0), (.getfield 24, 9, 9, 2), (.iconst 0, 0, 0, 0)] (by decide +kernel) rfl (And.intro g7 trivial) ?_
  obtain ⟨q8, e9, h⟩ := zbd h
  refine zG.callS (av := [(2, M x0 9), (0, 0)]) (st := []) hX (pJ7_fill_53178_ok e9) ss_9_43 rfl (by decide +kernel) (by rw [hRm]; exact ⟨Nat.le_of_ble_eq_true rfl, Nat.le_of_ble_eq_true rfl⟩) (by rw [hRm]; exact ⟨Nat.le_of_ble_eq_true rfl, Nat.le_of_ble_eq_true rfl⟩) (Nat.le_of_ble_eq_true rfl) ?_
  show zG C E 1 S 0 0 _ 33 [some (2, x0)] [] q8
  cases h
  exact zG.vret hX (by decide +kernel)
noncomputable def pX9_clear (S : ZS) (M : ZM) (a0 : Int) : Option ZM := if S.1 a0 = 9 then zlet (upM M a0 0 0) fun M2 => zlet (upM M2 a0 1 0) fun M3 => zlet (upM M3 a0 2 0) fun M4 => zlet (upM M4 a0 3 0) fun M5 => zlet (upM M5 a0 4 0) fun M6 => pX9_clear_25 S M6 a0 else none
set_option maxHeartbeats 2000000 in
set_option maxRecDepth 20000 in
theorem pX9_clear_go {C : ZC} {E : ZE} {S : ZS} {M : ZM} {a0 : Int} {q : ZM} (hX : zCx C E 9 cX9_clear 1 none false) (hRm : czR C = { frames := 2, cells := 0, slots := 0, locals := 63 }) (h : pX9_clear  S M a0 = some q) : zG C E 1 S 0 0 (zQ C E 0 0 none S q) 0 [some (2, a0)] [] M := by
  unfold pX9_clear at h
  obtain ⟨g1, h⟩ := zif h
  refine zG.blk (pc' := 5) (l' := [some (2, a0)]) (st' := []) (M' := (upM M a0 0 0)) hX [(.aload_n 0, 0, 0, 0), (.iconst 0, 0, 0, 0), (.putfield 27, 9, 0, 0)] (by decide +kernel) rfl (And.intro g1 trivial) ?_
  generalize upM M a0 0 0 = M2 at h ⊢
  have h := zlt h
  refine zG.blk (pc' := 10) (l' := [some (2, a0)]) (st' := []) (M' := (upM M2 a0 1 0)) hX [(.aload_n 0, 0, 0, 0), (.iconst 0, 0, 0, 0), (.putfield 31, 9, 1, 0)] (by decide +kernel) rfl (And.intro g1 trivial) ?_
  generalize upM M2 a0 1 0 = M3 at h ⊢
  have h := zlt h
  refine zG.blk (pc' := 15) (l' := [some (2, a0)]) (st' := []) (M' := (upM M3 a0 2 0)) hX [(.aload_n 0, 0, 0, 0), (.iconst 0, 0, 0, 0), (.putfield 34, 9, 2, 0)] (by decide +kernel) rfl (And.intro g1 trivial) ?_
  generalize upM M3 a0 2 0 = M4 at h ⊢
  have h := zlt h
  refine zG.blk (pc' := 20) (l' := [some (2, a0)]) (st' := []) (M' := (upM M4 a0 3 0)) hX [(.aload_n 0, 0, 0, 0), (.iconst 0, 0, 0, 0), (.putfield 37, 9, 3, 0)] (by decide +kernel) rfl (And.intro g1 trivial) ?_
  generalize upM M4 a0 3 0 = M5 at h ⊢
  have h := zlt h
  refine zG.blk (pc' := 25) (l' := [some (2, a0)]) (st' := []) (M' := (upM M5 a0 4 0)) hX [(.aload_n 0, 0, 0, 0), (.iconst 0, 0, 0, 0), (.putfield 40, 9, 4, 0)] (by decide +kernel) rfl (And.intro g1 trivial) ?_
  generalize upM M5 a0 4 0 = M6 at h ⊢
  have h := zlt h
  exact (pX9_clear_25_ok hX hRm h)
theorem pX9_clear_ok {l : Launch} {E : ZE} {S : ZS} {M : ZM} {a0 : Int} {q : ZM} (h : pX9_clear S M a0 = some q) : zMet l yX9_clear cX9_clear 1 none 2 63 0 0 E S M [(2, a0)] (none) S q :=
  zMet.of (o := 9) (ini := false) (by decide +kernel) rfl (fun h => by cases h) (Nat.le_of_ble_eq_true rfl) (fun C hX hl hRm => by subst hl; exact pX9_clear_go hX hRm h)
noncomputable def pX8_append_49 (S : ZS) (M : ZM) : Option ZM := some M
set_option maxHeartbeats 2000000 in
set_option maxRecDepth 20000 in
theorem pX8_append_49_ok {C : ZC} {E : ZE} {S : ZS} {q : ZM} (hX : zCx C E 8 cX8_append 3 none false) (hRm : czR C = { frames := 1, cells := 0, slots := 0, locals := 40 }) {M : ZM} (h : pX8_append_49 S M = some q) : zG C E 3 S 0 0 (zQ C E 0 0 none S q) 49 [none, none, none] [] M := by
  unfold pX8_append_49 at h
  cases h
  exact zG.vret hX (by decide +kernel)
noncomputable def pX8_append_3 (S : ZS) : Nat → ZM → Int → Int → Int → Option ZM
  | 0 => fun _ _ _ _ => none
  | n + 1 => fun M x0 x1 x2 => if x2 < 0 then (pX8_append_49 S M) else (if S.1 x0 = 8 then if 400 ≤ M x0 1 then (pX8_append_49 S M) else (if S.1 (M x0 0) = 100 ∧ (0 : Int) ≤ M x0 1 ∧ M x0 1 < S.2.1 (M x0 0) then zlet (upM M (M x0 0) (M x0 1) (zand (zush x1 x2) 255)) fun M5 => zlet (upM M5 x0 1 (w32 ((M5 x0 1) + 1))) fun M6 => pX8_append_3 S n M6 x0 x1 (w32 (x2 + (-8))) else none) else none)
set_option maxHeartbeats 2000000 in
set_option maxRecDepth 20000 in
theorem pX8_append_3_ok {C : ZC} {E : ZE} {S : ZS} {q : ZM} (hX : zCx C E 8 cX8_append 3 none false) (hRm : czR C = { frames := 1, cells := 0, slots := 0, locals := 40 }) : ∀ (n : Nat) (M : ZM) (x0 : Int) (x1 : Int) (x2 : Int), pX8_append_3 S n M x0 x1 x2 = some q → zG C E 3 S 0 0 (zQ C E 0 0 none S q) 3 [some (2, x0), some (0, x1), some (0, x2)] [] M := by
  intro n
  induction n with
  | zero => intro M x0 x1 x2 h; cases h
  | succ n ih =>
    intro M x0 x1 x2 h
    unfold pX8_append_3 at h
    refine zG.blk (pc' := 4) (l' := [some (2, x0), some (0, x1), some (0, x2)]) (st' := [(0, x2)]) (M' := M) hX [(.iload_n 2, 0, 0, 0)] (by decide +kernel) rfl trivial ?_
    refine zG.if_lt (tgt := 49) (off := 45) hX (by decide +kernel) (by decide) (fun c1 => ?_) (fun c1 => ?_)
    · have h := zip c1 h
      exact zG.wk [false, false, false] (pX8_append_49_ok hX hRm h)
    · have h := zin c1 h
      obtain ⟨g2, h⟩ := zif h
      refine zG.blk (pc' := 14) (l' := [some (2, x0), some (0, x1), some (0, x2)]) (st' := [(0, 400), (0, M x0 1)]) (M' := M) hX [(.aload_n 0, 0, 0, 0), (.getfield 21, 8, 1, 0), (.sipush 400, 0, 0, 0)] (by decide +kernel) rfl (And.intro g2 trivial) ?_
      refine zG.icmp_ge (tgt := 49) (off := 35) hX (by decide +kernel) (by decide) (fun c3 => ?_) (fun c3 => ?_)
      · have h := zip c3 h
        exact zG.wk [false, false, false] (pX8_append_49_ok hX hRm h)
      · have h := zin c3 h
        obtain ⟨g4, h⟩ := zif h
        refine zG.blk (pc' := 33) (l' := [some (2, x0), some (0, x1), some (0, x2)]) (st' := []) (M' := (upM M (M x0 0) (M x0 1) (zand (zush x1 x2) 255))) hX [(.aload_n 0, 0, 0, 0), (.getfield 9, 8, 0, 2), (.aload_n 0, 0, 0, 0), (.getfield 21, 8, 1, 0), (.iload_n 1, 0, 0, 0), (.iload_n 2, 0, 0, 0), (.iushr, 0, 0, 0), (.sipush 255, 0, 0, 0), (.iand, 0, 0, 0), (.iastore, 0, 0, 0)] (by decide +kernel) rfl (And.intro g2 (And.intro g2 (And.intro g4 trivial))) ?_
        generalize upM M (M x0 0) (M x0 1) (zand (zush x1 x2) 255) = M5 at h ⊢
        have h := zlt h
        refine zG.blk (pc' := 43) (l' := [some (2, x0), some (0, x1), some (0, x2)]) (st' := []) (M' := (upM M5 x0 1 (w32 ((M5 x0 1) + 1)))) hX [(.aload_n 0, 0, 0, 0), (.dup, 0, 0, 0), (.getfield 21, 8, 1, 0), (.iconst 1, 0, 0, 0), (.iadd, 0, 0, 0), (.putfield 21, 8, 1, 0)] (by decide +kernel) rfl (And.intro g2 (And.intro g2 trivial)) ?_
        generalize upM M5 x0 1 (w32 ((M5 x0 1) + 1)) = M6 at h ⊢
        have h := zlt h
        refine zG.blk (pc' := 46) (l' := [some (2, x0), some (0, x1), some (0, w32 (x2 + (-8)))]) (st' := []) (M' := M6) hX [(.iinc 2 (-8), 0, 0, 0)] (by decide +kernel) rfl trivial ?_
        refine zG.goto (tgt := 3) (off := (-43)) hX (by decide +kernel) (by decide) ?_
        exact ih _ _ _ _ h
noncomputable def pX8_append (S : ZS) (M : ZM) (a0 : Int) (a1 : Int) : Option ZM := pX8_append_3 S zFU M a0 a1 24
set_option maxHeartbeats 2000000 in
set_option maxRecDepth 20000 in
theorem pX8_append_go {C : ZC} {E : ZE} {S : ZS} {M : ZM} {a0 a1 : Int} {q : ZM} (hX : zCx C E 8 cX8_append 3 none false) (hRm : czR C = { frames := 1, cells := 0, slots := 0, locals := 40 }) (h : pX8_append  S M a0 a1 = some q) : zG C E 3 S 0 0 (zQ C E 0 0 none S q) 0 [some (2, a0), some (0, a1), none] [] M := by
  unfold pX8_append at h
  refine zG.blk (pc' := 3) (l' := [some (2, a0), some (0, a1), some (0, 24)]) (st' := []) (M' := M) hX [(.bipush 24, 0, 0, 0), (.istore_n 2, 0, 0, 0)] (by decide +kernel) rfl trivial ?_
  exact (pX8_append_3_ok hX hRm zFU _ _ _ _ h)
theorem pX8_append_ok {l : Launch} {E : ZE} {S : ZS} {M : ZM} {a0 a1 : Int} {q : ZM} (h : pX8_append S M a0 a1 = some q) : zMet l yX8_append cX8_append 3 none 1 40 0 0 E S M [(2, a0), (0, a1)] (none) S q :=
  zMet.of (o := 8) (ini := false) (by decide +kernel) rfl (fun h => by cases h) (Nat.le_of_ble_eq_true rfl) (fun C hX hl hRm => by subst hl; exact pX8_append_go hX hRm h)
noncomputable def pX9_hasCell_17 (S : ZS) (M : ZM) (y0 : Int) : Option (Int × ZM) := if y0 = 0 ∨ y0 = 1 then some (y0, M) else none
set_option maxHeartbeats 2000000 in
set_option maxRecDepth 20000 in
theorem pX9_hasCell_17_ok {C : ZC} {E : ZE} {S : ZS} {q : (Int × ZM)} (hX : zCx C E 9 cX9_hasCell 2 (some .boolean) false) (hRm : czR C = { frames := 1, cells := 0, slots := 0, locals := 40 }) {M : ZM} {y0 : Int} (h : pX9_hasCell_17 S M y0 = some q) : zG C E 2 S 0 0 (zQ C E 0 0 (some (0, q.1)) S q.2) 17 [none, none] [(0, y0)] M := by
  unfold pX9_hasCell_17 at h
  obtain ⟨g2, h⟩ := zif h
  cases h
  exact zG.zret hX (by decide +kernel) g2
noncomputable def pX9_hasCell_16 (S : ZS) (M : ZM) : Option (Int × ZM) := pX9_hasCell_17 S M 0
set_option maxHeartbeats 2000000 in
set_option maxRecDepth 20000 in
theorem pX9_hasCell_16_ok {C : ZC} {E : ZE} {S : ZS} {q : (Int × ZM)} (hX : zCx C E 9 cX9_hasCell 2 (some .boolean) false) (hRm : czR C = { frames := 1, cells := 0, slots := 0, locals := 40 }) {M : ZM} (h : pX9_hasCell_16 S M = some q) : zG C E 2 S 0 0 (zQ C E 0 0 (some (0, q.1)) S q.2) 16 [none, none] [] M := by
  unfold pX9_hasCell_16 at h
  refine zG.blk (pc' := 17) (l' := [none, none]) (st' := [(0, 0)]) (M' := M) hX [(.iconst 0, 0, 0, 0)] (by decide +kernel) rfl trivial ?_
  exact (pX9_hasCell_17_ok hX hRm h)
noncomputable def pX9_hasCell (S : ZS) (M : ZM) (a0 : Int) (a1 : Int) : Option (Int × ZM) := if a1 < 0 then (pX9_hasCell_16 S M) else (if S.1 a0 = 9 then if M a0 1 ≤ a1 then (pX9_hasCell_16 S M) else (pX9_hasCell_17 S M 1) else none)
set_option maxHeartbeats 2000000 in
set_option maxRecDepth 20000 in
theorem pX9_hasCell_go {C : ZC} {E : ZE} {S : ZS} {M : ZM} {a0 a1 : Int} {q : (Int × ZM)} (hX : zCx C E 9 cX9_hasCell 2 (some .boolean) false) (hRm : czR C = { frames := 1, cells := 0, slots := 0, locals := 40 }) (h : pX9_hasCell  S M a0 a1 = some q) : zG C E 2 S 0 0 (zQ C E 0 0 (some (0, q.1)) S q.2) 0 [some (2, a0), some (0, a1)] [] M := by
  unfold pX9_hasCell at h
  refine zG.blk (pc' := 1) (l' := [some (2, a0), some (0, a1)]) (st' := [(0, a1)]) (M' := M) hX [(.iload_n 1, 0, 0, 0)] (by decide +kernel) rfl trivial ?_
  refine zG.if_lt (tgt := 16) (off := 15) hX (by decide +kernel) (by decide) (fun c1 => ?_) (fun c1 => ?_)
  · have h := zip c1 h
    exact zG.wk [false, false] (pX9_hasCell_16_ok hX hRm h)
  · have h := zin c1 h
    obtain ⟨g3, h⟩ := zif h
    refine zG.blk (pc' := 9) (l' := [some (2, a0), some (0, a1)]) (st' := [(0, M a0 1), (0, a1)]) (M' := M) hX [(.iload_n 1, 0, 0, 0), (.aload_n 0, 0, 0, 0), (.getfield 31, 9, 1, 0)] (by decide +kernel) rfl (And.intro g3 trivial) ?_
    refine zG.icmp_ge (tgt := 16) (off := 7) hX (by decide +kernel) (by decide) (fun c4 => ?_) (fun c4 => ?_)
    · have h := zip c4 h
      exact zG.wk [false, false] (pX9_hasCell_16_ok hX hRm h)
    · have h := zin c4 h
      refine zG.blk (pc' := 13) (l' := [some (2, a0), some (0, a1)]) (st' := [(0, 1)]) (M' := M) hX [(.iconst 1, 0, 0, 0)] (by decide +kernel) rfl trivial ?_
      refine zG.goto (tgt := 17) (off := 4) hX (by decide +kernel) (by decide) ?_
      exact zG.wk [false, false] (pX9_hasCell_17_ok hX hRm h)
theorem pX9_hasCell_ok {l : Launch} {E : ZE} {S : ZS} {M : ZM} {a0 a1 : Int} {q : (Int × ZM)} (h : pX9_hasCell S M a0 a1 = some q) : zMet l yX9_hasCell cX9_hasCell 2 (some .boolean) 1 40 0 0 E S M [(2, a0), (0, a1)] (some (0, q.1)) S q.2 :=
  zMet.of (o := 9) (ini := false) (by decide +kernel) rfl (fun h => by cases h) (Nat.le_of_ble_eq_true rfl) (fun C hX hl hRm => by subst hl; exact pX9_hasCell_go hX hRm h)
noncomputable def pX9_hasPen_17 (S : ZS) (M : ZM) (y0 : Int) : Option (Int × ZM) := if y0 = 0 ∨ y0 = 1 then some (y0, M) else none
set_option maxHeartbeats 2000000 in
set_option maxRecDepth 20000 in
theorem pX9_hasPen_17_ok {C : ZC} {E : ZE} {S : ZS} {q : (Int × ZM)} (hX : zCx C E 9 cX9_hasPen 2 (some .boolean) false) (hRm : czR C = { frames := 1, cells := 0, slots := 0, locals := 40 }) {M : ZM} {y0 : Int} (h : pX9_hasPen_17 S M y0 = some q) : zG C E 2 S 0 0 (zQ C E 0 0 (some (0, q.1)) S q.2) 17 [none, none] [(0, y0)] M := by
  unfold pX9_hasPen_17 at h
  obtain ⟨g2, h⟩ := zif h
  cases h
  exact zG.zret hX (by decide +kernel) g2
noncomputable def pX9_hasPen_16 (S : ZS) (M : ZM) : Option (Int × ZM) := pX9_hasPen_17 S M 0
set_option maxHeartbeats 2000000 in
set_option maxRecDepth 20000 in
theorem pX9_hasPen_16_ok {C : ZC} {E : ZE} {S : ZS} {q : (Int × ZM)} (hX : zCx C E 9 cX9_hasPen 2 (some .boolean) false) (hRm : czR C = { frames := 1, cells := 0, slots := 0, locals := 40 }) {M : ZM} (h : pX9_hasPen_16 S M = some q) : zG C E 2 S 0 0 (zQ C E 0 0 (some (0, q.1)) S q.2) 16 [none, none] [] M := by
  unfold pX9_hasPen_16 at h
  refine zG.blk (pc' := 17) (l' := [none, none]) (st' := [(0, 0)]) (M' := M) hX [(.iconst 0, 0, 0, 0)] (by decide +kernel) rfl trivial ?_
  exact (pX9_hasPen_17_ok hX hRm h)
noncomputable def pX9_hasPen (S : ZS) (M : ZM) (a0 : Int) (a1 : Int) : Option (Int × ZM) := if a1 < 0 then (pX9_hasPen_16 S M) else (if S.1 a0 = 9 then if M a0 3 ≤ a1 then (pX9_hasPen_16 S M) else (pX9_hasPen_17 S M 1) else none)
set_option maxHeartbeats 2000000 in
set_option maxRecDepth 20000 in
theorem pX9_hasPen_go {C : ZC} {E : ZE} {S : ZS} {M : ZM} {a0 a1 : Int} {q : (Int × ZM)} (hX : zCx C E 9 cX9_hasPen 2 (some .boolean) false) (hRm : czR C = { frames := 1, cells := 0, slots := 0, locals := 40 }) (h : pX9_hasPen  S M a0 a1 = some q) : zG C E 2 S 0 0 (zQ C E 0 0 (some (0, q.1)) S q.2) 0 [some (2, a0), some (0, a1)] [] M := by
  unfold pX9_hasPen at h
  refine zG.blk (pc' := 1) (l' := [some (2, a0), some (0, a1)]) (st' := [(0, a1)]) (M' := M) hX [(.iload_n 1, 0, 0, 0)] (by decide +kernel) rfl trivial ?_
  refine zG.if_lt (tgt := 16) (off := 15) hX (by decide +kernel) (by decide) (fun c1 => ?_) (fun c1 => ?_)
  · have h := zip c1 h
    exact zG.wk [false, false] (pX9_hasPen_16_ok hX hRm h)
  · have h := zin c1 h
    obtain ⟨g3, h⟩ := zif h
    refine zG.blk (pc' := 9) (l' := [some (2, a0), some (0, a1)]) (st' := [(0, M a0 3), (0, a1)]) (M' := M) hX [(.iload_n 1, 0, 0, 0), (.aload_n 0, 0, 0, 0), (.getfield 37, 9, 3, 0)] (by decide +kernel) rfl (And.intro g3 trivial) ?_
    refine zG.icmp_ge (tgt := 16) (off := 7) hX (by decide +kernel) (by decide) (fun c4 => ?_) (fun c4 => ?_)
    · have h := zip c4 h
      exact zG.wk [false, false] (pX9_hasPen_16_ok hX hRm h)
    · have h := zin c4 h
      refine zG.blk (pc' := 13) (l' := [some (2, a0), some (0, a1)]) (st' := [(0, 1)]) (M' := M) hX [(.iconst 1, 0, 0, 0)] (by decide +kernel) rfl trivial ?_
      refine zG.goto (tgt := 17) (off := 4) hX (by decide +kernel) (by decide) ?_
      exact zG.wk [false, false] (pX9_hasPen_17_ok hX hRm h)
theorem pX9_hasPen_ok {l : Launch} {E : ZE} {S : ZS} {M : ZM} {a0 a1 : Int} {q : (Int × ZM)} (h : pX9_hasPen S M a0 a1 = some q) : zMet l yX9_hasPen cX9_hasPen 2 (some .boolean) 1 40 0 0 E S M [(2, a0), (0, a1)] (some (0, q.1)) S q.2 :=
  zMet.of (o := 9) (ini := false) (by decide +kernel) rfl (fun h => by cases h) (Nat.le_of_ble_eq_true rfl) (fun C hX hl hRm => by subst hl; exact pX9_hasPen_go hX hRm h)
noncomputable def pX9_isThere (S : ZS) (M : ZM) (a0 : Int) : Option (Int × ZM) := if S.1 a0 = 9 then some ((if M a0 0 ≤ 0 then (0 : Int) else 1), M) else none
set_option maxHeartbeats 2000000 in
set_option maxRecDepth 20000 in
theorem pX9_isThere_go {C : ZC} {E : ZE} {S : ZS} {M : ZM} {a0 : Int} {q : (Int × ZM)} (hX : zCx C E 9 cX9_isThere 1 (some .boolean) false) (hRm : czR C = { frames := 1, cells := 0, slots := 0, locals := 40 }) (h : pX9_isThere  S M a0 = some q) : zG C E 1 S 0 0 (zQ C E 0 0 (some (0, q.1)) S q.2) 0 [some (2, a0)] [] M := by
  unfold pX9_isThere at h
  obtain ⟨g1, h⟩ := zif h
  refine zG.blk (pc' := 4) (l' := [some (2, a0)]) (st' := [(0, M a0 0)]) (M' := M) hX [(.aload_n 0, 0, 0, 0), (.getfield 27, 9, 0, 0)] (by decide +kernel) rfl (And.intro g1 trivial) ?_
  have key2 : zG C E 1 S 0 0 (zQ C E 0 0 (some (0, q.1)) S q.2) 12 [some (2, a0)] [(0, (if M a0 0 ≤ 0 then (0 : Int) else 1))] M := by
    cases h
    exact zG.zret hX (by decide +kernel) (z01_ite (Or.inl rfl) (Or.inr rfl))
  refine zG.if_le (tgt := 11) (off := 7) hX (by decide +kernel) (by decide) (fun c3 => ?_) (fun c3 => ?_)
  · refine zG.blk (pc' := 12) (l' := [some (2, a0)]) (st' := [(0, 0)]) (M' := M) hX [(.iconst 0, 0, 0, 0)] (by decide +kernel) rfl trivial ?_
    (have k := key2; simp only [if_pos c3] at k; exact k)
  · refine zG.blk (pc' := 8) (l' := [some (2, a0)]) (st' := [(0, 1)]) (M' := M) hX [(.iconst 1, 0, 0, 0)] (by decide +kernel) rfl trivial ?_
    refine zG.goto (tgt := 12) (off := 4) hX (by decide +kernel) (by decide) ?_
    (have k := key2; simp only [if_neg c3] at k; exact k)
theorem pX9_isThere_ok {l : Launch} {E : ZE} {S : ZS} {M : ZM} {a0 : Int} {q : (Int × ZM)} (h : pX9_isThere S M a0 = some q) : zMet l yX9_isThere cX9_isThere 1 (some .boolean) 1 40 0 0 E S M [(2, a0)] (some (0, q.1)) S q.2 :=
  zMet.of (o := 9) (ini := false) (by decide +kernel) rfl (fun h => by cases h) (Nat.le_of_ble_eq_true rfl) (fun C hX hl hRm => by subst hl; exact pX9_isThere_go hX hRm h)
noncomputable def pX10_addNote_49 (S : ZS) (M : ZM) : Option ZM := some M
set_option maxHeartbeats 2000000 in
set_option maxRecDepth 20000 in
theorem pX10_addNote_49_ok {C : ZC} {E : ZE} {S : ZS} {q : ZM} (hX : zCx C E 10 cX10_addNote 4 none false) (hRm : czR C = { frames := 1, cells := 0, slots := 0, locals := 40 }) {M : ZM} (h : pX10_addNote_49 S M = some q) : zG C E 4 S 0 0 (zQ C E 0 0 none S q) 49 [none, none, none, none] [] M := by
  unfold pX10_addNote_49 at h
  cases h
  exact zG.vret hX (by decide +kernel)
noncomputable def pX10_addNote_39 (S : ZS) (M : ZM) (x0 : Int) : Option ZM := if S.1 x0 = 10 then zlet (upM M x0 7 (w32 ((M x0 7) + 1))) fun M10 => pX10_addNote_49 S M10 else none
set_option maxHeartbeats 2000000 in
set_option maxRecDepth 20000 in
theorem pX10_addNote_39_ok {C : ZC} {E : ZE} {S : ZS} {q : ZM} (hX : zCx C E 10 cX10_addNote 4 none false) (hRm : czR C = { frames := 1, cells := 0, slots := 0, locals := 40 }) {M : ZM} {x0 : Int} (h : pX10_addNote_39 S M x0 = some q) : zG C E 4 S 0 0 (zQ C E 0 0 none S q) 39 [some (2, x0), none, none, none] [] M := by
  unfold pX10_addNote_39 at h
  obtain ⟨g9, h⟩ := zif h
  refine zG.blk (pc' := 49) (l' := [some (2, x0), none, none, none]) (st' := []) (M' := (upM M x0 7 (w32 ((M x0 7) + 1)))) hX [(.aload_n 0, 0, 0, 0), (.dup, 0, 0, 0), (.getfield 53, 10, 7, 0), (.iconst 1, 0, 0, 0), (.iadd, 0, 0, 0), (.putfield 53, 10, 7, 0)] (by decide +kernel) rfl (And.intro g9 (And.intro g9 trivial)) ?_
  generalize upM M x0 7 (w32 ((M x0 7) + 1)) = M10 at h ⊢
  have h := zlt h
  exact zG.wk [false, true, true, true] (pX10_addNote_49_ok hX hRm h)
noncomputable def pX10_addNote (S : ZS) (M : ZM) (a0 : Int) (a1 : Int) (a2 : Int) (a3 : Int) : Option ZM := if S.1 a0 = 10 then if 10 ≤ M a0 7 then (pX10_addNote_49 S M) else (if S.1 (M a0 4) = 100 ∧ (0 : Int) ≤ M a0 7 ∧ M a0 7 < S.2.1 (M a0 4) then zlet (upM M (M a0 4) (M a0 7) a1) fun M4 => if S.1 (M4 a0 5) = 100 ∧ (0 : Int) ≤ M4 a0 7 ∧ M4 a0 7 < S.2.1 (M4 a0 5) then zlet (upM M4 (M4 a0 5) (M4 a0 7) a2) fun M6 => if S.1 (M6 a0 6) = 100 ∧ (0 : Int) ≤ M6 a0 7 ∧ M6 a0 7 < S.2.1 (M6 a0 6) then zlet (upM M6 (M6 a0 6) (M6 a0 7) a3) fun M8 => pX10_addNote_39 S M8 a0 else none else none else none) else none
set_option maxHeartbeats 2000000 in
set_option maxRecDepth 20000 in
theorem pX10_addNote_go {C : ZC} {E : ZE} {S : ZS} {M : ZM} {a0 a1 a2 a3 : Int} {q : ZM} (hX : zCx C E 10 cX10_addNote 4 none false) (hRm : czR C = { frames := 1, cells := 0, slots := 0, locals := 40 }) (h : pX10_addNote  S M a0 a1 a2 a3 = some q) : zG C E 4 S 0 0 (zQ C E 0 0 none S q) 0 [some (2, a0), some (0, a1), some (0, a2), some (0, a3)] [] M := by
  unfold pX10_addNote at h
  obtain ⟨g1, h⟩ := zif h
  refine zG.blk (pc' := 6) (l' := [some (2, a0), some (0, a1), some (0, a2), some (0, a3)]) (st' := [(0, 10), (0, M a0 7)]) (M' := M) hX [(.aload_n 0, 0, 0, 0), (.getfield 53, 10, 7, 0), (.bipush 10, 0, 0, 0)] (by decide +kernel) rfl (And.intro g1 trivial) ?_
  refine zG.icmp_ge (tgt := 49) (off := 43) hX (by decide +kernel) (by decide) (fun c2 => ?_) (fun c2 => ?_)
  · have h := zip c2 h
    exact zG.wk [false, false, false, false] (pX10_addNote_49_ok hX hRm h)
  · have h := zin c2 h
    obtain ⟨g3, h⟩ := zif h
    refine zG.blk (pc' := 19) (l' := [some (2, a0), some (0, a1), some (0, a2), some (0, a3)]) (st' := []) (M' := (upM M (M a0 4) (M a0 7) a1)) hX [(.aload_n 0, 0, 0, 0), (.getfield 29, 10, 4, 2), (.aload_n 0, 0, 0, 0), (.getfield 53, 10, 7, 0), (.iload_n 1, 0, 0, 0), (.iastore, 0, 0, 0)] (by decide +kernel) rfl (And.intro g1 (And.intro g1 (And.intro g3 trivial))) ?_
    generalize upM M (M a0 4) (M a0 7) a1 = M4 at h ⊢
    have h := zlt h
    obtain ⟨g5, h⟩ := zif h
    refine zG.blk (pc' := 29) (l' := [some (2, a0), some (0, a1), some (0, a2), some (0, a3)]) (st' := []) (M' := (upM M4 (M4 a0 5) (M4 a0 7) a2)) hX [(.aload_n 0, 0, 0, 0), (.getfield 33, 10, 5, 2), (.aload_n 0, 0, 0, 0), (.getfield 53, 10, 7, 0), (.iload_n 2, 0, 0, 0), (.iastore, 0, 0, 0)] (by decide +kernel) rfl (And.intro g1 (And.intro g1 (And.intro g5 trivial))) ?_
    generalize upM M4 (M4 a0 5) (M4 a0 7) a2 = M6 at h ⊢
    have h := zlt h
    obtain ⟨g7, h⟩ := zif h
    refine zG.blk (pc' := 39) (l' := [some (2, a0), some (0, a1), some (0, a2), some (0, a3)]) (st' := []) (M' := (upM M6 (M6 a0 6) (M6 a0 7) a3)) hX [(.aload_n 0, 0, 0, 0), (.getfield 36, 10, 6, 2), (.aload_n 0, 0, 0, 0), (.getfield 53, 10, 7, 0), (.iload_n 3, 0, 0, 0), (.iastore, 0, 0, 0)] (by decide +kernel) rfl (And.intro g1 (And.intro g1 (And.intro g7 trivial))) ?_
    generalize upM M6 (M6 a0 6) (M6 a0 7) a3 = M8 at h ⊢
    have h := zlt h
    exact zG.wk [true, false, false, false] (pX10_addNote_39_ok hX hRm h)
theorem pX10_addNote_ok {l : Launch} {E : ZE} {S : ZS} {M : ZM} {a0 a1 a2 a3 : Int} {q : ZM} (h : pX10_addNote S M a0 a1 a2 a3 = some q) : zMet l yX10_addNote cX10_addNote 4 none 1 40 0 0 E S M [(2, a0), (0, a1), (0, a2), (0, a3)] (none) S q :=
  zMet.of (o := 10) (ini := false) (by decide +kernel) rfl (fun h => by cases h) (Nat.le_of_ble_eq_true rfl) (fun C hX hl hRm => by subst hl; exact pX10_addNote_go hX hRm h)
theorem sv_10_43 : zSV 10 43 yX9_copyFrom cX9_copyFrom 2 none 1 := ⟨⟨gt_at 654 (by decide +kernel) rfl, gt_at 655 (by decide +kernel) rfl, gt_at 656 (by decide +kernel) rfl, gt_at 108 (by decide +kernel) rfl, gt_at 657 (by decide +kernel) rfl⟩, by decide +kernel, by decide +kernel, by decide +kernel⟩
theorem sv_10_47 : zSV 10 47 yX6_begin cX6_begin 2 none 1 := ⟨⟨gt_at 661 (by decide +kernel) rfl, gt_at 662 (by decide +kernel) rfl, gt_at 663 (by decide +kernel) rfl, gt_at 111 (by decide +kernel) rfl, gt_at 664 (by decide +kernel) rfl⟩, by decide +kernel, by decide +kernel, by decide +kernel⟩
noncomputable def pX10_begin_24 (S : ZS) (M : ZM) (x0 : Int) : Option ZM := if S.1 x0 = 10 then zlet (upM M x0 7 0) fun M10 => some M10 else none
set_option maxHeartbeats 2000000 in
set_option maxRecDepth 20000 in
theorem pX10_begin_24_ok {C : ZC} {E : ZE} {S : ZS} {q : ZM} (hX : zCx C E 10 cX10_begin 2 none false) (hRm : czR C = { frames := 3, cells := 0, slots := 0, locals := 84 }) {M : ZM} {x0 : Int} (h : pX10_begin_24 S M x0 = some q) : zG C E 2 S 0 0 (zQ C E 0 0 none S q) 24 [some (2, x0), none] [] M := by
  unfold pX10_begin_24 at h
  obtain ⟨g9, h⟩ := zif h
  refine zG.blk (pc' := 29) (l' := [some (2, x0), none]) (st' := []) (M' := (upM M x0 7 0)) hX [(.aload_n 0, 0, 0, 0), (.iconst 0, 0, 0, 0), (.putfield 53, 10, 7, 0)] (by decide +kernel) rfl (And.intro g9 trivial) ?_
  generalize upM M x0 7 0 = M10 at h ⊢
  have h := zlt h
  cases h
  exact zG.vret hX (by decide +kernel)
noncomputable def pX10_begin (S : ZS) (M : ZM) (a0 : Int) (a1 : Int) : Option ZM := if S.1 a0 = 10 then if S.1 (M a0 0) = 9 then (pX9_copyFrom S M (M a0 0) a1).bind fun q2 => if S.1 (q2 a0 1) = 6 then (pX6_begin S q2 (q2 a0 1) (q2 a0 0)).bind fun q5 => zlet (upM q5 a0 3 0) fun M8 => pX10_begin_24 S M8 a0 else none else none else none
set_option maxHeartbeats 2000000 in
set_option maxRecDepth 20000 in
theorem pX10_begin_go {C : ZC} {E : ZE} {S : ZS} {M : ZM} {a0 a1 : Int} {q : ZM} (hX : zCx C E 10 cX10_begin 2 none false) (hRm : czR C = { frames := 3, cells := 0, slots := 0, locals := 84 }) (h : pX10_begin  S M a0 a1 = some q) : zG C E 2 S 0 0 (zQ C E 0 0 none S q) 0 [some (2, a0), some (2, a1)] [] M := by
  unfold pX10_begin at h
  obtain ⟨g1, h⟩ := zif h
  refine zG.blk (pc' := 5) (l' := [some (2, a0), some (2, a1)]) (st' := [(2, a1), (2, M a0 0)]) (M' := M) hX [(.aload_n 0, 0, 0, 0), (.getfield 12, 10, 0, 2), (.aload_n 1, 0, 0, 0)] (by decide +kernel) rfl (And.intro g1 trivial) ?_
  obtain ⟨g4, h⟩ := zif h
  obtain ⟨q2, e3, h⟩ := zbd h
  refine zG.callV (b := M a0 0) (av := [(2, a1)]) (st := []) (ci := 9) hX (pX9_copyFrom_ok e3) sv_10_43 rfl ⟨by decide, rfl⟩ g4 (by decide +kernel) (by rw [hRm]; exact ⟨Nat.le_of_ble_eq_true rfl, Nat.le_of_ble_eq_true rfl⟩) (by rw [hRm]; exact ⟨Nat.le_of_ble_eq_true rfl, Nat.le_of_ble_eq_true rfl⟩) (Nat.le_of_ble_eq_true rfl) ?_
  show zG C E 2 S 0 0 _ 8 [some (2, a0), some (2, a1)] [] q2
  refine zG.blk (pc' := 16) (l' := [some (2, a0), some (2, a1)]) (st' := [(2, q2 a0 0), (2, q2 a0 1)]) (M' := q2) hX [(.aload_n 0, 0, 0, 0), (.getfield 21, 10, 1, 2), (.aload_n 0, 0, 0, 0), (.getfield 12, 10, 0, 2)] (by decide +kernel) rfl (And.intro g1 (And.intro g1 trivial)) ?_
  obtain ⟨g7, h⟩ := zif h
  obtain ⟨q5, e6, h⟩ := zbd h
  refine zG.callV (b := q2 a0 1) (av := [(2, q2 a0 0)]) (st := []) (ci := 6) hX (pX6_begin_ok e6) sv_10_47 rfl ⟨by decide, rfl⟩ g7 (by decide +kernel) (by rw [hRm]; exact ⟨Nat.le_of_ble_eq_true rfl, Nat.le_of_ble_eq_true rfl⟩) (by rw [hRm]; exact ⟨Nat.le_of_ble_eq_true rfl, Nat.le_of_ble_eq_true rfl⟩) (Nat.le_of_ble_eq_true rfl) ?_
  show zG C E 2 S 0 0 _ 19 [some (2, a0), some (2, a1)] [] q5
  refine zG.blk (pc' := 24) (l' := [some (2, a0), some (2, a1)]) (st' := []) (M' := (upM q5 a0 3 0)) hX [(.aload_n 0, 0, 0, 0), (.iconst 0, 0, 0, 0), (.putfield 50, 10, 3, 0)] (by decide +kernel) rfl (And.intro g1 trivial) ?_
  generalize upM q5 a0 3 0 = M8 at h ⊢
  have h := zlt h
  exact zG.wk [true, false] (pX10_begin_24_ok hX hRm h)
theorem pX10_begin_ok {l : Launch} {E : ZE} {S : ZS} {M : ZM} {a0 a1 : Int} {q : ZM} (h : pX10_begin S M a0 a1 = some q) : zMet l yX10_begin cX10_begin 2 none 3 84 0 0 E S M [(2, a0), (2, a1)] (none) S q :=
  zMet.of (o := 10) (ini := false) (by decide +kernel) rfl (fun h => by cases h) (Nat.le_of_ble_eq_true rfl) (fun C hX hl hRm => by subst hl; exact pX10_begin_go hX hRm h)
theorem sv_10_56 : zSV 10 56 yX6_copyFrom cX6_copyFrom 2 none 1 := ⟨⟨gt_at 784 (by decide +kernel) rfl, gt_at 785 (by decide +kernel) rfl, gt_at 786 (by decide +kernel) rfl, gt_at 111 (by decide +kernel) rfl, gt_at 787 (by decide +kernel) rfl⟩, by decide +kernel, by decide +kernel, by decide +kernel⟩
theorem sk_10_59 : Cond.methodLink (zOwn 10) 59 arraycopyName ∈ gt := gt_at 1117 (by decide +kernel) rfl
noncomputable def pX10_copyFrom_112 (S : ZS) (M : ZM) (x0 : Int) (x1 : Int) : Option ZM := if S.1 x1 = 10 then if S.1 x0 = 10 then zlet (upM M x0 7 (M x1 7)) fun M34 => zlet (upM M34 x0 8 (M34 x1 8)) fun M35 => zlet (upM M35 x0 9 (M35 x1 9)) fun M36 => some M36 else none else none
set_option maxHeartbeats 2000000 in
set_option maxRecDepth 20000 in
theorem pX10_copyFrom_112_ok {C : ZC} {E : ZE} {S : ZS} {q : ZM} (hX : zCx C E 10 cX10_copyFrom 3 none false) (hRm : czR C = { frames := 2, cells := 0, slots := 0, locals := 81 }) {M : ZM} {x0 : Int} {x1 : Int} (h : pX10_copyFrom_112 S M x0 x1 = some q) : zG C E 3 S 0 0 (zQ C E 0 0 none S q) 112 [some (2, x0), some (2, x1), none] [] M := by
  unfold pX10_copyFrom_112 at h
  obtain ⟨g32, h⟩ := zif h
  obtain ⟨g33, h⟩ := zif h
  refine zG.blk (pc' := 120) (l' := [some (2, x0), some (2, x1), none]) (st' := []) (M' := (upM M x0 7 (M x1 7))) hX [(.aload_n 0, 0, 0, 0), (.aload_n 1, 0, 0, 0), (.getfield 53, 10, 7, 0), (.putfield 53, 10, 7, 0)] (by decide +kernel) rfl (And.intro g32 (And.intro g33 trivial)) ?_
  generalize upM M x0 7 (M x1 7) = M34 at h ⊢
  have h := zlt h
  refine zG.blk (pc' := 128) (l' := [some (2, x0), some (2, x1), none]) (st' := []) (M' := (upM M34 x0 8 (M34 x1 8))) hX [(.aload_n 0, 0, 0, 0), (.aload_n 1, 0, 0, 0), (.getfield 65, 10, 8, 0), (.putfield 65, 10, 8, 0)] (by decide +kernel) rfl (And.intro g32 (And.intro g33 trivial)) ?_
  generalize upM M34 x0 8 (M34 x1 8) = M35 at h ⊢
  have h := zlt h
  refine zG.blk (pc' := 136) (l' := [some (2, x0), some (2, x1), none]) (st' := []) (M' := (upM M35 x0 9 (M35 x1 9))) hX [(.aload_n 0, 0, 0, 0), (.aload_n 1, 0, 0, 0), (.getfield 39, 10, 9, 0), (.putfield 39, 10, 9, 0)] (by decide +kernel) rfl (And.intro g32 (And.intro g33 trivial)) ?_
  generalize upM M35 x0 9 (M35 x1 9) = M36 at h ⊢
  have h := zlt h
  cases h
  exact zG.vret hX (by decide +kernel)
noncomputable def pX10_copyFrom_97 (S : ZS) (M : ZM) (x0 : Int) (x1 : Int) : Option ZM := if S.1 x1 = 10 then if S.1 x0 = 10 then if S.1 (M x1 6) = 100 then if S.1 (M x0 6) = 100 then if (0 : Int) ≤ 10 ∧ 10 ≤ S.2.1 (M x1 6) ∧ 10 ≤ S.2.1 (M x0 6) then zlet (zCpy M (M x1 6) (M x0 6) 10) fun M31 => pX10_copyFrom_112 S M31 x0 x1 else none else none else none else none else none
set_option maxHeartbeats 2000000 in
set_option maxRecDepth 20000 in
theorem pX10_copyFrom_97_ok {C : ZC} {E : ZE} {S : ZS} {q : ZM} (hX : zCx C E 10 cX10_copyFrom 3 none false) (hRm : czR C = { frames := 2, cells := 0, slots := 0, locals := 81 }) {M : ZM} {x0 : Int} {x1 : Int} (h : pX10_copyFrom_97 S M x0 x1 = some q) : zG C E 3 S 0 0 (zQ C E 0 0 none S q) 97 [some (2, x0), some (2, x1), none] [] M := by
  unfold pX10_copyFrom_97 at h
  obtain ⟨g26, h⟩ := zif h
  obtain ⟨g27, h⟩ := zif h
  refine zG.blk (pc' := 109) (l' := [some (2, x0), some (2, x1), none]) (st' := [(0, 10), (0, 0), (2, M x0 6), (0, 0), (2, M x1 6)]) (M' := M) hX [(.aload_n 1, 0, 0, 0), (.getfield 36, 10, 6, 2), (.iconst 0, 0, 0, 0), (.aload_n 0, 0, 0, 0), (.getfield 36, 10, 6, 2), (.iconst 0, 0, 0, 0), (.bipush 10, 0, 0, 0)] (by decide +kernel) rfl (And.intro g26 (And.intro g27 trivial)) ?_
  obtain ⟨g28, h⟩ := zif h
  obtain ⟨g29, h⟩ := zif h
  obtain ⟨g30, h⟩ := zif h
  refine zG.copy hX sk_10_59 sk_1 sk_2 sk_3 (by decide +kernel) g28 g29 g30 (by rw [hRm]; exact ⟨Nat.le_of_ble_eq_true rfl, Nat.le_of_ble_eq_true rfl⟩) ?_
  show zG C E 3 S 0 0 _ 112 [some (2, x0), some (2, x1), none] [] (zCpy M (M x1 6) (M x0 6) 10)
  generalize zCpy M (M x1 6) (M x0 6) 10 = M31 at h ⊢
  have h := zlt h
  exact (pX10_copyFrom_112_ok hX hRm h)
noncomputable def pX10_copyFrom_82 (S : ZS) (M : ZM) (x0 : Int) (x1 : Int) : Option ZM := if S.1 x1 = 10 then if S.1 x0 = 10 then if S.1 (M x1 5) = 100 then if S.1 (M x0 5) = 100 then if (0 : Int) ≤ 10 ∧ 10 ≤ S.2.1 (M x1 5) ∧ 10 ≤ S.2.1 (M x0 5) then zlet (zCpy M (M x1 5) (M x0 5) 10) fun M25 => pX10_copyFrom_97 S M25 x0 x1 else none else none else none else none else none
set_option maxHeartbeats 2000000 in
set_option maxRecDepth 20000 in
theorem pX10_copyFrom_82_ok {C : ZC} {E : ZE} {S : ZS} {q : ZM} (hX : zCx C E 10 cX10_copyFrom 3 none false) (hRm : czR C = { frames := 2, cells := 0, slots := 0, locals := 81 }) {M : ZM} {x0 : Int} {x1 : Int} (h : pX10_copyFrom_82 S M x0 x1 = some q) : zG C E 3 S 0 0 (zQ C E 0 0 none S q) 82 [some (2, x0), some (2, x1), none] [] M := by
  unfold pX10_copyFrom_82 at h
  obtain ⟨g20, h⟩ := zif h
  obtain ⟨g21, h⟩ := zif h
  refine zG.blk (pc' := 94) (l' := [some (2, x0), some (2, x1), none]) (st' := [(0, 10), (0, 0), (2, M x0 5), (0, 0), (2, M x1 5)]) (M' := M) hX [(.aload_n 1, 0, 0, 0), (.getfield 33, 10, 5, 2), (.iconst 0, 0, 0, 0), (.aload_n 0, 0, 0, 0), (.getfield 33, 10, 5, 2), (.iconst 0, 0, 0, 0), (.bipush 10, 0, 0, 0)] (by decide +kernel) rfl (And.intro g20 (And.intro g21 trivial)) ?_
  obtain ⟨g22, h⟩ := zif h
  obtain ⟨g23, h⟩ := zif h
  obtain ⟨g24, h⟩ := zif h
  refine zG.copy hX sk_10_59 sk_1 sk_2 sk_3 (by decide +kernel) g22 g23 g24 (by rw [hRm]; exact ⟨Nat.le_of_ble_eq_true rfl, Nat.le_of_ble_eq_true rfl⟩) ?_
  show zG C E 3 S 0 0 _ 97 [some (2, x0), some (2, x1), none] [] (zCpy M (M x1 5) (M x0 5) 10)
  generalize zCpy M (M x1 5) (M x0 5) 10 = M25 at h ⊢
  have h := zlt h
  exact (pX10_copyFrom_97_ok hX hRm h)
noncomputable def pX10_copyFrom_67 (S : ZS) (M : ZM) (x0 : Int) (x1 : Int) : Option ZM := if S.1 x1 = 10 then if S.1 x0 = 10 then if S.1 (M x1 4) = 100 then if S.1 (M x0 4) = 100 then if (0 : Int) ≤ 10 ∧ 10 ≤ S.2.1 (M x1 4) ∧ 10 ≤ S.2.1 (M x0 4) then zlet (zCpy M (M x1 4) (M x0 4) 10) fun M19 => pX10_copyFrom_82 S M19 x0 x1 else none else none else none else none else none
set_option maxHeartbeats 2000000 in
set_option maxRecDepth 20000 in
theorem pX10_copyFrom_67_ok {C : ZC} {E : ZE} {S : ZS} {q : ZM} (hX : zCx C E 10 cX10_copyFrom 3 none false) (hRm : czR C = { frames := 2, cells := 0, slots := 0, locals := 81 }) {M : ZM} {x0 : Int} {x1 : Int} (h : pX10_copyFrom_67 S M x0 x1 = some q) : zG C E 3 S 0 0 (zQ C E 0 0 none S q) 67 [some (2, x0), some (2, x1), none] [] M := by
  unfold pX10_copyFrom_67 at h
  obtain ⟨g14, h⟩ := zif h
  obtain ⟨g15, h⟩ := zif h
  refine zG.blk (pc' := 79) (l' := [some (2, x0), some (2, x1), none]) (st' := [(0, 10), (0, 0), (2, M x0 4), (0, 0), (2, M x1 4)]) (M' := M) hX [(.aload_n 1, 0, 0, 0), (.getfield 29, 10, 4, 2), (.iconst 0, 0, 0, 0), (.aload_n 0, 0, 0, 0), (.getfield 29, 10, 4, 2), (.iconst 0, 0, 0, 0), (.bipush 10, 0, 0, 0)] (by decide +kernel) rfl (And.intro g14 (And.intro g15 trivial)) ?_
  obtain ⟨g16, h⟩ := zif h
  obtain ⟨g17, h⟩ := zif h
  obtain ⟨g18, h⟩ := zif h
  refine zG.copy hX sk_10_59 sk_1 sk_2 sk_3 (by decide +kernel) g16 g17 g18 (by rw [hRm]; exact ⟨Nat.le_of_ble_eq_true rfl, Nat.le_of_ble_eq_true rfl⟩) ?_
  show zG C E 3 S 0 0 _ 82 [some (2, x0), some (2, x1), none] [] (zCpy M (M x1 4) (M x0 4) 10)
  generalize zCpy M (M x1 4) (M x0 4) 10 = M19 at h ⊢
  have h := zlt h
  exact (pX10_copyFrom_82_ok hX hRm h)
noncomputable def pX10_copyFrom_32 (S : ZS) : Nat → ZM → Int → Int → Int → Option ZM
  | 0 => fun _ _ _ _ => none
  | n + 1 => fun M x0 x1 x2 => if S.1 x0 = 10 then if M x0 3 ≤ x2 then (pX10_copyFrom_67 S M x0 x1) else (if 20 ≤ x2 then (pX10_copyFrom_67 S M x0 x1) else (if S.1 (M x0 2) = 105 ∧ (0 : Int) ≤ x2 ∧ x2 < S.2.1 (M x0 2) then if S.1 x1 = 10 then if S.1 (M x1 2) = 105 ∧ (0 : Int) ≤ x2 ∧ x2 < S.2.1 (M x1 2) then if S.1 (M (M x0 2) x2) = 6 then (pX6_copyFrom S M (M (M x0 2) x2) (M (M x1 2) x2)).bind fun q41 => pX10_copyFrom_32 S n q41 x0 x1 (w32 (x2 + 1)) else none else none else none else none)) else none
set_option maxHeartbeats 2000000 in
set_option maxRecDepth 20000 in
theorem pX10_copyFrom_32_ok {C : ZC} {E : ZE} {S : ZS} {q : ZM} (hX : zCx C E 10 cX10_copyFrom 3 none false) (hRm : czR C = { frames := 2, cells := 0, slots := 0, locals := 81 }) : ∀ (n : Nat) (M : ZM) (x0 : Int) (x1 : Int) (x2 : Int), pX10_copyFrom_32 S n M x0 x1 x2 = some q → zG C E 3 S 0 0 (zQ C E 0 0 none S q) 32 [some (2, x0), some (2, x1), some (0, x2)] [] M := by
  intro n
  induction n with
  | zero => intro M x0 x1 x2 h; cases h
  | succ n ih =>
    intro M x0 x1 x2 h
    unfold pX10_copyFrom_32 at h
    obtain ⟨g12, h⟩ := zif h
    refine zG.blk (pc' := 37) (l' := [some (2, x0), some (2, x1), some (0, x2)]) (st' := [(0, M x0 3), (0, x2)]) (M' := M) hX [(.iload_n 2, 0, 0, 0), (.aload_n 0, 0, 0, 0), (.getfield 50, 10, 3, 0)] (by decide +kernel) rfl (And.intro g12 trivial) ?_
    refine zG.icmp_ge (tgt := 67) (off := 30) hX (by decide +kernel) (by decide) (fun c13 => ?_) (fun c13 => ?_)
    · have h := zip c13 h
      exact zG.wk [true, true, false] (pX10_copyFrom_67_ok hX hRm h)
    · have h := zin c13 h
      refine zG.blk (pc' := 43) (l' := [some (2, x0), some (2, x1), some (0, x2)]) (st' := [(0, 20), (0, x2)]) (M' := M) hX [(.iload_n 2, 0, 0, 0), (.bipush 20, 0, 0, 0)] (by decide +kernel) rfl trivial ?_
      refine zG.icmp_ge (tgt := 67) (off := 24) hX (by decide +kernel) (by decide) (fun c37 => ?_) (fun c37 => ?_)
      · have h := zip c37 h
        exact zG.wk [true, true, false] (pX10_copyFrom_67_ok hX hRm h)
      · have h := zin c37 h
        obtain ⟨g38, h⟩ := zif h
        obtain ⟨g39, h⟩ := zif h
        obtain ⟨g40, h⟩ := zif h
        refine zG.blk (pc' := 58) (l' := [some (2, x0), some (2, x1), some (0, x2)]) (st' := [(2, M (M x1 2) x2), (2, M (M x0 2) x2)]) (M' := M) hX [(.aload_n 0, 0, 0, 0), (.getfield 25, 10, 2, 2), (.iload_n 2, 0, 0, 0), (.aaload, 105, 0, 0), (.aload_n 1, 0, 0, 0), (.getfield 25, 10, 2, 2), (.iload_n 2, 0, 0, 0), (.aaload, 105, 0, 0)] (by decide +kernel) rfl (And.intro g12 (And.intro g38 (And.intro g39 (And.intro g40 trivial)))) ?_
        obtain ⟨g43, h⟩ := zif h
        obtain ⟨q41, e42, h⟩ := zbd h
        refine zG.callV (b := M (M x0 2) x2) (av := [(2, M (M x1 2) x2)]) (st := []) (ci := 6) hX (pX6_copyFrom_ok e42) sv_10_56 rfl ⟨by decide, rfl⟩ g43 (by decide +kernel) (by rw [hRm]; exact ⟨Nat.le_of_ble_eq_true rfl, Nat.le_of_ble_eq_true rfl⟩) (by rw [hRm]; exact ⟨Nat.le_of_ble_eq_true rfl, Nat.le_of_ble_eq_true rfl⟩) (Nat.le_of_ble_eq_true rfl) ?_
        show zG C E 3 S 0 0 _ 61 [some (2, x0), some (2, x1), some (0, x2)] [] q41
        refine zG.blk (pc' := 64) (l' := [some (2, x0), some (2, x1), some (0, w32 (x2 + 1))]) (st' := []) (M' := q41) hX [(.iinc 2 1, 0, 0, 0)] (by decide +kernel) rfl trivial ?_
        refine zG.goto (tgt := 32) (off := (-32)) hX (by decide +kernel) (by decide) ?_
        exact ih _ _ _ _ h
noncomputable def pX10_copyFrom_22 (S : ZS) (M : ZM) (x0 : Int) (x1 : Int) : Option ZM := if S.1 x1 = 10 then if S.1 x0 = 10 then zlet (upM M x0 3 (M x1 3)) fun M11 => pX10_copyFrom_32 S zFU M11 x0 x1 0 else none else none
set_option maxHeartbeats 2000000 in
set_option maxRecDepth 20000 in
theorem pX10_copyFrom_22_ok {C : ZC} {E : ZE} {S : ZS} {q : ZM} (hX : zCx C E 10 cX10_copyFrom 3 none false) (hRm : czR C = { frames := 2, cells := 0, slots := 0, locals := 81 }) {M : ZM} {x0 : Int} {x1 : Int} (h : pX10_copyFrom_22 S M x0 x1 = some q) : zG C E 3 S 0 0 (zQ C E 0 0 none S q) 22 [some (2, x0), some (2, x1), none] [] M := by
  unfold pX10_copyFrom_22 at h
  obtain ⟨g9, h⟩ := zif h
  obtain ⟨g10, h⟩ := zif h
  refine zG.blk (pc' := 30) (l' := [some (2, x0), some (2, x1), none]) (st' := []) (M' := (upM M x0 3 (M x1 3))) hX [(.aload_n 0, 0, 0, 0), (.aload_n 1, 0, 0, 0), (.getfield 50, 10, 3, 0), (.putfield 50, 10, 3, 0)] (by decide +kernel) rfl (And.intro g9 (And.intro g10 trivial)) ?_
  generalize upM M x0 3 (M x1 3) = M11 at h ⊢
  have h := zlt h
  refine zG.blk (pc' := 32) (l' := [some (2, x0), some (2, x1), some (0, 0)]) (st' := []) (M' := M11) hX [(.iconst 0, 0, 0, 0), (.istore_n 2, 0, 0, 0)] (by decide +kernel) rfl trivial ?_
  exact (pX10_copyFrom_32_ok hX hRm zFU _ _ _ _ h)
noncomputable def pX10_copyFrom (S : ZS) (M : ZM) (a0 : Int) (a1 : Int) : Option ZM := if S.1 a0 = 10 then if S.1 a1 = 10 then if S.1 (M a0 0) = 9 then (pX9_copyFrom S M (M a0 0) (M a1 0)).bind fun q3 => if S.1 (q3 a0 1) = 6 then (pX6_copyFrom S q3 (q3 a0 1) (q3 a1 1)).bind fun q6 => pX10_copyFrom_22 S q6 a0 a1 else none else none else none else none
set_option maxHeartbeats 2000000 in
set_option maxRecDepth 20000 in
theorem pX10_copyFrom_go {C : ZC} {E : ZE} {S : ZS} {M : ZM} {a0 a1 : Int} {q : ZM} (hX : zCx C E 10 cX10_copyFrom 3 none false) (hRm : czR C = { frames := 2, cells := 0, slots := 0, locals := 81 }) (h : pX10_copyFrom  S M a0 a1 = some q) : zG C E 3 S 0 0 (zQ C E 0 0 none S q) 0 [some (2, a0), some (2, a1), none] [] M := by
  unfold pX10_copyFrom at h
  obtain ⟨g1, h⟩ := zif h
  obtain ⟨g2, h⟩ := zif h
  refine zG.blk (pc' := 8) (l' := [some (2, a0), some (2, a1), none]) (st' := [(2, M a1 0), (2, M a0 0)]) (M' := M) hX [(.aload_n 0, 0, 0, 0), (.getfield 12, 10, 0, 2), (.aload_n 1, 0, 0, 0), (.getfield 12, 10, 0, 2)] (by decide +kernel) rfl (And.intro g1 (And.intro g2 trivial)) ?_
  obtain ⟨g5, h⟩ := zif h
  obtain ⟨q3, e4, h⟩ := zbd h
  refine zG.callV (b := M a0 0) (av := [(2, M a1 0)]) (st := []) (ci := 9) hX (pX9_copyFrom_ok e4) sv_10_43 rfl ⟨by decide, rfl⟩ g5 (by decide +kernel) (by rw [hRm]; exact ⟨Nat.le_of_ble_eq_true rfl, Nat.le_of_ble_eq_true rfl⟩) (by rw [hRm]; exact ⟨Nat.le_of_ble_eq_true rfl, Nat.le_of_ble_eq_true rfl⟩) (Nat.le_of_ble_eq_true rfl) ?_
  show zG C E 3 S 0 0 _ 11 [some (2, a0), some (2, a1), none] [] q3
  refine zG.blk (pc' := 19) (l' := [some (2, a0), some (2, a1), none]) (st' := [(2, q3 a1 1), (2, q3 a0 1)]) (M' := q3) hX [(.aload_n 0, 0, 0, 0), (.getfield 21, 10, 1, 2), (.aload_n 1, 0, 0, 0), (.getfield 21, 10, 1, 2)] (by decide +kernel) rfl (And.intro g1 (And.intro g2 trivial)) ?_
  obtain ⟨g8, h⟩ := zif h
  obtain ⟨q6, e7, h⟩ := zbd h
  refine zG.callV (b := q3 a0 1) (av := [(2, q3 a1 1)]) (st := []) (ci := 6) hX (pX6_copyFrom_ok e7) sv_10_56 rfl ⟨by decide, rfl⟩ g8 (by decide +kernel) (by rw [hRm]; exact ⟨Nat.le_of_ble_eq_true rfl, Nat.le_of_ble_eq_true rfl⟩) (by rw [hRm]; exact ⟨Nat.le_of_ble_eq_true rfl, Nat.le_of_ble_eq_true rfl⟩) (Nat.le_of_ble_eq_true rfl) ?_
  show zG C E 3 S 0 0 _ 22 [some (2, a0), some (2, a1), none] [] q6
  exact (pX10_copyFrom_22_ok hX hRm h)
theorem pX10_copyFrom_ok {l : Launch} {E : ZE} {S : ZS} {M : ZM} {a0 a1 : Int} {q : ZM} (h : pX10_copyFrom S M a0 a1 = some q) : zMet l yX10_copyFrom cX10_copyFrom 3 none 2 81 0 0 E S M [(2, a0), (2, a1)] (none) S q :=
  zMet.of (o := 10) (ini := false) (by decide +kernel) rfl (fun h => by cases h) (Nat.le_of_ble_eq_true rfl) (fun C hX hl hRm => by subst hl; exact pX10_copyFrom_go hX hRm h)
