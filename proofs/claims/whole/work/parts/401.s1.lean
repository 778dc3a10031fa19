noncomputable def pX8_isWord_47 (S : ZS) (M : ZM) : Option (Int × ZM) := some (1, M)
set_option maxHeartbeats 2000000 in
set_option maxRecDepth 20000 in
theorem pX8_isWord_47_ok {C : ZC} {E : ZE} {S : ZS} {q : (Int × ZM)} (hX : zCx C E 8 cX8_isWord 5 (some .boolean) false) (hRm : czR C = { frames := 6, cells := 0, slots := 0, locals := 200 }) {M : ZM} (h : pX8_isWord_47 S M = some q) : zG C E 5 S 0 0 (zQ C E 0 0 (some (0, q.1)) S q.2) 47 [none, none, none, none, none] [] M := by
  unfold pX8_isWord_47 at h
  refine zG.blk (pc' := 48) (l' := [none, none, none, none, none]) (st' := [(0, 1)]) (M' := M) hX [(.iconst 1, 0, 0, 0)] (by decide +kernel) rfl trivial ?_
  cases h
  exact zG.zret hX (by decide +kernel) (Or.inr rfl)
theorem sv_8_57 : zSV 8 57 yJ0_length_8abf5 cJ0_length_8abf5 1 (some .int) 0 := ⟨⟨gt_at 546 (by decide +kernel) rfl, gt_at 547 (by decide +kernel) rfl, gt_at 548 (by decide +kernel) rfl, gt_at 118 (by decide +kernel) rfl, gt_at 549 (by decide +kernel) rfl⟩, by decide +kernel, by decide +kernel, by decide +kernel⟩
theorem sv_8_62 : zSV 8 62 yJ0_charAt_5068e cJ0_charAt_5068e 2 (some .char) 1 := ⟨⟨gt_at 556 (by decide +kernel) rfl, gt_at 557 (by decide +kernel) rfl, gt_at 558 (by decide +kernel) rfl, gt_at 118 (by decide +kernel) rfl, gt_at 559 (by decide +kernel) rfl⟩, by decide +kernel, by decide +kernel, by decide +kernel⟩
noncomputable def pX8_isWord_3 (S : ZS) : Nat → ZM → Int → Int → Int → Int → Int → Option (Int × ZM)
  | 0 => fun _ _ _ _ _ _ => none
  | n + 1 => fun M x0 x1 x2 x3 x4 => if x3 ≤ x4 then (pX8_isWord_47 S M) else (if zSl 0 ≤ x4 then (pX8_isWord_47 S M) else (if S.1 x0 = 8 then (pX8_byteAt S M x0 (w32 ((w32 (x1 + x4)) - x2))).bind fun q3 => if ((0 : Int) ≤ 0 ∧ 0 < (20 : Int)) ∧ 0 ≤ x4 ∧ x4 < zSl 0 then if q3.1 = zSc 0 x4 then (pX8_isWord_3 S n q3.2 x0 x1 x2 x3 (w32 (x4 + 1))) else (some (0, q3.2)) else none else none))
set_option maxHeartbeats 2000000 in
set_option maxRecDepth 20000 in
theorem pX8_isWord_3_ok {C : ZC} {E : ZE} {S : ZS} {q : (Int × ZM)} (hX : zCx C E 8 cX8_isWord 5 (some .boolean) false) (hRm : czR C = { frames := 6, cells := 0, slots := 0, locals := 200 }) : ∀ (n : Nat) (M : ZM) (x0 : Int) (x1 : Int) (x2 : Int) (x3 : Int) (x4 : Int), pX8_isWord_3 S n M x0 x1 x2 x3 x4 = some q → zG C E 5 S 0 0 (zQ C E 0 0 (some (0, q.1)) S q.2) 3 [some (2, x0), some (0, x1), some (0, x2), some (0, x3), some (0, x4)] [] M := by
  intro n
  induction n with
  | zero => intro M x0 x1 x2 x3 x4 h; cases h
  | succ n ih =>
    intro M x0 x1 x2 x3 x4 h
    unfold pX8_isWord_3 at h
    refine zG.blk (pc' := 6) (l' := [some (2, x0), some (0, x1), some (0, x2), some (0, x3), some (0, x4)]) (st' := [(0, x3), (0, x4)]) (M' := M) hX [(.iload 4, 0, 0, 0), (.iload_n 3, 0, 0, 0)] (by decide +kernel) rfl trivial ?_
    refine zG.icmp_ge (tgt := 47) (off := 41) hX (by decide +kernel) (by decide) (fun c1 => ?_) (fun c1 => ?_)
    · have h := zip c1 h
      exact zG.wk [false, false, false, false, false] (pX8_isWord_47_ok hX hRm h)
    · have h := zin c1 h
      refine zG.blk (pc' := 11) (l' := [some (2, x0), some (0, x1), some (0, x2), some (0, x3), some (0, x4)]) (st' := [(0, x4)]) (M' := M) hX [(.iload 4, 0, 0, 0)] (by decide +kernel) rfl trivial ?_
      refine zG.ldcS (i := 0) hX rfl rfl (by decide +kernel) ?_
      show zG C E 5 S 0 0 _ 13 [some (2, x0), some (0, x1), some (0, x2), some (0, x3), some (0, x4)] [(3, 0), (0, x4)] M
      refine zG.slen hX sv_8_57 (by decide) (by decide +kernel) (by rw [hRm]; exact ⟨Nat.le_of_ble_eq_true rfl, Nat.le_of_ble_eq_true rfl⟩) (by rw [hRm]; exact ⟨Nat.le_of_ble_eq_true rfl, Nat.le_of_ble_eq_true rfl⟩) (Nat.le_of_ble_eq_true rfl) ?_
      show zG C E 5 S 0 0 _ 16 [some (2, x0), some (0, x1), some (0, x2), some (0, x3), some (0, x4)] [(0, zSl 0), (0, x4)] M
      refine zG.icmp_ge (tgt := 47) (off := 31) hX (by decide +kernel) (by decide) (fun c2 => ?_) (fun c2 => ?_)
      · have h := zip c2 h
        exact zG.wk [false, false, false, false, false] (pX8_isWord_47_ok hX hRm h)
      · have h := zin c2 h
        refine zG.blk (pc' := 26) (l' := [some (2, x0), some (0, x1), some (0, x2), some (0, x3), some (0, x4)]) (st' := [(0, w32 ((w32 (x1 + x4)) - x2)), (2, x0)]) (M' := M) hX [(.aload_n 0, 0, 0, 0), (.iload_n 1, 0, 0, 0), (.iload 4, 0, 0, 0), (.iadd, 0, 0, 0), (.iload_n 2, 0, 0, 0), (.isub, 0, 0, 0)] (by decide +kernel) rfl trivial ?_
        obtain ⟨g5, h⟩ := zif h
        obtain ⟨q3, e4, h⟩ := zbd h
        refine zG.callV (b := x0) (av := [(0, w32 ((w32 (x1 + x4)) - x2))]) (st := []) (ci := 8) hX (pX8_byteAt_ok e4) sv_8_29 rfl ⟨by decide, rfl⟩ g5 (by decide +kernel) (by rw [hRm]; exact ⟨Nat.le_of_ble_eq_true rfl, Nat.le_of_ble_eq_true rfl⟩) (by rw [hRm]; exact ⟨Nat.le_of_ble_eq_true rfl, Nat.le_of_ble_eq_true rfl⟩) (Nat.le_of_ble_eq_true rfl) ?_
        show zG C E 5 S 0 0 _ 29 [some (2, x0), some (0, x1), some (0, x2), some (0, x3), some (0, x4)] [(0, q3.1)] q3.2
        refine zG.ldcS (i := 0) hX rfl rfl (by decide +kernel) ?_
        show zG C E 5 S 0 0 _ 31 [some (2, x0), some (0, x1), some (0, x2), some (0, x3), some (0, x4)] [(3, 0), (0, q3.1)] q3.2
        refine zG.blk (pc' := 33) (l' := [some (2, x0), some (0, x1), some (0, x2), some (0, x3), some (0, x4)]) (st' := [(0, x4), (3, 0), (0, q3.1)]) (M' := q3.2) hX [(.iload 4, 0, 0, 0)] (by decide +kernel) rfl trivial ?_
        obtain ⟨g6, h⟩ := zif h
        refine zG.schar hX sv_8_62 g6 (by decide +kernel) (by rw [hRm]; exact ⟨Nat.le_of_ble_eq_true rfl, Nat.le_of_ble_eq_true rfl⟩) (by rw [hRm]; exact ⟨Nat.le_of_ble_eq_true rfl, Nat.le_of_ble_eq_true rfl⟩) (Nat.le_of_ble_eq_true rfl) ?_
        show zG C E 5 S 0 0 _ 36 [some (2, x0), some (0, x1), some (0, x2), some (0, x3), some (0, x4)] [(0, zSc 0 x4), (0, q3.1)] q3.2
        refine zG.icmp_eq (tgt := 41) (off := 5) hX (by decide +kernel) (by decide) (fun c7 => ?_) (fun c7 => ?_)
        · have h := zip c7 h
          refine zG.blk (pc' := 44) (l' := [some (2, x0), some (0, x1), some (0, x2), some (0, x3), some (0, w32 (x4 + 1))]) (st' := []) (M' := q3.2) hX [(.iinc 4 1, 0, 0, 0)] (by decide +kernel) rfl trivial ?_
          refine zG.goto (tgt := 3) (off := (-41)) hX (by decide +kernel) (by decide) ?_
          exact ih _ _ _ _ _ _ h
        · have h := zin c7 h
          refine zG.blk (pc' := 40) (l' := [some (2, x0), some (0, x1), some (0, x2), some (0, x3), some (0, x4)]) (st' := [(0, 0)]) (M' := q3.2) hX [(.iconst 0, 0, 0, 0)] (by decide +kernel) rfl trivial ?_
          cases h
          exact zG.zret hX (by decide +kernel) (Or.inl rfl)
noncomputable def pX8_isWord (S : ZS) (M : ZM) (a0 : Int) (a1 : Int) (a2 : Int) (a3 : Int) : Option (Int × ZM) := pX8_isWord_3 S zFU M a0 a1 a2 a3 a2
set_option maxHeartbeats 2000000 in
set_option maxRecDepth 20000 in
theorem pX8_isWord_go {C : ZC} {E : ZE} {S : ZS} {M : ZM} {a0 a1 a2 a3 : Int} {q : (Int × ZM)} (hX : zCx C E 8 cX8_isWord 5 (some .boolean) false) (hRm : czR C = { frames := 6, cells := 0, slots := 0, locals := 200 }) (h : pX8_isWord  S M a0 a1 a2 a3 = some q) : zG C E 5 S 0 0 (zQ C E 0 0 (some (0, q.1)) S q.2) 0 [some (2, a0), some (0, a1), some (0, a2), some (0, a3), none] [] M := by
  unfold pX8_isWord at h
  refine zG.blk (pc' := 3) (l' := [some (2, a0), some (0, a1), some (0, a2), some (0, a3), some (0, a2)]) (st' := []) (M' := M) hX [(.iload_n 2, 0, 0, 0), (.istore 4, 0, 0, 0)] (by decide +kernel) rfl trivial ?_
  exact (pX8_isWord_3_ok hX hRm zFU _ _ _ _ _ _ h)
theorem pX8_isWord_ok {l : Launch} {E : ZE} {S : ZS} {M : ZM} {a0 a1 a2 a3 : Int} {q : (Int × ZM)} (h : pX8_isWord S M a0 a1 a2 a3 = some q) : zMet l yX8_isWord cX8_isWord 5 (some .boolean) 6 200 0 0 E S M [(2, a0), (0, a1), (0, a2), (0, a3)] (some (0, q.1)) S q.2 :=
  zMet.of (o := 8) (ini := false) (by decide +kernel) rfl (fun h => by cases h) (Nat.le_of_ble_eq_true rfl) (fun C hX hl hRm => by subst hl; exact pX8_isWord_go hX hRm h)
noncomputable def pX8_wordToken_68 (S : ZS) (k8 : ZM → Int → Int → Int → Int → Int → Int → Option (Int × ZM)) (M : ZM) (x0 : Int) (x1 : Int) (x2 : Int) (x3 : Int) (x4 : Int) (x5 : Int) : Option (Int × ZM) := k8 M x0 x1 x2 x3 x4 (w32 (x5 + 1))
set_option maxHeartbeats 2000000 in
set_option maxRecDepth 20000 in
theorem pX8_wordToken_68_ok {C : ZC} {E : ZE} {S : ZS} {k8 : ZM → Int → Int → Int → Int → Int → Int → Option (Int × ZM)} {q : (Int × ZM)} (hX : zCx C E 8 cX8_wordToken 6 (some .int) false) (hRm : czR C = { frames := 7, cells := 0, slots := 0, locals := 224 }) (hk8 : ∀ M x0 x1 x2 x3 x4 x5, k8 M x0 x1 x2 x3 x4 x5 = some q → zG C E 6 S 0 0 (zQ C E 0 0 (some (0, q.1)) S q.2) 8 [some (2, x0), some (0, x1), some (0, x2), some (0, x3), some (0, x4), some (0, x5)] [] M) {M : ZM} {x0 : Int} {x1 : Int} {x2 : Int} {x3 : Int} {x4 : Int} {x5 : Int} (h : pX8_wordToken_68 S k8 M x0 x1 x2 x3 x4 x5 = some q) : zG C E 6 S 0 0 (zQ C E 0 0 (some (0, q.1)) S q.2) 68 [some (2, x0), some (0, x1), some (0, x2), some (0, x3), some (0, x4), some (0, x5)] [] M := by
  unfold pX8_wordToken_68 at h
  refine zG.blk (pc' := 71) (l' := [some (2, x0), some (0, x1), some (0, x2), some (0, x3), some (0, x4), some (0, w32 (x5 + 1))]) (st' := []) (M' := M) hX [(.iinc 5 1, 0, 0, 0)] (by decide +kernel) rfl trivial ?_
  refine zG.goto (tgt := 8) (off := (-63)) hX (by decide +kernel) (by decide) ?_
  exact (hk8 _ _ _ _ _ _ _ h)
noncomputable def pX8_wordToken_59 (S : ZS) (k8 : ZM → Int → Int → Int → Int → Int → Int → Option (Int × ZM)) (M : ZM) (x0 : Int) (x1 : Int) (x2 : Int) (x3 : Int) (x5 : Int) : Option (Int × ZM) := pX8_wordToken_68 S k8 M x0 x1 x2 (w32 (x3 + 1)) (w32 (x5 + 1)) x5
set_option maxHeartbeats 2000000 in
set_option maxRecDepth 20000 in
theorem pX8_wordToken_59_ok {C : ZC} {E : ZE} {S : ZS} {k8 : ZM → Int → Int → Int → Int → Int → Int → Option (Int × ZM)} {q : (Int × ZM)} (hX : zCx C E 8 cX8_wordToken 6 (some .int) false) (hRm : czR C = { frames := 7, cells := 0, slots := 0, locals := 224 }) (hk8 : ∀ M x0 x1 x2 x3 x4 x5, k8 M x0 x1 x2 x3 x4 x5 = some q → zG C E 6 S 0 0 (zQ C E 0 0 (some (0, q.1)) S q.2) 8 [some (2, x0), some (0, x1), some (0, x2), some (0, x3), some (0, x4), some (0, x5)] [] M) {M : ZM} {x0 : Int} {x1 : Int} {x2 : Int} {x3 : Int} {x5 : Int} (h : pX8_wordToken_59 S k8 M x0 x1 x2 x3 x5 = some q) : zG C E 6 S 0 0 (zQ C E 0 0 (some (0, q.1)) S q.2) 59 [some (2, x0), some (0, x1), some (0, x2), some (0, x3), none, some (0, x5)] [] M := by
  unfold pX8_wordToken_59 at h
  refine zG.blk (pc' := 68) (l' := [some (2, x0), some (0, x1), some (0, x2), some (0, w32 (x3 + 1)), some (0, w32 (x5 + 1)), some (0, x5)]) (st' := []) (M' := M) hX [(.iinc 3 1, 0, 0, 0), (.iload 5, 0, 0, 0), (.iconst 1, 0, 0, 0), (.iadd, 0, 0, 0), (.istore 4, 0, 0, 0)] (by decide +kernel) rfl trivial ?_
  exact (pX8_wordToken_68_ok hX hRm hk8 h)
theorem sv_8_66 : zSV 8 66 yX8_isWord cX8_isWord 5 (some .boolean) 3 := ⟨⟨gt_at 594 (by decide +kernel) rfl, gt_at 596 (by decide +kernel) rfl, gt_at 5 (by decide +kernel) rfl, gt_at 106 (by decide +kernel) rfl, gt_at 597 (by decide +kernel) rfl⟩, by decide +kernel, by decide +kernel, by decide +kernel⟩
noncomputable def pX8_wordToken_8 (S : ZS) : Nat → ZM → Int → Int → Int → Int → Int → Int → Option (Int × ZM)
  | 0 => fun _ _ _ _ _ _ _ => none
  | n + 1 => fun M x0 x1 x2 x3 x4 x5 => if zSl 0 ≤ x5 then (some (300, M)) else (if ((0 : Int) ≤ 0 ∧ 0 < (20 : Int)) ∧ 0 ≤ x5 ∧ x5 < zSl 0 then if zSc 0 x5 = 32 then (if w32 (x5 - x4) = w32 (x2 - x1) then (if S.1 x0 = 8 then (pX8_isWord S M x0 x1 x4 x5).bind fun q5 => if q5.1 = 0 then (pX8_wordToken_59 S (pX8_wordToken_8 S n) q5.2 x0 x1 x2 x3 x5) else (some (w32 (256 + x3), q5.2)) else none) else (pX8_wordToken_59 S (pX8_wordToken_8 S n) M x0 x1 x2 x3 x5)) else (pX8_wordToken_68 S (pX8_wordToken_8 S n) M x0 x1 x2 x3 x4 x5) else none)
set_option maxHeartbeats 2000000 in
set_option maxRecDepth 20000 in
theorem pX8_wordToken_8_ok {C : ZC} {E : ZE} {S : ZS} {q : (Int × ZM)} (hX : zCx C E 8 cX8_wordToken 6 (some .int) false) (hRm : czR C = { frames := 7, cells := 0, slots := 0, locals := 224 }) : ∀ (n : Nat) (M : ZM) (x0 : Int) (x1 : Int) (x2 : Int) (x3 : Int) (x4 : Int) (x5 : Int), pX8_wordToken_8 S n M x0 x1 x2 x3 x4 x5 = some q → zG C E 6 S 0 0 (zQ C E 0 0 (some (0, q.1)) S q.2) 8 [some (2, x0), some (0, x1), some (0, x2), some (0, x3), some (0, x4), some (0, x5)] [] M := by
  intro n
  induction n with
  | zero => intro M x0 x1 x2 x3 x4 x5 h; cases h
  | succ n ih =>
    intro M x0 x1 x2 x3 x4 x5 h
    unfold pX8_wordToken_8 at h
    refine zG.blk (pc' := 10) (l' := [some (2, x0), some (0, x1), some (0, x2), some (0, x3), some (0, x4), some (0, x5)]) (st' := [(0, x5)]) (M' := M) hX [(.iload 5, 0, 0, 0)] (by decide +kernel) rfl trivial ?_
    refine zG.ldcS (i := 0) hX rfl rfl (by decide +kernel) ?_
    show zG C E 6 S 0 0 _ 12 [some (2, x0), some (0, x1), some (0, x2), some (0, x3), some (0, x4), some (0, x5)] [(3, 0), (0, x5)] M
    refine zG.slen hX sv_8_57 (by decide) (by decide +kernel) (by rw [hRm]; exact ⟨Nat.le_of_ble_eq_true rfl, Nat.le_of_ble_eq_true rfl⟩) (by rw [hRm]; exact ⟨Nat.le_of_ble_eq_true rfl, Nat.le_of_ble_eq_true rfl⟩) (Nat.le_of_ble_eq_true rfl) ?_
    show zG C E 6 S 0 0 _ 15 [some (2, x0), some (0, x1), some (0, x2), some (0, x3), some (0, x4), some (0, x5)] [(0, zSl 0), (0, x5)] M
    refine zG.icmp_ge (tgt := 74) (off := 59) hX (by decide +kernel) (by decide) (fun c1 => ?_) (fun c1 => ?_)
    · have h := zip c1 h
      refine zG.blk (pc' := 77) (l' := [some (2, x0), some (0, x1), some (0, x2), some (0, x3), some (0, x4), some (0, x5)]) (st' := [(0, 300)]) (M' := M) hX [(.sipush 300, 0, 0, 0)] (by decide +kernel) rfl trivial ?_
      cases h
      exact zG.iret hX (by decide +kernel)
    · have h := zin c1 h
      refine zG.ldcS (i := 0) hX rfl rfl (by decide +kernel) ?_
      show zG C E 6 S 0 0 _ 20 [some (2, x0), some (0, x1), some (0, x2), some (0, x3), some (0, x4), some (0, x5)] [(3, 0)] M
      refine zG.blk (pc' := 22) (l' := [some (2, x0), some (0, x1), some (0, x2), some (0, x3), some (0, x4), some (0, x5)]) (st' := [(0, x5), (3, 0)]) (M' := M) hX [(.iload 5, 0, 0, 0)] (by decide +kernel) rfl trivial ?_
      obtain ⟨g2, h⟩ := zif h
      refine zG.schar hX sv_8_62 g2 (by decide +kernel) (by rw [hRm]; exact ⟨Nat.le_of_ble_eq_true rfl, Nat.le_of_ble_eq_true rfl⟩) (by rw [hRm]; exact ⟨Nat.le_of_ble_eq_true rfl, Nat.le_of_ble_eq_true rfl⟩) (Nat.le_of_ble_eq_true rfl) ?_
      show zG C E 6 S 0 0 _ 25 [some (2, x0), some (0, x1), some (0, x2), some (0, x3), some (0, x4), some (0, x5)] [(0, zSc 0 x5)] M
      refine zG.blk (pc' := 27) (l' := [some (2, x0), some (0, x1), some (0, x2), some (0, x3), some (0, x4), some (0, x5)]) (st' := [(0, 32), (0, zSc 0 x5)]) (M' := M) hX [(.bipush 32, 0, 0, 0)] (by decide +kernel) rfl trivial ?_
      refine zG.icmp_ne (tgt := 68) (off := 41) hX (by decide +kernel) (by decide) (fun c3 => ?_) (fun c3 => ?_)
      · have h := zin c3 h
        exact (pX8_wordToken_68_ok hX hRm ih h)
      · have h := zip c3 h
        refine zG.blk (pc' := 38) (l' := [some (2, x0), some (0, x1), some (0, x2), some (0, x3), some (0, x4), some (0, x5)]) (st' := [(0, w32 (x2 - x1)), (0, w32 (x5 - x4))]) (M' := M) hX [(.iload 5, 0, 0, 0), (.iload 4, 0, 0, 0), (.isub, 0, 0, 0), (.iload_n 2, 0, 0, 0), (.iload_n 1, 0, 0, 0), (.isub, 0, 0, 0)] (by decide +kernel) rfl trivial ?_
        refine zG.icmp_ne (tgt := 59) (off := 21) hX (by decide +kernel) (by decide) (fun c4 => ?_) (fun c4 => ?_)
        · have h := zin c4 h
          exact zG.wk [true, true, true, true, false, true] (pX8_wordToken_59_ok hX hRm ih h)
        · have h := zip c4 h
          refine zG.blk (pc' := 47) (l' := [some (2, x0), some (0, x1), some (0, x2), some (0, x3), some (0, x4), some (0, x5)]) (st' := [(0, x5), (0, x4), (0, x1), (2, x0)]) (M' := M) hX [(.aload_n 0, 0, 0, 0), (.iload_n 1, 0, 0, 0), (.iload 4, 0, 0, 0), (.iload 5, 0, 0, 0)] (by decide +kernel) rfl trivial ?_
          obtain ⟨g7, h⟩ := zif h
          obtain ⟨q5, e6, h⟩ := zbd h
          refine zG.callV (b := x0) (av := [(0, x1), (0, x4), (0, x5)]) (st := []) (ci := 8) hX (pX8_isWord_ok e6) sv_8_66 rfl ⟨by decide, rfl⟩ g7 (by decide +kernel) (by rw [hRm]; exact ⟨Nat.le_of_ble_eq_true rfl, Nat.le_of_ble_eq_true rfl⟩) (by rw [hRm]; exact ⟨Nat.le_of_ble_eq_true rfl, Nat.le_of_ble_eq_true rfl⟩) (Nat.le_of_ble_eq_true rfl) ?_
          show zG C E 6 S 0 0 _ 50 [some (2, x0), some (0, x1), some (0, x2), some (0, x3), some (0, x4), some (0, x5)] [(0, q5.1)] q5.2
          refine zG.if_eq (tgt := 59) (off := 9) hX (by decide +kernel) (by decide) (fun c8 => ?_) (fun c8 => ?_)
          · have h := zip c8 h
            exact zG.wk [true, true, true, true, false, true] (pX8_wordToken_59_ok hX hRm ih h)
          · have h := zin c8 h
            refine zG.blk (pc' := 58) (l' := [some (2, x0), some (0, x1), some (0, x2), some (0, x3), some (0, x4), some (0, x5)]) (st' := [(0, w32 (256 + x3))]) (M' := q5.2) hX [(.sipush 256, 0, 0, 0), (.iload_n 3, 0, 0, 0), (.iadd, 0, 0, 0)] (by decide +kernel) rfl trivial ?_
            cases h
            exact zG.iret hX (by decide +kernel)
noncomputable def pX8_wordToken (S : ZS) (M : ZM) (a0 : Int) (a1 : Int) (a2 : Int) : Option (Int × ZM) := pX8_wordToken_8 S zFU M a0 a1 a2 0 0 0
set_option maxHeartbeats 2000000 in
set_option maxRecDepth 20000 in
theorem pX8_wordToken_go {C : ZC} {E : ZE} {S : ZS} {M : ZM} {a0 a1 a2 : Int} {q : (Int × ZM)} (hX : zCx C E 8 cX8_wordToken 6 (some .int) false) (hRm : czR C = { frames := 7, cells := 0, slots := 0, locals := 224 }) (h : pX8_wordToken  S M a0 a1 a2 = some q) : zG C E 6 S 0 0 (zQ C E 0 0 (some (0, q.1)) S q.2) 0 [some (2, a0), some (0, a1), some (0, a2), none, none, none] [] M := by
  unfold pX8_wordToken at h
  refine zG.blk (pc' := 8) (l' := [some (2, a0), some (0, a1), some (0, a2), some (0, 0), some (0, 0), some (0, 0)]) (st' := []) (M' := M) hX [(.iconst 0, 0, 0, 0), (.istore_n 3, 0, 0, 0), (.iconst 0, 0, 0, 0), (.istore 4, 0, 0, 0), (.iconst 0, 0, 0, 0), (.istore 5, 0, 0, 0)] (by decide +kernel) rfl trivial ?_
  exact (pX8_wordToken_8_ok hX hRm zFU _ _ _ _ _ _ _ h)
theorem pX8_wordToken_ok {l : Launch} {E : ZE} {S : ZS} {M : ZM} {a0 a1 a2 : Int} {q : (Int × ZM)} (h : pX8_wordToken S M a0 a1 a2 = some q) : zMet l yX8_wordToken cX8_wordToken 6 (some .int) 7 224 0 0 E S M [(2, a0), (0, a1), (0, a2)] (some (0, q.1)) S q.2 :=
  zMet.of (o := 8) (ini := false) (by decide +kernel) rfl (fun h => by cases h) (Nat.le_of_ble_eq_true rfl) (fun C hX hl hRm => by subst hl; exact pX8_wordToken_go hX hRm h)
theorem sv_8_52 : zSV 8 52 yX8_wordToken cX8_wordToken 6 (some .int) 2 := ⟨⟨gt_at 541 (by decide +kernel) rfl, gt_at 543 (by decide +kernel) rfl, gt_at 4 (by decide +kernel) rfl, gt_at 106 (by decide +kernel) rfl, gt_at 544 (by decide +kernel) rfl⟩, by decide +kernel, by decide +kernel, by decide +kernel⟩
theorem sv_8_49 : zSV 8 49 yX8_numberToken cX8_numberToken 5 (some .int) 2 := ⟨⟨gt_at 537 (by decide +kernel) rfl, gt_at 539 (by decide +kernel) rfl, gt_at 3 (by decide +kernel) rfl, gt_at 106 (by decide +kernel) rfl, gt_at 540 (by decide +kernel) rfl⟩, by decide +kernel, by decide +kernel, by decide +kernel⟩
noncomputable def pX8_tokenOf (S : ZS) (M : ZM) (a0 : Int) (a1 : Int) (a2 : Int) : Option (Int × ZM) := if S.1 a0 = 8 then (pX8_byteAt S M a0 a1).bind fun q1 => (pX8_isDigit S q1.2 q1.1).bind fun q4 => if q4.1 = 0 then ((pX8_isLetter S q4.2 q1.1).bind fun q7 => if q7.1 = 0 then (if w32 (a2 - a1) = 2 then (some ((if q1.1 = 60 then (301 : Int) else 302), q7.2)) else (some (q1.1, q7.2))) else ((pX8_wordToken S q7.2 a0 a1 a2).bind fun q13 => some (q13.1, q13.2))) else ((pX8_numberToken S q4.2 a0 a1 a2).bind fun q15 => some (q15.1, q15.2)) else none
set_option maxHeartbeats 2000000 in
set_option maxRecDepth 20000 in
theorem pX8_tokenOf_go {C : ZC} {E : ZE} {S : ZS} {M : ZM} {a0 a1 a2 : Int} {q : (Int × ZM)} (hX : zCx C E 8 cX8_tokenOf 4 (some .int) false) (hRm : czR C = { frames := 8, cells := 0, slots := 0, locals := 249 }) (h : pX8_tokenOf  S M a0 a1 a2 = some q) : zG C E 4 S 0 0 (zQ C E 0 0 (some (0, q.1)) S q.2) 0 [some (2, a0), some (0, a1), some (0, a2), none] [] M := by
  unfold pX8_tokenOf at h
  refine zG.blk (pc' := 2) (l' := [some (2, a0), some (0, a1), some (0, a2), none]) (st' := [(0, a1), (2, a0)]) (M' := M) hX [(.aload_n 0, 0, 0, 0), (.iload_n 1, 0, 0, 0)] (by decide +kernel) rfl trivial ?_
  obtain ⟨g3, h⟩ := zif h
  obtain ⟨q1, e2, h⟩ := zbd h
  refine zG.callV (b := a0) (av := [(0, a1)]) (st := []) (ci := 8) hX (pX8_byteAt_ok e2) sv_8_29 rfl ⟨by decide, rfl⟩ g3 (by decide +kernel) (by rw [hRm]; exact ⟨Nat.le_of_ble_eq_true rfl, Nat.le_of_ble_eq_true rfl⟩) (by rw [hRm]; exact ⟨Nat.le_of_ble_eq_true rfl, Nat.le_of_ble_eq_true rfl⟩) (Nat.le_of_ble_eq_true rfl) ?_
  show zG C E 4 S 0 0 _ 5 [some (2, a0), some (0, a1), some (0, a2), none] [(0, q1.1)] q1.2
  refine zG.blk (pc' := 7) (l' := [some (2, a0), some (0, a1), some (0, a2), some (0, q1.1)]) (st' := [(0, q1.1)]) (M' := q1.2) hX [(.istore_n 3, 0, 0, 0), (.iload_n 3, 0, 0, 0)] (by decide +kernel) rfl trivial ?_
  obtain ⟨q4, e5, h⟩ := zbd h
  refine zG.callS (av := [(0, q1.1)]) (st := []) hX (pX8_isDigit_ok e5) ss_8_42 rfl (by decide +kernel) (by rw [hRm]; exact ⟨Nat.le_of_ble_eq_true rfl, Nat.le_of_ble_eq_true rfl⟩) (by rw [hRm]; exact ⟨Nat.le_of_ble_eq_true rfl, Nat.le_of_ble_eq_true rfl⟩) (Nat.le_of_ble_eq_true rfl) ?_
  show zG C E 4 S 0 0 _ 10 [some (2, a0), some (0, a1), some (0, a2), some (0, q1.1)] [(0, q4.1)] q4.2
  refine zG.if_eq (tgt := 20) (off := 10) hX (by decide +kernel) (by decide) (fun c6 => ?_) (fun c6 => ?_)
  · have h := zip c6 h
    refine zG.blk (pc' := 21) (l' := [some (2, a0), some (0, a1), some (0, a2), some (0, q1.1)]) (st' := [(0, q1.1)]) (M' := q4.2) hX [(.iload_n 3, 0, 0, 0)] (by decide +kernel) rfl trivial ?_
    obtain ⟨q7, e8, h⟩ := zbd h
    refine zG.callS (av := [(0, q1.1)]) (st := []) hX (pX8_isLetter_ok e8) ss_8_46 rfl (by decide +kernel) (by rw [hRm]; exact ⟨Nat.le_of_ble_eq_true rfl, Nat.le_of_ble_eq_true rfl⟩) (by rw [hRm]; exact ⟨Nat.le_of_ble_eq_true rfl, Nat.le_of_ble_eq_true rfl⟩) (Nat.le_of_ble_eq_true rfl) ?_
    show zG C E 4 S 0 0 _ 24 [some (2, a0), some (0, a1), some (0, a2), some (0, q1.1)] [(0, q7.1)] q7.2
    refine zG.if_eq (tgt := 34) (off := 10) hX (by decide +kernel) (by decide) (fun c9 => ?_) (fun c9 => ?_)
    · have h := zip c9 h
      refine zG.blk (pc' := 38) (l' := [some (2, a0), some (0, a1), some (0, a2), some (0, q1.1)]) (st' := [(0, 2), (0, w32 (a2 - a1))]) (M' := q7.2) hX [(.iload_n 2, 0, 0, 0), (.iload_n 1, 0, 0, 0), (.isub, 0, 0, 0), (.iconst 2, 0, 0, 0)] (by decide +kernel) rfl trivial ?_
      refine zG.icmp_ne (tgt := 57) (off := 19) hX (by decide +kernel) (by decide) (fun c10 => ?_) (fun c10 => ?_)
      · have h := zin c10 h
        refine zG.blk (pc' := 58) (l' := [some (2, a0), some (0, a1), some (0, a2), some (0, q1.1)]) (st' := [(0, q1.1)]) (M' := q7.2) hX [(.iload_n 3, 0, 0, 0)] (by decide +kernel) rfl trivial ?_
        cases h
        exact zG.iret hX (by decide +kernel)
      · have h := zip c10 h
        refine zG.blk (pc' := 44) (l' := [some (2, a0), some (0, a1), some (0, a2), some (0, q1.1)]) (st' := [(0, 60), (0, q1.1)]) (M' := q7.2) hX [(.iload_n 3, 0, 0, 0), (.bipush 60, 0, 0, 0)] (by decide +kernel) rfl trivial ?_
        have key11 : zG C E 4 S 0 0 (zQ C E 0 0 (some (0, q.1)) S q.2) 56 [some (2, a0), some (0, a1), some (0, a2), some (0, q1.1)] [(0, (if q1.1 = 60 then (301 : Int) else 302))] q7.2 := by
          cases h
          exact zG.iret hX (by decide +kernel)
        refine zG.icmp_ne (tgt := 53) (off := 9) hX (by decide +kernel) (by decide) (fun c12 => ?_) (fun c12 => ?_)
        · refine zG.blk (pc' := 56) (l' := [some (2, a0), some (0, a1), some (0, a2), some (0, q1.1)]) (st' := [(0, 302)]) (M' := q7.2) hX [(.sipush 302, 0, 0, 0)] (by decide +kernel) rfl trivial ?_
          (have k := key11; simp only [if_neg c12] at k; exact k)
        · refine zG.blk (pc' := 50) (l' := [some (2, a0), some (0, a1), some (0, a2), some (0, q1.1)]) (st' := [(0, 301)]) (M' := q7.2) hX [(.sipush 301, 0, 0, 0)] (by decide +kernel) rfl trivial ?_
          refine zG.goto (tgt := 56) (off := 6) hX (by decide +kernel) (by decide) ?_
          (have k := key11; simp only [if_pos c12] at k; exact k)
    · have h := zin c9 h
      refine zG.blk (pc' := 30) (l' := [some (2, a0), some (0, a1), some (0, a2), some (0, q1.1)]) (st' := [(0, a2), (0, a1), (2, a0)]) (M' := q7.2) hX [(.aload_n 0, 0, 0, 0), (.iload_n 1, 0, 0, 0), (.iload_n 2, 0, 0, 0)] (by decide +kernel) rfl trivial ?_
      obtain ⟨q13, e14, h⟩ := zbd h
      refine zG.callV (b := a0) (av := [(0, a1), (0, a2)]) (st := []) (ci := 8) hX (pX8_wordToken_ok e14) sv_8_52 rfl ⟨by decide, rfl⟩ g3 (by decide +kernel) (by rw [hRm]; exact ⟨Nat.le_of_ble_eq_true rfl, Nat.le_of_ble_eq_true rfl⟩) (by rw [hRm]; exact ⟨Nat.le_of_ble_eq_true rfl, Nat.le_of_ble_eq_true rfl⟩) (Nat.le_of_ble_eq_true rfl) ?_
      show zG C E 4 S 0 0 _ 33 [some (2, a0), some (0, a1), some (0, a2), some (0, q1.1)] [(0, q13.1)] q13.2
      cases h
      exact zG.iret hX (by decide +kernel)
  · have h := zin c6 h
    refine zG.blk (pc' := 16) (l' := [some (2, a0), some (0, a1), some (0, a2), some (0, q1.1)]) (st' := [(0, a2), (0, a1), (2, a0)]) (M' := q4.2) hX [(.aload_n 0, 0, 0, 0), (.iload_n 1, 0, 0, 0), (.iload_n 2, 0, 0, 0)] (by decide +kernel) rfl trivial ?_
    obtain ⟨q15, e16, h⟩ := zbd h
    refine zG.callV (b := a0) (av := [(0, a1), (0, a2)]) (st := []) (ci := 8) hX (pX8_numberToken_ok e16) sv_8_49 rfl ⟨by decide, rfl⟩ g3 (by decide +kernel) (by rw [hRm]; exact ⟨Nat.le_of_ble_eq_true rfl, Nat.le_of_ble_eq_true rfl⟩) (by rw [hRm]; exact ⟨Nat.le_of_ble_eq_true rfl, Nat.le_of_ble_eq_true rfl⟩) (Nat.le_of_ble_eq_true rfl) ?_
    show zG C E 4 S 0 0 _ 19 [some (2, a0), some (0, a1), some (0, a2), some (0, q1.1)] [(0, q15.1)] q15.2
    cases h
    exact zG.iret hX (by decide +kernel)
theorem pX8_tokenOf_ok {l : Launch} {E : ZE} {S : ZS} {M : ZM} {a0 a1 a2 : Int} {q : (Int × ZM)} (h : pX8_tokenOf S M a0 a1 a2 = some q) : zMet l yX8_tokenOf cX8_tokenOf 4 (some .int) 8 249 0 0 E S M [(2, a0), (0, a1), (0, a2)] (some (0, q.1)) S q.2 :=
  zMet.of (o := 8) (ini := false) (by decide +kernel) rfl (fun h => by cases h) (Nat.le_of_ble_eq_true rfl) (fun C hX hl hRm => by subst hl; exact pX8_tokenOf_go hX hRm h)
noncomputable def pX8_cut_101 (S : ZS) (M : ZM) (x0 : Int) : Option ZM := if S.1 x0 = 8 then zlet (upM M x0 5 0) fun M9 => some M9 else none
set_option maxHeartbeats 2000000 in
set_option maxRecDepth 20000 in
theorem pX8_cut_101_ok {C : ZC} {E : ZE} {S : ZS} {q : ZM} (hX : zCx C E 8 cX8_cut 5 none false) (hRm : czR C = { frames := 9, cells := 0, slots := 0, locals := 272 }) {M : ZM} {x0 : Int} (h : pX8_cut_101 S M x0 = some q) : zG C E 5 S 0 0 (zQ C E 0 0 none S q) 101 [some (2, x0), none, none, none, none] [] M := by
  unfold pX8_cut_101 at h
  obtain ⟨g8, h⟩ := zif h
  refine zG.blk (pc' := 106) (l' := [some (2, x0), none, none, none, none]) (st' := []) (M' := (upM M x0 5 0)) hX [(.aload_n 0, 0, 0, 0), (.iconst 0, 0, 0, 0), (.putfield 39, 8, 5, 0)] (by decide +kernel) rfl (And.intro g8 trivial) ?_
  generalize upM M x0 5 0 = M9 at h ⊢
  have h := zlt h
  cases h
  exact zG.vret hX (by decide +kernel)
noncomputable def pX8_cut_77 (S : ZS) (M : ZM) (x0 : Int) (x1 : Int) : Option ZM := if S.1 x0 = 8 then if S.1 (M x0 2) = 100 ∧ (0 : Int) ≤ x1 ∧ x1 < S.2.1 (M x0 2) then zlet (upM M (M x0 2) x1 303) fun M4 => if S.1 (M4 x0 3) = 100 ∧ (0 : Int) ≤ x1 ∧ x1 < S.2.1 (M4 x0 3) then zlet (upM M4 (M4 x0 3) x1 (M4 x0 1)) fun M6 => zlet (upM M6 x0 4 0) fun M7 => pX8_cut_101 S M7 x0 else none else none else none
set_option maxHeartbeats 2000000 in
set_option maxRecDepth 20000 in
theorem pX8_cut_77_ok {C : ZC} {E : ZE} {S : ZS} {q : ZM} (hX : zCx C E 8 cX8_cut 5 none false) (hRm : czR C = { frames := 9, cells := 0, slots := 0, locals := 272 }) {M : ZM} {x0 : Int} {x1 : Int} (h : pX8_cut_77 S M x0 x1 = some q) : zG C E 5 S 0 0 (zQ C E 0 0 none S q) 77 [some (2, x0), some (0, x1), none, none, none] [] M := by
  unfold pX8_cut_77 at h
  obtain ⟨g2, h⟩ := zif h
  obtain ⟨g3, h⟩ := zif h
  refine zG.blk (pc' := 86) (l' := [some (2, x0), some (0, x1), none, none, none]) (st' := []) (M' := (upM M (M x0 2) x1 303)) hX [(.aload_n 0, 0, 0, 0), (.getfield 15, 8, 2, 2), (.iload_n 1, 0, 0, 0), (.sipush 303, 0, 0, 0), (.iastore, 0, 0, 0)] (by decide +kernel) rfl (And.intro g2 (And.intro g3 trivial)) ?_
  generalize upM M (M x0 2) x1 303 = M4 at h ⊢
  have h := zlt h
  obtain ⟨g5, h⟩ := zif h
  refine zG.blk (pc' := 96) (l' := [some (2, x0), some (0, x1), none, none, none]) (st' := []) (M' := (upM M4 (M4 x0 3) x1 (M4 x0 1))) hX [(.aload_n 0, 0, 0, 0), (.getfield 18, 8, 3, 2), (.iload_n 1, 0, 0, 0), (.aload_n 0, 0, 0, 0), (.getfield 21, 8, 1, 0), (.iastore, 0, 0, 0)] (by decide +kernel) rfl (And.intro g2 (And.intro g2 (And.intro g5 trivial))) ?_
  generalize upM M4 (M4 x0 3) x1 (M4 x0 1) = M6 at h ⊢
  have h := zlt h
  refine zG.blk (pc' := 101) (l' := [some (2, x0), some (0, x1), none, none, none]) (st' := []) (M' := (upM M6 x0 4 0)) hX [(.aload_n 0, 0, 0, 0), (.iconst 0, 0, 0, 0), (.putfield 36, 8, 4, 0)] (by decide +kernel) rfl (And.intro g2 trivial) ?_
  generalize upM M6 x0 4 0 = M7 at h ⊢
  have h := zlt h
  exact zG.wk [true, false, true, true, true] (pX8_cut_101_ok hX hRm h)
theorem sv_8_25 : zSV 8 25 yX8_endOfToken cX8_endOfToken 4 (some .int) 1 := ⟨⟨gt_at 519 (by decide +kernel) rfl, gt_at 521 (by decide +kernel) rfl, gt_at 0 (by decide +kernel) rfl, gt_at 106 (by decide +kernel) rfl, gt_at 522 (by decide +kernel) rfl⟩, by decide +kernel, by decide +kernel, by decide +kernel⟩
noncomputable def pX8_cut_68 (S : ZS) (k6 : ZM → Int → Int → Int → Int → Option ZM) (M : ZM) (x0 : Int) (x1 : Int) (x3 : Int) (x4 : Int) : Option ZM := k6 M x0 x1 x4 (w32 (x3 + 1))
set_option maxHeartbeats 2000000 in
set_option maxRecDepth 20000 in
theorem pX8_cut_68_ok {C : ZC} {E : ZE} {S : ZS} {k6 : ZM → Int → Int → Int → Int → Option ZM} {q : ZM} (hX : zCx C E 8 cX8_cut 5 none false) (hRm : czR C = { frames := 9, cells := 0, slots := 0, locals := 272 }) (hk6 : ∀ M x0 x1 x2 x3, k6 M x0 x1 x2 x3 = some q → zG C E 5 S 0 0 (zQ C E 0 0 none S q) 6 [some (2, x0), some (0, x1), some (0, x2), some (0, x3), none] [] M) {M : ZM} {x0 : Int} {x1 : Int} {x3 : Int} {x4 : Int} (h : pX8_cut_68 S k6 M x0 x1 x3 x4 = some q) : zG C E 5 S 0 0 (zQ C E 0 0 none S q) 68 [some (2, x0), some (0, x1), none, some (0, x3), some (0, x4)] [] M := by
  unfold pX8_cut_68 at h
  refine zG.blk (pc' := 74) (l' := [some (2, x0), some (0, x1), some (0, x4), some (0, w32 (x3 + 1)), some (0, x4)]) (st' := []) (M' := M) hX [(.iload 4, 0, 0, 0), (.istore_n 2, 0, 0, 0), (.iinc 3 1, 0, 0, 0)] (by decide +kernel) rfl trivial ?_
  refine zG.goto (tgt := 6) (off := (-68)) hX (by decide +kernel) (by decide) ?_
  exact zG.wk [true, true, true, true, false] (hk6 _ _ _ _ _ h)
theorem sv_8_32 : zSV 8 32 yX8_tokenOf cX8_tokenOf 4 (some .int) 2 := ⟨⟨gt_at 533 (by decide +kernel) rfl, gt_at 535 (by decide +kernel) rfl, gt_at 2 (by decide +kernel) rfl, gt_at 106 (by decide +kernel) rfl, gt_at 536 (by decide +kernel) rfl⟩, by decide +kernel, by decide +kernel, by decide +kernel⟩
noncomputable def pX8_cut_6 (S : ZS) : Nat → ZM → Int → Int → Int → Int → Option ZM
  | 0 => fun _ _ _ _ _ => none
  | n + 1 => fun M x0 x1 x2 x3 => if 400 ≤ x3 then (pX8_cut_77 S M x0 x1) else (if S.1 x0 = 8 then if M x0 1 ≤ x2 then (pX8_cut_77 S M x0 x1) else ((pX8_endOfToken S M x0 x2).bind fun q12 => (pX8_byteAt S q12.2 x0 x2).bind fun q14 => if q14.1 = 32 then (pX8_cut_68 S (pX8_cut_6 S n) q14.2 x0 x1 x3 q12.1) else (if 400 ≤ x1 then (pX8_cut_68 S (pX8_cut_6 S n) q14.2 x0 x1 x3 q12.1) else ((pX8_tokenOf S q14.2 x0 x2 q12.1).bind fun q18 => if S.1 (q14.2 x0 2) = 100 ∧ (0 : Int) ≤ x1 ∧ x1 < S.2.1 (q14.2 x0 2) then zlet (upM q18.2 (q14.2 x0 2) x1 q18.1) fun M21 => if S.1 (M21 x0 3) = 100 ∧ (0 : Int) ≤ x1 ∧ x1 < S.2.1 (M21 x0 3) then zlet (upM M21 (M21 x0 3) x1 x2) fun M23 => pX8_cut_68 S (pX8_cut_6 S n) M23 x0 (w32 (x1 + 1)) x3 q12.1 else none else none))) else none)
set_option maxHeartbeats 2000000 in
set_option maxRecDepth 20000 in
theorem pX8_cut_6_ok {C : ZC} {E : ZE} {S : ZS} {q : ZM} (hX : zCx C E 8 cX8_cut 5 none false) (hRm : czR C = { frames := 9, cells := 0, slots := 0, locals := 272 }) : ∀ (n : Nat) (M : ZM) (x0 : Int) (x1 : Int) (x2 : Int) (x3 : Int), pX8_cut_6 S n M x0 x1 x2 x3 = some q → zG C E 5 S 0 0 (zQ C E 0 0 none S q) 6 [some (2, x0), some (0, x1), some (0, x2), some (0, x3), none] [] M := by
  intro n
  induction n with
  | zero => intro M x0 x1 x2 x3 h; cases h
  | succ n ih =>
    intro M x0 x1 x2 x3 h
    unfold pX8_cut_6 at h
    refine zG.blk (pc' := 10) (l' := [some (2, x0), some (0, x1), some (0, x2), some (0, x3), none]) (st' := [(0, 400), (0, x3)]) (M' := M) hX [(.iload_n 3, 0, 0, 0), (.sipush 400, 0, 0, 0)] (by decide +kernel) rfl trivial ?_
    refine zG.icmp_ge (tgt := 77) (off := 67) hX (by decide +kernel) (by decide) (fun c1 => ?_) (fun c1 => ?_)
    · have h := zip c1 h
      exact zG.wk [true, true, false, false, true] (pX8_cut_77_ok hX hRm h)
    · have h := zin c1 h
      obtain ⟨g10, h⟩ := zif h
      refine zG.blk (pc' := 18) (l' := [some (2, x0), some (0, x1), some (0, x2), some (0, x3), none]) (st' := [(0, M x0 1), (0, x2)]) (M' := M) hX [(.iload_n 2, 0, 0, 0), (.aload_n 0, 0, 0, 0), (.getfield 21, 8, 1, 0)] (by decide +kernel) rfl (And.intro g10 trivial) ?_
      refine zG.icmp_ge (tgt := 77) (off := 59) hX (by decide +kernel) (by decide) (fun c11 => ?_) (fun c11 => ?_)
      · have h := zip c11 h
        exact zG.wk [true, true, false, false, true] (pX8_cut_77_ok hX hRm h)
      · have h := zin c11 h
        refine zG.blk (pc' := 23) (l' := [some (2, x0), some (0, x1), some (0, x2), some (0, x3), none]) (st' := [(0, x2), (2, x0)]) (M' := M) hX [(.aload_n 0, 0, 0, 0), (.iload_n 2, 0, 0, 0)] (by decide +kernel) rfl trivial ?_
        obtain ⟨q12, e13, h⟩ := zbd h
        refine zG.callV (b := x0) (av := [(0, x2)]) (st := []) (ci := 8) hX (pX8_endOfToken_ok e13) sv_8_25 rfl ⟨by decide, rfl⟩ g10 (by decide +kernel) (by rw [hRm]; exact ⟨Nat.le_of_ble_eq_true rfl, Nat.le_of_ble_eq_true rfl⟩) (by rw [hRm]; exact ⟨Nat.le_of_ble_eq_true rfl, Nat.le_of_ble_eq_true rfl⟩) (Nat.le_of_ble_eq_true rfl) ?_
        show zG C E 5 S 0 0 _ 26 [some (2, x0), some (0, x1), some (0, x2), some (0, x3), none] [(0, q12.1)] q12.2
        refine zG.blk (pc' := 30) (l' := [some (2, x0), some (0, x1), some (0, x2), some (0, x3), some (0, q12.1)]) (st' := [(0, x2), (2, x0)]) (M' := q12.2) hX [(.istore 4, 0, 0, 0), (.aload_n 0, 0, 0, 0), (.iload_n 2, 0, 0, 0)] (by decide +kernel) rfl trivial ?_
        obtain ⟨q14, e15, h⟩ := zbd h
        refine zG.callV (b := x0) (av := [(0, x2)]) (st := []) (ci := 8) hX (pX8_byteAt_ok e15) sv_8_29 rfl ⟨by decide, rfl⟩ g10 (by decide +kernel) (by rw [hRm]; exact ⟨Nat.le_of_ble_eq_true rfl, Nat.le_of_ble_eq_true rfl⟩) (by rw [hRm]; exact ⟨Nat.le_of_ble_eq_true rfl, Nat.le_of_ble_eq_true rfl⟩) (Nat.le_of_ble_eq_true rfl) ?_
        show zG C E 5 S 0 0 _ 33 [some (2, x0), some (0, x1), some (0, x2), some (0, x3), some (0, q12.1)] [(0, q14.1)] q14.2
        refine zG.blk (pc' := 35) (l' := [some (2, x0), some (0, x1), some (0, x2), some (0, x3), some (0, q12.1)]) (st' := [(0, 32), (0, q14.1)]) (M' := q14.2) hX [(.bipush 32, 0, 0, 0)] (by decide +kernel) rfl trivial ?_
        refine zG.icmp_eq (tgt := 68) (off := 33) hX (by decide +kernel) (by decide) (fun c16 => ?_) (fun c16 => ?_)
        · have h := zip c16 h
          exact zG.wk [true, true, false, true, true] (pX8_cut_68_ok hX hRm ih h)
        · have h := zin c16 h
          refine zG.blk (pc' := 42) (l' := [some (2, x0), some (0, x1), some (0, x2), some (0, x3), some (0, q12.1)]) (st' := [(0, 400), (0, x1)]) (M' := q14.2) hX [(.iload_n 1, 0, 0, 0), (.sipush 400, 0, 0, 0)] (by decide +kernel) rfl trivial ?_
          refine zG.icmp_ge (tgt := 68) (off := 26) hX (by decide +kernel) (by decide) (fun c17 => ?_) (fun c17 => ?_)
          · have h := zip c17 h
            exact zG.wk [true, true, false, true, true] (pX8_cut_68_ok hX hRm ih h)
          · have h := zin c17 h
            refine zG.blk (pc' := 54) (l' := [some (2, x0), some (0, x1), some (0, x2), some (0, x3), some (0, q12.1)]) (st' := [(0, q12.1), (0, x2), (2, x0), (0, x1), (2, q14.2 x0 2)]) (M' := q14.2) hX [(.aload_n 0, 0, 0, 0), (.getfield 15, 8, 2, 2), (.iload_n 1, 0, 0, 0), (.aload_n 0, 0, 0, 0), (.iload_n 2, 0, 0, 0), (.iload 4, 0, 0, 0)] (by decide +kernel) rfl (And.intro g10 trivial) ?_
            obtain ⟨q18, e19, h⟩ := zbd h
            refine zG.callV (b := x0) (av := [(0, x2), (0, q12.1)]) (st := [(0, x1), (2, q14.2 x0 2)]) (ci := 8) hX (pX8_tokenOf_ok e19) sv_8_32 rfl ⟨by decide, rfl⟩ g10 (by decide +kernel) (by rw [hRm]; exact ⟨Nat.le_of_ble_eq_true rfl, Nat.le_of_ble_eq_true rfl⟩) (by rw [hRm]; exact ⟨Nat.le_of_ble_eq_true rfl, Nat.le_of_ble_eq_true rfl⟩) (Nat.le_of_ble_eq_true rfl) ?_
            show zG C E 5 S 0 0 _ 57 [some (2, x0), some (0, x1), some (0, x2), some (0, x3), some (0, q12.1)] [(0, q18.1), (0, x1), (2, q14.2 x0 2)] q18.2
            obtain ⟨g20, h⟩ := zif h
            refine zG.blk (pc' := 58) (l' := [some (2, x0), some (0, x1), some (0, x2), some (0, x3), some (0, q12.1)]) (st' := []) (M' := (upM q18.2 (q14.2 x0 2) x1 q18.1)) hX [(.iastore, 0, 0, 0)] (by decide +kernel) rfl (And.intro g20 trivial) ?_
            generalize upM q18.2 (q14.2 x0 2) x1 q18.1 = M21 at h ⊢
            have h := zlt h
            obtain ⟨g22, h⟩ := zif h
            refine zG.blk (pc' := 65) (l' := [some (2, x0), some (0, x1), some (0, x2), some (0, x3), some (0, q12.1)]) (st' := []) (M' := (upM M21 (M21 x0 3) x1 x2)) hX [(.aload_n 0, 0, 0, 0), (.getfield 18, 8, 3, 2), (.iload_n 1, 0, 0, 0), (.iload_n 2, 0, 0, 0), (.iastore, 0, 0, 0)] (by decide +kernel) rfl (And.intro g10 (And.intro g22 trivial)) ?_
            generalize upM M21 (M21 x0 3) x1 x2 = M23 at h ⊢
            have h := zlt h
            refine zG.blk (pc' := 68) (l' := [some (2, x0), some (0, w32 (x1 + 1)), some (0, x2), some (0, x3), some (0, q12.1)]) (st' := []) (M' := M23) hX [(.iinc 1 1, 0, 0, 0)] (by decide +kernel) rfl trivial ?_
            exact zG.wk [true, true, false, true, true] (pX8_cut_68_ok hX hRm ih h)
noncomputable def pX8_cut (S : ZS) (M : ZM) (a0 : Int) : Option ZM := pX8_cut_6 S zFU M a0 0 0 0
set_option maxHeartbeats 2000000 in
set_option maxRecDepth 20000 in
theorem pX8_cut_go {C : ZC} {E : ZE} {S : ZS} {M : ZM} {a0 : Int} {q : ZM} (hX : zCx C E 8 cX8_cut 5 none false) (hRm : czR C = { frames := 9, cells := 0, slots := 0, locals := 272 }) (h : pX8_cut  S M a0 = some q) : zG C E 5 S 0 0 (zQ C E 0 0 none S q) 0 [some (2, a0), none, none, none, none] [] M := by
  unfold pX8_cut at h
  refine zG.blk (pc' := 6) (l' := [some (2, a0), some (0, 0), some (0, 0), some (0, 0), none]) (st' := []) (M' := M) hX [(.iconst 0, 0, 0, 0), (.istore_n 1, 0, 0, 0), (.iconst 0, 0, 0, 0), (.istore_n 2, 0, 0, 0), (.iconst 0, 0, 0, 0), (.istore_n 3, 0, 0, 0)] (by decide +kernel) rfl trivial ?_
  exact (pX8_cut_6_ok hX hRm zFU _ _ _ _ _ h)
theorem pX8_cut_ok {l : Launch} {E : ZE} {S : ZS} {M : ZM} {a0 : Int} {q : ZM} (h : pX8_cut S M a0 = some q) : zMet l yX8_cut cX8_cut 5 none 9 272 0 0 E S M [(2, a0)] (none) S q :=
  zMet.of (o := 8) (ini := false) (by decide +kernel) rfl (fun h => by cases h) (Nat.le_of_ble_eq_true rfl) (fun C hX hl hRm => by subst hl; exact pX8_cut_go hX hRm h)
theorem sv_7_18 : zSV 7 18 yX8_cut cX8_cut 5 none 0 := ⟨⟨gt_at 515 (by decide +kernel) rfl, gt_at 516 (by decide +kernel) rfl, gt_at 517 (by decide +kernel) rfl, gt_at 106 (by decide +kernel) rfl, gt_at 518 (by decide +kernel) rfl⟩, by decide +kernel, by decide +kernel, by decide +kernel⟩
theorem sv_7_23 : zSV 7 23 yX9_clear cX9_clear 1 none 0 := ⟨⟨gt_at 598 (by decide +kernel) rfl, gt_at 599 (by decide +kernel) rfl, gt_at 600 (by decide +kernel) rfl, gt_at 108 (by decide +kernel) rfl, gt_at 601 (by decide +kernel) rfl⟩, by decide +kernel, by decide +kernel, by decide +kernel⟩
theorem sv_7_26 : zSV 7 26 yX7_takeClause cX7_takeClause 4 (some .boolean) 2 := ⟨⟨gt_at 603 (by decide +kernel) rfl, gt_at 605 (by decide +kernel) rfl, gt_at 6 (by decide +kernel) rfl, gt_at 107 (by decide +kernel) rfl, gt_at 606 (by decide +kernel) rfl⟩, by decide +kernel, by decide +kernel, by decide +kernel⟩
noncomputable def pX7_faultOf_38 (S : ZS) (M : ZM) (x1 : Int) : Option (Int × ZM) := if S.1 x1 = 8 then some (M x1 5, M) else none
set_option maxHeartbeats 2000000 in
set_option maxRecDepth 20000 in
theorem pX7_faultOf_38_ok {C : ZC} {E : ZE} {S : ZS} {q : (Int × ZM)} (hX : zCx C E 7 cX7_faultOf 3 (some .int) false) (hRm : czR C = { frames := 10, cells := 0, slots := 0, locals := 296 }) {M : ZM} {x1 : Int} (h : pX7_faultOf_38 S M x1 = some q) : zG C E 3 S 0 0 (zQ C E 0 0 (some (0, q.1)) S q.2) 38 [none, some (2, x1), none] [] M := by
  unfold pX7_faultOf_38 at h
  obtain ⟨g14, h⟩ := zif h
  refine zG.blk (pc' := 42) (l' := [none, some (2, x1), none]) (st' := [(0, M x1 5)]) (M' := M) hX [(.aload_n 1, 0, 0, 0), (.getfield 34, 8, 5, 0)] (by decide +kernel) rfl (And.intro g14 trivial) ?_
  cases h
  exact zG.iret hX (by decide +kernel)
theorem sv_7_38 : zSV 7 38 yX8_takes cX8_takes 2 (some .boolean) 1 := ⟨⟨gt_at 645 (by decide +kernel) rfl, gt_at 646 (by decide +kernel) rfl, gt_at 647 (by decide +kernel) rfl, gt_at 106 (by decide +kernel) rfl, gt_at 648 (by decide +kernel) rfl⟩, by decide +kernel, by decide +kernel, by decide +kernel⟩
noncomputable def pX7_faultOf_13 (S : ZS) : Nat → ZM → Int → Int → Int → Option (Int × ZM)
  | 0 => fun _ _ _ _ => none
  | n + 1 => fun M x0 x1 x2 => if 40 < x2 then (if S.1 x1 = 8 then some (M x1 5, M) else none) else (if S.1 x0 = 7 then (pX7_takeClause S M x0 x1 x2).bind fun q10 => if q10.1 = 0 then (pX7_faultOf_38 S q10.2 x1) else (if S.1 x1 = 8 then (pX8_token S q10.2 x1).bind fun q15 => if q15.1 = 303 then (pX7_faultOf_38 S q15.2 x1) else ((pX8_takes S q15.2 x1 59).bind fun q19 => if q19.1 = 0 then ((pX8_fail S q19.2 x1 0).bind fun q22 => some (q22.2 x1 5, q22.2)) else (pX7_faultOf_13 S n q19.2 x0 x1 (w32 (x2 + 1)))) else none) else none)
set_option maxHeartbeats 2000000 in
set_option maxRecDepth 20000 in
theorem pX7_faultOf_13_ok {C : ZC} {E : ZE} {S : ZS} {q : (Int × ZM)} (hX : zCx C E 7 cX7_faultOf 3 (some .int) false) (hRm : czR C = { frames := 10, cells := 0, slots := 0, locals := 296 }) : ∀ (n : Nat) (M : ZM) (x0 : Int) (x1 : Int) (x2 : Int), pX7_faultOf_13 S n M x0 x1 x2 = some q → zG C E 3 S 0 0 (zQ C E 0 0 (some (0, q.1)) S q.2) 13 [some (2, x0), some (2, x1), some (0, x2)] [] M := by
  intro n
  induction n with
  | zero => intro M x0 x1 x2 h; cases h
  | succ n ih =>
    intro M x0 x1 x2 h
    unfold pX7_faultOf_13 at h
    refine zG.blk (pc' := 16) (l' := [some (2, x0), some (2, x1), some (0, x2)]) (st' := [(0, 40), (0, x2)]) (M' := M) hX [(.iload_n 2, 0, 0, 0), (.bipush 40, 0, 0, 0)] (by decide +kernel) rfl trivial ?_
    refine zG.icmp_gt (tgt := 69) (off := 53) hX (by decide +kernel) (by decide) (fun c8 => ?_) (fun c8 => ?_)
    · have h := zip c8 h
      obtain ⟨g9, h⟩ := zif h
      refine zG.blk (pc' := 73) (l' := [some (2, x0), some (2, x1), some (0, x2)]) (st' := [(0, M x1 5)]) (M' := M) hX [(.aload_n 1, 0, 0, 0), (.getfield 34, 8, 5, 0)] (by decide +kernel) rfl (And.intro g9 trivial) ?_
      cases h
      exact zG.iret hX (by decide +kernel)
    · have h := zin c8 h
      refine zG.blk (pc' := 22) (l' := [some (2, x0), some (2, x1), some (0, x2)]) (st' := [(0, x2), (2, x1), (2, x0)]) (M' := M) hX [(.aload_n 0, 0, 0, 0), (.aload_n 1, 0, 0, 0), (.iload_n 2, 0, 0, 0)] (by decide +kernel) rfl trivial ?_
      obtain ⟨g12, h⟩ := zif h
      obtain ⟨q10, e11, h⟩ := zbd h
      refine zG.callV (b := x0) (av := [(2, x1), (0, x2)]) (st := []) (ci := 7) hX (pX7_takeClause_ok e11) sv_7_26 rfl ⟨by decide, rfl⟩ g12 (by decide +kernel) (by rw [hRm]; exact ⟨Nat.le_of_ble_eq_true rfl, Nat.le_of_ble_eq_true rfl⟩) (by rw [hRm]; exact ⟨Nat.le_of_ble_eq_true rfl, Nat.le_of_ble_eq_true rfl⟩) (Nat.le_of_ble_eq_true rfl) ?_
      show zG C E 3 S 0 0 _ 25 [some (2, x0), some (2, x1), some (0, x2)] [(0, q10.1)] q10.2
      refine zG.if_eq (tgt := 38) (off := 13) hX (by decide +kernel) (by decide) (fun c13 => ?_) (fun c13 => ?_)
      · have h := zip c13 h
        exact zG.wk [false, true, false] (pX7_faultOf_38_ok hX hRm h)
      · have h := zin c13 h
        refine zG.blk (pc' := 29) (l' := [some (2, x0), some (2, x1), some (0, x2)]) (st' := [(2, x1)]) (M' := q10.2) hX [(.aload_n 1, 0, 0, 0)] (by decide +kernel) rfl trivial ?_
        obtain ⟨g17, h⟩ := zif h
        obtain ⟨q15, e16, h⟩ := zbd h
        refine zG.callV (b := x1) (av := []) (st := []) (ci := 8) hX (pX8_token_ok e16) sv_7_30 rfl ⟨by decide, rfl⟩ g17 (by decide +kernel) (by rw [hRm]; exact ⟨Nat.le_of_ble_eq_true rfl, Nat.le_of_ble_eq_true rfl⟩) (by rw [hRm]; exact ⟨Nat.le_of_ble_eq_true rfl, Nat.le_of_ble_eq_true rfl⟩) (Nat.le_of_ble_eq_true rfl) ?_
        show zG C E 3 S 0 0 _ 32 [some (2, x0), some (2, x1), some (0, x2)] [(0, q15.1)] q15.2
        refine zG.blk (pc' := 35) (l' := [some (2, x0), some (2, x1), some (0, x2)]) (st' := [(0, 303), (0, q15.1)]) (M' := q15.2) hX [(.sipush 303, 0, 0, 0)] (by decide +kernel) rfl trivial ?_
        refine zG.icmp_ne (tgt := 43) (off := 8) hX (by decide +kernel) (by decide) (fun c18 => ?_) (fun c18 => ?_)
        · have h := zin c18 h
          refine zG.blk (pc' := 46) (l' := [some (2, x0), some (2, x1), some (0, x2)]) (st' := [(0, 59), (2, x1)]) (M' := q15.2) hX [(.aload_n 1, 0, 0, 0), (.bipush 59, 0, 0, 0)] (by decide +kernel) rfl trivial ?_
          obtain ⟨q19, e20, h⟩ := zbd h
          refine zG.callV (b := x1) (av := [(0, 59)]) (st := []) (ci := 8) hX (pX8_takes_ok e20) sv_7_38 rfl ⟨by decide, rfl⟩ g17 (by decide +kernel) (by rw [hRm]; exact ⟨Nat.le_of_ble_eq_true rfl, Nat.le_of_ble_eq_true rfl⟩) (by rw [hRm]; exact ⟨Nat.le_of_ble_eq_true rfl, Nat.le_of_ble_eq_true rfl⟩) (Nat.le_of_ble_eq_true rfl) ?_
          show zG C E 3 S 0 0 _ 49 [some (2, x0), some (2, x1), some (0, x2)] [(0, q19.1)] q19.2
          refine zG.if_ne (tgt := 63) (off := 14) hX (by decide +kernel) (by decide) (fun c21 => ?_) (fun c21 => ?_)
          · have h := zin c21 h
            refine zG.blk (pc' := 66) (l' := [some (2, x0), some (2, x1), some (0, w32 (x2 + 1))]) (st' := []) (M' := q19.2) hX [(.iinc 2 1, 0, 0, 0)] (by decide +kernel) rfl trivial ?_
            refine zG.goto (tgt := 13) (off := (-53)) hX (by decide +kernel) (by decide) ?_
            exact ih _ _ _ _ h
          · have h := zip c21 h
            refine zG.blk (pc' := 54) (l' := [some (2, x0), some (2, x1), some (0, x2)]) (st' := [(0, 0), (2, x1)]) (M' := q19.2) hX [(.aload_n 1, 0, 0, 0), (.iconst 0, 0, 0, 0)] (by decide +kernel) rfl trivial ?_
            obtain ⟨q22, e23, h⟩ := zbd h
            refine zG.callV (b := x1) (av := [(0, 0)]) (st := []) (ci := 8) hX (pX8_fail_ok e23) sv_7_42 rfl ⟨by decide, rfl⟩ g17 (by decide +kernel) (by rw [hRm]; exact ⟨Nat.le_of_ble_eq_true rfl, Nat.le_of_ble_eq_true rfl⟩) (by rw [hRm]; exact ⟨Nat.le_of_ble_eq_true rfl, Nat.le_of_ble_eq_true rfl⟩) (Nat.le_of_ble_eq_true rfl) ?_
            show zG C E 3 S 0 0 _ 57 [some (2, x0), some (2, x1), some (0, x2)] [(0, q22.1)] q22.2
            refine zG.blk (pc' := 62) (l' := [some (2, x0), some (2, x1), some (0, x2)]) (st' := [(0, q22.2 x1 5)]) (M' := q22.2) hX [(.pop, 0, 0, 0), (.aload_n 1, 0, 0, 0), (.getfield 34, 8, 5, 0)] (by decide +kernel) rfl (And.intro g17 trivial) ?_
            cases h
            exact zG.iret hX (by decide +kernel)
        · have h := zip c18 h
          exact zG.wk [false, true, false] (pX7_faultOf_38_ok hX hRm h)
noncomputable def pX7_faultOf (S : ZS) (M : ZM) (a0 : Int) (a1 : Int) : Option (Int × ZM) := if S.1 a1 = 8 then (pX8_cut S M a1).bind fun q1 => if S.1 a0 = 7 then if S.1 (q1 a0 0) = 9 then (pX9_clear S q1 (q1 a0 0)).bind fun q5 => pX7_faultOf_13 S zFU q5 a0 a1 0 else none else none else none
set_option maxHeartbeats 2000000 in
set_option maxRecDepth 20000 in
theorem pX7_faultOf_go {C : ZC} {E : ZE} {S : ZS} {M : ZM} {a0 a1 : Int} {q : (Int × ZM)} (hX : zCx C E 7 cX7_faultOf 3 (some .int) false) (hRm : czR C = { frames := 10, cells := 0, slots := 0, locals := 296 }) (h : pX7_faultOf  S M a0 a1 = some q) : zG C E 3 S 0 0 (zQ C E 0 0 (some (0, q.1)) S q.2) 0 [some (2, a0), some (2, a1), none] [] M := by
  unfold pX7_faultOf at h
  refine zG.blk (pc' := 1) (l' := [some (2, a0), some (2, a1), none]) (st' := [(2, a1)]) (M' := M) hX [(.aload_n 1, 0, 0, 0)] (by decide +kernel) rfl trivial ?_
  obtain ⟨g3, h⟩ := zif h
  obtain ⟨q1, e2, h⟩ := zbd h
  refine zG.callV (b := a1) (av := []) (st := []) (ci := 8) hX (pX8_cut_ok e2) sv_7_18 rfl ⟨by decide, rfl⟩ g3 (by decide +kernel) (by rw [hRm]; exact ⟨Nat.le_of_ble_eq_true rfl, Nat.le_of_ble_eq_true rfl⟩) (by rw [hRm]; exact ⟨Nat.le_of_ble_eq_true rfl, Nat.le_of_ble_eq_true rfl⟩) (Nat.le_of_ble_eq_true rfl) ?_
  show zG C E 3 S 0 0 _ 4 [some (2, a0), some (2, a1), none] [] q1
  obtain ⟨g4, h⟩ := zif h
  refine zG.blk (pc' := 8) (l' := [some (2, a0), some (2, a1), none]) (st' := [(2, q1 a0 0)]) (M' := q1) hX [(.aload_n 0, 0, 0, 0), (.getfield 12, 7, 0, 2)] (by decide +kernel) rfl (And.intro g4 trivial) ?_
  obtain ⟨g7, h⟩ := zif h
  obtain ⟨q5, e6, h⟩ := zbd h
  refine zG.callV (b := q1 a0 0) (av := []) (st := []) (ci := 9) hX (pX9_clear_ok e6) sv_7_23 rfl ⟨by decide, rfl⟩ g7 (by decide +kernel) (by rw [hRm]; exact ⟨Nat.le_of_ble_eq_true rfl, Nat.le_of_ble_eq_true rfl⟩) (by rw [hRm]; exact ⟨Nat.le_of_ble_eq_true rfl, Nat.le_of_ble_eq_true rfl⟩) (Nat.le_of_ble_eq_true rfl) ?_
  show zG C E 3 S 0 0 _ 11 [some (2, a0), some (2, a1), none] [] q5
  refine zG.blk (pc' := 13) (l' := [some (2, a0), some (2, a1), some (0, 0)]) (st' := []) (M' := q5) hX [(.iconst 0, 0, 0, 0), (.istore_n 2, 0, 0, 0)] (by decide +kernel) rfl trivial ?_
  exact (pX7_faultOf_13_ok hX hRm zFU _ _ _ _ h)
theorem pX7_faultOf_ok {l : Launch} {E : ZE} {S : ZS} {M : ZM} {a0 a1 : Int} {q : (Int × ZM)} (h : pX7_faultOf S M a0 a1 = some q) : zMet l yX7_faultOf cX7_faultOf 3 (some .int) 10 296 0 0 E S M [(2, a0), (2, a1)] (some (0, q.1)) S q.2 :=
  zMet.of (o := 7) (ini := false) (by decide +kernel) rfl (fun h => by cases h) (Nat.le_of_ble_eq_true rfl) (fun C hX hl hRm => by subst hl; exact pX7_faultOf_go hX hRm h)
theorem sv_11_83 : zSV 11 83 yX7_faultOf cX7_faultOf 3 (some .int) 1 := ⟨⟨gt_at 511 (by decide +kernel) rfl, gt_at 512 (by decide +kernel) rfl, gt_at 513 (by decide +kernel) rfl, gt_at 107 (by decide +kernel) rfl, gt_at 514 (by decide +kernel) rfl⟩, by decide +kernel, by decide +kernel, by decide +kernel⟩
theorem sv_11_91 : zSV 11 91 yX10_begin cX10_begin 2 none 1 := ⟨⟨gt_at 650 (by decide +kernel) rfl, gt_at 651 (by decide +kernel) rfl, gt_at 652 (by decide +kernel) rfl, gt_at 110 (by decide +kernel) rfl, gt_at 653 (by decide +kernel) rfl⟩, by decide +kernel, by decide +kernel, by decide +kernel⟩
noncomputable def pX11_sky (S : ZS) (M : ZM) (a0 : Int) : Option (Int × ZM) := if S.1 a0 = 11 then if S.1 (M a0 1) = 7 then (pX7_faultOf S M (M a0 1) (M a0 0)).bind fun q2 => if S.1 (q2.2 a0 0) = 8 then zlet (upM q2.2 (q2.2 a0 0) 1 0) fun M6 => if q2.1 = 0 then (if S.1 (M6 a0 1) = 7 then if S.1 (M6 a0 5) = 10 then (pX10_begin S M6 (M6 a0 5) (M6 (M6 a0 1) 0)).bind fun q9 => if S.1 (q9 a0 5) = 10 then if S.1 (q9 (q9 a0 5) 0) = 9 then some (q9 (q9 (q9 a0 5) 0) 3, q9) else none else none else none else none) else (some (w32 ((-2) - q2.1), M6)) else none else none else none
set_option maxHeartbeats 2000000 in
set_option maxRecDepth 20000 in
theorem pX11_sky_go {C : ZC} {E : ZE} {S : ZS} {M : ZM} {a0 : Int} {q : (Int × ZM)} (hX : zCx C E 11 cX11_sky 2 (some .int) false) (hRm : czR C = { frames := 11, cells := 0, slots := 0, locals := 318 }) (h : pX11_sky  S M a0 = some q) : zG C E 2 S 0 0 (zQ C E 0 0 (some (0, q.1)) S q.2) 0 [some (2, a0), none] [] M := by
  unfold pX11_sky at h
  obtain ⟨g1, h⟩ := zif h
  refine zG.blk (pc' := 8) (l' := [some (2, a0), none]) (st' := [(2, M a0 0), (2, M a0 1)]) (M' := M) hX [(.aload_n 0, 0, 0, 0), (.getfield 19, 11, 1, 2), (.aload_n 0, 0, 0, 0), (.getfield 10, 11, 0, 2)] (by decide +kernel) rfl (And.intro g1 (And.intro g1 trivial)) ?_
  obtain ⟨g4, h⟩ := zif h
  obtain ⟨q2, e3, h⟩ := zbd h
  refine zG.callV (b := M a0 1) (av := [(2, M a0 0)]) (st := []) (ci := 7) hX (pX7_faultOf_ok e3) sv_11_83 rfl ⟨by decide, rfl⟩ g4 (by decide +kernel) (by rw [hRm]; exact ⟨Nat.le_of_ble_eq_true rfl, Nat.le_of_ble_eq_true rfl⟩) (by rw [hRm]; exact ⟨Nat.le_of_ble_eq_true rfl, Nat.le_of_ble_eq_true rfl⟩) (Nat.le_of_ble_eq_true rfl) ?_
  show zG C E 2 S 0 0 _ 11 [some (2, a0), none] [(0, q2.1)] q2.2
  obtain ⟨g5, h⟩ := zif h
  refine zG.blk (pc' := 20) (l' := [some (2, a0), some (0, q2.1)]) (st' := []) (M' := (upM q2.2 (q2.2 a0 0) 1 0)) hX [(.istore_n 1, 0, 0, 0), (.aload_n 0, 0, 0, 0), (.getfield 10, 11, 0, 2), (.iconst 0, 0, 0, 0), (.putfield 75, 8, 1, 0)] (by decide +kernel) rfl (And.intro g1 (And.intro g5 trivial)) ?_
  generalize upM q2.2 (q2.2 a0 0) 1 0 = M6 at h ⊢
  have h := zlt h
  refine zG.blk (pc' := 21) (l' := [some (2, a0), some (0, q2.1)]) (st' := [(0, q2.1)]) (M' := M6) hX [(.iload_n 1, 0, 0, 0)] (by decide +kernel) rfl trivial ?_
  refine zG.if_eq (tgt := 29) (off := 8) hX (by decide +kernel) (by decide) (fun c7 => ?_) (fun c7 => ?_)
  · have h := zip c7 h
    obtain ⟨g8, h⟩ := zif h
    refine zG.blk (pc' := 40) (l' := [some (2, a0), some (0, q2.1)]) (st' := [(2, M6 (M6 a0 1) 0), (2, M6 a0 5)]) (M' := M6) hX [(.aload_n 0, 0, 0, 0), (.getfield 39, 11, 5, 2), (.aload_n 0, 0, 0, 0), (.getfield 19, 11, 1, 2), (.getfield 87, 7, 0, 2)] (by decide +kernel) rfl (And.intro g1 (And.intro g1 (And.intro g8 trivial))) ?_
    obtain ⟨g11, h⟩ := zif h
    obtain ⟨q9, e10, h⟩ := zbd h
    refine zG.callV (b := M6 a0 5) (av := [(2, M6 (M6 a0 1) 0)]) (st := []) (ci := 10) hX (pX10_begin_ok e10) sv_11_91 rfl ⟨by decide, rfl⟩ g11 (by decide +kernel) (by rw [hRm]; exact ⟨Nat.le_of_ble_eq_true rfl, Nat.le_of_ble_eq_true rfl⟩) (by rw [hRm]; exact ⟨Nat.le_of_ble_eq_true rfl, Nat.le_of_ble_eq_true rfl⟩) (Nat.le_of_ble_eq_true rfl) ?_
    show zG C E 2 S 0 0 _ 43 [some (2, a0), some (0, q2.1)] [] q9
    obtain ⟨g12, h⟩ := zif h
    obtain ⟨g13, h⟩ := zif h
    refine zG.blk (pc' := 53) (l' := [some (2, a0), some (0, q2.1)]) (st' := [(0, q9 (q9 (q9 a0 5) 0) 3)]) (M' := q9) hX [(.aload_n 0, 0, 0, 0), (.getfield 39, 11, 5, 2), (.getfield 95, 10, 0, 2), (.getfield 96, 9, 3, 0)] (by decide +kernel) rfl (And.intro g1 (And.intro g12 (And.intro g13 trivial))) ?_
    cases h
    exact zG.iret hX (by decide +kernel)
  · have h := zin c7 h
    refine zG.blk (pc' := 28) (l' := [some (2, a0), some (0, q2.1)]) (st' := [(0, w32 ((-2) - q2.1))]) (M' := M6) hX [(.bipush (-2), 0, 0, 0), (.iload_n 1, 0, 0, 0), (.isub, 0, 0, 0)] (by decide +kernel) rfl trivial ?_
    cases h
    exact zG.iret hX (by decide +kernel)
theorem pX11_sky_ok {l : Launch} {E : ZE} {S : ZS} {M : ZM} {a0 : Int} {q : (Int × ZM)} (h : pX11_sky S M a0 = some q) : zMet l yX11_sky cX11_sky 2 (some .int) 11 318 0 0 E S M [(2, a0)] (some (0, q.1)) S q.2 :=
  zMet.of (o := 11) (ini := false) (by decide +kernel) rfl (fun h => by cases h) (Nat.le_of_ble_eq_true rfl) (fun C hX hl hRm => by subst hl; exact pX11_sky_go hX hRm h)
theorem sv_12_184 : zSV 12 184 yJ0_length_8abf5 cJ0_length_8abf5 1 (some .int) 0 := ⟨⟨gt_at 1338 (by decide +kernel) rfl, gt_at 547 (by decide +kernel) rfl, gt_at 548 (by decide +kernel) rfl, gt_at 118 (by decide +kernel) rfl, gt_at 549 (by decide +kernel) rfl⟩, by decide +kernel, by decide +kernel, by decide +kernel⟩
noncomputable def pX12_stood_109 (S : ZS) (M : ZM) (x3 : Int) : Option (Int × ZM) := if x3 = 0 ∨ x3 = 1 then some (x3, M) else none
set_option maxHeartbeats 2000000 in
set_option maxRecDepth 20000 in
theorem pX12_stood_109_ok {C : ZC} {E : ZE} {S : ZS} {q : (Int × ZM)} (hX : zCx C E 12 cX12_stood 5 (some .boolean) false) (hRm : czR C = { frames := 6, cells := 0, slots := 0, locals := 200 }) {M : ZM} {x3 : Int} (h : pX12_stood_109 S M x3 = some q) : zG C E 5 S 0 0 (zQ C E 0 0 (some (0, q.1)) S q.2) 109 [none, none, none, some (0, x3), none] [] M := by
  unfold pX12_stood_109 at h
  refine zG.blk (pc' := 110) (l' := [none, none, none, some (0, x3), none]) (st' := [(0, x3)]) (M' := M) hX [(.iload_n 3, 0, 0, 0)] (by decide +kernel) rfl trivial ?_
  obtain ⟨g10, h⟩ := zif h
  cases h
  exact zG.zret hX (by decide +kernel) g10
theorem sv_12_189 : zSV 12 189 yJ0_charAt_5068e cJ0_charAt_5068e 2 (some .char) 1 := ⟨⟨gt_at 1339 (by decide +kernel) rfl, gt_at 557 (by decide +kernel) rfl, gt_at 558 (by decide +kernel) rfl, gt_at 118 (by decide +kernel) rfl, gt_at 559 (by decide +kernel) rfl⟩, by decide +kernel, by decide +kernel, by decide +kernel⟩
noncomputable def pX12_stood_63 (S : ZS) : Nat → ZM → Int → Int → Int → Int → Option (Int × ZM)
  | 0 => fun _ _ _ _ _ => none
  | n + 1 => fun M x0 x1 x3 x4 => if (0 : Int) ≤ x1 ∧ x1 < (20 : Int) then if zSl x1 ≤ x4 then (pX12_stood_109 S M x3) else (if x3 = 0 then (pX12_stood_109 S M x3) else (if S.1 x0 = 12 then if S.1 (M x0 30) = 102 ∧ (0 : Int) ≤ w32 ((M x0 21) + x4) ∧ w32 ((M x0 21) + x4) < S.2.1 (M x0 30) then if ((0 : Int) ≤ x1 ∧ x1 < (20 : Int)) ∧ 0 ≤ x4 ∧ x4 < zSl x1 then zlet (if M (M x0 30) (w32 ((M x0 21) + x4)) = zSc x1 x4 then (1 : Int) else 0) fun x16 => pX12_stood_63 S n M x0 x1 x16 (w32 (x4 + 1)) else none else none else none)) else none
set_option maxHeartbeats 2000000 in
set_option maxRecDepth 20000 in
theorem pX12_stood_63_ok {C : ZC} {E : ZE} {S : ZS} {q : (Int × ZM)} (hX : zCx C E 12 cX12_stood 5 (some .boolean) false) (hRm : czR C = { frames := 6, cells := 0, slots := 0, locals := 200 }) : ∀ (n : Nat) (M : ZM) (x0 : Int) (x1 : Int) (x3 : Int) (x4 : Int), pX12_stood_63 S n M x0 x1 x3 x4 = some q → zG C E 5 S 0 0 (zQ C E 0 0 (some (0, q.1)) S q.2) 63 [some (2, x0), some (3, x1), none, some (0, x3), some (0, x4)] [] M := by
  intro n
  induction n with
  | zero => intro M x0 x1 x3 x4 h; cases h
  | succ n ih =>
    intro M x0 x1 x3 x4 h
    unfold pX12_stood_63 at h
    refine zG.blk (pc' := 66) (l' := [some (2, x0), some (3, x1), none, some (0, x3), some (0, x4)]) (st' := [(3, x1), (0, x4)]) (M' := M) hX [(.iload 4, 0, 0, 0), (.aload_n 1, 0, 0, 0)] (by decide +kernel) rfl trivial ?_
    obtain ⟨g8, h⟩ := zif h
    refine zG.slen hX sv_12_184 g8 (by decide +kernel) (by rw [hRm]; exact ⟨Nat.le_of_ble_eq_true rfl, Nat.le_of_ble_eq_true rfl⟩) (by rw [hRm]; exact ⟨Nat.le_of_ble_eq_true rfl, Nat.le_of_ble_eq_true rfl⟩) (Nat.le_of_ble_eq_true rfl) ?_
    show zG C E 5 S 0 0 _ 69 [some (2, x0), some (3, x1), none, some (0, x3), some (0, x4)] [(0, zSl x1), (0, x4)] M
    refine zG.icmp_ge (tgt := 109) (off := 40) hX (by decide +kernel) (by decide) (fun c9 => ?_) (fun c9 => ?_)
    · have h := zip c9 h
      exact zG.wk [false, false, true, true, false] (pX12_stood_109_ok hX hRm h)
    · have h := zin c9 h
      refine zG.blk (pc' := 73) (l' := [some (2, x0), some (3, x1), none, some (0, x3), some (0, x4)]) (st' := [(0, x3)]) (M' := M) hX [(.iload_n 3, 0, 0, 0)] (by decide +kernel) rfl trivial ?_
      refine zG.if_eq (tgt := 109) (off := 36) hX (by decide +kernel) (by decide) (fun c11 => ?_) (fun c11 => ?_)
      · have h := zip c11 h
        exact zG.wk [false, false, true, true, false] (pX12_stood_109_ok hX hRm h)
      · have h := zin c11 h
        obtain ⟨g12, h⟩ := zif h
        obtain ⟨g13, h⟩ := zif h
        refine zG.blk (pc' := 91) (l' := [some (2, x0), some (3, x1), none, some (0, x3), some (0, x4)]) (st' := [(0, x4), (3, x1), (0, M (M x0 30) (w32 ((M x0 21) + x4)))]) (M' := M) hX [(.aload_n 0, 0, 0, 0), (.getfield 71, 12, 30, 2), (.aload_n 0, 0, 0, 0), (.getfield 174, 12, 21, 0), (.iload 4, 0, 0, 0), (.iadd, 0, 0, 0), (.baload, 102, 0, 0), (.aload_n 1, 0, 0, 0), (.iload 4, 0, 0, 0)] (by decide +kernel) rfl (And.intro g12 (And.intro g12 (And.intro g13 trivial))) ?_
        obtain ⟨g14, h⟩ := zif h
        refine zG.schar hX sv_12_189 g14 (by decide +kernel) (by rw [hRm]; exact ⟨Nat.le_of_ble_eq_true rfl, Nat.le_of_ble_eq_true rfl⟩) (by rw [hRm]; exact ⟨Nat.le_of_ble_eq_true rfl, Nat.le_of_ble_eq_true rfl⟩) (Nat.le_of_ble_eq_true rfl) ?_
        show zG C E 5 S 0 0 _ 94 [some (2, x0), some (3, x1), none, some (0, x3), some (0, x4)] [(0, zSc x1 x4), (0, M (M x0 30) (w32 ((M x0 21) + x4)))] M
        have key15 : zG C E 5 S 0 0 (zQ C E 0 0 (some (0, q.1)) S q.2) 102 [some (2, x0), some (3, x1), none, some (0, x3), some (0, x4)] [(0, (if M (M x0 30) (w32 ((M x0 21) + x4)) = zSc x1 x4 then (1 : Int) else 0))] M := by
          refine zG.blk (pc' := 103) (l' := [some (2, x0), some (3, x1), none, some (0, (if M (M x0 30) (w32 ((M x0 21) + x4)) = zSc x1 x4 then (1 : Int) else 0)), some (0, x4)]) (st' := []) (M' := M) hX [(.istore_n 3, 0, 0, 0)] (by decide +kernel) rfl trivial ?_
          generalize (if M (M x0 30) (w32 ((M x0 21) + x4)) = zSc x1 x4 then (1 : Int) else 0) = x16 at h ⊢
          have h := zlt h
          refine zG.blk (pc' := 106) (l' := [some (2, x0), some (3, x1), none, some (0, x16), some (0, w32 (x4 + 1))]) (st' := []) (M' := M) hX [(.iinc 4 1, 0, 0, 0)] (by decide +kernel) rfl trivial ?_
          refine zG.goto (tgt := 63) (off := (-43)) hX (by decide +kernel) (by decide) ?_
          exact ih _ _ _ _ _ h
        refine zG.icmp_ne (tgt := 101) (off := 7) hX (by decide +kernel) (by decide) (fun c17 => ?_) (fun c17 => ?_)
        · refine zG.blk (pc' := 102) (l' := [some (2, x0), some (3, x1), none, some (0, x3), some (0, x4)]) (st' := [(0, 0)]) (M' := M) hX [(.iconst 0, 0, 0, 0)] (by decide +kernel) rfl trivial ?_
          (have k := key15; simp only [if_neg c17] at k; exact k)
        · refine zG.blk (pc' := 98) (l' := [some (2, x0), some (3, x1), none, some (0, x3), some (0, x4)]) (st' := [(0, 1)]) (M' := M) hX [(.iconst 1, 0, 0, 0)] (by decide +kernel) rfl trivial ?_
          refine zG.goto (tgt := 102) (off := 4) hX (by decide +kernel) (by decide) ?_
          (have k := key15; simp only [if_pos c17] at k; exact k)
noncomputable def pX12_stood_41 (S : ZS) (M : ZM) (x0 : Int) (x1 : Int) (x2 : Int) : Option (Int × ZM) := if S.1 x0 = 12 then if (0 : Int) ≤ x1 ∧ x1 < (20 : Int) then zlet (if w32 (x2 - (M x0 21)) = zSl x1 then (1 : Int) else 0) fun x7 => pX12_stood_63 S zFU M x0 x1 x7 0 else none else none
set_option maxHeartbeats 2000000 in
set_option maxRecDepth 20000 in
theorem pX12_stood_41_ok {C : ZC} {E : ZE} {S : ZS} {q : (Int × ZM)} (hX : zCx C E 12 cX12_stood 5 (some .boolean) false) (hRm : czR C = { frames := 6, cells := 0, slots := 0, locals := 200 }) {M : ZM} {x0 : Int} {x1 : Int} {x2 : Int} (h : pX12_stood_41 S M x0 x1 x2 = some q) : zG C E 5 S 0 0 (zQ C E 0 0 (some (0, q.1)) S q.2) 41 [some (2, x0), some (3, x1), some (0, x2), none, none] [] M := by
  unfold pX12_stood_41 at h
  obtain ⟨g4, h⟩ := zif h
  refine zG.blk (pc' := 48) (l' := [some (2, x0), some (3, x1), some (0, x2), none, none]) (st' := [(3, x1), (0, w32 (x2 - (M x0 21)))]) (M' := M) hX [(.iload_n 2, 0, 0, 0), (.aload_n 0, 0, 0, 0), (.getfield 174, 12, 21, 0), (.isub, 0, 0, 0), (.aload_n 1, 0, 0, 0)] (by decide +kernel) rfl (And.intro g4 trivial) ?_
  obtain ⟨g5, h⟩ := zif h
  refine zG.slen hX sv_12_184 g5 (by decide +kernel) (by rw [hRm]; exact ⟨Nat.le_of_ble_eq_true rfl, Nat.le_of_ble_eq_true rfl⟩) (by rw [hRm]; exact ⟨Nat.le_of_ble_eq_true rfl, Nat.le_of_ble_eq_true rfl⟩) (Nat.le_of_ble_eq_true rfl) ?_
  show zG C E 5 S 0 0 _ 51 [some (2, x0), some (3, x1), some (0, x2), none, none] [(0, zSl x1), (0, w32 (x2 - (M x0 21)))] M
  have key6 : zG C E 5 S 0 0 (zQ C E 0 0 (some (0, q.1)) S q.2) 59 [some (2, x0), some (3, x1), some (0, x2), none, none] [(0, (if w32 (x2 - (M x0 21)) = zSl x1 then (1 : Int) else 0))] M := by
    refine zG.blk (pc' := 60) (l' := [some (2, x0), some (3, x1), some (0, x2), some (0, (if w32 (x2 - (M x0 21)) = zSl x1 then (1 : Int) else 0)), none]) (st' := []) (M' := M) hX [(.istore_n 3, 0, 0, 0)] (by decide +kernel) rfl trivial ?_
    generalize (if w32 (x2 - (M x0 21)) = zSl x1 then (1 : Int) else 0) = x7 at h ⊢
    have h := zlt h
    refine zG.blk (pc' := 63) (l' := [some (2, x0), some (3, x1), some (0, x2), some (0, x7), some (0, 0)]) (st' := []) (M' := M) hX [(.iconst 0, 0, 0, 0), (.istore 4, 0, 0, 0)] (by decide +kernel) rfl trivial ?_
    exact zG.wk [true, true, false, true, true] (pX12_stood_63_ok hX hRm zFU _ _ _ _ _ h)
  refine zG.icmp_ne (tgt := 58) (off := 7) hX (by decide +kernel) (by decide) (fun c18 => ?_) (fun c18 => ?_)
  · refine zG.blk (pc' := 59) (l' := [some (2, x0), some (3, x1), some (0, x2), none, none]) (st' := [(0, 0)]) (M' := M) hX [(.iconst 0, 0, 0, 0)] (by decide +kernel) rfl trivial ?_
    (have k := key6; simp only [if_neg c18] at k; exact k)
  · refine zG.blk (pc' := 55) (l' := [some (2, x0), some (3, x1), some (0, x2), none, none]) (st' := [(0, 1)]) (M' := M) hX [(.iconst 1, 0, 0, 0)] (by decide +kernel) rfl trivial ?_
    refine zG.goto (tgt := 59) (off := 4) hX (by decide +kernel) (by decide) ?_
    (have k := key6; simp only [if_pos c18] at k; exact k)
noncomputable def pX12_stood_5 (S : ZS) : Nat → ZM → Int → Int → Int → Option (Int × ZM)
  | 0 => fun _ _ _ _ => none
  | n + 1 => fun M x0 x1 x2 => if S.1 x0 = 12 then if M x0 20 ≤ x2 then (pX12_stood_41 S M x0 x1 x2) else (if S.1 (M x0 30) = 102 ∧ (0 : Int) ≤ x2 ∧ x2 < S.2.1 (M x0 30) then if M (M x0 30) x2 < 97 then (pX12_stood_41 S M x0 x1 x2) else (if 122 < M (M x0 30) x2 then (pX12_stood_41 S M x0 x1 x2) else (pX12_stood_5 S n M x0 x1 (w32 (x2 + 1)))) else none) else none
set_option maxHeartbeats 2000000 in
set_option maxRecDepth 20000 in
theorem pX12_stood_5_ok {C : ZC} {E : ZE} {S : ZS} {q : (Int × ZM)} (hX : zCx C E 12 cX12_stood 5 (some .boolean) false) (hRm : czR C = { frames := 6, cells := 0, slots := 0, locals := 200 }) : ∀ (n : Nat) (M : ZM) (x0 : Int) (x1 : Int) (x2 : Int), pX12_stood_5 S n M x0 x1 x2 = some q → zG C E 5 S 0 0 (zQ C E 0 0 (some (0, q.1)) S q.2) 5 [some (2, x0), some (3, x1), some (0, x2), none, none] [] M := by
  intro n
  induction n with
  | zero => intro M x0 x1 x2 h; cases h
  | succ n ih =>
    intro M x0 x1 x2 h
    unfold pX12_stood_5 at h
    obtain ⟨g2, h⟩ := zif h
    refine zG.blk (pc' := 10) (l' := [some (2, x0), some (3, x1), some (0, x2), none, none]) (st' := [(0, M x0 20), (0, x2)]) (M' := M) hX [(.iload_n 2, 0, 0, 0), (.aload_n 0, 0, 0, 0), (.getfield 142, 12, 20, 0)] (by decide +kernel) rfl (And.intro g2 trivial) ?_
    refine zG.icmp_ge (tgt := 41) (off := 31) hX (by decide +kernel) (by decide) (fun c3 => ?_) (fun c3 => ?_)
    · have h := zip c3 h
      exact (pX12_stood_41_ok hX hRm h)
    · have h := zin c3 h
      obtain ⟨g19, h⟩ := zif h
      refine zG.blk (pc' := 21) (l' := [some (2, x0), some (3, x1), some (0, x2), none, none]) (st' := [(0, 97), (0, M (M x0 30) x2)]) (M' := M) hX [(.aload_n 0, 0, 0, 0), (.getfield 71, 12, 30, 2), (.iload_n 2, 0, 0, 0), (.baload, 102, 0, 0), (.bipush 97, 0, 0, 0)] (by decide +kernel) rfl (And.intro g2 (And.intro g19 trivial)) ?_
      refine zG.icmp_lt (tgt := 41) (off := 20) hX (by decide +kernel) (by decide) (fun c20 => ?_) (fun c20 => ?_)
      · have h := zip c20 h
        exact (pX12_stood_41_ok hX hRm h)
      · have h := zin c20 h
        refine zG.blk (pc' := 32) (l' := [some (2, x0), some (3, x1), some (0, x2), none, none]) (st' := [(0, 122), (0, M (M x0 30) x2)]) (M' := M) hX [(.aload_n 0, 0, 0, 0), (.getfield 71, 12, 30, 2), (.iload_n 2, 0, 0, 0), (.baload, 102, 0, 0), (.bipush 122, 0, 0, 0)] (by decide +kernel) rfl (And.intro g2 (And.intro g19 trivial)) ?_
        refine zG.icmp_gt (tgt := 41) (off := 9) hX (by decide +kernel) (by decide) (fun c21 => ?_) (fun c21 => ?_)
        · have h := zip c21 h
          exact (pX12_stood_41_ok hX hRm h)
        · have h := zin c21 h
          refine zG.blk (pc' := 38) (l' := [some (2, x0), some (3, x1), some (0, w32 (x2 + 1)), none, none]) (st' := []) (M' := M) hX [(.iinc 2 1, 0, 0, 0)] (by decide +kernel) rfl trivial ?_
          refine zG.goto (tgt := 5) (off := (-33)) hX (by decide +kernel) (by decide) ?_
          exact ih _ _ _ _ h
noncomputable def pX12_stood (S : ZS) (M : ZM) (a0 : Int) (a1 : Int) : Option (Int × ZM) := if S.1 a0 = 12 then pX12_stood_5 S zFU M a0 a1 (M a0 21) else none
set_option maxHeartbeats 2000000 in
set_option maxRecDepth 20000 in
theorem pX12_stood_go {C : ZC} {E : ZE} {S : ZS} {M : ZM} {a0 a1 : Int} {q : (Int × ZM)} (hX : zCx C E 12 cX12_stood 5 (some .boolean) false) (hRm : czR C = { frames := 6, cells := 0, slots := 0, locals := 200 }) (h : pX12_stood  S M a0 a1 = some q) : zG C E 5 S 0 0 (zQ C E 0 0 (some (0, q.1)) S q.2) 0 [some (2, a0), some (3, a1), none, none, none] [] M := by
  unfold pX12_stood at h
  obtain ⟨g1, h⟩ := zif h
  refine zG.blk (pc' := 5) (l' := [some (2, a0), some (3, a1), some (0, M a0 21), none, none]) (st' := []) (M' := M) hX [(.aload_n 0, 0, 0, 0), (.getfield 174, 12, 21, 0), (.istore_n 2, 0, 0, 0)] (by decide +kernel) rfl (And.intro g1 trivial) ?_
  exact (pX12_stood_5_ok hX hRm zFU _ _ _ _ h)
theorem pX12_stood_ok {l : Launch} {E : ZE} {S : ZS} {M : ZM} {a0 a1 : Int} {q : (Int × ZM)} (h : pX12_stood S M a0 a1 = some q) : zMet l yX12_stood cX12_stood 5 (some .boolean) 6 200 0 0 E S M [(2, a0), (3, a1)] (some (0, q.1)) S q.2 :=
  zMet.of (o := 12) (ini := false) (by decide +kernel) rfl (fun h => by cases h) (Nat.le_of_ble_eq_true rfl) (fun C hX hl hRm => by subst hl; exact pX12_stood_go hX hRm h)
noncomputable def pX12_wordOf (S : ZS) (M : ZM) (a0 : Int) : Option (Int × ZM) := if a0 = 0 then (some (2, M)) else if a0 = 1 then (some (6, M)) else if a0 = 2 then (some (7, M)) else if a0 = 3 then (some (8, M)) else if a0 = 4 then (some (9, M)) else if a0 = 5 then (some (10, M)) else if a0 = 6 then (some (11, M)) else if a0 = 7 then (some (12, M)) else if a0 = 8 then (some (13, M)) else if a0 = 9 then (some (4, M)) else if a0 = 10 then (some (14, M)) else (some (15, M))
set_option maxHeartbeats 2000000 in
set_option maxRecDepth 20000 in
theorem pX12_wordOf_go {C : ZC} {E : ZE} {S : ZS} {M : ZM} {a0 : Int} {q : (Int × ZM)} (hX : zCx C E 12 cX12_wordOf 1 (some (.object "java/lang/String")) false) (hRm : czR C = { frames := 1, cells := 0, slots := 0, locals := 40 }) (h : pX12_wordOf  S M a0 = some q) : zG C E 1 S 0 0 (zQ C E 0 0 (some (3, q.1)) S q.2) 0 [some (0, a0)] [] M := by
  unfold pX12_wordOf at h
  refine zG.blk (pc' := 1) (l' := [some (0, a0)]) (st' := [(0, a0)]) (M' := M) hX [(.iload_n 0, 0, 0, 0)] (by decide +kernel) rfl trivial ?_
  have hs1 : decode cX12_wordOf 1 = .ok (.tableswitch 92 0 10 #[59, 62, 65, 68, 71, 74, 77, 80, 83, 86, 89], 59) := by decide +kernel
  by_cases c2 : a0 = 0
  · have h := zip c2 h
    refine zG.tabIn (tgt := 60) hX hs1 0 c2 (by decide) rfl (by decide) ?_
    refine zG.ldcS (i := 2) hX rfl rfl (by decide +kernel) ?_
    show zG C E 1 S 0 0 _ 62 [some (0, a0)] [(3, 2)] M
    cases h
    exact zG.aret hX (Or.inl ⟨_, rfl⟩) (by decide +kernel) (by decide)
  · have h := zin c2 h
    by_cases c3 : a0 = 1
    · have h := zip c3 h
      refine zG.tabIn (tgt := 63) hX hs1 1 c3 (by decide) rfl (by decide) ?_
      refine zG.ldcS (i := 6) hX rfl rfl (by decide +kernel) ?_
      show zG C E 1 S 0 0 _ 65 [some (0, a0)] [(3, 6)] M
      cases h
      exact zG.aret hX (Or.inl ⟨_, rfl⟩) (by decide +kernel) (by decide)
    · have h := zin c3 h
      by_cases c4 : a0 = 2
      · have h := zip c4 h
        refine zG.tabIn (tgt := 66) hX hs1 2 c4 (by decide) rfl (by decide) ?_
        refine zG.ldcS (i := 7) hX rfl rfl (by decide +kernel) ?_
        show zG C E 1 S 0 0 _ 68 [some (0, a0)] [(3, 7)] M
        cases h
        exact zG.aret hX (Or.inl ⟨_, rfl⟩) (by decide +kernel) (by decide)
      · have h := zin c4 h
        by_cases c5 : a0 = 3
        · have h := zip c5 h
          refine zG.tabIn (tgt := 69) hX hs1 3 c5 (by decide) rfl (by decide) ?_
          refine zG.ldcS (i := 8) hX rfl rfl (by decide +kernel) ?_
          show zG C E 1 S 0 0 _ 71 [some (0, a0)] [(3, 8)] M
          cases h
          exact zG.aret hX (Or.inl ⟨_, rfl⟩) (by decide +kernel) (by decide)
        · have h := zin c5 h
          by_cases c6 : a0 = 4
          · have h := zip c6 h
            refine zG.tabIn (tgt := 72) hX hs1 4 c6 (by decide) rfl (by decide) ?_
            refine zG.ldcS (i := 9) hX rfl rfl (by decide +kernel) ?_
            show zG C E 1 S 0 0 _ 74 [some (0, a0)] [(3, 9)] M
            cases h
            exact zG.aret hX (Or.inl ⟨_, rfl⟩) (by decide +kernel) (by decide)
          · have h := zin c6 h
            by_cases c7 : a0 = 5
            · have h := zip c7 h
              refine zG.tabIn (tgt := 75) hX hs1 5 c7 (by decide) rfl (by decide) ?_
              refine zG.ldcS (i := 10) hX rfl rfl (by decide +kernel) ?_
              show zG C E 1 S 0 0 _ 77 [some (0, a0)] [(3, 10)] M
              cases h
              exact zG.aret hX (Or.inl ⟨_, rfl⟩) (by decide +kernel) (by decide)
            · have h := zin c7 h
              by_cases c8 : a0 = 6
              · have h := zip c8 h
                refine zG.tabIn (tgt := 78) hX hs1 6 c8 (by decide) rfl (by decide) ?_
                refine zG.ldcS (i := 11) hX rfl rfl (by decide +kernel) ?_
                show zG C E 1 S 0 0 _ 80 [some (0, a0)] [(3, 11)] M
                cases h
                exact zG.aret hX (Or.inl ⟨_, rfl⟩) (by decide +kernel) (by decide)
              · have h := zin c8 h
                by_cases c9 : a0 = 7
                · have h := zip c9 h
                  refine zG.tabIn (tgt := 81) hX hs1 7 c9 (by decide) rfl (by decide) ?_
                  refine zG.ldcS (i := 12) hX rfl rfl (by decide +kernel) ?_
                  show zG C E 1 S 0 0 _ 83 [some (0, a0)] [(3, 12)] M
                  cases h
                  exact zG.aret hX (Or.inl ⟨_, rfl⟩) (by decide +kernel) (by decide)
                · have h := zin c9 h
                  by_cases c10 : a0 = 8
                  · have h := zip c10 h
                    refine zG.tabIn (tgt := 84) hX hs1 8 c10 (by decide) rfl (by decide) ?_
                    refine zG.ldcS (i := 13) hX rfl rfl (by decide +kernel) ?_
                    show zG C E 1 S 0 0 _ 86 [some (0, a0)] [(3, 13)] M
                    cases h
                    exact zG.aret hX (Or.inl ⟨_, rfl⟩) (by decide +kernel) (by decide)
                  · have h := zin c10 h
                    by_cases c11 : a0 = 9
                    · have h := zip c11 h
                      refine zG.tabIn (tgt := 87) hX hs1 9 c11 (by decide) rfl (by decide) ?_
                      refine zG.ldcS (i := 4) hX rfl rfl (by decide +kernel) ?_
                      show zG C E 1 S 0 0 _ 89 [some (0, a0)] [(3, 4)] M
                      cases h
                      exact zG.aret hX (Or.inl ⟨_, rfl⟩) (by decide +kernel) (by decide)
                    · have h := zin c11 h
                      by_cases c12 : a0 = 10
                      · have h := zip c12 h
                        refine zG.tabIn (tgt := 90) hX hs1 10 c12 (by decide) rfl (by decide) ?_
                        refine zG.ldcS (i := 14) hX rfl rfl (by decide +kernel) ?_
                        show zG C E 1 S 0 0 _ 92 [some (0, a0)] [(3, 14)] M
                        cases h
                        exact zG.aret hX (Or.inl ⟨_, rfl⟩) (by decide +kernel) (by decide)
                      · have h := zin c12 h
                        refine zG.tabOut (tgt := 93) hX hs1 (by omega) (by decide) ?_
                        refine zG.ldcS (i := 15) hX rfl rfl (by decide +kernel) ?_
                        show zG C E 1 S 0 0 _ 95 [some (0, a0)] [(3, 15)] M
                        cases h
                        exact zG.aret hX (Or.inl ⟨_, rfl⟩) (by decide +kernel) (by decide)
theorem pX12_wordOf_ok {l : Launch} {E : ZE} {S : ZS} {M : ZM} {a0 : Int} {q : (Int × ZM)} (h : pX12_wordOf S M a0 = some q) : zMet l yX12_wordOf cX12_wordOf 1 (some (.object "java/lang/String")) 1 40 0 0 E S M [(0, a0)] (some (3, q.1)) S q.2 :=
  zMet.of (o := 12) (ini := false) (by decide +kernel) rfl (fun h => by cases h) (Nat.le_of_ble_eq_true rfl) (fun C hX hl hRm => by subst hl; exact pX12_wordOf_go hX hRm h)
theorem sv_12_222 : zSV 12 222 yX12_isCounted cX12_isCounted 2 none 1 := ⟨⟨gt_at 1402 (by decide +kernel) rfl, gt_at 1404 (by decide +kernel) rfl, gt_at 55 (by decide +kernel) rfl, gt_at 117 (by decide +kernel) rfl, gt_at 1405 (by decide +kernel) rfl⟩, by decide +kernel, by decide +kernel, by decide +kernel⟩
theorem ss_12_228 : zSS 12 228 yX12_wordOf cX12_wordOf 1 (some (.object "java/lang/String")) 1 := ⟨⟨gt_at 1410 (by decide +kernel) rfl, gt_at 1411 (by decide +kernel) rfl, gt_at 117 (by decide +kernel) rfl, gt_at 1412 (by decide +kernel) rfl⟩, by decide +kernel, by decide +kernel, by decide +kernel⟩
noncomputable def pX12_value_62 (S : ZS) (M : ZM) (x0 : Int) (x1 : Int) (x2 : Int) : Option ZM := if S.1 x0 = 12 then if x2 = M x0 29 then ((pX12_fails S M x0 0 x1).bind fun q19 => some q19) else ((pX12_isCounted S M x0 x1).bind fun q11 => (pX12_wordOf S q11 x2).bind fun q13 => if (0 : Int) ≤ q13.1 ∧ q13.1 < (20 : Int) then zlet (upM q13.2 x0 21 (w32 ((q11 x0 21) + (zSl q13.1)))) fun M16 => (pX12_entry S M16 x0 1 x2).bind fun q17 => some q17 else none) else none
set_option maxHeartbeats 2000000 in
set_option maxRecDepth 20000 in
theorem pX12_value_62_ok {C : ZC} {E : ZE} {S : ZS} {q : ZM} (hX : zCx C E 12 cX12_value 3 none false) (hRm : czR C = { frames := 7, cells := 0, slots := 0, locals := 224 }) {M : ZM} {x0 : Int} {x1 : Int} {x2 : Int} (h : pX12_value_62 S M x0 x1 x2 = some q) : zG C E 3 S 0 0 (zQ C E 0 0 none S q) 62 [some (2, x0), some (0, x1), some (0, x2)] [] M := by
  unfold pX12_value_62 at h
  obtain ⟨g9, h⟩ := zif h
  refine zG.blk (pc' := 67) (l' := [some (2, x0), some (0, x1), some (0, x2)]) (st' := [(0, M x0 29), (0, x2)]) (M' := M) hX [(.iload_n 2, 0, 0, 0), (.aload_n 0, 0, 0, 0), (.getfield 67, 12, 29, 0)] (by decide +kernel) rfl (And.intro g9 trivial) ?_
  refine zG.icmp_ne (tgt := 77) (off := 10) hX (by decide +kernel) (by decide) (fun c10 => ?_) (fun c10 => ?_)
  · have h := zin c10 h
    refine zG.blk (pc' := 79) (l' := [some (2, x0), some (0, x1), some (0, x2)]) (st' := [(0, x1), (2, x0)]) (M' := M) hX [(.aload_n 0, 0, 0, 0), (.iload_n 1, 0, 0, 0)] (by decide +kernel) rfl trivial ?_
    obtain ⟨q11, e12, h⟩ := zbd h
    refine zG.callV (b := x0) (av := [(0, x1)]) (st := []) (ci := 12) hX (pX12_isCounted_ok e12) sv_12_222 rfl ⟨by decide, rfl⟩ g9 (by decide +kernel) (by rw [hRm]; exact ⟨Nat.le_of_ble_eq_true rfl, Nat.le_of_ble_eq_true rfl⟩) (by rw [hRm]; exact ⟨Nat.le_of_ble_eq_true rfl, Nat.le_of_ble_eq_true rfl⟩) (Nat.le_of_ble_eq_true rfl) ?_
    show zG C E 3 S 0 0 _ 82 [some (2, x0), some (0, x1), some (0, x2)] [] q11
    refine zG.blk (pc' := 88) (l' := [some (2, x0), some (0, x1), some (0, x2)]) (st' := [(0, x2), (0, q11 x0 21), (2, x0)]) (M' := q11) hX [(.aload_n 0, 0, 0, 0), (.dup, 0, 0, 0), (.getfield 174, 12, 21, 0), (.iload_n 2, 0, 0, 0)] (by decide +kernel) rfl (And.intro g9 trivial) ?_
    obtain ⟨q13, e14, h⟩ := zbd h
    refine zG.callS (av := [(0, x2)]) (st := [(0, q11 x0 21), (2, x0)]) hX (pX12_wordOf_ok e14) ss_12_228 rfl (by decide +kernel) (by rw [hRm]; exact ⟨Nat.le_of_ble_eq_true rfl, Nat.le_of_ble_eq_true rfl⟩) (by rw [hRm]; exact ⟨Nat.le_of_ble_eq_true rfl, Nat.le_of_ble_eq_true rfl⟩) (Nat.le_of_ble_eq_true rfl) ?_
    show zG C E 3 S 0 0 _ 91 [some (2, x0), some (0, x1), some (0, x2)] [(3, q13.1), (0, q11 x0 21), (2, x0)] q13.2
    obtain ⟨g15, h⟩ := zif h
    refine zG.slen hX sv_12_184 g15 (by decide +kernel) (by rw [hRm]; exact ⟨Nat.le_of_ble_eq_true rfl, Nat.le_of_ble_eq_true rfl⟩) (by rw [hRm]; exact ⟨Nat.le_of_ble_eq_true rfl, Nat.le_of_ble_eq_true rfl⟩) (Nat.le_of_ble_eq_true rfl) ?_
    show zG C E 3 S 0 0 _ 94 [some (2, x0), some (0, x1), some (0, x2)] [(0, zSl q13.1), (0, q11 x0 21), (2, x0)] q13.2
    refine zG.blk (pc' := 98) (l' := [some (2, x0), some (0, x1), some (0, x2)]) (st' := []) (M' := (upM q13.2 x0 21 (w32 ((q11 x0 21) + (zSl q13.1))))) hX [(.iadd, 0, 0, 0), (.putfield 174, 12, 21, 0)] (by decide +kernel) rfl (And.intro g9 trivial) ?_
    generalize upM q13.2 x0 21 (w32 ((q11 x0 21) + (zSl q13.1))) = M16 at h ⊢
    have h := zlt h
    refine zG.blk (pc' := 101) (l' := [some (2, x0), some (0, x1), some (0, x2)]) (st' := [(0, x2), (0, 1), (2, x0)]) (M' := M16) hX [(.aload_n 0, 0, 0, 0), (.iconst 1, 0, 0, 0), (.iload_n 2, 0, 0, 0)] (by decide +kernel) rfl trivial ?_
    obtain ⟨q17, e18, h⟩ := zbd h
    refine zG.callV (b := x0) (av := [(0, 1), (0, x2)]) (st := []) (ci := 12) hX (pX12_entry_ok e18) sv_12_225 rfl ⟨by decide, rfl⟩ g9 (by decide +kernel) (by rw [hRm]; exact ⟨Nat.le_of_ble_eq_true rfl, Nat.le_of_ble_eq_true rfl⟩) (by rw [hRm]; exact ⟨Nat.le_of_ble_eq_true rfl, Nat.le_of_ble_eq_true rfl⟩) (Nat.le_of_ble_eq_true rfl) ?_
    show zG C E 3 S 0 0 _ 104 [some (2, x0), some (0, x1), some (0, x2)] [] q17
    cases h
    exact zG.vret hX (by decide +kernel)
  · have h := zip c10 h
    refine zG.blk (pc' := 73) (l' := [some (2, x0), some (0, x1), some (0, x2)]) (st' := [(0, x1), (0, 0), (2, x0)]) (M' := M) hX [(.aload_n 0, 0, 0, 0), (.iconst 0, 0, 0, 0), (.iload_n 1, 0, 0, 0)] (by decide +kernel) rfl trivial ?_
    obtain ⟨q19, e20, h⟩ := zbd h
    refine zG.callV (b := x0) (av := [(0, 0), (0, x1)]) (st := []) (ci := 12) hX (pX12_fails_ok e20) sv_12_209 rfl ⟨by decide, rfl⟩ g9 (by decide +kernel) (by rw [hRm]; exact ⟨Nat.le_of_ble_eq_true rfl, Nat.le_of_ble_eq_true rfl⟩) (by rw [hRm]; exact ⟨Nat.le_of_ble_eq_true rfl, Nat.le_of_ble_eq_true rfl⟩) (Nat.le_of_ble_eq_true rfl) ?_
    show zG C E 3 S 0 0 _ 76 [some (2, x0), some (0, x1), some (0, x2)] [] q19
    cases h
    exact zG.vret hX (by decide +kernel)
theorem sv_12_196 : zSV 12 196 yX12_stood cX12_stood 5 (some .boolean) 1 := ⟨⟨gt_at 1334 (by decide +kernel) rfl, gt_at 1336 (by decide +kernel) rfl, gt_at 42 (by decide +kernel) rfl, gt_at 117 (by decide +kernel) rfl, gt_at 1337 (by decide +kernel) rfl⟩, by decide +kernel, by decide +kernel, by decide +kernel⟩
noncomputable def pX12_value_37 (S : ZS) : Nat → ZM → Int → Int → Int → Option ZM
  | 0 => fun _ _ _ _ => none
  | n + 1 => fun M x0 x1 x2 => if S.1 x0 = 12 then if M x0 29 ≤ x2 then (pX12_value_62 S M x0 x1 x2) else ((pX12_wordOf S M x2).bind fun q21 => (pX12_stood S q21.2 x0 q21.1).bind fun q23 => if q23.1 = 0 then (pX12_value_37 S n q23.2 x0 x1 (w32 (x2 + 1))) else (pX12_value_62 S q23.2 x0 x1 x2)) else none
set_option maxHeartbeats 2000000 in
set_option maxRecDepth 20000 in
theorem pX12_value_37_ok {C : ZC} {E : ZE} {S : ZS} {q : ZM} (hX : zCx C E 12 cX12_value 3 none false) (hRm : czR C = { frames := 7, cells := 0, slots := 0, locals := 224 }) : ∀ (n : Nat) (M : ZM) (x0 : Int) (x1 : Int) (x2 : Int), pX12_value_37 S n M x0 x1 x2 = some q → zG C E 3 S 0 0 (zQ C E 0 0 none S q) 37 [some (2, x0), some (0, x1), some (0, x2)] [] M := by
  intro n
  induction n with
  | zero => intro M x0 x1 x2 h; cases h
  | succ n ih =>
    intro M x0 x1 x2 h
    unfold pX12_value_37 at h
    obtain ⟨g7, h⟩ := zif h
    refine zG.blk (pc' := 42) (l' := [some (2, x0), some (0, x1), some (0, x2)]) (st' := [(0, M x0 29), (0, x2)]) (M' := M) hX [(.iload_n 2, 0, 0, 0), (.aload_n 0, 0, 0, 0), (.getfield 67, 12, 29, 0)] (by decide +kernel) rfl (And.intro g7 trivial) ?_
    refine zG.icmp_ge (tgt := 62) (off := 20) hX (by decide +kernel) (by decide) (fun c8 => ?_) (fun c8 => ?_)
    · have h := zip c8 h
      exact (pX12_value_62_ok hX hRm h)
    · have h := zin c8 h
      refine zG.blk (pc' := 47) (l' := [some (2, x0), some (0, x1), some (0, x2)]) (st' := [(0, x2), (2, x0)]) (M' := M) hX [(.aload_n 0, 0, 0, 0), (.iload_n 2, 0, 0, 0)] (by decide +kernel) rfl trivial ?_
      obtain ⟨q21, e22, h⟩ := zbd h
      refine zG.callS (av := [(0, x2)]) (st := [(2, x0)]) hX (pX12_wordOf_ok e22) ss_12_228 rfl (by decide +kernel) (by rw [hRm]; exact ⟨Nat.le_of_ble_eq_true rfl, Nat.le_of_ble_eq_true rfl⟩) (by rw [hRm]; exact ⟨Nat.le_of_ble_eq_true rfl, Nat.le_of_ble_eq_true rfl⟩) (Nat.le_of_ble_eq_true rfl) ?_
      show zG C E 3 S 0 0 _ 50 [some (2, x0), some (0, x1), some (0, x2)] [(3, q21.1), (2, x0)] q21.2
      obtain ⟨q23, e24, h⟩ := zbd h
      refine zG.callV (b := x0) (av := [(3, q21.1)]) (st := []) (ci := 12) hX (pX12_stood_ok e24) sv_12_196 rfl ⟨by decide, rfl⟩ g7 (by decide +kernel) (by rw [hRm]; exact ⟨Nat.le_of_ble_eq_true rfl, Nat.le_of_ble_eq_true rfl⟩) (by rw [hRm]; exact ⟨Nat.le_of_ble_eq_true rfl, Nat.le_of_ble_eq_true rfl⟩) (Nat.le_of_ble_eq_true rfl) ?_
      show zG C E 3 S 0 0 _ 53 [some (2, x0), some (0, x1), some (0, x2)] [(0, q23.1)] q23.2
      refine zG.if_ne (tgt := 62) (off := 9) hX (by decide +kernel) (by decide) (fun c25 => ?_) (fun c25 => ?_)
      · have h := zin c25 h
        exact (pX12_value_62_ok hX hRm h)
      · have h := zip c25 h
        refine zG.blk (pc' := 59) (l' := [some (2, x0), some (0, x1), some (0, w32 (x2 + 1))]) (st' := []) (M' := q23.2) hX [(.iinc 2 1, 0, 0, 0)] (by decide +kernel) rfl trivial ?_
        refine zG.goto (tgt := 37) (off := (-22)) hX (by decide +kernel) (by decide) ?_
        exact ih _ _ _ _ h
noncomputable def pX12_value (S : ZS) (M : ZM) (a0 : Int) : Option ZM := if S.1 a0 = 12 then (pX12_blanks S M a0).bind fun q1 => (pX12_isDigit S q1 a0).bind fun q4 => if q4.1 = 0 then (pX12_value_37 S zFU q4.2 a0 (q1 a0 21) 0) else ((pX12_digits S q4.2 a0 99999).bind fun q26 => (pX12_isCounted S q26.2 a0 (q1 a0 21)).bind fun q28 => (pX12_entry S q28 a0 0 q26.1).bind fun q30 => some q30) else none
set_option maxHeartbeats 2000000 in
set_option maxRecDepth 20000 in
theorem pX12_value_go {C : ZC} {E : ZE} {S : ZS} {M : ZM} {a0 : Int} {q : ZM} (hX : zCx C E 12 cX12_value 3 none false) (hRm : czR C = { frames := 7, cells := 0, slots := 0, locals := 224 }) (h : pX12_value  S M a0 = some q) : zG C E 3 S 0 0 (zQ C E 0 0 none S q) 0 [some (2, a0), none, none] [] M := by
  unfold pX12_value at h
  refine zG.blk (pc' := 1) (l' := [some (2, a0), none, none]) (st' := [(2, a0)]) (M' := M) hX [(.aload_n 0, 0, 0, 0)] (by decide +kernel) rfl trivial ?_
  obtain ⟨g3, h⟩ := zif h
  obtain ⟨q1, e2, h⟩ := zbd h
  refine zG.callV (b := a0) (av := []) (st := []) (ci := 12) hX (pX12_blanks_ok e2) sv_12_193 rfl ⟨by decide, rfl⟩ g3 (by decide +kernel) (by rw [hRm]; exact ⟨Nat.le_of_ble_eq_true rfl, Nat.le_of_ble_eq_true rfl⟩) (by rw [hRm]; exact ⟨Nat.le_of_ble_eq_true rfl, Nat.le_of_ble_eq_true rfl⟩) (Nat.le_of_ble_eq_true rfl) ?_
  show zG C E 3 S 0 0 _ 4 [some (2, a0), none, none] [] q1
  refine zG.blk (pc' := 10) (l' := [some (2, a0), some (0, q1 a0 21), none]) (st' := [(2, a0)]) (M' := q1) hX [(.aload_n 0, 0, 0, 0), (.getfield 174, 12, 21, 0), (.istore_n 1, 0, 0, 0), (.aload_n 0, 0, 0, 0)] (by decide +kernel) rfl (And.intro g3 trivial) ?_
  obtain ⟨q4, e5, h⟩ := zbd h
  refine zG.callV (b := a0) (av := []) (st := []) (ci := 12) hX (pX12_isDigit_ok e5) sv_12_213 rfl ⟨by decide, rfl⟩ g3 (by decide +kernel) (by rw [hRm]; exact ⟨Nat.le_of_ble_eq_true rfl, Nat.le_of_ble_eq_true rfl⟩) (by rw [hRm]; exact ⟨Nat.le_of_ble_eq_true rfl, Nat.le_of_ble_eq_true rfl⟩) (Nat.le_of_ble_eq_true rfl) ?_
  show zG C E 3 S 0 0 _ 13 [some (2, a0), some (0, q1 a0 21), none] [(0, q4.1)] q4.2
  refine zG.if_eq (tgt := 35) (off := 22) hX (by decide +kernel) (by decide) (fun c6 => ?_) (fun c6 => ?_)
  · have h := zip c6 h
    refine zG.blk (pc' := 37) (l' := [some (2, a0), some (0, q1 a0 21), some (0, 0)]) (st' := []) (M' := q4.2) hX [(.iconst 0, 0, 0, 0), (.istore_n 2, 0, 0, 0)] (by decide +kernel) rfl trivial ?_
    exact (pX12_value_37_ok hX hRm zFU _ _ _ _ h)
  · have h := zin c6 h
    refine zG.blk (pc' := 19) (l' := [some (2, a0), some (0, q1 a0 21), none]) (st' := [(0, 99999), (2, a0)]) (M' := q4.2) hX [(.aload_n 0, 0, 0, 0), (.ldc 217, 99999, 0, 0)] (by decide +kernel) rfl trivial ?_
    obtain ⟨q26, e27, h⟩ := zbd h
    refine zG.callV (b := a0) (av := [(0, 99999)]) (st := []) (ci := 12) hX (pX12_digits_ok e27) sv_12_218 rfl ⟨by decide, rfl⟩ g3 (by decide +kernel) (by rw [hRm]; exact ⟨Nat.le_of_ble_eq_true rfl, Nat.le_of_ble_eq_true rfl⟩) (by rw [hRm]; exact ⟨Nat.le_of_ble_eq_true rfl, Nat.le_of_ble_eq_true rfl⟩) (Nat.le_of_ble_eq_true rfl) ?_
    show zG C E 3 S 0 0 _ 22 [some (2, a0), some (0, q1 a0 21), none] [(0, q26.1)] q26.2
    refine zG.blk (pc' := 25) (l' := [some (2, a0), some (0, q1 a0 21), some (0, q26.1)]) (st' := [(0, q1 a0 21), (2, a0)]) (M' := q26.2) hX [(.istore_n 2, 0, 0, 0), (.aload_n 0, 0, 0, 0), (.iload_n 1, 0, 0, 0)] (by decide +kernel) rfl trivial ?_
    obtain ⟨q28, e29, h⟩ := zbd h
    refine zG.callV (b := a0) (av := [(0, q1 a0 21)]) (st := []) (ci := 12) hX (pX12_isCounted_ok e29) sv_12_222 rfl ⟨by decide, rfl⟩ g3 (by decide +kernel) (by rw [hRm]; exact ⟨Nat.le_of_ble_eq_true rfl, Nat.le_of_ble_eq_true rfl⟩) (by rw [hRm]; exact ⟨Nat.le_of_ble_eq_true rfl, Nat.le_of_ble_eq_true rfl⟩) (Nat.le_of_ble_eq_true rfl) ?_
    show zG C E 3 S 0 0 _ 28 [some (2, a0), some (0, q1 a0 21), some (0, q26.1)] [] q28
    refine zG.blk (pc' := 31) (l' := [some (2, a0), some (0, q1 a0 21), some (0, q26.1)]) (st' := [(0, q26.1), (0, 0), (2, a0)]) (M' := q28) hX [(.aload_n 0, 0, 0, 0), (.iconst 0, 0, 0, 0), (.iload_n 2, 0, 0, 0)] (by decide +kernel) rfl trivial ?_
    obtain ⟨q30, e31, h⟩ := zbd h
    refine zG.callV (b := a0) (av := [(0, 0), (0, q26.1)]) (st := []) (ci := 12) hX (pX12_entry_ok e31) sv_12_225 rfl ⟨by decide, rfl⟩ g3 (by decide +kernel) (by rw [hRm]; exact ⟨Nat.le_of_ble_eq_true rfl, Nat.le_of_ble_eq_true rfl⟩) (by rw [hRm]; exact ⟨Nat.le_of_ble_eq_true rfl, Nat.le_of_ble_eq_true rfl⟩) (Nat.le_of_ble_eq_true rfl) ?_
    show zG C E 3 S 0 0 _ 34 [some (2, a0), some (0, q1 a0 21), some (0, q26.1)] [] q30
    cases h
    exact zG.vret hX (by decide +kernel)
theorem pX12_value_ok {l : Launch} {E : ZE} {S : ZS} {M : ZM} {a0 : Int} {q : ZM} (h : pX12_value S M a0 = some q) : zMet l yX12_value cX12_value 3 none 7 224 0 0 E S M [(2, a0)] (none) S q :=
  zMet.of (o := 12) (ini := false) (by decide +kernel) rfl (fun h => by cases h) (Nat.le_of_ble_eq_true rfl) (fun C hX hl hRm => by subst hl; exact pX12_value_go hX hRm h)
theorem sv_12_232 : zSV 12 232 yX12_value cX12_value 3 none 0 := ⟨⟨gt_at 1398 (by decide +kernel) rfl, gt_at 1400 (by decide +kernel) rfl, gt_at 54 (by decide +kernel) rfl, gt_at 117 (by decide +kernel) rfl, gt_at 1401 (by decide +kernel) rfl⟩, by decide +kernel, by decide +kernel, by decide +kernel⟩
noncomputable def pX12_term_100 (S : ZS) (M : ZM) : Option ZM := some M
set_option maxHeartbeats 2000000 in
set_option maxRecDepth 20000 in
theorem pX12_term_100_ok {C : ZC} {E : ZE} {S : ZS} {q : ZM} (hX : zCx C E 12 cX12_term 2 none false) (hRm : czR C = { frames := 8, cells := 0, slots := 0, locals := 246 }) {M : ZM} (h : pX12_term_100 S M = some q) : zG C E 2 S 0 0 (zQ C E 0 0 none S q) 100 [none, none] [] M := by
  unfold pX12_term_100 at h
  cases h
  exact zG.vret hX (by decide +kernel)
noncomputable def pX12_term_72 (S : ZS) (k8 : ZM → Int → Option ZM) (M : ZM) (x0 : Int) (y0 : Int) : Option ZM := if S.1 x0 = 12 then zlet (upM M x0 21 (w32 ((M x0 21) + 1))) fun M19 => (pX12_value S M19 x0).bind fun q20 => (pX12_entry S q20 x0 y0 0).bind fun q22 => (pX12_blanks S q22 x0).bind fun q24 => k8 q24 x0 else none
set_option maxHeartbeats 2000000 in
set_option maxRecDepth 20000 in
theorem pX12_term_72_ok {C : ZC} {E : ZE} {S : ZS} {k8 : ZM → Int → Option ZM} {q : ZM} (hX : zCx C E 12 cX12_term 2 none false) (hRm : czR C = { frames := 8, cells := 0, slots := 0, locals := 246 }) (hk8 : ∀ M x0, k8 M x0 = some q → zG C E 2 S 0 0 (zQ C E 0 0 none S q) 8 [some (2, x0), none] [] M) {M : ZM} {x0 : Int} {y0 : Int} (h : pX12_term_72 S k8 M x0 y0 = some q) : zG C E 2 S 0 0 (zQ C E 0 0 none S q) 72 [some (2, x0), none] [(0, y0)] M := by
  unfold pX12_term_72 at h
  obtain ⟨g18, h⟩ := zif h
  refine zG.blk (pc' := 83) (l' := [some (2, x0), some (0, y0)]) (st' := []) (M' := (upM M x0 21 (w32 ((M x0 21) + 1)))) hX [(.istore_n 1, 0, 0, 0), (.aload_n 0, 0, 0, 0), (.dup, 0, 0, 0), (.getfield 174, 12, 21, 0), (.iconst 1, 0, 0, 0), (.iadd, 0, 0, 0), (.putfield 174, 12, 21, 0)] (by decide +kernel) rfl (And.intro g18 (And.intro g18 trivial)) ?_
  generalize upM M x0 21 (w32 ((M x0 21) + 1)) = M19 at h ⊢
  have h := zlt h
  refine zG.blk (pc' := 84) (l' := [some (2, x0), some (0, y0)]) (st' := [(2, x0)]) (M' := M19) hX [(.aload_n 0, 0, 0, 0)] (by decide +kernel) rfl trivial ?_
  obtain ⟨q20, e21, h⟩ := zbd h
  refine zG.callV (b := x0) (av := []) (st := []) (ci := 12) hX (pX12_value_ok e21) sv_12_232 rfl ⟨by decide, rfl⟩ g18 (by decide +kernel) (by rw [hRm]; exact ⟨Nat.le_of_ble_eq_true rfl, Nat.le_of_ble_eq_true rfl⟩) (by rw [hRm]; exact ⟨Nat.le_of_ble_eq_true rfl, Nat.le_of_ble_eq_true rfl⟩) (Nat.le_of_ble_eq_true rfl) ?_
  show zG C E 2 S 0 0 _ 87 [some (2, x0), some (0, y0)] [] q20
  refine zG.blk (pc' := 90) (l' := [some (2, x0), some (0, y0)]) (st' := [(0, 0), (0, y0), (2, x0)]) (M' := q20) hX [(.aload_n 0, 0, 0, 0), (.iload_n 1, 0, 0, 0), (.iconst 0, 0, 0, 0)] (by decide +kernel) rfl trivial ?_
  obtain ⟨q22, e23, h⟩ := zbd h
  refine zG.callV (b := x0) (av := [(0, y0), (0, 0)]) (st := []) (ci := 12) hX (pX12_entry_ok e23) sv_12_225 rfl ⟨by decide, rfl⟩ g18 (by decide +kernel) (by rw [hRm]; exact ⟨Nat.le_of_ble_eq_true rfl, Nat.le_of_ble_eq_true rfl⟩) (by rw [hRm]; exact ⟨Nat.le_of_ble_eq_true rfl, Nat.le_of_ble_eq_true rfl⟩) (Nat.le_of_ble_eq_true rfl) ?_
  show zG C E 2 S 0 0 _ 93 [some (2, x0), some (0, y0)] [] q22
  refine zG.blk (pc' := 94) (l' := [some (2, x0), some (0, y0)]) (st' := [(2, x0)]) (M' := q22) hX [(.aload_n 0, 0, 0, 0)] (by decide +kernel) rfl trivial ?_
  obtain ⟨q24, e25, h⟩ := zbd h
  refine zG.callV (b := x0) (av := []) (st := []) (ci := 12) hX (pX12_blanks_ok e25) sv_12_193 rfl ⟨by decide, rfl⟩ g18 (by decide +kernel) (by rw [hRm]; exact ⟨Nat.le_of_ble_eq_true rfl, Nat.le_of_ble_eq_true rfl⟩) (by rw [hRm]; exact ⟨Nat.le_of_ble_eq_true rfl, Nat.le_of_ble_eq_true rfl⟩) (Nat.le_of_ble_eq_true rfl) ?_
  show zG C E 2 S 0 0 _ 97 [some (2, x0), some (0, y0)] [] q24
  refine zG.goto (tgt := 8) (off := (-89)) hX (by decide +kernel) (by decide) ?_
  exact zG.wk [true, false] (hk8 _ _ h)
noncomputable def pX12_term_42 (S : ZS) (k8 : ZM → Int → Option ZM) (M : ZM) (x0 : Int) : Option ZM := if S.1 x0 = 12 then (pX12_byteHere S M x0).bind fun q11 => if q11.1 = 42 then (pX12_term_72 S k8 q11.2 x0 13) else ((pX12_byteHere S q11.2 x0).bind fun q15 => if q15.1 = 47 then (pX12_term_72 S k8 q15.2 x0 14) else (pX12_term_72 S k8 q15.2 x0 15)) else none
set_option maxHeartbeats 2000000 in
set_option maxRecDepth 20000 in
theorem pX12_term_42_ok {C : ZC} {E : ZE} {S : ZS} {k8 : ZM → Int → Option ZM} {q : ZM} (hX : zCx C E 12 cX12_term 2 none false) (hRm : czR C = { frames := 8, cells := 0, slots := 0, locals := 246 }) (hk8 : ∀ M x0, k8 M x0 = some q → zG C E 2 S 0 0 (zQ C E 0 0 none S q) 8 [some (2, x0), none] [] M) {M : ZM} {x0 : Int} (h : pX12_term_42 S k8 M x0 = some q) : zG C E 2 S 0 0 (zQ C E 0 0 none S q) 42 [some (2, x0), none] [] M := by
  unfold pX12_term_42 at h
  refine zG.blk (pc' := 43) (l' := [some (2, x0), none]) (st' := [(2, x0)]) (M' := M) hX [(.aload_n 0, 0, 0, 0)] (by decide +kernel) rfl trivial ?_
  obtain ⟨g13, h⟩ := zif h
  obtain ⟨q11, e12, h⟩ := zbd h
  refine zG.callV (b := x0) (av := []) (st := []) (ci := 12) hX (pX12_byteHere_ok e12) sv_12_177 rfl ⟨by decide, rfl⟩ g13 (by decide +kernel) (by rw [hRm]; exact ⟨Nat.le_of_ble_eq_true rfl, Nat.le_of_ble_eq_true rfl⟩) (by rw [hRm]; exact ⟨Nat.le_of_ble_eq_true rfl, Nat.le_of_ble_eq_true rfl⟩) (Nat.le_of_ble_eq_true rfl) ?_
  show zG C E 2 S 0 0 _ 46 [some (2, x0), none] [(0, q11.1)] q11.2
  refine zG.blk (pc' := 48) (l' := [some (2, x0), none]) (st' := [(0, 42), (0, q11.1)]) (M' := q11.2) hX [(.bipush 42, 0, 0, 0)] (by decide +kernel) rfl trivial ?_
  refine zG.icmp_ne (tgt := 56) (off := 8) hX (by decide +kernel) (by decide) (fun c14 => ?_) (fun c14 => ?_)
  · have h := zin c14 h
    refine zG.blk (pc' := 57) (l' := [some (2, x0), none]) (st' := [(2, x0)]) (M' := q11.2) hX [(.aload_n 0, 0, 0, 0)] (by decide +kernel) rfl trivial ?_
    obtain ⟨q15, e16, h⟩ := zbd h
    refine zG.callV (b := x0) (av := []) (st := []) (ci := 12) hX (pX12_byteHere_ok e16) sv_12_177 rfl ⟨by decide, rfl⟩ g13 (by decide +kernel) (by rw [hRm]; exact ⟨Nat.le_of_ble_eq_true rfl, Nat.le_of_ble_eq_true rfl⟩) (by rw [hRm]; exact ⟨Nat.le_of_ble_eq_true rfl, Nat.le_of_ble_eq_true rfl⟩) (Nat.le_of_ble_eq_true rfl) ?_
    show zG C E 2 S 0 0 _ 60 [some (2, x0), none] [(0, q15.1)] q15.2
    refine zG.blk (pc' := 62) (l' := [some (2, x0), none]) (st' := [(0, 47), (0, q15.1)]) (M' := q15.2) hX [(.bipush 47, 0, 0, 0)] (by decide +kernel) rfl trivial ?_
    refine zG.icmp_ne (tgt := 70) (off := 8) hX (by decide +kernel) (by decide) (fun c17 => ?_) (fun c17 => ?_)
    · have h := zin c17 h
      refine zG.blk (pc' := 72) (l' := [some (2, x0), none]) (st' := [(0, 15)]) (M' := q15.2) hX [(.bipush 15, 0, 0, 0)] (by decide +kernel) rfl trivial ?_
      exact (pX12_term_72_ok hX hRm hk8 h)
    · have h := zip c17 h
      refine zG.blk (pc' := 67) (l' := [some (2, x0), none]) (st' := [(0, 14)]) (M' := q15.2) hX [(.bipush 14, 0, 0, 0)] (by decide +kernel) rfl trivial ?_
      refine zG.goto (tgt := 72) (off := 5) hX (by decide +kernel) (by decide) ?_
      exact (pX12_term_72_ok hX hRm hk8 h)
  · have h := zip c14 h
    refine zG.blk (pc' := 53) (l' := [some (2, x0), none]) (st' := [(0, 13)]) (M' := q11.2) hX [(.bipush 13, 0, 0, 0)] (by decide +kernel) rfl trivial ?_
    refine zG.goto (tgt := 72) (off := 19) hX (by decide +kernel) (by decide) ?_
    exact (pX12_term_72_ok hX hRm hk8 h)
noncomputable def pX12_term_8 (S : ZS) : Nat → ZM → Int → Option ZM
  | 0 => fun _ _ => none
  | n + 1 => fun M x0 => if S.1 x0 = 12 then if M x0 22 = 0 then ((pX12_byteHere S M x0).bind fun q8 => if q8.1 = 42 then (pX12_term_42 S (pX12_term_8 S n) q8.2 x0) else ((pX12_byteHere S q8.2 x0).bind fun q26 => if q26.1 = 47 then (pX12_term_42 S (pX12_term_8 S n) q26.2 x0) else ((pX12_byteHere S q26.2 x0).bind fun q29 => if q29.1 = 37 then (pX12_term_42 S (pX12_term_8 S n) q29.2 x0) else (pX12_term_100 S q29.2)))) else (pX12_term_100 S M) else none
set_option maxHeartbeats 2000000 in
set_option maxRecDepth 20000 in
theorem pX12_term_8_ok {C : ZC} {E : ZE} {S : ZS} {q : ZM} (hX : zCx C E 12 cX12_term 2 none false) (hRm : czR C = { frames := 8, cells := 0, slots := 0, locals := 246 }) : ∀ (n : Nat) (M : ZM) (x0 : Int), pX12_term_8 S n M x0 = some q → zG C E 2 S 0 0 (zQ C E 0 0 none S q) 8 [some (2, x0), none] [] M := by
  intro n
  induction n with
  | zero => intro M x0 h; cases h
  | succ n ih =>
    intro M x0 h
    unfold pX12_term_8 at h
    obtain ⟨g6, h⟩ := zif h
    refine zG.blk (pc' := 12) (l' := [some (2, x0), none]) (st' := [(0, M x0 22)]) (M' := M) hX [(.aload_n 0, 0, 0, 0), (.getfield 171, 12, 22, 0)] (by decide +kernel) rfl (And.intro g6 trivial) ?_
    refine zG.if_ne (tgt := 100) (off := 88) hX (by decide +kernel) (by decide) (fun c7 => ?_) (fun c7 => ?_)
    · have h := zin c7 h
      exact zG.wk [false, true] (pX12_term_100_ok hX hRm h)
    · have h := zip c7 h
      refine zG.blk (pc' := 16) (l' := [some (2, x0), none]) (st' := [(2, x0)]) (M' := M) hX [(.aload_n 0, 0, 0, 0)] (by decide +kernel) rfl trivial ?_
      obtain ⟨q8, e9, h⟩ := zbd h
      refine zG.callV (b := x0) (av := []) (st := []) (ci := 12) hX (pX12_byteHere_ok e9) sv_12_177 rfl ⟨by decide, rfl⟩ g6 (by decide +kernel) (by rw [hRm]; exact ⟨Nat.le_of_ble_eq_true rfl, Nat.le_of_ble_eq_true rfl⟩) (by rw [hRm]; exact ⟨Nat.le_of_ble_eq_true rfl, Nat.le_of_ble_eq_true rfl⟩) (Nat.le_of_ble_eq_true rfl) ?_
      show zG C E 2 S 0 0 _ 19 [some (2, x0), none] [(0, q8.1)] q8.2
      refine zG.blk (pc' := 21) (l' := [some (2, x0), none]) (st' := [(0, 42), (0, q8.1)]) (M' := q8.2) hX [(.bipush 42, 0, 0, 0)] (by decide +kernel) rfl trivial ?_
      refine zG.icmp_eq (tgt := 42) (off := 21) hX (by decide +kernel) (by decide) (fun c10 => ?_) (fun c10 => ?_)
      · have h := zip c10 h
        exact (pX12_term_42_ok hX hRm ih h)
      · have h := zin c10 h
        refine zG.blk (pc' := 25) (l' := [some (2, x0), none]) (st' := [(2, x0)]) (M' := q8.2) hX [(.aload_n 0, 0, 0, 0)] (by decide +kernel) rfl trivial ?_
        obtain ⟨q26, e27, h⟩ := zbd h
        refine zG.callV (b := x0) (av := []) (st := []) (ci := 12) hX (pX12_byteHere_ok e27) sv_12_177 rfl ⟨by decide, rfl⟩ g6 (by decide +kernel) (by rw [hRm]; exact ⟨Nat.le_of_ble_eq_true rfl, Nat.le_of_ble_eq_true rfl⟩) (by rw [hRm]; exact ⟨Nat.le_of_ble_eq_true rfl, Nat.le_of_ble_eq_true rfl⟩) (Nat.le_of_ble_eq_true rfl) ?_
        show zG C E 2 S 0 0 _ 28 [some (2, x0), none] [(0, q26.1)] q26.2
        refine zG.blk (pc' := 30) (l' := [some (2, x0), none]) (st' := [(0, 47), (0, q26.1)]) (M' := q26.2) hX [(.bipush 47, 0, 0, 0)] (by decide +kernel) rfl trivial ?_
        refine zG.icmp_eq (tgt := 42) (off := 12) hX (by decide +kernel) (by decide) (fun c28 => ?_) (fun c28 => ?_)
        · have h := zip c28 h
          exact (pX12_term_42_ok hX hRm ih h)
        · have h := zin c28 h
          refine zG.blk (pc' := 34) (l' := [some (2, x0), none]) (st' := [(2, x0)]) (M' := q26.2) hX [(.aload_n 0, 0, 0, 0)] (by decide +kernel) rfl trivial ?_
          obtain ⟨q29, e30, h⟩ := zbd h
          refine zG.callV (b := x0) (av := []) (st := []) (ci := 12) hX (pX12_byteHere_ok e30) sv_12_177 rfl ⟨by decide, rfl⟩ g6 (by decide +kernel) (by rw [hRm]; exact ⟨Nat.le_of_ble_eq_true rfl, Nat.le_of_ble_eq_true rfl⟩) (by rw [hRm]; exact ⟨Nat.le_of_ble_eq_true rfl, Nat.le_of_ble_eq_true rfl⟩) (Nat.le_of_ble_eq_true rfl) ?_
          show zG C E 2 S 0 0 _ 37 [some (2, x0), none] [(0, q29.1)] q29.2
          refine zG.blk (pc' := 39) (l' := [some (2, x0), none]) (st' := [(0, 37), (0, q29.1)]) (M' := q29.2) hX [(.bipush 37, 0, 0, 0)] (by decide +kernel) rfl trivial ?_
          refine zG.icmp_ne (tgt := 100) (off := 61) hX (by decide +kernel) (by decide) (fun c31 => ?_) (fun c31 => ?_)
          · have h := zin c31 h
            exact zG.wk [false, true] (pX12_term_100_ok hX hRm h)
          · have h := zip c31 h
            exact (pX12_term_42_ok hX hRm ih h)
noncomputable def pX12_term (S : ZS) (M : ZM) (a0 : Int) : Option ZM := if S.1 a0 = 12 then (pX12_value S M a0).bind fun q1 => (pX12_blanks S q1 a0).bind fun q4 => pX12_term_8 S zFU q4 a0 else none
set_option maxHeartbeats 2000000 in
set_option maxRecDepth 20000 in
theorem pX12_term_go {C : ZC} {E : ZE} {S : ZS} {M : ZM} {a0 : Int} {q : ZM} (hX : zCx C E 12 cX12_term 2 none false) (hRm : czR C = { frames := 8, cells := 0, slots := 0, locals := 246 }) (h : pX12_term  S M a0 = some q) : zG C E 2 S 0 0 (zQ C E 0 0 none S q) 0 [some (2, a0), none] [] M := by
  unfold pX12_term at h
  refine zG.blk (pc' := 1) (l' := [some (2, a0), none]) (st' := [(2, a0)]) (M' := M) hX [(.aload_n 0, 0, 0, 0)] (by decide +kernel) rfl trivial ?_
  obtain ⟨g3, h⟩ := zif h
  obtain ⟨q1, e2, h⟩ := zbd h
  refine zG.callV (b := a0) (av := []) (st := []) (ci := 12) hX (pX12_value_ok e2) sv_12_232 rfl ⟨by decide, rfl⟩ g3 (by decide +kernel) (by rw [hRm]; exact ⟨Nat.le_of_ble_eq_true rfl, Nat.le_of_ble_eq_true rfl⟩) (by rw [hRm]; exact ⟨Nat.le_of_ble_eq_true rfl, Nat.le_of_ble_eq_true rfl⟩) (Nat.le_of_ble_eq_true rfl) ?_
  show zG C E 2 S 0 0 _ 4 [some (2, a0), none] [] q1
  refine zG.blk (pc' := 5) (l' := [some (2, a0), none]) (st' := [(2, a0)]) (M' := q1) hX [(.aload_n 0, 0, 0, 0)] (by decide +kernel) rfl trivial ?_
  obtain ⟨q4, e5, h⟩ := zbd h
  refine zG.callV (b := a0) (av := []) (st := []) (ci := 12) hX (pX12_blanks_ok e5) sv_12_193 rfl ⟨by decide, rfl⟩ g3 (by decide +kernel) (by rw [hRm]; exact ⟨Nat.le_of_ble_eq_true rfl, Nat.le_of_ble_eq_true rfl⟩) (by rw [hRm]; exact ⟨Nat.le_of_ble_eq_true rfl, Nat.le_of_ble_eq_true rfl⟩) (Nat.le_of_ble_eq_true rfl) ?_
  show zG C E 2 S 0 0 _ 8 [some (2, a0), none] [] q4
  exact (pX12_term_8_ok hX hRm zFU _ _ h)
theorem pX12_term_ok {l : Launch} {E : ZE} {S : ZS} {M : ZM} {a0 : Int} {q : ZM} (h : pX12_term S M a0 = some q) : zMet l yX12_term cX12_term 2 none 8 246 0 0 E S M [(2, a0)] (none) S q :=
  zMet.of (o := 12) (ini := false) (by decide +kernel) rfl (fun h => by cases h) (Nat.le_of_ble_eq_true rfl) (fun C hX hl hRm => by subst hl; exact pX12_term_go hX hRm h)
theorem sv_12_235 : zSV 12 235 yX12_term cX12_term 2 none 0 := ⟨⟨gt_at 1394 (by decide +kernel) rfl, gt_at 1396 (by decide +kernel) rfl, gt_at 53 (by decide +kernel) rfl, gt_at 117 (by decide +kernel) rfl, gt_at 1397 (by decide +kernel) rfl⟩, by decide +kernel, by decide +kernel, by decide +kernel⟩
noncomputable def pX12_sum_67 (S : ZS) (M : ZM) : Option ZM := some M
set_option maxHeartbeats 2000000 in
set_option maxRecDepth 20000 in
theorem pX12_sum_67_ok {C : ZC} {E : ZE} {S : ZS} {q : ZM} (hX : zCx C E 12 cX12_sum 2 none false) (hRm : czR C = { frames := 9, cells := 0, slots := 0, locals := 267 }) {M : ZM} (h : pX12_sum_67 S M = some q) : zG C E 2 S 0 0 (zQ C E 0 0 none S q) 67 [none, none] [] M := by
  unfold pX12_sum_67 at h
  cases h
  exact zG.vret hX (by decide +kernel)
noncomputable def pX12_sum_43 (S : ZS) (k4 : ZM → Int → Option ZM) (M : ZM) (x0 : Int) (y0 : Int) : Option ZM := if S.1 x0 = 12 then zlet (upM M x0 21 (w32 ((M x0 21) + 1))) fun M14 => (pX12_term S M14 x0).bind fun q15 => (pX12_entry S q15 x0 y0 0).bind fun q17 => k4 q17 x0 else none
set_option maxHeartbeats 2000000 in
set_option maxRecDepth 20000 in
theorem pX12_sum_43_ok {C : ZC} {E : ZE} {S : ZS} {k4 : ZM → Int → Option ZM} {q : ZM} (hX : zCx C E 12 cX12_sum 2 none false) (hRm : czR C = { frames := 9, cells := 0, slots := 0, locals := 267 }) (hk4 : ∀ M x0, k4 M x0 = some q → zG C E 2 S 0 0 (zQ C E 0 0 none S q) 4 [some (2, x0), none] [] M) {M : ZM} {x0 : Int} {y0 : Int} (h : pX12_sum_43 S k4 M x0 y0 = some q) : zG C E 2 S 0 0 (zQ C E 0 0 none S q) 43 [some (2, x0), none] [(0, y0)] M := by
  unfold pX12_sum_43 at h
  obtain ⟨g13, h⟩ := zif h
  refine zG.blk (pc' := 54) (l' := [some (2, x0), some (0, y0)]) (st' := []) (M' := (upM M x0 21 (w32 ((M x0 21) + 1)))) hX [(.istore_n 1, 0, 0, 0), (.aload_n 0, 0, 0, 0), (.dup, 0, 0, 0), (.getfield 174, 12, 21, 0), (.iconst 1, 0, 0, 0), (.iadd, 0, 0, 0), (.putfield 174, 12, 21, 0)] (by decide +kernel) rfl (And.intro g13 (And.intro g13 trivial)) ?_
  generalize upM M x0 21 (w32 ((M x0 21) + 1)) = M14 at h ⊢
  have h := zlt h
  refine zG.blk (pc' := 55) (l' := [some (2, x0), some (0, y0)]) (st' := [(2, x0)]) (M' := M14) hX [(.aload_n 0, 0, 0, 0)] (by decide +kernel) rfl trivial ?_
  obtain ⟨q15, e16, h⟩ := zbd h
  refine zG.callV (b := x0) (av := []) (st := []) (ci := 12) hX (pX12_term_ok e16) sv_12_235 rfl ⟨by decide, rfl⟩ g13 (by decide +kernel) (by rw [hRm]; exact ⟨Nat.le_of_ble_eq_true rfl, Nat.le_of_ble_eq_true rfl⟩) (by rw [hRm]; exact ⟨Nat.le_of_ble_eq_true rfl, Nat.le_of_ble_eq_true rfl⟩) (Nat.le_of_ble_eq_true rfl) ?_
  show zG C E 2 S 0 0 _ 58 [some (2, x0), some (0, y0)] [] q15
  refine zG.blk (pc' := 61) (l' := [some (2, x0), some (0, y0)]) (st' := [(0, 0), (0, y0), (2, x0)]) (M' := q15) hX [(.aload_n 0, 0, 0, 0), (.iload_n 1, 0, 0, 0), (.iconst 0, 0, 0, 0)] (by decide +kernel) rfl trivial ?_
  obtain ⟨q17, e18, h⟩ := zbd h
  refine zG.callV (b := x0) (av := [(0, y0), (0, 0)]) (st := []) (ci := 12) hX (pX12_entry_ok e18) sv_12_225 rfl ⟨by decide, rfl⟩ g13 (by decide +kernel) (by rw [hRm]; exact ⟨Nat.le_of_ble_eq_true rfl, Nat.le_of_ble_eq_true rfl⟩) (by rw [hRm]; exact ⟨Nat.le_of_ble_eq_true rfl, Nat.le_of_ble_eq_true rfl⟩) (Nat.le_of_ble_eq_true rfl) ?_
  show zG C E 2 S 0 0 _ 64 [some (2, x0), some (0, y0)] [] q17
  refine zG.goto (tgt := 4) (off := (-60)) hX (by decide +kernel) (by decide) ?_
  exact zG.wk [true, false] (hk4 _ _ h)
noncomputable def pX12_sum_29 (S : ZS) (k4 : ZM → Int → Option ZM) (M : ZM) (x0 : Int) : Option ZM := if S.1 x0 = 12 then (pX12_byteHere S M x0).bind fun q9 => pX12_sum_43 S k4 q9.2 x0 (if q9.1 = 43 then (2 : Int) else 3) else none
set_option maxHeartbeats 2000000 in
set_option maxRecDepth 20000 in
theorem pX12_sum_29_ok {C : ZC} {E : ZE} {S : ZS} {k4 : ZM → Int → Option ZM} {q : ZM} (hX : zCx C E 12 cX12_sum 2 none false) (hRm : czR C = { frames := 9, cells := 0, slots := 0, locals := 267 }) (hk4 : ∀ M x0, k4 M x0 = some q → zG C E 2 S 0 0 (zQ C E 0 0 none S q) 4 [some (2, x0), none] [] M) {M : ZM} {x0 : Int} (h : pX12_sum_29 S k4 M x0 = some q) : zG C E 2 S 0 0 (zQ C E 0 0 none S q) 29 [some (2, x0), none] [] M := by
  unfold pX12_sum_29 at h
  refine zG.blk (pc' := 30) (l' := [some (2, x0), none]) (st' := [(2, x0)]) (M' := M) hX [(.aload_n 0, 0, 0, 0)] (by decide +kernel) rfl trivial ?_
  obtain ⟨g11, h⟩ := zif h
  obtain ⟨q9, e10, h⟩ := zbd h
  refine zG.callV (b := x0) (av := []) (st := []) (ci := 12) hX (pX12_byteHere_ok e10) sv_12_177 rfl ⟨by decide, rfl⟩ g11 (by decide +kernel) (by rw [hRm]; exact ⟨Nat.le_of_ble_eq_true rfl, Nat.le_of_ble_eq_true rfl⟩) (by rw [hRm]; exact ⟨Nat.le_of_ble_eq_true rfl, Nat.le_of_ble_eq_true rfl⟩) (Nat.le_of_ble_eq_true rfl) ?_
  show zG C E 2 S 0 0 _ 33 [some (2, x0), none] [(0, q9.1)] q9.2
  refine zG.blk (pc' := 35) (l' := [some (2, x0), none]) (st' := [(0, 43), (0, q9.1)]) (M' := q9.2) hX [(.bipush 43, 0, 0, 0)] (by decide +kernel) rfl trivial ?_
  have key12 : zG C E 2 S 0 0 (zQ C E 0 0 none S q) 43 [some (2, x0), none] [(0, (if q9.1 = 43 then (2 : Int) else 3))] q9.2 := by
    exact (pX12_sum_43_ok hX hRm hk4 h)
  refine zG.icmp_ne (tgt := 42) (off := 7) hX (by decide +kernel) (by decide) (fun c19 => ?_) (fun c19 => ?_)
  · refine zG.blk (pc' := 43) (l' := [some (2, x0), none]) (st' := [(0, 3)]) (M' := q9.2) hX [(.iconst 3, 0, 0, 0)] (by decide +kernel) rfl trivial ?_
    (have k := key12; simp only [if_neg c19] at k; exact k)
  · refine zG.blk (pc' := 39) (l' := [some (2, x0), none]) (st' := [(0, 2)]) (M' := q9.2) hX [(.iconst 2, 0, 0, 0)] (by decide +kernel) rfl trivial ?_
    refine zG.goto (tgt := 43) (off := 4) hX (by decide +kernel) (by decide) ?_
    (have k := key12; simp only [if_pos c19] at k; exact k)
noncomputable def pX12_sum_4 (S : ZS) : Nat → ZM → Int → Option ZM
  | 0 => fun _ _ => none
  | n + 1 => fun M x0 => if S.1 x0 = 12 then if M x0 22 = 0 then ((pX12_byteHere S M x0).bind fun q6 => if q6.1 = 43 then (pX12_sum_29 S (pX12_sum_4 S n) q6.2 x0) else ((pX12_byteHere S q6.2 x0).bind fun q20 => if q20.1 = 45 then (pX12_sum_29 S (pX12_sum_4 S n) q20.2 x0) else (pX12_sum_67 S q20.2))) else (pX12_sum_67 S M) else none
set_option maxHeartbeats 2000000 in
set_option maxRecDepth 20000 in
theorem pX12_sum_4_ok {C : ZC} {E : ZE} {S : ZS} {q : ZM} (hX : zCx C E 12 cX12_sum 2 none false) (hRm : czR C = { frames := 9, cells := 0, slots := 0, locals := 267 }) : ∀ (n : Nat) (M : ZM) (x0 : Int), pX12_sum_4 S n M x0 = some q → zG C E 2 S 0 0 (zQ C E 0 0 none S q) 4 [some (2, x0), none] [] M := by
  intro n
  induction n with
  | zero => intro M x0 h; cases h
  | succ n ih =>
    intro M x0 h
    unfold pX12_sum_4 at h
    obtain ⟨g4, h⟩ := zif h
    refine zG.blk (pc' := 8) (l' := [some (2, x0), none]) (st' := [(0, M x0 22)]) (M' := M) hX [(.aload_n 0, 0, 0, 0), (.getfield 171, 12, 22, 0)] (by decide +kernel) rfl (And.intro g4 trivial) ?_
    refine zG.if_ne (tgt := 67) (off := 59) hX (by decide +kernel) (by decide) (fun c5 => ?_) (fun c5 => ?_)
    · have h := zin c5 h
      exact zG.wk [false, true] (pX12_sum_67_ok hX hRm h)
    · have h := zip c5 h
      refine zG.blk (pc' := 12) (l' := [some (2, x0), none]) (st' := [(2, x0)]) (M' := M) hX [(.aload_n 0, 0, 0, 0)] (by decide +kernel) rfl trivial ?_
      obtain ⟨q6, e7, h⟩ := zbd h
      refine zG.callV (b := x0) (av := []) (st := []) (ci := 12) hX (pX12_byteHere_ok e7) sv_12_177 rfl ⟨by decide, rfl⟩ g4 (by decide +kernel) (by rw [hRm]; exact ⟨Nat.le_of_ble_eq_true rfl, Nat.le_of_ble_eq_true rfl⟩) (by rw [hRm]; exact ⟨Nat.le_of_ble_eq_true rfl, Nat.le_of_ble_eq_true rfl⟩) (Nat.le_of_ble_eq_true rfl) ?_
      show zG C E 2 S 0 0 _ 15 [some (2, x0), none] [(0, q6.1)] q6.2
      refine zG.blk (pc' := 17) (l' := [some (2, x0), none]) (st' := [(0, 43), (0, q6.1)]) (M' := q6.2) hX [(.bipush 43, 0, 0, 0)] (by decide +kernel) rfl trivial ?_
      refine zG.icmp_eq (tgt := 29) (off := 12) hX (by decide +kernel) (by decide) (fun c8 => ?_) (fun c8 => ?_)
      · have h := zip c8 h
        exact (pX12_sum_29_ok hX hRm ih h)
      · have h := zin c8 h
        refine zG.blk (pc' := 21) (l' := [some (2, x0), none]) (st' := [(2, x0)]) (M' := q6.2) hX [(.aload_n 0, 0, 0, 0)] (by decide +kernel) rfl trivial ?_
        obtain ⟨q20, e21, h⟩ := zbd h
        refine zG.callV (b := x0) (av := []) (st := []) (ci := 12) hX (pX12_byteHere_ok e21) sv_12_177 rfl ⟨by decide, rfl⟩ g4 (by decide +kernel) (by rw [hRm]; exact ⟨Nat.le_of_ble_eq_true rfl, Nat.le_of_ble_eq_true rfl⟩) (by rw [hRm]; exact ⟨Nat.le_of_ble_eq_true rfl, Nat.le_of_ble_eq_true rfl⟩) (Nat.le_of_ble_eq_true rfl) ?_
        show zG C E 2 S 0 0 _ 24 [some (2, x0), none] [(0, q20.1)] q20.2
        refine zG.blk (pc' := 26) (l' := [some (2, x0), none]) (st' := [(0, 45), (0, q20.1)]) (M' := q20.2) hX [(.bipush 45, 0, 0, 0)] (by decide +kernel) rfl trivial ?_
        refine zG.icmp_ne (tgt := 67) (off := 41) hX (by decide +kernel) (by decide) (fun c22 => ?_) (fun c22 => ?_)
        · have h := zin c22 h
          exact zG.wk [false, true] (pX12_sum_67_ok hX hRm h)
        · have h := zip c22 h
          exact (pX12_sum_29_ok hX hRm ih h)
noncomputable def pX12_sum (S : ZS) (M : ZM) (a0 : Int) : Option ZM := if S.1 a0 = 12 then (pX12_term S M a0).bind fun q1 => pX12_sum_4 S zFU q1 a0 else none
set_option maxHeartbeats 2000000 in
set_option maxRecDepth 20000 in
theorem pX12_sum_go {C : ZC} {E : ZE} {S : ZS} {M : ZM} {a0 : Int} {q : ZM} (hX : zCx C E 12 cX12_sum 2 none false) (hRm : czR C = { frames := 9, cells := 0, slots := 0, locals := 267 }) (h : pX12_sum  S M a0 = some q) : zG C E 2 S 0 0 (zQ C E 0 0 none S q) 0 [some (2, a0), none] [] M := by
  unfold pX12_sum at h
  refine zG.blk (pc' := 1) (l' := [some (2, a0), none]) (st' := [(2, a0)]) (M' := M) hX [(.aload_n 0, 0, 0, 0)] (by decide +kernel) rfl trivial ?_
  obtain ⟨g3, h⟩ := zif h
  obtain ⟨q1, e2, h⟩ := zbd h
  refine zG.callV (b := a0) (av := []) (st := []) (ci := 12) hX (pX12_term_ok e2) sv_12_235 rfl ⟨by decide, rfl⟩ g3 (by decide +kernel) (by rw [hRm]; exact ⟨Nat.le_of_ble_eq_true rfl, Nat.le_of_ble_eq_true rfl⟩) (by rw [hRm]; exact ⟨Nat.le_of_ble_eq_true rfl, Nat.le_of_ble_eq_true rfl⟩) (Nat.le_of_ble_eq_true rfl) ?_
  show zG C E 2 S 0 0 _ 4 [some (2, a0), none] [] q1
  exact (pX12_sum_4_ok hX hRm zFU _ _ h)
theorem pX12_sum_ok {l : Launch} {E : ZE} {S : ZS} {M : ZM} {a0 : Int} {q : ZM} (h : pX12_sum S M a0 = some q) : zMet l yX12_sum cX12_sum 2 none 9 267 0 0 E S M [(2, a0)] (none) S q :=
  zMet.of (o := 12) (ini := false) (by decide +kernel) rfl (fun h => by cases h) (Nat.le_of_ble_eq_true rfl) (fun C hX hl hRm => by subst hl; exact pX12_sum_go hX hRm h)
theorem sv_12_238 : zSV 12 238 yX12_sum cX12_sum 2 none 0 := ⟨⟨gt_at 1390 (by decide +kernel) rfl, gt_at 1392 (by decide +kernel) rfl, gt_at 52 (by decide +kernel) rfl, gt_at 117 (by decide +kernel) rfl, gt_at 1393 (by decide +kernel) rfl⟩, by decide +kernel, by decide +kernel, by decide +kernel⟩
noncomputable def pX12_compared_139 (S : ZS) (M : ZM) (y0 : Int) (y1 : Int) : Option ZM := if S.1 y1 = 12 then (pX12_entry S M y1 y0 0).bind fun q20 => some q20 else none
set_option maxHeartbeats 2000000 in
set_option maxRecDepth 20000 in
theorem pX12_compared_139_ok {C : ZC} {E : ZE} {S : ZS} {q : ZM} (hX : zCx C E 12 cX12_compared 3 none false) (hRm : czR C = { frames := 10, cells := 0, slots := 0, locals := 288 }) {M : ZM} {y0 : Int} {y1 : Int} (h : pX12_compared_139 S M y0 y1 = some q) : zG C E 3 S 0 0 (zQ C E 0 0 none S q) 139 [none, none, none] [(0, y0), (2, y1)] M := by
  unfold pX12_compared_139 at h
  refine zG.blk (pc' := 140) (l' := [none, none, none]) (st' := [(0, 0), (0, y0), (2, y1)]) (M' := M) hX [(.iconst 0, 0, 0, 0)] (by decide +kernel) rfl trivial ?_
  obtain ⟨g22, h⟩ := zif h
  obtain ⟨q20, e21, h⟩ := zbd h
  refine zG.callV (b := y1) (av := [(0, y0), (0, 0)]) (st := []) (ci := 12) hX (pX12_entry_ok e21) sv_12_225 rfl ⟨by decide, rfl⟩ g22 (by decide +kernel) (by rw [hRm]; exact ⟨Nat.le_of_ble_eq_true rfl, Nat.le_of_ble_eq_true rfl⟩) (by rw [hRm]; exact ⟨Nat.le_of_ble_eq_true rfl, Nat.le_of_ble_eq_true rfl⟩) (Nat.le_of_ble_eq_true rfl) ?_
  show zG C E 3 S 0 0 _ 143 [none, none, none] [] q20
  cases h
  exact zG.vret hX (by decide +kernel)
noncomputable def pX12_compared_90 (S : ZS) (M : ZM) (x0 : Int) (x1 : Int) (x2 : Int) (y0 : Int) (y1 : Int) (y2 : Int) : Option ZM := if S.1 y2 = 12 then zlet (upM M y2 21 (w32 (y1 + y0))) fun M15 => if S.1 x0 = 12 then (pX12_sum S M15 x0).bind fun q16 => pX12_compared_139 S q16 (if x1 = 61 then (6 : Int) else (if x1 = 60 then ((if x2 = 0 then (4 : Int) else 5) : Int) else (if x2 = 0 then (8 : Int) else 7))) x0 else none else none
set_option maxHeartbeats 2000000 in
set_option maxRecDepth 20000 in
theorem pX12_compared_90_ok {C : ZC} {E : ZE} {S : ZS} {q : ZM} (hX : zCx C E 12 cX12_compared 3 none false) (hRm : czR C = { frames := 10, cells := 0, slots := 0, locals := 288 }) {M : ZM} {x0 : Int} {x1 : Int} {x2 : Int} {y0 : Int} {y1 : Int} {y2 : Int} (h : pX12_compared_90 S M x0 x1 x2 y0 y1 y2 = some q) : zG C E 3 S 0 0 (zQ C E 0 0 none S q) 90 [some (2, x0), some (0, x1), some (0, x2)] [(0, y0), (0, y1), (2, y2)] M := by
  unfold pX12_compared_90 at h
  obtain ⟨g14, h⟩ := zif h
  refine zG.blk (pc' := 94) (l' := [some (2, x0), some (0, x1), some (0, x2)]) (st' := []) (M' := (upM M y2 21 (w32 (y1 + y0)))) hX [(.iadd, 0, 0, 0), (.putfield 174, 12, 21, 0)] (by decide +kernel) rfl (And.intro g14 trivial) ?_
  generalize upM M y2 21 (w32 (y1 + y0)) = M15 at h ⊢
  have h := zlt h
  refine zG.blk (pc' := 95) (l' := [some (2, x0), some (0, x1), some (0, x2)]) (st' := [(2, x0)]) (M' := M15) hX [(.aload_n 0, 0, 0, 0)] (by decide +kernel) rfl trivial ?_
  obtain ⟨g18, h⟩ := zif h
  obtain ⟨q16, e17, h⟩ := zbd h
  refine zG.callV (b := x0) (av := []) (st := []) (ci := 12) hX (pX12_sum_ok e17) sv_12_238 rfl ⟨by decide, rfl⟩ g18 (by decide +kernel) (by rw [hRm]; exact ⟨Nat.le_of_ble_eq_true rfl, Nat.le_of_ble_eq_true rfl⟩) (by rw [hRm]; exact ⟨Nat.le_of_ble_eq_true rfl, Nat.le_of_ble_eq_true rfl⟩) (Nat.le_of_ble_eq_true rfl) ?_
  show zG C E 3 S 0 0 _ 98 [some (2, x0), some (0, x1), some (0, x2)] [] q16
  refine zG.blk (pc' := 102) (l' := [some (2, x0), some (0, x1), some (0, x2)]) (st' := [(0, 61), (0, x1), (2, x0)]) (M' := q16) hX [(.aload_n 0, 0, 0, 0), (.iload_n 1, 0, 0, 0), (.bipush 61, 0, 0, 0)] (by decide +kernel) rfl trivial ?_
  have key19 : zG C E 3 S 0 0 (zQ C E 0 0 none S q) 139 [some (2, x0), some (0, x1), some (0, x2)] [(0, (if x1 = 61 then (6 : Int) else (if x1 = 60 then ((if x2 = 0 then (4 : Int) else 5) : Int) else (if x2 = 0 then (8 : Int) else 7)))), (2, x0)] q16 := by
    exact zG.wk [false, false, false] (pX12_compared_139_ok hX hRm h)
  refine zG.icmp_ne (tgt := 110) (off := 8) hX (by decide +kernel) (by decide) (fun c23 => ?_) (fun c23 => ?_)
  · refine zG.blk (pc' := 113) (l' := [some (2, x0), some (0, x1), some (0, x2)]) (st' := [(0, 60), (0, x1), (2, x0)]) (M' := q16) hX [(.iload_n 1, 0, 0, 0), (.bipush 60, 0, 0, 0)] (by decide +kernel) rfl trivial ?_
    refine zG.icmp_ne (tgt := 128) (off := 15) hX (by decide +kernel) (by decide) (fun c24 => ?_) (fun c24 => ?_)
    · refine zG.blk (pc' := 129) (l' := [some (2, x0), some (0, x1), some (0, x2)]) (st' := [(0, x2), (2, x0)]) (M' := q16) hX [(.iload_n 2, 0, 0, 0)] (by decide +kernel) rfl trivial ?_
      refine zG.if_eq (tgt := 137) (off := 8) hX (by decide +kernel) (by decide) (fun c25 => ?_) (fun c25 => ?_)
      · refine zG.blk (pc' := 139) (l' := [some (2, x0), some (0, x1), some (0, x2)]) (st' := [(0, 8), (2, x0)]) (M' := q16) hX [(.bipush 8, 0, 0, 0)] (by decide +kernel) rfl trivial ?_
        (have k := key19; simp only [if_neg c23, if_neg c24, if_pos c25] at k; exact k)
      · refine zG.blk (pc' := 134) (l' := [some (2, x0), some (0, x1), some (0, x2)]) (st' := [(0, 7), (2, x0)]) (M' := q16) hX [(.bipush 7, 0, 0, 0)] (by decide +kernel) rfl trivial ?_
        refine zG.goto (tgt := 139) (off := 5) hX (by decide +kernel) (by decide) ?_
        (have k := key19; simp only [if_neg c23, if_neg c24, if_neg c25] at k; exact k)
    · refine zG.blk (pc' := 117) (l' := [some (2, x0), some (0, x1), some (0, x2)]) (st' := [(0, x2), (2, x0)]) (M' := q16) hX [(.iload_n 2, 0, 0, 0)] (by decide +kernel) rfl trivial ?_
      refine zG.if_eq (tgt := 124) (off := 7) hX (by decide +kernel) (by decide) (fun c26 => ?_) (fun c26 => ?_)
      · refine zG.blk (pc' := 125) (l' := [some (2, x0), some (0, x1), some (0, x2)]) (st' := [(0, 4), (2, x0)]) (M' := q16) hX [(.iconst 4, 0, 0, 0)] (by decide +kernel) rfl trivial ?_
        refine zG.goto (tgt := 139) (off := 14) hX (by decide +kernel) (by decide) ?_
        (have k := key19; simp only [if_neg c23, if_pos c24, if_pos c26] at k; exact k)
      · refine zG.blk (pc' := 121) (l' := [some (2, x0), some (0, x1), some (0, x2)]) (st' := [(0, 5), (2, x0)]) (M' := q16) hX [(.iconst 5, 0, 0, 0)] (by decide +kernel) rfl trivial ?_
        refine zG.goto (tgt := 139) (off := 18) hX (by decide +kernel) (by decide) ?_
        (have k := key19; simp only [if_neg c23, if_pos c24, if_neg c26] at k; exact k)
  · refine zG.blk (pc' := 107) (l' := [some (2, x0), some (0, x1), some (0, x2)]) (st' := [(0, 6), (2, x0)]) (M' := q16) hX [(.bipush 6, 0, 0, 0)] (by decide +kernel) rfl trivial ?_
    refine zG.goto (tgt := 139) (off := 32) hX (by decide +kernel) (by decide) ?_
    (have k := key19; simp only [if_pos c23] at k; exact k)
noncomputable def pX12_compared_75 (S : ZS) (M : ZM) (x0 : Int) (x1 : Int) (y0 : Int) : Option ZM := if S.1 x0 = 12 then pX12_compared_90 S M x0 x1 y0 (if y0 = 0 then (0 : Int) else 1) (M x0 21) x0 else none
set_option maxHeartbeats 2000000 in
set_option maxRecDepth 20000 in
theorem pX12_compared_75_ok {C : ZC} {E : ZE} {S : ZS} {q : ZM} (hX : zCx C E 12 cX12_compared 3 none false) (hRm : czR C = { frames := 10, cells := 0, slots := 0, locals := 288 }) {M : ZM} {x0 : Int} {x1 : Int} {y0 : Int} (h : pX12_compared_75 S M x0 x1 y0 = some q) : zG C E 3 S 0 0 (zQ C E 0 0 none S q) 75 [some (2, x0), some (0, x1), none] [(0, y0)] M := by
  unfold pX12_compared_75 at h
  obtain ⟨g12, h⟩ := zif h
  refine zG.blk (pc' := 82) (l' := [some (2, x0), some (0, x1), some (0, y0)]) (st' := [(0, y0), (0, M x0 21), (2, x0)]) (M' := M) hX [(.istore_n 2, 0, 0, 0), (.aload_n 0, 0, 0, 0), (.dup, 0, 0, 0), (.getfield 174, 12, 21, 0), (.iload_n 2, 0, 0, 0)] (by decide +kernel) rfl (And.intro g12 trivial) ?_
  have key13 : zG C E 3 S 0 0 (zQ C E 0 0 none S q) 90 [some (2, x0), some (0, x1), some (0, y0)] [(0, (if y0 = 0 then (0 : Int) else 1)), (0, M x0 21), (2, x0)] M := by
    exact (pX12_compared_90_ok hX hRm h)
  refine zG.if_eq (tgt := 89) (off := 7) hX (by decide +kernel) (by decide) (fun c27 => ?_) (fun c27 => ?_)
  · refine zG.blk (pc' := 90) (l' := [some (2, x0), some (0, x1), some (0, y0)]) (st' := [(0, 0), (0, M x0 21), (2, x0)]) (M' := M) hX [(.iconst 0, 0, 0, 0)] (by decide +kernel) rfl trivial ?_
    (have k := key13; simp only [if_pos c27] at k; exact k)
  · refine zG.blk (pc' := 86) (l' := [some (2, x0), some (0, x1), some (0, y0)]) (st' := [(0, 1), (0, M x0 21), (2, x0)]) (M' := M) hX [(.iconst 1, 0, 0, 0)] (by decide +kernel) rfl trivial ?_
    refine zG.goto (tgt := 90) (off := 4) hX (by decide +kernel) (by decide) ?_
    (have k := key13; simp only [if_neg c27] at k; exact k)
noncomputable def pX12_compared_74 (S : ZS) (M : ZM) (x0 : Int) (x1 : Int) : Option ZM := pX12_compared_75 S M x0 x1 0
set_option maxHeartbeats 2000000 in
set_option maxRecDepth 20000 in
theorem pX12_compared_74_ok {C : ZC} {E : ZE} {S : ZS} {q : ZM} (hX : zCx C E 12 cX12_compared 3 none false) (hRm : czR C = { frames := 10, cells := 0, slots := 0, locals := 288 }) {M : ZM} {x0 : Int} {x1 : Int} (h : pX12_compared_74 S M x0 x1 = some q) : zG C E 3 S 0 0 (zQ C E 0 0 none S q) 74 [some (2, x0), some (0, x1), none] [] M := by
  unfold pX12_compared_74 at h
  refine zG.blk (pc' := 75) (l' := [some (2, x0), some (0, x1), none]) (st' := [(0, 0)]) (M' := M) hX [(.iconst 0, 0, 0, 0)] (by decide +kernel) rfl trivial ?_
  exact (pX12_compared_75_ok hX hRm h)
noncomputable def pX12_compared_37 (S : ZS) (M : ZM) (x0 : Int) (x1 : Int) : Option ZM := if S.1 x0 = 12 then (pX12_isCounted S M x0 (M x0 21)).bind fun q8 => zlet (upM q8 x0 21 (w32 ((q8 x0 21) + 1))) fun M10 => if x1 = 61 then (pX12_compared_74 S M10 x0 x1) else ((pX12_byteHere S M10 x0).bind fun q28 => if q28.1 = 61 then (pX12_compared_75 S q28.2 x0 x1 1) else (pX12_compared_74 S q28.2 x0 x1)) else none
set_option maxHeartbeats 2000000 in
set_option maxRecDepth 20000 in
theorem pX12_compared_37_ok {C : ZC} {E : ZE} {S : ZS} {q : ZM} (hX : zCx C E 12 cX12_compared 3 none false) (hRm : czR C = { frames := 10, cells := 0, slots := 0, locals := 288 }) {M : ZM} {x0 : Int} {x1 : Int} (h : pX12_compared_37 S M x0 x1 = some q) : zG C E 3 S 0 0 (zQ C E 0 0 none S q) 37 [some (2, x0), some (0, x1), none] [] M := by
  unfold pX12_compared_37 at h
  obtain ⟨g7, h⟩ := zif h
  refine zG.blk (pc' := 42) (l' := [some (2, x0), some (0, x1), none]) (st' := [(0, M x0 21), (2, x0)]) (M' := M) hX [(.aload_n 0, 0, 0, 0), (.aload_n 0, 0, 0, 0), (.getfield 174, 12, 21, 0)] (by decide +kernel) rfl (And.intro g7 trivial) ?_
  obtain ⟨q8, e9, h⟩ := zbd h
  refine zG.callV (b := x0) (av := [(0, M x0 21)]) (st := []) (ci := 12) hX (pX12_isCounted_ok e9) sv_12_222 rfl ⟨by decide, rfl⟩ g7 (by decide +kernel) (by rw [hRm]; exact ⟨Nat.le_of_ble_eq_true rfl, Nat.le_of_ble_eq_true rfl⟩) (by rw [hRm]; exact ⟨Nat.le_of_ble_eq_true rfl, Nat.le_of_ble_eq_true rfl⟩) (Nat.le_of_ble_eq_true rfl) ?_
  show zG C E 3 S 0 0 _ 45 [some (2, x0), some (0, x1), none] [] q8
  refine zG.blk (pc' := 55) (l' := [some (2, x0), some (0, x1), none]) (st' := []) (M' := (upM q8 x0 21 (w32 ((q8 x0 21) + 1)))) hX [(.aload_n 0, 0, 0, 0), (.dup, 0, 0, 0), (.getfield 174, 12, 21, 0), (.iconst 1, 0, 0, 0), (.iadd, 0, 0, 0), (.putfield 174, 12, 21, 0)] (by decide +kernel) rfl (And.intro g7 (And.intro g7 trivial)) ?_
  generalize upM q8 x0 21 (w32 ((q8 x0 21) + 1)) = M10 at h ⊢
  have h := zlt h
  refine zG.blk (pc' := 58) (l' := [some (2, x0), some (0, x1), none]) (st' := [(0, 61), (0, x1)]) (M' := M10) hX [(.iload_n 1, 0, 0, 0), (.bipush 61, 0, 0, 0)] (by decide +kernel) rfl trivial ?_
  refine zG.icmp_eq (tgt := 74) (off := 16) hX (by decide +kernel) (by decide) (fun c11 => ?_) (fun c11 => ?_)
  · have h := zip c11 h
    exact (pX12_compared_74_ok hX hRm h)
  · have h := zin c11 h
    refine zG.blk (pc' := 62) (l' := [some (2, x0), some (0, x1), none]) (st' := [(2, x0)]) (M' := M10) hX [(.aload_n 0, 0, 0, 0)] (by decide +kernel) rfl trivial ?_
    obtain ⟨q28, e29, h⟩ := zbd h
    refine zG.callV (b := x0) (av := []) (st := []) (ci := 12) hX (pX12_byteHere_ok e29) sv_12_177 rfl ⟨by decide, rfl⟩ g7 (by decide +kernel) (by rw [hRm]; exact ⟨Nat.le_of_ble_eq_true rfl, Nat.le_of_ble_eq_true rfl⟩) (by rw [hRm]; exact ⟨Nat.le_of_ble_eq_true rfl, Nat.le_of_ble_eq_true rfl⟩) (Nat.le_of_ble_eq_true rfl) ?_
    show zG C E 3 S 0 0 _ 65 [some (2, x0), some (0, x1), none] [(0, q28.1)] q28.2
    refine zG.blk (pc' := 67) (l' := [some (2, x0), some (0, x1), none]) (st' := [(0, 61), (0, q28.1)]) (M' := q28.2) hX [(.bipush 61, 0, 0, 0)] (by decide +kernel) rfl trivial ?_
    refine zG.icmp_ne (tgt := 74) (off := 7) hX (by decide +kernel) (by decide) (fun c30 => ?_) (fun c30 => ?_)
    · have h := zin c30 h
      exact (pX12_compared_74_ok hX hRm h)
    · have h := zip c30 h
      refine zG.blk (pc' := 71) (l' := [some (2, x0), some (0, x1), none]) (st' := [(0, 1)]) (M' := q28.2) hX [(.iconst 1, 0, 0, 0)] (by decide +kernel) rfl trivial ?_
      refine zG.goto (tgt := 75) (off := 4) hX (by decide +kernel) (by decide) ?_
      exact (pX12_compared_75_ok hX hRm h)
noncomputable def pX12_compared (S : ZS) (M : ZM) (a0 : Int) : Option ZM := if S.1 a0 = 12 then (pX12_sum S M a0).bind fun q1 => (pX12_byteHere S q1 a0).bind fun q4 => if q4.1 = 60 then (pX12_compared_37 S q4.2 a0 q4.1) else (if q4.1 = 61 then (pX12_compared_37 S q4.2 a0 q4.1) else (if q4.1 = 62 then (pX12_compared_37 S q4.2 a0 q4.1) else ((pX12_fails S q4.2 a0 0 (q4.2 a0 21)).bind fun q33 => some q33))) else none
set_option maxHeartbeats 2000000 in
set_option maxRecDepth 20000 in
theorem pX12_compared_go {C : ZC} {E : ZE} {S : ZS} {M : ZM} {a0 : Int} {q : ZM} (hX : zCx C E 12 cX12_compared 3 none false) (hRm : czR C = { frames := 10, cells := 0, slots := 0, locals := 288 }) (h : pX12_compared  S M a0 = some q) : zG C E 3 S 0 0 (zQ C E 0 0 none S q) 0 [some (2, a0), none, none] [] M := by
  unfold pX12_compared at h
  refine zG.blk (pc' := 1) (l' := [some (2, a0), none, none]) (st' := [(2, a0)]) (M' := M) hX [(.aload_n 0, 0, 0, 0)] (by decide +kernel) rfl trivial ?_
  obtain ⟨g3, h⟩ := zif h
  obtain ⟨q1, e2, h⟩ := zbd h
  refine zG.callV (b := a0) (av := []) (st := []) (ci := 12) hX (pX12_sum_ok e2) sv_12_238 rfl ⟨by decide, rfl⟩ g3 (by decide +kernel) (by rw [hRm]; exact ⟨Nat.le_of_ble_eq_true rfl, Nat.le_of_ble_eq_true rfl⟩) (by rw [hRm]; exact ⟨Nat.le_of_ble_eq_true rfl, Nat.le_of_ble_eq_true rfl⟩) (Nat.le_of_ble_eq_true rfl) ?_
  show zG C E 3 S 0 0 _ 4 [some (2, a0), none, none] [] q1
  refine zG.blk (pc' := 5) (l' := [some (2, a0), none, none]) (st' := [(2, a0)]) (M' := q1) hX [(.aload_n 0, 0, 0, 0)] (by decide +kernel) rfl trivial ?_
  obtain ⟨q4, e5, h⟩ := zbd h
  refine zG.callV (b := a0) (av := []) (st := []) (ci := 12) hX (pX12_byteHere_ok e5) sv_12_177 rfl ⟨by decide, rfl⟩ g3 (by decide +kernel) (by rw [hRm]; exact ⟨Nat.le_of_ble_eq_true rfl, Nat.le_of_ble_eq_true rfl⟩) (by rw [hRm]; exact ⟨Nat.le_of_ble_eq_true rfl, Nat.le_of_ble_eq_true rfl⟩) (Nat.le_of_ble_eq_true rfl) ?_
  show zG C E 3 S 0 0 _ 8 [some (2, a0), none, none] [(0, q4.1)] q4.2
  refine zG.blk (pc' := 12) (l' := [some (2, a0), some (0, q4.1), none]) (st' := [(0, 60), (0, q4.1)]) (M' := q4.2) hX [(.istore_n 1, 0, 0, 0), (.iload_n 1, 0, 0, 0), (.bipush 60, 0, 0, 0)] (by decide +kernel) rfl trivial ?_
  refine zG.icmp_eq (tgt := 37) (off := 25) hX (by decide +kernel) (by decide) (fun c6 => ?_) (fun c6 => ?_)
  · have h := zip c6 h
    exact (pX12_compared_37_ok hX hRm h)
  · have h := zin c6 h
    refine zG.blk (pc' := 18) (l' := [some (2, a0), some (0, q4.1), none]) (st' := [(0, 61), (0, q4.1)]) (M' := q4.2) hX [(.iload_n 1, 0, 0, 0), (.bipush 61, 0, 0, 0)] (by decide +kernel) rfl trivial ?_
    refine zG.icmp_eq (tgt := 37) (off := 19) hX (by decide +kernel) (by decide) (fun c31 => ?_) (fun c31 => ?_)
    · have h := zip c31 h
      exact (pX12_compared_37_ok hX hRm h)
    · have h := zin c31 h
      refine zG.blk (pc' := 24) (l' := [some (2, a0), some (0, q4.1), none]) (st' := [(0, 62), (0, q4.1)]) (M' := q4.2) hX [(.iload_n 1, 0, 0, 0), (.bipush 62, 0, 0, 0)] (by decide +kernel) rfl trivial ?_
      refine zG.icmp_eq (tgt := 37) (off := 13) hX (by decide +kernel) (by decide) (fun c32 => ?_) (fun c32 => ?_)
      · have h := zip c32 h
        exact (pX12_compared_37_ok hX hRm h)
      · have h := zin c32 h
        refine zG.blk (pc' := 33) (l' := [some (2, a0), some (0, q4.1), none]) (st' := [(0, q4.2 a0 21), (0, 0), (2, a0)]) (M' := q4.2) hX [(.aload_n 0, 0, 0, 0), (.iconst 0, 0, 0, 0), (.aload_n 0, 0, 0, 0), (.getfield 174, 12, 21, 0)] (by decide +kernel) rfl (And.intro g3 trivial) ?_
        obtain ⟨q33, e34, h⟩ := zbd h
        refine zG.callV (b := a0) (av := [(0, 0), (0, q4.2 a0 21)]) (st := []) (ci := 12) hX (pX12_fails_ok e34) sv_12_209 rfl ⟨by decide, rfl⟩ g3 (by decide +kernel) (by rw [hRm]; exact ⟨Nat.le_of_ble_eq_true rfl, Nat.le_of_ble_eq_true rfl⟩) (by rw [hRm]; exact ⟨Nat.le_of_ble_eq_true rfl, Nat.le_of_ble_eq_true rfl⟩) (Nat.le_of_ble_eq_true rfl) ?_
        show zG C E 3 S 0 0 _ 36 [some (2, a0), some (0, q4.1), none] [] q33
        cases h
        exact zG.vret hX (by decide +kernel)
theorem pX12_compared_ok {l : Launch} {E : ZE} {S : ZS} {M : ZM} {a0 : Int} {q : ZM} (h : pX12_compared S M a0 = some q) : zMet l yX12_compared cX12_compared 3 none 10 288 0 0 E S M [(2, a0)] (none) S q :=
  zMet.of (o := 12) (ini := false) (by decide +kernel) rfl (fun h => by cases h) (Nat.le_of_ble_eq_true rfl) (fun C hX hl hRm => by subst hl; exact pX12_compared_go hX hRm h)
theorem sv_12_255 : zSV 12 255 yX12_compared cX12_compared 3 none 0 := ⟨⟨gt_at 1441 (by decide +kernel) rfl, gt_at 1443 (by decide +kernel) rfl, gt_at 61 (by decide +kernel) rfl, gt_at 117 (by decide +kernel) rfl, gt_at 1444 (by decide +kernel) rfl⟩, by decide +kernel, by decide +kernel, by decide +kernel⟩
theorem sv_12_252 : zSV 12 252 yX12_opens cX12_opens 2 none 1 := ⟨⟨gt_at 1437 (by decide +kernel) rfl, gt_at 1439 (by decide +kernel) rfl, gt_at 60 (by decide +kernel) rfl, gt_at 117 (by decide +kernel) rfl, gt_at 1440 (by decide +kernel) rfl⟩, by decide +kernel, by decide +kernel, by decide +kernel⟩
noncomputable def pX12_fact (S : ZS) (M : ZM) (a0 : Int) : Option (Int × ZM) := if S.1 a0 = 12 then (pX12_blanks S M a0).bind fun q1 => (pX12_stood S q1 a0 17).bind fun q4 => if q4.1 = 0 then ((pX12_byteHere S q4.2 a0).bind fun q7 => if q7.1 = 91 then ((pX12_opens S q7.2 a0 12).bind fun q12 => zlet (upM q12 a0 21 (w32 ((q12 a0 21) + 1))) fun M14 => some (0, M14)) else ((pX12_compared S q7.2 a0).bind fun q10 => some (1, q10))) else ((pX12_opens S q4.2 a0 9).bind fun q15 => zlet (upM q15 a0 21 (w32 ((q15 a0 21) + 3))) fun M17 => some (0, M17)) else none
set_option maxHeartbeats 2000000 in
set_option maxRecDepth 20000 in
theorem pX12_fact_go {C : ZC} {E : ZE} {S : ZS} {M : ZM} {a0 : Int} {q : (Int × ZM)} (hX : zCx C E 12 cX12_fact 1 (some .boolean) false) (hRm : czR C = { frames := 11, cells := 0, slots := 0, locals := 310 }) (h : pX12_fact  S M a0 = some q) : zG C E 1 S 0 0 (zQ C E 0 0 (some (0, q.1)) S q.2) 0 [some (2, a0)] [] M := by
  unfold pX12_fact at h
  refine zG.blk (pc' := 1) (l' := [some (2, a0)]) (st' := [(2, a0)]) (M' := M) hX [(.aload_n 0, 0, 0, 0)] (by decide +kernel) rfl trivial ?_
  obtain ⟨g3, h⟩ := zif h
  obtain ⟨q1, e2, h⟩ := zbd h
  refine zG.callV (b := a0) (av := []) (st := []) (ci := 12) hX (pX12_blanks_ok e2) sv_12_193 rfl ⟨by decide, rfl⟩ g3 (by decide +kernel) (by rw [hRm]; exact ⟨Nat.le_of_ble_eq_true rfl, Nat.le_of_ble_eq_true rfl⟩) (by rw [hRm]; exact ⟨Nat.le_of_ble_eq_true rfl, Nat.le_of_ble_eq_true rfl⟩) (Nat.le_of_ble_eq_true rfl) ?_
  show zG C E 1 S 0 0 _ 4 [some (2, a0)] [] q1
  refine zG.blk (pc' := 5) (l' := [some (2, a0)]) (st' := [(2, a0)]) (M' := q1) hX [(.aload_n 0, 0, 0, 0)] (by decide +kernel) rfl trivial ?_
  refine zG.ldcS (i := 17) hX rfl rfl (by decide +kernel) ?_
  show zG C E 1 S 0 0 _ 7 [some (2, a0)] [(3, 17), (2, a0)] q1
  obtain ⟨q4, e5, h⟩ := zbd h
  refine zG.callV (b := a0) (av := [(3, 17)]) (st := []) (ci := 12) hX (pX12_stood_ok e5) sv_12_196 rfl ⟨by decide, rfl⟩ g3 (by decide +kernel) (by rw [hRm]; exact ⟨Nat.le_of_ble_eq_true rfl, Nat.le_of_ble_eq_true rfl⟩) (by rw [hRm]; exact ⟨Nat.le_of_ble_eq_true rfl, Nat.le_of_ble_eq_true rfl⟩) (Nat.le_of_ble_eq_true rfl) ?_
  show zG C E 1 S 0 0 _ 10 [some (2, a0)] [(0, q4.1)] q4.2
  refine zG.if_eq (tgt := 31) (off := 21) hX (by decide +kernel) (by decide) (fun c6 => ?_) (fun c6 => ?_)
  · have h := zip c6 h
    refine zG.blk (pc' := 32) (l' := [some (2, a0)]) (st' := [(2, a0)]) (M' := q4.2) hX [(.aload_n 0, 0, 0, 0)] (by decide +kernel) rfl trivial ?_
    obtain ⟨q7, e8, h⟩ := zbd h
    refine zG.callV (b := a0) (av := []) (st := []) (ci := 12) hX (pX12_byteHere_ok e8) sv_12_177 rfl ⟨by decide, rfl⟩ g3 (by decide +kernel) (by rw [hRm]; exact ⟨Nat.le_of_ble_eq_true rfl, Nat.le_of_ble_eq_true rfl⟩) (by rw [hRm]; exact ⟨Nat.le_of_ble_eq_true rfl, Nat.le_of_ble_eq_true rfl⟩) (Nat.le_of_ble_eq_true rfl) ?_
    show zG C E 1 S 0 0 _ 35 [some (2, a0)] [(0, q7.1)] q7.2
    refine zG.blk (pc' := 37) (l' := [some (2, a0)]) (st' := [(0, 91), (0, q7.1)]) (M' := q7.2) hX [(.bipush 91, 0, 0, 0)] (by decide +kernel) rfl trivial ?_
    refine zG.icmp_ne (tgt := 58) (off := 21) hX (by decide +kernel) (by decide) (fun c9 => ?_) (fun c9 => ?_)
    · have h := zin c9 h
      refine zG.blk (pc' := 59) (l' := [some (2, a0)]) (st' := [(2, a0)]) (M' := q7.2) hX [(.aload_n 0, 0, 0, 0)] (by decide +kernel) rfl trivial ?_
      obtain ⟨q10, e11, h⟩ := zbd h
      refine zG.callV (b := a0) (av := []) (st := []) (ci := 12) hX (pX12_compared_ok e11) sv_12_255 rfl ⟨by decide, rfl⟩ g3 (by decide +kernel) (by rw [hRm]; exact ⟨Nat.le_of_ble_eq_true rfl, Nat.le_of_ble_eq_true rfl⟩) (by rw [hRm]; exact ⟨Nat.le_of_ble_eq_true rfl, Nat.le_of_ble_eq_true rfl⟩) (Nat.le_of_ble_eq_true rfl) ?_
      show zG C E 1 S 0 0 _ 62 [some (2, a0)] [] q10
      refine zG.blk (pc' := 63) (l' := [some (2, a0)]) (st' := [(0, 1)]) (M' := q10) hX [(.iconst 1, 0, 0, 0)] (by decide +kernel) rfl trivial ?_
      cases h
      exact zG.zret hX (by decide +kernel) (Or.inr rfl)
    · have h := zip c9 h
      refine zG.blk (pc' := 43) (l' := [some (2, a0)]) (st' := [(0, 12), (2, a0)]) (M' := q7.2) hX [(.aload_n 0, 0, 0, 0), (.bipush 12, 0, 0, 0)] (by decide +kernel) rfl trivial ?_
      obtain ⟨q12, e13, h⟩ := zbd h
      refine zG.callV (b := a0) (av := [(0, 12)]) (st := []) (ci := 12) hX (pX12_opens_ok e13) sv_12_252 rfl ⟨by decide, rfl⟩ g3 (by decide +kernel) (by rw [hRm]; exact ⟨Nat.le_of_ble_eq_true rfl, Nat.le_of_ble_eq_true rfl⟩) (by rw [hRm]; exact ⟨Nat.le_of_ble_eq_true rfl, Nat.le_of_ble_eq_true rfl⟩) (Nat.le_of_ble_eq_true rfl) ?_
      show zG C E 1 S 0 0 _ 46 [some (2, a0)] [] q12
      refine zG.blk (pc' := 56) (l' := [some (2, a0)]) (st' := []) (M' := (upM q12 a0 21 (w32 ((q12 a0 21) + 1)))) hX [(.aload_n 0, 0, 0, 0), (.dup, 0, 0, 0), (.getfield 174, 12, 21, 0), (.iconst 1, 0, 0, 0), (.iadd, 0, 0, 0), (.putfield 174, 12, 21, 0)] (by decide +kernel) rfl (And.intro g3 (And.intro g3 trivial)) ?_
      generalize upM q12 a0 21 (w32 ((q12 a0 21) + 1)) = M14 at h ⊢
      have h := zlt h
      refine zG.blk (pc' := 57) (l' := [some (2, a0)]) (st' := [(0, 0)]) (M' := M14) hX [(.iconst 0, 0, 0, 0)] (by decide +kernel) rfl trivial ?_
      cases h
      exact zG.zret hX (by decide +kernel) (Or.inl rfl)
  · have h := zin c6 h
    refine zG.blk (pc' := 16) (l' := [some (2, a0)]) (st' := [(0, 9), (2, a0)]) (M' := q4.2) hX [(.aload_n 0, 0, 0, 0), (.bipush 9, 0, 0, 0)] (by decide +kernel) rfl trivial ?_
    obtain ⟨q15, e16, h⟩ := zbd h
    refine zG.callV (b := a0) (av := [(0, 9)]) (st := []) (ci := 12) hX (pX12_opens_ok e16) sv_12_252 rfl ⟨by decide, rfl⟩ g3 (by decide +kernel) (by rw [hRm]; exact ⟨Nat.le_of_ble_eq_true rfl, Nat.le_of_ble_eq_true rfl⟩) (by rw [hRm]; exact ⟨Nat.le_of_ble_eq_true rfl, Nat.le_of_ble_eq_true rfl⟩) (Nat.le_of_ble_eq_true rfl) ?_
    show zG C E 1 S 0 0 _ 19 [some (2, a0)] [] q15
    refine zG.blk (pc' := 29) (l' := [some (2, a0)]) (st' := []) (M' := (upM q15 a0 21 (w32 ((q15 a0 21) + 3)))) hX [(.aload_n 0, 0, 0, 0), (.dup, 0, 0, 0), (.getfield 174, 12, 21, 0), (.iconst 3, 0, 0, 0), (.iadd, 0, 0, 0), (.putfield 174, 12, 21, 0)] (by decide +kernel) rfl (And.intro g3 (And.intro g3 trivial)) ?_
    generalize upM q15 a0 21 (w32 ((q15 a0 21) + 3)) = M17 at h ⊢
    have h := zlt h
    refine zG.blk (pc' := 30) (l' := [some (2, a0)]) (st' := [(0, 0)]) (M' := M17) hX [(.iconst 0, 0, 0, 0)] (by decide +kernel) rfl trivial ?_
    cases h
    exact zG.zret hX (by decide +kernel) (Or.inl rfl)
theorem pX12_fact_ok {l : Launch} {E : ZE} {S : ZS} {M : ZM} {a0 : Int} {q : (Int × ZM)} (h : pX12_fact S M a0 = some q) : zMet l yX12_fact cX12_fact 1 (some .boolean) 11 310 0 0 E S M [(2, a0)] (some (0, q.1)) S q.2 :=
  zMet.of (o := 12) (ini := false) (by decide +kernel) rfl (fun h => by cases h) (Nat.le_of_ble_eq_true rfl) (fun C hX hl hRm => by subst hl; exact pX12_fact_go hX hRm h)
noncomputable def pX12_skyWord (S : ZS) (M : ZM) (a0 : Int) : Option (Int × ZM) := if a0 = 0 then (some (1, M)) else if a0 = 1 then (some (2, M)) else if a0 = 2 then (some (3, M)) else (some (4, M))
set_option maxHeartbeats 2000000 in
set_option maxRecDepth 20000 in
theorem pX12_skyWord_go {C : ZC} {E : ZE} {S : ZS} {M : ZM} {a0 : Int} {q : (Int × ZM)} (hX : zCx C E 12 cX12_skyWord 1 (some (.object "java/lang/String")) false) (hRm : czR C = { frames := 1, cells := 0, slots := 0, locals := 40 }) (h : pX12_skyWord  S M a0 = some q) : zG C E 1 S 0 0 (zQ C E 0 0 (some (3, q.1)) S q.2) 0 [some (0, a0)] [] M := by
  unfold pX12_skyWord at h
  refine zG.blk (pc' := 1) (l' := [some (0, a0)]) (st' := [(0, a0)]) (M' := M) hX [(.iload_n 0, 0, 0, 0)] (by decide +kernel) rfl trivial ?_
  have hs1 : decode cX12_skyWord 1 = .ok (.tableswitch 38 0 2 #[27, 31, 34], 27) := by decide +kernel
  by_cases c2 : a0 = 0
  · have h := zip c2 h
    refine zG.tabIn (tgt := 28) hX hs1 0 c2 (by decide) rfl (by decide) ?_
    refine zG.ldcW (i := 1) hX rfl rfl (by decide +kernel) ?_
    show zG C E 1 S 0 0 _ 31 [some (0, a0)] [(3, 1)] M
    cases h
    exact zG.aret hX (Or.inl ⟨_, rfl⟩) (by decide +kernel) (by decide)
  · have h := zin c2 h
    by_cases c3 : a0 = 1
    · have h := zip c3 h
      refine zG.tabIn (tgt := 32) hX hs1 1 c3 (by decide) rfl (by decide) ?_
      refine zG.ldcS (i := 2) hX rfl rfl (by decide +kernel) ?_
      show zG C E 1 S 0 0 _ 34 [some (0, a0)] [(3, 2)] M
      cases h
      exact zG.aret hX (Or.inl ⟨_, rfl⟩) (by decide +kernel) (by decide)
    · have h := zin c3 h
      by_cases c4 : a0 = 2
      · have h := zip c4 h
        refine zG.tabIn (tgt := 35) hX hs1 2 c4 (by decide) rfl (by decide) ?_
        refine zG.ldcW (i := 3) hX rfl rfl (by decide +kernel) ?_
        show zG C E 1 S 0 0 _ 38 [some (0, a0)] [(3, 3)] M
        cases h
        exact zG.aret hX (Or.inl ⟨_, rfl⟩) (by decide +kernel) (by decide)
      · have h := zin c4 h
        refine zG.tabOut (tgt := 39) hX hs1 (by omega) (by decide) ?_
        refine zG.ldcS (i := 4) hX rfl rfl (by decide +kernel) ?_
        show zG C E 1 S 0 0 _ 41 [some (0, a0)] [(3, 4)] M
        cases h
        exact zG.aret hX (Or.inl ⟨_, rfl⟩) (by decide +kernel) (by decide)
theorem pX12_skyWord_ok {l : Launch} {E : ZE} {S : ZS} {M : ZM} {a0 : Int} {q : (Int × ZM)} (h : pX12_skyWord S M a0 = some q) : zMet l yX12_skyWord cX12_skyWord 1 (some (.object "java/lang/String")) 1 40 0 0 E S M [(0, a0)] (some (3, q.1)) S q.2 :=
  zMet.of (o := 12) (ini := false) (by decide +kernel) rfl (fun h => by cases h) (Nat.le_of_ble_eq_true rfl) (fun C hX hl hRm => by subst hl; exact pX12_skyWord_go hX hRm h)
theorem sv_12_279 : zSV 12 279 yX12_isFull cX12_isFull 3 (some .boolean) 2 := ⟨⟨gt_at 1344 (by decide +kernel) rfl, gt_at 1346 (by decide +kernel) rfl, gt_at 44 (by decide +kernel) rfl, gt_at 117 (by decide +kernel) rfl, gt_at 1347 (by decide +kernel) rfl⟩, by decide +kernel, by decide +kernel, by decide +kernel⟩
theorem ss_12_276 : zSS 12 276 yX12_skyWord cX12_skyWord 1 (some (.object "java/lang/String")) 1 := ⟨⟨gt_at 1327 (by decide +kernel) rfl, gt_at 1328 (by decide +kernel) rfl, gt_at 117 (by decide +kernel) rfl, gt_at 1329 (by decide +kernel) rfl⟩, by decide +kernel, by decide +kernel, by decide +kernel⟩
theorem sv_12_283 : zSV 12 283 yX12_skyPart cX12_skyPart 4 none 1 := ⟨⟨gt_at 1348 (by decide +kernel) rfl, gt_at 1350 (by decide +kernel) rfl, gt_at 45 (by decide +kernel) rfl, gt_at 117 (by decide +kernel) rfl, gt_at 1351 (by decide +kernel) rfl⟩, by decide +kernel, by decide +kernel, by decide +kernel⟩
noncomputable def pX12_skyClause_33 (S : ZS) (M : ZM) (x0 : Int) (x1 : Int) (x2 : Int) (x3 : Int) : Option ZM := if x3 = 4 then (if S.1 x0 = 12 then (pX12_fails S M x0 0 x2).bind fun q18 => some q18 else none) else (if S.1 x0 = 12 then (pX12_isFull S M x0 x3 x1).bind fun q6 => if q6.1 = 0 then ((pX12_skyWord S q6.2 x3).bind fun q10 => if (0 : Int) ≤ q10.1 ∧ q10.1 < (20 : Int) then zlet (upM q10.2 x0 21 (w32 ((q6.2 x0 21) + (zSl q10.1)))) fun M13 => (pX12_skyPart S M13 x0 x3).bind fun q14 => some q14 else none) else ((pX12_fails S q6.2 x0 4 x2).bind fun q16 => some q16) else none)
set_option maxHeartbeats 2000000 in
set_option maxRecDepth 20000 in
theorem pX12_skyClause_33_ok {C : ZC} {E : ZE} {S : ZS} {q : ZM} (hX : zCx C E 12 cX12_skyClause 4 none false) (hRm : czR C = { frames := 7, cells := 0, slots := 0, locals := 224 }) {M : ZM} {x0 : Int} {x1 : Int} {x2 : Int} {x3 : Int} (h : pX12_skyClause_33 S M x0 x1 x2 x3 = some q) : zG C E 4 S 0 0 (zQ C E 0 0 none S q) 33 [some (2, x0), some (0, x1), some (0, x2), some (0, x3)] [] M := by
  unfold pX12_skyClause_33 at h
  refine zG.blk (pc' := 35) (l' := [some (2, x0), some (0, x1), some (0, x2), some (0, x3)]) (st' := [(0, 4), (0, x3)]) (M' := M) hX [(.iload_n 3, 0, 0, 0), (.iconst 4, 0, 0, 0)] (by decide +kernel) rfl trivial ?_
  refine zG.icmp_ne (tgt := 45) (off := 10) hX (by decide +kernel) (by decide) (fun c5 => ?_) (fun c5 => ?_)
  · have h := zin c5 h
    refine zG.blk (pc' := 48) (l' := [some (2, x0), some (0, x1), some (0, x2), some (0, x3)]) (st' := [(0, x1), (0, x3), (2, x0)]) (M' := M) hX [(.aload_n 0, 0, 0, 0), (.iload_n 3, 0, 0, 0), (.iload_n 1, 0, 0, 0)] (by decide +kernel) rfl trivial ?_
    obtain ⟨g8, h⟩ := zif h
    obtain ⟨q6, e7, h⟩ := zbd h
    refine zG.callV (b := x0) (av := [(0, x3), (0, x1)]) (st := []) (ci := 12) hX (pX12_isFull_ok e7) sv_12_279 rfl ⟨by decide, rfl⟩ g8 (by decide +kernel) (by rw [hRm]; exact ⟨Nat.le_of_ble_eq_true rfl, Nat.le_of_ble_eq_true rfl⟩) (by rw [hRm]; exact ⟨Nat.le_of_ble_eq_true rfl, Nat.le_of_ble_eq_true rfl⟩) (Nat.le_of_ble_eq_true rfl) ?_
    show zG C E 4 S 0 0 _ 51 [some (2, x0), some (0, x1), some (0, x2), some (0, x3)] [(0, q6.1)] q6.2
    refine zG.if_eq (tgt := 61) (off := 10) hX (by decide +kernel) (by decide) (fun c9 => ?_) (fun c9 => ?_)
    · have h := zip c9 h
      refine zG.blk (pc' := 67) (l' := [some (2, x0), some (0, x1), some (0, x2), some (0, x3)]) (st' := [(0, x3), (0, q6.2 x0 21), (2, x0)]) (M' := q6.2) hX [(.aload_n 0, 0, 0, 0), (.dup, 0, 0, 0), (.getfield 174, 12, 21, 0), (.iload_n 3, 0, 0, 0)] (by decide +kernel) rfl (And.intro g8 trivial) ?_
      obtain ⟨q10, e11, h⟩ := zbd h
      refine zG.callS (av := [(0, x3)]) (st := [(0, q6.2 x0 21), (2, x0)]) hX (pX12_skyWord_ok e11) ss_12_276 rfl (by decide +kernel) (by rw [hRm]; exact ⟨Nat.le_of_ble_eq_true rfl, Nat.le_of_ble_eq_true rfl⟩) (by rw [hRm]; exact ⟨Nat.le_of_ble_eq_true rfl, Nat.le_of_ble_eq_true rfl⟩) (Nat.le_of_ble_eq_true rfl) ?_
      show zG C E 4 S 0 0 _ 70 [some (2, x0), some (0, x1), some (0, x2), some (0, x3)] [(3, q10.1), (0, q6.2 x0 21), (2, x0)] q10.2
      obtain ⟨g12, h⟩ := zif h
      refine zG.slen hX sv_12_184 g12 (by decide +kernel) (by rw [hRm]; exact ⟨Nat.le_of_ble_eq_true rfl, Nat.le_of_ble_eq_true rfl⟩) (by rw [hRm]; exact ⟨Nat.le_of_ble_eq_true rfl, Nat.le_of_ble_eq_true rfl⟩) (Nat.le_of_ble_eq_true rfl) ?_
      show zG C E 4 S 0 0 _ 73 [some (2, x0), some (0, x1), some (0, x2), some (0, x3)] [(0, zSl q10.1), (0, q6.2 x0 21), (2, x0)] q10.2
      refine zG.blk (pc' := 77) (l' := [some (2, x0), some (0, x1), some (0, x2), some (0, x3)]) (st' := []) (M' := (upM q10.2 x0 21 (w32 ((q6.2 x0 21) + (zSl q10.1))))) hX [(.iadd, 0, 0, 0), (.putfield 174, 12, 21, 0)] (by decide +kernel) rfl (And.intro g8 trivial) ?_
      generalize upM q10.2 x0 21 (w32 ((q6.2 x0 21) + (zSl q10.1))) = M13 at h ⊢
      have h := zlt h
      refine zG.blk (pc' := 79) (l' := [some (2, x0), some (0, x1), some (0, x2), some (0, x3)]) (st' := [(0, x3), (2, x0)]) (M' := M13) hX [(.aload_n 0, 0, 0, 0), (.iload_n 3, 0, 0, 0)] (by decide +kernel) rfl trivial ?_
      obtain ⟨q14, e15, h⟩ := zbd h
      refine zG.callV (b := x0) (av := [(0, x3)]) (st := []) (ci := 12) hX (pX12_skyPart_ok e15) sv_12_283 rfl ⟨by decide, rfl⟩ g8 (by decide +kernel) (by rw [hRm]; exact ⟨Nat.le_of_ble_eq_true rfl, Nat.le_of_ble_eq_true rfl⟩) (by rw [hRm]; exact ⟨Nat.le_of_ble_eq_true rfl, Nat.le_of_ble_eq_true rfl⟩) (Nat.le_of_ble_eq_true rfl) ?_
      show zG C E 4 S 0 0 _ 82 [some (2, x0), some (0, x1), some (0, x2), some (0, x3)] [] q14
      cases h
      exact zG.vret hX (by decide +kernel)
    · have h := zin c9 h
      refine zG.blk (pc' := 57) (l' := [some (2, x0), some (0, x1), some (0, x2), some (0, x3)]) (st' := [(0, x2), (0, 4), (2, x0)]) (M' := q6.2) hX [(.aload_n 0, 0, 0, 0), (.iconst 4, 0, 0, 0), (.iload_n 2, 0, 0, 0)] (by decide +kernel) rfl trivial ?_
      obtain ⟨q16, e17, h⟩ := zbd h
      refine zG.callV (b := x0) (av := [(0, 4), (0, x2)]) (st := []) (ci := 12) hX (pX12_fails_ok e17) sv_12_209 rfl ⟨by decide, rfl⟩ g8 (by decide +kernel) (by rw [hRm]; exact ⟨Nat.le_of_ble_eq_true rfl, Nat.le_of_ble_eq_true rfl⟩) (by rw [hRm]; exact ⟨Nat.le_of_ble_eq_true rfl, Nat.le_of_ble_eq_true rfl⟩) (Nat.le_of_ble_eq_true rfl) ?_
      show zG C E 4 S 0 0 _ 60 [some (2, x0), some (0, x1), some (0, x2), some (0, x3)] [] q16
      cases h
      exact zG.vret hX (by decide +kernel)
  · have h := zip c5 h
    refine zG.blk (pc' := 41) (l' := [some (2, x0), some (0, x1), some (0, x2), some (0, x3)]) (st' := [(0, x2), (0, 0), (2, x0)]) (M' := M) hX [(.aload_n 0, 0, 0, 0), (.iconst 0, 0, 0, 0), (.iload_n 2, 0, 0, 0)] (by decide +kernel) rfl trivial ?_
    obtain ⟨g20, h⟩ := zif h
    obtain ⟨q18, e19, h⟩ := zbd h
    refine zG.callV (b := x0) (av := [(0, 0), (0, x2)]) (st := []) (ci := 12) hX (pX12_fails_ok e19) sv_12_209 rfl ⟨by decide, rfl⟩ g20 (by decide +kernel) (by rw [hRm]; exact ⟨Nat.le_of_ble_eq_true rfl, Nat.le_of_ble_eq_true rfl⟩) (by rw [hRm]; exact ⟨Nat.le_of_ble_eq_true rfl, Nat.le_of_ble_eq_true rfl⟩) (Nat.le_of_ble_eq_true rfl) ?_
    show zG C E 4 S 0 0 _ 44 [some (2, x0), some (0, x1), some (0, x2), some (0, x3)] [] q18
    cases h
    exact zG.vret hX (by decide +kernel)
noncomputable def pX12_skyClause_11 (S : ZS) : Nat → ZM → Int → Int → Int → Int → Option ZM
  | 0 => fun _ _ _ _ _ => none
  | n + 1 => fun M x0 x1 x2 x3 => if 4 ≤ x3 then (pX12_skyClause_33 S M x0 x1 x2 x3) else ((pX12_skyWord S M x3).bind fun q21 => if S.1 x0 = 12 then (pX12_stood S q21.2 x0 q21.1).bind fun q23 => if q23.1 = 0 then (pX12_skyClause_11 S n q23.2 x0 x1 x2 (w32 (x3 + 1))) else (pX12_skyClause_33 S q23.2 x0 x1 x2 x3) else none)
set_option maxHeartbeats 2000000 in
set_option maxRecDepth 20000 in
theorem pX12_skyClause_11_ok {C : ZC} {E : ZE} {S : ZS} {q : ZM} (hX : zCx C E 12 cX12_skyClause 4 none false) (hRm : czR C = { frames := 7, cells := 0, slots := 0, locals := 224 }) : ∀ (n : Nat) (M : ZM) (x0 : Int) (x1 : Int) (x2 : Int) (x3 : Int), pX12_skyClause_11 S n M x0 x1 x2 x3 = some q → zG C E 4 S 0 0 (zQ C E 0 0 none S q) 11 [some (2, x0), some (0, x1), some (0, x2), some (0, x3)] [] M := by
  intro n
  induction n with
  | zero => intro M x0 x1 x2 x3 h; cases h
  | succ n ih =>
    intro M x0 x1 x2 x3 h
    unfold pX12_skyClause_11 at h
    refine zG.blk (pc' := 13) (l' := [some (2, x0), some (0, x1), some (0, x2), some (0, x3)]) (st' := [(0, 4), (0, x3)]) (M' := M) hX [(.iload_n 3, 0, 0, 0), (.iconst 4, 0, 0, 0)] (by decide +kernel) rfl trivial ?_
    refine zG.icmp_ge (tgt := 33) (off := 20) hX (by decide +kernel) (by decide) (fun c4 => ?_) (fun c4 => ?_)
    · have h := zip c4 h
      exact (pX12_skyClause_33_ok hX hRm h)
    · have h := zin c4 h
      refine zG.blk (pc' := 18) (l' := [some (2, x0), some (0, x1), some (0, x2), some (0, x3)]) (st' := [(0, x3), (2, x0)]) (M' := M) hX [(.aload_n 0, 0, 0, 0), (.iload_n 3, 0, 0, 0)] (by decide +kernel) rfl trivial ?_
      obtain ⟨q21, e22, h⟩ := zbd h
      refine zG.callS (av := [(0, x3)]) (st := [(2, x0)]) hX (pX12_skyWord_ok e22) ss_12_276 rfl (by decide +kernel) (by rw [hRm]; exact ⟨Nat.le_of_ble_eq_true rfl, Nat.le_of_ble_eq_true rfl⟩) (by rw [hRm]; exact ⟨Nat.le_of_ble_eq_true rfl, Nat.le_of_ble_eq_true rfl⟩) (Nat.le_of_ble_eq_true rfl) ?_
      show zG C E 4 S 0 0 _ 21 [some (2, x0), some (0, x1), some (0, x2), some (0, x3)] [(3, q21.1), (2, x0)] q21.2
      obtain ⟨g25, h⟩ := zif h
      obtain ⟨q23, e24, h⟩ := zbd h
      refine zG.callV (b := x0) (av := [(3, q21.1)]) (st := []) (ci := 12) hX (pX12_stood_ok e24) sv_12_196 rfl ⟨by decide, rfl⟩ g25 (by decide +kernel) (by rw [hRm]; exact ⟨Nat.le_of_ble_eq_true rfl, Nat.le_of_ble_eq_true rfl⟩) (by rw [hRm]; exact ⟨Nat.le_of_ble_eq_true rfl, Nat.le_of_ble_eq_true rfl⟩) (Nat.le_of_ble_eq_true rfl) ?_
      show zG C E 4 S 0 0 _ 24 [some (2, x0), some (0, x1), some (0, x2), some (0, x3)] [(0, q23.1)] q23.2
      refine zG.if_ne (tgt := 33) (off := 9) hX (by decide +kernel) (by decide) (fun c26 => ?_) (fun c26 => ?_)
      · have h := zin c26 h
        exact (pX12_skyClause_33_ok hX hRm h)
      · have h := zip c26 h
        refine zG.blk (pc' := 30) (l' := [some (2, x0), some (0, x1), some (0, x2), some (0, w32 (x3 + 1))]) (st' := []) (M' := q23.2) hX [(.iinc 3 1, 0, 0, 0)] (by decide +kernel) rfl trivial ?_
        refine zG.goto (tgt := 11) (off := (-19)) hX (by decide +kernel) (by decide) ?_
        exact ih _ _ _ _ _ h
noncomputable def pX12_skyClause (S : ZS) (M : ZM) (a0 : Int) (a1 : Int) : Option ZM := if S.1 a0 = 12 then (pX12_blanks S M a0).bind fun q1 => pX12_skyClause_11 S zFU q1 a0 a1 (q1 a0 21) 0 else none
set_option maxHeartbeats 2000000 in
set_option maxRecDepth 20000 in
theorem pX12_skyClause_go {C : ZC} {E : ZE} {S : ZS} {M : ZM} {a0 a1 : Int} {q : ZM} (hX : zCx C E 12 cX12_skyClause 4 none false) (hRm : czR C = { frames := 7, cells := 0, slots := 0, locals := 224 }) (h : pX12_skyClause  S M a0 a1 = some q) : zG C E 4 S 0 0 (zQ C E 0 0 none S q) 0 [some (2, a0), some (0, a1), none, none] [] M := by
  unfold pX12_skyClause at h
  refine zG.blk (pc' := 1) (l' := [some (2, a0), some (0, a1), none, none]) (st' := [(2, a0)]) (M' := M) hX [(.aload_n 0, 0, 0, 0)] (by decide +kernel) rfl trivial ?_
  obtain ⟨g3, h⟩ := zif h
  obtain ⟨q1, e2, h⟩ := zbd h
  refine zG.callV (b := a0) (av := []) (st := []) (ci := 12) hX (pX12_blanks_ok e2) sv_12_193 rfl ⟨by decide, rfl⟩ g3 (by decide +kernel) (by rw [hRm]; exact ⟨Nat.le_of_ble_eq_true rfl, Nat.le_of_ble_eq_true rfl⟩) (by rw [hRm]; exact ⟨Nat.le_of_ble_eq_true rfl, Nat.le_of_ble_eq_true rfl⟩) (Nat.le_of_ble_eq_true rfl) ?_
  show zG C E 4 S 0 0 _ 4 [some (2, a0), some (0, a1), none, none] [] q1
  refine zG.blk (pc' := 11) (l' := [some (2, a0), some (0, a1), some (0, q1 a0 21), some (0, 0)]) (st' := []) (M' := q1) hX [(.aload_n 0, 0, 0, 0), (.getfield 174, 12, 21, 0), (.istore_n 2, 0, 0, 0), (.iconst 0, 0, 0, 0), (.istore_n 3, 0, 0, 0)] (by decide +kernel) rfl (And.intro g3 trivial) ?_
  exact (pX12_skyClause_11_ok hX hRm zFU _ _ _ _ _ h)
theorem pX12_skyClause_ok {l : Launch} {E : ZE} {S : ZS} {M : ZM} {a0 a1 : Int} {q : ZM} (h : pX12_skyClause S M a0 a1 = some q) : zMet l yX12_skyClause cX12_skyClause 4 none 7 224 0 0 E S M [(2, a0), (0, a1)] (none) S q :=
  zMet.of (o := 12) (ini := false) (by decide +kernel) rfl (fun h => by cases h) (Nat.le_of_ble_eq_true rfl) (fun C hX hl hRm => by subst hl; exact pX12_skyClause_go hX hRm h)
theorem sv_12_286 : zSV 12 286 yX12_starts cX12_starts 1 none 0 := ⟨⟨gt_at 1311 (by decide +kernel) rfl, gt_at 1313 (by decide +kernel) rfl, gt_at 38 (by decide +kernel) rfl, gt_at 117 (by decide +kernel) rfl, gt_at 1314 (by decide +kernel) rfl⟩, by decide +kernel, by decide +kernel, by decide +kernel⟩
theorem sv_12_289 : zSV 12 289 yX12_skyClause cX12_skyClause 4 none 1 := ⟨⟨gt_at 1315 (by decide +kernel) rfl, gt_at 1317 (by decide +kernel) rfl, gt_at 39 (by decide +kernel) rfl, gt_at 117 (by decide +kernel) rfl, gt_at 1318 (by decide +kernel) rfl⟩, by decide +kernel, by decide +kernel, by decide +kernel⟩
theorem sv_12_292 : zSV 12 292 yX12_goesOn cX12_goesOn 2 (some .boolean) 0 := ⟨⟨gt_at 1370 (by decide +kernel) rfl, gt_at 1372 (by decide +kernel) rfl, gt_at 49 (by decide +kernel) rfl, gt_at 117 (by decide +kernel) rfl, gt_at 1373 (by decide +kernel) rfl⟩, by decide +kernel, by decide +kernel, by decide +kernel⟩
noncomputable def pX12_readsAll_49 (S : ZS) : Nat → ZM → Int → Int → Int → Option ZM
  | 0 => fun _ _ _ _ => none
  | n + 1 => fun M x0 x1 x2 => if x2 = 0 then (if S.1 x0 = 12 then zlet (upM M x0 20 0) fun M8 => some M8 else none) else (if S.1 x0 = 12 then (pX12_skyClause S M x0 x1).bind fun q9 => (pX12_goesOn S q9 x0).bind fun q12 => pX12_readsAll_49 S n q12.2 x0 (w32 (x1 + 1)) q12.1 else none)
set_option maxHeartbeats 2000000 in
set_option maxRecDepth 20000 in
theorem pX12_readsAll_49_ok {C : ZC} {E : ZE} {S : ZS} {q : ZM} (hX : zCx C E 12 cX12_readsAll 3 none false) (hRm : czR C = { frames := 8, cells := 0, slots := 0, locals := 247 }) : ∀ (n : Nat) (M : ZM) (x0 : Int) (x1 : Int) (x2 : Int), pX12_readsAll_49 S n M x0 x1 x2 = some q → zG C E 3 S 0 0 (zQ C E 0 0 none S q) 49 [some (2, x0), some (0, x1), some (0, x2)] [] M := by
  intro n
  induction n with
  | zero => intro M x0 x1 x2 h; cases h
  | succ n ih =>
    intro M x0 x1 x2 h
    unfold pX12_readsAll_49 at h
    refine zG.blk (pc' := 50) (l' := [some (2, x0), some (0, x1), some (0, x2)]) (st' := [(0, x2)]) (M' := M) hX [(.iload_n 2, 0, 0, 0)] (by decide +kernel) rfl trivial ?_
    refine zG.if_eq (tgt := 69) (off := 19) hX (by decide +kernel) (by decide) (fun c6 => ?_) (fun c6 => ?_)
    · have h := zip c6 h
      obtain ⟨g7, h⟩ := zif h
      refine zG.blk (pc' := 74) (l' := [some (2, x0), some (0, x1), some (0, x2)]) (st' := []) (M' := (upM M x0 20 0)) hX [(.aload_n 0, 0, 0, 0), (.iconst 0, 0, 0, 0), (.putfield 142, 12, 20, 0)] (by decide +kernel) rfl (And.intro g7 trivial) ?_
      generalize upM M x0 20 0 = M8 at h ⊢
      have h := zlt h
      cases h
      exact zG.vret hX (by decide +kernel)
    · have h := zin c6 h
      refine zG.blk (pc' := 55) (l' := [some (2, x0), some (0, x1), some (0, x2)]) (st' := [(0, x1), (2, x0)]) (M' := M) hX [(.aload_n 0, 0, 0, 0), (.iload_n 1, 0, 0, 0)] (by decide +kernel) rfl trivial ?_
      obtain ⟨g11, h⟩ := zif h
      obtain ⟨q9, e10, h⟩ := zbd h
      refine zG.callV (b := x0) (av := [(0, x1)]) (st := []) (ci := 12) hX (pX12_skyClause_ok e10) sv_12_289 rfl ⟨by decide, rfl⟩ g11 (by decide +kernel) (by rw [hRm]; exact ⟨Nat.le_of_ble_eq_true rfl, Nat.le_of_ble_eq_true rfl⟩) (by rw [hRm]; exact ⟨Nat.le_of_ble_eq_true rfl, Nat.le_of_ble_eq_true rfl⟩) (Nat.le_of_ble_eq_true rfl) ?_
      show zG C E 3 S 0 0 _ 58 [some (2, x0), some (0, x1), some (0, x2)] [] q9
      refine zG.blk (pc' := 62) (l' := [some (2, x0), some (0, w32 (x1 + 1)), some (0, x2)]) (st' := [(2, x0)]) (M' := q9) hX [(.iinc 1 1, 0, 0, 0), (.aload_n 0, 0, 0, 0)] (by decide +kernel) rfl trivial ?_
      obtain ⟨q12, e13, h⟩ := zbd h
      refine zG.callV (b := x0) (av := []) (st := []) (ci := 12) hX (pX12_goesOn_ok e13) sv_12_292 rfl ⟨by decide, rfl⟩ g11 (by decide +kernel) (by rw [hRm]; exact ⟨Nat.le_of_ble_eq_true rfl, Nat.le_of_ble_eq_true rfl⟩) (by rw [hRm]; exact ⟨Nat.le_of_ble_eq_true rfl, Nat.le_of_ble_eq_true rfl⟩) (Nat.le_of_ble_eq_true rfl) ?_
      show zG C E 3 S 0 0 _ 65 [some (2, x0), some (0, w32 (x1 + 1)), some (0, x2)] [(0, q12.1)] q12.2
      refine zG.blk (pc' := 66) (l' := [some (2, x0), some (0, w32 (x1 + 1)), some (0, q12.1)]) (st' := []) (M' := q12.2) hX [(.istore_n 2, 0, 0, 0)] (by decide +kernel) rfl trivial ?_
      refine zG.goto (tgt := 49) (off := (-17)) hX (by decide +kernel) (by decide) ?_
      exact ih _ _ _ _ h
noncomputable def pX12_readsAll_26 (S : ZS) : Nat → ZM → Int → Int → Option ZM
  | 0 => fun _ _ _ => none
  | n + 1 => fun M x0 x1 => if 36 ≤ x1 then (pX12_readsAll_49 S zFU M x0 0 1) else (if S.1 x0 = 12 then if S.1 (M x0 19) = 100 ∧ (0 : Int) ≤ x1 ∧ x1 < S.2.1 (M x0 19) then zlet (upM M (M x0 19) x1 0) fun M16 => pX12_readsAll_26 S n M16 x0 (w32 (x1 + 1)) else none else none)
set_option maxHeartbeats 2000000 in
set_option maxRecDepth 20000 in
theorem pX12_readsAll_26_ok {C : ZC} {E : ZE} {S : ZS} {q : ZM} (hX : zCx C E 12 cX12_readsAll 3 none false) (hRm : czR C = { frames := 8, cells := 0, slots := 0, locals := 247 }) : ∀ (n : Nat) (M : ZM) (x0 : Int) (x1 : Int), pX12_readsAll_26 S n M x0 x1 = some q → zG C E 3 S 0 0 (zQ C E 0 0 none S q) 26 [some (2, x0), some (0, x1), none] [] M := by
  intro n
  induction n with
  | zero => intro M x0 x1 h; cases h
  | succ n ih =>
    intro M x0 x1 h
    unfold pX12_readsAll_26 at h
    refine zG.blk (pc' := 29) (l' := [some (2, x0), some (0, x1), none]) (st' := [(0, 36), (0, x1)]) (M' := M) hX [(.iload_n 1, 0, 0, 0), (.bipush 36, 0, 0, 0)] (by decide +kernel) rfl trivial ?_
    refine zG.icmp_ge (tgt := 45) (off := 16) hX (by decide +kernel) (by decide) (fun c5 => ?_) (fun c5 => ?_)
    · have h := zip c5 h
      refine zG.blk (pc' := 49) (l' := [some (2, x0), some (0, 0), some (0, 1)]) (st' := []) (M' := M) hX [(.iconst 0, 0, 0, 0), (.istore_n 1, 0, 0, 0), (.iconst 1, 0, 0, 0), (.istore_n 2, 0, 0, 0)] (by decide +kernel) rfl trivial ?_
      exact (pX12_readsAll_49_ok hX hRm zFU _ _ _ _ h)
    · have h := zin c5 h
      obtain ⟨g14, h⟩ := zif h
      obtain ⟨g15, h⟩ := zif h
      refine zG.blk (pc' := 39) (l' := [some (2, x0), some (0, x1), none]) (st' := []) (M' := (upM M (M x0 19) x1 0)) hX [(.aload_n 0, 0, 0, 0), (.getfield 64, 12, 19, 2), (.iload_n 1, 0, 0, 0), (.iconst 0, 0, 0, 0), (.iastore, 0, 0, 0)] (by decide +kernel) rfl (And.intro g14 (And.intro g15 trivial)) ?_
      generalize upM M (M x0 19) x1 0 = M16 at h ⊢
      have h := zlt h
      refine zG.blk (pc' := 42) (l' := [some (2, x0), some (0, w32 (x1 + 1)), none]) (st' := []) (M' := M16) hX [(.iinc 1 1, 0, 0, 0)] (by decide +kernel) rfl trivial ?_
      refine zG.goto (tgt := 26) (off := (-16)) hX (by decide +kernel) (by decide) ?_
      exact ih _ _ _ h
noncomputable def pX12_readsAll_6 (S : ZS) : Nat → ZM → Int → Int → Option ZM
  | 0 => fun _ _ _ => none
  | n + 1 => fun M x0 x1 => if 4 ≤ x1 then (pX12_readsAll_26 S zFU M x0 0) else (if S.1 x0 = 12 then if S.1 (M x0 14) = 100 ∧ (0 : Int) ≤ x1 ∧ x1 < S.2.1 (M x0 14) then zlet (upM M (M x0 14) x1 0) fun M19 => pX12_readsAll_6 S n M19 x0 (w32 (x1 + 1)) else none else none)
set_option maxHeartbeats 2000000 in
set_option maxRecDepth 20000 in
theorem pX12_readsAll_6_ok {C : ZC} {E : ZE} {S : ZS} {q : ZM} (hX : zCx C E 12 cX12_readsAll 3 none false) (hRm : czR C = { frames := 8, cells := 0, slots := 0, locals := 247 }) : ∀ (n : Nat) (M : ZM) (x0 : Int) (x1 : Int), pX12_readsAll_6 S n M x0 x1 = some q → zG C E 3 S 0 0 (zQ C E 0 0 none S q) 6 [some (2, x0), some (0, x1), none] [] M := by
  intro n
  induction n with
  | zero => intro M x0 x1 h; cases h
  | succ n ih =>
    intro M x0 x1 h
    unfold pX12_readsAll_6 at h
    refine zG.blk (pc' := 8) (l' := [some (2, x0), some (0, x1), none]) (st' := [(0, 4), (0, x1)]) (M' := M) hX [(.iload_n 1, 0, 0, 0), (.iconst 4, 0, 0, 0)] (by decide +kernel) rfl trivial ?_
    refine zG.icmp_ge (tgt := 24) (off := 16) hX (by decide +kernel) (by decide) (fun c4 => ?_) (fun c4 => ?_)
    · have h := zip c4 h
      refine zG.blk (pc' := 26) (l' := [some (2, x0), some (0, 0), none]) (st' := []) (M' := M) hX [(.iconst 0, 0, 0, 0), (.istore_n 1, 0, 0, 0)] (by decide +kernel) rfl trivial ?_
      exact (pX12_readsAll_26_ok hX hRm zFU _ _ _ h)
    · have h := zin c4 h
      obtain ⟨g17, h⟩ := zif h
      obtain ⟨g18, h⟩ := zif h
      refine zG.blk (pc' := 18) (l' := [some (2, x0), some (0, x1), none]) (st' := []) (M' := (upM M (M x0 14) x1 0)) hX [(.aload_n 0, 0, 0, 0), (.getfield 49, 12, 14, 2), (.iload_n 1, 0, 0, 0), (.iconst 0, 0, 0, 0), (.iastore, 0, 0, 0)] (by decide +kernel) rfl (And.intro g17 (And.intro g18 trivial)) ?_
      generalize upM M (M x0 14) x1 0 = M19 at h ⊢
      have h := zlt h
      refine zG.blk (pc' := 21) (l' := [some (2, x0), some (0, w32 (x1 + 1)), none]) (st' := []) (M' := M19) hX [(.iinc 1 1, 0, 0, 0)] (by decide +kernel) rfl trivial ?_
      refine zG.goto (tgt := 6) (off := (-15)) hX (by decide +kernel) (by decide) ?_
      exact ih _ _ _ h
noncomputable def pX12_readsAll (S : ZS) (M : ZM) (a0 : Int) : Option ZM := if S.1 a0 = 12 then (pX12_starts S M a0).bind fun q1 => pX12_readsAll_6 S zFU q1 a0 0 else none
set_option maxHeartbeats 2000000 in
set_option maxRecDepth 20000 in
theorem pX12_readsAll_go {C : ZC} {E : ZE} {S : ZS} {M : ZM} {a0 : Int} {q : ZM} (hX : zCx C E 12 cX12_readsAll 3 none false) (hRm : czR C = { frames := 8, cells := 0, slots := 0, locals := 247 }) (h : pX12_readsAll  S M a0 = some q) : zG C E 3 S 0 0 (zQ C E 0 0 none S q) 0 [some (2, a0), none, none] [] M := by
  unfold pX12_readsAll at h
  refine zG.blk (pc' := 1) (l' := [some (2, a0), none, none]) (st' := [(2, a0)]) (M' := M) hX [(.aload_n 0, 0, 0, 0)] (by decide +kernel) rfl trivial ?_
  obtain ⟨g3, h⟩ := zif h
  obtain ⟨q1, e2, h⟩ := zbd h
  refine zG.callV (b := a0) (av := []) (st := []) (ci := 12) hX (pX12_starts_ok e2) sv_12_286 rfl ⟨by decide, rfl⟩ g3 (by decide +kernel) (by rw [hRm]; exact ⟨Nat.le_of_ble_eq_true rfl, Nat.le_of_ble_eq_true rfl⟩) (by rw [hRm]; exact ⟨Nat.le_of_ble_eq_true rfl, Nat.le_of_ble_eq_true rfl⟩) (Nat.le_of_ble_eq_true rfl) ?_
  show zG C E 3 S 0 0 _ 4 [some (2, a0), none, none] [] q1
  refine zG.blk (pc' := 6) (l' := [some (2, a0), some (0, 0), none]) (st' := []) (M' := q1) hX [(.iconst 0, 0, 0, 0), (.istore_n 1, 0, 0, 0)] (by decide +kernel) rfl trivial ?_
  exact (pX12_readsAll_6_ok hX hRm zFU _ _ _ h)
theorem pX12_readsAll_ok {l : Launch} {E : ZE} {S : ZS} {M : ZM} {a0 : Int} {q : ZM} (h : pX12_readsAll S M a0 = some q) : zMet l yX12_readsAll cX12_readsAll 3 none 8 247 0 0 E S M [(2, a0)] (none) S q :=
  zMet.of (o := 12) (ini := false) (by decide +kernel) rfl (fun h => by cases h) (Nat.le_of_ble_eq_true rfl) (fun C hX hl hRm => by subst hl; exact pX12_readsAll_go hX hRm h)
noncomputable def pX12_takes_27 (S : ZS) (M : ZM) (x2 : Int) (y0 : Int) (y1 : Int) (y2 : Int) : Option (Int × ZM) := if S.1 y2 = 12 then zlet (upM M y2 21 (w32 (y1 + y0))) fun M8 => if x2 = 0 ∨ x2 = 1 then some (x2, M8) else none else none
set_option maxHeartbeats 2000000 in
set_option maxRecDepth 20000 in
theorem pX12_takes_27_ok {C : ZC} {E : ZE} {S : ZS} {q : (Int × ZM)} (hX : zCx C E 12 cX12_takes 3 (some .boolean) false) (hRm : czR C = { frames := 7, cells := 0, slots := 0, locals := 224 }) {M : ZM} {x2 : Int} {y0 : Int} {y1 : Int} {y2 : Int} (h : pX12_takes_27 S M x2 y0 y1 y2 = some q) : zG C E 3 S 0 0 (zQ C E 0 0 (some (0, q.1)) S q.2) 27 [none, none, some (0, x2)] [(0, y0), (0, y1), (2, y2)] M := by
  unfold pX12_takes_27 at h
  obtain ⟨g7, h⟩ := zif h
  refine zG.blk (pc' := 31) (l' := [none, none, some (0, x2)]) (st' := []) (M' := (upM M y2 21 (w32 (y1 + y0)))) hX [(.iadd, 0, 0, 0), (.putfield 174, 12, 21, 0)] (by decide +kernel) rfl (And.intro g7 trivial) ?_
  generalize upM M y2 21 (w32 (y1 + y0)) = M8 at h ⊢
  have h := zlt h
  refine zG.blk (pc' := 32) (l' := [none, none, some (0, x2)]) (st' := [(0, x2)]) (M' := M8) hX [(.iload_n 2, 0, 0, 0)] (by decide +kernel) rfl trivial ?_
  obtain ⟨g9, h⟩ := zif h
  cases h
  exact zG.zret hX (by decide +kernel) g9
noncomputable def pX12_takes (S : ZS) (M : ZM) (a0 : Int) (a1 : Int) : Option (Int × ZM) := if S.1 a0 = 12 then (pX12_blanks S M a0).bind fun q1 => (pX12_stood S q1 a0 a1).bind fun q4 => if q4.1 = 0 then (pX12_takes_27 S q4.2 q4.1 0 (q4.2 a0 21) a0) else (if (0 : Int) ≤ a1 ∧ a1 < (20 : Int) then pX12_takes_27 S q4.2 q4.1 (zSl a1) (q4.2 a0 21) a0 else none) else none
set_option maxHeartbeats 2000000 in
set_option maxRecDepth 20000 in
theorem pX12_takes_go {C : ZC} {E : ZE} {S : ZS} {M : ZM} {a0 a1 : Int} {q : (Int × ZM)} (hX : zCx C E 12 cX12_takes 3 (some .boolean) false) (hRm : czR C = { frames := 7, cells := 0, slots := 0, locals := 224 }) (h : pX12_takes  S M a0 a1 = some q) : zG C E 3 S 0 0 (zQ C E 0 0 (some (0, q.1)) S q.2) 0 [some (2, a0), some (3, a1), none] [] M := by
  unfold pX12_takes at h
  refine zG.blk (pc' := 1) (l' := [some (2, a0), some (3, a1), none]) (st' := [(2, a0)]) (M' := M) hX [(.aload_n 0, 0, 0, 0)] (by decide +kernel) rfl trivial ?_
  obtain ⟨g3, h⟩ := zif h
  obtain ⟨q1, e2, h⟩ := zbd h
  refine zG.callV (b := a0) (av := []) (st := []) (ci := 12) hX (pX12_blanks_ok e2) sv_12_193 rfl ⟨by decide, rfl⟩ g3 (by decide +kernel) (by rw [hRm]; exact ⟨Nat.le_of_ble_eq_true rfl, Nat.le_of_ble_eq_true rfl⟩) (by rw [hRm]; exact ⟨Nat.le_of_ble_eq_true rfl, Nat.le_of_ble_eq_true rfl⟩) (Nat.le_of_ble_eq_true rfl) ?_
  show zG C E 3 S 0 0 _ 4 [some (2, a0), some (3, a1), none] [] q1
  refine zG.blk (pc' := 6) (l' := [some (2, a0), some (3, a1), none]) (st' := [(3, a1), (2, a0)]) (M' := q1) hX [(.aload_n 0, 0, 0, 0), (.aload_n 1, 0, 0, 0)] (by decide +kernel) rfl trivial ?_
  obtain ⟨q4, e5, h⟩ := zbd h
  refine zG.callV (b := a0) (av := [(3, a1)]) (st := []) (ci := 12) hX (pX12_stood_ok e5) sv_12_196 rfl ⟨by decide, rfl⟩ g3 (by decide +kernel) (by rw [hRm]; exact ⟨Nat.le_of_ble_eq_true rfl, Nat.le_of_ble_eq_true rfl⟩) (by rw [hRm]; exact ⟨Nat.le_of_ble_eq_true rfl, Nat.le_of_ble_eq_true rfl⟩) (Nat.le_of_ble_eq_true rfl) ?_
  show zG C E 3 S 0 0 _ 9 [some (2, a0), some (3, a1), none] [(0, q4.1)] q4.2
  refine zG.blk (pc' := 16) (l' := [some (2, a0), some (3, a1), some (0, q4.1)]) (st' := [(0, q4.1), (0, q4.2 a0 21), (2, a0)]) (M' := q4.2) hX [(.istore_n 2, 0, 0, 0), (.aload_n 0, 0, 0, 0), (.dup, 0, 0, 0), (.getfield 174, 12, 21, 0), (.iload_n 2, 0, 0, 0)] (by decide +kernel) rfl (And.intro g3 trivial) ?_
  refine zG.if_eq (tgt := 26) (off := 10) hX (by decide +kernel) (by decide) (fun c6 => ?_) (fun c6 => ?_)
  · have h := zip c6 h
    refine zG.blk (pc' := 27) (l' := [some (2, a0), some (3, a1), some (0, q4.1)]) (st' := [(0, 0), (0, q4.2 a0 21), (2, a0)]) (M' := q4.2) hX [(.iconst 0, 0, 0, 0)] (by decide +kernel) rfl trivial ?_
    exact zG.wk [false, false, true] (pX12_takes_27_ok hX hRm h)
  · have h := zin c6 h
    refine zG.blk (pc' := 20) (l' := [some (2, a0), some (3, a1), some (0, q4.1)]) (st' := [(3, a1), (0, q4.2 a0 21), (2, a0)]) (M' := q4.2) hX [(.aload_n 1, 0, 0, 0)] (by decide +kernel) rfl trivial ?_
    obtain ⟨g10, h⟩ := zif h
    refine zG.slen hX sv_12_184 g10 (by decide +kernel) (by rw [hRm]; exact ⟨Nat.le_of_ble_eq_true rfl, Nat.le_of_ble_eq_true rfl⟩) (by rw [hRm]; exact ⟨Nat.le_of_ble_eq_true rfl, Nat.le_of_ble_eq_true rfl⟩) (Nat.le_of_ble_eq_true rfl) ?_
    show zG C E 3 S 0 0 _ 23 [some (2, a0), some (3, a1), some (0, q4.1)] [(0, zSl a1), (0, q4.2 a0 21), (2, a0)] q4.2
    refine zG.goto (tgt := 27) (off := 4) hX (by decide +kernel) (by decide) ?_
    exact zG.wk [false, false, true] (pX12_takes_27_ok hX hRm h)
theorem pX12_takes_ok {l : Launch} {E : ZE} {S : ZS} {M : ZM} {a0 a1 : Int} {q : (Int × ZM)} (h : pX12_takes S M a0 a1 = some q) : zMet l yX12_takes cX12_takes 3 (some .boolean) 7 224 0 0 E S M [(2, a0), (3, a1)] (some (0, q.1)) S q.2 :=
  zMet.of (o := 12) (ini := false) (by decide +kernel) rfl (fun h => by cases h) (Nat.le_of_ble_eq_true rfl) (fun C hX hl hRm => by subst hl; exact pX12_takes_go hX hRm h)
noncomputable def pX12_test_202 (S : ZS) (M : ZM) : Option ZM := some M
set_option maxHeartbeats 2000000 in
set_option maxRecDepth 20000 in
theorem pX12_test_202_ok {C : ZC} {E : ZE} {S : ZS} {q : ZM} (hX : zCx C E 12 cX12_test 5 none false) (hRm : czR C = { frames := 12, cells := 0, slots := 0, locals := 330 }) {M : ZM} (h : pX12_test_202 S M = some q) : zG C E 5 S 0 0 (zQ C E 0 0 none S q) 202 [none, none, none, none, none] [] M := by
  unfold pX12_test_202 at h
  cases h
  exact zG.vret hX (by decide +kernel)
theorem sv_12_261 : zSV 12 261 yX12_answers cX12_answers 2 none 1 := ⟨⟨gt_at 1445 (by decide +kernel) rfl, gt_at 1447 (by decide +kernel) rfl, gt_at 62 (by decide +kernel) rfl, gt_at 117 (by decide +kernel) rfl, gt_at 1448 (by decide +kernel) rfl⟩, by decide +kernel, by decide +kernel, by decide +kernel⟩
noncomputable def pX12_test_199 (S : ZS) (k9 : ZM → Int → Int → Int → Option ZM) (M : ZM) (x0 : Int) (x1 : Int) (x2 : Int) : Option ZM := k9 M x0 x1 x2
set_option maxHeartbeats 2000000 in
set_option maxRecDepth 20000 in
theorem pX12_test_199_ok {C : ZC} {E : ZE} {S : ZS} {k9 : ZM → Int → Int → Int → Option ZM} {q : ZM} (hX : zCx C E 12 cX12_test 5 none false) (hRm : czR C = { frames := 12, cells := 0, slots := 0, locals := 330 }) (hk9 : ∀ M x0 x1 x2, k9 M x0 x1 x2 = some q → zG C E 5 S 0 0 (zQ C E 0 0 none S q) 9 [some (2, x0), some (0, x1), some (0, x2), none, none] [] M) {M : ZM} {x0 : Int} {x1 : Int} {x2 : Int} (h : pX12_test_199 S k9 M x0 x1 x2 = some q) : zG C E 5 S 0 0 (zQ C E 0 0 none S q) 199 [some (2, x0), some (0, x1), some (0, x2), none, none] [] M := by
  unfold pX12_test_199 at h
  refine zG.goto (tgt := 9) (off := (-190)) hX (by decide +kernel) (by decide) ?_
  exact (hk9 _ _ _ _ h)
noncomputable def pX12_test_122 (S : ZS) (k9 : ZM → Int → Int → Int → Option ZM) (M : ZM) (x0 : Int) (x2 : Int) (y0 : Int) (y1 : Int) (y2 : Int) : Option ZM := if S.1 y2 = 12 then zlet (upM M y2 21 (w32 (y1 + y0))) fun M26 => pX12_test_199 S k9 M26 x0 1 x2 else none
set_option maxHeartbeats 2000000 in
set_option maxRecDepth 20000 in
theorem pX12_test_122_ok {C : ZC} {E : ZE} {S : ZS} {k9 : ZM → Int → Int → Int → Option ZM} {q : ZM} (hX : zCx C E 12 cX12_test 5 none false) (hRm : czR C = { frames := 12, cells := 0, slots := 0, locals := 330 }) (hk9 : ∀ M x0 x1 x2, k9 M x0 x1 x2 = some q → zG C E 5 S 0 0 (zQ C E 0 0 none S q) 9 [some (2, x0), some (0, x1), some (0, x2), none, none] [] M) {M : ZM} {x0 : Int} {x2 : Int} {y0 : Int} {y1 : Int} {y2 : Int} (h : pX12_test_122 S k9 M x0 x2 y0 y1 y2 = some q) : zG C E 5 S 0 0 (zQ C E 0 0 none S q) 122 [some (2, x0), none, some (0, x2), none, none] [(0, y0), (0, y1), (2, y2)] M := by
  unfold pX12_test_122 at h
  obtain ⟨g25, h⟩ := zif h
  refine zG.blk (pc' := 126) (l' := [some (2, x0), none, some (0, x2), none, none]) (st' := []) (M' := (upM M y2 21 (w32 (y1 + y0)))) hX [(.iadd, 0, 0, 0), (.putfield 174, 12, 21, 0)] (by decide +kernel) rfl (And.intro g25 trivial) ?_
  generalize upM M y2 21 (w32 (y1 + y0)) = M26 at h ⊢
  have h := zlt h
  refine zG.blk (pc' := 128) (l' := [some (2, x0), some (0, 1), some (0, x2), none, none]) (st' := []) (M' := M26) hX [(.iconst 1, 0, 0, 0), (.istore_n 1, 0, 0, 0)] (by decide +kernel) rfl trivial ?_
  refine zG.goto (tgt := 199) (off := 71) hX (by decide +kernel) (by decide) ?_
  exact (pX12_test_199_ok hX hRm hk9 h)
noncomputable def pX12_test_105 (S : ZS) (k9 : ZM → Int → Int → Int → Option ZM) (M : ZM) (x0 : Int) (x2 : Int) (x3 : Int) (y0 : Int) (y1 : Int) : Option ZM := if S.1 y1 = 12 then (pX12_opens S M y1 y0).bind fun q20 => if S.1 x0 = 12 then pX12_test_122 S k9 q20 x0 x2 (if x3 = 0 then (2 : Int) else 3) (q20 x0 21) x0 else none else none
set_option maxHeartbeats 2000000 in
set_option maxRecDepth 20000 in
theorem pX12_test_105_ok {C : ZC} {E : ZE} {S : ZS} {k9 : ZM → Int → Int → Int → Option ZM} {q : ZM} (hX : zCx C E 12 cX12_test 5 none false) (hRm : czR C = { frames := 12, cells := 0, slots := 0, locals := 330 }) (hk9 : ∀ M x0 x1 x2, k9 M x0 x1 x2 = some q → zG C E 5 S 0 0 (zQ C E 0 0 none S q) 9 [some (2, x0), some (0, x1), some (0, x2), none, none] [] M) {M : ZM} {x0 : Int} {x2 : Int} {x3 : Int} {y0 : Int} {y1 : Int} (h : pX12_test_105 S k9 M x0 x2 x3 y0 y1 = some q) : zG C E 5 S 0 0 (zQ C E 0 0 none S q) 105 [some (2, x0), none, some (0, x2), some (0, x3), none] [(0, y0), (2, y1)] M := by
  unfold pX12_test_105 at h
  obtain ⟨g22, h⟩ := zif h
  obtain ⟨q20, e21, h⟩ := zbd h
  refine zG.callV (b := y1) (av := [(0, y0)]) (st := []) (ci := 12) hX (pX12_opens_ok e21) sv_12_252 rfl ⟨by decide, rfl⟩ g22 (by decide +kernel) (by rw [hRm]; exact ⟨Nat.le_of_ble_eq_true rfl, Nat.le_of_ble_eq_true rfl⟩) (by rw [hRm]; exact ⟨Nat.le_of_ble_eq_true rfl, Nat.le_of_ble_eq_true rfl⟩) (Nat.le_of_ble_eq_true rfl) ?_
  show zG C E 5 S 0 0 _ 108 [some (2, x0), none, some (0, x2), some (0, x3), none] [] q20
  obtain ⟨g23, h⟩ := zif h
  refine zG.blk (pc' := 114) (l' := [some (2, x0), none, some (0, x2), some (0, x3), none]) (st' := [(0, x3), (0, q20 x0 21), (2, x0)]) (M' := q20) hX [(.aload_n 0, 0, 0, 0), (.dup, 0, 0, 0), (.getfield 174, 12, 21, 0), (.iload_n 3, 0, 0, 0)] (by decide +kernel) rfl (And.intro g23 trivial) ?_
  have key24 : zG C E 5 S 0 0 (zQ C E 0 0 none S q) 122 [some (2, x0), none, some (0, x2), some (0, x3), none] [(0, (if x3 = 0 then (2 : Int) else 3)), (0, q20 x0 21), (2, x0)] q20 := by
    exact zG.wk [true, true, true, false, true] (pX12_test_122_ok hX hRm hk9 h)
  refine zG.if_eq (tgt := 121) (off := 7) hX (by decide +kernel) (by decide) (fun c27 => ?_) (fun c27 => ?_)
  · refine zG.blk (pc' := 122) (l' := [some (2, x0), none, some (0, x2), some (0, x3), none]) (st' := [(0, 2), (0, q20 x0 21), (2, x0)]) (M' := q20) hX [(.iconst 2, 0, 0, 0)] (by decide +kernel) rfl trivial ?_
    (have k := key24; simp only [if_pos c27] at k; exact k)
  · refine zG.blk (pc' := 118) (l' := [some (2, x0), none, some (0, x2), some (0, x3), none]) (st' := [(0, 3), (0, q20 x0 21), (2, x0)]) (M' := q20) hX [(.iconst 3, 0, 0, 0)] (by decide +kernel) rfl trivial ?_
    refine zG.goto (tgt := 122) (off := 4) hX (by decide +kernel) (by decide) ?_
    (have k := key24; simp only [if_neg c27] at k; exact k)
noncomputable def pX12_test_93 (S : ZS) (k9 : ZM → Int → Int → Int → Option ZM) (M : ZM) (x0 : Int) (x2 : Int) (x3 : Int) : Option ZM := pX12_test_105 S k9 M x0 x2 x3 (if x3 = 0 then (11 : Int) else 10) x0
set_option maxHeartbeats 2000000 in
set_option maxRecDepth 20000 in
theorem pX12_test_93_ok {C : ZC} {E : ZE} {S : ZS} {k9 : ZM → Int → Int → Int → Option ZM} {q : ZM} (hX : zCx C E 12 cX12_test 5 none false) (hRm : czR C = { frames := 12, cells := 0, slots := 0, locals := 330 }) (hk9 : ∀ M x0 x1 x2, k9 M x0 x1 x2 = some q → zG C E 5 S 0 0 (zQ C E 0 0 none S q) 9 [some (2, x0), some (0, x1), some (0, x2), none, none] [] M) {M : ZM} {x0 : Int} {x2 : Int} {x3 : Int} (h : pX12_test_93 S k9 M x0 x2 x3 = some q) : zG C E 5 S 0 0 (zQ C E 0 0 none S q) 93 [some (2, x0), none, some (0, x2), some (0, x3), none] [] M := by
  unfold pX12_test_93 at h
  refine zG.blk (pc' := 95) (l' := [some (2, x0), none, some (0, x2), some (0, x3), none]) (st' := [(0, x3), (2, x0)]) (M' := M) hX [(.aload_n 0, 0, 0, 0), (.iload_n 3, 0, 0, 0)] (by decide +kernel) rfl trivial ?_
  have key19 : zG C E 5 S 0 0 (zQ C E 0 0 none S q) 105 [some (2, x0), none, some (0, x2), some (0, x3), none] [(0, (if x3 = 0 then (11 : Int) else 10)), (2, x0)] M := by
    exact (pX12_test_105_ok hX hRm hk9 h)
  refine zG.if_eq (tgt := 103) (off := 8) hX (by decide +kernel) (by decide) (fun c28 => ?_) (fun c28 => ?_)
  · refine zG.blk (pc' := 105) (l' := [some (2, x0), none, some (0, x2), some (0, x3), none]) (st' := [(0, 11), (2, x0)]) (M' := M) hX [(.bipush 11, 0, 0, 0)] (by decide +kernel) rfl trivial ?_
    (have k := key19; simp only [if_pos c28] at k; exact k)
  · refine zG.blk (pc' := 100) (l' := [some (2, x0), none, some (0, x2), some (0, x3), none]) (st' := [(0, 10), (2, x0)]) (M' := M) hX [(.bipush 10, 0, 0, 0)] (by decide +kernel) rfl trivial ?_
    refine zG.goto (tgt := 105) (off := 5) hX (by decide +kernel) (by decide) ?_
    (have k := key19; simp only [if_neg c28] at k; exact k)
noncomputable def pX12_test_82 (S : ZS) (k9 : ZM → Int → Int → Int → Option ZM) (M : ZM) (x0 : Int) (x2 : Int) (x3 : Int) (x4 : Int) : Option ZM := if x4 = 0 then (pX12_test_93 S k9 M x0 x2 x3) else (if S.1 x0 = 12 then (pX12_answers S M x0 11).bind fun q29 => pX12_test_93 S k9 q29 x0 x2 x3 else none)
set_option maxHeartbeats 2000000 in
set_option maxRecDepth 20000 in
theorem pX12_test_82_ok {C : ZC} {E : ZE} {S : ZS} {k9 : ZM → Int → Int → Int → Option ZM} {q : ZM} (hX : zCx C E 12 cX12_test 5 none false) (hRm : czR C = { frames := 12, cells := 0, slots := 0, locals := 330 }) (hk9 : ∀ M x0 x1 x2, k9 M x0 x1 x2 = some q → zG C E 5 S 0 0 (zQ C E 0 0 none S q) 9 [some (2, x0), some (0, x1), some (0, x2), none, none] [] M) {M : ZM} {x0 : Int} {x2 : Int} {x3 : Int} {x4 : Int} (h : pX12_test_82 S k9 M x0 x2 x3 x4 = some q) : zG C E 5 S 0 0 (zQ C E 0 0 none S q) 82 [some (2, x0), none, some (0, x2), some (0, x3), some (0, x4)] [] M := by
  unfold pX12_test_82 at h
  refine zG.blk (pc' := 84) (l' := [some (2, x0), none, some (0, x2), some (0, x3), some (0, x4)]) (st' := [(0, x4)]) (M' := M) hX [(.iload 4, 0, 0, 0)] (by decide +kernel) rfl trivial ?_
  refine zG.if_eq (tgt := 93) (off := 9) hX (by decide +kernel) (by decide) (fun c18 => ?_) (fun c18 => ?_)
  · have h := zip c18 h
    exact zG.wk [true, true, true, true, false] (pX12_test_93_ok hX hRm hk9 h)
  · have h := zin c18 h
    refine zG.blk (pc' := 90) (l' := [some (2, x0), none, some (0, x2), some (0, x3), some (0, x4)]) (st' := [(0, 11), (2, x0)]) (M' := M) hX [(.aload_n 0, 0, 0, 0), (.bipush 11, 0, 0, 0)] (by decide +kernel) rfl trivial ?_
    obtain ⟨g31, h⟩ := zif h
    obtain ⟨q29, e30, h⟩ := zbd h
    refine zG.callV (b := x0) (av := [(0, 11)]) (st := []) (ci := 12) hX (pX12_answers_ok e30) sv_12_261 rfl ⟨by decide, rfl⟩ g31 (by decide +kernel) (by rw [hRm]; exact ⟨Nat.le_of_ble_eq_true rfl, Nat.le_of_ble_eq_true rfl⟩) (by rw [hRm]; exact ⟨Nat.le_of_ble_eq_true rfl, Nat.le_of_ble_eq_true rfl⟩) (Nat.le_of_ble_eq_true rfl) ?_
    show zG C E 5 S 0 0 _ 93 [some (2, x0), none, some (0, x2), some (0, x3), some (0, x4)] [] q29
    exact zG.wk [true, true, true, true, false] (pX12_test_93_ok hX hRm hk9 h)
noncomputable def pX12_test_164 (S : ZS) (k9 : ZM → Int → Int → Int → Option ZM) (M : ZM) (x0 : Int) (x1 : Int) (x2 : Int) : Option ZM := if S.1 x0 = 12 then zlet (upM M x0 21 (w32 ((M x0 21) + 1))) fun M42 => zlet (upM M42 x0 28 (w32 ((M42 x0 28) - 1))) fun M43 => zlet (upM M43 x0 26 (w32 ((M43 x0 26) - 1))) fun M44 => pX12_test_199 S k9 M44 x0 x1 x2 else none
set_option maxHeartbeats 2000000 in
set_option maxRecDepth 20000 in
theorem pX12_test_164_ok {C : ZC} {E : ZE} {S : ZS} {k9 : ZM → Int → Int → Int → Option ZM} {q : ZM} (hX : zCx C E 12 cX12_test 5 none false) (hRm : czR C = { frames := 12, cells := 0, slots := 0, locals := 330 }) (hk9 : ∀ M x0 x1 x2, k9 M x0 x1 x2 = some q → zG C E 5 S 0 0 (zQ C E 0 0 none S q) 9 [some (2, x0), some (0, x1), some (0, x2), none, none] [] M) {M : ZM} {x0 : Int} {x1 : Int} {x2 : Int} (h : pX12_test_164 S k9 M x0 x1 x2 = some q) : zG C E 5 S 0 0 (zQ C E 0 0 none S q) 164 [some (2, x0), some (0, x1), some (0, x2), none, none] [] M := by
  unfold pX12_test_164 at h
  obtain ⟨g41, h⟩ := zif h
  refine zG.blk (pc' := 174) (l' := [some (2, x0), some (0, x1), some (0, x2), none, none]) (st' := []) (M' := (upM M x0 21 (w32 ((M x0 21) + 1)))) hX [(.aload_n 0, 0, 0, 0), (.dup, 0, 0, 0), (.getfield 174, 12, 21, 0), (.iconst 1, 0, 0, 0), (.iadd, 0, 0, 0), (.putfield 174, 12, 21, 0)] (by decide +kernel) rfl (And.intro g41 (And.intro g41 trivial)) ?_
  generalize upM M x0 21 (w32 ((M x0 21) + 1)) = M42 at h ⊢
  have h := zlt h
  refine zG.blk (pc' := 184) (l' := [some (2, x0), some (0, x1), some (0, x2), none, none]) (st' := []) (M' := (upM M42 x0 28 (w32 ((M42 x0 28) - 1)))) hX [(.aload_n 0, 0, 0, 0), (.dup, 0, 0, 0), (.getfield 241, 12, 28, 0), (.iconst 1, 0, 0, 0), (.isub, 0, 0, 0), (.putfield 241, 12, 28, 0)] (by decide +kernel) rfl (And.intro g41 (And.intro g41 trivial)) ?_
  generalize upM M42 x0 28 (w32 ((M42 x0 28) - 1)) = M43 at h ⊢
  have h := zlt h
  refine zG.blk (pc' := 194) (l' := [some (2, x0), some (0, x1), some (0, x2), none, none]) (st' := []) (M' := (upM M43 x0 26 (w32 ((M43 x0 26) - 1)))) hX [(.aload_n 0, 0, 0, 0), (.dup, 0, 0, 0), (.getfield 244, 12, 26, 0), (.iconst 1, 0, 0, 0), (.isub, 0, 0, 0), (.putfield 244, 12, 26, 0)] (by decide +kernel) rfl (And.intro g41 (And.intro g41 trivial)) ?_
  generalize upM M43 x0 26 (w32 ((M43 x0 26) - 1)) = M44 at h ⊢
  have h := zlt h
  refine zG.goto (tgt := 199) (off := 5) hX (by decide +kernel) (by decide) ?_
  exact (pX12_test_199_ok hX hRm hk9 h)
theorem sv_12_258 : zSV 12 258 yX12_fact cX12_fact 1 (some .boolean) 0 := ⟨⟨gt_at 1432 (by decide +kernel) rfl, gt_at 1434 (by decide +kernel) rfl, gt_at 59 (by decide +kernel) rfl, gt_at 117 (by decide +kernel) rfl, gt_at 1435 (by decide +kernel) rfl⟩, by decide +kernel, by decide +kernel, by decide +kernel⟩
noncomputable def pX12_test_9 (S : ZS) : Nat → ZM → Int → Int → Int → Option ZM
  | 0 => fun _ _ _ _ => none
  | n + 1 => fun M x0 x1 x2 => if x2 = 0 then (pX12_test_202 S M) else (if S.1 x0 = 12 then if M x0 22 = 0 then (if x1 = 0 then ((pX12_answers S M x0 9).bind fun q7 => (pX12_blanks S q7 x0).bind fun q9 => (pX12_stood S q9 x0 18).bind fun q11 => (pX12_stood S q11.2 x0 19).bind fun q13 => (pX12_answers S q13.2 x0 10).bind fun q15 => if q11.1 = 0 then (if q13.1 = 0 then ((pX12_answers S q15 x0 11).bind fun q33 => (pX12_top S q33 x0).bind fun q35 => if q35.1 = 12 then ((pX12_byteHere S q35.2 x0).bind fun q38 => if q38.1 = 93 then (pX12_test_164 S (pX12_test_9 S n) q38.2 x0 x1 x2) else ((pX12_fails S q38.2 x0 0 (q38.2 x0 21)).bind fun q45 => pX12_test_164 S (pX12_test_9 S n) q45 x0 x1 x2)) else (pX12_test_199 S (pX12_test_9 S n) q35.2 x0 x1 0)) else (pX12_test_82 S (pX12_test_9 S n) q15 x0 x2 q11.1 q13.1)) else (pX12_test_82 S (pX12_test_9 S n) q15 x0 x2 q11.1 q13.1)) else ((pX12_fact S M x0).bind fun q47 => pX12_test_9 S n q47.2 x0 (if q47.1 = 0 then (1 : Int) else 0) x2)) else (pX12_test_202 S M) else none)
set_option maxHeartbeats 2000000 in
set_option maxRecDepth 20000 in
theorem pX12_test_9_ok {C : ZC} {E : ZE} {S : ZS} {q : ZM} (hX : zCx C E 12 cX12_test 5 none false) (hRm : czR C = { frames := 12, cells := 0, slots := 0, locals := 330 }) : ∀ (n : Nat) (M : ZM) (x0 : Int) (x1 : Int) (x2 : Int), pX12_test_9 S n M x0 x1 x2 = some q → zG C E 5 S 0 0 (zQ C E 0 0 none S q) 9 [some (2, x0), some (0, x1), some (0, x2), none, none] [] M := by
  intro n
  induction n with
  | zero => intro M x0 x1 x2 h; cases h
  | succ n ih =>
    intro M x0 x1 x2 h
    unfold pX12_test_9 at h
    refine zG.blk (pc' := 10) (l' := [some (2, x0), some (0, x1), some (0, x2), none, none]) (st' := [(0, x2)]) (M' := M) hX [(.iload_n 2, 0, 0, 0)] (by decide +kernel) rfl trivial ?_
    refine zG.if_eq (tgt := 202) (off := 192) hX (by decide +kernel) (by decide) (fun c3 => ?_) (fun c3 => ?_)
    · have h := zip c3 h
      exact zG.wk [false, false, false, true, true] (pX12_test_202_ok hX hRm h)
    · have h := zin c3 h
      obtain ⟨g4, h⟩ := zif h
      refine zG.blk (pc' := 17) (l' := [some (2, x0), some (0, x1), some (0, x2), none, none]) (st' := [(0, M x0 22)]) (M' := M) hX [(.aload_n 0, 0, 0, 0), (.getfield 171, 12, 22, 0)] (by decide +kernel) rfl (And.intro g4 trivial) ?_
      refine zG.if_ne (tgt := 202) (off := 185) hX (by decide +kernel) (by decide) (fun c5 => ?_) (fun c5 => ?_)
      · have h := zin c5 h
        exact zG.wk [false, false, false, true, true] (pX12_test_202_ok hX hRm h)
      · have h := zip c5 h
        refine zG.blk (pc' := 21) (l' := [some (2, x0), some (0, x1), some (0, x2), none, none]) (st' := [(0, x1)]) (M' := M) hX [(.iload_n 1, 0, 0, 0)] (by decide +kernel) rfl trivial ?_
        refine zG.if_eq (tgt := 40) (off := 19) hX (by decide +kernel) (by decide) (fun c6 => ?_) (fun c6 => ?_)
        · have h := zip c6 h
          refine zG.blk (pc' := 43) (l' := [some (2, x0), some (0, x1), some (0, x2), none, none]) (st' := [(0, 9), (2, x0)]) (M' := M) hX [(.aload_n 0, 0, 0, 0), (.bipush 9, 0, 0, 0)] (by decide +kernel) rfl trivial ?_
          obtain ⟨q7, e8, h⟩ := zbd h
          refine zG.callV (b := x0) (av := [(0, 9)]) (st := []) (ci := 12) hX (pX12_answers_ok e8) sv_12_261 rfl ⟨by decide, rfl⟩ g4 (by decide +kernel) (by rw [hRm]; exact ⟨Nat.le_of_ble_eq_true rfl, Nat.le_of_ble_eq_true rfl⟩) (by rw [hRm]; exact ⟨Nat.le_of_ble_eq_true rfl, Nat.le_of_ble_eq_true rfl⟩) (Nat.le_of_ble_eq_true rfl) ?_
          show zG C E 5 S 0 0 _ 46 [some (2, x0), some (0, x1), some (0, x2), none, none] [] q7
          refine zG.blk (pc' := 47) (l' := [some (2, x0), some (0, x1), some (0, x2), none, none]) (st' := [(2, x0)]) (M' := q7) hX [(.aload_n 0, 0, 0, 0)] (by decide +kernel) rfl trivial ?_
          obtain ⟨q9, e10, h⟩ := zbd h
          refine zG.callV (b := x0) (av := []) (st := []) (ci := 12) hX (pX12_blanks_ok e10) sv_12_193 rfl ⟨by decide, rfl⟩ g4 (by decide +kernel) (by rw [hRm]; exact ⟨Nat.le_of_ble_eq_true rfl, Nat.le_of_ble_eq_true rfl⟩) (by rw [hRm]; exact ⟨Nat.le_of_ble_eq_true rfl, Nat.le_of_ble_eq_true rfl⟩) (Nat.le_of_ble_eq_true rfl) ?_
          show zG C E 5 S 0 0 _ 50 [some (2, x0), some (0, x1), some (0, x2), none, none] [] q9
          refine zG.blk (pc' := 51) (l' := [some (2, x0), some (0, x1), some (0, x2), none, none]) (st' := [(2, x0)]) (M' := q9) hX [(.aload_n 0, 0, 0, 0)] (by decide +kernel) rfl trivial ?_
          refine zG.ldcW (i := 18) hX rfl rfl (by decide +kernel) ?_
          show zG C E 5 S 0 0 _ 54 [some (2, x0), some (0, x1), some (0, x2), none, none] [(3, 18), (2, x0)] q9
          obtain ⟨q11, e12, h⟩ := zbd h
          refine zG.callV (b := x0) (av := [(3, 18)]) (st := []) (ci := 12) hX (pX12_stood_ok e12) sv_12_196 rfl ⟨by decide, rfl⟩ g4 (by decide +kernel) (by rw [hRm]; exact ⟨Nat.le_of_ble_eq_true rfl, Nat.le_of_ble_eq_true rfl⟩) (by rw [hRm]; exact ⟨Nat.le_of_ble_eq_true rfl, Nat.le_of_ble_eq_true rfl⟩) (Nat.le_of_ble_eq_true rfl) ?_
          show zG C E 5 S 0 0 _ 57 [some (2, x0), some (0, x1), some (0, x2), none, none] [(0, q11.1)] q11.2
          refine zG.blk (pc' := 59) (l' := [some (2, x0), some (0, x1), some (0, x2), some (0, q11.1), none]) (st' := [(2, x0)]) (M' := q11.2) hX [(.istore_n 3, 0, 0, 0), (.aload_n 0, 0, 0, 0)] (by decide +kernel) rfl trivial ?_
          refine zG.ldcW (i := 19) hX rfl rfl (by decide +kernel) ?_
          show zG C E 5 S 0 0 _ 62 [some (2, x0), some (0, x1), some (0, x2), some (0, q11.1), none] [(3, 19), (2, x0)] q11.2
          obtain ⟨q13, e14, h⟩ := zbd h
          refine zG.callV (b := x0) (av := [(3, 19)]) (st := []) (ci := 12) hX (pX12_stood_ok e14) sv_12_196 rfl ⟨by decide, rfl⟩ g4 (by decide +kernel) (by rw [hRm]; exact ⟨Nat.le_of_ble_eq_true rfl, Nat.le_of_ble_eq_true rfl⟩) (by rw [hRm]; exact ⟨Nat.le_of_ble_eq_true rfl, Nat.le_of_ble_eq_true rfl⟩) (Nat.le_of_ble_eq_true rfl) ?_
          show zG C E 5 S 0 0 _ 65 [some (2, x0), some (0, x1), some (0, x2), some (0, q11.1), none] [(0, q13.1)] q13.2
          refine zG.blk (pc' := 70) (l' := [some (2, x0), some (0, x1), some (0, x2), some (0, q11.1), some (0, q13.1)]) (st' := [(0, 10), (2, x0)]) (M' := q13.2) hX [(.istore 4, 0, 0, 0), (.aload_n 0, 0, 0, 0), (.bipush 10, 0, 0, 0)] (by decide +kernel) rfl trivial ?_
          obtain ⟨q15, e16, h⟩ := zbd h
          refine zG.callV (b := x0) (av := [(0, 10)]) (st := []) (ci := 12) hX (pX12_answers_ok e16) sv_12_261 rfl ⟨by decide, rfl⟩ g4 (by decide +kernel) (by rw [hRm]; exact ⟨Nat.le_of_ble_eq_true rfl, Nat.le_of_ble_eq_true rfl⟩) (by rw [hRm]; exact ⟨Nat.le_of_ble_eq_true rfl, Nat.le_of_ble_eq_true rfl⟩) (Nat.le_of_ble_eq_true rfl) ?_
          show zG C E 5 S 0 0 _ 73 [some (2, x0), some (0, x1), some (0, x2), some (0, q11.1), some (0, q13.1)] [] q15
          refine zG.blk (pc' := 74) (l' := [some (2, x0), some (0, x1), some (0, x2), some (0, q11.1), some (0, q13.1)]) (st' := [(0, q11.1)]) (M' := q15) hX [(.iload_n 3, 0, 0, 0)] (by decide +kernel) rfl trivial ?_
          refine zG.if_ne (tgt := 82) (off := 8) hX (by decide +kernel) (by decide) (fun c17 => ?_) (fun c17 => ?_)
          · have h := zin c17 h
            exact zG.wk [true, false, true, true, true] (pX12_test_82_ok hX hRm ih h)
          · have h := zip c17 h
            refine zG.blk (pc' := 79) (l' := [some (2, x0), some (0, x1), some (0, x2), some (0, q11.1), some (0, q13.1)]) (st' := [(0, q13.1)]) (M' := q15) hX [(.iload 4, 0, 0, 0)] (by decide +kernel) rfl trivial ?_
            refine zG.if_eq (tgt := 131) (off := 52) hX (by decide +kernel) (by decide) (fun c32 => ?_) (fun c32 => ?_)
            · have h := zip c32 h
              refine zG.blk (pc' := 134) (l' := [some (2, x0), some (0, x1), some (0, x2), some (0, q11.1), some (0, q13.1)]) (st' := [(0, 11), (2, x0)]) (M' := q15) hX [(.aload_n 0, 0, 0, 0), (.bipush 11, 0, 0, 0)] (by decide +kernel) rfl trivial ?_
              obtain ⟨q33, e34, h⟩ := zbd h
              refine zG.callV (b := x0) (av := [(0, 11)]) (st := []) (ci := 12) hX (pX12_answers_ok e34) sv_12_261 rfl ⟨by decide, rfl⟩ g4 (by decide +kernel) (by rw [hRm]; exact ⟨Nat.le_of_ble_eq_true rfl, Nat.le_of_ble_eq_true rfl⟩) (by rw [hRm]; exact ⟨Nat.le_of_ble_eq_true rfl, Nat.le_of_ble_eq_true rfl⟩) (Nat.le_of_ble_eq_true rfl) ?_
              show zG C E 5 S 0 0 _ 137 [some (2, x0), some (0, x1), some (0, x2), some (0, q11.1), some (0, q13.1)] [] q33
              refine zG.blk (pc' := 138) (l' := [some (2, x0), some (0, x1), some (0, x2), some (0, q11.1), some (0, q13.1)]) (st' := [(2, x0)]) (M' := q33) hX [(.aload_n 0, 0, 0, 0)] (by decide +kernel) rfl trivial ?_
              obtain ⟨q35, e36, h⟩ := zbd h
              refine zG.callV (b := x0) (av := []) (st := []) (ci := 12) hX (pX12_top_ok e36) sv_12_247 rfl ⟨by decide, rfl⟩ g4 (by decide +kernel) (by rw [hRm]; exact ⟨Nat.le_of_ble_eq_true rfl, Nat.le_of_ble_eq_true rfl⟩) (by rw [hRm]; exact ⟨Nat.le_of_ble_eq_true rfl, Nat.le_of_ble_eq_true rfl⟩) (Nat.le_of_ble_eq_true rfl) ?_
              show zG C E 5 S 0 0 _ 141 [some (2, x0), some (0, x1), some (0, x2), some (0, q11.1), some (0, q13.1)] [(0, q35.1)] q35.2
              refine zG.blk (pc' := 143) (l' := [some (2, x0), some (0, x1), some (0, x2), some (0, q11.1), some (0, q13.1)]) (st' := [(0, 12), (0, q35.1)]) (M' := q35.2) hX [(.bipush 12, 0, 0, 0)] (by decide +kernel) rfl trivial ?_
              refine zG.icmp_ne (tgt := 197) (off := 54) hX (by decide +kernel) (by decide) (fun c37 => ?_) (fun c37 => ?_)
              · have h := zin c37 h
                refine zG.blk (pc' := 199) (l' := [some (2, x0), some (0, x1), some (0, 0), some (0, q11.1), some (0, q13.1)]) (st' := []) (M' := q35.2) hX [(.iconst 0, 0, 0, 0), (.istore_n 2, 0, 0, 0)] (by decide +kernel) rfl trivial ?_
                exact zG.wk [true, true, true, false, false] (pX12_test_199_ok hX hRm ih h)
              · have h := zip c37 h
                refine zG.blk (pc' := 147) (l' := [some (2, x0), some (0, x1), some (0, x2), some (0, q11.1), some (0, q13.1)]) (st' := [(2, x0)]) (M' := q35.2) hX [(.aload_n 0, 0, 0, 0)] (by decide +kernel) rfl trivial ?_
                obtain ⟨q38, e39, h⟩ := zbd h
                refine zG.callV (b := x0) (av := []) (st := []) (ci := 12) hX (pX12_byteHere_ok e39) sv_12_177 rfl ⟨by decide, rfl⟩ g4 (by decide +kernel) (by rw [hRm]; exact ⟨Nat.le_of_ble_eq_true rfl, Nat.le_of_ble_eq_true rfl⟩) (by rw [hRm]; exact ⟨Nat.le_of_ble_eq_true rfl, Nat.le_of_ble_eq_true rfl⟩) (Nat.le_of_ble_eq_true rfl) ?_
                show zG C E 5 S 0 0 _ 150 [some (2, x0), some (0, x1), some (0, x2), some (0, q11.1), some (0, q13.1)] [(0, q38.1)] q38.2
                refine zG.blk (pc' := 152) (l' := [some (2, x0), some (0, x1), some (0, x2), some (0, q11.1), some (0, q13.1)]) (st' := [(0, 93), (0, q38.1)]) (M' := q38.2) hX [(.bipush 93, 0, 0, 0)] (by decide +kernel) rfl trivial ?_
                refine zG.icmp_eq (tgt := 164) (off := 12) hX (by decide +kernel) (by decide) (fun c40 => ?_) (fun c40 => ?_)
                · have h := zip c40 h
                  exact zG.wk [true, true, true, false, false] (pX12_test_164_ok hX hRm ih h)
                · have h := zin c40 h
                  refine zG.blk (pc' := 161) (l' := [some (2, x0), some (0, x1), some (0, x2), some (0, q11.1), some (0, q13.1)]) (st' := [(0, q38.2 x0 21), (0, 0), (2, x0)]) (M' := q38.2) hX [(.aload_n 0, 0, 0, 0), (.iconst 0, 0, 0, 0), (.aload_n 0, 0, 0, 0), (.getfield 174, 12, 21, 0)] (by decide +kernel) rfl (And.intro g4 trivial) ?_
                  obtain ⟨q45, e46, h⟩ := zbd h
                  refine zG.callV (b := x0) (av := [(0, 0), (0, q38.2 x0 21)]) (st := []) (ci := 12) hX (pX12_fails_ok e46) sv_12_209 rfl ⟨by decide, rfl⟩ g4 (by decide +kernel) (by rw [hRm]; exact ⟨Nat.le_of_ble_eq_true rfl, Nat.le_of_ble_eq_true rfl⟩) (by rw [hRm]; exact ⟨Nat.le_of_ble_eq_true rfl, Nat.le_of_ble_eq_true rfl⟩) (Nat.le_of_ble_eq_true rfl) ?_
                  show zG C E 5 S 0 0 _ 164 [some (2, x0), some (0, x1), some (0, x2), some (0, q11.1), some (0, q13.1)] [] q45
                  exact zG.wk [true, true, true, false, false] (pX12_test_164_ok hX hRm ih h)
            · have h := zin c32 h
              exact zG.wk [true, false, true, true, true] (pX12_test_82_ok hX hRm ih h)
        · have h := zin c6 h
          refine zG.blk (pc' := 25) (l' := [some (2, x0), some (0, x1), some (0, x2), none, none]) (st' := [(2, x0)]) (M' := M) hX [(.aload_n 0, 0, 0, 0)] (by decide +kernel) rfl trivial ?_
          obtain ⟨q47, e48, h⟩ := zbd h
          refine zG.callV (b := x0) (av := []) (st := []) (ci := 12) hX (pX12_fact_ok e48) sv_12_258 rfl ⟨by decide, rfl⟩ g4 (by decide +kernel) (by rw [hRm]; exact ⟨Nat.le_of_ble_eq_true rfl, Nat.le_of_ble_eq_true rfl⟩) (by rw [hRm]; exact ⟨Nat.le_of_ble_eq_true rfl, Nat.le_of_ble_eq_true rfl⟩) (Nat.le_of_ble_eq_true rfl) ?_
          show zG C E 5 S 0 0 _ 28 [some (2, x0), some (0, x1), some (0, x2), none, none] [(0, q47.1)] q47.2
          have key49 : zG C E 5 S 0 0 (zQ C E 0 0 none S q) 36 [some (2, x0), some (0, x1), some (0, x2), none, none] [(0, (if q47.1 = 0 then (1 : Int) else 0))] q47.2 := by
            refine zG.blk (pc' := 37) (l' := [some (2, x0), some (0, (if q47.1 = 0 then (1 : Int) else 0)), some (0, x2), none, none]) (st' := []) (M' := q47.2) hX [(.istore_n 1, 0, 0, 0)] (by decide +kernel) rfl trivial ?_
            refine zG.goto (tgt := 9) (off := (-28)) hX (by decide +kernel) (by decide) ?_
            exact ih _ _ _ _ h
          refine zG.if_ne (tgt := 35) (off := 7) hX (by decide +kernel) (by decide) (fun c50 => ?_) (fun c50 => ?_)
          · refine zG.blk (pc' := 36) (l' := [some (2, x0), some (0, x1), some (0, x2), none, none]) (st' := [(0, 0)]) (M' := q47.2) hX [(.iconst 0, 0, 0, 0)] (by decide +kernel) rfl trivial ?_
            (have k := key49; simp only [if_neg c50] at k; exact k)
          · refine zG.blk (pc' := 32) (l' := [some (2, x0), some (0, x1), some (0, x2), none, none]) (st' := [(0, 1)]) (M' := q47.2) hX [(.iconst 1, 0, 0, 0)] (by decide +kernel) rfl trivial ?_
            refine zG.goto (tgt := 36) (off := 4) hX (by decide +kernel) (by decide) ?_
            (have k := key49; simp only [if_pos c50] at k; exact k)
noncomputable def pX12_test (S : ZS) (M : ZM) (a0 : Int) : Option ZM := if S.1 a0 = 12 then zlet (upM M a0 28 0) fun M2 => pX12_test_9 S zFU M2 a0 1 1 else none
set_option maxHeartbeats 2000000 in
set_option maxRecDepth 20000 in
theorem pX12_test_go {C : ZC} {E : ZE} {S : ZS} {M : ZM} {a0 : Int} {q : ZM} (hX : zCx C E 12 cX12_test 5 none false) (hRm : czR C = { frames := 12, cells := 0, slots := 0, locals := 330 }) (h : pX12_test  S M a0 = some q) : zG C E 5 S 0 0 (zQ C E 0 0 none S q) 0 [some (2, a0), none, none, none, none] [] M := by
  unfold pX12_test at h
  obtain ⟨g1, h⟩ := zif h
  refine zG.blk (pc' := 5) (l' := [some (2, a0), none, none, none, none]) (st' := []) (M' := (upM M a0 28 0)) hX [(.aload_n 0, 0, 0, 0), (.iconst 0, 0, 0, 0), (.putfield 241, 12, 28, 0)] (by decide +kernel) rfl (And.intro g1 trivial) ?_
  generalize upM M a0 28 0 = M2 at h ⊢
  have h := zlt h
  refine zG.blk (pc' := 9) (l' := [some (2, a0), some (0, 1), some (0, 1), none, none]) (st' := []) (M' := M2) hX [(.iconst 1, 0, 0, 0), (.istore_n 1, 0, 0, 0), (.iconst 1, 0, 0, 0), (.istore_n 2, 0, 0, 0)] (by decide +kernel) rfl trivial ?_
  exact (pX12_test_9_ok hX hRm zFU _ _ _ _ h)
theorem pX12_test_ok {l : Launch} {E : ZE} {S : ZS} {M : ZM} {a0 : Int} {q : ZM} (h : pX12_test S M a0 = some q) : zMet l yX12_test cX12_test 5 none 12 330 0 0 E S M [(2, a0)] (none) S q :=
  zMet.of (o := 12) (ini := false) (by decide +kernel) rfl (fun h => by cases h) (Nat.le_of_ble_eq_true rfl) (fun C hX hl hRm => by subst hl; exact pX12_test_go hX hRm h)
noncomputable def pX12_ruleClause_104 (S : ZS) (M : ZM) (x0 : Int) (x3 : Int) : Option ZM := if S.1 x0 = 12 then if S.1 (M x0 36) = 100 ∧ (0 : Int) ≤ x3 ∧ x3 < S.2.1 (M x0 36) then zlet (upM M (M x0 36) x3 (M x0 25)) fun M19 => some M19 else none else none
set_option maxHeartbeats 2000000 in
set_option maxRecDepth 20000 in
theorem pX12_ruleClause_104_ok {C : ZC} {E : ZE} {S : ZS} {q : ZM} (hX : zCx C E 12 cX12_ruleClause 4 none false) (hRm : czR C = { frames := 13, cells := 0, slots := 0, locals := 354 }) {M : ZM} {x0 : Int} {x3 : Int} (h : pX12_ruleClause_104 S M x0 x3 = some q) : zG C E 4 S 0 0 (zQ C E 0 0 none S q) 104 [some (2, x0), none, none, some (0, x3)] [] M := by
  unfold pX12_ruleClause_104 at h
  obtain ⟨g17, h⟩ := zif h
  obtain ⟨g18, h⟩ := zif h
  refine zG.blk (pc' := 114) (l' := [some (2, x0), none, none, some (0, x3)]) (st' := []) (M' := (upM M (M x0 36) x3 (M x0 25))) hX [(.aload_n 0, 0, 0, 0), (.getfield 90, 12, 36, 2), (.iload_n 3, 0, 0, 0), (.aload_n 0, 0, 0, 0), (.getfield 203, 12, 25, 0), (.iastore, 0, 0, 0)] (by decide +kernel) rfl (And.intro g17 (And.intro g17 (And.intro g18 trivial))) ?_
  generalize upM M (M x0 36) x3 (M x0 25) = M19 at h ⊢
  have h := zlt h
  cases h
  exact zG.vret hX (by decide +kernel)
theorem sv_12_312 : zSV 12 312 yX12_takes cX12_takes 3 (some .boolean) 1 := ⟨⟨gt_at 1424 (by decide +kernel) rfl, gt_at 1426 (by decide +kernel) rfl, gt_at 57 (by decide +kernel) rfl, gt_at 117 (by decide +kernel) rfl, gt_at 1427 (by decide +kernel) rfl⟩, by decide +kernel, by decide +kernel, by decide +kernel⟩
theorem sv_12_315 : zSV 12 315 yX12_test cX12_test 5 none 0 := ⟨⟨gt_at 1428 (by decide +kernel) rfl, gt_at 1430 (by decide +kernel) rfl, gt_at 58 (by decide +kernel) rfl, gt_at 117 (by decide +kernel) rfl, gt_at 1431 (by decide +kernel) rfl⟩, by decide +kernel, by decide +kernel, by decide +kernel⟩
noncomputable def pX12_ruleClause_83 (S : ZS) (M : ZM) (x0 : Int) (x3 : Int) : Option ZM := if S.1 x0 = 12 then if M x0 22 = 0 then ((pX12_takes S M x0 16).bind fun q20 => if q20.1 = 0 then (pX12_ruleClause_104 S q20.2 x0 x3) else ((pX12_test S q20.2 x0).bind fun q23 => pX12_ruleClause_104 S q23 x0 x3)) else (pX12_ruleClause_104 S M x0 x3) else none
set_option maxHeartbeats 2000000 in
set_option maxRecDepth 20000 in
theorem pX12_ruleClause_83_ok {C : ZC} {E : ZE} {S : ZS} {q : ZM} (hX : zCx C E 12 cX12_ruleClause 4 none false) (hRm : czR C = { frames := 13, cells := 0, slots := 0, locals := 354 }) {M : ZM} {x0 : Int} {x3 : Int} (h : pX12_ruleClause_83 S M x0 x3 = some q) : zG C E 4 S 0 0 (zQ C E 0 0 none S q) 83 [some (2, x0), none, none, some (0, x3)] [] M := by
  unfold pX12_ruleClause_83 at h
  obtain ⟨g15, h⟩ := zif h
  refine zG.blk (pc' := 87) (l' := [some (2, x0), none, none, some (0, x3)]) (st' := [(0, M x0 22)]) (M' := M) hX [(.aload_n 0, 0, 0, 0), (.getfield 171, 12, 22, 0)] (by decide +kernel) rfl (And.intro g15 trivial) ?_
  refine zG.if_ne (tgt := 104) (off := 17) hX (by decide +kernel) (by decide) (fun c16 => ?_) (fun c16 => ?_)
  · have h := zin c16 h
    exact (pX12_ruleClause_104_ok hX hRm h)
  · have h := zip c16 h
    refine zG.blk (pc' := 91) (l' := [some (2, x0), none, none, some (0, x3)]) (st' := [(2, x0)]) (M' := M) hX [(.aload_n 0, 0, 0, 0)] (by decide +kernel) rfl trivial ?_
    refine zG.ldcW (i := 16) hX rfl rfl (by decide +kernel) ?_
    show zG C E 4 S 0 0 _ 94 [some (2, x0), none, none, some (0, x3)] [(3, 16), (2, x0)] M
    obtain ⟨q20, e21, h⟩ := zbd h
    refine zG.callV (b := x0) (av := [(3, 16)]) (st := []) (ci := 12) hX (pX12_takes_ok e21) sv_12_312 rfl ⟨by decide, rfl⟩ g15 (by decide +kernel) (by rw [hRm]; exact ⟨Nat.le_of_ble_eq_true rfl, Nat.le_of_ble_eq_true rfl⟩) (by rw [hRm]; exact ⟨Nat.le_of_ble_eq_true rfl, Nat.le_of_ble_eq_true rfl⟩) (Nat.le_of_ble_eq_true rfl) ?_
    show zG C E 4 S 0 0 _ 97 [some (2, x0), none, none, some (0, x3)] [(0, q20.1)] q20.2
    refine zG.if_eq (tgt := 104) (off := 7) hX (by decide +kernel) (by decide) (fun c22 => ?_) (fun c22 => ?_)
    · have h := zip c22 h
      exact (pX12_ruleClause_104_ok hX hRm h)
    · have h := zin c22 h
      refine zG.blk (pc' := 101) (l' := [some (2, x0), none, none, some (0, x3)]) (st' := [(2, x0)]) (M' := q20.2) hX [(.aload_n 0, 0, 0, 0)] (by decide +kernel) rfl trivial ?_
      obtain ⟨q23, e24, h⟩ := zbd h
      refine zG.callV (b := x0) (av := []) (st := []) (ci := 12) hX (pX12_test_ok e24) sv_12_315 rfl ⟨by decide, rfl⟩ g15 (by decide +kernel) (by rw [hRm]; exact ⟨Nat.le_of_ble_eq_true rfl, Nat.le_of_ble_eq_true rfl⟩) (by rw [hRm]; exact ⟨Nat.le_of_ble_eq_true rfl, Nat.le_of_ble_eq_true rfl⟩) (Nat.le_of_ble_eq_true rfl) ?_
      show zG C E 4 S 0 0 _ 104 [some (2, x0), none, none, some (0, x3)] [] q23
      exact (pX12_ruleClause_104_ok hX hRm h)
noncomputable def pX12_ruleClause (S : ZS) (M : ZM) (a0 : Int) (a1 : Int) : Option ZM := if S.1 a0 = 12 then (pX12_blanks S M a0).bind fun q1 => (pX12_stood S q1 a0 5).bind fun q4 => if q4.1 = 0 then ((pX12_fails S q4.2 a0 0 (q1 a0 21)).bind fun q27 => some q27) else (if a1 = 12 then ((pX12_fails S q4.2 a0 4 (q1 a0 21)).bind fun q25 => some q25) else (zlet (upM q4.2 a0 21 (w32 ((q4.2 a0 21) + 5))) fun M8 => if S.1 (M8 a0 34) = 100 ∧ (0 : Int) ≤ w32 ((w32 (12 * (M8 a0 23))) + a1) ∧ w32 ((w32 (12 * (M8 a0 23))) + a1) < S.2.1 (M8 a0 34) then zlet (upM M8 (M8 a0 34) (w32 ((w32 (12 * (M8 a0 23))) + a1)) (M8 a0 25)) fun M10 => (pX12_sum S M10 a0).bind fun q11 => if S.1 (q11 a0 35) = 100 ∧ (0 : Int) ≤ w32 ((w32 (12 * (M8 a0 23))) + a1) ∧ w32 ((w32 (12 * (M8 a0 23))) + a1) < S.2.1 (q11 a0 35) then zlet (upM q11 (q11 a0 35) (w32 ((w32 (12 * (M8 a0 23))) + a1)) (q11 a0 25)) fun M14 => pX12_ruleClause_83 S M14 a0 (w32 ((w32 (12 * (M8 a0 23))) + a1)) else none else none)) else none
set_option maxHeartbeats 2000000 in
set_option maxRecDepth 20000 in
theorem pX12_ruleClause_go {C : ZC} {E : ZE} {S : ZS} {M : ZM} {a0 a1 : Int} {q : ZM} (hX : zCx C E 12 cX12_ruleClause 4 none false) (hRm : czR C = { frames := 13, cells := 0, slots := 0, locals := 354 }) (h : pX12_ruleClause  S M a0 a1 = some q) : zG C E 4 S 0 0 (zQ C E 0 0 none S q) 0 [some (2, a0), some (0, a1), none, none] [] M := by
  unfold pX12_ruleClause at h
  refine zG.blk (pc' := 1) (l' := [some (2, a0), some (0, a1), none, none]) (st' := [(2, a0)]) (M' := M) hX [(.aload_n 0, 0, 0, 0)] (by decide +kernel) rfl trivial ?_
  obtain ⟨g3, h⟩ := zif h
  obtain ⟨q1, e2, h⟩ := zbd h
  refine zG.callV (b := a0) (av := []) (st := []) (ci := 12) hX (pX12_blanks_ok e2) sv_12_193 rfl ⟨by decide, rfl⟩ g3 (by decide +kernel) (by rw [hRm]; exact ⟨Nat.le_of_ble_eq_true rfl, Nat.le_of_ble_eq_true rfl⟩) (by rw [hRm]; exact ⟨Nat.le_of_ble_eq_true rfl, Nat.le_of_ble_eq_true rfl⟩) (Nat.le_of_ble_eq_true rfl) ?_
  show zG C E 4 S 0 0 _ 4 [some (2, a0), some (0, a1), none, none] [] q1
  refine zG.blk (pc' := 10) (l' := [some (2, a0), some (0, a1), some (0, q1 a0 21), none]) (st' := [(2, a0)]) (M' := q1) hX [(.aload_n 0, 0, 0, 0), (.getfield 174, 12, 21, 0), (.istore_n 2, 0, 0, 0), (.aload_n 0, 0, 0, 0)] (by decide +kernel) rfl (And.intro g3 trivial) ?_
  refine zG.ldcW (i := 5) hX rfl rfl (by decide +kernel) ?_
  show zG C E 4 S 0 0 _ 13 [some (2, a0), some (0, a1), some (0, q1 a0 21), none] [(3, 5), (2, a0)] q1
  obtain ⟨q4, e5, h⟩ := zbd h
  refine zG.callV (b := a0) (av := [(3, 5)]) (st := []) (ci := 12) hX (pX12_stood_ok e5) sv_12_196 rfl ⟨by decide, rfl⟩ g3 (by decide +kernel) (by rw [hRm]; exact ⟨Nat.le_of_ble_eq_true rfl, Nat.le_of_ble_eq_true rfl⟩) (by rw [hRm]; exact ⟨Nat.le_of_ble_eq_true rfl, Nat.le_of_ble_eq_true rfl⟩) (Nat.le_of_ble_eq_true rfl) ?_
  show zG C E 4 S 0 0 _ 16 [some (2, a0), some (0, a1), some (0, q1 a0 21), none] [(0, q4.1)] q4.2
  refine zG.if_ne (tgt := 26) (off := 10) hX (by decide +kernel) (by decide) (fun c6 => ?_) (fun c6 => ?_)
  · have h := zin c6 h
    refine zG.blk (pc' := 29) (l' := [some (2, a0), some (0, a1), some (0, q1 a0 21), none]) (st' := [(0, 12), (0, a1)]) (M' := q4.2) hX [(.iload_n 1, 0, 0, 0), (.bipush 12, 0, 0, 0)] (by decide +kernel) rfl trivial ?_
    refine zG.icmp_ne (tgt := 39) (off := 10) hX (by decide +kernel) (by decide) (fun c7 => ?_) (fun c7 => ?_)
    · have h := zin c7 h
      refine zG.blk (pc' := 49) (l' := [some (2, a0), some (0, a1), some (0, q1 a0 21), none]) (st' := []) (M' := (upM q4.2 a0 21 (w32 ((q4.2 a0 21) + 5)))) hX [(.aload_n 0, 0, 0, 0), (.dup, 0, 0, 0), (.getfield 174, 12, 21, 0), (.iconst 5, 0, 0, 0), (.iadd, 0, 0, 0), (.putfield 174, 12, 21, 0)] (by decide +kernel) rfl (And.intro g3 (And.intro g3 trivial)) ?_
      generalize upM q4.2 a0 21 (w32 ((q4.2 a0 21) + 5)) = M8 at h ⊢
      have h := zlt h
      obtain ⟨g9, h⟩ := zif h
      refine zG.blk (pc' := 69) (l' := [some (2, a0), some (0, a1), some (0, q1 a0 21), some (0, w32 ((w32 (12 * (M8 a0 23))) + a1))]) (st' := []) (M' := (upM M8 (M8 a0 34) (w32 ((w32 (12 * (M8 a0 23))) + a1)) (M8 a0 25))) hX [(.bipush 12, 0, 0, 0), (.aload_n 0, 0, 0, 0), (.getfield 200, 12, 23, 0), (.imul, 0, 0, 0), (.iload_n 1, 0, 0, 0), (.iadd, 0, 0, 0), (.istore_n 3, 0, 0, 0), (.aload_n 0, 0, 0, 0), (.getfield 84, 12, 34, 2), (.iload_n 3, 0, 0, 0), (.aload_n 0, 0, 0, 0), (.getfield 203, 12, 25, 0), (.iastore, 0, 0, 0)] (by decide +kernel) rfl (And.intro g3 (And.intro g3 (And.intro g3 (And.intro g9 trivial)))) ?_
      generalize upM M8 (M8 a0 34) (w32 ((w32 (12 * (M8 a0 23))) + a1)) (M8 a0 25) = M10 at h ⊢
      have h := zlt h
      refine zG.blk (pc' := 70) (l' := [some (2, a0), some (0, a1), some (0, q1 a0 21), some (0, w32 ((w32 (12 * (M8 a0 23))) + a1))]) (st' := [(2, a0)]) (M' := M10) hX [(.aload_n 0, 0, 0, 0)] (by decide +kernel) rfl trivial ?_
      obtain ⟨q11, e12, h⟩ := zbd h
      refine zG.callV (b := a0) (av := []) (st := []) (ci := 12) hX (pX12_sum_ok e12) sv_12_238 rfl ⟨by decide, rfl⟩ g3 (by decide +kernel) (by rw [hRm]; exact ⟨Nat.le_of_ble_eq_true rfl, Nat.le_of_ble_eq_true rfl⟩) (by rw [hRm]; exact ⟨Nat.le_of_ble_eq_true rfl, Nat.le_of_ble_eq_true rfl⟩) (Nat.le_of_ble_eq_true rfl) ?_
      show zG C E 4 S 0 0 _ 73 [some (2, a0), some (0, a1), some (0, q1 a0 21), some (0, w32 ((w32 (12 * (M8 a0 23))) + a1))] [] q11
      obtain ⟨g13, h⟩ := zif h
      refine zG.blk (pc' := 83) (l' := [some (2, a0), some (0, a1), some (0, q1 a0 21), some (0, w32 ((w32 (12 * (M8 a0 23))) + a1))]) (st' := []) (M' := (upM q11 (q11 a0 35) (w32 ((w32 (12 * (M8 a0 23))) + a1)) (q11 a0 25))) hX [(.aload_n 0, 0, 0, 0), (.getfield 87, 12, 35, 2), (.iload_n 3, 0, 0, 0), (.aload_n 0, 0, 0, 0), (.getfield 203, 12, 25, 0), (.iastore, 0, 0, 0)] (by decide +kernel) rfl (And.intro g3 (And.intro g3 (And.intro g13 trivial))) ?_
      generalize upM q11 (q11 a0 35) (w32 ((w32 (12 * (M8 a0 23))) + a1)) (q11 a0 25) = M14 at h ⊢
      have h := zlt h
      exact zG.wk [true, false, false, true] (pX12_ruleClause_83_ok hX hRm h)
    · have h := zip c7 h
      refine zG.blk (pc' := 35) (l' := [some (2, a0), some (0, a1), some (0, q1 a0 21), none]) (st' := [(0, q1 a0 21), (0, 4), (2, a0)]) (M' := q4.2) hX [(.aload_n 0, 0, 0, 0), (.iconst 4, 0, 0, 0), (.iload_n 2, 0, 0, 0)] (by decide +kernel) rfl trivial ?_
      obtain ⟨q25, e26, h⟩ := zbd h
      refine zG.callV (b := a0) (av := [(0, 4), (0, q1 a0 21)]) (st := []) (ci := 12) hX (pX12_fails_ok e26) sv_12_209 rfl ⟨by decide, rfl⟩ g3 (by decide +kernel) (by rw [hRm]; exact ⟨Nat.le_of_ble_eq_true rfl, Nat.le_of_ble_eq_true rfl⟩) (by rw [hRm]; exact ⟨Nat.le_of_ble_eq_true rfl, Nat.le_of_ble_eq_true rfl⟩) (Nat.le_of_ble_eq_true rfl) ?_
      show zG C E 4 S 0 0 _ 38 [some (2, a0), some (0, a1), some (0, q1 a0 21), none] [] q25
      cases h
      exact zG.vret hX (by decide +kernel)
  · have h := zip c6 h
    refine zG.blk (pc' := 22) (l' := [some (2, a0), some (0, a1), some (0, q1 a0 21), none]) (st' := [(0, q1 a0 21), (0, 0), (2, a0)]) (M' := q4.2) hX [(.aload_n 0, 0, 0, 0), (.iconst 0, 0, 0, 0), (.iload_n 2, 0, 0, 0)] (by decide +kernel) rfl trivial ?_
    obtain ⟨q27, e28, h⟩ := zbd h
    refine zG.callV (b := a0) (av := [(0, 0), (0, q1 a0 21)]) (st := []) (ci := 12) hX (pX12_fails_ok e28) sv_12_209 rfl ⟨by decide, rfl⟩ g3 (by decide +kernel) (by rw [hRm]; exact ⟨Nat.le_of_ble_eq_true rfl, Nat.le_of_ble_eq_true rfl⟩) (by rw [hRm]; exact ⟨Nat.le_of_ble_eq_true rfl, Nat.le_of_ble_eq_true rfl⟩) (Nat.le_of_ble_eq_true rfl) ?_
    show zG C E 4 S 0 0 _ 25 [some (2, a0), some (0, a1), some (0, q1 a0 21), none] [] q27
    cases h
    exact zG.vret hX (by decide +kernel)
theorem pX12_ruleClause_ok {l : Launch} {E : ZE} {S : ZS} {M : ZM} {a0 a1 : Int} {q : ZM} (h : pX12_ruleClause S M a0 a1 = some q) : zMet l yX12_ruleClause cX12_ruleClause 4 none 13 354 0 0 E S M [(2, a0), (0, a1)] (none) S q :=
  zMet.of (o := 12) (ini := false) (by decide +kernel) rfl (fun h => by cases h) (Nat.le_of_ble_eq_true rfl) (fun C hX hl hRm => by subst hl; exact pX12_ruleClause_go hX hRm h)
noncomputable def pX12_rule_106 (S : ZS) (M : ZM) (y0 : Int) : Option (Int × ZM) := some (y0, M)
set_option maxHeartbeats 2000000 in
set_option maxRecDepth 20000 in
theorem pX12_rule_106_ok {C : ZC} {E : ZE} {S : ZS} {q : (Int × ZM)} (hX : zCx C E 12 cX12_rule 3 (some .int) false) (hRm : czR C = { frames := 14, cells := 0, slots := 0, locals := 377 }) {M : ZM} {y0 : Int} (h : pX12_rule_106 S M y0 = some q) : zG C E 3 S 0 0 (zQ C E 0 0 (some (0, q.1)) S q.2) 106 [none, none, none] [(0, y0)] M := by
  unfold pX12_rule_106 at h
  cases h
  exact zG.iret hX (by decide +kernel)
noncomputable def pX12_rule_79 (S : ZS) (M : ZM) (x0 : Int) (y0 : Int) (y1 : Int) (y2 : Int) : Option (Int × ZM) := if S.1 y2 = 12 then zlet (upM M y2 24 (w32 (y1 + y0))) fun M13 => if S.1 x0 = 12 then if M13 x0 22 ≤ 0 then (pX12_rule_106 S M13 (w32 ((M13 x0 24) - 1))) else (pX12_rule_106 S M13 (w32 ((-2) - (M13 x0 22)))) else none else none
set_option maxHeartbeats 2000000 in
set_option maxRecDepth 20000 in
theorem pX12_rule_79_ok {C : ZC} {E : ZE} {S : ZS} {q : (Int × ZM)} (hX : zCx C E 12 cX12_rule 3 (some .int) false) (hRm : czR C = { frames := 14, cells := 0, slots := 0, locals := 377 }) {M : ZM} {x0 : Int} {y0 : Int} {y1 : Int} {y2 : Int} (h : pX12_rule_79 S M x0 y0 y1 y2 = some q) : zG C E 3 S 0 0 (zQ C E 0 0 (some (0, q.1)) S q.2) 79 [some (2, x0), none, none] [(0, y0), (0, y1), (2, y2)] M := by
  unfold pX12_rule_79 at h
  obtain ⟨g12, h⟩ := zif h
  refine zG.blk (pc' := 83) (l' := [some (2, x0), none, none]) (st' := []) (M' := (upM M y2 24 (w32 (y1 + y0)))) hX [(.iadd, 0, 0, 0), (.putfield 318, 12, 24, 0)] (by decide +kernel) rfl (And.intro g12 trivial) ?_
  generalize upM M y2 24 (w32 (y1 + y0)) = M13 at h ⊢
  have h := zlt h
  obtain ⟨g14, h⟩ := zif h
  refine zG.blk (pc' := 87) (l' := [some (2, x0), none, none]) (st' := [(0, M13 x0 22)]) (M' := M13) hX [(.aload_n 0, 0, 0, 0), (.getfield 171, 12, 22, 0)] (by decide +kernel) rfl (And.intro g14 trivial) ?_
  refine zG.if_le (tgt := 100) (off := 13) hX (by decide +kernel) (by decide) (fun c15 => ?_) (fun c15 => ?_)
  · have h := zip c15 h
    refine zG.blk (pc' := 106) (l' := [some (2, x0), none, none]) (st' := [(0, w32 ((M13 x0 24) - 1))]) (M' := M13) hX [(.aload_n 0, 0, 0, 0), (.getfield 318, 12, 24, 0), (.iconst 1, 0, 0, 0), (.isub, 0, 0, 0)] (by decide +kernel) rfl (And.intro g14 trivial) ?_
    exact zG.wk [false, true, true] (pX12_rule_106_ok hX hRm h)
  · have h := zin c15 h
    refine zG.blk (pc' := 97) (l' := [some (2, x0), none, none]) (st' := [(0, w32 ((-2) - (M13 x0 22)))]) (M' := M13) hX [(.bipush (-2), 0, 0, 0), (.aload_n 0, 0, 0, 0), (.getfield 171, 12, 22, 0), (.isub, 0, 0, 0)] (by decide +kernel) rfl (And.intro g14 trivial) ?_
    refine zG.goto (tgt := 106) (off := 9) hX (by decide +kernel) (by decide) ?_
    exact zG.wk [false, true, true] (pX12_rule_106_ok hX hRm h)
theorem sv_12_321 : zSV 12 321 yX12_ruleClause cX12_ruleClause 4 none 1 := ⟨⟨gt_at 1385 (by decide +kernel) rfl, gt_at 1387 (by decide +kernel) rfl, gt_at 51 (by decide +kernel) rfl, gt_at 117 (by decide +kernel) rfl, gt_at 1388 (by decide +kernel) rfl⟩, by decide +kernel, by decide +kernel, by decide +kernel⟩
noncomputable def pX12_rule_27 (S : ZS) : Nat → ZM → Int → Int → Int → Option (Int × ZM)
  | 0 => fun _ _ _ _ => none
  | n + 1 => fun M x0 x1 x2 => if x2 = 0 then (if S.1 x0 = 12 then zlet (upM M x0 20 0) fun M8 => if S.1 (M8 x0 33) = 100 ∧ (0 : Int) ≤ M8 x0 23 ∧ M8 x0 23 < S.2.1 (M8 x0 33) then zlet (upM M8 (M8 x0 33) (M8 x0 23) x1) fun M10 => pX12_rule_79 S M10 x0 (if M10 x0 22 = 0 then (1 : Int) else 0) (M10 x0 24) x0 else none else none) else (if S.1 x0 = 12 then (pX12_ruleClause S M x0 x1).bind fun q17 => (pX12_goesOn S q17 x0).bind fun q20 => pX12_rule_27 S n q20.2 x0 (w32 (x1 + 1)) q20.1 else none)
set_option maxHeartbeats 2000000 in
set_option maxRecDepth 20000 in
theorem pX12_rule_27_ok {C : ZC} {E : ZE} {S : ZS} {q : (Int × ZM)} (hX : zCx C E 12 cX12_rule 3 (some .int) false) (hRm : czR C = { frames := 14, cells := 0, slots := 0, locals := 377 }) : ∀ (n : Nat) (M : ZM) (x0 : Int) (x1 : Int) (x2 : Int), pX12_rule_27 S n M x0 x1 x2 = some q → zG C E 3 S 0 0 (zQ C E 0 0 (some (0, q.1)) S q.2) 27 [some (2, x0), some (0, x1), some (0, x2)] [] M := by
  intro n
  induction n with
  | zero => intro M x0 x1 x2 h; cases h
  | succ n ih =>
    intro M x0 x1 x2 h
    unfold pX12_rule_27 at h
    refine zG.blk (pc' := 28) (l' := [some (2, x0), some (0, x1), some (0, x2)]) (st' := [(0, x2)]) (M' := M) hX [(.iload_n 2, 0, 0, 0)] (by decide +kernel) rfl trivial ?_
    refine zG.if_eq (tgt := 47) (off := 19) hX (by decide +kernel) (by decide) (fun c6 => ?_) (fun c6 => ?_)
    · have h := zip c6 h
      obtain ⟨g7, h⟩ := zif h
      refine zG.blk (pc' := 52) (l' := [some (2, x0), some (0, x1), some (0, x2)]) (st' := []) (M' := (upM M x0 20 0)) hX [(.aload_n 0, 0, 0, 0), (.iconst 0, 0, 0, 0), (.putfield 142, 12, 20, 0)] (by decide +kernel) rfl (And.intro g7 trivial) ?_
      generalize upM M x0 20 0 = M8 at h ⊢
      have h := zlt h
      obtain ⟨g9, h⟩ := zif h
      refine zG.blk (pc' := 62) (l' := [some (2, x0), some (0, x1), some (0, x2)]) (st' := []) (M' := (upM M8 (M8 x0 33) (M8 x0 23) x1)) hX [(.aload_n 0, 0, 0, 0), (.getfield 81, 12, 33, 2), (.aload_n 0, 0, 0, 0), (.getfield 200, 12, 23, 0), (.iload_n 1, 0, 0, 0), (.iastore, 0, 0, 0)] (by decide +kernel) rfl (And.intro g7 (And.intro g7 (And.intro g9 trivial))) ?_
      generalize upM M8 (M8 x0 33) (M8 x0 23) x1 = M10 at h ⊢
      have h := zlt h
      refine zG.blk (pc' := 71) (l' := [some (2, x0), some (0, x1), some (0, x2)]) (st' := [(0, M10 x0 22), (0, M10 x0 24), (2, x0)]) (M' := M10) hX [(.aload_n 0, 0, 0, 0), (.dup, 0, 0, 0), (.getfield 318, 12, 24, 0), (.aload_n 0, 0, 0, 0), (.getfield 171, 12, 22, 0)] (by decide +kernel) rfl (And.intro g7 (And.intro g7 trivial)) ?_
      have key11 : zG C E 3 S 0 0 (zQ C E 0 0 (some (0, q.1)) S q.2) 79 [some (2, x0), some (0, x1), some (0, x2)] [(0, (if M10 x0 22 = 0 then (1 : Int) else 0)), (0, M10 x0 24), (2, x0)] M10 := by
        exact zG.wk [true, false, false] (pX12_rule_79_ok hX hRm h)
      refine zG.if_ne (tgt := 78) (off := 7) hX (by decide +kernel) (by decide) (fun c16 => ?_) (fun c16 => ?_)
      · refine zG.blk (pc' := 79) (l' := [some (2, x0), some (0, x1), some (0, x2)]) (st' := [(0, 0), (0, M10 x0 24), (2, x0)]) (M' := M10) hX [(.iconst 0, 0, 0, 0)] (by decide +kernel) rfl trivial ?_
        (have k := key11; simp only [if_neg c16] at k; exact k)
      · refine zG.blk (pc' := 75) (l' := [some (2, x0), some (0, x1), some (0, x2)]) (st' := [(0, 1), (0, M10 x0 24), (2, x0)]) (M' := M10) hX [(.iconst 1, 0, 0, 0)] (by decide +kernel) rfl trivial ?_
        refine zG.goto (tgt := 79) (off := 4) hX (by decide +kernel) (by decide) ?_
        (have k := key11; simp only [if_pos c16] at k; exact k)
    · have h := zin c6 h
      refine zG.blk (pc' := 33) (l' := [some (2, x0), some (0, x1), some (0, x2)]) (st' := [(0, x1), (2, x0)]) (M' := M) hX [(.aload_n 0, 0, 0, 0), (.iload_n 1, 0, 0, 0)] (by decide +kernel) rfl trivial ?_
      obtain ⟨g19, h⟩ := zif h
      obtain ⟨q17, e18, h⟩ := zbd h
      refine zG.callV (b := x0) (av := [(0, x1)]) (st := []) (ci := 12) hX (pX12_ruleClause_ok e18) sv_12_321 rfl ⟨by decide, rfl⟩ g19 (by decide +kernel) (by rw [hRm]; exact ⟨Nat.le_of_ble_eq_true rfl, Nat.le_of_ble_eq_true rfl⟩) (by rw [hRm]; exact ⟨Nat.le_of_ble_eq_true rfl, Nat.le_of_ble_eq_true rfl⟩) (Nat.le_of_ble_eq_true rfl) ?_
      show zG C E 3 S 0 0 _ 36 [some (2, x0), some (0, x1), some (0, x2)] [] q17
      refine zG.blk (pc' := 40) (l' := [some (2, x0), some (0, w32 (x1 + 1)), some (0, x2)]) (st' := [(2, x0)]) (M' := q17) hX [(.iinc 1 1, 0, 0, 0), (.aload_n 0, 0, 0, 0)] (by decide +kernel) rfl trivial ?_
      obtain ⟨q20, e21, h⟩ := zbd h
      refine zG.callV (b := x0) (av := []) (st := []) (ci := 12) hX (pX12_goesOn_ok e21) sv_12_292 rfl ⟨by decide, rfl⟩ g19 (by decide +kernel) (by rw [hRm]; exact ⟨Nat.le_of_ble_eq_true rfl, Nat.le_of_ble_eq_true rfl⟩) (by rw [hRm]; exact ⟨Nat.le_of_ble_eq_true rfl, Nat.le_of_ble_eq_true rfl⟩) (Nat.le_of_ble_eq_true rfl) ?_
      show zG C E 3 S 0 0 _ 43 [some (2, x0), some (0, w32 (x1 + 1)), some (0, x2)] [(0, q20.1)] q20.2
      refine zG.blk (pc' := 44) (l' := [some (2, x0), some (0, w32 (x1 + 1)), some (0, q20.1)]) (st' := []) (M' := q20.2) hX [(.istore_n 2, 0, 0, 0)] (by decide +kernel) rfl trivial ?_
      refine zG.goto (tgt := 27) (off := (-17)) hX (by decide +kernel) (by decide) ?_
      exact ih _ _ _ _ h
noncomputable def pX12_rule (S : ZS) (M : ZM) (a0 : Int) : Option (Int × ZM) := if S.1 a0 = 12 then if M a0 24 = 6 then (some ((-1), M)) else (zlet (upM M a0 23 (M a0 24)) fun M3 => (pX12_starts S M3 a0).bind fun q4 => pX12_rule_27 S zFU q4 a0 0 1) else none
set_option maxHeartbeats 2000000 in
set_option maxRecDepth 20000 in
theorem pX12_rule_go {C : ZC} {E : ZE} {S : ZS} {M : ZM} {a0 : Int} {q : (Int × ZM)} (hX : zCx C E 12 cX12_rule 3 (some .int) false) (hRm : czR C = { frames := 14, cells := 0, slots := 0, locals := 377 }) (h : pX12_rule  S M a0 = some q) : zG C E 3 S 0 0 (zQ C E 0 0 (some (0, q.1)) S q.2) 0 [some (2, a0), none, none] [] M := by
  unfold pX12_rule at h
  obtain ⟨g1, h⟩ := zif h
  refine zG.blk (pc' := 6) (l' := [some (2, a0), none, none]) (st' := [(0, 6), (0, M a0 24)]) (M' := M) hX [(.aload_n 0, 0, 0, 0), (.getfield 318, 12, 24, 0), (.bipush 6, 0, 0, 0)] (by decide +kernel) rfl (And.intro g1 trivial) ?_
  refine zG.icmp_ne (tgt := 11) (off := 5) hX (by decide +kernel) (by decide) (fun c2 => ?_) (fun c2 => ?_)
  · have h := zin c2 h
    refine zG.blk (pc' := 19) (l' := [some (2, a0), none, none]) (st' := []) (M' := (upM M a0 23 (M a0 24))) hX [(.aload_n 0, 0, 0, 0), (.aload_n 0, 0, 0, 0), (.getfield 318, 12, 24, 0), (.putfield 200, 12, 23, 0)] (by decide +kernel) rfl (And.intro g1 (And.intro g1 trivial)) ?_
    generalize upM M a0 23 (M a0 24) = M3 at h ⊢
    have h := zlt h
    refine zG.blk (pc' := 20) (l' := [some (2, a0), none, none]) (st' := [(2, a0)]) (M' := M3) hX [(.aload_n 0, 0, 0, 0)] (by decide +kernel) rfl trivial ?_
    obtain ⟨q4, e5, h⟩ := zbd h
    refine zG.callV (b := a0) (av := []) (st := []) (ci := 12) hX (pX12_starts_ok e5) sv_12_286 rfl ⟨by decide, rfl⟩ g1 (by decide +kernel) (by rw [hRm]; exact ⟨Nat.le_of_ble_eq_true rfl, Nat.le_of_ble_eq_true rfl⟩) (by rw [hRm]; exact ⟨Nat.le_of_ble_eq_true rfl, Nat.le_of_ble_eq_true rfl⟩) (Nat.le_of_ble_eq_true rfl) ?_
    show zG C E 3 S 0 0 _ 23 [some (2, a0), none, none] [] q4
    refine zG.blk (pc' := 27) (l' := [some (2, a0), some (0, 0), some (0, 1)]) (st' := []) (M' := q4) hX [(.iconst 0, 0, 0, 0), (.istore_n 1, 0, 0, 0), (.iconst 1, 0, 0, 0), (.istore_n 2, 0, 0, 0)] (by decide +kernel) rfl trivial ?_
    exact (pX12_rule_27_ok hX hRm zFU _ _ _ _ h)
  · have h := zip c2 h
    refine zG.blk (pc' := 10) (l' := [some (2, a0), none, none]) (st' := [(0, (-1))]) (M' := M) hX [(.iconst (-1), 0, 0, 0)] (by decide +kernel) rfl trivial ?_
    cases h
    exact zG.iret hX (by decide +kernel)
theorem pX12_rule_ok {l : Launch} {E : ZE} {S : ZS} {M : ZM} {a0 : Int} {q : (Int × ZM)} (h : pX12_rule S M a0 = some q) : zMet l yX12_rule cX12_rule 3 (some .int) 14 377 0 0 E S M [(2, a0)] (some (0, q.1)) S q.2 :=
  zMet.of (o := 12) (ini := false) (by decide +kernel) rfl (fun h => by cases h) (Nat.le_of_ble_eq_true rfl) (fun C hX hl hRm => by subst hl; exact pX12_rule_go hX hRm h)
theorem sv_12_299 : zSV 12 299 yX12_readsAll cX12_readsAll 3 none 0 := ⟨⟨gt_at 1307 (by decide +kernel) rfl, gt_at 1309 (by decide +kernel) rfl, gt_at 37 (by decide +kernel) rfl, gt_at 117 (by decide +kernel) rfl, gt_at 1310 (by decide +kernel) rfl⟩, by decide +kernel, by decide +kernel, by decide +kernel⟩
noncomputable def pX12_sky_85 (S : ZS) (M : ZM) (x0 : Int) : Option (Int × ZM) := if S.1 x0 = 12 then (pX12_copies S M (M x0 18) (M x0 7)).bind fun q16 => (pX12_copies S q16 (q16 x0 19) (q16 x0 8)).bind fun q18 => (pX12_begins S q18 x0).bind fun q20 => zlet (upM q20 x0 42 0) fun M22 => if S.1 (M22 x0 1) = 100 ∧ (0 : Int) ≤ 2 ∧ 2 < S.2.1 (M22 x0 1) then some (M22 (M22 x0 1) 2, M22) else none else none
set_option maxHeartbeats 2000000 in
set_option maxRecDepth 20000 in
theorem pX12_sky_85_ok {C : ZC} {E : ZE} {S : ZS} {q : (Int × ZM)} (hX : zCx C E 12 cX12_sky 2 (some .int) false) (hRm : czR C = { frames := 9, cells := 0, slots := 0, locals := 269 }) {M : ZM} {x0 : Int} (h : pX12_sky_85 S M x0 = some q) : zG C E 2 S 0 0 (zQ C E 0 0 (some (0, q.1)) S q.2) 85 [some (2, x0), none] [] M := by
  unfold pX12_sky_85 at h
  obtain ⟨g15, h⟩ := zif h
  refine zG.blk (pc' := 93) (l' := [some (2, x0), none]) (st' := [(2, M x0 7), (2, M x0 18)]) (M' := M) hX [(.aload_n 0, 0, 0, 0), (.getfield 61, 12, 18, 2), (.aload_n 0, 0, 0, 0), (.getfield 28, 12, 7, 2)] (by decide +kernel) rfl (And.intro g15 (And.intro g15 trivial)) ?_
  obtain ⟨q16, e17, h⟩ := zbd h
  refine zG.callS (av := [(2, M x0 18), (2, M x0 7)]) (st := []) hX (pX12_copies_ok e17) ss_12_295 rfl (by decide +kernel) (by rw [hRm]; exact ⟨Nat.le_of_ble_eq_true rfl, Nat.le_of_ble_eq_true rfl⟩) (by rw [hRm]; exact ⟨Nat.le_of_ble_eq_true rfl, Nat.le_of_ble_eq_true rfl⟩) (Nat.le_of_ble_eq_true rfl) ?_
  show zG C E 2 S 0 0 _ 96 [some (2, x0), none] [] q16
  refine zG.blk (pc' := 104) (l' := [some (2, x0), none]) (st' := [(2, q16 x0 8), (2, q16 x0 19)]) (M' := q16) hX [(.aload_n 0, 0, 0, 0), (.getfield 64, 12, 19, 2), (.aload_n 0, 0, 0, 0), (.getfield 31, 12, 8, 2)] (by decide +kernel) rfl (And.intro g15 (And.intro g15 trivial)) ?_
  obtain ⟨q18, e19, h⟩ := zbd h
  refine zG.callS (av := [(2, q16 x0 19), (2, q16 x0 8)]) (st := []) hX (pX12_copies_ok e19) ss_12_295 rfl (by decide +kernel) (by rw [hRm]; exact ⟨Nat.le_of_ble_eq_true rfl, Nat.le_of_ble_eq_true rfl⟩) (by rw [hRm]; exact ⟨Nat.le_of_ble_eq_true rfl, Nat.le_of_ble_eq_true rfl⟩) (Nat.le_of_ble_eq_true rfl) ?_
  show zG C E 2 S 0 0 _ 107 [some (2, x0), none] [] q18
  refine zG.blk (pc' := 108) (l' := [some (2, x0), none]) (st' := [(2, x0)]) (M' := q18) hX [(.aload_n 0, 0, 0, 0)] (by decide +kernel) rfl trivial ?_
  obtain ⟨q20, e21, h⟩ := zbd h
  refine zG.callV (b := x0) (av := []) (st := []) (ci := 12) hX (pX12_begins_ok e21) sv_12_302 rfl ⟨by decide, rfl⟩ g15 (by decide +kernel) (by rw [hRm]; exact ⟨Nat.le_of_ble_eq_true rfl, Nat.le_of_ble_eq_true rfl⟩) (by rw [hRm]; exact ⟨Nat.le_of_ble_eq_true rfl, Nat.le_of_ble_eq_true rfl⟩) (Nat.le_of_ble_eq_true rfl) ?_
  show zG C E 2 S 0 0 _ 111 [some (2, x0), none] [] q20
  refine zG.blk (pc' := 116) (l' := [some (2, x0), none]) (st' := []) (M' := (upM q20 x0 42 0)) hX [(.aload_n 0, 0, 0, 0), (.iconst 0, 0, 0, 0), (.putfield 305, 12, 42, 0)] (by decide +kernel) rfl (And.intro g15 trivial) ?_
  generalize upM q20 x0 42 0 = M22 at h ⊢
  have h := zlt h
  obtain ⟨g23, h⟩ := zif h
  refine zG.blk (pc' := 122) (l' := [some (2, x0), none]) (st' := [(0, M22 (M22 x0 1) 2)]) (M' := M22) hX [(.aload_n 0, 0, 0, 0), (.getfield 9, 12, 1, 2), (.iconst 2, 0, 0, 0), (.iaload, 0, 0, 0)] (by decide +kernel) rfl (And.intro g15 (And.intro g23 trivial)) ?_
  cases h
  exact zG.iret hX (by decide +kernel)
noncomputable def pX12_sky_21 (S : ZS) : Nat → ZM → Int → Int → Option (Int × ZM)
  | 0 => fun _ _ _ => none
  | n + 1 => fun M x0 x1 => if 4 ≤ x1 then (if S.1 x0 = 12 then if S.1 (M x0 1) = 100 ∧ (0 : Int) ≤ 7 ∧ 7 < S.2.1 (M x0 1) then zlet (upM M (M x0 1) 7 0) fun M8 => (pX12_copies S M8 (M8 x0 15) (M8 x0 12)).bind fun q9 => (pX12_copies S q9 (q9 x0 16) (q9 x0 13)).bind fun q11 => (pX12_copies S q11 (q11 x0 17) (q11 x0 6)).bind fun q13 => pX12_sky_85 S q13 x0 else none else none) else (if S.1 x0 = 12 then if S.1 (M x0 14) = 100 ∧ (0 : Int) ≤ x1 ∧ x1 < S.2.1 (M x0 14) then if S.1 (M x0 1) = 100 ∧ (0 : Int) ≤ x1 ∧ x1 < S.2.1 (M x0 1) then zlet (upM M (M x0 1) x1 (M (M x0 14) x1)) fun M27 => pX12_sky_21 S n M27 x0 (w32 (x1 + 1)) else none else none else none)
set_option maxHeartbeats 2000000 in
set_option maxRecDepth 20000 in
theorem pX12_sky_21_ok {C : ZC} {E : ZE} {S : ZS} {q : (Int × ZM)} (hX : zCx C E 12 cX12_sky 2 (some .int) false) (hRm : czR C = { frames := 9, cells := 0, slots := 0, locals := 269 }) : ∀ (n : Nat) (M : ZM) (x0 : Int) (x1 : Int), pX12_sky_21 S n M x0 x1 = some q → zG C E 2 S 0 0 (zQ C E 0 0 (some (0, q.1)) S q.2) 21 [some (2, x0), some (0, x1)] [] M := by
  intro n
  induction n with
  | zero => intro M x0 x1 h; cases h
  | succ n ih =>
    intro M x0 x1 h
    unfold pX12_sky_21 at h
    refine zG.blk (pc' := 23) (l' := [some (2, x0), some (0, x1)]) (st' := [(0, 4), (0, x1)]) (M' := M) hX [(.iload_n 1, 0, 0, 0), (.iconst 4, 0, 0, 0)] (by decide +kernel) rfl trivial ?_
    refine zG.icmp_ge (tgt := 44) (off := 21) hX (by decide +kernel) (by decide) (fun c5 => ?_) (fun c5 => ?_)
    · have h := zip c5 h
      obtain ⟨g6, h⟩ := zif h
      obtain ⟨g7, h⟩ := zif h
      refine zG.blk (pc' := 52) (l' := [some (2, x0), some (0, x1)]) (st' := []) (M' := (upM M (M x0 1) 7 0)) hX [(.aload_n 0, 0, 0, 0), (.getfield 9, 12, 1, 2), (.bipush 7, 0, 0, 0), (.iconst 0, 0, 0, 0), (.iastore, 0, 0, 0)] (by decide +kernel) rfl (And.intro g6 (And.intro g7 trivial)) ?_
      generalize upM M (M x0 1) 7 0 = M8 at h ⊢
      have h := zlt h
      refine zG.blk (pc' := 60) (l' := [some (2, x0), some (0, x1)]) (st' := [(2, M8 x0 12), (2, M8 x0 15)]) (M' := M8) hX [(.aload_n 0, 0, 0, 0), (.getfield 52, 12, 15, 2), (.aload_n 0, 0, 0, 0), (.getfield 43, 12, 12, 2)] (by decide +kernel) rfl (And.intro g6 (And.intro g6 trivial)) ?_
      obtain ⟨q9, e10, h⟩ := zbd h
      refine zG.callS (av := [(2, M8 x0 15), (2, M8 x0 12)]) (st := []) hX (pX12_copies_ok e10) ss_12_295 rfl (by decide +kernel) (by rw [hRm]; exact ⟨Nat.le_of_ble_eq_true rfl, Nat.le_of_ble_eq_true rfl⟩) (by rw [hRm]; exact ⟨Nat.le_of_ble_eq_true rfl, Nat.le_of_ble_eq_true rfl⟩) (Nat.le_of_ble_eq_true rfl) ?_
      show zG C E 2 S 0 0 _ 63 [some (2, x0), some (0, x1)] [] q9
      refine zG.blk (pc' := 71) (l' := [some (2, x0), some (0, x1)]) (st' := [(2, q9 x0 13), (2, q9 x0 16)]) (M' := q9) hX [(.aload_n 0, 0, 0, 0), (.getfield 55, 12, 16, 2), (.aload_n 0, 0, 0, 0), (.getfield 46, 12, 13, 2)] (by decide +kernel) rfl (And.intro g6 (And.intro g6 trivial)) ?_
      obtain ⟨q11, e12, h⟩ := zbd h
      refine zG.callS (av := [(2, q9 x0 16), (2, q9 x0 13)]) (st := []) hX (pX12_copies_ok e12) ss_12_295 rfl (by decide +kernel) (by rw [hRm]; exact ⟨Nat.le_of_ble_eq_true rfl, Nat.le_of_ble_eq_true rfl⟩) (by rw [hRm]; exact ⟨Nat.le_of_ble_eq_true rfl, Nat.le_of_ble_eq_true rfl⟩) (Nat.le_of_ble_eq_true rfl) ?_
      show zG C E 2 S 0 0 _ 74 [some (2, x0), some (0, x1)] [] q11
      refine zG.blk (pc' := 82) (l' := [some (2, x0), some (0, x1)]) (st' := [(2, q11 x0 6), (2, q11 x0 17)]) (M' := q11) hX [(.aload_n 0, 0, 0, 0), (.getfield 58, 12, 17, 2), (.aload_n 0, 0, 0, 0), (.getfield 25, 12, 6, 2)] (by decide +kernel) rfl (And.intro g6 (And.intro g6 trivial)) ?_
      obtain ⟨q13, e14, h⟩ := zbd h
      refine zG.callS (av := [(2, q11 x0 17), (2, q11 x0 6)]) (st := []) hX (pX12_copies_ok e14) ss_12_295 rfl (by decide +kernel) (by rw [hRm]; exact ⟨Nat.le_of_ble_eq_true rfl, Nat.le_of_ble_eq_true rfl⟩) (by rw [hRm]; exact ⟨Nat.le_of_ble_eq_true rfl, Nat.le_of_ble_eq_true rfl⟩) (Nat.le_of_ble_eq_true rfl) ?_
      show zG C E 2 S 0 0 _ 85 [some (2, x0), some (0, x1)] [] q13
      exact zG.wk [true, false] (pX12_sky_85_ok hX hRm h)
    · have h := zin c5 h
      obtain ⟨g24, h⟩ := zif h
      obtain ⟨g25, h⟩ := zif h
      obtain ⟨g26, h⟩ := zif h
      refine zG.blk (pc' := 38) (l' := [some (2, x0), some (0, x1)]) (st' := []) (M' := (upM M (M x0 1) x1 (M (M x0 14) x1))) hX [(.aload_n 0, 0, 0, 0), (.getfield 9, 12, 1, 2), (.iload_n 1, 0, 0, 0), (.aload_n 0, 0, 0, 0), (.getfield 49, 12, 14, 2), (.iload_n 1, 0, 0, 0), (.iaload, 0, 0, 0), (.iastore, 0, 0, 0)] (by decide +kernel) rfl (And.intro g24 (And.intro g24 (And.intro g25 (And.intro g26 trivial)))) ?_
      generalize upM M (M x0 1) x1 (M (M x0 14) x1) = M27 at h ⊢
      have h := zlt h
      refine zG.blk (pc' := 41) (l' := [some (2, x0), some (0, w32 (x1 + 1))]) (st' := []) (M' := M27) hX [(.iinc 1 1, 0, 0, 0)] (by decide +kernel) rfl trivial ?_
      refine zG.goto (tgt := 21) (off := (-20)) hX (by decide +kernel) (by decide) ?_
      exact ih _ _ _ h
noncomputable def pX12_sky (S : ZS) (M : ZM) (a0 : Int) : Option (Int × ZM) := if S.1 a0 = 12 then (pX12_readsAll S M a0).bind fun q1 => if q1 a0 22 ≤ 0 then (pX12_sky_21 S zFU q1 a0 0) else (some (w32 ((-2) - (q1 a0 22)), q1)) else none
set_option maxHeartbeats 2000000 in
set_option maxRecDepth 20000 in
theorem pX12_sky_go {C : ZC} {E : ZE} {S : ZS} {M : ZM} {a0 : Int} {q : (Int × ZM)} (hX : zCx C E 12 cX12_sky 2 (some .int) false) (hRm : czR C = { frames := 9, cells := 0, slots := 0, locals := 269 }) (h : pX12_sky  S M a0 = some q) : zG C E 2 S 0 0 (zQ C E 0 0 (some (0, q.1)) S q.2) 0 [some (2, a0), none] [] M := by
  unfold pX12_sky at h
  refine zG.blk (pc' := 1) (l' := [some (2, a0), none]) (st' := [(2, a0)]) (M' := M) hX [(.aload_n 0, 0, 0, 0)] (by decide +kernel) rfl trivial ?_
  obtain ⟨g3, h⟩ := zif h
  obtain ⟨q1, e2, h⟩ := zbd h
  refine zG.callV (b := a0) (av := []) (st := []) (ci := 12) hX (pX12_readsAll_ok e2) sv_12_299 rfl ⟨by decide, rfl⟩ g3 (by decide +kernel) (by rw [hRm]; exact ⟨Nat.le_of_ble_eq_true rfl, Nat.le_of_ble_eq_true rfl⟩) (by rw [hRm]; exact ⟨Nat.le_of_ble_eq_true rfl, Nat.le_of_ble_eq_true rfl⟩) (Nat.le_of_ble_eq_true rfl) ?_
  show zG C E 2 S 0 0 _ 4 [some (2, a0), none] [] q1
  refine zG.blk (pc' := 8) (l' := [some (2, a0), none]) (st' := [(0, q1 a0 22)]) (M' := q1) hX [(.aload_n 0, 0, 0, 0), (.getfield 171, 12, 22, 0)] (by decide +kernel) rfl (And.intro g3 trivial) ?_
  refine zG.if_le (tgt := 19) (off := 11) hX (by decide +kernel) (by decide) (fun c4 => ?_) (fun c4 => ?_)
  · have h := zip c4 h
    refine zG.blk (pc' := 21) (l' := [some (2, a0), some (0, 0)]) (st' := []) (M' := q1) hX [(.iconst 0, 0, 0, 0), (.istore_n 1, 0, 0, 0)] (by decide +kernel) rfl trivial ?_
    exact (pX12_sky_21_ok hX hRm zFU _ _ _ h)
  · have h := zin c4 h
    refine zG.blk (pc' := 18) (l' := [some (2, a0), none]) (st' := [(0, w32 ((-2) - (q1 a0 22)))]) (M' := q1) hX [(.bipush (-2), 0, 0, 0), (.aload_n 0, 0, 0, 0), (.getfield 171, 12, 22, 0), (.isub, 0, 0, 0)] (by decide +kernel) rfl (And.intro g3 trivial) ?_
    cases h
    exact zG.iret hX (by decide +kernel)
theorem pX12_sky_ok {l : Launch} {E : ZE} {S : ZS} {M : ZM} {a0 : Int} {q : (Int × ZM)} (h : pX12_sky S M a0 = some q) : zMet l yX12_sky cX12_sky 2 (some .int) 9 269 0 0 E S M [(2, a0)] (some (0, q.1)) S q.2 :=
  zMet.of (o := 12) (ini := false) (by decide +kernel) rfl (fun h => by cases h) (Nat.le_of_ble_eq_true rfl) (fun C hX hl hRm => by subst hl; exact pX12_sky_go hX hRm h)
