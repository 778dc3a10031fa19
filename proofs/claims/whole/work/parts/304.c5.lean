noncomputable def pX10_dropOldest_9 (S : ZS) : Nat → ZM → Int → Int → Int → Option ZM
  | 0 => fun _ _ _ _ => none
  | n + 1 => fun M x0 x1 x2 => if 20 ≤ x2 then (if S.1 x0 = 10 then if S.1 (M x0 2) = 105 ∧ (0 : Int) ≤ 19 ∧ 19 < S.2.1 (M x0 2) then if x1 = 0 ∨ S.1 x1 = 6 then zlet (upM M (M x0 2) 19 x1) fun M7 => zlet (upM M7 x0 3 19) fun M8 => some M8 else none else none else none) else (if S.1 x0 = 10 then if S.1 (M x0 2) = 105 ∧ (0 : Int) ≤ x2 ∧ x2 < S.2.1 (M x0 2) then if S.1 (M x0 2) = 105 ∧ (0 : Int) ≤ w32 (x2 - 1) ∧ w32 (x2 - 1) < S.2.1 (M x0 2) then if M (M x0 2) x2 = 0 ∨ S.1 (M (M x0 2) x2) = 6 then zlet (upM M (M x0 2) (w32 (x2 - 1)) (M (M x0 2) x2)) fun M13 => pX10_dropOldest_9 S n M13 x0 x1 (w32 (x2 + 1)) else none else none else none else none)
set_option maxHeartbeats 2000000 in
set_option maxRecDepth 20000 in
theorem pX10_dropOldest_9_ok {C : ZC} {E : ZE} {S : ZS} {q : ZM} (hX : zCx C E 10 cX10_dropOldest 3 none false) (hRm : czR C = { frames := 1, cells := 0, slots := 0, locals := 40 }) : ∀ (n : Nat) (M : ZM) (x0 : Int) (x1 : Int) (x2 : Int), pX10_dropOldest_9 S n M x0 x1 x2 = some q → zG C E 3 S 0 0 (zQ C E 0 0 none S q) 9 [some (2, x0), some (2, x1), some (0, x2)] [] M := by
  intro n
  induction n with
  | zero => intro M x0 x1 x2 h; cases h
  | succ n ih =>
    intro M x0 x1 x2 h
    unfold pX10_dropOldest_9 at h
    refine zG.blk (pc' := 12) (l' := [some (2, x0), some (2, x1), some (0, x2)]) (st' := [(0, 20), (0, x2)]) (M' := M) hX [(.iload_n 2, 0, 0, 0), (.bipush 20, 0, 0, 0)] (by decide +kernel) rfl trivial ?_
    refine zG.icmp_ge (tgt := 35) (off := 23) hX (by decide +kernel) (by decide) (fun c3 => ?_) (fun c3 => ?_)
    · have h := zip c3 h
      obtain ⟨g4, h⟩ := zif h
      obtain ⟨g5, h⟩ := zif h
      obtain ⟨g6, h⟩ := zif h
      refine zG.blk (pc' := 43) (l' := [some (2, x0), some (2, x1), some (0, x2)]) (st' := []) (M' := (upM M (M x0 2) 19 x1)) hX [(.aload_n 0, 0, 0, 0), (.getfield 25, 10, 2, 2), (.bipush 19, 0, 0, 0), (.aload_n 1, 0, 0, 0), (.aastore, 105, 6, 0)] (by decide +kernel) rfl (And.intro g4 (And.intro g5 (And.intro g6 trivial))) ?_
      generalize upM M (M x0 2) 19 x1 = M7 at h ⊢
      have h := zlt h
      refine zG.blk (pc' := 49) (l' := [some (2, x0), some (2, x1), some (0, x2)]) (st' := []) (M' := (upM M7 x0 3 19)) hX [(.aload_n 0, 0, 0, 0), (.bipush 19, 0, 0, 0), (.putfield 50, 10, 3, 0)] (by decide +kernel) rfl (And.intro g4 trivial) ?_
      generalize upM M7 x0 3 19 = M8 at h ⊢
      have h := zlt h
      cases h
      exact zG.vret hX (by decide +kernel)
    · have h := zin c3 h
      obtain ⟨g9, h⟩ := zif h
      obtain ⟨g10, h⟩ := zif h
      obtain ⟨g11, h⟩ := zif h
      obtain ⟨g12, h⟩ := zif h
      refine zG.blk (pc' := 29) (l' := [some (2, x0), some (2, x1), some (0, x2)]) (st' := []) (M' := (upM M (M x0 2) (w32 (x2 - 1)) (M (M x0 2) x2))) hX [(.aload_n 0, 0, 0, 0), (.getfield 25, 10, 2, 2), (.iload_n 2, 0, 0, 0), (.iconst 1, 0, 0, 0), (.isub, 0, 0, 0), (.aload_n 0, 0, 0, 0), (.getfield 25, 10, 2, 2), (.iload_n 2, 0, 0, 0), (.aaload, 105, 0, 0), (.aastore, 105, 6, 0)] (by decide +kernel) rfl (And.intro g9 (And.intro g9 (And.intro g10 (And.intro g11 (And.intro g12 trivial))))) ?_
      generalize upM M (M x0 2) (w32 (x2 - 1)) (M (M x0 2) x2) = M13 at h ⊢
      have h := zlt h
      refine zG.blk (pc' := 32) (l' := [some (2, x0), some (2, x1), some (0, w32 (x2 + 1))]) (st' := []) (M' := M13) hX [(.iinc 2 1, 0, 0, 0)] (by decide +kernel) rfl trivial ?_
      refine zG.goto (tgt := 9) (off := (-23)) hX (by decide +kernel) (by decide) ?_
      exact ih _ _ _ _ h
noncomputable def pX10_dropOldest (S : ZS) (M : ZM) (a0 : Int) : Option ZM := if S.1 a0 = 10 then if S.1 (M a0 2) = 105 ∧ (0 : Int) ≤ 0 ∧ 0 < S.2.1 (M a0 2) then pX10_dropOldest_9 S zFU M a0 (M (M a0 2) 0) 1 else none else none
set_option maxHeartbeats 2000000 in
set_option maxRecDepth 20000 in
theorem pX10_dropOldest_go {C : ZC} {E : ZE} {S : ZS} {M : ZM} {a0 : Int} {q : ZM} (hX : zCx C E 10 cX10_dropOldest 3 none false) (hRm : czR C = { frames := 1, cells := 0, slots := 0, locals := 40 }) (h : pX10_dropOldest  S M a0 = some q) : zG C E 3 S 0 0 (zQ C E 0 0 none S q) 0 [some (2, a0), none, none] [] M := by
  unfold pX10_dropOldest at h
  obtain ⟨g1, h⟩ := zif h
  obtain ⟨g2, h⟩ := zif h
  refine zG.blk (pc' := 9) (l' := [some (2, a0), some (2, M (M a0 2) 0), some (0, 1)]) (st' := []) (M' := M) hX [(.aload_n 0, 0, 0, 0), (.getfield 25, 10, 2, 2), (.iconst 0, 0, 0, 0), (.aaload, 105, 0, 0), (.astore_n 1, 0, 0, 0), (.iconst 1, 0, 0, 0), (.istore_n 2, 0, 0, 0)] (by decide +kernel) rfl (And.intro g1 (And.intro g2 trivial)) ?_
  exact (pX10_dropOldest_9_ok hX hRm zFU _ _ _ _ h)
theorem pX10_dropOldest_ok {l : Launch} {E : ZE} {S : ZS} {M : ZM} {a0 : Int} {q : ZM} (h : pX10_dropOldest S M a0 = some q) : zMet l yX10_dropOldest cX10_dropOldest 3 none 1 40 0 0 E S M [(2, a0)] (none) S q :=
  zMet.of (o := 10) (ini := false) (by decide +kernel) rfl (fun h => by cases h) (Nat.le_of_ble_eq_true rfl) (fun C hX hl hRm => by subst hl; exact pX10_dropOldest_go hX hRm h)
theorem sv_10_71 : zSV 10 71 yX6_strokes cX6_strokes 3 (some .int) 0 := ⟨⟨gt_at 1021 (by decide +kernel) rfl, gt_at 903 (by decide +kernel) rfl, gt_at 904 (by decide +kernel) rfl, gt_at 111 (by decide +kernel) rfl, gt_at 905 (by decide +kernel) rfl⟩, by decide +kernel, by decide +kernel, by decide +kernel⟩
theorem sv_10_75 : zSV 10 75 yX6_strokesOf cX6_strokesOf 4 (some .int) 1 := ⟨⟨gt_at 1022 (by decide +kernel) rfl, gt_at 757 (by decide +kernel) rfl, gt_at 758 (by decide +kernel) rfl, gt_at 111 (by decide +kernel) rfl, gt_at 759 (by decide +kernel) rfl⟩, by decide +kernel, by decide +kernel, by decide +kernel⟩
noncomputable def pX10_penceOf_35 (S : ZS) : Nat → ZM → Int → Int → Int → Int → Int → Int → Int → Int → Option (Int × ZM)
  | 0 => fun _ _ _ _ _ _ _ _ _ => none
  | n + 1 => fun M x0 x1 x2 x3 x4 x5 x6 x7 => if S.1 x0 = 10 then if S.1 (M x0 0) = 9 then if M (M x0 0) 3 ≤ x7 then (if ¬ x3 = 0 then some (w32 ((w32 (Int.tdiv x4 x3)) + (if x5 ≤ x6 then (0 : Int) else 1)), M) else none) else (if S.1 (M x0 1) = 6 then (pX6_strokesOf S M (M x0 1) x7).bind fun q15 => if ¬ x3 = 0 then zlet (w32 (x5 - (w32 (Int.tdiv (w32 (x1 * q15.1)) x3)))) fun x19 => zlet (w32 ((Int.tmod (w32 (x1 * q15.1)) x3) - (Int.tmod x4 x3))) fun x20 => pX10_penceOf_35 S n q15.2 x0 x1 x2 x3 x4 x19 (if 0 < x20 then (w32 (x6 + 1) : Int) else (if x20 = 0 then ((if x2 ≤ x7 then (x6 : Int) else (w32 (x6 + 1))) : Int) else x6)) (w32 (x7 + 1)) else none else none) else none else none
set_option maxHeartbeats 2000000 in
set_option maxRecDepth 20000 in
theorem pX10_penceOf_35_ok {C : ZC} {E : ZE} {S : ZS} {q : (Int × ZM)} (hX : zCx C E 10 cX10_penceOf 10 (some .int) false) (hRm : czR C = { frames := 2, cells := 0, slots := 0, locals := 63 }) : ∀ (n : Nat) (M : ZM) (x0 : Int) (x1 : Int) (x2 : Int) (x3 : Int) (x4 : Int) (x5 : Int) (x6 : Int) (x7 : Int), pX10_penceOf_35 S n M x0 x1 x2 x3 x4 x5 x6 x7 = some q → zG C E 10 S 0 0 (zQ C E 0 0 (some (0, q.1)) S q.2) 35 [some (2, x0), some (0, x1), some (0, x2), some (0, x3), some (0, x4), some (0, x5), some (0, x6), some (0, x7), none, none] [] M := by
  intro n
  induction n with
  | zero => intro M x0 x1 x2 x3 x4 x5 x6 x7 h; cases h
  | succ n ih =>
    intro M x0 x1 x2 x3 x4 x5 x6 x7 h
    unfold pX10_penceOf_35 at h
    obtain ⟨g9, h⟩ := zif h
    obtain ⟨g10, h⟩ := zif h
    refine zG.blk (pc' := 44) (l' := [some (2, x0), some (0, x1), some (0, x2), some (0, x3), some (0, x4), some (0, x5), some (0, x6), some (0, x7), none, none]) (st' := [(0, M (M x0 0) 3), (0, x7)]) (M' := M) hX [(.iload 7, 0, 0, 0), (.aload_n 0, 0, 0, 0), (.getfield 12, 10, 0, 2), (.getfield 79, 9, 3, 0)] (by decide +kernel) rfl (And.intro g9 (And.intro g10 trivial)) ?_
    refine zG.icmp_ge (tgt := 105) (off := 61) hX (by decide +kernel) (by decide) (fun c11 => ?_) (fun c11 => ?_)
    · have h := zip c11 h
      obtain ⟨g12, h⟩ := zif h
      refine zG.blk (pc' := 113) (l' := [some (2, x0), some (0, x1), some (0, x2), some (0, x3), some (0, x4), some (0, x5), some (0, x6), some (0, x7), none, none]) (st' := [(0, x5), (0, x6), (0, w32 (Int.tdiv x4 x3))]) (M' := M) hX [(.iload 4, 0, 0, 0), (.iload_n 3, 0, 0, 0), (.idiv, 0, 0, 0), (.iload 6, 0, 0, 0), (.iload 5, 0, 0, 0)] (by decide +kernel) rfl (And.intro g12 trivial) ?_
      have key13 : zG C E 10 S 0 0 (zQ C E 0 0 (some (0, q.1)) S q.2) 121 [some (2, x0), some (0, x1), some (0, x2), some (0, x3), some (0, x4), some (0, x5), some (0, x6), some (0, x7), none, none] [(0, (if x5 ≤ x6 then (0 : Int) else 1)), (0, w32 (Int.tdiv x4 x3))] M := by
        refine zG.blk (pc' := 122) (l' := [some (2, x0), some (0, x1), some (0, x2), some (0, x3), some (0, x4), some (0, x5), some (0, x6), some (0, x7), none, none]) (st' := [(0, w32 ((w32 (Int.tdiv x4 x3)) + (if x5 ≤ x6 then (0 : Int) else 1)))]) (M' := M) hX [(.iadd, 0, 0, 0)] (by decide +kernel) rfl trivial ?_
        cases h
        exact zG.iret hX (by decide +kernel)
      refine zG.icmp_ge (tgt := 120) (off := 7) hX (by decide +kernel) (by decide) (fun c14 => ?_) (fun c14 => ?_)
      · refine zG.blk (pc' := 121) (l' := [some (2, x0), some (0, x1), some (0, x2), some (0, x3), some (0, x4), some (0, x5), some (0, x6), some (0, x7), none, none]) (st' := [(0, 0), (0, w32 (Int.tdiv x4 x3))]) (M' := M) hX [(.iconst 0, 0, 0, 0)] (by decide +kernel) rfl trivial ?_
        (have k := key13; simp only [if_pos c14] at k; exact k)
      · refine zG.blk (pc' := 117) (l' := [some (2, x0), some (0, x1), some (0, x2), some (0, x3), some (0, x4), some (0, x5), some (0, x6), some (0, x7), none, none]) (st' := [(0, 1), (0, w32 (Int.tdiv x4 x3))]) (M' := M) hX [(.iconst 1, 0, 0, 0)] (by decide +kernel) rfl trivial ?_
        refine zG.goto (tgt := 121) (off := 4) hX (by decide +kernel) (by decide) ?_
        (have k := key13; simp only [if_neg c14] at k; exact k)
    · have h := zin c11 h
      refine zG.blk (pc' := 54) (l' := [some (2, x0), some (0, x1), some (0, x2), some (0, x3), some (0, x4), some (0, x5), some (0, x6), some (0, x7), none, none]) (st' := [(0, x7), (2, M x0 1), (0, x1)]) (M' := M) hX [(.iload_n 1, 0, 0, 0), (.aload_n 0, 0, 0, 0), (.getfield 21, 10, 1, 2), (.iload 7, 0, 0, 0)] (by decide +kernel) rfl (And.intro g9 trivial) ?_
      obtain ⟨g17, h⟩ := zif h
      obtain ⟨q15, e16, h⟩ := zbd h
      refine zG.callV (b := M x0 1) (av := [(0, x7)]) (st := [(0, x1)]) (ci := 6) hX (pX6_strokesOf_ok e16) sv_10_75 rfl ⟨by decide, rfl⟩ g17 (by decide +kernel) (by rw [hRm]; exact ⟨Nat.le_of_ble_eq_true rfl, Nat.le_of_ble_eq_true rfl⟩) (by rw [hRm]; exact ⟨Nat.le_of_ble_eq_true rfl, Nat.le_of_ble_eq_true rfl⟩) (Nat.le_of_ble_eq_true rfl) ?_
      show zG C E 10 S 0 0 _ 57 [some (2, x0), some (0, x1), some (0, x2), some (0, x3), some (0, x4), some (0, x5), some (0, x6), some (0, x7), none, none] [(0, q15.1), (0, x1)] q15.2
      obtain ⟨g18, h⟩ := zif h
      refine zG.blk (pc' := 69) (l' := [some (2, x0), some (0, x1), some (0, x2), some (0, x3), some (0, x4), some (0, w32 (x5 - (w32 (Int.tdiv (w32 (x1 * q15.1)) x3)))), some (0, x6), some (0, x7), some (0, w32 (x1 * q15.1)), none]) (st' := []) (M' := q15.2) hX [(.imul, 0, 0, 0), (.istore 8, 0, 0, 0), (.iload 5, 0, 0, 0), (.iload 8, 0, 0, 0), (.iload_n 3, 0, 0, 0), (.idiv, 0, 0, 0), (.isub, 0, 0, 0), (.istore 5, 0, 0, 0)] (by decide +kernel) rfl (And.intro g18 trivial) ?_
      generalize w32 (x5 - (w32 (Int.tdiv (w32 (x1 * q15.1)) x3))) = x19 at h ⊢
      have h := zlt h
      refine zG.blk (pc' := 80) (l' := [some (2, x0), some (0, x1), some (0, x2), some (0, x3), some (0, x4), some (0, x19), some (0, x6), some (0, x7), some (0, w32 (x1 * q15.1)), some (0, w32 ((Int.tmod (w32 (x1 * q15.1)) x3) - (Int.tmod x4 x3)))]) (st' := []) (M' := q15.2) hX [(.iload 8, 0, 0, 0), (.iload_n 3, 0, 0, 0), (.irem, 0, 0, 0), (.iload 4, 0, 0, 0), (.iload_n 3, 0, 0, 0), (.irem, 0, 0, 0), (.isub, 0, 0, 0), (.istore 9, 0, 0, 0)] (by decide +kernel) rfl (And.intro g18 (And.intro g18 trivial)) ?_
      generalize w32 ((Int.tmod (w32 (x1 * q15.1)) x3) - (Int.tmod x4 x3)) = x20 at h ⊢
      have h := zlt h
      refine zG.blk (pc' := 82) (l' := [some (2, x0), some (0, x1), some (0, x2), some (0, x3), some (0, x4), some (0, x19), some (0, x6), some (0, x7), some (0, w32 (x1 * q15.1)), some (0, x20)]) (st' := [(0, x20)]) (M' := q15.2) hX [(.iload 9, 0, 0, 0)] (by decide +kernel) rfl trivial ?_
      have key21 : zG C E 10 S 0 0 (zQ C E 0 0 (some (0, q.1)) S q.2) 99 [some (2, x0), some (0, x1), some (0, x2), some (0, x3), some (0, x4), some (0, x19), some (0, (if 0 < x20 then (w32 (x6 + 1) : Int) else (if x20 = 0 then ((if x2 ≤ x7 then (x6 : Int) else (w32 (x6 + 1))) : Int) else x6))), some (0, x7), some (0, w32 (x1 * q15.1)), some (0, x20)] [] q15.2 := by
        refine zG.blk (pc' := 102) (l' := [some (2, x0), some (0, x1), some (0, x2), some (0, x3), some (0, x4), some (0, x19), some (0, (if 0 < x20 then (w32 (x6 + 1) : Int) else (if x20 = 0 then ((if x2 ≤ x7 then (x6 : Int) else (w32 (x6 + 1))) : Int) else x6))), some (0, w32 (x7 + 1)), some (0, w32 (x1 * q15.1)), some (0, x20)]) (st' := []) (M' := q15.2) hX [(.iinc 7 1, 0, 0, 0)] (by decide +kernel) rfl trivial ?_
        refine zG.goto (tgt := 35) (off := (-67)) hX (by decide +kernel) (by decide) ?_
        exact zG.wk [true, true, true, true, true, true, true, true, false, false] (ih _ _ _ _ _ _ _ _ _ h)
      refine zG.if_gt (tgt := 96) (off := 14) hX (by decide +kernel) (by decide) (fun c22 => ?_) (fun c22 => ?_)
      · refine zG.blk (pc' := 99) (l' := [some (2, x0), some (0, x1), some (0, x2), some (0, x3), some (0, x4), some (0, x19), some (0, w32 (x6 + 1)), some (0, x7), some (0, w32 (x1 * q15.1)), some (0, x20)]) (st' := []) (M' := q15.2) hX [(.iinc 6 1, 0, 0, 0)] (by decide +kernel) rfl trivial ?_
        (have k := key21; simp only [if_pos c22] at k; exact k)
      · refine zG.blk (pc' := 87) (l' := [some (2, x0), some (0, x1), some (0, x2), some (0, x3), some (0, x4), some (0, x19), some (0, x6), some (0, x7), some (0, w32 (x1 * q15.1)), some (0, x20)]) (st' := [(0, x20)]) (M' := q15.2) hX [(.iload 9, 0, 0, 0)] (by decide +kernel) rfl trivial ?_
        refine zG.if_ne (tgt := 99) (off := 12) hX (by decide +kernel) (by decide) (fun c23 => ?_) (fun c23 => ?_)
        · (have k := key21; simp only [if_neg c22, if_neg c23] at k; exact k)
        · refine zG.blk (pc' := 93) (l' := [some (2, x0), some (0, x1), some (0, x2), some (0, x3), some (0, x4), some (0, x19), some (0, x6), some (0, x7), some (0, w32 (x1 * q15.1)), some (0, x20)]) (st' := [(0, x2), (0, x7)]) (M' := q15.2) hX [(.iload 7, 0, 0, 0), (.iload_n 2, 0, 0, 0)] (by decide +kernel) rfl trivial ?_
          refine zG.icmp_ge (tgt := 99) (off := 6) hX (by decide +kernel) (by decide) (fun c24 => ?_) (fun c24 => ?_)
          · (have k := key21; simp only [if_neg c22, if_pos c23, if_pos c24] at k; exact k)
          · refine zG.blk (pc' := 99) (l' := [some (2, x0), some (0, x1), some (0, x2), some (0, x3), some (0, x4), some (0, x19), some (0, w32 (x6 + 1)), some (0, x7), some (0, w32 (x1 * q15.1)), some (0, x20)]) (st' := []) (M' := q15.2) hX [(.iinc 6 1, 0, 0, 0)] (by decide +kernel) rfl trivial ?_
            (have k := key21; simp only [if_neg c22, if_pos c23, if_neg c24] at k; exact k)
noncomputable def pX10_penceOf (S : ZS) (M : ZM) (a0 : Int) (a1 : Int) (a2 : Int) : Option (Int × ZM) := if S.1 a0 = 10 then if S.1 (M a0 1) = 6 then (pX6_strokes S M (M a0 1)).bind fun q2 => if q2.1 = 0 then (some (0, q2.2)) else (if S.1 (q2.2 a0 1) = 6 then (pX6_strokesOf S q2.2 (q2.2 a0 1) a2).bind fun q6 => pX10_penceOf_35 S zFU q6.2 a0 a1 a2 q2.1 (w32 (a1 * q6.1)) a1 0 0 else none) else none else none
set_option maxHeartbeats 2000000 in
set_option maxRecDepth 20000 in
theorem pX10_penceOf_go {C : ZC} {E : ZE} {S : ZS} {M : ZM} {a0 a1 a2 : Int} {q : (Int × ZM)} (hX : zCx C E 10 cX10_penceOf 10 (some .int) false) (hRm : czR C = { frames := 2, cells := 0, slots := 0, locals := 63 }) (h : pX10_penceOf  S M a0 a1 a2 = some q) : zG C E 10 S 0 0 (zQ C E 0 0 (some (0, q.1)) S q.2) 0 [some (2, a0), some (0, a1), some (0, a2), none, none, none, none, none, none, none] [] M := by
  unfold pX10_penceOf at h
  obtain ⟨g1, h⟩ := zif h
  refine zG.blk (pc' := 4) (l' := [some (2, a0), some (0, a1), some (0, a2), none, none, none, none, none, none, none]) (st' := [(2, M a0 1)]) (M' := M) hX [(.aload_n 0, 0, 0, 0), (.getfield 21, 10, 1, 2)] (by decide +kernel) rfl (And.intro g1 trivial) ?_
  obtain ⟨g4, h⟩ := zif h
  obtain ⟨q2, e3, h⟩ := zbd h
  refine zG.callV (b := M a0 1) (av := []) (st := []) (ci := 6) hX (pX6_strokes_ok e3) sv_10_71 rfl ⟨by decide, rfl⟩ g4 (by decide +kernel) (by rw [hRm]; exact ⟨Nat.le_of_ble_eq_true rfl, Nat.le_of_ble_eq_true rfl⟩) (by rw [hRm]; exact ⟨Nat.le_of_ble_eq_true rfl, Nat.le_of_ble_eq_true rfl⟩) (Nat.le_of_ble_eq_true rfl) ?_
  show zG C E 10 S 0 0 _ 7 [some (2, a0), some (0, a1), some (0, a2), none, none, none, none, none, none, none] [(0, q2.1)] q2.2
  refine zG.blk (pc' := 9) (l' := [some (2, a0), some (0, a1), some (0, a2), some (0, q2.1), none, none, none, none, none, none]) (st' := [(0, q2.1)]) (M' := q2.2) hX [(.istore_n 3, 0, 0, 0), (.iload_n 3, 0, 0, 0)] (by decide +kernel) rfl trivial ?_
  refine zG.if_ne (tgt := 14) (off := 5) hX (by decide +kernel) (by decide) (fun c5 => ?_) (fun c5 => ?_)
  · have h := zin c5 h
    refine zG.blk (pc' := 20) (l' := [some (2, a0), some (0, a1), some (0, a2), some (0, q2.1), none, none, none, none, none, none]) (st' := [(0, a2), (2, q2.2 a0 1), (0, a1)]) (M' := q2.2) hX [(.iload_n 1, 0, 0, 0), (.aload_n 0, 0, 0, 0), (.getfield 21, 10, 1, 2), (.iload_n 2, 0, 0, 0)] (by decide +kernel) rfl (And.intro g1 trivial) ?_
    obtain ⟨g8, h⟩ := zif h
    obtain ⟨q6, e7, h⟩ := zbd h
    refine zG.callV (b := q2.2 a0 1) (av := [(0, a2)]) (st := [(0, a1)]) (ci := 6) hX (pX6_strokesOf_ok e7) sv_10_75 rfl ⟨by decide, rfl⟩ g8 (by decide +kernel) (by rw [hRm]; exact ⟨Nat.le_of_ble_eq_true rfl, Nat.le_of_ble_eq_true rfl⟩) (by rw [hRm]; exact ⟨Nat.le_of_ble_eq_true rfl, Nat.le_of_ble_eq_true rfl⟩) (Nat.le_of_ble_eq_true rfl) ?_
    show zG C E 10 S 0 0 _ 23 [some (2, a0), some (0, a1), some (0, a2), some (0, q2.1), none, none, none, none, none, none] [(0, q6.1), (0, a1)] q6.2
    refine zG.blk (pc' := 35) (l' := [some (2, a0), some (0, a1), some (0, a2), some (0, q2.1), some (0, w32 (a1 * q6.1)), some (0, a1), some (0, 0), some (0, 0), none, none]) (st' := []) (M' := q6.2) hX [(.imul, 0, 0, 0), (.istore 4, 0, 0, 0), (.iload_n 1, 0, 0, 0), (.istore 5, 0, 0, 0), (.iconst 0, 0, 0, 0), (.istore 6, 0, 0, 0), (.iconst 0, 0, 0, 0), (.istore 7, 0, 0, 0)] (by decide +kernel) rfl trivial ?_
    exact (pX10_penceOf_35_ok hX hRm zFU _ _ _ _ _ _ _ _ _ h)
  · have h := zip c5 h
    refine zG.blk (pc' := 13) (l' := [some (2, a0), some (0, a1), some (0, a2), some (0, q2.1), none, none, none, none, none, none]) (st' := [(0, 0)]) (M' := q2.2) hX [(.iconst 0, 0, 0, 0)] (by decide +kernel) rfl trivial ?_
    cases h
    exact zG.iret hX (by decide +kernel)
theorem pX10_penceOf_ok {l : Launch} {E : ZE} {S : ZS} {M : ZM} {a0 a1 a2 : Int} {q : (Int × ZM)} (h : pX10_penceOf S M a0 a1 a2 = some q) : zMet l yX10_penceOf cX10_penceOf 10 (some .int) 2 63 0 0 E S M [(2, a0), (0, a1), (0, a2)] (some (0, q.1)) S q.2 :=
  zMet.of (o := 10) (ini := false) (by decide +kernel) rfl (fun h => by cases h) (Nat.le_of_ble_eq_true rfl) (fun C hX hl hRm => by subst hl; exact pX10_penceOf_go hX hRm h)
noncomputable def pX10_recall_33 (S : ZS) (M : ZM) : Option ZM := some M
set_option maxHeartbeats 2000000 in
set_option maxRecDepth 20000 in
theorem pX10_recall_33_ok {C : ZC} {E : ZE} {S : ZS} {q : ZM} (hX : zCx C E 10 cX10_recall 1 none false) (hRm : czR C = { frames := 2, cells := 0, slots := 0, locals := 81 }) {M : ZM} (h : pX10_recall_33 S M = some q) : zG C E 1 S 0 0 (zQ C E 0 0 none S q) 33 [none] [] M := by
  unfold pX10_recall_33 at h
  cases h
  exact zG.vret hX (by decide +kernel)
noncomputable def pX10_recall (S : ZS) (M : ZM) (a0 : Int) : Option ZM := if S.1 a0 = 10 then if M a0 3 ≤ 0 then (pX10_recall_33 S M) else (zlet (upM M a0 3 (w32 ((M a0 3) - 1))) fun M3 => if S.1 (M3 a0 2) = 105 ∧ (0 : Int) ≤ M3 a0 3 ∧ M3 a0 3 < S.2.1 (M3 a0 2) then if S.1 (M3 a0 1) = 6 then (pX6_copyFrom S M3 (M3 a0 1) (M3 (M3 a0 2) (M3 a0 3))).bind fun q5 => pX10_recall_33 S q5 else none else none) else none
set_option maxHeartbeats 2000000 in
set_option maxRecDepth 20000 in
theorem pX10_recall_go {C : ZC} {E : ZE} {S : ZS} {M : ZM} {a0 : Int} {q : ZM} (hX : zCx C E 10 cX10_recall 1 none false) (hRm : czR C = { frames := 2, cells := 0, slots := 0, locals := 81 }) (h : pX10_recall  S M a0 = some q) : zG C E 1 S 0 0 (zQ C E 0 0 none S q) 0 [some (2, a0)] [] M := by
  unfold pX10_recall at h
  obtain ⟨g1, h⟩ := zif h
  refine zG.blk (pc' := 4) (l' := [some (2, a0)]) (st' := [(0, M a0 3)]) (M' := M) hX [(.aload_n 0, 0, 0, 0), (.getfield 50, 10, 3, 0)] (by decide +kernel) rfl (And.intro g1 trivial) ?_
  refine zG.if_le (tgt := 33) (off := 29) hX (by decide +kernel) (by decide) (fun c2 => ?_) (fun c2 => ?_)
  · have h := zip c2 h
    exact zG.wk [false] (pX10_recall_33_ok hX hRm h)
  · have h := zin c2 h
    refine zG.blk (pc' := 17) (l' := [some (2, a0)]) (st' := []) (M' := (upM M a0 3 (w32 ((M a0 3) - 1)))) hX [(.aload_n 0, 0, 0, 0), (.dup, 0, 0, 0), (.getfield 50, 10, 3, 0), (.iconst 1, 0, 0, 0), (.isub, 0, 0, 0), (.putfield 50, 10, 3, 0)] (by decide +kernel) rfl (And.intro g1 (And.intro g1 trivial)) ?_
    generalize upM M a0 3 (w32 ((M a0 3) - 1)) = M3 at h ⊢
    have h := zlt h
    obtain ⟨g4, h⟩ := zif h
    refine zG.blk (pc' := 30) (l' := [some (2, a0)]) (st' := [(2, M3 (M3 a0 2) (M3 a0 3)), (2, M3 a0 1)]) (M' := M3) hX [(.aload_n 0, 0, 0, 0), (.getfield 21, 10, 1, 2), (.aload_n 0, 0, 0, 0), (.getfield 25, 10, 2, 2), (.aload_n 0, 0, 0, 0), (.getfield 50, 10, 3, 0), (.aaload, 105, 0, 0)] (by decide +kernel) rfl (And.intro g1 (And.intro g1 (And.intro g1 (And.intro g4 trivial)))) ?_
    obtain ⟨g7, h⟩ := zif h
    obtain ⟨q5, e6, h⟩ := zbd h
    refine zG.callV (b := M3 a0 1) (av := [(2, M3 (M3 a0 2) (M3 a0 3))]) (st := []) (ci := 6) hX (pX6_copyFrom_ok e6) sv_10_56 rfl ⟨by decide, rfl⟩ g7 (by decide +kernel) (by rw [hRm]; exact ⟨Nat.le_of_ble_eq_true rfl, Nat.le_of_ble_eq_true rfl⟩) (by rw [hRm]; exact ⟨Nat.le_of_ble_eq_true rfl, Nat.le_of_ble_eq_true rfl⟩) (Nat.le_of_ble_eq_true rfl) ?_
    show zG C E 1 S 0 0 _ 33 [some (2, a0)] [] q5
    exact zG.wk [false] (pX10_recall_33_ok hX hRm h)
theorem pX10_recall_ok {l : Launch} {E : ZE} {S : ZS} {M : ZM} {a0 : Int} {q : ZM} (h : pX10_recall S M a0 = some q) : zMet l yX10_recall cX10_recall 1 none 2 81 0 0 E S M [(2, a0)] (none) S q :=
  zMet.of (o := 10) (ini := false) (by decide +kernel) rfl (fun h => by cases h) (Nat.le_of_ble_eq_true rfl) (fun C hX hl hRm => by subst hl; exact pX10_recall_go hX hRm h)
noncomputable def pX10_remember_13 (S : ZS) (M : ZM) (x0 : Int) : Option ZM := if S.1 x0 = 10 then if S.1 (M x0 2) = 105 ∧ (0 : Int) ≤ M x0 3 ∧ M x0 3 < S.2.1 (M x0 2) then if S.1 (M (M x0 2) (M x0 3)) = 6 then (pX6_copyFrom S M (M (M x0 2) (M x0 3)) (M x0 1)).bind fun q5 => zlet (upM q5 x0 3 (w32 ((q5 x0 3) + 1))) fun M8 => some M8 else none else none else none
set_option maxHeartbeats 2000000 in
set_option maxRecDepth 20000 in
theorem pX10_remember_13_ok {C : ZC} {E : ZE} {S : ZS} {q : ZM} (hX : zCx C E 10 cX10_remember 1 none false) (hRm : czR C = { frames := 2, cells := 0, slots := 0, locals := 81 }) {M : ZM} {x0 : Int} (h : pX10_remember_13 S M x0 = some q) : zG C E 1 S 0 0 (zQ C E 0 0 none S q) 13 [some (2, x0)] [] M := by
  unfold pX10_remember_13 at h
  obtain ⟨g3, h⟩ := zif h
  obtain ⟨g4, h⟩ := zif h
  refine zG.blk (pc' := 26) (l' := [some (2, x0)]) (st' := [(2, M x0 1), (2, M (M x0 2) (M x0 3))]) (M' := M) hX [(.aload_n 0, 0, 0, 0), (.getfield 25, 10, 2, 2), (.aload_n 0, 0, 0, 0), (.getfield 50, 10, 3, 0), (.aaload, 105, 0, 0), (.aload_n 0, 0, 0, 0), (.getfield 21, 10, 1, 2)] (by decide +kernel) rfl (And.intro g3 (And.intro g3 (And.intro g4 (And.intro g3 trivial)))) ?_
  obtain ⟨g7, h⟩ := zif h
  obtain ⟨q5, e6, h⟩ := zbd h
  refine zG.callV (b := M (M x0 2) (M x0 3)) (av := [(2, M x0 1)]) (st := []) (ci := 6) hX (pX6_copyFrom_ok e6) sv_10_56 rfl ⟨by decide, rfl⟩ g7 (by decide +kernel) (by rw [hRm]; exact ⟨Nat.le_of_ble_eq_true rfl, Nat.le_of_ble_eq_true rfl⟩) (by rw [hRm]; exact ⟨Nat.le_of_ble_eq_true rfl, Nat.le_of_ble_eq_true rfl⟩) (Nat.le_of_ble_eq_true rfl) ?_
  show zG C E 1 S 0 0 _ 29 [some (2, x0)] [] q5
  refine zG.blk (pc' := 39) (l' := [some (2, x0)]) (st' := []) (M' := (upM q5 x0 3 (w32 ((q5 x0 3) + 1)))) hX [(.aload_n 0, 0, 0, 0), (.dup, 0, 0, 0), (.getfield 50, 10, 3, 0), (.iconst 1, 0, 0, 0), (.iadd, 0, 0, 0), (.putfield 50, 10, 3, 0)] (by decide +kernel) rfl (And.intro g3 (And.intro g3 trivial)) ?_
  generalize upM q5 x0 3 (w32 ((q5 x0 3) + 1)) = M8 at h ⊢
  have h := zlt h
  cases h
  exact zG.vret hX (by decide +kernel)
theorem sv_10_68 : zSV 10 68 yX10_dropOldest cX10_dropOldest 3 none 0 := ⟨⟨gt_at 780 (by decide +kernel) rfl, gt_at 782 (by decide +kernel) rfl, gt_at 18 (by decide +kernel) rfl, gt_at 110 (by decide +kernel) rfl, gt_at 783 (by decide +kernel) rfl⟩, by decide +kernel, by decide +kernel, by decide +kernel⟩
noncomputable def pX10_remember (S : ZS) (M : ZM) (a0 : Int) : Option ZM := if S.1 a0 = 10 then if M a0 3 < 20 then (pX10_remember_13 S M a0) else ((pX10_dropOldest S M a0).bind fun q9 => pX10_remember_13 S q9 a0) else none
set_option maxHeartbeats 2000000 in
set_option maxRecDepth 20000 in
theorem pX10_remember_go {C : ZC} {E : ZE} {S : ZS} {M : ZM} {a0 : Int} {q : ZM} (hX : zCx C E 10 cX10_remember 1 none false) (hRm : czR C = { frames := 2, cells := 0, slots := 0, locals := 81 }) (h : pX10_remember  S M a0 = some q) : zG C E 1 S 0 0 (zQ C E 0 0 none S q) 0 [some (2, a0)] [] M := by
  unfold pX10_remember at h
  obtain ⟨g1, h⟩ := zif h
  refine zG.blk (pc' := 6) (l' := [some (2, a0)]) (st' := [(0, 20), (0, M a0 3)]) (M' := M) hX [(.aload_n 0, 0, 0, 0), (.getfield 50, 10, 3, 0), (.bipush 20, 0, 0, 0)] (by decide +kernel) rfl (And.intro g1 trivial) ?_
  refine zG.icmp_lt (tgt := 13) (off := 7) hX (by decide +kernel) (by decide) (fun c2 => ?_) (fun c2 => ?_)
  · have h := zip c2 h
    exact (pX10_remember_13_ok hX hRm h)
  · have h := zin c2 h
    refine zG.blk (pc' := 10) (l' := [some (2, a0)]) (st' := [(2, a0)]) (M' := M) hX [(.aload_n 0, 0, 0, 0)] (by decide +kernel) rfl trivial ?_
    obtain ⟨q9, e10, h⟩ := zbd h
    refine zG.callV (b := a0) (av := []) (st := []) (ci := 10) hX (pX10_dropOldest_ok e10) sv_10_68 rfl ⟨by decide, rfl⟩ g1 (by decide +kernel) (by rw [hRm]; exact ⟨Nat.le_of_ble_eq_true rfl, Nat.le_of_ble_eq_true rfl⟩) (by rw [hRm]; exact ⟨Nat.le_of_ble_eq_true rfl, Nat.le_of_ble_eq_true rfl⟩) (Nat.le_of_ble_eq_true rfl) ?_
    show zG C E 1 S 0 0 _ 13 [some (2, a0)] [] q9
    exact (pX10_remember_13_ok hX hRm h)
theorem pX10_remember_ok {l : Launch} {E : ZE} {S : ZS} {M : ZM} {a0 : Int} {q : ZM} (h : pX10_remember S M a0 = some q) : zMet l yX10_remember cX10_remember 1 none 2 81 0 0 E S M [(2, a0)] (none) S q :=
  zMet.of (o := 10) (ini := false) (by decide +kernel) rfl (fun h => by cases h) (Nat.le_of_ble_eq_true rfl) (fun C hX hl hRm => by subst hl; exact pX10_remember_go hX hRm h)
noncomputable def pX11_within (S : ZS) (M : ZM) (a0 : Int) (a1 : Int) (a2 : Int) : Option (Int × ZM) := some ((if a0 < a1 then (0 : Int) else (if a2 < a0 then (0 : Int) else 1)), M)
set_option maxHeartbeats 2000000 in
set_option maxRecDepth 20000 in
theorem pX11_within_go {C : ZC} {E : ZE} {S : ZS} {M : ZM} {a0 a1 a2 : Int} {q : (Int × ZM)} (hX : zCx C E 11 cX11_within 3 (some .boolean) false) (hRm : czR C = { frames := 1, cells := 0, slots := 0, locals := 40 }) (h : pX11_within  S M a0 a1 a2 = some q) : zG C E 3 S 0 0 (zQ C E 0 0 (some (0, q.1)) S q.2) 0 [some (0, a0), some (0, a1), some (0, a2)] [] M := by
  unfold pX11_within at h
  refine zG.blk (pc' := 2) (l' := [some (0, a0), some (0, a1), some (0, a2)]) (st' := [(0, a1), (0, a0)]) (M' := M) hX [(.iload_n 0, 0, 0, 0), (.iload_n 1, 0, 0, 0)] (by decide +kernel) rfl trivial ?_
  have key1 : zG C E 3 S 0 0 (zQ C E 0 0 (some (0, q.1)) S q.2) 15 [some (0, a0), some (0, a1), some (0, a2)] [(0, (if a0 < a1 then (0 : Int) else (if a2 < a0 then (0 : Int) else 1)))] M := by
    cases h
    exact zG.zret hX (by decide +kernel) (z01_ite (Or.inl rfl) (z01_ite (Or.inl rfl) (Or.inr rfl)))
  refine zG.icmp_lt (tgt := 14) (off := 12) hX (by decide +kernel) (by decide) (fun c2 => ?_) (fun c2 => ?_)
  · refine zG.blk (pc' := 15) (l' := [some (0, a0), some (0, a1), some (0, a2)]) (st' := [(0, 0)]) (M' := M) hX [(.iconst 0, 0, 0, 0)] (by decide +kernel) rfl trivial ?_
    (have k := key1; simp only [if_pos c2] at k; exact k)
  · refine zG.blk (pc' := 7) (l' := [some (0, a0), some (0, a1), some (0, a2)]) (st' := [(0, a2), (0, a0)]) (M' := M) hX [(.iload_n 0, 0, 0, 0), (.iload_n 2, 0, 0, 0)] (by decide +kernel) rfl trivial ?_
    refine zG.icmp_gt (tgt := 14) (off := 7) hX (by decide +kernel) (by decide) (fun c3 => ?_) (fun c3 => ?_)
    · refine zG.blk (pc' := 15) (l' := [some (0, a0), some (0, a1), some (0, a2)]) (st' := [(0, 0)]) (M' := M) hX [(.iconst 0, 0, 0, 0)] (by decide +kernel) rfl trivial ?_
      (have k := key1; simp only [if_neg c2, if_pos c3] at k; exact k)
    · refine zG.blk (pc' := 11) (l' := [some (0, a0), some (0, a1), some (0, a2)]) (st' := [(0, 1)]) (M' := M) hX [(.iconst 1, 0, 0, 0)] (by decide +kernel) rfl trivial ?_
      refine zG.goto (tgt := 15) (off := 4) hX (by decide +kernel) (by decide) ?_
      (have k := key1; simp only [if_neg c2, if_neg c3] at k; exact k)
theorem pX11_within_ok {l : Launch} {E : ZE} {S : ZS} {M : ZM} {a0 a1 a2 : Int} {q : (Int × ZM)} (h : pX11_within S M a0 a1 a2 = some q) : zMet l yX11_within cX11_within 3 (some .boolean) 1 40 0 0 E S M [(0, a0), (0, a1), (0, a2)] (some (0, q.1)) S q.2 :=
  zMet.of (o := 11) (ini := false) (by decide +kernel) rfl (fun h => by cases h) (Nat.le_of_ble_eq_true rfl) (fun C hX hl hRm => by subst hl; exact pX11_within_go hX hRm h)
theorem ss_11_172 : zSS 11 172 yX11_within cX11_within 3 (some .boolean) 3 := ⟨⟨gt_at 792 (by decide +kernel) rfl, gt_at 793 (by decide +kernel) rfl, gt_at 105 (by decide +kernel) rfl, gt_at 794 (by decide +kernel) rfl⟩, by decide +kernel, by decide +kernel, by decide +kernel⟩
noncomputable def pX11_ruleInForce_31 (S : ZS) (M : ZM) (y0 : Int) : Option (Int × ZM) := some (y0, M)
set_option maxHeartbeats 2000000 in
set_option maxRecDepth 20000 in
theorem pX11_ruleInForce_31_ok {C : ZC} {E : ZE} {S : ZS} {q : (Int × ZM)} (hX : zCx C E 11 cX11_ruleInForce 1 (some (.object "SkySpire$Rule")) false) (hRm : czR C = { frames := 2, cells := 0, slots := 0, locals := 62 }) {M : ZM} {y0 : Int} (h : pX11_ruleInForce_31 S M y0 = some q) : zG C E 1 S 0 0 (zQ C E 0 0 (some (2, q.1)) S q.2) 31 [none] [(2, y0)] M := by
  unfold pX11_ruleInForce_31 at h
  cases h
  exact zG.aret hX (Or.inl ⟨_, rfl⟩) (by decide +kernel) (by decide)
noncomputable def pX11_ruleInForce (S : ZS) (M : ZM) (a0 : Int) : Option (Int × ZM) := if S.1 a0 = 11 then if S.1 (M a0 5) = 10 then (pX11_within S M (M (M a0 5) 9) 0 5).bind fun q3 => if q3.1 = 0 then (pX11_ruleInForce_31 S q3.2 0) else (if S.1 (q3.2 a0 5) = 10 then if S.1 (q3.2 a0 3) = 104 ∧ (0 : Int) ≤ q3.2 (q3.2 a0 5) 9 ∧ q3.2 (q3.2 a0 5) 9 < S.2.1 (q3.2 a0 3) then pX11_ruleInForce_31 S q3.2 (q3.2 (q3.2 a0 3) (q3.2 (q3.2 a0 5) 9)) else none else none) else none else none
set_option maxHeartbeats 2000000 in
set_option maxRecDepth 20000 in
theorem pX11_ruleInForce_go {C : ZC} {E : ZE} {S : ZS} {M : ZM} {a0 : Int} {q : (Int × ZM)} (hX : zCx C E 11 cX11_ruleInForce 1 (some (.object "SkySpire$Rule")) false) (hRm : czR C = { frames := 2, cells := 0, slots := 0, locals := 62 }) (h : pX11_ruleInForce  S M a0 = some q) : zG C E 1 S 0 0 (zQ C E 0 0 (some (2, q.1)) S q.2) 0 [some (2, a0)] [] M := by
  unfold pX11_ruleInForce at h
  obtain ⟨g1, h⟩ := zif h
  obtain ⟨g2, h⟩ := zif h
  refine zG.blk (pc' := 9) (l' := [some (2, a0)]) (st' := [(0, 5), (0, 0), (0, M (M a0 5) 9)]) (M' := M) hX [(.aload_n 0, 0, 0, 0), (.getfield 39, 11, 5, 2), (.getfield 112, 10, 9, 0), (.iconst 0, 0, 0, 0), (.iconst 5, 0, 0, 0)] (by decide +kernel) rfl (And.intro g1 (And.intro g2 trivial)) ?_
  obtain ⟨q3, e4, h⟩ := zbd h
  refine zG.callS (av := [(0, M (M a0 5) 9), (0, 0), (0, 5)]) (st := []) hX (pX11_within_ok e4) ss_11_172 rfl (by decide +kernel) (by rw [hRm]; exact ⟨Nat.le_of_ble_eq_true rfl, Nat.le_of_ble_eq_true rfl⟩) (by rw [hRm]; exact ⟨Nat.le_of_ble_eq_true rfl, Nat.le_of_ble_eq_true rfl⟩) (Nat.le_of_ble_eq_true rfl) ?_
  show zG C E 1 S 0 0 _ 12 [some (2, a0)] [(0, q3.1)] q3.2
  refine zG.if_eq (tgt := 30) (off := 18) hX (by decide +kernel) (by decide) (fun c5 => ?_) (fun c5 => ?_)
  · have h := zip c5 h
    refine zG.blk (pc' := 31) (l' := [some (2, a0)]) (st' := [(2, 0)]) (M' := q3.2) hX [(.aconst_null, 0, 0, 0)] (by decide +kernel) rfl trivial ?_
    exact zG.wk [false] (pX11_ruleInForce_31_ok hX hRm h)
  · have h := zin c5 h
    obtain ⟨g6, h⟩ := zif h
    obtain ⟨g7, h⟩ := zif h
    refine zG.blk (pc' := 27) (l' := [some (2, a0)]) (st' := [(2, q3.2 (q3.2 a0 3) (q3.2 (q3.2 a0 5) 9))]) (M' := q3.2) hX [(.aload_n 0, 0, 0, 0), (.getfield 32, 11, 3, 2), (.aload_n 0, 0, 0, 0), (.getfield 39, 11, 5, 2), (.getfield 112, 10, 9, 0), (.aaload, 104, 0, 0)] (by decide +kernel) rfl (And.intro g1 (And.intro g1 (And.intro g6 (And.intro g7 trivial)))) ?_
    refine zG.goto (tgt := 31) (off := 4) hX (by decide +kernel) (by decide) ?_
    exact zG.wk [false] (pX11_ruleInForce_31_ok hX hRm h)
theorem pX11_ruleInForce_ok {l : Launch} {E : ZE} {S : ZS} {M : ZM} {a0 : Int} {q : (Int × ZM)} (h : pX11_ruleInForce S M a0 = some q) : zMet l yX11_ruleInForce cX11_ruleInForce 1 (some (.object "SkySpire$Rule")) 2 62 0 0 E S M [(2, a0)] (some (2, q.1)) S q.2 :=
  zMet.of (o := 11) (ini := false) (by decide +kernel) rfl (fun h => by cases h) (Nat.le_of_ble_eq_true rfl) (fun C hX hl hRm => by subst hl; exact pX11_ruleInForce_go hX hRm h)
theorem sv_11_151 : zSV 11 151 yX9_isThere cX9_isThere 1 (some .boolean) 0 := ⟨⟨gt_at 772 (by decide +kernel) rfl, gt_at 773 (by decide +kernel) rfl, gt_at 774 (by decide +kernel) rfl, gt_at 108 (by decide +kernel) rfl, gt_at 775 (by decide +kernel) rfl⟩, by decide +kernel, by decide +kernel, by decide +kernel⟩
noncomputable def pX11_ahead_32 (S : ZS) (M : ZM) : Option (Int × ZM) := some ((-2), M)
set_option maxHeartbeats 2000000 in
set_option maxRecDepth 20000 in
theorem pX11_ahead_32_ok {C : ZC} {E : ZE} {S : ZS} {q : (Int × ZM)} (hX : zCx C E 11 cX11_ahead 5 (some .int) false) (hRm : czR C = { frames := 7, cells := 0, slots := 0, locals := 187 }) {M : ZM} (h : pX11_ahead_32 S M = some q) : zG C E 5 S 0 0 (zQ C E 0 0 (some (0, q.1)) S q.2) 32 [none, none, none, none, none] [] M := by
  unfold pX11_ahead_32 at h
  refine zG.blk (pc' := 34) (l' := [none, none, none, none, none]) (st' := [(0, (-2))]) (M' := M) hX [(.bipush (-2), 0, 0, 0)] (by decide +kernel) rfl trivial ?_
  cases h
  exact zG.iret hX (by decide +kernel)
theorem sv_11_161 : zSV 11 161 yX11_ruleInForce cX11_ruleInForce 1 (some (.object "SkySpire$Rule")) 0 := ⟨⟨gt_at 788 (by decide +kernel) rfl, gt_at 790 (by decide +kernel) rfl, gt_at 19 (by decide +kernel) rfl, gt_at 105 (by decide +kernel) rfl, gt_at 791 (by decide +kernel) rfl⟩, by decide +kernel, by decide +kernel, by decide +kernel⟩
theorem sv_11_182 : zSV 11 182 yX1_after cX1_after 4 (some (.object "SkySpire$Scene")) 3 := ⟨⟨gt_at 892 (by decide +kernel) rfl, gt_at 893 (by decide +kernel) rfl, gt_at 894 (by decide +kernel) rfl, gt_at 114 (by decide +kernel) rfl, gt_at 895 (by decide +kernel) rfl⟩, by decide +kernel, by decide +kernel, by decide +kernel⟩
theorem sv_11_190 : zSV 11 190 yX6_like cX6_like 4 (some .int) 1 := ⟨⟨gt_at 906 (by decide +kernel) rfl, gt_at 907 (by decide +kernel) rfl, gt_at 908 (by decide +kernel) rfl, gt_at 111 (by decide +kernel) rfl, gt_at 909 (by decide +kernel) rfl⟩, by decide +kernel, by decide +kernel, by decide +kernel⟩
noncomputable def pX11_ahead_143 (S : ZS) (M : ZM) (y0 : Int) : Option (Int × ZM) := some (y0, M)
set_option maxHeartbeats 2000000 in
set_option maxRecDepth 20000 in
theorem pX11_ahead_143_ok {C : ZC} {E : ZE} {S : ZS} {q : (Int × ZM)} (hX : zCx C E 11 cX11_ahead 5 (some .int) false) (hRm : czR C = { frames := 7, cells := 0, slots := 0, locals := 187 }) {M : ZM} {y0 : Int} (h : pX11_ahead_143 S M y0 = some q) : zG C E 5 S 0 0 (zQ C E 0 0 (some (0, q.1)) S q.2) 143 [none, none, none, none, none] [(0, y0)] M := by
  unfold pX11_ahead_143 at h
  cases h
  exact zG.iret hX (by decide +kernel)
theorem sv_11_186 : zSV 11 186 yX6_strokes cX6_strokes 3 (some .int) 0 := ⟨⟨gt_at 902 (by decide +kernel) rfl, gt_at 903 (by decide +kernel) rfl, gt_at 904 (by decide +kernel) rfl, gt_at 111 (by decide +kernel) rfl, gt_at 905 (by decide +kernel) rfl⟩, by decide +kernel, by decide +kernel, by decide +kernel⟩
noncomputable def pX11_ahead_75 (S : ZS) (M : ZM) (x0 : Int) (x1 : Int) (x2 : Int) (x3 : Int) : Option (Int × ZM) := if S.1 x0 = 11 then (pX11_ruleInForce S M x0).bind fun q16 => if S.1 (M x0 8) = 1 then (pX1_after S q16.2 (M x0 8) (M x0 5) q16.1 x2).bind fun q18 => if x3 = 0 then (if S.1 q18.1 = 6 then if S.1 (q18.2 q18.1 2) = 100 ∧ (0 : Int) ≤ x1 ∧ x1 < S.2.1 (q18.2 q18.1 2) then some (q18.2 (q18.2 q18.1 2) x1, q18.2) else none else none) else (if x3 = 1 then (if S.1 q18.1 = 6 then if S.1 (q18.2 q18.1 0) = 100 ∧ (0 : Int) ≤ x1 ∧ x1 < S.2.1 (q18.2 q18.1 0) then some (q18.2 (q18.2 q18.1 0) x1, q18.2) else none else none) else (if x3 = 2 then (if S.1 q18.1 = 6 then (pX6_strokes S q18.2 q18.1).bind fun q28 => pX11_ahead_143 S q28.2 q28.1 else none) else (if S.1 (q18.2 x0 5) = 10 then if S.1 q18.1 = 6 then (pX6_like S q18.2 q18.1 (q18.2 (q18.2 x0 5) 0)).bind fun q25 => pX11_ahead_143 S q25.2 q25.1 else none else none))) else none else none
set_option maxHeartbeats 2000000 in
set_option maxRecDepth 20000 in
theorem pX11_ahead_75_ok {C : ZC} {E : ZE} {S : ZS} {q : (Int × ZM)} (hX : zCx C E 11 cX11_ahead 5 (some .int) false) (hRm : czR C = { frames := 7, cells := 0, slots := 0, locals := 187 }) {M : ZM} {x0 : Int} {x1 : Int} {x2 : Int} {x3 : Int} (h : pX11_ahead_75 S M x0 x1 x2 x3 = some q) : zG C E 5 S 0 0 (zQ C E 0 0 (some (0, q.1)) S q.2) 75 [some (2, x0), some (0, x1), some (0, x2), some (0, x3), none] [] M := by
  unfold pX11_ahead_75 at h
  obtain ⟨g15, h⟩ := zif h
  refine zG.blk (pc' := 84) (l' := [some (2, x0), some (0, x1), some (0, x2), some (0, x3), none]) (st' := [(2, x0), (2, M x0 5), (2, M x0 8)]) (M' := M) hX [(.aload_n 0, 0, 0, 0), (.getfield 57, 11, 8, 2), (.aload_n 0, 0, 0, 0), (.getfield 39, 11, 5, 2), (.aload_n 0, 0, 0, 0)] (by decide +kernel) rfl (And.intro g15 (And.intro g15 trivial)) ?_
  obtain ⟨q16, e17, h⟩ := zbd h
  refine zG.callV (b := x0) (av := []) (st := [(2, M x0 5), (2, M x0 8)]) (ci := 11) hX (pX11_ruleInForce_ok e17) sv_11_161 rfl ⟨by decide, rfl⟩ g15 (by decide +kernel) (by rw [hRm]; exact ⟨Nat.le_of_ble_eq_true rfl, Nat.le_of_ble_eq_true rfl⟩) (by rw [hRm]; exact ⟨Nat.le_of_ble_eq_true rfl, Nat.le_of_ble_eq_true rfl⟩) (Nat.le_of_ble_eq_true rfl) ?_
  show zG C E 5 S 0 0 _ 87 [some (2, x0), some (0, x1), some (0, x2), some (0, x3), none] [(2, q16.1), (2, M x0 5), (2, M x0 8)] q16.2
  refine zG.blk (pc' := 88) (l' := [some (2, x0), some (0, x1), some (0, x2), some (0, x3), none]) (st' := [(0, x2), (2, q16.1), (2, M x0 5), (2, M x0 8)]) (M' := q16.2) hX [(.iload_n 2, 0, 0, 0)] (by decide +kernel) rfl trivial ?_
  obtain ⟨g20, h⟩ := zif h
  obtain ⟨q18, e19, h⟩ := zbd h
  refine zG.callV (b := M x0 8) (av := [(2, M x0 5), (2, q16.1), (0, x2)]) (st := []) (ci := 1) hX (pX1_after_ok e19) sv_11_182 rfl ⟨by decide, rfl⟩ g20 (by decide +kernel) (by rw [hRm]; exact ⟨Nat.le_of_ble_eq_true rfl, Nat.le_of_ble_eq_true rfl⟩) (by rw [hRm]; exact ⟨Nat.le_of_ble_eq_true rfl, Nat.le_of_ble_eq_true rfl⟩) (Nat.le_of_ble_eq_true rfl) ?_
  show zG C E 5 S 0 0 _ 91 [some (2, x0), some (0, x1), some (0, x2), some (0, x3), none] [(2, q18.1)] q18.2
  refine zG.blk (pc' := 94) (l' := [some (2, x0), some (0, x1), some (0, x2), some (0, x3), some (2, q18.1)]) (st' := [(0, x3)]) (M' := q18.2) hX [(.astore 4, 0, 0, 0), (.iload_n 3, 0, 0, 0)] (by decide +kernel) rfl trivial ?_
  refine zG.if_ne (tgt := 105) (off := 11) hX (by decide +kernel) (by decide) (fun c21 => ?_) (fun c21 => ?_)
  · have h := zin c21 h
    refine zG.blk (pc' := 107) (l' := [some (2, x0), some (0, x1), some (0, x2), some (0, x3), some (2, q18.1)]) (st' := [(0, 1), (0, x3)]) (M' := q18.2) hX [(.iload_n 3, 0, 0, 0), (.iconst 1, 0, 0, 0)] (by decide +kernel) rfl trivial ?_
    refine zG.icmp_ne (tgt := 118) (off := 11) hX (by decide +kernel) (by decide) (fun c22 => ?_) (fun c22 => ?_)
    · have h := zin c22 h
      refine zG.blk (pc' := 120) (l' := [some (2, x0), some (0, x1), some (0, x2), some (0, x3), some (2, q18.1)]) (st' := [(0, 2), (0, x3)]) (M' := q18.2) hX [(.iload_n 3, 0, 0, 0), (.iconst 2, 0, 0, 0)] (by decide +kernel) rfl trivial ?_
      refine zG.icmp_ne (tgt := 131) (off := 11) hX (by decide +kernel) (by decide) (fun c23 => ?_) (fun c23 => ?_)
      · have h := zin c23 h
        obtain ⟨g24, h⟩ := zif h
        refine zG.blk (pc' := 140) (l' := [some (2, x0), some (0, x1), some (0, x2), some (0, x3), some (2, q18.1)]) (st' := [(2, q18.2 (q18.2 x0 5) 0), (2, q18.1)]) (M' := q18.2) hX [(.aload 4, 0, 0, 0), (.aload_n 0, 0, 0, 0), (.getfield 39, 11, 5, 2), (.getfield 95, 10, 0, 2)] (by decide +kernel) rfl (And.intro g15 (And.intro g24 trivial)) ?_
        obtain ⟨g27, h⟩ := zif h
        obtain ⟨q25, e26, h⟩ := zbd h
        refine zG.callV (b := q18.1) (av := [(2, q18.2 (q18.2 x0 5) 0)]) (st := []) (ci := 6) hX (pX6_like_ok e26) sv_11_190 rfl ⟨by decide, rfl⟩ g27 (by decide +kernel) (by rw [hRm]; exact ⟨Nat.le_of_ble_eq_true rfl, Nat.le_of_ble_eq_true rfl⟩) (by rw [hRm]; exact ⟨Nat.le_of_ble_eq_true rfl, Nat.le_of_ble_eq_true rfl⟩) (Nat.le_of_ble_eq_true rfl) ?_
        show zG C E 5 S 0 0 _ 143 [some (2, x0), some (0, x1), some (0, x2), some (0, x3), some (2, q18.1)] [(0, q25.1)] q25.2
        exact zG.wk [false, false, false, false, false] (pX11_ahead_143_ok hX hRm h)
      · have h := zip c23 h
        refine zG.blk (pc' := 125) (l' := [some (2, x0), some (0, x1), some (0, x2), some (0, x3), some (2, q18.1)]) (st' := [(2, q18.1)]) (M' := q18.2) hX [(.aload 4, 0, 0, 0)] (by decide +kernel) rfl trivial ?_
        obtain ⟨g30, h⟩ := zif h
        obtain ⟨q28, e29, h⟩ := zbd h
        refine zG.callV (b := q18.1) (av := []) (st := []) (ci := 6) hX (pX6_strokes_ok e29) sv_11_186 rfl ⟨by decide, rfl⟩ g30 (by decide +kernel) (by rw [hRm]; exact ⟨Nat.le_of_ble_eq_true rfl, Nat.le_of_ble_eq_true rfl⟩) (by rw [hRm]; exact ⟨Nat.le_of_ble_eq_true rfl, Nat.le_of_ble_eq_true rfl⟩) (Nat.le_of_ble_eq_true rfl) ?_
        show zG C E 5 S 0 0 _ 128 [some (2, x0), some (0, x1), some (0, x2), some (0, x3), some (2, q18.1)] [(0, q28.1)] q28.2
        refine zG.goto (tgt := 143) (off := 15) hX (by decide +kernel) (by decide) ?_
        exact zG.wk [false, false, false, false, false] (pX11_ahead_143_ok hX hRm h)
    · have h := zip c22 h
      obtain ⟨g31, h⟩ := zif h
      obtain ⟨g32, h⟩ := zif h
      refine zG.blk (pc' := 117) (l' := [some (2, x0), some (0, x1), some (0, x2), some (0, x3), some (2, q18.1)]) (st' := [(0, q18.2 (q18.2 q18.1 0) x1)]) (M' := q18.2) hX [(.aload 4, 0, 0, 0), (.getfield 123, 6, 0, 2), (.iload_n 1, 0, 0, 0), (.iaload, 0, 0, 0)] (by decide +kernel) rfl (And.intro g31 (And.intro g32 trivial)) ?_
      cases h
      exact zG.iret hX (by decide +kernel)
  · have h := zip c21 h
    obtain ⟨g33, h⟩ := zif h
    obtain ⟨g34, h⟩ := zif h
    refine zG.blk (pc' := 104) (l' := [some (2, x0), some (0, x1), some (0, x2), some (0, x3), some (2, q18.1)]) (st' := [(0, q18.2 (q18.2 q18.1 2) x1)]) (M' := q18.2) hX [(.aload 4, 0, 0, 0), (.getfield 142, 6, 2, 2), (.iload_n 1, 0, 0, 0), (.iaload, 0, 0, 0)] (by decide +kernel) rfl (And.intro g33 (And.intro g34 trivial)) ?_
    cases h
    exact zG.iret hX (by decide +kernel)
theorem sv_11_115 : zSV 11 115 yX9_hasPen cX9_hasPen 2 (some .boolean) 1 := ⟨⟨gt_at 748 (by decide +kernel) rfl, gt_at 749 (by decide +kernel) rfl, gt_at 750 (by decide +kernel) rfl, gt_at 108 (by decide +kernel) rfl, gt_at 751 (by decide +kernel) rfl⟩, by decide +kernel, by decide +kernel, by decide +kernel⟩
noncomputable def pX11_ahead_72 (S : ZS) (M : ZM) : Option (Int × ZM) := some ((-2), M)
set_option maxHeartbeats 2000000 in
set_option maxRecDepth 20000 in
theorem pX11_ahead_72_ok {C : ZC} {E : ZE} {S : ZS} {q : (Int × ZM)} (hX : zCx C E 11 cX11_ahead 5 (some .int) false) (hRm : czR C = { frames := 7, cells := 0, slots := 0, locals := 187 }) {M : ZM} (h : pX11_ahead_72 S M = some q) : zG C E 5 S 0 0 (zQ C E 0 0 (some (0, q.1)) S q.2) 72 [none, none, none, none, none] [] M := by
  unfold pX11_ahead_72 at h
  refine zG.blk (pc' := 74) (l' := [none, none, none, none, none]) (st' := [(0, (-2))]) (M' := M) hX [(.bipush (-2), 0, 0, 0)] (by decide +kernel) rfl trivial ?_
  cases h
  exact zG.iret hX (by decide +kernel)
noncomputable def pX11_ahead_53 (S : ZS) (M : ZM) (x0 : Int) (x1 : Int) (x2 : Int) (x3 : Int) : Option (Int × ZM) := if x3 = 1 then (if S.1 x0 = 11 then if S.1 (M x0 5) = 10 then if S.1 (M (M x0 5) 0) = 9 then (pX9_hasPen S M (M (M x0 5) 0) x1).bind fun q37 => if q37.1 = 0 then (pX11_ahead_72 S q37.2) else (pX11_ahead_75 S q37.2 x0 x1 x2 x3) else none else none else none) else (pX11_ahead_75 S M x0 x1 x2 x3)
set_option maxHeartbeats 2000000 in
set_option maxRecDepth 20000 in
theorem pX11_ahead_53_ok {C : ZC} {E : ZE} {S : ZS} {q : (Int × ZM)} (hX : zCx C E 11 cX11_ahead 5 (some .int) false) (hRm : czR C = { frames := 7, cells := 0, slots := 0, locals := 187 }) {M : ZM} {x0 : Int} {x1 : Int} {x2 : Int} {x3 : Int} (h : pX11_ahead_53 S M x0 x1 x2 x3 = some q) : zG C E 5 S 0 0 (zQ C E 0 0 (some (0, q.1)) S q.2) 53 [some (2, x0), some (0, x1), some (0, x2), some (0, x3), none] [] M := by
  unfold pX11_ahead_53 at h
  refine zG.blk (pc' := 55) (l' := [some (2, x0), some (0, x1), some (0, x2), some (0, x3), none]) (st' := [(0, 1), (0, x3)]) (M' := M) hX [(.iload_n 3, 0, 0, 0), (.iconst 1, 0, 0, 0)] (by decide +kernel) rfl trivial ?_
  refine zG.icmp_ne (tgt := 75) (off := 20) hX (by decide +kernel) (by decide) (fun c14 => ?_) (fun c14 => ?_)
  · have h := zin c14 h
    exact (pX11_ahead_75_ok hX hRm h)
  · have h := zip c14 h
    obtain ⟨g35, h⟩ := zif h
    obtain ⟨g36, h⟩ := zif h
    refine zG.blk (pc' := 66) (l' := [some (2, x0), some (0, x1), some (0, x2), some (0, x3), none]) (st' := [(0, x1), (2, M (M x0 5) 0)]) (M' := M) hX [(.aload_n 0, 0, 0, 0), (.getfield 39, 11, 5, 2), (.getfield 95, 10, 0, 2), (.iload_n 1, 0, 0, 0)] (by decide +kernel) rfl (And.intro g35 (And.intro g36 trivial)) ?_
    obtain ⟨g39, h⟩ := zif h
    obtain ⟨q37, e38, h⟩ := zbd h
    refine zG.callV (b := M (M x0 5) 0) (av := [(0, x1)]) (st := []) (ci := 9) hX (pX9_hasPen_ok e38) sv_11_115 rfl ⟨by decide, rfl⟩ g39 (by decide +kernel) (by rw [hRm]; exact ⟨Nat.le_of_ble_eq_true rfl, Nat.le_of_ble_eq_true rfl⟩) (by rw [hRm]; exact ⟨Nat.le_of_ble_eq_true rfl, Nat.le_of_ble_eq_true rfl⟩) (Nat.le_of_ble_eq_true rfl) ?_
    show zG C E 5 S 0 0 _ 69 [some (2, x0), some (0, x1), some (0, x2), some (0, x3), none] [(0, q37.1)] q37.2
    refine zG.if_ne (tgt := 75) (off := 6) hX (by decide +kernel) (by decide) (fun c40 => ?_) (fun c40 => ?_)
    · have h := zin c40 h
      exact (pX11_ahead_75_ok hX hRm h)
    · have h := zip c40 h
      exact zG.wk [false, false, false, false, true] (pX11_ahead_72_ok hX hRm h)
theorem sv_11_139 : zSV 11 139 yX9_hasCell cX9_hasCell 2 (some .boolean) 1 := ⟨⟨gt_at 764 (by decide +kernel) rfl, gt_at 765 (by decide +kernel) rfl, gt_at 766 (by decide +kernel) rfl, gt_at 108 (by decide +kernel) rfl, gt_at 767 (by decide +kernel) rfl⟩, by decide +kernel, by decide +kernel, by decide +kernel⟩
noncomputable def pX11_ahead (S : ZS) (M : ZM) (a0 : Int) (a1 : Int) (a2 : Int) (a3 : Int) : Option (Int × ZM) := if S.1 a0 = 11 then if S.1 (M a0 5) = 10 then if S.1 (M (M a0 5) 0) = 9 then (pX9_isThere S M (M (M a0 5) 0)).bind fun q3 => if q3.1 = 0 then (pX11_ahead_32 S q3.2) else ((pX11_within S q3.2 a2 0 100).bind fun q7 => if q7.1 = 0 then (pX11_ahead_32 S q7.2) else ((pX11_within S q7.2 a3 0 3).bind fun q10 => if q10.1 = 0 then (pX11_ahead_32 S q10.2) else (if a3 = 0 then (if S.1 (q10.2 a0 5) = 10 then if S.1 (q10.2 (q10.2 a0 5) 0) = 9 then (pX9_hasCell S q10.2 (q10.2 (q10.2 a0 5) 0) a1).bind fun q42 => if q42.1 = 0 then (pX11_ahead_72 S q42.2) else (pX11_ahead_53 S q42.2 a0 a1 a2 a3) else none else none) else (pX11_ahead_53 S q10.2 a0 a1 a2 a3)))) else none else none else none
set_option maxHeartbeats 2000000 in
set_option maxRecDepth 20000 in
theorem pX11_ahead_go {C : ZC} {E : ZE} {S : ZS} {M : ZM} {a0 a1 a2 a3 : Int} {q : (Int × ZM)} (hX : zCx C E 11 cX11_ahead 5 (some .int) false) (hRm : czR C = { frames := 7, cells := 0, slots := 0, locals := 187 }) (h : pX11_ahead  S M a0 a1 a2 a3 = some q) : zG C E 5 S 0 0 (zQ C E 0 0 (some (0, q.1)) S q.2) 0 [some (2, a0), some (0, a1), some (0, a2), some (0, a3), none] [] M := by
  unfold pX11_ahead at h
  obtain ⟨g1, h⟩ := zif h
  obtain ⟨g2, h⟩ := zif h
  refine zG.blk (pc' := 7) (l' := [some (2, a0), some (0, a1), some (0, a2), some (0, a3), none]) (st' := [(2, M (M a0 5) 0)]) (M' := M) hX [(.aload_n 0, 0, 0, 0), (.getfield 39, 11, 5, 2), (.getfield 95, 10, 0, 2)] (by decide +kernel) rfl (And.intro g1 (And.intro g2 trivial)) ?_
  obtain ⟨g5, h⟩ := zif h
  obtain ⟨q3, e4, h⟩ := zbd h
  refine zG.callV (b := M (M a0 5) 0) (av := []) (st := []) (ci := 9) hX (pX9_isThere_ok e4) sv_11_151 rfl ⟨by decide, rfl⟩ g5 (by decide +kernel) (by rw [hRm]; exact ⟨Nat.le_of_ble_eq_true rfl, Nat.le_of_ble_eq_true rfl⟩) (by rw [hRm]; exact ⟨Nat.le_of_ble_eq_true rfl, Nat.le_of_ble_eq_true rfl⟩) (Nat.le_of_ble_eq_true rfl) ?_
  show zG C E 5 S 0 0 _ 10 [some (2, a0), some (0, a1), some (0, a2), some (0, a3), none] [(0, q3.1)] q3.2
  refine zG.if_eq (tgt := 32) (off := 22) hX (by decide +kernel) (by decide) (fun c6 => ?_) (fun c6 => ?_)
  · have h := zip c6 h
    exact zG.wk [false, false, false, false, true] (pX11_ahead_32_ok hX hRm h)
  · have h := zin c6 h
    refine zG.blk (pc' := 17) (l' := [some (2, a0), some (0, a1), some (0, a2), some (0, a3), none]) (st' := [(0, 100), (0, 0), (0, a2)]) (M' := q3.2) hX [(.iload_n 2, 0, 0, 0), (.iconst 0, 0, 0, 0), (.bipush 100, 0, 0, 0)] (by decide +kernel) rfl trivial ?_
    obtain ⟨q7, e8, h⟩ := zbd h
    refine zG.callS (av := [(0, a2), (0, 0), (0, 100)]) (st := []) hX (pX11_within_ok e8) ss_11_172 rfl (by decide +kernel) (by rw [hRm]; exact ⟨Nat.le_of_ble_eq_true rfl, Nat.le_of_ble_eq_true rfl⟩) (by rw [hRm]; exact ⟨Nat.le_of_ble_eq_true rfl, Nat.le_of_ble_eq_true rfl⟩) (Nat.le_of_ble_eq_true rfl) ?_
    show zG C E 5 S 0 0 _ 20 [some (2, a0), some (0, a1), some (0, a2), some (0, a3), none] [(0, q7.1)] q7.2
    refine zG.if_eq (tgt := 32) (off := 12) hX (by decide +kernel) (by decide) (fun c9 => ?_) (fun c9 => ?_)
    · have h := zip c9 h
      exact zG.wk [false, false, false, false, true] (pX11_ahead_32_ok hX hRm h)
    · have h := zin c9 h
      refine zG.blk (pc' := 26) (l' := [some (2, a0), some (0, a1), some (0, a2), some (0, a3), none]) (st' := [(0, 3), (0, 0), (0, a3)]) (M' := q7.2) hX [(.iload_n 3, 0, 0, 0), (.iconst 0, 0, 0, 0), (.iconst 3, 0, 0, 0)] (by decide +kernel) rfl trivial ?_
      obtain ⟨q10, e11, h⟩ := zbd h
      refine zG.callS (av := [(0, a3), (0, 0), (0, 3)]) (st := []) hX (pX11_within_ok e11) ss_11_172 rfl (by decide +kernel) (by rw [hRm]; exact ⟨Nat.le_of_ble_eq_true rfl, Nat.le_of_ble_eq_true rfl⟩) (by rw [hRm]; exact ⟨Nat.le_of_ble_eq_true rfl, Nat.le_of_ble_eq_true rfl⟩) (Nat.le_of_ble_eq_true rfl) ?_
      show zG C E 5 S 0 0 _ 29 [some (2, a0), some (0, a1), some (0, a2), some (0, a3), none] [(0, q10.1)] q10.2
      refine zG.if_ne (tgt := 35) (off := 6) hX (by decide +kernel) (by decide) (fun c12 => ?_) (fun c12 => ?_)
      · have h := zin c12 h
        refine zG.blk (pc' := 36) (l' := [some (2, a0), some (0, a1), some (0, a2), some (0, a3), none]) (st' := [(0, a3)]) (M' := q10.2) hX [(.iload_n 3, 0, 0, 0)] (by decide +kernel) rfl trivial ?_
        refine zG.if_ne (tgt := 53) (off := 17) hX (by decide +kernel) (by decide) (fun c13 => ?_) (fun c13 => ?_)
        · have h := zin c13 h
          exact (pX11_ahead_53_ok hX hRm h)
        · have h := zip c13 h
          obtain ⟨g41, h⟩ := zif h
          refine zG.blk (pc' := 47) (l' := [some (2, a0), some (0, a1), some (0, a2), some (0, a3), none]) (st' := [(0, a1), (2, q10.2 (q10.2 a0 5) 0)]) (M' := q10.2) hX [(.aload_n 0, 0, 0, 0), (.getfield 39, 11, 5, 2), (.getfield 95, 10, 0, 2), (.iload_n 1, 0, 0, 0)] (by decide +kernel) rfl (And.intro g1 (And.intro g41 trivial)) ?_
          obtain ⟨g44, h⟩ := zif h
          obtain ⟨q42, e43, h⟩ := zbd h
          refine zG.callV (b := q10.2 (q10.2 a0 5) 0) (av := [(0, a1)]) (st := []) (ci := 9) hX (pX9_hasCell_ok e43) sv_11_139 rfl ⟨by decide, rfl⟩ g44 (by decide +kernel) (by rw [hRm]; exact ⟨Nat.le_of_ble_eq_true rfl, Nat.le_of_ble_eq_true rfl⟩) (by rw [hRm]; exact ⟨Nat.le_of_ble_eq_true rfl, Nat.le_of_ble_eq_true rfl⟩) (Nat.le_of_ble_eq_true rfl) ?_
          show zG C E 5 S 0 0 _ 50 [some (2, a0), some (0, a1), some (0, a2), some (0, a3), none] [(0, q42.1)] q42.2
          refine zG.if_eq (tgt := 72) (off := 22) hX (by decide +kernel) (by decide) (fun c45 => ?_) (fun c45 => ?_)
          · have h := zip c45 h
            exact zG.wk [false, false, false, false, true] (pX11_ahead_72_ok hX hRm h)
          · have h := zin c45 h
            exact (pX11_ahead_53_ok hX hRm h)
      · have h := zip c12 h
        exact zG.wk [false, false, false, false, true] (pX11_ahead_32_ok hX hRm h)
theorem pX11_ahead_ok {l : Launch} {E : ZE} {S : ZS} {M : ZM} {a0 a1 a2 a3 : Int} {q : (Int × ZM)} (h : pX11_ahead S M a0 a1 a2 a3 = some q) : zMet l yX11_ahead cX11_ahead 5 (some .int) 7 187 0 0 E S M [(2, a0), (0, a1), (0, a2), (0, a3)] (some (0, q.1)) S q.2 :=
  zMet.of (o := 11) (ini := false) (by decide +kernel) rfl (fun h => by cases h) (Nat.le_of_ble_eq_true rfl) (fun C hX hl hRm => by subst hl; exact pX11_ahead_go hX hRm h)
noncomputable def pX11_areTwoPens_38 (S : ZS) (M : ZM) (y0 : Int) : Option (Int × ZM) := if y0 = 0 ∨ y0 = 1 then some (y0, M) else none
set_option maxHeartbeats 2000000 in
set_option maxRecDepth 20000 in
theorem pX11_areTwoPens_38_ok {C : ZC} {E : ZE} {S : ZS} {q : (Int × ZM)} (hX : zCx C E 11 cX11_areTwoPens 3 (some .boolean) false) (hRm : czR C = { frames := 2, cells := 0, slots := 0, locals := 61 }) {M : ZM} {y0 : Int} (h : pX11_areTwoPens_38 S M y0 = some q) : zG C E 3 S 0 0 (zQ C E 0 0 (some (0, q.1)) S q.2) 38 [none, none, none] [(0, y0)] M := by
  unfold pX11_areTwoPens_38 at h
  obtain ⟨g2, h⟩ := zif h
  cases h
  exact zG.zret hX (by decide +kernel) g2
noncomputable def pX11_areTwoPens_37 (S : ZS) (M : ZM) : Option (Int × ZM) := pX11_areTwoPens_38 S M 0
set_option maxHeartbeats 2000000 in
set_option maxRecDepth 20000 in
theorem pX11_areTwoPens_37_ok {C : ZC} {E : ZE} {S : ZS} {q : (Int × ZM)} (hX : zCx C E 11 cX11_areTwoPens 3 (some .boolean) false) (hRm : czR C = { frames := 2, cells := 0, slots := 0, locals := 61 }) {M : ZM} (h : pX11_areTwoPens_37 S M = some q) : zG C E 3 S 0 0 (zQ C E 0 0 (some (0, q.1)) S q.2) 37 [none, none, none] [] M := by
  unfold pX11_areTwoPens_37 at h
  refine zG.blk (pc' := 38) (l' := [none, none, none]) (st' := [(0, 0)]) (M' := M) hX [(.iconst 0, 0, 0, 0)] (by decide +kernel) rfl trivial ?_
  exact (pX11_areTwoPens_38_ok hX hRm h)
noncomputable def pX11_areTwoPens (S : ZS) (M : ZM) (a0 : Int) (a1 : Int) (a2 : Int) : Option (Int × ZM) := if a1 = a2 then (pX11_areTwoPens_37 S M) else (if S.1 a0 = 11 then if S.1 (M a0 5) = 10 then if S.1 (M (M a0 5) 0) = 9 then (pX9_hasPen S M (M (M a0 5) 0) a1).bind fun q5 => if q5.1 = 0 then (pX11_areTwoPens_37 S q5.2) else (if S.1 (q5.2 a0 5) = 10 then if S.1 (q5.2 (q5.2 a0 5) 0) = 9 then (pX9_hasPen S q5.2 (q5.2 (q5.2 a0 5) 0) a2).bind fun q10 => if q10.1 = 0 then (pX11_areTwoPens_37 S q10.2) else (pX11_areTwoPens_38 S q10.2 1) else none else none) else none else none else none)
set_option maxHeartbeats 2000000 in
set_option maxRecDepth 20000 in
theorem pX11_areTwoPens_go {C : ZC} {E : ZE} {S : ZS} {M : ZM} {a0 a1 a2 : Int} {q : (Int × ZM)} (hX : zCx C E 11 cX11_areTwoPens 3 (some .boolean) false) (hRm : czR C = { frames := 2, cells := 0, slots := 0, locals := 61 }) (h : pX11_areTwoPens  S M a0 a1 a2 = some q) : zG C E 3 S 0 0 (zQ C E 0 0 (some (0, q.1)) S q.2) 0 [some (2, a0), some (0, a1), some (0, a2)] [] M := by
  unfold pX11_areTwoPens at h
  refine zG.blk (pc' := 2) (l' := [some (2, a0), some (0, a1), some (0, a2)]) (st' := [(0, a2), (0, a1)]) (M' := M) hX [(.iload_n 1, 0, 0, 0), (.iload_n 2, 0, 0, 0)] (by decide +kernel) rfl trivial ?_
  refine zG.icmp_eq (tgt := 37) (off := 35) hX (by decide +kernel) (by decide) (fun c1 => ?_) (fun c1 => ?_)
  · have h := zip c1 h
    exact zG.wk [false, false, false] (pX11_areTwoPens_37_ok hX hRm h)
  · have h := zin c1 h
    obtain ⟨g3, h⟩ := zif h
    obtain ⟨g4, h⟩ := zif h
    refine zG.blk (pc' := 13) (l' := [some (2, a0), some (0, a1), some (0, a2)]) (st' := [(0, a1), (2, M (M a0 5) 0)]) (M' := M) hX [(.aload_n 0, 0, 0, 0), (.getfield 39, 11, 5, 2), (.getfield 95, 10, 0, 2), (.iload_n 1, 0, 0, 0)] (by decide +kernel) rfl (And.intro g3 (And.intro g4 trivial)) ?_
    obtain ⟨g7, h⟩ := zif h
    obtain ⟨q5, e6, h⟩ := zbd h
    refine zG.callV (b := M (M a0 5) 0) (av := [(0, a1)]) (st := []) (ci := 9) hX (pX9_hasPen_ok e6) sv_11_115 rfl ⟨by decide, rfl⟩ g7 (by decide +kernel) (by rw [hRm]; exact ⟨Nat.le_of_ble_eq_true rfl, Nat.le_of_ble_eq_true rfl⟩) (by rw [hRm]; exact ⟨Nat.le_of_ble_eq_true rfl, Nat.le_of_ble_eq_true rfl⟩) (Nat.le_of_ble_eq_true rfl) ?_
    show zG C E 3 S 0 0 _ 16 [some (2, a0), some (0, a1), some (0, a2)] [(0, q5.1)] q5.2
    refine zG.if_eq (tgt := 37) (off := 21) hX (by decide +kernel) (by decide) (fun c8 => ?_) (fun c8 => ?_)
    · have h := zip c8 h
      exact zG.wk [false, false, false] (pX11_areTwoPens_37_ok hX hRm h)
    · have h := zin c8 h
      obtain ⟨g9, h⟩ := zif h
      refine zG.blk (pc' := 27) (l' := [some (2, a0), some (0, a1), some (0, a2)]) (st' := [(0, a2), (2, q5.2 (q5.2 a0 5) 0)]) (M' := q5.2) hX [(.aload_n 0, 0, 0, 0), (.getfield 39, 11, 5, 2), (.getfield 95, 10, 0, 2), (.iload_n 2, 0, 0, 0)] (by decide +kernel) rfl (And.intro g3 (And.intro g9 trivial)) ?_
      obtain ⟨g12, h⟩ := zif h
      obtain ⟨q10, e11, h⟩ := zbd h
      refine zG.callV (b := q5.2 (q5.2 a0 5) 0) (av := [(0, a2)]) (st := []) (ci := 9) hX (pX9_hasPen_ok e11) sv_11_115 rfl ⟨by decide, rfl⟩ g12 (by decide +kernel) (by rw [hRm]; exact ⟨Nat.le_of_ble_eq_true rfl, Nat.le_of_ble_eq_true rfl⟩) (by rw [hRm]; exact ⟨Nat.le_of_ble_eq_true rfl, Nat.le_of_ble_eq_true rfl⟩) (Nat.le_of_ble_eq_true rfl) ?_
      show zG C E 3 S 0 0 _ 30 [some (2, a0), some (0, a1), some (0, a2)] [(0, q10.1)] q10.2
      refine zG.if_eq (tgt := 37) (off := 7) hX (by decide +kernel) (by decide) (fun c13 => ?_) (fun c13 => ?_)
      · have h := zip c13 h
        exact zG.wk [false, false, false] (pX11_areTwoPens_37_ok hX hRm h)
      · have h := zin c13 h
        refine zG.blk (pc' := 34) (l' := [some (2, a0), some (0, a1), some (0, a2)]) (st' := [(0, 1)]) (M' := q10.2) hX [(.iconst 1, 0, 0, 0)] (by decide +kernel) rfl trivial ?_
        refine zG.goto (tgt := 38) (off := 4) hX (by decide +kernel) (by decide) ?_
        exact zG.wk [false, false, false] (pX11_areTwoPens_38_ok hX hRm h)
theorem pX11_areTwoPens_ok {l : Launch} {E : ZE} {S : ZS} {M : ZM} {a0 a1 a2 : Int} {q : (Int × ZM)} (h : pX11_areTwoPens S M a0 a1 a2 = some q) : zMet l yX11_areTwoPens cX11_areTwoPens 3 (some .boolean) 2 61 0 0 E S M [(2, a0), (0, a1), (0, a2)] (some (0, q.1)) S q.2 :=
  zMet.of (o := 11) (ini := false) (by decide +kernel) rfl (fun h => by cases h) (Nat.le_of_ble_eq_true rfl) (fun C hX hl hRm => by subst hl; exact pX11_areTwoPens_go hX hRm h)
noncomputable def pX11_back_18 (S : ZS) (M : ZM) : Option (Int × ZM) := some ((-1), M)
set_option maxHeartbeats 2000000 in
set_option maxRecDepth 20000 in
theorem pX11_back_18_ok {C : ZC} {E : ZE} {S : ZS} {q : (Int × ZM)} (hX : zCx C E 11 cX11_back 2 (some .int) false) (hRm : czR C = { frames := 3, cells := 0, slots := 0, locals := 103 }) {M : ZM} (h : pX11_back_18 S M = some q) : zG C E 2 S 0 0 (zQ C E 0 0 (some (0, q.1)) S q.2) 18 [none, none] [] M := by
  unfold pX11_back_18 at h
  refine zG.blk (pc' := 19) (l' := [none, none]) (st' := [(0, (-1))]) (M' := M) hX [(.iconst (-1), 0, 0, 0)] (by decide +kernel) rfl trivial ?_
  cases h
  exact zG.iret hX (by decide +kernel)
theorem sv_11_263 : zSV 11 263 yX10_copyFrom cX10_copyFrom 3 none 1 := ⟨⟨gt_at 1113 (by decide +kernel) rfl, gt_at 1114 (by decide +kernel) rfl, gt_at 1115 (by decide +kernel) rfl, gt_at 110 (by decide +kernel) rfl, gt_at 1116 (by decide +kernel) rfl⟩, by decide +kernel, by decide +kernel, by decide +kernel⟩
noncomputable def pX11_back (S : ZS) (M : ZM) (a0 : Int) (a1 : Int) : Option (Int × ZM) := (pX11_within S M a1 0 3).bind fun q1 => if q1.1 = 0 then (pX11_back_18 S q1.2) else (if S.1 a0 = 11 then if S.1 (q1.2 a0 6) = 106 ∧ (0 : Int) ≤ a1 ∧ a1 < S.2.1 (q1.2 a0 6) then if 1 ≤ q1.2 (q1.2 a0 6) a1 then (if S.1 (q1.2 a0 5) = 10 then (pX10_copyFrom S q1.2 (q1.2 a0 5) (q1.2 (q1.2 a0 6) a1)).bind fun q7 => if S.1 (q7 a0 5) = 10 then if S.1 (q7 (q7 a0 5) 1) = 6 then some (q7 (q7 (q7 a0 5) 1) 5, q7) else none else none else none) else (pX11_back_18 S q1.2) else none else none)
set_option maxHeartbeats 2000000 in
set_option maxRecDepth 20000 in
theorem pX11_back_go {C : ZC} {E : ZE} {S : ZS} {M : ZM} {a0 a1 : Int} {q : (Int × ZM)} (hX : zCx C E 11 cX11_back 2 (some .int) false) (hRm : czR C = { frames := 3, cells := 0, slots := 0, locals := 103 }) (h : pX11_back  S M a0 a1 = some q) : zG C E 2 S 0 0 (zQ C E 0 0 (some (0, q.1)) S q.2) 0 [some (2, a0), some (0, a1)] [] M := by
  unfold pX11_back at h
  refine zG.blk (pc' := 3) (l' := [some (2, a0), some (0, a1)]) (st' := [(0, 3), (0, 0), (0, a1)]) (M' := M) hX [(.iload_n 1, 0, 0, 0), (.iconst 0, 0, 0, 0), (.iconst 3, 0, 0, 0)] (by decide +kernel) rfl trivial ?_
  obtain ⟨q1, e2, h⟩ := zbd h
  refine zG.callS (av := [(0, a1), (0, 0), (0, 3)]) (st := []) hX (pX11_within_ok e2) ss_11_172 rfl (by decide +kernel) (by rw [hRm]; exact ⟨Nat.le_of_ble_eq_true rfl, Nat.le_of_ble_eq_true rfl⟩) (by rw [hRm]; exact ⟨Nat.le_of_ble_eq_true rfl, Nat.le_of_ble_eq_true rfl⟩) (Nat.le_of_ble_eq_true rfl) ?_
  show zG C E 2 S 0 0 _ 6 [some (2, a0), some (0, a1)] [(0, q1.1)] q1.2
  refine zG.if_eq (tgt := 18) (off := 12) hX (by decide +kernel) (by decide) (fun c3 => ?_) (fun c3 => ?_)
  · have h := zip c3 h
    exact zG.wk [false, false] (pX11_back_18_ok hX hRm h)
  · have h := zin c3 h
    obtain ⟨g4, h⟩ := zif h
    obtain ⟨g5, h⟩ := zif h
    refine zG.blk (pc' := 15) (l' := [some (2, a0), some (0, a1)]) (st' := [(2, q1.2 (q1.2 a0 6) a1)]) (M' := q1.2) hX [(.aload_n 0, 0, 0, 0), (.getfield 43, 11, 6, 2), (.iload_n 1, 0, 0, 0), (.aaload, 106, 0, 0)] (by decide +kernel) rfl (And.intro g4 (And.intro g5 trivial)) ?_
    refine zG.ifnonnull (tgt := 20) (off := 5) hX (by decide +kernel) (by decide) (fun c6 => ?_) (fun c6 => ?_)
    · have h := zip c6 h
      refine zG.blk (pc' := 30) (l' := [some (2, a0), some (0, a1)]) (st' := [(2, q1.2 (q1.2 a0 6) a1), (2, q1.2 a0 5)]) (M' := q1.2) hX [(.aload_n 0, 0, 0, 0), (.getfield 39, 11, 5, 2), (.aload_n 0, 0, 0, 0), (.getfield 43, 11, 6, 2), (.iload_n 1, 0, 0, 0), (.aaload, 106, 0, 0)] (by decide +kernel) rfl (And.intro g4 (And.intro g4 (And.intro g5 trivial))) ?_
      obtain ⟨g9, h⟩ := zif h
      obtain ⟨q7, e8, h⟩ := zbd h
      refine zG.callV (b := q1.2 a0 5) (av := [(2, q1.2 (q1.2 a0 6) a1)]) (st := []) (ci := 10) hX (pX10_copyFrom_ok e8) sv_11_263 rfl ⟨by decide, rfl⟩ g9 (by decide +kernel) (by rw [hRm]; exact ⟨Nat.le_of_ble_eq_true rfl, Nat.le_of_ble_eq_true rfl⟩) (by rw [hRm]; exact ⟨Nat.le_of_ble_eq_true rfl, Nat.le_of_ble_eq_true rfl⟩) (Nat.le_of_ble_eq_true rfl) ?_
      show zG C E 2 S 0 0 _ 33 [some (2, a0), some (0, a1)] [] q7
      obtain ⟨g10, h⟩ := zif h
      obtain ⟨g11, h⟩ := zif h
      refine zG.blk (pc' := 43) (l' := [some (2, a0), some (0, a1)]) (st' := [(0, q7 (q7 (q7 a0 5) 1) 5)]) (M' := q7) hX [(.aload_n 0, 0, 0, 0), (.getfield 39, 11, 5, 2), (.getfield 119, 10, 1, 2), (.getfield 155, 6, 5, 0)] (by decide +kernel) rfl (And.intro g4 (And.intro g10 (And.intro g11 trivial))) ?_
      cases h
      exact zG.iret hX (by decide +kernel)
    · have h := zin c6 h
      exact zG.wk [false, false] (pX11_back_18_ok hX hRm h)
theorem pX11_back_ok {l : Launch} {E : ZE} {S : ZS} {M : ZM} {a0 a1 : Int} {q : (Int × ZM)} (h : pX11_back S M a0 a1 = some q) : zMet l yX11_back cX11_back 2 (some .int) 3 103 0 0 E S M [(2, a0), (0, a1)] (some (0, q.1)) S q.2 :=
  zMet.of (o := 11) (ini := false) (by decide +kernel) rfl (fun h => by cases h) (Nat.le_of_ble_eq_true rfl) (fun C hX hl hRm => by subst hl; exact pX11_back_go hX hRm h)
noncomputable def pX11_bend_40 (S : ZS) (M : ZM) : Option (Int × ZM) := some ((-1), M)
set_option maxHeartbeats 2000000 in
set_option maxRecDepth 20000 in
theorem pX11_bend_40_ok {C : ZC} {E : ZE} {S : ZS} {q : (Int × ZM)} (hX : zCx C E 11 cX11_bend 4 (some .int) false) (hRm : czR C = { frames := 3, cells := 0, slots := 0, locals := 101 }) {M : ZM} (h : pX11_bend_40 S M = some q) : zG C E 4 S 0 0 (zQ C E 0 0 (some (0, q.1)) S q.2) 40 [none, none, none, none] [] M := by
  unfold pX11_bend_40 at h
  refine zG.blk (pc' := 41) (l' := [none, none, none, none]) (st' := [(0, (-1))]) (M' := M) hX [(.iconst (-1), 0, 0, 0)] (by decide +kernel) rfl trivial ?_
  cases h
  exact zG.iret hX (by decide +kernel)
theorem sv_11_158 : zSV 11 158 yX10_remember cX10_remember 1 none 0 := ⟨⟨gt_at 776 (by decide +kernel) rfl, gt_at 777 (by decide +kernel) rfl, gt_at 778 (by decide +kernel) rfl, gt_at 110 (by decide +kernel) rfl, gt_at 779 (by decide +kernel) rfl⟩, by decide +kernel, by decide +kernel, by decide +kernel⟩
noncomputable def pX11_bend (S : ZS) (M : ZM) (a0 : Int) (a1 : Int) (a2 : Int) : Option (Int × ZM) := if S.1 a0 = 11 then if S.1 (M a0 5) = 10 then if S.1 (M (M a0 5) 0) = 9 then (pX9_hasPen S M (M (M a0 5) 0) a1).bind fun q3 => if q3.1 = 0 then (pX11_bend_40 S q3.2) else ((pX11_within S q3.2 a2 0 9).bind fun q7 => if q7.1 = 0 then (pX11_bend_40 S q7.2) else (if S.1 (q7.2 a0 5) = 10 then if S.1 (q7.2 (q7.2 a0 5) 1) = 6 then if S.1 (q7.2 (q7.2 (q7.2 a0 5) 1) 1) = 100 ∧ (0 : Int) ≤ a1 ∧ a1 < S.2.1 (q7.2 (q7.2 (q7.2 a0 5) 1) 1) then if q7.2 (q7.2 (q7.2 (q7.2 a0 5) 1) 1) a1 = a2 then (pX11_bend_40 S q7.2) else ((pX10_remember S q7.2 (q7.2 a0 5)).bind fun q14 => if S.1 (q14 a0 5) = 10 then if S.1 (q14 (q14 a0 5) 1) = 6 then if S.1 (q14 (q14 (q14 a0 5) 1) 1) = 100 ∧ (0 : Int) ≤ a1 ∧ a1 < S.2.1 (q14 (q14 (q14 a0 5) 1) 1) then zlet (upM q14 (q14 (q14 (q14 a0 5) 1) 1) a1 a2) fun M19 => some (q14 (q14 (q14 (q14 a0 5) 1) 1) a1, M19) else none else none else none) else none else none else none)) else none else none else none
set_option maxHeartbeats 2000000 in
set_option maxRecDepth 20000 in
theorem pX11_bend_go {C : ZC} {E : ZE} {S : ZS} {M : ZM} {a0 a1 a2 : Int} {q : (Int × ZM)} (hX : zCx C E 11 cX11_bend 4 (some .int) false) (hRm : czR C = { frames := 3, cells := 0, slots := 0, locals := 101 }) (h : pX11_bend  S M a0 a1 a2 = some q) : zG C E 4 S 0 0 (zQ C E 0 0 (some (0, q.1)) S q.2) 0 [some (2, a0), some (0, a1), some (0, a2), none] [] M := by
  unfold pX11_bend at h
  obtain ⟨g1, h⟩ := zif h
  obtain ⟨g2, h⟩ := zif h
  refine zG.blk (pc' := 8) (l' := [some (2, a0), some (0, a1), some (0, a2), none]) (st' := [(0, a1), (2, M (M a0 5) 0)]) (M' := M) hX [(.aload_n 0, 0, 0, 0), (.getfield 39, 11, 5, 2), (.getfield 95, 10, 0, 2), (.iload_n 1, 0, 0, 0)] (by decide +kernel) rfl (And.intro g1 (And.intro g2 trivial)) ?_
  obtain ⟨g5, h⟩ := zif h
  obtain ⟨q3, e4, h⟩ := zbd h
  refine zG.callV (b := M (M a0 5) 0) (av := [(0, a1)]) (st := []) (ci := 9) hX (pX9_hasPen_ok e4) sv_11_115 rfl ⟨by decide, rfl⟩ g5 (by decide +kernel) (by rw [hRm]; exact ⟨Nat.le_of_ble_eq_true rfl, Nat.le_of_ble_eq_true rfl⟩) (by rw [hRm]; exact ⟨Nat.le_of_ble_eq_true rfl, Nat.le_of_ble_eq_true rfl⟩) (Nat.le_of_ble_eq_true rfl) ?_
  show zG C E 4 S 0 0 _ 11 [some (2, a0), some (0, a1), some (0, a2), none] [(0, q3.1)] q3.2
  refine zG.if_eq (tgt := 40) (off := 29) hX (by decide +kernel) (by decide) (fun c6 => ?_) (fun c6 => ?_)
  · have h := zip c6 h
    exact zG.wk [false, false, false, true] (pX11_bend_40_ok hX hRm h)
  · have h := zin c6 h
    refine zG.blk (pc' := 18) (l' := [some (2, a0), some (0, a1), some (0, a2), none]) (st' := [(0, 9), (0, 0), (0, a2)]) (M' := q3.2) hX [(.iload_n 2, 0, 0, 0), (.iconst 0, 0, 0, 0), (.bipush 9, 0, 0, 0)] (by decide +kernel) rfl trivial ?_
    obtain ⟨q7, e8, h⟩ := zbd h
    refine zG.callS (av := [(0, a2), (0, 0), (0, 9)]) (st := []) hX (pX11_within_ok e8) ss_11_172 rfl (by decide +kernel) (by rw [hRm]; exact ⟨Nat.le_of_ble_eq_true rfl, Nat.le_of_ble_eq_true rfl⟩) (by rw [hRm]; exact ⟨Nat.le_of_ble_eq_true rfl, Nat.le_of_ble_eq_true rfl⟩) (Nat.le_of_ble_eq_true rfl) ?_
    show zG C E 4 S 0 0 _ 21 [some (2, a0), some (0, a1), some (0, a2), none] [(0, q7.1)] q7.2
    refine zG.if_eq (tgt := 40) (off := 19) hX (by decide +kernel) (by decide) (fun c9 => ?_) (fun c9 => ?_)
    · have h := zip c9 h
      exact zG.wk [false, false, false, true] (pX11_bend_40_ok hX hRm h)
    · have h := zin c9 h
      obtain ⟨g10, h⟩ := zif h
      obtain ⟨g11, h⟩ := zif h
      obtain ⟨g12, h⟩ := zif h
      refine zG.blk (pc' := 37) (l' := [some (2, a0), some (0, a1), some (0, a2), none]) (st' := [(0, a2), (0, q7.2 (q7.2 (q7.2 (q7.2 a0 5) 1) 1) a1)]) (M' := q7.2) hX [(.aload_n 0, 0, 0, 0), (.getfield 39, 11, 5, 2), (.getfield 119, 10, 1, 2), (.getfield 129, 6, 1, 2), (.iload_n 1, 0, 0, 0), (.iaload, 0, 0, 0), (.iload_n 2, 0, 0, 0)] (by decide +kernel) rfl (And.intro g1 (And.intro g10 (And.intro g11 (And.intro g12 trivial)))) ?_
      refine zG.icmp_ne (tgt := 42) (off := 5) hX (by decide +kernel) (by decide) (fun c13 => ?_) (fun c13 => ?_)
      · have h := zin c13 h
        refine zG.blk (pc' := 46) (l' := [some (2, a0), some (0, a1), some (0, a2), none]) (st' := [(2, q7.2 a0 5)]) (M' := q7.2) hX [(.aload_n 0, 0, 0, 0), (.getfield 39, 11, 5, 2)] (by decide +kernel) rfl (And.intro g1 trivial) ?_
        obtain ⟨q14, e15, h⟩ := zbd h
        refine zG.callV (b := q7.2 a0 5) (av := []) (st := []) (ci := 10) hX (pX10_remember_ok e15) sv_11_158 rfl ⟨by decide, rfl⟩ g10 (by decide +kernel) (by rw [hRm]; exact ⟨Nat.le_of_ble_eq_true rfl, Nat.le_of_ble_eq_true rfl⟩) (by rw [hRm]; exact ⟨Nat.le_of_ble_eq_true rfl, Nat.le_of_ble_eq_true rfl⟩) (Nat.le_of_ble_eq_true rfl) ?_
        show zG C E 4 S 0 0 _ 49 [some (2, a0), some (0, a1), some (0, a2), none] [] q14
        obtain ⟨g16, h⟩ := zif h
        obtain ⟨g17, h⟩ := zif h
        obtain ⟨g18, h⟩ := zif h
        refine zG.blk (pc' := 75) (l' := [some (2, a0), some (0, a1), some (0, a2), some (0, q14 (q14 (q14 (q14 a0 5) 1) 1) a1)]) (st' := []) (M' := (upM q14 (q14 (q14 (q14 a0 5) 1) 1) a1 a2)) hX [(.aload_n 0, 0, 0, 0), (.getfield 39, 11, 5, 2), (.getfield 119, 10, 1, 2), (.getfield 129, 6, 1, 2), (.iload_n 1, 0, 0, 0), (.iaload, 0, 0, 0), (.istore_n 3, 0, 0, 0), (.aload_n 0, 0, 0, 0), (.getfield 39, 11, 5, 2), (.getfield 119, 10, 1, 2), (.getfield 129, 6, 1, 2), (.iload_n 1, 0, 0, 0), (.iload_n 2, 0, 0, 0), (.iastore, 0, 0, 0)] (by decide +kernel) rfl (And.intro g1 (And.intro g16 (And.intro g17 (And.intro g18 (And.intro g1 (And.intro g16 (And.intro g17 (And.intro g18 trivial)))))))) ?_
        generalize upM q14 (q14 (q14 (q14 a0 5) 1) 1) a1 a2 = M19 at h ⊢
        have h := zlt h
        refine zG.blk (pc' := 76) (l' := [some (2, a0), some (0, a1), some (0, a2), some (0, q14 (q14 (q14 (q14 a0 5) 1) 1) a1)]) (st' := [(0, q14 (q14 (q14 (q14 a0 5) 1) 1) a1)]) (M' := M19) hX [(.iload_n 3, 0, 0, 0)] (by decide +kernel) rfl trivial ?_
        cases h
        exact zG.iret hX (by decide +kernel)
      · have h := zip c13 h
        exact zG.wk [false, false, false, true] (pX11_bend_40_ok hX hRm h)
theorem pX11_bend_ok {l : Launch} {E : ZE} {S : ZS} {M : ZM} {a0 a1 a2 : Int} {q : (Int × ZM)} (h : pX11_bend S M a0 a1 a2 = some q) : zMet l yX11_bend cX11_bend 4 (some .int) 3 101 0 0 E S M [(2, a0), (0, a1), (0, a2)] (some (0, q.1)) S q.2 :=
  zMet.of (o := 11) (ini := false) (by decide +kernel) rfl (fun h => by cases h) (Nat.le_of_ble_eq_true rfl) (fun C hX hl hRm => by subst hl; exact pX11_bend_go hX hRm h)
noncomputable def pX11_blot_30 (S : ZS) (M : ZM) : Option (Int × ZM) := some ((-1), M)
set_option maxHeartbeats 2000000 in
set_option maxRecDepth 20000 in
theorem pX11_blot_30_ok {C : ZC} {E : ZE} {S : ZS} {q : (Int × ZM)} (hX : zCx C E 11 cX11_blot 3 (some .int) false) (hRm : czR C = { frames := 3, cells := 0, slots := 0, locals := 101 }) {M : ZM} (h : pX11_blot_30 S M = some q) : zG C E 3 S 0 0 (zQ C E 0 0 (some (0, q.1)) S q.2) 30 [none, none, none] [] M := by
  unfold pX11_blot_30 at h
  refine zG.blk (pc' := 31) (l' := [none, none, none]) (st' := [(0, (-1))]) (M' := M) hX [(.iconst (-1), 0, 0, 0)] (by decide +kernel) rfl trivial ?_
  cases h
  exact zG.iret hX (by decide +kernel)
noncomputable def pX11_blot (S : ZS) (M : ZM) (a0 : Int) (a1 : Int) : Option (Int × ZM) := if S.1 a0 = 11 then if S.1 (M a0 5) = 10 then if S.1 (M (M a0 5) 0) = 9 then (pX9_hasCell S M (M (M a0 5) 0) a1).bind fun q3 => if q3.1 = 0 then (pX11_blot_30 S q3.2) else (if S.1 (q3.2 a0 5) = 10 then if S.1 (q3.2 (q3.2 a0 5) 1) = 6 then if S.1 (q3.2 (q3.2 (q3.2 a0 5) 1) 2) = 100 ∧ (0 : Int) ≤ a1 ∧ a1 < S.2.1 (q3.2 (q3.2 (q3.2 a0 5) 1) 2) then if q3.2 (q3.2 (q3.2 (q3.2 a0 5) 1) 2) a1 = (-1) then (pX11_blot_30 S q3.2) else ((pX10_remember S q3.2 (q3.2 a0 5)).bind fun q11 => if S.1 (q11 a0 5) = 10 then if S.1 (q11 (q11 a0 5) 1) = 6 then if S.1 (q11 (q11 (q11 a0 5) 1) 2) = 100 ∧ (0 : Int) ≤ a1 ∧ a1 < S.2.1 (q11 (q11 (q11 a0 5) 1) 2) then zlet (upM q11 (q11 (q11 (q11 a0 5) 1) 2) a1 (-1)) fun M16 => some (q11 (q11 (q11 (q11 a0 5) 1) 2) a1, M16) else none else none else none) else none else none else none) else none else none else none
set_option maxHeartbeats 2000000 in
set_option maxRecDepth 20000 in
theorem pX11_blot_go {C : ZC} {E : ZE} {S : ZS} {M : ZM} {a0 a1 : Int} {q : (Int × ZM)} (hX : zCx C E 11 cX11_blot 3 (some .int) false) (hRm : czR C = { frames := 3, cells := 0, slots := 0, locals := 101 }) (h : pX11_blot  S M a0 a1 = some q) : zG C E 3 S 0 0 (zQ C E 0 0 (some (0, q.1)) S q.2) 0 [some (2, a0), some (0, a1), none] [] M := by
  unfold pX11_blot at h
  obtain ⟨g1, h⟩ := zif h
  obtain ⟨g2, h⟩ := zif h
  refine zG.blk (pc' := 8) (l' := [some (2, a0), some (0, a1), none]) (st' := [(0, a1), (2, M (M a0 5) 0)]) (M' := M) hX [(.aload_n 0, 0, 0, 0), (.getfield 39, 11, 5, 2), (.getfield 95, 10, 0, 2), (.iload_n 1, 0, 0, 0)] (by decide +kernel) rfl (And.intro g1 (And.intro g2 trivial)) ?_
  obtain ⟨g5, h⟩ := zif h
  obtain ⟨q3, e4, h⟩ := zbd h
  refine zG.callV (b := M (M a0 5) 0) (av := [(0, a1)]) (st := []) (ci := 9) hX (pX9_hasCell_ok e4) sv_11_139 rfl ⟨by decide, rfl⟩ g5 (by decide +kernel) (by rw [hRm]; exact ⟨Nat.le_of_ble_eq_true rfl, Nat.le_of_ble_eq_true rfl⟩) (by rw [hRm]; exact ⟨Nat.le_of_ble_eq_true rfl, Nat.le_of_ble_eq_true rfl⟩) (Nat.le_of_ble_eq_true rfl) ?_
  show zG C E 3 S 0 0 _ 11 [some (2, a0), some (0, a1), none] [(0, q3.1)] q3.2
  refine zG.if_eq (tgt := 30) (off := 19) hX (by decide +kernel) (by decide) (fun c6 => ?_) (fun c6 => ?_)
  · have h := zip c6 h
    exact zG.wk [false, false, true] (pX11_blot_30_ok hX hRm h)
  · have h := zin c6 h
    obtain ⟨g7, h⟩ := zif h
    obtain ⟨g8, h⟩ := zif h
    obtain ⟨g9, h⟩ := zif h
    refine zG.blk (pc' := 27) (l' := [some (2, a0), some (0, a1), none]) (st' := [(0, (-1)), (0, q3.2 (q3.2 (q3.2 (q3.2 a0 5) 1) 2) a1)]) (M' := q3.2) hX [(.aload_n 0, 0, 0, 0), (.getfield 39, 11, 5, 2), (.getfield 119, 10, 1, 2), (.getfield 142, 6, 2, 2), (.iload_n 1, 0, 0, 0), (.iaload, 0, 0, 0), (.iconst (-1), 0, 0, 0)] (by decide +kernel) rfl (And.intro g1 (And.intro g7 (And.intro g8 (And.intro g9 trivial)))) ?_
    refine zG.icmp_ne (tgt := 32) (off := 5) hX (by decide +kernel) (by decide) (fun c10 => ?_) (fun c10 => ?_)
    · have h := zin c10 h
      refine zG.blk (pc' := 36) (l' := [some (2, a0), some (0, a1), none]) (st' := [(2, q3.2 a0 5)]) (M' := q3.2) hX [(.aload_n 0, 0, 0, 0), (.getfield 39, 11, 5, 2)] (by decide +kernel) rfl (And.intro g1 trivial) ?_
      obtain ⟨q11, e12, h⟩ := zbd h
      refine zG.callV (b := q3.2 a0 5) (av := []) (st := []) (ci := 10) hX (pX10_remember_ok e12) sv_11_158 rfl ⟨by decide, rfl⟩ g7 (by decide +kernel) (by rw [hRm]; exact ⟨Nat.le_of_ble_eq_true rfl, Nat.le_of_ble_eq_true rfl⟩) (by rw [hRm]; exact ⟨Nat.le_of_ble_eq_true rfl, Nat.le_of_ble_eq_true rfl⟩) (Nat.le_of_ble_eq_true rfl) ?_
      show zG C E 3 S 0 0 _ 39 [some (2, a0), some (0, a1), none] [] q11
      obtain ⟨g13, h⟩ := zif h
      obtain ⟨g14, h⟩ := zif h
      obtain ⟨g15, h⟩ := zif h
      refine zG.blk (pc' := 65) (l' := [some (2, a0), some (0, a1), some (0, q11 (q11 (q11 (q11 a0 5) 1) 2) a1)]) (st' := []) (M' := (upM q11 (q11 (q11 (q11 a0 5) 1) 2) a1 (-1))) hX [(.aload_n 0, 0, 0, 0), (.getfield 39, 11, 5, 2), (.getfield 119, 10, 1, 2), (.getfield 142, 6, 2, 2), (.iload_n 1, 0, 0, 0), (.iaload, 0, 0, 0), (.istore_n 2, 0, 0, 0), (.aload_n 0, 0, 0, 0), (.getfield 39, 11, 5, 2), (.getfield 119, 10, 1, 2), (.getfield 142, 6, 2, 2), (.iload_n 1, 0, 0, 0), (.iconst (-1), 0, 0, 0), (.iastore, 0, 0, 0)] (by decide +kernel) rfl (And.intro g1 (And.intro g13 (And.intro g14 (And.intro g15 (And.intro g1 (And.intro g13 (And.intro g14 (And.intro g15 trivial)))))))) ?_
      generalize upM q11 (q11 (q11 (q11 a0 5) 1) 2) a1 (-1) = M16 at h ⊢
      have h := zlt h
      refine zG.blk (pc' := 66) (l' := [some (2, a0), some (0, a1), some (0, q11 (q11 (q11 (q11 a0 5) 1) 2) a1)]) (st' := [(0, q11 (q11 (q11 (q11 a0 5) 1) 2) a1)]) (M' := M16) hX [(.iload_n 2, 0, 0, 0)] (by decide +kernel) rfl trivial ?_
      cases h
      exact zG.iret hX (by decide +kernel)
    · have h := zip c10 h
      exact zG.wk [false, false, true] (pX11_blot_30_ok hX hRm h)
theorem pX11_blot_ok {l : Launch} {E : ZE} {S : ZS} {M : ZM} {a0 a1 : Int} {q : (Int × ZM)} (h : pX11_blot S M a0 a1 = some q) : zMet l yX11_blot cX11_blot 3 (some .int) 3 101 0 0 E S M [(2, a0), (0, a1)] (some (0, q.1)) S q.2 :=
  zMet.of (o := 11) (ini := false) (by decide +kernel) rfl (fun h => by cases h) (Nat.le_of_ble_eq_true rfl) (fun C hX hl hRm => by subst hl; exact pX11_blot_go hX hRm h)
noncomputable def pX11_came_48 (S : ZS) (M : ZM) : Option (Int × ZM) := some ((-1), M)
set_option maxHeartbeats 2000000 in
set_option maxRecDepth 20000 in
theorem pX11_came_48_ok {C : ZC} {E : ZE} {S : ZS} {q : (Int × ZM)} (hX : zCx C E 11 cX11_came 5 (some .int) false) (hRm : czR C = { frames := 7, cells := 0, slots := 0, locals := 192 }) {M : ZM} (h : pX11_came_48 S M = some q) : zG C E 5 S 0 0 (zQ C E 0 0 (some (0, q.1)) S q.2) 48 [none, none, none, none, none] [] M := by
  unfold pX11_came_48 at h
  refine zG.blk (pc' := 49) (l' := [none, none, none, none, none]) (st' := [(0, (-1))]) (M' := M) hX [(.iconst (-1), 0, 0, 0)] (by decide +kernel) rfl trivial ?_
  cases h
  exact zG.iret hX (by decide +kernel)
theorem sv_11_205 : zSV 11 205 yX1_beginnings cX1_beginnings 9 (some .int) 5 := ⟨⟨gt_at 955 (by decide +kernel) rfl, gt_at 956 (by decide +kernel) rfl, gt_at 957 (by decide +kernel) rfl, gt_at 114 (by decide +kernel) rfl, gt_at 958 (by decide +kernel) rfl⟩, by decide +kernel, by decide +kernel, by decide +kernel⟩
noncomputable def pX11_came (S : ZS) (M : ZM) (a0 : Int) (a1 : Int) (a2 : Int) (a3 : Int) (a4 : Int) : Option (Int × ZM) := if S.1 a0 = 11 then if S.1 (M a0 5) = 10 then if S.1 (M (M a0 5) 0) = 9 then (pX9_hasPen S M (M (M a0 5) 0) a1).bind fun q3 => if q3.1 = 0 then (pX11_came_48 S q3.2) else (if S.1 (q3.2 a0 5) = 10 then if S.1 (q3.2 (q3.2 a0 5) 0) = 9 then (pX9_hasCell S q3.2 (q3.2 (q3.2 a0 5) 0) a2).bind fun q8 => if q8.1 = 0 then (pX11_came_48 S q8.2) else ((pX11_within S q8.2 a3 1 60).bind fun q12 => if q12.1 = 0 then (pX11_came_48 S q12.2) else ((pX11_within S q12.2 a4 0 1).bind fun q15 => if q15.1 = 0 then (pX11_came_48 S q15.2) else (if S.1 (q15.2 a0 8) = 1 then (pX1_beginnings S q15.2 (q15.2 a0 8) (q15.2 a0 5) a1 a2 a3 a4).bind fun q18 => some (q18.1, q18.2) else none))) else none else none) else none else none else none
set_option maxHeartbeats 2000000 in
set_option maxRecDepth 20000 in
theorem pX11_came_go {C : ZC} {E : ZE} {S : ZS} {M : ZM} {a0 a1 a2 a3 a4 : Int} {q : (Int × ZM)} (hX : zCx C E 11 cX11_came 5 (some .int) false) (hRm : czR C = { frames := 7, cells := 0, slots := 0, locals := 192 }) (h : pX11_came  S M a0 a1 a2 a3 a4 = some q) : zG C E 5 S 0 0 (zQ C E 0 0 (some (0, q.1)) S q.2) 0 [some (2, a0), some (0, a1), some (0, a2), some (0, a3), some (0, a4)] [] M := by
  unfold pX11_came at h
  obtain ⟨g1, h⟩ := zif h
  obtain ⟨g2, h⟩ := zif h
  refine zG.blk (pc' := 8) (l' := [some (2, a0), some (0, a1), some (0, a2), some (0, a3), some (0, a4)]) (st' := [(0, a1), (2, M (M a0 5) 0)]) (M' := M) hX [(.aload_n 0, 0, 0, 0), (.getfield 39, 11, 5, 2), (.getfield 95, 10, 0, 2), (.iload_n 1, 0, 0, 0)] (by decide +kernel) rfl (And.intro g1 (And.intro g2 trivial)) ?_
  obtain ⟨g5, h⟩ := zif h
  obtain ⟨q3, e4, h⟩ := zbd h
  refine zG.callV (b := M (M a0 5) 0) (av := [(0, a1)]) (st := []) (ci := 9) hX (pX9_hasPen_ok e4) sv_11_115 rfl ⟨by decide, rfl⟩ g5 (by decide +kernel) (by rw [hRm]; exact ⟨Nat.le_of_ble_eq_true rfl, Nat.le_of_ble_eq_true rfl⟩) (by rw [hRm]; exact ⟨Nat.le_of_ble_eq_true rfl, Nat.le_of_ble_eq_true rfl⟩) (Nat.le_of_ble_eq_true rfl) ?_
  show zG C E 5 S 0 0 _ 11 [some (2, a0), some (0, a1), some (0, a2), some (0, a3), some (0, a4)] [(0, q3.1)] q3.2
  refine zG.if_eq (tgt := 48) (off := 37) hX (by decide +kernel) (by decide) (fun c6 => ?_) (fun c6 => ?_)
  · have h := zip c6 h
    exact zG.wk [false, false, false, false, false] (pX11_came_48_ok hX hRm h)
  · have h := zin c6 h
    obtain ⟨g7, h⟩ := zif h
    refine zG.blk (pc' := 22) (l' := [some (2, a0), some (0, a1), some (0, a2), some (0, a3), some (0, a4)]) (st' := [(0, a2), (2, q3.2 (q3.2 a0 5) 0)]) (M' := q3.2) hX [(.aload_n 0, 0, 0, 0), (.getfield 39, 11, 5, 2), (.getfield 95, 10, 0, 2), (.iload_n 2, 0, 0, 0)] (by decide +kernel) rfl (And.intro g1 (And.intro g7 trivial)) ?_
    obtain ⟨g10, h⟩ := zif h
    obtain ⟨q8, e9, h⟩ := zbd h
    refine zG.callV (b := q3.2 (q3.2 a0 5) 0) (av := [(0, a2)]) (st := []) (ci := 9) hX (pX9_hasCell_ok e9) sv_11_139 rfl ⟨by decide, rfl⟩ g10 (by decide +kernel) (by rw [hRm]; exact ⟨Nat.le_of_ble_eq_true rfl, Nat.le_of_ble_eq_true rfl⟩) (by rw [hRm]; exact ⟨Nat.le_of_ble_eq_true rfl, Nat.le_of_ble_eq_true rfl⟩) (Nat.le_of_ble_eq_true rfl) ?_
    show zG C E 5 S 0 0 _ 25 [some (2, a0), some (0, a1), some (0, a2), some (0, a3), some (0, a4)] [(0, q8.1)] q8.2
    refine zG.if_eq (tgt := 48) (off := 23) hX (by decide +kernel) (by decide) (fun c11 => ?_) (fun c11 => ?_)
    · have h := zip c11 h
      exact zG.wk [false, false, false, false, false] (pX11_came_48_ok hX hRm h)
    · have h := zin c11 h
      refine zG.blk (pc' := 32) (l' := [some (2, a0), some (0, a1), some (0, a2), some (0, a3), some (0, a4)]) (st' := [(0, 60), (0, 1), (0, a3)]) (M' := q8.2) hX [(.iload_n 3, 0, 0, 0), (.iconst 1, 0, 0, 0), (.bipush 60, 0, 0, 0)] (by decide +kernel) rfl trivial ?_
      obtain ⟨q12, e13, h⟩ := zbd h
      refine zG.callS (av := [(0, a3), (0, 1), (0, 60)]) (st := []) hX (pX11_within_ok e13) ss_11_172 rfl (by decide +kernel) (by rw [hRm]; exact ⟨Nat.le_of_ble_eq_true rfl, Nat.le_of_ble_eq_true rfl⟩) (by rw [hRm]; exact ⟨Nat.le_of_ble_eq_true rfl, Nat.le_of_ble_eq_true rfl⟩) (Nat.le_of_ble_eq_true rfl) ?_
      show zG C E 5 S 0 0 _ 35 [some (2, a0), some (0, a1), some (0, a2), some (0, a3), some (0, a4)] [(0, q12.1)] q12.2
      refine zG.if_eq (tgt := 48) (off := 13) hX (by decide +kernel) (by decide) (fun c14 => ?_) (fun c14 => ?_)
      · have h := zip c14 h
        exact zG.wk [false, false, false, false, false] (pX11_came_48_ok hX hRm h)
      · have h := zin c14 h
        refine zG.blk (pc' := 42) (l' := [some (2, a0), some (0, a1), some (0, a2), some (0, a3), some (0, a4)]) (st' := [(0, 1), (0, 0), (0, a4)]) (M' := q12.2) hX [(.iload 4, 0, 0, 0), (.iconst 0, 0, 0, 0), (.iconst 1, 0, 0, 0)] (by decide +kernel) rfl trivial ?_
        obtain ⟨q15, e16, h⟩ := zbd h
        refine zG.callS (av := [(0, a4), (0, 0), (0, 1)]) (st := []) hX (pX11_within_ok e16) ss_11_172 rfl (by decide +kernel) (by rw [hRm]; exact ⟨Nat.le_of_ble_eq_true rfl, Nat.le_of_ble_eq_true rfl⟩) (by rw [hRm]; exact ⟨Nat.le_of_ble_eq_true rfl, Nat.le_of_ble_eq_true rfl⟩) (Nat.le_of_ble_eq_true rfl) ?_
        show zG C E 5 S 0 0 _ 45 [some (2, a0), some (0, a1), some (0, a2), some (0, a3), some (0, a4)] [(0, q15.1)] q15.2
        refine zG.if_ne (tgt := 50) (off := 5) hX (by decide +kernel) (by decide) (fun c17 => ?_) (fun c17 => ?_)
        · have h := zin c17 h
          refine zG.blk (pc' := 63) (l' := [some (2, a0), some (0, a1), some (0, a2), some (0, a3), some (0, a4)]) (st' := [(0, a4), (0, a3), (0, a2), (0, a1), (2, q15.2 a0 5), (2, q15.2 a0 8)]) (M' := q15.2) hX [(.aload_n 0, 0, 0, 0), (.getfield 57, 11, 8, 2), (.aload_n 0, 0, 0, 0), (.getfield 39, 11, 5, 2), (.iload_n 1, 0, 0, 0), (.iload_n 2, 0, 0, 0), (.iload_n 3, 0, 0, 0), (.iload 4, 0, 0, 0)] (by decide +kernel) rfl (And.intro g1 (And.intro g1 trivial)) ?_
          obtain ⟨g20, h⟩ := zif h
          obtain ⟨q18, e19, h⟩ := zbd h
          refine zG.callV (b := q15.2 a0 8) (av := [(2, q15.2 a0 5), (0, a1), (0, a2), (0, a3), (0, a4)]) (st := []) (ci := 1) hX (pX1_beginnings_ok e19) sv_11_205 rfl ⟨by decide, rfl⟩ g20 (by decide +kernel) (by rw [hRm]; exact ⟨Nat.le_of_ble_eq_true rfl, Nat.le_of_ble_eq_true rfl⟩) (by rw [hRm]; exact ⟨Nat.le_of_ble_eq_true rfl, Nat.le_of_ble_eq_true rfl⟩) (Nat.le_of_ble_eq_true rfl) ?_
          show zG C E 5 S 0 0 _ 66 [some (2, a0), some (0, a1), some (0, a2), some (0, a3), some (0, a4)] [(0, q18.1)] q18.2
          cases h
          exact zG.iret hX (by decide +kernel)
        · have h := zip c17 h
          exact zG.wk [false, false, false, false, false] (pX11_came_48_ok hX hRm h)
theorem pX11_came_ok {l : Launch} {E : ZE} {S : ZS} {M : ZM} {a0 a1 a2 a3 a4 : Int} {q : (Int × ZM)} (h : pX11_came S M a0 a1 a2 a3 a4 = some q) : zMet l yX11_came cX11_came 5 (some .int) 7 192 0 0 E S M [(2, a0), (0, a1), (0, a2), (0, a3), (0, a4)] (some (0, q.1)) S q.2 :=
  zMet.of (o := 11) (ini := false) (by decide +kernel) rfl (fun h => by cases h) (Nat.le_of_ble_eq_true rfl) (fun C hX hl hRm => by subst hl; exact pX11_came_go hX hRm h)
noncomputable def pX11_cell_89 (S : ZS) (M : ZM) (y0 : Int) : Option (Int × ZM) := some (y0, M)
set_option maxHeartbeats 2000000 in
set_option maxRecDepth 20000 in
theorem pX11_cell_89_ok {C : ZC} {E : ZE} {S : ZS} {q : (Int × ZM)} (hX : zCx C E 11 cX11_cell 3 (some .int) false) (hRm : czR C = { frames := 2, cells := 0, slots := 0, locals := 61 }) {M : ZM} {y0 : Int} (h : pX11_cell_89 S M y0 = some q) : zG C E 3 S 0 0 (zQ C E 0 0 (some (0, q.1)) S q.2) 89 [none, none, none] [(0, y0)] M := by
  unfold pX11_cell_89 at h
  cases h
  exact zG.iret hX (by decide +kernel)
noncomputable def pX11_cell (S : ZS) (M : ZM) (a0 : Int) (a1 : Int) (a2 : Int) : Option (Int × ZM) := if S.1 a0 = 11 then if S.1 (M a0 5) = 10 then if S.1 (M (M a0 5) 0) = 9 then (pX9_hasCell S M (M (M a0 5) 0) a1).bind fun q3 => if q3.1 = 0 then (some ((-2), q3.2)) else (if a2 = 0 then (if S.1 (q3.2 a0 5) = 10 then if S.1 (q3.2 (q3.2 a0 5) 1) = 6 then if S.1 (q3.2 (q3.2 (q3.2 a0 5) 1) 2) = 100 ∧ (0 : Int) ≤ a1 ∧ a1 < S.2.1 (q3.2 (q3.2 (q3.2 a0 5) 1) 2) then some (q3.2 (q3.2 (q3.2 (q3.2 a0 5) 1) 2) a1, q3.2) else none else none else none) else if a2 = 1 then (if S.1 (q3.2 a0 5) = 10 then if S.1 (q3.2 (q3.2 a0 5) 1) = 6 then if S.1 (q3.2 (q3.2 (q3.2 a0 5) 1) 2) = 100 ∧ (0 : Int) ≤ a1 ∧ a1 < S.2.1 (q3.2 (q3.2 (q3.2 a0 5) 1) 2) then if q3.2 (q3.2 (q3.2 (q3.2 a0 5) 1) 2) a1 = (-1) then (pX11_cell_89 S q3.2 (-1)) else (if S.1 (q3.2 (q3.2 (q3.2 a0 5) 1) 3) = 100 ∧ (0 : Int) ≤ a1 ∧ a1 < S.2.1 (q3.2 (q3.2 (q3.2 a0 5) 1) 3) then pX11_cell_89 S q3.2 (q3.2 (q3.2 (q3.2 (q3.2 a0 5) 1) 3) a1) else none) else none else none else none) else if a2 = 2 then (if S.1 (q3.2 a0 5) = 10 then if S.1 (q3.2 (q3.2 a0 5) 0) = 9 then if S.1 (q3.2 (q3.2 (q3.2 a0 5) 0) 9) = 100 ∧ (0 : Int) ≤ a1 ∧ a1 < S.2.1 (q3.2 (q3.2 (q3.2 a0 5) 0) 9) then some (q3.2 (q3.2 (q3.2 (q3.2 a0 5) 0) 9) a1, q3.2) else none else none else none) else (some ((-2), q3.2))) else none else none else none
set_option maxHeartbeats 2000000 in
set_option maxRecDepth 20000 in
theorem pX11_cell_go {C : ZC} {E : ZE} {S : ZS} {M : ZM} {a0 a1 a2 : Int} {q : (Int × ZM)} (hX : zCx C E 11 cX11_cell 3 (some .int) false) (hRm : czR C = { frames := 2, cells := 0, slots := 0, locals := 61 }) (h : pX11_cell  S M a0 a1 a2 = some q) : zG C E 3 S 0 0 (zQ C E 0 0 (some (0, q.1)) S q.2) 0 [some (2, a0), some (0, a1), some (0, a2)] [] M := by
  unfold pX11_cell at h
  obtain ⟨g1, h⟩ := zif h
  obtain ⟨g2, h⟩ := zif h
  refine zG.blk (pc' := 8) (l' := [some (2, a0), some (0, a1), some (0, a2)]) (st' := [(0, a1), (2, M (M a0 5) 0)]) (M' := M) hX [(.aload_n 0, 0, 0, 0), (.getfield 39, 11, 5, 2), (.getfield 95, 10, 0, 2), (.iload_n 1, 0, 0, 0)] (by decide +kernel) rfl (And.intro g1 (And.intro g2 trivial)) ?_
  obtain ⟨g5, h⟩ := zif h
  obtain ⟨q3, e4, h⟩ := zbd h
  refine zG.callV (b := M (M a0 5) 0) (av := [(0, a1)]) (st := []) (ci := 9) hX (pX9_hasCell_ok e4) sv_11_139 rfl ⟨by decide, rfl⟩ g5 (by decide +kernel) (by rw [hRm]; exact ⟨Nat.le_of_ble_eq_true rfl, Nat.le_of_ble_eq_true rfl⟩) (by rw [hRm]; exact ⟨Nat.le_of_ble_eq_true rfl, Nat.le_of_ble_eq_true rfl⟩) (Nat.le_of_ble_eq_true rfl) ?_
  show zG C E 3 S 0 0 _ 11 [some (2, a0), some (0, a1), some (0, a2)] [(0, q3.1)] q3.2
  refine zG.if_ne (tgt := 17) (off := 6) hX (by decide +kernel) (by decide) (fun c6 => ?_) (fun c6 => ?_)
  · have h := zin c6 h
    refine zG.blk (pc' := 18) (l' := [some (2, a0), some (0, a1), some (0, a2)]) (st' := [(0, a2)]) (M' := q3.2) hX [(.iload_n 2, 0, 0, 0)] (by decide +kernel) rfl trivial ?_
    have hs7 : decode cX11_cell 18 = .ok (.tableswitch 85 0 2 #[26, 39, 72], 26) := by decide +kernel
    by_cases c8 : a2 = 0
    · have h := zip c8 h
      refine zG.tabIn (tgt := 44) hX hs7 0 c8 (by decide) rfl (by decide) ?_
      obtain ⟨g9, h⟩ := zif h
      obtain ⟨g10, h⟩ := zif h
      obtain ⟨g11, h⟩ := zif h
      refine zG.blk (pc' := 56) (l' := [some (2, a0), some (0, a1), some (0, a2)]) (st' := [(0, q3.2 (q3.2 (q3.2 (q3.2 a0 5) 1) 2) a1)]) (M' := q3.2) hX [(.aload_n 0, 0, 0, 0), (.getfield 39, 11, 5, 2), (.getfield 119, 10, 1, 2), (.getfield 142, 6, 2, 2), (.iload_n 1, 0, 0, 0), (.iaload, 0, 0, 0)] (by decide +kernel) rfl (And.intro g1 (And.intro g9 (And.intro g10 (And.intro g11 trivial)))) ?_
      cases h
      exact zG.iret hX (by decide +kernel)
    · have h := zin c8 h
      by_cases c12 : a2 = 1
      · have h := zip c12 h
        refine zG.tabIn (tgt := 57) hX hs7 1 c12 (by decide) rfl (by decide) ?_
        obtain ⟨g13, h⟩ := zif h
        obtain ⟨g14, h⟩ := zif h
        obtain ⟨g15, h⟩ := zif h
        refine zG.blk (pc' := 70) (l' := [some (2, a0), some (0, a1), some (0, a2)]) (st' := [(0, (-1)), (0, q3.2 (q3.2 (q3.2 (q3.2 a0 5) 1) 2) a1)]) (M' := q3.2) hX [(.aload_n 0, 0, 0, 0), (.getfield 39, 11, 5, 2), (.getfield 119, 10, 1, 2), (.getfield 142, 6, 2, 2), (.iload_n 1, 0, 0, 0), (.iaload, 0, 0, 0), (.iconst (-1), 0, 0, 0)] (by decide +kernel) rfl (And.intro g1 (And.intro g13 (And.intro g14 (And.intro g15 trivial)))) ?_
        refine zG.icmp_ne (tgt := 77) (off := 7) hX (by decide +kernel) (by decide) (fun c16 => ?_) (fun c16 => ?_)
        · have h := zin c16 h
          obtain ⟨g17, h⟩ := zif h
          refine zG.blk (pc' := 89) (l' := [some (2, a0), some (0, a1), some (0, a2)]) (st' := [(0, q3.2 (q3.2 (q3.2 (q3.2 a0 5) 1) 3) a1)]) (M' := q3.2) hX [(.aload_n 0, 0, 0, 0), (.getfield 39, 11, 5, 2), (.getfield 119, 10, 1, 2), (.getfield 145, 6, 3, 2), (.iload_n 1, 0, 0, 0), (.iaload, 0, 0, 0)] (by decide +kernel) rfl (And.intro g1 (And.intro g13 (And.intro g14 (And.intro g17 trivial)))) ?_
          exact zG.wk [false, false, false] (pX11_cell_89_ok hX hRm h)
        · have h := zip c16 h
          refine zG.blk (pc' := 74) (l' := [some (2, a0), some (0, a1), some (0, a2)]) (st' := [(0, (-1))]) (M' := q3.2) hX [(.iconst (-1), 0, 0, 0)] (by decide +kernel) rfl trivial ?_
          refine zG.goto (tgt := 89) (off := 15) hX (by decide +kernel) (by decide) ?_
          exact zG.wk [false, false, false] (pX11_cell_89_ok hX hRm h)
      · have h := zin c12 h
        by_cases c18 : a2 = 2
        · have h := zip c18 h
          refine zG.tabIn (tgt := 90) hX hs7 2 c18 (by decide) rfl (by decide) ?_
          obtain ⟨g19, h⟩ := zif h
          obtain ⟨g20, h⟩ := zif h
          obtain ⟨g21, h⟩ := zif h
          refine zG.blk (pc' := 102) (l' := [some (2, a0), some (0, a1), some (0, a2)]) (st' := [(0, q3.2 (q3.2 (q3.2 (q3.2 a0 5) 0) 9) a1)]) (M' := q3.2) hX [(.aload_n 0, 0, 0, 0), (.getfield 39, 11, 5, 2), (.getfield 95, 10, 0, 2), (.getfield 148, 9, 9, 2), (.iload_n 1, 0, 0, 0), (.iaload, 0, 0, 0)] (by decide +kernel) rfl (And.intro g1 (And.intro g19 (And.intro g20 (And.intro g21 trivial)))) ?_
          cases h
          exact zG.iret hX (by decide +kernel)
        · have h := zin c18 h
          refine zG.tabOut (tgt := 103) hX hs7 (by omega) (by decide) ?_
          refine zG.blk (pc' := 105) (l' := [some (2, a0), some (0, a1), some (0, a2)]) (st' := [(0, (-2))]) (M' := q3.2) hX [(.bipush (-2), 0, 0, 0)] (by decide +kernel) rfl trivial ?_
          cases h
          exact zG.iret hX (by decide +kernel)
  · have h := zip c6 h
    refine zG.blk (pc' := 16) (l' := [some (2, a0), some (0, a1), some (0, a2)]) (st' := [(0, (-2))]) (M' := q3.2) hX [(.bipush (-2), 0, 0, 0)] (by decide +kernel) rfl trivial ?_
    cases h
    exact zG.iret hX (by decide +kernel)
theorem pX11_cell_ok {l : Launch} {E : ZE} {S : ZS} {M : ZM} {a0 a1 a2 : Int} {q : (Int × ZM)} (h : pX11_cell S M a0 a1 a2 = some q) : zMet l yX11_cell cX11_cell 3 (some .int) 2 61 0 0 E S M [(2, a0), (0, a1), (0, a2)] (some (0, q.1)) S q.2 :=
  zMet.of (o := 11) (ini := false) (by decide +kernel) rfl (fun h => by cases h) (Nat.le_of_ble_eq_true rfl) (fun C hX hl hRm => by subst hl; exact pX11_cell_go hX hRm h)
noncomputable def pX11_change_32 (S : ZS) (M : ZM) : Option (Int × ZM) := some ((-2), M)
set_option maxHeartbeats 2000000 in
set_option maxRecDepth 20000 in
theorem pX11_change_32_ok {C : ZC} {E : ZE} {S : ZS} {q : (Int × ZM)} (hX : zCx C E 11 cX11_change 3 (some .int) false) (hRm : czR C = { frames := 8, cells := 0, slots := 0, locals := 217 }) {M : ZM} (h : pX11_change_32 S M = some q) : zG C E 3 S 0 0 (zQ C E 0 0 (some (0, q.1)) S q.2) 32 [none, none, none] [] M := by
  unfold pX11_change_32 at h
  refine zG.blk (pc' := 34) (l' := [none, none, none]) (st' := [(0, (-2))]) (M' := M) hX [(.bipush (-2), 0, 0, 0)] (by decide +kernel) rfl trivial ?_
  cases h
  exact zG.iret hX (by decide +kernel)
theorem sv_11_209 : zSV 11 209 yX1_bestChange cX1_bestChange 11 (some .int) 4 := ⟨⟨gt_at 963 (by decide +kernel) rfl, gt_at 964 (by decide +kernel) rfl, gt_at 965 (by decide +kernel) rfl, gt_at 114 (by decide +kernel) rfl, gt_at 966 (by decide +kernel) rfl⟩, by decide +kernel, by decide +kernel, by decide +kernel⟩
noncomputable def pX11_change (S : ZS) (M : ZM) (a0 : Int) (a1 : Int) (a2 : Int) : Option (Int × ZM) := if S.1 a0 = 11 then if S.1 (M a0 5) = 10 then if S.1 (M (M a0 5) 0) = 9 then (pX9_isThere S M (M (M a0 5) 0)).bind fun q3 => if q3.1 = 0 then (pX11_change_32 S q3.2) else ((pX11_within S q3.2 a1 1 60).bind fun q7 => if q7.1 = 0 then (pX11_change_32 S q7.2) else ((pX11_within S q7.2 a2 0 2).bind fun q10 => if q10.1 = 0 then (pX11_change_32 S q10.2) else ((pX11_ruleInForce S q10.2 a0).bind fun q13 => if S.1 (q10.2 a0 8) = 1 then (pX1_bestChange S q13.2 (q10.2 a0 8) (q10.2 a0 5) q13.1 a1 a2).bind fun q15 => some (q15.1, q15.2) else none))) else none else none else none
set_option maxHeartbeats 2000000 in
set_option maxRecDepth 20000 in
theorem pX11_change_go {C : ZC} {E : ZE} {S : ZS} {M : ZM} {a0 a1 a2 : Int} {q : (Int × ZM)} (hX : zCx C E 11 cX11_change 3 (some .int) false) (hRm : czR C = { frames := 8, cells := 0, slots := 0, locals := 217 }) (h : pX11_change  S M a0 a1 a2 = some q) : zG C E 3 S 0 0 (zQ C E 0 0 (some (0, q.1)) S q.2) 0 [some (2, a0), some (0, a1), some (0, a2)] [] M := by
  unfold pX11_change at h
  obtain ⟨g1, h⟩ := zif h
  obtain ⟨g2, h⟩ := zif h
  refine zG.blk (pc' := 7) (l' := [some (2, a0), some (0, a1), some (0, a2)]) (st' := [(2, M (M a0 5) 0)]) (M' := M) hX [(.aload_n 0, 0, 0, 0), (.getfield 39, 11, 5, 2), (.getfield 95, 10, 0, 2)] (by decide +kernel) rfl (And.intro g1 (And.intro g2 trivial)) ?_
  obtain ⟨g5, h⟩ := zif h
  obtain ⟨q3, e4, h⟩ := zbd h
  refine zG.callV (b := M (M a0 5) 0) (av := []) (st := []) (ci := 9) hX (pX9_isThere_ok e4) sv_11_151 rfl ⟨by decide, rfl⟩ g5 (by decide +kernel) (by rw [hRm]; exact ⟨Nat.le_of_ble_eq_true rfl, Nat.le_of_ble_eq_true rfl⟩) (by rw [hRm]; exact ⟨Nat.le_of_ble_eq_true rfl, Nat.le_of_ble_eq_true rfl⟩) (Nat.le_of_ble_eq_true rfl) ?_
  show zG C E 3 S 0 0 _ 10 [some (2, a0), some (0, a1), some (0, a2)] [(0, q3.1)] q3.2
  refine zG.if_eq (tgt := 32) (off := 22) hX (by decide +kernel) (by decide) (fun c6 => ?_) (fun c6 => ?_)
  · have h := zip c6 h
    exact zG.wk [false, false, false] (pX11_change_32_ok hX hRm h)
  · have h := zin c6 h
    refine zG.blk (pc' := 17) (l' := [some (2, a0), some (0, a1), some (0, a2)]) (st' := [(0, 60), (0, 1), (0, a1)]) (M' := q3.2) hX [(.iload_n 1, 0, 0, 0), (.iconst 1, 0, 0, 0), (.bipush 60, 0, 0, 0)] (by decide +kernel) rfl trivial ?_
    obtain ⟨q7, e8, h⟩ := zbd h
    refine zG.callS (av := [(0, a1), (0, 1), (0, 60)]) (st := []) hX (pX11_within_ok e8) ss_11_172 rfl (by decide +kernel) (by rw [hRm]; exact ⟨Nat.le_of_ble_eq_true rfl, Nat.le_of_ble_eq_true rfl⟩) (by rw [hRm]; exact ⟨Nat.le_of_ble_eq_true rfl, Nat.le_of_ble_eq_true rfl⟩) (Nat.le_of_ble_eq_true rfl) ?_
    show zG C E 3 S 0 0 _ 20 [some (2, a0), some (0, a1), some (0, a2)] [(0, q7.1)] q7.2
    refine zG.if_eq (tgt := 32) (off := 12) hX (by decide +kernel) (by decide) (fun c9 => ?_) (fun c9 => ?_)
    · have h := zip c9 h
      exact zG.wk [false, false, false] (pX11_change_32_ok hX hRm h)
    · have h := zin c9 h
      refine zG.blk (pc' := 26) (l' := [some (2, a0), some (0, a1), some (0, a2)]) (st' := [(0, 2), (0, 0), (0, a2)]) (M' := q7.2) hX [(.iload_n 2, 0, 0, 0), (.iconst 0, 0, 0, 0), (.iconst 2, 0, 0, 0)] (by decide +kernel) rfl trivial ?_
      obtain ⟨q10, e11, h⟩ := zbd h
      refine zG.callS (av := [(0, a2), (0, 0), (0, 2)]) (st := []) hX (pX11_within_ok e11) ss_11_172 rfl (by decide +kernel) (by rw [hRm]; exact ⟨Nat.le_of_ble_eq_true rfl, Nat.le_of_ble_eq_true rfl⟩) (by rw [hRm]; exact ⟨Nat.le_of_ble_eq_true rfl, Nat.le_of_ble_eq_true rfl⟩) (Nat.le_of_ble_eq_true rfl) ?_
      show zG C E 3 S 0 0 _ 29 [some (2, a0), some (0, a1), some (0, a2)] [(0, q10.1)] q10.2
      refine zG.if_ne (tgt := 35) (off := 6) hX (by decide +kernel) (by decide) (fun c12 => ?_) (fun c12 => ?_)
      · have h := zin c12 h
        refine zG.blk (pc' := 44) (l' := [some (2, a0), some (0, a1), some (0, a2)]) (st' := [(2, a0), (2, q10.2 a0 5), (2, q10.2 a0 8)]) (M' := q10.2) hX [(.aload_n 0, 0, 0, 0), (.getfield 57, 11, 8, 2), (.aload_n 0, 0, 0, 0), (.getfield 39, 11, 5, 2), (.aload_n 0, 0, 0, 0)] (by decide +kernel) rfl (And.intro g1 (And.intro g1 trivial)) ?_
        obtain ⟨q13, e14, h⟩ := zbd h
        refine zG.callV (b := a0) (av := []) (st := [(2, q10.2 a0 5), (2, q10.2 a0 8)]) (ci := 11) hX (pX11_ruleInForce_ok e14) sv_11_161 rfl ⟨by decide, rfl⟩ g1 (by decide +kernel) (by rw [hRm]; exact ⟨Nat.le_of_ble_eq_true rfl, Nat.le_of_ble_eq_true rfl⟩) (by rw [hRm]; exact ⟨Nat.le_of_ble_eq_true rfl, Nat.le_of_ble_eq_true rfl⟩) (Nat.le_of_ble_eq_true rfl) ?_
        show zG C E 3 S 0 0 _ 47 [some (2, a0), some (0, a1), some (0, a2)] [(2, q13.1), (2, q10.2 a0 5), (2, q10.2 a0 8)] q13.2
        refine zG.blk (pc' := 49) (l' := [some (2, a0), some (0, a1), some (0, a2)]) (st' := [(0, a2), (0, a1), (2, q13.1), (2, q10.2 a0 5), (2, q10.2 a0 8)]) (M' := q13.2) hX [(.iload_n 1, 0, 0, 0), (.iload_n 2, 0, 0, 0)] (by decide +kernel) rfl trivial ?_
        obtain ⟨g17, h⟩ := zif h
        obtain ⟨q15, e16, h⟩ := zbd h
        refine zG.callV (b := q10.2 a0 8) (av := [(2, q10.2 a0 5), (2, q13.1), (0, a1), (0, a2)]) (st := []) (ci := 1) hX (pX1_bestChange_ok e16) sv_11_209 rfl ⟨by decide, rfl⟩ g17 (by decide +kernel) (by rw [hRm]; exact ⟨Nat.le_of_ble_eq_true rfl, Nat.le_of_ble_eq_true rfl⟩) (by rw [hRm]; exact ⟨Nat.le_of_ble_eq_true rfl, Nat.le_of_ble_eq_true rfl⟩) (Nat.le_of_ble_eq_true rfl) ?_
        show zG C E 3 S 0 0 _ 52 [some (2, a0), some (0, a1), some (0, a2)] [(0, q15.1)] q15.2
        cases h
        exact zG.iret hX (by decide +kernel)
      · have h := zip c12 h
        exact zG.wk [false, false, false] (pX11_change_32_ok hX hRm h)
theorem pX11_change_ok {l : Launch} {E : ZE} {S : ZS} {M : ZM} {a0 a1 a2 : Int} {q : (Int × ZM)} (h : pX11_change S M a0 a1 a2 = some q) : zMet l yX11_change cX11_change 3 (some .int) 8 217 0 0 E S M [(2, a0), (0, a1), (0, a2)] (some (0, q.1)) S q.2 :=
  zMet.of (o := 11) (ini := false) (by decide +kernel) rfl (fun h => by cases h) (Nat.le_of_ble_eq_true rfl) (fun C hX hl hRm => by subst hl; exact pX11_change_go hX hRm h)
noncomputable def pX11_clean_33 (S : ZS) (M : ZM) (y0 : Int) : Option (Int × ZM) := some (y0, M)
set_option maxHeartbeats 2000000 in
set_option maxRecDepth 20000 in
theorem pX11_clean_33_ok {C : ZC} {E : ZE} {S : ZS} {q : (Int × ZM)} (hX : zCx C E 11 cX11_clean 1 (some .int) false) (hRm : czR C = { frames := 6, cells := 0, slots := 0, locals := 164 }) {M : ZM} {y0 : Int} (h : pX11_clean_33 S M y0 = some q) : zG C E 1 S 0 0 (zQ C E 0 0 (some (0, q.1)) S q.2) 33 [none] [(0, y0)] M := by
  unfold pX11_clean_33 at h
  cases h
  exact zG.iret hX (by decide +kernel)
theorem sv_11_194 : zSV 11 194 yX1_firstMark cX1_firstMark 6 (some .int) 3 := ⟨⟨gt_at 914 (by decide +kernel) rfl, gt_at 915 (by decide +kernel) rfl, gt_at 916 (by decide +kernel) rfl, gt_at 114 (by decide +kernel) rfl, gt_at 917 (by decide +kernel) rfl⟩, by decide +kernel, by decide +kernel, by decide +kernel⟩
noncomputable def pX11_clean (S : ZS) (M : ZM) (a0 : Int) : Option (Int × ZM) := if S.1 a0 = 11 then if S.1 (M a0 5) = 10 then if S.1 (M (M a0 5) 0) = 9 then (pX9_isThere S M (M (M a0 5) 0)).bind fun q3 => if q3.1 = 0 then (pX11_clean_33 S q3.2 (-1)) else ((pX11_ruleInForce S q3.2 a0).bind fun q7 => if S.1 (q3.2 a0 8) = 1 then (pX1_firstMark S q7.2 (q3.2 a0 8) (q3.2 a0 5) q7.1 1).bind fun q9 => pX11_clean_33 S q9.2 q9.1 else none) else none else none else none
set_option maxHeartbeats 2000000 in
set_option maxRecDepth 20000 in
theorem pX11_clean_go {C : ZC} {E : ZE} {S : ZS} {M : ZM} {a0 : Int} {q : (Int × ZM)} (hX : zCx C E 11 cX11_clean 1 (some .int) false) (hRm : czR C = { frames := 6, cells := 0, slots := 0, locals := 164 }) (h : pX11_clean  S M a0 = some q) : zG C E 1 S 0 0 (zQ C E 0 0 (some (0, q.1)) S q.2) 0 [some (2, a0)] [] M := by
  unfold pX11_clean at h
  obtain ⟨g1, h⟩ := zif h
  obtain ⟨g2, h⟩ := zif h
  refine zG.blk (pc' := 7) (l' := [some (2, a0)]) (st' := [(2, M (M a0 5) 0)]) (M' := M) hX [(.aload_n 0, 0, 0, 0), (.getfield 39, 11, 5, 2), (.getfield 95, 10, 0, 2)] (by decide +kernel) rfl (And.intro g1 (And.intro g2 trivial)) ?_
  obtain ⟨g5, h⟩ := zif h
  obtain ⟨q3, e4, h⟩ := zbd h
  refine zG.callV (b := M (M a0 5) 0) (av := []) (st := []) (ci := 9) hX (pX9_isThere_ok e4) sv_11_151 rfl ⟨by decide, rfl⟩ g5 (by decide +kernel) (by rw [hRm]; exact ⟨Nat.le_of_ble_eq_true rfl, Nat.le_of_ble_eq_true rfl⟩) (by rw [hRm]; exact ⟨Nat.le_of_ble_eq_true rfl, Nat.le_of_ble_eq_true rfl⟩) (Nat.le_of_ble_eq_true rfl) ?_
  show zG C E 1 S 0 0 _ 10 [some (2, a0)] [(0, q3.1)] q3.2
  refine zG.if_eq (tgt := 32) (off := 22) hX (by decide +kernel) (by decide) (fun c6 => ?_) (fun c6 => ?_)
  · have h := zip c6 h
    refine zG.blk (pc' := 33) (l' := [some (2, a0)]) (st' := [(0, (-1))]) (M' := q3.2) hX [(.iconst (-1), 0, 0, 0)] (by decide +kernel) rfl trivial ?_
    exact zG.wk [false] (pX11_clean_33_ok hX hRm h)
  · have h := zin c6 h
    refine zG.blk (pc' := 22) (l' := [some (2, a0)]) (st' := [(2, a0), (2, q3.2 a0 5), (2, q3.2 a0 8)]) (M' := q3.2) hX [(.aload_n 0, 0, 0, 0), (.getfield 57, 11, 8, 2), (.aload_n 0, 0, 0, 0), (.getfield 39, 11, 5, 2), (.aload_n 0, 0, 0, 0)] (by decide +kernel) rfl (And.intro g1 (And.intro g1 trivial)) ?_
    obtain ⟨q7, e8, h⟩ := zbd h
    refine zG.callV (b := a0) (av := []) (st := [(2, q3.2 a0 5), (2, q3.2 a0 8)]) (ci := 11) hX (pX11_ruleInForce_ok e8) sv_11_161 rfl ⟨by decide, rfl⟩ g1 (by decide +kernel) (by rw [hRm]; exact ⟨Nat.le_of_ble_eq_true rfl, Nat.le_of_ble_eq_true rfl⟩) (by rw [hRm]; exact ⟨Nat.le_of_ble_eq_true rfl, Nat.le_of_ble_eq_true rfl⟩) (Nat.le_of_ble_eq_true rfl) ?_
    show zG C E 1 S 0 0 _ 25 [some (2, a0)] [(2, q7.1), (2, q3.2 a0 5), (2, q3.2 a0 8)] q7.2
    refine zG.blk (pc' := 26) (l' := [some (2, a0)]) (st' := [(0, 1), (2, q7.1), (2, q3.2 a0 5), (2, q3.2 a0 8)]) (M' := q7.2) hX [(.iconst 1, 0, 0, 0)] (by decide +kernel) rfl trivial ?_
    obtain ⟨g11, h⟩ := zif h
    obtain ⟨q9, e10, h⟩ := zbd h
    refine zG.callV (b := q3.2 a0 8) (av := [(2, q3.2 a0 5), (2, q7.1), (0, 1)]) (st := []) (ci := 1) hX (pX1_firstMark_ok e10) sv_11_194 rfl ⟨by decide, rfl⟩ g11 (by decide +kernel) (by rw [hRm]; exact ⟨Nat.le_of_ble_eq_true rfl, Nat.le_of_ble_eq_true rfl⟩) (by rw [hRm]; exact ⟨Nat.le_of_ble_eq_true rfl, Nat.le_of_ble_eq_true rfl⟩) (Nat.le_of_ble_eq_true rfl) ?_
    show zG C E 1 S 0 0 _ 29 [some (2, a0)] [(0, q9.1)] q9.2
    refine zG.goto (tgt := 33) (off := 4) hX (by decide +kernel) (by decide) ?_
    exact zG.wk [false] (pX11_clean_33_ok hX hRm h)
theorem pX11_clean_ok {l : Launch} {E : ZE} {S : ZS} {M : ZM} {a0 : Int} {q : (Int × ZM)} (h : pX11_clean S M a0 = some q) : zMet l yX11_clean cX11_clean 1 (some .int) 6 164 0 0 E S M [(2, a0)] (some (0, q.1)) S q.2 :=
  zMet.of (o := 11) (ini := false) (by decide +kernel) rfl (fun h => by cases h) (Nat.le_of_ble_eq_true rfl) (fun C hX hl hRm => by subst hl; exact pX11_clean_go hX hRm h)
noncomputable def pX11_count (S : ZS) (M : ZM) (a0 : Int) (a1 : Int) : Option (Int × ZM) := if a1 = 0 then (if S.1 a0 = 11 then if S.1 (M a0 5) = 10 then if S.1 (M (M a0 5) 0) = 9 then some (M (M (M a0 5) 0) 0, M) else none else none else none) else if a1 = 1 then (if S.1 a0 = 11 then if S.1 (M a0 5) = 10 then if S.1 (M (M a0 5) 0) = 9 then some (M (M (M a0 5) 0) 2, M) else none else none else none) else if a1 = 2 then (if S.1 a0 = 11 then if S.1 (M a0 5) = 10 then if S.1 (M (M a0 5) 0) = 9 then some (M (M (M a0 5) 0) 3, M) else none else none else none) else if a1 = 3 then (if S.1 a0 = 11 then if S.1 (M a0 5) = 10 then if S.1 (M (M a0 5) 0) = 9 then some (M (M (M a0 5) 0) 4, M) else none else none else none) else if a1 = 4 then (if S.1 a0 = 11 then some (M a0 4, M) else none) else if a1 = 5 then (if S.1 a0 = 11 then if S.1 (M a0 5) = 10 then some (M (M a0 5) 9, M) else none else none) else if a1 = 6 then (if S.1 a0 = 11 then if S.1 (M a0 5) = 10 then if S.1 (M (M a0 5) 1) = 6 then some (M (M (M a0 5) 1) 5, M) else none else none else none) else if a1 = 7 then (if S.1 a0 = 11 then if S.1 (M a0 5) = 10 then if S.1 (M (M a0 5) 1) = 6 then (pX6_strokes S M (M (M a0 5) 1)).bind fun q30 => some (q30.1, q30.2) else none else none else none) else if a1 = 8 then (if S.1 a0 = 11 then if S.1 (M a0 5) = 10 then if S.1 (M (M a0 5) 1) = 6 then (pX6_like S M (M (M a0 5) 1) (M (M a0 5) 0)).bind fun q36 => some (q36.1, q36.2) else none else none else none) else if a1 = 9 then (if S.1 a0 = 11 then if S.1 (M a0 5) = 10 then if S.1 (M (M a0 5) 1) = 6 then some (M (M (M a0 5) 1) 6, M) else none else none else none) else if a1 = 10 then (if S.1 a0 = 11 then if S.1 (M a0 5) = 10 then if S.1 (M (M a0 5) 1) = 6 then some (M (M (M a0 5) 1) 4, M) else none else none else none) else if a1 = 11 then (if S.1 a0 = 11 then if S.1 (M a0 5) = 10 then some (M (M a0 5) 7, M) else none else none) else if a1 = 12 then (if S.1 a0 = 11 then if S.1 (M a0 5) = 10 then some (M (M a0 5) 3, M) else none else none) else if a1 = 13 then (if S.1 a0 = 11 then if S.1 (M a0 5) = 10 then some (M (M a0 5) 8, M) else none else none) else if a1 = 14 then (if S.1 a0 = 11 then if S.1 (M a0 0) = 8 then some (M (M a0 0) 1, M) else none else none) else (some ((-1), M))
set_option maxHeartbeats 2000000 in
set_option maxRecDepth 20000 in
theorem pX11_count_go {C : ZC} {E : ZE} {S : ZS} {M : ZM} {a0 a1 : Int} {q : (Int × ZM)} (hX : zCx C E 11 cX11_count 2 (some .int) false) (hRm : czR C = { frames := 2, cells := 0, slots := 0, locals := 63 }) (h : pX11_count  S M a0 a1 = some q) : zG C E 2 S 0 0 (zQ C E 0 0 (some (0, q.1)) S q.2) 0 [some (2, a0), some (0, a1)] [] M := by
  unfold pX11_count at h
  refine zG.blk (pc' := 1) (l' := [some (2, a0), some (0, a1)]) (st' := [(0, a1)]) (M' := M) hX [(.iload_n 1, 0, 0, 0)] (by decide +kernel) rfl trivial ?_
  have hs1 : decode cX11_count 1 = .ok (.tableswitch 226 0 14 #[75, 86, 97, 108, 119, 124, 132, 143, 154, 172, 183, 194, 202, 210, 218], 75) := by decide +kernel
  by_cases c2 : a1 = 0
  · have h := zip c2 h
    refine zG.tabIn (tgt := 76) hX hs1 0 c2 (by decide) rfl (by decide) ?_
    obtain ⟨g3, h⟩ := zif h
    obtain ⟨g4, h⟩ := zif h
    obtain ⟨g5, h⟩ := zif h
    refine zG.blk (pc' := 86) (l' := [some (2, a0), some (0, a1)]) (st' := [(0, M (M (M a0 5) 0) 0)]) (M' := M) hX [(.aload_n 0, 0, 0, 0), (.getfield 39, 11, 5, 2), (.getfield 95, 10, 0, 2), (.getfield 251, 9, 0, 0)] (by decide +kernel) rfl (And.intro g3 (And.intro g4 (And.intro g5 trivial))) ?_
    cases h
    exact zG.iret hX (by decide +kernel)
  · have h := zin c2 h
    by_cases c6 : a1 = 1
    · have h := zip c6 h
      refine zG.tabIn (tgt := 87) hX hs1 1 c6 (by decide) rfl (by decide) ?_
      obtain ⟨g7, h⟩ := zif h
      obtain ⟨g8, h⟩ := zif h
      obtain ⟨g9, h⟩ := zif h
      refine zG.blk (pc' := 97) (l' := [some (2, a0), some (0, a1)]) (st' := [(0, M (M (M a0 5) 0) 2)]) (M' := M) hX [(.aload_n 0, 0, 0, 0), (.getfield 39, 11, 5, 2), (.getfield 95, 10, 0, 2), (.getfield 254, 9, 2, 0)] (by decide +kernel) rfl (And.intro g7 (And.intro g8 (And.intro g9 trivial))) ?_
      cases h
      exact zG.iret hX (by decide +kernel)
    · have h := zin c6 h
      by_cases c10 : a1 = 2
      · have h := zip c10 h
        refine zG.tabIn (tgt := 98) hX hs1 2 c10 (by decide) rfl (by decide) ?_
        obtain ⟨g11, h⟩ := zif h
        obtain ⟨g12, h⟩ := zif h
        obtain ⟨g13, h⟩ := zif h
        refine zG.blk (pc' := 108) (l' := [some (2, a0), some (0, a1)]) (st' := [(0, M (M (M a0 5) 0) 3)]) (M' := M) hX [(.aload_n 0, 0, 0, 0), (.getfield 39, 11, 5, 2), (.getfield 95, 10, 0, 2), (.getfield 96, 9, 3, 0)] (by decide +kernel) rfl (And.intro g11 (And.intro g12 (And.intro g13 trivial))) ?_
        cases h
        exact zG.iret hX (by decide +kernel)
      · have h := zin c10 h
        by_cases c14 : a1 = 3
        · have h := zip c14 h
          refine zG.tabIn (tgt := 109) hX hs1 3 c14 (by decide) rfl (by decide) ?_
          obtain ⟨g15, h⟩ := zif h
          obtain ⟨g16, h⟩ := zif h
          obtain ⟨g17, h⟩ := zif h
          refine zG.blk (pc' := 119) (l' := [some (2, a0), some (0, a1)]) (st' := [(0, M (M (M a0 5) 0) 4)]) (M' := M) hX [(.aload_n 0, 0, 0, 0), (.getfield 39, 11, 5, 2), (.getfield 95, 10, 0, 2), (.getfield 257, 9, 4, 0)] (by decide +kernel) rfl (And.intro g15 (And.intro g16 (And.intro g17 trivial))) ?_
          cases h
          exact zG.iret hX (by decide +kernel)
        · have h := zin c14 h
          by_cases c18 : a1 = 4
          · have h := zip c18 h
            refine zG.tabIn (tgt := 120) hX hs1 4 c18 (by decide) rfl (by decide) ?_
            obtain ⟨g19, h⟩ := zif h
            refine zG.blk (pc' := 124) (l' := [some (2, a0), some (0, a1)]) (st' := [(0, M a0 4)]) (M' := M) hX [(.aload_n 0, 0, 0, 0), (.getfield 101, 11, 4, 0)] (by decide +kernel) rfl (And.intro g19 trivial) ?_
            cases h
            exact zG.iret hX (by decide +kernel)
          · have h := zin c18 h
            by_cases c20 : a1 = 5
            · have h := zip c20 h
              refine zG.tabIn (tgt := 125) hX hs1 5 c20 (by decide) rfl (by decide) ?_
              obtain ⟨g21, h⟩ := zif h
              obtain ⟨g22, h⟩ := zif h
              refine zG.blk (pc' := 132) (l' := [some (2, a0), some (0, a1)]) (st' := [(0, M (M a0 5) 9)]) (M' := M) hX [(.aload_n 0, 0, 0, 0), (.getfield 39, 11, 5, 2), (.getfield 112, 10, 9, 0)] (by decide +kernel) rfl (And.intro g21 (And.intro g22 trivial)) ?_
              cases h
              exact zG.iret hX (by decide +kernel)
            · have h := zin c20 h
              by_cases c23 : a1 = 6
              · have h := zip c23 h
                refine zG.tabIn (tgt := 133) hX hs1 6 c23 (by decide) rfl (by decide) ?_
                obtain ⟨g24, h⟩ := zif h
                obtain ⟨g25, h⟩ := zif h
                obtain ⟨g26, h⟩ := zif h
                refine zG.blk (pc' := 143) (l' := [some (2, a0), some (0, a1)]) (st' := [(0, M (M (M a0 5) 1) 5)]) (M' := M) hX [(.aload_n 0, 0, 0, 0), (.getfield 39, 11, 5, 2), (.getfield 119, 10, 1, 2), (.getfield 155, 6, 5, 0)] (by decide +kernel) rfl (And.intro g24 (And.intro g25 (And.intro g26 trivial))) ?_
                cases h
                exact zG.iret hX (by decide +kernel)
              · have h := zin c23 h
                by_cases c27 : a1 = 7
                · have h := zip c27 h
                  refine zG.tabIn (tgt := 144) hX hs1 7 c27 (by decide) rfl (by decide) ?_
                  obtain ⟨g28, h⟩ := zif h
                  obtain ⟨g29, h⟩ := zif h
                  refine zG.blk (pc' := 151) (l' := [some (2, a0), some (0, a1)]) (st' := [(2, M (M a0 5) 1)]) (M' := M) hX [(.aload_n 0, 0, 0, 0), (.getfield 39, 11, 5, 2), (.getfield 119, 10, 1, 2)] (by decide +kernel) rfl (And.intro g28 (And.intro g29 trivial)) ?_
                  obtain ⟨g32, h⟩ := zif h
                  obtain ⟨q30, e31, h⟩ := zbd h
                  refine zG.callV (b := M (M a0 5) 1) (av := []) (st := []) (ci := 6) hX (pX6_strokes_ok e31) sv_11_186 rfl ⟨by decide, rfl⟩ g32 (by decide +kernel) (by rw [hRm]; exact ⟨Nat.le_of_ble_eq_true rfl, Nat.le_of_ble_eq_true rfl⟩) (by rw [hRm]; exact ⟨Nat.le_of_ble_eq_true rfl, Nat.le_of_ble_eq_true rfl⟩) (Nat.le_of_ble_eq_true rfl) ?_
                  show zG C E 2 S 0 0 _ 154 [some (2, a0), some (0, a1)] [(0, q30.1)] q30.2
                  cases h
                  exact zG.iret hX (by decide +kernel)
                · have h := zin c27 h
                  by_cases c33 : a1 = 8
                  · have h := zip c33 h
                    refine zG.tabIn (tgt := 155) hX hs1 8 c33 (by decide) rfl (by decide) ?_
                    obtain ⟨g34, h⟩ := zif h
                    obtain ⟨g35, h⟩ := zif h
                    refine zG.blk (pc' := 169) (l' := [some (2, a0), some (0, a1)]) (st' := [(2, M (M a0 5) 0), (2, M (M a0 5) 1)]) (M' := M) hX [(.aload_n 0, 0, 0, 0), (.getfield 39, 11, 5, 2), (.getfield 119, 10, 1, 2), (.aload_n 0, 0, 0, 0), (.getfield 39, 11, 5, 2), (.getfield 95, 10, 0, 2)] (by decide +kernel) rfl (And.intro g34 (And.intro g35 (And.intro g34 (And.intro g35 trivial)))) ?_
                    obtain ⟨g38, h⟩ := zif h
                    obtain ⟨q36, e37, h⟩ := zbd h
                    refine zG.callV (b := M (M a0 5) 1) (av := [(2, M (M a0 5) 0)]) (st := []) (ci := 6) hX (pX6_like_ok e37) sv_11_190 rfl ⟨by decide, rfl⟩ g38 (by decide +kernel) (by rw [hRm]; exact ⟨Nat.le_of_ble_eq_true rfl, Nat.le_of_ble_eq_true rfl⟩) (by rw [hRm]; exact ⟨Nat.le_of_ble_eq_true rfl, Nat.le_of_ble_eq_true rfl⟩) (Nat.le_of_ble_eq_true rfl) ?_
                    show zG C E 2 S 0 0 _ 172 [some (2, a0), some (0, a1)] [(0, q36.1)] q36.2
                    cases h
                    exact zG.iret hX (by decide +kernel)
                  · have h := zin c33 h
                    by_cases c39 : a1 = 9
                    · have h := zip c39 h
                      refine zG.tabIn (tgt := 173) hX hs1 9 c39 (by decide) rfl (by decide) ?_
                      obtain ⟨g40, h⟩ := zif h
                      obtain ⟨g41, h⟩ := zif h
                      obtain ⟨g42, h⟩ := zif h
                      refine zG.blk (pc' := 183) (l' := [some (2, a0), some (0, a1)]) (st' := [(0, M (M (M a0 5) 1) 6)]) (M' := M) hX [(.aload_n 0, 0, 0, 0), (.getfield 39, 11, 5, 2), (.getfield 119, 10, 1, 2), (.getfield 260, 6, 6, 0)] (by decide +kernel) rfl (And.intro g40 (And.intro g41 (And.intro g42 trivial))) ?_
                      cases h
                      exact zG.iret hX (by decide +kernel)
                    · have h := zin c39 h
                      by_cases c43 : a1 = 10
                      · have h := zip c43 h
                        refine zG.tabIn (tgt := 184) hX hs1 10 c43 (by decide) rfl (by decide) ?_
                        obtain ⟨g44, h⟩ := zif h
                        obtain ⟨g45, h⟩ := zif h
                        obtain ⟨g46, h⟩ := zif h
                        refine zG.blk (pc' := 194) (l' := [some (2, a0), some (0, a1)]) (st' := [(0, M (M (M a0 5) 1) 4)]) (M' := M) hX [(.aload_n 0, 0, 0, 0), (.getfield 39, 11, 5, 2), (.getfield 119, 10, 1, 2), (.getfield 169, 6, 4, 0)] (by decide +kernel) rfl (And.intro g44 (And.intro g45 (And.intro g46 trivial))) ?_
                        cases h
                        exact zG.iret hX (by decide +kernel)
                      · have h := zin c43 h
                        by_cases c47 : a1 = 11
                        · have h := zip c47 h
                          refine zG.tabIn (tgt := 195) hX hs1 11 c47 (by decide) rfl (by decide) ?_
                          obtain ⟨g48, h⟩ := zif h
                          obtain ⟨g49, h⟩ := zif h
                          refine zG.blk (pc' := 202) (l' := [some (2, a0), some (0, a1)]) (st' := [(0, M (M a0 5) 7)]) (M' := M) hX [(.aload_n 0, 0, 0, 0), (.getfield 39, 11, 5, 2), (.getfield 231, 10, 7, 0)] (by decide +kernel) rfl (And.intro g48 (And.intro g49 trivial)) ?_
                          cases h
                          exact zG.iret hX (by decide +kernel)
                        · have h := zin c47 h
                          by_cases c50 : a1 = 12
                          · have h := zip c50 h
                            refine zG.tabIn (tgt := 203) hX hs1 12 c50 (by decide) rfl (by decide) ?_
                            obtain ⟨g51, h⟩ := zif h
                            obtain ⟨g52, h⟩ := zif h
                            refine zG.blk (pc' := 210) (l' := [some (2, a0), some (0, a1)]) (st' := [(0, M (M a0 5) 3)]) (M' := M) hX [(.aload_n 0, 0, 0, 0), (.getfield 39, 11, 5, 2), (.getfield 176, 10, 3, 0)] (by decide +kernel) rfl (And.intro g51 (And.intro g52 trivial)) ?_
                            cases h
                            exact zG.iret hX (by decide +kernel)
                          · have h := zin c50 h
                            by_cases c53 : a1 = 13
                            · have h := zip c53 h
                              refine zG.tabIn (tgt := 211) hX hs1 13 c53 (by decide) rfl (by decide) ?_
                              obtain ⟨g54, h⟩ := zif h
                              obtain ⟨g55, h⟩ := zif h
                              refine zG.blk (pc' := 218) (l' := [some (2, a0), some (0, a1)]) (st' := [(0, M (M a0 5) 8)]) (M' := M) hX [(.aload_n 0, 0, 0, 0), (.getfield 39, 11, 5, 2), (.getfield 245, 10, 8, 0)] (by decide +kernel) rfl (And.intro g54 (And.intro g55 trivial)) ?_
                              cases h
                              exact zG.iret hX (by decide +kernel)
                            · have h := zin c53 h
                              by_cases c56 : a1 = 14
                              · have h := zip c56 h
                                refine zG.tabIn (tgt := 219) hX hs1 14 c56 (by decide) rfl (by decide) ?_
                                obtain ⟨g57, h⟩ := zif h
                                obtain ⟨g58, h⟩ := zif h
                                refine zG.blk (pc' := 226) (l' := [some (2, a0), some (0, a1)]) (st' := [(0, M (M a0 0) 1)]) (M' := M) hX [(.aload_n 0, 0, 0, 0), (.getfield 10, 11, 0, 2), (.getfield 75, 8, 1, 0)] (by decide +kernel) rfl (And.intro g57 (And.intro g58 trivial)) ?_
                                cases h
                                exact zG.iret hX (by decide +kernel)
                              · have h := zin c56 h
                                refine zG.tabOut (tgt := 227) hX hs1 (by omega) (by decide) ?_
                                refine zG.blk (pc' := 228) (l' := [some (2, a0), some (0, a1)]) (st' := [(0, (-1))]) (M' := M) hX [(.iconst (-1), 0, 0, 0)] (by decide +kernel) rfl trivial ?_
                                cases h
                                exact zG.iret hX (by decide +kernel)
theorem pX11_count_ok {l : Launch} {E : ZE} {S : ZS} {M : ZM} {a0 a1 : Int} {q : (Int × ZM)} (h : pX11_count S M a0 a1 = some q) : zMet l yX11_count cX11_count 2 (some .int) 2 63 0 0 E S M [(2, a0), (0, a1)] (some (0, q.1)) S q.2 :=
  zMet.of (o := 11) (ini := false) (by decide +kernel) rfl (fun h => by cases h) (Nat.le_of_ble_eq_true rfl) (fun C hX hl hRm => by subst hl; exact pX11_count_go hX hRm h)
noncomputable def pX11_day_29 (S : ZS) (M : ZM) : Option (Int × ZM) := some ((-1), M)
set_option maxHeartbeats 2000000 in
set_option maxRecDepth 20000 in
theorem pX11_day_29_ok {C : ZC} {E : ZE} {S : ZS} {q : (Int × ZM)} (hX : zCx C E 11 cX11_day 1 (some .int) false) (hRm : czR C = { frames := 5, cells := 0, slots := 0, locals := 139 }) {M : ZM} (h : pX11_day_29 S M = some q) : zG C E 1 S 0 0 (zQ C E 0 0 (some (0, q.1)) S q.2) 29 [none] [] M := by
  unfold pX11_day_29 at h
  refine zG.blk (pc' := 30) (l' := [none]) (st' := [(0, (-1))]) (M' := M) hX [(.iconst (-1), 0, 0, 0)] (by decide +kernel) rfl trivial ?_
  cases h
  exact zG.iret hX (by decide +kernel)
theorem sv_11_165 : zSV 11 165 yX0_one cX0_one 5 (some .int) 3 := ⟨⟨gt_at 795 (by decide +kernel) rfl, gt_at 796 (by decide +kernel) rfl, gt_at 797 (by decide +kernel) rfl, gt_at 113 (by decide +kernel) rfl, gt_at 798 (by decide +kernel) rfl⟩, by decide +kernel, by decide +kernel, by decide +kernel⟩
noncomputable def pX11_day (S : ZS) (M : ZM) (a0 : Int) : Option (Int × ZM) := if S.1 a0 = 11 then if S.1 (M a0 5) = 10 then if S.1 (M (M a0 5) 0) = 9 then (pX9_isThere S M (M (M a0 5) 0)).bind fun q3 => if q3.1 = 0 then (pX11_day_29 S q3.2) else (if S.1 (q3.2 a0 5) = 10 then if S.1 (q3.2 (q3.2 a0 5) 1) = 6 then if q3.2 (q3.2 (q3.2 a0 5) 1) 5 < 999 then ((pX10_remember S q3.2 (q3.2 a0 5)).bind fun q10 => if S.1 (q10 a0 5) = 10 then (pX11_ruleInForce S q10 a0).bind fun q13 => if S.1 (q10 a0 7) = 0 then (pX0_one S q13.2 (q10 a0 7) (q10 (q10 a0 5) 0) (q10 (q10 a0 5) 1) q13.1).bind fun q15 => some (q15.1, q15.2) else none else none) else (pX11_day_29 S q3.2) else none else none) else none else none else none
set_option maxHeartbeats 2000000 in
set_option maxRecDepth 20000 in
theorem pX11_day_go {C : ZC} {E : ZE} {S : ZS} {M : ZM} {a0 : Int} {q : (Int × ZM)} (hX : zCx C E 11 cX11_day 1 (some .int) false) (hRm : czR C = { frames := 5, cells := 0, slots := 0, locals := 139 }) (h : pX11_day  S M a0 = some q) : zG C E 1 S 0 0 (zQ C E 0 0 (some (0, q.1)) S q.2) 0 [some (2, a0)] [] M := by
  unfold pX11_day at h
  obtain ⟨g1, h⟩ := zif h
  obtain ⟨g2, h⟩ := zif h
  refine zG.blk (pc' := 7) (l' := [some (2, a0)]) (st' := [(2, M (M a0 5) 0)]) (M' := M) hX [(.aload_n 0, 0, 0, 0), (.getfield 39, 11, 5, 2), (.getfield 95, 10, 0, 2)] (by decide +kernel) rfl (And.intro g1 (And.intro g2 trivial)) ?_
  obtain ⟨g5, h⟩ := zif h
  obtain ⟨q3, e4, h⟩ := zbd h
  refine zG.callV (b := M (M a0 5) 0) (av := []) (st := []) (ci := 9) hX (pX9_isThere_ok e4) sv_11_151 rfl ⟨by decide, rfl⟩ g5 (by decide +kernel) (by rw [hRm]; exact ⟨Nat.le_of_ble_eq_true rfl, Nat.le_of_ble_eq_true rfl⟩) (by rw [hRm]; exact ⟨Nat.le_of_ble_eq_true rfl, Nat.le_of_ble_eq_true rfl⟩) (Nat.le_of_ble_eq_true rfl) ?_
  show zG C E 1 S 0 0 _ 10 [some (2, a0)] [(0, q3.1)] q3.2
  refine zG.if_eq (tgt := 29) (off := 19) hX (by decide +kernel) (by decide) (fun c6 => ?_) (fun c6 => ?_)
  · have h := zip c6 h
    exact zG.wk [false] (pX11_day_29_ok hX hRm h)
  · have h := zin c6 h
    obtain ⟨g7, h⟩ := zif h
    obtain ⟨g8, h⟩ := zif h
    refine zG.blk (pc' := 26) (l' := [some (2, a0)]) (st' := [(0, 999), (0, q3.2 (q3.2 (q3.2 a0 5) 1) 5)]) (M' := q3.2) hX [(.aload_n 0, 0, 0, 0), (.getfield 39, 11, 5, 2), (.getfield 119, 10, 1, 2), (.getfield 155, 6, 5, 0), (.sipush 999, 0, 0, 0)] (by decide +kernel) rfl (And.intro g1 (And.intro g7 (And.intro g8 trivial))) ?_
    refine zG.icmp_lt (tgt := 31) (off := 5) hX (by decide +kernel) (by decide) (fun c9 => ?_) (fun c9 => ?_)
    · have h := zip c9 h
      refine zG.blk (pc' := 35) (l' := [some (2, a0)]) (st' := [(2, q3.2 a0 5)]) (M' := q3.2) hX [(.aload_n 0, 0, 0, 0), (.getfield 39, 11, 5, 2)] (by decide +kernel) rfl (And.intro g1 trivial) ?_
      obtain ⟨q10, e11, h⟩ := zbd h
      refine zG.callV (b := q3.2 a0 5) (av := []) (st := []) (ci := 10) hX (pX10_remember_ok e11) sv_11_158 rfl ⟨by decide, rfl⟩ g7 (by decide +kernel) (by rw [hRm]; exact ⟨Nat.le_of_ble_eq_true rfl, Nat.le_of_ble_eq_true rfl⟩) (by rw [hRm]; exact ⟨Nat.le_of_ble_eq_true rfl, Nat.le_of_ble_eq_true rfl⟩) (Nat.le_of_ble_eq_true rfl) ?_
      show zG C E 1 S 0 0 _ 38 [some (2, a0)] [] q10
      obtain ⟨g12, h⟩ := zif h
      refine zG.blk (pc' := 57) (l' := [some (2, a0)]) (st' := [(2, a0), (2, q10 (q10 a0 5) 1), (2, q10 (q10 a0 5) 0), (2, q10 a0 7)]) (M' := q10) hX [(.aload_n 0, 0, 0, 0), (.getfield 50, 11, 7, 2), (.aload_n 0, 0, 0, 0), (.getfield 39, 11, 5, 2), (.getfield 95, 10, 0, 2), (.aload_n 0, 0, 0, 0), (.getfield 39, 11, 5, 2), (.getfield 119, 10, 1, 2), (.aload_n 0, 0, 0, 0)] (by decide +kernel) rfl (And.intro g1 (And.intro g1 (And.intro g12 (And.intro g1 (And.intro g12 trivial))))) ?_
      obtain ⟨q13, e14, h⟩ := zbd h
      refine zG.callV (b := a0) (av := []) (st := [(2, q10 (q10 a0 5) 1), (2, q10 (q10 a0 5) 0), (2, q10 a0 7)]) (ci := 11) hX (pX11_ruleInForce_ok e14) sv_11_161 rfl ⟨by decide, rfl⟩ g1 (by decide +kernel) (by rw [hRm]; exact ⟨Nat.le_of_ble_eq_true rfl, Nat.le_of_ble_eq_true rfl⟩) (by rw [hRm]; exact ⟨Nat.le_of_ble_eq_true rfl, Nat.le_of_ble_eq_true rfl⟩) (Nat.le_of_ble_eq_true rfl) ?_
      show zG C E 1 S 0 0 _ 60 [some (2, a0)] [(2, q13.1), (2, q10 (q10 a0 5) 1), (2, q10 (q10 a0 5) 0), (2, q10 a0 7)] q13.2
      obtain ⟨g17, h⟩ := zif h
      obtain ⟨q15, e16, h⟩ := zbd h
      refine zG.callV (b := q10 a0 7) (av := [(2, q10 (q10 a0 5) 0), (2, q10 (q10 a0 5) 1), (2, q13.1)]) (st := []) (ci := 0) hX (pX0_one_ok e16) sv_11_165 rfl ⟨by decide, rfl⟩ g17 (by decide +kernel) (by rw [hRm]; exact ⟨Nat.le_of_ble_eq_true rfl, Nat.le_of_ble_eq_true rfl⟩) (by rw [hRm]; exact ⟨Nat.le_of_ble_eq_true rfl, Nat.le_of_ble_eq_true rfl⟩) (Nat.le_of_ble_eq_true rfl) ?_
      show zG C E 1 S 0 0 _ 63 [some (2, a0)] [(0, q15.1)] q15.2
      cases h
      exact zG.iret hX (by decide +kernel)
    · have h := zin c9 h
      exact zG.wk [false] (pX11_day_29_ok hX hRm h)
theorem pX11_day_ok {l : Launch} {E : ZE} {S : ZS} {M : ZM} {a0 : Int} {q : (Int × ZM)} (h : pX11_day S M a0 = some q) : zMet l yX11_day cX11_day 1 (some .int) 5 139 0 0 E S M [(2, a0)] (some (0, q.1)) S q.2 :=
  zMet.of (o := 11) (ini := false) (by decide +kernel) rfl (fun h => by cases h) (Nat.le_of_ble_eq_true rfl) (fun C hX hl hRm => by subst hl; exact pX11_day_go hX hRm h)
noncomputable def pX11_end_15 (S : ZS) (M : ZM) : Option (Int × ZM) := some ((-1), M)
set_option maxHeartbeats 2000000 in
set_option maxRecDepth 20000 in
theorem pX11_end_15_ok {C : ZC} {E : ZE} {S : ZS} {q : (Int × ZM)} (hX : zCx C E 11 cX11_end 2 (some .int) false) (hRm : czR C = { frames := 1, cells := 0, slots := 0, locals := 40 }) {M : ZM} (h : pX11_end_15 S M = some q) : zG C E 2 S 0 0 (zQ C E 0 0 (some (0, q.1)) S q.2) 15 [none, none] [] M := by
  unfold pX11_end_15 at h
  refine zG.blk (pc' := 16) (l' := [none, none]) (st' := [(0, (-1))]) (M' := M) hX [(.iconst (-1), 0, 0, 0)] (by decide +kernel) rfl trivial ?_
  cases h
  exact zG.iret hX (by decide +kernel)
noncomputable def pX11_end (S : ZS) (M : ZM) (a0 : Int) (a1 : Int) : Option (Int × ZM) := if a1 < 0 then (pX11_end_15 S M) else (if S.1 a0 = 11 then if S.1 (M a0 0) = 8 then if a1 ≤ M (M a0 0) 1 then (zlet (upM M (M a0 0) 1 a1) fun M5 => some (a1, M5)) else (pX11_end_15 S M) else none else none)
set_option maxHeartbeats 2000000 in
set_option maxRecDepth 20000 in
theorem pX11_end_go {C : ZC} {E : ZE} {S : ZS} {M : ZM} {a0 a1 : Int} {q : (Int × ZM)} (hX : zCx C E 11 cX11_end 2 (some .int) false) (hRm : czR C = { frames := 1, cells := 0, slots := 0, locals := 40 }) (h : pX11_end  S M a0 a1 = some q) : zG C E 2 S 0 0 (zQ C E 0 0 (some (0, q.1)) S q.2) 0 [some (2, a0), some (0, a1)] [] M := by
  unfold pX11_end at h
  refine zG.blk (pc' := 1) (l' := [some (2, a0), some (0, a1)]) (st' := [(0, a1)]) (M' := M) hX [(.iload_n 1, 0, 0, 0)] (by decide +kernel) rfl trivial ?_
  refine zG.if_lt (tgt := 15) (off := 14) hX (by decide +kernel) (by decide) (fun c1 => ?_) (fun c1 => ?_)
  · have h := zip c1 h
    exact zG.wk [false, false] (pX11_end_15_ok hX hRm h)
  · have h := zin c1 h
    obtain ⟨g2, h⟩ := zif h
    obtain ⟨g3, h⟩ := zif h
    refine zG.blk (pc' := 12) (l' := [some (2, a0), some (0, a1)]) (st' := [(0, M (M a0 0) 1), (0, a1)]) (M' := M) hX [(.iload_n 1, 0, 0, 0), (.aload_n 0, 0, 0, 0), (.getfield 10, 11, 0, 2), (.getfield 75, 8, 1, 0)] (by decide +kernel) rfl (And.intro g2 (And.intro g3 trivial)) ?_
    refine zG.icmp_le (tgt := 17) (off := 5) hX (by decide +kernel) (by decide) (fun c4 => ?_) (fun c4 => ?_)
    · have h := zip c4 h
      refine zG.blk (pc' := 25) (l' := [some (2, a0), some (0, a1)]) (st' := []) (M' := (upM M (M a0 0) 1 a1)) hX [(.aload_n 0, 0, 0, 0), (.getfield 10, 11, 0, 2), (.iload_n 1, 0, 0, 0), (.putfield 75, 8, 1, 0)] (by decide +kernel) rfl (And.intro g2 (And.intro g3 trivial)) ?_
      generalize upM M (M a0 0) 1 a1 = M5 at h ⊢
      have h := zlt h
      refine zG.blk (pc' := 26) (l' := [some (2, a0), some (0, a1)]) (st' := [(0, a1)]) (M' := M5) hX [(.iload_n 1, 0, 0, 0)] (by decide +kernel) rfl trivial ?_
      cases h
      exact zG.iret hX (by decide +kernel)
    · have h := zin c4 h
      exact zG.wk [false, false] (pX11_end_15_ok hX hRm h)
theorem pX11_end_ok {l : Launch} {E : ZE} {S : ZS} {M : ZM} {a0 a1 : Int} {q : (Int × ZM)} (h : pX11_end S M a0 a1 = some q) : zMet l yX11_end cX11_end 2 (some .int) 1 40 0 0 E S M [(2, a0), (0, a1)] (some (0, q.1)) S q.2 :=
  zMet.of (o := 11) (ini := false) (by decide +kernel) rfl (fun h => by cases h) (Nat.le_of_ble_eq_true rfl) (fun C hX hl hRm => by subst hl; exact pX11_end_go hX hRm h)
theorem sv_11_79 : zSV 11 79 yX8_append cX8_append 3 none 1 := ⟨⟨gt_at 499 (by decide +kernel) rfl, gt_at 500 (by decide +kernel) rfl, gt_at 501 (by decide +kernel) rfl, gt_at 106 (by decide +kernel) rfl, gt_at 502 (by decide +kernel) rfl⟩, by decide +kernel, by decide +kernel, by decide +kernel⟩
noncomputable def pX11_feed_51 (S : ZS) (M : ZM) (x0 : Int) (x5 : Int) : Option (Int × ZM) := if S.1 x0 = 11 then if S.1 (M x0 0) = 8 then (pX8_append S M (M x0 0) x5).bind fun q16 => if S.1 (q16 x0 0) = 8 then some (q16 (q16 x0 0) 1, q16) else none else none else none
set_option maxHeartbeats 2000000 in
set_option maxRecDepth 20000 in
theorem pX11_feed_51_ok {C : ZC} {E : ZE} {S : ZS} {q : (Int × ZM)} (hX : zCx C E 11 cX11_feed 6 (some .int) false) (hRm : czR C = { frames := 2, cells := 0, slots := 0, locals := 62 }) {M : ZM} {x0 : Int} {x5 : Int} (h : pX11_feed_51 S M x0 x5 = some q) : zG C E 6 S 0 0 (zQ C E 0 0 (some (0, q.1)) S q.2) 51 [some (2, x0), none, none, none, none, some (0, x5)] [] M := by
  unfold pX11_feed_51 at h
  obtain ⟨g15, h⟩ := zif h
  refine zG.blk (pc' := 57) (l' := [some (2, x0), none, none, none, none, some (0, x5)]) (st' := [(0, x5), (2, M x0 0)]) (M' := M) hX [(.aload_n 0, 0, 0, 0), (.getfield 10, 11, 0, 2), (.iload 5, 0, 0, 0)] (by decide +kernel) rfl (And.intro g15 trivial) ?_
  obtain ⟨g18, h⟩ := zif h
  obtain ⟨q16, e17, h⟩ := zbd h
  refine zG.callV (b := M x0 0) (av := [(0, x5)]) (st := []) (ci := 8) hX (pX8_append_ok e17) sv_11_79 rfl ⟨by decide, rfl⟩ g18 (by decide +kernel) (by rw [hRm]; exact ⟨Nat.le_of_ble_eq_true rfl, Nat.le_of_ble_eq_true rfl⟩) (by rw [hRm]; exact ⟨Nat.le_of_ble_eq_true rfl, Nat.le_of_ble_eq_true rfl⟩) (Nat.le_of_ble_eq_true rfl) ?_
  show zG C E 6 S 0 0 _ 60 [some (2, x0), none, none, none, none, some (0, x5)] [] q16
  obtain ⟨g19, h⟩ := zif h
  refine zG.blk (pc' := 67) (l' := [some (2, x0), none, none, none, none, some (0, x5)]) (st' := [(0, q16 (q16 x0 0) 1)]) (M' := q16) hX [(.aload_n 0, 0, 0, 0), (.getfield 10, 11, 0, 2), (.getfield 75, 8, 1, 0)] (by decide +kernel) rfl (And.intro g15 (And.intro g19 trivial)) ?_
  cases h
  exact zG.iret hX (by decide +kernel)
noncomputable def pX11_feed (S : ZS) (M : ZM) (a0 : Int) (a1 : Int) (a2 : Int) (a3 : Int) (a4 : Int) (a5 : Int) : Option (Int × ZM) := if S.1 a0 = 11 then if S.1 (M a0 0) = 8 then if w32 ((M (M a0 0) 1) + 20) ≤ 400 then ((pX8_append S M (M a0 0) a1).bind fun q4 => if S.1 (q4 a0 0) = 8 then (pX8_append S q4 (q4 a0 0) a2).bind fun q6 => if S.1 (q6 a0 0) = 8 then (pX8_append S q6 (q6 a0 0) a3).bind fun q9 => if S.1 (q9 a0 0) = 8 then (pX8_append S q9 (q9 a0 0) a4).bind fun q12 => pX11_feed_51 S q12 a0 a5 else none else none else none) else (some ((-1), M)) else none else none
set_option maxHeartbeats 2000000 in
set_option maxRecDepth 20000 in
theorem pX11_feed_go {C : ZC} {E : ZE} {S : ZS} {M : ZM} {a0 a1 a2 a3 a4 a5 : Int} {q : (Int × ZM)} (hX : zCx C E 11 cX11_feed 6 (some .int) false) (hRm : czR C = { frames := 2, cells := 0, slots := 0, locals := 62 }) (h : pX11_feed  S M a0 a1 a2 a3 a4 a5 = some q) : zG C E 6 S 0 0 (zQ C E 0 0 (some (0, q.1)) S q.2) 0 [some (2, a0), some (0, a1), some (0, a2), some (0, a3), some (0, a4), some (0, a5)] [] M := by
  unfold pX11_feed at h
  obtain ⟨g1, h⟩ := zif h
  obtain ⟨g2, h⟩ := zif h
  refine zG.blk (pc' := 13) (l' := [some (2, a0), some (0, a1), some (0, a2), some (0, a3), some (0, a4), some (0, a5)]) (st' := [(0, 400), (0, w32 ((M (M a0 0) 1) + 20))]) (M' := M) hX [(.aload_n 0, 0, 0, 0), (.getfield 10, 11, 0, 2), (.getfield 75, 8, 1, 0), (.bipush 20, 0, 0, 0), (.iadd, 0, 0, 0), (.sipush 400, 0, 0, 0)] (by decide +kernel) rfl (And.intro g1 (And.intro g2 trivial)) ?_
  refine zG.icmp_le (tgt := 18) (off := 5) hX (by decide +kernel) (by decide) (fun c3 => ?_) (fun c3 => ?_)
  · have h := zip c3 h
    refine zG.blk (pc' := 23) (l' := [some (2, a0), some (0, a1), some (0, a2), some (0, a3), some (0, a4), some (0, a5)]) (st' := [(0, a1), (2, M a0 0)]) (M' := M) hX [(.aload_n 0, 0, 0, 0), (.getfield 10, 11, 0, 2), (.iload_n 1, 0, 0, 0)] (by decide +kernel) rfl (And.intro g1 trivial) ?_
    obtain ⟨q4, e5, h⟩ := zbd h
    refine zG.callV (b := M a0 0) (av := [(0, a1)]) (st := []) (ci := 8) hX (pX8_append_ok e5) sv_11_79 rfl ⟨by decide, rfl⟩ g2 (by decide +kernel) (by rw [hRm]; exact ⟨Nat.le_of_ble_eq_true rfl, Nat.le_of_ble_eq_true rfl⟩) (by rw [hRm]; exact ⟨Nat.le_of_ble_eq_true rfl, Nat.le_of_ble_eq_true rfl⟩) (Nat.le_of_ble_eq_true rfl) ?_
    show zG C E 6 S 0 0 _ 26 [some (2, a0), some (0, a1), some (0, a2), some (0, a3), some (0, a4), some (0, a5)] [] q4
    refine zG.blk (pc' := 31) (l' := [some (2, a0), some (0, a1), some (0, a2), some (0, a3), some (0, a4), some (0, a5)]) (st' := [(0, a2), (2, q4 a0 0)]) (M' := q4) hX [(.aload_n 0, 0, 0, 0), (.getfield 10, 11, 0, 2), (.iload_n 2, 0, 0, 0)] (by decide +kernel) rfl (And.intro g1 trivial) ?_
    obtain ⟨g8, h⟩ := zif h
    obtain ⟨q6, e7, h⟩ := zbd h
    refine zG.callV (b := q4 a0 0) (av := [(0, a2)]) (st := []) (ci := 8) hX (pX8_append_ok e7) sv_11_79 rfl ⟨by decide, rfl⟩ g8 (by decide +kernel) (by rw [hRm]; exact ⟨Nat.le_of_ble_eq_true rfl, Nat.le_of_ble_eq_true rfl⟩) (by rw [hRm]; exact ⟨Nat.le_of_ble_eq_true rfl, Nat.le_of_ble_eq_true rfl⟩) (Nat.le_of_ble_eq_true rfl) ?_
    show zG C E 6 S 0 0 _ 34 [some (2, a0), some (0, a1), some (0, a2), some (0, a3), some (0, a4), some (0, a5)] [] q6
    refine zG.blk (pc' := 39) (l' := [some (2, a0), some (0, a1), some (0, a2), some (0, a3), some (0, a4), some (0, a5)]) (st' := [(0, a3), (2, q6 a0 0)]) (M' := q6) hX [(.aload_n 0, 0, 0, 0), (.getfield 10, 11, 0, 2), (.iload_n 3, 0, 0, 0)] (by decide +kernel) rfl (And.intro g1 trivial) ?_
    obtain ⟨g11, h⟩ := zif h
    obtain ⟨q9, e10, h⟩ := zbd h
    refine zG.callV (b := q6 a0 0) (av := [(0, a3)]) (st := []) (ci := 8) hX (pX8_append_ok e10) sv_11_79 rfl ⟨by decide, rfl⟩ g11 (by decide +kernel) (by rw [hRm]; exact ⟨Nat.le_of_ble_eq_true rfl, Nat.le_of_ble_eq_true rfl⟩) (by rw [hRm]; exact ⟨Nat.le_of_ble_eq_true rfl, Nat.le_of_ble_eq_true rfl⟩) (Nat.le_of_ble_eq_true rfl) ?_
    show zG C E 6 S 0 0 _ 42 [some (2, a0), some (0, a1), some (0, a2), some (0, a3), some (0, a4), some (0, a5)] [] q9
    refine zG.blk (pc' := 48) (l' := [some (2, a0), some (0, a1), some (0, a2), some (0, a3), some (0, a4), some (0, a5)]) (st' := [(0, a4), (2, q9 a0 0)]) (M' := q9) hX [(.aload_n 0, 0, 0, 0), (.getfield 10, 11, 0, 2), (.iload 4, 0, 0, 0)] (by decide +kernel) rfl (And.intro g1 trivial) ?_
    obtain ⟨g14, h⟩ := zif h
    obtain ⟨q12, e13, h⟩ := zbd h
    refine zG.callV (b := q9 a0 0) (av := [(0, a4)]) (st := []) (ci := 8) hX (pX8_append_ok e13) sv_11_79 rfl ⟨by decide, rfl⟩ g14 (by decide +kernel) (by rw [hRm]; exact ⟨Nat.le_of_ble_eq_true rfl, Nat.le_of_ble_eq_true rfl⟩) (by rw [hRm]; exact ⟨Nat.le_of_ble_eq_true rfl, Nat.le_of_ble_eq_true rfl⟩) (Nat.le_of_ble_eq_true rfl) ?_
    show zG C E 6 S 0 0 _ 51 [some (2, a0), some (0, a1), some (0, a2), some (0, a3), some (0, a4), some (0, a5)] [] q12
    exact zG.wk [true, false, false, false, false, true] (pX11_feed_51_ok hX hRm h)
  · have h := zin c3 h
    refine zG.blk (pc' := 17) (l' := [some (2, a0), some (0, a1), some (0, a2), some (0, a3), some (0, a4), some (0, a5)]) (st' := [(0, (-1))]) (M' := M) hX [(.iconst (-1), 0, 0, 0)] (by decide +kernel) rfl trivial ?_
    cases h
    exact zG.iret hX (by decide +kernel)
theorem pX11_feed_ok {l : Launch} {E : ZE} {S : ZS} {M : ZM} {a0 a1 a2 a3 a4 a5 : Int} {q : (Int × ZM)} (h : pX11_feed S M a0 a1 a2 a3 a4 a5 = some q) : zMet l yX11_feed cX11_feed 6 (some .int) 2 62 0 0 E S M [(2, a0), (0, a1), (0, a2), (0, a3), (0, a4), (0, a5)] (some (0, q.1)) S q.2 :=
  zMet.of (o := 11) (ini := false) (by decide +kernel) rfl (fun h => by cases h) (Nat.le_of_ble_eq_true rfl) (fun C hX hl hRm => by subst hl; exact pX11_feed_go hX hRm h)
noncomputable def pX11_force_13 (S : ZS) (M : ZM) : Option (Int × ZM) := some ((-2), M)
set_option maxHeartbeats 2000000 in
set_option maxRecDepth 20000 in
theorem pX11_force_13_ok {C : ZC} {E : ZE} {S : ZS} {q : (Int × ZM)} (hX : zCx C E 11 cX11_force 3 (some .int) false) (hRm : czR C = { frames := 1, cells := 0, slots := 0, locals := 40 }) {M : ZM} (h : pX11_force_13 S M = some q) : zG C E 3 S 0 0 (zQ C E 0 0 (some (0, q.1)) S q.2) 13 [none, none, none] [] M := by
  unfold pX11_force_13 at h
  refine zG.blk (pc' := 15) (l' := [none, none, none]) (st' := [(0, (-2))]) (M' := M) hX [(.bipush (-2), 0, 0, 0)] (by decide +kernel) rfl trivial ?_
  cases h
  exact zG.iret hX (by decide +kernel)
noncomputable def pX11_force (S : ZS) (M : ZM) (a0 : Int) (a1 : Int) : Option (Int × ZM) := if a1 < (-1) then (pX11_force_13 S M) else (if S.1 a0 = 11 then if a1 < M a0 4 then (if S.1 (M a0 5) = 10 then zlet (upM M (M a0 5) 9 a1) fun M5 => some (M (M a0 5) 9, M5) else none) else (pX11_force_13 S M) else none)
set_option maxHeartbeats 2000000 in
set_option maxRecDepth 20000 in
theorem pX11_force_go {C : ZC} {E : ZE} {S : ZS} {M : ZM} {a0 a1 : Int} {q : (Int × ZM)} (hX : zCx C E 11 cX11_force 3 (some .int) false) (hRm : czR C = { frames := 1, cells := 0, slots := 0, locals := 40 }) (h : pX11_force  S M a0 a1 = some q) : zG C E 3 S 0 0 (zQ C E 0 0 (some (0, q.1)) S q.2) 0 [some (2, a0), some (0, a1), none] [] M := by
  unfold pX11_force at h
  refine zG.blk (pc' := 2) (l' := [some (2, a0), some (0, a1), none]) (st' := [(0, (-1)), (0, a1)]) (M' := M) hX [(.iload_n 1, 0, 0, 0), (.iconst (-1), 0, 0, 0)] (by decide +kernel) rfl trivial ?_
  refine zG.icmp_lt (tgt := 13) (off := 11) hX (by decide +kernel) (by decide) (fun c1 => ?_) (fun c1 => ?_)
  · have h := zip c1 h
    exact zG.wk [false, false, true] (pX11_force_13_ok hX hRm h)
  · have h := zin c1 h
    obtain ⟨g2, h⟩ := zif h
    refine zG.blk (pc' := 10) (l' := [some (2, a0), some (0, a1), none]) (st' := [(0, M a0 4), (0, a1)]) (M' := M) hX [(.iload_n 1, 0, 0, 0), (.aload_n 0, 0, 0, 0), (.getfield 101, 11, 4, 0)] (by decide +kernel) rfl (And.intro g2 trivial) ?_
    refine zG.icmp_lt (tgt := 16) (off := 6) hX (by decide +kernel) (by decide) (fun c3 => ?_) (fun c3 => ?_)
    · have h := zip c3 h
      obtain ⟨g4, h⟩ := zif h
      refine zG.blk (pc' := 32) (l' := [some (2, a0), some (0, a1), some (0, M (M a0 5) 9)]) (st' := []) (M' := (upM M (M a0 5) 9 a1)) hX [(.aload_n 0, 0, 0, 0), (.getfield 39, 11, 5, 2), (.getfield 112, 10, 9, 0), (.istore_n 2, 0, 0, 0), (.aload_n 0, 0, 0, 0), (.getfield 39, 11, 5, 2), (.iload_n 1, 0, 0, 0), (.putfield 112, 10, 9, 0)] (by decide +kernel) rfl (And.intro g2 (And.intro g4 (And.intro g2 (And.intro g4 trivial)))) ?_
      generalize upM M (M a0 5) 9 a1 = M5 at h ⊢
      have h := zlt h
      refine zG.blk (pc' := 33) (l' := [some (2, a0), some (0, a1), some (0, M (M a0 5) 9)]) (st' := [(0, M (M a0 5) 9)]) (M' := M5) hX [(.iload_n 2, 0, 0, 0)] (by decide +kernel) rfl trivial ?_
      cases h
      exact zG.iret hX (by decide +kernel)
    · have h := zin c3 h
      exact zG.wk [false, false, true] (pX11_force_13_ok hX hRm h)
theorem pX11_force_ok {l : Launch} {E : ZE} {S : ZS} {M : ZM} {a0 a1 : Int} {q : (Int × ZM)} (h : pX11_force S M a0 a1 = some q) : zMet l yX11_force cX11_force 3 (some .int) 1 40 0 0 E S M [(2, a0), (0, a1)] (some (0, q.1)) S q.2 :=
  zMet.of (o := 11) (ini := false) (by decide +kernel) rfl (fun h => by cases h) (Nat.le_of_ble_eq_true rfl) (fun C hX hl hRm => by subst hl; exact pX11_force_go hX hRm h)
