theorem ss_6_24 : zSS 6 24 yJ7_fill_53178 cJ7_fill_53178 4 none 2 := ⟨⟨gt_at 272 (by decide +kernel) rfl, gt_at 273 (by decide +kernel) rfl, gt_at 112 (by decide +kernel) rfl, gt_at 274 (by decide +kernel) rfl⟩, by decide +kernel, by decide +kernel, by decide +kernel⟩
noncomputable def pX6_begin_28 (S : ZS) (M : ZM) (x0 : Int) : Option ZM := if S.1 x0 = 6 then (pJ7_fill_53178 S M (M x0 2) (-1)).bind fun q14 => zlet (upM q14 x0 4 0) fun M16 => zlet (upM M16 x0 5 0) fun M17 => zlet (upM M17 x0 6 0) fun M18 => some M18 else none
set_option maxHeartbeats 2000000 in
set_option maxRecDepth 20000 in
theorem pX6_begin_28_ok {C : ZC} {E : ZE} {S : ZS} {q : ZM} (hX : zCx C E 6 cX6_begin 2 none false) (hRm : czR C = { frames := 2, cells := 0, slots := 0, locals := 63 }) {M : ZM} {x0 : Int} (h : pX6_begin_28 S M x0 = some q) : zG C E 2 S 0 0 (zQ C E 0 0 none S q) 28 [some (2, x0), none] [] M := by
  unfold pX6_begin_28 at h
  obtain ⟨g13, h⟩ := zif h
  refine zG.blk (pc' := 33) (l' := [some (2, x0), none]) (st' := [(0, (-1)), (2, M x0 2)]) (M' := M) hX [(.aload_n 0, 0, 0, 0), (.getfield 18, 6, 2, 2), (.iconst (-1), 0, 0, 0)] (by decide +kernel) rfl (And.intro g13 trivial) ?_
  obtain ⟨q14, e15, h⟩ := zbd h
  refine zG.callS (av := [(2, M x0 2), (0, (-1))]) (st := []) hX (pJ7_fill_53178_ok e15) ss_6_24 rfl (by decide +kernel) (by rw [hRm]; exact ⟨Nat.le_of_ble_eq_true rfl, Nat.le_of_ble_eq_true rfl⟩) (by rw [hRm]; exact ⟨Nat.le_of_ble_eq_true rfl, Nat.le_of_ble_eq_true rfl⟩) (Nat.le_of_ble_eq_true rfl) ?_
  show zG C E 2 S 0 0 _ 36 [some (2, x0), none] [] q14
  refine zG.blk (pc' := 41) (l' := [some (2, x0), none]) (st' := []) (M' := (upM q14 x0 4 0)) hX [(.aload_n 0, 0, 0, 0), (.iconst 0, 0, 0, 0), (.putfield 40, 6, 4, 0)] (by decide +kernel) rfl (And.intro g13 trivial) ?_
  generalize upM q14 x0 4 0 = M16 at h ⊢
  have h := zlt h
  refine zG.blk (pc' := 46) (l' := [some (2, x0), none]) (st' := []) (M' := (upM M16 x0 5 0)) hX [(.aload_n 0, 0, 0, 0), (.iconst 0, 0, 0, 0), (.putfield 44, 6, 5, 0)] (by decide +kernel) rfl (And.intro g13 trivial) ?_
  generalize upM M16 x0 5 0 = M17 at h ⊢
  have h := zlt h
  refine zG.blk (pc' := 51) (l' := [some (2, x0), none]) (st' := []) (M' := (upM M17 x0 6 0)) hX [(.aload_n 0, 0, 0, 0), (.iconst 0, 0, 0, 0), (.putfield 47, 6, 6, 0)] (by decide +kernel) rfl (And.intro g13 trivial) ?_
  generalize upM M17 x0 6 0 = M18 at h ⊢
  have h := zlt h
  cases h
  exact zG.vret hX (by decide +kernel)
noncomputable def pX6_begin_14 (S : ZS) (M : ZM) (x0 : Int) (x1 : Int) : Option ZM := if S.1 x1 = 9 then if S.1 x0 = 6 then if S.1 (M x1 6) = 100 then if S.1 (M x0 1) = 100 then if (0 : Int) ≤ 5 ∧ 5 ≤ S.2.1 (M x1 6) ∧ 5 ≤ S.2.1 (M x0 1) then zlet (zCpy M (M x1 6) (M x0 1) 5) fun M12 => pX6_begin_28 S M12 x0 else none else none else none else none else none
set_option maxHeartbeats 2000000 in
set_option maxRecDepth 20000 in
theorem pX6_begin_14_ok {C : ZC} {E : ZE} {S : ZS} {q : ZM} (hX : zCx C E 6 cX6_begin 2 none false) (hRm : czR C = { frames := 2, cells := 0, slots := 0, locals := 63 }) {M : ZM} {x0 : Int} {x1 : Int} (h : pX6_begin_14 S M x0 x1 = some q) : zG C E 2 S 0 0 (zQ C E 0 0 none S q) 14 [some (2, x0), some (2, x1)] [] M := by
  unfold pX6_begin_14 at h
  obtain ⟨g7, h⟩ := zif h
  obtain ⟨g8, h⟩ := zif h
  refine zG.blk (pc' := 25) (l' := [some (2, x0), some (2, x1)]) (st' := [(0, 5), (0, 0), (2, M x0 1), (0, 0), (2, M x1 6)]) (M' := M) hX [(.aload_n 1, 0, 0, 0), (.getfield 39, 9, 6, 2), (.iconst 0, 0, 0, 0), (.aload_n 0, 0, 0, 0), (.getfield 15, 6, 1, 2), (.iconst 0, 0, 0, 0), (.iconst 5, 0, 0, 0)] (by decide +kernel) rfl (And.intro g7 (And.intro g8 trivial)) ?_
  obtain ⟨g9, h⟩ := zif h
  obtain ⟨g10, h⟩ := zif h
  obtain ⟨g11, h⟩ := zif h
  refine zG.copy hX sk_6_33 sk_1 sk_2 sk_3 (by decide +kernel) g9 g10 g11 (by rw [hRm]; exact ⟨Nat.le_of_ble_eq_true rfl, Nat.le_of_ble_eq_true rfl⟩) ?_
  show zG C E 2 S 0 0 _ 28 [some (2, x0), some (2, x1)] [] (zCpy M (M x1 6) (M x0 1) 5)
  generalize zCpy M (M x1 6) (M x0 1) 5 = M12 at h ⊢
  have h := zlt h
  exact zG.wk [true, false] (pX6_begin_28_ok hX hRm h)
noncomputable def pX6_begin (S : ZS) (M : ZM) (a0 : Int) (a1 : Int) : Option ZM := if S.1 a1 = 9 then if S.1 a0 = 6 then if S.1 (M a1 5) = 100 then if S.1 (M a0 0) = 100 then if (0 : Int) ≤ 5 ∧ 5 ≤ S.2.1 (M a1 5) ∧ 5 ≤ S.2.1 (M a0 0) then zlet (zCpy M (M a1 5) (M a0 0) 5) fun M6 => pX6_begin_14 S M6 a0 a1 else none else none else none else none else none
set_option maxHeartbeats 2000000 in
set_option maxRecDepth 20000 in
theorem pX6_begin_go {C : ZC} {E : ZE} {S : ZS} {M : ZM} {a0 a1 : Int} {q : ZM} (hX : zCx C E 6 cX6_begin 2 none false) (hRm : czR C = { frames := 2, cells := 0, slots := 0, locals := 63 }) (h : pX6_begin  S M a0 a1 = some q) : zG C E 2 S 0 0 (zQ C E 0 0 none S q) 0 [some (2, a0), some (2, a1)] [] M := by
  unfold pX6_begin at h
  obtain ⟨g1, h⟩ := zif h
  obtain ⟨g2, h⟩ := zif h
  refine zG.blk (pc' := 11) (l' := [some (2, a0), some (2, a1)]) (st' := [(0, 5), (0, 0), (2, M a0 0), (0, 0), (2, M a1 5)]) (M' := M) hX [(.aload_n 1, 0, 0, 0), (.getfield 30, 9, 5, 2), (.iconst 0, 0, 0, 0), (.aload_n 0, 0, 0, 0), (.getfield 9, 6, 0, 2), (.iconst 0, 0, 0, 0), (.iconst 5, 0, 0, 0)] (by decide +kernel) rfl (And.intro g1 (And.intro g2 trivial)) ?_
  obtain ⟨g3, h⟩ := zif h
  obtain ⟨g4, h⟩ := zif h
  obtain ⟨g5, h⟩ := zif h
  refine zG.copy hX sk_6_33 sk_1 sk_2 sk_3 (by decide +kernel) g3 g4 g5 (by rw [hRm]; exact ⟨Nat.le_of_ble_eq_true rfl, Nat.le_of_ble_eq_true rfl⟩) ?_
  show zG C E 2 S 0 0 _ 14 [some (2, a0), some (2, a1)] [] (zCpy M (M a1 5) (M a0 0) 5)
  generalize zCpy M (M a1 5) (M a0 0) 5 = M6 at h ⊢
  have h := zlt h
  exact (pX6_begin_14_ok hX hRm h)
theorem pX6_begin_ok {l : Launch} {E : ZE} {S : ZS} {M : ZM} {a0 a1 : Int} {q : ZM} (h : pX6_begin S M a0 a1 = some q) : zMet l yX6_begin cX6_begin 2 none 2 63 0 0 E S M [(2, a0), (2, a1)] (none) S q :=
  zMet.of (o := 6) (ini := false) (by decide +kernel) rfl (fun h => by cases h) (Nat.le_of_ble_eq_true rfl) (fun C hX hl hRm => by subst hl; exact pX6_begin_go hX hRm h)
theorem sv_2_68 : zSV 2 68 yX6_begin cX6_begin 2 none 1 := ⟨⟨gt_at 1068 (by decide +kernel) rfl, gt_at 662 (by decide +kernel) rfl, gt_at 663 (by decide +kernel) rfl, gt_at 111 (by decide +kernel) rfl, gt_at 664 (by decide +kernel) rfl⟩, by decide +kernel, by decide +kernel, by decide +kernel⟩
theorem sv_2_84 : zSV 2 84 yX2_agreesToday cX2_agreesToday 3 (some .boolean) 1 := ⟨⟨gt_at 1069 (by decide +kernel) rfl, gt_at 1071 (by decide +kernel) rfl, gt_at 34 (by decide +kernel) rfl, gt_at 115 (by decide +kernel) rfl, gt_at 1072 (by decide +kernel) rfl⟩, by decide +kernel, by decide +kernel, by decide +kernel⟩
theorem sv_2_88 : zSV 2 88 yX0_one cX0_one 5 (some .int) 3 := ⟨⟨gt_at 1073 (by decide +kernel) rfl, gt_at 796 (by decide +kernel) rfl, gt_at 797 (by decide +kernel) rfl, gt_at 113 (by decide +kernel) rfl, gt_at 798 (by decide +kernel) rfl⟩, by decide +kernel, by decide +kernel, by decide +kernel⟩
noncomputable def pX2_agrees_46 (S : ZS) : Nat → ZM → Int → Int → Int → Int → Int → Option (Int × ZM)
  | 0 => fun _ _ _ _ _ _ => none
  | n + 1 => fun M x0 x1 x2 x3 x4 => if x3 < x4 then (some (1, M)) else (if S.1 x0 = 2 then (pX2_agreesToday S M x0 x1).bind fun q8 => if q8.1 = 0 then (some (0, q8.2)) else (if S.1 x1 = 10 then if S.1 (q8.2 x0 0) = 0 then (pX0_one S q8.2 (q8.2 x0 0) (q8.2 x1 0) (q8.2 x0 1) x2).bind fun q13 => pX2_agrees_46 S n q13.2 x0 x1 x2 x3 (w32 (x4 + 1)) else none else none) else none)
set_option maxHeartbeats 2000000 in
set_option maxRecDepth 20000 in
theorem pX2_agrees_46_ok {C : ZC} {E : ZE} {S : ZS} {q : (Int × ZM)} (hX : zCx C E 2 cX2_agrees 5 (some .boolean) false) (hRm : czR C = { frames := 5, cells := 0, slots := 0, locals := 139 }) : ∀ (n : Nat) (M : ZM) (x0 : Int) (x1 : Int) (x2 : Int) (x3 : Int) (x4 : Int), pX2_agrees_46 S n M x0 x1 x2 x3 x4 = some q → zG C E 5 S 0 0 (zQ C E 0 0 (some (0, q.1)) S q.2) 46 [some (2, x0), some (2, x1), some (2, x2), some (0, x3), some (0, x4)] [] M := by
  intro n
  induction n with
  | zero => intro M x0 x1 x2 x3 x4 h; cases h
  | succ n ih =>
    intro M x0 x1 x2 x3 x4 h
    unfold pX2_agrees_46 at h
    refine zG.blk (pc' := 49) (l' := [some (2, x0), some (2, x1), some (2, x2), some (0, x3), some (0, x4)]) (st' := [(0, x3), (0, x4)]) (M' := M) hX [(.iload 4, 0, 0, 0), (.iload_n 3, 0, 0, 0)] (by decide +kernel) rfl trivial ?_
    refine zG.icmp_gt (tgt := 85) (off := 36) hX (by decide +kernel) (by decide) (fun c7 => ?_) (fun c7 => ?_)
    · have h := zip c7 h
      refine zG.blk (pc' := 86) (l' := [some (2, x0), some (2, x1), some (2, x2), some (0, x3), some (0, x4)]) (st' := [(0, 1)]) (M' := M) hX [(.iconst 1, 0, 0, 0)] (by decide +kernel) rfl trivial ?_
      cases h
      exact zG.zret hX (by decide +kernel) (Or.inr rfl)
    · have h := zin c7 h
      refine zG.blk (pc' := 54) (l' := [some (2, x0), some (2, x1), some (2, x2), some (0, x3), some (0, x4)]) (st' := [(2, x1), (2, x0)]) (M' := M) hX [(.aload_n 0, 0, 0, 0), (.aload_n 1, 0, 0, 0)] (by decide +kernel) rfl trivial ?_
      obtain ⟨g10, h⟩ := zif h
      obtain ⟨q8, e9, h⟩ := zbd h
      refine zG.callV (b := x0) (av := [(2, x1)]) (st := []) (ci := 2) hX (pX2_agreesToday_ok e9) sv_2_84 rfl ⟨by decide, rfl⟩ g10 (by decide +kernel) (by rw [hRm]; exact ⟨Nat.le_of_ble_eq_true rfl, Nat.le_of_ble_eq_true rfl⟩) (by rw [hRm]; exact ⟨Nat.le_of_ble_eq_true rfl, Nat.le_of_ble_eq_true rfl⟩) (Nat.le_of_ble_eq_true rfl) ?_
      show zG C E 5 S 0 0 _ 57 [some (2, x0), some (2, x1), some (2, x2), some (0, x3), some (0, x4)] [(0, q8.1)] q8.2
      refine zG.if_ne (tgt := 62) (off := 5) hX (by decide +kernel) (by decide) (fun c11 => ?_) (fun c11 => ?_)
      · have h := zin c11 h
        obtain ⟨g12, h⟩ := zif h
        refine zG.blk (pc' := 75) (l' := [some (2, x0), some (2, x1), some (2, x2), some (0, x3), some (0, x4)]) (st' := [(2, x2), (2, q8.2 x0 1), (2, q8.2 x1 0), (2, q8.2 x0 0)]) (M' := q8.2) hX [(.aload_n 0, 0, 0, 0), (.getfield 12, 2, 0, 2), (.aload_n 1, 0, 0, 0), (.getfield 44, 10, 0, 2), (.aload_n 0, 0, 0, 0), (.getfield 21, 2, 1, 2), (.aload_n 2, 0, 0, 0)] (by decide +kernel) rfl (And.intro g10 (And.intro g12 (And.intro g10 trivial))) ?_
        obtain ⟨g15, h⟩ := zif h
        obtain ⟨q13, e14, h⟩ := zbd h
        refine zG.callV (b := q8.2 x0 0) (av := [(2, q8.2 x1 0), (2, q8.2 x0 1), (2, x2)]) (st := []) (ci := 0) hX (pX0_one_ok e14) sv_2_88 rfl ⟨by decide, rfl⟩ g15 (by decide +kernel) (by rw [hRm]; exact ⟨Nat.le_of_ble_eq_true rfl, Nat.le_of_ble_eq_true rfl⟩) (by rw [hRm]; exact ⟨Nat.le_of_ble_eq_true rfl, Nat.le_of_ble_eq_true rfl⟩) (Nat.le_of_ble_eq_true rfl) ?_
        show zG C E 5 S 0 0 _ 78 [some (2, x0), some (2, x1), some (2, x2), some (0, x3), some (0, x4)] [(0, q13.1)] q13.2
        refine zG.blk (pc' := 82) (l' := [some (2, x0), some (2, x1), some (2, x2), some (0, x3), some (0, w32 (x4 + 1))]) (st' := []) (M' := q13.2) hX [(.pop, 0, 0, 0), (.iinc 4 1, 0, 0, 0)] (by decide +kernel) rfl trivial ?_
        refine zG.goto (tgt := 46) (off := (-36)) hX (by decide +kernel) (by decide) ?_
        exact ih _ _ _ _ _ _ h
      · have h := zip c11 h
        refine zG.blk (pc' := 61) (l' := [some (2, x0), some (2, x1), some (2, x2), some (0, x3), some (0, x4)]) (st' := [(0, 0)]) (M' := q8.2) hX [(.iconst 0, 0, 0, 0)] (by decide +kernel) rfl trivial ?_
        cases h
        exact zG.zret hX (by decide +kernel) (Or.inl rfl)
theorem sm_2_78 : Cond.methodLink (zOwn 2) 78 Lib.Math.max.name ∈ gt := gt_at 1045 (by decide +kernel) rfl
noncomputable def pX2_agrees_5 (S : ZS) : Nat → ZM → Int → Int → Int → Int → Int → Option (Int × ZM)
  | 0 => fun _ _ _ _ _ _ => none
  | n + 1 => fun M x0 x1 x2 x3 x4 => if S.1 x1 = 10 then if M x1 7 ≤ x4 then (if S.1 x0 = 2 then if S.1 (M x0 1) = 6 then (pX6_begin S M (M x0 1) (M x1 0)).bind fun q4 => pX2_agrees_46 S zFU q4 x0 x1 x2 x3 0 else none else none) else (if S.1 (M x1 4) = 100 ∧ (0 : Int) ≤ x4 ∧ x4 < S.2.1 (M x1 4) then zlet (if x3 < M (M x1 4) x4 then (M (M x1 4) x4 : Int) else x3) fun x17 => pX2_agrees_5 S n M x0 x1 x2 x17 (w32 (x4 + 1)) else none) else none
set_option maxHeartbeats 2000000 in
set_option maxRecDepth 20000 in
theorem pX2_agrees_5_ok {C : ZC} {E : ZE} {S : ZS} {q : (Int × ZM)} (hX : zCx C E 2 cX2_agrees 5 (some .boolean) false) (hRm : czR C = { frames := 5, cells := 0, slots := 0, locals := 139 }) : ∀ (n : Nat) (M : ZM) (x0 : Int) (x1 : Int) (x2 : Int) (x3 : Int) (x4 : Int), pX2_agrees_5 S n M x0 x1 x2 x3 x4 = some q → zG C E 5 S 0 0 (zQ C E 0 0 (some (0, q.1)) S q.2) 5 [some (2, x0), some (2, x1), some (2, x2), some (0, x3), some (0, x4)] [] M := by
  intro n
  induction n with
  | zero => intro M x0 x1 x2 x3 x4 h; cases h
  | succ n ih =>
    intro M x0 x1 x2 x3 x4 h
    unfold pX2_agrees_5 at h
    obtain ⟨g1, h⟩ := zif h
    refine zG.blk (pc' := 11) (l' := [some (2, x0), some (2, x1), some (2, x2), some (0, x3), some (0, x4)]) (st' := [(0, M x1 7), (0, x4)]) (M' := M) hX [(.iload 4, 0, 0, 0), (.aload_n 1, 0, 0, 0), (.getfield 71, 10, 7, 0)] (by decide +kernel) rfl (And.intro g1 trivial) ?_
    refine zG.icmp_ge (tgt := 32) (off := 21) hX (by decide +kernel) (by decide) (fun c2 => ?_) (fun c2 => ?_)
    · have h := zip c2 h
      obtain ⟨g3, h⟩ := zif h
      refine zG.blk (pc' := 40) (l' := [some (2, x0), some (2, x1), some (2, x2), some (0, x3), some (0, x4)]) (st' := [(2, M x1 0), (2, M x0 1)]) (M' := M) hX [(.aload_n 0, 0, 0, 0), (.getfield 21, 2, 1, 2), (.aload_n 1, 0, 0, 0), (.getfield 44, 10, 0, 2)] (by decide +kernel) rfl (And.intro g3 (And.intro g1 trivial)) ?_
      obtain ⟨g6, h⟩ := zif h
      obtain ⟨q4, e5, h⟩ := zbd h
      refine zG.callV (b := M x0 1) (av := [(2, M x1 0)]) (st := []) (ci := 6) hX (pX6_begin_ok e5) sv_2_68 rfl ⟨by decide, rfl⟩ g6 (by decide +kernel) (by rw [hRm]; exact ⟨Nat.le_of_ble_eq_true rfl, Nat.le_of_ble_eq_true rfl⟩) (by rw [hRm]; exact ⟨Nat.le_of_ble_eq_true rfl, Nat.le_of_ble_eq_true rfl⟩) (Nat.le_of_ble_eq_true rfl) ?_
      show zG C E 5 S 0 0 _ 43 [some (2, x0), some (2, x1), some (2, x2), some (0, x3), some (0, x4)] [] q4
      refine zG.blk (pc' := 46) (l' := [some (2, x0), some (2, x1), some (2, x2), some (0, x3), some (0, 0)]) (st' := []) (M' := q4) hX [(.iconst 0, 0, 0, 0), (.istore 4, 0, 0, 0)] (by decide +kernel) rfl trivial ?_
      exact (pX2_agrees_46_ok hX hRm zFU _ _ _ _ _ _ h)
    · have h := zin c2 h
      obtain ⟨g16, h⟩ := zif h
      refine zG.blk (pc' := 22) (l' := [some (2, x0), some (2, x1), some (2, x2), some (0, x3), some (0, x4)]) (st' := [(0, M (M x1 4) x4), (0, x3)]) (M' := M) hX [(.iload_n 3, 0, 0, 0), (.aload_n 1, 0, 0, 0), (.getfield 75, 10, 4, 2), (.iload 4, 0, 0, 0), (.iaload, 0, 0, 0)] (by decide +kernel) rfl (And.intro g1 (And.intro g16 trivial)) ?_
      refine zG.max hX sm_2_78 sm_max_1 sm_1 sm_max_2 (by decide +kernel) (by rw [hRm]; exact ⟨Nat.le_of_ble_eq_true rfl, Nat.le_of_ble_eq_true rfl⟩) (by rw [hRm]; exact ⟨Nat.le_of_ble_eq_true rfl, Nat.le_of_ble_eq_true rfl⟩) ?_
      show zG C E 5 S 0 0 _ 25 [some (2, x0), some (2, x1), some (2, x2), some (0, x3), some (0, x4)] [(0, (if x3 < M (M x1 4) x4 then (M (M x1 4) x4 : Int) else x3))] M
      refine zG.blk (pc' := 26) (l' := [some (2, x0), some (2, x1), some (2, x2), some (0, (if x3 < M (M x1 4) x4 then (M (M x1 4) x4 : Int) else x3)), some (0, x4)]) (st' := []) (M' := M) hX [(.istore_n 3, 0, 0, 0)] (by decide +kernel) rfl trivial ?_
      generalize (if x3 < M (M x1 4) x4 then (M (M x1 4) x4 : Int) else x3) = x17 at h ⊢
      have h := zlt h
      refine zG.blk (pc' := 29) (l' := [some (2, x0), some (2, x1), some (2, x2), some (0, x17), some (0, w32 (x4 + 1))]) (st' := []) (M' := M) hX [(.iinc 4 1, 0, 0, 0)] (by decide +kernel) rfl trivial ?_
      refine zG.goto (tgt := 5) (off := (-24)) hX (by decide +kernel) (by decide) ?_
      exact ih _ _ _ _ _ _ h
noncomputable def pX2_agrees (S : ZS) (M : ZM) (a0 : Int) (a1 : Int) (a2 : Int) : Option (Int × ZM) := pX2_agrees_5 S zFU M a0 a1 a2 0 0
set_option maxHeartbeats 2000000 in
set_option maxRecDepth 20000 in
theorem pX2_agrees_go {C : ZC} {E : ZE} {S : ZS} {M : ZM} {a0 a1 a2 : Int} {q : (Int × ZM)} (hX : zCx C E 2 cX2_agrees 5 (some .boolean) false) (hRm : czR C = { frames := 5, cells := 0, slots := 0, locals := 139 }) (h : pX2_agrees  S M a0 a1 a2 = some q) : zG C E 5 S 0 0 (zQ C E 0 0 (some (0, q.1)) S q.2) 0 [some (2, a0), some (2, a1), some (2, a2), none, none] [] M := by
  unfold pX2_agrees at h
  refine zG.blk (pc' := 5) (l' := [some (2, a0), some (2, a1), some (2, a2), some (0, 0), some (0, 0)]) (st' := []) (M' := M) hX [(.iconst 0, 0, 0, 0), (.istore_n 3, 0, 0, 0), (.iconst 0, 0, 0, 0), (.istore 4, 0, 0, 0)] (by decide +kernel) rfl trivial ?_
  exact (pX2_agrees_5_ok hX hRm zFU _ _ _ _ _ _ h)
theorem pX2_agrees_ok {l : Launch} {E : ZE} {S : ZS} {M : ZM} {a0 a1 a2 : Int} {q : (Int × ZM)} (h : pX2_agrees S M a0 a1 a2 = some q) : zMet l yX2_agrees cX2_agrees 5 (some .boolean) 5 139 0 0 E S M [(2, a0), (2, a1), (2, a2)] (some (0, q.1)) S q.2 :=
  zMet.of (o := 2) (ini := false) (by decide +kernel) rfl (fun h => by cases h) (Nat.le_of_ble_eq_true rfl) (fun C hX hl hRm => by subst hl; exact pX2_agrees_go hX hRm h)
noncomputable def pX2_ruleOf_17 (S : ZS) (M : ZM) (y0 : Int) : Option (Int × ZM) := some (y0, M)
set_option maxHeartbeats 2000000 in
set_option maxRecDepth 20000 in
theorem pX2_ruleOf_17_ok {C : ZC} {E : ZE} {S : ZS} {q : (Int × ZM)} (hX : zCx C E 2 cX2_ruleOf 2 (some (.object "SkySpire$Rule")) false) (hRm : czR C = { frames := 1, cells := 0, slots := 0, locals := 40 }) {M : ZM} {y0 : Int} (h : pX2_ruleOf_17 S M y0 = some q) : zG C E 2 S 0 0 (zQ C E 0 0 (some (2, q.1)) S q.2) 17 [none, none] [(2, y0)] M := by
  unfold pX2_ruleOf_17 at h
  cases h
  exact zG.aret hX (Or.inl ⟨_, rfl⟩) (by decide +kernel) (by decide)
noncomputable def pX2_ruleOf_16 (S : ZS) (M : ZM) : Option (Int × ZM) := pX2_ruleOf_17 S M 0
set_option maxHeartbeats 2000000 in
set_option maxRecDepth 20000 in
theorem pX2_ruleOf_16_ok {C : ZC} {E : ZE} {S : ZS} {q : (Int × ZM)} (hX : zCx C E 2 cX2_ruleOf 2 (some (.object "SkySpire$Rule")) false) (hRm : czR C = { frames := 1, cells := 0, slots := 0, locals := 40 }) {M : ZM} (h : pX2_ruleOf_16 S M = some q) : zG C E 2 S 0 0 (zQ C E 0 0 (some (2, q.1)) S q.2) 16 [none, none] [] M := by
  unfold pX2_ruleOf_16 at h
  refine zG.blk (pc' := 17) (l' := [none, none]) (st' := [(2, 0)]) (M' := M) hX [(.aconst_null, 0, 0, 0)] (by decide +kernel) rfl trivial ?_
  exact (pX2_ruleOf_17_ok hX hRm h)
noncomputable def pX2_ruleOf (S : ZS) (M : ZM) (a0 : Int) (a1 : Int) : Option (Int × ZM) := if a1 < 0 then (pX2_ruleOf_16 S M) else (if S.1 a0 = 104 then if S.2.1 a0 ≤ a1 then (pX2_ruleOf_16 S M) else (if S.1 a0 = 104 ∧ (0 : Int) ≤ a1 ∧ a1 < S.2.1 a0 then pX2_ruleOf_17 S M (M a0 a1) else none) else none)
set_option maxHeartbeats 2000000 in
set_option maxRecDepth 20000 in
theorem pX2_ruleOf_go {C : ZC} {E : ZE} {S : ZS} {M : ZM} {a0 a1 : Int} {q : (Int × ZM)} (hX : zCx C E 2 cX2_ruleOf 2 (some (.object "SkySpire$Rule")) false) (hRm : czR C = { frames := 1, cells := 0, slots := 0, locals := 40 }) (h : pX2_ruleOf  S M a0 a1 = some q) : zG C E 2 S 0 0 (zQ C E 0 0 (some (2, q.1)) S q.2) 0 [some (2, a0), some (0, a1)] [] M := by
  unfold pX2_ruleOf at h
  refine zG.blk (pc' := 1) (l' := [some (2, a0), some (0, a1)]) (st' := [(0, a1)]) (M' := M) hX [(.iload_n 1, 0, 0, 0)] (by decide +kernel) rfl trivial ?_
  refine zG.if_lt (tgt := 16) (off := 15) hX (by decide +kernel) (by decide) (fun c1 => ?_) (fun c1 => ?_)
  · have h := zip c1 h
    exact zG.wk [false, false] (pX2_ruleOf_16_ok hX hRm h)
  · have h := zin c1 h
    obtain ⟨g2, h⟩ := zif h
    refine zG.blk (pc' := 7) (l' := [some (2, a0), some (0, a1)]) (st' := [(0, S.2.1 a0), (0, a1)]) (M' := M) hX [(.iload_n 1, 0, 0, 0), (.aload_n 0, 0, 0, 0), (.arraylength, 104, 0, 0)] (by decide +kernel) rfl (And.intro g2 trivial) ?_
    refine zG.icmp_ge (tgt := 16) (off := 9) hX (by decide +kernel) (by decide) (fun c3 => ?_) (fun c3 => ?_)
    · have h := zip c3 h
      exact zG.wk [false, false] (pX2_ruleOf_16_ok hX hRm h)
    · have h := zin c3 h
      obtain ⟨g4, h⟩ := zif h
      refine zG.blk (pc' := 13) (l' := [some (2, a0), some (0, a1)]) (st' := [(2, M a0 a1)]) (M' := M) hX [(.aload_n 0, 0, 0, 0), (.iload_n 1, 0, 0, 0), (.aaload, 104, 0, 0)] (by decide +kernel) rfl (And.intro g4 trivial) ?_
      refine zG.goto (tgt := 17) (off := 4) hX (by decide +kernel) (by decide) ?_
      exact zG.wk [false, false] (pX2_ruleOf_17_ok hX hRm h)
theorem pX2_ruleOf_ok {l : Launch} {E : ZE} {S : ZS} {M : ZM} {a0 a1 : Int} {q : (Int × ZM)} (h : pX2_ruleOf S M a0 a1 = some q) : zMet l yX2_ruleOf cX2_ruleOf 2 (some (.object "SkySpire$Rule")) 1 40 0 0 E S M [(2, a0), (0, a1)] (some (2, q.1)) S q.2 :=
  zMet.of (o := 2) (ini := false) (by decide +kernel) rfl (fun h => by cases h) (Nat.le_of_ble_eq_true rfl) (fun C hX hl hRm => by subst hl; exact pX2_ruleOf_go hX hRm h)
theorem ss_2_48 : zSS 2 48 yX2_ruleOf cX2_ruleOf 2 (some (.object "SkySpire$Rule")) 2 := ⟨⟨gt_at 1033 (by decide +kernel) rfl, gt_at 1034 (by decide +kernel) rfl, gt_at 115 (by decide +kernel) rfl, gt_at 1035 (by decide +kernel) rfl⟩, by decide +kernel, by decide +kernel, by decide +kernel⟩
theorem sv_2_64 : zSV 2 64 yX2_agrees cX2_agrees 5 (some .boolean) 2 := ⟨⟨gt_at 1064 (by decide +kernel) rfl, gt_at 1066 (by decide +kernel) rfl, gt_at 33 (by decide +kernel) rfl, gt_at 115 (by decide +kernel) rfl, gt_at 1067 (by decide +kernel) rfl⟩, by decide +kernel, by decide +kernel, by decide +kernel⟩
noncomputable def pX2_agreeing_10 (S : ZS) : Nat → ZM → Int → Int → Int → Int → Int → Int → Int → Int → Option (Int × ZM)
  | 0 => fun _ _ _ _ _ _ _ _ _ => none
  | n + 1 => fun M x0 x1 x2 x3 x4 x5 x6 x7 => if x3 ≤ x7 then (some ((if x4 = 0 then (x5 : Int) else x6), M)) else ((pX2_ruleOf S M x2 x7).bind fun q4 => if S.1 x0 = 2 then (pX2_agrees S q4.2 x0 x1 q4.1).bind fun q6 => pX2_agreeing_10 S n q6.2 x0 x1 x2 x3 x4 (if q6.1 = 0 then (x5 : Int) else (w32 (x5 + 1))) (if q6.1 = 0 then (x6 : Int) else (if x6 = (-2) then (x7 : Int) else x6)) (w32 (x7 + 1)) else none)
set_option maxHeartbeats 2000000 in
set_option maxRecDepth 20000 in
theorem pX2_agreeing_10_ok {C : ZC} {E : ZE} {S : ZS} {q : (Int × ZM)} (hX : zCx C E 2 cX2_agreeing 8 (some .int) false) (hRm : czR C = { frames := 6, cells := 0, slots := 0, locals := 163 }) : ∀ (n : Nat) (M : ZM) (x0 : Int) (x1 : Int) (x2 : Int) (x3 : Int) (x4 : Int) (x5 : Int) (x6 : Int) (x7 : Int), pX2_agreeing_10 S n M x0 x1 x2 x3 x4 x5 x6 x7 = some q → zG C E 8 S 0 0 (zQ C E 0 0 (some (0, q.1)) S q.2) 10 [some (2, x0), some (2, x1), some (2, x2), some (0, x3), some (0, x4), some (0, x5), some (0, x6), some (0, x7)] [] M := by
  intro n
  induction n with
  | zero => intro M x0 x1 x2 x3 x4 x5 x6 x7 h; cases h
  | succ n ih =>
    intro M x0 x1 x2 x3 x4 x5 x6 x7 h
    unfold pX2_agreeing_10 at h
    refine zG.blk (pc' := 13) (l' := [some (2, x0), some (2, x1), some (2, x2), some (0, x3), some (0, x4), some (0, x5), some (0, x6), some (0, x7)]) (st' := [(0, x3), (0, x7)]) (M' := M) hX [(.iload 7, 0, 0, 0), (.iload_n 3, 0, 0, 0)] (by decide +kernel) rfl trivial ?_
    refine zG.icmp_ge (tgt := 55) (off := 42) hX (by decide +kernel) (by decide) (fun c1 => ?_) (fun c1 => ?_)
    · have h := zip c1 h
      refine zG.blk (pc' := 57) (l' := [some (2, x0), some (2, x1), some (2, x2), some (0, x3), some (0, x4), some (0, x5), some (0, x6), some (0, x7)]) (st' := [(0, x4)]) (M' := M) hX [(.iload 4, 0, 0, 0)] (by decide +kernel) rfl trivial ?_
      have key2 : zG C E 8 S 0 0 (zQ C E 0 0 (some (0, q.1)) S q.2) 67 [some (2, x0), some (2, x1), some (2, x2), some (0, x3), some (0, x4), some (0, x5), some (0, x6), some (0, x7)] [(0, (if x4 = 0 then (x5 : Int) else x6))] M := by
        cases h
        exact zG.iret hX (by decide +kernel)
      refine zG.if_ne (tgt := 65) (off := 8) hX (by decide +kernel) (by decide) (fun c3 => ?_) (fun c3 => ?_)
      · refine zG.blk (pc' := 67) (l' := [some (2, x0), some (2, x1), some (2, x2), some (0, x3), some (0, x4), some (0, x5), some (0, x6), some (0, x7)]) (st' := [(0, x6)]) (M' := M) hX [(.iload 6, 0, 0, 0)] (by decide +kernel) rfl trivial ?_
        (have k := key2; simp only [if_neg c3] at k; exact k)
      · refine zG.blk (pc' := 62) (l' := [some (2, x0), some (2, x1), some (2, x2), some (0, x3), some (0, x4), some (0, x5), some (0, x6), some (0, x7)]) (st' := [(0, x5)]) (M' := M) hX [(.iload 5, 0, 0, 0)] (by decide +kernel) rfl trivial ?_
        refine zG.goto (tgt := 67) (off := 5) hX (by decide +kernel) (by decide) ?_
        (have k := key2; simp only [if_pos c3] at k; exact k)
    · have h := zin c1 h
      refine zG.blk (pc' := 21) (l' := [some (2, x0), some (2, x1), some (2, x2), some (0, x3), some (0, x4), some (0, x5), some (0, x6), some (0, x7)]) (st' := [(0, x7), (2, x2), (2, x1), (2, x0)]) (M' := M) hX [(.aload_n 0, 0, 0, 0), (.aload_n 1, 0, 0, 0), (.aload_n 2, 0, 0, 0), (.iload 7, 0, 0, 0)] (by decide +kernel) rfl trivial ?_
      obtain ⟨q4, e5, h⟩ := zbd h
      refine zG.callS (av := [(2, x2), (0, x7)]) (st := [(2, x1), (2, x0)]) hX (pX2_ruleOf_ok e5) ss_2_48 rfl (by decide +kernel) (by rw [hRm]; exact ⟨Nat.le_of_ble_eq_true rfl, Nat.le_of_ble_eq_true rfl⟩) (by rw [hRm]; exact ⟨Nat.le_of_ble_eq_true rfl, Nat.le_of_ble_eq_true rfl⟩) (Nat.le_of_ble_eq_true rfl) ?_
      show zG C E 8 S 0 0 _ 24 [some (2, x0), some (2, x1), some (2, x2), some (0, x3), some (0, x4), some (0, x5), some (0, x6), some (0, x7)] [(2, q4.1), (2, x1), (2, x0)] q4.2
      obtain ⟨g8, h⟩ := zif h
      obtain ⟨q6, e7, h⟩ := zbd h
      refine zG.callV (b := x0) (av := [(2, x1), (2, q4.1)]) (st := []) (ci := 2) hX (pX2_agrees_ok e7) sv_2_64 rfl ⟨by decide, rfl⟩ g8 (by decide +kernel) (by rw [hRm]; exact ⟨Nat.le_of_ble_eq_true rfl, Nat.le_of_ble_eq_true rfl⟩) (by rw [hRm]; exact ⟨Nat.le_of_ble_eq_true rfl, Nat.le_of_ble_eq_true rfl⟩) (Nat.le_of_ble_eq_true rfl) ?_
      show zG C E 8 S 0 0 _ 27 [some (2, x0), some (2, x1), some (2, x2), some (0, x3), some (0, x4), some (0, x5), some (0, x6), some (0, x7)] [(0, q6.1)] q6.2
      have key9 : zG C E 8 S 0 0 (zQ C E 0 0 (some (0, q.1)) S q.2) 49 [some (2, x0), some (2, x1), some (2, x2), some (0, x3), some (0, x4), some (0, (if q6.1 = 0 then (x5 : Int) else (w32 (x5 + 1)))), some (0, (if q6.1 = 0 then (x6 : Int) else (if x6 = (-2) then (x7 : Int) else x6))), some (0, x7)] [] q6.2 := by
        refine zG.blk (pc' := 52) (l' := [some (2, x0), some (2, x1), some (2, x2), some (0, x3), some (0, x4), some (0, (if q6.1 = 0 then (x5 : Int) else (w32 (x5 + 1)))), some (0, (if q6.1 = 0 then (x6 : Int) else (if x6 = (-2) then (x7 : Int) else x6))), some (0, w32 (x7 + 1))]) (st' := []) (M' := q6.2) hX [(.iinc 7 1, 0, 0, 0)] (by decide +kernel) rfl trivial ?_
        refine zG.goto (tgt := 10) (off := (-42)) hX (by decide +kernel) (by decide) ?_
        exact ih _ _ _ _ _ _ _ _ _ h
      refine zG.if_eq (tgt := 49) (off := 22) hX (by decide +kernel) (by decide) (fun c10 => ?_) (fun c10 => ?_)
      · (have k := key9; simp only [if_pos c10] at k; exact k)
      · refine zG.blk (pc' := 37) (l' := [some (2, x0), some (2, x1), some (2, x2), some (0, x3), some (0, x4), some (0, w32 (x5 + 1)), some (0, x6), some (0, x7)]) (st' := [(0, (-2)), (0, x6)]) (M' := q6.2) hX [(.iinc 5 1, 0, 0, 0), (.iload 6, 0, 0, 0), (.bipush (-2), 0, 0, 0)] (by decide +kernel) rfl trivial ?_
        refine zG.icmp_ne (tgt := 45) (off := 8) hX (by decide +kernel) (by decide) (fun c11 => ?_) (fun c11 => ?_)
        · refine zG.blk (pc' := 49) (l' := [some (2, x0), some (2, x1), some (2, x2), some (0, x3), some (0, x4), some (0, w32 (x5 + 1)), some (0, x6), some (0, x7)]) (st' := []) (M' := q6.2) hX [(.iload 6, 0, 0, 0), (.istore 6, 0, 0, 0)] (by decide +kernel) rfl trivial ?_
          (have k := key9; simp only [if_neg c10, if_neg c11] at k; exact k)
        · refine zG.blk (pc' := 42) (l' := [some (2, x0), some (2, x1), some (2, x2), some (0, x3), some (0, x4), some (0, w32 (x5 + 1)), some (0, x6), some (0, x7)]) (st' := [(0, x7)]) (M' := q6.2) hX [(.iload 7, 0, 0, 0)] (by decide +kernel) rfl trivial ?_
          refine zG.goto (tgt := 47) (off := 5) hX (by decide +kernel) (by decide) ?_
          refine zG.blk (pc' := 49) (l' := [some (2, x0), some (2, x1), some (2, x2), some (0, x3), some (0, x4), some (0, w32 (x5 + 1)), some (0, x7), some (0, x7)]) (st' := []) (M' := q6.2) hX [(.istore 6, 0, 0, 0)] (by decide +kernel) rfl trivial ?_
          (have k := key9; simp only [if_neg c10, if_pos c11] at k; exact k)
noncomputable def pX2_agreeing (S : ZS) (M : ZM) (a0 : Int) (a1 : Int) (a2 : Int) (a3 : Int) (a4 : Int) : Option (Int × ZM) := pX2_agreeing_10 S zFU M a0 a1 a2 a3 a4 0 (-2) (-1)
set_option maxHeartbeats 2000000 in
set_option maxRecDepth 20000 in
theorem pX2_agreeing_go {C : ZC} {E : ZE} {S : ZS} {M : ZM} {a0 a1 a2 a3 a4 : Int} {q : (Int × ZM)} (hX : zCx C E 2 cX2_agreeing 8 (some .int) false) (hRm : czR C = { frames := 6, cells := 0, slots := 0, locals := 163 }) (h : pX2_agreeing  S M a0 a1 a2 a3 a4 = some q) : zG C E 8 S 0 0 (zQ C E 0 0 (some (0, q.1)) S q.2) 0 [some (2, a0), some (2, a1), some (2, a2), some (0, a3), some (0, a4), none, none, none] [] M := by
  unfold pX2_agreeing at h
  refine zG.blk (pc' := 10) (l' := [some (2, a0), some (2, a1), some (2, a2), some (0, a3), some (0, a4), some (0, 0), some (0, (-2)), some (0, (-1))]) (st' := []) (M' := M) hX [(.iconst 0, 0, 0, 0), (.istore 5, 0, 0, 0), (.bipush (-2), 0, 0, 0), (.istore 6, 0, 0, 0), (.iconst (-1), 0, 0, 0), (.istore 7, 0, 0, 0)] (by decide +kernel) rfl trivial ?_
  exact (pX2_agreeing_10_ok hX hRm zFU _ _ _ _ _ _ _ _ _ h)
theorem pX2_agreeing_ok {l : Launch} {E : ZE} {S : ZS} {M : ZM} {a0 a1 a2 a3 a4 : Int} {q : (Int × ZM)} (h : pX2_agreeing S M a0 a1 a2 a3 a4 = some q) : zMet l yX2_agreeing cX2_agreeing 8 (some .int) 6 163 0 0 E S M [(2, a0), (2, a1), (2, a2), (0, a3), (0, a4)] (some (0, q.1)) S q.2 :=
  zMet.of (o := 2) (ini := false) (by decide +kernel) rfl (fun h => by cases h) (Nat.le_of_ble_eq_true rfl) (fun C hX hl hRm => by subst hl; exact pX2_agreeing_go hX hRm h)
noncomputable def pX2_bestParting_24 (S : ZS) (k9 : ZM → Int → Int → Int → Int → Int → Int → Option (Int × ZM)) : Nat → ZM → Int → Int → Int → Int → Int → Int → Int → Int → Option (Int × ZM)
  | 0 => fun _ _ _ _ _ _ _ _ _ => none
  | n + 1 => fun M x0 x1 x2 x3 x4 x5 x6 x7 => if 5 < x7 then (k9 M x0 x1 x2 (if x4 ≤ x6 then (x3 : Int) else x5) (if x4 ≤ x6 then (x4 : Int) else x6) (w32 (x5 + 1))) else (if S.1 x0 = 2 then if S.1 (M x0 2) = 100 ∧ (0 : Int) ≤ w32 ((w32 (x5 * 6)) + x7) ∧ w32 ((w32 (x5 * 6)) + x7) < S.2.1 (M x0 2) then zlet (if x6 < M (M x0 2) (w32 ((w32 (x5 * 6)) + x7)) then (M (M x0 2) (w32 ((w32 (x5 * 6)) + x7)) : Int) else x6) fun x10 => pX2_bestParting_24 S k9 n M x0 x1 x2 x3 x4 x5 x10 (w32 (x7 + 1)) else none else none)
set_option maxHeartbeats 2000000 in
set_option maxRecDepth 20000 in
theorem pX2_bestParting_24_ok {C : ZC} {E : ZE} {S : ZS} {k9 : ZM → Int → Int → Int → Int → Int → Int → Option (Int × ZM)} {q : (Int × ZM)} (hX : zCx C E 2 cX2_bestParting 8 (some .int) false) (hRm : czR C = { frames := 1, cells := 0, slots := 0, locals := 40 }) (hk9 : ∀ M x0 x1 x2 x3 x4 x5, k9 M x0 x1 x2 x3 x4 x5 = some q → zG C E 8 S 0 0 (zQ C E 0 0 (some (0, q.1)) S q.2) 9 [some (2, x0), some (2, x1), some (0, x2), some (0, x3), some (0, x4), some (0, x5), none, none] [] M) : ∀ (n : Nat) (M : ZM) (x0 : Int) (x1 : Int) (x2 : Int) (x3 : Int) (x4 : Int) (x5 : Int) (x6 : Int) (x7 : Int), pX2_bestParting_24 S k9 n M x0 x1 x2 x3 x4 x5 x6 x7 = some q → zG C E 8 S 0 0 (zQ C E 0 0 (some (0, q.1)) S q.2) 24 [some (2, x0), some (2, x1), some (0, x2), some (0, x3), some (0, x4), some (0, x5), some (0, x6), some (0, x7)] [] M := by
  intro n
  induction n with
  | zero => intro M x0 x1 x2 x3 x4 x5 x6 x7 h; cases h
  | succ n ih =>
    intro M x0 x1 x2 x3 x4 x5 x6 x7 h
    unfold pX2_bestParting_24 at h
    refine zG.blk (pc' := 27) (l' := [some (2, x0), some (2, x1), some (0, x2), some (0, x3), some (0, x4), some (0, x5), some (0, x6), some (0, x7)]) (st' := [(0, 5), (0, x7)]) (M' := M) hX [(.iload 7, 0, 0, 0), (.iconst 5, 0, 0, 0)] (by decide +kernel) rfl trivial ?_
    refine zG.icmp_gt (tgt := 56) (off := 29) hX (by decide +kernel) (by decide) (fun c5 => ?_) (fun c5 => ?_)
    · have h := zip c5 h
      refine zG.blk (pc' := 60) (l' := [some (2, x0), some (2, x1), some (0, x2), some (0, x3), some (0, x4), some (0, x5), some (0, x6), some (0, x7)]) (st' := [(0, x4), (0, x6)]) (M' := M) hX [(.iload 6, 0, 0, 0), (.iload 4, 0, 0, 0)] (by decide +kernel) rfl trivial ?_
      have key6 : zG C E 8 S 0 0 (zQ C E 0 0 (some (0, q.1)) S q.2) 70 [some (2, x0), some (2, x1), some (0, x2), some (0, (if x4 ≤ x6 then (x3 : Int) else x5)), some (0, (if x4 ≤ x6 then (x4 : Int) else x6)), some (0, x5), some (0, x6), some (0, x7)] [] M := by
        refine zG.blk (pc' := 73) (l' := [some (2, x0), some (2, x1), some (0, x2), some (0, (if x4 ≤ x6 then (x3 : Int) else x5)), some (0, (if x4 ≤ x6 then (x4 : Int) else x6)), some (0, w32 (x5 + 1)), some (0, x6), some (0, x7)]) (st' := []) (M' := M) hX [(.iinc 5 1, 0, 0, 0)] (by decide +kernel) rfl trivial ?_
        refine zG.goto (tgt := 9) (off := (-64)) hX (by decide +kernel) (by decide) ?_
        exact zG.wk [true, true, true, true, true, true, false, false] (hk9 _ _ _ _ _ _ _ h)
      refine zG.icmp_ge (tgt := 70) (off := 10) hX (by decide +kernel) (by decide) (fun c7 => ?_) (fun c7 => ?_)
      · (have k := key6; simp only [if_pos c7] at k; exact k)
      · refine zG.blk (pc' := 70) (l' := [some (2, x0), some (2, x1), some (0, x2), some (0, x5), some (0, x6), some (0, x5), some (0, x6), some (0, x7)]) (st' := []) (M' := M) hX [(.iload 5, 0, 0, 0), (.istore_n 3, 0, 0, 0), (.iload 6, 0, 0, 0), (.istore 4, 0, 0, 0)] (by decide +kernel) rfl trivial ?_
        (have k := key6; simp only [if_neg c7] at k; exact k)
    · have h := zin c5 h
      obtain ⟨g8, h⟩ := zif h
      obtain ⟨g9, h⟩ := zif h
      refine zG.blk (pc' := 45) (l' := [some (2, x0), some (2, x1), some (0, x2), some (0, x3), some (0, x4), some (0, x5), some (0, x6), some (0, x7)]) (st' := [(0, M (M x0 2) (w32 ((w32 (x5 * 6)) + x7))), (0, x6)]) (M' := M) hX [(.iload 6, 0, 0, 0), (.aload_n 0, 0, 0, 0), (.getfield 25, 2, 2, 2), (.iload 5, 0, 0, 0), (.bipush 6, 0, 0, 0), (.imul, 0, 0, 0), (.iload 7, 0, 0, 0), (.iadd, 0, 0, 0), (.iaload, 0, 0, 0)] (by decide +kernel) rfl (And.intro g8 (And.intro g9 trivial)) ?_
      refine zG.max hX sm_2_78 sm_max_1 sm_1 sm_max_2 (by decide +kernel) (by rw [hRm]; exact ⟨Nat.le_of_ble_eq_true rfl, Nat.le_of_ble_eq_true rfl⟩) (by rw [hRm]; exact ⟨Nat.le_of_ble_eq_true rfl, Nat.le_of_ble_eq_true rfl⟩) ?_
      show zG C E 8 S 0 0 _ 48 [some (2, x0), some (2, x1), some (0, x2), some (0, x3), some (0, x4), some (0, x5), some (0, x6), some (0, x7)] [(0, (if x6 < M (M x0 2) (w32 ((w32 (x5 * 6)) + x7)) then (M (M x0 2) (w32 ((w32 (x5 * 6)) + x7)) : Int) else x6))] M
      refine zG.blk (pc' := 50) (l' := [some (2, x0), some (2, x1), some (0, x2), some (0, x3), some (0, x4), some (0, x5), some (0, (if x6 < M (M x0 2) (w32 ((w32 (x5 * 6)) + x7)) then (M (M x0 2) (w32 ((w32 (x5 * 6)) + x7)) : Int) else x6)), some (0, x7)]) (st' := []) (M' := M) hX [(.istore 6, 0, 0, 0)] (by decide +kernel) rfl trivial ?_
      generalize (if x6 < M (M x0 2) (w32 ((w32 (x5 * 6)) + x7)) then (M (M x0 2) (w32 ((w32 (x5 * 6)) + x7)) : Int) else x6) = x10 at h ⊢
      have h := zlt h
      refine zG.blk (pc' := 53) (l' := [some (2, x0), some (2, x1), some (0, x2), some (0, x3), some (0, x4), some (0, x5), some (0, x10), some (0, w32 (x7 + 1))]) (st' := []) (M' := M) hX [(.iinc 7 1, 0, 0, 0)] (by decide +kernel) rfl trivial ?_
      refine zG.goto (tgt := 24) (off := (-29)) hX (by decide +kernel) (by decide) ?_
      exact ih _ _ _ _ _ _ _ _ _ h
noncomputable def pX2_bestParting_9 (S : ZS) : Nat → ZM → Int → Int → Int → Int → Int → Int → Option (Int × ZM)
  | 0 => fun _ _ _ _ _ _ _ => none
  | n + 1 => fun M x0 x1 x2 x3 x4 x5 => if S.1 x1 = 9 then if M x1 1 ≤ x5 then (some ((if x2 = 0 then (x3 : Int) else x4), M)) else (pX2_bestParting_24 S (pX2_bestParting_9 S n) zFU M x0 x1 x2 x3 x4 x5 0 0) else none
set_option maxHeartbeats 2000000 in
set_option maxRecDepth 20000 in
theorem pX2_bestParting_9_ok {C : ZC} {E : ZE} {S : ZS} {q : (Int × ZM)} (hX : zCx C E 2 cX2_bestParting 8 (some .int) false) (hRm : czR C = { frames := 1, cells := 0, slots := 0, locals := 40 }) : ∀ (n : Nat) (M : ZM) (x0 : Int) (x1 : Int) (x2 : Int) (x3 : Int) (x4 : Int) (x5 : Int), pX2_bestParting_9 S n M x0 x1 x2 x3 x4 x5 = some q → zG C E 8 S 0 0 (zQ C E 0 0 (some (0, q.1)) S q.2) 9 [some (2, x0), some (2, x1), some (0, x2), some (0, x3), some (0, x4), some (0, x5), none, none] [] M := by
  intro n
  induction n with
  | zero => intro M x0 x1 x2 x3 x4 x5 h; cases h
  | succ n ih =>
    intro M x0 x1 x2 x3 x4 x5 h
    unfold pX2_bestParting_9 at h
    obtain ⟨g1, h⟩ := zif h
    refine zG.blk (pc' := 15) (l' := [some (2, x0), some (2, x1), some (0, x2), some (0, x3), some (0, x4), some (0, x5), none, none]) (st' := [(0, M x1 1), (0, x5)]) (M' := M) hX [(.iload 5, 0, 0, 0), (.aload_n 1, 0, 0, 0), (.getfield 104, 9, 1, 0)] (by decide +kernel) rfl (And.intro g1 trivial) ?_
    refine zG.icmp_ge (tgt := 76) (off := 61) hX (by decide +kernel) (by decide) (fun c2 => ?_) (fun c2 => ?_)
    · have h := zip c2 h
      refine zG.blk (pc' := 77) (l' := [some (2, x0), some (2, x1), some (0, x2), some (0, x3), some (0, x4), some (0, x5), none, none]) (st' := [(0, x2)]) (M' := M) hX [(.iload_n 2, 0, 0, 0)] (by decide +kernel) rfl trivial ?_
      have key3 : zG C E 8 S 0 0 (zQ C E 0 0 (some (0, q.1)) S q.2) 86 [some (2, x0), some (2, x1), some (0, x2), some (0, x3), some (0, x4), some (0, x5), none, none] [(0, (if x2 = 0 then (x3 : Int) else x4))] M := by
        cases h
        exact zG.iret hX (by decide +kernel)
      refine zG.if_ne (tgt := 84) (off := 7) hX (by decide +kernel) (by decide) (fun c4 => ?_) (fun c4 => ?_)
      · refine zG.blk (pc' := 86) (l' := [some (2, x0), some (2, x1), some (0, x2), some (0, x3), some (0, x4), some (0, x5), none, none]) (st' := [(0, x4)]) (M' := M) hX [(.iload 4, 0, 0, 0)] (by decide +kernel) rfl trivial ?_
        (have k := key3; simp only [if_neg c4] at k; exact k)
      · refine zG.blk (pc' := 81) (l' := [some (2, x0), some (2, x1), some (0, x2), some (0, x3), some (0, x4), some (0, x5), none, none]) (st' := [(0, x3)]) (M' := M) hX [(.iload_n 3, 0, 0, 0)] (by decide +kernel) rfl trivial ?_
        refine zG.goto (tgt := 86) (off := 5) hX (by decide +kernel) (by decide) ?_
        (have k := key3; simp only [if_pos c4] at k; exact k)
    · have h := zin c2 h
      refine zG.blk (pc' := 24) (l' := [some (2, x0), some (2, x1), some (0, x2), some (0, x3), some (0, x4), some (0, x5), some (0, 0), some (0, 0)]) (st' := []) (M' := M) hX [(.iconst 0, 0, 0, 0), (.istore 6, 0, 0, 0), (.iconst 0, 0, 0, 0), (.istore 7, 0, 0, 0)] (by decide +kernel) rfl trivial ?_
      exact (pX2_bestParting_24_ok hX hRm ih zFU _ _ _ _ _ _ _ _ _ h)
noncomputable def pX2_bestParting (S : ZS) (M : ZM) (a0 : Int) (a1 : Int) (a2 : Int) : Option (Int × ZM) := pX2_bestParting_9 S zFU M a0 a1 a2 0 8 0
set_option maxHeartbeats 2000000 in
set_option maxRecDepth 20000 in
theorem pX2_bestParting_go {C : ZC} {E : ZE} {S : ZS} {M : ZM} {a0 a1 a2 : Int} {q : (Int × ZM)} (hX : zCx C E 2 cX2_bestParting 8 (some .int) false) (hRm : czR C = { frames := 1, cells := 0, slots := 0, locals := 40 }) (h : pX2_bestParting  S M a0 a1 a2 = some q) : zG C E 8 S 0 0 (zQ C E 0 0 (some (0, q.1)) S q.2) 0 [some (2, a0), some (2, a1), some (0, a2), none, none, none, none, none] [] M := by
  unfold pX2_bestParting at h
  refine zG.blk (pc' := 9) (l' := [some (2, a0), some (2, a1), some (0, a2), some (0, 0), some (0, 8), some (0, 0), none, none]) (st' := []) (M' := M) hX [(.iconst 0, 0, 0, 0), (.istore_n 3, 0, 0, 0), (.bipush 8, 0, 0, 0), (.istore 4, 0, 0, 0), (.iconst 0, 0, 0, 0), (.istore 5, 0, 0, 0)] (by decide +kernel) rfl trivial ?_
  exact (pX2_bestParting_9_ok hX hRm zFU _ _ _ _ _ _ _ h)
theorem pX2_bestParting_ok {l : Launch} {E : ZE} {S : ZS} {M : ZM} {a0 a1 a2 : Int} {q : (Int × ZM)} (h : pX2_bestParting S M a0 a1 a2 = some q) : zMet l yX2_bestParting cX2_bestParting 8 (some .int) 1 40 0 0 E S M [(2, a0), (2, a1), (0, a2)] (some (0, q.1)) S q.2 :=
  zMet.of (o := 2) (ini := false) (by decide +kernel) rfl (fun h => by cases h) (Nat.le_of_ble_eq_true rfl) (fun C hX hl hRm => by subst hl; exact pX2_bestParting_go hX hRm h)
theorem ss_2_29 : zSS 2 29 yJ7_fill_53178 cJ7_fill_53178 4 none 2 := ⟨⟨gt_at 1031 (by decide +kernel) rfl, gt_at 273 (by decide +kernel) rfl, gt_at 112 (by decide +kernel) rfl, gt_at 274 (by decide +kernel) rfl⟩, by decide +kernel, by decide +kernel, by decide +kernel⟩
noncomputable def pX2_bestToLookAt_105 (S : ZS) (M : ZM) (y0 : Int) : Option (Int × ZM) := some (y0, M)
set_option maxHeartbeats 2000000 in
set_option maxRecDepth 20000 in
theorem pX2_bestToLookAt_105_ok {C : ZC} {E : ZE} {S : ZS} {q : (Int × ZM)} (hX : zCx C E 2 cX2_bestToLookAt 9 (some .int) false) (hRm : czR C = { frames := 6, cells := 0, slots := 0, locals := 164 }) {M : ZM} {y0 : Int} (h : pX2_bestToLookAt_105 S M y0 = some q) : zG C E 9 S 0 0 (zQ C E 0 0 (some (0, q.1)) S q.2) 105 [none, none, none, none, none, none, none, none, none] [(0, y0)] M := by
  unfold pX2_bestToLookAt_105 at h
  cases h
  exact zG.iret hX (by decide +kernel)
theorem sv_2_60 : zSV 2 60 yX2_bestParting cX2_bestParting 8 (some .int) 2 := ⟨⟨gt_at 1041 (by decide +kernel) rfl, gt_at 1043 (by decide +kernel) rfl, gt_at 32 (by decide +kernel) rfl, gt_at 115 (by decide +kernel) rfl, gt_at 1044 (by decide +kernel) rfl⟩, by decide +kernel, by decide +kernel, by decide +kernel⟩
noncomputable def pX2_bestToLookAt_79 (S : ZS) (k14 : ZM → Int → Int → Int → Int → Int → Int → Int → Int → Option (Int × ZM)) (M : ZM) (x0 : Int) (x1 : Int) (x2 : Int) (x3 : Int) (x4 : Int) (x5 : Int) (x6 : Int) (x7 : Int) : Option (Int × ZM) := k14 M x0 x1 x2 x3 x4 x5 x6 (w32 (x7 + 1))
set_option maxHeartbeats 2000000 in
set_option maxRecDepth 20000 in
theorem pX2_bestToLookAt_79_ok {C : ZC} {E : ZE} {S : ZS} {k14 : ZM → Int → Int → Int → Int → Int → Int → Int → Int → Option (Int × ZM)} {q : (Int × ZM)} (hX : zCx C E 2 cX2_bestToLookAt 9 (some .int) false) (hRm : czR C = { frames := 6, cells := 0, slots := 0, locals := 164 }) (hk14 : ∀ M x0 x1 x2 x3 x4 x5 x6 x7, k14 M x0 x1 x2 x3 x4 x5 x6 x7 = some q → zG C E 9 S 0 0 (zQ C E 0 0 (some (0, q.1)) S q.2) 14 [some (2, x0), some (2, x1), some (2, x2), some (0, x3), some (0, x4), some (0, x5), some (0, x6), some (0, x7), none] [] M) {M : ZM} {x0 : Int} {x1 : Int} {x2 : Int} {x3 : Int} {x4 : Int} {x5 : Int} {x6 : Int} {x7 : Int} (h : pX2_bestToLookAt_79 S k14 M x0 x1 x2 x3 x4 x5 x6 x7 = some q) : zG C E 9 S 0 0 (zQ C E 0 0 (some (0, q.1)) S q.2) 79 [some (2, x0), some (2, x1), some (2, x2), some (0, x3), some (0, x4), some (0, x5), some (0, x6), some (0, x7), none] [] M := by
  unfold pX2_bestToLookAt_79 at h
  refine zG.blk (pc' := 82) (l' := [some (2, x0), some (2, x1), some (2, x2), some (0, x3), some (0, x4), some (0, x5), some (0, x6), some (0, w32 (x7 + 1)), none]) (st' := []) (M' := M) hX [(.iinc 7 1, 0, 0, 0)] (by decide +kernel) rfl trivial ?_
  refine zG.goto (tgt := 14) (off := (-68)) hX (by decide +kernel) (by decide) ?_
  exact (hk14 _ _ _ _ _ _ _ _ _ h)
theorem sv_2_52 : zSV 2 52 yX0_pass cX0_pass 6 none 4 := ⟨⟨gt_at 1036 (by decide +kernel) rfl, gt_at 898 (by decide +kernel) rfl, gt_at 899 (by decide +kernel) rfl, gt_at 113 (by decide +kernel) rfl, gt_at 900 (by decide +kernel) rfl⟩, by decide +kernel, by decide +kernel, by decide +kernel⟩
theorem sv_2_56 : zSV 2 56 yX2_addTrial cX2_addTrial 4 none 1 := ⟨⟨gt_at 1037 (by decide +kernel) rfl, gt_at 1039 (by decide +kernel) rfl, gt_at 31 (by decide +kernel) rfl, gt_at 115 (by decide +kernel) rfl, gt_at 1040 (by decide +kernel) rfl⟩, by decide +kernel, by decide +kernel, by decide +kernel⟩
noncomputable def pX2_bestToLookAt_14 (S : ZS) : Nat → ZM → Int → Int → Int → Int → Int → Int → Int → Int → Option (Int × ZM)
  | 0 => fun _ _ _ _ _ _ _ _ _ => none
  | n + 1 => fun M x0 x1 x2 x3 x4 x5 x6 x7 => if x3 ≤ x7 then (if x6 = 0 then (pX2_bestToLookAt_105 S M (-2)) else (if S.1 x1 = 10 then if S.1 x0 = 2 then (pX2_bestParting S M x0 (M x1 0) x5).bind fun q7 => pX2_bestToLookAt_105 S q7.2 q7.1 else none else none)) else ((pX2_ruleOf S M x2 x7).bind fun q10 => if S.1 x0 = 2 then (pX2_agrees S q10.2 x0 x1 q10.1).bind fun q12 => if q12.1 = 0 then (pX2_bestToLookAt_79 S (pX2_bestToLookAt_14 S n) q12.2 x0 x1 x2 x3 x4 x5 x6 x7) else (if S.1 x1 = 10 then if S.1 (q12.2 x0 1) = 6 then (pX6_begin S q12.2 (q12.2 x0 1) (q12.2 x1 0)).bind fun q17 => if S.1 (q17 x0 0) = 0 then (pX0_pass S q17 (q17 x0 0) (q17 x1 0) (q17 x0 1) q10.1 x4).bind fun q20 => (pX2_addTrial S q20 x0 (q20 x1 0)).bind fun q23 => pX2_bestToLookAt_79 S (pX2_bestToLookAt_14 S n) q23 x0 x1 x2 x3 x4 x5 1 x7 else none else none else none) else none)
set_option maxHeartbeats 2000000 in
set_option maxRecDepth 20000 in
theorem pX2_bestToLookAt_14_ok {C : ZC} {E : ZE} {S : ZS} {q : (Int × ZM)} (hX : zCx C E 2 cX2_bestToLookAt 9 (some .int) false) (hRm : czR C = { frames := 6, cells := 0, slots := 0, locals := 164 }) : ∀ (n : Nat) (M : ZM) (x0 : Int) (x1 : Int) (x2 : Int) (x3 : Int) (x4 : Int) (x5 : Int) (x6 : Int) (x7 : Int), pX2_bestToLookAt_14 S n M x0 x1 x2 x3 x4 x5 x6 x7 = some q → zG C E 9 S 0 0 (zQ C E 0 0 (some (0, q.1)) S q.2) 14 [some (2, x0), some (2, x1), some (2, x2), some (0, x3), some (0, x4), some (0, x5), some (0, x6), some (0, x7), none] [] M := by
  intro n
  induction n with
  | zero => intro M x0 x1 x2 x3 x4 x5 x6 x7 h; cases h
  | succ n ih =>
    intro M x0 x1 x2 x3 x4 x5 x6 x7 h
    unfold pX2_bestToLookAt_14 at h
    refine zG.blk (pc' := 17) (l' := [some (2, x0), some (2, x1), some (2, x2), some (0, x3), some (0, x4), some (0, x5), some (0, x6), some (0, x7), none]) (st' := [(0, x3), (0, x7)]) (M' := M) hX [(.iload 7, 0, 0, 0), (.iload_n 3, 0, 0, 0)] (by decide +kernel) rfl trivial ?_
    refine zG.icmp_ge (tgt := 85) (off := 68) hX (by decide +kernel) (by decide) (fun c4 => ?_) (fun c4 => ?_)
    · have h := zip c4 h
      refine zG.blk (pc' := 87) (l' := [some (2, x0), some (2, x1), some (2, x2), some (0, x3), some (0, x4), some (0, x5), some (0, x6), some (0, x7), none]) (st' := [(0, x6)]) (M' := M) hX [(.iload 6, 0, 0, 0)] (by decide +kernel) rfl trivial ?_
      refine zG.if_eq (tgt := 103) (off := 16) hX (by decide +kernel) (by decide) (fun c5 => ?_) (fun c5 => ?_)
      · have h := zip c5 h
        refine zG.blk (pc' := 105) (l' := [some (2, x0), some (2, x1), some (2, x2), some (0, x3), some (0, x4), some (0, x5), some (0, x6), some (0, x7), none]) (st' := [(0, (-2))]) (M' := M) hX [(.bipush (-2), 0, 0, 0)] (by decide +kernel) rfl trivial ?_
        exact zG.wk [false, false, false, false, false, false, false, false, true] (pX2_bestToLookAt_105_ok hX hRm h)
      · have h := zin c5 h
        obtain ⟨g6, h⟩ := zif h
        refine zG.blk (pc' := 97) (l' := [some (2, x0), some (2, x1), some (2, x2), some (0, x3), some (0, x4), some (0, x5), some (0, x6), some (0, x7), none]) (st' := [(0, x5), (2, M x1 0), (2, x0)]) (M' := M) hX [(.aload_n 0, 0, 0, 0), (.aload_n 1, 0, 0, 0), (.getfield 44, 10, 0, 2), (.iload 5, 0, 0, 0)] (by decide +kernel) rfl (And.intro g6 trivial) ?_
        obtain ⟨g9, h⟩ := zif h
        obtain ⟨q7, e8, h⟩ := zbd h
        refine zG.callV (b := x0) (av := [(2, M x1 0), (0, x5)]) (st := []) (ci := 2) hX (pX2_bestParting_ok e8) sv_2_60 rfl ⟨by decide, rfl⟩ g9 (by decide +kernel) (by rw [hRm]; exact ⟨Nat.le_of_ble_eq_true rfl, Nat.le_of_ble_eq_true rfl⟩) (by rw [hRm]; exact ⟨Nat.le_of_ble_eq_true rfl, Nat.le_of_ble_eq_true rfl⟩) (Nat.le_of_ble_eq_true rfl) ?_
        show zG C E 9 S 0 0 _ 100 [some (2, x0), some (2, x1), some (2, x2), some (0, x3), some (0, x4), some (0, x5), some (0, x6), some (0, x7), none] [(0, q7.1)] q7.2
        refine zG.goto (tgt := 105) (off := 5) hX (by decide +kernel) (by decide) ?_
        exact zG.wk [false, false, false, false, false, false, false, false, true] (pX2_bestToLookAt_105_ok hX hRm h)
    · have h := zin c4 h
      refine zG.blk (pc' := 23) (l' := [some (2, x0), some (2, x1), some (2, x2), some (0, x3), some (0, x4), some (0, x5), some (0, x6), some (0, x7), none]) (st' := [(0, x7), (2, x2)]) (M' := M) hX [(.aload_n 2, 0, 0, 0), (.iload 7, 0, 0, 0)] (by decide +kernel) rfl trivial ?_
      obtain ⟨q10, e11, h⟩ := zbd h
      refine zG.callS (av := [(2, x2), (0, x7)]) (st := []) hX (pX2_ruleOf_ok e11) ss_2_48 rfl (by decide +kernel) (by rw [hRm]; exact ⟨Nat.le_of_ble_eq_true rfl, Nat.le_of_ble_eq_true rfl⟩) (by rw [hRm]; exact ⟨Nat.le_of_ble_eq_true rfl, Nat.le_of_ble_eq_true rfl⟩) (Nat.le_of_ble_eq_true rfl) ?_
      show zG C E 9 S 0 0 _ 26 [some (2, x0), some (2, x1), some (2, x2), some (0, x3), some (0, x4), some (0, x5), some (0, x6), some (0, x7), none] [(2, q10.1)] q10.2
      refine zG.blk (pc' := 32) (l' := [some (2, x0), some (2, x1), some (2, x2), some (0, x3), some (0, x4), some (0, x5), some (0, x6), some (0, x7), some (2, q10.1)]) (st' := [(2, q10.1), (2, x1), (2, x0)]) (M' := q10.2) hX [(.astore 8, 0, 0, 0), (.aload_n 0, 0, 0, 0), (.aload_n 1, 0, 0, 0), (.aload 8, 0, 0, 0)] (by decide +kernel) rfl trivial ?_
      obtain ⟨g14, h⟩ := zif h
      obtain ⟨q12, e13, h⟩ := zbd h
      refine zG.callV (b := x0) (av := [(2, x1), (2, q10.1)]) (st := []) (ci := 2) hX (pX2_agrees_ok e13) sv_2_64 rfl ⟨by decide, rfl⟩ g14 (by decide +kernel) (by rw [hRm]; exact ⟨Nat.le_of_ble_eq_true rfl, Nat.le_of_ble_eq_true rfl⟩) (by rw [hRm]; exact ⟨Nat.le_of_ble_eq_true rfl, Nat.le_of_ble_eq_true rfl⟩) (Nat.le_of_ble_eq_true rfl) ?_
      show zG C E 9 S 0 0 _ 35 [some (2, x0), some (2, x1), some (2, x2), some (0, x3), some (0, x4), some (0, x5), some (0, x6), some (0, x7), some (2, q10.1)] [(0, q12.1)] q12.2
      refine zG.if_eq (tgt := 79) (off := 44) hX (by decide +kernel) (by decide) (fun c15 => ?_) (fun c15 => ?_)
      · have h := zip c15 h
        exact zG.wk [true, true, true, true, true, true, true, true, false] (pX2_bestToLookAt_79_ok hX hRm ih h)
      · have h := zin c15 h
        obtain ⟨g16, h⟩ := zif h
        refine zG.blk (pc' := 49) (l' := [some (2, x0), some (2, x1), some (2, x2), some (0, x3), some (0, x4), some (0, x5), some (0, 1), some (0, x7), some (2, q10.1)]) (st' := [(2, q12.2 x1 0), (2, q12.2 x0 1)]) (M' := q12.2) hX [(.iconst 1, 0, 0, 0), (.istore 6, 0, 0, 0), (.aload_n 0, 0, 0, 0), (.getfield 21, 2, 1, 2), (.aload_n 1, 0, 0, 0), (.getfield 44, 10, 0, 2)] (by decide +kernel) rfl (And.intro g14 (And.intro g16 trivial)) ?_
        obtain ⟨g19, h⟩ := zif h
        obtain ⟨q17, e18, h⟩ := zbd h
        refine zG.callV (b := q12.2 x0 1) (av := [(2, q12.2 x1 0)]) (st := []) (ci := 6) hX (pX6_begin_ok e18) sv_2_68 rfl ⟨by decide, rfl⟩ g19 (by decide +kernel) (by rw [hRm]; exact ⟨Nat.le_of_ble_eq_true rfl, Nat.le_of_ble_eq_true rfl⟩) (by rw [hRm]; exact ⟨Nat.le_of_ble_eq_true rfl, Nat.le_of_ble_eq_true rfl⟩) (Nat.le_of_ble_eq_true rfl) ?_
        show zG C E 9 S 0 0 _ 52 [some (2, x0), some (2, x1), some (2, x2), some (0, x3), some (0, x4), some (0, x5), some (0, 1), some (0, x7), some (2, q10.1)] [] q17
        refine zG.blk (pc' := 68) (l' := [some (2, x0), some (2, x1), some (2, x2), some (0, x3), some (0, x4), some (0, x5), some (0, 1), some (0, x7), some (2, q10.1)]) (st' := [(0, x4), (2, q10.1), (2, q17 x0 1), (2, q17 x1 0), (2, q17 x0 0)]) (M' := q17) hX [(.aload_n 0, 0, 0, 0), (.getfield 12, 2, 0, 2), (.aload_n 1, 0, 0, 0), (.getfield 44, 10, 0, 2), (.aload_n 0, 0, 0, 0), (.getfield 21, 2, 1, 2), (.aload 8, 0, 0, 0), (.iload 4, 0, 0, 0)] (by decide +kernel) rfl (And.intro g14 (And.intro g16 (And.intro g14 trivial))) ?_
        obtain ⟨g22, h⟩ := zif h
        obtain ⟨q20, e21, h⟩ := zbd h
        refine zG.callV (b := q17 x0 0) (av := [(2, q17 x1 0), (2, q17 x0 1), (2, q10.1), (0, x4)]) (st := []) (ci := 0) hX (pX0_pass_ok e21) sv_2_52 rfl ⟨by decide, rfl⟩ g22 (by decide +kernel) (by rw [hRm]; exact ⟨Nat.le_of_ble_eq_true rfl, Nat.le_of_ble_eq_true rfl⟩) (by rw [hRm]; exact ⟨Nat.le_of_ble_eq_true rfl, Nat.le_of_ble_eq_true rfl⟩) (Nat.le_of_ble_eq_true rfl) ?_
        show zG C E 9 S 0 0 _ 71 [some (2, x0), some (2, x1), some (2, x2), some (0, x3), some (0, x4), some (0, x5), some (0, 1), some (0, x7), some (2, q10.1)] [] q20
        refine zG.blk (pc' := 76) (l' := [some (2, x0), some (2, x1), some (2, x2), some (0, x3), some (0, x4), some (0, x5), some (0, 1), some (0, x7), some (2, q10.1)]) (st' := [(2, q20 x1 0), (2, x0)]) (M' := q20) hX [(.aload_n 0, 0, 0, 0), (.aload_n 1, 0, 0, 0), (.getfield 44, 10, 0, 2)] (by decide +kernel) rfl (And.intro g16 trivial) ?_
        obtain ⟨q23, e24, h⟩ := zbd h
        refine zG.callV (b := x0) (av := [(2, q20 x1 0)]) (st := []) (ci := 2) hX (pX2_addTrial_ok e24) sv_2_56 rfl ⟨by decide, rfl⟩ g14 (by decide +kernel) (by rw [hRm]; exact ⟨Nat.le_of_ble_eq_true rfl, Nat.le_of_ble_eq_true rfl⟩) (by rw [hRm]; exact ⟨Nat.le_of_ble_eq_true rfl, Nat.le_of_ble_eq_true rfl⟩) (Nat.le_of_ble_eq_true rfl) ?_
        show zG C E 9 S 0 0 _ 79 [some (2, x0), some (2, x1), some (2, x2), some (0, x3), some (0, x4), some (0, x5), some (0, 1), some (0, x7), some (2, q10.1)] [] q23
        exact zG.wk [true, true, true, true, true, true, true, true, false] (pX2_bestToLookAt_79_ok hX hRm ih h)
noncomputable def pX2_bestToLookAt (S : ZS) (M : ZM) (a0 : Int) (a1 : Int) (a2 : Int) (a3 : Int) (a4 : Int) (a5 : Int) : Option (Int × ZM) := if S.1 a0 = 2 then (pJ7_fill_53178 S M (M a0 2) 0).bind fun q2 => pX2_bestToLookAt_14 S zFU q2 a0 a1 a2 a3 a4 a5 0 (-1) else none
set_option maxHeartbeats 2000000 in
set_option maxRecDepth 20000 in
theorem pX2_bestToLookAt_go {C : ZC} {E : ZE} {S : ZS} {M : ZM} {a0 a1 a2 a3 a4 a5 : Int} {q : (Int × ZM)} (hX : zCx C E 2 cX2_bestToLookAt 9 (some .int) false) (hRm : czR C = { frames := 6, cells := 0, slots := 0, locals := 164 }) (h : pX2_bestToLookAt  S M a0 a1 a2 a3 a4 a5 = some q) : zG C E 9 S 0 0 (zQ C E 0 0 (some (0, q.1)) S q.2) 0 [some (2, a0), some (2, a1), some (2, a2), some (0, a3), some (0, a4), some (0, a5), none, none, none] [] M := by
  unfold pX2_bestToLookAt at h
  obtain ⟨g1, h⟩ := zif h
  refine zG.blk (pc' := 5) (l' := [some (2, a0), some (2, a1), some (2, a2), some (0, a3), some (0, a4), some (0, a5), none, none, none]) (st' := [(0, 0), (2, M a0 2)]) (M' := M) hX [(.aload_n 0, 0, 0, 0), (.getfield 25, 2, 2, 2), (.iconst 0, 0, 0, 0)] (by decide +kernel) rfl (And.intro g1 trivial) ?_
  obtain ⟨q2, e3, h⟩ := zbd h
  refine zG.callS (av := [(2, M a0 2), (0, 0)]) (st := []) hX (pJ7_fill_53178_ok e3) ss_2_29 rfl (by decide +kernel) (by rw [hRm]; exact ⟨Nat.le_of_ble_eq_true rfl, Nat.le_of_ble_eq_true rfl⟩) (by rw [hRm]; exact ⟨Nat.le_of_ble_eq_true rfl, Nat.le_of_ble_eq_true rfl⟩) (Nat.le_of_ble_eq_true rfl) ?_
  show zG C E 9 S 0 0 _ 8 [some (2, a0), some (2, a1), some (2, a2), some (0, a3), some (0, a4), some (0, a5), none, none, none] [] q2
  refine zG.blk (pc' := 14) (l' := [some (2, a0), some (2, a1), some (2, a2), some (0, a3), some (0, a4), some (0, a5), some (0, 0), some (0, (-1)), none]) (st' := []) (M' := q2) hX [(.iconst 0, 0, 0, 0), (.istore 6, 0, 0, 0), (.iconst (-1), 0, 0, 0), (.istore 7, 0, 0, 0)] (by decide +kernel) rfl trivial ?_
  exact (pX2_bestToLookAt_14_ok hX hRm zFU _ _ _ _ _ _ _ _ _ h)
theorem pX2_bestToLookAt_ok {l : Launch} {E : ZE} {S : ZS} {M : ZM} {a0 a1 a2 a3 a4 a5 : Int} {q : (Int × ZM)} (h : pX2_bestToLookAt S M a0 a1 a2 a3 a4 a5 = some q) : zMet l yX2_bestToLookAt cX2_bestToLookAt 9 (some .int) 6 164 0 0 E S M [(2, a0), (2, a1), (2, a2), (0, a3), (0, a4), (0, a5)] (some (0, q.1)) S q.2 :=
  zMet.of (o := 2) (ini := false) (by decide +kernel) rfl (fun h => by cases h) (Nat.le_of_ble_eq_true rfl) (fun C hX hl hRm => by subst hl; exact pX2_bestToLookAt_go hX hRm h)
theorem sv_2_40 : zSV 2 40 yX6_copyFrom cX6_copyFrom 2 none 1 := ⟨⟨gt_at 1032 (by decide +kernel) rfl, gt_at 785 (by decide +kernel) rfl, gt_at 786 (by decide +kernel) rfl, gt_at 111 (by decide +kernel) rfl, gt_at 787 (by decide +kernel) rfl⟩, by decide +kernel, by decide +kernel, by decide +kernel⟩
noncomputable def pX2_bestToRead_51 (S : ZS) (k11 : ZM → Int → Int → Int → Int → Int → Int → Int → Option (Int × ZM)) (M : ZM) (x0 : Int) (x1 : Int) (x2 : Int) (x3 : Int) (x4 : Int) (x5 : Int) (x6 : Int) : Option (Int × ZM) := if S.1 x1 = 10 then if S.1 x0 = 2 then (pX2_addTrial S M x0 (M x1 0)).bind fun q20 => k11 q20 x0 x1 x2 x3 x4 x5 (w32 (x6 + 1)) else none else none
set_option maxHeartbeats 2000000 in
set_option maxRecDepth 20000 in
theorem pX2_bestToRead_51_ok {C : ZC} {E : ZE} {S : ZS} {k11 : ZM → Int → Int → Int → Int → Int → Int → Int → Option (Int × ZM)} {q : (Int × ZM)} (hX : zCx C E 2 cX2_bestToRead 7 (some .int) false) (hRm : czR C = { frames := 6, cells := 0, slots := 0, locals := 164 }) (hk11 : ∀ M x0 x1 x2 x3 x4 x5 x6, k11 M x0 x1 x2 x3 x4 x5 x6 = some q → zG C E 7 S 0 0 (zQ C E 0 0 (some (0, q.1)) S q.2) 11 [some (2, x0), some (2, x1), some (2, x2), some (0, x3), some (0, x4), some (0, x5), some (0, x6)] [] M) {M : ZM} {x0 : Int} {x1 : Int} {x2 : Int} {x3 : Int} {x4 : Int} {x5 : Int} {x6 : Int} (h : pX2_bestToRead_51 S k11 M x0 x1 x2 x3 x4 x5 x6 = some q) : zG C E 7 S 0 0 (zQ C E 0 0 (some (0, q.1)) S q.2) 51 [some (2, x0), some (2, x1), some (2, x2), some (0, x3), some (0, x4), some (0, x5), some (0, x6)] [] M := by
  unfold pX2_bestToRead_51 at h
  obtain ⟨g19, h⟩ := zif h
  refine zG.blk (pc' := 56) (l' := [some (2, x0), some (2, x1), some (2, x2), some (0, x3), some (0, x4), some (0, x5), some (0, x6)]) (st' := [(2, M x1 0), (2, x0)]) (M' := M) hX [(.aload_n 0, 0, 0, 0), (.aload_n 1, 0, 0, 0), (.getfield 44, 10, 0, 2)] (by decide +kernel) rfl (And.intro g19 trivial) ?_
  obtain ⟨g22, h⟩ := zif h
  obtain ⟨q20, e21, h⟩ := zbd h
  refine zG.callV (b := x0) (av := [(2, M x1 0)]) (st := []) (ci := 2) hX (pX2_addTrial_ok e21) sv_2_56 rfl ⟨by decide, rfl⟩ g22 (by decide +kernel) (by rw [hRm]; exact ⟨Nat.le_of_ble_eq_true rfl, Nat.le_of_ble_eq_true rfl⟩) (by rw [hRm]; exact ⟨Nat.le_of_ble_eq_true rfl, Nat.le_of_ble_eq_true rfl⟩) (Nat.le_of_ble_eq_true rfl) ?_
  show zG C E 7 S 0 0 _ 59 [some (2, x0), some (2, x1), some (2, x2), some (0, x3), some (0, x4), some (0, x5), some (0, x6)] [] q20
  refine zG.blk (pc' := 62) (l' := [some (2, x0), some (2, x1), some (2, x2), some (0, x3), some (0, x4), some (0, x5), some (0, w32 (x6 + 1))]) (st' := []) (M' := q20) hX [(.iinc 6 1, 0, 0, 0)] (by decide +kernel) rfl trivial ?_
  refine zG.goto (tgt := 11) (off := (-51)) hX (by decide +kernel) (by decide) ?_
  exact (hk11 _ _ _ _ _ _ _ _ h)
noncomputable def pX2_bestToRead_11 (S : ZS) : Nat → ZM → Int → Int → Int → Int → Int → Int → Int → Option (Int × ZM)
  | 0 => fun _ _ _ _ _ _ _ _ => none
  | n + 1 => fun M x0 x1 x2 x3 x4 x5 x6 => if x3 ≤ x6 then (if S.1 x1 = 10 then if S.1 x0 = 2 then (pX2_bestParting S M x0 (M x1 0) x5).bind fun q6 => some (q6.1, q6.2) else none else none) else (if S.1 x0 = 2 then if S.1 x1 = 10 then if S.1 (M x0 1) = 6 then (pX6_copyFrom S M (M x0 1) (M x1 1)).bind fun q11 => (pX2_ruleOf S q11 x2 x6).bind fun q14 => if S.1 (q11 x0 0) = 0 then (pX0_pass S q14.2 (q11 x0 0) (q11 x1 0) (q11 x0 1) q14.1 x4).bind fun q16 => pX2_bestToRead_51 S (pX2_bestToRead_11 S n) q16 x0 x1 x2 x3 x4 x5 x6 else none else none else none else none)
set_option maxHeartbeats 2000000 in
set_option maxRecDepth 20000 in
theorem pX2_bestToRead_11_ok {C : ZC} {E : ZE} {S : ZS} {q : (Int × ZM)} (hX : zCx C E 2 cX2_bestToRead 7 (some .int) false) (hRm : czR C = { frames := 6, cells := 0, slots := 0, locals := 164 }) : ∀ (n : Nat) (M : ZM) (x0 : Int) (x1 : Int) (x2 : Int) (x3 : Int) (x4 : Int) (x5 : Int) (x6 : Int), pX2_bestToRead_11 S n M x0 x1 x2 x3 x4 x5 x6 = some q → zG C E 7 S 0 0 (zQ C E 0 0 (some (0, q.1)) S q.2) 11 [some (2, x0), some (2, x1), some (2, x2), some (0, x3), some (0, x4), some (0, x5), some (0, x6)] [] M := by
  intro n
  induction n with
  | zero => intro M x0 x1 x2 x3 x4 x5 x6 h; cases h
  | succ n ih =>
    intro M x0 x1 x2 x3 x4 x5 x6 h
    unfold pX2_bestToRead_11 at h
    refine zG.blk (pc' := 14) (l' := [some (2, x0), some (2, x1), some (2, x2), some (0, x3), some (0, x4), some (0, x5), some (0, x6)]) (st' := [(0, x3), (0, x6)]) (M' := M) hX [(.iload 6, 0, 0, 0), (.iload_n 3, 0, 0, 0)] (by decide +kernel) rfl trivial ?_
    refine zG.icmp_ge (tgt := 65) (off := 51) hX (by decide +kernel) (by decide) (fun c4 => ?_) (fun c4 => ?_)
    · have h := zip c4 h
      obtain ⟨g5, h⟩ := zif h
      refine zG.blk (pc' := 72) (l' := [some (2, x0), some (2, x1), some (2, x2), some (0, x3), some (0, x4), some (0, x5), some (0, x6)]) (st' := [(0, x5), (2, M x1 0), (2, x0)]) (M' := M) hX [(.aload_n 0, 0, 0, 0), (.aload_n 1, 0, 0, 0), (.getfield 44, 10, 0, 2), (.iload 5, 0, 0, 0)] (by decide +kernel) rfl (And.intro g5 trivial) ?_
      obtain ⟨g8, h⟩ := zif h
      obtain ⟨q6, e7, h⟩ := zbd h
      refine zG.callV (b := x0) (av := [(2, M x1 0), (0, x5)]) (st := []) (ci := 2) hX (pX2_bestParting_ok e7) sv_2_60 rfl ⟨by decide, rfl⟩ g8 (by decide +kernel) (by rw [hRm]; exact ⟨Nat.le_of_ble_eq_true rfl, Nat.le_of_ble_eq_true rfl⟩) (by rw [hRm]; exact ⟨Nat.le_of_ble_eq_true rfl, Nat.le_of_ble_eq_true rfl⟩) (Nat.le_of_ble_eq_true rfl) ?_
      show zG C E 7 S 0 0 _ 75 [some (2, x0), some (2, x1), some (2, x2), some (0, x3), some (0, x4), some (0, x5), some (0, x6)] [(0, q6.1)] q6.2
      cases h
      exact zG.iret hX (by decide +kernel)
    · have h := zin c4 h
      obtain ⟨g9, h⟩ := zif h
      obtain ⟨g10, h⟩ := zif h
      refine zG.blk (pc' := 25) (l' := [some (2, x0), some (2, x1), some (2, x2), some (0, x3), some (0, x4), some (0, x5), some (0, x6)]) (st' := [(2, M x1 1), (2, M x0 1)]) (M' := M) hX [(.aload_n 0, 0, 0, 0), (.getfield 21, 2, 1, 2), (.aload_n 1, 0, 0, 0), (.getfield 35, 10, 1, 2)] (by decide +kernel) rfl (And.intro g9 (And.intro g10 trivial)) ?_
      obtain ⟨g13, h⟩ := zif h
      obtain ⟨q11, e12, h⟩ := zbd h
      refine zG.callV (b := M x0 1) (av := [(2, M x1 1)]) (st := []) (ci := 6) hX (pX6_copyFrom_ok e12) sv_2_40 rfl ⟨by decide, rfl⟩ g13 (by decide +kernel) (by rw [hRm]; exact ⟨Nat.le_of_ble_eq_true rfl, Nat.le_of_ble_eq_true rfl⟩) (by rw [hRm]; exact ⟨Nat.le_of_ble_eq_true rfl, Nat.le_of_ble_eq_true rfl⟩) (Nat.le_of_ble_eq_true rfl) ?_
      show zG C E 7 S 0 0 _ 28 [some (2, x0), some (2, x1), some (2, x2), some (0, x3), some (0, x4), some (0, x5), some (0, x6)] [] q11
      refine zG.blk (pc' := 43) (l' := [some (2, x0), some (2, x1), some (2, x2), some (0, x3), some (0, x4), some (0, x5), some (0, x6)]) (st' := [(0, x6), (2, x2), (2, q11 x0 1), (2, q11 x1 0), (2, q11 x0 0)]) (M' := q11) hX [(.aload_n 0, 0, 0, 0), (.getfield 12, 2, 0, 2), (.aload_n 1, 0, 0, 0), (.getfield 44, 10, 0, 2), (.aload_n 0, 0, 0, 0), (.getfield 21, 2, 1, 2), (.aload_n 2, 0, 0, 0), (.iload 6, 0, 0, 0)] (by decide +kernel) rfl (And.intro g9 (And.intro g10 (And.intro g9 trivial))) ?_
      obtain ⟨q14, e15, h⟩ := zbd h
      refine zG.callS (av := [(2, x2), (0, x6)]) (st := [(2, q11 x0 1), (2, q11 x1 0), (2, q11 x0 0)]) hX (pX2_ruleOf_ok e15) ss_2_48 rfl (by decide +kernel) (by rw [hRm]; exact ⟨Nat.le_of_ble_eq_true rfl, Nat.le_of_ble_eq_true rfl⟩) (by rw [hRm]; exact ⟨Nat.le_of_ble_eq_true rfl, Nat.le_of_ble_eq_true rfl⟩) (Nat.le_of_ble_eq_true rfl) ?_
      show zG C E 7 S 0 0 _ 46 [some (2, x0), some (2, x1), some (2, x2), some (0, x3), some (0, x4), some (0, x5), some (0, x6)] [(2, q14.1), (2, q11 x0 1), (2, q11 x1 0), (2, q11 x0 0)] q14.2
      refine zG.blk (pc' := 48) (l' := [some (2, x0), some (2, x1), some (2, x2), some (0, x3), some (0, x4), some (0, x5), some (0, x6)]) (st' := [(0, x4), (2, q14.1), (2, q11 x0 1), (2, q11 x1 0), (2, q11 x0 0)]) (M' := q14.2) hX [(.iload 4, 0, 0, 0)] (by decide +kernel) rfl trivial ?_
      obtain ⟨g18, h⟩ := zif h
      obtain ⟨q16, e17, h⟩ := zbd h
      refine zG.callV (b := q11 x0 0) (av := [(2, q11 x1 0), (2, q11 x0 1), (2, q14.1), (0, x4)]) (st := []) (ci := 0) hX (pX0_pass_ok e17) sv_2_52 rfl ⟨by decide, rfl⟩ g18 (by decide +kernel) (by rw [hRm]; exact ⟨Nat.le_of_ble_eq_true rfl, Nat.le_of_ble_eq_true rfl⟩) (by rw [hRm]; exact ⟨Nat.le_of_ble_eq_true rfl, Nat.le_of_ble_eq_true rfl⟩) (Nat.le_of_ble_eq_true rfl) ?_
      show zG C E 7 S 0 0 _ 51 [some (2, x0), some (2, x1), some (2, x2), some (0, x3), some (0, x4), some (0, x5), some (0, x6)] [] q16
      exact (pX2_bestToRead_51_ok hX hRm ih h)
noncomputable def pX2_bestToRead (S : ZS) (M : ZM) (a0 : Int) (a1 : Int) (a2 : Int) (a3 : Int) (a4 : Int) (a5 : Int) : Option (Int × ZM) := if S.1 a0 = 2 then (pJ7_fill_53178 S M (M a0 2) 0).bind fun q2 => pX2_bestToRead_11 S zFU q2 a0 a1 a2 a3 a4 a5 (-1) else none
set_option maxHeartbeats 2000000 in
set_option maxRecDepth 20000 in
theorem pX2_bestToRead_go {C : ZC} {E : ZE} {S : ZS} {M : ZM} {a0 a1 a2 a3 a4 a5 : Int} {q : (Int × ZM)} (hX : zCx C E 2 cX2_bestToRead 7 (some .int) false) (hRm : czR C = { frames := 6, cells := 0, slots := 0, locals := 164 }) (h : pX2_bestToRead  S M a0 a1 a2 a3 a4 a5 = some q) : zG C E 7 S 0 0 (zQ C E 0 0 (some (0, q.1)) S q.2) 0 [some (2, a0), some (2, a1), some (2, a2), some (0, a3), some (0, a4), some (0, a5), none] [] M := by
  unfold pX2_bestToRead at h
  obtain ⟨g1, h⟩ := zif h
  refine zG.blk (pc' := 5) (l' := [some (2, a0), some (2, a1), some (2, a2), some (0, a3), some (0, a4), some (0, a5), none]) (st' := [(0, 0), (2, M a0 2)]) (M' := M) hX [(.aload_n 0, 0, 0, 0), (.getfield 25, 2, 2, 2), (.iconst 0, 0, 0, 0)] (by decide +kernel) rfl (And.intro g1 trivial) ?_
  obtain ⟨q2, e3, h⟩ := zbd h
  refine zG.callS (av := [(2, M a0 2), (0, 0)]) (st := []) hX (pJ7_fill_53178_ok e3) ss_2_29 rfl (by decide +kernel) (by rw [hRm]; exact ⟨Nat.le_of_ble_eq_true rfl, Nat.le_of_ble_eq_true rfl⟩) (by rw [hRm]; exact ⟨Nat.le_of_ble_eq_true rfl, Nat.le_of_ble_eq_true rfl⟩) (Nat.le_of_ble_eq_true rfl) ?_
  show zG C E 7 S 0 0 _ 8 [some (2, a0), some (2, a1), some (2, a2), some (0, a3), some (0, a4), some (0, a5), none] [] q2
  refine zG.blk (pc' := 11) (l' := [some (2, a0), some (2, a1), some (2, a2), some (0, a3), some (0, a4), some (0, a5), some (0, (-1))]) (st' := []) (M' := q2) hX [(.iconst (-1), 0, 0, 0), (.istore 6, 0, 0, 0)] (by decide +kernel) rfl trivial ?_
  exact (pX2_bestToRead_11_ok hX hRm zFU _ _ _ _ _ _ _ _ h)
theorem pX2_bestToRead_ok {l : Launch} {E : ZE} {S : ZS} {M : ZM} {a0 a1 a2 a3 a4 a5 : Int} {q : (Int × ZM)} (h : pX2_bestToRead S M a0 a1 a2 a3 a4 a5 = some q) : zMet l yX2_bestToRead cX2_bestToRead 7 (some .int) 6 164 0 0 E S M [(2, a0), (2, a1), (2, a2), (0, a3), (0, a4), (0, a5)] (some (0, q.1)) S q.2 :=
  zMet.of (o := 2) (ini := false) (by decide +kernel) rfl (fun h => by cases h) (Nat.le_of_ble_eq_true rfl) (fun C hX hl hRm => by subst hl; exact pX2_bestToRead_go hX hRm h)
noncomputable def pX3_difference_54 (S : ZS) (k4 : ZM → Int → Int → Int → Option (Int × ZM)) (M : ZM) (x0 : Int) (x1 : Int) (x2 : Int) : Option (Int × ZM) := k4 M x0 x1 (w32 (x2 + 1))
set_option maxHeartbeats 2000000 in
set_option maxRecDepth 20000 in
theorem pX3_difference_54_ok {C : ZC} {E : ZE} {S : ZS} {k4 : ZM → Int → Int → Int → Option (Int × ZM)} {q : (Int × ZM)} (hX : zCx C E 3 cX3_difference 3 (some .int) false) (hRm : czR C = { frames := 1, cells := 0, slots := 0, locals := 40 }) (hk4 : ∀ M x0 x1 x2, k4 M x0 x1 x2 = some q → zG C E 3 S 0 0 (zQ C E 0 0 (some (0, q.1)) S q.2) 4 [some (2, x0), some (0, x1), some (0, x2)] [] M) {M : ZM} {x0 : Int} {x1 : Int} {x2 : Int} (h : pX3_difference_54 S k4 M x0 x1 x2 = some q) : zG C E 3 S 0 0 (zQ C E 0 0 (some (0, q.1)) S q.2) 54 [some (2, x0), some (0, x1), some (0, x2)] [] M := by
  unfold pX3_difference_54 at h
  refine zG.blk (pc' := 57) (l' := [some (2, x0), some (0, x1), some (0, w32 (x2 + 1))]) (st' := []) (M' := M) hX [(.iinc 2 1, 0, 0, 0)] (by decide +kernel) rfl trivial ?_
  refine zG.goto (tgt := 4) (off := (-53)) hX (by decide +kernel) (by decide) ?_
  exact (hk4 _ _ _ _ h)
noncomputable def pX3_difference_4 (S : ZS) : Nat → ZM → Int → Int → Int → Option (Int × ZM)
  | 0 => fun _ _ _ _ => none
  | n + 1 => fun M x0 x1 x2 => if S.1 x0 = 3 then if S.1 (M x0 0) = 9 then if M (M x0 0) 1 ≤ x2 then (some (x1, M)) else (if S.1 (M x0 1) = 100 ∧ (0 : Int) ≤ x2 ∧ x2 < S.2.1 (M x0 1) then if S.1 (M x0 2) = 100 ∧ (0 : Int) ≤ 0 ∧ 0 < S.2.1 (M x0 2) then if M (M x0 1) x2 = M (M x0 2) 0 then (pX3_difference_54 S (pX3_difference_4 S n) M x0 (w32 (x1 + 1)) x2) else (if S.1 (M x0 2) = 100 ∧ (0 : Int) ≤ 1 ∧ 1 < S.2.1 (M x0 2) then if M (M x0 1) x2 = M (M x0 2) 1 then (pX3_difference_54 S (pX3_difference_4 S n) M x0 (w32 (x1 + (-1))) x2) else (pX3_difference_54 S (pX3_difference_4 S n) M x0 x1 x2) else none) else none else none) else none else none
set_option maxHeartbeats 2000000 in
set_option maxRecDepth 20000 in
theorem pX3_difference_4_ok {C : ZC} {E : ZE} {S : ZS} {q : (Int × ZM)} (hX : zCx C E 3 cX3_difference 3 (some .int) false) (hRm : czR C = { frames := 1, cells := 0, slots := 0, locals := 40 }) : ∀ (n : Nat) (M : ZM) (x0 : Int) (x1 : Int) (x2 : Int), pX3_difference_4 S n M x0 x1 x2 = some q → zG C E 3 S 0 0 (zQ C E 0 0 (some (0, q.1)) S q.2) 4 [some (2, x0), some (0, x1), some (0, x2)] [] M := by
  intro n
  induction n with
  | zero => intro M x0 x1 x2 h; cases h
  | succ n ih =>
    intro M x0 x1 x2 h
    unfold pX3_difference_4 at h
    obtain ⟨g1, h⟩ := zif h
    obtain ⟨g2, h⟩ := zif h
    refine zG.blk (pc' := 12) (l' := [some (2, x0), some (0, x1), some (0, x2)]) (st' := [(0, M (M x0 0) 1), (0, x2)]) (M' := M) hX [(.iload_n 2, 0, 0, 0), (.aload_n 0, 0, 0, 0), (.getfield 12, 3, 0, 2), (.getfield 70, 9, 1, 0)] (by decide +kernel) rfl (And.intro g1 (And.intro g2 trivial)) ?_
    refine zG.icmp_ge (tgt := 60) (off := 48) hX (by decide +kernel) (by decide) (fun c3 => ?_) (fun c3 => ?_)
    · have h := zip c3 h
      refine zG.blk (pc' := 61) (l' := [some (2, x0), some (0, x1), some (0, x2)]) (st' := [(0, x1)]) (M' := M) hX [(.iload_n 1, 0, 0, 0)] (by decide +kernel) rfl trivial ?_
      cases h
      exact zG.iret hX (by decide +kernel)
    · have h := zin c3 h
      obtain ⟨g4, h⟩ := zif h
      obtain ⟨g5, h⟩ := zif h
      refine zG.blk (pc' := 27) (l' := [some (2, x0), some (0, x1), some (0, x2)]) (st' := [(0, M (M x0 2) 0), (0, M (M x0 1) x2)]) (M' := M) hX [(.aload_n 0, 0, 0, 0), (.getfield 18, 3, 1, 2), (.iload_n 2, 0, 0, 0), (.iaload, 0, 0, 0), (.aload_n 0, 0, 0, 0), (.getfield 22, 3, 2, 2), (.iconst 0, 0, 0, 0), (.iaload, 0, 0, 0)] (by decide +kernel) rfl (And.intro g1 (And.intro g4 (And.intro g1 (And.intro g5 trivial)))) ?_
      refine zG.icmp_ne (tgt := 36) (off := 9) hX (by decide +kernel) (by decide) (fun c6 => ?_) (fun c6 => ?_)
      · have h := zin c6 h
        obtain ⟨g7, h⟩ := zif h
        refine zG.blk (pc' := 48) (l' := [some (2, x0), some (0, x1), some (0, x2)]) (st' := [(0, M (M x0 2) 1), (0, M (M x0 1) x2)]) (M' := M) hX [(.aload_n 0, 0, 0, 0), (.getfield 18, 3, 1, 2), (.iload_n 2, 0, 0, 0), (.iaload, 0, 0, 0), (.aload_n 0, 0, 0, 0), (.getfield 22, 3, 2, 2), (.iconst 1, 0, 0, 0), (.iaload, 0, 0, 0)] (by decide +kernel) rfl (And.intro g1 (And.intro g4 (And.intro g1 (And.intro g7 trivial)))) ?_
        refine zG.icmp_ne (tgt := 54) (off := 6) hX (by decide +kernel) (by decide) (fun c8 => ?_) (fun c8 => ?_)
        · have h := zin c8 h
          exact (pX3_difference_54_ok hX hRm ih h)
        · have h := zip c8 h
          refine zG.blk (pc' := 54) (l' := [some (2, x0), some (0, w32 (x1 + (-1))), some (0, x2)]) (st' := []) (M' := M) hX [(.iinc 1 (-1), 0, 0, 0)] (by decide +kernel) rfl trivial ?_
          exact (pX3_difference_54_ok hX hRm ih h)
      · have h := zip c6 h
        refine zG.blk (pc' := 33) (l' := [some (2, x0), some (0, w32 (x1 + 1)), some (0, x2)]) (st' := []) (M' := M) hX [(.iinc 1 1, 0, 0, 0)] (by decide +kernel) rfl trivial ?_
        refine zG.goto (tgt := 54) (off := 21) hX (by decide +kernel) (by decide) ?_
        exact (pX3_difference_54_ok hX hRm ih h)
noncomputable def pX3_difference (S : ZS) (M : ZM) (a0 : Int) : Option (Int × ZM) := pX3_difference_4 S zFU M a0 0 0
set_option maxHeartbeats 2000000 in
set_option maxRecDepth 20000 in
theorem pX3_difference_go {C : ZC} {E : ZE} {S : ZS} {M : ZM} {a0 : Int} {q : (Int × ZM)} (hX : zCx C E 3 cX3_difference 3 (some .int) false) (hRm : czR C = { frames := 1, cells := 0, slots := 0, locals := 40 }) (h : pX3_difference  S M a0 = some q) : zG C E 3 S 0 0 (zQ C E 0 0 (some (0, q.1)) S q.2) 0 [some (2, a0), none, none] [] M := by
  unfold pX3_difference at h
  refine zG.blk (pc' := 4) (l' := [some (2, a0), some (0, 0), some (0, 0)]) (st' := []) (M' := M) hX [(.iconst 0, 0, 0, 0), (.istore_n 1, 0, 0, 0), (.iconst 0, 0, 0, 0), (.istore_n 2, 0, 0, 0)] (by decide +kernel) rfl trivial ?_
  exact (pX3_difference_4_ok hX hRm zFU _ _ _ _ h)
theorem pX3_difference_ok {l : Launch} {E : ZE} {S : ZS} {M : ZM} {a0 : Int} {q : (Int × ZM)} (h : pX3_difference S M a0 = some q) : zMet l yX3_difference cX3_difference 3 (some .int) 1 40 0 0 E S M [(2, a0)] (some (0, q.1)) S q.2 :=
  zMet.of (o := 3) (ini := false) (by decide +kernel) rfl (fun h => by cases h) (Nat.le_of_ble_eq_true rfl) (fun C hX hl hRm => by subst hl; exact pX3_difference_go hX hRm h)
theorem so_4_3 : Cond.methodLink (zOwn 4) 3 Lib.objectInit ∈ gt := gt_at 735 (by decide +kernel) rfl
noncomputable def pX4_init (S : ZS) (M : ZM) (a0 : Int) (a1 : Int) : Option ZM := if 1 ≤ a0 then if S.1 a0 = 4 then zlet (upM M a0 0 a1) fun M3 => some M3 else none else none
set_option maxHeartbeats 2000000 in
set_option maxRecDepth 20000 in
theorem pX4_init_go {C : ZC} {E : ZE} {S : ZS} {M : ZM} {a0 a1 : Int} {q : ZM} (hX : zCx C E 4 cX4_init 2 none true) (hRm : czR C = { frames := 1, cells := 0, slots := 0, locals := 40 }) (h : pX4_init  S M a0 a1 = some q) : zG C E 2 S 0 0 (zQ C E 0 0 none S q) 0 [some (2, a0), some (2, a1)] [] M := by
  unfold pX4_init at h
  refine zG.blk (pc' := 1) (l' := [some (2, a0), some (2, a1)]) (st' := [(2, a0)]) (M' := M) hX [(.aload_n 0, 0, 0, 0)] (by decide +kernel) rfl trivial ?_
  obtain ⟨g1, h⟩ := zif h
  refine zG.objInit hX so_4_3 so_1 so_2 g1 (by decide +kernel) (by rw [hRm]; exact ⟨Nat.le_of_ble_eq_true rfl, Nat.le_of_ble_eq_true rfl⟩) ?_
  show zG C E 2 S 0 0 _ 4 [some (2, a0), some (2, a1)] [] M
  obtain ⟨g2, h⟩ := zif h
  refine zG.blk (pc' := 9) (l' := [some (2, a0), some (2, a1)]) (st' := []) (M' := (upM M a0 0 a1)) hX [(.aload_n 0, 0, 0, 0), (.aload_n 1, 0, 0, 0), (.putfield 9, 4, 0, 2)] (by decide +kernel) rfl (And.intro g2 trivial) ?_
  generalize upM M a0 0 a1 = M3 at h ⊢
  have h := zlt h
  cases h
  exact zG.vret hX (by decide +kernel)
theorem pX4_init_ok {l : Launch} {E : ZE} {S : ZS} {M : ZM} {a0 a1 : Int} {q : ZM} (h : pX4_init S M a0 a1 = some q) : zMet l yX4_init cX4_init 2 none 1 40 0 0 E S M [(2, a0), (2, a1)] (none) S q :=
  zMet.of (o := 4) (ini := true) (by decide +kernel) rfl (fun _ => rfl) (Nat.le_of_ble_eq_true rfl) (fun C hX hl hRm => by subst hl; exact pX4_init_go hX hRm h)
noncomputable def pX5_addOrder_34 (S : ZS) (M : ZM) : Option ZM := some M
set_option maxHeartbeats 2000000 in
set_option maxRecDepth 20000 in
theorem pX5_addOrder_34_ok {C : ZC} {E : ZE} {S : ZS} {q : ZM} (hX : zCx C E 5 cX5_addOrder 3 none false) (hRm : czR C = { frames := 1, cells := 0, slots := 0, locals := 40 }) {M : ZM} (h : pX5_addOrder_34 S M = some q) : zG C E 3 S 0 0 (zQ C E 0 0 none S q) 34 [none, none, none] [] M := by
  unfold pX5_addOrder_34 at h
  cases h
  exact zG.vret hX (by decide +kernel)
noncomputable def pX5_addOrder (S : ZS) (M : ZM) (a0 : Int) (a1 : Int) (a2 : Int) : Option ZM := if S.1 a0 = 5 then if 400 ≤ M a0 1 then (pX5_addOrder_34 S M) else (if S.1 (M a0 0) = 100 ∧ (0 : Int) ≤ M a0 1 ∧ M a0 1 < S.2.1 (M a0 0) then zlet (upM M (M a0 0) (M a0 1) (zor a1 (zshl a2 5))) fun M4 => zlet (upM M4 a0 1 (w32 ((M4 a0 1) + 1))) fun M5 => pX5_addOrder_34 S M5 else none) else none
set_option maxHeartbeats 2000000 in
set_option maxRecDepth 20000 in
theorem pX5_addOrder_go {C : ZC} {E : ZE} {S : ZS} {M : ZM} {a0 a1 a2 : Int} {q : ZM} (hX : zCx C E 5 cX5_addOrder 3 none false) (hRm : czR C = { frames := 1, cells := 0, slots := 0, locals := 40 }) (h : pX5_addOrder  S M a0 a1 a2 = some q) : zG C E 3 S 0 0 (zQ C E 0 0 none S q) 0 [some (2, a0), some (0, a1), some (0, a2)] [] M := by
  unfold pX5_addOrder at h
  obtain ⟨g1, h⟩ := zif h
  refine zG.blk (pc' := 7) (l' := [some (2, a0), some (0, a1), some (0, a2)]) (st' := [(0, 400), (0, M a0 1)]) (M' := M) hX [(.aload_n 0, 0, 0, 0), (.getfield 20, 5, 1, 0), (.sipush 400, 0, 0, 0)] (by decide +kernel) rfl (And.intro g1 trivial) ?_
  refine zG.icmp_ge (tgt := 34) (off := 27) hX (by decide +kernel) (by decide) (fun c2 => ?_) (fun c2 => ?_)
  · have h := zip c2 h
    exact zG.wk [false, false, false] (pX5_addOrder_34_ok hX hRm h)
  · have h := zin c2 h
    obtain ⟨g3, h⟩ := zif h
    refine zG.blk (pc' := 24) (l' := [some (2, a0), some (0, a1), some (0, a2)]) (st' := []) (M' := (upM M (M a0 0) (M a0 1) (zor a1 (zshl a2 5)))) hX [(.aload_n 0, 0, 0, 0), (.getfield 9, 5, 0, 2), (.aload_n 0, 0, 0, 0), (.getfield 20, 5, 1, 0), (.iload_n 1, 0, 0, 0), (.iload_n 2, 0, 0, 0), (.iconst 5, 0, 0, 0), (.ishl, 0, 0, 0), (.ior, 0, 0, 0), (.iastore, 0, 0, 0)] (by decide +kernel) rfl (And.intro g1 (And.intro g1 (And.intro g3 trivial))) ?_
    generalize upM M (M a0 0) (M a0 1) (zor a1 (zshl a2 5)) = M4 at h ⊢
    have h := zlt h
    refine zG.blk (pc' := 34) (l' := [some (2, a0), some (0, a1), some (0, a2)]) (st' := []) (M' := (upM M4 a0 1 (w32 ((M4 a0 1) + 1)))) hX [(.aload_n 0, 0, 0, 0), (.dup, 0, 0, 0), (.getfield 20, 5, 1, 0), (.iconst 1, 0, 0, 0), (.iadd, 0, 0, 0), (.putfield 20, 5, 1, 0)] (by decide +kernel) rfl (And.intro g1 (And.intro g1 trivial)) ?_
    generalize upM M4 a0 1 (w32 ((M4 a0 1) + 1)) = M5 at h ⊢
    have h := zlt h
    exact zG.wk [false, false, false] (pX5_addOrder_34_ok hX hRm h)
theorem pX5_addOrder_ok {l : Launch} {E : ZE} {S : ZS} {M : ZM} {a0 a1 a2 : Int} {q : ZM} (h : pX5_addOrder S M a0 a1 a2 = some q) : zMet l yX5_addOrder cX5_addOrder 3 none 1 40 0 0 E S M [(2, a0), (0, a1), (0, a2)] (none) S q :=
  zMet.of (o := 5) (ini := false) (by decide +kernel) rfl (fun h => by cases h) (Nat.le_of_ble_eq_true rfl) (fun C hX hl hRm => by subst hl; exact pX5_addOrder_go hX hRm h)
noncomputable def pX5_addingOrder (S : ZS) (M : ZM) (a0 : Int) : Option (Int × ZM) := some ((if a0 = 43 then (2 : Int) else (if a0 = 45 then (3 : Int) else (-1))), M)
set_option maxHeartbeats 2000000 in
set_option maxRecDepth 20000 in
theorem pX5_addingOrder_go {C : ZC} {E : ZE} {S : ZS} {M : ZM} {a0 : Int} {q : (Int × ZM)} (hX : zCx C E 5 cX5_addingOrder 1 (some .int) false) (hRm : czR C = { frames := 1, cells := 0, slots := 0, locals := 40 }) (h : pX5_addingOrder  S M a0 = some q) : zG C E 1 S 0 0 (zQ C E 0 0 (some (0, q.1)) S q.2) 0 [some (0, a0)] [] M := by
  unfold pX5_addingOrder at h
  refine zG.blk (pc' := 3) (l' := [some (0, a0)]) (st' := [(0, 43), (0, a0)]) (M' := M) hX [(.iload_n 0, 0, 0, 0), (.bipush 43, 0, 0, 0)] (by decide +kernel) rfl trivial ?_
  have key1 : zG C E 1 S 0 0 (zQ C E 0 0 (some (0, q.1)) S q.2) 21 [some (0, a0)] [(0, (if a0 = 43 then (2 : Int) else (if a0 = 45 then (3 : Int) else (-1))))] M := by
    cases h
    exact zG.iret hX (by decide +kernel)
  refine zG.icmp_ne (tgt := 10) (off := 7) hX (by decide +kernel) (by decide) (fun c2 => ?_) (fun c2 => ?_)
  · refine zG.blk (pc' := 13) (l' := [some (0, a0)]) (st' := [(0, 45), (0, a0)]) (M' := M) hX [(.iload_n 0, 0, 0, 0), (.bipush 45, 0, 0, 0)] (by decide +kernel) rfl trivial ?_
    refine zG.icmp_ne (tgt := 20) (off := 7) hX (by decide +kernel) (by decide) (fun c3 => ?_) (fun c3 => ?_)
    · refine zG.blk (pc' := 21) (l' := [some (0, a0)]) (st' := [(0, (-1))]) (M' := M) hX [(.iconst (-1), 0, 0, 0)] (by decide +kernel) rfl trivial ?_
      (have k := key1; simp only [if_neg c2, if_neg c3] at k; exact k)
    · refine zG.blk (pc' := 17) (l' := [some (0, a0)]) (st' := [(0, 3)]) (M' := M) hX [(.iconst 3, 0, 0, 0)] (by decide +kernel) rfl trivial ?_
      refine zG.goto (tgt := 21) (off := 4) hX (by decide +kernel) (by decide) ?_
      (have k := key1; simp only [if_neg c2, if_pos c3] at k; exact k)
  · refine zG.blk (pc' := 7) (l' := [some (0, a0)]) (st' := [(0, 2)]) (M' := M) hX [(.iconst 2, 0, 0, 0)] (by decide +kernel) rfl trivial ?_
    refine zG.goto (tgt := 21) (off := 14) hX (by decide +kernel) (by decide) ?_
    (have k := key1; simp only [if_pos c2] at k; exact k)
theorem pX5_addingOrder_ok {l : Launch} {E : ZE} {S : ZS} {M : ZM} {a0 : Int} {q : (Int × ZM)} (h : pX5_addingOrder S M a0 = some q) : zMet l yX5_addingOrder cX5_addingOrder 1 (some .int) 1 40 0 0 E S M [(0, a0)] (some (0, q.1)) S q.2 :=
  zMet.of (o := 5) (ini := false) (by decide +kernel) rfl (fun h => by cases h) (Nat.le_of_ble_eq_true rfl) (fun C hX hl hRm => by subst hl; exact pX5_addingOrder_go hX hRm h)
noncomputable def pX5_comparingOrder (S : ZS) (M : ZM) (a0 : Int) : Option (Int × ZM) := if a0 = 60 then (some (7, M)) else if a0 = 61 then (some (9, M)) else if a0 = 62 then (some (11, M)) else if a0 = 301 then (some (8, M)) else if a0 = 302 then (some (10, M)) else (some ((-1), M))
set_option maxHeartbeats 2000000 in
set_option maxRecDepth 20000 in
theorem pX5_comparingOrder_go {C : ZC} {E : ZE} {S : ZS} {M : ZM} {a0 : Int} {q : (Int × ZM)} (hX : zCx C E 5 cX5_comparingOrder 1 (some .int) false) (hRm : czR C = { frames := 1, cells := 0, slots := 0, locals := 40 }) (h : pX5_comparingOrder  S M a0 = some q) : zG C E 1 S 0 0 (zQ C E 0 0 (some (0, q.1)) S q.2) 0 [some (0, a0)] [] M := by
  unfold pX5_comparingOrder at h
  refine zG.blk (pc' := 1) (l' := [some (0, a0)]) (st' := [(0, a0)]) (M' := M) hX [(.iload_n 0, 0, 0, 0)] (by decide +kernel) rfl trivial ?_
  have hs1 : decode cX5_comparingOrder 1 = .ok (.lookupswitch 66 #[(60, 51), (61, 57), (62, 63), (301, 54), (302, 60)], 51) := by decide +kernel
  by_cases c2 : a0 = 60
  · have h := zip c2 h
    refine zG.look (tgt := 52) hX hs1 rfl (by rw [c2]) (by decide) ?_
    refine zG.blk (pc' := 54) (l' := [some (0, a0)]) (st' := [(0, 7)]) (M' := M) hX [(.bipush 7, 0, 0, 0)] (by decide +kernel) rfl trivial ?_
    cases h
    exact zG.iret hX (by decide +kernel)
  · have h := zin c2 h
    by_cases c3 : a0 = 61
    · have h := zip c3 h
      refine zG.look (tgt := 58) hX hs1 rfl (by rw [c3]) (by decide) ?_
      refine zG.blk (pc' := 60) (l' := [some (0, a0)]) (st' := [(0, 9)]) (M' := M) hX [(.bipush 9, 0, 0, 0)] (by decide +kernel) rfl trivial ?_
      cases h
      exact zG.iret hX (by decide +kernel)
    · have h := zin c3 h
      by_cases c4 : a0 = 62
      · have h := zip c4 h
        refine zG.look (tgt := 64) hX hs1 rfl (by rw [c4]) (by decide) ?_
        refine zG.blk (pc' := 66) (l' := [some (0, a0)]) (st' := [(0, 11)]) (M' := M) hX [(.bipush 11, 0, 0, 0)] (by decide +kernel) rfl trivial ?_
        cases h
        exact zG.iret hX (by decide +kernel)
      · have h := zin c4 h
        by_cases c5 : a0 = 301
        · have h := zip c5 h
          refine zG.look (tgt := 55) hX hs1 rfl (by rw [c5]) (by decide) ?_
          refine zG.blk (pc' := 57) (l' := [some (0, a0)]) (st' := [(0, 8)]) (M' := M) hX [(.bipush 8, 0, 0, 0)] (by decide +kernel) rfl trivial ?_
          cases h
          exact zG.iret hX (by decide +kernel)
        · have h := zin c5 h
          by_cases c6 : a0 = 302
          · have h := zip c6 h
            refine zG.look (tgt := 61) hX hs1 rfl (by rw [c6]) (by decide) ?_
            refine zG.blk (pc' := 63) (l' := [some (0, a0)]) (st' := [(0, 10)]) (M' := M) hX [(.bipush 10, 0, 0, 0)] (by decide +kernel) rfl trivial ?_
            cases h
            exact zG.iret hX (by decide +kernel)
          · have h := zin c6 h
            refine zG.look (tgt := 67) (off := 66) hX hs1 rfl (by simp [Op.lookupswitch.offset, c2, c3, c4, c5, c6, Ne.symm c2, Ne.symm c3, Ne.symm c4, Ne.symm c5, Ne.symm c6]) (by decide) ?_
            refine zG.blk (pc' := 68) (l' := [some (0, a0)]) (st' := [(0, (-1))]) (M' := M) hX [(.iconst (-1), 0, 0, 0)] (by decide +kernel) rfl trivial ?_
            cases h
            exact zG.iret hX (by decide +kernel)
theorem pX5_comparingOrder_ok {l : Launch} {E : ZE} {S : ZS} {M : ZM} {a0 : Int} {q : (Int × ZM)} (h : pX5_comparingOrder S M a0 = some q) : zMet l yX5_comparingOrder cX5_comparingOrder 1 (some .int) 1 40 0 0 E S M [(0, a0)] (some (0, q.1)) S q.2 :=
  zMet.of (o := 5) (ini := false) (by decide +kernel) rfl (fun h => by cases h) (Nat.le_of_ble_eq_true rfl) (fun C hX hl hRm => by subst hl; exact pX5_comparingOrder_go hX hRm h)
noncomputable def pX5_multiplyingOrder (S : ZS) (M : ZM) (a0 : Int) : Option (Int × ZM) := if a0 = 37 then (some (6, M)) else if a0 = 42 then (some (4, M)) else if a0 = 47 then (some (5, M)) else (some ((-1), M))
set_option maxHeartbeats 2000000 in
set_option maxRecDepth 20000 in
theorem pX5_multiplyingOrder_go {C : ZC} {E : ZE} {S : ZS} {M : ZM} {a0 : Int} {q : (Int × ZM)} (hX : zCx C E 5 cX5_multiplyingOrder 1 (some .int) false) (hRm : czR C = { frames := 1, cells := 0, slots := 0, locals := 40 }) (h : pX5_multiplyingOrder  S M a0 = some q) : zG C E 1 S 0 0 (zQ C E 0 0 (some (0, q.1)) S q.2) 0 [some (0, a0)] [] M := by
  unfold pX5_multiplyingOrder at h
  refine zG.blk (pc' := 1) (l' := [some (0, a0)]) (st' := [(0, a0)]) (M' := M) hX [(.iload_n 0, 0, 0, 0)] (by decide +kernel) rfl trivial ?_
  have hs1 : decode cX5_multiplyingOrder 1 = .ok (.lookupswitch 42 #[(37, 39), (42, 35), (47, 37)], 35) := by decide +kernel
  by_cases c2 : a0 = 37
  · have h := zip c2 h
    refine zG.look (tgt := 40) hX hs1 rfl (by rw [c2]) (by decide) ?_
    refine zG.blk (pc' := 42) (l' := [some (0, a0)]) (st' := [(0, 6)]) (M' := M) hX [(.bipush 6, 0, 0, 0)] (by decide +kernel) rfl trivial ?_
    cases h
    exact zG.iret hX (by decide +kernel)
  · have h := zin c2 h
    by_cases c3 : a0 = 42
    · have h := zip c3 h
      refine zG.look (tgt := 36) hX hs1 rfl (by rw [c3]) (by decide) ?_
      refine zG.blk (pc' := 37) (l' := [some (0, a0)]) (st' := [(0, 4)]) (M' := M) hX [(.iconst 4, 0, 0, 0)] (by decide +kernel) rfl trivial ?_
      cases h
      exact zG.iret hX (by decide +kernel)
    · have h := zin c3 h
      by_cases c4 : a0 = 47
      · have h := zip c4 h
        refine zG.look (tgt := 38) hX hs1 rfl (by rw [c4]) (by decide) ?_
        refine zG.blk (pc' := 39) (l' := [some (0, a0)]) (st' := [(0, 5)]) (M' := M) hX [(.iconst 5, 0, 0, 0)] (by decide +kernel) rfl trivial ?_
        cases h
        exact zG.iret hX (by decide +kernel)
      · have h := zin c4 h
        refine zG.look (tgt := 43) (off := 42) hX hs1 rfl (by simp [Op.lookupswitch.offset, c2, c3, c4, Ne.symm c2, Ne.symm c3, Ne.symm c4]) (by decide) ?_
        refine zG.blk (pc' := 44) (l' := [some (0, a0)]) (st' := [(0, (-1))]) (M' := M) hX [(.iconst (-1), 0, 0, 0)] (by decide +kernel) rfl trivial ?_
        cases h
        exact zG.iret hX (by decide +kernel)
theorem pX5_multiplyingOrder_ok {l : Launch} {E : ZE} {S : ZS} {M : ZM} {a0 : Int} {q : (Int × ZM)} (h : pX5_multiplyingOrder S M a0 = some q) : zMet l yX5_multiplyingOrder cX5_multiplyingOrder 1 (some .int) 1 40 0 0 E S M [(0, a0)] (some (0, q.1)) S q.2 :=
  zMet.of (o := 5) (ini := false) (by decide +kernel) rfl (fun h => by cases h) (Nat.le_of_ble_eq_true rfl) (fun C hX hl hRm => by subst hl; exact pX5_multiplyingOrder_go hX hRm h)
noncomputable def pX8_token_32 (S : ZS) (M : ZM) (y0 : Int) : Option (Int × ZM) := some (y0, M)
set_option maxHeartbeats 2000000 in
set_option maxRecDepth 20000 in
theorem pX8_token_32_ok {C : ZC} {E : ZE} {S : ZS} {q : (Int × ZM)} (hX : zCx C E 8 cX8_token 1 (some .int) false) (hRm : czR C = { frames := 1, cells := 0, slots := 0, locals := 40 }) {M : ZM} {y0 : Int} (h : pX8_token_32 S M y0 = some q) : zG C E 1 S 0 0 (zQ C E 0 0 (some (0, q.1)) S q.2) 32 [none] [(0, y0)] M := by
  unfold pX8_token_32 at h
  cases h
  exact zG.iret hX (by decide +kernel)
noncomputable def pX8_token_29 (S : ZS) (M : ZM) : Option (Int × ZM) := pX8_token_32 S M 303
set_option maxHeartbeats 2000000 in
set_option maxRecDepth 20000 in
theorem pX8_token_29_ok {C : ZC} {E : ZE} {S : ZS} {q : (Int × ZM)} (hX : zCx C E 8 cX8_token 1 (some .int) false) (hRm : czR C = { frames := 1, cells := 0, slots := 0, locals := 40 }) {M : ZM} (h : pX8_token_29 S M = some q) : zG C E 1 S 0 0 (zQ C E 0 0 (some (0, q.1)) S q.2) 29 [none] [] M := by
  unfold pX8_token_29 at h
  refine zG.blk (pc' := 32) (l' := [none]) (st' := [(0, 303)]) (M' := M) hX [(.sipush 303, 0, 0, 0)] (by decide +kernel) rfl trivial ?_
  exact (pX8_token_32_ok hX hRm h)
noncomputable def pX8_token (S : ZS) (M : ZM) (a0 : Int) : Option (Int × ZM) := if S.1 a0 = 8 then if M a0 4 < 0 then (pX8_token_29 S M) else (if 400 < M a0 4 then (pX8_token_29 S M) else (if S.1 (M a0 2) = 100 ∧ (0 : Int) ≤ M a0 4 ∧ M a0 4 < S.2.1 (M a0 2) then pX8_token_32 S M (M (M a0 2) (M a0 4)) else none)) else none
set_option maxHeartbeats 2000000 in
set_option maxRecDepth 20000 in
theorem pX8_token_go {C : ZC} {E : ZE} {S : ZS} {M : ZM} {a0 : Int} {q : (Int × ZM)} (hX : zCx C E 8 cX8_token 1 (some .int) false) (hRm : czR C = { frames := 1, cells := 0, slots := 0, locals := 40 }) (h : pX8_token  S M a0 = some q) : zG C E 1 S 0 0 (zQ C E 0 0 (some (0, q.1)) S q.2) 0 [some (2, a0)] [] M := by
  unfold pX8_token at h
  obtain ⟨g1, h⟩ := zif h
  refine zG.blk (pc' := 4) (l' := [some (2, a0)]) (st' := [(0, M a0 4)]) (M' := M) hX [(.aload_n 0, 0, 0, 0), (.getfield 36, 8, 4, 0)] (by decide +kernel) rfl (And.intro g1 trivial) ?_
  refine zG.if_lt (tgt := 29) (off := 25) hX (by decide +kernel) (by decide) (fun c2 => ?_) (fun c2 => ?_)
  · have h := zip c2 h
    exact zG.wk [false] (pX8_token_29_ok hX hRm h)
  · have h := zin c2 h
    refine zG.blk (pc' := 14) (l' := [some (2, a0)]) (st' := [(0, 400), (0, M a0 4)]) (M' := M) hX [(.aload_n 0, 0, 0, 0), (.getfield 36, 8, 4, 0), (.sipush 400, 0, 0, 0)] (by decide +kernel) rfl (And.intro g1 trivial) ?_
    refine zG.icmp_gt (tgt := 29) (off := 15) hX (by decide +kernel) (by decide) (fun c3 => ?_) (fun c3 => ?_)
    · have h := zip c3 h
      exact zG.wk [false] (pX8_token_29_ok hX hRm h)
    · have h := zin c3 h
      obtain ⟨g4, h⟩ := zif h
      refine zG.blk (pc' := 26) (l' := [some (2, a0)]) (st' := [(0, M (M a0 2) (M a0 4))]) (M' := M) hX [(.aload_n 0, 0, 0, 0), (.getfield 15, 8, 2, 2), (.aload_n 0, 0, 0, 0), (.getfield 36, 8, 4, 0), (.iaload, 0, 0, 0)] (by decide +kernel) rfl (And.intro g1 (And.intro g1 (And.intro g4 trivial))) ?_
      refine zG.goto (tgt := 32) (off := 6) hX (by decide +kernel) (by decide) ?_
      exact zG.wk [false] (pX8_token_32_ok hX hRm h)
theorem pX8_token_ok {l : Launch} {E : ZE} {S : ZS} {M : ZM} {a0 : Int} {q : (Int × ZM)} (h : pX8_token S M a0 = some q) : zMet l yX8_token cX8_token 1 (some .int) 1 40 0 0 E S M [(2, a0)] (some (0, q.1)) S q.2 :=
  zMet.of (o := 8) (ini := false) (by decide +kernel) rfl (fun h => by cases h) (Nat.le_of_ble_eq_true rfl) (fun C hX hl hRm => by subst hl; exact pX8_token_go hX hRm h)
theorem sv_8_70 : zSV 8 70 yX8_token cX8_token 1 (some .int) 0 := ⟨⟨gt_at 631 (by decide +kernel) rfl, gt_at 608 (by decide +kernel) rfl, gt_at 609 (by decide +kernel) rfl, gt_at 106 (by decide +kernel) rfl, gt_at 610 (by decide +kernel) rfl⟩, by decide +kernel, by decide +kernel, by decide +kernel⟩
noncomputable def pX8_advance_42 (S : ZS) (M : ZM) : Option ZM := some M
set_option maxHeartbeats 2000000 in
set_option maxRecDepth 20000 in
theorem pX8_advance_42_ok {C : ZC} {E : ZE} {S : ZS} {q : ZM} (hX : zCx C E 8 cX8_advance 1 none false) (hRm : czR C = { frames := 2, cells := 0, slots := 0, locals := 60 }) {M : ZM} (h : pX8_advance_42 S M = some q) : zG C E 1 S 0 0 (zQ C E 0 0 none S q) 42 [none] [] M := by
  unfold pX8_advance_42 at h
  cases h
  exact zG.vret hX (by decide +kernel)
noncomputable def pX8_advance (S : ZS) (M : ZM) (a0 : Int) : Option ZM := if S.1 a0 = 8 then if M a0 4 < 0 then (pX8_advance_42 S M) else (if 400 ≤ M a0 4 then (pX8_advance_42 S M) else (if S.1 (M a0 2) = 100 ∧ (0 : Int) ≤ M a0 4 ∧ M a0 4 < S.2.1 (M a0 2) then if M (M a0 2) (M a0 4) = 303 then (pX8_advance_42 S M) else (zlet (upM M a0 4 (w32 ((M a0 4) + 1))) fun M6 => pX8_advance_42 S M6) else none)) else none
set_option maxHeartbeats 2000000 in
set_option maxRecDepth 20000 in
theorem pX8_advance_go {C : ZC} {E : ZE} {S : ZS} {M : ZM} {a0 : Int} {q : ZM} (hX : zCx C E 8 cX8_advance 1 none false) (hRm : czR C = { frames := 2, cells := 0, slots := 0, locals := 60 }) (h : pX8_advance  S M a0 = some q) : zG C E 1 S 0 0 (zQ C E 0 0 none S q) 0 [some (2, a0)] [] M := by
  unfold pX8_advance at h
  obtain ⟨g1, h⟩ := zif h
  refine zG.blk (pc' := 4) (l' := [some (2, a0)]) (st' := [(0, M a0 4)]) (M' := M) hX [(.aload_n 0, 0, 0, 0), (.getfield 36, 8, 4, 0)] (by decide +kernel) rfl (And.intro g1 trivial) ?_
  refine zG.if_lt (tgt := 42) (off := 38) hX (by decide +kernel) (by decide) (fun c2 => ?_) (fun c2 => ?_)
  · have h := zip c2 h
    exact zG.wk [false] (pX8_advance_42_ok hX hRm h)
  · have h := zin c2 h
    refine zG.blk (pc' := 14) (l' := [some (2, a0)]) (st' := [(0, 400), (0, M a0 4)]) (M' := M) hX [(.aload_n 0, 0, 0, 0), (.getfield 36, 8, 4, 0), (.sipush 400, 0, 0, 0)] (by decide +kernel) rfl (And.intro g1 trivial) ?_
    refine zG.icmp_ge (tgt := 42) (off := 28) hX (by decide +kernel) (by decide) (fun c3 => ?_) (fun c3 => ?_)
    · have h := zip c3 h
      exact zG.wk [false] (pX8_advance_42_ok hX hRm h)
    · have h := zin c3 h
      obtain ⟨g4, h⟩ := zif h
      refine zG.blk (pc' := 29) (l' := [some (2, a0)]) (st' := [(0, 303), (0, M (M a0 2) (M a0 4))]) (M' := M) hX [(.aload_n 0, 0, 0, 0), (.getfield 15, 8, 2, 2), (.aload_n 0, 0, 0, 0), (.getfield 36, 8, 4, 0), (.iaload, 0, 0, 0), (.sipush 303, 0, 0, 0)] (by decide +kernel) rfl (And.intro g1 (And.intro g1 (And.intro g4 trivial))) ?_
      refine zG.icmp_eq (tgt := 42) (off := 13) hX (by decide +kernel) (by decide) (fun c5 => ?_) (fun c5 => ?_)
      · have h := zip c5 h
        exact zG.wk [false] (pX8_advance_42_ok hX hRm h)
      · have h := zin c5 h
        refine zG.blk (pc' := 42) (l' := [some (2, a0)]) (st' := []) (M' := (upM M a0 4 (w32 ((M a0 4) + 1)))) hX [(.aload_n 0, 0, 0, 0), (.dup, 0, 0, 0), (.getfield 36, 8, 4, 0), (.iconst 1, 0, 0, 0), (.iadd, 0, 0, 0), (.putfield 36, 8, 4, 0)] (by decide +kernel) rfl (And.intro g1 (And.intro g1 trivial)) ?_
        generalize upM M a0 4 (w32 ((M a0 4) + 1)) = M6 at h ⊢
        have h := zlt h
        exact zG.wk [false] (pX8_advance_42_ok hX hRm h)
theorem pX8_advance_ok {l : Launch} {E : ZE} {S : ZS} {M : ZM} {a0 : Int} {q : ZM} (h : pX8_advance S M a0 = some q) : zMet l yX8_advance cX8_advance 1 none 2 60 0 0 E S M [(2, a0)] (none) S q :=
  zMet.of (o := 8) (ini := false) (by decide +kernel) rfl (fun h => by cases h) (Nat.le_of_ble_eq_true rfl) (fun C hX hl hRm => by subst hl; exact pX8_advance_go hX hRm h)
noncomputable def pX8_fail_44 (S : ZS) (M : ZM) : Option (Int × ZM) := some (0, M)
set_option maxHeartbeats 2000000 in
set_option maxRecDepth 20000 in
theorem pX8_fail_44_ok {C : ZC} {E : ZE} {S : ZS} {q : (Int × ZM)} (hX : zCx C E 8 cX8_fail 2 (some .boolean) false) (hRm : czR C = { frames := 1, cells := 0, slots := 0, locals := 40 }) {M : ZM} (h : pX8_fail_44 S M = some q) : zG C E 2 S 0 0 (zQ C E 0 0 (some (0, q.1)) S q.2) 44 [none, none] [] M := by
  unfold pX8_fail_44 at h
  refine zG.blk (pc' := 45) (l' := [none, none]) (st' := [(0, 0)]) (M' := M) hX [(.iconst 0, 0, 0, 0)] (by decide +kernel) rfl trivial ?_
  cases h
  exact zG.zret hX (by decide +kernel) (Or.inl rfl)
noncomputable def pX8_fail (S : ZS) (M : ZM) (a0 : Int) (a1 : Int) : Option (Int × ZM) := if S.1 a0 = 8 then if M a0 5 = 0 then (if M a0 4 < 0 then (pX8_fail_44 S M) else (if 400 < M a0 4 then (pX8_fail_44 S M) else (if S.1 (M a0 3) = 100 ∧ (0 : Int) ≤ M a0 4 ∧ M a0 4 < S.2.1 (M a0 3) then zlet (upM M a0 5 (w32 ((w32 (1 + (w32 (8 * (M (M a0 3) (M a0 4)))))) + a1))) fun M6 => pX8_fail_44 S M6 else none))) else (pX8_fail_44 S M) else none
set_option maxHeartbeats 2000000 in
set_option maxRecDepth 20000 in
theorem pX8_fail_go {C : ZC} {E : ZE} {S : ZS} {M : ZM} {a0 a1 : Int} {q : (Int × ZM)} (hX : zCx C E 8 cX8_fail 2 (some .boolean) false) (hRm : czR C = { frames := 1, cells := 0, slots := 0, locals := 40 }) (h : pX8_fail  S M a0 a1 = some q) : zG C E 2 S 0 0 (zQ C E 0 0 (some (0, q.1)) S q.2) 0 [some (2, a0), some (0, a1)] [] M := by
  unfold pX8_fail at h
  obtain ⟨g1, h⟩ := zif h
  refine zG.blk (pc' := 4) (l' := [some (2, a0), some (0, a1)]) (st' := [(0, M a0 5)]) (M' := M) hX [(.aload_n 0, 0, 0, 0), (.getfield 39, 8, 5, 0)] (by decide +kernel) rfl (And.intro g1 trivial) ?_
  refine zG.if_ne (tgt := 44) (off := 40) hX (by decide +kernel) (by decide) (fun c2 => ?_) (fun c2 => ?_)
  · have h := zin c2 h
    exact zG.wk [false, false] (pX8_fail_44_ok hX hRm h)
  · have h := zip c2 h
    refine zG.blk (pc' := 11) (l' := [some (2, a0), some (0, a1)]) (st' := [(0, M a0 4)]) (M' := M) hX [(.aload_n 0, 0, 0, 0), (.getfield 36, 8, 4, 0)] (by decide +kernel) rfl (And.intro g1 trivial) ?_
    refine zG.if_lt (tgt := 44) (off := 33) hX (by decide +kernel) (by decide) (fun c3 => ?_) (fun c3 => ?_)
    · have h := zip c3 h
      exact zG.wk [false, false] (pX8_fail_44_ok hX hRm h)
    · have h := zin c3 h
      refine zG.blk (pc' := 21) (l' := [some (2, a0), some (0, a1)]) (st' := [(0, 400), (0, M a0 4)]) (M' := M) hX [(.aload_n 0, 0, 0, 0), (.getfield 36, 8, 4, 0), (.sipush 400, 0, 0, 0)] (by decide +kernel) rfl (And.intro g1 trivial) ?_
      refine zG.icmp_gt (tgt := 44) (off := 23) hX (by decide +kernel) (by decide) (fun c4 => ?_) (fun c4 => ?_)
      · have h := zip c4 h
        exact zG.wk [false, false] (pX8_fail_44_ok hX hRm h)
      · have h := zin c4 h
        obtain ⟨g5, h⟩ := zif h
        refine zG.blk (pc' := 44) (l' := [some (2, a0), some (0, a1)]) (st' := []) (M' := (upM M a0 5 (w32 ((w32 (1 + (w32 (8 * (M (M a0 3) (M a0 4)))))) + a1)))) hX [(.aload_n 0, 0, 0, 0), (.iconst 1, 0, 0, 0), (.bipush 8, 0, 0, 0), (.aload_n 0, 0, 0, 0), (.getfield 18, 8, 3, 2), (.aload_n 0, 0, 0, 0), (.getfield 36, 8, 4, 0), (.iaload, 0, 0, 0), (.imul, 0, 0, 0), (.iadd, 0, 0, 0), (.iload_n 1, 0, 0, 0), (.iadd, 0, 0, 0), (.putfield 39, 8, 5, 0)] (by decide +kernel) rfl (And.intro g1 (And.intro g1 (And.intro g5 (And.intro g1 trivial)))) ?_
        generalize upM M a0 5 (w32 ((w32 (1 + (w32 (8 * (M (M a0 3) (M a0 4)))))) + a1)) = M6 at h ⊢
        have h := zlt h
        exact zG.wk [false, false] (pX8_fail_44_ok hX hRm h)
theorem pX8_fail_ok {l : Launch} {E : ZE} {S : ZS} {M : ZM} {a0 a1 : Int} {q : (Int × ZM)} (h : pX8_fail S M a0 a1 = some q) : zMet l yX8_fail cX8_fail 2 (some .boolean) 1 40 0 0 E S M [(2, a0), (0, a1)] (some (0, q.1)) S q.2 :=
  zMet.of (o := 8) (ini := false) (by decide +kernel) rfl (fun h => by cases h) (Nat.le_of_ble_eq_true rfl) (fun C hX hl hRm => by subst hl; exact pX8_fail_go hX hRm h)
theorem sv_5_31 : zSV 5 31 yX8_token cX8_token 1 (some .int) 0 := ⟨⟨gt_at 680 (by decide +kernel) rfl, gt_at 608 (by decide +kernel) rfl, gt_at 609 (by decide +kernel) rfl, gt_at 106 (by decide +kernel) rfl, gt_at 610 (by decide +kernel) rfl⟩, by decide +kernel, by decide +kernel, by decide +kernel⟩
theorem sv_5_51 : zSV 5 51 yX8_advance cX8_advance 1 none 0 := ⟨⟨gt_at 682 (by decide +kernel) rfl, gt_at 620 (by decide +kernel) rfl, gt_at 621 (by decide +kernel) rfl, gt_at 106 (by decide +kernel) rfl, gt_at 622 (by decide +kernel) rfl⟩, by decide +kernel, by decide +kernel, by decide +kernel⟩
theorem sv_5_61 : zSV 5 61 yX5_addOrder cX5_addOrder 3 none 2 := ⟨⟨gt_at 691 (by decide +kernel) rfl, gt_at 693 (by decide +kernel) rfl, gt_at 15 (by decide +kernel) rfl, gt_at 109 (by decide +kernel) rfl, gt_at 694 (by decide +kernel) rfl⟩, by decide +kernel, by decide +kernel, by decide +kernel⟩
noncomputable def pX5_takeValue_113 (S : ZS) (M : ZM) (y0 : Int) (y1 : Int) (y2 : Int) : Option (Int × ZM) := if S.1 y2 = 5 then (pX5_addOrder S M y2 y1 y0).bind fun q15 => some (1, q15) else none
set_option maxHeartbeats 2000000 in
set_option maxRecDepth 20000 in
theorem pX5_takeValue_113_ok {C : ZC} {E : ZE} {S : ZS} {q : (Int × ZM)} (hX : zCx C E 5 cX5_takeValue 5 (some .boolean) false) (hRm : czR C = { frames := 3, cells := 0, slots := 0, locals := 80 }) {M : ZM} {y0 : Int} {y1 : Int} {y2 : Int} (h : pX5_takeValue_113 S M y0 y1 y2 = some q) : zG C E 5 S 0 0 (zQ C E 0 0 (some (0, q.1)) S q.2) 113 [none, none, none, none, none] [(0, y0), (0, y1), (2, y2)] M := by
  unfold pX5_takeValue_113 at h
  obtain ⟨g17, h⟩ := zif h
  obtain ⟨q15, e16, h⟩ := zbd h
  refine zG.callV (b := y2) (av := [(0, y1), (0, y0)]) (st := []) (ci := 5) hX (pX5_addOrder_ok e16) sv_5_61 rfl ⟨by decide, rfl⟩ g17 (by decide +kernel) (by rw [hRm]; exact ⟨Nat.le_of_ble_eq_true rfl, Nat.le_of_ble_eq_true rfl⟩) (by rw [hRm]; exact ⟨Nat.le_of_ble_eq_true rfl, Nat.le_of_ble_eq_true rfl⟩) (Nat.le_of_ble_eq_true rfl) ?_
  show zG C E 5 S 0 0 _ 116 [none, none, none, none, none] [] q15
  refine zG.blk (pc' := 117) (l' := [none, none, none, none, none]) (st' := [(0, 1)]) (M' := q15) hX [(.iconst 1, 0, 0, 0)] (by decide +kernel) rfl trivial ?_
  cases h
  exact zG.zret hX (by decide +kernel) (Or.inr rfl)
noncomputable def pX5_takeValue_99 (S : ZS) (M : ZM) (x2 : Int) (x3 : Int) (x4 : Int) (y0 : Int) (y1 : Int) : Option (Int × ZM) := pX5_takeValue_113 S M (if x4 = 0 then (w32 (x2 - 1000) : Int) else x3) y0 y1
set_option maxHeartbeats 2000000 in
set_option maxRecDepth 20000 in
theorem pX5_takeValue_99_ok {C : ZC} {E : ZE} {S : ZS} {q : (Int × ZM)} (hX : zCx C E 5 cX5_takeValue 5 (some .boolean) false) (hRm : czR C = { frames := 3, cells := 0, slots := 0, locals := 80 }) {M : ZM} {x2 : Int} {x3 : Int} {x4 : Int} {y0 : Int} {y1 : Int} (h : pX5_takeValue_99 S M x2 x3 x4 y0 y1 = some q) : zG C E 5 S 0 0 (zQ C E 0 0 (some (0, q.1)) S q.2) 99 [none, none, some (0, x2), some (0, x3), some (0, x4)] [(0, y0), (2, y1)] M := by
  unfold pX5_takeValue_99 at h
  refine zG.blk (pc' := 101) (l' := [none, none, some (0, x2), some (0, x3), some (0, x4)]) (st' := [(0, x4), (0, y0), (2, y1)]) (M' := M) hX [(.iload 4, 0, 0, 0)] (by decide +kernel) rfl trivial ?_
  have key14 : zG C E 5 S 0 0 (zQ C E 0 0 (some (0, q.1)) S q.2) 113 [none, none, some (0, x2), some (0, x3), some (0, x4)] [(0, (if x4 = 0 then (w32 (x2 - 1000) : Int) else x3)), (0, y0), (2, y1)] M := by
    exact zG.wk [true, true, false, false, false] (pX5_takeValue_113_ok hX hRm h)
  refine zG.if_eq (tgt := 108) (off := 7) hX (by decide +kernel) (by decide) (fun c18 => ?_) (fun c18 => ?_)
  · refine zG.blk (pc' := 113) (l' := [none, none, some (0, x2), some (0, x3), some (0, x4)]) (st' := [(0, w32 (x2 - 1000)), (0, y0), (2, y1)]) (M' := M) hX [(.iload_n 2, 0, 0, 0), (.sipush 1000, 0, 0, 0), (.isub, 0, 0, 0)] (by decide +kernel) rfl trivial ?_
    (have k := key14; simp only [if_pos c18] at k; exact k)
  · refine zG.blk (pc' := 105) (l' := [none, none, some (0, x2), some (0, x3), some (0, x4)]) (st' := [(0, x3), (0, y0), (2, y1)]) (M' := M) hX [(.iload_n 3, 0, 0, 0)] (by decide +kernel) rfl trivial ?_
    refine zG.goto (tgt := 113) (off := 8) hX (by decide +kernel) (by decide) ?_
    (have k := key14; simp only [if_neg c18] at k; exact k)
theorem sv_5_42 : zSV 5 42 yX8_fail cX8_fail 2 (some .boolean) 1 := ⟨⟨gt_at 681 (by decide +kernel) rfl, gt_at 612 (by decide +kernel) rfl, gt_at 613 (by decide +kernel) rfl, gt_at 106 (by decide +kernel) rfl, gt_at 614 (by decide +kernel) rfl⟩, by decide +kernel, by decide +kernel, by decide +kernel⟩
noncomputable def pX5_takeValue_59 (S : ZS) (M : ZM) (x0 : Int) (x1 : Int) (x2 : Int) (x3 : Int) (x4 : Int) : Option (Int × ZM) := if S.1 x0 = 5 then zlet (upM M x0 2 (w32 ((M x0 2) + 1))) fun M8 => if M8 x0 2 ≤ 60 then (if S.1 x1 = 8 then (pX8_advance S M8 x1).bind fun q10 => pX5_takeValue_99 S q10 x2 x3 x4 (if x4 = 0 then (0 : Int) else 1) x0 else none) else (if S.1 x1 = 8 then (pX8_fail S M8 x1 3).bind fun q20 => if q20.1 = 0 ∨ q20.1 = 1 then some (q20.1, q20.2) else none else none) else none
set_option maxHeartbeats 2000000 in
set_option maxRecDepth 20000 in
theorem pX5_takeValue_59_ok {C : ZC} {E : ZE} {S : ZS} {q : (Int × ZM)} (hX : zCx C E 5 cX5_takeValue 5 (some .boolean) false) (hRm : czR C = { frames := 3, cells := 0, slots := 0, locals := 80 }) {M : ZM} {x0 : Int} {x1 : Int} {x2 : Int} {x3 : Int} {x4 : Int} (h : pX5_takeValue_59 S M x0 x1 x2 x3 x4 = some q) : zG C E 5 S 0 0 (zQ C E 0 0 (some (0, q.1)) S q.2) 59 [some (2, x0), some (2, x1), some (0, x2), some (0, x3), some (0, x4)] [] M := by
  unfold pX5_takeValue_59 at h
  obtain ⟨g7, h⟩ := zif h
  refine zG.blk (pc' := 69) (l' := [some (2, x0), some (2, x1), some (0, x2), some (0, x3), some (0, x4)]) (st' := []) (M' := (upM M x0 2 (w32 ((M x0 2) + 1)))) hX [(.aload_n 0, 0, 0, 0), (.dup, 0, 0, 0), (.getfield 24, 5, 2, 0), (.iconst 1, 0, 0, 0), (.iadd, 0, 0, 0), (.putfield 24, 5, 2, 0)] (by decide +kernel) rfl (And.intro g7 (And.intro g7 trivial)) ?_
  generalize upM M x0 2 (w32 ((M x0 2) + 1)) = M8 at h ⊢
  have h := zlt h
  refine zG.blk (pc' := 75) (l' := [some (2, x0), some (2, x1), some (0, x2), some (0, x3), some (0, x4)]) (st' := [(0, 60), (0, M8 x0 2)]) (M' := M8) hX [(.aload_n 0, 0, 0, 0), (.getfield 24, 5, 2, 0), (.bipush 60, 0, 0, 0)] (by decide +kernel) rfl (And.intro g7 trivial) ?_
  refine zG.icmp_le (tgt := 84) (off := 9) hX (by decide +kernel) (by decide) (fun c9 => ?_) (fun c9 => ?_)
  · have h := zip c9 h
    refine zG.blk (pc' := 85) (l' := [some (2, x0), some (2, x1), some (0, x2), some (0, x3), some (0, x4)]) (st' := [(2, x1)]) (M' := M8) hX [(.aload_n 1, 0, 0, 0)] (by decide +kernel) rfl trivial ?_
    obtain ⟨g12, h⟩ := zif h
    obtain ⟨q10, e11, h⟩ := zbd h
    refine zG.callV (b := x1) (av := []) (st := []) (ci := 8) hX (pX8_advance_ok e11) sv_5_51 rfl ⟨by decide, rfl⟩ g12 (by decide +kernel) (by rw [hRm]; exact ⟨Nat.le_of_ble_eq_true rfl, Nat.le_of_ble_eq_true rfl⟩) (by rw [hRm]; exact ⟨Nat.le_of_ble_eq_true rfl, Nat.le_of_ble_eq_true rfl⟩) (Nat.le_of_ble_eq_true rfl) ?_
    show zG C E 5 S 0 0 _ 88 [some (2, x0), some (2, x1), some (0, x2), some (0, x3), some (0, x4)] [] q10
    refine zG.blk (pc' := 91) (l' := [some (2, x0), some (2, x1), some (0, x2), some (0, x3), some (0, x4)]) (st' := [(0, x4), (2, x0)]) (M' := q10) hX [(.aload_n 0, 0, 0, 0), (.iload 4, 0, 0, 0)] (by decide +kernel) rfl trivial ?_
    have key13 : zG C E 5 S 0 0 (zQ C E 0 0 (some (0, q.1)) S q.2) 99 [some (2, x0), some (2, x1), some (0, x2), some (0, x3), some (0, x4)] [(0, (if x4 = 0 then (0 : Int) else 1)), (2, x0)] q10 := by
      exact zG.wk [false, false, true, true, true] (pX5_takeValue_99_ok hX hRm h)
    refine zG.if_eq (tgt := 98) (off := 7) hX (by decide +kernel) (by decide) (fun c19 => ?_) (fun c19 => ?_)
    · refine zG.blk (pc' := 99) (l' := [some (2, x0), some (2, x1), some (0, x2), some (0, x3), some (0, x4)]) (st' := [(0, 0), (2, x0)]) (M' := q10) hX [(.iconst 0, 0, 0, 0)] (by decide +kernel) rfl trivial ?_
      (have k := key13; simp only [if_pos c19] at k; exact k)
    · refine zG.blk (pc' := 95) (l' := [some (2, x0), some (2, x1), some (0, x2), some (0, x3), some (0, x4)]) (st' := [(0, 1), (2, x0)]) (M' := q10) hX [(.iconst 1, 0, 0, 0)] (by decide +kernel) rfl trivial ?_
      refine zG.goto (tgt := 99) (off := 4) hX (by decide +kernel) (by decide) ?_
      (have k := key13; simp only [if_neg c19] at k; exact k)
  · have h := zin c9 h
    refine zG.blk (pc' := 80) (l' := [some (2, x0), some (2, x1), some (0, x2), some (0, x3), some (0, x4)]) (st' := [(0, 3), (2, x1)]) (M' := M8) hX [(.aload_n 1, 0, 0, 0), (.iconst 3, 0, 0, 0)] (by decide +kernel) rfl trivial ?_
    obtain ⟨g22, h⟩ := zif h
    obtain ⟨q20, e21, h⟩ := zbd h
    refine zG.callV (b := x1) (av := [(0, 3)]) (st := []) (ci := 8) hX (pX8_fail_ok e21) sv_5_42 rfl ⟨by decide, rfl⟩ g22 (by decide +kernel) (by rw [hRm]; exact ⟨Nat.le_of_ble_eq_true rfl, Nat.le_of_ble_eq_true rfl⟩) (by rw [hRm]; exact ⟨Nat.le_of_ble_eq_true rfl, Nat.le_of_ble_eq_true rfl⟩) (Nat.le_of_ble_eq_true rfl) ?_
    show zG C E 5 S 0 0 _ 83 [some (2, x0), some (2, x1), some (0, x2), some (0, x3), some (0, x4)] [(0, q20.1)] q20.2
    obtain ⟨g23, h⟩ := zif h
    cases h
    exact zG.zret hX (by decide +kernel) g23
noncomputable def pX5_takeValue_26 (S : ZS) (M : ZM) (x0 : Int) (x1 : Int) (x2 : Int) (x3 : Int) (y0 : Int) : Option (Int × ZM) := if x2 = 304 then (if S.1 x1 = 8 then (pX8_fail S M x1 1).bind fun q29 => if q29.1 = 0 ∨ q29.1 = 1 then some (q29.1, q29.2) else none else none) else (if y0 = 0 then (if 1000 ≤ x2 then (pX5_takeValue_59 S M x0 x1 x2 x3 y0) else (if S.1 x1 = 8 then (pX8_fail S M x1 0).bind fun q25 => if q25.1 = 0 ∨ q25.1 = 1 then some (q25.1, q25.2) else none else none)) else (pX5_takeValue_59 S M x0 x1 x2 x3 y0))
set_option maxHeartbeats 2000000 in
set_option maxRecDepth 20000 in
theorem pX5_takeValue_26_ok {C : ZC} {E : ZE} {S : ZS} {q : (Int × ZM)} (hX : zCx C E 5 cX5_takeValue 5 (some .boolean) false) (hRm : czR C = { frames := 3, cells := 0, slots := 0, locals := 80 }) {M : ZM} {x0 : Int} {x1 : Int} {x2 : Int} {x3 : Int} {y0 : Int} (h : pX5_takeValue_26 S M x0 x1 x2 x3 y0 = some q) : zG C E 5 S 0 0 (zQ C E 0 0 (some (0, q.1)) S q.2) 26 [some (2, x0), some (2, x1), some (0, x2), some (0, x3), none] [(0, y0)] M := by
  unfold pX5_takeValue_26 at h
  refine zG.blk (pc' := 32) (l' := [some (2, x0), some (2, x1), some (0, x2), some (0, x3), some (0, y0)]) (st' := [(0, 304), (0, x2)]) (M' := M) hX [(.istore 4, 0, 0, 0), (.iload_n 2, 0, 0, 0), (.sipush 304, 0, 0, 0)] (by decide +kernel) rfl trivial ?_
  refine zG.icmp_ne (tgt := 41) (off := 9) hX (by decide +kernel) (by decide) (fun c5 => ?_) (fun c5 => ?_)
  · have h := zin c5 h
    refine zG.blk (pc' := 43) (l' := [some (2, x0), some (2, x1), some (0, x2), some (0, x3), some (0, y0)]) (st' := [(0, y0)]) (M' := M) hX [(.iload 4, 0, 0, 0)] (by decide +kernel) rfl trivial ?_
    refine zG.if_ne (tgt := 59) (off := 16) hX (by decide +kernel) (by decide) (fun c6 => ?_) (fun c6 => ?_)
    · have h := zin c6 h
      exact (pX5_takeValue_59_ok hX hRm h)
    · have h := zip c6 h
      refine zG.blk (pc' := 50) (l' := [some (2, x0), some (2, x1), some (0, x2), some (0, x3), some (0, y0)]) (st' := [(0, 1000), (0, x2)]) (M' := M) hX [(.iload_n 2, 0, 0, 0), (.sipush 1000, 0, 0, 0)] (by decide +kernel) rfl trivial ?_
      refine zG.icmp_ge (tgt := 59) (off := 9) hX (by decide +kernel) (by decide) (fun c24 => ?_) (fun c24 => ?_)
      · have h := zip c24 h
        exact (pX5_takeValue_59_ok hX hRm h)
      · have h := zin c24 h
        refine zG.blk (pc' := 55) (l' := [some (2, x0), some (2, x1), some (0, x2), some (0, x3), some (0, y0)]) (st' := [(0, 0), (2, x1)]) (M' := M) hX [(.aload_n 1, 0, 0, 0), (.iconst 0, 0, 0, 0)] (by decide +kernel) rfl trivial ?_
        obtain ⟨g27, h⟩ := zif h
        obtain ⟨q25, e26, h⟩ := zbd h
        refine zG.callV (b := x1) (av := [(0, 0)]) (st := []) (ci := 8) hX (pX8_fail_ok e26) sv_5_42 rfl ⟨by decide, rfl⟩ g27 (by decide +kernel) (by rw [hRm]; exact ⟨Nat.le_of_ble_eq_true rfl, Nat.le_of_ble_eq_true rfl⟩) (by rw [hRm]; exact ⟨Nat.le_of_ble_eq_true rfl, Nat.le_of_ble_eq_true rfl⟩) (Nat.le_of_ble_eq_true rfl) ?_
        show zG C E 5 S 0 0 _ 58 [some (2, x0), some (2, x1), some (0, x2), some (0, x3), some (0, y0)] [(0, q25.1)] q25.2
        obtain ⟨g28, h⟩ := zif h
        cases h
        exact zG.zret hX (by decide +kernel) g28
  · have h := zip c5 h
    refine zG.blk (pc' := 37) (l' := [some (2, x0), some (2, x1), some (0, x2), some (0, x3), some (0, y0)]) (st' := [(0, 1), (2, x1)]) (M' := M) hX [(.aload_n 1, 0, 0, 0), (.iconst 1, 0, 0, 0)] (by decide +kernel) rfl trivial ?_
    obtain ⟨g31, h⟩ := zif h
    obtain ⟨q29, e30, h⟩ := zbd h
    refine zG.callV (b := x1) (av := [(0, 1)]) (st := []) (ci := 8) hX (pX8_fail_ok e30) sv_5_42 rfl ⟨by decide, rfl⟩ g31 (by decide +kernel) (by rw [hRm]; exact ⟨Nat.le_of_ble_eq_true rfl, Nat.le_of_ble_eq_true rfl⟩) (by rw [hRm]; exact ⟨Nat.le_of_ble_eq_true rfl, Nat.le_of_ble_eq_true rfl⟩) (Nat.le_of_ble_eq_true rfl) ?_
    show zG C E 5 S 0 0 _ 40 [some (2, x0), some (2, x1), some (0, x2), some (0, x3), some (0, y0)] [(0, q29.1)] q29.2
    obtain ⟨g32, h⟩ := zif h
    cases h
    exact zG.zret hX (by decide +kernel) g32
noncomputable def pX5_takeValue (S : ZS) (M : ZM) (a0 : Int) (a1 : Int) : Option (Int × ZM) := if S.1 a1 = 8 then (pX8_token S M a1).bind fun q1 => pX5_takeValue_26 S q1.2 a0 a1 q1.1 (w32 (q1.1 - 256)) (if w32 (q1.1 - 256) < 0 then (0 : Int) else (if 12 ≤ w32 (q1.1 - 256) then (0 : Int) else 1)) else none
set_option maxHeartbeats 2000000 in
set_option maxRecDepth 20000 in
theorem pX5_takeValue_go {C : ZC} {E : ZE} {S : ZS} {M : ZM} {a0 a1 : Int} {q : (Int × ZM)} (hX : zCx C E 5 cX5_takeValue 5 (some .boolean) false) (hRm : czR C = { frames := 3, cells := 0, slots := 0, locals := 80 }) (h : pX5_takeValue  S M a0 a1 = some q) : zG C E 5 S 0 0 (zQ C E 0 0 (some (0, q.1)) S q.2) 0 [some (2, a0), some (2, a1), none, none, none] [] M := by
  unfold pX5_takeValue at h
  refine zG.blk (pc' := 1) (l' := [some (2, a0), some (2, a1), none, none, none]) (st' := [(2, a1)]) (M' := M) hX [(.aload_n 1, 0, 0, 0)] (by decide +kernel) rfl trivial ?_
  obtain ⟨g3, h⟩ := zif h
  obtain ⟨q1, e2, h⟩ := zbd h
  refine zG.callV (b := a1) (av := []) (st := []) (ci := 8) hX (pX8_token_ok e2) sv_5_31 rfl ⟨by decide, rfl⟩ g3 (by decide +kernel) (by rw [hRm]; exact ⟨Nat.le_of_ble_eq_true rfl, Nat.le_of_ble_eq_true rfl⟩) (by rw [hRm]; exact ⟨Nat.le_of_ble_eq_true rfl, Nat.le_of_ble_eq_true rfl⟩) (Nat.le_of_ble_eq_true rfl) ?_
  show zG C E 5 S 0 0 _ 4 [some (2, a0), some (2, a1), none, none, none] [(0, q1.1)] q1.2
  refine zG.blk (pc' := 12) (l' := [some (2, a0), some (2, a1), some (0, q1.1), some (0, w32 (q1.1 - 256)), none]) (st' := [(0, w32 (q1.1 - 256))]) (M' := q1.2) hX [(.istore_n 2, 0, 0, 0), (.iload_n 2, 0, 0, 0), (.sipush 256, 0, 0, 0), (.isub, 0, 0, 0), (.istore_n 3, 0, 0, 0), (.iload_n 3, 0, 0, 0)] (by decide +kernel) rfl trivial ?_
  have key4 : zG C E 5 S 0 0 (zQ C E 0 0 (some (0, q.1)) S q.2) 26 [some (2, a0), some (2, a1), some (0, q1.1), some (0, w32 (q1.1 - 256)), none] [(0, (if w32 (q1.1 - 256) < 0 then (0 : Int) else (if 12 ≤ w32 (q1.1 - 256) then (0 : Int) else 1)))] q1.2 := by
    exact (pX5_takeValue_26_ok hX hRm h)
  refine zG.if_lt (tgt := 25) (off := 13) hX (by decide +kernel) (by decide) (fun c33 => ?_) (fun c33 => ?_)
  · refine zG.blk (pc' := 26) (l' := [some (2, a0), some (2, a1), some (0, q1.1), some (0, w32 (q1.1 - 256)), none]) (st' := [(0, 0)]) (M' := q1.2) hX [(.iconst 0, 0, 0, 0)] (by decide +kernel) rfl trivial ?_
    (have k := key4; simp only [if_pos c33] at k; exact k)
  · refine zG.blk (pc' := 18) (l' := [some (2, a0), some (2, a1), some (0, q1.1), some (0, w32 (q1.1 - 256)), none]) (st' := [(0, 12), (0, w32 (q1.1 - 256))]) (M' := q1.2) hX [(.iload_n 3, 0, 0, 0), (.bipush 12, 0, 0, 0)] (by decide +kernel) rfl trivial ?_
    refine zG.icmp_ge (tgt := 25) (off := 7) hX (by decide +kernel) (by decide) (fun c34 => ?_) (fun c34 => ?_)
    · refine zG.blk (pc' := 26) (l' := [some (2, a0), some (2, a1), some (0, q1.1), some (0, w32 (q1.1 - 256)), none]) (st' := [(0, 0)]) (M' := q1.2) hX [(.iconst 0, 0, 0, 0)] (by decide +kernel) rfl trivial ?_
      (have k := key4; simp only [if_neg c33, if_pos c34] at k; exact k)
    · refine zG.blk (pc' := 22) (l' := [some (2, a0), some (2, a1), some (0, q1.1), some (0, w32 (q1.1 - 256)), none]) (st' := [(0, 1)]) (M' := q1.2) hX [(.iconst 1, 0, 0, 0)] (by decide +kernel) rfl trivial ?_
      refine zG.goto (tgt := 26) (off := 4) hX (by decide +kernel) (by decide) ?_
      (have k := key4; simp only [if_neg c33, if_neg c34] at k; exact k)
theorem pX5_takeValue_ok {l : Launch} {E : ZE} {S : ZS} {M : ZM} {a0 a1 : Int} {q : (Int × ZM)} (h : pX5_takeValue S M a0 a1 = some q) : zMet l yX5_takeValue cX5_takeValue 5 (some .boolean) 3 80 0 0 E S M [(2, a0), (2, a1)] (some (0, q.1)) S q.2 :=
  zMet.of (o := 5) (ini := false) (by decide +kernel) rfl (fun h => by cases h) (Nat.le_of_ble_eq_true rfl) (fun C hX hl hRm => by subst hl; exact pX5_takeValue_go hX hRm h)
theorem sv_5_72 : zSV 5 72 yX5_takeValue cX5_takeValue 5 (some .boolean) 1 := ⟨⟨gt_at 687 (by decide +kernel) rfl, gt_at 689 (by decide +kernel) rfl, gt_at 14 (by decide +kernel) rfl, gt_at 109 (by decide +kernel) rfl, gt_at 690 (by decide +kernel) rfl⟩, by decide +kernel, by decide +kernel, by decide +kernel⟩
theorem ss_5_75 : zSS 5 75 yX5_multiplyingOrder cX5_multiplyingOrder 1 (some .int) 1 := ⟨⟨gt_at 695 (by decide +kernel) rfl, gt_at 696 (by decide +kernel) rfl, gt_at 109 (by decide +kernel) rfl, gt_at 697 (by decide +kernel) rfl⟩, by decide +kernel, by decide +kernel, by decide +kernel⟩
noncomputable def pX5_takeSum_75 (S : ZS) (k7 : ZM → Int → Int → Int → Int → Int → Option (Int × ZM)) (M : ZM) (x0 : Int) (x1 : Int) (x2 : Int) (x3 : Int) (x4 : Int) : Option (Int × ZM) := if S.1 x1 = 8 then (pX8_advance S M x1).bind fun q13 => k7 q13 x0 x1 x2 x3 (w32 (x4 + 1)) else none
set_option maxHeartbeats 2000000 in
set_option maxRecDepth 20000 in
theorem pX5_takeSum_75_ok {C : ZC} {E : ZE} {S : ZS} {k7 : ZM → Int → Int → Int → Int → Int → Option (Int × ZM)} {q : (Int × ZM)} (hX : zCx C E 5 cX5_takeSum 5 (some .boolean) false) (hRm : czR C = { frames := 4, cells := 0, slots := 0, locals := 104 }) (hk7 : ∀ M x0 x1 x2 x3 x4, k7 M x0 x1 x2 x3 x4 = some q → zG C E 5 S 0 0 (zQ C E 0 0 (some (0, q.1)) S q.2) 7 [some (2, x0), some (2, x1), some (0, x2), some (0, x3), some (0, x4)] [] M) {M : ZM} {x0 : Int} {x1 : Int} {x2 : Int} {x3 : Int} {x4 : Int} (h : pX5_takeSum_75 S k7 M x0 x1 x2 x3 x4 = some q) : zG C E 5 S 0 0 (zQ C E 0 0 (some (0, q.1)) S q.2) 75 [some (2, x0), some (2, x1), some (0, x2), some (0, x3), some (0, x4)] [] M := by
  unfold pX5_takeSum_75 at h
  refine zG.blk (pc' := 76) (l' := [some (2, x0), some (2, x1), some (0, x2), some (0, x3), some (0, x4)]) (st' := [(2, x1)]) (M' := M) hX [(.aload_n 1, 0, 0, 0)] (by decide +kernel) rfl trivial ?_
  obtain ⟨g15, h⟩ := zif h
  obtain ⟨q13, e14, h⟩ := zbd h
  refine zG.callV (b := x1) (av := []) (st := []) (ci := 8) hX (pX8_advance_ok e14) sv_5_51 rfl ⟨by decide, rfl⟩ g15 (by decide +kernel) (by rw [hRm]; exact ⟨Nat.le_of_ble_eq_true rfl, Nat.le_of_ble_eq_true rfl⟩) (by rw [hRm]; exact ⟨Nat.le_of_ble_eq_true rfl, Nat.le_of_ble_eq_true rfl⟩) (Nat.le_of_ble_eq_true rfl) ?_
  show zG C E 5 S 0 0 _ 79 [some (2, x0), some (2, x1), some (0, x2), some (0, x3), some (0, x4)] [] q13
  refine zG.blk (pc' := 82) (l' := [some (2, x0), some (2, x1), some (0, x2), some (0, x3), some (0, w32 (x4 + 1))]) (st' := []) (M' := q13) hX [(.iinc 4 1, 0, 0, 0)] (by decide +kernel) rfl trivial ?_
  refine zG.goto (tgt := 7) (off := (-75)) hX (by decide +kernel) (by decide) ?_
  exact (hk7 _ _ _ _ _ _ h)
theorem ss_5_78 : zSS 5 78 yX5_addingOrder cX5_addingOrder 1 (some .int) 1 := ⟨⟨gt_at 698 (by decide +kernel) rfl, gt_at 699 (by decide +kernel) rfl, gt_at 109 (by decide +kernel) rfl, gt_at 700 (by decide +kernel) rfl⟩, by decide +kernel, by decide +kernel, by decide +kernel⟩
noncomputable def pX5_takeSum_60 (S : ZS) (k7 : ZM → Int → Int → Int → Int → Int → Option (Int × ZM)) (M : ZM) (x0 : Int) (x1 : Int) (x2 : Int) (x4 : Int) : Option (Int × ZM) := if S.1 x1 = 8 then (pX8_token S M x1).bind fun q17 => (pX5_addingOrder S q17.2 q17.1).bind fun q20 => if q20.1 = (-1) then (some (1, q20.2)) else (pX5_takeSum_75 S k7 q20.2 x0 x1 x2 q20.1 x4) else none
set_option maxHeartbeats 2000000 in
set_option maxRecDepth 20000 in
theorem pX5_takeSum_60_ok {C : ZC} {E : ZE} {S : ZS} {k7 : ZM → Int → Int → Int → Int → Int → Option (Int × ZM)} {q : (Int × ZM)} (hX : zCx C E 5 cX5_takeSum 5 (some .boolean) false) (hRm : czR C = { frames := 4, cells := 0, slots := 0, locals := 104 }) (hk7 : ∀ M x0 x1 x2 x3 x4, k7 M x0 x1 x2 x3 x4 = some q → zG C E 5 S 0 0 (zQ C E 0 0 (some (0, q.1)) S q.2) 7 [some (2, x0), some (2, x1), some (0, x2), some (0, x3), some (0, x4)] [] M) {M : ZM} {x0 : Int} {x1 : Int} {x2 : Int} {x4 : Int} (h : pX5_takeSum_60 S k7 M x0 x1 x2 x4 = some q) : zG C E 5 S 0 0 (zQ C E 0 0 (some (0, q.1)) S q.2) 60 [some (2, x0), some (2, x1), some (0, x2), none, some (0, x4)] [] M := by
  unfold pX5_takeSum_60 at h
  refine zG.blk (pc' := 61) (l' := [some (2, x0), some (2, x1), some (0, x2), none, some (0, x4)]) (st' := [(2, x1)]) (M' := M) hX [(.aload_n 1, 0, 0, 0)] (by decide +kernel) rfl trivial ?_
  obtain ⟨g19, h⟩ := zif h
  obtain ⟨q17, e18, h⟩ := zbd h
  refine zG.callV (b := x1) (av := []) (st := []) (ci := 8) hX (pX8_token_ok e18) sv_5_31 rfl ⟨by decide, rfl⟩ g19 (by decide +kernel) (by rw [hRm]; exact ⟨Nat.le_of_ble_eq_true rfl, Nat.le_of_ble_eq_true rfl⟩) (by rw [hRm]; exact ⟨Nat.le_of_ble_eq_true rfl, Nat.le_of_ble_eq_true rfl⟩) (Nat.le_of_ble_eq_true rfl) ?_
  show zG C E 5 S 0 0 _ 64 [some (2, x0), some (2, x1), some (0, x2), none, some (0, x4)] [(0, q17.1)] q17.2
  obtain ⟨q20, e21, h⟩ := zbd h
  refine zG.callS (av := [(0, q17.1)]) (st := []) hX (pX5_addingOrder_ok e21) ss_5_78 rfl (by decide +kernel) (by rw [hRm]; exact ⟨Nat.le_of_ble_eq_true rfl, Nat.le_of_ble_eq_true rfl⟩) (by rw [hRm]; exact ⟨Nat.le_of_ble_eq_true rfl, Nat.le_of_ble_eq_true rfl⟩) (Nat.le_of_ble_eq_true rfl) ?_
  show zG C E 5 S 0 0 _ 67 [some (2, x0), some (2, x1), some (0, x2), none, some (0, x4)] [(0, q20.1)] q20.2
  refine zG.blk (pc' := 70) (l' := [some (2, x0), some (2, x1), some (0, x2), some (0, q20.1), some (0, x4)]) (st' := [(0, (-1)), (0, q20.1)]) (M' := q20.2) hX [(.istore_n 3, 0, 0, 0), (.iload_n 3, 0, 0, 0), (.iconst (-1), 0, 0, 0)] (by decide +kernel) rfl trivial ?_
  refine zG.icmp_ne (tgt := 75) (off := 5) hX (by decide +kernel) (by decide) (fun c22 => ?_) (fun c22 => ?_)
  · have h := zin c22 h
    exact (pX5_takeSum_75_ok hX hRm hk7 h)
  · have h := zip c22 h
    refine zG.blk (pc' := 74) (l' := [some (2, x0), some (2, x1), some (0, x2), some (0, q20.1), some (0, x4)]) (st' := [(0, 1)]) (M' := q20.2) hX [(.iconst 1, 0, 0, 0)] (by decide +kernel) rfl trivial ?_
    cases h
    exact zG.zret hX (by decide +kernel) (Or.inr rfl)
noncomputable def pX5_takeSum_36 (S : ZS) (k7 : ZM → Int → Int → Int → Int → Int → Option (Int × ZM)) (M : ZM) (x0 : Int) (x1 : Int) (x3 : Int) (x4 : Int) : Option (Int × ZM) := if S.1 x1 = 8 then (pX8_token S M x1).bind fun q7 => (pX5_multiplyingOrder S q7.2 q7.1).bind fun q10 => if q10.1 = (-1) then (if x3 = (-1) then (pX5_takeSum_60 S k7 q10.2 x0 x1 q10.1 x4) else (if S.1 x0 = 5 then (pX5_addOrder S q10.2 x0 x3 0).bind fun q23 => pX5_takeSum_60 S k7 q23 x0 x1 q10.1 x4 else none)) else (pX5_takeSum_75 S k7 q10.2 x0 x1 q10.1 x3 x4) else none
set_option maxHeartbeats 2000000 in
set_option maxRecDepth 20000 in
theorem pX5_takeSum_36_ok {C : ZC} {E : ZE} {S : ZS} {k7 : ZM → Int → Int → Int → Int → Int → Option (Int × ZM)} {q : (Int × ZM)} (hX : zCx C E 5 cX5_takeSum 5 (some .boolean) false) (hRm : czR C = { frames := 4, cells := 0, slots := 0, locals := 104 }) (hk7 : ∀ M x0 x1 x2 x3 x4, k7 M x0 x1 x2 x3 x4 = some q → zG C E 5 S 0 0 (zQ C E 0 0 (some (0, q.1)) S q.2) 7 [some (2, x0), some (2, x1), some (0, x2), some (0, x3), some (0, x4)] [] M) {M : ZM} {x0 : Int} {x1 : Int} {x3 : Int} {x4 : Int} (h : pX5_takeSum_36 S k7 M x0 x1 x3 x4 = some q) : zG C E 5 S 0 0 (zQ C E 0 0 (some (0, q.1)) S q.2) 36 [some (2, x0), some (2, x1), none, some (0, x3), some (0, x4)] [] M := by
  unfold pX5_takeSum_36 at h
  refine zG.blk (pc' := 37) (l' := [some (2, x0), some (2, x1), none, some (0, x3), some (0, x4)]) (st' := [(2, x1)]) (M' := M) hX [(.aload_n 1, 0, 0, 0)] (by decide +kernel) rfl trivial ?_
  obtain ⟨g9, h⟩ := zif h
  obtain ⟨q7, e8, h⟩ := zbd h
  refine zG.callV (b := x1) (av := []) (st := []) (ci := 8) hX (pX8_token_ok e8) sv_5_31 rfl ⟨by decide, rfl⟩ g9 (by decide +kernel) (by rw [hRm]; exact ⟨Nat.le_of_ble_eq_true rfl, Nat.le_of_ble_eq_true rfl⟩) (by rw [hRm]; exact ⟨Nat.le_of_ble_eq_true rfl, Nat.le_of_ble_eq_true rfl⟩) (Nat.le_of_ble_eq_true rfl) ?_
  show zG C E 5 S 0 0 _ 40 [some (2, x0), some (2, x1), none, some (0, x3), some (0, x4)] [(0, q7.1)] q7.2
  obtain ⟨q10, e11, h⟩ := zbd h
  refine zG.callS (av := [(0, q7.1)]) (st := []) hX (pX5_multiplyingOrder_ok e11) ss_5_75 rfl (by decide +kernel) (by rw [hRm]; exact ⟨Nat.le_of_ble_eq_true rfl, Nat.le_of_ble_eq_true rfl⟩) (by rw [hRm]; exact ⟨Nat.le_of_ble_eq_true rfl, Nat.le_of_ble_eq_true rfl⟩) (Nat.le_of_ble_eq_true rfl) ?_
  show zG C E 5 S 0 0 _ 43 [some (2, x0), some (2, x1), none, some (0, x3), some (0, x4)] [(0, q10.1)] q10.2
  refine zG.blk (pc' := 46) (l' := [some (2, x0), some (2, x1), some (0, q10.1), some (0, x3), some (0, x4)]) (st' := [(0, (-1)), (0, q10.1)]) (M' := q10.2) hX [(.istore_n 2, 0, 0, 0), (.iload_n 2, 0, 0, 0), (.iconst (-1), 0, 0, 0)] (by decide +kernel) rfl trivial ?_
  refine zG.icmp_ne (tgt := 75) (off := 29) hX (by decide +kernel) (by decide) (fun c12 => ?_) (fun c12 => ?_)
  · have h := zin c12 h
    exact (pX5_takeSum_75_ok hX hRm hk7 h)
  · have h := zip c12 h
    refine zG.blk (pc' := 51) (l' := [some (2, x0), some (2, x1), some (0, q10.1), some (0, x3), some (0, x4)]) (st' := [(0, (-1)), (0, x3)]) (M' := q10.2) hX [(.iload_n 3, 0, 0, 0), (.iconst (-1), 0, 0, 0)] (by decide +kernel) rfl trivial ?_
    refine zG.icmp_eq (tgt := 60) (off := 9) hX (by decide +kernel) (by decide) (fun c16 => ?_) (fun c16 => ?_)
    · have h := zip c16 h
      exact zG.wk [true, true, true, false, true] (pX5_takeSum_60_ok hX hRm hk7 h)
    · have h := zin c16 h
      refine zG.blk (pc' := 57) (l' := [some (2, x0), some (2, x1), some (0, q10.1), some (0, x3), some (0, x4)]) (st' := [(0, 0), (0, x3), (2, x0)]) (M' := q10.2) hX [(.aload_n 0, 0, 0, 0), (.iload_n 3, 0, 0, 0), (.iconst 0, 0, 0, 0)] (by decide +kernel) rfl trivial ?_
      obtain ⟨g25, h⟩ := zif h
      obtain ⟨q23, e24, h⟩ := zbd h
      refine zG.callV (b := x0) (av := [(0, x3), (0, 0)]) (st := []) (ci := 5) hX (pX5_addOrder_ok e24) sv_5_61 rfl ⟨by decide, rfl⟩ g25 (by decide +kernel) (by rw [hRm]; exact ⟨Nat.le_of_ble_eq_true rfl, Nat.le_of_ble_eq_true rfl⟩) (by rw [hRm]; exact ⟨Nat.le_of_ble_eq_true rfl, Nat.le_of_ble_eq_true rfl⟩) (Nat.le_of_ble_eq_true rfl) ?_
      show zG C E 5 S 0 0 _ 60 [some (2, x0), some (2, x1), some (0, q10.1), some (0, x3), some (0, x4)] [] q23
      exact zG.wk [true, true, true, false, true] (pX5_takeSum_60_ok hX hRm hk7 h)
noncomputable def pX5_takeSum_7 (S : ZS) : Nat → ZM → Int → Int → Int → Int → Int → Option (Int × ZM)
  | 0 => fun _ _ _ _ _ _ => none
  | n + 1 => fun M x0 x1 x2 x3 x4 => if 400 ≤ x4 then (some (1, M)) else (if S.1 x0 = 5 then (pX5_takeValue S M x0 x1).bind fun q2 => if q2.1 = 0 then (some (0, q2.2)) else (if x2 = (-1) then (pX5_takeSum_36 S (pX5_takeSum_7 S n) q2.2 x0 x1 x3 x4) else ((pX5_addOrder S q2.2 x0 x2 0).bind fun q26 => pX5_takeSum_36 S (pX5_takeSum_7 S n) q26 x0 x1 x3 x4)) else none)
set_option maxHeartbeats 2000000 in
set_option maxRecDepth 20000 in
theorem pX5_takeSum_7_ok {C : ZC} {E : ZE} {S : ZS} {q : (Int × ZM)} (hX : zCx C E 5 cX5_takeSum 5 (some .boolean) false) (hRm : czR C = { frames := 4, cells := 0, slots := 0, locals := 104 }) : ∀ (n : Nat) (M : ZM) (x0 : Int) (x1 : Int) (x2 : Int) (x3 : Int) (x4 : Int), pX5_takeSum_7 S n M x0 x1 x2 x3 x4 = some q → zG C E 5 S 0 0 (zQ C E 0 0 (some (0, q.1)) S q.2) 7 [some (2, x0), some (2, x1), some (0, x2), some (0, x3), some (0, x4)] [] M := by
  intro n
  induction n with
  | zero => intro M x0 x1 x2 x3 x4 h; cases h
  | succ n ih =>
    intro M x0 x1 x2 x3 x4 h
    unfold pX5_takeSum_7 at h
    refine zG.blk (pc' := 12) (l' := [some (2, x0), some (2, x1), some (0, x2), some (0, x3), some (0, x4)]) (st' := [(0, 400), (0, x4)]) (M' := M) hX [(.iload 4, 0, 0, 0), (.sipush 400, 0, 0, 0)] (by decide +kernel) rfl trivial ?_
    refine zG.icmp_ge (tgt := 85) (off := 73) hX (by decide +kernel) (by decide) (fun c1 => ?_) (fun c1 => ?_)
    · have h := zip c1 h
      refine zG.blk (pc' := 86) (l' := [some (2, x0), some (2, x1), some (0, x2), some (0, x3), some (0, x4)]) (st' := [(0, 1)]) (M' := M) hX [(.iconst 1, 0, 0, 0)] (by decide +kernel) rfl trivial ?_
      cases h
      exact zG.zret hX (by decide +kernel) (Or.inr rfl)
    · have h := zin c1 h
      refine zG.blk (pc' := 17) (l' := [some (2, x0), some (2, x1), some (0, x2), some (0, x3), some (0, x4)]) (st' := [(2, x1), (2, x0)]) (M' := M) hX [(.aload_n 0, 0, 0, 0), (.aload_n 1, 0, 0, 0)] (by decide +kernel) rfl trivial ?_
      obtain ⟨g4, h⟩ := zif h
      obtain ⟨q2, e3, h⟩ := zbd h
      refine zG.callV (b := x0) (av := [(2, x1)]) (st := []) (ci := 5) hX (pX5_takeValue_ok e3) sv_5_72 rfl ⟨by decide, rfl⟩ g4 (by decide +kernel) (by rw [hRm]; exact ⟨Nat.le_of_ble_eq_true rfl, Nat.le_of_ble_eq_true rfl⟩) (by rw [hRm]; exact ⟨Nat.le_of_ble_eq_true rfl, Nat.le_of_ble_eq_true rfl⟩) (Nat.le_of_ble_eq_true rfl) ?_
      show zG C E 5 S 0 0 _ 20 [some (2, x0), some (2, x1), some (0, x2), some (0, x3), some (0, x4)] [(0, q2.1)] q2.2
      refine zG.if_ne (tgt := 25) (off := 5) hX (by decide +kernel) (by decide) (fun c5 => ?_) (fun c5 => ?_)
      · have h := zin c5 h
        refine zG.blk (pc' := 27) (l' := [some (2, x0), some (2, x1), some (0, x2), some (0, x3), some (0, x4)]) (st' := [(0, (-1)), (0, x2)]) (M' := q2.2) hX [(.iload_n 2, 0, 0, 0), (.iconst (-1), 0, 0, 0)] (by decide +kernel) rfl trivial ?_
        refine zG.icmp_eq (tgt := 36) (off := 9) hX (by decide +kernel) (by decide) (fun c6 => ?_) (fun c6 => ?_)
        · have h := zip c6 h
          exact zG.wk [true, true, false, true, true] (pX5_takeSum_36_ok hX hRm ih h)
        · have h := zin c6 h
          refine zG.blk (pc' := 33) (l' := [some (2, x0), some (2, x1), some (0, x2), some (0, x3), some (0, x4)]) (st' := [(0, 0), (0, x2), (2, x0)]) (M' := q2.2) hX [(.aload_n 0, 0, 0, 0), (.iload_n 2, 0, 0, 0), (.iconst 0, 0, 0, 0)] (by decide +kernel) rfl trivial ?_
          obtain ⟨q26, e27, h⟩ := zbd h
          refine zG.callV (b := x0) (av := [(0, x2), (0, 0)]) (st := []) (ci := 5) hX (pX5_addOrder_ok e27) sv_5_61 rfl ⟨by decide, rfl⟩ g4 (by decide +kernel) (by rw [hRm]; exact ⟨Nat.le_of_ble_eq_true rfl, Nat.le_of_ble_eq_true rfl⟩) (by rw [hRm]; exact ⟨Nat.le_of_ble_eq_true rfl, Nat.le_of_ble_eq_true rfl⟩) (Nat.le_of_ble_eq_true rfl) ?_
          show zG C E 5 S 0 0 _ 36 [some (2, x0), some (2, x1), some (0, x2), some (0, x3), some (0, x4)] [] q26
          exact zG.wk [true, true, false, true, true] (pX5_takeSum_36_ok hX hRm ih h)
      · have h := zip c5 h
        refine zG.blk (pc' := 24) (l' := [some (2, x0), some (2, x1), some (0, x2), some (0, x3), some (0, x4)]) (st' := [(0, 0)]) (M' := q2.2) hX [(.iconst 0, 0, 0, 0)] (by decide +kernel) rfl trivial ?_
        cases h
        exact zG.zret hX (by decide +kernel) (Or.inl rfl)
noncomputable def pX5_takeSum (S : ZS) (M : ZM) (a0 : Int) (a1 : Int) : Option (Int × ZM) := pX5_takeSum_7 S zFU M a0 a1 (-1) (-1) 0
set_option maxHeartbeats 2000000 in
set_option maxRecDepth 20000 in
theorem pX5_takeSum_go {C : ZC} {E : ZE} {S : ZS} {M : ZM} {a0 a1 : Int} {q : (Int × ZM)} (hX : zCx C E 5 cX5_takeSum 5 (some .boolean) false) (hRm : czR C = { frames := 4, cells := 0, slots := 0, locals := 104 }) (h : pX5_takeSum  S M a0 a1 = some q) : zG C E 5 S 0 0 (zQ C E 0 0 (some (0, q.1)) S q.2) 0 [some (2, a0), some (2, a1), none, none, none] [] M := by
  unfold pX5_takeSum at h
  refine zG.blk (pc' := 7) (l' := [some (2, a0), some (2, a1), some (0, (-1)), some (0, (-1)), some (0, 0)]) (st' := []) (M' := M) hX [(.iconst (-1), 0, 0, 0), (.istore_n 2, 0, 0, 0), (.iconst (-1), 0, 0, 0), (.istore_n 3, 0, 0, 0), (.iconst 0, 0, 0, 0), (.istore 4, 0, 0, 0)] (by decide +kernel) rfl trivial ?_
  exact (pX5_takeSum_7_ok hX hRm zFU _ _ _ _ _ _ h)
theorem pX5_takeSum_ok {l : Launch} {E : ZE} {S : ZS} {M : ZM} {a0 a1 : Int} {q : (Int × ZM)} (h : pX5_takeSum S M a0 a1 = some q) : zMet l yX5_takeSum cX5_takeSum 5 (some .boolean) 4 104 0 0 E S M [(2, a0), (2, a1)] (some (0, q.1)) S q.2 :=
  zMet.of (o := 5) (ini := false) (by decide +kernel) rfl (fun h => by cases h) (Nat.le_of_ble_eq_true rfl) (fun C hX hl hRm => by subst hl; exact pX5_takeSum_go hX hRm h)
theorem sv_8_73 : zSV 8 73 yX8_advance cX8_advance 1 none 0 := ⟨⟨gt_at 649 (by decide +kernel) rfl, gt_at 620 (by decide +kernel) rfl, gt_at 621 (by decide +kernel) rfl, gt_at 106 (by decide +kernel) rfl, gt_at 622 (by decide +kernel) rfl⟩, by decide +kernel, by decide +kernel, by decide +kernel⟩
noncomputable def pX8_takes (S : ZS) (M : ZM) (a0 : Int) (a1 : Int) : Option (Int × ZM) := if S.1 a0 = 8 then (pX8_token S M a0).bind fun q1 => if q1.1 = a1 then ((pX8_advance S q1.2 a0).bind fun q5 => some (1, q5)) else (some (0, q1.2)) else none
set_option maxHeartbeats 2000000 in
set_option maxRecDepth 20000 in
theorem pX8_takes_go {C : ZC} {E : ZE} {S : ZS} {M : ZM} {a0 a1 : Int} {q : (Int × ZM)} (hX : zCx C E 8 cX8_takes 2 (some .boolean) false) (hRm : czR C = { frames := 3, cells := 0, slots := 0, locals := 80 }) (h : pX8_takes  S M a0 a1 = some q) : zG C E 2 S 0 0 (zQ C E 0 0 (some (0, q.1)) S q.2) 0 [some (2, a0), some (0, a1)] [] M := by
  unfold pX8_takes at h
  refine zG.blk (pc' := 1) (l' := [some (2, a0), some (0, a1)]) (st' := [(2, a0)]) (M' := M) hX [(.aload_n 0, 0, 0, 0)] (by decide +kernel) rfl trivial ?_
  obtain ⟨g3, h⟩ := zif h
  obtain ⟨q1, e2, h⟩ := zbd h
  refine zG.callV (b := a0) (av := []) (st := []) (ci := 8) hX (pX8_token_ok e2) sv_8_70 rfl ⟨by decide, rfl⟩ g3 (by decide +kernel) (by rw [hRm]; exact ⟨Nat.le_of_ble_eq_true rfl, Nat.le_of_ble_eq_true rfl⟩) (by rw [hRm]; exact ⟨Nat.le_of_ble_eq_true rfl, Nat.le_of_ble_eq_true rfl⟩) (Nat.le_of_ble_eq_true rfl) ?_
  show zG C E 2 S 0 0 _ 4 [some (2, a0), some (0, a1)] [(0, q1.1)] q1.2
  refine zG.blk (pc' := 5) (l' := [some (2, a0), some (0, a1)]) (st' := [(0, a1), (0, q1.1)]) (M' := q1.2) hX [(.iload_n 1, 0, 0, 0)] (by decide +kernel) rfl trivial ?_
  refine zG.icmp_eq (tgt := 10) (off := 5) hX (by decide +kernel) (by decide) (fun c4 => ?_) (fun c4 => ?_)
  · have h := zip c4 h
    refine zG.blk (pc' := 11) (l' := [some (2, a0), some (0, a1)]) (st' := [(2, a0)]) (M' := q1.2) hX [(.aload_n 0, 0, 0, 0)] (by decide +kernel) rfl trivial ?_
    obtain ⟨q5, e6, h⟩ := zbd h
    refine zG.callV (b := a0) (av := []) (st := []) (ci := 8) hX (pX8_advance_ok e6) sv_8_73 rfl ⟨by decide, rfl⟩ g3 (by decide +kernel) (by rw [hRm]; exact ⟨Nat.le_of_ble_eq_true rfl, Nat.le_of_ble_eq_true rfl⟩) (by rw [hRm]; exact ⟨Nat.le_of_ble_eq_true rfl, Nat.le_of_ble_eq_true rfl⟩) (Nat.le_of_ble_eq_true rfl) ?_
    show zG C E 2 S 0 0 _ 14 [some (2, a0), some (0, a1)] [] q5
    refine zG.blk (pc' := 15) (l' := [some (2, a0), some (0, a1)]) (st' := [(0, 1)]) (M' := q5) hX [(.iconst 1, 0, 0, 0)] (by decide +kernel) rfl trivial ?_
    cases h
    exact zG.zret hX (by decide +kernel) (Or.inr rfl)
  · have h := zin c4 h
    refine zG.blk (pc' := 9) (l' := [some (2, a0), some (0, a1)]) (st' := [(0, 0)]) (M' := q1.2) hX [(.iconst 0, 0, 0, 0)] (by decide +kernel) rfl trivial ?_
    cases h
    exact zG.zret hX (by decide +kernel) (Or.inl rfl)
theorem pX8_takes_ok {l : Launch} {E : ZE} {S : ZS} {M : ZM} {a0 a1 : Int} {q : (Int × ZM)} (h : pX8_takes S M a0 a1 = some q) : zMet l yX8_takes cX8_takes 2 (some .boolean) 3 80 0 0 E S M [(2, a0), (0, a1)] (some (0, q.1)) S q.2 :=
  zMet.of (o := 8) (ini := false) (by decide +kernel) rfl (fun h => by cases h) (Nat.le_of_ble_eq_true rfl) (fun C hX hl hRm => by subst hl; exact pX8_takes_go hX hRm h)
noncomputable def pX8_byteAt_29 (S : ZS) (M : ZM) (y0 : Int) : Option (Int × ZM) := some (y0, M)
set_option maxHeartbeats 2000000 in
set_option maxRecDepth 20000 in
theorem pX8_byteAt_29_ok {C : ZC} {E : ZE} {S : ZS} {q : (Int × ZM)} (hX : zCx C E 8 cX8_byteAt 2 (some .int) false) (hRm : czR C = { frames := 1, cells := 0, slots := 0, locals := 40 }) {M : ZM} {y0 : Int} (h : pX8_byteAt_29 S M y0 = some q) : zG C E 2 S 0 0 (zQ C E 0 0 (some (0, q.1)) S q.2) 29 [none, none] [(0, y0)] M := by
  unfold pX8_byteAt_29 at h
  cases h
  exact zG.iret hX (by decide +kernel)
noncomputable def pX8_byteAt_28 (S : ZS) (M : ZM) : Option (Int × ZM) := pX8_byteAt_29 S M (-1)
set_option maxHeartbeats 2000000 in
set_option maxRecDepth 20000 in
theorem pX8_byteAt_28_ok {C : ZC} {E : ZE} {S : ZS} {q : (Int × ZM)} (hX : zCx C E 8 cX8_byteAt 2 (some .int) false) (hRm : czR C = { frames := 1, cells := 0, slots := 0, locals := 40 }) {M : ZM} (h : pX8_byteAt_28 S M = some q) : zG C E 2 S 0 0 (zQ C E 0 0 (some (0, q.1)) S q.2) 28 [none, none] [] M := by
  unfold pX8_byteAt_28 at h
  refine zG.blk (pc' := 29) (l' := [none, none]) (st' := [(0, (-1))]) (M' := M) hX [(.iconst (-1), 0, 0, 0)] (by decide +kernel) rfl trivial ?_
  exact (pX8_byteAt_29_ok hX hRm h)
noncomputable def pX8_byteAt (S : ZS) (M : ZM) (a0 : Int) (a1 : Int) : Option (Int × ZM) := if a1 < 0 then (pX8_byteAt_28 S M) else (if S.1 a0 = 8 then if M a0 1 ≤ a1 then (pX8_byteAt_28 S M) else (if 400 ≤ a1 then (pX8_byteAt_28 S M) else (if S.1 (M a0 0) = 100 ∧ (0 : Int) ≤ a1 ∧ a1 < S.2.1 (M a0 0) then pX8_byteAt_29 S M (M (M a0 0) a1) else none)) else none)
set_option maxHeartbeats 2000000 in
set_option maxRecDepth 20000 in
theorem pX8_byteAt_go {C : ZC} {E : ZE} {S : ZS} {M : ZM} {a0 a1 : Int} {q : (Int × ZM)} (hX : zCx C E 8 cX8_byteAt 2 (some .int) false) (hRm : czR C = { frames := 1, cells := 0, slots := 0, locals := 40 }) (h : pX8_byteAt  S M a0 a1 = some q) : zG C E 2 S 0 0 (zQ C E 0 0 (some (0, q.1)) S q.2) 0 [some (2, a0), some (0, a1)] [] M := by
  unfold pX8_byteAt at h
  refine zG.blk (pc' := 1) (l' := [some (2, a0), some (0, a1)]) (st' := [(0, a1)]) (M' := M) hX [(.iload_n 1, 0, 0, 0)] (by decide +kernel) rfl trivial ?_
  refine zG.if_lt (tgt := 28) (off := 27) hX (by decide +kernel) (by decide) (fun c1 => ?_) (fun c1 => ?_)
  · have h := zip c1 h
    exact zG.wk [false, false] (pX8_byteAt_28_ok hX hRm h)
  · have h := zin c1 h
    obtain ⟨g2, h⟩ := zif h
    refine zG.blk (pc' := 9) (l' := [some (2, a0), some (0, a1)]) (st' := [(0, M a0 1), (0, a1)]) (M' := M) hX [(.iload_n 1, 0, 0, 0), (.aload_n 0, 0, 0, 0), (.getfield 21, 8, 1, 0)] (by decide +kernel) rfl (And.intro g2 trivial) ?_
    refine zG.icmp_ge (tgt := 28) (off := 19) hX (by decide +kernel) (by decide) (fun c3 => ?_) (fun c3 => ?_)
    · have h := zip c3 h
      exact zG.wk [false, false] (pX8_byteAt_28_ok hX hRm h)
    · have h := zin c3 h
      refine zG.blk (pc' := 16) (l' := [some (2, a0), some (0, a1)]) (st' := [(0, 400), (0, a1)]) (M' := M) hX [(.iload_n 1, 0, 0, 0), (.sipush 400, 0, 0, 0)] (by decide +kernel) rfl trivial ?_
      refine zG.icmp_ge (tgt := 28) (off := 12) hX (by decide +kernel) (by decide) (fun c4 => ?_) (fun c4 => ?_)
      · have h := zip c4 h
        exact zG.wk [false, false] (pX8_byteAt_28_ok hX hRm h)
      · have h := zin c4 h
        obtain ⟨g5, h⟩ := zif h
        refine zG.blk (pc' := 25) (l' := [some (2, a0), some (0, a1)]) (st' := [(0, M (M a0 0) a1)]) (M' := M) hX [(.aload_n 0, 0, 0, 0), (.getfield 9, 8, 0, 2), (.iload_n 1, 0, 0, 0), (.iaload, 0, 0, 0)] (by decide +kernel) rfl (And.intro g2 (And.intro g5 trivial)) ?_
        refine zG.goto (tgt := 29) (off := 4) hX (by decide +kernel) (by decide) ?_
        exact zG.wk [false, false] (pX8_byteAt_29_ok hX hRm h)
theorem pX8_byteAt_ok {l : Launch} {E : ZE} {S : ZS} {M : ZM} {a0 a1 : Int} {q : (Int × ZM)} (h : pX8_byteAt S M a0 a1 = some q) : zMet l yX8_byteAt cX8_byteAt 2 (some .int) 1 40 0 0 E S M [(2, a0), (0, a1)] (some (0, q.1)) S q.2 :=
  zMet.of (o := 8) (ini := false) (by decide +kernel) rfl (fun h => by cases h) (Nat.le_of_ble_eq_true rfl) (fun C hX hl hRm => by subst hl; exact pX8_byteAt_go hX hRm h)
