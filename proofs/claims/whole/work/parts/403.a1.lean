theorem sa_int : Cond.arrayClass (newarray.typeOf .int) ∈ gt := gt_at 162 (by decide +kernel) rfl
theorem sm_14_304 : Cond.methodLink (zOwn 14) 304 Lib.Math.min.name ∈ gt := gt_at 728 (by decide +kernel) rfl
theorem sk_14_150 : Cond.methodLink (zOwn 14) 150 arraycopyName ∈ gt := gt_at 731 (by decide +kernel) rfl
noncomputable def pJ7_copyOf_59c91_31 (S : ZS) (M : ZM) (x2 : Int) : Option (Int × ZS × ZM) := some (x2, S, M)
set_option maxHeartbeats 2000000 in
set_option maxRecDepth 20000 in
theorem pJ7_copyOf_59c91_31_ok {C : ZC} {E : ZE} {q : (Int × ZS × ZM)} (hX : zCx C E 14 cJ7_copyOf_59c91 3 (some (.array .int)) false) (hRm : czR C = { frames := 1, cells := 1, slots := 400, locals := 60 }) {S : ZS} {M : ZM} {x2 : Int} (h : pJ7_copyOf_59c91_31 S M x2 = some q) : zG C E 3 S 1 400 (zQ C E 1 400 (some (2, q.1)) q.2.1 q.2.2) 31 [none, none, some (2, x2)] [] M := by
  unfold pJ7_copyOf_59c91_31 at h
  refine zG.blk (pc' := 32) (l' := [none, none, some (2, x2)]) (st' := [(2, x2)]) (M' := M) hX [(.aload_n 2, 0, 0, 0)] (by decide +kernel) rfl trivial ?_
  cases h
  exact zG.aret hX (Or.inr ⟨_, rfl⟩) (by decide +kernel) (by decide)
noncomputable def pJ7_copyOf_59c91 (S : ZS) (M : ZM) (a0 : Int) (a1 : Int) : Option (Int × ZS × ZM) := if S.1 a0 = 100 then if a1 = S.2.1 a0 then (none) else (if (0 : Int) ≤ a1 ∧ a1 ≤ 400 then if S.2.2 < 2000000000 then zlet (S.2.2 + 1) fun r7 => zlet (zNewM S M) fun M6 => zlet (zNewS S 100 a1) fun S5 => if S5.1 a0 = 100 then if S5.1 r7 = 100 then if (0 : Int) ≤ (if a1 < S5.2.1 a0 then (a1 : Int) else S5.2.1 a0) ∧ (if a1 < S5.2.1 a0 then (a1 : Int) else S5.2.1 a0) ≤ S5.2.1 a0 ∧ (if a1 < S5.2.1 a0 then (a1 : Int) else S5.2.1 a0) ≤ S5.2.1 r7 then zlet (zCpy M6 a0 r7 (if a1 < S5.2.1 a0 then (a1 : Int) else S5.2.1 a0)) fun M11 => pJ7_copyOf_59c91_31 S5 M11 r7 else none else none else none else none else none) else none
set_option maxHeartbeats 2000000 in
set_option maxRecDepth 20000 in
theorem pJ7_copyOf_59c91_go {C : ZC} {E : ZE} {S : ZS} {M : ZM} {a0 a1 : Int} {q : (Int × ZS × ZM)} (hX : zCx C E 14 cJ7_copyOf_59c91 3 (some (.array .int)) false) (hRm : czR C = { frames := 1, cells := 1, slots := 400, locals := 60 }) (h : pJ7_copyOf_59c91  S M a0 a1 = some q) : zG C E 3 S 0 0 (zQ C E 1 400 (some (2, q.1)) q.2.1 q.2.2) 0 [some (2, a0), some (0, a1), none] [] M := by
  unfold pJ7_copyOf_59c91 at h
  obtain ⟨g1, h⟩ := zif h
  refine zG.blk (pc' := 3) (l' := [some (2, a0), some (0, a1), none]) (st' := [(0, S.2.1 a0), (0, a1)]) (M' := M) hX [(.iload_n 1, 0, 0, 0), (.aload_n 0, 0, 0, 0), (.arraylength, 100, 0, 0)] (by decide +kernel) rfl (And.intro g1 trivial) ?_
  refine zG.icmp_ne (tgt := 14) (off := 11) hX (by decide +kernel) (by decide) (fun c2 => ?_) (fun c2 => ?_)
  · have h := zin c2 h
    refine zG.blk (pc' := 15) (l' := [some (2, a0), some (0, a1), none]) (st' := [(0, a1)]) (M' := M) hX [(.iload_n 1, 0, 0, 0)] (by decide +kernel) rfl trivial ?_
    obtain ⟨g3, h⟩ := zif h
    obtain ⟨g4, h⟩ := zif h
    refine zG.newarray (at_ := .int) (t := 0) (N := 400) hX (by simp) sa_int (by decide +kernel) g4 g3 (Nat.le_of_ble_eq_true rfl) (by rw [hRm]; exact ⟨Nat.le_of_ble_eq_true rfl, Nat.le_of_ble_eq_true rfl⟩) ?_
    show zG C E 3 (zNewS S 100 a1) 1 400 _ 17 [some (2, a0), some (0, a1), none] [(2, (S.2.2 + 1))] (zNewM S M)
    generalize S.2.2 + 1 = r7 at h ⊢
    have h := zlt h
    generalize zNewM S M = M6 at h ⊢
    have h := zlt h
    generalize zNewS S 100 a1 = S5 at h ⊢
    have h := zlt h
    obtain ⟨g8, h⟩ := zif h
    refine zG.blk (pc' := 25) (l' := [some (2, a0), some (0, a1), some (2, r7)]) (st' := [(0, a1), (0, S5.2.1 a0), (0, 0), (2, r7), (0, 0), (2, a0)]) (M' := M6) hX [(.astore_n 2, 0, 0, 0), (.aload_n 0, 0, 0, 0), (.iconst 0, 0, 0, 0), (.aload_n 2, 0, 0, 0), (.iconst 0, 0, 0, 0), (.aload_n 0, 0, 0, 0), (.arraylength, 100, 0, 0), (.iload_n 1, 0, 0, 0)] (by decide +kernel) rfl (And.intro g8 trivial) ?_
    refine zG.min hX sm_14_304 sm_min_1 sm_1 sm_min_2 (by decide +kernel) (by rw [hRm]; exact ⟨Nat.le_of_ble_eq_true rfl, Nat.le_of_ble_eq_true rfl⟩) (by rw [hRm]; exact ⟨Nat.le_of_ble_eq_true rfl, Nat.le_of_ble_eq_true rfl⟩) ?_
    show zG C E 3 S5 1 400 _ 28 [some (2, a0), some (0, a1), some (2, r7)] [(0, (if a1 < S5.2.1 a0 then (a1 : Int) else S5.2.1 a0)), (0, 0), (2, r7), (0, 0), (2, a0)] M6
    obtain ⟨g9, h⟩ := zif h
    obtain ⟨g10, h⟩ := zif h
    refine zG.copy hX sk_14_150 sk_1 sk_2 sk_3 (by decide +kernel) g8 g9 g10 (by rw [hRm]; exact ⟨Nat.le_of_ble_eq_true rfl, Nat.le_of_ble_eq_true rfl⟩) ?_
    show zG C E 3 S5 1 400 _ 31 [some (2, a0), some (0, a1), some (2, r7)] [] (zCpy M6 a0 r7 (if a1 < S5.2.1 a0 then (a1 : Int) else S5.2.1 a0))
    generalize zCpy M6 a0 r7 (if a1 < S5.2.1 a0 then (a1 : Int) else S5.2.1 a0) = M11 at h ⊢
    have h := zlt h
    exact zG.wk [false, false, true] (pJ7_copyOf_59c91_31_ok hX hRm h)
  · have h := zip c2 h
    refine zG.blk (pc' := 7) (l' := [some (2, a0), some (0, a1), none]) (st' := [(2, a0)]) (M' := M) hX [(.aload_n 0, 0, 0, 0)] (by decide +kernel) rfl trivial ?_
    cases h
theorem pJ7_copyOf_59c91_ok {l : Launch} {E : ZE} {S : ZS} {M : ZM} {a0 a1 : Int} {q : (Int × ZS × ZM)} (h : pJ7_copyOf_59c91 S M a0 a1 = some q) : zMet l yJ7_copyOf_59c91 cJ7_copyOf_59c91 3 (some (.array .int)) 1 60 1 400 E S M [(2, a0), (0, a1)] (some (2, q.1)) q.2.1 q.2.2 :=
  zMet.of (o := 14) (ini := false) (by decide +kernel) rfl (fun h => by cases h) (Nat.le_of_ble_eq_true rfl) (fun C hX hl hRm => by subst hl; exact pJ7_copyOf_59c91_go hX hRm h)
theorem ss_5_45 : zSS 5 45 yJ7_copyOf_59c91 cJ7_copyOf_59c91 3 (some (.array .int)) 2 := ⟨⟨gt_at 718 (by decide +kernel) rfl, gt_at 719 (by decide +kernel) rfl, gt_at 112 (by decide +kernel) rfl, gt_at 720 (by decide +kernel) rfl⟩, by decide +kernel, by decide +kernel, by decide +kernel⟩
noncomputable def pX5_orders (S : ZS) (M : ZM) (a0 : Int) : Option (Int × ZS × ZM) := if S.1 a0 = 5 then (pJ7_copyOf_59c91 S M (M a0 0) (M a0 1)).bind fun q2 => some (q2.1, q2.2.1, q2.2.2) else none
set_option maxHeartbeats 2000000 in
set_option maxRecDepth 20000 in
theorem pX5_orders_go {C : ZC} {E : ZE} {S : ZS} {M : ZM} {a0 : Int} {q : (Int × ZS × ZM)} (hX : zCx C E 5 cX5_orders 1 (some (.array .int)) false) (hRm : czR C = { frames := 2, cells := 1, slots := 400, locals := 82 }) (h : pX5_orders  S M a0 = some q) : zG C E 1 S 0 0 (zQ C E 1 400 (some (2, q.1)) q.2.1 q.2.2) 0 [some (2, a0)] [] M := by
  unfold pX5_orders at h
  obtain ⟨g1, h⟩ := zif h
  refine zG.blk (pc' := 8) (l' := [some (2, a0)]) (st' := [(0, M a0 1), (2, M a0 0)]) (M' := M) hX [(.aload_n 0, 0, 0, 0), (.getfield 9, 5, 0, 2), (.aload_n 0, 0, 0, 0), (.getfield 20, 5, 1, 0)] (by decide +kernel) rfl (And.intro g1 (And.intro g1 trivial)) ?_
  obtain ⟨q2, e3, h⟩ := zbd h
  refine zG.callS (av := [(2, M a0 0), (0, M a0 1)]) (st := []) hX (pJ7_copyOf_59c91_ok e3) ss_5_45 rfl (by decide +kernel) (by rw [hRm]; exact ⟨Nat.le_of_ble_eq_true rfl, Nat.le_of_ble_eq_true rfl⟩) (by rw [hRm]; exact ⟨Nat.le_of_ble_eq_true rfl, Nat.le_of_ble_eq_true rfl⟩) (Nat.le_of_ble_eq_true rfl) ?_
  show zG C E 1 q2.2.1 1 400 _ 11 [some (2, a0)] [(2, q2.1)] q2.2.2
  cases h
  exact zG.aret hX (Or.inr ⟨_, rfl⟩) (by decide +kernel) (by decide)
theorem pX5_orders_ok {l : Launch} {E : ZE} {S : ZS} {M : ZM} {a0 : Int} {q : (Int × ZS × ZM)} (h : pX5_orders S M a0 = some q) : zMet l yX5_orders cX5_orders 1 (some (.array .int)) 2 82 1 400 E S M [(2, a0)] (some (2, q.1)) q.2.1 q.2.2 :=
  zMet.of (o := 5) (ini := false) (by decide +kernel) rfl (fun h => by cases h) (Nat.le_of_ble_eq_true rfl) (fun C hX hl hRm => by subst hl; exact pX5_orders_go hX hRm h)
theorem so_0_3 : Cond.methodLink (zOwn 0) 3 Lib.objectInit ∈ gt := gt_at 377 (by decide +kernel) rfl
theorem sa_long : Cond.arrayClass (newarray.typeOf .long) ∈ gt := gt_at 388 (by decide +kernel) rfl
noncomputable def pX0_init_19 (S : ZS) (M : ZM) (x0 : Int) : Option (ZS × ZM) := if S.2.2 < 2000000000 then zlet (S.2.2 + 1) fun r17 => zlet (zNewM S M) fun M16 => zlet (zNewS S 101 40) fun S15 => if S15.1 x0 = 0 then zlet (upM M16 x0 2 r17) fun M19 => some (S15, M19) else none else none
set_option maxHeartbeats 2000000 in
set_option maxRecDepth 20000 in
theorem pX0_init_19_ok {C : ZC} {E : ZE} {q : (ZS × ZM)} (hX : zCx C E 0 cX0_init 1 none true) (hRm : czR C = { frames := 1, cells := 3, slots := 57, locals := 40 }) {S : ZS} {M : ZM} {x0 : Int} (h : pX0_init_19 S M x0 = some q) : zG C E 1 S 2 17 (zQ C E 3 57 none q.1 q.2) 19 [some (2, x0)] [] M := by
  unfold pX0_init_19 at h
  refine zG.blk (pc' := 22) (l' := [some (2, x0)]) (st' := [(0, 40), (2, x0)]) (M' := M) hX [(.aload_n 0, 0, 0, 0), (.bipush 40, 0, 0, 0)] (by decide +kernel) rfl trivial ?_
  obtain ⟨g14, h⟩ := zif h
  refine zG.newarray (at_ := .long) (t := 1) (N := 40) hX (by simp) sa_long (by decide +kernel) g14 (by decide) (Nat.le_of_ble_eq_true rfl) (by rw [hRm]; exact ⟨Nat.le_of_ble_eq_true rfl, Nat.le_of_ble_eq_true rfl⟩) ?_
  show zG C E 1 (zNewS S 101 40) 3 57 _ 24 [some (2, x0)] [(2, (S.2.2 + 1)), (2, x0)] (zNewM S M)
  generalize S.2.2 + 1 = r17 at h ⊢
  have h := zlt h
  generalize zNewM S M = M16 at h ⊢
  have h := zlt h
  generalize zNewS S 101 40 = S15 at h ⊢
  have h := zlt h
  obtain ⟨g18, h⟩ := zif h
  refine zG.blk (pc' := 27) (l' := [some (2, x0)]) (st' := []) (M' := (upM M16 x0 2 r17)) hX [(.putfield 18, 0, 2, 2)] (by decide +kernel) rfl (And.intro g18 trivial) ?_
  generalize upM M16 x0 2 r17 = M19 at h ⊢
  have h := zlt h
  cases h
  exact zG.vret hX (by decide +kernel)
noncomputable def pX0_init (S : ZS) (M : ZM) (a0 : Int) : Option (ZS × ZM) := if 1 ≤ a0 then if S.2.2 < 2000000000 then zlet (S.2.2 + 1) fun r5 => zlet (zNewM S M) fun M4 => zlet (zNewS S 100 12) fun S3 => if S3.1 a0 = 0 then zlet (upM M4 a0 0 r5) fun M7 => if S3.2.2 < 2000000000 then zlet (S3.2.2 + 1) fun r11 => zlet (zNewM S3 M7) fun M10 => zlet (zNewS S3 100 5) fun S9 => if S9.1 a0 = 0 then zlet (upM M10 a0 1 r11) fun M13 => pX0_init_19 S9 M13 a0 else none else none else none else none else none
set_option maxHeartbeats 2000000 in
set_option maxRecDepth 20000 in
theorem pX0_init_go {C : ZC} {E : ZE} {S : ZS} {M : ZM} {a0 : Int} {q : (ZS × ZM)} (hX : zCx C E 0 cX0_init 1 none true) (hRm : czR C = { frames := 1, cells := 3, slots := 57, locals := 40 }) (h : pX0_init  S M a0 = some q) : zG C E 1 S 0 0 (zQ C E 3 57 none q.1 q.2) 0 [some (2, a0)] [] M := by
  unfold pX0_init at h
  refine zG.blk (pc' := 1) (l' := [some (2, a0)]) (st' := [(2, a0)]) (M' := M) hX [(.aload_n 0, 0, 0, 0)] (by decide +kernel) rfl trivial ?_
  obtain ⟨g1, h⟩ := zif h
  refine zG.objInit hX so_0_3 so_1 so_2 g1 (by decide +kernel) (by rw [hRm]; exact ⟨Nat.le_of_ble_eq_true rfl, Nat.le_of_ble_eq_true rfl⟩) ?_
  show zG C E 1 S 0 0 _ 4 [some (2, a0)] [] M
  refine zG.blk (pc' := 7) (l' := [some (2, a0)]) (st' := [(0, 12), (2, a0)]) (M' := M) hX [(.aload_n 0, 0, 0, 0), (.bipush 12, 0, 0, 0)] (by decide +kernel) rfl trivial ?_
  obtain ⟨g2, h⟩ := zif h
  refine zG.newarray (at_ := .int) (t := 0) (N := 12) hX (by simp) sa_int (by decide +kernel) g2 (by decide) (Nat.le_of_ble_eq_true rfl) (by rw [hRm]; exact ⟨Nat.le_of_ble_eq_true rfl, Nat.le_of_ble_eq_true rfl⟩) ?_
  show zG C E 1 (zNewS S 100 12) 1 12 _ 9 [some (2, a0)] [(2, (S.2.2 + 1)), (2, a0)] (zNewM S M)
  generalize S.2.2 + 1 = r5 at h ⊢
  have h := zlt h
  generalize zNewM S M = M4 at h ⊢
  have h := zlt h
  generalize zNewS S 100 12 = S3 at h ⊢
  have h := zlt h
  obtain ⟨g6, h⟩ := zif h
  refine zG.blk (pc' := 12) (l' := [some (2, a0)]) (st' := []) (M' := (upM M4 a0 0 r5)) hX [(.putfield 9, 0, 0, 2)] (by decide +kernel) rfl (And.intro g6 trivial) ?_
  generalize upM M4 a0 0 r5 = M7 at h ⊢
  have h := zlt h
  refine zG.blk (pc' := 14) (l' := [some (2, a0)]) (st' := [(0, 5), (2, a0)]) (M' := M7) hX [(.aload_n 0, 0, 0, 0), (.iconst 5, 0, 0, 0)] (by decide +kernel) rfl trivial ?_
  obtain ⟨g8, h⟩ := zif h
  refine zG.newarray (at_ := .int) (t := 0) (N := 5) hX (by simp) sa_int (by decide +kernel) g8 (by decide) (Nat.le_of_ble_eq_true rfl) (by rw [hRm]; exact ⟨Nat.le_of_ble_eq_true rfl, Nat.le_of_ble_eq_true rfl⟩) ?_
  show zG C E 1 (zNewS S3 100 5) 2 17 _ 16 [some (2, a0)] [(2, (S3.2.2 + 1)), (2, a0)] (zNewM S3 M7)
  generalize S3.2.2 + 1 = r11 at h ⊢
  have h := zlt h
  generalize zNewM S3 M7 = M10 at h ⊢
  have h := zlt h
  generalize zNewS S3 100 5 = S9 at h ⊢
  have h := zlt h
  obtain ⟨g12, h⟩ := zif h
  refine zG.blk (pc' := 19) (l' := [some (2, a0)]) (st' := []) (M' := (upM M10 a0 1 r11)) hX [(.putfield 15, 0, 1, 2)] (by decide +kernel) rfl (And.intro g12 trivial) ?_
  generalize upM M10 a0 1 r11 = M13 at h ⊢
  have h := zlt h
  exact (pX0_init_19_ok hX hRm h)
theorem pX0_init_ok {l : Launch} {E : ZE} {S : ZS} {M : ZM} {a0 : Int} {q : (ZS × ZM)} (h : pX0_init S M a0 = some q) : zMet l yX0_init cX0_init 1 none 1 40 3 57 E S M [(2, a0)] (none) q.1 q.2 :=
  zMet.of (o := 0) (ini := true) (by decide +kernel) rfl (fun _ => rfl) (Nat.le_of_ble_eq_true rfl) (fun C hX hl hRm => by subst hl; exact pX0_init_go hX hRm h)
theorem so_6_3 : Cond.methodLink (zOwn 6) 3 Lib.objectInit ∈ gt := gt_at 271 (by decide +kernel) rfl
noncomputable def pX6_init_34 (S : ZS) (M : ZM) (x0 : Int) : Option (ZS × ZM) := if S.1 x0 = 6 then (pJ7_fill_53178 S M (M x0 2) (-1)).bind fun q27 => some (S, q27) else none
set_option maxHeartbeats 2000000 in
set_option maxRecDepth 20000 in
theorem pX6_init_34_ok {C : ZC} {E : ZE} {q : (ZS × ZM)} (hX : zCx C E 6 cX6_init 1 none true) (hRm : czR C = { frames := 2, cells := 4, slots := 82, locals := 63 }) {S : ZS} {M : ZM} {x0 : Int} (h : pX6_init_34 S M x0 = some q) : zG C E 1 S 4 82 (zQ C E 4 82 none q.1 q.2) 34 [some (2, x0)] [] M := by
  unfold pX6_init_34 at h
  obtain ⟨g26, h⟩ := zif h
  refine zG.blk (pc' := 39) (l' := [some (2, x0)]) (st' := [(0, (-1)), (2, M x0 2)]) (M' := M) hX [(.aload_n 0, 0, 0, 0), (.getfield 18, 6, 2, 2), (.iconst (-1), 0, 0, 0)] (by decide +kernel) rfl (And.intro g26 trivial) ?_
  obtain ⟨q27, e28, h⟩ := zbd h
  refine zG.callS (av := [(2, M x0 2), (0, (-1))]) (st := []) hX (pJ7_fill_53178_ok e28) ss_6_24 rfl (by decide +kernel) (by rw [hRm]; exact ⟨Nat.le_of_ble_eq_true rfl, Nat.le_of_ble_eq_true rfl⟩) (by rw [hRm]; exact ⟨Nat.le_of_ble_eq_true rfl, Nat.le_of_ble_eq_true rfl⟩) (Nat.le_of_ble_eq_true rfl) ?_
  show zG C E 1 S 4 82 _ 42 [some (2, x0)] [] q27
  cases h
  exact zG.vret hX (by decide +kernel)
noncomputable def pX6_init_18 (S : ZS) (M : ZM) (x0 : Int) : Option (ZS × ZM) := if S.2.2 < 2000000000 then zlet (S.2.2 + 1) fun r17 => zlet (zNewM S M) fun M16 => zlet (zNewS S 100 36) fun S15 => if S15.1 x0 = 6 then zlet (upM M16 x0 2 r17) fun M19 => if S15.2.2 < 2000000000 then zlet (S15.2.2 + 1) fun r23 => zlet (zNewM S15 M19) fun M22 => zlet (zNewS S15 100 36) fun S21 => if S21.1 x0 = 6 then zlet (upM M22 x0 3 r23) fun M25 => pX6_init_34 S21 M25 x0 else none else none else none else none
set_option maxHeartbeats 2000000 in
set_option maxRecDepth 20000 in
theorem pX6_init_18_ok {C : ZC} {E : ZE} {q : (ZS × ZM)} (hX : zCx C E 6 cX6_init 1 none true) (hRm : czR C = { frames := 2, cells := 4, slots := 82, locals := 63 }) {S : ZS} {M : ZM} {x0 : Int} (h : pX6_init_18 S M x0 = some q) : zG C E 1 S 2 10 (zQ C E 4 82 none q.1 q.2) 18 [some (2, x0)] [] M := by
  unfold pX6_init_18 at h
  refine zG.blk (pc' := 21) (l' := [some (2, x0)]) (st' := [(0, 36), (2, x0)]) (M' := M) hX [(.aload_n 0, 0, 0, 0), (.bipush 36, 0, 0, 0)] (by decide +kernel) rfl trivial ?_
  obtain ⟨g14, h⟩ := zif h
  refine zG.newarray (at_ := .int) (t := 0) (N := 36) hX (by simp) sa_int (by decide +kernel) g14 (by decide) (Nat.le_of_ble_eq_true rfl) (by rw [hRm]; exact ⟨Nat.le_of_ble_eq_true rfl, Nat.le_of_ble_eq_true rfl⟩) ?_
  show zG C E 1 (zNewS S 100 36) 3 46 _ 23 [some (2, x0)] [(2, (S.2.2 + 1)), (2, x0)] (zNewM S M)
  generalize S.2.2 + 1 = r17 at h ⊢
  have h := zlt h
  generalize zNewM S M = M16 at h ⊢
  have h := zlt h
  generalize zNewS S 100 36 = S15 at h ⊢
  have h := zlt h
  obtain ⟨g18, h⟩ := zif h
  refine zG.blk (pc' := 26) (l' := [some (2, x0)]) (st' := []) (M' := (upM M16 x0 2 r17)) hX [(.putfield 18, 6, 2, 2)] (by decide +kernel) rfl (And.intro g18 trivial) ?_
  generalize upM M16 x0 2 r17 = M19 at h ⊢
  have h := zlt h
  refine zG.blk (pc' := 29) (l' := [some (2, x0)]) (st' := [(0, 36), (2, x0)]) (M' := M19) hX [(.aload_n 0, 0, 0, 0), (.bipush 36, 0, 0, 0)] (by decide +kernel) rfl trivial ?_
  obtain ⟨g20, h⟩ := zif h
  refine zG.newarray (at_ := .int) (t := 0) (N := 36) hX (by simp) sa_int (by decide +kernel) g20 (by decide) (Nat.le_of_ble_eq_true rfl) (by rw [hRm]; exact ⟨Nat.le_of_ble_eq_true rfl, Nat.le_of_ble_eq_true rfl⟩) ?_
  show zG C E 1 (zNewS S15 100 36) 4 82 _ 31 [some (2, x0)] [(2, (S15.2.2 + 1)), (2, x0)] (zNewM S15 M19)
  generalize S15.2.2 + 1 = r23 at h ⊢
  have h := zlt h
  generalize zNewM S15 M19 = M22 at h ⊢
  have h := zlt h
  generalize zNewS S15 100 36 = S21 at h ⊢
  have h := zlt h
  obtain ⟨g24, h⟩ := zif h
  refine zG.blk (pc' := 34) (l' := [some (2, x0)]) (st' := []) (M' := (upM M22 x0 3 r23)) hX [(.putfield 21, 6, 3, 2)] (by decide +kernel) rfl (And.intro g24 trivial) ?_
  generalize upM M22 x0 3 r23 = M25 at h ⊢
  have h := zlt h
  exact (pX6_init_34_ok hX hRm h)
noncomputable def pX6_init (S : ZS) (M : ZM) (a0 : Int) : Option (ZS × ZM) := if 1 ≤ a0 then if S.2.2 < 2000000000 then zlet (S.2.2 + 1) fun r5 => zlet (zNewM S M) fun M4 => zlet (zNewS S 100 5) fun S3 => if S3.1 a0 = 6 then zlet (upM M4 a0 0 r5) fun M7 => if S3.2.2 < 2000000000 then zlet (S3.2.2 + 1) fun r11 => zlet (zNewM S3 M7) fun M10 => zlet (zNewS S3 100 5) fun S9 => if S9.1 a0 = 6 then zlet (upM M10 a0 1 r11) fun M13 => pX6_init_18 S9 M13 a0 else none else none else none else none else none
set_option maxHeartbeats 2000000 in
set_option maxRecDepth 20000 in
theorem pX6_init_go {C : ZC} {E : ZE} {S : ZS} {M : ZM} {a0 : Int} {q : (ZS × ZM)} (hX : zCx C E 6 cX6_init 1 none true) (hRm : czR C = { frames := 2, cells := 4, slots := 82, locals := 63 }) (h : pX6_init  S M a0 = some q) : zG C E 1 S 0 0 (zQ C E 4 82 none q.1 q.2) 0 [some (2, a0)] [] M := by
  unfold pX6_init at h
  refine zG.blk (pc' := 1) (l' := [some (2, a0)]) (st' := [(2, a0)]) (M' := M) hX [(.aload_n 0, 0, 0, 0)] (by decide +kernel) rfl trivial ?_
  obtain ⟨g1, h⟩ := zif h
  refine zG.objInit hX so_6_3 so_1 so_2 g1 (by decide +kernel) (by rw [hRm]; exact ⟨Nat.le_of_ble_eq_true rfl, Nat.le_of_ble_eq_true rfl⟩) ?_
  show zG C E 1 S 0 0 _ 4 [some (2, a0)] [] M
  refine zG.blk (pc' := 6) (l' := [some (2, a0)]) (st' := [(0, 5), (2, a0)]) (M' := M) hX [(.aload_n 0, 0, 0, 0), (.iconst 5, 0, 0, 0)] (by decide +kernel) rfl trivial ?_
  obtain ⟨g2, h⟩ := zif h
  refine zG.newarray (at_ := .int) (t := 0) (N := 5) hX (by simp) sa_int (by decide +kernel) g2 (by decide) (Nat.le_of_ble_eq_true rfl) (by rw [hRm]; exact ⟨Nat.le_of_ble_eq_true rfl, Nat.le_of_ble_eq_true rfl⟩) ?_
  show zG C E 1 (zNewS S 100 5) 1 5 _ 8 [some (2, a0)] [(2, (S.2.2 + 1)), (2, a0)] (zNewM S M)
  generalize S.2.2 + 1 = r5 at h ⊢
  have h := zlt h
  generalize zNewM S M = M4 at h ⊢
  have h := zlt h
  generalize zNewS S 100 5 = S3 at h ⊢
  have h := zlt h
  obtain ⟨g6, h⟩ := zif h
  refine zG.blk (pc' := 11) (l' := [some (2, a0)]) (st' := []) (M' := (upM M4 a0 0 r5)) hX [(.putfield 9, 6, 0, 2)] (by decide +kernel) rfl (And.intro g6 trivial) ?_
  generalize upM M4 a0 0 r5 = M7 at h ⊢
  have h := zlt h
  refine zG.blk (pc' := 13) (l' := [some (2, a0)]) (st' := [(0, 5), (2, a0)]) (M' := M7) hX [(.aload_n 0, 0, 0, 0), (.iconst 5, 0, 0, 0)] (by decide +kernel) rfl trivial ?_
  obtain ⟨g8, h⟩ := zif h
  refine zG.newarray (at_ := .int) (t := 0) (N := 5) hX (by simp) sa_int (by decide +kernel) g8 (by decide) (Nat.le_of_ble_eq_true rfl) (by rw [hRm]; exact ⟨Nat.le_of_ble_eq_true rfl, Nat.le_of_ble_eq_true rfl⟩) ?_
  show zG C E 1 (zNewS S3 100 5) 2 10 _ 15 [some (2, a0)] [(2, (S3.2.2 + 1)), (2, a0)] (zNewM S3 M7)
  generalize S3.2.2 + 1 = r11 at h ⊢
  have h := zlt h
  generalize zNewM S3 M7 = M10 at h ⊢
  have h := zlt h
  generalize zNewS S3 100 5 = S9 at h ⊢
  have h := zlt h
  obtain ⟨g12, h⟩ := zif h
  refine zG.blk (pc' := 18) (l' := [some (2, a0)]) (st' := []) (M' := (upM M10 a0 1 r11)) hX [(.putfield 15, 6, 1, 2)] (by decide +kernel) rfl (And.intro g12 trivial) ?_
  generalize upM M10 a0 1 r11 = M13 at h ⊢
  have h := zlt h
  exact (pX6_init_18_ok hX hRm h)
theorem pX6_init_ok {l : Launch} {E : ZE} {S : ZS} {M : ZM} {a0 : Int} {q : (ZS × ZM)} (h : pX6_init S M a0 = some q) : zMet l yX6_init cX6_init 1 none 2 63 4 82 E S M [(2, a0)] (none) q.1 q.2 :=
  zMet.of (o := 6) (ini := true) (by decide +kernel) rfl (fun _ => rfl) (Nat.le_of_ble_eq_true rfl) (fun C hX hl hRm => by subst hl; exact pX6_init_go hX hRm h)
theorem so_9_3 : Cond.methodLink (zOwn 9) 3 Lib.objectInit ∈ gt := gt_at 174 (by decide +kernel) rfl
noncomputable def pX9_init_34 (S : ZS) (M : ZM) (x0 : Int) : Option (ZS × ZM) := if S.2.2 < 2000000000 then zlet (S.2.2 + 1) fun r29 => zlet (zNewM S M) fun M28 => zlet (zNewS S 100 36) fun S27 => if S27.1 x0 = 9 then zlet (upM M28 x0 9 r29) fun M31 => some (S27, M31) else none else none
set_option maxHeartbeats 2000000 in
set_option maxRecDepth 20000 in
theorem pX9_init_34_ok {C : ZC} {E : ZE} {q : (ZS × ZM)} (hX : zCx C E 9 cX9_init 1 none true) (hRm : czR C = { frames := 1, cells := 5, slots := 70, locals := 40 }) {S : ZS} {M : ZM} {x0 : Int} (h : pX9_init_34 S M x0 = some q) : zG C E 1 S 4 34 (zQ C E 5 70 none q.1 q.2) 34 [some (2, x0)] [] M := by
  unfold pX9_init_34 at h
  refine zG.blk (pc' := 37) (l' := [some (2, x0)]) (st' := [(0, 36), (2, x0)]) (M' := M) hX [(.aload_n 0, 0, 0, 0), (.bipush 36, 0, 0, 0)] (by decide +kernel) rfl trivial ?_
  obtain ⟨g26, h⟩ := zif h
  refine zG.newarray (at_ := .int) (t := 0) (N := 36) hX (by simp) sa_int (by decide +kernel) g26 (by decide) (Nat.le_of_ble_eq_true rfl) (by rw [hRm]; exact ⟨Nat.le_of_ble_eq_true rfl, Nat.le_of_ble_eq_true rfl⟩) ?_
  show zG C E 1 (zNewS S 100 36) 5 70 _ 39 [some (2, x0)] [(2, (S.2.2 + 1)), (2, x0)] (zNewM S M)
  generalize S.2.2 + 1 = r29 at h ⊢
  have h := zlt h
  generalize zNewM S M = M28 at h ⊢
  have h := zlt h
  generalize zNewS S 100 36 = S27 at h ⊢
  have h := zlt h
  obtain ⟨g30, h⟩ := zif h
  refine zG.blk (pc' := 42) (l' := [some (2, x0)]) (st' := []) (M' := (upM M28 x0 9 r29)) hX [(.putfield 24, 9, 9, 2)] (by decide +kernel) rfl (And.intro g30 trivial) ?_
  generalize upM M28 x0 9 r29 = M31 at h ⊢
  have h := zlt h
  cases h
  exact zG.vret hX (by decide +kernel)
noncomputable def pX9_init_18 (S : ZS) (M : ZM) (x0 : Int) : Option (ZS × ZM) := if S.2.2 < 2000000000 then zlet (S.2.2 + 1) fun r17 => zlet (zNewM S M) fun M16 => zlet (zNewS S 100 12) fun S15 => if S15.1 x0 = 9 then zlet (upM M16 x0 7 r17) fun M19 => if S15.2.2 < 2000000000 then zlet (S15.2.2 + 1) fun r23 => zlet (zNewM S15 M19) fun M22 => zlet (zNewS S15 100 12) fun S21 => if S21.1 x0 = 9 then zlet (upM M22 x0 8 r23) fun M25 => pX9_init_34 S21 M25 x0 else none else none else none else none
set_option maxHeartbeats 2000000 in
set_option maxRecDepth 20000 in
theorem pX9_init_18_ok {C : ZC} {E : ZE} {q : (ZS × ZM)} (hX : zCx C E 9 cX9_init 1 none true) (hRm : czR C = { frames := 1, cells := 5, slots := 70, locals := 40 }) {S : ZS} {M : ZM} {x0 : Int} (h : pX9_init_18 S M x0 = some q) : zG C E 1 S 2 10 (zQ C E 5 70 none q.1 q.2) 18 [some (2, x0)] [] M := by
  unfold pX9_init_18 at h
  refine zG.blk (pc' := 21) (l' := [some (2, x0)]) (st' := [(0, 12), (2, x0)]) (M' := M) hX [(.aload_n 0, 0, 0, 0), (.bipush 12, 0, 0, 0)] (by decide +kernel) rfl trivial ?_
  obtain ⟨g14, h⟩ := zif h
  refine zG.newarray (at_ := .int) (t := 0) (N := 12) hX (by simp) sa_int (by decide +kernel) g14 (by decide) (Nat.le_of_ble_eq_true rfl) (by rw [hRm]; exact ⟨Nat.le_of_ble_eq_true rfl, Nat.le_of_ble_eq_true rfl⟩) ?_
  show zG C E 1 (zNewS S 100 12) 3 22 _ 23 [some (2, x0)] [(2, (S.2.2 + 1)), (2, x0)] (zNewM S M)
  generalize S.2.2 + 1 = r17 at h ⊢
  have h := zlt h
  generalize zNewM S M = M16 at h ⊢
  have h := zlt h
  generalize zNewS S 100 12 = S15 at h ⊢
  have h := zlt h
  obtain ⟨g18, h⟩ := zif h
  refine zG.blk (pc' := 26) (l' := [some (2, x0)]) (st' := []) (M' := (upM M16 x0 7 r17)) hX [(.putfield 18, 9, 7, 2)] (by decide +kernel) rfl (And.intro g18 trivial) ?_
  generalize upM M16 x0 7 r17 = M19 at h ⊢
  have h := zlt h
  refine zG.blk (pc' := 29) (l' := [some (2, x0)]) (st' := [(0, 12), (2, x0)]) (M' := M19) hX [(.aload_n 0, 0, 0, 0), (.bipush 12, 0, 0, 0)] (by decide +kernel) rfl trivial ?_
  obtain ⟨g20, h⟩ := zif h
  refine zG.newarray (at_ := .int) (t := 0) (N := 12) hX (by simp) sa_int (by decide +kernel) g20 (by decide) (Nat.le_of_ble_eq_true rfl) (by rw [hRm]; exact ⟨Nat.le_of_ble_eq_true rfl, Nat.le_of_ble_eq_true rfl⟩) ?_
  show zG C E 1 (zNewS S15 100 12) 4 34 _ 31 [some (2, x0)] [(2, (S15.2.2 + 1)), (2, x0)] (zNewM S15 M19)
  generalize S15.2.2 + 1 = r23 at h ⊢
  have h := zlt h
  generalize zNewM S15 M19 = M22 at h ⊢
  have h := zlt h
  generalize zNewS S15 100 12 = S21 at h ⊢
  have h := zlt h
  obtain ⟨g24, h⟩ := zif h
  refine zG.blk (pc' := 34) (l' := [some (2, x0)]) (st' := []) (M' := (upM M22 x0 8 r23)) hX [(.putfield 21, 9, 8, 2)] (by decide +kernel) rfl (And.intro g24 trivial) ?_
  generalize upM M22 x0 8 r23 = M25 at h ⊢
  have h := zlt h
  exact (pX9_init_34_ok hX hRm h)
noncomputable def pX9_init (S : ZS) (M : ZM) (a0 : Int) : Option (ZS × ZM) := if 1 ≤ a0 then if S.2.2 < 2000000000 then zlet (S.2.2 + 1) fun r5 => zlet (zNewM S M) fun M4 => zlet (zNewS S 100 5) fun S3 => if S3.1 a0 = 9 then zlet (upM M4 a0 5 r5) fun M7 => if S3.2.2 < 2000000000 then zlet (S3.2.2 + 1) fun r11 => zlet (zNewM S3 M7) fun M10 => zlet (zNewS S3 100 5) fun S9 => if S9.1 a0 = 9 then zlet (upM M10 a0 6 r11) fun M13 => pX9_init_18 S9 M13 a0 else none else none else none else none else none
set_option maxHeartbeats 2000000 in
set_option maxRecDepth 20000 in
theorem pX9_init_go {C : ZC} {E : ZE} {S : ZS} {M : ZM} {a0 : Int} {q : (ZS × ZM)} (hX : zCx C E 9 cX9_init 1 none true) (hRm : czR C = { frames := 1, cells := 5, slots := 70, locals := 40 }) (h : pX9_init  S M a0 = some q) : zG C E 1 S 0 0 (zQ C E 5 70 none q.1 q.2) 0 [some (2, a0)] [] M := by
  unfold pX9_init at h
  refine zG.blk (pc' := 1) (l' := [some (2, a0)]) (st' := [(2, a0)]) (M' := M) hX [(.aload_n 0, 0, 0, 0)] (by decide +kernel) rfl trivial ?_
  obtain ⟨g1, h⟩ := zif h
  refine zG.objInit hX so_9_3 so_1 so_2 g1 (by decide +kernel) (by rw [hRm]; exact ⟨Nat.le_of_ble_eq_true rfl, Nat.le_of_ble_eq_true rfl⟩) ?_
  show zG C E 1 S 0 0 _ 4 [some (2, a0)] [] M
  refine zG.blk (pc' := 6) (l' := [some (2, a0)]) (st' := [(0, 5), (2, a0)]) (M' := M) hX [(.aload_n 0, 0, 0, 0), (.iconst 5, 0, 0, 0)] (by decide +kernel) rfl trivial ?_
  obtain ⟨g2, h⟩ := zif h
  refine zG.newarray (at_ := .int) (t := 0) (N := 5) hX (by simp) sa_int (by decide +kernel) g2 (by decide) (Nat.le_of_ble_eq_true rfl) (by rw [hRm]; exact ⟨Nat.le_of_ble_eq_true rfl, Nat.le_of_ble_eq_true rfl⟩) ?_
  show zG C E 1 (zNewS S 100 5) 1 5 _ 8 [some (2, a0)] [(2, (S.2.2 + 1)), (2, a0)] (zNewM S M)
  generalize S.2.2 + 1 = r5 at h ⊢
  have h := zlt h
  generalize zNewM S M = M4 at h ⊢
  have h := zlt h
  generalize zNewS S 100 5 = S3 at h ⊢
  have h := zlt h
  obtain ⟨g6, h⟩ := zif h
  refine zG.blk (pc' := 11) (l' := [some (2, a0)]) (st' := []) (M' := (upM M4 a0 5 r5)) hX [(.putfield 9, 9, 5, 2)] (by decide +kernel) rfl (And.intro g6 trivial) ?_
  generalize upM M4 a0 5 r5 = M7 at h ⊢
  have h := zlt h
  refine zG.blk (pc' := 13) (l' := [some (2, a0)]) (st' := [(0, 5), (2, a0)]) (M' := M7) hX [(.aload_n 0, 0, 0, 0), (.iconst 5, 0, 0, 0)] (by decide +kernel) rfl trivial ?_
  obtain ⟨g8, h⟩ := zif h
  refine zG.newarray (at_ := .int) (t := 0) (N := 5) hX (by simp) sa_int (by decide +kernel) g8 (by decide) (Nat.le_of_ble_eq_true rfl) (by rw [hRm]; exact ⟨Nat.le_of_ble_eq_true rfl, Nat.le_of_ble_eq_true rfl⟩) ?_
  show zG C E 1 (zNewS S3 100 5) 2 10 _ 15 [some (2, a0)] [(2, (S3.2.2 + 1)), (2, a0)] (zNewM S3 M7)
  generalize S3.2.2 + 1 = r11 at h ⊢
  have h := zlt h
  generalize zNewM S3 M7 = M10 at h ⊢
  have h := zlt h
  generalize zNewS S3 100 5 = S9 at h ⊢
  have h := zlt h
  obtain ⟨g12, h⟩ := zif h
  refine zG.blk (pc' := 18) (l' := [some (2, a0)]) (st' := []) (M' := (upM M10 a0 6 r11)) hX [(.putfield 15, 9, 6, 2)] (by decide +kernel) rfl (And.intro g12 trivial) ?_
  generalize upM M10 a0 6 r11 = M13 at h ⊢
  have h := zlt h
  exact (pX9_init_18_ok hX hRm h)
theorem pX9_init_ok {l : Launch} {E : ZE} {S : ZS} {M : ZM} {a0 : Int} {q : (ZS × ZM)} (h : pX9_init S M a0 = some q) : zMet l yX9_init cX9_init 1 none 1 40 5 70 E S M [(2, a0)] (none) q.1 q.2 :=
  zMet.of (o := 9) (ini := true) (by decide +kernel) rfl (fun _ => rfl) (Nat.le_of_ble_eq_true rfl) (fun C hX hl hRm => by subst hl; exact pX9_init_go hX hRm h)
theorem so_1_3 : Cond.methodLink (zOwn 1) 3 Lib.objectInit ∈ gt := gt_at 394 (by decide +kernel) rfl
theorem sc_1_9 : zSC 1 9 0 := ⟨by decide, gt_at 395 (by decide +kernel) rfl, gt_at 373 (by decide +kernel) rfl, gt_at 113 (by decide +kernel) rfl⟩
theorem sn_1_11 : zSN 1 11 yX0_init cX0_init 1 0 := ⟨⟨by decide +kernel, gt_at 375 (by decide +kernel) rfl, gt_at 113 (by decide +kernel) rfl, gt_at 376 (by decide +kernel) rfl, rfl⟩, by decide +kernel, by decide +kernel, by decide +kernel⟩
theorem sc_1_18 : zSC 1 18 6 := ⟨by decide, gt_at 397 (by decide +kernel) rfl, gt_at 267 (by decide +kernel) rfl, gt_at 111 (by decide +kernel) rfl⟩
theorem si_1_20 : zSI 1 20 yX6_init cX6_init 1 0 := ⟨⟨gt_at 398 (by decide +kernel) rfl, gt_at 269 (by decide +kernel) rfl, gt_at 111 (by decide +kernel) rfl, gt_at 270 (by decide +kernel) rfl, rfl⟩, by decide +kernel, by decide +kernel, by decide +kernel⟩
theorem sc_1_25 : zSC 1 25 9 := ⟨by decide, gt_at 399 (by decide +kernel) rfl, gt_at 170 (by decide +kernel) rfl, gt_at 108 (by decide +kernel) rfl⟩
theorem sn_1_27 : zSN 1 27 yX9_init cX9_init 1 0 := ⟨⟨by decide +kernel, gt_at 172 (by decide +kernel) rfl, gt_at 108 (by decide +kernel) rfl, gt_at 173 (by decide +kernel) rfl, rfl⟩, by decide +kernel, by decide +kernel, by decide +kernel⟩
noncomputable def pX1_init_53 (S : ZS) (M : ZM) : Option (ZS × ZM) := some (S, M)
set_option maxHeartbeats 2000000 in
set_option maxRecDepth 20000 in
theorem pX1_init_53_ok {C : ZC} {E : ZE} {q : (ZS × ZM)} (hX : zCx C E 1 cX1_init 1 none true) (hRm : czR C = { frames := 3, cells := 17, slots := 261, locals := 83 }) {S : ZS} {M : ZM} (h : pX1_init_53 S M = some q) : zG C E 1 S 17 261 (zQ C E 17 261 none q.1 q.2) 53 [none] [] M := by
  unfold pX1_init_53 at h
  cases h
  exact zG.vret hX (by decide +kernel)
noncomputable def pX1_init_37 (S : ZS) (M : ZM) (x0 : Int) : Option (ZS × ZM) := if S.2.2 < 2000000000 then zlet (S.2.2 + 1) fun r32 => zlet (zNewM S M) fun M31 => zlet (zNewS S 100 16) fun S30 => if S30.1 x0 = 1 then zlet (upM M31 x0 3 r32) fun M34 => if S30.2.2 < 2000000000 then zlet (S30.2.2 + 1) fun r38 => zlet (zNewM S30 M34) fun M37 => zlet (zNewS S30 100 16) fun S36 => if S36.1 x0 = 1 then zlet (upM M37 x0 4 r38) fun M40 => pX1_init_53 S36 M40 else none else none else none else none
set_option maxHeartbeats 2000000 in
set_option maxRecDepth 20000 in
theorem pX1_init_37_ok {C : ZC} {E : ZE} {q : (ZS × ZM)} (hX : zCx C E 1 cX1_init 1 none true) (hRm : czR C = { frames := 3, cells := 17, slots := 261, locals := 83 }) {S : ZS} {M : ZM} {x0 : Int} (h : pX1_init_37 S M x0 = some q) : zG C E 1 S 15 229 (zQ C E 17 261 none q.1 q.2) 37 [some (2, x0)] [] M := by
  unfold pX1_init_37 at h
  refine zG.blk (pc' := 40) (l' := [some (2, x0)]) (st' := [(0, 16), (2, x0)]) (M' := M) hX [(.aload_n 0, 0, 0, 0), (.bipush 16, 0, 0, 0)] (by decide +kernel) rfl trivial ?_
  obtain ⟨g29, h⟩ := zif h
  refine zG.newarray (at_ := .int) (t := 0) (N := 16) hX (by simp) sa_int (by decide +kernel) g29 (by decide) (Nat.le_of_ble_eq_true rfl) (by rw [hRm]; exact ⟨Nat.le_of_ble_eq_true rfl, Nat.le_of_ble_eq_true rfl⟩) ?_
  show zG C E 1 (zNewS S 100 16) 16 245 _ 42 [some (2, x0)] [(2, (S.2.2 + 1)), (2, x0)] (zNewM S M)
  generalize S.2.2 + 1 = r32 at h ⊢
  have h := zlt h
  generalize zNewM S M = M31 at h ⊢
  have h := zlt h
  generalize zNewS S 100 16 = S30 at h ⊢
  have h := zlt h
  obtain ⟨g33, h⟩ := zif h
  refine zG.blk (pc' := 45) (l' := [some (2, x0)]) (st' := []) (M' := (upM M31 x0 3 r32)) hX [(.putfield 32, 1, 3, 2)] (by decide +kernel) rfl (And.intro g33 trivial) ?_
  generalize upM M31 x0 3 r32 = M34 at h ⊢
  have h := zlt h
  refine zG.blk (pc' := 48) (l' := [some (2, x0)]) (st' := [(0, 16), (2, x0)]) (M' := M34) hX [(.aload_n 0, 0, 0, 0), (.bipush 16, 0, 0, 0)] (by decide +kernel) rfl trivial ?_
  obtain ⟨g35, h⟩ := zif h
  refine zG.newarray (at_ := .int) (t := 0) (N := 16) hX (by simp) sa_int (by decide +kernel) g35 (by decide) (Nat.le_of_ble_eq_true rfl) (by rw [hRm]; exact ⟨Nat.le_of_ble_eq_true rfl, Nat.le_of_ble_eq_true rfl⟩) ?_
  show zG C E 1 (zNewS S30 100 16) 17 261 _ 50 [some (2, x0)] [(2, (S30.2.2 + 1)), (2, x0)] (zNewM S30 M34)
  generalize S30.2.2 + 1 = r38 at h ⊢
  have h := zlt h
  generalize zNewM S30 M34 = M37 at h ⊢
  have h := zlt h
  generalize zNewS S30 100 16 = S36 at h ⊢
  have h := zlt h
  obtain ⟨g39, h⟩ := zif h
  refine zG.blk (pc' := 53) (l' := [some (2, x0)]) (st' := []) (M' := (upM M37 x0 4 r38)) hX [(.putfield 36, 1, 4, 2)] (by decide +kernel) rfl (And.intro g39 trivial) ?_
  generalize upM M37 x0 4 r38 = M40 at h ⊢
  have h := zlt h
  exact zG.wk [false] (pX1_init_53_ok hX hRm h)
noncomputable def pX1_init_26 (S : ZS) (M : ZM) (x0 : Int) : Option (ZS × ZM) := if S.2.2 < 2000000000 then zlet (S.2.2 + 1) fun r23 => zlet (zNewM S M) fun M22 => zlet (zNewS S 9 0) fun S21 => if 1 ≤ r23 then (pX9_init S21 M22 r23).bind fun q24 => if q24.1.1 x0 = 1 then zlet (upM q24.2 x0 2 r23) fun M28 => pX1_init_37 q24.1 M28 x0 else none else none else none
set_option maxHeartbeats 2000000 in
set_option maxRecDepth 20000 in
theorem pX1_init_26_ok {C : ZC} {E : ZE} {q : (ZS × ZM)} (hX : zCx C E 1 cX1_init 1 none true) (hRm : czR C = { frames := 3, cells := 17, slots := 261, locals := 83 }) {S : ZS} {M : ZM} {x0 : Int} (h : pX1_init_26 S M x0 = some q) : zG C E 1 S 9 149 (zQ C E 17 261 none q.1 q.2) 26 [some (2, x0)] [] M := by
  unfold pX1_init_26 at h
  refine zG.blk (pc' := 27) (l' := [some (2, x0)]) (st' := [(2, x0)]) (M' := M) hX [(.aload_n 0, 0, 0, 0)] (by decide +kernel) rfl trivial ?_
  obtain ⟨g20, h⟩ := zif h
  refine zG.new (ci := 9) hX sc_1_25 (by decide +kernel) g20 (by rw [hRm]; exact ⟨Nat.le_of_ble_eq_true rfl, Nat.le_of_ble_eq_true rfl⟩) ?_
  show zG C E 1 (zNewS S 9 0) 10 159 _ 30 [some (2, x0)] [(2, (S.2.2 + 1)), (2, x0)] (zNewM S M)
  generalize S.2.2 + 1 = r23 at h ⊢
  have h := zlt h
  generalize zNewM S M = M22 at h ⊢
  have h := zlt h
  generalize zNewS S 9 0 = S21 at h ⊢
  have h := zlt h
  refine zG.blk (pc' := 31) (l' := [some (2, x0)]) (st' := [(2, r23), (2, r23), (2, x0)]) (M' := M22) hX [(.dup, 0, 0, 0)] (by decide +kernel) rfl trivial ?_
  obtain ⟨g26, h⟩ := zif h
  obtain ⟨q24, e25, h⟩ := zbd h
  refine zG.callN (b := r23) (av := []) (st := [(2, r23), (2, x0)]) hX (pX9_init_ok e25) sn_1_27 rfl g26 (by decide +kernel) (by rw [hRm]; exact ⟨Nat.le_of_ble_eq_true rfl, Nat.le_of_ble_eq_true rfl⟩) (by rw [hRm]; exact ⟨Nat.le_of_ble_eq_true rfl, Nat.le_of_ble_eq_true rfl⟩) (Nat.le_of_ble_eq_true rfl) ?_
  show zG C E 1 q24.1 15 229 _ 34 [some (2, x0)] [(2, r23), (2, x0)] q24.2
  obtain ⟨g27, h⟩ := zif h
  refine zG.blk (pc' := 37) (l' := [some (2, x0)]) (st' := []) (M' := (upM q24.2 x0 2 r23)) hX [(.putfield 28, 1, 2, 2)] (by decide +kernel) rfl (And.intro g27 trivial) ?_
  generalize upM q24.2 x0 2 r23 = M28 at h ⊢
  have h := zlt h
  exact (pX1_init_37_ok hX hRm h)
noncomputable def pX1_init_15 (S : ZS) (M : ZM) (x0 : Int) : Option (ZS × ZM) := if S.2.2 < 2000000000 then zlet (S.2.2 + 1) fun r14 => zlet (zNewM S M) fun M13 => zlet (zNewS S 6 0) fun S12 => if 1 ≤ r14 then (pX6_init S12 M13 r14).bind fun q15 => if q15.1.1 x0 = 1 then zlet (upM q15.2 x0 1 r14) fun M19 => pX1_init_26 q15.1 M19 x0 else none else none else none
set_option maxHeartbeats 2000000 in
set_option maxRecDepth 20000 in
theorem pX1_init_15_ok {C : ZC} {E : ZE} {q : (ZS × ZM)} (hX : zCx C E 1 cX1_init 1 none true) (hRm : czR C = { frames := 3, cells := 17, slots := 261, locals := 83 }) {S : ZS} {M : ZM} {x0 : Int} (h : pX1_init_15 S M x0 = some q) : zG C E 1 S 4 60 (zQ C E 17 261 none q.1 q.2) 15 [some (2, x0)] [] M := by
  unfold pX1_init_15 at h
  refine zG.blk (pc' := 16) (l' := [some (2, x0)]) (st' := [(2, x0)]) (M' := M) hX [(.aload_n 0, 0, 0, 0)] (by decide +kernel) rfl trivial ?_
  obtain ⟨g11, h⟩ := zif h
  refine zG.new (ci := 6) hX sc_1_18 (by decide +kernel) g11 (by rw [hRm]; exact ⟨Nat.le_of_ble_eq_true rfl, Nat.le_of_ble_eq_true rfl⟩) ?_
  show zG C E 1 (zNewS S 6 0) 5 67 _ 19 [some (2, x0)] [(2, (S.2.2 + 1)), (2, x0)] (zNewM S M)
  generalize S.2.2 + 1 = r14 at h ⊢
  have h := zlt h
  generalize zNewM S M = M13 at h ⊢
  have h := zlt h
  generalize zNewS S 6 0 = S12 at h ⊢
  have h := zlt h
  refine zG.blk (pc' := 20) (l' := [some (2, x0)]) (st' := [(2, r14), (2, r14), (2, x0)]) (M' := M13) hX [(.dup, 0, 0, 0)] (by decide +kernel) rfl trivial ?_
  obtain ⟨g17, h⟩ := zif h
  obtain ⟨q15, e16, h⟩ := zbd h
  refine zG.callI (b := r14) (av := []) (st := [(2, r14), (2, x0)]) hX (pX6_init_ok e16) si_1_20 rfl g17 (by decide +kernel) (by rw [hRm]; exact ⟨Nat.le_of_ble_eq_true rfl, Nat.le_of_ble_eq_true rfl⟩) (by rw [hRm]; exact ⟨Nat.le_of_ble_eq_true rfl, Nat.le_of_ble_eq_true rfl⟩) (Nat.le_of_ble_eq_true rfl) ?_
  show zG C E 1 q15.1 9 149 _ 23 [some (2, x0)] [(2, r14), (2, x0)] q15.2
  obtain ⟨g18, h⟩ := zif h
  refine zG.blk (pc' := 26) (l' := [some (2, x0)]) (st' := []) (M' := (upM q15.2 x0 1 r14)) hX [(.putfield 21, 1, 1, 2)] (by decide +kernel) rfl (And.intro g18 trivial) ?_
  generalize upM q15.2 x0 1 r14 = M19 at h ⊢
  have h := zlt h
  exact (pX1_init_26_ok hX hRm h)
noncomputable def pX1_init (S : ZS) (M : ZM) (a0 : Int) : Option (ZS × ZM) := if 1 ≤ a0 then if S.2.2 < 2000000000 then zlet (S.2.2 + 1) fun r5 => zlet (zNewM S M) fun M4 => zlet (zNewS S 0 0) fun S3 => if 1 ≤ r5 then (pX0_init S3 M4 r5).bind fun q6 => if q6.1.1 a0 = 1 then zlet (upM q6.2 a0 0 r5) fun M10 => pX1_init_15 q6.1 M10 a0 else none else none else none else none
set_option maxHeartbeats 2000000 in
set_option maxRecDepth 20000 in
theorem pX1_init_go {C : ZC} {E : ZE} {S : ZS} {M : ZM} {a0 : Int} {q : (ZS × ZM)} (hX : zCx C E 1 cX1_init 1 none true) (hRm : czR C = { frames := 3, cells := 17, slots := 261, locals := 83 }) (h : pX1_init  S M a0 = some q) : zG C E 1 S 0 0 (zQ C E 17 261 none q.1 q.2) 0 [some (2, a0)] [] M := by
  unfold pX1_init at h
  refine zG.blk (pc' := 1) (l' := [some (2, a0)]) (st' := [(2, a0)]) (M' := M) hX [(.aload_n 0, 0, 0, 0)] (by decide +kernel) rfl trivial ?_
  obtain ⟨g1, h⟩ := zif h
  refine zG.objInit hX so_1_3 so_1 so_2 g1 (by decide +kernel) (by rw [hRm]; exact ⟨Nat.le_of_ble_eq_true rfl, Nat.le_of_ble_eq_true rfl⟩) ?_
  show zG C E 1 S 0 0 _ 4 [some (2, a0)] [] M
  refine zG.blk (pc' := 5) (l' := [some (2, a0)]) (st' := [(2, a0)]) (M' := M) hX [(.aload_n 0, 0, 0, 0)] (by decide +kernel) rfl trivial ?_
  obtain ⟨g2, h⟩ := zif h
  refine zG.new (ci := 0) hX sc_1_9 (by decide +kernel) g2 (by rw [hRm]; exact ⟨Nat.le_of_ble_eq_true rfl, Nat.le_of_ble_eq_true rfl⟩) ?_
  show zG C E 1 (zNewS S 0 0) 1 3 _ 8 [some (2, a0)] [(2, (S.2.2 + 1)), (2, a0)] (zNewM S M)
  generalize S.2.2 + 1 = r5 at h ⊢
  have h := zlt h
  generalize zNewM S M = M4 at h ⊢
  have h := zlt h
  generalize zNewS S 0 0 = S3 at h ⊢
  have h := zlt h
  refine zG.blk (pc' := 9) (l' := [some (2, a0)]) (st' := [(2, r5), (2, r5), (2, a0)]) (M' := M4) hX [(.dup, 0, 0, 0)] (by decide +kernel) rfl trivial ?_
  obtain ⟨g8, h⟩ := zif h
  obtain ⟨q6, e7, h⟩ := zbd h
  refine zG.callN (b := r5) (av := []) (st := [(2, r5), (2, a0)]) hX (pX0_init_ok e7) sn_1_11 rfl g8 (by decide +kernel) (by rw [hRm]; exact ⟨Nat.le_of_ble_eq_true rfl, Nat.le_of_ble_eq_true rfl⟩) (by rw [hRm]; exact ⟨Nat.le_of_ble_eq_true rfl, Nat.le_of_ble_eq_true rfl⟩) (Nat.le_of_ble_eq_true rfl) ?_
  show zG C E 1 q6.1 4 60 _ 12 [some (2, a0)] [(2, r5), (2, a0)] q6.2
  obtain ⟨g9, h⟩ := zif h
  refine zG.blk (pc' := 15) (l' := [some (2, a0)]) (st' := []) (M' := (upM q6.2 a0 0 r5)) hX [(.putfield 12, 1, 0, 2)] (by decide +kernel) rfl (And.intro g9 trivial) ?_
  generalize upM q6.2 a0 0 r5 = M10 at h ⊢
  have h := zlt h
  exact (pX1_init_15_ok hX hRm h)
theorem pX1_init_ok {l : Launch} {E : ZE} {S : ZS} {M : ZM} {a0 : Int} {q : (ZS × ZM)} (h : pX1_init S M a0 = some q) : zMet l yX1_init cX1_init 1 none 3 83 17 261 E S M [(2, a0)] (none) q.1 q.2 :=
  zMet.of (o := 1) (ini := true) (by decide +kernel) rfl (fun _ => rfl) (Nat.le_of_ble_eq_true rfl) (fun C hX hl hRm => by subst hl; exact pX1_init_go hX hRm h)
theorem so_2_3 : Cond.methodLink (zOwn 2) 3 Lib.objectInit ∈ gt := gt_at 422 (by decide +kernel) rfl
theorem sc_2_9 : zSC 2 9 0 := ⟨by decide, gt_at 423 (by decide +kernel) rfl, gt_at 373 (by decide +kernel) rfl, gt_at 113 (by decide +kernel) rfl⟩
theorem sn_2_11 : zSN 2 11 yX0_init cX0_init 1 0 := ⟨⟨by decide +kernel, gt_at 375 (by decide +kernel) rfl, gt_at 113 (by decide +kernel) rfl, gt_at 376 (by decide +kernel) rfl, rfl⟩, by decide +kernel, by decide +kernel, by decide +kernel⟩
theorem sc_2_18 : zSC 2 18 6 := ⟨by decide, gt_at 425 (by decide +kernel) rfl, gt_at 267 (by decide +kernel) rfl, gt_at 111 (by decide +kernel) rfl⟩
theorem si_2_20 : zSI 2 20 yX6_init cX6_init 1 0 := ⟨⟨gt_at 426 (by decide +kernel) rfl, gt_at 269 (by decide +kernel) rfl, gt_at 111 (by decide +kernel) rfl, gt_at 270 (by decide +kernel) rfl, rfl⟩, by decide +kernel, by decide +kernel, by decide +kernel⟩
noncomputable def pX2_init_26 (S : ZS) (M : ZM) (x0 : Int) : Option (ZS × ZM) := if S.2.2 < 2000000000 then zlet (S.2.2 + 1) fun r23 => zlet (zNewM S M) fun M22 => zlet (zNewS S 100 216) fun S21 => if S21.1 x0 = 2 then zlet (upM M22 x0 2 r23) fun M25 => some (S21, M25) else none else none
set_option maxHeartbeats 2000000 in
set_option maxRecDepth 20000 in
theorem pX2_init_26_ok {C : ZC} {E : ZE} {q : (ZS × ZM)} (hX : zCx C E 2 cX2_init 1 none true) (hRm : czR C = { frames := 3, cells := 10, slots := 365, locals := 83 }) {S : ZS} {M : ZM} {x0 : Int} (h : pX2_init_26 S M x0 = some q) : zG C E 1 S 9 149 (zQ C E 10 365 none q.1 q.2) 26 [some (2, x0)] [] M := by
  unfold pX2_init_26 at h
  refine zG.blk (pc' := 30) (l' := [some (2, x0)]) (st' := [(0, 216), (2, x0)]) (M' := M) hX [(.aload_n 0, 0, 0, 0), (.sipush 216, 0, 0, 0)] (by decide +kernel) rfl trivial ?_
  obtain ⟨g20, h⟩ := zif h
  refine zG.newarray (at_ := .int) (t := 0) (N := 216) hX (by simp) sa_int (by decide +kernel) g20 (by decide) (Nat.le_of_ble_eq_true rfl) (by rw [hRm]; exact ⟨Nat.le_of_ble_eq_true rfl, Nat.le_of_ble_eq_true rfl⟩) ?_
  show zG C E 1 (zNewS S 100 216) 10 365 _ 32 [some (2, x0)] [(2, (S.2.2 + 1)), (2, x0)] (zNewM S M)
  generalize S.2.2 + 1 = r23 at h ⊢
  have h := zlt h
  generalize zNewM S M = M22 at h ⊢
  have h := zlt h
  generalize zNewS S 100 216 = S21 at h ⊢
  have h := zlt h
  obtain ⟨g24, h⟩ := zif h
  refine zG.blk (pc' := 35) (l' := [some (2, x0)]) (st' := []) (M' := (upM M22 x0 2 r23)) hX [(.putfield 25, 2, 2, 2)] (by decide +kernel) rfl (And.intro g24 trivial) ?_
  generalize upM M22 x0 2 r23 = M25 at h ⊢
  have h := zlt h
  cases h
  exact zG.vret hX (by decide +kernel)
noncomputable def pX2_init_15 (S : ZS) (M : ZM) (x0 : Int) : Option (ZS × ZM) := if S.2.2 < 2000000000 then zlet (S.2.2 + 1) fun r14 => zlet (zNewM S M) fun M13 => zlet (zNewS S 6 0) fun S12 => if 1 ≤ r14 then (pX6_init S12 M13 r14).bind fun q15 => if q15.1.1 x0 = 2 then zlet (upM q15.2 x0 1 r14) fun M19 => pX2_init_26 q15.1 M19 x0 else none else none else none
set_option maxHeartbeats 2000000 in
set_option maxRecDepth 20000 in
theorem pX2_init_15_ok {C : ZC} {E : ZE} {q : (ZS × ZM)} (hX : zCx C E 2 cX2_init 1 none true) (hRm : czR C = { frames := 3, cells := 10, slots := 365, locals := 83 }) {S : ZS} {M : ZM} {x0 : Int} (h : pX2_init_15 S M x0 = some q) : zG C E 1 S 4 60 (zQ C E 10 365 none q.1 q.2) 15 [some (2, x0)] [] M := by
  unfold pX2_init_15 at h
  refine zG.blk (pc' := 16) (l' := [some (2, x0)]) (st' := [(2, x0)]) (M' := M) hX [(.aload_n 0, 0, 0, 0)] (by decide +kernel) rfl trivial ?_
  obtain ⟨g11, h⟩ := zif h
  refine zG.new (ci := 6) hX sc_2_18 (by decide +kernel) g11 (by rw [hRm]; exact ⟨Nat.le_of_ble_eq_true rfl, Nat.le_of_ble_eq_true rfl⟩) ?_
  show zG C E 1 (zNewS S 6 0) 5 67 _ 19 [some (2, x0)] [(2, (S.2.2 + 1)), (2, x0)] (zNewM S M)
  generalize S.2.2 + 1 = r14 at h ⊢
  have h := zlt h
  generalize zNewM S M = M13 at h ⊢
  have h := zlt h
  generalize zNewS S 6 0 = S12 at h ⊢
  have h := zlt h
  refine zG.blk (pc' := 20) (l' := [some (2, x0)]) (st' := [(2, r14), (2, r14), (2, x0)]) (M' := M13) hX [(.dup, 0, 0, 0)] (by decide +kernel) rfl trivial ?_
  obtain ⟨g17, h⟩ := zif h
  obtain ⟨q15, e16, h⟩ := zbd h
  refine zG.callI (b := r14) (av := []) (st := [(2, r14), (2, x0)]) hX (pX6_init_ok e16) si_2_20 rfl g17 (by decide +kernel) (by rw [hRm]; exact ⟨Nat.le_of_ble_eq_true rfl, Nat.le_of_ble_eq_true rfl⟩) (by rw [hRm]; exact ⟨Nat.le_of_ble_eq_true rfl, Nat.le_of_ble_eq_true rfl⟩) (Nat.le_of_ble_eq_true rfl) ?_
  show zG C E 1 q15.1 9 149 _ 23 [some (2, x0)] [(2, r14), (2, x0)] q15.2
  obtain ⟨g18, h⟩ := zif h
  refine zG.blk (pc' := 26) (l' := [some (2, x0)]) (st' := []) (M' := (upM q15.2 x0 1 r14)) hX [(.putfield 21, 2, 1, 2)] (by decide +kernel) rfl (And.intro g18 trivial) ?_
  generalize upM q15.2 x0 1 r14 = M19 at h ⊢
  have h := zlt h
  exact (pX2_init_26_ok hX hRm h)
noncomputable def pX2_init (S : ZS) (M : ZM) (a0 : Int) : Option (ZS × ZM) := if 1 ≤ a0 then if S.2.2 < 2000000000 then zlet (S.2.2 + 1) fun r5 => zlet (zNewM S M) fun M4 => zlet (zNewS S 0 0) fun S3 => if 1 ≤ r5 then (pX0_init S3 M4 r5).bind fun q6 => if q6.1.1 a0 = 2 then zlet (upM q6.2 a0 0 r5) fun M10 => pX2_init_15 q6.1 M10 a0 else none else none else none else none
set_option maxHeartbeats 2000000 in
set_option maxRecDepth 20000 in
theorem pX2_init_go {C : ZC} {E : ZE} {S : ZS} {M : ZM} {a0 : Int} {q : (ZS × ZM)} (hX : zCx C E 2 cX2_init 1 none true) (hRm : czR C = { frames := 3, cells := 10, slots := 365, locals := 83 }) (h : pX2_init  S M a0 = some q) : zG C E 1 S 0 0 (zQ C E 10 365 none q.1 q.2) 0 [some (2, a0)] [] M := by
  unfold pX2_init at h
  refine zG.blk (pc' := 1) (l' := [some (2, a0)]) (st' := [(2, a0)]) (M' := M) hX [(.aload_n 0, 0, 0, 0)] (by decide +kernel) rfl trivial ?_
  obtain ⟨g1, h⟩ := zif h
  refine zG.objInit hX so_2_3 so_1 so_2 g1 (by decide +kernel) (by rw [hRm]; exact ⟨Nat.le_of_ble_eq_true rfl, Nat.le_of_ble_eq_true rfl⟩) ?_
  show zG C E 1 S 0 0 _ 4 [some (2, a0)] [] M
  refine zG.blk (pc' := 5) (l' := [some (2, a0)]) (st' := [(2, a0)]) (M' := M) hX [(.aload_n 0, 0, 0, 0)] (by decide +kernel) rfl trivial ?_
  obtain ⟨g2, h⟩ := zif h
  refine zG.new (ci := 0) hX sc_2_9 (by decide +kernel) g2 (by rw [hRm]; exact ⟨Nat.le_of_ble_eq_true rfl, Nat.le_of_ble_eq_true rfl⟩) ?_
  show zG C E 1 (zNewS S 0 0) 1 3 _ 8 [some (2, a0)] [(2, (S.2.2 + 1)), (2, a0)] (zNewM S M)
  generalize S.2.2 + 1 = r5 at h ⊢
  have h := zlt h
  generalize zNewM S M = M4 at h ⊢
  have h := zlt h
  generalize zNewS S 0 0 = S3 at h ⊢
  have h := zlt h
  refine zG.blk (pc' := 9) (l' := [some (2, a0)]) (st' := [(2, r5), (2, r5), (2, a0)]) (M' := M4) hX [(.dup, 0, 0, 0)] (by decide +kernel) rfl trivial ?_
  obtain ⟨g8, h⟩ := zif h
  obtain ⟨q6, e7, h⟩ := zbd h
  refine zG.callN (b := r5) (av := []) (st := [(2, r5), (2, a0)]) hX (pX0_init_ok e7) sn_2_11 rfl g8 (by decide +kernel) (by rw [hRm]; exact ⟨Nat.le_of_ble_eq_true rfl, Nat.le_of_ble_eq_true rfl⟩) (by rw [hRm]; exact ⟨Nat.le_of_ble_eq_true rfl, Nat.le_of_ble_eq_true rfl⟩) (Nat.le_of_ble_eq_true rfl) ?_
  show zG C E 1 q6.1 4 60 _ 12 [some (2, a0)] [(2, r5), (2, a0)] q6.2
  obtain ⟨g9, h⟩ := zif h
  refine zG.blk (pc' := 15) (l' := [some (2, a0)]) (st' := []) (M' := (upM q6.2 a0 0 r5)) hX [(.putfield 12, 2, 0, 2)] (by decide +kernel) rfl (And.intro g9 trivial) ?_
  generalize upM q6.2 a0 0 r5 = M10 at h ⊢
  have h := zlt h
  exact (pX2_init_15_ok hX hRm h)
theorem pX2_init_ok {l : Launch} {E : ZE} {S : ZS} {M : ZM} {a0 : Int} {q : (ZS × ZM)} (h : pX2_init S M a0 = some q) : zMet l yX2_init cX2_init 1 none 3 83 10 365 E S M [(2, a0)] (none) q.1 q.2 :=
  zMet.of (o := 2) (ini := true) (by decide +kernel) rfl (fun _ => rfl) (Nat.le_of_ble_eq_true rfl) (fun C hX hl hRm => by subst hl; exact pX2_init_go hX hRm h)
theorem so_3_3 : Cond.methodLink (zOwn 3) 3 Lib.objectInit ∈ gt := gt_at 442 (by decide +kernel) rfl
theorem sc_3_9 : zSC 3 9 9 := ⟨by decide, gt_at 443 (by decide +kernel) rfl, gt_at 170 (by decide +kernel) rfl, gt_at 108 (by decide +kernel) rfl⟩
theorem sn_3_11 : zSN 3 11 yX9_init cX9_init 1 0 := ⟨⟨by decide +kernel, gt_at 172 (by decide +kernel) rfl, gt_at 108 (by decide +kernel) rfl, gt_at 173 (by decide +kernel) rfl, rfl⟩, by decide +kernel, by decide +kernel, by decide +kernel⟩
noncomputable def pX3_init_30 (S : ZS) (M : ZM) (x0 : Int) : Option (ZS × ZM) := if S.2.2 < 2000000000 then zlet (S.2.2 + 1) fun r26 => zlet (zNewM S M) fun M25 => zlet (zNewS S 100 2) fun S24 => if S24.1 x0 = 3 then zlet (upM M25 x0 3 r26) fun M28 => some (S24, M28) else none else none
set_option maxHeartbeats 2000000 in
set_option maxRecDepth 20000 in
theorem pX3_init_30_ok {C : ZC} {E : ZE} {q : (ZS × ZM)} (hX : zCx C E 3 cX3_init 1 none true) (hRm : czR C = { frames := 2, cells := 9, slots := 120, locals := 60 }) {S : ZS} {M : ZM} {x0 : Int} (h : pX3_init_30 S M x0 = some q) : zG C E 1 S 8 118 (zQ C E 9 120 none q.1 q.2) 30 [some (2, x0)] [] M := by
  unfold pX3_init_30 at h
  refine zG.blk (pc' := 32) (l' := [some (2, x0)]) (st' := [(0, 2), (2, x0)]) (M' := M) hX [(.aload_n 0, 0, 0, 0), (.iconst 2, 0, 0, 0)] (by decide +kernel) rfl trivial ?_
  obtain ⟨g23, h⟩ := zif h
  refine zG.newarray (at_ := .int) (t := 0) (N := 2) hX (by simp) sa_int (by decide +kernel) g23 (by decide) (Nat.le_of_ble_eq_true rfl) (by rw [hRm]; exact ⟨Nat.le_of_ble_eq_true rfl, Nat.le_of_ble_eq_true rfl⟩) ?_
  show zG C E 1 (zNewS S 100 2) 9 120 _ 34 [some (2, x0)] [(2, (S.2.2 + 1)), (2, x0)] (zNewM S M)
  generalize S.2.2 + 1 = r26 at h ⊢
  have h := zlt h
  generalize zNewM S M = M25 at h ⊢
  have h := zlt h
  generalize zNewS S 100 2 = S24 at h ⊢
  have h := zlt h
  obtain ⟨g27, h⟩ := zif h
  refine zG.blk (pc' := 37) (l' := [some (2, x0)]) (st' := []) (M' := (upM M25 x0 3 r26)) hX [(.putfield 25, 3, 3, 2)] (by decide +kernel) rfl (And.intro g27 trivial) ?_
  generalize upM M25 x0 3 r26 = M28 at h ⊢
  have h := zlt h
  cases h
  exact zG.vret hX (by decide +kernel)
noncomputable def pX3_init_15 (S : ZS) (M : ZM) (x0 : Int) : Option (ZS × ZM) := if S.2.2 < 2000000000 then zlet (S.2.2 + 1) fun r14 => zlet (zNewM S M) fun M13 => zlet (zNewS S 100 36) fun S12 => if S12.1 x0 = 3 then zlet (upM M13 x0 1 r14) fun M16 => if S12.2.2 < 2000000000 then zlet (S12.2.2 + 1) fun r20 => zlet (zNewM S12 M16) fun M19 => zlet (zNewS S12 100 2) fun S18 => if S18.1 x0 = 3 then zlet (upM M19 x0 2 r20) fun M22 => pX3_init_30 S18 M22 x0 else none else none else none else none
set_option maxHeartbeats 2000000 in
set_option maxRecDepth 20000 in
theorem pX3_init_15_ok {C : ZC} {E : ZE} {q : (ZS × ZM)} (hX : zCx C E 3 cX3_init 1 none true) (hRm : czR C = { frames := 2, cells := 9, slots := 120, locals := 60 }) {S : ZS} {M : ZM} {x0 : Int} (h : pX3_init_15 S M x0 = some q) : zG C E 1 S 6 80 (zQ C E 9 120 none q.1 q.2) 15 [some (2, x0)] [] M := by
  unfold pX3_init_15 at h
  refine zG.blk (pc' := 18) (l' := [some (2, x0)]) (st' := [(0, 36), (2, x0)]) (M' := M) hX [(.aload_n 0, 0, 0, 0), (.bipush 36, 0, 0, 0)] (by decide +kernel) rfl trivial ?_
  obtain ⟨g11, h⟩ := zif h
  refine zG.newarray (at_ := .int) (t := 0) (N := 36) hX (by simp) sa_int (by decide +kernel) g11 (by decide) (Nat.le_of_ble_eq_true rfl) (by rw [hRm]; exact ⟨Nat.le_of_ble_eq_true rfl, Nat.le_of_ble_eq_true rfl⟩) ?_
  show zG C E 1 (zNewS S 100 36) 7 116 _ 20 [some (2, x0)] [(2, (S.2.2 + 1)), (2, x0)] (zNewM S M)
  generalize S.2.2 + 1 = r14 at h ⊢
  have h := zlt h
  generalize zNewM S M = M13 at h ⊢
  have h := zlt h
  generalize zNewS S 100 36 = S12 at h ⊢
  have h := zlt h
  obtain ⟨g15, h⟩ := zif h
  refine zG.blk (pc' := 23) (l' := [some (2, x0)]) (st' := []) (M' := (upM M13 x0 1 r14)) hX [(.putfield 18, 3, 1, 2)] (by decide +kernel) rfl (And.intro g15 trivial) ?_
  generalize upM M13 x0 1 r14 = M16 at h ⊢
  have h := zlt h
  refine zG.blk (pc' := 25) (l' := [some (2, x0)]) (st' := [(0, 2), (2, x0)]) (M' := M16) hX [(.aload_n 0, 0, 0, 0), (.iconst 2, 0, 0, 0)] (by decide +kernel) rfl trivial ?_
  obtain ⟨g17, h⟩ := zif h
  refine zG.newarray (at_ := .int) (t := 0) (N := 2) hX (by simp) sa_int (by decide +kernel) g17 (by decide) (Nat.le_of_ble_eq_true rfl) (by rw [hRm]; exact ⟨Nat.le_of_ble_eq_true rfl, Nat.le_of_ble_eq_true rfl⟩) ?_
  show zG C E 1 (zNewS S12 100 2) 8 118 _ 27 [some (2, x0)] [(2, (S12.2.2 + 1)), (2, x0)] (zNewM S12 M16)
  generalize S12.2.2 + 1 = r20 at h ⊢
  have h := zlt h
  generalize zNewM S12 M16 = M19 at h ⊢
  have h := zlt h
  generalize zNewS S12 100 2 = S18 at h ⊢
  have h := zlt h
  obtain ⟨g21, h⟩ := zif h
  refine zG.blk (pc' := 30) (l' := [some (2, x0)]) (st' := []) (M' := (upM M19 x0 2 r20)) hX [(.putfield 22, 3, 2, 2)] (by decide +kernel) rfl (And.intro g21 trivial) ?_
  generalize upM M19 x0 2 r20 = M22 at h ⊢
  have h := zlt h
  exact (pX3_init_30_ok hX hRm h)
noncomputable def pX3_init (S : ZS) (M : ZM) (a0 : Int) : Option (ZS × ZM) := if 1 ≤ a0 then if S.2.2 < 2000000000 then zlet (S.2.2 + 1) fun r5 => zlet (zNewM S M) fun M4 => zlet (zNewS S 9 0) fun S3 => if 1 ≤ r5 then (pX9_init S3 M4 r5).bind fun q6 => if q6.1.1 a0 = 3 then zlet (upM q6.2 a0 0 r5) fun M10 => pX3_init_15 q6.1 M10 a0 else none else none else none else none
set_option maxHeartbeats 2000000 in
set_option maxRecDepth 20000 in
theorem pX3_init_go {C : ZC} {E : ZE} {S : ZS} {M : ZM} {a0 : Int} {q : (ZS × ZM)} (hX : zCx C E 3 cX3_init 1 none true) (hRm : czR C = { frames := 2, cells := 9, slots := 120, locals := 60 }) (h : pX3_init  S M a0 = some q) : zG C E 1 S 0 0 (zQ C E 9 120 none q.1 q.2) 0 [some (2, a0)] [] M := by
  unfold pX3_init at h
  refine zG.blk (pc' := 1) (l' := [some (2, a0)]) (st' := [(2, a0)]) (M' := M) hX [(.aload_n 0, 0, 0, 0)] (by decide +kernel) rfl trivial ?_
  obtain ⟨g1, h⟩ := zif h
  refine zG.objInit hX so_3_3 so_1 so_2 g1 (by decide +kernel) (by rw [hRm]; exact ⟨Nat.le_of_ble_eq_true rfl, Nat.le_of_ble_eq_true rfl⟩) ?_
  show zG C E 1 S 0 0 _ 4 [some (2, a0)] [] M
  refine zG.blk (pc' := 5) (l' := [some (2, a0)]) (st' := [(2, a0)]) (M' := M) hX [(.aload_n 0, 0, 0, 0)] (by decide +kernel) rfl trivial ?_
  obtain ⟨g2, h⟩ := zif h
  refine zG.new (ci := 9) hX sc_3_9 (by decide +kernel) g2 (by rw [hRm]; exact ⟨Nat.le_of_ble_eq_true rfl, Nat.le_of_ble_eq_true rfl⟩) ?_
  show zG C E 1 (zNewS S 9 0) 1 10 _ 8 [some (2, a0)] [(2, (S.2.2 + 1)), (2, a0)] (zNewM S M)
  generalize S.2.2 + 1 = r5 at h ⊢
  have h := zlt h
  generalize zNewM S M = M4 at h ⊢
  have h := zlt h
  generalize zNewS S 9 0 = S3 at h ⊢
  have h := zlt h
  refine zG.blk (pc' := 9) (l' := [some (2, a0)]) (st' := [(2, r5), (2, r5), (2, a0)]) (M' := M4) hX [(.dup, 0, 0, 0)] (by decide +kernel) rfl trivial ?_
  obtain ⟨g8, h⟩ := zif h
  obtain ⟨q6, e7, h⟩ := zbd h
  refine zG.callN (b := r5) (av := []) (st := [(2, r5), (2, a0)]) hX (pX9_init_ok e7) sn_3_11 rfl g8 (by decide +kernel) (by rw [hRm]; exact ⟨Nat.le_of_ble_eq_true rfl, Nat.le_of_ble_eq_true rfl⟩) (by rw [hRm]; exact ⟨Nat.le_of_ble_eq_true rfl, Nat.le_of_ble_eq_true rfl⟩) (Nat.le_of_ble_eq_true rfl) ?_
  show zG C E 1 q6.1 6 80 _ 12 [some (2, a0)] [(2, r5), (2, a0)] q6.2
  obtain ⟨g9, h⟩ := zif h
  refine zG.blk (pc' := 15) (l' := [some (2, a0)]) (st' := []) (M' := (upM q6.2 a0 0 r5)) hX [(.putfield 12, 3, 0, 2)] (by decide +kernel) rfl (And.intro g9 trivial) ?_
  generalize upM q6.2 a0 0 r5 = M10 at h ⊢
  have h := zlt h
  exact (pX3_init_15_ok hX hRm h)
theorem pX3_init_ok {l : Launch} {E : ZE} {S : ZS} {M : ZM} {a0 : Int} {q : (ZS × ZM)} (h : pX3_init S M a0 = some q) : zMet l yX3_init cX3_init 1 none 2 60 9 120 E S M [(2, a0)] (none) q.1 q.2 :=
  zMet.of (o := 3) (ini := true) (by decide +kernel) rfl (fun _ => rfl) (Nat.le_of_ble_eq_true rfl) (fun C hX hl hRm => by subst hl; exact pX3_init_go hX hRm h)
theorem so_5_3 : Cond.methodLink (zOwn 5) 3 Lib.objectInit ∈ gt := gt_at 245 (by decide +kernel) rfl
noncomputable def pX5_init (S : ZS) (M : ZM) (a0 : Int) : Option (ZS × ZM) := if 1 ≤ a0 then if S.2.2 < 2000000000 then zlet (S.2.2 + 1) fun r5 => zlet (zNewM S M) fun M4 => zlet (zNewS S 100 400) fun S3 => if S3.1 a0 = 5 then zlet (upM M4 a0 0 r5) fun M7 => some (S3, M7) else none else none else none
set_option maxHeartbeats 2000000 in
set_option maxRecDepth 20000 in
theorem pX5_init_go {C : ZC} {E : ZE} {S : ZS} {M : ZM} {a0 : Int} {q : (ZS × ZM)} (hX : zCx C E 5 cX5_init 1 none true) (hRm : czR C = { frames := 1, cells := 1, slots := 400, locals := 40 }) (h : pX5_init  S M a0 = some q) : zG C E 1 S 0 0 (zQ C E 1 400 none q.1 q.2) 0 [some (2, a0)] [] M := by
  unfold pX5_init at h
  refine zG.blk (pc' := 1) (l' := [some (2, a0)]) (st' := [(2, a0)]) (M' := M) hX [(.aload_n 0, 0, 0, 0)] (by decide +kernel) rfl trivial ?_
  obtain ⟨g1, h⟩ := zif h
  refine zG.objInit hX so_5_3 so_1 so_2 g1 (by decide +kernel) (by rw [hRm]; exact ⟨Nat.le_of_ble_eq_true rfl, Nat.le_of_ble_eq_true rfl⟩) ?_
  show zG C E 1 S 0 0 _ 4 [some (2, a0)] [] M
  refine zG.blk (pc' := 8) (l' := [some (2, a0)]) (st' := [(0, 400), (2, a0)]) (M' := M) hX [(.aload_n 0, 0, 0, 0), (.sipush 400, 0, 0, 0)] (by decide +kernel) rfl trivial ?_
  obtain ⟨g2, h⟩ := zif h
  refine zG.newarray (at_ := .int) (t := 0) (N := 400) hX (by simp) sa_int (by decide +kernel) g2 (by decide) (Nat.le_of_ble_eq_true rfl) (by rw [hRm]; exact ⟨Nat.le_of_ble_eq_true rfl, Nat.le_of_ble_eq_true rfl⟩) ?_
  show zG C E 1 (zNewS S 100 400) 1 400 _ 10 [some (2, a0)] [(2, (S.2.2 + 1)), (2, a0)] (zNewM S M)
  generalize S.2.2 + 1 = r5 at h ⊢
  have h := zlt h
  generalize zNewM S M = M4 at h ⊢
  have h := zlt h
  generalize zNewS S 100 400 = S3 at h ⊢
  have h := zlt h
  obtain ⟨g6, h⟩ := zif h
  refine zG.blk (pc' := 13) (l' := [some (2, a0)]) (st' := []) (M' := (upM M4 a0 0 r5)) hX [(.putfield 9, 5, 0, 2)] (by decide +kernel) rfl (And.intro g6 trivial) ?_
  generalize upM M4 a0 0 r5 = M7 at h ⊢
  have h := zlt h
  cases h
  exact zG.vret hX (by decide +kernel)
theorem pX5_init_ok {l : Launch} {E : ZE} {S : ZS} {M : ZM} {a0 : Int} {q : (ZS × ZM)} (h : pX5_init S M a0 = some q) : zMet l yX5_init cX5_init 1 none 1 40 1 400 E S M [(2, a0)] (none) q.1 q.2 :=
  zMet.of (o := 5) (ini := true) (by decide +kernel) rfl (fun _ => rfl) (Nat.le_of_ble_eq_true rfl) (fun C hX hl hRm => by subst hl; exact pX5_init_go hX hRm h)
theorem so_7_3 : Cond.methodLink (zOwn 7) 3 Lib.objectInit ∈ gt := gt_at 168 (by decide +kernel) rfl
theorem sc_7_9 : zSC 7 9 9 := ⟨by decide, gt_at 169 (by decide +kernel) rfl, gt_at 170 (by decide +kernel) rfl, gt_at 108 (by decide +kernel) rfl⟩
theorem sn_7_11 : zSN 7 11 yX9_init cX9_init 1 0 := ⟨⟨by decide +kernel, gt_at 172 (by decide +kernel) rfl, gt_at 108 (by decide +kernel) rfl, gt_at 173 (by decide +kernel) rfl, rfl⟩, by decide +kernel, by decide +kernel, by decide +kernel⟩
noncomputable def pX7_init_15 (S : ZS) (M : ZM) : Option (ZS × ZM) := some (S, M)
set_option maxHeartbeats 2000000 in
set_option maxRecDepth 20000 in
theorem pX7_init_15_ok {C : ZC} {E : ZE} {q : (ZS × ZM)} (hX : zCx C E 7 cX7_init 1 none true) (hRm : czR C = { frames := 2, cells := 6, slots := 80, locals := 60 }) {S : ZS} {M : ZM} (h : pX7_init_15 S M = some q) : zG C E 1 S 6 80 (zQ C E 6 80 none q.1 q.2) 15 [none] [] M := by
  unfold pX7_init_15 at h
  cases h
  exact zG.vret hX (by decide +kernel)
noncomputable def pX7_init (S : ZS) (M : ZM) (a0 : Int) : Option (ZS × ZM) := if 1 ≤ a0 then if S.2.2 < 2000000000 then zlet (S.2.2 + 1) fun r5 => zlet (zNewM S M) fun M4 => zlet (zNewS S 9 0) fun S3 => if 1 ≤ r5 then (pX9_init S3 M4 r5).bind fun q6 => if q6.1.1 a0 = 7 then zlet (upM q6.2 a0 0 r5) fun M10 => pX7_init_15 q6.1 M10 else none else none else none else none
set_option maxHeartbeats 2000000 in
set_option maxRecDepth 20000 in
theorem pX7_init_go {C : ZC} {E : ZE} {S : ZS} {M : ZM} {a0 : Int} {q : (ZS × ZM)} (hX : zCx C E 7 cX7_init 1 none true) (hRm : czR C = { frames := 2, cells := 6, slots := 80, locals := 60 }) (h : pX7_init  S M a0 = some q) : zG C E 1 S 0 0 (zQ C E 6 80 none q.1 q.2) 0 [some (2, a0)] [] M := by
  unfold pX7_init at h
  refine zG.blk (pc' := 1) (l' := [some (2, a0)]) (st' := [(2, a0)]) (M' := M) hX [(.aload_n 0, 0, 0, 0)] (by decide +kernel) rfl trivial ?_
  obtain ⟨g1, h⟩ := zif h
  refine zG.objInit hX so_7_3 so_1 so_2 g1 (by decide +kernel) (by rw [hRm]; exact ⟨Nat.le_of_ble_eq_true rfl, Nat.le_of_ble_eq_true rfl⟩) ?_
  show zG C E 1 S 0 0 _ 4 [some (2, a0)] [] M
  refine zG.blk (pc' := 5) (l' := [some (2, a0)]) (st' := [(2, a0)]) (M' := M) hX [(.aload_n 0, 0, 0, 0)] (by decide +kernel) rfl trivial ?_
  obtain ⟨g2, h⟩ := zif h
  refine zG.new (ci := 9) hX sc_7_9 (by decide +kernel) g2 (by rw [hRm]; exact ⟨Nat.le_of_ble_eq_true rfl, Nat.le_of_ble_eq_true rfl⟩) ?_
  show zG C E 1 (zNewS S 9 0) 1 10 _ 8 [some (2, a0)] [(2, (S.2.2 + 1)), (2, a0)] (zNewM S M)
  generalize S.2.2 + 1 = r5 at h ⊢
  have h := zlt h
  generalize zNewM S M = M4 at h ⊢
  have h := zlt h
  generalize zNewS S 9 0 = S3 at h ⊢
  have h := zlt h
  refine zG.blk (pc' := 9) (l' := [some (2, a0)]) (st' := [(2, r5), (2, r5), (2, a0)]) (M' := M4) hX [(.dup, 0, 0, 0)] (by decide +kernel) rfl trivial ?_
  obtain ⟨g8, h⟩ := zif h
  obtain ⟨q6, e7, h⟩ := zbd h
  refine zG.callN (b := r5) (av := []) (st := [(2, r5), (2, a0)]) hX (pX9_init_ok e7) sn_7_11 rfl g8 (by decide +kernel) (by rw [hRm]; exact ⟨Nat.le_of_ble_eq_true rfl, Nat.le_of_ble_eq_true rfl⟩) (by rw [hRm]; exact ⟨Nat.le_of_ble_eq_true rfl, Nat.le_of_ble_eq_true rfl⟩) (Nat.le_of_ble_eq_true rfl) ?_
  show zG C E 1 q6.1 6 80 _ 12 [some (2, a0)] [(2, r5), (2, a0)] q6.2
  obtain ⟨g9, h⟩ := zif h
  refine zG.blk (pc' := 15) (l' := [some (2, a0)]) (st' := []) (M' := (upM q6.2 a0 0 r5)) hX [(.putfield 12, 7, 0, 2)] (by decide +kernel) rfl (And.intro g9 trivial) ?_
  generalize upM q6.2 a0 0 r5 = M10 at h ⊢
  have h := zlt h
  exact zG.wk [false] (pX7_init_15_ok hX hRm h)
theorem pX7_init_ok {l : Launch} {E : ZE} {S : ZS} {M : ZM} {a0 : Int} {q : (ZS × ZM)} (h : pX7_init S M a0 = some q) : zMet l yX7_init cX7_init 1 none 2 60 6 80 E S M [(2, a0)] (none) q.1 q.2 :=
  zMet.of (o := 7) (ini := true) (by decide +kernel) rfl (fun _ => rfl) (Nat.le_of_ble_eq_true rfl) (fun C hX hl hRm => by subst hl; exact pX7_init_go hX hRm h)
theorem so_8_3 : Cond.methodLink (zOwn 8) 3 Lib.objectInit ∈ gt := gt_at 139 (by decide +kernel) rfl
noncomputable def pX8_init_22 (S : ZS) (M : ZM) (x0 : Int) : Option (ZS × ZM) := if S.2.2 < 2000000000 then zlet (S.2.2 + 1) fun r17 => zlet (zNewM S M) fun M16 => zlet (zNewS S 100 401) fun S15 => if S15.1 x0 = 8 then zlet (upM M16 x0 3 r17) fun M19 => some (S15, M19) else none else none
set_option maxHeartbeats 2000000 in
set_option maxRecDepth 20000 in
theorem pX8_init_22_ok {C : ZC} {E : ZE} {q : (ZS × ZM)} (hX : zCx C E 8 cX8_init 1 none true) (hRm : czR C = { frames := 1, cells := 3, slots := 1202, locals := 40 }) {S : ZS} {M : ZM} {x0 : Int} (h : pX8_init_22 S M x0 = some q) : zG C E 1 S 2 801 (zQ C E 3 1202 none q.1 q.2) 22 [some (2, x0)] [] M := by
  unfold pX8_init_22 at h
  refine zG.blk (pc' := 26) (l' := [some (2, x0)]) (st' := [(0, 401), (2, x0)]) (M' := M) hX [(.aload_n 0, 0, 0, 0), (.sipush 401, 0, 0, 0)] (by decide +kernel) rfl trivial ?_
  obtain ⟨g14, h⟩ := zif h
  refine zG.newarray (at_ := .int) (t := 0) (N := 401) hX (by simp) sa_int (by decide +kernel) g14 (by decide) (Nat.le_of_ble_eq_true rfl) (by rw [hRm]; exact ⟨Nat.le_of_ble_eq_true rfl, Nat.le_of_ble_eq_true rfl⟩) ?_
  show zG C E 1 (zNewS S 100 401) 3 1202 _ 28 [some (2, x0)] [(2, (S.2.2 + 1)), (2, x0)] (zNewM S M)
  generalize S.2.2 + 1 = r17 at h ⊢
  have h := zlt h
  generalize zNewM S M = M16 at h ⊢
  have h := zlt h
  generalize zNewS S 100 401 = S15 at h ⊢
  have h := zlt h
  obtain ⟨g18, h⟩ := zif h
  refine zG.blk (pc' := 31) (l' := [some (2, x0)]) (st' := []) (M' := (upM M16 x0 3 r17)) hX [(.putfield 18, 8, 3, 2)] (by decide +kernel) rfl (And.intro g18 trivial) ?_
  generalize upM M16 x0 3 r17 = M19 at h ⊢
  have h := zlt h
  cases h
  exact zG.vret hX (by decide +kernel)
noncomputable def pX8_init (S : ZS) (M : ZM) (a0 : Int) : Option (ZS × ZM) := if 1 ≤ a0 then if S.2.2 < 2000000000 then zlet (S.2.2 + 1) fun r5 => zlet (zNewM S M) fun M4 => zlet (zNewS S 100 400) fun S3 => if S3.1 a0 = 8 then zlet (upM M4 a0 0 r5) fun M7 => if S3.2.2 < 2000000000 then zlet (S3.2.2 + 1) fun r11 => zlet (zNewM S3 M7) fun M10 => zlet (zNewS S3 100 401) fun S9 => if S9.1 a0 = 8 then zlet (upM M10 a0 2 r11) fun M13 => pX8_init_22 S9 M13 a0 else none else none else none else none else none
set_option maxHeartbeats 2000000 in
set_option maxRecDepth 20000 in
theorem pX8_init_go {C : ZC} {E : ZE} {S : ZS} {M : ZM} {a0 : Int} {q : (ZS × ZM)} (hX : zCx C E 8 cX8_init 1 none true) (hRm : czR C = { frames := 1, cells := 3, slots := 1202, locals := 40 }) (h : pX8_init  S M a0 = some q) : zG C E 1 S 0 0 (zQ C E 3 1202 none q.1 q.2) 0 [some (2, a0)] [] M := by
  unfold pX8_init at h
  refine zG.blk (pc' := 1) (l' := [some (2, a0)]) (st' := [(2, a0)]) (M' := M) hX [(.aload_n 0, 0, 0, 0)] (by decide +kernel) rfl trivial ?_
  obtain ⟨g1, h⟩ := zif h
  refine zG.objInit hX so_8_3 so_1 so_2 g1 (by decide +kernel) (by rw [hRm]; exact ⟨Nat.le_of_ble_eq_true rfl, Nat.le_of_ble_eq_true rfl⟩) ?_
  show zG C E 1 S 0 0 _ 4 [some (2, a0)] [] M
  refine zG.blk (pc' := 8) (l' := [some (2, a0)]) (st' := [(0, 400), (2, a0)]) (M' := M) hX [(.aload_n 0, 0, 0, 0), (.sipush 400, 0, 0, 0)] (by decide +kernel) rfl trivial ?_
  obtain ⟨g2, h⟩ := zif h
  refine zG.newarray (at_ := .int) (t := 0) (N := 400) hX (by simp) sa_int (by decide +kernel) g2 (by decide) (Nat.le_of_ble_eq_true rfl) (by rw [hRm]; exact ⟨Nat.le_of_ble_eq_true rfl, Nat.le_of_ble_eq_true rfl⟩) ?_
  show zG C E 1 (zNewS S 100 400) 1 400 _ 10 [some (2, a0)] [(2, (S.2.2 + 1)), (2, a0)] (zNewM S M)
  generalize S.2.2 + 1 = r5 at h ⊢
  have h := zlt h
  generalize zNewM S M = M4 at h ⊢
  have h := zlt h
  generalize zNewS S 100 400 = S3 at h ⊢
  have h := zlt h
  obtain ⟨g6, h⟩ := zif h
  refine zG.blk (pc' := 13) (l' := [some (2, a0)]) (st' := []) (M' := (upM M4 a0 0 r5)) hX [(.putfield 9, 8, 0, 2)] (by decide +kernel) rfl (And.intro g6 trivial) ?_
  generalize upM M4 a0 0 r5 = M7 at h ⊢
  have h := zlt h
  refine zG.blk (pc' := 17) (l' := [some (2, a0)]) (st' := [(0, 401), (2, a0)]) (M' := M7) hX [(.aload_n 0, 0, 0, 0), (.sipush 401, 0, 0, 0)] (by decide +kernel) rfl trivial ?_
  obtain ⟨g8, h⟩ := zif h
  refine zG.newarray (at_ := .int) (t := 0) (N := 401) hX (by simp) sa_int (by decide +kernel) g8 (by decide) (Nat.le_of_ble_eq_true rfl) (by rw [hRm]; exact ⟨Nat.le_of_ble_eq_true rfl, Nat.le_of_ble_eq_true rfl⟩) ?_
  show zG C E 1 (zNewS S3 100 401) 2 801 _ 19 [some (2, a0)] [(2, (S3.2.2 + 1)), (2, a0)] (zNewM S3 M7)
  generalize S3.2.2 + 1 = r11 at h ⊢
  have h := zlt h
  generalize zNewM S3 M7 = M10 at h ⊢
  have h := zlt h
  generalize zNewS S3 100 401 = S9 at h ⊢
  have h := zlt h
  obtain ⟨g12, h⟩ := zif h
  refine zG.blk (pc' := 22) (l' := [some (2, a0)]) (st' := []) (M' := (upM M10 a0 2 r11)) hX [(.putfield 15, 8, 2, 2)] (by decide +kernel) rfl (And.intro g12 trivial) ?_
  generalize upM M10 a0 2 r11 = M13 at h ⊢
  have h := zlt h
  exact (pX8_init_22_ok hX hRm h)
theorem pX8_init_ok {l : Launch} {E : ZE} {S : ZS} {M : ZM} {a0 : Int} {q : (ZS × ZM)} (h : pX8_init S M a0 = some q) : zMet l yX8_init cX8_init 1 none 1 40 3 1202 E S M [(2, a0)] (none) q.1 q.2 :=
  zMet.of (o := 8) (ini := true) (by decide +kernel) rfl (fun _ => rfl) (Nat.le_of_ble_eq_true rfl) (fun C hX hl hRm => by subst hl; exact pX8_init_go hX hRm h)
