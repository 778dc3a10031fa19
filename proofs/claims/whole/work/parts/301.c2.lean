theorem sv_0_22 : zSV 0 22 yX0_one cX0_one 5 (some .int) 3 := ⟨⟨gt_at 901 (by decide +kernel) rfl, gt_at 796 (by decide +kernel) rfl, gt_at 797 (by decide +kernel) rfl, gt_at 113 (by decide +kernel) rfl, gt_at 798 (by decide +kernel) rfl⟩, by decide +kernel, by decide +kernel, by decide +kernel⟩
noncomputable def pX0_pass_3 (S : ZS) : Nat → ZM → Int → Int → Int → Int → Int → Int → Option ZM
  | 0 => fun _ _ _ _ _ _ _ => none
  | n + 1 => fun M x0 x1 x2 x3 x4 x5 => if x4 ≤ x5 then (some M) else (if S.1 x0 = 0 then (pX0_one S M x0 x1 x2 x3).bind fun q2 => pX0_pass_3 S n q2.2 x0 x1 x2 x3 x4 (w32 (x5 + 1)) else none)
set_option maxHeartbeats 2000000 in
set_option maxRecDepth 20000 in
theorem pX0_pass_3_ok {C : ZC} {E : ZE} {S : ZS} {q : ZM} (hX : zCx C E 0 cX0_pass 6 none false) (hRm : czR C = { frames := 5, cells := 0, slots := 0, locals := 139 }) : ∀ (n : Nat) (M : ZM) (x0 : Int) (x1 : Int) (x2 : Int) (x3 : Int) (x4 : Int) (x5 : Int), pX0_pass_3 S n M x0 x1 x2 x3 x4 x5 = some q → zG C E 6 S 0 0 (zQ C E 0 0 none S q) 3 [some (2, x0), some (2, x1), some (2, x2), some (2, x3), some (0, x4), some (0, x5)] [] M := by
  intro n
  induction n with
  | zero => intro M x0 x1 x2 x3 x4 x5 h; cases h
  | succ n ih =>
    intro M x0 x1 x2 x3 x4 x5 h
    unfold pX0_pass_3 at h
    refine zG.blk (pc' := 7) (l' := [some (2, x0), some (2, x1), some (2, x2), some (2, x3), some (0, x4), some (0, x5)]) (st' := [(0, x4), (0, x5)]) (M' := M) hX [(.iload 5, 0, 0, 0), (.iload 4, 0, 0, 0)] (by decide +kernel) rfl trivial ?_
    refine zG.icmp_ge (tgt := 24) (off := 17) hX (by decide +kernel) (by decide) (fun c1 => ?_) (fun c1 => ?_)
    · have h := zip c1 h
      cases h
      exact zG.vret hX (by decide +kernel)
    · have h := zin c1 h
      refine zG.blk (pc' := 14) (l' := [some (2, x0), some (2, x1), some (2, x2), some (2, x3), some (0, x4), some (0, x5)]) (st' := [(2, x3), (2, x2), (2, x1), (2, x0)]) (M' := M) hX [(.aload_n 0, 0, 0, 0), (.aload_n 1, 0, 0, 0), (.aload_n 2, 0, 0, 0), (.aload_n 3, 0, 0, 0)] (by decide +kernel) rfl trivial ?_
      obtain ⟨g4, h⟩ := zif h
      obtain ⟨q2, e3, h⟩ := zbd h
      refine zG.callV (b := x0) (av := [(2, x1), (2, x2), (2, x3)]) (st := []) (ci := 0) hX (pX0_one_ok e3) sv_0_22 rfl ⟨by decide, rfl⟩ g4 (by decide +kernel) (by rw [hRm]; exact ⟨Nat.le_of_ble_eq_true rfl, Nat.le_of_ble_eq_true rfl⟩) (by rw [hRm]; exact ⟨Nat.le_of_ble_eq_true rfl, Nat.le_of_ble_eq_true rfl⟩) (Nat.le_of_ble_eq_true rfl) ?_
      show zG C E 6 S 0 0 _ 17 [some (2, x0), some (2, x1), some (2, x2), some (2, x3), some (0, x4), some (0, x5)] [(0, q2.1)] q2.2
      refine zG.blk (pc' := 21) (l' := [some (2, x0), some (2, x1), some (2, x2), some (2, x3), some (0, x4), some (0, w32 (x5 + 1))]) (st' := []) (M' := q2.2) hX [(.pop, 0, 0, 0), (.iinc 5 1, 0, 0, 0)] (by decide +kernel) rfl trivial ?_
      refine zG.goto (tgt := 3) (off := (-18)) hX (by decide +kernel) (by decide) ?_
      exact ih _ _ _ _ _ _ _ h
noncomputable def pX0_pass (S : ZS) (M : ZM) (a0 : Int) (a1 : Int) (a2 : Int) (a3 : Int) (a4 : Int) : Option ZM := pX0_pass_3 S zFU M a0 a1 a2 a3 a4 0
set_option maxHeartbeats 2000000 in
set_option maxRecDepth 20000 in
theorem pX0_pass_go {C : ZC} {E : ZE} {S : ZS} {M : ZM} {a0 a1 a2 a3 a4 : Int} {q : ZM} (hX : zCx C E 0 cX0_pass 6 none false) (hRm : czR C = { frames := 5, cells := 0, slots := 0, locals := 139 }) (h : pX0_pass  S M a0 a1 a2 a3 a4 = some q) : zG C E 6 S 0 0 (zQ C E 0 0 none S q) 0 [some (2, a0), some (2, a1), some (2, a2), some (2, a3), some (0, a4), none] [] M := by
  unfold pX0_pass at h
  refine zG.blk (pc' := 3) (l' := [some (2, a0), some (2, a1), some (2, a2), some (2, a3), some (0, a4), some (0, 0)]) (st' := []) (M' := M) hX [(.iconst 0, 0, 0, 0), (.istore 5, 0, 0, 0)] (by decide +kernel) rfl trivial ?_
  exact (pX0_pass_3_ok hX hRm zFU _ _ _ _ _ _ _ h)
theorem pX0_pass_ok {l : Launch} {E : ZE} {S : ZS} {M : ZM} {a0 a1 a2 a3 a4 : Int} {q : ZM} (h : pX0_pass S M a0 a1 a2 a3 a4 = some q) : zMet l yX0_pass cX0_pass 6 none 5 139 0 0 E S M [(2, a0), (2, a1), (2, a2), (2, a3), (0, a4)] (none) S q :=
  zMet.of (o := 0) (ini := false) (by decide +kernel) rfl (fun h => by cases h) (Nat.le_of_ble_eq_true rfl) (fun C hX hl hRm => by subst hl; exact pX0_pass_go hX hRm h)
theorem sk_6_33 : Cond.methodLink (zOwn 6) 33 arraycopyName ∈ gt := gt_at 665 (by decide +kernel) rfl
noncomputable def pX6_copyFrom_58 (S : ZS) (M : ZM) (x0 : Int) (x1 : Int) : Option ZM := if S.1 x1 = 6 then if S.1 x0 = 6 then zlet (upM M x0 4 (M x1 4)) fun M27 => zlet (upM M27 x0 5 (M27 x1 5)) fun M28 => zlet (upM M28 x0 6 (M28 x1 6)) fun M29 => some M29 else none else none
set_option maxHeartbeats 2000000 in
set_option maxRecDepth 20000 in
theorem pX6_copyFrom_58_ok {C : ZC} {E : ZE} {S : ZS} {q : ZM} (hX : zCx C E 6 cX6_copyFrom 2 none false) (hRm : czR C = { frames := 1, cells := 0, slots := 0, locals := 60 }) {M : ZM} {x0 : Int} {x1 : Int} (h : pX6_copyFrom_58 S M x0 x1 = some q) : zG C E 2 S 0 0 (zQ C E 0 0 none S q) 58 [some (2, x0), some (2, x1)] [] M := by
  unfold pX6_copyFrom_58 at h
  obtain ⟨g25, h⟩ := zif h
  obtain ⟨g26, h⟩ := zif h
  refine zG.blk (pc' := 66) (l' := [some (2, x0), some (2, x1)]) (st' := []) (M' := (upM M x0 4 (M x1 4))) hX [(.aload_n 0, 0, 0, 0), (.aload_n 1, 0, 0, 0), (.getfield 40, 6, 4, 0), (.putfield 40, 6, 4, 0)] (by decide +kernel) rfl (And.intro g25 (And.intro g26 trivial)) ?_
  generalize upM M x0 4 (M x1 4) = M27 at h ⊢
  have h := zlt h
  refine zG.blk (pc' := 74) (l' := [some (2, x0), some (2, x1)]) (st' := []) (M' := (upM M27 x0 5 (M27 x1 5))) hX [(.aload_n 0, 0, 0, 0), (.aload_n 1, 0, 0, 0), (.getfield 44, 6, 5, 0), (.putfield 44, 6, 5, 0)] (by decide +kernel) rfl (And.intro g25 (And.intro g26 trivial)) ?_
  generalize upM M27 x0 5 (M27 x1 5) = M28 at h ⊢
  have h := zlt h
  refine zG.blk (pc' := 82) (l' := [some (2, x0), some (2, x1)]) (st' := []) (M' := (upM M28 x0 6 (M28 x1 6))) hX [(.aload_n 0, 0, 0, 0), (.aload_n 1, 0, 0, 0), (.getfield 47, 6, 6, 0), (.putfield 47, 6, 6, 0)] (by decide +kernel) rfl (And.intro g25 (And.intro g26 trivial)) ?_
  generalize upM M28 x0 6 (M28 x1 6) = M29 at h ⊢
  have h := zlt h
  cases h
  exact zG.vret hX (by decide +kernel)
noncomputable def pX6_copyFrom_43 (S : ZS) (M : ZM) (x0 : Int) (x1 : Int) : Option ZM := if S.1 x1 = 6 then if S.1 x0 = 6 then if S.1 (M x1 3) = 100 then if S.1 (M x0 3) = 100 then if (0 : Int) ≤ 36 ∧ 36 ≤ S.2.1 (M x1 3) ∧ 36 ≤ S.2.1 (M x0 3) then zlet (zCpy M (M x1 3) (M x0 3) 36) fun M24 => pX6_copyFrom_58 S M24 x0 x1 else none else none else none else none else none
set_option maxHeartbeats 2000000 in
set_option maxRecDepth 20000 in
theorem pX6_copyFrom_43_ok {C : ZC} {E : ZE} {S : ZS} {q : ZM} (hX : zCx C E 6 cX6_copyFrom 2 none false) (hRm : czR C = { frames := 1, cells := 0, slots := 0, locals := 60 }) {M : ZM} {x0 : Int} {x1 : Int} (h : pX6_copyFrom_43 S M x0 x1 = some q) : zG C E 2 S 0 0 (zQ C E 0 0 none S q) 43 [some (2, x0), some (2, x1)] [] M := by
  unfold pX6_copyFrom_43 at h
  obtain ⟨g19, h⟩ := zif h
  obtain ⟨g20, h⟩ := zif h
  refine zG.blk (pc' := 55) (l' := [some (2, x0), some (2, x1)]) (st' := [(0, 36), (0, 0), (2, M x0 3), (0, 0), (2, M x1 3)]) (M' := M) hX [(.aload_n 1, 0, 0, 0), (.getfield 21, 6, 3, 2), (.iconst 0, 0, 0, 0), (.aload_n 0, 0, 0, 0), (.getfield 21, 6, 3, 2), (.iconst 0, 0, 0, 0), (.bipush 36, 0, 0, 0)] (by decide +kernel) rfl (And.intro g19 (And.intro g20 trivial)) ?_
  obtain ⟨g21, h⟩ := zif h
  obtain ⟨g22, h⟩ := zif h
  obtain ⟨g23, h⟩ := zif h
  refine zG.copy hX sk_6_33 sk_1 sk_2 sk_3 (by decide +kernel) g21 g22 g23 (by rw [hRm]; exact ⟨Nat.le_of_ble_eq_true rfl, Nat.le_of_ble_eq_true rfl⟩) ?_
  show zG C E 2 S 0 0 _ 58 [some (2, x0), some (2, x1)] [] (zCpy M (M x1 3) (M x0 3) 36)
  generalize zCpy M (M x1 3) (M x0 3) 36 = M24 at h ⊢
  have h := zlt h
  exact (pX6_copyFrom_58_ok hX hRm h)
noncomputable def pX6_copyFrom_28 (S : ZS) (M : ZM) (x0 : Int) (x1 : Int) : Option ZM := if S.1 x1 = 6 then if S.1 x0 = 6 then if S.1 (M x1 2) = 100 then if S.1 (M x0 2) = 100 then if (0 : Int) ≤ 36 ∧ 36 ≤ S.2.1 (M x1 2) ∧ 36 ≤ S.2.1 (M x0 2) then zlet (zCpy M (M x1 2) (M x0 2) 36) fun M18 => pX6_copyFrom_43 S M18 x0 x1 else none else none else none else none else none
set_option maxHeartbeats 2000000 in
set_option maxRecDepth 20000 in
theorem pX6_copyFrom_28_ok {C : ZC} {E : ZE} {S : ZS} {q : ZM} (hX : zCx C E 6 cX6_copyFrom 2 none false) (hRm : czR C = { frames := 1, cells := 0, slots := 0, locals := 60 }) {M : ZM} {x0 : Int} {x1 : Int} (h : pX6_copyFrom_28 S M x0 x1 = some q) : zG C E 2 S 0 0 (zQ C E 0 0 none S q) 28 [some (2, x0), some (2, x1)] [] M := by
  unfold pX6_copyFrom_28 at h
  obtain ⟨g13, h⟩ := zif h
  obtain ⟨g14, h⟩ := zif h
  refine zG.blk (pc' := 40) (l' := [some (2, x0), some (2, x1)]) (st' := [(0, 36), (0, 0), (2, M x0 2), (0, 0), (2, M x1 2)]) (M' := M) hX [(.aload_n 1, 0, 0, 0), (.getfield 18, 6, 2, 2), (.iconst 0, 0, 0, 0), (.aload_n 0, 0, 0, 0), (.getfield 18, 6, 2, 2), (.iconst 0, 0, 0, 0), (.bipush 36, 0, 0, 0)] (by decide +kernel) rfl (And.intro g13 (And.intro g14 trivial)) ?_
  obtain ⟨g15, h⟩ := zif h
  obtain ⟨g16, h⟩ := zif h
  obtain ⟨g17, h⟩ := zif h
  refine zG.copy hX sk_6_33 sk_1 sk_2 sk_3 (by decide +kernel) g15 g16 g17 (by rw [hRm]; exact ⟨Nat.le_of_ble_eq_true rfl, Nat.le_of_ble_eq_true rfl⟩) ?_
  show zG C E 2 S 0 0 _ 43 [some (2, x0), some (2, x1)] [] (zCpy M (M x1 2) (M x0 2) 36)
  generalize zCpy M (M x1 2) (M x0 2) 36 = M18 at h ⊢
  have h := zlt h
  exact (pX6_copyFrom_43_ok hX hRm h)
noncomputable def pX6_copyFrom_14 (S : ZS) (M : ZM) (x0 : Int) (x1 : Int) : Option ZM := if S.1 x1 = 6 then if S.1 x0 = 6 then if S.1 (M x1 1) = 100 then if S.1 (M x0 1) = 100 then if (0 : Int) ≤ 5 ∧ 5 ≤ S.2.1 (M x1 1) ∧ 5 ≤ S.2.1 (M x0 1) then zlet (zCpy M (M x1 1) (M x0 1) 5) fun M12 => pX6_copyFrom_28 S M12 x0 x1 else none else none else none else none else none
set_option maxHeartbeats 2000000 in
set_option maxRecDepth 20000 in
theorem pX6_copyFrom_14_ok {C : ZC} {E : ZE} {S : ZS} {q : ZM} (hX : zCx C E 6 cX6_copyFrom 2 none false) (hRm : czR C = { frames := 1, cells := 0, slots := 0, locals := 60 }) {M : ZM} {x0 : Int} {x1 : Int} (h : pX6_copyFrom_14 S M x0 x1 = some q) : zG C E 2 S 0 0 (zQ C E 0 0 none S q) 14 [some (2, x0), some (2, x1)] [] M := by
  unfold pX6_copyFrom_14 at h
  obtain ⟨g7, h⟩ := zif h
  obtain ⟨g8, h⟩ := zif h
  refine zG.blk (pc' := 25) (l' := [some (2, x0), some (2, x1)]) (st' := [(0, 5), (0, 0), (2, M x0 1), (0, 0), (2, M x1 1)]) (M' := M) hX [(.aload_n 1, 0, 0, 0), (.getfield 15, 6, 1, 2), (.iconst 0, 0, 0, 0), (.aload_n 0, 0, 0, 0), (.getfield 15, 6, 1, 2), (.iconst 0, 0, 0, 0), (.iconst 5, 0, 0, 0)] (by decide +kernel) rfl (And.intro g7 (And.intro g8 trivial)) ?_
  obtain ⟨g9, h⟩ := zif h
  obtain ⟨g10, h⟩ := zif h
  obtain ⟨g11, h⟩ := zif h
  refine zG.copy hX sk_6_33 sk_1 sk_2 sk_3 (by decide +kernel) g9 g10 g11 (by rw [hRm]; exact ⟨Nat.le_of_ble_eq_true rfl, Nat.le_of_ble_eq_true rfl⟩) ?_
  show zG C E 2 S 0 0 _ 28 [some (2, x0), some (2, x1)] [] (zCpy M (M x1 1) (M x0 1) 5)
  generalize zCpy M (M x1 1) (M x0 1) 5 = M12 at h ⊢
  have h := zlt h
  exact (pX6_copyFrom_28_ok hX hRm h)
noncomputable def pX6_copyFrom (S : ZS) (M : ZM) (a0 : Int) (a1 : Int) : Option ZM := if S.1 a1 = 6 then if S.1 a0 = 6 then if S.1 (M a1 0) = 100 then if S.1 (M a0 0) = 100 then if (0 : Int) ≤ 5 ∧ 5 ≤ S.2.1 (M a1 0) ∧ 5 ≤ S.2.1 (M a0 0) then zlet (zCpy M (M a1 0) (M a0 0) 5) fun M6 => pX6_copyFrom_14 S M6 a0 a1 else none else none else none else none else none
set_option maxHeartbeats 2000000 in
set_option maxRecDepth 20000 in
theorem pX6_copyFrom_go {C : ZC} {E : ZE} {S : ZS} {M : ZM} {a0 a1 : Int} {q : ZM} (hX : zCx C E 6 cX6_copyFrom 2 none false) (hRm : czR C = { frames := 1, cells := 0, slots := 0, locals := 60 }) (h : pX6_copyFrom  S M a0 a1 = some q) : zG C E 2 S 0 0 (zQ C E 0 0 none S q) 0 [some (2, a0), some (2, a1)] [] M := by
  unfold pX6_copyFrom at h
  obtain ⟨g1, h⟩ := zif h
  obtain ⟨g2, h⟩ := zif h
  refine zG.blk (pc' := 11) (l' := [some (2, a0), some (2, a1)]) (st' := [(0, 5), (0, 0), (2, M a0 0), (0, 0), (2, M a1 0)]) (M' := M) hX [(.aload_n 1, 0, 0, 0), (.getfield 9, 6, 0, 2), (.iconst 0, 0, 0, 0), (.aload_n 0, 0, 0, 0), (.getfield 9, 6, 0, 2), (.iconst 0, 0, 0, 0), (.iconst 5, 0, 0, 0)] (by decide +kernel) rfl (And.intro g1 (And.intro g2 trivial)) ?_
  obtain ⟨g3, h⟩ := zif h
  obtain ⟨g4, h⟩ := zif h
  obtain ⟨g5, h⟩ := zif h
  refine zG.copy hX sk_6_33 sk_1 sk_2 sk_3 (by decide +kernel) g3 g4 g5 (by rw [hRm]; exact ⟨Nat.le_of_ble_eq_true rfl, Nat.le_of_ble_eq_true rfl⟩) ?_
  show zG C E 2 S 0 0 _ 14 [some (2, a0), some (2, a1)] [] (zCpy M (M a1 0) (M a0 0) 5)
  generalize zCpy M (M a1 0) (M a0 0) 5 = M6 at h ⊢
  have h := zlt h
  exact (pX6_copyFrom_14_ok hX hRm h)
theorem pX6_copyFrom_ok {l : Launch} {E : ZE} {S : ZS} {M : ZM} {a0 a1 : Int} {q : ZM} (h : pX6_copyFrom S M a0 a1 = some q) : zMet l yX6_copyFrom cX6_copyFrom 2 none 1 60 0 0 E S M [(2, a0), (2, a1)] (none) S q :=
  zMet.of (o := 6) (ini := false) (by decide +kernel) rfl (fun h => by cases h) (Nat.le_of_ble_eq_true rfl) (fun C hX hl hRm => by subst hl; exact pX6_copyFrom_go hX hRm h)
theorem sv_1_44 : zSV 1 44 yX6_copyFrom cX6_copyFrom 2 none 1 := ⟨⟨gt_at 896 (by decide +kernel) rfl, gt_at 785 (by decide +kernel) rfl, gt_at 786 (by decide +kernel) rfl, gt_at 111 (by decide +kernel) rfl, gt_at 787 (by decide +kernel) rfl⟩, by decide +kernel, by decide +kernel, by decide +kernel⟩
theorem sv_1_51 : zSV 1 51 yX0_pass cX0_pass 6 none 4 := ⟨⟨gt_at 897 (by decide +kernel) rfl, gt_at 898 (by decide +kernel) rfl, gt_at 899 (by decide +kernel) rfl, gt_at 113 (by decide +kernel) rfl, gt_at 900 (by decide +kernel) rfl⟩, by decide +kernel, by decide +kernel, by decide +kernel⟩
noncomputable def pX1_after_28 (S : ZS) (M : ZM) (x0 : Int) : Option (Int × ZM) := if S.1 x0 = 1 then some (M x0 1, M) else none
set_option maxHeartbeats 2000000 in
set_option maxRecDepth 20000 in
theorem pX1_after_28_ok {C : ZC} {E : ZE} {S : ZS} {q : (Int × ZM)} (hX : zCx C E 1 cX1_after 4 (some (.object "SkySpire$Scene")) false) (hRm : czR C = { frames := 6, cells := 0, slots := 0, locals := 164 }) {M : ZM} {x0 : Int} (h : pX1_after_28 S M x0 = some q) : zG C E 4 S 0 0 (zQ C E 0 0 (some (2, q.1)) S q.2) 28 [some (2, x0), none, none, none] [] M := by
  unfold pX1_after_28 at h
  obtain ⟨g9, h⟩ := zif h
  refine zG.blk (pc' := 32) (l' := [some (2, x0), none, none, none]) (st' := [(2, M x0 1)]) (M' := M) hX [(.aload_n 0, 0, 0, 0), (.getfield 21, 1, 1, 2)] (by decide +kernel) rfl (And.intro g9 trivial) ?_
  cases h
  exact zG.aret hX (Or.inl ⟨_, rfl⟩) (by decide +kernel) (by decide)
noncomputable def pX1_after (S : ZS) (M : ZM) (a0 : Int) (a1 : Int) (a2 : Int) (a3 : Int) : Option (Int × ZM) := if S.1 a0 = 1 then if S.1 a1 = 10 then if S.1 (M a0 1) = 6 then (pX6_copyFrom S M (M a0 1) (M a1 1)).bind fun q3 => if S.1 (q3 a0 0) = 0 then (pX0_pass S q3 (q3 a0 0) (q3 a1 0) (q3 a0 1) a2 a3).bind fun q6 => pX1_after_28 S q6 a0 else none else none else none else none
set_option maxHeartbeats 2000000 in
set_option maxRecDepth 20000 in
theorem pX1_after_go {C : ZC} {E : ZE} {S : ZS} {M : ZM} {a0 a1 a2 a3 : Int} {q : (Int × ZM)} (hX : zCx C E 1 cX1_after 4 (some (.object "SkySpire$Scene")) false) (hRm : czR C = { frames := 6, cells := 0, slots := 0, locals := 164 }) (h : pX1_after  S M a0 a1 a2 a3 = some q) : zG C E 4 S 0 0 (zQ C E 0 0 (some (2, q.1)) S q.2) 0 [some (2, a0), some (2, a1), some (2, a2), some (0, a3)] [] M := by
  unfold pX1_after at h
  obtain ⟨g1, h⟩ := zif h
  obtain ⟨g2, h⟩ := zif h
  refine zG.blk (pc' := 8) (l' := [some (2, a0), some (2, a1), some (2, a2), some (0, a3)]) (st' := [(2, M a1 1), (2, M a0 1)]) (M' := M) hX [(.aload_n 0, 0, 0, 0), (.getfield 21, 1, 1, 2), (.aload_n 1, 0, 0, 0), (.getfield 39, 10, 1, 2)] (by decide +kernel) rfl (And.intro g1 (And.intro g2 trivial)) ?_
  obtain ⟨g5, h⟩ := zif h
  obtain ⟨q3, e4, h⟩ := zbd h
  refine zG.callV (b := M a0 1) (av := [(2, M a1 1)]) (st := []) (ci := 6) hX (pX6_copyFrom_ok e4) sv_1_44 rfl ⟨by decide, rfl⟩ g5 (by decide +kernel) (by rw [hRm]; exact ⟨Nat.le_of_ble_eq_true rfl, Nat.le_of_ble_eq_true rfl⟩) (by rw [hRm]; exact ⟨Nat.le_of_ble_eq_true rfl, Nat.le_of_ble_eq_true rfl⟩) (Nat.le_of_ble_eq_true rfl) ?_
  show zG C E 4 S 0 0 _ 11 [some (2, a0), some (2, a1), some (2, a2), some (0, a3)] [] q3
  refine zG.blk (pc' := 25) (l' := [some (2, a0), some (2, a1), some (2, a2), some (0, a3)]) (st' := [(0, a3), (2, a2), (2, q3 a0 1), (2, q3 a1 0), (2, q3 a0 0)]) (M' := q3) hX [(.aload_n 0, 0, 0, 0), (.getfield 12, 1, 0, 2), (.aload_n 1, 0, 0, 0), (.getfield 48, 10, 0, 2), (.aload_n 0, 0, 0, 0), (.getfield 21, 1, 1, 2), (.aload_n 2, 0, 0, 0), (.iload_n 3, 0, 0, 0)] (by decide +kernel) rfl (And.intro g1 (And.intro g2 (And.intro g1 trivial))) ?_
  obtain ⟨g8, h⟩ := zif h
  obtain ⟨q6, e7, h⟩ := zbd h
  refine zG.callV (b := q3 a0 0) (av := [(2, q3 a1 0), (2, q3 a0 1), (2, a2), (0, a3)]) (st := []) (ci := 0) hX (pX0_pass_ok e7) sv_1_51 rfl ⟨by decide, rfl⟩ g8 (by decide +kernel) (by rw [hRm]; exact ⟨Nat.le_of_ble_eq_true rfl, Nat.le_of_ble_eq_true rfl⟩) (by rw [hRm]; exact ⟨Nat.le_of_ble_eq_true rfl, Nat.le_of_ble_eq_true rfl⟩) (Nat.le_of_ble_eq_true rfl) ?_
  show zG C E 4 S 0 0 _ 28 [some (2, a0), some (2, a1), some (2, a2), some (0, a3)] [] q6
  exact zG.wk [true, false, false, false] (pX1_after_28_ok hX hRm h)
theorem pX1_after_ok {l : Launch} {E : ZE} {S : ZS} {M : ZM} {a0 a1 a2 a3 : Int} {q : (Int × ZM)} (h : pX1_after S M a0 a1 a2 a3 = some q) : zMet l yX1_after cX1_after 4 (some (.object "SkySpire$Scene")) 6 164 0 0 E S M [(2, a0), (2, a1), (2, a2), (0, a3)] (some (2, q.1)) S q.2 :=
  zMet.of (o := 1) (ini := false) (by decide +kernel) rfl (fun h => by cases h) (Nat.le_of_ble_eq_true rfl) (fun C hX hl hRm => by subst hl; exact pX1_after_go hX hRm h)
noncomputable def pX1_beginnings_44 (S : ZS) (k10 : ZM → Int → Int → Int → Int → Int → Int → Int → Int → Int → Option (Int × ZM)) (M : ZM) (x0 : Int) (x1 : Int) (x2 : Int) (x3 : Int) (x4 : Int) (x5 : Int) (x6 : Int) (x7 : Int) (x8 : Int) : Option (Int × ZM) := if S.1 x0 = 1 then if S.1 x1 = 10 then if S.1 (M x0 0) = 0 then (pX0_pass S M (M x0 0) (M x1 0) (M x0 1) 0 x4).bind fun q15 => if S.1 (q15 x0 1) = 6 then if S.1 (q15 (q15 x0 1) 0) = 100 ∧ (0 : Int) ≤ x2 ∧ x2 < S.2.1 (q15 (q15 x0 1) 0) then k10 q15 x0 x1 x2 x3 x4 x5 (if q15 (q15 (q15 x0 1) 0) x2 = x3 then (w32 (x6 + 1) : Int) else x6) (if q15 (q15 (q15 x0 1) 0) x2 = x3 then ((if x7 = (-2) then (x8 : Int) else x7) : Int) else x7) (w32 (x8 + 1)) else none else none else none else none else none
set_option maxHeartbeats 2000000 in
set_option maxRecDepth 20000 in
theorem pX1_beginnings_44_ok {C : ZC} {E : ZE} {S : ZS} {k10 : ZM → Int → Int → Int → Int → Int → Int → Int → Int → Int → Option (Int × ZM)} {q : (Int × ZM)} (hX : zCx C E 1 cX1_beginnings 9 (some .int) false) (hRm : czR C = { frames := 6, cells := 0, slots := 0, locals := 164 }) (hk10 : ∀ M x0 x1 x2 x3 x4 x5 x6 x7 x8, k10 M x0 x1 x2 x3 x4 x5 x6 x7 x8 = some q → zG C E 9 S 0 0 (zQ C E 0 0 (some (0, q.1)) S q.2) 10 [some (2, x0), some (2, x1), some (0, x2), some (0, x3), some (0, x4), some (0, x5), some (0, x6), some (0, x7), some (0, x8)] [] M) {M : ZM} {x0 : Int} {x1 : Int} {x2 : Int} {x3 : Int} {x4 : Int} {x5 : Int} {x6 : Int} {x7 : Int} {x8 : Int} (h : pX1_beginnings_44 S k10 M x0 x1 x2 x3 x4 x5 x6 x7 x8 = some q) : zG C E 9 S 0 0 (zQ C E 0 0 (some (0, q.1)) S q.2) 44 [some (2, x0), some (2, x1), some (0, x2), some (0, x3), some (0, x4), some (0, x5), some (0, x6), some (0, x7), some (0, x8)] [] M := by
  unfold pX1_beginnings_44 at h
  obtain ⟨g13, h⟩ := zif h
  obtain ⟨g14, h⟩ := zif h
  refine zG.blk (pc' := 59) (l' := [some (2, x0), some (2, x1), some (0, x2), some (0, x3), some (0, x4), some (0, x5), some (0, x6), some (0, x7), some (0, x8)]) (st' := [(0, x4), (2, 0), (2, M x0 1), (2, M x1 0), (2, M x0 0)]) (M' := M) hX [(.aload_n 0, 0, 0, 0), (.getfield 12, 1, 0, 2), (.aload_n 1, 0, 0, 0), (.getfield 48, 10, 0, 2), (.aload_n 0, 0, 0, 0), (.getfield 21, 1, 1, 2), (.aconst_null, 0, 0, 0), (.iload 4, 0, 0, 0)] (by decide +kernel) rfl (And.intro g13 (And.intro g14 (And.intro g13 trivial))) ?_
  obtain ⟨g17, h⟩ := zif h
  obtain ⟨q15, e16, h⟩ := zbd h
  refine zG.callV (b := M x0 0) (av := [(2, M x1 0), (2, M x0 1), (2, 0), (0, x4)]) (st := []) (ci := 0) hX (pX0_pass_ok e16) sv_1_51 rfl ⟨by decide, rfl⟩ g17 (by decide +kernel) (by rw [hRm]; exact ⟨Nat.le_of_ble_eq_true rfl, Nat.le_of_ble_eq_true rfl⟩) (by rw [hRm]; exact ⟨Nat.le_of_ble_eq_true rfl, Nat.le_of_ble_eq_true rfl⟩) (Nat.le_of_ble_eq_true rfl) ?_
  show zG C E 9 S 0 0 _ 62 [some (2, x0), some (2, x1), some (0, x2), some (0, x3), some (0, x4), some (0, x5), some (0, x6), some (0, x7), some (0, x8)] [] q15
  obtain ⟨g18, h⟩ := zif h
  obtain ⟨g19, h⟩ := zif h
  refine zG.blk (pc' := 72) (l' := [some (2, x0), some (2, x1), some (0, x2), some (0, x3), some (0, x4), some (0, x5), some (0, x6), some (0, x7), some (0, x8)]) (st' := [(0, x3), (0, q15 (q15 (q15 x0 1) 0) x2)]) (M' := q15) hX [(.aload_n 0, 0, 0, 0), (.getfield 21, 1, 1, 2), (.getfield 96, 6, 0, 2), (.iload_n 2, 0, 0, 0), (.iaload, 0, 0, 0), (.iload_n 3, 0, 0, 0)] (by decide +kernel) rfl (And.intro g13 (And.intro g18 (And.intro g19 trivial))) ?_
  have key20 : zG C E 9 S 0 0 (zQ C E 0 0 (some (0, q.1)) S q.2) 94 [some (2, x0), some (2, x1), some (0, x2), some (0, x3), some (0, x4), some (0, x5), some (0, (if q15 (q15 (q15 x0 1) 0) x2 = x3 then (w32 (x6 + 1) : Int) else x6)), some (0, (if q15 (q15 (q15 x0 1) 0) x2 = x3 then ((if x7 = (-2) then (x8 : Int) else x7) : Int) else x7)), some (0, x8)] [] q15 := by
    refine zG.blk (pc' := 97) (l' := [some (2, x0), some (2, x1), some (0, x2), some (0, x3), some (0, x4), some (0, x5), some (0, (if q15 (q15 (q15 x0 1) 0) x2 = x3 then (w32 (x6 + 1) : Int) else x6)), some (0, (if q15 (q15 (q15 x0 1) 0) x2 = x3 then ((if x7 = (-2) then (x8 : Int) else x7) : Int) else x7)), some (0, w32 (x8 + 1))]) (st' := []) (M' := q15) hX [(.iinc 8 1, 0, 0, 0)] (by decide +kernel) rfl trivial ?_
    refine zG.goto (tgt := 10) (off := (-87)) hX (by decide +kernel) (by decide) ?_
    exact (hk10 _ _ _ _ _ _ _ _ _ _ h)
  refine zG.icmp_ne (tgt := 94) (off := 22) hX (by decide +kernel) (by decide) (fun c21 => ?_) (fun c21 => ?_)
  · (have k := key20; simp only [if_neg c21] at k; exact k)
  · refine zG.blk (pc' := 82) (l' := [some (2, x0), some (2, x1), some (0, x2), some (0, x3), some (0, x4), some (0, x5), some (0, w32 (x6 + 1)), some (0, x7), some (0, x8)]) (st' := [(0, (-2)), (0, x7)]) (M' := q15) hX [(.iinc 6 1, 0, 0, 0), (.iload 7, 0, 0, 0), (.bipush (-2), 0, 0, 0)] (by decide +kernel) rfl trivial ?_
    refine zG.icmp_ne (tgt := 90) (off := 8) hX (by decide +kernel) (by decide) (fun c22 => ?_) (fun c22 => ?_)
    · refine zG.blk (pc' := 94) (l' := [some (2, x0), some (2, x1), some (0, x2), some (0, x3), some (0, x4), some (0, x5), some (0, w32 (x6 + 1)), some (0, x7), some (0, x8)]) (st' := []) (M' := q15) hX [(.iload 7, 0, 0, 0), (.istore 7, 0, 0, 0)] (by decide +kernel) rfl trivial ?_
      (have k := key20; simp only [if_pos c21, if_neg c22] at k; exact k)
    · refine zG.blk (pc' := 87) (l' := [some (2, x0), some (2, x1), some (0, x2), some (0, x3), some (0, x4), some (0, x5), some (0, w32 (x6 + 1)), some (0, x7), some (0, x8)]) (st' := [(0, x8)]) (M' := q15) hX [(.iload 8, 0, 0, 0)] (by decide +kernel) rfl trivial ?_
      refine zG.goto (tgt := 92) (off := 5) hX (by decide +kernel) (by decide) ?_
      refine zG.blk (pc' := 94) (l' := [some (2, x0), some (2, x1), some (0, x2), some (0, x3), some (0, x4), some (0, x5), some (0, w32 (x6 + 1)), some (0, x8), some (0, x8)]) (st' := []) (M' := q15) hX [(.istore 7, 0, 0, 0)] (by decide +kernel) rfl trivial ?_
      (have k := key20; simp only [if_pos c21, if_pos c22] at k; exact k)
noncomputable def pX1_beginnings_10 (S : ZS) : Nat → ZM → Int → Int → Int → Int → Int → Int → Int → Int → Int → Option (Int × ZM)
  | 0 => fun _ _ _ _ _ _ _ _ _ _ => none
  | n + 1 => fun M x0 x1 x2 x3 x4 x5 x6 x7 x8 => if S.1 x1 = 10 then if S.1 (M x1 0) = 9 then if M (M x1 0) 1 ≤ x8 then (some ((if x5 = 0 then (x6 : Int) else x7), M)) else (if S.1 x0 = 1 then if S.1 (M x0 1) = 6 then (pX6_copyFrom S M (M x0 1) (M x1 1)).bind fun q7 => if S.1 (q7 x0 1) = 6 then if S.1 (q7 (q7 x0 1) 0) = 100 ∧ (0 : Int) ≤ x2 ∧ x2 < S.2.1 (q7 (q7 x0 1) 0) then zlet (upM q7 (q7 (q7 x0 1) 0) x2 x8) fun M12 => pX1_beginnings_44 S (pX1_beginnings_10 S n) M12 x0 x1 x2 x3 x4 x5 x6 x7 x8 else none else none else none else none) else none else none
set_option maxHeartbeats 2000000 in
set_option maxRecDepth 20000 in
theorem pX1_beginnings_10_ok {C : ZC} {E : ZE} {S : ZS} {q : (Int × ZM)} (hX : zCx C E 1 cX1_beginnings 9 (some .int) false) (hRm : czR C = { frames := 6, cells := 0, slots := 0, locals := 164 }) : ∀ (n : Nat) (M : ZM) (x0 : Int) (x1 : Int) (x2 : Int) (x3 : Int) (x4 : Int) (x5 : Int) (x6 : Int) (x7 : Int) (x8 : Int), pX1_beginnings_10 S n M x0 x1 x2 x3 x4 x5 x6 x7 x8 = some q → zG C E 9 S 0 0 (zQ C E 0 0 (some (0, q.1)) S q.2) 10 [some (2, x0), some (2, x1), some (0, x2), some (0, x3), some (0, x4), some (0, x5), some (0, x6), some (0, x7), some (0, x8)] [] M := by
  intro n
  induction n with
  | zero => intro M x0 x1 x2 x3 x4 x5 x6 x7 x8 h; cases h
  | succ n ih =>
    intro M x0 x1 x2 x3 x4 x5 x6 x7 x8 h
    unfold pX1_beginnings_10 at h
    obtain ⟨g1, h⟩ := zif h
    obtain ⟨g2, h⟩ := zif h
    refine zG.blk (pc' := 19) (l' := [some (2, x0), some (2, x1), some (0, x2), some (0, x3), some (0, x4), some (0, x5), some (0, x6), some (0, x7), some (0, x8)]) (st' := [(0, M (M x1 0) 1), (0, x8)]) (M' := M) hX [(.iload 8, 0, 0, 0), (.aload_n 1, 0, 0, 0), (.getfield 48, 10, 0, 2), (.getfield 59, 9, 1, 0)] (by decide +kernel) rfl (And.intro g1 (And.intro g2 trivial)) ?_
    refine zG.icmp_ge (tgt := 100) (off := 81) hX (by decide +kernel) (by decide) (fun c3 => ?_) (fun c3 => ?_)
    · have h := zip c3 h
      refine zG.blk (pc' := 102) (l' := [some (2, x0), some (2, x1), some (0, x2), some (0, x3), some (0, x4), some (0, x5), some (0, x6), some (0, x7), some (0, x8)]) (st' := [(0, x5)]) (M' := M) hX [(.iload 5, 0, 0, 0)] (by decide +kernel) rfl trivial ?_
      have key4 : zG C E 9 S 0 0 (zQ C E 0 0 (some (0, q.1)) S q.2) 112 [some (2, x0), some (2, x1), some (0, x2), some (0, x3), some (0, x4), some (0, x5), some (0, x6), some (0, x7), some (0, x8)] [(0, (if x5 = 0 then (x6 : Int) else x7))] M := by
        cases h
        exact zG.iret hX (by decide +kernel)
      refine zG.if_ne (tgt := 110) (off := 8) hX (by decide +kernel) (by decide) (fun c5 => ?_) (fun c5 => ?_)
      · refine zG.blk (pc' := 112) (l' := [some (2, x0), some (2, x1), some (0, x2), some (0, x3), some (0, x4), some (0, x5), some (0, x6), some (0, x7), some (0, x8)]) (st' := [(0, x7)]) (M' := M) hX [(.iload 7, 0, 0, 0)] (by decide +kernel) rfl trivial ?_
        (have k := key4; simp only [if_neg c5] at k; exact k)
      · refine zG.blk (pc' := 107) (l' := [some (2, x0), some (2, x1), some (0, x2), some (0, x3), some (0, x4), some (0, x5), some (0, x6), some (0, x7), some (0, x8)]) (st' := [(0, x6)]) (M' := M) hX [(.iload 6, 0, 0, 0)] (by decide +kernel) rfl trivial ?_
        refine zG.goto (tgt := 112) (off := 5) hX (by decide +kernel) (by decide) ?_
        (have k := key4; simp only [if_pos c5] at k; exact k)
    · have h := zin c3 h
      obtain ⟨g6, h⟩ := zif h
      refine zG.blk (pc' := 30) (l' := [some (2, x0), some (2, x1), some (0, x2), some (0, x3), some (0, x4), some (0, x5), some (0, x6), some (0, x7), some (0, x8)]) (st' := [(2, M x1 1), (2, M x0 1)]) (M' := M) hX [(.aload_n 0, 0, 0, 0), (.getfield 21, 1, 1, 2), (.aload_n 1, 0, 0, 0), (.getfield 39, 10, 1, 2)] (by decide +kernel) rfl (And.intro g6 (And.intro g1 trivial)) ?_
      obtain ⟨g9, h⟩ := zif h
      obtain ⟨q7, e8, h⟩ := zbd h
      refine zG.callV (b := M x0 1) (av := [(2, M x1 1)]) (st := []) (ci := 6) hX (pX6_copyFrom_ok e8) sv_1_44 rfl ⟨by decide, rfl⟩ g9 (by decide +kernel) (by rw [hRm]; exact ⟨Nat.le_of_ble_eq_true rfl, Nat.le_of_ble_eq_true rfl⟩) (by rw [hRm]; exact ⟨Nat.le_of_ble_eq_true rfl, Nat.le_of_ble_eq_true rfl⟩) (Nat.le_of_ble_eq_true rfl) ?_
      show zG C E 9 S 0 0 _ 33 [some (2, x0), some (2, x1), some (0, x2), some (0, x3), some (0, x4), some (0, x5), some (0, x6), some (0, x7), some (0, x8)] [] q7
      obtain ⟨g10, h⟩ := zif h
      obtain ⟨g11, h⟩ := zif h
      refine zG.blk (pc' := 44) (l' := [some (2, x0), some (2, x1), some (0, x2), some (0, x3), some (0, x4), some (0, x5), some (0, x6), some (0, x7), some (0, x8)]) (st' := []) (M' := (upM q7 (q7 (q7 x0 1) 0) x2 x8)) hX [(.aload_n 0, 0, 0, 0), (.getfield 21, 1, 1, 2), (.getfield 96, 6, 0, 2), (.iload_n 2, 0, 0, 0), (.iload 8, 0, 0, 0), (.iastore, 0, 0, 0)] (by decide +kernel) rfl (And.intro g6 (And.intro g10 (And.intro g11 trivial))) ?_
      generalize upM q7 (q7 (q7 x0 1) 0) x2 x8 = M12 at h ⊢
      have h := zlt h
      exact (pX1_beginnings_44_ok hX hRm ih h)
noncomputable def pX1_beginnings (S : ZS) (M : ZM) (a0 : Int) (a1 : Int) (a2 : Int) (a3 : Int) (a4 : Int) (a5 : Int) : Option (Int × ZM) := pX1_beginnings_10 S zFU M a0 a1 a2 a3 a4 a5 0 (-2) 0
set_option maxHeartbeats 2000000 in
set_option maxRecDepth 20000 in
theorem pX1_beginnings_go {C : ZC} {E : ZE} {S : ZS} {M : ZM} {a0 a1 a2 a3 a4 a5 : Int} {q : (Int × ZM)} (hX : zCx C E 1 cX1_beginnings 9 (some .int) false) (hRm : czR C = { frames := 6, cells := 0, slots := 0, locals := 164 }) (h : pX1_beginnings  S M a0 a1 a2 a3 a4 a5 = some q) : zG C E 9 S 0 0 (zQ C E 0 0 (some (0, q.1)) S q.2) 0 [some (2, a0), some (2, a1), some (0, a2), some (0, a3), some (0, a4), some (0, a5), none, none, none] [] M := by
  unfold pX1_beginnings at h
  refine zG.blk (pc' := 10) (l' := [some (2, a0), some (2, a1), some (0, a2), some (0, a3), some (0, a4), some (0, a5), some (0, 0), some (0, (-2)), some (0, 0)]) (st' := []) (M' := M) hX [(.iconst 0, 0, 0, 0), (.istore 6, 0, 0, 0), (.bipush (-2), 0, 0, 0), (.istore 7, 0, 0, 0), (.iconst 0, 0, 0, 0), (.istore 8, 0, 0, 0)] (by decide +kernel) rfl trivial ?_
  exact (pX1_beginnings_10_ok hX hRm zFU _ _ _ _ _ _ _ _ _ _ h)
theorem pX1_beginnings_ok {l : Launch} {E : ZE} {S : ZS} {M : ZM} {a0 a1 a2 a3 a4 a5 : Int} {q : (Int × ZM)} (h : pX1_beginnings S M a0 a1 a2 a3 a4 a5 = some q) : zMet l yX1_beginnings cX1_beginnings 9 (some .int) 6 164 0 0 E S M [(2, a0), (2, a1), (0, a2), (0, a3), (0, a4), (0, a5)] (some (0, q.1)) S q.2 :=
  zMet.of (o := 1) (ini := false) (by decide +kernel) rfl (fun h => by cases h) (Nat.le_of_ble_eq_true rfl) (fun C hX hl hRm => by subst hl; exact pX1_beginnings_go hX hRm h)
noncomputable def pX6_like_42 (S : ZS) (k4 : ZM → Int → Int → Int → Int → Option (Int × ZM)) (M : ZM) (x0 : Int) (x1 : Int) (x2 : Int) (x3 : Int) (y0 : Int) (y1 : Int) : Option (Int × ZM) := k4 M x0 x1 (if y1 = y0 then (w32 (x2 + 1) : Int) else x2) (w32 (x3 + 1))
set_option maxHeartbeats 2000000 in
set_option maxRecDepth 20000 in
theorem pX6_like_42_ok {C : ZC} {E : ZE} {S : ZS} {k4 : ZM → Int → Int → Int → Int → Option (Int × ZM)} {q : (Int × ZM)} (hX : zCx C E 6 cX6_like 4 (some .int) false) (hRm : czR C = { frames := 1, cells := 0, slots := 0, locals := 40 }) (hk4 : ∀ M x0 x1 x2 x3, k4 M x0 x1 x2 x3 = some q → zG C E 4 S 0 0 (zQ C E 0 0 (some (0, q.1)) S q.2) 4 [some (2, x0), some (2, x1), some (0, x2), some (0, x3)] [] M) {M : ZM} {x0 : Int} {x1 : Int} {x2 : Int} {x3 : Int} {y0 : Int} {y1 : Int} (h : pX6_like_42 S k4 M x0 x1 x2 x3 y0 y1 = some q) : zG C E 4 S 0 0 (zQ C E 0 0 (some (0, q.1)) S q.2) 42 [some (2, x0), some (2, x1), some (0, x2), some (0, x3)] [(0, y0), (0, y1)] M := by
  unfold pX6_like_42 at h
  have key9 : zG C E 4 S 0 0 (zQ C E 0 0 (some (0, q.1)) S q.2) 48 [some (2, x0), some (2, x1), some (0, (if y1 = y0 then (w32 (x2 + 1) : Int) else x2)), some (0, x3)] [] M := by
    refine zG.blk (pc' := 51) (l' := [some (2, x0), some (2, x1), some (0, (if y1 = y0 then (w32 (x2 + 1) : Int) else x2)), some (0, w32 (x3 + 1))]) (st' := []) (M' := M) hX [(.iinc 3 1, 0, 0, 0)] (by decide +kernel) rfl trivial ?_
    refine zG.goto (tgt := 4) (off := (-47)) hX (by decide +kernel) (by decide) ?_
    exact (hk4 _ _ _ _ _ h)
  refine zG.icmp_ne (tgt := 48) (off := 6) hX (by decide +kernel) (by decide) (fun c10 => ?_) (fun c10 => ?_)
  · (have k := key9; simp only [if_neg c10] at k; exact k)
  · refine zG.blk (pc' := 48) (l' := [some (2, x0), some (2, x1), some (0, w32 (x2 + 1)), some (0, x3)]) (st' := []) (M' := M) hX [(.iinc 2 1, 0, 0, 0)] (by decide +kernel) rfl trivial ?_
    (have k := key9; simp only [if_pos c10] at k; exact k)
noncomputable def pX6_like_27 (S : ZS) (k4 : ZM → Int → Int → Int → Int → Option (Int × ZM)) (M : ZM) (x0 : Int) (x1 : Int) (x2 : Int) (x3 : Int) (y0 : Int) : Option (Int × ZM) := if S.1 x1 = 9 then if S.1 (M x1 9) = 100 ∧ (0 : Int) ≤ x3 ∧ x3 < S.2.1 (M x1 9) then pX6_like_42 S k4 M x0 x1 x2 x3 (if M (M x1 9) x3 = 1 then (1 : Int) else 0) y0 else none else none
set_option maxHeartbeats 2000000 in
set_option maxRecDepth 20000 in
theorem pX6_like_27_ok {C : ZC} {E : ZE} {S : ZS} {k4 : ZM → Int → Int → Int → Int → Option (Int × ZM)} {q : (Int × ZM)} (hX : zCx C E 6 cX6_like 4 (some .int) false) (hRm : czR C = { frames := 1, cells := 0, slots := 0, locals := 40 }) (hk4 : ∀ M x0 x1 x2 x3, k4 M x0 x1 x2 x3 = some q → zG C E 4 S 0 0 (zQ C E 0 0 (some (0, q.1)) S q.2) 4 [some (2, x0), some (2, x1), some (0, x2), some (0, x3)] [] M) {M : ZM} {x0 : Int} {x1 : Int} {x2 : Int} {x3 : Int} {y0 : Int} (h : pX6_like_27 S k4 M x0 x1 x2 x3 y0 = some q) : zG C E 4 S 0 0 (zQ C E 0 0 (some (0, q.1)) S q.2) 27 [some (2, x0), some (2, x1), some (0, x2), some (0, x3)] [(0, y0)] M := by
  unfold pX6_like_27 at h
  obtain ⟨g6, h⟩ := zif h
  obtain ⟨g7, h⟩ := zif h
  refine zG.blk (pc' := 34) (l' := [some (2, x0), some (2, x1), some (0, x2), some (0, x3)]) (st' := [(0, 1), (0, M (M x1 9) x3), (0, y0)]) (M' := M) hX [(.aload_n 1, 0, 0, 0), (.getfield 53, 9, 9, 2), (.iload_n 3, 0, 0, 0), (.iaload, 0, 0, 0), (.iconst 1, 0, 0, 0)] (by decide +kernel) rfl (And.intro g6 (And.intro g7 trivial)) ?_
  have key8 : zG C E 4 S 0 0 (zQ C E 0 0 (some (0, q.1)) S q.2) 42 [some (2, x0), some (2, x1), some (0, x2), some (0, x3)] [(0, (if M (M x1 9) x3 = 1 then (1 : Int) else 0)), (0, y0)] M := by
    exact (pX6_like_42_ok hX hRm hk4 h)
  refine zG.icmp_ne (tgt := 41) (off := 7) hX (by decide +kernel) (by decide) (fun c11 => ?_) (fun c11 => ?_)
  · refine zG.blk (pc' := 42) (l' := [some (2, x0), some (2, x1), some (0, x2), some (0, x3)]) (st' := [(0, 0), (0, y0)]) (M' := M) hX [(.iconst 0, 0, 0, 0)] (by decide +kernel) rfl trivial ?_
    (have k := key8; simp only [if_neg c11] at k; exact k)
  · refine zG.blk (pc' := 38) (l' := [some (2, x0), some (2, x1), some (0, x2), some (0, x3)]) (st' := [(0, 1), (0, y0)]) (M' := M) hX [(.iconst 1, 0, 0, 0)] (by decide +kernel) rfl trivial ?_
    refine zG.goto (tgt := 42) (off := 4) hX (by decide +kernel) (by decide) ?_
    (have k := key8; simp only [if_pos c11] at k; exact k)
noncomputable def pX6_like_4 (S : ZS) : Nat → ZM → Int → Int → Int → Int → Option (Int × ZM)
  | 0 => fun _ _ _ _ _ => none
  | n + 1 => fun M x0 x1 x2 x3 => if S.1 x1 = 9 then if M x1 1 ≤ x3 then (some (x2, M)) else (if S.1 x0 = 6 then if S.1 (M x0 2) = 100 ∧ (0 : Int) ≤ x3 ∧ x3 < S.2.1 (M x0 2) then pX6_like_27 S (pX6_like_4 S n) M x0 x1 x2 x3 (if M (M x0 2) x3 = (-1) then (0 : Int) else 1) else none else none) else none
set_option maxHeartbeats 2000000 in
set_option maxRecDepth 20000 in
theorem pX6_like_4_ok {C : ZC} {E : ZE} {S : ZS} {q : (Int × ZM)} (hX : zCx C E 6 cX6_like 4 (some .int) false) (hRm : czR C = { frames := 1, cells := 0, slots := 0, locals := 40 }) : ∀ (n : Nat) (M : ZM) (x0 : Int) (x1 : Int) (x2 : Int) (x3 : Int), pX6_like_4 S n M x0 x1 x2 x3 = some q → zG C E 4 S 0 0 (zQ C E 0 0 (some (0, q.1)) S q.2) 4 [some (2, x0), some (2, x1), some (0, x2), some (0, x3)] [] M := by
  intro n
  induction n with
  | zero => intro M x0 x1 x2 x3 h; cases h
  | succ n ih =>
    intro M x0 x1 x2 x3 h
    unfold pX6_like_4 at h
    obtain ⟨g1, h⟩ := zif h
    refine zG.blk (pc' := 9) (l' := [some (2, x0), some (2, x1), some (0, x2), some (0, x3)]) (st' := [(0, M x1 1), (0, x3)]) (M' := M) hX [(.iload_n 3, 0, 0, 0), (.aload_n 1, 0, 0, 0), (.getfield 50, 9, 1, 0)] (by decide +kernel) rfl (And.intro g1 trivial) ?_
    refine zG.icmp_ge (tgt := 54) (off := 45) hX (by decide +kernel) (by decide) (fun c2 => ?_) (fun c2 => ?_)
    · have h := zip c2 h
      refine zG.blk (pc' := 55) (l' := [some (2, x0), some (2, x1), some (0, x2), some (0, x3)]) (st' := [(0, x2)]) (M' := M) hX [(.iload_n 2, 0, 0, 0)] (by decide +kernel) rfl trivial ?_
      cases h
      exact zG.iret hX (by decide +kernel)
    · have h := zin c2 h
      obtain ⟨g3, h⟩ := zif h
      obtain ⟨g4, h⟩ := zif h
      refine zG.blk (pc' := 19) (l' := [some (2, x0), some (2, x1), some (0, x2), some (0, x3)]) (st' := [(0, (-1)), (0, M (M x0 2) x3)]) (M' := M) hX [(.aload_n 0, 0, 0, 0), (.getfield 18, 6, 2, 2), (.iload_n 3, 0, 0, 0), (.iaload, 0, 0, 0), (.iconst (-1), 0, 0, 0)] (by decide +kernel) rfl (And.intro g3 (And.intro g4 trivial)) ?_
      have key5 : zG C E 4 S 0 0 (zQ C E 0 0 (some (0, q.1)) S q.2) 27 [some (2, x0), some (2, x1), some (0, x2), some (0, x3)] [(0, (if M (M x0 2) x3 = (-1) then (0 : Int) else 1))] M := by
        exact (pX6_like_27_ok hX hRm ih h)
      refine zG.icmp_eq (tgt := 26) (off := 7) hX (by decide +kernel) (by decide) (fun c12 => ?_) (fun c12 => ?_)
      · refine zG.blk (pc' := 27) (l' := [some (2, x0), some (2, x1), some (0, x2), some (0, x3)]) (st' := [(0, 0)]) (M' := M) hX [(.iconst 0, 0, 0, 0)] (by decide +kernel) rfl trivial ?_
        (have k := key5; simp only [if_pos c12] at k; exact k)
      · refine zG.blk (pc' := 23) (l' := [some (2, x0), some (2, x1), some (0, x2), some (0, x3)]) (st' := [(0, 1)]) (M' := M) hX [(.iconst 1, 0, 0, 0)] (by decide +kernel) rfl trivial ?_
        refine zG.goto (tgt := 27) (off := 4) hX (by decide +kernel) (by decide) ?_
        (have k := key5; simp only [if_neg c12] at k; exact k)
noncomputable def pX6_like (S : ZS) (M : ZM) (a0 : Int) (a1 : Int) : Option (Int × ZM) := pX6_like_4 S zFU M a0 a1 0 0
set_option maxHeartbeats 2000000 in
set_option maxRecDepth 20000 in
theorem pX6_like_go {C : ZC} {E : ZE} {S : ZS} {M : ZM} {a0 a1 : Int} {q : (Int × ZM)} (hX : zCx C E 6 cX6_like 4 (some .int) false) (hRm : czR C = { frames := 1, cells := 0, slots := 0, locals := 40 }) (h : pX6_like  S M a0 a1 = some q) : zG C E 4 S 0 0 (zQ C E 0 0 (some (0, q.1)) S q.2) 0 [some (2, a0), some (2, a1), none, none] [] M := by
  unfold pX6_like at h
  refine zG.blk (pc' := 4) (l' := [some (2, a0), some (2, a1), some (0, 0), some (0, 0)]) (st' := []) (M' := M) hX [(.iconst 0, 0, 0, 0), (.istore_n 2, 0, 0, 0), (.iconst 0, 0, 0, 0), (.istore_n 3, 0, 0, 0)] (by decide +kernel) rfl trivial ?_
  exact (pX6_like_4_ok hX hRm zFU _ _ _ _ _ h)
theorem pX6_like_ok {l : Launch} {E : ZE} {S : ZS} {M : ZM} {a0 a1 : Int} {q : (Int × ZM)} (h : pX6_like S M a0 a1 = some q) : zMet l yX6_like cX6_like 4 (some .int) 1 40 0 0 E S M [(2, a0), (2, a1)] (some (0, q.1)) S q.2 :=
  zMet.of (o := 6) (ini := false) (by decide +kernel) rfl (fun h => by cases h) (Nat.le_of_ble_eq_true rfl) (fun C hX hl hRm => by subst hl; exact pX6_like_go hX hRm h)
theorem sk_9_49 : Cond.methodLink (zOwn 9) 49 arraycopyName ∈ gt := gt_at 658 (by decide +kernel) rfl
noncomputable def pX9_copyFrom_113 (S : ZS) (M : ZM) : Option ZM := some M
set_option maxHeartbeats 2000000 in
set_option maxRecDepth 20000 in
theorem pX9_copyFrom_113_ok {C : ZC} {E : ZE} {S : ZS} {q : ZM} (hX : zCx C E 9 cX9_copyFrom 2 none false) (hRm : czR C = { frames := 1, cells := 0, slots := 0, locals := 60 }) {M : ZM} (h : pX9_copyFrom_113 S M = some q) : zG C E 2 S 0 0 (zQ C E 0 0 none S q) 113 [none, none] [] M := by
  unfold pX9_copyFrom_113 at h
  cases h
  exact zG.vret hX (by decide +kernel)
noncomputable def pX9_copyFrom_98 (S : ZS) (M : ZM) (x0 : Int) (x1 : Int) : Option ZM := if S.1 x1 = 9 then if S.1 x0 = 9 then if S.1 (M x1 9) = 100 then if S.1 (M x0 9) = 100 then if (0 : Int) ≤ 36 ∧ 36 ≤ S.2.1 (M x1 9) ∧ 36 ≤ S.2.1 (M x0 9) then zlet (zCpy M (M x1 9) (M x0 9) 36) fun M37 => pX9_copyFrom_113 S M37 else none else none else none else none else none
set_option maxHeartbeats 2000000 in
set_option maxRecDepth 20000 in
theorem pX9_copyFrom_98_ok {C : ZC} {E : ZE} {S : ZS} {q : ZM} (hX : zCx C E 9 cX9_copyFrom 2 none false) (hRm : czR C = { frames := 1, cells := 0, slots := 0, locals := 60 }) {M : ZM} {x0 : Int} {x1 : Int} (h : pX9_copyFrom_98 S M x0 x1 = some q) : zG C E 2 S 0 0 (zQ C E 0 0 none S q) 98 [some (2, x0), some (2, x1)] [] M := by
  unfold pX9_copyFrom_98 at h
  obtain ⟨g32, h⟩ := zif h
  obtain ⟨g33, h⟩ := zif h
  refine zG.blk (pc' := 110) (l' := [some (2, x0), some (2, x1)]) (st' := [(0, 36), (0, 0), (2, M x0 9), (0, 0), (2, M x1 9)]) (M' := M) hX [(.aload_n 1, 0, 0, 0), (.getfield 24, 9, 9, 2), (.iconst 0, 0, 0, 0), (.aload_n 0, 0, 0, 0), (.getfield 24, 9, 9, 2), (.iconst 0, 0, 0, 0), (.bipush 36, 0, 0, 0)] (by decide +kernel) rfl (And.intro g32 (And.intro g33 trivial)) ?_
  obtain ⟨g34, h⟩ := zif h
  obtain ⟨g35, h⟩ := zif h
  obtain ⟨g36, h⟩ := zif h
  refine zG.copy hX sk_9_49 sk_1 sk_2 sk_3 (by decide +kernel) g34 g35 g36 (by rw [hRm]; exact ⟨Nat.le_of_ble_eq_true rfl, Nat.le_of_ble_eq_true rfl⟩) ?_
  show zG C E 2 S 0 0 _ 113 [some (2, x0), some (2, x1)] [] (zCpy M (M x1 9) (M x0 9) 36)
  generalize zCpy M (M x1 9) (M x0 9) 36 = M37 at h ⊢
  have h := zlt h
  exact zG.wk [false, false] (pX9_copyFrom_113_ok hX hRm h)
noncomputable def pX9_copyFrom_83 (S : ZS) (M : ZM) (x0 : Int) (x1 : Int) : Option ZM := if S.1 x1 = 9 then if S.1 x0 = 9 then if S.1 (M x1 8) = 100 then if S.1 (M x0 8) = 100 then if (0 : Int) ≤ 12 ∧ 12 ≤ S.2.1 (M x1 8) ∧ 12 ≤ S.2.1 (M x0 8) then zlet (zCpy M (M x1 8) (M x0 8) 12) fun M31 => pX9_copyFrom_98 S M31 x0 x1 else none else none else none else none else none
set_option maxHeartbeats 2000000 in
set_option maxRecDepth 20000 in
theorem pX9_copyFrom_83_ok {C : ZC} {E : ZE} {S : ZS} {q : ZM} (hX : zCx C E 9 cX9_copyFrom 2 none false) (hRm : czR C = { frames := 1, cells := 0, slots := 0, locals := 60 }) {M : ZM} {x0 : Int} {x1 : Int} (h : pX9_copyFrom_83 S M x0 x1 = some q) : zG C E 2 S 0 0 (zQ C E 0 0 none S q) 83 [some (2, x0), some (2, x1)] [] M := by
  unfold pX9_copyFrom_83 at h
  obtain ⟨g26, h⟩ := zif h
  obtain ⟨g27, h⟩ := zif h
  refine zG.blk (pc' := 95) (l' := [some (2, x0), some (2, x1)]) (st' := [(0, 12), (0, 0), (2, M x0 8), (0, 0), (2, M x1 8)]) (M' := M) hX [(.aload_n 1, 0, 0, 0), (.getfield 21, 9, 8, 2), (.iconst 0, 0, 0, 0), (.aload_n 0, 0, 0, 0), (.getfield 21, 9, 8, 2), (.iconst 0, 0, 0, 0), (.bipush 12, 0, 0, 0)] (by decide +kernel) rfl (And.intro g26 (And.intro g27 trivial)) ?_
  obtain ⟨g28, h⟩ := zif h
  obtain ⟨g29, h⟩ := zif h
  obtain ⟨g30, h⟩ := zif h
  refine zG.copy hX sk_9_49 sk_1 sk_2 sk_3 (by decide +kernel) g28 g29 g30 (by rw [hRm]; exact ⟨Nat.le_of_ble_eq_true rfl, Nat.le_of_ble_eq_true rfl⟩) ?_
  show zG C E 2 S 0 0 _ 98 [some (2, x0), some (2, x1)] [] (zCpy M (M x1 8) (M x0 8) 12)
  generalize zCpy M (M x1 8) (M x0 8) 12 = M31 at h ⊢
  have h := zlt h
  exact (pX9_copyFrom_98_ok hX hRm h)
noncomputable def pX9_copyFrom_68 (S : ZS) (M : ZM) (x0 : Int) (x1 : Int) : Option ZM := if S.1 x1 = 9 then if S.1 x0 = 9 then if S.1 (M x1 7) = 100 then if S.1 (M x0 7) = 100 then if (0 : Int) ≤ 12 ∧ 12 ≤ S.2.1 (M x1 7) ∧ 12 ≤ S.2.1 (M x0 7) then zlet (zCpy M (M x1 7) (M x0 7) 12) fun M25 => pX9_copyFrom_83 S M25 x0 x1 else none else none else none else none else none
set_option maxHeartbeats 2000000 in
set_option maxRecDepth 20000 in
theorem pX9_copyFrom_68_ok {C : ZC} {E : ZE} {S : ZS} {q : ZM} (hX : zCx C E 9 cX9_copyFrom 2 none false) (hRm : czR C = { frames := 1, cells := 0, slots := 0, locals := 60 }) {M : ZM} {x0 : Int} {x1 : Int} (h : pX9_copyFrom_68 S M x0 x1 = some q) : zG C E 2 S 0 0 (zQ C E 0 0 none S q) 68 [some (2, x0), some (2, x1)] [] M := by
  unfold pX9_copyFrom_68 at h
  obtain ⟨g20, h⟩ := zif h
  obtain ⟨g21, h⟩ := zif h
  refine zG.blk (pc' := 80) (l' := [some (2, x0), some (2, x1)]) (st' := [(0, 12), (0, 0), (2, M x0 7), (0, 0), (2, M x1 7)]) (M' := M) hX [(.aload_n 1, 0, 0, 0), (.getfield 18, 9, 7, 2), (.iconst 0, 0, 0, 0), (.aload_n 0, 0, 0, 0), (.getfield 18, 9, 7, 2), (.iconst 0, 0, 0, 0), (.bipush 12, 0, 0, 0)] (by decide +kernel) rfl (And.intro g20 (And.intro g21 trivial)) ?_
  obtain ⟨g22, h⟩ := zif h
  obtain ⟨g23, h⟩ := zif h
  obtain ⟨g24, h⟩ := zif h
  refine zG.copy hX sk_9_49 sk_1 sk_2 sk_3 (by decide +kernel) g22 g23 g24 (by rw [hRm]; exact ⟨Nat.le_of_ble_eq_true rfl, Nat.le_of_ble_eq_true rfl⟩) ?_
  show zG C E 2 S 0 0 _ 83 [some (2, x0), some (2, x1)] [] (zCpy M (M x1 7) (M x0 7) 12)
  generalize zCpy M (M x1 7) (M x0 7) 12 = M25 at h ⊢
  have h := zlt h
  exact (pX9_copyFrom_83_ok hX hRm h)
noncomputable def pX9_copyFrom_54 (S : ZS) (M : ZM) (x0 : Int) (x1 : Int) : Option ZM := if S.1 x1 = 9 then if S.1 x0 = 9 then if S.1 (M x1 6) = 100 then if S.1 (M x0 6) = 100 then if (0 : Int) ≤ 5 ∧ 5 ≤ S.2.1 (M x1 6) ∧ 5 ≤ S.2.1 (M x0 6) then zlet (zCpy M (M x1 6) (M x0 6) 5) fun M19 => pX9_copyFrom_68 S M19 x0 x1 else none else none else none else none else none
set_option maxHeartbeats 2000000 in
set_option maxRecDepth 20000 in
theorem pX9_copyFrom_54_ok {C : ZC} {E : ZE} {S : ZS} {q : ZM} (hX : zCx C E 9 cX9_copyFrom 2 none false) (hRm : czR C = { frames := 1, cells := 0, slots := 0, locals := 60 }) {M : ZM} {x0 : Int} {x1 : Int} (h : pX9_copyFrom_54 S M x0 x1 = some q) : zG C E 2 S 0 0 (zQ C E 0 0 none S q) 54 [some (2, x0), some (2, x1)] [] M := by
  unfold pX9_copyFrom_54 at h
  obtain ⟨g14, h⟩ := zif h
  obtain ⟨g15, h⟩ := zif h
  refine zG.blk (pc' := 65) (l' := [some (2, x0), some (2, x1)]) (st' := [(0, 5), (0, 0), (2, M x0 6), (0, 0), (2, M x1 6)]) (M' := M) hX [(.aload_n 1, 0, 0, 0), (.getfield 15, 9, 6, 2), (.iconst 0, 0, 0, 0), (.aload_n 0, 0, 0, 0), (.getfield 15, 9, 6, 2), (.iconst 0, 0, 0, 0), (.iconst 5, 0, 0, 0)] (by decide +kernel) rfl (And.intro g14 (And.intro g15 trivial)) ?_
  obtain ⟨g16, h⟩ := zif h
  obtain ⟨g17, h⟩ := zif h
  obtain ⟨g18, h⟩ := zif h
  refine zG.copy hX sk_9_49 sk_1 sk_2 sk_3 (by decide +kernel) g16 g17 g18 (by rw [hRm]; exact ⟨Nat.le_of_ble_eq_true rfl, Nat.le_of_ble_eq_true rfl⟩) ?_
  show zG C E 2 S 0 0 _ 68 [some (2, x0), some (2, x1)] [] (zCpy M (M x1 6) (M x0 6) 5)
  generalize zCpy M (M x1 6) (M x0 6) 5 = M19 at h ⊢
  have h := zlt h
  exact (pX9_copyFrom_68_ok hX hRm h)
noncomputable def pX9_copyFrom_32 (S : ZS) (M : ZM) (x0 : Int) (x1 : Int) : Option ZM := if S.1 x1 = 9 then if S.1 x0 = 9 then zlet (upM M x0 4 (M x1 4)) fun M9 => if S.1 (M9 x1 5) = 100 then if S.1 (M9 x0 5) = 100 then if (0 : Int) ≤ 5 ∧ 5 ≤ S.2.1 (M9 x1 5) ∧ 5 ≤ S.2.1 (M9 x0 5) then zlet (zCpy M9 (M9 x1 5) (M9 x0 5) 5) fun M13 => pX9_copyFrom_54 S M13 x0 x1 else none else none else none else none else none
set_option maxHeartbeats 2000000 in
set_option maxRecDepth 20000 in
theorem pX9_copyFrom_32_ok {C : ZC} {E : ZE} {S : ZS} {q : ZM} (hX : zCx C E 9 cX9_copyFrom 2 none false) (hRm : czR C = { frames := 1, cells := 0, slots := 0, locals := 60 }) {M : ZM} {x0 : Int} {x1 : Int} (h : pX9_copyFrom_32 S M x0 x1 = some q) : zG C E 2 S 0 0 (zQ C E 0 0 none S q) 32 [some (2, x0), some (2, x1)] [] M := by
  unfold pX9_copyFrom_32 at h
  obtain ⟨g7, h⟩ := zif h
  obtain ⟨g8, h⟩ := zif h
  refine zG.blk (pc' := 40) (l' := [some (2, x0), some (2, x1)]) (st' := []) (M' := (upM M x0 4 (M x1 4))) hX [(.aload_n 0, 0, 0, 0), (.aload_n 1, 0, 0, 0), (.getfield 40, 9, 4, 0), (.putfield 40, 9, 4, 0)] (by decide +kernel) rfl (And.intro g7 (And.intro g8 trivial)) ?_
  generalize upM M x0 4 (M x1 4) = M9 at h ⊢
  have h := zlt h
  refine zG.blk (pc' := 51) (l' := [some (2, x0), some (2, x1)]) (st' := [(0, 5), (0, 0), (2, M9 x0 5), (0, 0), (2, M9 x1 5)]) (M' := M9) hX [(.aload_n 1, 0, 0, 0), (.getfield 9, 9, 5, 2), (.iconst 0, 0, 0, 0), (.aload_n 0, 0, 0, 0), (.getfield 9, 9, 5, 2), (.iconst 0, 0, 0, 0), (.iconst 5, 0, 0, 0)] (by decide +kernel) rfl (And.intro g7 (And.intro g8 trivial)) ?_
  obtain ⟨g10, h⟩ := zif h
  obtain ⟨g11, h⟩ := zif h
  obtain ⟨g12, h⟩ := zif h
  refine zG.copy hX sk_9_49 sk_1 sk_2 sk_3 (by decide +kernel) g10 g11 g12 (by rw [hRm]; exact ⟨Nat.le_of_ble_eq_true rfl, Nat.le_of_ble_eq_true rfl⟩) ?_
  show zG C E 2 S 0 0 _ 54 [some (2, x0), some (2, x1)] [] (zCpy M9 (M9 x1 5) (M9 x0 5) 5)
  generalize zCpy M9 (M9 x1 5) (M9 x0 5) 5 = M13 at h ⊢
  have h := zlt h
  exact (pX9_copyFrom_54_ok hX hRm h)
noncomputable def pX9_copyFrom (S : ZS) (M : ZM) (a0 : Int) (a1 : Int) : Option ZM := if S.1 a1 = 9 then if S.1 a0 = 9 then zlet (upM M a0 0 (M a1 0)) fun M3 => zlet (upM M3 a0 1 (M3 a1 1)) fun M4 => zlet (upM M4 a0 2 (M4 a1 2)) fun M5 => zlet (upM M5 a0 3 (M5 a1 3)) fun M6 => pX9_copyFrom_32 S M6 a0 a1 else none else none
set_option maxHeartbeats 2000000 in
set_option maxRecDepth 20000 in
theorem pX9_copyFrom_go {C : ZC} {E : ZE} {S : ZS} {M : ZM} {a0 a1 : Int} {q : ZM} (hX : zCx C E 9 cX9_copyFrom 2 none false) (hRm : czR C = { frames := 1, cells := 0, slots := 0, locals := 60 }) (h : pX9_copyFrom  S M a0 a1 = some q) : zG C E 2 S 0 0 (zQ C E 0 0 none S q) 0 [some (2, a0), some (2, a1)] [] M := by
  unfold pX9_copyFrom at h
  obtain ⟨g1, h⟩ := zif h
  obtain ⟨g2, h⟩ := zif h
  refine zG.blk (pc' := 8) (l' := [some (2, a0), some (2, a1)]) (st' := []) (M' := (upM M a0 0 (M a1 0))) hX [(.aload_n 0, 0, 0, 0), (.aload_n 1, 0, 0, 0), (.getfield 27, 9, 0, 0), (.putfield 27, 9, 0, 0)] (by decide +kernel) rfl (And.intro g1 (And.intro g2 trivial)) ?_
  generalize upM M a0 0 (M a1 0) = M3 at h ⊢
  have h := zlt h
  refine zG.blk (pc' := 16) (l' := [some (2, a0), some (2, a1)]) (st' := []) (M' := (upM M3 a0 1 (M3 a1 1))) hX [(.aload_n 0, 0, 0, 0), (.aload_n 1, 0, 0, 0), (.getfield 31, 9, 1, 0), (.putfield 31, 9, 1, 0)] (by decide +kernel) rfl (And.intro g1 (And.intro g2 trivial)) ?_
  generalize upM M3 a0 1 (M3 a1 1) = M4 at h ⊢
  have h := zlt h
  refine zG.blk (pc' := 24) (l' := [some (2, a0), some (2, a1)]) (st' := []) (M' := (upM M4 a0 2 (M4 a1 2))) hX [(.aload_n 0, 0, 0, 0), (.aload_n 1, 0, 0, 0), (.getfield 34, 9, 2, 0), (.putfield 34, 9, 2, 0)] (by decide +kernel) rfl (And.intro g1 (And.intro g2 trivial)) ?_
  generalize upM M4 a0 2 (M4 a1 2) = M5 at h ⊢
  have h := zlt h
  refine zG.blk (pc' := 32) (l' := [some (2, a0), some (2, a1)]) (st' := []) (M' := (upM M5 a0 3 (M5 a1 3))) hX [(.aload_n 0, 0, 0, 0), (.aload_n 1, 0, 0, 0), (.getfield 37, 9, 3, 0), (.putfield 37, 9, 3, 0)] (by decide +kernel) rfl (And.intro g1 (And.intro g2 trivial)) ?_
  generalize upM M5 a0 3 (M5 a1 3) = M6 at h ⊢
  have h := zlt h
  exact (pX9_copyFrom_32_ok hX hRm h)
theorem pX9_copyFrom_ok {l : Launch} {E : ZE} {S : ZS} {M : ZM} {a0 a1 : Int} {q : ZM} (h : pX9_copyFrom S M a0 a1 = some q) : zMet l yX9_copyFrom cX9_copyFrom 2 none 1 60 0 0 E S M [(2, a0), (2, a1)] (none) S q :=
  zMet.of (o := 9) (ini := false) (by decide +kernel) rfl (fun h => by cases h) (Nat.le_of_ble_eq_true rfl) (fun C hX hl hRm => by subst hl; exact pX9_copyFrom_go hX hRm h)
noncomputable def pX9_exchangeWinds_54 (S : ZS) (M : ZM) : Option ZM := some M
set_option maxHeartbeats 2000000 in
set_option maxRecDepth 20000 in
theorem pX9_exchangeWinds_54_ok {C : ZC} {E : ZE} {S : ZS} {q : ZM} (hX : zCx C E 9 cX9_exchangeWinds 5 none false) (hRm : czR C = { frames := 1, cells := 0, slots := 0, locals := 40 }) {M : ZM} (h : pX9_exchangeWinds_54 S M = some q) : zG C E 5 S 0 0 (zQ C E 0 0 none S q) 54 [none, none, none, none, none] [] M := by
  unfold pX9_exchangeWinds_54 at h
  cases h
  exact zG.vret hX (by decide +kernel)
noncomputable def pX9_exchangeWinds_26 (S : ZS) (M : ZM) (x0 : Int) (x1 : Int) (x2 : Int) : Option ZM := if S.1 x0 = 9 then if S.1 (M x0 8) = 100 ∧ (0 : Int) ≤ x1 ∧ x1 < S.2.1 (M x0 8) then if S.1 (M x0 8) = 100 ∧ (0 : Int) ≤ x2 ∧ x2 < S.2.1 (M x0 8) then zlet (upM M (M x0 8) x1 (M (M x0 8) x2)) fun M10 => if S.1 (M10 x0 8) = 100 ∧ (0 : Int) ≤ x2 ∧ x2 < S.2.1 (M10 x0 8) then zlet (upM M10 (M10 x0 8) x2 (M (M x0 8) x1)) fun M12 => pX9_exchangeWinds_54 S M12 else none else none else none else none
set_option maxHeartbeats 2000000 in
set_option maxRecDepth 20000 in
theorem pX9_exchangeWinds_26_ok {C : ZC} {E : ZE} {S : ZS} {q : ZM} (hX : zCx C E 9 cX9_exchangeWinds 5 none false) (hRm : czR C = { frames := 1, cells := 0, slots := 0, locals := 40 }) {M : ZM} {x0 : Int} {x1 : Int} {x2 : Int} (h : pX9_exchangeWinds_26 S M x0 x1 x2 = some q) : zG C E 5 S 0 0 (zQ C E 0 0 none S q) 26 [some (2, x0), some (0, x1), some (0, x2), none, none] [] M := by
  unfold pX9_exchangeWinds_26 at h
  obtain ⟨g7, h⟩ := zif h
  obtain ⟨g8, h⟩ := zif h
  obtain ⟨g9, h⟩ := zif h
  refine zG.blk (pc' := 46) (l' := [some (2, x0), some (0, x1), some (0, x2), none, some (0, M (M x0 8) x1)]) (st' := []) (M' := (upM M (M x0 8) x1 (M (M x0 8) x2))) hX [(.aload_n 0, 0, 0, 0), (.getfield 21, 9, 8, 2), (.iload_n 1, 0, 0, 0), (.iaload, 0, 0, 0), (.istore 4, 0, 0, 0), (.aload_n 0, 0, 0, 0), (.getfield 21, 9, 8, 2), (.iload_n 1, 0, 0, 0), (.aload_n 0, 0, 0, 0), (.getfield 21, 9, 8, 2), (.iload_n 2, 0, 0, 0), (.iaload, 0, 0, 0), (.iastore, 0, 0, 0)] (by decide +kernel) rfl (And.intro g7 (And.intro g8 (And.intro g7 (And.intro g7 (And.intro g9 (And.intro g8 trivial)))))) ?_
  generalize upM M (M x0 8) x1 (M (M x0 8) x2) = M10 at h ⊢
  have h := zlt h
  obtain ⟨g11, h⟩ := zif h
  refine zG.blk (pc' := 54) (l' := [some (2, x0), some (0, x1), some (0, x2), none, some (0, M (M x0 8) x1)]) (st' := []) (M' := (upM M10 (M10 x0 8) x2 (M (M x0 8) x1))) hX [(.aload_n 0, 0, 0, 0), (.getfield 21, 9, 8, 2), (.iload_n 2, 0, 0, 0), (.iload 4, 0, 0, 0), (.iastore, 0, 0, 0)] (by decide +kernel) rfl (And.intro g7 (And.intro g11 trivial)) ?_
  generalize upM M10 (M10 x0 8) x2 (M (M x0 8) x1) = M12 at h ⊢
  have h := zlt h
  exact zG.wk [false, false, false, true, false] (pX9_exchangeWinds_54_ok hX hRm h)
noncomputable def pX9_exchangeWinds (S : ZS) (M : ZM) (a0 : Int) (a1 : Int) (a2 : Int) : Option ZM := if S.1 a0 = 9 then if S.1 (M a0 7) = 100 ∧ (0 : Int) ≤ a1 ∧ a1 < S.2.1 (M a0 7) then if S.1 (M a0 7) = 100 ∧ (0 : Int) ≤ a2 ∧ a2 < S.2.1 (M a0 7) then zlet (upM M (M a0 7) a1 (M (M a0 7) a2)) fun M4 => if S.1 (M4 a0 7) = 100 ∧ (0 : Int) ≤ a2 ∧ a2 < S.2.1 (M4 a0 7) then zlet (upM M4 (M4 a0 7) a2 (M (M a0 7) a1)) fun M6 => pX9_exchangeWinds_26 S M6 a0 a1 a2 else none else none else none else none
set_option maxHeartbeats 2000000 in
set_option maxRecDepth 20000 in
theorem pX9_exchangeWinds_go {C : ZC} {E : ZE} {S : ZS} {M : ZM} {a0 a1 a2 : Int} {q : ZM} (hX : zCx C E 9 cX9_exchangeWinds 5 none false) (hRm : czR C = { frames := 1, cells := 0, slots := 0, locals := 40 }) (h : pX9_exchangeWinds  S M a0 a1 a2 = some q) : zG C E 5 S 0 0 (zQ C E 0 0 none S q) 0 [some (2, a0), some (0, a1), some (0, a2), none, none] [] M := by
  unfold pX9_exchangeWinds at h
  obtain ⟨g1, h⟩ := zif h
  obtain ⟨g2, h⟩ := zif h
  obtain ⟨g3, h⟩ := zif h
  refine zG.blk (pc' := 19) (l' := [some (2, a0), some (0, a1), some (0, a2), some (0, M (M a0 7) a1), none]) (st' := []) (M' := (upM M (M a0 7) a1 (M (M a0 7) a2))) hX [(.aload_n 0, 0, 0, 0), (.getfield 18, 9, 7, 2), (.iload_n 1, 0, 0, 0), (.iaload, 0, 0, 0), (.istore_n 3, 0, 0, 0), (.aload_n 0, 0, 0, 0), (.getfield 18, 9, 7, 2), (.iload_n 1, 0, 0, 0), (.aload_n 0, 0, 0, 0), (.getfield 18, 9, 7, 2), (.iload_n 2, 0, 0, 0), (.iaload, 0, 0, 0), (.iastore, 0, 0, 0)] (by decide +kernel) rfl (And.intro g1 (And.intro g2 (And.intro g1 (And.intro g1 (And.intro g3 (And.intro g2 trivial)))))) ?_
  generalize upM M (M a0 7) a1 (M (M a0 7) a2) = M4 at h ⊢
  have h := zlt h
  obtain ⟨g5, h⟩ := zif h
  refine zG.blk (pc' := 26) (l' := [some (2, a0), some (0, a1), some (0, a2), some (0, M (M a0 7) a1), none]) (st' := []) (M' := (upM M4 (M4 a0 7) a2 (M (M a0 7) a1))) hX [(.aload_n 0, 0, 0, 0), (.getfield 18, 9, 7, 2), (.iload_n 2, 0, 0, 0), (.iload_n 3, 0, 0, 0), (.iastore, 0, 0, 0)] (by decide +kernel) rfl (And.intro g1 (And.intro g5 trivial)) ?_
  generalize upM M4 (M4 a0 7) a2 (M (M a0 7) a1) = M6 at h ⊢
  have h := zlt h
  exact zG.wk [true, true, true, false, true] (pX9_exchangeWinds_26_ok hX hRm h)
theorem pX9_exchangeWinds_ok {l : Launch} {E : ZE} {S : ZS} {M : ZM} {a0 a1 a2 : Int} {q : ZM} (h : pX9_exchangeWinds S M a0 a1 a2 = some q) : zMet l yX9_exchangeWinds cX9_exchangeWinds 5 none 1 40 0 0 E S M [(2, a0), (0, a1), (0, a2)] (none) S q :=
  zMet.of (o := 9) (ini := false) (by decide +kernel) rfl (fun h => by cases h) (Nat.le_of_ble_eq_true rfl) (fun C hX hl hRm => by subst hl; exact pX9_exchangeWinds_go hX hRm h)
theorem sv_1_99 : zSV 1 99 yX1_after cX1_after 4 (some (.object "SkySpire$Scene")) 3 := ⟨⟨gt_at 967 (by decide +kernel) rfl, gt_at 893 (by decide +kernel) rfl, gt_at 894 (by decide +kernel) rfl, gt_at 114 (by decide +kernel) rfl, gt_at 895 (by decide +kernel) rfl⟩, by decide +kernel, by decide +kernel, by decide +kernel⟩
theorem sv_1_55 : zSV 1 55 yX6_like cX6_like 4 (some .int) 1 := ⟨⟨gt_at 918 (by decide +kernel) rfl, gt_at 907 (by decide +kernel) rfl, gt_at 908 (by decide +kernel) rfl, gt_at 111 (by decide +kernel) rfl, gt_at 909 (by decide +kernel) rfl⟩, by decide +kernel, by decide +kernel, by decide +kernel⟩
theorem sv_1_103 : zSV 1 103 yX9_copyFrom cX9_copyFrom 2 none 1 := ⟨⟨gt_at 968 (by decide +kernel) rfl, gt_at 655 (by decide +kernel) rfl, gt_at 656 (by decide +kernel) rfl, gt_at 108 (by decide +kernel) rfl, gt_at 657 (by decide +kernel) rfl⟩, by decide +kernel, by decide +kernel, by decide +kernel⟩
theorem sv_1_109 : zSV 1 109 yX9_exchangeWinds cX9_exchangeWinds 5 none 2 := ⟨⟨gt_at 969 (by decide +kernel) rfl, gt_at 970 (by decide +kernel) rfl, gt_at 971 (by decide +kernel) rfl, gt_at 108 (by decide +kernel) rfl, gt_at 972 (by decide +kernel) rfl⟩, by decide +kernel, by decide +kernel, by decide +kernel⟩
noncomputable def pX1_bestChange_105 (S : ZS) (k36 : ZM → Int → Int → Int → Int → Int → Int → Int → Int → Int → Option (Int × ZM)) (k54 : ZM → Int → Int → Int → Int → Int → Int → Int → Int → Int → Int → Option (Int × ZM)) (M : ZM) (x0 : Int) (x1 : Int) (x2 : Int) (x3 : Int) (x4 : Int) (x5 : Int) (x6 : Int) (x7 : Int) (x8 : Int) (x9 : Int) : Option (Int × ZM) := if S.1 x0 = 1 then if S.1 (M x0 2) = 9 then (pX9_exchangeWinds S M (M x0 2) x8 x9).bind fun q30 => if S.1 (q30 x0 1) = 6 then (pX6_like S q30 (q30 x0 1) (q30 x0 2)).bind fun q33 => k54 q33.2 x0 x1 x2 x3 x4 (if q33.1 ≤ x5 then (x5 : Int) else q33.1) (if q33.1 ≤ x5 then (x6 : Int) else x8) (if q33.1 ≤ x5 then (x7 : Int) else x9) x8 (w32 (x9 + 1)) else none else none else none
set_option maxHeartbeats 2000000 in
set_option maxRecDepth 20000 in
theorem pX1_bestChange_105_ok {C : ZC} {E : ZE} {S : ZS} {k36 : ZM → Int → Int → Int → Int → Int → Int → Int → Int → Int → Option (Int × ZM)} {k54 : ZM → Int → Int → Int → Int → Int → Int → Int → Int → Int → Int → Option (Int × ZM)} {q : (Int × ZM)} (hX : zCx C E 1 cX1_bestChange 11 (some .int) false) (hRm : czR C = { frames := 7, cells := 0, slots := 0, locals := 187 }) (hk36 : ∀ M x0 x1 x2 x3 x4 x5 x6 x7 x8, k36 M x0 x1 x2 x3 x4 x5 x6 x7 x8 = some q → zG C E 11 S 0 0 (zQ C E 0 0 (some (0, q.1)) S q.2) 36 [some (2, x0), some (2, x1), some (2, x2), some (0, x3), some (0, x4), some (0, x5), some (0, x6), some (0, x7), some (0, x8), none, none] [] M) (hk54 : ∀ M x0 x1 x2 x3 x4 x5 x6 x7 x8 x9, k54 M x0 x1 x2 x3 x4 x5 x6 x7 x8 x9 = some q → zG C E 11 S 0 0 (zQ C E 0 0 (some (0, q.1)) S q.2) 54 [some (2, x0), some (2, x1), some (2, x2), some (0, x3), some (0, x4), some (0, x5), some (0, x6), some (0, x7), some (0, x8), some (0, x9), none] [] M) {M : ZM} {x0 : Int} {x1 : Int} {x2 : Int} {x3 : Int} {x4 : Int} {x5 : Int} {x6 : Int} {x7 : Int} {x8 : Int} {x9 : Int} (h : pX1_bestChange_105 S k36 k54 M x0 x1 x2 x3 x4 x5 x6 x7 x8 x9 = some q) : zG C E 11 S 0 0 (zQ C E 0 0 (some (0, q.1)) S q.2) 105 [some (2, x0), some (2, x1), some (2, x2), some (0, x3), some (0, x4), some (0, x5), some (0, x6), some (0, x7), some (0, x8), some (0, x9), none] [] M := by
  unfold pX1_bestChange_105 at h
  obtain ⟨g29, h⟩ := zif h
  refine zG.blk (pc' := 113) (l' := [some (2, x0), some (2, x1), some (2, x2), some (0, x3), some (0, x4), some (0, x5), some (0, x6), some (0, x7), some (0, x8), some (0, x9), none]) (st' := [(0, x9), (0, x8), (2, M x0 2)]) (M' := M) hX [(.aload_n 0, 0, 0, 0), (.getfield 28, 1, 2, 2), (.iload 8, 0, 0, 0), (.iload 9, 0, 0, 0)] (by decide +kernel) rfl (And.intro g29 trivial) ?_
  obtain ⟨g32, h⟩ := zif h
  obtain ⟨q30, e31, h⟩ := zbd h
  refine zG.callV (b := M x0 2) (av := [(0, x8), (0, x9)]) (st := []) (ci := 9) hX (pX9_exchangeWinds_ok e31) sv_1_109 rfl ⟨by decide, rfl⟩ g32 (by decide +kernel) (by rw [hRm]; exact ⟨Nat.le_of_ble_eq_true rfl, Nat.le_of_ble_eq_true rfl⟩) (by rw [hRm]; exact ⟨Nat.le_of_ble_eq_true rfl, Nat.le_of_ble_eq_true rfl⟩) (Nat.le_of_ble_eq_true rfl) ?_
  show zG C E 11 S 0 0 _ 116 [some (2, x0), some (2, x1), some (2, x2), some (0, x3), some (0, x4), some (0, x5), some (0, x6), some (0, x7), some (0, x8), some (0, x9), none] [] q30
  refine zG.blk (pc' := 124) (l' := [some (2, x0), some (2, x1), some (2, x2), some (0, x3), some (0, x4), some (0, x5), some (0, x6), some (0, x7), some (0, x8), some (0, x9), none]) (st' := [(2, q30 x0 2), (2, q30 x0 1)]) (M' := q30) hX [(.aload_n 0, 0, 0, 0), (.getfield 21, 1, 1, 2), (.aload_n 0, 0, 0, 0), (.getfield 28, 1, 2, 2)] (by decide +kernel) rfl (And.intro g29 (And.intro g29 trivial)) ?_
  obtain ⟨g35, h⟩ := zif h
  obtain ⟨q33, e34, h⟩ := zbd h
  refine zG.callV (b := q30 x0 1) (av := [(2, q30 x0 2)]) (st := []) (ci := 6) hX (pX6_like_ok e34) sv_1_55 rfl ⟨by decide, rfl⟩ g35 (by decide +kernel) (by rw [hRm]; exact ⟨Nat.le_of_ble_eq_true rfl, Nat.le_of_ble_eq_true rfl⟩) (by rw [hRm]; exact ⟨Nat.le_of_ble_eq_true rfl, Nat.le_of_ble_eq_true rfl⟩) (Nat.le_of_ble_eq_true rfl) ?_
  show zG C E 11 S 0 0 _ 127 [some (2, x0), some (2, x1), some (2, x2), some (0, x3), some (0, x4), some (0, x5), some (0, x6), some (0, x7), some (0, x8), some (0, x9), none] [(0, q33.1)] q33.2
  refine zG.blk (pc' := 133) (l' := [some (2, x0), some (2, x1), some (2, x2), some (0, x3), some (0, x4), some (0, x5), some (0, x6), some (0, x7), some (0, x8), some (0, x9), some (0, q33.1)]) (st' := [(0, x5), (0, q33.1)]) (M' := q33.2) hX [(.istore 10, 0, 0, 0), (.iload 10, 0, 0, 0), (.iload 5, 0, 0, 0)] (by decide +kernel) rfl trivial ?_
  have key36 : zG C E 11 S 0 0 (zQ C E 0 0 (some (0, q.1)) S q.2) 148 [some (2, x0), some (2, x1), some (2, x2), some (0, x3), some (0, x4), some (0, (if q33.1 ≤ x5 then (x5 : Int) else q33.1)), some (0, (if q33.1 ≤ x5 then (x6 : Int) else x8)), some (0, (if q33.1 ≤ x5 then (x7 : Int) else x9)), some (0, x8), some (0, x9), some (0, q33.1)] [] q33.2 := by
    refine zG.blk (pc' := 151) (l' := [some (2, x0), some (2, x1), some (2, x2), some (0, x3), some (0, x4), some (0, (if q33.1 ≤ x5 then (x5 : Int) else q33.1)), some (0, (if q33.1 ≤ x5 then (x6 : Int) else x8)), some (0, (if q33.1 ≤ x5 then (x7 : Int) else x9)), some (0, x8), some (0, w32 (x9 + 1)), some (0, q33.1)]) (st' := []) (M' := q33.2) hX [(.iinc 9 1, 0, 0, 0)] (by decide +kernel) rfl trivial ?_
    refine zG.goto (tgt := 54) (off := (-97)) hX (by decide +kernel) (by decide) ?_
    exact zG.wk [true, true, true, true, true, true, true, true, true, true, false] (hk54 _ _ _ _ _ _ _ _ _ _ _ h)
  refine zG.icmp_le (tgt := 148) (off := 15) hX (by decide +kernel) (by decide) (fun c37 => ?_) (fun c37 => ?_)
  · (have k := key36; simp only [if_pos c37] at k; exact k)
  · refine zG.blk (pc' := 148) (l' := [some (2, x0), some (2, x1), some (2, x2), some (0, x3), some (0, x4), some (0, q33.1), some (0, x8), some (0, x9), some (0, x8), some (0, x9), some (0, q33.1)]) (st' := []) (M' := q33.2) hX [(.iload 10, 0, 0, 0), (.istore 5, 0, 0, 0), (.iload 8, 0, 0, 0), (.istore 6, 0, 0, 0), (.iload 9, 0, 0, 0), (.istore 7, 0, 0, 0)] (by decide +kernel) rfl trivial ?_
    (have k := key36; simp only [if_neg c37] at k; exact k)
noncomputable def pX1_bestChange_54 (S : ZS) (k36 : ZM → Int → Int → Int → Int → Int → Int → Int → Int → Int → Option (Int × ZM)) : Nat → ZM → Int → Int → Int → Int → Int → Int → Int → Int → Int → Int → Option (Int × ZM)
  | 0 => fun _ _ _ _ _ _ _ _ _ _ _ => none
  | n + 1 => fun M x0 x1 x2 x3 x4 x5 x6 x7 x8 x9 => if S.1 x0 = 1 then if S.1 (M x0 2) = 9 then if M (M x0 2) 4 ≤ x9 then (k36 M x0 x1 x2 x3 x4 x5 x6 x7 (w32 (x8 + 1))) else ((pX9_exchangeWinds S M (M x0 2) x8 x9).bind fun q20 => if S.1 x1 = 10 then if S.1 (q20 x0 1) = 6 then (pX6_copyFrom S q20 (q20 x0 1) (q20 x1 1)).bind fun q23 => if S.1 (q23 x0 0) = 0 then (pX0_pass S q23 (q23 x0 0) (q23 x0 2) (q23 x0 1) x2 x3).bind fun q26 => pX1_bestChange_105 S k36 (pX1_bestChange_54 S k36 n) q26 x0 x1 x2 x3 x4 x5 x6 x7 x8 x9 else none else none else none) else none else none
set_option maxHeartbeats 2000000 in
set_option maxRecDepth 20000 in
theorem pX1_bestChange_54_ok {C : ZC} {E : ZE} {S : ZS} {k36 : ZM → Int → Int → Int → Int → Int → Int → Int → Int → Int → Option (Int × ZM)} {q : (Int × ZM)} (hX : zCx C E 1 cX1_bestChange 11 (some .int) false) (hRm : czR C = { frames := 7, cells := 0, slots := 0, locals := 187 }) (hk36 : ∀ M x0 x1 x2 x3 x4 x5 x6 x7 x8, k36 M x0 x1 x2 x3 x4 x5 x6 x7 x8 = some q → zG C E 11 S 0 0 (zQ C E 0 0 (some (0, q.1)) S q.2) 36 [some (2, x0), some (2, x1), some (2, x2), some (0, x3), some (0, x4), some (0, x5), some (0, x6), some (0, x7), some (0, x8), none, none] [] M) : ∀ (n : Nat) (M : ZM) (x0 : Int) (x1 : Int) (x2 : Int) (x3 : Int) (x4 : Int) (x5 : Int) (x6 : Int) (x7 : Int) (x8 : Int) (x9 : Int), pX1_bestChange_54 S k36 n M x0 x1 x2 x3 x4 x5 x6 x7 x8 x9 = some q → zG C E 11 S 0 0 (zQ C E 0 0 (some (0, q.1)) S q.2) 54 [some (2, x0), some (2, x1), some (2, x2), some (0, x3), some (0, x4), some (0, x5), some (0, x6), some (0, x7), some (0, x8), some (0, x9), none] [] M := by
  intro n
  induction n with
  | zero => intro M x0 x1 x2 x3 x4 x5 x6 x7 x8 x9 h; cases h
  | succ n ih =>
    intro M x0 x1 x2 x3 x4 x5 x6 x7 x8 x9 h
    unfold pX1_bestChange_54 at h
    obtain ⟨g17, h⟩ := zif h
    obtain ⟨g18, h⟩ := zif h
    refine zG.blk (pc' := 63) (l' := [some (2, x0), some (2, x1), some (2, x2), some (0, x3), some (0, x4), some (0, x5), some (0, x6), some (0, x7), some (0, x8), some (0, x9), none]) (st' := [(0, M (M x0 2) 4), (0, x9)]) (M' := M) hX [(.iload 9, 0, 0, 0), (.aload_n 0, 0, 0, 0), (.getfield 28, 1, 2, 2), (.getfield 106, 9, 4, 0)] (by decide +kernel) rfl (And.intro g17 (And.intro g18 trivial)) ?_
    refine zG.icmp_ge (tgt := 154) (off := 91) hX (by decide +kernel) (by decide) (fun c19 => ?_) (fun c19 => ?_)
    · have h := zip c19 h
      refine zG.blk (pc' := 157) (l' := [some (2, x0), some (2, x1), some (2, x2), some (0, x3), some (0, x4), some (0, x5), some (0, x6), some (0, x7), some (0, w32 (x8 + 1)), some (0, x9), none]) (st' := []) (M' := M) hX [(.iinc 8 1, 0, 0, 0)] (by decide +kernel) rfl trivial ?_
      refine zG.goto (tgt := 36) (off := (-121)) hX (by decide +kernel) (by decide) ?_
      exact zG.wk [true, true, true, true, true, true, true, true, true, false, true] (hk36 _ _ _ _ _ _ _ _ _ _ h)
    · have h := zin c19 h
      refine zG.blk (pc' := 74) (l' := [some (2, x0), some (2, x1), some (2, x2), some (0, x3), some (0, x4), some (0, x5), some (0, x6), some (0, x7), some (0, x8), some (0, x9), none]) (st' := [(0, x9), (0, x8), (2, M x0 2)]) (M' := M) hX [(.aload_n 0, 0, 0, 0), (.getfield 28, 1, 2, 2), (.iload 8, 0, 0, 0), (.iload 9, 0, 0, 0)] (by decide +kernel) rfl (And.intro g17 trivial) ?_
      obtain ⟨q20, e21, h⟩ := zbd h
      refine zG.callV (b := M x0 2) (av := [(0, x8), (0, x9)]) (st := []) (ci := 9) hX (pX9_exchangeWinds_ok e21) sv_1_109 rfl ⟨by decide, rfl⟩ g18 (by decide +kernel) (by rw [hRm]; exact ⟨Nat.le_of_ble_eq_true rfl, Nat.le_of_ble_eq_true rfl⟩) (by rw [hRm]; exact ⟨Nat.le_of_ble_eq_true rfl, Nat.le_of_ble_eq_true rfl⟩) (Nat.le_of_ble_eq_true rfl) ?_
      show zG C E 11 S 0 0 _ 77 [some (2, x0), some (2, x1), some (2, x2), some (0, x3), some (0, x4), some (0, x5), some (0, x6), some (0, x7), some (0, x8), some (0, x9), none] [] q20
      obtain ⟨g22, h⟩ := zif h
      refine zG.blk (pc' := 85) (l' := [some (2, x0), some (2, x1), some (2, x2), some (0, x3), some (0, x4), some (0, x5), some (0, x6), some (0, x7), some (0, x8), some (0, x9), none]) (st' := [(2, q20 x1 1), (2, q20 x0 1)]) (M' := q20) hX [(.aload_n 0, 0, 0, 0), (.getfield 21, 1, 1, 2), (.aload_n 1, 0, 0, 0), (.getfield 39, 10, 1, 2)] (by decide +kernel) rfl (And.intro g17 (And.intro g22 trivial)) ?_
      obtain ⟨g25, h⟩ := zif h
      obtain ⟨q23, e24, h⟩ := zbd h
      refine zG.callV (b := q20 x0 1) (av := [(2, q20 x1 1)]) (st := []) (ci := 6) hX (pX6_copyFrom_ok e24) sv_1_44 rfl ⟨by decide, rfl⟩ g25 (by decide +kernel) (by rw [hRm]; exact ⟨Nat.le_of_ble_eq_true rfl, Nat.le_of_ble_eq_true rfl⟩) (by rw [hRm]; exact ⟨Nat.le_of_ble_eq_true rfl, Nat.le_of_ble_eq_true rfl⟩) (Nat.le_of_ble_eq_true rfl) ?_
      show zG C E 11 S 0 0 _ 88 [some (2, x0), some (2, x1), some (2, x2), some (0, x3), some (0, x4), some (0, x5), some (0, x6), some (0, x7), some (0, x8), some (0, x9), none] [] q23
      refine zG.blk (pc' := 102) (l' := [some (2, x0), some (2, x1), some (2, x2), some (0, x3), some (0, x4), some (0, x5), some (0, x6), some (0, x7), some (0, x8), some (0, x9), none]) (st' := [(0, x3), (2, x2), (2, q23 x0 1), (2, q23 x0 2), (2, q23 x0 0)]) (M' := q23) hX [(.aload_n 0, 0, 0, 0), (.getfield 12, 1, 0, 2), (.aload_n 0, 0, 0, 0), (.getfield 28, 1, 2, 2), (.aload_n 0, 0, 0, 0), (.getfield 21, 1, 1, 2), (.aload_n 2, 0, 0, 0), (.iload_n 3, 0, 0, 0)] (by decide +kernel) rfl (And.intro g17 (And.intro g17 (And.intro g17 trivial))) ?_
      obtain ⟨g28, h⟩ := zif h
      obtain ⟨q26, e27, h⟩ := zbd h
      refine zG.callV (b := q23 x0 0) (av := [(2, q23 x0 2), (2, q23 x0 1), (2, x2), (0, x3)]) (st := []) (ci := 0) hX (pX0_pass_ok e27) sv_1_51 rfl ⟨by decide, rfl⟩ g28 (by decide +kernel) (by rw [hRm]; exact ⟨Nat.le_of_ble_eq_true rfl, Nat.le_of_ble_eq_true rfl⟩) (by rw [hRm]; exact ⟨Nat.le_of_ble_eq_true rfl, Nat.le_of_ble_eq_true rfl⟩) (Nat.le_of_ble_eq_true rfl) ?_
      show zG C E 11 S 0 0 _ 105 [some (2, x0), some (2, x1), some (2, x2), some (0, x3), some (0, x4), some (0, x5), some (0, x6), some (0, x7), some (0, x8), some (0, x9), none] [] q26
      exact (pX1_bestChange_105_ok hX hRm hk36 ih h)
noncomputable def pX1_bestChange_36 (S : ZS) : Nat → ZM → Int → Int → Int → Int → Int → Int → Int → Int → Int → Option (Int × ZM)
  | 0 => fun _ _ _ _ _ _ _ _ _ _ => none
  | n + 1 => fun M x0 x1 x2 x3 x4 x5 x6 x7 x8 => if S.1 x0 = 1 then if S.1 (M x0 2) = 9 then if M (M x0 2) 4 ≤ x8 then (some ((if x4 = 0 then (x5 : Int) else (if x4 = 1 then (x6 : Int) else x7)), M)) else (pX1_bestChange_54 S (pX1_bestChange_36 S n) zFU M x0 x1 x2 x3 x4 x5 x6 x7 x8 (w32 (x8 + 1))) else none else none
set_option maxHeartbeats 2000000 in
set_option maxRecDepth 20000 in
theorem pX1_bestChange_36_ok {C : ZC} {E : ZE} {S : ZS} {q : (Int × ZM)} (hX : zCx C E 1 cX1_bestChange 11 (some .int) false) (hRm : czR C = { frames := 7, cells := 0, slots := 0, locals := 187 }) : ∀ (n : Nat) (M : ZM) (x0 : Int) (x1 : Int) (x2 : Int) (x3 : Int) (x4 : Int) (x5 : Int) (x6 : Int) (x7 : Int) (x8 : Int), pX1_bestChange_36 S n M x0 x1 x2 x3 x4 x5 x6 x7 x8 = some q → zG C E 11 S 0 0 (zQ C E 0 0 (some (0, q.1)) S q.2) 36 [some (2, x0), some (2, x1), some (2, x2), some (0, x3), some (0, x4), some (0, x5), some (0, x6), some (0, x7), some (0, x8), none, none] [] M := by
  intro n
  induction n with
  | zero => intro M x0 x1 x2 x3 x4 x5 x6 x7 x8 h; cases h
  | succ n ih =>
    intro M x0 x1 x2 x3 x4 x5 x6 x7 x8 h
    unfold pX1_bestChange_36 at h
    obtain ⟨g11, h⟩ := zif h
    obtain ⟨g12, h⟩ := zif h
    refine zG.blk (pc' := 45) (l' := [some (2, x0), some (2, x1), some (2, x2), some (0, x3), some (0, x4), some (0, x5), some (0, x6), some (0, x7), some (0, x8), none, none]) (st' := [(0, M (M x0 2) 4), (0, x8)]) (M' := M) hX [(.iload 8, 0, 0, 0), (.aload_n 0, 0, 0, 0), (.getfield 28, 1, 2, 2), (.getfield 106, 9, 4, 0)] (by decide +kernel) rfl (And.intro g11 (And.intro g12 trivial)) ?_
    refine zG.icmp_ge (tgt := 160) (off := 115) hX (by decide +kernel) (by decide) (fun c13 => ?_) (fun c13 => ?_)
    · have h := zip c13 h
      refine zG.blk (pc' := 162) (l' := [some (2, x0), some (2, x1), some (2, x2), some (0, x3), some (0, x4), some (0, x5), some (0, x6), some (0, x7), some (0, x8), none, none]) (st' := [(0, x4)]) (M' := M) hX [(.iload 4, 0, 0, 0)] (by decide +kernel) rfl trivial ?_
      have key14 : zG C E 11 S 0 0 (zQ C E 0 0 (some (0, q.1)) S q.2) 183 [some (2, x0), some (2, x1), some (2, x2), some (0, x3), some (0, x4), some (0, x5), some (0, x6), some (0, x7), some (0, x8), none, none] [(0, (if x4 = 0 then (x5 : Int) else (if x4 = 1 then (x6 : Int) else x7)))] M := by
        cases h
        exact zG.iret hX (by decide +kernel)
      refine zG.if_ne (tgt := 170) (off := 8) hX (by decide +kernel) (by decide) (fun c15 => ?_) (fun c15 => ?_)
      · refine zG.blk (pc' := 173) (l' := [some (2, x0), some (2, x1), some (2, x2), some (0, x3), some (0, x4), some (0, x5), some (0, x6), some (0, x7), some (0, x8), none, none]) (st' := [(0, 1), (0, x4)]) (M' := M) hX [(.iload 4, 0, 0, 0), (.iconst 1, 0, 0, 0)] (by decide +kernel) rfl trivial ?_
        refine zG.icmp_ne (tgt := 181) (off := 8) hX (by decide +kernel) (by decide) (fun c16 => ?_) (fun c16 => ?_)
        · refine zG.blk (pc' := 183) (l' := [some (2, x0), some (2, x1), some (2, x2), some (0, x3), some (0, x4), some (0, x5), some (0, x6), some (0, x7), some (0, x8), none, none]) (st' := [(0, x7)]) (M' := M) hX [(.iload 7, 0, 0, 0)] (by decide +kernel) rfl trivial ?_
          (have k := key14; simp only [if_neg c15, if_neg c16] at k; exact k)
        · refine zG.blk (pc' := 178) (l' := [some (2, x0), some (2, x1), some (2, x2), some (0, x3), some (0, x4), some (0, x5), some (0, x6), some (0, x7), some (0, x8), none, none]) (st' := [(0, x6)]) (M' := M) hX [(.iload 6, 0, 0, 0)] (by decide +kernel) rfl trivial ?_
          refine zG.goto (tgt := 183) (off := 5) hX (by decide +kernel) (by decide) ?_
          (have k := key14; simp only [if_neg c15, if_pos c16] at k; exact k)
      · refine zG.blk (pc' := 167) (l' := [some (2, x0), some (2, x1), some (2, x2), some (0, x3), some (0, x4), some (0, x5), some (0, x6), some (0, x7), some (0, x8), none, none]) (st' := [(0, x5)]) (M' := M) hX [(.iload 5, 0, 0, 0)] (by decide +kernel) rfl trivial ?_
        refine zG.goto (tgt := 183) (off := 16) hX (by decide +kernel) (by decide) ?_
        (have k := key14; simp only [if_pos c15] at k; exact k)
    · have h := zin c13 h
      refine zG.blk (pc' := 54) (l' := [some (2, x0), some (2, x1), some (2, x2), some (0, x3), some (0, x4), some (0, x5), some (0, x6), some (0, x7), some (0, x8), some (0, w32 (x8 + 1)), none]) (st' := []) (M' := M) hX [(.iload 8, 0, 0, 0), (.iconst 1, 0, 0, 0), (.iadd, 0, 0, 0), (.istore 9, 0, 0, 0)] (by decide +kernel) rfl trivial ?_
      exact (pX1_bestChange_54_ok hX hRm ih zFU _ _ _ _ _ _ _ _ _ _ _ h)
noncomputable def pX1_bestChange_33 (S : ZS) (M : ZM) (x0 : Int) (x1 : Int) (x2 : Int) (x3 : Int) (x4 : Int) (x5 : Int) (x6 : Int) (x7 : Int) : Option (Int × ZM) := pX1_bestChange_36 S zFU M x0 x1 x2 x3 x4 x5 x6 x7 0
set_option maxHeartbeats 2000000 in
set_option maxRecDepth 20000 in
theorem pX1_bestChange_33_ok {C : ZC} {E : ZE} {S : ZS} {q : (Int × ZM)} (hX : zCx C E 1 cX1_bestChange 11 (some .int) false) (hRm : czR C = { frames := 7, cells := 0, slots := 0, locals := 187 }) {M : ZM} {x0 : Int} {x1 : Int} {x2 : Int} {x3 : Int} {x4 : Int} {x5 : Int} {x6 : Int} {x7 : Int} (h : pX1_bestChange_33 S M x0 x1 x2 x3 x4 x5 x6 x7 = some q) : zG C E 11 S 0 0 (zQ C E 0 0 (some (0, q.1)) S q.2) 33 [some (2, x0), some (2, x1), some (2, x2), some (0, x3), some (0, x4), some (0, x5), some (0, x6), some (0, x7), none, none, none] [] M := by
  unfold pX1_bestChange_33 at h
  refine zG.blk (pc' := 36) (l' := [some (2, x0), some (2, x1), some (2, x2), some (0, x3), some (0, x4), some (0, x5), some (0, x6), some (0, x7), some (0, 0), none, none]) (st' := []) (M' := M) hX [(.iconst 0, 0, 0, 0), (.istore 8, 0, 0, 0)] (by decide +kernel) rfl trivial ?_
  exact (pX1_bestChange_36_ok hX hRm zFU _ _ _ _ _ _ _ _ _ _ h)
noncomputable def pX1_bestChange (S : ZS) (M : ZM) (a0 : Int) (a1 : Int) (a2 : Int) (a3 : Int) (a4 : Int) : Option (Int × ZM) := if S.1 a0 = 1 then (pX1_after S M a0 a1 a2 a3).bind fun q1 => if S.1 a1 = 10 then if S.1 q1.1 = 6 then (pX6_like S q1.2 q1.1 (q1.2 a1 0)).bind fun q5 => if S.1 (q5.2 a0 2) = 9 then (pX9_copyFrom S q5.2 (q5.2 a0 2) (q5.2 a1 0)).bind fun q8 => pX1_bestChange_33 S q8 a0 a1 a2 a3 a4 q5.1 (-1) (-1) else none else none else none else none
set_option maxHeartbeats 2000000 in
set_option maxRecDepth 20000 in
theorem pX1_bestChange_go {C : ZC} {E : ZE} {S : ZS} {M : ZM} {a0 a1 a2 a3 a4 : Int} {q : (Int × ZM)} (hX : zCx C E 1 cX1_bestChange 11 (some .int) false) (hRm : czR C = { frames := 7, cells := 0, slots := 0, locals := 187 }) (h : pX1_bestChange  S M a0 a1 a2 a3 a4 = some q) : zG C E 11 S 0 0 (zQ C E 0 0 (some (0, q.1)) S q.2) 0 [some (2, a0), some (2, a1), some (2, a2), some (0, a3), some (0, a4), none, none, none, none, none, none] [] M := by
  unfold pX1_bestChange at h
  refine zG.blk (pc' := 4) (l' := [some (2, a0), some (2, a1), some (2, a2), some (0, a3), some (0, a4), none, none, none, none, none, none]) (st' := [(0, a3), (2, a2), (2, a1), (2, a0)]) (M' := M) hX [(.aload_n 0, 0, 0, 0), (.aload_n 1, 0, 0, 0), (.aload_n 2, 0, 0, 0), (.iload_n 3, 0, 0, 0)] (by decide +kernel) rfl trivial ?_
  obtain ⟨g3, h⟩ := zif h
  obtain ⟨q1, e2, h⟩ := zbd h
  refine zG.callV (b := a0) (av := [(2, a1), (2, a2), (0, a3)]) (st := []) (ci := 1) hX (pX1_after_ok e2) sv_1_99 rfl ⟨by decide, rfl⟩ g3 (by decide +kernel) (by rw [hRm]; exact ⟨Nat.le_of_ble_eq_true rfl, Nat.le_of_ble_eq_true rfl⟩) (by rw [hRm]; exact ⟨Nat.le_of_ble_eq_true rfl, Nat.le_of_ble_eq_true rfl⟩) (Nat.le_of_ble_eq_true rfl) ?_
  show zG C E 11 S 0 0 _ 7 [some (2, a0), some (2, a1), some (2, a2), some (0, a3), some (0, a4), none, none, none, none, none, none] [(2, q1.1)] q1.2
  obtain ⟨g4, h⟩ := zif h
  refine zG.blk (pc' := 11) (l' := [some (2, a0), some (2, a1), some (2, a2), some (0, a3), some (0, a4), none, none, none, none, none, none]) (st' := [(2, q1.2 a1 0), (2, q1.1)]) (M' := q1.2) hX [(.aload_n 1, 0, 0, 0), (.getfield 48, 10, 0, 2)] (by decide +kernel) rfl (And.intro g4 trivial) ?_
  obtain ⟨g7, h⟩ := zif h
  obtain ⟨q5, e6, h⟩ := zbd h
  refine zG.callV (b := q1.1) (av := [(2, q1.2 a1 0)]) (st := []) (ci := 6) hX (pX6_like_ok e6) sv_1_55 rfl ⟨by decide, rfl⟩ g7 (by decide +kernel) (by rw [hRm]; exact ⟨Nat.le_of_ble_eq_true rfl, Nat.le_of_ble_eq_true rfl⟩) (by rw [hRm]; exact ⟨Nat.le_of_ble_eq_true rfl, Nat.le_of_ble_eq_true rfl⟩) (Nat.le_of_ble_eq_true rfl) ?_
  show zG C E 11 S 0 0 _ 14 [some (2, a0), some (2, a1), some (2, a2), some (0, a3), some (0, a4), none, none, none, none, none, none] [(0, q5.1)] q5.2
  refine zG.blk (pc' := 30) (l' := [some (2, a0), some (2, a1), some (2, a2), some (0, a3), some (0, a4), some (0, q5.1), some (0, (-1)), some (0, (-1)), none, none, none]) (st' := [(2, q5.2 a1 0), (2, q5.2 a0 2)]) (M' := q5.2) hX [(.istore 5, 0, 0, 0), (.iconst (-1), 0, 0, 0), (.istore 6, 0, 0, 0), (.iconst (-1), 0, 0, 0), (.istore 7, 0, 0, 0), (.aload_n 0, 0, 0, 0), (.getfield 28, 1, 2, 2), (.aload_n 1, 0, 0, 0), (.getfield 48, 10, 0, 2)] (by decide +kernel) rfl (And.intro g3 (And.intro g4 trivial)) ?_
  obtain ⟨g10, h⟩ := zif h
  obtain ⟨q8, e9, h⟩ := zbd h
  refine zG.callV (b := q5.2 a0 2) (av := [(2, q5.2 a1 0)]) (st := []) (ci := 9) hX (pX9_copyFrom_ok e9) sv_1_103 rfl ⟨by decide, rfl⟩ g10 (by decide +kernel) (by rw [hRm]; exact ⟨Nat.le_of_ble_eq_true rfl, Nat.le_of_ble_eq_true rfl⟩) (by rw [hRm]; exact ⟨Nat.le_of_ble_eq_true rfl, Nat.le_of_ble_eq_true rfl⟩) (Nat.le_of_ble_eq_true rfl) ?_
  show zG C E 11 S 0 0 _ 33 [some (2, a0), some (2, a1), some (2, a2), some (0, a3), some (0, a4), some (0, q5.1), some (0, (-1)), some (0, (-1)), none, none, none] [] q8
  exact (pX1_bestChange_33_ok hX hRm h)
theorem pX1_bestChange_ok {l : Launch} {E : ZE} {S : ZS} {M : ZM} {a0 a1 a2 a3 a4 : Int} {q : (Int × ZM)} (h : pX1_bestChange S M a0 a1 a2 a3 a4 = some q) : zMet l yX1_bestChange cX1_bestChange 11 (some .int) 7 187 0 0 E S M [(2, a0), (2, a1), (2, a2), (0, a3), (0, a4)] (some (0, q.1)) S q.2 :=
  zMet.of (o := 1) (ini := false) (by decide +kernel) rfl (fun h => by cases h) (Nat.le_of_ble_eq_true rfl) (fun C hX hl hRm => by subst hl; exact pX1_bestChange_go hX hRm h)
theorem sv_1_74 : zSV 1 74 yX9_allPens cX9_allPens 1 (some .int) 0 := ⟨⟨gt_at 936 (by decide +kernel) rfl, gt_at 800 (by decide +kernel) rfl, gt_at 801 (by decide +kernel) rfl, gt_at 108 (by decide +kernel) rfl, gt_at 802 (by decide +kernel) rfl⟩, by decide +kernel, by decide +kernel, by decide +kernel⟩
noncomputable def pX1_bestStayed_106 (S : ZS) (k9 : ZM → Int → Int → Int → Int → Int → Int → Int → Int → Option (Int × ZM)) (M : ZM) (x0 : Int) (x1 : Int) (x2 : Int) (x3 : Int) (x4 : Int) (x5 : Int) (x6 : Int) (x7 : Int) : Option (Int × ZM) := k9 M x0 x1 x2 x3 x4 x5 x6 (w32 (x7 + 1))
set_option maxHeartbeats 2000000 in
set_option maxRecDepth 20000 in
theorem pX1_bestStayed_106_ok {C : ZC} {E : ZE} {S : ZS} {k9 : ZM → Int → Int → Int → Int → Int → Int → Int → Int → Option (Int × ZM)} {q : (Int × ZM)} (hX : zCx C E 1 cX1_bestStayed 9 (some .int) false) (hRm : czR C = { frames := 6, cells := 0, slots := 0, locals := 164 }) (hk9 : ∀ M x0 x1 x2 x3 x4 x5 x6 x7, k9 M x0 x1 x2 x3 x4 x5 x6 x7 = some q → zG C E 9 S 0 0 (zQ C E 0 0 (some (0, q.1)) S q.2) 9 [some (2, x0), some (2, x1), some (2, x2), some (0, x3), some (0, x4), some (0, x5), some (0, x6), some (0, x7), none] [] M) {M : ZM} {x0 : Int} {x1 : Int} {x2 : Int} {x3 : Int} {x4 : Int} {x5 : Int} {x6 : Int} {x7 : Int} (h : pX1_bestStayed_106 S k9 M x0 x1 x2 x3 x4 x5 x6 x7 = some q) : zG C E 9 S 0 0 (zQ C E 0 0 (some (0, q.1)) S q.2) 106 [some (2, x0), some (2, x1), some (2, x2), some (0, x3), some (0, x4), some (0, x5), some (0, x6), some (0, x7), none] [] M := by
  unfold pX1_bestStayed_106 at h
  refine zG.blk (pc' := 109) (l' := [some (2, x0), some (2, x1), some (2, x2), some (0, x3), some (0, x4), some (0, x5), some (0, x6), some (0, w32 (x7 + 1)), none]) (st' := []) (M' := M) hX [(.iinc 7 1, 0, 0, 0)] (by decide +kernel) rfl trivial ?_
  refine zG.goto (tgt := 9) (off := (-100)) hX (by decide +kernel) (by decide) ?_
  exact (hk9 _ _ _ _ _ _ _ _ _ h)
noncomputable def pX1_bestStayed_98 (S : ZS) (k9 : ZM → Int → Int → Int → Int → Int → Int → Int → Int → Option (Int × ZM)) (M : ZM) (x0 : Int) (x1 : Int) (x2 : Int) (x3 : Int) (x4 : Int) (x7 : Int) (x8 : Int) : Option (Int × ZM) := pX1_bestStayed_106 S k9 M x0 x1 x2 x3 x4 x7 x8 x7
set_option maxHeartbeats 2000000 in
set_option maxRecDepth 20000 in
theorem pX1_bestStayed_98_ok {C : ZC} {E : ZE} {S : ZS} {k9 : ZM → Int → Int → Int → Int → Int → Int → Int → Int → Option (Int × ZM)} {q : (Int × ZM)} (hX : zCx C E 1 cX1_bestStayed 9 (some .int) false) (hRm : czR C = { frames := 6, cells := 0, slots := 0, locals := 164 }) (hk9 : ∀ M x0 x1 x2 x3 x4 x5 x6 x7, k9 M x0 x1 x2 x3 x4 x5 x6 x7 = some q → zG C E 9 S 0 0 (zQ C E 0 0 (some (0, q.1)) S q.2) 9 [some (2, x0), some (2, x1), some (2, x2), some (0, x3), some (0, x4), some (0, x5), some (0, x6), some (0, x7), none] [] M) {M : ZM} {x0 : Int} {x1 : Int} {x2 : Int} {x3 : Int} {x4 : Int} {x7 : Int} {x8 : Int} (h : pX1_bestStayed_98 S k9 M x0 x1 x2 x3 x4 x7 x8 = some q) : zG C E 9 S 0 0 (zQ C E 0 0 (some (0, q.1)) S q.2) 98 [some (2, x0), some (2, x1), some (2, x2), some (0, x3), some (0, x4), none, none, some (0, x7), some (0, x8)] [] M := by
  unfold pX1_bestStayed_98 at h
  refine zG.blk (pc' := 106) (l' := [some (2, x0), some (2, x1), some (2, x2), some (0, x3), some (0, x4), some (0, x7), some (0, x8), some (0, x7), some (0, x8)]) (st' := []) (M' := M) hX [(.iload 7, 0, 0, 0), (.istore 5, 0, 0, 0), (.iload 8, 0, 0, 0), (.istore 6, 0, 0, 0)] (by decide +kernel) rfl trivial ?_
  exact zG.wk [true, true, true, true, true, true, true, true, false] (pX1_bestStayed_106_ok hX hRm hk9 h)
theorem ss_1_81 : zSS 1 81 yJ6_bitCount_0f7a4 cJ6_bitCount_0f7a4 1 (some .int) 1 := ⟨⟨gt_at 937 (by decide +kernel) rfl, gt_at 938 (by decide +kernel) rfl, gt_at 125 (by decide +kernel) rfl, gt_at 939 (by decide +kernel) rfl⟩, by decide +kernel, by decide +kernel, by decide +kernel⟩
noncomputable def pX1_bestStayed_58 (S : ZS) (k9 : ZM → Int → Int → Int → Int → Int → Int → Int → Int → Option (Int × ZM)) (M : ZM) (x0 : Int) (x1 : Int) (x2 : Int) (x3 : Int) (x4 : Int) (x5 : Int) (x6 : Int) (x7 : Int) : Option (Int × ZM) := if S.1 x0 = 1 then if S.1 x1 = 10 then if S.1 (M x0 1) = 6 then (pX6_like S M (M x0 1) (M x1 0)).bind fun q19 => if x6 < q19.1 then (pX1_bestStayed_98 S k9 q19.2 x0 x1 x2 x3 x4 x7 q19.1) else (if q19.1 = x6 then ((pJ6_bitCount_0f7a4 S q19.2 x7).bind fun q24 => (pJ6_bitCount_0f7a4 S q24.2 x5).bind fun q26 => if q26.1 ≤ q24.1 then (pX1_bestStayed_106 S k9 q26.2 x0 x1 x2 x3 x4 x5 x6 x7) else (pX1_bestStayed_98 S k9 q26.2 x0 x1 x2 x3 x4 x7 q19.1)) else (pX1_bestStayed_106 S k9 q19.2 x0 x1 x2 x3 x4 x5 x6 x7)) else none else none else none
set_option maxHeartbeats 2000000 in
set_option maxRecDepth 20000 in
theorem pX1_bestStayed_58_ok {C : ZC} {E : ZE} {S : ZS} {k9 : ZM → Int → Int → Int → Int → Int → Int → Int → Int → Option (Int × ZM)} {q : (Int × ZM)} (hX : zCx C E 1 cX1_bestStayed 9 (some .int) false) (hRm : czR C = { frames := 6, cells := 0, slots := 0, locals := 164 }) (hk9 : ∀ M x0 x1 x2 x3 x4 x5 x6 x7, k9 M x0 x1 x2 x3 x4 x5 x6 x7 = some q → zG C E 9 S 0 0 (zQ C E 0 0 (some (0, q.1)) S q.2) 9 [some (2, x0), some (2, x1), some (2, x2), some (0, x3), some (0, x4), some (0, x5), some (0, x6), some (0, x7), none] [] M) {M : ZM} {x0 : Int} {x1 : Int} {x2 : Int} {x3 : Int} {x4 : Int} {x5 : Int} {x6 : Int} {x7 : Int} (h : pX1_bestStayed_58 S k9 M x0 x1 x2 x3 x4 x5 x6 x7 = some q) : zG C E 9 S 0 0 (zQ C E 0 0 (some (0, q.1)) S q.2) 58 [some (2, x0), some (2, x1), some (2, x2), some (0, x3), some (0, x4), some (0, x5), some (0, x6), some (0, x7), none] [] M := by
  unfold pX1_bestStayed_58 at h
  obtain ⟨g17, h⟩ := zif h
  obtain ⟨g18, h⟩ := zif h
  refine zG.blk (pc' := 66) (l' := [some (2, x0), some (2, x1), some (2, x2), some (0, x3), some (0, x4), some (0, x5), some (0, x6), some (0, x7), none]) (st' := [(2, M x1 0), (2, M x0 1)]) (M' := M) hX [(.aload_n 0, 0, 0, 0), (.getfield 21, 1, 1, 2), (.aload_n 1, 0, 0, 0), (.getfield 48, 10, 0, 2)] (by decide +kernel) rfl (And.intro g17 (And.intro g18 trivial)) ?_
  obtain ⟨g21, h⟩ := zif h
  obtain ⟨q19, e20, h⟩ := zbd h
  refine zG.callV (b := M x0 1) (av := [(2, M x1 0)]) (st := []) (ci := 6) hX (pX6_like_ok e20) sv_1_55 rfl ⟨by decide, rfl⟩ g21 (by decide +kernel) (by rw [hRm]; exact ⟨Nat.le_of_ble_eq_true rfl, Nat.le_of_ble_eq_true rfl⟩) (by rw [hRm]; exact ⟨Nat.le_of_ble_eq_true rfl, Nat.le_of_ble_eq_true rfl⟩) (Nat.le_of_ble_eq_true rfl) ?_
  show zG C E 9 S 0 0 _ 69 [some (2, x0), some (2, x1), some (2, x2), some (0, x3), some (0, x4), some (0, x5), some (0, x6), some (0, x7), none] [(0, q19.1)] q19.2
  refine zG.blk (pc' := 75) (l' := [some (2, x0), some (2, x1), some (2, x2), some (0, x3), some (0, x4), some (0, x5), some (0, x6), some (0, x7), some (0, q19.1)]) (st' := [(0, x6), (0, q19.1)]) (M' := q19.2) hX [(.istore 8, 0, 0, 0), (.iload 8, 0, 0, 0), (.iload 6, 0, 0, 0)] (by decide +kernel) rfl trivial ?_
  refine zG.icmp_gt (tgt := 98) (off := 23) hX (by decide +kernel) (by decide) (fun c22 => ?_) (fun c22 => ?_)
  · have h := zip c22 h
    exact zG.wk [true, true, true, true, true, false, false, true, true] (pX1_bestStayed_98_ok hX hRm hk9 h)
  · have h := zin c22 h
    refine zG.blk (pc' := 82) (l' := [some (2, x0), some (2, x1), some (2, x2), some (0, x3), some (0, x4), some (0, x5), some (0, x6), some (0, x7), some (0, q19.1)]) (st' := [(0, x6), (0, q19.1)]) (M' := q19.2) hX [(.iload 8, 0, 0, 0), (.iload 6, 0, 0, 0)] (by decide +kernel) rfl trivial ?_
    refine zG.icmp_ne (tgt := 106) (off := 24) hX (by decide +kernel) (by decide) (fun c23 => ?_) (fun c23 => ?_)
    · have h := zin c23 h
      exact zG.wk [true, true, true, true, true, true, true, true, false] (pX1_bestStayed_106_ok hX hRm hk9 h)
    · have h := zip c23 h
      refine zG.blk (pc' := 87) (l' := [some (2, x0), some (2, x1), some (2, x2), some (0, x3), some (0, x4), some (0, x5), some (0, x6), some (0, x7), some (0, q19.1)]) (st' := [(0, x7)]) (M' := q19.2) hX [(.iload 7, 0, 0, 0)] (by decide +kernel) rfl trivial ?_
      obtain ⟨q24, e25, h⟩ := zbd h
      refine zG.callS (av := [(0, x7)]) (st := []) hX (pJ6_bitCount_0f7a4_ok e25) ss_1_81 rfl (by decide +kernel) (by rw [hRm]; exact ⟨Nat.le_of_ble_eq_true rfl, Nat.le_of_ble_eq_true rfl⟩) (by rw [hRm]; exact ⟨Nat.le_of_ble_eq_true rfl, Nat.le_of_ble_eq_true rfl⟩) (Nat.le_of_ble_eq_true rfl) ?_
      show zG C E 9 S 0 0 _ 90 [some (2, x0), some (2, x1), some (2, x2), some (0, x3), some (0, x4), some (0, x5), some (0, x6), some (0, x7), some (0, q19.1)] [(0, q24.1)] q24.2
      refine zG.blk (pc' := 92) (l' := [some (2, x0), some (2, x1), some (2, x2), some (0, x3), some (0, x4), some (0, x5), some (0, x6), some (0, x7), some (0, q19.1)]) (st' := [(0, x5), (0, q24.1)]) (M' := q24.2) hX [(.iload 5, 0, 0, 0)] (by decide +kernel) rfl trivial ?_
      obtain ⟨q26, e27, h⟩ := zbd h
      refine zG.callS (av := [(0, x5)]) (st := [(0, q24.1)]) hX (pJ6_bitCount_0f7a4_ok e27) ss_1_81 rfl (by decide +kernel) (by rw [hRm]; exact ⟨Nat.le_of_ble_eq_true rfl, Nat.le_of_ble_eq_true rfl⟩) (by rw [hRm]; exact ⟨Nat.le_of_ble_eq_true rfl, Nat.le_of_ble_eq_true rfl⟩) (Nat.le_of_ble_eq_true rfl) ?_
      show zG C E 9 S 0 0 _ 95 [some (2, x0), some (2, x1), some (2, x2), some (0, x3), some (0, x4), some (0, x5), some (0, x6), some (0, x7), some (0, q19.1)] [(0, q26.1), (0, q24.1)] q26.2
      refine zG.icmp_ge (tgt := 106) (off := 11) hX (by decide +kernel) (by decide) (fun c28 => ?_) (fun c28 => ?_)
      · have h := zip c28 h
        exact zG.wk [true, true, true, true, true, true, true, true, false] (pX1_bestStayed_106_ok hX hRm hk9 h)
      · have h := zin c28 h
        exact zG.wk [true, true, true, true, true, false, false, true, true] (pX1_bestStayed_98_ok hX hRm hk9 h)
noncomputable def pX1_bestStayed_9 (S : ZS) : Nat → ZM → Int → Int → Int → Int → Int → Int → Int → Int → Option (Int × ZM)
  | 0 => fun _ _ _ _ _ _ _ _ _ => none
  | n + 1 => fun M x0 x1 x2 x3 x4 x5 x6 x7 => if S.1 x1 = 10 then if S.1 (M x1 0) = 9 then (pX9_allPens S M (M x1 0)).bind fun q2 => if q2.1 < x7 then (some ((if x4 = 0 then (x5 : Int) else x6), q2.2)) else (if S.1 x0 = 1 then if S.1 (q2.2 x0 1) = 6 then (pX6_copyFrom S q2.2 (q2.2 x0 1) (q2.2 x1 1)).bind fun q9 => if S.1 (q9 x0 1) = 6 then zlet (upM q9 (q9 x0 1) 4 x7) fun M13 => if S.1 (M13 x0 0) = 0 then (pX0_pass S M13 (M13 x0 0) (M13 x1 0) (M13 x0 1) x2 x3).bind fun q14 => pX1_bestStayed_58 S (pX1_bestStayed_9 S n) q14 x0 x1 x2 x3 x4 x5 x6 x7 else none else none else none else none) else none else none
set_option maxHeartbeats 2000000 in
set_option maxRecDepth 20000 in
theorem pX1_bestStayed_9_ok {C : ZC} {E : ZE} {S : ZS} {q : (Int × ZM)} (hX : zCx C E 1 cX1_bestStayed 9 (some .int) false) (hRm : czR C = { frames := 6, cells := 0, slots := 0, locals := 164 }) : ∀ (n : Nat) (M : ZM) (x0 : Int) (x1 : Int) (x2 : Int) (x3 : Int) (x4 : Int) (x5 : Int) (x6 : Int) (x7 : Int), pX1_bestStayed_9 S n M x0 x1 x2 x3 x4 x5 x6 x7 = some q → zG C E 9 S 0 0 (zQ C E 0 0 (some (0, q.1)) S q.2) 9 [some (2, x0), some (2, x1), some (2, x2), some (0, x3), some (0, x4), some (0, x5), some (0, x6), some (0, x7), none] [] M := by
  intro n
  induction n with
  | zero => intro M x0 x1 x2 x3 x4 x5 x6 x7 h; cases h
  | succ n ih =>
    intro M x0 x1 x2 x3 x4 x5 x6 x7 h
    unfold pX1_bestStayed_9 at h
    obtain ⟨g1, h⟩ := zif h
    refine zG.blk (pc' := 15) (l' := [some (2, x0), some (2, x1), some (2, x2), some (0, x3), some (0, x4), some (0, x5), some (0, x6), some (0, x7), none]) (st' := [(2, M x1 0), (0, x7)]) (M' := M) hX [(.iload 7, 0, 0, 0), (.aload_n 1, 0, 0, 0), (.getfield 48, 10, 0, 2)] (by decide +kernel) rfl (And.intro g1 trivial) ?_
    obtain ⟨g4, h⟩ := zif h
    obtain ⟨q2, e3, h⟩ := zbd h
    refine zG.callV (b := M x1 0) (av := []) (st := [(0, x7)]) (ci := 9) hX (pX9_allPens_ok e3) sv_1_74 rfl ⟨by decide, rfl⟩ g4 (by decide +kernel) (by rw [hRm]; exact ⟨Nat.le_of_ble_eq_true rfl, Nat.le_of_ble_eq_true rfl⟩) (by rw [hRm]; exact ⟨Nat.le_of_ble_eq_true rfl, Nat.le_of_ble_eq_true rfl⟩) (Nat.le_of_ble_eq_true rfl) ?_
    show zG C E 9 S 0 0 _ 18 [some (2, x0), some (2, x1), some (2, x2), some (0, x3), some (0, x4), some (0, x5), some (0, x6), some (0, x7), none] [(0, q2.1), (0, x7)] q2.2
    refine zG.icmp_gt (tgt := 112) (off := 94) hX (by decide +kernel) (by decide) (fun c5 => ?_) (fun c5 => ?_)
    · have h := zip c5 h
      refine zG.blk (pc' := 114) (l' := [some (2, x0), some (2, x1), some (2, x2), some (0, x3), some (0, x4), some (0, x5), some (0, x6), some (0, x7), none]) (st' := [(0, x4)]) (M' := q2.2) hX [(.iload 4, 0, 0, 0)] (by decide +kernel) rfl trivial ?_
      have key6 : zG C E 9 S 0 0 (zQ C E 0 0 (some (0, q.1)) S q.2) 124 [some (2, x0), some (2, x1), some (2, x2), some (0, x3), some (0, x4), some (0, x5), some (0, x6), some (0, x7), none] [(0, (if x4 = 0 then (x5 : Int) else x6))] q2.2 := by
        cases h
        exact zG.iret hX (by decide +kernel)
      refine zG.if_ne (tgt := 122) (off := 8) hX (by decide +kernel) (by decide) (fun c7 => ?_) (fun c7 => ?_)
      · refine zG.blk (pc' := 124) (l' := [some (2, x0), some (2, x1), some (2, x2), some (0, x3), some (0, x4), some (0, x5), some (0, x6), some (0, x7), none]) (st' := [(0, x6)]) (M' := q2.2) hX [(.iload 6, 0, 0, 0)] (by decide +kernel) rfl trivial ?_
        (have k := key6; simp only [if_neg c7] at k; exact k)
      · refine zG.blk (pc' := 119) (l' := [some (2, x0), some (2, x1), some (2, x2), some (0, x3), some (0, x4), some (0, x5), some (0, x6), some (0, x7), none]) (st' := [(0, x5)]) (M' := q2.2) hX [(.iload 5, 0, 0, 0)] (by decide +kernel) rfl trivial ?_
        refine zG.goto (tgt := 124) (off := 5) hX (by decide +kernel) (by decide) ?_
        (have k := key6; simp only [if_pos c7] at k; exact k)
    · have h := zin c5 h
      obtain ⟨g8, h⟩ := zif h
      refine zG.blk (pc' := 29) (l' := [some (2, x0), some (2, x1), some (2, x2), some (0, x3), some (0, x4), some (0, x5), some (0, x6), some (0, x7), none]) (st' := [(2, q2.2 x1 1), (2, q2.2 x0 1)]) (M' := q2.2) hX [(.aload_n 0, 0, 0, 0), (.getfield 21, 1, 1, 2), (.aload_n 1, 0, 0, 0), (.getfield 39, 10, 1, 2)] (by decide +kernel) rfl (And.intro g8 (And.intro g1 trivial)) ?_
      obtain ⟨g11, h⟩ := zif h
      obtain ⟨q9, e10, h⟩ := zbd h
      refine zG.callV (b := q2.2 x0 1) (av := [(2, q2.2 x1 1)]) (st := []) (ci := 6) hX (pX6_copyFrom_ok e10) sv_1_44 rfl ⟨by decide, rfl⟩ g11 (by decide +kernel) (by rw [hRm]; exact ⟨Nat.le_of_ble_eq_true rfl, Nat.le_of_ble_eq_true rfl⟩) (by rw [hRm]; exact ⟨Nat.le_of_ble_eq_true rfl, Nat.le_of_ble_eq_true rfl⟩) (Nat.le_of_ble_eq_true rfl) ?_
      show zG C E 9 S 0 0 _ 32 [some (2, x0), some (2, x1), some (2, x2), some (0, x3), some (0, x4), some (0, x5), some (0, x6), some (0, x7), none] [] q9
      obtain ⟨g12, h⟩ := zif h
      refine zG.blk (pc' := 41) (l' := [some (2, x0), some (2, x1), some (2, x2), some (0, x3), some (0, x4), some (0, x5), some (0, x6), some (0, x7), none]) (st' := []) (M' := (upM q9 (q9 x0 1) 4 x7)) hX [(.aload_n 0, 0, 0, 0), (.getfield 21, 1, 1, 2), (.iload 7, 0, 0, 0), (.putfield 78, 6, 4, 0)] (by decide +kernel) rfl (And.intro g8 (And.intro g12 trivial)) ?_
      generalize upM q9 (q9 x0 1) 4 x7 = M13 at h ⊢
      have h := zlt h
      refine zG.blk (pc' := 55) (l' := [some (2, x0), some (2, x1), some (2, x2), some (0, x3), some (0, x4), some (0, x5), some (0, x6), some (0, x7), none]) (st' := [(0, x3), (2, x2), (2, M13 x0 1), (2, M13 x1 0), (2, M13 x0 0)]) (M' := M13) hX [(.aload_n 0, 0, 0, 0), (.getfield 12, 1, 0, 2), (.aload_n 1, 0, 0, 0), (.getfield 48, 10, 0, 2), (.aload_n 0, 0, 0, 0), (.getfield 21, 1, 1, 2), (.aload_n 2, 0, 0, 0), (.iload_n 3, 0, 0, 0)] (by decide +kernel) rfl (And.intro g8 (And.intro g1 (And.intro g8 trivial))) ?_
      obtain ⟨g16, h⟩ := zif h
      obtain ⟨q14, e15, h⟩ := zbd h
      refine zG.callV (b := M13 x0 0) (av := [(2, M13 x1 0), (2, M13 x0 1), (2, x2), (0, x3)]) (st := []) (ci := 0) hX (pX0_pass_ok e15) sv_1_51 rfl ⟨by decide, rfl⟩ g16 (by decide +kernel) (by rw [hRm]; exact ⟨Nat.le_of_ble_eq_true rfl, Nat.le_of_ble_eq_true rfl⟩) (by rw [hRm]; exact ⟨Nat.le_of_ble_eq_true rfl, Nat.le_of_ble_eq_true rfl⟩) (Nat.le_of_ble_eq_true rfl) ?_
      show zG C E 9 S 0 0 _ 58 [some (2, x0), some (2, x1), some (2, x2), some (0, x3), some (0, x4), some (0, x5), some (0, x6), some (0, x7), none] [] q14
      exact (pX1_bestStayed_58_ok hX hRm ih h)
noncomputable def pX1_bestStayed (S : ZS) (M : ZM) (a0 : Int) (a1 : Int) (a2 : Int) (a3 : Int) (a4 : Int) : Option (Int × ZM) := pX1_bestStayed_9 S zFU M a0 a1 a2 a3 a4 0 (-1) 0
set_option maxHeartbeats 2000000 in
set_option maxRecDepth 20000 in
theorem pX1_bestStayed_go {C : ZC} {E : ZE} {S : ZS} {M : ZM} {a0 a1 a2 a3 a4 : Int} {q : (Int × ZM)} (hX : zCx C E 1 cX1_bestStayed 9 (some .int) false) (hRm : czR C = { frames := 6, cells := 0, slots := 0, locals := 164 }) (h : pX1_bestStayed  S M a0 a1 a2 a3 a4 = some q) : zG C E 9 S 0 0 (zQ C E 0 0 (some (0, q.1)) S q.2) 0 [some (2, a0), some (2, a1), some (2, a2), some (0, a3), some (0, a4), none, none, none, none] [] M := by
  unfold pX1_bestStayed at h
  refine zG.blk (pc' := 9) (l' := [some (2, a0), some (2, a1), some (2, a2), some (0, a3), some (0, a4), some (0, 0), some (0, (-1)), some (0, 0), none]) (st' := []) (M' := M) hX [(.iconst 0, 0, 0, 0), (.istore 5, 0, 0, 0), (.iconst (-1), 0, 0, 0), (.istore 6, 0, 0, 0), (.iconst 0, 0, 0, 0), (.istore 7, 0, 0, 0)] (by decide +kernel) rfl trivial ?_
  exact (pX1_bestStayed_9_ok hX hRm zFU _ _ _ _ _ _ _ _ _ h)
theorem pX1_bestStayed_ok {l : Launch} {E : ZE} {S : ZS} {M : ZM} {a0 a1 a2 a3 a4 : Int} {q : (Int × ZM)} (h : pX1_bestStayed S M a0 a1 a2 a3 a4 = some q) : zMet l yX1_bestStayed cX1_bestStayed 9 (some .int) 6 164 0 0 E S M [(2, a0), (2, a1), (2, a2), (0, a3), (0, a4)] (some (0, q.1)) S q.2 :=
  zMet.of (o := 1) (ini := false) (by decide +kernel) rfl (fun h => by cases h) (Nat.le_of_ble_eq_true rfl) (fun C hX hl hRm => by subst hl; exact pX1_bestStayed_go hX hRm h)
noncomputable def pX1_drawnFrom (S : ZS) (M : ZM) (a0 : Int) : Option (Int × ZM) := some (w32 (zandl (w64 ((w64 (a0 * 1103515245)) + 12345)) 2147483647), M)
set_option maxHeartbeats 2000000 in
set_option maxRecDepth 20000 in
theorem pX1_drawnFrom_go {C : ZC} {E : ZE} {S : ZS} {M : ZM} {a0 : Int} {q : (Int × ZM)} (hX : zCx C E 1 cX1_drawnFrom 1 (some .int) false) (hRm : czR C = { frames := 1, cells := 0, slots := 0, locals := 40 }) (h : pX1_drawnFrom  S M a0 = some q) : zG C E 1 S 0 0 (zQ C E 0 0 (some (0, q.1)) S q.2) 0 [some (0, a0)] [] M := by
  unfold pX1_drawnFrom at h
  refine zG.blk (pc' := 15) (l' := [some (0, a0)]) (st' := [(0, w32 (zandl (w64 ((w64 (a0 * 1103515245)) + 12345)) 2147483647))]) (M' := M) hX [(.iload_n 0, 0, 0, 0), (.i2l, 0, 0, 0), (.ldc2_w 137, 1103515245, 0, 0), (.lmul, 0, 0, 0), (.ldc2_w 139, 12345, 0, 0), (.ladd, 0, 0, 0), (.ldc2_w 141, 2147483647, 0, 0), (.land, 0, 0, 0), (.l2i, 0, 0, 0)] (by decide +kernel) rfl trivial ?_
  cases h
  exact zG.iret hX (by decide +kernel)
theorem pX1_drawnFrom_ok {l : Launch} {E : ZE} {S : ZS} {M : ZM} {a0 : Int} {q : (Int × ZM)} (h : pX1_drawnFrom S M a0 = some q) : zMet l yX1_drawnFrom cX1_drawnFrom 1 (some .int) 1 40 0 0 E S M [(0, a0)] (some (0, q.1)) S q.2 :=
  zMet.of (o := 1) (ini := false) (by decide +kernel) rfl (fun h => by cases h) (Nat.le_of_ble_eq_true rfl) (fun C hX hl hRm => by subst hl; exact pX1_drawnFrom_go hX hRm h)
noncomputable def pX6_fillsMark_32 (S : ZS) (k2 : ZM → Int → Int → Int → Option (Int × ZM)) (M : ZM) (x0 : Int) (x1 : Int) (x2 : Int) : Option (Int × ZM) := k2 M x0 x1 (w32 (x2 + 1))
set_option maxHeartbeats 2000000 in
set_option maxRecDepth 20000 in
theorem pX6_fillsMark_32_ok {C : ZC} {E : ZE} {S : ZS} {k2 : ZM → Int → Int → Int → Option (Int × ZM)} {q : (Int × ZM)} (hX : zCx C E 6 cX6_fillsMark 3 (some .boolean) false) (hRm : czR C = { frames := 1, cells := 0, slots := 0, locals := 40 }) (hk2 : ∀ M x0 x1 x2, k2 M x0 x1 x2 = some q → zG C E 3 S 0 0 (zQ C E 0 0 (some (0, q.1)) S q.2) 2 [some (2, x0), some (2, x1), some (0, x2)] [] M) {M : ZM} {x0 : Int} {x1 : Int} {x2 : Int} (h : pX6_fillsMark_32 S k2 M x0 x1 x2 = some q) : zG C E 3 S 0 0 (zQ C E 0 0 (some (0, q.1)) S q.2) 32 [some (2, x0), some (2, x1), some (0, x2)] [] M := by
  unfold pX6_fillsMark_32 at h
  refine zG.blk (pc' := 35) (l' := [some (2, x0), some (2, x1), some (0, w32 (x2 + 1))]) (st' := []) (M' := M) hX [(.iinc 2 1, 0, 0, 0)] (by decide +kernel) rfl trivial ?_
  refine zG.goto (tgt := 2) (off := (-33)) hX (by decide +kernel) (by decide) ?_
  exact (hk2 _ _ _ _ h)
noncomputable def pX6_fillsMark_2 (S : ZS) : Nat → ZM → Int → Int → Int → Option (Int × ZM)
  | 0 => fun _ _ _ _ => none
  | n + 1 => fun M x0 x1 x2 => if S.1 x1 = 9 then if M x1 1 ≤ x2 then (some (1, M)) else (if S.1 (M x1 9) = 100 ∧ (0 : Int) ≤ x2 ∧ x2 < S.2.1 (M x1 9) then if M (M x1 9) x2 = 1 then (if S.1 x0 = 6 then if S.1 (M x0 2) = 100 ∧ (0 : Int) ≤ x2 ∧ x2 < S.2.1 (M x0 2) then if M (M x0 2) x2 = (-1) then (some (0, M)) else (pX6_fillsMark_32 S (pX6_fillsMark_2 S n) M x0 x1 x2) else none else none) else (pX6_fillsMark_32 S (pX6_fillsMark_2 S n) M x0 x1 x2) else none) else none
set_option maxHeartbeats 2000000 in
set_option maxRecDepth 20000 in
theorem pX6_fillsMark_2_ok {C : ZC} {E : ZE} {S : ZS} {q : (Int × ZM)} (hX : zCx C E 6 cX6_fillsMark 3 (some .boolean) false) (hRm : czR C = { frames := 1, cells := 0, slots := 0, locals := 40 }) : ∀ (n : Nat) (M : ZM) (x0 : Int) (x1 : Int) (x2 : Int), pX6_fillsMark_2 S n M x0 x1 x2 = some q → zG C E 3 S 0 0 (zQ C E 0 0 (some (0, q.1)) S q.2) 2 [some (2, x0), some (2, x1), some (0, x2)] [] M := by
  intro n
  induction n with
  | zero => intro M x0 x1 x2 h; cases h
  | succ n ih =>
    intro M x0 x1 x2 h
    unfold pX6_fillsMark_2 at h
    obtain ⟨g1, h⟩ := zif h
    refine zG.blk (pc' := 7) (l' := [some (2, x0), some (2, x1), some (0, x2)]) (st' := [(0, M x1 1), (0, x2)]) (M' := M) hX [(.iload_n 2, 0, 0, 0), (.aload_n 1, 0, 0, 0), (.getfield 50, 9, 1, 0)] (by decide +kernel) rfl (And.intro g1 trivial) ?_
    refine zG.icmp_ge (tgt := 38) (off := 31) hX (by decide +kernel) (by decide) (fun c2 => ?_) (fun c2 => ?_)
    · have h := zip c2 h
      refine zG.blk (pc' := 39) (l' := [some (2, x0), some (2, x1), some (0, x2)]) (st' := [(0, 1)]) (M' := M) hX [(.iconst 1, 0, 0, 0)] (by decide +kernel) rfl trivial ?_
      cases h
      exact zG.zret hX (by decide +kernel) (Or.inr rfl)
    · have h := zin c2 h
      obtain ⟨g3, h⟩ := zif h
      refine zG.blk (pc' := 17) (l' := [some (2, x0), some (2, x1), some (0, x2)]) (st' := [(0, 1), (0, M (M x1 9) x2)]) (M' := M) hX [(.aload_n 1, 0, 0, 0), (.getfield 53, 9, 9, 2), (.iload_n 2, 0, 0, 0), (.iaload, 0, 0, 0), (.iconst 1, 0, 0, 0)] (by decide +kernel) rfl (And.intro g1 (And.intro g3 trivial)) ?_
      refine zG.icmp_ne (tgt := 32) (off := 15) hX (by decide +kernel) (by decide) (fun c4 => ?_) (fun c4 => ?_)
      · have h := zin c4 h
        exact (pX6_fillsMark_32_ok hX hRm ih h)
      · have h := zip c4 h
        obtain ⟨g5, h⟩ := zif h
        obtain ⟨g6, h⟩ := zif h
        refine zG.blk (pc' := 27) (l' := [some (2, x0), some (2, x1), some (0, x2)]) (st' := [(0, (-1)), (0, M (M x0 2) x2)]) (M' := M) hX [(.aload_n 0, 0, 0, 0), (.getfield 18, 6, 2, 2), (.iload_n 2, 0, 0, 0), (.iaload, 0, 0, 0), (.iconst (-1), 0, 0, 0)] (by decide +kernel) rfl (And.intro g5 (And.intro g6 trivial)) ?_
        refine zG.icmp_ne (tgt := 32) (off := 5) hX (by decide +kernel) (by decide) (fun c7 => ?_) (fun c7 => ?_)
        · have h := zin c7 h
          exact (pX6_fillsMark_32_ok hX hRm ih h)
        · have h := zip c7 h
          refine zG.blk (pc' := 31) (l' := [some (2, x0), some (2, x1), some (0, x2)]) (st' := [(0, 0)]) (M' := M) hX [(.iconst 0, 0, 0, 0)] (by decide +kernel) rfl trivial ?_
          cases h
          exact zG.zret hX (by decide +kernel) (Or.inl rfl)
noncomputable def pX6_fillsMark (S : ZS) (M : ZM) (a0 : Int) (a1 : Int) : Option (Int × ZM) := pX6_fillsMark_2 S zFU M a0 a1 0
set_option maxHeartbeats 2000000 in
set_option maxRecDepth 20000 in
theorem pX6_fillsMark_go {C : ZC} {E : ZE} {S : ZS} {M : ZM} {a0 a1 : Int} {q : (Int × ZM)} (hX : zCx C E 6 cX6_fillsMark 3 (some .boolean) false) (hRm : czR C = { frames := 1, cells := 0, slots := 0, locals := 40 }) (h : pX6_fillsMark  S M a0 a1 = some q) : zG C E 3 S 0 0 (zQ C E 0 0 (some (0, q.1)) S q.2) 0 [some (2, a0), some (2, a1), none] [] M := by
  unfold pX6_fillsMark at h
  refine zG.blk (pc' := 2) (l' := [some (2, a0), some (2, a1), some (0, 0)]) (st' := []) (M' := M) hX [(.iconst 0, 0, 0, 0), (.istore_n 2, 0, 0, 0)] (by decide +kernel) rfl trivial ?_
  exact (pX6_fillsMark_2_ok hX hRm zFU _ _ _ _ h)
theorem pX6_fillsMark_ok {l : Launch} {E : ZE} {S : ZS} {M : ZM} {a0 a1 : Int} {q : (Int × ZM)} (h : pX6_fillsMark S M a0 a1 = some q) : zMet l yX6_fillsMark cX6_fillsMark 3 (some .boolean) 1 40 0 0 E S M [(2, a0), (2, a1)] (some (0, q.1)) S q.2 :=
  zMet.of (o := 6) (ini := false) (by decide +kernel) rfl (fun h => by cases h) (Nat.le_of_ble_eq_true rfl) (fun C hX hl hRm => by subst hl; exact pX6_fillsMark_go hX hRm h)
theorem sv_1_63 : zSV 1 63 yX6_fillsMark cX6_fillsMark 3 (some .boolean) 1 := ⟨⟨gt_at 919 (by decide +kernel) rfl, gt_at 920 (by decide +kernel) rfl, gt_at 921 (by decide +kernel) rfl, gt_at 111 (by decide +kernel) rfl, gt_at 922 (by decide +kernel) rfl⟩, by decide +kernel, by decide +kernel, by decide +kernel⟩
theorem sv_1_70 : zSV 1 70 yX0_one cX0_one 5 (some .int) 3 := ⟨⟨gt_at 923 (by decide +kernel) rfl, gt_at 796 (by decide +kernel) rfl, gt_at 797 (by decide +kernel) rfl, gt_at 113 (by decide +kernel) rfl, gt_at 798 (by decide +kernel) rfl⟩, by decide +kernel, by decide +kernel, by decide +kernel⟩
noncomputable def pX1_firstMark_65 (S : ZS) (k14 : ZM → Int → Int → Int → Int → Int → Option (Int × ZM)) (M : ZM) (x0 : Int) (x1 : Int) (x2 : Int) (x3 : Int) (x4 : Int) (y0 : Int) : Option (Int × ZM) := if y0 = 0 then (if S.1 x0 = 1 then if S.1 x1 = 10 then if S.1 (M x0 0) = 0 then (pX0_one S M (M x0 0) (M x1 0) (M x0 1) x2).bind fun q16 => k14 q16.2 x0 x1 x2 x3 (w32 (x4 + 1)) else none else none else none) else (if S.1 x0 = 1 then if S.1 (M x0 1) = 6 then some (M (M x0 1) 5, M) else none else none)
set_option maxHeartbeats 2000000 in
set_option maxRecDepth 20000 in
theorem pX1_firstMark_65_ok {C : ZC} {E : ZE} {S : ZS} {k14 : ZM → Int → Int → Int → Int → Int → Option (Int × ZM)} {q : (Int × ZM)} (hX : zCx C E 1 cX1_firstMark 6 (some .int) false) (hRm : czR C = { frames := 5, cells := 0, slots := 0, locals := 139 }) (hk14 : ∀ M x0 x1 x2 x3 x4, k14 M x0 x1 x2 x3 x4 = some q → zG C E 6 S 0 0 (zQ C E 0 0 (some (0, q.1)) S q.2) 14 [some (2, x0), some (2, x1), some (2, x2), some (0, x3), some (0, x4), none] [] M) {M : ZM} {x0 : Int} {x1 : Int} {x2 : Int} {x3 : Int} {x4 : Int} {y0 : Int} (h : pX1_firstMark_65 S k14 M x0 x1 x2 x3 x4 y0 = some q) : zG C E 6 S 0 0 (zQ C E 0 0 (some (0, q.1)) S q.2) 65 [some (2, x0), some (2, x1), some (2, x2), some (0, x3), some (0, x4), none] [(0, y0)] M := by
  unfold pX1_firstMark_65 at h
  refine zG.blk (pc' := 69) (l' := [some (2, x0), some (2, x1), some (2, x2), some (0, x3), some (0, x4), some (0, y0)]) (st' := [(0, y0)]) (M' := M) hX [(.istore 5, 0, 0, 0), (.iload 5, 0, 0, 0)] (by decide +kernel) rfl trivial ?_
  refine zG.if_eq (tgt := 80) (off := 11) hX (by decide +kernel) (by decide) (fun c13 => ?_) (fun c13 => ?_)
  · have h := zip c13 h
    obtain ⟨g14, h⟩ := zif h
    obtain ⟨g15, h⟩ := zif h
    refine zG.blk (pc' := 93) (l' := [some (2, x0), some (2, x1), some (2, x2), some (0, x3), some (0, x4), some (0, y0)]) (st' := [(2, x2), (2, M x0 1), (2, M x1 0), (2, M x0 0)]) (M' := M) hX [(.aload_n 0, 0, 0, 0), (.getfield 12, 1, 0, 2), (.aload_n 1, 0, 0, 0), (.getfield 48, 10, 0, 2), (.aload_n 0, 0, 0, 0), (.getfield 21, 1, 1, 2), (.aload_n 2, 0, 0, 0)] (by decide +kernel) rfl (And.intro g14 (And.intro g15 (And.intro g14 trivial))) ?_
    obtain ⟨g18, h⟩ := zif h
    obtain ⟨q16, e17, h⟩ := zbd h
    refine zG.callV (b := M x0 0) (av := [(2, M x1 0), (2, M x0 1), (2, x2)]) (st := []) (ci := 0) hX (pX0_one_ok e17) sv_1_70 rfl ⟨by decide, rfl⟩ g18 (by decide +kernel) (by rw [hRm]; exact ⟨Nat.le_of_ble_eq_true rfl, Nat.le_of_ble_eq_true rfl⟩) (by rw [hRm]; exact ⟨Nat.le_of_ble_eq_true rfl, Nat.le_of_ble_eq_true rfl⟩) (Nat.le_of_ble_eq_true rfl) ?_
    show zG C E 6 S 0 0 _ 96 [some (2, x0), some (2, x1), some (2, x2), some (0, x3), some (0, x4), some (0, y0)] [(0, q16.1)] q16.2
    refine zG.blk (pc' := 100) (l' := [some (2, x0), some (2, x1), some (2, x2), some (0, x3), some (0, w32 (x4 + 1)), some (0, y0)]) (st' := []) (M' := q16.2) hX [(.pop, 0, 0, 0), (.iinc 4 1, 0, 0, 0)] (by decide +kernel) rfl trivial ?_
    refine zG.goto (tgt := 14) (off := (-86)) hX (by decide +kernel) (by decide) ?_
    exact zG.wk [true, true, true, true, true, false] (hk14 _ _ _ _ _ _ h)
  · have h := zin c13 h
    obtain ⟨g19, h⟩ := zif h
    obtain ⟨g20, h⟩ := zif h
    refine zG.blk (pc' := 79) (l' := [some (2, x0), some (2, x1), some (2, x2), some (0, x3), some (0, x4), some (0, y0)]) (st' := [(0, M (M x0 1) 5)]) (M' := M) hX [(.aload_n 0, 0, 0, 0), (.getfield 21, 1, 1, 2), (.getfield 67, 6, 5, 0)] (by decide +kernel) rfl (And.intro g19 (And.intro g20 trivial)) ?_
    cases h
    exact zG.iret hX (by decide +kernel)
noncomputable def pX1_firstMark_14 (S : ZS) : Nat → ZM → Int → Int → Int → Int → Int → Option (Int × ZM)
  | 0 => fun _ _ _ _ _ _ => none
  | n + 1 => fun M x0 x1 x2 x3 x4 => if 100 ≤ x4 then (some ((-2), M)) else (if x3 = 0 then (if S.1 x0 = 1 then if S.1 x1 = 10 then if S.1 (M x0 1) = 6 then (pX6_fillsMark S M (M x0 1) (M x1 0)).bind fun q10 => pX1_firstMark_65 S (pX1_firstMark_14 S n) q10.2 x0 x1 x2 x3 x4 q10.1 else none else none else none) else (if S.1 x0 = 1 then if S.1 x1 = 10 then if S.1 (M x0 1) = 6 then (pX6_like S M (M x0 1) (M x1 0)).bind fun q23 => if S.1 (q23.2 x1 0) = 9 then if q23.1 = q23.2 (q23.2 x1 0) 1 then (pX1_firstMark_65 S (pX1_firstMark_14 S n) q23.2 x0 x1 x2 x3 x4 1) else (pX1_firstMark_65 S (pX1_firstMark_14 S n) q23.2 x0 x1 x2 x3 x4 0) else none else none else none else none))
set_option maxHeartbeats 2000000 in
set_option maxRecDepth 20000 in
theorem pX1_firstMark_14_ok {C : ZC} {E : ZE} {S : ZS} {q : (Int × ZM)} (hX : zCx C E 1 cX1_firstMark 6 (some .int) false) (hRm : czR C = { frames := 5, cells := 0, slots := 0, locals := 139 }) : ∀ (n : Nat) (M : ZM) (x0 : Int) (x1 : Int) (x2 : Int) (x3 : Int) (x4 : Int), pX1_firstMark_14 S n M x0 x1 x2 x3 x4 = some q → zG C E 6 S 0 0 (zQ C E 0 0 (some (0, q.1)) S q.2) 14 [some (2, x0), some (2, x1), some (2, x2), some (0, x3), some (0, x4), none] [] M := by
  intro n
  induction n with
  | zero => intro M x0 x1 x2 x3 x4 h; cases h
  | succ n ih =>
    intro M x0 x1 x2 x3 x4 h
    unfold pX1_firstMark_14 at h
    refine zG.blk (pc' := 18) (l' := [some (2, x0), some (2, x1), some (2, x2), some (0, x3), some (0, x4), none]) (st' := [(0, 100), (0, x4)]) (M' := M) hX [(.iload 4, 0, 0, 0), (.bipush 100, 0, 0, 0)] (by decide +kernel) rfl trivial ?_
    refine zG.icmp_ge (tgt := 103) (off := 85) hX (by decide +kernel) (by decide) (fun c6 => ?_) (fun c6 => ?_)
    · have h := zip c6 h
      refine zG.blk (pc' := 105) (l' := [some (2, x0), some (2, x1), some (2, x2), some (0, x3), some (0, x4), none]) (st' := [(0, (-2))]) (M' := M) hX [(.bipush (-2), 0, 0, 0)] (by decide +kernel) rfl trivial ?_
      cases h
      exact zG.iret hX (by decide +kernel)
    · have h := zin c6 h
      refine zG.blk (pc' := 22) (l' := [some (2, x0), some (2, x1), some (2, x2), some (0, x3), some (0, x4), none]) (st' := [(0, x3)]) (M' := M) hX [(.iload_n 3, 0, 0, 0)] (by decide +kernel) rfl trivial ?_
      refine zG.if_eq (tgt := 54) (off := 32) hX (by decide +kernel) (by decide) (fun c7 => ?_) (fun c7 => ?_)
      · have h := zip c7 h
        obtain ⟨g8, h⟩ := zif h
        obtain ⟨g9, h⟩ := zif h
        refine zG.blk (pc' := 62) (l' := [some (2, x0), some (2, x1), some (2, x2), some (0, x3), some (0, x4), none]) (st' := [(2, M x1 0), (2, M x0 1)]) (M' := M) hX [(.aload_n 0, 0, 0, 0), (.getfield 21, 1, 1, 2), (.aload_n 1, 0, 0, 0), (.getfield 48, 10, 0, 2)] (by decide +kernel) rfl (And.intro g8 (And.intro g9 trivial)) ?_
        obtain ⟨g12, h⟩ := zif h
        obtain ⟨q10, e11, h⟩ := zbd h
        refine zG.callV (b := M x0 1) (av := [(2, M x1 0)]) (st := []) (ci := 6) hX (pX6_fillsMark_ok e11) sv_1_63 rfl ⟨by decide, rfl⟩ g12 (by decide +kernel) (by rw [hRm]; exact ⟨Nat.le_of_ble_eq_true rfl, Nat.le_of_ble_eq_true rfl⟩) (by rw [hRm]; exact ⟨Nat.le_of_ble_eq_true rfl, Nat.le_of_ble_eq_true rfl⟩) (Nat.le_of_ble_eq_true rfl) ?_
        show zG C E 6 S 0 0 _ 65 [some (2, x0), some (2, x1), some (2, x2), some (0, x3), some (0, x4), none] [(0, q10.1)] q10.2
        exact (pX1_firstMark_65_ok hX hRm ih h)
      · have h := zin c7 h
        obtain ⟨g21, h⟩ := zif h
        obtain ⟨g22, h⟩ := zif h
        refine zG.blk (pc' := 33) (l' := [some (2, x0), some (2, x1), some (2, x2), some (0, x3), some (0, x4), none]) (st' := [(2, M x1 0), (2, M x0 1)]) (M' := M) hX [(.aload_n 0, 0, 0, 0), (.getfield 21, 1, 1, 2), (.aload_n 1, 0, 0, 0), (.getfield 48, 10, 0, 2)] (by decide +kernel) rfl (And.intro g21 (And.intro g22 trivial)) ?_
        obtain ⟨g25, h⟩ := zif h
        obtain ⟨q23, e24, h⟩ := zbd h
        refine zG.callV (b := M x0 1) (av := [(2, M x1 0)]) (st := []) (ci := 6) hX (pX6_like_ok e24) sv_1_55 rfl ⟨by decide, rfl⟩ g25 (by decide +kernel) (by rw [hRm]; exact ⟨Nat.le_of_ble_eq_true rfl, Nat.le_of_ble_eq_true rfl⟩) (by rw [hRm]; exact ⟨Nat.le_of_ble_eq_true rfl, Nat.le_of_ble_eq_true rfl⟩) (Nat.le_of_ble_eq_true rfl) ?_
        show zG C E 6 S 0 0 _ 36 [some (2, x0), some (2, x1), some (2, x2), some (0, x3), some (0, x4), none] [(0, q23.1)] q23.2
        obtain ⟨g26, h⟩ := zif h
        refine zG.blk (pc' := 43) (l' := [some (2, x0), some (2, x1), some (2, x2), some (0, x3), some (0, x4), none]) (st' := [(0, q23.2 (q23.2 x1 0) 1), (0, q23.1)]) (M' := q23.2) hX [(.aload_n 1, 0, 0, 0), (.getfield 48, 10, 0, 2), (.getfield 59, 9, 1, 0)] (by decide +kernel) rfl (And.intro g22 (And.intro g26 trivial)) ?_
        refine zG.icmp_ne (tgt := 50) (off := 7) hX (by decide +kernel) (by decide) (fun c27 => ?_) (fun c27 => ?_)
        · have h := zin c27 h
          refine zG.blk (pc' := 51) (l' := [some (2, x0), some (2, x1), some (2, x2), some (0, x3), some (0, x4), none]) (st' := [(0, 0)]) (M' := q23.2) hX [(.iconst 0, 0, 0, 0)] (by decide +kernel) rfl trivial ?_
          refine zG.goto (tgt := 65) (off := 14) hX (by decide +kernel) (by decide) ?_
          exact (pX1_firstMark_65_ok hX hRm ih h)
        · have h := zip c27 h
          refine zG.blk (pc' := 47) (l' := [some (2, x0), some (2, x1), some (2, x2), some (0, x3), some (0, x4), none]) (st' := [(0, 1)]) (M' := q23.2) hX [(.iconst 1, 0, 0, 0)] (by decide +kernel) rfl trivial ?_
          refine zG.goto (tgt := 65) (off := 18) hX (by decide +kernel) (by decide) ?_
          exact (pX1_firstMark_65_ok hX hRm ih h)
noncomputable def pX1_firstMark (S : ZS) (M : ZM) (a0 : Int) (a1 : Int) (a2 : Int) (a3 : Int) : Option (Int × ZM) := if S.1 a0 = 1 then if S.1 a1 = 10 then if S.1 (M a0 1) = 6 then (pX6_copyFrom S M (M a0 1) (M a1 1)).bind fun q3 => pX1_firstMark_14 S zFU q3 a0 a1 a2 a3 0 else none else none else none
set_option maxHeartbeats 2000000 in
set_option maxRecDepth 20000 in
theorem pX1_firstMark_go {C : ZC} {E : ZE} {S : ZS} {M : ZM} {a0 a1 a2 a3 : Int} {q : (Int × ZM)} (hX : zCx C E 1 cX1_firstMark 6 (some .int) false) (hRm : czR C = { frames := 5, cells := 0, slots := 0, locals := 139 }) (h : pX1_firstMark  S M a0 a1 a2 a3 = some q) : zG C E 6 S 0 0 (zQ C E 0 0 (some (0, q.1)) S q.2) 0 [some (2, a0), some (2, a1), some (2, a2), some (0, a3), none, none] [] M := by
  unfold pX1_firstMark at h
  obtain ⟨g1, h⟩ := zif h
  obtain ⟨g2, h⟩ := zif h
  refine zG.blk (pc' := 8) (l' := [some (2, a0), some (2, a1), some (2, a2), some (0, a3), none, none]) (st' := [(2, M a1 1), (2, M a0 1)]) (M' := M) hX [(.aload_n 0, 0, 0, 0), (.getfield 21, 1, 1, 2), (.aload_n 1, 0, 0, 0), (.getfield 39, 10, 1, 2)] (by decide +kernel) rfl (And.intro g1 (And.intro g2 trivial)) ?_
  obtain ⟨g5, h⟩ := zif h
  obtain ⟨q3, e4, h⟩ := zbd h
  refine zG.callV (b := M a0 1) (av := [(2, M a1 1)]) (st := []) (ci := 6) hX (pX6_copyFrom_ok e4) sv_1_44 rfl ⟨by decide, rfl⟩ g5 (by decide +kernel) (by rw [hRm]; exact ⟨Nat.le_of_ble_eq_true rfl, Nat.le_of_ble_eq_true rfl⟩) (by rw [hRm]; exact ⟨Nat.le_of_ble_eq_true rfl, Nat.le_of_ble_eq_true rfl⟩) (Nat.le_of_ble_eq_true rfl) ?_
  show zG C E 6 S 0 0 _ 11 [some (2, a0), some (2, a1), some (2, a2), some (0, a3), none, none] [] q3
  refine zG.blk (pc' := 14) (l' := [some (2, a0), some (2, a1), some (2, a2), some (0, a3), some (0, 0), none]) (st' := []) (M' := q3) hX [(.iconst 0, 0, 0, 0), (.istore 4, 0, 0, 0)] (by decide +kernel) rfl trivial ?_
  exact (pX1_firstMark_14_ok hX hRm zFU _ _ _ _ _ _ h)
theorem pX1_firstMark_ok {l : Launch} {E : ZE} {S : ZS} {M : ZM} {a0 a1 a2 a3 : Int} {q : (Int × ZM)} (h : pX1_firstMark S M a0 a1 a2 a3 = some q) : zMet l yX1_firstMark cX1_firstMark 6 (some .int) 5 139 0 0 E S M [(2, a0), (2, a1), (2, a2), (0, a3)] (some (0, q.1)) S q.2 :=
  zMet.of (o := 1) (ini := false) (by decide +kernel) rfl (fun h => by cases h) (Nat.le_of_ble_eq_true rfl) (fun C hX hl hRm => by subst hl; exact pX1_firstMark_go hX hRm h)
noncomputable def pX1_isRest_49 (S : ZS) (M : ZM) : Option (Int × ZM) := some (0, M)
set_option maxHeartbeats 2000000 in
set_option maxRecDepth 20000 in
theorem pX1_isRest_49_ok {C : ZC} {E : ZE} {S : ZS} {q : (Int × ZM)} (hX : zCx C E 1 cX1_isRest 3 (some .boolean) false) (hRm : czR C = { frames := 1, cells := 0, slots := 0, locals := 40 }) {M : ZM} (h : pX1_isRest_49 S M = some q) : zG C E 3 S 0 0 (zQ C E 0 0 (some (0, q.1)) S q.2) 49 [none, none, none] [] M := by
  unfold pX1_isRest_49 at h
  refine zG.blk (pc' := 50) (l' := [none, none, none]) (st' := [(0, 0)]) (M' := M) hX [(.iconst 0, 0, 0, 0)] (by decide +kernel) rfl trivial ?_
  cases h
  exact zG.zret hX (by decide +kernel) (Or.inl rfl)
noncomputable def pX1_isRest_2 (S : ZS) : Nat → ZM → Int → Int → Int → Option (Int × ZM)
  | 0 => fun _ _ _ _ => none
  | n + 1 => fun M x0 x1 x2 => if 4 ≤ x2 then (some (1, M)) else (if S.1 x0 = 1 then if S.1 (M x0 3) = 100 ∧ (0 : Int) ≤ w32 ((w32 (x2 * 4)) + (Int.tmod x1 4)) ∧ w32 ((w32 (x2 * 4)) + (Int.tmod x1 4)) < S.2.1 (M x0 3) then if S.1 (M x0 3) = 100 ∧ (0 : Int) ≤ x1 ∧ x1 < S.2.1 (M x0 3) then if M (M x0 3) x1 < M (M x0 3) (w32 ((w32 (x2 * 4)) + (Int.tmod x1 4))) then (pX1_isRest_49 S M) else (if S.1 (M x0 4) = 100 ∧ (0 : Int) ≤ w32 ((w32 ((w32 (Int.tdiv x1 4)) * 4)) + x2) ∧ w32 ((w32 ((w32 (Int.tdiv x1 4)) * 4)) + x2) < S.2.1 (M x0 4) then if S.1 (M x0 4) = 100 ∧ (0 : Int) ≤ x1 ∧ x1 < S.2.1 (M x0 4) then if M (M x0 4) (w32 ((w32 ((w32 (Int.tdiv x1 4)) * 4)) + x2)) ≤ M (M x0 4) x1 then (pX1_isRest_2 S n M x0 x1 (w32 (x2 + 1))) else (pX1_isRest_49 S M) else none else none) else none else none else none)
set_option maxHeartbeats 2000000 in
set_option maxRecDepth 20000 in
theorem pX1_isRest_2_ok {C : ZC} {E : ZE} {S : ZS} {q : (Int × ZM)} (hX : zCx C E 1 cX1_isRest 3 (some .boolean) false) (hRm : czR C = { frames := 1, cells := 0, slots := 0, locals := 40 }) : ∀ (n : Nat) (M : ZM) (x0 : Int) (x1 : Int) (x2 : Int), pX1_isRest_2 S n M x0 x1 x2 = some q → zG C E 3 S 0 0 (zQ C E 0 0 (some (0, q.1)) S q.2) 2 [some (2, x0), some (0, x1), some (0, x2)] [] M := by
  intro n
  induction n with
  | zero => intro M x0 x1 x2 h; cases h
  | succ n ih =>
    intro M x0 x1 x2 h
    unfold pX1_isRest_2 at h
    refine zG.blk (pc' := 4) (l' := [some (2, x0), some (0, x1), some (0, x2)]) (st' := [(0, 4), (0, x2)]) (M' := M) hX [(.iload_n 2, 0, 0, 0), (.iconst 4, 0, 0, 0)] (by decide +kernel) rfl trivial ?_
    refine zG.icmp_ge (tgt := 57) (off := 53) hX (by decide +kernel) (by decide) (fun c1 => ?_) (fun c1 => ?_)
    · have h := zip c1 h
      refine zG.blk (pc' := 58) (l' := [some (2, x0), some (0, x1), some (0, x2)]) (st' := [(0, 1)]) (M' := M) hX [(.iconst 1, 0, 0, 0)] (by decide +kernel) rfl trivial ?_
      cases h
      exact zG.zret hX (by decide +kernel) (Or.inr rfl)
    · have h := zin c1 h
      obtain ⟨g2, h⟩ := zif h
      obtain ⟨g3, h⟩ := zif h
      obtain ⟨g4, h⟩ := zif h
      refine zG.blk (pc' := 25) (l' := [some (2, x0), some (0, x1), some (0, x2)]) (st' := [(0, M (M x0 3) x1), (0, M (M x0 3) (w32 ((w32 (x2 * 4)) + (Int.tmod x1 4))))]) (M' := M) hX [(.aload_n 0, 0, 0, 0), (.getfield 32, 1, 3, 2), (.iload_n 2, 0, 0, 0), (.iconst 4, 0, 0, 0), (.imul, 0, 0, 0), (.iload_n 1, 0, 0, 0), (.iconst 4, 0, 0, 0), (.irem, 0, 0, 0), (.iadd, 0, 0, 0), (.iaload, 0, 0, 0), (.aload_n 0, 0, 0, 0), (.getfield 32, 1, 3, 2), (.iload_n 1, 0, 0, 0), (.iaload, 0, 0, 0)] (by decide +kernel) rfl (And.intro g2 (And.intro (by decide) (And.intro g3 (And.intro g2 (And.intro g4 trivial))))) ?_
      refine zG.icmp_gt (tgt := 49) (off := 24) hX (by decide +kernel) (by decide) (fun c5 => ?_) (fun c5 => ?_)
      · have h := zip c5 h
        exact zG.wk [false, false, false] (pX1_isRest_49_ok hX hRm h)
      · have h := zin c5 h
        obtain ⟨g6, h⟩ := zif h
        obtain ⟨g7, h⟩ := zif h
        refine zG.blk (pc' := 46) (l' := [some (2, x0), some (0, x1), some (0, x2)]) (st' := [(0, M (M x0 4) x1), (0, M (M x0 4) (w32 ((w32 ((w32 (Int.tdiv x1 4)) * 4)) + x2)))]) (M' := M) hX [(.aload_n 0, 0, 0, 0), (.getfield 36, 1, 4, 2), (.iload_n 1, 0, 0, 0), (.iconst 4, 0, 0, 0), (.idiv, 0, 0, 0), (.iconst 4, 0, 0, 0), (.imul, 0, 0, 0), (.iload_n 2, 0, 0, 0), (.iadd, 0, 0, 0), (.iaload, 0, 0, 0), (.aload_n 0, 0, 0, 0), (.getfield 36, 1, 4, 2), (.iload_n 1, 0, 0, 0), (.iaload, 0, 0, 0)] (by decide +kernel) rfl (And.intro g2 (And.intro (by decide) (And.intro g6 (And.intro g2 (And.intro g7 trivial))))) ?_
        refine zG.icmp_le (tgt := 51) (off := 5) hX (by decide +kernel) (by decide) (fun c8 => ?_) (fun c8 => ?_)
        · have h := zip c8 h
          refine zG.blk (pc' := 54) (l' := [some (2, x0), some (0, x1), some (0, w32 (x2 + 1))]) (st' := []) (M' := M) hX [(.iinc 2 1, 0, 0, 0)] (by decide +kernel) rfl trivial ?_
          refine zG.goto (tgt := 2) (off := (-52)) hX (by decide +kernel) (by decide) ?_
          exact ih _ _ _ _ h
        · have h := zin c8 h
          exact zG.wk [false, false, false] (pX1_isRest_49_ok hX hRm h)
noncomputable def pX1_isRest (S : ZS) (M : ZM) (a0 : Int) (a1 : Int) : Option (Int × ZM) := pX1_isRest_2 S zFU M a0 a1 0
set_option maxHeartbeats 2000000 in
set_option maxRecDepth 20000 in
theorem pX1_isRest_go {C : ZC} {E : ZE} {S : ZS} {M : ZM} {a0 a1 : Int} {q : (Int × ZM)} (hX : zCx C E 1 cX1_isRest 3 (some .boolean) false) (hRm : czR C = { frames := 1, cells := 0, slots := 0, locals := 40 }) (h : pX1_isRest  S M a0 a1 = some q) : zG C E 3 S 0 0 (zQ C E 0 0 (some (0, q.1)) S q.2) 0 [some (2, a0), some (0, a1), none] [] M := by
  unfold pX1_isRest at h
  refine zG.blk (pc' := 2) (l' := [some (2, a0), some (0, a1), some (0, 0)]) (st' := []) (M' := M) hX [(.iconst 0, 0, 0, 0), (.istore_n 2, 0, 0, 0)] (by decide +kernel) rfl trivial ?_
  exact (pX1_isRest_2_ok hX hRm zFU _ _ _ _ h)
theorem pX1_isRest_ok {l : Launch} {E : ZE} {S : ZS} {M : ZM} {a0 a1 : Int} {q : (Int × ZM)} (h : pX1_isRest S M a0 a1 = some q) : zMet l yX1_isRest cX1_isRest 3 (some .boolean) 1 40 0 0 E S M [(2, a0), (0, a1)] (some (0, q.1)) S q.2 :=
  zMet.of (o := 1) (ini := false) (by decide +kernel) rfl (fun h => by cases h) (Nat.le_of_ble_eq_true rfl) (fun C hX hl hRm => by subst hl; exact pX1_isRest_go hX hRm h)
noncomputable def pX6_strokesOf_4 (S : ZS) : Nat → ZM → Int → Int → Int → Int → Option (Int × ZM)
  | 0 => fun _ _ _ _ _ => none
  | n + 1 => fun M x0 x1 x2 x3 => if 36 ≤ x3 then (some (x2, M)) else (if S.1 x0 = 6 then if S.1 (M x0 2) = 100 ∧ (0 : Int) ≤ x3 ∧ x3 < S.2.1 (M x0 2) then pX6_strokesOf_4 S n M x0 x1 (if M (M x0 2) x3 = x1 then (w32 (x2 + 1) : Int) else x2) (w32 (x3 + 1)) else none else none)
set_option maxHeartbeats 2000000 in
set_option maxRecDepth 20000 in
theorem pX6_strokesOf_4_ok {C : ZC} {E : ZE} {S : ZS} {q : (Int × ZM)} (hX : zCx C E 6 cX6_strokesOf 4 (some .int) false) (hRm : czR C = { frames := 1, cells := 0, slots := 0, locals := 40 }) : ∀ (n : Nat) (M : ZM) (x0 : Int) (x1 : Int) (x2 : Int) (x3 : Int), pX6_strokesOf_4 S n M x0 x1 x2 x3 = some q → zG C E 4 S 0 0 (zQ C E 0 0 (some (0, q.1)) S q.2) 4 [some (2, x0), some (0, x1), some (0, x2), some (0, x3)] [] M := by
  intro n
  induction n with
  | zero => intro M x0 x1 x2 x3 h; cases h
  | succ n ih =>
    intro M x0 x1 x2 x3 h
    unfold pX6_strokesOf_4 at h
    refine zG.blk (pc' := 7) (l' := [some (2, x0), some (0, x1), some (0, x2), some (0, x3)]) (st' := [(0, 36), (0, x3)]) (M' := M) hX [(.iload_n 3, 0, 0, 0), (.bipush 36, 0, 0, 0)] (by decide +kernel) rfl trivial ?_
    refine zG.icmp_ge (tgt := 29) (off := 22) hX (by decide +kernel) (by decide) (fun c1 => ?_) (fun c1 => ?_)
    · have h := zip c1 h
      refine zG.blk (pc' := 30) (l' := [some (2, x0), some (0, x1), some (0, x2), some (0, x3)]) (st' := [(0, x2)]) (M' := M) hX [(.iload_n 2, 0, 0, 0)] (by decide +kernel) rfl trivial ?_
      cases h
      exact zG.iret hX (by decide +kernel)
    · have h := zin c1 h
      obtain ⟨g2, h⟩ := zif h
      obtain ⟨g3, h⟩ := zif h
      refine zG.blk (pc' := 17) (l' := [some (2, x0), some (0, x1), some (0, x2), some (0, x3)]) (st' := [(0, x1), (0, M (M x0 2) x3)]) (M' := M) hX [(.aload_n 0, 0, 0, 0), (.getfield 18, 6, 2, 2), (.iload_n 3, 0, 0, 0), (.iaload, 0, 0, 0), (.iload_n 1, 0, 0, 0)] (by decide +kernel) rfl (And.intro g2 (And.intro g3 trivial)) ?_
      have key4 : zG C E 4 S 0 0 (zQ C E 0 0 (some (0, q.1)) S q.2) 23 [some (2, x0), some (0, x1), some (0, (if M (M x0 2) x3 = x1 then (w32 (x2 + 1) : Int) else x2)), some (0, x3)] [] M := by
        refine zG.blk (pc' := 26) (l' := [some (2, x0), some (0, x1), some (0, (if M (M x0 2) x3 = x1 then (w32 (x2 + 1) : Int) else x2)), some (0, w32 (x3 + 1))]) (st' := []) (M' := M) hX [(.iinc 3 1, 0, 0, 0)] (by decide +kernel) rfl trivial ?_
        refine zG.goto (tgt := 4) (off := (-22)) hX (by decide +kernel) (by decide) ?_
        exact ih _ _ _ _ _ h
      refine zG.icmp_ne (tgt := 23) (off := 6) hX (by decide +kernel) (by decide) (fun c5 => ?_) (fun c5 => ?_)
      · (have k := key4; simp only [if_neg c5] at k; exact k)
      · refine zG.blk (pc' := 23) (l' := [some (2, x0), some (0, x1), some (0, w32 (x2 + 1)), some (0, x3)]) (st' := []) (M' := M) hX [(.iinc 2 1, 0, 0, 0)] (by decide +kernel) rfl trivial ?_
        (have k := key4; simp only [if_pos c5] at k; exact k)
noncomputable def pX6_strokesOf (S : ZS) (M : ZM) (a0 : Int) (a1 : Int) : Option (Int × ZM) := pX6_strokesOf_4 S zFU M a0 a1 0 0
set_option maxHeartbeats 2000000 in
set_option maxRecDepth 20000 in
theorem pX6_strokesOf_go {C : ZC} {E : ZE} {S : ZS} {M : ZM} {a0 a1 : Int} {q : (Int × ZM)} (hX : zCx C E 6 cX6_strokesOf 4 (some .int) false) (hRm : czR C = { frames := 1, cells := 0, slots := 0, locals := 40 }) (h : pX6_strokesOf  S M a0 a1 = some q) : zG C E 4 S 0 0 (zQ C E 0 0 (some (0, q.1)) S q.2) 0 [some (2, a0), some (0, a1), none, none] [] M := by
  unfold pX6_strokesOf at h
  refine zG.blk (pc' := 4) (l' := [some (2, a0), some (0, a1), some (0, 0), some (0, 0)]) (st' := []) (M' := M) hX [(.iconst 0, 0, 0, 0), (.istore_n 2, 0, 0, 0), (.iconst 0, 0, 0, 0), (.istore_n 3, 0, 0, 0)] (by decide +kernel) rfl trivial ?_
  exact (pX6_strokesOf_4_ok hX hRm zFU _ _ _ _ _ h)
theorem pX6_strokesOf_ok {l : Launch} {E : ZE} {S : ZS} {M : ZM} {a0 a1 : Int} {q : (Int × ZM)} (h : pX6_strokesOf S M a0 a1 = some q) : zMet l yX6_strokesOf cX6_strokesOf 4 (some .int) 1 40 0 0 E S M [(2, a0), (0, a1)] (some (0, q.1)) S q.2 :=
  zMet.of (o := 6) (ini := false) (by decide +kernel) rfl (fun h => by cases h) (Nat.le_of_ble_eq_true rfl) (fun C hX hl hRm => by subst hl; exact pX6_strokesOf_go hX hRm h)
noncomputable def pX1_restsOfTwo_182 (S : ZS) (M : ZM) (y0 : Int) : Option (Int × ZM) := some (y0, M)
set_option maxHeartbeats 2000000 in
set_option maxRecDepth 20000 in
theorem pX1_restsOfTwo_182_ok {C : ZC} {E : ZE} {S : ZS} {q : (Int × ZM)} (hX : zCx C E 1 cX1_restsOfTwo 10 (some .int) false) (hRm : czR C = { frames := 6, cells := 0, slots := 0, locals := 164 }) {M : ZM} {y0 : Int} (h : pX1_restsOfTwo_182 S M y0 = some q) : zG C E 10 S 0 0 (zQ C E 0 0 (some (0, q.1)) S q.2) 182 [none, none, none, none, none, none, none, none, none, none] [(0, y0)] M := by
  unfold pX1_restsOfTwo_182 at h
  cases h
  exact zG.iret hX (by decide +kernel)
theorem sv_1_119 : zSV 1 119 yX1_isRest cX1_isRest 3 (some .boolean) 1 := ⟨⟨gt_at 1009 (by decide +kernel) rfl, gt_at 1011 (by decide +kernel) rfl, gt_at 30 (by decide +kernel) rfl, gt_at 114 (by decide +kernel) rfl, gt_at 1012 (by decide +kernel) rfl⟩, by decide +kernel, by decide +kernel, by decide +kernel⟩
noncomputable def pX1_restsOfTwo_117 (S : ZS) : Nat → ZM → Int → Int → Int → Int → Int → Option (Int × ZM)
  | 0 => fun _ _ _ _ _ _ => none
  | n + 1 => fun M x0 x6 x7 x8 x9 => if x9 < 0 then (if x6 = 0 then (some (x7, M)) else (if x8 = (-1) then (some ((-2), M)) else (if x6 = 1 then (pX1_restsOfTwo_182 S M (w32 ((w32 (Int.tdiv x8 4)) * 3))) else (pX1_restsOfTwo_182 S M (w32 ((Int.tmod x8 4) * 3)))))) else (if S.1 x0 = 1 then (pX1_isRest S M x0 x9).bind fun q6 => pX1_restsOfTwo_117 S n q6.2 x0 x6 (if q6.1 = 0 then (x7 : Int) else (w32 (x7 + 1))) (if q6.1 = 0 then (x8 : Int) else x9) (w32 (x9 + (-1))) else none)
set_option maxHeartbeats 2000000 in
set_option maxRecDepth 20000 in
theorem pX1_restsOfTwo_117_ok {C : ZC} {E : ZE} {S : ZS} {q : (Int × ZM)} (hX : zCx C E 1 cX1_restsOfTwo 10 (some .int) false) (hRm : czR C = { frames := 6, cells := 0, slots := 0, locals := 164 }) : ∀ (n : Nat) (M : ZM) (x0 : Int) (x6 : Int) (x7 : Int) (x8 : Int) (x9 : Int), pX1_restsOfTwo_117 S n M x0 x6 x7 x8 x9 = some q → zG C E 10 S 0 0 (zQ C E 0 0 (some (0, q.1)) S q.2) 117 [some (2, x0), none, none, none, none, none, some (0, x6), some (0, x7), some (0, x8), some (0, x9)] [] M := by
  intro n
  induction n with
  | zero => intro M x0 x6 x7 x8 x9 h; cases h
  | succ n ih =>
    intro M x0 x6 x7 x8 x9 h
    unfold pX1_restsOfTwo_117 at h
    refine zG.blk (pc' := 119) (l' := [some (2, x0), none, none, none, none, none, some (0, x6), some (0, x7), some (0, x8), some (0, x9)]) (st' := [(0, x9)]) (M' := M) hX [(.iload 9, 0, 0, 0)] (by decide +kernel) rfl trivial ?_
    refine zG.if_lt (tgt := 144) (off := 25) hX (by decide +kernel) (by decide) (fun c2 => ?_) (fun c2 => ?_)
    · have h := zip c2 h
      refine zG.blk (pc' := 146) (l' := [some (2, x0), none, none, none, none, none, some (0, x6), some (0, x7), some (0, x8), some (0, x9)]) (st' := [(0, x6)]) (M' := M) hX [(.iload 6, 0, 0, 0)] (by decide +kernel) rfl trivial ?_
      refine zG.if_ne (tgt := 152) (off := 6) hX (by decide +kernel) (by decide) (fun c3 => ?_) (fun c3 => ?_)
      · have h := zin c3 h
        refine zG.blk (pc' := 155) (l' := [some (2, x0), none, none, none, none, none, some (0, x6), some (0, x7), some (0, x8), some (0, x9)]) (st' := [(0, (-1)), (0, x8)]) (M' := M) hX [(.iload 8, 0, 0, 0), (.iconst (-1), 0, 0, 0)] (by decide +kernel) rfl trivial ?_
        refine zG.icmp_ne (tgt := 161) (off := 6) hX (by decide +kernel) (by decide) (fun c4 => ?_) (fun c4 => ?_)
        · have h := zin c4 h
          refine zG.blk (pc' := 164) (l' := [some (2, x0), none, none, none, none, none, some (0, x6), some (0, x7), some (0, x8), some (0, x9)]) (st' := [(0, 1), (0, x6)]) (M' := M) hX [(.iload 6, 0, 0, 0), (.iconst 1, 0, 0, 0)] (by decide +kernel) rfl trivial ?_
          refine zG.icmp_ne (tgt := 176) (off := 12) hX (by decide +kernel) (by decide) (fun c5 => ?_) (fun c5 => ?_)
          · have h := zin c5 h
            refine zG.blk (pc' := 182) (l' := [some (2, x0), none, none, none, none, none, some (0, x6), some (0, x7), some (0, x8), some (0, x9)]) (st' := [(0, w32 ((Int.tmod x8 4) * 3))]) (M' := M) hX [(.iload 8, 0, 0, 0), (.iconst 4, 0, 0, 0), (.irem, 0, 0, 0), (.iconst 3, 0, 0, 0), (.imul, 0, 0, 0)] (by decide +kernel) rfl (And.intro (by decide) trivial) ?_
            exact zG.wk [false, true, true, true, true, true, false, false, false, false] (pX1_restsOfTwo_182_ok hX hRm h)
          · have h := zip c5 h
            refine zG.blk (pc' := 173) (l' := [some (2, x0), none, none, none, none, none, some (0, x6), some (0, x7), some (0, x8), some (0, x9)]) (st' := [(0, w32 ((w32 (Int.tdiv x8 4)) * 3))]) (M' := M) hX [(.iload 8, 0, 0, 0), (.iconst 4, 0, 0, 0), (.idiv, 0, 0, 0), (.iconst 3, 0, 0, 0), (.imul, 0, 0, 0)] (by decide +kernel) rfl (And.intro (by decide) trivial) ?_
            refine zG.goto (tgt := 182) (off := 9) hX (by decide +kernel) (by decide) ?_
            exact zG.wk [false, true, true, true, true, true, false, false, false, false] (pX1_restsOfTwo_182_ok hX hRm h)
        · have h := zip c4 h
          refine zG.blk (pc' := 160) (l' := [some (2, x0), none, none, none, none, none, some (0, x6), some (0, x7), some (0, x8), some (0, x9)]) (st' := [(0, (-2))]) (M' := M) hX [(.bipush (-2), 0, 0, 0)] (by decide +kernel) rfl trivial ?_
          cases h
          exact zG.iret hX (by decide +kernel)
      · have h := zip c3 h
        refine zG.blk (pc' := 151) (l' := [some (2, x0), none, none, none, none, none, some (0, x6), some (0, x7), some (0, x8), some (0, x9)]) (st' := [(0, x7)]) (M' := M) hX [(.iload 7, 0, 0, 0)] (by decide +kernel) rfl trivial ?_
        cases h
        exact zG.iret hX (by decide +kernel)
    · have h := zin c2 h
      refine zG.blk (pc' := 125) (l' := [some (2, x0), none, none, none, none, none, some (0, x6), some (0, x7), some (0, x8), some (0, x9)]) (st' := [(0, x9), (2, x0)]) (M' := M) hX [(.aload_n 0, 0, 0, 0), (.iload 9, 0, 0, 0)] (by decide +kernel) rfl trivial ?_
      obtain ⟨g8, h⟩ := zif h
      obtain ⟨q6, e7, h⟩ := zbd h
      refine zG.callV (b := x0) (av := [(0, x9)]) (st := []) (ci := 1) hX (pX1_isRest_ok e7) sv_1_119 rfl ⟨by decide, rfl⟩ g8 (by decide +kernel) (by rw [hRm]; exact ⟨Nat.le_of_ble_eq_true rfl, Nat.le_of_ble_eq_true rfl⟩) (by rw [hRm]; exact ⟨Nat.le_of_ble_eq_true rfl, Nat.le_of_ble_eq_true rfl⟩) (Nat.le_of_ble_eq_true rfl) ?_
      show zG C E 10 S 0 0 _ 128 [some (2, x0), none, none, none, none, none, some (0, x6), some (0, x7), some (0, x8), some (0, x9)] [(0, q6.1)] q6.2
      have key9 : zG C E 10 S 0 0 (zQ C E 0 0 (some (0, q.1)) S q.2) 138 [some (2, x0), none, none, none, none, none, some (0, x6), some (0, (if q6.1 = 0 then (x7 : Int) else (w32 (x7 + 1)))), some (0, (if q6.1 = 0 then (x8 : Int) else x9)), some (0, x9)] [] q6.2 := by
        refine zG.blk (pc' := 141) (l' := [some (2, x0), none, none, none, none, none, some (0, x6), some (0, (if q6.1 = 0 then (x7 : Int) else (w32 (x7 + 1)))), some (0, (if q6.1 = 0 then (x8 : Int) else x9)), some (0, w32 (x9 + (-1)))]) (st' := []) (M' := q6.2) hX [(.iinc 9 (-1), 0, 0, 0)] (by decide +kernel) rfl trivial ?_
        refine zG.goto (tgt := 117) (off := (-24)) hX (by decide +kernel) (by decide) ?_
        exact ih _ _ _ _ _ _ h
      refine zG.if_eq (tgt := 138) (off := 10) hX (by decide +kernel) (by decide) (fun c10 => ?_) (fun c10 => ?_)
      · (have k := key9; simp only [if_pos c10] at k; exact k)
      · refine zG.blk (pc' := 138) (l' := [some (2, x0), none, none, none, none, none, some (0, x6), some (0, w32 (x7 + 1)), some (0, x9), some (0, x9)]) (st' := []) (M' := q6.2) hX [(.iinc 7 1, 0, 0, 0), (.iload 9, 0, 0, 0), (.istore 8, 0, 0, 0)] (by decide +kernel) rfl trivial ?_
        (have k := key9; simp only [if_neg c10] at k; exact k)
theorem sv_1_116 : zSV 1 116 yX6_strokesOf cX6_strokesOf 4 (some .int) 1 := ⟨⟨gt_at 1008 (by decide +kernel) rfl, gt_at 757 (by decide +kernel) rfl, gt_at 758 (by decide +kernel) rfl, gt_at 111 (by decide +kernel) rfl, gt_at 759 (by decide +kernel) rfl⟩, by decide +kernel, by decide +kernel, by decide +kernel⟩
noncomputable def pX1_restsOfTwo_101 (S : ZS) (k3 : ZM → Int → Int → Int → Int → Int → Int → Int → Int → Option (Int × ZM)) (M : ZM) (x0 : Int) (x1 : Int) (x2 : Int) (x3 : Int) (x4 : Int) (x5 : Int) (x6 : Int) (x7 : Int) : Option (Int × ZM) := k3 M x0 x1 x2 x3 x4 x5 x6 (w32 (x7 + 1))
set_option maxHeartbeats 2000000 in
set_option maxRecDepth 20000 in
theorem pX1_restsOfTwo_101_ok {C : ZC} {E : ZE} {S : ZS} {k3 : ZM → Int → Int → Int → Int → Int → Int → Int → Int → Option (Int × ZM)} {q : (Int × ZM)} (hX : zCx C E 1 cX1_restsOfTwo 10 (some .int) false) (hRm : czR C = { frames := 6, cells := 0, slots := 0, locals := 164 }) (hk3 : ∀ M x0 x1 x2 x3 x4 x5 x6 x7, k3 M x0 x1 x2 x3 x4 x5 x6 x7 = some q → zG C E 10 S 0 0 (zQ C E 0 0 (some (0, q.1)) S q.2) 3 [some (2, x0), some (2, x1), some (2, x2), some (0, x3), some (0, x4), some (0, x5), some (0, x6), some (0, x7), none, none] [] M) {M : ZM} {x0 : Int} {x1 : Int} {x2 : Int} {x3 : Int} {x4 : Int} {x5 : Int} {x6 : Int} {x7 : Int} (h : pX1_restsOfTwo_101 S k3 M x0 x1 x2 x3 x4 x5 x6 x7 = some q) : zG C E 10 S 0 0 (zQ C E 0 0 (some (0, q.1)) S q.2) 101 [some (2, x0), some (2, x1), some (2, x2), some (0, x3), some (0, x4), some (0, x5), some (0, x6), some (0, x7), none, none] [] M := by
  unfold pX1_restsOfTwo_101 at h
  refine zG.blk (pc' := 104) (l' := [some (2, x0), some (2, x1), some (2, x2), some (0, x3), some (0, x4), some (0, x5), some (0, x6), some (0, w32 (x7 + 1)), none, none]) (st' := []) (M' := M) hX [(.iinc 7 1, 0, 0, 0)] (by decide +kernel) rfl trivial ?_
  refine zG.goto (tgt := 3) (off := (-101)) hX (by decide +kernel) (by decide) ?_
  exact (hk3 _ _ _ _ _ _ _ _ _ h)
noncomputable def pX1_restsOfTwo_70 (S : ZS) (k3 : ZM → Int → Int → Int → Int → Int → Int → Int → Int → Option (Int × ZM)) (M : ZM) (x0 : Int) (x1 : Int) (x2 : Int) (x3 : Int) (x4 : Int) (x5 : Int) (x6 : Int) (x7 : Int) : Option (Int × ZM) := if S.1 x0 = 1 then if S.1 (M x0 1) = 6 then (pX6_strokesOf S M (M x0 1) x3).bind fun q28 => if S.1 (M x0 3) = 100 ∧ (0 : Int) ≤ x7 ∧ x7 < S.2.1 (M x0 3) then zlet (upM q28.2 (M x0 3) x7 q28.1) fun M32 => if S.1 (M32 x0 1) = 6 then (pX6_strokesOf S M32 (M32 x0 1) x4).bind fun q33 => if S.1 (M32 x0 4) = 100 ∧ (0 : Int) ≤ x7 ∧ x7 < S.2.1 (M32 x0 4) then zlet (upM q33.2 (M32 x0 4) x7 q33.1) fun M37 => pX1_restsOfTwo_101 S k3 M37 x0 x1 x2 x3 x4 x5 x6 x7 else none else none else none else none else none
set_option maxHeartbeats 2000000 in
set_option maxRecDepth 20000 in
theorem pX1_restsOfTwo_70_ok {C : ZC} {E : ZE} {S : ZS} {k3 : ZM → Int → Int → Int → Int → Int → Int → Int → Int → Option (Int × ZM)} {q : (Int × ZM)} (hX : zCx C E 1 cX1_restsOfTwo 10 (some .int) false) (hRm : czR C = { frames := 6, cells := 0, slots := 0, locals := 164 }) (hk3 : ∀ M x0 x1 x2 x3 x4 x5 x6 x7, k3 M x0 x1 x2 x3 x4 x5 x6 x7 = some q → zG C E 10 S 0 0 (zQ C E 0 0 (some (0, q.1)) S q.2) 3 [some (2, x0), some (2, x1), some (2, x2), some (0, x3), some (0, x4), some (0, x5), some (0, x6), some (0, x7), none, none] [] M) {M : ZM} {x0 : Int} {x1 : Int} {x2 : Int} {x3 : Int} {x4 : Int} {x5 : Int} {x6 : Int} {x7 : Int} (h : pX1_restsOfTwo_70 S k3 M x0 x1 x2 x3 x4 x5 x6 x7 = some q) : zG C E 10 S 0 0 (zQ C E 0 0 (some (0, q.1)) S q.2) 70 [some (2, x0), some (2, x1), some (2, x2), some (0, x3), some (0, x4), some (0, x5), some (0, x6), some (0, x7), none, none] [] M := by
  unfold pX1_restsOfTwo_70 at h
  obtain ⟨g27, h⟩ := zif h
  refine zG.blk (pc' := 81) (l' := [some (2, x0), some (2, x1), some (2, x2), some (0, x3), some (0, x4), some (0, x5), some (0, x6), some (0, x7), none, none]) (st' := [(0, x3), (2, M x0 1), (0, x7), (2, M x0 3)]) (M' := M) hX [(.aload_n 0, 0, 0, 0), (.getfield 32, 1, 3, 2), (.iload 7, 0, 0, 0), (.aload_n 0, 0, 0, 0), (.getfield 21, 1, 1, 2), (.iload_n 3, 0, 0, 0)] (by decide +kernel) rfl (And.intro g27 (And.intro g27 trivial)) ?_
  obtain ⟨g30, h⟩ := zif h
  obtain ⟨q28, e29, h⟩ := zbd h
  refine zG.callV (b := M x0 1) (av := [(0, x3)]) (st := [(0, x7), (2, M x0 3)]) (ci := 6) hX (pX6_strokesOf_ok e29) sv_1_116 rfl ⟨by decide, rfl⟩ g30 (by decide +kernel) (by rw [hRm]; exact ⟨Nat.le_of_ble_eq_true rfl, Nat.le_of_ble_eq_true rfl⟩) (by rw [hRm]; exact ⟨Nat.le_of_ble_eq_true rfl, Nat.le_of_ble_eq_true rfl⟩) (Nat.le_of_ble_eq_true rfl) ?_
  show zG C E 10 S 0 0 _ 84 [some (2, x0), some (2, x1), some (2, x2), some (0, x3), some (0, x4), some (0, x5), some (0, x6), some (0, x7), none, none] [(0, q28.1), (0, x7), (2, M x0 3)] q28.2
  obtain ⟨g31, h⟩ := zif h
  refine zG.blk (pc' := 85) (l' := [some (2, x0), some (2, x1), some (2, x2), some (0, x3), some (0, x4), some (0, x5), some (0, x6), some (0, x7), none, none]) (st' := []) (M' := (upM q28.2 (M x0 3) x7 q28.1)) hX [(.iastore, 0, 0, 0)] (by decide +kernel) rfl (And.intro g31 trivial) ?_
  generalize upM q28.2 (M x0 3) x7 q28.1 = M32 at h ⊢
  have h := zlt h
  refine zG.blk (pc' := 97) (l' := [some (2, x0), some (2, x1), some (2, x2), some (0, x3), some (0, x4), some (0, x5), some (0, x6), some (0, x7), none, none]) (st' := [(0, x4), (2, M32 x0 1), (0, x7), (2, M32 x0 4)]) (M' := M32) hX [(.aload_n 0, 0, 0, 0), (.getfield 36, 1, 4, 2), (.iload 7, 0, 0, 0), (.aload_n 0, 0, 0, 0), (.getfield 21, 1, 1, 2), (.iload 4, 0, 0, 0)] (by decide +kernel) rfl (And.intro g27 (And.intro g27 trivial)) ?_
  obtain ⟨g35, h⟩ := zif h
  obtain ⟨q33, e34, h⟩ := zbd h
  refine zG.callV (b := M32 x0 1) (av := [(0, x4)]) (st := [(0, x7), (2, M32 x0 4)]) (ci := 6) hX (pX6_strokesOf_ok e34) sv_1_116 rfl ⟨by decide, rfl⟩ g35 (by decide +kernel) (by rw [hRm]; exact ⟨Nat.le_of_ble_eq_true rfl, Nat.le_of_ble_eq_true rfl⟩) (by rw [hRm]; exact ⟨Nat.le_of_ble_eq_true rfl, Nat.le_of_ble_eq_true rfl⟩) (Nat.le_of_ble_eq_true rfl) ?_
  show zG C E 10 S 0 0 _ 100 [some (2, x0), some (2, x1), some (2, x2), some (0, x3), some (0, x4), some (0, x5), some (0, x6), some (0, x7), none, none] [(0, q33.1), (0, x7), (2, M32 x0 4)] q33.2
  obtain ⟨g36, h⟩ := zif h
  refine zG.blk (pc' := 101) (l' := [some (2, x0), some (2, x1), some (2, x2), some (0, x3), some (0, x4), some (0, x5), some (0, x6), some (0, x7), none, none]) (st' := []) (M' := (upM q33.2 (M32 x0 4) x7 q33.1)) hX [(.iastore, 0, 0, 0)] (by decide +kernel) rfl (And.intro g36 trivial) ?_
  generalize upM q33.2 (M32 x0 4) x7 q33.1 = M37 at h ⊢
  have h := zlt h
  exact (pX1_restsOfTwo_101_ok hX hRm hk3 h)
noncomputable def pX1_restsOfTwo_36 (S : ZS) (k3 : ZM → Int → Int → Int → Int → Int → Int → Int → Int → Option (Int × ZM)) (M : ZM) (x0 : Int) (x1 : Int) (x2 : Int) (x3 : Int) (x4 : Int) (x5 : Int) (x6 : Int) (x7 : Int) : Option (Int × ZM) := if S.1 x0 = 1 then if S.1 (M x0 1) = 6 then if S.1 (M (M x0 1) 1) = 100 ∧ (0 : Int) ≤ x4 ∧ x4 < S.2.1 (M (M x0 1) 1) then zlet (upM M (M (M x0 1) 1) x4 (w32 ((Int.tmod x7 4) * 3))) fun M22 => if S.1 x1 = 10 then if S.1 (M22 x0 0) = 0 then (pX0_pass S M22 (M22 x0 0) (M22 x1 0) (M22 x0 1) x2 x5).bind fun q24 => pX1_restsOfTwo_70 S k3 q24 x0 x1 x2 x3 x4 x5 x6 x7 else none else none else none else none else none
set_option maxHeartbeats 2000000 in
set_option maxRecDepth 20000 in
theorem pX1_restsOfTwo_36_ok {C : ZC} {E : ZE} {S : ZS} {k3 : ZM → Int → Int → Int → Int → Int → Int → Int → Int → Option (Int × ZM)} {q : (Int × ZM)} (hX : zCx C E 1 cX1_restsOfTwo 10 (some .int) false) (hRm : czR C = { frames := 6, cells := 0, slots := 0, locals := 164 }) (hk3 : ∀ M x0 x1 x2 x3 x4 x5 x6 x7, k3 M x0 x1 x2 x3 x4 x5 x6 x7 = some q → zG C E 10 S 0 0 (zQ C E 0 0 (some (0, q.1)) S q.2) 3 [some (2, x0), some (2, x1), some (2, x2), some (0, x3), some (0, x4), some (0, x5), some (0, x6), some (0, x7), none, none] [] M) {M : ZM} {x0 : Int} {x1 : Int} {x2 : Int} {x3 : Int} {x4 : Int} {x5 : Int} {x6 : Int} {x7 : Int} (h : pX1_restsOfTwo_36 S k3 M x0 x1 x2 x3 x4 x5 x6 x7 = some q) : zG C E 10 S 0 0 (zQ C E 0 0 (some (0, q.1)) S q.2) 36 [some (2, x0), some (2, x1), some (2, x2), some (0, x3), some (0, x4), some (0, x5), some (0, x6), some (0, x7), none, none] [] M := by
  unfold pX1_restsOfTwo_36 at h
  obtain ⟨g19, h⟩ := zif h
  obtain ⟨g20, h⟩ := zif h
  obtain ⟨g21, h⟩ := zif h
  refine zG.blk (pc' := 52) (l' := [some (2, x0), some (2, x1), some (2, x2), some (0, x3), some (0, x4), some (0, x5), some (0, x6), some (0, x7), none, none]) (st' := []) (M' := (upM M (M (M x0 1) 1) x4 (w32 ((Int.tmod x7 4) * 3)))) hX [(.aload_n 0, 0, 0, 0), (.getfield 21, 1, 1, 2), (.getfield 113, 6, 1, 2), (.iload 4, 0, 0, 0), (.iload 7, 0, 0, 0), (.iconst 4, 0, 0, 0), (.irem, 0, 0, 0), (.iconst 3, 0, 0, 0), (.imul, 0, 0, 0), (.iastore, 0, 0, 0)] (by decide +kernel) rfl (And.intro g19 (And.intro g20 (And.intro (by decide) (And.intro g21 trivial)))) ?_
  generalize upM M (M (M x0 1) 1) x4 (w32 ((Int.tmod x7 4) * 3)) = M22 at h ⊢
  have h := zlt h
  obtain ⟨g23, h⟩ := zif h
  refine zG.blk (pc' := 67) (l' := [some (2, x0), some (2, x1), some (2, x2), some (0, x3), some (0, x4), some (0, x5), some (0, x6), some (0, x7), none, none]) (st' := [(0, x5), (2, x2), (2, M22 x0 1), (2, M22 x1 0), (2, M22 x0 0)]) (M' := M22) hX [(.aload_n 0, 0, 0, 0), (.getfield 12, 1, 0, 2), (.aload_n 1, 0, 0, 0), (.getfield 48, 10, 0, 2), (.aload_n 0, 0, 0, 0), (.getfield 21, 1, 1, 2), (.aload_n 2, 0, 0, 0), (.iload 5, 0, 0, 0)] (by decide +kernel) rfl (And.intro g19 (And.intro g23 (And.intro g19 trivial))) ?_
  obtain ⟨g26, h⟩ := zif h
  obtain ⟨q24, e25, h⟩ := zbd h
  refine zG.callV (b := M22 x0 0) (av := [(2, M22 x1 0), (2, M22 x0 1), (2, x2), (0, x5)]) (st := []) (ci := 0) hX (pX0_pass_ok e25) sv_1_51 rfl ⟨by decide, rfl⟩ g26 (by decide +kernel) (by rw [hRm]; exact ⟨Nat.le_of_ble_eq_true rfl, Nat.le_of_ble_eq_true rfl⟩) (by rw [hRm]; exact ⟨Nat.le_of_ble_eq_true rfl, Nat.le_of_ble_eq_true rfl⟩) (Nat.le_of_ble_eq_true rfl) ?_
  show zG C E 10 S 0 0 _ 70 [some (2, x0), some (2, x1), some (2, x2), some (0, x3), some (0, x4), some (0, x5), some (0, x6), some (0, x7), none, none] [] q24
  exact (pX1_restsOfTwo_70_ok hX hRm hk3 h)
noncomputable def pX1_restsOfTwo_3 (S : ZS) : Nat → ZM → Int → Int → Int → Int → Int → Int → Int → Int → Option (Int × ZM)
  | 0 => fun _ _ _ _ _ _ _ _ _ => none
  | n + 1 => fun M x0 x1 x2 x3 x4 x5 x6 x7 => if 16 ≤ x7 then (pX1_restsOfTwo_117 S zFU M x0 x6 0 (-1) 15) else (if S.1 x0 = 1 then if S.1 x1 = 10 then if S.1 (M x0 1) = 6 then (pX6_copyFrom S M (M x0 1) (M x1 1)).bind fun q13 => if S.1 (q13 x0 1) = 6 then if S.1 (q13 (q13 x0 1) 1) = 100 ∧ (0 : Int) ≤ x3 ∧ x3 < S.2.1 (q13 (q13 x0 1) 1) then zlet (upM q13 (q13 (q13 x0 1) 1) x3 (w32 ((w32 (Int.tdiv x7 4)) * 3))) fun M18 => pX1_restsOfTwo_36 S (pX1_restsOfTwo_3 S n) M18 x0 x1 x2 x3 x4 x5 x6 x7 else none else none else none else none else none)
set_option maxHeartbeats 2000000 in
set_option maxRecDepth 20000 in
theorem pX1_restsOfTwo_3_ok {C : ZC} {E : ZE} {S : ZS} {q : (Int × ZM)} (hX : zCx C E 1 cX1_restsOfTwo 10 (some .int) false) (hRm : czR C = { frames := 6, cells := 0, slots := 0, locals := 164 }) : ∀ (n : Nat) (M : ZM) (x0 : Int) (x1 : Int) (x2 : Int) (x3 : Int) (x4 : Int) (x5 : Int) (x6 : Int) (x7 : Int), pX1_restsOfTwo_3 S n M x0 x1 x2 x3 x4 x5 x6 x7 = some q → zG C E 10 S 0 0 (zQ C E 0 0 (some (0, q.1)) S q.2) 3 [some (2, x0), some (2, x1), some (2, x2), some (0, x3), some (0, x4), some (0, x5), some (0, x6), some (0, x7), none, none] [] M := by
  intro n
  induction n with
  | zero => intro M x0 x1 x2 x3 x4 x5 x6 x7 h; cases h
  | succ n ih =>
    intro M x0 x1 x2 x3 x4 x5 x6 x7 h
    unfold pX1_restsOfTwo_3 at h
    refine zG.blk (pc' := 7) (l' := [some (2, x0), some (2, x1), some (2, x2), some (0, x3), some (0, x4), some (0, x5), some (0, x6), some (0, x7), none, none]) (st' := [(0, 16), (0, x7)]) (M' := M) hX [(.iload 7, 0, 0, 0), (.bipush 16, 0, 0, 0)] (by decide +kernel) rfl trivial ?_
    refine zG.icmp_ge (tgt := 107) (off := 100) hX (by decide +kernel) (by decide) (fun c1 => ?_) (fun c1 => ?_)
    · have h := zip c1 h
      refine zG.blk (pc' := 117) (l' := [some (2, x0), some (2, x1), some (2, x2), some (0, x3), some (0, x4), some (0, x5), some (0, x6), some (0, 0), some (0, (-1)), some (0, 15)]) (st' := []) (M' := M) hX [(.iconst 0, 0, 0, 0), (.istore 7, 0, 0, 0), (.iconst (-1), 0, 0, 0), (.istore 8, 0, 0, 0), (.bipush 15, 0, 0, 0), (.istore 9, 0, 0, 0)] (by decide +kernel) rfl trivial ?_
      exact zG.wk [true, false, false, false, false, false, true, true, true, true] (pX1_restsOfTwo_117_ok hX hRm zFU _ _ _ _ _ _ h)
    · have h := zin c1 h
      obtain ⟨g11, h⟩ := zif h
      obtain ⟨g12, h⟩ := zif h
      refine zG.blk (pc' := 18) (l' := [some (2, x0), some (2, x1), some (2, x2), some (0, x3), some (0, x4), some (0, x5), some (0, x6), some (0, x7), none, none]) (st' := [(2, M x1 1), (2, M x0 1)]) (M' := M) hX [(.aload_n 0, 0, 0, 0), (.getfield 21, 1, 1, 2), (.aload_n 1, 0, 0, 0), (.getfield 39, 10, 1, 2)] (by decide +kernel) rfl (And.intro g11 (And.intro g12 trivial)) ?_
      obtain ⟨g15, h⟩ := zif h
      obtain ⟨q13, e14, h⟩ := zbd h
      refine zG.callV (b := M x0 1) (av := [(2, M x1 1)]) (st := []) (ci := 6) hX (pX6_copyFrom_ok e14) sv_1_44 rfl ⟨by decide, rfl⟩ g15 (by decide +kernel) (by rw [hRm]; exact ⟨Nat.le_of_ble_eq_true rfl, Nat.le_of_ble_eq_true rfl⟩) (by rw [hRm]; exact ⟨Nat.le_of_ble_eq_true rfl, Nat.le_of_ble_eq_true rfl⟩) (Nat.le_of_ble_eq_true rfl) ?_
      show zG C E 10 S 0 0 _ 21 [some (2, x0), some (2, x1), some (2, x2), some (0, x3), some (0, x4), some (0, x5), some (0, x6), some (0, x7), none, none] [] q13
      obtain ⟨g16, h⟩ := zif h
      obtain ⟨g17, h⟩ := zif h
      refine zG.blk (pc' := 36) (l' := [some (2, x0), some (2, x1), some (2, x2), some (0, x3), some (0, x4), some (0, x5), some (0, x6), some (0, x7), none, none]) (st' := []) (M' := (upM q13 (q13 (q13 x0 1) 1) x3 (w32 ((w32 (Int.tdiv x7 4)) * 3)))) hX [(.aload_n 0, 0, 0, 0), (.getfield 21, 1, 1, 2), (.getfield 113, 6, 1, 2), (.iload_n 3, 0, 0, 0), (.iload 7, 0, 0, 0), (.iconst 4, 0, 0, 0), (.idiv, 0, 0, 0), (.iconst 3, 0, 0, 0), (.imul, 0, 0, 0), (.iastore, 0, 0, 0)] (by decide +kernel) rfl (And.intro g11 (And.intro g16 (And.intro (by decide) (And.intro g17 trivial)))) ?_
      generalize upM q13 (q13 (q13 x0 1) 1) x3 (w32 ((w32 (Int.tdiv x7 4)) * 3)) = M18 at h ⊢
      have h := zlt h
      exact (pX1_restsOfTwo_36_ok hX hRm ih h)
noncomputable def pX1_restsOfTwo (S : ZS) (M : ZM) (a0 : Int) (a1 : Int) (a2 : Int) (a3 : Int) (a4 : Int) (a5 : Int) (a6 : Int) : Option (Int × ZM) := pX1_restsOfTwo_3 S zFU M a0 a1 a2 a3 a4 a5 a6 0
set_option maxHeartbeats 2000000 in
set_option maxRecDepth 20000 in
theorem pX1_restsOfTwo_go {C : ZC} {E : ZE} {S : ZS} {M : ZM} {a0 a1 a2 a3 a4 a5 a6 : Int} {q : (Int × ZM)} (hX : zCx C E 1 cX1_restsOfTwo 10 (some .int) false) (hRm : czR C = { frames := 6, cells := 0, slots := 0, locals := 164 }) (h : pX1_restsOfTwo  S M a0 a1 a2 a3 a4 a5 a6 = some q) : zG C E 10 S 0 0 (zQ C E 0 0 (some (0, q.1)) S q.2) 0 [some (2, a0), some (2, a1), some (2, a2), some (0, a3), some (0, a4), some (0, a5), some (0, a6), none, none, none] [] M := by
  unfold pX1_restsOfTwo at h
  refine zG.blk (pc' := 3) (l' := [some (2, a0), some (2, a1), some (2, a2), some (0, a3), some (0, a4), some (0, a5), some (0, a6), some (0, 0), none, none]) (st' := []) (M' := M) hX [(.iconst 0, 0, 0, 0), (.istore 7, 0, 0, 0)] (by decide +kernel) rfl trivial ?_
  exact (pX1_restsOfTwo_3_ok hX hRm zFU _ _ _ _ _ _ _ _ _ h)
theorem pX1_restsOfTwo_ok {l : Launch} {E : ZE} {S : ZS} {M : ZM} {a0 a1 a2 a3 a4 a5 a6 : Int} {q : (Int × ZM)} (h : pX1_restsOfTwo S M a0 a1 a2 a3 a4 a5 a6 = some q) : zMet l yX1_restsOfTwo cX1_restsOfTwo 10 (some .int) 6 164 0 0 E S M [(2, a0), (2, a1), (2, a2), (0, a3), (0, a4), (0, a5), (0, a6)] (some (0, q.1)) S q.2 :=
  zMet.of (o := 1) (ini := false) (by decide +kernel) rfl (fun h => by cases h) (Nat.le_of_ble_eq_true rfl) (fun C hX hl hRm => by subst hl; exact pX1_restsOfTwo_go hX hRm h)
noncomputable def pX1_washOut_22 (S : ZS) (M : ZM) : Option ZM := some M
set_option maxHeartbeats 2000000 in
set_option maxRecDepth 20000 in
theorem pX1_washOut_22_ok {C : ZC} {E : ZE} {S : ZS} {q : ZM} (hX : zCx C E 1 cX1_washOut 3 none false) (hRm : czR C = { frames := 1, cells := 0, slots := 0, locals := 40 }) {M : ZM} (h : pX1_washOut_22 S M = some q) : zG C E 3 S 0 0 (zQ C E 0 0 none S q) 22 [none, none, none] [] M := by
  unfold pX1_washOut_22 at h
  cases h
  exact zG.vret hX (by decide +kernel)
noncomputable def pX1_washOut (S : ZS) (M : ZM) (a0 : Int) (a1 : Int) (a2 : Int) : Option ZM := if S.1 a1 = 9 then if M a1 1 ≤ 0 then (pX1_washOut_22 S M) else (if S.1 a0 = 1 then if S.1 (M a0 1) = 6 then if ¬ M a1 1 = 0 then if S.1 (M (M a0 1) 2) = 100 ∧ (0 : Int) ≤ Int.tmod a2 (M a1 1) ∧ Int.tmod a2 (M a1 1) < S.2.1 (M (M a0 1) 2) then zlet (upM M (M (M a0 1) 2) (Int.tmod a2 (M a1 1)) (-1)) fun M7 => pX1_washOut_22 S M7 else none else none else none else none) else none
set_option maxHeartbeats 2000000 in
set_option maxRecDepth 20000 in
theorem pX1_washOut_go {C : ZC} {E : ZE} {S : ZS} {M : ZM} {a0 a1 a2 : Int} {q : ZM} (hX : zCx C E 1 cX1_washOut 3 none false) (hRm : czR C = { frames := 1, cells := 0, slots := 0, locals := 40 }) (h : pX1_washOut  S M a0 a1 a2 = some q) : zG C E 3 S 0 0 (zQ C E 0 0 none S q) 0 [some (2, a0), some (2, a1), some (0, a2)] [] M := by
  unfold pX1_washOut at h
  obtain ⟨g1, h⟩ := zif h
  refine zG.blk (pc' := 4) (l' := [some (2, a0), some (2, a1), some (0, a2)]) (st' := [(0, M a1 1)]) (M' := M) hX [(.aload_n 1, 0, 0, 0), (.getfield 59, 9, 1, 0)] (by decide +kernel) rfl (And.intro g1 trivial) ?_
  refine zG.if_le (tgt := 22) (off := 18) hX (by decide +kernel) (by decide) (fun c2 => ?_) (fun c2 => ?_)
  · have h := zip c2 h
    exact zG.wk [false, false, false] (pX1_washOut_22_ok hX hRm h)
  · have h := zin c2 h
    obtain ⟨g3, h⟩ := zif h
    obtain ⟨g4, h⟩ := zif h
    obtain ⟨g5, h⟩ := zif h
    obtain ⟨g6, h⟩ := zif h
    refine zG.blk (pc' := 22) (l' := [some (2, a0), some (2, a1), some (0, a2)]) (st' := []) (M' := (upM M (M (M a0 1) 2) (Int.tmod a2 (M a1 1)) (-1))) hX [(.aload_n 0, 0, 0, 0), (.getfield 21, 1, 1, 2), (.getfield 90, 6, 2, 2), (.iload_n 2, 0, 0, 0), (.aload_n 1, 0, 0, 0), (.getfield 59, 9, 1, 0), (.irem, 0, 0, 0), (.iconst (-1), 0, 0, 0), (.iastore, 0, 0, 0)] (by decide +kernel) rfl (And.intro g3 (And.intro g4 (And.intro g1 (And.intro g5 (And.intro g6 trivial))))) ?_
    generalize upM M (M (M a0 1) 2) (Int.tmod a2 (M a1 1)) (-1) = M7 at h ⊢
    have h := zlt h
    exact zG.wk [false, false, false] (pX1_washOut_22_ok hX hRm h)
theorem pX1_washOut_ok {l : Launch} {E : ZE} {S : ZS} {M : ZM} {a0 a1 a2 : Int} {q : ZM} (h : pX1_washOut S M a0 a1 a2 = some q) : zMet l yX1_washOut cX1_washOut 3 none 1 40 0 0 E S M [(2, a0), (2, a1), (0, a2)] (none) S q :=
  zMet.of (o := 1) (ini := false) (by decide +kernel) rfl (fun h => by cases h) (Nat.le_of_ble_eq_true rfl) (fun C hX hl hRm => by subst hl; exact pX1_washOut_go hX hRm h)
noncomputable def pX1_summers_141 (S : ZS) (k15 : ZM → Int → Int → Int → Int → Int → Int → Int → Int → Int → Int → Int → Option (Int × ZM)) (M : ZM) (x0 : Int) (x1 : Int) (x2 : Int) (x3 : Int) (x4 : Int) (x5 : Int) (x6 : Int) (x7 : Int) (x8 : Int) (x9 : Int) (x10 : Int) : Option (Int × ZM) := k15 M x0 x1 x2 x3 x4 x5 x6 x7 x8 x9 (w32 (x10 + 1))
set_option maxHeartbeats 2000000 in
set_option maxRecDepth 20000 in
theorem pX1_summers_141_ok {C : ZC} {E : ZE} {S : ZS} {k15 : ZM → Int → Int → Int → Int → Int → Int → Int → Int → Int → Int → Int → Option (Int × ZM)} {q : (Int × ZM)} (hX : zCx C E 1 cX1_summers 12 (some .int) false) (hRm : czR C = { frames := 5, cells := 0, slots := 0, locals := 139 }) (hk15 : ∀ M x0 x1 x2 x3 x4 x5 x6 x7 x8 x9 x10, k15 M x0 x1 x2 x3 x4 x5 x6 x7 x8 x9 x10 = some q → zG C E 12 S 0 0 (zQ C E 0 0 (some (0, q.1)) S q.2) 15 [some (2, x0), some (2, x1), some (2, x2), some (0, x3), some (0, x4), some (0, x5), some (0, x6), some (0, x7), some (0, x8), some (0, x9), some (0, x10), none] [] M) {M : ZM} {x0 : Int} {x1 : Int} {x2 : Int} {x3 : Int} {x4 : Int} {x5 : Int} {x6 : Int} {x7 : Int} {x8 : Int} {x9 : Int} {x10 : Int} (h : pX1_summers_141 S k15 M x0 x1 x2 x3 x4 x5 x6 x7 x8 x9 x10 = some q) : zG C E 12 S 0 0 (zQ C E 0 0 (some (0, q.1)) S q.2) 141 [some (2, x0), some (2, x1), some (2, x2), some (0, x3), some (0, x4), some (0, x5), some (0, x6), some (0, x7), some (0, x8), some (0, x9), some (0, x10), none] [] M := by
  unfold pX1_summers_141 at h
  refine zG.blk (pc' := 144) (l' := [some (2, x0), some (2, x1), some (2, x2), some (0, x3), some (0, x4), some (0, x5), some (0, x6), some (0, x7), some (0, x8), some (0, x9), some (0, w32 (x10 + 1)), none]) (st' := []) (M' := M) hX [(.iinc 10 1, 0, 0, 0)] (by decide +kernel) rfl trivial ?_
  refine zG.goto (tgt := 15) (off := (-129)) hX (by decide +kernel) (by decide) ?_
  exact (hk15 _ _ _ _ _ _ _ _ _ _ _ _ h)
theorem ss_1_126 : zSS 1 126 yX1_drawnFrom cX1_drawnFrom 1 (some .int) 1 := ⟨⟨gt_at 1094 (by decide +kernel) rfl, gt_at 1095 (by decide +kernel) rfl, gt_at 114 (by decide +kernel) rfl, gt_at 1096 (by decide +kernel) rfl⟩, by decide +kernel, by decide +kernel, by decide +kernel⟩
noncomputable def pX1_summers_82 (S : ZS) (k15 : ZM → Int → Int → Int → Int → Int → Int → Int → Int → Int → Int → Int → Option (Int × ZM)) (k35 : ZM → Int → Int → Int → Int → Int → Int → Int → Int → Int → Int → Int → Int → Option (Int × ZM)) (M : ZM) (x0 : Int) (x1 : Int) (x2 : Int) (x3 : Int) (x4 : Int) (x5 : Int) (x6 : Int) (x7 : Int) (x8 : Int) (x9 : Int) (x10 : Int) (x11 : Int) : Option (Int × ZM) := if S.1 x0 = 1 then if S.1 x1 = 10 then if S.1 (M x0 0) = 0 then (pX0_one S M (M x0 0) (M x1 0) (M x0 1) x2).bind fun q24 => k35 q24.2 x0 x1 x2 x3 x4 x5 x6 x7 x8 x9 x10 (w32 (x11 + 1)) else none else none else none
set_option maxHeartbeats 2000000 in
set_option maxRecDepth 20000 in
theorem pX1_summers_82_ok {C : ZC} {E : ZE} {S : ZS} {k15 : ZM → Int → Int → Int → Int → Int → Int → Int → Int → Int → Int → Int → Option (Int × ZM)} {k35 : ZM → Int → Int → Int → Int → Int → Int → Int → Int → Int → Int → Int → Int → Option (Int × ZM)} {q : (Int × ZM)} (hX : zCx C E 1 cX1_summers 12 (some .int) false) (hRm : czR C = { frames := 5, cells := 0, slots := 0, locals := 139 }) (hk15 : ∀ M x0 x1 x2 x3 x4 x5 x6 x7 x8 x9 x10, k15 M x0 x1 x2 x3 x4 x5 x6 x7 x8 x9 x10 = some q → zG C E 12 S 0 0 (zQ C E 0 0 (some (0, q.1)) S q.2) 15 [some (2, x0), some (2, x1), some (2, x2), some (0, x3), some (0, x4), some (0, x5), some (0, x6), some (0, x7), some (0, x8), some (0, x9), some (0, x10), none] [] M) (hk35 : ∀ M x0 x1 x2 x3 x4 x5 x6 x7 x8 x9 x10 x11, k35 M x0 x1 x2 x3 x4 x5 x6 x7 x8 x9 x10 x11 = some q → zG C E 12 S 0 0 (zQ C E 0 0 (some (0, q.1)) S q.2) 35 [some (2, x0), some (2, x1), some (2, x2), some (0, x3), some (0, x4), some (0, x5), some (0, x6), some (0, x7), some (0, x8), some (0, x9), some (0, x10), some (0, x11)] [] M) {M : ZM} {x0 : Int} {x1 : Int} {x2 : Int} {x3 : Int} {x4 : Int} {x5 : Int} {x6 : Int} {x7 : Int} {x8 : Int} {x9 : Int} {x10 : Int} {x11 : Int} (h : pX1_summers_82 S k15 k35 M x0 x1 x2 x3 x4 x5 x6 x7 x8 x9 x10 x11 = some q) : zG C E 12 S 0 0 (zQ C E 0 0 (some (0, q.1)) S q.2) 82 [some (2, x0), some (2, x1), some (2, x2), some (0, x3), some (0, x4), some (0, x5), some (0, x6), some (0, x7), some (0, x8), some (0, x9), some (0, x10), some (0, x11)] [] M := by
  unfold pX1_summers_82 at h
  obtain ⟨g22, h⟩ := zif h
  obtain ⟨g23, h⟩ := zif h
  refine zG.blk (pc' := 95) (l' := [some (2, x0), some (2, x1), some (2, x2), some (0, x3), some (0, x4), some (0, x5), some (0, x6), some (0, x7), some (0, x8), some (0, x9), some (0, x10), some (0, x11)]) (st' := [(2, x2), (2, M x0 1), (2, M x1 0), (2, M x0 0)]) (M' := M) hX [(.aload_n 0, 0, 0, 0), (.getfield 12, 1, 0, 2), (.aload_n 1, 0, 0, 0), (.getfield 48, 10, 0, 2), (.aload_n 0, 0, 0, 0), (.getfield 21, 1, 1, 2), (.aload_n 2, 0, 0, 0)] (by decide +kernel) rfl (And.intro g22 (And.intro g23 (And.intro g22 trivial))) ?_
  obtain ⟨g26, h⟩ := zif h
  obtain ⟨q24, e25, h⟩ := zbd h
  refine zG.callV (b := M x0 0) (av := [(2, M x1 0), (2, M x0 1), (2, x2)]) (st := []) (ci := 0) hX (pX0_one_ok e25) sv_1_70 rfl ⟨by decide, rfl⟩ g26 (by decide +kernel) (by rw [hRm]; exact ⟨Nat.le_of_ble_eq_true rfl, Nat.le_of_ble_eq_true rfl⟩) (by rw [hRm]; exact ⟨Nat.le_of_ble_eq_true rfl, Nat.le_of_ble_eq_true rfl⟩) (Nat.le_of_ble_eq_true rfl) ?_
  show zG C E 12 S 0 0 _ 98 [some (2, x0), some (2, x1), some (2, x2), some (0, x3), some (0, x4), some (0, x5), some (0, x6), some (0, x7), some (0, x8), some (0, x9), some (0, x10), some (0, x11)] [(0, q24.1)] q24.2
  refine zG.blk (pc' := 102) (l' := [some (2, x0), some (2, x1), some (2, x2), some (0, x3), some (0, x4), some (0, x5), some (0, x6), some (0, x7), some (0, x8), some (0, x9), some (0, x10), some (0, w32 (x11 + 1))]) (st' := []) (M' := q24.2) hX [(.pop, 0, 0, 0), (.iinc 11 1, 0, 0, 0)] (by decide +kernel) rfl trivial ?_
  refine zG.goto (tgt := 35) (off := (-67)) hX (by decide +kernel) (by decide) ?_
  exact (hk35 _ _ _ _ _ _ _ _ _ _ _ _ _ h)
theorem sv_1_130 : zSV 1 130 yX1_washOut cX1_washOut 3 none 2 := ⟨⟨gt_at 1101 (by decide +kernel) rfl, gt_at 1103 (by decide +kernel) rfl, gt_at 35 (by decide +kernel) rfl, gt_at 114 (by decide +kernel) rfl, gt_at 1104 (by decide +kernel) rfl⟩, by decide +kernel, by decide +kernel, by decide +kernel⟩
noncomputable def pX1_summers_35 (S : ZS) (k15 : ZM → Int → Int → Int → Int → Int → Int → Int → Int → Int → Int → Int → Option (Int × ZM)) : Nat → ZM → Int → Int → Int → Int → Int → Int → Int → Int → Int → Int → Int → Int → Option (Int × ZM)
  | 0 => fun _ _ _ _ _ _ _ _ _ _ _ _ _ => none
  | n + 1 => fun M x0 x1 x2 x3 x4 x5 x6 x7 x8 x9 x10 x11 => if x4 ≤ x11 then (if S.1 x0 = 1 then if S.1 x1 = 10 then if S.1 (M x0 1) = 6 then (pX6_like S M (M x0 1) (M x1 0)).bind fun q13 => if S.1 (q13.2 x0 1) = 6 then if S.1 (q13.2 x1 1) = 6 then zlet (w32 (x9 + (w32 ((q13.2 (q13.2 x0 1) 6) - (q13.2 (q13.2 x1 1) 6))))) fun x18 => pX1_summers_141 S k15 q13.2 x0 x1 x2 x3 x4 x5 x6 x7 (w32 (x8 + q13.1)) x18 x10 else none else none else none else none else none) else ((pX1_drawnFrom S M x7).bind fun q19 => if x5 ≤ Int.tmod (w32 (Int.tdiv q19.1 65536)) 100 then (pX1_summers_82 S k15 (pX1_summers_35 S k15 n) q19.2 x0 x1 x2 x3 x4 x5 x6 q19.1 x8 x9 x10 x11) else ((pX1_drawnFrom S q19.2 q19.1).bind fun q27 => if S.1 x1 = 10 then if S.1 x0 = 1 then (pX1_washOut S q27.2 x0 (q27.2 x1 0) (w32 (Int.tdiv q27.1 65536))).bind fun q30 => pX1_summers_82 S k15 (pX1_summers_35 S k15 n) q30 x0 x1 x2 x3 x4 x5 x6 q27.1 x8 x9 x10 x11 else none else none))
set_option maxHeartbeats 2000000 in
set_option maxRecDepth 20000 in
theorem pX1_summers_35_ok {C : ZC} {E : ZE} {S : ZS} {k15 : ZM → Int → Int → Int → Int → Int → Int → Int → Int → Int → Int → Int → Option (Int × ZM)} {q : (Int × ZM)} (hX : zCx C E 1 cX1_summers 12 (some .int) false) (hRm : czR C = { frames := 5, cells := 0, slots := 0, locals := 139 }) (hk15 : ∀ M x0 x1 x2 x3 x4 x5 x6 x7 x8 x9 x10, k15 M x0 x1 x2 x3 x4 x5 x6 x7 x8 x9 x10 = some q → zG C E 12 S 0 0 (zQ C E 0 0 (some (0, q.1)) S q.2) 15 [some (2, x0), some (2, x1), some (2, x2), some (0, x3), some (0, x4), some (0, x5), some (0, x6), some (0, x7), some (0, x8), some (0, x9), some (0, x10), none] [] M) : ∀ (n : Nat) (M : ZM) (x0 : Int) (x1 : Int) (x2 : Int) (x3 : Int) (x4 : Int) (x5 : Int) (x6 : Int) (x7 : Int) (x8 : Int) (x9 : Int) (x10 : Int) (x11 : Int), pX1_summers_35 S k15 n M x0 x1 x2 x3 x4 x5 x6 x7 x8 x9 x10 x11 = some q → zG C E 12 S 0 0 (zQ C E 0 0 (some (0, q.1)) S q.2) 35 [some (2, x0), some (2, x1), some (2, x2), some (0, x3), some (0, x4), some (0, x5), some (0, x6), some (0, x7), some (0, x8), some (0, x9), some (0, x10), some (0, x11)] [] M := by
  intro n
  induction n with
  | zero => intro M x0 x1 x2 x3 x4 x5 x6 x7 x8 x9 x10 x11 h; cases h
  | succ n ih =>
    intro M x0 x1 x2 x3 x4 x5 x6 x7 x8 x9 x10 x11 h
    unfold pX1_summers_35 at h
    refine zG.blk (pc' := 39) (l' := [some (2, x0), some (2, x1), some (2, x2), some (0, x3), some (0, x4), some (0, x5), some (0, x6), some (0, x7), some (0, x8), some (0, x9), some (0, x10), some (0, x11)]) (st' := [(0, x4), (0, x11)]) (M' := M) hX [(.iload 11, 0, 0, 0), (.iload 4, 0, 0, 0)] (by decide +kernel) rfl trivial ?_
    refine zG.icmp_ge (tgt := 105) (off := 66) hX (by decide +kernel) (by decide) (fun c10 => ?_) (fun c10 => ?_)
    · have h := zip c10 h
      obtain ⟨g11, h⟩ := zif h
      obtain ⟨g12, h⟩ := zif h
      refine zG.blk (pc' := 115) (l' := [some (2, x0), some (2, x1), some (2, x2), some (0, x3), some (0, x4), some (0, x5), some (0, x6), some (0, x7), some (0, x8), some (0, x9), some (0, x10), some (0, x11)]) (st' := [(2, M x1 0), (2, M x0 1), (0, x8)]) (M' := M) hX [(.iload 8, 0, 0, 0), (.aload_n 0, 0, 0, 0), (.getfield 21, 1, 1, 2), (.aload_n 1, 0, 0, 0), (.getfield 48, 10, 0, 2)] (by decide +kernel) rfl (And.intro g11 (And.intro g12 trivial)) ?_
      obtain ⟨g15, h⟩ := zif h
      obtain ⟨q13, e14, h⟩ := zbd h
      refine zG.callV (b := M x0 1) (av := [(2, M x1 0)]) (st := [(0, x8)]) (ci := 6) hX (pX6_like_ok e14) sv_1_55 rfl ⟨by decide, rfl⟩ g15 (by decide +kernel) (by rw [hRm]; exact ⟨Nat.le_of_ble_eq_true rfl, Nat.le_of_ble_eq_true rfl⟩) (by rw [hRm]; exact ⟨Nat.le_of_ble_eq_true rfl, Nat.le_of_ble_eq_true rfl⟩) (Nat.le_of_ble_eq_true rfl) ?_
      show zG C E 12 S 0 0 _ 118 [some (2, x0), some (2, x1), some (2, x2), some (0, x3), some (0, x4), some (0, x5), some (0, x6), some (0, x7), some (0, x8), some (0, x9), some (0, x10), some (0, x11)] [(0, q13.1), (0, x8)] q13.2
      obtain ⟨g16, h⟩ := zif h
      obtain ⟨g17, h⟩ := zif h
      refine zG.blk (pc' := 141) (l' := [some (2, x0), some (2, x1), some (2, x2), some (0, x3), some (0, x4), some (0, x5), some (0, x6), some (0, x7), some (0, w32 (x8 + q13.1)), some (0, w32 (x9 + (w32 ((q13.2 (q13.2 x0 1) 6) - (q13.2 (q13.2 x1 1) 6))))), some (0, x10), some (0, x11)]) (st' := []) (M' := q13.2) hX [(.iadd, 0, 0, 0), (.istore 8, 0, 0, 0), (.iload 9, 0, 0, 0), (.aload_n 0, 0, 0, 0), (.getfield 21, 1, 1, 2), (.getfield 134, 6, 6, 0), (.aload_n 1, 0, 0, 0), (.getfield 39, 10, 1, 2), (.getfield 134, 6, 6, 0), (.isub, 0, 0, 0), (.iadd, 0, 0, 0), (.istore 9, 0, 0, 0)] (by decide +kernel) rfl (And.intro g11 (And.intro g16 (And.intro g12 (And.intro g17 trivial)))) ?_
      generalize w32 (x9 + (w32 ((q13.2 (q13.2 x0 1) 6) - (q13.2 (q13.2 x1 1) 6)))) = x18 at h ⊢
      have h := zlt h
      exact zG.wk [true, true, true, true, true, true, true, true, true, true, true, false] (pX1_summers_141_ok hX hRm hk15 h)
    · have h := zin c10 h
      refine zG.blk (pc' := 44) (l' := [some (2, x0), some (2, x1), some (2, x2), some (0, x3), some (0, x4), some (0, x5), some (0, x6), some (0, x7), some (0, x8), some (0, x9), some (0, x10), some (0, x11)]) (st' := [(0, x7)]) (M' := M) hX [(.iload 7, 0, 0, 0)] (by decide +kernel) rfl trivial ?_
      obtain ⟨q19, e20, h⟩ := zbd h
      refine zG.callS (av := [(0, x7)]) (st := []) hX (pX1_drawnFrom_ok e20) ss_1_126 rfl (by decide +kernel) (by rw [hRm]; exact ⟨Nat.le_of_ble_eq_true rfl, Nat.le_of_ble_eq_true rfl⟩) (by rw [hRm]; exact ⟨Nat.le_of_ble_eq_true rfl, Nat.le_of_ble_eq_true rfl⟩) (Nat.le_of_ble_eq_true rfl) ?_
      show zG C E 12 S 0 0 _ 47 [some (2, x0), some (2, x1), some (2, x2), some (0, x3), some (0, x4), some (0, x5), some (0, x6), some (0, x7), some (0, x8), some (0, x9), some (0, x10), some (0, x11)] [(0, q19.1)] q19.2
      refine zG.blk (pc' := 59) (l' := [some (2, x0), some (2, x1), some (2, x2), some (0, x3), some (0, x4), some (0, x5), some (0, x6), some (0, q19.1), some (0, x8), some (0, x9), some (0, x10), some (0, x11)]) (st' := [(0, x5), (0, Int.tmod (w32 (Int.tdiv q19.1 65536)) 100)]) (M' := q19.2) hX [(.istore 7, 0, 0, 0), (.iload 7, 0, 0, 0), (.ldc 129, 65536, 0, 0), (.idiv, 0, 0, 0), (.bipush 100, 0, 0, 0), (.irem, 0, 0, 0), (.iload 5, 0, 0, 0)] (by decide +kernel) rfl (And.intro (by decide) (And.intro (by decide) trivial)) ?_
      refine zG.icmp_ge (tgt := 82) (off := 23) hX (by decide +kernel) (by decide) (fun c21 => ?_) (fun c21 => ?_)
      · have h := zip c21 h
        exact (pX1_summers_82_ok hX hRm hk15 ih h)
      · have h := zin c21 h
        refine zG.blk (pc' := 64) (l' := [some (2, x0), some (2, x1), some (2, x2), some (0, x3), some (0, x4), some (0, x5), some (0, x6), some (0, q19.1), some (0, x8), some (0, x9), some (0, x10), some (0, x11)]) (st' := [(0, q19.1)]) (M' := q19.2) hX [(.iload 7, 0, 0, 0)] (by decide +kernel) rfl trivial ?_
        obtain ⟨q27, e28, h⟩ := zbd h
        refine zG.callS (av := [(0, q19.1)]) (st := []) hX (pX1_drawnFrom_ok e28) ss_1_126 rfl (by decide +kernel) (by rw [hRm]; exact ⟨Nat.le_of_ble_eq_true rfl, Nat.le_of_ble_eq_true rfl⟩) (by rw [hRm]; exact ⟨Nat.le_of_ble_eq_true rfl, Nat.le_of_ble_eq_true rfl⟩) (Nat.le_of_ble_eq_true rfl) ?_
        show zG C E 12 S 0 0 _ 67 [some (2, x0), some (2, x1), some (2, x2), some (0, x3), some (0, x4), some (0, x5), some (0, x6), some (0, q19.1), some (0, x8), some (0, x9), some (0, x10), some (0, x11)] [(0, q27.1)] q27.2
        obtain ⟨g29, h⟩ := zif h
        refine zG.blk (pc' := 79) (l' := [some (2, x0), some (2, x1), some (2, x2), some (0, x3), some (0, x4), some (0, x5), some (0, x6), some (0, q27.1), some (0, x8), some (0, x9), some (0, x10), some (0, x11)]) (st' := [(0, w32 (Int.tdiv q27.1 65536)), (2, q27.2 x1 0), (2, x0)]) (M' := q27.2) hX [(.istore 7, 0, 0, 0), (.aload_n 0, 0, 0, 0), (.aload_n 1, 0, 0, 0), (.getfield 48, 10, 0, 2), (.iload 7, 0, 0, 0), (.ldc 129, 65536, 0, 0), (.idiv, 0, 0, 0)] (by decide +kernel) rfl (And.intro g29 (And.intro (by decide) trivial)) ?_
        obtain ⟨g32, h⟩ := zif h
        obtain ⟨q30, e31, h⟩ := zbd h
        refine zG.callV (b := x0) (av := [(2, q27.2 x1 0), (0, w32 (Int.tdiv q27.1 65536))]) (st := []) (ci := 1) hX (pX1_washOut_ok e31) sv_1_130 rfl ⟨by decide, rfl⟩ g32 (by decide +kernel) (by rw [hRm]; exact ⟨Nat.le_of_ble_eq_true rfl, Nat.le_of_ble_eq_true rfl⟩) (by rw [hRm]; exact ⟨Nat.le_of_ble_eq_true rfl, Nat.le_of_ble_eq_true rfl⟩) (Nat.le_of_ble_eq_true rfl) ?_
        show zG C E 12 S 0 0 _ 82 [some (2, x0), some (2, x1), some (2, x2), some (0, x3), some (0, x4), some (0, x5), some (0, x6), some (0, q27.1), some (0, x8), some (0, x9), some (0, x10), some (0, x11)] [] q30
        exact (pX1_summers_82_ok hX hRm hk15 ih h)
noncomputable def pX1_summers_15 (S : ZS) : Nat → ZM → Int → Int → Int → Int → Int → Int → Int → Int → Int → Int → Int → Option (Int × ZM)
  | 0 => fun _ _ _ _ _ _ _ _ _ _ _ _ => none
  | n + 1 => fun M x0 x1 x2 x3 x4 x5 x6 x7 x8 x9 x10 => if x3 ≤ x10 then (some ((if x6 = 0 then (x8 : Int) else x9), M)) else (if S.1 x0 = 1 then if S.1 x1 = 10 then if S.1 (M x0 1) = 6 then (pX6_copyFrom S M (M x0 1) (M x1 1)).bind fun q7 => pX1_summers_35 S (pX1_summers_15 S n) zFU q7 x0 x1 x2 x3 x4 x5 x6 x7 x8 x9 x10 0 else none else none else none)
set_option maxHeartbeats 2000000 in
set_option maxRecDepth 20000 in
theorem pX1_summers_15_ok {C : ZC} {E : ZE} {S : ZS} {q : (Int × ZM)} (hX : zCx C E 1 cX1_summers 12 (some .int) false) (hRm : czR C = { frames := 5, cells := 0, slots := 0, locals := 139 }) : ∀ (n : Nat) (M : ZM) (x0 : Int) (x1 : Int) (x2 : Int) (x3 : Int) (x4 : Int) (x5 : Int) (x6 : Int) (x7 : Int) (x8 : Int) (x9 : Int) (x10 : Int), pX1_summers_15 S n M x0 x1 x2 x3 x4 x5 x6 x7 x8 x9 x10 = some q → zG C E 12 S 0 0 (zQ C E 0 0 (some (0, q.1)) S q.2) 15 [some (2, x0), some (2, x1), some (2, x2), some (0, x3), some (0, x4), some (0, x5), some (0, x6), some (0, x7), some (0, x8), some (0, x9), some (0, x10), none] [] M := by
  intro n
  induction n with
  | zero => intro M x0 x1 x2 x3 x4 x5 x6 x7 x8 x9 x10 h; cases h
  | succ n ih =>
    intro M x0 x1 x2 x3 x4 x5 x6 x7 x8 x9 x10 h
    unfold pX1_summers_15 at h
    refine zG.blk (pc' := 18) (l' := [some (2, x0), some (2, x1), some (2, x2), some (0, x3), some (0, x4), some (0, x5), some (0, x6), some (0, x7), some (0, x8), some (0, x9), some (0, x10), none]) (st' := [(0, x3), (0, x10)]) (M' := M) hX [(.iload 10, 0, 0, 0), (.iload_n 3, 0, 0, 0)] (by decide +kernel) rfl trivial ?_
    refine zG.icmp_ge (tgt := 147) (off := 129) hX (by decide +kernel) (by decide) (fun c2 => ?_) (fun c2 => ?_)
    · have h := zip c2 h
      refine zG.blk (pc' := 149) (l' := [some (2, x0), some (2, x1), some (2, x2), some (0, x3), some (0, x4), some (0, x5), some (0, x6), some (0, x7), some (0, x8), some (0, x9), some (0, x10), none]) (st' := [(0, x6)]) (M' := M) hX [(.iload 6, 0, 0, 0)] (by decide +kernel) rfl trivial ?_
      have key3 : zG C E 12 S 0 0 (zQ C E 0 0 (some (0, q.1)) S q.2) 159 [some (2, x0), some (2, x1), some (2, x2), some (0, x3), some (0, x4), some (0, x5), some (0, x6), some (0, x7), some (0, x8), some (0, x9), some (0, x10), none] [(0, (if x6 = 0 then (x8 : Int) else x9))] M := by
        cases h
        exact zG.iret hX (by decide +kernel)
      refine zG.if_ne (tgt := 157) (off := 8) hX (by decide +kernel) (by decide) (fun c4 => ?_) (fun c4 => ?_)
      · refine zG.blk (pc' := 159) (l' := [some (2, x0), some (2, x1), some (2, x2), some (0, x3), some (0, x4), some (0, x5), some (0, x6), some (0, x7), some (0, x8), some (0, x9), some (0, x10), none]) (st' := [(0, x9)]) (M' := M) hX [(.iload 9, 0, 0, 0)] (by decide +kernel) rfl trivial ?_
        (have k := key3; simp only [if_neg c4] at k; exact k)
      · refine zG.blk (pc' := 154) (l' := [some (2, x0), some (2, x1), some (2, x2), some (0, x3), some (0, x4), some (0, x5), some (0, x6), some (0, x7), some (0, x8), some (0, x9), some (0, x10), none]) (st' := [(0, x8)]) (M' := M) hX [(.iload 8, 0, 0, 0)] (by decide +kernel) rfl trivial ?_
        refine zG.goto (tgt := 159) (off := 5) hX (by decide +kernel) (by decide) ?_
        (have k := key3; simp only [if_pos c4] at k; exact k)
    · have h := zin c2 h
      obtain ⟨g5, h⟩ := zif h
      obtain ⟨g6, h⟩ := zif h
      refine zG.blk (pc' := 29) (l' := [some (2, x0), some (2, x1), some (2, x2), some (0, x3), some (0, x4), some (0, x5), some (0, x6), some (0, x7), some (0, x8), some (0, x9), some (0, x10), none]) (st' := [(2, M x1 1), (2, M x0 1)]) (M' := M) hX [(.aload_n 0, 0, 0, 0), (.getfield 21, 1, 1, 2), (.aload_n 1, 0, 0, 0), (.getfield 39, 10, 1, 2)] (by decide +kernel) rfl (And.intro g5 (And.intro g6 trivial)) ?_
      obtain ⟨g9, h⟩ := zif h
      obtain ⟨q7, e8, h⟩ := zbd h
      refine zG.callV (b := M x0 1) (av := [(2, M x1 1)]) (st := []) (ci := 6) hX (pX6_copyFrom_ok e8) sv_1_44 rfl ⟨by decide, rfl⟩ g9 (by decide +kernel) (by rw [hRm]; exact ⟨Nat.le_of_ble_eq_true rfl, Nat.le_of_ble_eq_true rfl⟩) (by rw [hRm]; exact ⟨Nat.le_of_ble_eq_true rfl, Nat.le_of_ble_eq_true rfl⟩) (Nat.le_of_ble_eq_true rfl) ?_
      show zG C E 12 S 0 0 _ 32 [some (2, x0), some (2, x1), some (2, x2), some (0, x3), some (0, x4), some (0, x5), some (0, x6), some (0, x7), some (0, x8), some (0, x9), some (0, x10), none] [] q7
      refine zG.blk (pc' := 35) (l' := [some (2, x0), some (2, x1), some (2, x2), some (0, x3), some (0, x4), some (0, x5), some (0, x6), some (0, x7), some (0, x8), some (0, x9), some (0, x10), some (0, 0)]) (st' := []) (M' := q7) hX [(.iconst 0, 0, 0, 0), (.istore 11, 0, 0, 0)] (by decide +kernel) rfl trivial ?_
      exact (pX1_summers_35_ok hX hRm ih zFU _ _ _ _ _ _ _ _ _ _ _ _ _ h)
noncomputable def pX1_summers (S : ZS) (M : ZM) (a0 : Int) (a1 : Int) (a2 : Int) (a3 : Int) (a4 : Int) (a5 : Int) (a6 : Int) : Option (Int × ZM) := if S.1 a1 = 10 then pX1_summers_15 S zFU M a0 a1 a2 a3 a4 a5 a6 (M a1 8) 0 0 0 else none
set_option maxHeartbeats 2000000 in
set_option maxRecDepth 20000 in
theorem pX1_summers_go {C : ZC} {E : ZE} {S : ZS} {M : ZM} {a0 a1 a2 a3 a4 a5 a6 : Int} {q : (Int × ZM)} (hX : zCx C E 1 cX1_summers 12 (some .int) false) (hRm : czR C = { frames := 5, cells := 0, slots := 0, locals := 139 }) (h : pX1_summers  S M a0 a1 a2 a3 a4 a5 a6 = some q) : zG C E 12 S 0 0 (zQ C E 0 0 (some (0, q.1)) S q.2) 0 [some (2, a0), some (2, a1), some (2, a2), some (0, a3), some (0, a4), some (0, a5), some (0, a6), none, none, none, none, none] [] M := by
  unfold pX1_summers at h
  obtain ⟨g1, h⟩ := zif h
  refine zG.blk (pc' := 15) (l' := [some (2, a0), some (2, a1), some (2, a2), some (0, a3), some (0, a4), some (0, a5), some (0, a6), some (0, M a1 8), some (0, 0), some (0, 0), some (0, 0), none]) (st' := []) (M' := M) hX [(.aload_n 1, 0, 0, 0), (.getfield 123, 10, 8, 0), (.istore 7, 0, 0, 0), (.iconst 0, 0, 0, 0), (.istore 8, 0, 0, 0), (.iconst 0, 0, 0, 0), (.istore 9, 0, 0, 0), (.iconst 0, 0, 0, 0), (.istore 10, 0, 0, 0)] (by decide +kernel) rfl (And.intro g1 trivial) ?_
  exact (pX1_summers_15_ok hX hRm zFU _ _ _ _ _ _ _ _ _ _ _ _ h)
theorem pX1_summers_ok {l : Launch} {E : ZE} {S : ZS} {M : ZM} {a0 a1 a2 a3 a4 a5 a6 : Int} {q : (Int × ZM)} (h : pX1_summers S M a0 a1 a2 a3 a4 a5 a6 = some q) : zMet l yX1_summers cX1_summers 12 (some .int) 5 139 0 0 E S M [(2, a0), (2, a1), (2, a2), (0, a3), (0, a4), (0, a5), (0, a6)] (some (0, q.1)) S q.2 :=
  zMet.of (o := 1) (ini := false) (by decide +kernel) rfl (fun h => by cases h) (Nat.le_of_ble_eq_true rfl) (fun C hX hl hRm => by subst hl; exact pX1_summers_go hX hRm h)
noncomputable def pX1_writersIn_144 (S : ZS) (k6 : ZM → Int → Int → Int → Int → Int → Int → Int → Option (Int × ZM)) (M : ZM) (x0 : Int) (x1 : Int) (x2 : Int) (x3 : Int) (x4 : Int) (x5 : Int) (x6 : Int) : Option (Int × ZM) := k6 M x0 x1 x2 x3 x4 x5 (w32 (x6 + 1))
set_option maxHeartbeats 2000000 in
set_option maxRecDepth 20000 in
theorem pX1_writersIn_144_ok {C : ZC} {E : ZE} {S : ZS} {k6 : ZM → Int → Int → Int → Int → Int → Int → Int → Option (Int × ZM)} {q : (Int × ZM)} (hX : zCx C E 1 cX1_writersIn 9 (some .int) false) (hRm : czR C = { frames := 5, cells := 0, slots := 0, locals := 139 }) (hk6 : ∀ M x0 x1 x2 x3 x4 x5 x6, k6 M x0 x1 x2 x3 x4 x5 x6 = some q → zG C E 9 S 0 0 (zQ C E 0 0 (some (0, q.1)) S q.2) 6 [some (2, x0), some (2, x1), some (2, x2), some (0, x3), some (0, x4), some (0, x5), some (0, x6), none, none] [] M) {M : ZM} {x0 : Int} {x1 : Int} {x2 : Int} {x3 : Int} {x4 : Int} {x5 : Int} {x6 : Int} (h : pX1_writersIn_144 S k6 M x0 x1 x2 x3 x4 x5 x6 = some q) : zG C E 9 S 0 0 (zQ C E 0 0 (some (0, q.1)) S q.2) 144 [some (2, x0), some (2, x1), some (2, x2), some (0, x3), some (0, x4), some (0, x5), some (0, x6), none, none] [] M := by
  unfold pX1_writersIn_144 at h
  refine zG.blk (pc' := 147) (l' := [some (2, x0), some (2, x1), some (2, x2), some (0, x3), some (0, x4), some (0, x5), some (0, w32 (x6 + 1)), none, none]) (st' := []) (M' := M) hX [(.iinc 6 1, 0, 0, 0)] (by decide +kernel) rfl trivial ?_
  refine zG.goto (tgt := 6) (off := (-141)) hX (by decide +kernel) (by decide) ?_
  exact (hk6 _ _ _ _ _ _ _ _ h)
noncomputable def pX1_writersIn_138 (S : ZS) (k6 : ZM → Int → Int → Int → Int → Int → Int → Int → Option (Int × ZM)) (k58 : ZM → Int → Int → Int → Int → Int → Int → Int → Int → Option (Int × ZM)) (M : ZM) (x0 : Int) (x1 : Int) (x2 : Int) (x3 : Int) (x4 : Int) (x5 : Int) (x6 : Int) (x7 : Int) : Option (Int × ZM) := k58 M x0 x1 x2 x3 x4 x5 x6 (w32 (x7 + 1))
set_option maxHeartbeats 2000000 in
set_option maxRecDepth 20000 in
theorem pX1_writersIn_138_ok {C : ZC} {E : ZE} {S : ZS} {k6 : ZM → Int → Int → Int → Int → Int → Int → Int → Option (Int × ZM)} {k58 : ZM → Int → Int → Int → Int → Int → Int → Int → Int → Option (Int × ZM)} {q : (Int × ZM)} (hX : zCx C E 1 cX1_writersIn 9 (some .int) false) (hRm : czR C = { frames := 5, cells := 0, slots := 0, locals := 139 }) (hk6 : ∀ M x0 x1 x2 x3 x4 x5 x6, k6 M x0 x1 x2 x3 x4 x5 x6 = some q → zG C E 9 S 0 0 (zQ C E 0 0 (some (0, q.1)) S q.2) 6 [some (2, x0), some (2, x1), some (2, x2), some (0, x3), some (0, x4), some (0, x5), some (0, x6), none, none] [] M) (hk58 : ∀ M x0 x1 x2 x3 x4 x5 x6 x7, k58 M x0 x1 x2 x3 x4 x5 x6 x7 = some q → zG C E 9 S 0 0 (zQ C E 0 0 (some (0, q.1)) S q.2) 58 [some (2, x0), some (2, x1), some (2, x2), some (0, x3), some (0, x4), some (0, x5), some (0, x6), some (0, x7), none] [] M) {M : ZM} {x0 : Int} {x1 : Int} {x2 : Int} {x3 : Int} {x4 : Int} {x5 : Int} {x6 : Int} {x7 : Int} (h : pX1_writersIn_138 S k6 k58 M x0 x1 x2 x3 x4 x5 x6 x7 = some q) : zG C E 9 S 0 0 (zQ C E 0 0 (some (0, q.1)) S q.2) 138 [some (2, x0), some (2, x1), some (2, x2), some (0, x3), some (0, x4), some (0, x5), some (0, x6), some (0, x7), none] [] M := by
  unfold pX1_writersIn_138 at h
  refine zG.blk (pc' := 141) (l' := [some (2, x0), some (2, x1), some (2, x2), some (0, x3), some (0, x4), some (0, x5), some (0, x6), some (0, w32 (x7 + 1)), none]) (st' := []) (M' := M) hX [(.iinc 7 1, 0, 0, 0)] (by decide +kernel) rfl trivial ?_
  refine zG.goto (tgt := 58) (off := (-83)) hX (by decide +kernel) (by decide) ?_
  exact (hk58 _ _ _ _ _ _ _ _ _ h)
noncomputable def pX1_writersIn_58 (S : ZS) (k6 : ZM → Int → Int → Int → Int → Int → Int → Int → Option (Int × ZM)) : Nat → ZM → Int → Int → Int → Int → Int → Int → Int → Int → Option (Int × ZM)
  | 0 => fun _ _ _ _ _ _ _ _ _ => none
  | n + 1 => fun M x0 x1 x2 x3 x4 x5 x6 x7 => if x4 ≤ x7 then (pX1_writersIn_144 S k6 M x0 x1 x2 x3 x4 x5 x6) else (if zand (zshr x5 x6) 1 = 0 then (if S.1 x0 = 1 then if S.1 (M x0 1) = 6 then if S.1 x1 = 10 then if S.1 (M x0 0) = 0 then (pX0_one S M (M x0 0) (M x1 0) (M x0 1) x2).bind fun q18 => if S.1 (q18.2 x0 1) = 6 then if S.1 (q18.2 (q18.2 x0 1) 2) = 100 ∧ (0 : Int) ≤ x3 ∧ x3 < S.2.1 (q18.2 (q18.2 x0 1) 2) then if q18.2 (q18.2 (q18.2 x0 1) 2) x3 = x6 then (if S.1 (q18.2 (q18.2 x0 1) 3) = 100 ∧ (0 : Int) ≤ x3 ∧ x3 < S.2.1 (q18.2 (q18.2 x0 1) 3) then if q18.2 (q18.2 (q18.2 x0 1) 3) x3 = M (M x0 1) 5 then (pX1_writersIn_138 S k6 (pX1_writersIn_58 S k6 n) q18.2 x0 x1 x2 x3 x4 (zor x5 (zshl 1 x6)) x6 x7) else (pX1_writersIn_138 S k6 (pX1_writersIn_58 S k6 n) q18.2 x0 x1 x2 x3 x4 x5 x6 x7) else none) else (pX1_writersIn_138 S k6 (pX1_writersIn_58 S k6 n) q18.2 x0 x1 x2 x3 x4 x5 x6 x7) else none else none else none else none else none else none) else (pX1_writersIn_144 S k6 M x0 x1 x2 x3 x4 x5 x6))
set_option maxHeartbeats 2000000 in
set_option maxRecDepth 20000 in
theorem pX1_writersIn_58_ok {C : ZC} {E : ZE} {S : ZS} {k6 : ZM → Int → Int → Int → Int → Int → Int → Int → Option (Int × ZM)} {q : (Int × ZM)} (hX : zCx C E 1 cX1_writersIn 9 (some .int) false) (hRm : czR C = { frames := 5, cells := 0, slots := 0, locals := 139 }) (hk6 : ∀ M x0 x1 x2 x3 x4 x5 x6, k6 M x0 x1 x2 x3 x4 x5 x6 = some q → zG C E 9 S 0 0 (zQ C E 0 0 (some (0, q.1)) S q.2) 6 [some (2, x0), some (2, x1), some (2, x2), some (0, x3), some (0, x4), some (0, x5), some (0, x6), none, none] [] M) : ∀ (n : Nat) (M : ZM) (x0 : Int) (x1 : Int) (x2 : Int) (x3 : Int) (x4 : Int) (x5 : Int) (x6 : Int) (x7 : Int), pX1_writersIn_58 S k6 n M x0 x1 x2 x3 x4 x5 x6 x7 = some q → zG C E 9 S 0 0 (zQ C E 0 0 (some (0, q.1)) S q.2) 58 [some (2, x0), some (2, x1), some (2, x2), some (0, x3), some (0, x4), some (0, x5), some (0, x6), some (0, x7), none] [] M := by
  intro n
  induction n with
  | zero => intro M x0 x1 x2 x3 x4 x5 x6 x7 h; cases h
  | succ n ih =>
    intro M x0 x1 x2 x3 x4 x5 x6 x7 h
    unfold pX1_writersIn_58 at h
    refine zG.blk (pc' := 62) (l' := [some (2, x0), some (2, x1), some (2, x2), some (0, x3), some (0, x4), some (0, x5), some (0, x6), some (0, x7), none]) (st' := [(0, x4), (0, x7)]) (M' := M) hX [(.iload 7, 0, 0, 0), (.iload 4, 0, 0, 0)] (by decide +kernel) rfl trivial ?_
    refine zG.icmp_ge (tgt := 144) (off := 82) hX (by decide +kernel) (by decide) (fun c13 => ?_) (fun c13 => ?_)
    · have h := zip c13 h
      exact zG.wk [true, true, true, true, true, true, true, false, true] (pX1_writersIn_144_ok hX hRm hk6 h)
    · have h := zin c13 h
      refine zG.blk (pc' := 72) (l' := [some (2, x0), some (2, x1), some (2, x2), some (0, x3), some (0, x4), some (0, x5), some (0, x6), some (0, x7), none]) (st' := [(0, zand (zshr x5 x6) 1)]) (M' := M) hX [(.iload 5, 0, 0, 0), (.iload 6, 0, 0, 0), (.ishr, 0, 0, 0), (.iconst 1, 0, 0, 0), (.iand, 0, 0, 0)] (by decide +kernel) rfl trivial ?_
      refine zG.if_ne (tgt := 144) (off := 72) hX (by decide +kernel) (by decide) (fun c14 => ?_) (fun c14 => ?_)
      · have h := zin c14 h
        exact zG.wk [true, true, true, true, true, true, true, false, true] (pX1_writersIn_144_ok hX hRm hk6 h)
      · have h := zip c14 h
        obtain ⟨g15, h⟩ := zif h
        obtain ⟨g16, h⟩ := zif h
        obtain ⟨g17, h⟩ := zif h
        refine zG.blk (pc' := 97) (l' := [some (2, x0), some (2, x1), some (2, x2), some (0, x3), some (0, x4), some (0, x5), some (0, x6), some (0, x7), some (0, M (M x0 1) 5)]) (st' := [(2, x2), (2, M x0 1), (2, M x1 0), (2, M x0 0)]) (M' := M) hX [(.aload_n 0, 0, 0, 0), (.getfield 21, 1, 1, 2), (.getfield 67, 6, 5, 0), (.istore 8, 0, 0, 0), (.aload_n 0, 0, 0, 0), (.getfield 12, 1, 0, 2), (.aload_n 1, 0, 0, 0), (.getfield 48, 10, 0, 2), (.aload_n 0, 0, 0, 0), (.getfield 21, 1, 1, 2), (.aload_n 2, 0, 0, 0)] (by decide +kernel) rfl (And.intro g15 (And.intro g16 (And.intro g15 (And.intro g17 (And.intro g15 trivial))))) ?_
        obtain ⟨g20, h⟩ := zif h
        obtain ⟨q18, e19, h⟩ := zbd h
        refine zG.callV (b := M x0 0) (av := [(2, M x1 0), (2, M x0 1), (2, x2)]) (st := []) (ci := 0) hX (pX0_one_ok e19) sv_1_70 rfl ⟨by decide, rfl⟩ g20 (by decide +kernel) (by rw [hRm]; exact ⟨Nat.le_of_ble_eq_true rfl, Nat.le_of_ble_eq_true rfl⟩) (by rw [hRm]; exact ⟨Nat.le_of_ble_eq_true rfl, Nat.le_of_ble_eq_true rfl⟩) (Nat.le_of_ble_eq_true rfl) ?_
        show zG C E 9 S 0 0 _ 100 [some (2, x0), some (2, x1), some (2, x2), some (0, x3), some (0, x4), some (0, x5), some (0, x6), some (0, x7), some (0, M (M x0 1) 5)] [(0, q18.1)] q18.2
        obtain ⟨g21, h⟩ := zif h
        obtain ⟨g22, h⟩ := zif h
        refine zG.blk (pc' := 112) (l' := [some (2, x0), some (2, x1), some (2, x2), some (0, x3), some (0, x4), some (0, x5), some (0, x6), some (0, x7), some (0, M (M x0 1) 5)]) (st' := [(0, x6), (0, q18.2 (q18.2 (q18.2 x0 1) 2) x3)]) (M' := q18.2) hX [(.pop, 0, 0, 0), (.aload_n 0, 0, 0, 0), (.getfield 21, 1, 1, 2), (.getfield 90, 6, 2, 2), (.iload_n 3, 0, 0, 0), (.iaload, 0, 0, 0), (.iload 6, 0, 0, 0)] (by decide +kernel) rfl (And.intro g15 (And.intro g21 (And.intro g22 trivial))) ?_
        refine zG.icmp_ne (tgt := 138) (off := 26) hX (by decide +kernel) (by decide) (fun c23 => ?_) (fun c23 => ?_)
        · have h := zin c23 h
          exact zG.wk [true, true, true, true, true, true, true, true, false] (pX1_writersIn_138_ok hX hRm hk6 ih h)
        · have h := zip c23 h
          obtain ⟨g24, h⟩ := zif h
          refine zG.blk (pc' := 126) (l' := [some (2, x0), some (2, x1), some (2, x2), some (0, x3), some (0, x4), some (0, x5), some (0, x6), some (0, x7), some (0, M (M x0 1) 5)]) (st' := [(0, M (M x0 1) 5), (0, q18.2 (q18.2 (q18.2 x0 1) 3) x3)]) (M' := q18.2) hX [(.aload_n 0, 0, 0, 0), (.getfield 21, 1, 1, 2), (.getfield 93, 6, 3, 2), (.iload_n 3, 0, 0, 0), (.iaload, 0, 0, 0), (.iload 8, 0, 0, 0)] (by decide +kernel) rfl (And.intro g15 (And.intro g21 (And.intro g24 trivial))) ?_
          refine zG.icmp_ne (tgt := 138) (off := 12) hX (by decide +kernel) (by decide) (fun c25 => ?_) (fun c25 => ?_)
          · have h := zin c25 h
            exact zG.wk [true, true, true, true, true, true, true, true, false] (pX1_writersIn_138_ok hX hRm hk6 ih h)
          · have h := zip c25 h
            refine zG.blk (pc' := 138) (l' := [some (2, x0), some (2, x1), some (2, x2), some (0, x3), some (0, x4), some (0, zor x5 (zshl 1 x6)), some (0, x6), some (0, x7), some (0, M (M x0 1) 5)]) (st' := []) (M' := q18.2) hX [(.iload 5, 0, 0, 0), (.iconst 1, 0, 0, 0), (.iload 6, 0, 0, 0), (.ishl, 0, 0, 0), (.ior, 0, 0, 0), (.istore 5, 0, 0, 0)] (by decide +kernel) rfl trivial ?_
            exact zG.wk [true, true, true, true, true, true, true, true, false] (pX1_writersIn_138_ok hX hRm hk6 ih h)
noncomputable def pX1_writersIn_55 (S : ZS) (k6 : ZM → Int → Int → Int → Int → Int → Int → Int → Option (Int × ZM)) (M : ZM) (x0 : Int) (x1 : Int) (x2 : Int) (x3 : Int) (x4 : Int) (x5 : Int) (x6 : Int) : Option (Int × ZM) := pX1_writersIn_58 S k6 zFU M x0 x1 x2 x3 x4 x5 x6 0
set_option maxHeartbeats 2000000 in
set_option maxRecDepth 20000 in
theorem pX1_writersIn_55_ok {C : ZC} {E : ZE} {S : ZS} {k6 : ZM → Int → Int → Int → Int → Int → Int → Int → Option (Int × ZM)} {q : (Int × ZM)} (hX : zCx C E 1 cX1_writersIn 9 (some .int) false) (hRm : czR C = { frames := 5, cells := 0, slots := 0, locals := 139 }) (hk6 : ∀ M x0 x1 x2 x3 x4 x5 x6, k6 M x0 x1 x2 x3 x4 x5 x6 = some q → zG C E 9 S 0 0 (zQ C E 0 0 (some (0, q.1)) S q.2) 6 [some (2, x0), some (2, x1), some (2, x2), some (0, x3), some (0, x4), some (0, x5), some (0, x6), none, none] [] M) {M : ZM} {x0 : Int} {x1 : Int} {x2 : Int} {x3 : Int} {x4 : Int} {x5 : Int} {x6 : Int} (h : pX1_writersIn_55 S k6 M x0 x1 x2 x3 x4 x5 x6 = some q) : zG C E 9 S 0 0 (zQ C E 0 0 (some (0, q.1)) S q.2) 55 [some (2, x0), some (2, x1), some (2, x2), some (0, x3), some (0, x4), some (0, x5), some (0, x6), none, none] [] M := by
  unfold pX1_writersIn_55 at h
  refine zG.blk (pc' := 58) (l' := [some (2, x0), some (2, x1), some (2, x2), some (0, x3), some (0, x4), some (0, x5), some (0, x6), some (0, 0), none]) (st' := []) (M' := M) hX [(.iconst 0, 0, 0, 0), (.istore 7, 0, 0, 0)] (by decide +kernel) rfl trivial ?_
  exact (pX1_writersIn_58_ok hX hRm hk6 zFU _ _ _ _ _ _ _ _ _ h)
noncomputable def pX1_writersIn_6 (S : ZS) : Nat → ZM → Int → Int → Int → Int → Int → Int → Int → Option (Int × ZM)
  | 0 => fun _ _ _ _ _ _ _ _ => none
  | n + 1 => fun M x0 x1 x2 x3 x4 x5 x6 => if S.1 x1 = 10 then if S.1 (M x1 0) = 9 then if M (M x1 0) 3 ≤ x6 then (some (x5, M)) else (if S.1 x0 = 1 then if S.1 (M x0 1) = 6 then (pX6_copyFrom S M (M x0 1) (M x1 1)).bind fun q5 => if S.1 (q5 x0 1) = 6 then if S.1 (q5 x1 0) = 9 then (pX9_allPens S q5 (q5 x1 0)).bind fun q9 => zlet (upM q9.2 (q5 x0 1) 4 (zor (q5 (q5 x0 1) 4) (zand q9.1 (zxor (zshl 1 x6) (-1))))) fun M12 => pX1_writersIn_55 S (pX1_writersIn_6 S n) M12 x0 x1 x2 x3 x4 x5 x6 else none else none else none else none) else none else none
set_option maxHeartbeats 2000000 in
set_option maxRecDepth 20000 in
theorem pX1_writersIn_6_ok {C : ZC} {E : ZE} {S : ZS} {q : (Int × ZM)} (hX : zCx C E 1 cX1_writersIn 9 (some .int) false) (hRm : czR C = { frames := 5, cells := 0, slots := 0, locals := 139 }) : ∀ (n : Nat) (M : ZM) (x0 : Int) (x1 : Int) (x2 : Int) (x3 : Int) (x4 : Int) (x5 : Int) (x6 : Int), pX1_writersIn_6 S n M x0 x1 x2 x3 x4 x5 x6 = some q → zG C E 9 S 0 0 (zQ C E 0 0 (some (0, q.1)) S q.2) 6 [some (2, x0), some (2, x1), some (2, x2), some (0, x3), some (0, x4), some (0, x5), some (0, x6), none, none] [] M := by
  intro n
  induction n with
  | zero => intro M x0 x1 x2 x3 x4 x5 x6 h; cases h
  | succ n ih =>
    intro M x0 x1 x2 x3 x4 x5 x6 h
    unfold pX1_writersIn_6 at h
    obtain ⟨g1, h⟩ := zif h
    obtain ⟨g2, h⟩ := zif h
    refine zG.blk (pc' := 15) (l' := [some (2, x0), some (2, x1), some (2, x2), some (0, x3), some (0, x4), some (0, x5), some (0, x6), none, none]) (st' := [(0, M (M x1 0) 3), (0, x6)]) (M' := M) hX [(.iload 6, 0, 0, 0), (.aload_n 1, 0, 0, 0), (.getfield 48, 10, 0, 2), (.getfield 87, 9, 3, 0)] (by decide +kernel) rfl (And.intro g1 (And.intro g2 trivial)) ?_
    refine zG.icmp_ge (tgt := 150) (off := 135) hX (by decide +kernel) (by decide) (fun c3 => ?_) (fun c3 => ?_)
    · have h := zip c3 h
      refine zG.blk (pc' := 152) (l' := [some (2, x0), some (2, x1), some (2, x2), some (0, x3), some (0, x4), some (0, x5), some (0, x6), none, none]) (st' := [(0, x5)]) (M' := M) hX [(.iload 5, 0, 0, 0)] (by decide +kernel) rfl trivial ?_
      cases h
      exact zG.iret hX (by decide +kernel)
    · have h := zin c3 h
      obtain ⟨g4, h⟩ := zif h
      refine zG.blk (pc' := 26) (l' := [some (2, x0), some (2, x1), some (2, x2), some (0, x3), some (0, x4), some (0, x5), some (0, x6), none, none]) (st' := [(2, M x1 1), (2, M x0 1)]) (M' := M) hX [(.aload_n 0, 0, 0, 0), (.getfield 21, 1, 1, 2), (.aload_n 1, 0, 0, 0), (.getfield 39, 10, 1, 2)] (by decide +kernel) rfl (And.intro g4 (And.intro g1 trivial)) ?_
      obtain ⟨g7, h⟩ := zif h
      obtain ⟨q5, e6, h⟩ := zbd h
      refine zG.callV (b := M x0 1) (av := [(2, M x1 1)]) (st := []) (ci := 6) hX (pX6_copyFrom_ok e6) sv_1_44 rfl ⟨by decide, rfl⟩ g7 (by decide +kernel) (by rw [hRm]; exact ⟨Nat.le_of_ble_eq_true rfl, Nat.le_of_ble_eq_true rfl⟩) (by rw [hRm]; exact ⟨Nat.le_of_ble_eq_true rfl, Nat.le_of_ble_eq_true rfl⟩) (Nat.le_of_ble_eq_true rfl) ?_
      show zG C E 9 S 0 0 _ 29 [some (2, x0), some (2, x1), some (2, x2), some (0, x3), some (0, x4), some (0, x5), some (0, x6), none, none] [] q5
      obtain ⟨g8, h⟩ := zif h
      refine zG.blk (pc' := 41) (l' := [some (2, x0), some (2, x1), some (2, x2), some (0, x3), some (0, x4), some (0, x5), some (0, x6), none, none]) (st' := [(2, q5 x1 0), (0, q5 (q5 x0 1) 4), (2, q5 x0 1)]) (M' := q5) hX [(.aload_n 0, 0, 0, 0), (.getfield 21, 1, 1, 2), (.dup, 0, 0, 0), (.getfield 78, 6, 4, 0), (.aload_n 1, 0, 0, 0), (.getfield 48, 10, 0, 2)] (by decide +kernel) rfl (And.intro g4 (And.intro g8 (And.intro g1 trivial))) ?_
      obtain ⟨g11, h⟩ := zif h
      obtain ⟨q9, e10, h⟩ := zbd h
      refine zG.callV (b := q5 x1 0) (av := []) (st := [(0, q5 (q5 x0 1) 4), (2, q5 x0 1)]) (ci := 9) hX (pX9_allPens_ok e10) sv_1_74 rfl ⟨by decide, rfl⟩ g11 (by decide +kernel) (by rw [hRm]; exact ⟨Nat.le_of_ble_eq_true rfl, Nat.le_of_ble_eq_true rfl⟩) (by rw [hRm]; exact ⟨Nat.le_of_ble_eq_true rfl, Nat.le_of_ble_eq_true rfl⟩) (Nat.le_of_ble_eq_true rfl) ?_
      show zG C E 9 S 0 0 _ 44 [some (2, x0), some (2, x1), some (2, x2), some (0, x3), some (0, x4), some (0, x5), some (0, x6), none, none] [(0, q9.1), (0, q5 (q5 x0 1) 4), (2, q5 x0 1)] q9.2
      refine zG.blk (pc' := 55) (l' := [some (2, x0), some (2, x1), some (2, x2), some (0, x3), some (0, x4), some (0, x5), some (0, x6), none, none]) (st' := []) (M' := (upM q9.2 (q5 x0 1) 4 (zor (q5 (q5 x0 1) 4) (zand q9.1 (zxor (zshl 1 x6) (-1)))))) hX [(.iconst 1, 0, 0, 0), (.iload 6, 0, 0, 0), (.ishl, 0, 0, 0), (.iconst (-1), 0, 0, 0), (.ixor, 0, 0, 0), (.iand, 0, 0, 0), (.ior, 0, 0, 0), (.putfield 78, 6, 4, 0)] (by decide +kernel) rfl (And.intro g8 trivial) ?_
      generalize upM q9.2 (q5 x0 1) 4 (zor (q5 (q5 x0 1) 4) (zand q9.1 (zxor (zshl 1 x6) (-1)))) = M12 at h ⊢
      have h := zlt h
      exact (pX1_writersIn_55_ok hX hRm ih h)
noncomputable def pX1_writersIn (S : ZS) (M : ZM) (a0 : Int) (a1 : Int) (a2 : Int) (a3 : Int) (a4 : Int) : Option (Int × ZM) := pX1_writersIn_6 S zFU M a0 a1 a2 a3 a4 0 0
set_option maxHeartbeats 2000000 in
set_option maxRecDepth 20000 in
theorem pX1_writersIn_go {C : ZC} {E : ZE} {S : ZS} {M : ZM} {a0 a1 a2 a3 a4 : Int} {q : (Int × ZM)} (hX : zCx C E 1 cX1_writersIn 9 (some .int) false) (hRm : czR C = { frames := 5, cells := 0, slots := 0, locals := 139 }) (h : pX1_writersIn  S M a0 a1 a2 a3 a4 = some q) : zG C E 9 S 0 0 (zQ C E 0 0 (some (0, q.1)) S q.2) 0 [some (2, a0), some (2, a1), some (2, a2), some (0, a3), some (0, a4), none, none, none, none] [] M := by
  unfold pX1_writersIn at h
  refine zG.blk (pc' := 6) (l' := [some (2, a0), some (2, a1), some (2, a2), some (0, a3), some (0, a4), some (0, 0), some (0, 0), none, none]) (st' := []) (M' := M) hX [(.iconst 0, 0, 0, 0), (.istore 5, 0, 0, 0), (.iconst 0, 0, 0, 0), (.istore 6, 0, 0, 0)] (by decide +kernel) rfl trivial ?_
  exact (pX1_writersIn_6_ok hX hRm zFU _ _ _ _ _ _ _ _ h)
theorem pX1_writersIn_ok {l : Launch} {E : ZE} {S : ZS} {M : ZM} {a0 a1 a2 a3 a4 : Int} {q : (Int × ZM)} (h : pX1_writersIn S M a0 a1 a2 a3 a4 = some q) : zMet l yX1_writersIn cX1_writersIn 9 (some .int) 5 139 0 0 E S M [(2, a0), (2, a1), (2, a2), (0, a3), (0, a4)] (some (0, q.1)) S q.2 :=
  zMet.of (o := 1) (ini := false) (by decide +kernel) rfl (fun h => by cases h) (Nat.le_of_ble_eq_true rfl) (fun C hX hl hRm => by subst hl; exact pX1_writersIn_go hX hRm h)
noncomputable def pX2_addTrial_47 (S : ZS) (k2 : ZM → Int → Int → Int → Option ZM) (M : ZM) (x0 : Int) (x1 : Int) (x2 : Int) : Option ZM := k2 M x0 x1 (w32 (x2 + 1))
set_option maxHeartbeats 2000000 in
set_option maxRecDepth 20000 in
theorem pX2_addTrial_47_ok {C : ZC} {E : ZE} {S : ZS} {k2 : ZM → Int → Int → Int → Option ZM} {q : ZM} (hX : zCx C E 2 cX2_addTrial 4 none false) (hRm : czR C = { frames := 1, cells := 0, slots := 0, locals := 40 }) (hk2 : ∀ M x0 x1 x2, k2 M x0 x1 x2 = some q → zG C E 4 S 0 0 (zQ C E 0 0 none S q) 2 [some (2, x0), some (2, x1), some (0, x2), none] [] M) {M : ZM} {x0 : Int} {x1 : Int} {x2 : Int} (h : pX2_addTrial_47 S k2 M x0 x1 x2 = some q) : zG C E 4 S 0 0 (zQ C E 0 0 none S q) 47 [some (2, x0), some (2, x1), some (0, x2), none] [] M := by
  unfold pX2_addTrial_47 at h
  refine zG.blk (pc' := 50) (l' := [some (2, x0), some (2, x1), some (0, w32 (x2 + 1)), none]) (st' := []) (M' := M) hX [(.iinc 2 1, 0, 0, 0)] (by decide +kernel) rfl trivial ?_
  refine zG.goto (tgt := 2) (off := (-48)) hX (by decide +kernel) (by decide) ?_
  exact (hk2 _ _ _ _ h)
noncomputable def pX2_addTrial_2 (S : ZS) : Nat → ZM → Int → Int → Int → Option ZM
  | 0 => fun _ _ _ _ => none
  | n + 1 => fun M x0 x1 x2 => if S.1 x1 = 9 then if M x1 1 ≤ x2 then (some M) else (if S.1 x0 = 2 then if S.1 (M x0 1) = 6 then if S.1 (M (M x0 1) 2) = 100 ∧ (0 : Int) ≤ x2 ∧ x2 < S.2.1 (M (M x0 1) 2) then if M (M (M x0 1) 2) x2 < (-1) then (pX2_addTrial_47 S (pX2_addTrial_2 S n) M x0 x1 x2) else (if 5 ≤ M (M (M x0 1) 2) x2 then (pX2_addTrial_47 S (pX2_addTrial_2 S n) M x0 x1 x2) else (if S.1 (M x0 2) = 100 ∧ (0 : Int) ≤ w32 ((w32 ((w32 (x2 * 6)) + (M (M (M x0 1) 2) x2))) + 1) ∧ w32 ((w32 ((w32 (x2 * 6)) + (M (M (M x0 1) 2) x2))) + 1) < S.2.1 (M x0 2) then zlet (upM M (M x0 2) (w32 ((w32 ((w32 (x2 * 6)) + (M (M (M x0 1) 2) x2))) + 1)) (w32 ((M (M x0 2) (w32 ((w32 ((w32 (x2 * 6)) + (M (M (M x0 1) 2) x2))) + 1))) + 1))) fun M9 => pX2_addTrial_47 S (pX2_addTrial_2 S n) M9 x0 x1 x2 else none)) else none else none else none) else none
set_option maxHeartbeats 2000000 in
set_option maxRecDepth 20000 in
theorem pX2_addTrial_2_ok {C : ZC} {E : ZE} {S : ZS} {q : ZM} (hX : zCx C E 2 cX2_addTrial 4 none false) (hRm : czR C = { frames := 1, cells := 0, slots := 0, locals := 40 }) : ∀ (n : Nat) (M : ZM) (x0 : Int) (x1 : Int) (x2 : Int), pX2_addTrial_2 S n M x0 x1 x2 = some q → zG C E 4 S 0 0 (zQ C E 0 0 none S q) 2 [some (2, x0), some (2, x1), some (0, x2), none] [] M := by
  intro n
  induction n with
  | zero => intro M x0 x1 x2 h; cases h
  | succ n ih =>
    intro M x0 x1 x2 h
    unfold pX2_addTrial_2 at h
    obtain ⟨g1, h⟩ := zif h
    refine zG.blk (pc' := 7) (l' := [some (2, x0), some (2, x1), some (0, x2), none]) (st' := [(0, M x1 1), (0, x2)]) (M' := M) hX [(.iload_n 2, 0, 0, 0), (.aload_n 1, 0, 0, 0), (.getfield 104, 9, 1, 0)] (by decide +kernel) rfl (And.intro g1 trivial) ?_
    refine zG.icmp_ge (tgt := 53) (off := 46) hX (by decide +kernel) (by decide) (fun c2 => ?_) (fun c2 => ?_)
    · have h := zip c2 h
      cases h
      exact zG.vret hX (by decide +kernel)
    · have h := zin c2 h
      obtain ⟨g3, h⟩ := zif h
      obtain ⟨g4, h⟩ := zif h
      obtain ⟨g5, h⟩ := zif h
      refine zG.blk (pc' := 22) (l' := [some (2, x0), some (2, x1), some (0, x2), some (0, M (M (M x0 1) 2) x2)]) (st' := [(0, (-1)), (0, M (M (M x0 1) 2) x2)]) (M' := M) hX [(.aload_n 0, 0, 0, 0), (.getfield 21, 2, 1, 2), (.getfield 95, 6, 2, 2), (.iload_n 2, 0, 0, 0), (.iaload, 0, 0, 0), (.istore_n 3, 0, 0, 0), (.iload_n 3, 0, 0, 0), (.iconst (-1), 0, 0, 0)] (by decide +kernel) rfl (And.intro g3 (And.intro g4 (And.intro g5 trivial))) ?_
      refine zG.icmp_lt (tgt := 47) (off := 25) hX (by decide +kernel) (by decide) (fun c6 => ?_) (fun c6 => ?_)
      · have h := zip c6 h
        exact zG.wk [true, true, true, false] (pX2_addTrial_47_ok hX hRm ih h)
      · have h := zin c6 h
        refine zG.blk (pc' := 27) (l' := [some (2, x0), some (2, x1), some (0, x2), some (0, M (M (M x0 1) 2) x2)]) (st' := [(0, 5), (0, M (M (M x0 1) 2) x2)]) (M' := M) hX [(.iload_n 3, 0, 0, 0), (.iconst 5, 0, 0, 0)] (by decide +kernel) rfl trivial ?_
        refine zG.icmp_ge (tgt := 47) (off := 20) hX (by decide +kernel) (by decide) (fun c7 => ?_) (fun c7 => ?_)
        · have h := zip c7 h
          exact zG.wk [true, true, true, false] (pX2_addTrial_47_ok hX hRm ih h)
        · have h := zin c7 h
          obtain ⟨g8, h⟩ := zif h
          refine zG.blk (pc' := 47) (l' := [some (2, x0), some (2, x1), some (0, x2), some (0, M (M (M x0 1) 2) x2)]) (st' := []) (M' := (upM M (M x0 2) (w32 ((w32 ((w32 (x2 * 6)) + (M (M (M x0 1) 2) x2))) + 1)) (w32 ((M (M x0 2) (w32 ((w32 ((w32 (x2 * 6)) + (M (M (M x0 1) 2) x2))) + 1))) + 1)))) hX [(.aload_n 0, 0, 0, 0), (.getfield 25, 2, 2, 2), (.iload_n 2, 0, 0, 0), (.bipush 6, 0, 0, 0), (.imul, 0, 0, 0), (.iload_n 3, 0, 0, 0), (.iadd, 0, 0, 0), (.iconst 1, 0, 0, 0), (.iadd, 0, 0, 0), (.dup2, 0, 0, 0), (.iaload, 0, 0, 0), (.iconst 1, 0, 0, 0), (.iadd, 0, 0, 0), (.iastore, 0, 0, 0)] (by decide +kernel) rfl (And.intro g3 (And.intro g8 (And.intro g8 trivial))) ?_
          generalize upM M (M x0 2) (w32 ((w32 ((w32 (x2 * 6)) + (M (M (M x0 1) 2) x2))) + 1)) (w32 ((M (M x0 2) (w32 ((w32 ((w32 (x2 * 6)) + (M (M (M x0 1) 2) x2))) + 1))) + 1)) = M9 at h ⊢
          have h := zlt h
          exact zG.wk [true, true, true, false] (pX2_addTrial_47_ok hX hRm ih h)
noncomputable def pX2_addTrial (S : ZS) (M : ZM) (a0 : Int) (a1 : Int) : Option ZM := pX2_addTrial_2 S zFU M a0 a1 0
set_option maxHeartbeats 2000000 in
set_option maxRecDepth 20000 in
theorem pX2_addTrial_go {C : ZC} {E : ZE} {S : ZS} {M : ZM} {a0 a1 : Int} {q : ZM} (hX : zCx C E 2 cX2_addTrial 4 none false) (hRm : czR C = { frames := 1, cells := 0, slots := 0, locals := 40 }) (h : pX2_addTrial  S M a0 a1 = some q) : zG C E 4 S 0 0 (zQ C E 0 0 none S q) 0 [some (2, a0), some (2, a1), none, none] [] M := by
  unfold pX2_addTrial at h
  refine zG.blk (pc' := 2) (l' := [some (2, a0), some (2, a1), some (0, 0), none]) (st' := []) (M' := M) hX [(.iconst 0, 0, 0, 0), (.istore_n 2, 0, 0, 0)] (by decide +kernel) rfl trivial ?_
  exact (pX2_addTrial_2_ok hX hRm zFU _ _ _ _ h)
theorem pX2_addTrial_ok {l : Launch} {E : ZE} {S : ZS} {M : ZM} {a0 a1 : Int} {q : ZM} (h : pX2_addTrial S M a0 a1 = some q) : zMet l yX2_addTrial cX2_addTrial 4 none 1 40 0 0 E S M [(2, a0), (2, a1)] (none) S q :=
  zMet.of (o := 2) (ini := false) (by decide +kernel) rfl (fun h => by cases h) (Nat.le_of_ble_eq_true rfl) (fun C hX hl hRm => by subst hl; exact pX2_addTrial_go hX hRm h)
noncomputable def pX2_agreesToday_51 (S : ZS) (k2 : ZM → Int → Int → Int → Option (Int × ZM)) (M : ZM) (x0 : Int) (x1 : Int) (x2 : Int) : Option (Int × ZM) := k2 M x0 x1 (w32 (x2 + 1))
set_option maxHeartbeats 2000000 in
set_option maxRecDepth 20000 in
theorem pX2_agreesToday_51_ok {C : ZC} {E : ZE} {S : ZS} {k2 : ZM → Int → Int → Int → Option (Int × ZM)} {q : (Int × ZM)} (hX : zCx C E 2 cX2_agreesToday 3 (some .boolean) false) (hRm : czR C = { frames := 1, cells := 0, slots := 0, locals := 40 }) (hk2 : ∀ M x0 x1 x2, k2 M x0 x1 x2 = some q → zG C E 3 S 0 0 (zQ C E 0 0 (some (0, q.1)) S q.2) 2 [some (2, x0), some (2, x1), some (0, x2)] [] M) {M : ZM} {x0 : Int} {x1 : Int} {x2 : Int} (h : pX2_agreesToday_51 S k2 M x0 x1 x2 = some q) : zG C E 3 S 0 0 (zQ C E 0 0 (some (0, q.1)) S q.2) 51 [some (2, x0), some (2, x1), some (0, x2)] [] M := by
  unfold pX2_agreesToday_51 at h
  refine zG.blk (pc' := 54) (l' := [some (2, x0), some (2, x1), some (0, w32 (x2 + 1))]) (st' := []) (M' := M) hX [(.iinc 2 1, 0, 0, 0)] (by decide +kernel) rfl trivial ?_
  refine zG.goto (tgt := 2) (off := (-52)) hX (by decide +kernel) (by decide) ?_
  exact (hk2 _ _ _ _ h)
noncomputable def pX2_agreesToday_2 (S : ZS) : Nat → ZM → Int → Int → Int → Option (Int × ZM)
  | 0 => fun _ _ _ _ => none
  | n + 1 => fun M x0 x1 x2 => if S.1 x1 = 10 then if M x1 7 ≤ x2 then (some (1, M)) else (if S.1 (M x1 4) = 100 ∧ (0 : Int) ≤ x2 ∧ x2 < S.2.1 (M x1 4) then if S.1 x0 = 2 then if S.1 (M x0 1) = 6 then if M (M x1 4) x2 = M (M x0 1) 5 then (if S.1 (M x1 5) = 100 ∧ (0 : Int) ≤ x2 ∧ x2 < S.2.1 (M x1 5) then if S.1 (M (M x0 1) 2) = 100 ∧ (0 : Int) ≤ M (M x1 5) x2 ∧ M (M x1 5) x2 < S.2.1 (M (M x0 1) 2) then if S.1 (M x1 6) = 100 ∧ (0 : Int) ≤ x2 ∧ x2 < S.2.1 (M x1 6) then if M (M (M x0 1) 2) (M (M x1 5) x2) = M (M x1 6) x2 then (pX2_agreesToday_51 S (pX2_agreesToday_2 S n) M x0 x1 x2) else (some (0, M)) else none else none else none) else (pX2_agreesToday_51 S (pX2_agreesToday_2 S n) M x0 x1 x2) else none else none else none) else none
set_option maxHeartbeats 2000000 in
set_option maxRecDepth 20000 in
theorem pX2_agreesToday_2_ok {C : ZC} {E : ZE} {S : ZS} {q : (Int × ZM)} (hX : zCx C E 2 cX2_agreesToday 3 (some .boolean) false) (hRm : czR C = { frames := 1, cells := 0, slots := 0, locals := 40 }) : ∀ (n : Nat) (M : ZM) (x0 : Int) (x1 : Int) (x2 : Int), pX2_agreesToday_2 S n M x0 x1 x2 = some q → zG C E 3 S 0 0 (zQ C E 0 0 (some (0, q.1)) S q.2) 2 [some (2, x0), some (2, x1), some (0, x2)] [] M := by
  intro n
  induction n with
  | zero => intro M x0 x1 x2 h; cases h
  | succ n ih =>
    intro M x0 x1 x2 h
    unfold pX2_agreesToday_2 at h
    obtain ⟨g1, h⟩ := zif h
    refine zG.blk (pc' := 7) (l' := [some (2, x0), some (2, x1), some (0, x2)]) (st' := [(0, M x1 7), (0, x2)]) (M' := M) hX [(.iload_n 2, 0, 0, 0), (.aload_n 1, 0, 0, 0), (.getfield 71, 10, 7, 0)] (by decide +kernel) rfl (And.intro g1 trivial) ?_
    refine zG.icmp_ge (tgt := 57) (off := 50) hX (by decide +kernel) (by decide) (fun c2 => ?_) (fun c2 => ?_)
    · have h := zip c2 h
      refine zG.blk (pc' := 58) (l' := [some (2, x0), some (2, x1), some (0, x2)]) (st' := [(0, 1)]) (M' := M) hX [(.iconst 1, 0, 0, 0)] (by decide +kernel) rfl trivial ?_
      cases h
      exact zG.zret hX (by decide +kernel) (Or.inr rfl)
    · have h := zin c2 h
      obtain ⟨g3, h⟩ := zif h
      obtain ⟨g4, h⟩ := zif h
      obtain ⟨g5, h⟩ := zif h
      refine zG.blk (pc' := 23) (l' := [some (2, x0), some (2, x1), some (0, x2)]) (st' := [(0, M (M x0 1) 5), (0, M (M x1 4) x2)]) (M' := M) hX [(.aload_n 1, 0, 0, 0), (.getfield 75, 10, 4, 2), (.iload_n 2, 0, 0, 0), (.iaload, 0, 0, 0), (.aload_n 0, 0, 0, 0), (.getfield 21, 2, 1, 2), (.getfield 92, 6, 5, 0)] (by decide +kernel) rfl (And.intro g1 (And.intro g3 (And.intro g4 (And.intro g5 trivial)))) ?_
      refine zG.icmp_ne (tgt := 51) (off := 28) hX (by decide +kernel) (by decide) (fun c6 => ?_) (fun c6 => ?_)
      · have h := zin c6 h
        exact (pX2_agreesToday_51_ok hX hRm ih h)
      · have h := zip c6 h
        obtain ⟨g7, h⟩ := zif h
        obtain ⟨g8, h⟩ := zif h
        obtain ⟨g9, h⟩ := zif h
        refine zG.blk (pc' := 46) (l' := [some (2, x0), some (2, x1), some (0, x2)]) (st' := [(0, M (M x1 6) x2), (0, M (M (M x0 1) 2) (M (M x1 5) x2))]) (M' := M) hX [(.aload_n 0, 0, 0, 0), (.getfield 21, 2, 1, 2), (.getfield 95, 6, 2, 2), (.aload_n 1, 0, 0, 0), (.getfield 98, 10, 5, 2), (.iload_n 2, 0, 0, 0), (.iaload, 0, 0, 0), (.iaload, 0, 0, 0), (.aload_n 1, 0, 0, 0), (.getfield 101, 10, 6, 2), (.iload_n 2, 0, 0, 0), (.iaload, 0, 0, 0)] (by decide +kernel) rfl (And.intro g4 (And.intro g5 (And.intro g1 (And.intro g7 (And.intro g8 (And.intro g1 (And.intro g9 trivial))))))) ?_
        refine zG.icmp_eq (tgt := 51) (off := 5) hX (by decide +kernel) (by decide) (fun c10 => ?_) (fun c10 => ?_)
        · have h := zip c10 h
          exact (pX2_agreesToday_51_ok hX hRm ih h)
        · have h := zin c10 h
          refine zG.blk (pc' := 50) (l' := [some (2, x0), some (2, x1), some (0, x2)]) (st' := [(0, 0)]) (M' := M) hX [(.iconst 0, 0, 0, 0)] (by decide +kernel) rfl trivial ?_
          cases h
          exact zG.zret hX (by decide +kernel) (Or.inl rfl)
noncomputable def pX2_agreesToday (S : ZS) (M : ZM) (a0 : Int) (a1 : Int) : Option (Int × ZM) := pX2_agreesToday_2 S zFU M a0 a1 0
set_option maxHeartbeats 2000000 in
set_option maxRecDepth 20000 in
theorem pX2_agreesToday_go {C : ZC} {E : ZE} {S : ZS} {M : ZM} {a0 a1 : Int} {q : (Int × ZM)} (hX : zCx C E 2 cX2_agreesToday 3 (some .boolean) false) (hRm : czR C = { frames := 1, cells := 0, slots := 0, locals := 40 }) (h : pX2_agreesToday  S M a0 a1 = some q) : zG C E 3 S 0 0 (zQ C E 0 0 (some (0, q.1)) S q.2) 0 [some (2, a0), some (2, a1), none] [] M := by
  unfold pX2_agreesToday at h
  refine zG.blk (pc' := 2) (l' := [some (2, a0), some (2, a1), some (0, 0)]) (st' := []) (M' := M) hX [(.iconst 0, 0, 0, 0), (.istore_n 2, 0, 0, 0)] (by decide +kernel) rfl trivial ?_
  exact (pX2_agreesToday_2_ok hX hRm zFU _ _ _ _ h)
theorem pX2_agreesToday_ok {l : Launch} {E : ZE} {S : ZS} {M : ZM} {a0 a1 : Int} {q : (Int × ZM)} (h : pX2_agreesToday S M a0 a1 = some q) : zMet l yX2_agreesToday cX2_agreesToday 3 (some .boolean) 1 40 0 0 E S M [(2, a0), (2, a1)] (some (0, q.1)) S q.2 :=
  zMet.of (o := 2) (ini := false) (by decide +kernel) rfl (fun h => by cases h) (Nat.le_of_ble_eq_true rfl) (fun C hX hl hRm => by subst hl; exact pX2_agreesToday_go hX hRm h)
