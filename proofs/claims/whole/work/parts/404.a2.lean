theorem so_10_3 : Cond.methodLink (zOwn 10) 3 Lib.objectInit ∈ gt := gt_at 263 (by decide +kernel) rfl
theorem sc_10_9 : zSC 10 9 9 := ⟨by decide, gt_at 264 (by decide +kernel) rfl, gt_at 170 (by decide +kernel) rfl, gt_at 108 (by decide +kernel) rfl⟩
theorem sn_10_11 : zSN 10 11 yX9_init cX9_init 1 0 := ⟨⟨by decide +kernel, gt_at 172 (by decide +kernel) rfl, gt_at 108 (by decide +kernel) rfl, gt_at 173 (by decide +kernel) rfl, rfl⟩, by decide +kernel, by decide +kernel, by decide +kernel⟩
theorem sc_10_18 : zSC 10 18 6 := ⟨by decide, gt_at 266 (by decide +kernel) rfl, gt_at 267 (by decide +kernel) rfl, gt_at 111 (by decide +kernel) rfl⟩
theorem si_10_20 : zSI 10 20 yX6_init cX6_init 1 0 := ⟨⟨gt_at 268 (by decide +kernel) rfl, gt_at 269 (by decide +kernel) rfl, gt_at 111 (by decide +kernel) rfl, gt_at 270 (by decide +kernel) rfl, rfl⟩, by decide +kernel, by decide +kernel, by decide +kernel⟩
noncomputable def pX10_init_24000085 (S : ZS) (M : ZM) (x0 : Int) : Option (ZS × ZM) := some (S, M)
set_option maxHeartbeats 2000000 in
set_option maxRecDepth 20000 in
theorem pX10_init_24000085_ok {C : ZC} {E : ZE} {q : (ZS × ZM)} (hX : zCx C E 10 cX10_init 2 none true) (hRm : czR C = { frames := 3, cells := 115, slots := 1999, locals := 83 }) {S : ZS} {M : ZM} {x0 : Int} (h : pX10_init_24000085 S M x0 = some q) : zG C E 2 S 115 1999 (zQ C E 115 1999 none q.1 q.2) 85 [some (2, x0), some (0, 19)] [] M := by
  unfold pX10_init_24000085 at h
  refine zG.blk (pc' := 88) (l' := [some (2, x0), some (0, 20)]) (st' := []) (M' := M) hX [(.iinc 1 1, 0, 0, 0)] (by decide +kernel) rfl trivial ?_
  refine zG.goto (tgt := 66) (off := (-22)) hX (by decide +kernel) (by decide) ?_
  refine zG.blk (pc' := 69) (l' := [some (2, x0), some (0, 20)]) (st' := [(0, 20), (0, 20)]) (M' := M) hX [(.iload_n 1, 0, 0, 0), (.bipush 20, 0, 0, 0)] (by decide +kernel) rfl trivial ?_
  refine zG.icmp_ge (tgt := 91) (off := 22) hX (by decide +kernel) (by decide) (fun _ => ?_) (fun c => absurd c (by decide))
  cases h
  exact zG.vret hX (by decide +kernel)
noncomputable def pX10_init_23000085 (S : ZS) (M : ZM) (x0 : Int) : Option (ZS × ZM) := if S.1 x0 = 10 then if S.2.2 < 2000000000 then zlet (S.2.2 + 1) fun r258 => zlet (zNewM S M) fun M257 => zlet (zNewS S 6 0) fun S256 => if 1 ≤ r258 then (pX6_init S256 M257 r258).bind fun q259 => if q259.1.1 (M x0 2) = 105 ∧ (0 : Int) ≤ 19 ∧ 19 < q259.1.2.1 (M x0 2) then if r258 = 0 ∨ q259.1.1 r258 = 6 then zlet (upM q259.2 (M x0 2) 19 r258) fun M264 => pX10_init_24000085 q259.1 M264 x0 else none else none else none else none else none
set_option maxHeartbeats 2000000 in
set_option maxRecDepth 20000 in
theorem pX10_init_23000085_ok {C : ZC} {E : ZE} {q : (ZS × ZM)} (hX : zCx C E 10 cX10_init 2 none true) (hRm : czR C = { frames := 3, cells := 115, slots := 1999, locals := 83 }) {S : ZS} {M : ZM} {x0 : Int} (h : pX10_init_23000085 S M x0 = some q) : zG C E 2 S 110 1910 (zQ C E 115 1999 none q.1 q.2) 85 [some (2, x0), some (0, 18)] [] M := by
  unfold pX10_init_23000085 at h
  refine zG.blk (pc' := 88) (l' := [some (2, x0), some (0, 19)]) (st' := []) (M' := M) hX [(.iinc 1 1, 0, 0, 0)] (by decide +kernel) rfl trivial ?_
  refine zG.goto (tgt := 66) (off := (-22)) hX (by decide +kernel) (by decide) ?_
  refine zG.blk (pc' := 69) (l' := [some (2, x0), some (0, 19)]) (st' := [(0, 20), (0, 19)]) (M' := M) hX [(.iload_n 1, 0, 0, 0), (.bipush 20, 0, 0, 0)] (by decide +kernel) rfl trivial ?_
  refine zG.icmp_ge (tgt := 91) (off := 22) hX (by decide +kernel) (by decide) (fun c => absurd c (by decide)) (fun _ => ?_)
  obtain ⟨g254, h⟩ := zif h
  refine zG.blk (pc' := 77) (l' := [some (2, x0), some (0, 19)]) (st' := [(0, 19), (2, M x0 2)]) (M' := M) hX [(.aload_n 0, 0, 0, 0), (.getfield 25, 10, 2, 2), (.iload_n 1, 0, 0, 0)] (by decide +kernel) rfl (And.intro g254 trivial) ?_
  obtain ⟨g255, h⟩ := zif h
  refine zG.new (ci := 6) hX sc_10_18 (by decide +kernel) g255 (by rw [hRm]; exact ⟨Nat.le_of_ble_eq_true rfl, Nat.le_of_ble_eq_true rfl⟩) ?_
  show zG C E 2 (zNewS S 6 0) 111 1917 _ 80 [some (2, x0), some (0, 19)] [(2, (S.2.2 + 1)), (0, 19), (2, M x0 2)] (zNewM S M)
  generalize S.2.2 + 1 = r258 at h ⊢
  have h := zlt h
  generalize zNewM S M = M257 at h ⊢
  have h := zlt h
  generalize zNewS S 6 0 = S256 at h ⊢
  have h := zlt h
  refine zG.blk (pc' := 81) (l' := [some (2, x0), some (0, 19)]) (st' := [(2, r258), (2, r258), (0, 19), (2, M x0 2)]) (M' := M257) hX [(.dup, 0, 0, 0)] (by decide +kernel) rfl trivial ?_
  obtain ⟨g261, h⟩ := zif h
  obtain ⟨q259, e260, h⟩ := zbd h
  refine zG.callI (b := r258) (av := []) (st := [(2, r258), (0, 19), (2, M x0 2)]) hX (pX6_init_ok e260) si_10_20 rfl g261 (by decide +kernel) (by rw [hRm]; exact ⟨Nat.le_of_ble_eq_true rfl, Nat.le_of_ble_eq_true rfl⟩) (by rw [hRm]; exact ⟨Nat.le_of_ble_eq_true rfl, Nat.le_of_ble_eq_true rfl⟩) (Nat.le_of_ble_eq_true rfl) ?_
  show zG C E 2 q259.1 115 1999 _ 84 [some (2, x0), some (0, 19)] [(2, r258), (0, 19), (2, M x0 2)] q259.2
  obtain ⟨g262, h⟩ := zif h
  obtain ⟨g263, h⟩ := zif h
  refine zG.blk (pc' := 85) (l' := [some (2, x0), some (0, 19)]) (st' := []) (M' := (upM q259.2 (M x0 2) 19 r258)) hX [(.aastore, 105, 6, 0)] (by decide +kernel) rfl (And.intro g262 (And.intro g263 trivial)) ?_
  generalize upM q259.2 (M x0 2) 19 r258 = M264 at h ⊢
  have h := zlt h
  exact (pX10_init_24000085_ok hX hRm h)
noncomputable def pX10_init_22000085 (S : ZS) (M : ZM) (x0 : Int) : Option (ZS × ZM) := if S.1 x0 = 10 then if S.2.2 < 2000000000 then zlet (S.2.2 + 1) fun r247 => zlet (zNewM S M) fun M246 => zlet (zNewS S 6 0) fun S245 => if 1 ≤ r247 then (pX6_init S245 M246 r247).bind fun q248 => if q248.1.1 (M x0 2) = 105 ∧ (0 : Int) ≤ 18 ∧ 18 < q248.1.2.1 (M x0 2) then if r247 = 0 ∨ q248.1.1 r247 = 6 then zlet (upM q248.2 (M x0 2) 18 r247) fun M253 => pX10_init_23000085 q248.1 M253 x0 else none else none else none else none else none
set_option maxHeartbeats 2000000 in
set_option maxRecDepth 20000 in
theorem pX10_init_22000085_ok {C : ZC} {E : ZE} {q : (ZS × ZM)} (hX : zCx C E 10 cX10_init 2 none true) (hRm : czR C = { frames := 3, cells := 115, slots := 1999, locals := 83 }) {S : ZS} {M : ZM} {x0 : Int} (h : pX10_init_22000085 S M x0 = some q) : zG C E 2 S 105 1821 (zQ C E 115 1999 none q.1 q.2) 85 [some (2, x0), some (0, 17)] [] M := by
  unfold pX10_init_22000085 at h
  refine zG.blk (pc' := 88) (l' := [some (2, x0), some (0, 18)]) (st' := []) (M' := M) hX [(.iinc 1 1, 0, 0, 0)] (by decide +kernel) rfl trivial ?_
  refine zG.goto (tgt := 66) (off := (-22)) hX (by decide +kernel) (by decide) ?_
  refine zG.blk (pc' := 69) (l' := [some (2, x0), some (0, 18)]) (st' := [(0, 20), (0, 18)]) (M' := M) hX [(.iload_n 1, 0, 0, 0), (.bipush 20, 0, 0, 0)] (by decide +kernel) rfl trivial ?_
  refine zG.icmp_ge (tgt := 91) (off := 22) hX (by decide +kernel) (by decide) (fun c => absurd c (by decide)) (fun _ => ?_)
  obtain ⟨g243, h⟩ := zif h
  refine zG.blk (pc' := 77) (l' := [some (2, x0), some (0, 18)]) (st' := [(0, 18), (2, M x0 2)]) (M' := M) hX [(.aload_n 0, 0, 0, 0), (.getfield 25, 10, 2, 2), (.iload_n 1, 0, 0, 0)] (by decide +kernel) rfl (And.intro g243 trivial) ?_
  obtain ⟨g244, h⟩ := zif h
  refine zG.new (ci := 6) hX sc_10_18 (by decide +kernel) g244 (by rw [hRm]; exact ⟨Nat.le_of_ble_eq_true rfl, Nat.le_of_ble_eq_true rfl⟩) ?_
  show zG C E 2 (zNewS S 6 0) 106 1828 _ 80 [some (2, x0), some (0, 18)] [(2, (S.2.2 + 1)), (0, 18), (2, M x0 2)] (zNewM S M)
  generalize S.2.2 + 1 = r247 at h ⊢
  have h := zlt h
  generalize zNewM S M = M246 at h ⊢
  have h := zlt h
  generalize zNewS S 6 0 = S245 at h ⊢
  have h := zlt h
  refine zG.blk (pc' := 81) (l' := [some (2, x0), some (0, 18)]) (st' := [(2, r247), (2, r247), (0, 18), (2, M x0 2)]) (M' := M246) hX [(.dup, 0, 0, 0)] (by decide +kernel) rfl trivial ?_
  obtain ⟨g250, h⟩ := zif h
  obtain ⟨q248, e249, h⟩ := zbd h
  refine zG.callI (b := r247) (av := []) (st := [(2, r247), (0, 18), (2, M x0 2)]) hX (pX6_init_ok e249) si_10_20 rfl g250 (by decide +kernel) (by rw [hRm]; exact ⟨Nat.le_of_ble_eq_true rfl, Nat.le_of_ble_eq_true rfl⟩) (by rw [hRm]; exact ⟨Nat.le_of_ble_eq_true rfl, Nat.le_of_ble_eq_true rfl⟩) (Nat.le_of_ble_eq_true rfl) ?_
  show zG C E 2 q248.1 110 1910 _ 84 [some (2, x0), some (0, 18)] [(2, r247), (0, 18), (2, M x0 2)] q248.2
  obtain ⟨g251, h⟩ := zif h
  obtain ⟨g252, h⟩ := zif h
  refine zG.blk (pc' := 85) (l' := [some (2, x0), some (0, 18)]) (st' := []) (M' := (upM q248.2 (M x0 2) 18 r247)) hX [(.aastore, 105, 6, 0)] (by decide +kernel) rfl (And.intro g251 (And.intro g252 trivial)) ?_
  generalize upM q248.2 (M x0 2) 18 r247 = M253 at h ⊢
  have h := zlt h
  exact (pX10_init_23000085_ok hX hRm h)
noncomputable def pX10_init_21000085 (S : ZS) (M : ZM) (x0 : Int) : Option (ZS × ZM) := if S.1 x0 = 10 then if S.2.2 < 2000000000 then zlet (S.2.2 + 1) fun r236 => zlet (zNewM S M) fun M235 => zlet (zNewS S 6 0) fun S234 => if 1 ≤ r236 then (pX6_init S234 M235 r236).bind fun q237 => if q237.1.1 (M x0 2) = 105 ∧ (0 : Int) ≤ 17 ∧ 17 < q237.1.2.1 (M x0 2) then if r236 = 0 ∨ q237.1.1 r236 = 6 then zlet (upM q237.2 (M x0 2) 17 r236) fun M242 => pX10_init_22000085 q237.1 M242 x0 else none else none else none else none else none
set_option maxHeartbeats 2000000 in
set_option maxRecDepth 20000 in
theorem pX10_init_21000085_ok {C : ZC} {E : ZE} {q : (ZS × ZM)} (hX : zCx C E 10 cX10_init 2 none true) (hRm : czR C = { frames := 3, cells := 115, slots := 1999, locals := 83 }) {S : ZS} {M : ZM} {x0 : Int} (h : pX10_init_21000085 S M x0 = some q) : zG C E 2 S 100 1732 (zQ C E 115 1999 none q.1 q.2) 85 [some (2, x0), some (0, 16)] [] M := by
  unfold pX10_init_21000085 at h
  refine zG.blk (pc' := 88) (l' := [some (2, x0), some (0, 17)]) (st' := []) (M' := M) hX [(.iinc 1 1, 0, 0, 0)] (by decide +kernel) rfl trivial ?_
  refine zG.goto (tgt := 66) (off := (-22)) hX (by decide +kernel) (by decide) ?_
  refine zG.blk (pc' := 69) (l' := [some (2, x0), some (0, 17)]) (st' := [(0, 20), (0, 17)]) (M' := M) hX [(.iload_n 1, 0, 0, 0), (.bipush 20, 0, 0, 0)] (by decide +kernel) rfl trivial ?_
  refine zG.icmp_ge (tgt := 91) (off := 22) hX (by decide +kernel) (by decide) (fun c => absurd c (by decide)) (fun _ => ?_)
  obtain ⟨g232, h⟩ := zif h
  refine zG.blk (pc' := 77) (l' := [some (2, x0), some (0, 17)]) (st' := [(0, 17), (2, M x0 2)]) (M' := M) hX [(.aload_n 0, 0, 0, 0), (.getfield 25, 10, 2, 2), (.iload_n 1, 0, 0, 0)] (by decide +kernel) rfl (And.intro g232 trivial) ?_
  obtain ⟨g233, h⟩ := zif h
  refine zG.new (ci := 6) hX sc_10_18 (by decide +kernel) g233 (by rw [hRm]; exact ⟨Nat.le_of_ble_eq_true rfl, Nat.le_of_ble_eq_true rfl⟩) ?_
  show zG C E 2 (zNewS S 6 0) 101 1739 _ 80 [some (2, x0), some (0, 17)] [(2, (S.2.2 + 1)), (0, 17), (2, M x0 2)] (zNewM S M)
  generalize S.2.2 + 1 = r236 at h ⊢
  have h := zlt h
  generalize zNewM S M = M235 at h ⊢
  have h := zlt h
  generalize zNewS S 6 0 = S234 at h ⊢
  have h := zlt h
  refine zG.blk (pc' := 81) (l' := [some (2, x0), some (0, 17)]) (st' := [(2, r236), (2, r236), (0, 17), (2, M x0 2)]) (M' := M235) hX [(.dup, 0, 0, 0)] (by decide +kernel) rfl trivial ?_
  obtain ⟨g239, h⟩ := zif h
  obtain ⟨q237, e238, h⟩ := zbd h
  refine zG.callI (b := r236) (av := []) (st := [(2, r236), (0, 17), (2, M x0 2)]) hX (pX6_init_ok e238) si_10_20 rfl g239 (by decide +kernel) (by rw [hRm]; exact ⟨Nat.le_of_ble_eq_true rfl, Nat.le_of_ble_eq_true rfl⟩) (by rw [hRm]; exact ⟨Nat.le_of_ble_eq_true rfl, Nat.le_of_ble_eq_true rfl⟩) (Nat.le_of_ble_eq_true rfl) ?_
  show zG C E 2 q237.1 105 1821 _ 84 [some (2, x0), some (0, 17)] [(2, r236), (0, 17), (2, M x0 2)] q237.2
  obtain ⟨g240, h⟩ := zif h
  obtain ⟨g241, h⟩ := zif h
  refine zG.blk (pc' := 85) (l' := [some (2, x0), some (0, 17)]) (st' := []) (M' := (upM q237.2 (M x0 2) 17 r236)) hX [(.aastore, 105, 6, 0)] (by decide +kernel) rfl (And.intro g240 (And.intro g241 trivial)) ?_
  generalize upM q237.2 (M x0 2) 17 r236 = M242 at h ⊢
  have h := zlt h
  exact (pX10_init_22000085_ok hX hRm h)
noncomputable def pX10_init_20000085 (S : ZS) (M : ZM) (x0 : Int) : Option (ZS × ZM) := if S.1 x0 = 10 then if S.2.2 < 2000000000 then zlet (S.2.2 + 1) fun r225 => zlet (zNewM S M) fun M224 => zlet (zNewS S 6 0) fun S223 => if 1 ≤ r225 then (pX6_init S223 M224 r225).bind fun q226 => if q226.1.1 (M x0 2) = 105 ∧ (0 : Int) ≤ 16 ∧ 16 < q226.1.2.1 (M x0 2) then if r225 = 0 ∨ q226.1.1 r225 = 6 then zlet (upM q226.2 (M x0 2) 16 r225) fun M231 => pX10_init_21000085 q226.1 M231 x0 else none else none else none else none else none
set_option maxHeartbeats 2000000 in
set_option maxRecDepth 20000 in
theorem pX10_init_20000085_ok {C : ZC} {E : ZE} {q : (ZS × ZM)} (hX : zCx C E 10 cX10_init 2 none true) (hRm : czR C = { frames := 3, cells := 115, slots := 1999, locals := 83 }) {S : ZS} {M : ZM} {x0 : Int} (h : pX10_init_20000085 S M x0 = some q) : zG C E 2 S 95 1643 (zQ C E 115 1999 none q.1 q.2) 85 [some (2, x0), some (0, 15)] [] M := by
  unfold pX10_init_20000085 at h
  refine zG.blk (pc' := 88) (l' := [some (2, x0), some (0, 16)]) (st' := []) (M' := M) hX [(.iinc 1 1, 0, 0, 0)] (by decide +kernel) rfl trivial ?_
  refine zG.goto (tgt := 66) (off := (-22)) hX (by decide +kernel) (by decide) ?_
  refine zG.blk (pc' := 69) (l' := [some (2, x0), some (0, 16)]) (st' := [(0, 20), (0, 16)]) (M' := M) hX [(.iload_n 1, 0, 0, 0), (.bipush 20, 0, 0, 0)] (by decide +kernel) rfl trivial ?_
  refine zG.icmp_ge (tgt := 91) (off := 22) hX (by decide +kernel) (by decide) (fun c => absurd c (by decide)) (fun _ => ?_)
  obtain ⟨g221, h⟩ := zif h
  refine zG.blk (pc' := 77) (l' := [some (2, x0), some (0, 16)]) (st' := [(0, 16), (2, M x0 2)]) (M' := M) hX [(.aload_n 0, 0, 0, 0), (.getfield 25, 10, 2, 2), (.iload_n 1, 0, 0, 0)] (by decide +kernel) rfl (And.intro g221 trivial) ?_
  obtain ⟨g222, h⟩ := zif h
  refine zG.new (ci := 6) hX sc_10_18 (by decide +kernel) g222 (by rw [hRm]; exact ⟨Nat.le_of_ble_eq_true rfl, Nat.le_of_ble_eq_true rfl⟩) ?_
  show zG C E 2 (zNewS S 6 0) 96 1650 _ 80 [some (2, x0), some (0, 16)] [(2, (S.2.2 + 1)), (0, 16), (2, M x0 2)] (zNewM S M)
  generalize S.2.2 + 1 = r225 at h ⊢
  have h := zlt h
  generalize zNewM S M = M224 at h ⊢
  have h := zlt h
  generalize zNewS S 6 0 = S223 at h ⊢
  have h := zlt h
  refine zG.blk (pc' := 81) (l' := [some (2, x0), some (0, 16)]) (st' := [(2, r225), (2, r225), (0, 16), (2, M x0 2)]) (M' := M224) hX [(.dup, 0, 0, 0)] (by decide +kernel) rfl trivial ?_
  obtain ⟨g228, h⟩ := zif h
  obtain ⟨q226, e227, h⟩ := zbd h
  refine zG.callI (b := r225) (av := []) (st := [(2, r225), (0, 16), (2, M x0 2)]) hX (pX6_init_ok e227) si_10_20 rfl g228 (by decide +kernel) (by rw [hRm]; exact ⟨Nat.le_of_ble_eq_true rfl, Nat.le_of_ble_eq_true rfl⟩) (by rw [hRm]; exact ⟨Nat.le_of_ble_eq_true rfl, Nat.le_of_ble_eq_true rfl⟩) (Nat.le_of_ble_eq_true rfl) ?_
  show zG C E 2 q226.1 100 1732 _ 84 [some (2, x0), some (0, 16)] [(2, r225), (0, 16), (2, M x0 2)] q226.2
  obtain ⟨g229, h⟩ := zif h
  obtain ⟨g230, h⟩ := zif h
  refine zG.blk (pc' := 85) (l' := [some (2, x0), some (0, 16)]) (st' := []) (M' := (upM q226.2 (M x0 2) 16 r225)) hX [(.aastore, 105, 6, 0)] (by decide +kernel) rfl (And.intro g229 (And.intro g230 trivial)) ?_
  generalize upM q226.2 (M x0 2) 16 r225 = M231 at h ⊢
  have h := zlt h
  exact (pX10_init_21000085_ok hX hRm h)
noncomputable def pX10_init_19000085 (S : ZS) (M : ZM) (x0 : Int) : Option (ZS × ZM) := if S.1 x0 = 10 then if S.2.2 < 2000000000 then zlet (S.2.2 + 1) fun r214 => zlet (zNewM S M) fun M213 => zlet (zNewS S 6 0) fun S212 => if 1 ≤ r214 then (pX6_init S212 M213 r214).bind fun q215 => if q215.1.1 (M x0 2) = 105 ∧ (0 : Int) ≤ 15 ∧ 15 < q215.1.2.1 (M x0 2) then if r214 = 0 ∨ q215.1.1 r214 = 6 then zlet (upM q215.2 (M x0 2) 15 r214) fun M220 => pX10_init_20000085 q215.1 M220 x0 else none else none else none else none else none
set_option maxHeartbeats 2000000 in
set_option maxRecDepth 20000 in
theorem pX10_init_19000085_ok {C : ZC} {E : ZE} {q : (ZS × ZM)} (hX : zCx C E 10 cX10_init 2 none true) (hRm : czR C = { frames := 3, cells := 115, slots := 1999, locals := 83 }) {S : ZS} {M : ZM} {x0 : Int} (h : pX10_init_19000085 S M x0 = some q) : zG C E 2 S 90 1554 (zQ C E 115 1999 none q.1 q.2) 85 [some (2, x0), some (0, 14)] [] M := by
  unfold pX10_init_19000085 at h
  refine zG.blk (pc' := 88) (l' := [some (2, x0), some (0, 15)]) (st' := []) (M' := M) hX [(.iinc 1 1, 0, 0, 0)] (by decide +kernel) rfl trivial ?_
  refine zG.goto (tgt := 66) (off := (-22)) hX (by decide +kernel) (by decide) ?_
  refine zG.blk (pc' := 69) (l' := [some (2, x0), some (0, 15)]) (st' := [(0, 20), (0, 15)]) (M' := M) hX [(.iload_n 1, 0, 0, 0), (.bipush 20, 0, 0, 0)] (by decide +kernel) rfl trivial ?_
  refine zG.icmp_ge (tgt := 91) (off := 22) hX (by decide +kernel) (by decide) (fun c => absurd c (by decide)) (fun _ => ?_)
  obtain ⟨g210, h⟩ := zif h
  refine zG.blk (pc' := 77) (l' := [some (2, x0), some (0, 15)]) (st' := [(0, 15), (2, M x0 2)]) (M' := M) hX [(.aload_n 0, 0, 0, 0), (.getfield 25, 10, 2, 2), (.iload_n 1, 0, 0, 0)] (by decide +kernel) rfl (And.intro g210 trivial) ?_
  obtain ⟨g211, h⟩ := zif h
  refine zG.new (ci := 6) hX sc_10_18 (by decide +kernel) g211 (by rw [hRm]; exact ⟨Nat.le_of_ble_eq_true rfl, Nat.le_of_ble_eq_true rfl⟩) ?_
  show zG C E 2 (zNewS S 6 0) 91 1561 _ 80 [some (2, x0), some (0, 15)] [(2, (S.2.2 + 1)), (0, 15), (2, M x0 2)] (zNewM S M)
  generalize S.2.2 + 1 = r214 at h ⊢
  have h := zlt h
  generalize zNewM S M = M213 at h ⊢
  have h := zlt h
  generalize zNewS S 6 0 = S212 at h ⊢
  have h := zlt h
  refine zG.blk (pc' := 81) (l' := [some (2, x0), some (0, 15)]) (st' := [(2, r214), (2, r214), (0, 15), (2, M x0 2)]) (M' := M213) hX [(.dup, 0, 0, 0)] (by decide +kernel) rfl trivial ?_
  obtain ⟨g217, h⟩ := zif h
  obtain ⟨q215, e216, h⟩ := zbd h
  refine zG.callI (b := r214) (av := []) (st := [(2, r214), (0, 15), (2, M x0 2)]) hX (pX6_init_ok e216) si_10_20 rfl g217 (by decide +kernel) (by rw [hRm]; exact ⟨Nat.le_of_ble_eq_true rfl, Nat.le_of_ble_eq_true rfl⟩) (by rw [hRm]; exact ⟨Nat.le_of_ble_eq_true rfl, Nat.le_of_ble_eq_true rfl⟩) (Nat.le_of_ble_eq_true rfl) ?_
  show zG C E 2 q215.1 95 1643 _ 84 [some (2, x0), some (0, 15)] [(2, r214), (0, 15), (2, M x0 2)] q215.2
  obtain ⟨g218, h⟩ := zif h
  obtain ⟨g219, h⟩ := zif h
  refine zG.blk (pc' := 85) (l' := [some (2, x0), some (0, 15)]) (st' := []) (M' := (upM q215.2 (M x0 2) 15 r214)) hX [(.aastore, 105, 6, 0)] (by decide +kernel) rfl (And.intro g218 (And.intro g219 trivial)) ?_
  generalize upM q215.2 (M x0 2) 15 r214 = M220 at h ⊢
  have h := zlt h
  exact (pX10_init_20000085_ok hX hRm h)
noncomputable def pX10_init_18000085 (S : ZS) (M : ZM) (x0 : Int) : Option (ZS × ZM) := if S.1 x0 = 10 then if S.2.2 < 2000000000 then zlet (S.2.2 + 1) fun r203 => zlet (zNewM S M) fun M202 => zlet (zNewS S 6 0) fun S201 => if 1 ≤ r203 then (pX6_init S201 M202 r203).bind fun q204 => if q204.1.1 (M x0 2) = 105 ∧ (0 : Int) ≤ 14 ∧ 14 < q204.1.2.1 (M x0 2) then if r203 = 0 ∨ q204.1.1 r203 = 6 then zlet (upM q204.2 (M x0 2) 14 r203) fun M209 => pX10_init_19000085 q204.1 M209 x0 else none else none else none else none else none
set_option maxHeartbeats 2000000 in
set_option maxRecDepth 20000 in
theorem pX10_init_18000085_ok {C : ZC} {E : ZE} {q : (ZS × ZM)} (hX : zCx C E 10 cX10_init 2 none true) (hRm : czR C = { frames := 3, cells := 115, slots := 1999, locals := 83 }) {S : ZS} {M : ZM} {x0 : Int} (h : pX10_init_18000085 S M x0 = some q) : zG C E 2 S 85 1465 (zQ C E 115 1999 none q.1 q.2) 85 [some (2, x0), some (0, 13)] [] M := by
  unfold pX10_init_18000085 at h
  refine zG.blk (pc' := 88) (l' := [some (2, x0), some (0, 14)]) (st' := []) (M' := M) hX [(.iinc 1 1, 0, 0, 0)] (by decide +kernel) rfl trivial ?_
  refine zG.goto (tgt := 66) (off := (-22)) hX (by decide +kernel) (by decide) ?_
  refine zG.blk (pc' := 69) (l' := [some (2, x0), some (0, 14)]) (st' := [(0, 20), (0, 14)]) (M' := M) hX [(.iload_n 1, 0, 0, 0), (.bipush 20, 0, 0, 0)] (by decide +kernel) rfl trivial ?_
  refine zG.icmp_ge (tgt := 91) (off := 22) hX (by decide +kernel) (by decide) (fun c => absurd c (by decide)) (fun _ => ?_)
  obtain ⟨g199, h⟩ := zif h
  refine zG.blk (pc' := 77) (l' := [some (2, x0), some (0, 14)]) (st' := [(0, 14), (2, M x0 2)]) (M' := M) hX [(.aload_n 0, 0, 0, 0), (.getfield 25, 10, 2, 2), (.iload_n 1, 0, 0, 0)] (by decide +kernel) rfl (And.intro g199 trivial) ?_
  obtain ⟨g200, h⟩ := zif h
  refine zG.new (ci := 6) hX sc_10_18 (by decide +kernel) g200 (by rw [hRm]; exact ⟨Nat.le_of_ble_eq_true rfl, Nat.le_of_ble_eq_true rfl⟩) ?_
  show zG C E 2 (zNewS S 6 0) 86 1472 _ 80 [some (2, x0), some (0, 14)] [(2, (S.2.2 + 1)), (0, 14), (2, M x0 2)] (zNewM S M)
  generalize S.2.2 + 1 = r203 at h ⊢
  have h := zlt h
  generalize zNewM S M = M202 at h ⊢
  have h := zlt h
  generalize zNewS S 6 0 = S201 at h ⊢
  have h := zlt h
  refine zG.blk (pc' := 81) (l' := [some (2, x0), some (0, 14)]) (st' := [(2, r203), (2, r203), (0, 14), (2, M x0 2)]) (M' := M202) hX [(.dup, 0, 0, 0)] (by decide +kernel) rfl trivial ?_
  obtain ⟨g206, h⟩ := zif h
  obtain ⟨q204, e205, h⟩ := zbd h
  refine zG.callI (b := r203) (av := []) (st := [(2, r203), (0, 14), (2, M x0 2)]) hX (pX6_init_ok e205) si_10_20 rfl g206 (by decide +kernel) (by rw [hRm]; exact ⟨Nat.le_of_ble_eq_true rfl, Nat.le_of_ble_eq_true rfl⟩) (by rw [hRm]; exact ⟨Nat.le_of_ble_eq_true rfl, Nat.le_of_ble_eq_true rfl⟩) (Nat.le_of_ble_eq_true rfl) ?_
  show zG C E 2 q204.1 90 1554 _ 84 [some (2, x0), some (0, 14)] [(2, r203), (0, 14), (2, M x0 2)] q204.2
  obtain ⟨g207, h⟩ := zif h
  obtain ⟨g208, h⟩ := zif h
  refine zG.blk (pc' := 85) (l' := [some (2, x0), some (0, 14)]) (st' := []) (M' := (upM q204.2 (M x0 2) 14 r203)) hX [(.aastore, 105, 6, 0)] (by decide +kernel) rfl (And.intro g207 (And.intro g208 trivial)) ?_
  generalize upM q204.2 (M x0 2) 14 r203 = M209 at h ⊢
  have h := zlt h
  exact (pX10_init_19000085_ok hX hRm h)
noncomputable def pX10_init_17000085 (S : ZS) (M : ZM) (x0 : Int) : Option (ZS × ZM) := if S.1 x0 = 10 then if S.2.2 < 2000000000 then zlet (S.2.2 + 1) fun r192 => zlet (zNewM S M) fun M191 => zlet (zNewS S 6 0) fun S190 => if 1 ≤ r192 then (pX6_init S190 M191 r192).bind fun q193 => if q193.1.1 (M x0 2) = 105 ∧ (0 : Int) ≤ 13 ∧ 13 < q193.1.2.1 (M x0 2) then if r192 = 0 ∨ q193.1.1 r192 = 6 then zlet (upM q193.2 (M x0 2) 13 r192) fun M198 => pX10_init_18000085 q193.1 M198 x0 else none else none else none else none else none
set_option maxHeartbeats 2000000 in
set_option maxRecDepth 20000 in
theorem pX10_init_17000085_ok {C : ZC} {E : ZE} {q : (ZS × ZM)} (hX : zCx C E 10 cX10_init 2 none true) (hRm : czR C = { frames := 3, cells := 115, slots := 1999, locals := 83 }) {S : ZS} {M : ZM} {x0 : Int} (h : pX10_init_17000085 S M x0 = some q) : zG C E 2 S 80 1376 (zQ C E 115 1999 none q.1 q.2) 85 [some (2, x0), some (0, 12)] [] M := by
  unfold pX10_init_17000085 at h
  refine zG.blk (pc' := 88) (l' := [some (2, x0), some (0, 13)]) (st' := []) (M' := M) hX [(.iinc 1 1, 0, 0, 0)] (by decide +kernel) rfl trivial ?_
  refine zG.goto (tgt := 66) (off := (-22)) hX (by decide +kernel) (by decide) ?_
  refine zG.blk (pc' := 69) (l' := [some (2, x0), some (0, 13)]) (st' := [(0, 20), (0, 13)]) (M' := M) hX [(.iload_n 1, 0, 0, 0), (.bipush 20, 0, 0, 0)] (by decide +kernel) rfl trivial ?_
  refine zG.icmp_ge (tgt := 91) (off := 22) hX (by decide +kernel) (by decide) (fun c => absurd c (by decide)) (fun _ => ?_)
  obtain ⟨g188, h⟩ := zif h
  refine zG.blk (pc' := 77) (l' := [some (2, x0), some (0, 13)]) (st' := [(0, 13), (2, M x0 2)]) (M' := M) hX [(.aload_n 0, 0, 0, 0), (.getfield 25, 10, 2, 2), (.iload_n 1, 0, 0, 0)] (by decide +kernel) rfl (And.intro g188 trivial) ?_
  obtain ⟨g189, h⟩ := zif h
  refine zG.new (ci := 6) hX sc_10_18 (by decide +kernel) g189 (by rw [hRm]; exact ⟨Nat.le_of_ble_eq_true rfl, Nat.le_of_ble_eq_true rfl⟩) ?_
  show zG C E 2 (zNewS S 6 0) 81 1383 _ 80 [some (2, x0), some (0, 13)] [(2, (S.2.2 + 1)), (0, 13), (2, M x0 2)] (zNewM S M)
  generalize S.2.2 + 1 = r192 at h ⊢
  have h := zlt h
  generalize zNewM S M = M191 at h ⊢
  have h := zlt h
  generalize zNewS S 6 0 = S190 at h ⊢
  have h := zlt h
  refine zG.blk (pc' := 81) (l' := [some (2, x0), some (0, 13)]) (st' := [(2, r192), (2, r192), (0, 13), (2, M x0 2)]) (M' := M191) hX [(.dup, 0, 0, 0)] (by decide +kernel) rfl trivial ?_
  obtain ⟨g195, h⟩ := zif h
  obtain ⟨q193, e194, h⟩ := zbd h
  refine zG.callI (b := r192) (av := []) (st := [(2, r192), (0, 13), (2, M x0 2)]) hX (pX6_init_ok e194) si_10_20 rfl g195 (by decide +kernel) (by rw [hRm]; exact ⟨Nat.le_of_ble_eq_true rfl, Nat.le_of_ble_eq_true rfl⟩) (by rw [hRm]; exact ⟨Nat.le_of_ble_eq_true rfl, Nat.le_of_ble_eq_true rfl⟩) (Nat.le_of_ble_eq_true rfl) ?_
  show zG C E 2 q193.1 85 1465 _ 84 [some (2, x0), some (0, 13)] [(2, r192), (0, 13), (2, M x0 2)] q193.2
  obtain ⟨g196, h⟩ := zif h
  obtain ⟨g197, h⟩ := zif h
  refine zG.blk (pc' := 85) (l' := [some (2, x0), some (0, 13)]) (st' := []) (M' := (upM q193.2 (M x0 2) 13 r192)) hX [(.aastore, 105, 6, 0)] (by decide +kernel) rfl (And.intro g196 (And.intro g197 trivial)) ?_
  generalize upM q193.2 (M x0 2) 13 r192 = M198 at h ⊢
  have h := zlt h
  exact (pX10_init_18000085_ok hX hRm h)
noncomputable def pX10_init_16000085 (S : ZS) (M : ZM) (x0 : Int) : Option (ZS × ZM) := if S.1 x0 = 10 then if S.2.2 < 2000000000 then zlet (S.2.2 + 1) fun r181 => zlet (zNewM S M) fun M180 => zlet (zNewS S 6 0) fun S179 => if 1 ≤ r181 then (pX6_init S179 M180 r181).bind fun q182 => if q182.1.1 (M x0 2) = 105 ∧ (0 : Int) ≤ 12 ∧ 12 < q182.1.2.1 (M x0 2) then if r181 = 0 ∨ q182.1.1 r181 = 6 then zlet (upM q182.2 (M x0 2) 12 r181) fun M187 => pX10_init_17000085 q182.1 M187 x0 else none else none else none else none else none
set_option maxHeartbeats 2000000 in
set_option maxRecDepth 20000 in
theorem pX10_init_16000085_ok {C : ZC} {E : ZE} {q : (ZS × ZM)} (hX : zCx C E 10 cX10_init 2 none true) (hRm : czR C = { frames := 3, cells := 115, slots := 1999, locals := 83 }) {S : ZS} {M : ZM} {x0 : Int} (h : pX10_init_16000085 S M x0 = some q) : zG C E 2 S 75 1287 (zQ C E 115 1999 none q.1 q.2) 85 [some (2, x0), some (0, 11)] [] M := by
  unfold pX10_init_16000085 at h
  refine zG.blk (pc' := 88) (l' := [some (2, x0), some (0, 12)]) (st' := []) (M' := M) hX [(.iinc 1 1, 0, 0, 0)] (by decide +kernel) rfl trivial ?_
  refine zG.goto (tgt := 66) (off := (-22)) hX (by decide +kernel) (by decide) ?_
  refine zG.blk (pc' := 69) (l' := [some (2, x0), some (0, 12)]) (st' := [(0, 20), (0, 12)]) (M' := M) hX [(.iload_n 1, 0, 0, 0), (.bipush 20, 0, 0, 0)] (by decide +kernel) rfl trivial ?_
  refine zG.icmp_ge (tgt := 91) (off := 22) hX (by decide +kernel) (by decide) (fun c => absurd c (by decide)) (fun _ => ?_)
  obtain ⟨g177, h⟩ := zif h
  refine zG.blk (pc' := 77) (l' := [some (2, x0), some (0, 12)]) (st' := [(0, 12), (2, M x0 2)]) (M' := M) hX [(.aload_n 0, 0, 0, 0), (.getfield 25, 10, 2, 2), (.iload_n 1, 0, 0, 0)] (by decide +kernel) rfl (And.intro g177 trivial) ?_
  obtain ⟨g178, h⟩ := zif h
  refine zG.new (ci := 6) hX sc_10_18 (by decide +kernel) g178 (by rw [hRm]; exact ⟨Nat.le_of_ble_eq_true rfl, Nat.le_of_ble_eq_true rfl⟩) ?_
  show zG C E 2 (zNewS S 6 0) 76 1294 _ 80 [some (2, x0), some (0, 12)] [(2, (S.2.2 + 1)), (0, 12), (2, M x0 2)] (zNewM S M)
  generalize S.2.2 + 1 = r181 at h ⊢
  have h := zlt h
  generalize zNewM S M = M180 at h ⊢
  have h := zlt h
  generalize zNewS S 6 0 = S179 at h ⊢
  have h := zlt h
  refine zG.blk (pc' := 81) (l' := [some (2, x0), some (0, 12)]) (st' := [(2, r181), (2, r181), (0, 12), (2, M x0 2)]) (M' := M180) hX [(.dup, 0, 0, 0)] (by decide +kernel) rfl trivial ?_
  obtain ⟨g184, h⟩ := zif h
  obtain ⟨q182, e183, h⟩ := zbd h
  refine zG.callI (b := r181) (av := []) (st := [(2, r181), (0, 12), (2, M x0 2)]) hX (pX6_init_ok e183) si_10_20 rfl g184 (by decide +kernel) (by rw [hRm]; exact ⟨Nat.le_of_ble_eq_true rfl, Nat.le_of_ble_eq_true rfl⟩) (by rw [hRm]; exact ⟨Nat.le_of_ble_eq_true rfl, Nat.le_of_ble_eq_true rfl⟩) (Nat.le_of_ble_eq_true rfl) ?_
  show zG C E 2 q182.1 80 1376 _ 84 [some (2, x0), some (0, 12)] [(2, r181), (0, 12), (2, M x0 2)] q182.2
  obtain ⟨g185, h⟩ := zif h
  obtain ⟨g186, h⟩ := zif h
  refine zG.blk (pc' := 85) (l' := [some (2, x0), some (0, 12)]) (st' := []) (M' := (upM q182.2 (M x0 2) 12 r181)) hX [(.aastore, 105, 6, 0)] (by decide +kernel) rfl (And.intro g185 (And.intro g186 trivial)) ?_
  generalize upM q182.2 (M x0 2) 12 r181 = M187 at h ⊢
  have h := zlt h
  exact (pX10_init_17000085_ok hX hRm h)
noncomputable def pX10_init_15000085 (S : ZS) (M : ZM) (x0 : Int) : Option (ZS × ZM) := if S.1 x0 = 10 then if S.2.2 < 2000000000 then zlet (S.2.2 + 1) fun r170 => zlet (zNewM S M) fun M169 => zlet (zNewS S 6 0) fun S168 => if 1 ≤ r170 then (pX6_init S168 M169 r170).bind fun q171 => if q171.1.1 (M x0 2) = 105 ∧ (0 : Int) ≤ 11 ∧ 11 < q171.1.2.1 (M x0 2) then if r170 = 0 ∨ q171.1.1 r170 = 6 then zlet (upM q171.2 (M x0 2) 11 r170) fun M176 => pX10_init_16000085 q171.1 M176 x0 else none else none else none else none else none
set_option maxHeartbeats 2000000 in
set_option maxRecDepth 20000 in
theorem pX10_init_15000085_ok {C : ZC} {E : ZE} {q : (ZS × ZM)} (hX : zCx C E 10 cX10_init 2 none true) (hRm : czR C = { frames := 3, cells := 115, slots := 1999, locals := 83 }) {S : ZS} {M : ZM} {x0 : Int} (h : pX10_init_15000085 S M x0 = some q) : zG C E 2 S 70 1198 (zQ C E 115 1999 none q.1 q.2) 85 [some (2, x0), some (0, 10)] [] M := by
  unfold pX10_init_15000085 at h
  refine zG.blk (pc' := 88) (l' := [some (2, x0), some (0, 11)]) (st' := []) (M' := M) hX [(.iinc 1 1, 0, 0, 0)] (by decide +kernel) rfl trivial ?_
  refine zG.goto (tgt := 66) (off := (-22)) hX (by decide +kernel) (by decide) ?_
  refine zG.blk (pc' := 69) (l' := [some (2, x0), some (0, 11)]) (st' := [(0, 20), (0, 11)]) (M' := M) hX [(.iload_n 1, 0, 0, 0), (.bipush 20, 0, 0, 0)] (by decide +kernel) rfl trivial ?_
  refine zG.icmp_ge (tgt := 91) (off := 22) hX (by decide +kernel) (by decide) (fun c => absurd c (by decide)) (fun _ => ?_)
  obtain ⟨g166, h⟩ := zif h
  refine zG.blk (pc' := 77) (l' := [some (2, x0), some (0, 11)]) (st' := [(0, 11), (2, M x0 2)]) (M' := M) hX [(.aload_n 0, 0, 0, 0), (.getfield 25, 10, 2, 2), (.iload_n 1, 0, 0, 0)] (by decide +kernel) rfl (And.intro g166 trivial) ?_
  obtain ⟨g167, h⟩ := zif h
  refine zG.new (ci := 6) hX sc_10_18 (by decide +kernel) g167 (by rw [hRm]; exact ⟨Nat.le_of_ble_eq_true rfl, Nat.le_of_ble_eq_true rfl⟩) ?_
  show zG C E 2 (zNewS S 6 0) 71 1205 _ 80 [some (2, x0), some (0, 11)] [(2, (S.2.2 + 1)), (0, 11), (2, M x0 2)] (zNewM S M)
  generalize S.2.2 + 1 = r170 at h ⊢
  have h := zlt h
  generalize zNewM S M = M169 at h ⊢
  have h := zlt h
  generalize zNewS S 6 0 = S168 at h ⊢
  have h := zlt h
  refine zG.blk (pc' := 81) (l' := [some (2, x0), some (0, 11)]) (st' := [(2, r170), (2, r170), (0, 11), (2, M x0 2)]) (M' := M169) hX [(.dup, 0, 0, 0)] (by decide +kernel) rfl trivial ?_
  obtain ⟨g173, h⟩ := zif h
  obtain ⟨q171, e172, h⟩ := zbd h
  refine zG.callI (b := r170) (av := []) (st := [(2, r170), (0, 11), (2, M x0 2)]) hX (pX6_init_ok e172) si_10_20 rfl g173 (by decide +kernel) (by rw [hRm]; exact ⟨Nat.le_of_ble_eq_true rfl, Nat.le_of_ble_eq_true rfl⟩) (by rw [hRm]; exact ⟨Nat.le_of_ble_eq_true rfl, Nat.le_of_ble_eq_true rfl⟩) (Nat.le_of_ble_eq_true rfl) ?_
  show zG C E 2 q171.1 75 1287 _ 84 [some (2, x0), some (0, 11)] [(2, r170), (0, 11), (2, M x0 2)] q171.2
  obtain ⟨g174, h⟩ := zif h
  obtain ⟨g175, h⟩ := zif h
  refine zG.blk (pc' := 85) (l' := [some (2, x0), some (0, 11)]) (st' := []) (M' := (upM q171.2 (M x0 2) 11 r170)) hX [(.aastore, 105, 6, 0)] (by decide +kernel) rfl (And.intro g174 (And.intro g175 trivial)) ?_
  generalize upM q171.2 (M x0 2) 11 r170 = M176 at h ⊢
  have h := zlt h
  exact (pX10_init_16000085_ok hX hRm h)
noncomputable def pX10_init_14000085 (S : ZS) (M : ZM) (x0 : Int) : Option (ZS × ZM) := if S.1 x0 = 10 then if S.2.2 < 2000000000 then zlet (S.2.2 + 1) fun r159 => zlet (zNewM S M) fun M158 => zlet (zNewS S 6 0) fun S157 => if 1 ≤ r159 then (pX6_init S157 M158 r159).bind fun q160 => if q160.1.1 (M x0 2) = 105 ∧ (0 : Int) ≤ 10 ∧ 10 < q160.1.2.1 (M x0 2) then if r159 = 0 ∨ q160.1.1 r159 = 6 then zlet (upM q160.2 (M x0 2) 10 r159) fun M165 => pX10_init_15000085 q160.1 M165 x0 else none else none else none else none else none
set_option maxHeartbeats 2000000 in
set_option maxRecDepth 20000 in
theorem pX10_init_14000085_ok {C : ZC} {E : ZE} {q : (ZS × ZM)} (hX : zCx C E 10 cX10_init 2 none true) (hRm : czR C = { frames := 3, cells := 115, slots := 1999, locals := 83 }) {S : ZS} {M : ZM} {x0 : Int} (h : pX10_init_14000085 S M x0 = some q) : zG C E 2 S 65 1109 (zQ C E 115 1999 none q.1 q.2) 85 [some (2, x0), some (0, 9)] [] M := by
  unfold pX10_init_14000085 at h
  refine zG.blk (pc' := 88) (l' := [some (2, x0), some (0, 10)]) (st' := []) (M' := M) hX [(.iinc 1 1, 0, 0, 0)] (by decide +kernel) rfl trivial ?_
  refine zG.goto (tgt := 66) (off := (-22)) hX (by decide +kernel) (by decide) ?_
  refine zG.blk (pc' := 69) (l' := [some (2, x0), some (0, 10)]) (st' := [(0, 20), (0, 10)]) (M' := M) hX [(.iload_n 1, 0, 0, 0), (.bipush 20, 0, 0, 0)] (by decide +kernel) rfl trivial ?_
  refine zG.icmp_ge (tgt := 91) (off := 22) hX (by decide +kernel) (by decide) (fun c => absurd c (by decide)) (fun _ => ?_)
  obtain ⟨g155, h⟩ := zif h
  refine zG.blk (pc' := 77) (l' := [some (2, x0), some (0, 10)]) (st' := [(0, 10), (2, M x0 2)]) (M' := M) hX [(.aload_n 0, 0, 0, 0), (.getfield 25, 10, 2, 2), (.iload_n 1, 0, 0, 0)] (by decide +kernel) rfl (And.intro g155 trivial) ?_
  obtain ⟨g156, h⟩ := zif h
  refine zG.new (ci := 6) hX sc_10_18 (by decide +kernel) g156 (by rw [hRm]; exact ⟨Nat.le_of_ble_eq_true rfl, Nat.le_of_ble_eq_true rfl⟩) ?_
  show zG C E 2 (zNewS S 6 0) 66 1116 _ 80 [some (2, x0), some (0, 10)] [(2, (S.2.2 + 1)), (0, 10), (2, M x0 2)] (zNewM S M)
  generalize S.2.2 + 1 = r159 at h ⊢
  have h := zlt h
  generalize zNewM S M = M158 at h ⊢
  have h := zlt h
  generalize zNewS S 6 0 = S157 at h ⊢
  have h := zlt h
  refine zG.blk (pc' := 81) (l' := [some (2, x0), some (0, 10)]) (st' := [(2, r159), (2, r159), (0, 10), (2, M x0 2)]) (M' := M158) hX [(.dup, 0, 0, 0)] (by decide +kernel) rfl trivial ?_
  obtain ⟨g162, h⟩ := zif h
  obtain ⟨q160, e161, h⟩ := zbd h
  refine zG.callI (b := r159) (av := []) (st := [(2, r159), (0, 10), (2, M x0 2)]) hX (pX6_init_ok e161) si_10_20 rfl g162 (by decide +kernel) (by rw [hRm]; exact ⟨Nat.le_of_ble_eq_true rfl, Nat.le_of_ble_eq_true rfl⟩) (by rw [hRm]; exact ⟨Nat.le_of_ble_eq_true rfl, Nat.le_of_ble_eq_true rfl⟩) (Nat.le_of_ble_eq_true rfl) ?_
  show zG C E 2 q160.1 70 1198 _ 84 [some (2, x0), some (0, 10)] [(2, r159), (0, 10), (2, M x0 2)] q160.2
  obtain ⟨g163, h⟩ := zif h
  obtain ⟨g164, h⟩ := zif h
  refine zG.blk (pc' := 85) (l' := [some (2, x0), some (0, 10)]) (st' := []) (M' := (upM q160.2 (M x0 2) 10 r159)) hX [(.aastore, 105, 6, 0)] (by decide +kernel) rfl (And.intro g163 (And.intro g164 trivial)) ?_
  generalize upM q160.2 (M x0 2) 10 r159 = M165 at h ⊢
  have h := zlt h
  exact (pX10_init_15000085_ok hX hRm h)
noncomputable def pX10_init_13000085 (S : ZS) (M : ZM) (x0 : Int) : Option (ZS × ZM) := if S.1 x0 = 10 then if S.2.2 < 2000000000 then zlet (S.2.2 + 1) fun r148 => zlet (zNewM S M) fun M147 => zlet (zNewS S 6 0) fun S146 => if 1 ≤ r148 then (pX6_init S146 M147 r148).bind fun q149 => if q149.1.1 (M x0 2) = 105 ∧ (0 : Int) ≤ 9 ∧ 9 < q149.1.2.1 (M x0 2) then if r148 = 0 ∨ q149.1.1 r148 = 6 then zlet (upM q149.2 (M x0 2) 9 r148) fun M154 => pX10_init_14000085 q149.1 M154 x0 else none else none else none else none else none
set_option maxHeartbeats 2000000 in
set_option maxRecDepth 20000 in
theorem pX10_init_13000085_ok {C : ZC} {E : ZE} {q : (ZS × ZM)} (hX : zCx C E 10 cX10_init 2 none true) (hRm : czR C = { frames := 3, cells := 115, slots := 1999, locals := 83 }) {S : ZS} {M : ZM} {x0 : Int} (h : pX10_init_13000085 S M x0 = some q) : zG C E 2 S 60 1020 (zQ C E 115 1999 none q.1 q.2) 85 [some (2, x0), some (0, 8)] [] M := by
  unfold pX10_init_13000085 at h
  refine zG.blk (pc' := 88) (l' := [some (2, x0), some (0, 9)]) (st' := []) (M' := M) hX [(.iinc 1 1, 0, 0, 0)] (by decide +kernel) rfl trivial ?_
  refine zG.goto (tgt := 66) (off := (-22)) hX (by decide +kernel) (by decide) ?_
  refine zG.blk (pc' := 69) (l' := [some (2, x0), some (0, 9)]) (st' := [(0, 20), (0, 9)]) (M' := M) hX [(.iload_n 1, 0, 0, 0), (.bipush 20, 0, 0, 0)] (by decide +kernel) rfl trivial ?_
  refine zG.icmp_ge (tgt := 91) (off := 22) hX (by decide +kernel) (by decide) (fun c => absurd c (by decide)) (fun _ => ?_)
  obtain ⟨g144, h⟩ := zif h
  refine zG.blk (pc' := 77) (l' := [some (2, x0), some (0, 9)]) (st' := [(0, 9), (2, M x0 2)]) (M' := M) hX [(.aload_n 0, 0, 0, 0), (.getfield 25, 10, 2, 2), (.iload_n 1, 0, 0, 0)] (by decide +kernel) rfl (And.intro g144 trivial) ?_
  obtain ⟨g145, h⟩ := zif h
  refine zG.new (ci := 6) hX sc_10_18 (by decide +kernel) g145 (by rw [hRm]; exact ⟨Nat.le_of_ble_eq_true rfl, Nat.le_of_ble_eq_true rfl⟩) ?_
  show zG C E 2 (zNewS S 6 0) 61 1027 _ 80 [some (2, x0), some (0, 9)] [(2, (S.2.2 + 1)), (0, 9), (2, M x0 2)] (zNewM S M)
  generalize S.2.2 + 1 = r148 at h ⊢
  have h := zlt h
  generalize zNewM S M = M147 at h ⊢
  have h := zlt h
  generalize zNewS S 6 0 = S146 at h ⊢
  have h := zlt h
  refine zG.blk (pc' := 81) (l' := [some (2, x0), some (0, 9)]) (st' := [(2, r148), (2, r148), (0, 9), (2, M x0 2)]) (M' := M147) hX [(.dup, 0, 0, 0)] (by decide +kernel) rfl trivial ?_
  obtain ⟨g151, h⟩ := zif h
  obtain ⟨q149, e150, h⟩ := zbd h
  refine zG.callI (b := r148) (av := []) (st := [(2, r148), (0, 9), (2, M x0 2)]) hX (pX6_init_ok e150) si_10_20 rfl g151 (by decide +kernel) (by rw [hRm]; exact ⟨Nat.le_of_ble_eq_true rfl, Nat.le_of_ble_eq_true rfl⟩) (by rw [hRm]; exact ⟨Nat.le_of_ble_eq_true rfl, Nat.le_of_ble_eq_true rfl⟩) (Nat.le_of_ble_eq_true rfl) ?_
  show zG C E 2 q149.1 65 1109 _ 84 [some (2, x0), some (0, 9)] [(2, r148), (0, 9), (2, M x0 2)] q149.2
  obtain ⟨g152, h⟩ := zif h
  obtain ⟨g153, h⟩ := zif h
  refine zG.blk (pc' := 85) (l' := [some (2, x0), some (0, 9)]) (st' := []) (M' := (upM q149.2 (M x0 2) 9 r148)) hX [(.aastore, 105, 6, 0)] (by decide +kernel) rfl (And.intro g152 (And.intro g153 trivial)) ?_
  generalize upM q149.2 (M x0 2) 9 r148 = M154 at h ⊢
  have h := zlt h
  exact (pX10_init_14000085_ok hX hRm h)
noncomputable def pX10_init_12000085 (S : ZS) (M : ZM) (x0 : Int) : Option (ZS × ZM) := if S.1 x0 = 10 then if S.2.2 < 2000000000 then zlet (S.2.2 + 1) fun r137 => zlet (zNewM S M) fun M136 => zlet (zNewS S 6 0) fun S135 => if 1 ≤ r137 then (pX6_init S135 M136 r137).bind fun q138 => if q138.1.1 (M x0 2) = 105 ∧ (0 : Int) ≤ 8 ∧ 8 < q138.1.2.1 (M x0 2) then if r137 = 0 ∨ q138.1.1 r137 = 6 then zlet (upM q138.2 (M x0 2) 8 r137) fun M143 => pX10_init_13000085 q138.1 M143 x0 else none else none else none else none else none
set_option maxHeartbeats 2000000 in
set_option maxRecDepth 20000 in
theorem pX10_init_12000085_ok {C : ZC} {E : ZE} {q : (ZS × ZM)} (hX : zCx C E 10 cX10_init 2 none true) (hRm : czR C = { frames := 3, cells := 115, slots := 1999, locals := 83 }) {S : ZS} {M : ZM} {x0 : Int} (h : pX10_init_12000085 S M x0 = some q) : zG C E 2 S 55 931 (zQ C E 115 1999 none q.1 q.2) 85 [some (2, x0), some (0, 7)] [] M := by
  unfold pX10_init_12000085 at h
  refine zG.blk (pc' := 88) (l' := [some (2, x0), some (0, 8)]) (st' := []) (M' := M) hX [(.iinc 1 1, 0, 0, 0)] (by decide +kernel) rfl trivial ?_
  refine zG.goto (tgt := 66) (off := (-22)) hX (by decide +kernel) (by decide) ?_
  refine zG.blk (pc' := 69) (l' := [some (2, x0), some (0, 8)]) (st' := [(0, 20), (0, 8)]) (M' := M) hX [(.iload_n 1, 0, 0, 0), (.bipush 20, 0, 0, 0)] (by decide +kernel) rfl trivial ?_
  refine zG.icmp_ge (tgt := 91) (off := 22) hX (by decide +kernel) (by decide) (fun c => absurd c (by decide)) (fun _ => ?_)
  obtain ⟨g133, h⟩ := zif h
  refine zG.blk (pc' := 77) (l' := [some (2, x0), some (0, 8)]) (st' := [(0, 8), (2, M x0 2)]) (M' := M) hX [(.aload_n 0, 0, 0, 0), (.getfield 25, 10, 2, 2), (.iload_n 1, 0, 0, 0)] (by decide +kernel) rfl (And.intro g133 trivial) ?_
  obtain ⟨g134, h⟩ := zif h
  refine zG.new (ci := 6) hX sc_10_18 (by decide +kernel) g134 (by rw [hRm]; exact ⟨Nat.le_of_ble_eq_true rfl, Nat.le_of_ble_eq_true rfl⟩) ?_
  show zG C E 2 (zNewS S 6 0) 56 938 _ 80 [some (2, x0), some (0, 8)] [(2, (S.2.2 + 1)), (0, 8), (2, M x0 2)] (zNewM S M)
  generalize S.2.2 + 1 = r137 at h ⊢
  have h := zlt h
  generalize zNewM S M = M136 at h ⊢
  have h := zlt h
  generalize zNewS S 6 0 = S135 at h ⊢
  have h := zlt h
  refine zG.blk (pc' := 81) (l' := [some (2, x0), some (0, 8)]) (st' := [(2, r137), (2, r137), (0, 8), (2, M x0 2)]) (M' := M136) hX [(.dup, 0, 0, 0)] (by decide +kernel) rfl trivial ?_
  obtain ⟨g140, h⟩ := zif h
  obtain ⟨q138, e139, h⟩ := zbd h
  refine zG.callI (b := r137) (av := []) (st := [(2, r137), (0, 8), (2, M x0 2)]) hX (pX6_init_ok e139) si_10_20 rfl g140 (by decide +kernel) (by rw [hRm]; exact ⟨Nat.le_of_ble_eq_true rfl, Nat.le_of_ble_eq_true rfl⟩) (by rw [hRm]; exact ⟨Nat.le_of_ble_eq_true rfl, Nat.le_of_ble_eq_true rfl⟩) (Nat.le_of_ble_eq_true rfl) ?_
  show zG C E 2 q138.1 60 1020 _ 84 [some (2, x0), some (0, 8)] [(2, r137), (0, 8), (2, M x0 2)] q138.2
  obtain ⟨g141, h⟩ := zif h
  obtain ⟨g142, h⟩ := zif h
  refine zG.blk (pc' := 85) (l' := [some (2, x0), some (0, 8)]) (st' := []) (M' := (upM q138.2 (M x0 2) 8 r137)) hX [(.aastore, 105, 6, 0)] (by decide +kernel) rfl (And.intro g141 (And.intro g142 trivial)) ?_
  generalize upM q138.2 (M x0 2) 8 r137 = M143 at h ⊢
  have h := zlt h
  exact (pX10_init_13000085_ok hX hRm h)
noncomputable def pX10_init_11000085 (S : ZS) (M : ZM) (x0 : Int) : Option (ZS × ZM) := if S.1 x0 = 10 then if S.2.2 < 2000000000 then zlet (S.2.2 + 1) fun r126 => zlet (zNewM S M) fun M125 => zlet (zNewS S 6 0) fun S124 => if 1 ≤ r126 then (pX6_init S124 M125 r126).bind fun q127 => if q127.1.1 (M x0 2) = 105 ∧ (0 : Int) ≤ 7 ∧ 7 < q127.1.2.1 (M x0 2) then if r126 = 0 ∨ q127.1.1 r126 = 6 then zlet (upM q127.2 (M x0 2) 7 r126) fun M132 => pX10_init_12000085 q127.1 M132 x0 else none else none else none else none else none
set_option maxHeartbeats 2000000 in
set_option maxRecDepth 20000 in
theorem pX10_init_11000085_ok {C : ZC} {E : ZE} {q : (ZS × ZM)} (hX : zCx C E 10 cX10_init 2 none true) (hRm : czR C = { frames := 3, cells := 115, slots := 1999, locals := 83 }) {S : ZS} {M : ZM} {x0 : Int} (h : pX10_init_11000085 S M x0 = some q) : zG C E 2 S 50 842 (zQ C E 115 1999 none q.1 q.2) 85 [some (2, x0), some (0, 6)] [] M := by
  unfold pX10_init_11000085 at h
  refine zG.blk (pc' := 88) (l' := [some (2, x0), some (0, 7)]) (st' := []) (M' := M) hX [(.iinc 1 1, 0, 0, 0)] (by decide +kernel) rfl trivial ?_
  refine zG.goto (tgt := 66) (off := (-22)) hX (by decide +kernel) (by decide) ?_
  refine zG.blk (pc' := 69) (l' := [some (2, x0), some (0, 7)]) (st' := [(0, 20), (0, 7)]) (M' := M) hX [(.iload_n 1, 0, 0, 0), (.bipush 20, 0, 0, 0)] (by decide +kernel) rfl trivial ?_
  refine zG.icmp_ge (tgt := 91) (off := 22) hX (by decide +kernel) (by decide) (fun c => absurd c (by decide)) (fun _ => ?_)
  obtain ⟨g122, h⟩ := zif h
  refine zG.blk (pc' := 77) (l' := [some (2, x0), some (0, 7)]) (st' := [(0, 7), (2, M x0 2)]) (M' := M) hX [(.aload_n 0, 0, 0, 0), (.getfield 25, 10, 2, 2), (.iload_n 1, 0, 0, 0)] (by decide +kernel) rfl (And.intro g122 trivial) ?_
  obtain ⟨g123, h⟩ := zif h
  refine zG.new (ci := 6) hX sc_10_18 (by decide +kernel) g123 (by rw [hRm]; exact ⟨Nat.le_of_ble_eq_true rfl, Nat.le_of_ble_eq_true rfl⟩) ?_
  show zG C E 2 (zNewS S 6 0) 51 849 _ 80 [some (2, x0), some (0, 7)] [(2, (S.2.2 + 1)), (0, 7), (2, M x0 2)] (zNewM S M)
  generalize S.2.2 + 1 = r126 at h ⊢
  have h := zlt h
  generalize zNewM S M = M125 at h ⊢
  have h := zlt h
  generalize zNewS S 6 0 = S124 at h ⊢
  have h := zlt h
  refine zG.blk (pc' := 81) (l' := [some (2, x0), some (0, 7)]) (st' := [(2, r126), (2, r126), (0, 7), (2, M x0 2)]) (M' := M125) hX [(.dup, 0, 0, 0)] (by decide +kernel) rfl trivial ?_
  obtain ⟨g129, h⟩ := zif h
  obtain ⟨q127, e128, h⟩ := zbd h
  refine zG.callI (b := r126) (av := []) (st := [(2, r126), (0, 7), (2, M x0 2)]) hX (pX6_init_ok e128) si_10_20 rfl g129 (by decide +kernel) (by rw [hRm]; exact ⟨Nat.le_of_ble_eq_true rfl, Nat.le_of_ble_eq_true rfl⟩) (by rw [hRm]; exact ⟨Nat.le_of_ble_eq_true rfl, Nat.le_of_ble_eq_true rfl⟩) (Nat.le_of_ble_eq_true rfl) ?_
  show zG C E 2 q127.1 55 931 _ 84 [some (2, x0), some (0, 7)] [(2, r126), (0, 7), (2, M x0 2)] q127.2
  obtain ⟨g130, h⟩ := zif h
  obtain ⟨g131, h⟩ := zif h
  refine zG.blk (pc' := 85) (l' := [some (2, x0), some (0, 7)]) (st' := []) (M' := (upM q127.2 (M x0 2) 7 r126)) hX [(.aastore, 105, 6, 0)] (by decide +kernel) rfl (And.intro g130 (And.intro g131 trivial)) ?_
  generalize upM q127.2 (M x0 2) 7 r126 = M132 at h ⊢
  have h := zlt h
  exact (pX10_init_12000085_ok hX hRm h)
noncomputable def pX10_init_10000085 (S : ZS) (M : ZM) (x0 : Int) : Option (ZS × ZM) := if S.1 x0 = 10 then if S.2.2 < 2000000000 then zlet (S.2.2 + 1) fun r115 => zlet (zNewM S M) fun M114 => zlet (zNewS S 6 0) fun S113 => if 1 ≤ r115 then (pX6_init S113 M114 r115).bind fun q116 => if q116.1.1 (M x0 2) = 105 ∧ (0 : Int) ≤ 6 ∧ 6 < q116.1.2.1 (M x0 2) then if r115 = 0 ∨ q116.1.1 r115 = 6 then zlet (upM q116.2 (M x0 2) 6 r115) fun M121 => pX10_init_11000085 q116.1 M121 x0 else none else none else none else none else none
set_option maxHeartbeats 2000000 in
set_option maxRecDepth 20000 in
theorem pX10_init_10000085_ok {C : ZC} {E : ZE} {q : (ZS × ZM)} (hX : zCx C E 10 cX10_init 2 none true) (hRm : czR C = { frames := 3, cells := 115, slots := 1999, locals := 83 }) {S : ZS} {M : ZM} {x0 : Int} (h : pX10_init_10000085 S M x0 = some q) : zG C E 2 S 45 753 (zQ C E 115 1999 none q.1 q.2) 85 [some (2, x0), some (0, 5)] [] M := by
  unfold pX10_init_10000085 at h
  refine zG.blk (pc' := 88) (l' := [some (2, x0), some (0, 6)]) (st' := []) (M' := M) hX [(.iinc 1 1, 0, 0, 0)] (by decide +kernel) rfl trivial ?_
  refine zG.goto (tgt := 66) (off := (-22)) hX (by decide +kernel) (by decide) ?_
  refine zG.blk (pc' := 69) (l' := [some (2, x0), some (0, 6)]) (st' := [(0, 20), (0, 6)]) (M' := M) hX [(.iload_n 1, 0, 0, 0), (.bipush 20, 0, 0, 0)] (by decide +kernel) rfl trivial ?_
  refine zG.icmp_ge (tgt := 91) (off := 22) hX (by decide +kernel) (by decide) (fun c => absurd c (by decide)) (fun _ => ?_)
  obtain ⟨g111, h⟩ := zif h
  refine zG.blk (pc' := 77) (l' := [some (2, x0), some (0, 6)]) (st' := [(0, 6), (2, M x0 2)]) (M' := M) hX [(.aload_n 0, 0, 0, 0), (.getfield 25, 10, 2, 2), (.iload_n 1, 0, 0, 0)] (by decide +kernel) rfl (And.intro g111 trivial) ?_
  obtain ⟨g112, h⟩ := zif h
  refine zG.new (ci := 6) hX sc_10_18 (by decide +kernel) g112 (by rw [hRm]; exact ⟨Nat.le_of_ble_eq_true rfl, Nat.le_of_ble_eq_true rfl⟩) ?_
  show zG C E 2 (zNewS S 6 0) 46 760 _ 80 [some (2, x0), some (0, 6)] [(2, (S.2.2 + 1)), (0, 6), (2, M x0 2)] (zNewM S M)
  generalize S.2.2 + 1 = r115 at h ⊢
  have h := zlt h
  generalize zNewM S M = M114 at h ⊢
  have h := zlt h
  generalize zNewS S 6 0 = S113 at h ⊢
  have h := zlt h
  refine zG.blk (pc' := 81) (l' := [some (2, x0), some (0, 6)]) (st' := [(2, r115), (2, r115), (0, 6), (2, M x0 2)]) (M' := M114) hX [(.dup, 0, 0, 0)] (by decide +kernel) rfl trivial ?_
  obtain ⟨g118, h⟩ := zif h
  obtain ⟨q116, e117, h⟩ := zbd h
  refine zG.callI (b := r115) (av := []) (st := [(2, r115), (0, 6), (2, M x0 2)]) hX (pX6_init_ok e117) si_10_20 rfl g118 (by decide +kernel) (by rw [hRm]; exact ⟨Nat.le_of_ble_eq_true rfl, Nat.le_of_ble_eq_true rfl⟩) (by rw [hRm]; exact ⟨Nat.le_of_ble_eq_true rfl, Nat.le_of_ble_eq_true rfl⟩) (Nat.le_of_ble_eq_true rfl) ?_
  show zG C E 2 q116.1 50 842 _ 84 [some (2, x0), some (0, 6)] [(2, r115), (0, 6), (2, M x0 2)] q116.2
  obtain ⟨g119, h⟩ := zif h
  obtain ⟨g120, h⟩ := zif h
  refine zG.blk (pc' := 85) (l' := [some (2, x0), some (0, 6)]) (st' := []) (M' := (upM q116.2 (M x0 2) 6 r115)) hX [(.aastore, 105, 6, 0)] (by decide +kernel) rfl (And.intro g119 (And.intro g120 trivial)) ?_
  generalize upM q116.2 (M x0 2) 6 r115 = M121 at h ⊢
  have h := zlt h
  exact (pX10_init_11000085_ok hX hRm h)
noncomputable def pX10_init_9000085 (S : ZS) (M : ZM) (x0 : Int) : Option (ZS × ZM) := if S.1 x0 = 10 then if S.2.2 < 2000000000 then zlet (S.2.2 + 1) fun r104 => zlet (zNewM S M) fun M103 => zlet (zNewS S 6 0) fun S102 => if 1 ≤ r104 then (pX6_init S102 M103 r104).bind fun q105 => if q105.1.1 (M x0 2) = 105 ∧ (0 : Int) ≤ 5 ∧ 5 < q105.1.2.1 (M x0 2) then if r104 = 0 ∨ q105.1.1 r104 = 6 then zlet (upM q105.2 (M x0 2) 5 r104) fun M110 => pX10_init_10000085 q105.1 M110 x0 else none else none else none else none else none
set_option maxHeartbeats 2000000 in
set_option maxRecDepth 20000 in
theorem pX10_init_9000085_ok {C : ZC} {E : ZE} {q : (ZS × ZM)} (hX : zCx C E 10 cX10_init 2 none true) (hRm : czR C = { frames := 3, cells := 115, slots := 1999, locals := 83 }) {S : ZS} {M : ZM} {x0 : Int} (h : pX10_init_9000085 S M x0 = some q) : zG C E 2 S 40 664 (zQ C E 115 1999 none q.1 q.2) 85 [some (2, x0), some (0, 4)] [] M := by
  unfold pX10_init_9000085 at h
  refine zG.blk (pc' := 88) (l' := [some (2, x0), some (0, 5)]) (st' := []) (M' := M) hX [(.iinc 1 1, 0, 0, 0)] (by decide +kernel) rfl trivial ?_
  refine zG.goto (tgt := 66) (off := (-22)) hX (by decide +kernel) (by decide) ?_
  refine zG.blk (pc' := 69) (l' := [some (2, x0), some (0, 5)]) (st' := [(0, 20), (0, 5)]) (M' := M) hX [(.iload_n 1, 0, 0, 0), (.bipush 20, 0, 0, 0)] (by decide +kernel) rfl trivial ?_
  refine zG.icmp_ge (tgt := 91) (off := 22) hX (by decide +kernel) (by decide) (fun c => absurd c (by decide)) (fun _ => ?_)
  obtain ⟨g100, h⟩ := zif h
  refine zG.blk (pc' := 77) (l' := [some (2, x0), some (0, 5)]) (st' := [(0, 5), (2, M x0 2)]) (M' := M) hX [(.aload_n 0, 0, 0, 0), (.getfield 25, 10, 2, 2), (.iload_n 1, 0, 0, 0)] (by decide +kernel) rfl (And.intro g100 trivial) ?_
  obtain ⟨g101, h⟩ := zif h
  refine zG.new (ci := 6) hX sc_10_18 (by decide +kernel) g101 (by rw [hRm]; exact ⟨Nat.le_of_ble_eq_true rfl, Nat.le_of_ble_eq_true rfl⟩) ?_
  show zG C E 2 (zNewS S 6 0) 41 671 _ 80 [some (2, x0), some (0, 5)] [(2, (S.2.2 + 1)), (0, 5), (2, M x0 2)] (zNewM S M)
  generalize S.2.2 + 1 = r104 at h ⊢
  have h := zlt h
  generalize zNewM S M = M103 at h ⊢
  have h := zlt h
  generalize zNewS S 6 0 = S102 at h ⊢
  have h := zlt h
  refine zG.blk (pc' := 81) (l' := [some (2, x0), some (0, 5)]) (st' := [(2, r104), (2, r104), (0, 5), (2, M x0 2)]) (M' := M103) hX [(.dup, 0, 0, 0)] (by decide +kernel) rfl trivial ?_
  obtain ⟨g107, h⟩ := zif h
  obtain ⟨q105, e106, h⟩ := zbd h
  refine zG.callI (b := r104) (av := []) (st := [(2, r104), (0, 5), (2, M x0 2)]) hX (pX6_init_ok e106) si_10_20 rfl g107 (by decide +kernel) (by rw [hRm]; exact ⟨Nat.le_of_ble_eq_true rfl, Nat.le_of_ble_eq_true rfl⟩) (by rw [hRm]; exact ⟨Nat.le_of_ble_eq_true rfl, Nat.le_of_ble_eq_true rfl⟩) (Nat.le_of_ble_eq_true rfl) ?_
  show zG C E 2 q105.1 45 753 _ 84 [some (2, x0), some (0, 5)] [(2, r104), (0, 5), (2, M x0 2)] q105.2
  obtain ⟨g108, h⟩ := zif h
  obtain ⟨g109, h⟩ := zif h
  refine zG.blk (pc' := 85) (l' := [some (2, x0), some (0, 5)]) (st' := []) (M' := (upM q105.2 (M x0 2) 5 r104)) hX [(.aastore, 105, 6, 0)] (by decide +kernel) rfl (And.intro g108 (And.intro g109 trivial)) ?_
  generalize upM q105.2 (M x0 2) 5 r104 = M110 at h ⊢
  have h := zlt h
  exact (pX10_init_10000085_ok hX hRm h)
noncomputable def pX10_init_8000085 (S : ZS) (M : ZM) (x0 : Int) : Option (ZS × ZM) := if S.1 x0 = 10 then if S.2.2 < 2000000000 then zlet (S.2.2 + 1) fun r93 => zlet (zNewM S M) fun M92 => zlet (zNewS S 6 0) fun S91 => if 1 ≤ r93 then (pX6_init S91 M92 r93).bind fun q94 => if q94.1.1 (M x0 2) = 105 ∧ (0 : Int) ≤ 4 ∧ 4 < q94.1.2.1 (M x0 2) then if r93 = 0 ∨ q94.1.1 r93 = 6 then zlet (upM q94.2 (M x0 2) 4 r93) fun M99 => pX10_init_9000085 q94.1 M99 x0 else none else none else none else none else none
set_option maxHeartbeats 2000000 in
set_option maxRecDepth 20000 in
theorem pX10_init_8000085_ok {C : ZC} {E : ZE} {q : (ZS × ZM)} (hX : zCx C E 10 cX10_init 2 none true) (hRm : czR C = { frames := 3, cells := 115, slots := 1999, locals := 83 }) {S : ZS} {M : ZM} {x0 : Int} (h : pX10_init_8000085 S M x0 = some q) : zG C E 2 S 35 575 (zQ C E 115 1999 none q.1 q.2) 85 [some (2, x0), some (0, 3)] [] M := by
  unfold pX10_init_8000085 at h
  refine zG.blk (pc' := 88) (l' := [some (2, x0), some (0, 4)]) (st' := []) (M' := M) hX [(.iinc 1 1, 0, 0, 0)] (by decide +kernel) rfl trivial ?_
  refine zG.goto (tgt := 66) (off := (-22)) hX (by decide +kernel) (by decide) ?_
  refine zG.blk (pc' := 69) (l' := [some (2, x0), some (0, 4)]) (st' := [(0, 20), (0, 4)]) (M' := M) hX [(.iload_n 1, 0, 0, 0), (.bipush 20, 0, 0, 0)] (by decide +kernel) rfl trivial ?_
  refine zG.icmp_ge (tgt := 91) (off := 22) hX (by decide +kernel) (by decide) (fun c => absurd c (by decide)) (fun _ => ?_)
  obtain ⟨g89, h⟩ := zif h
  refine zG.blk (pc' := 77) (l' := [some (2, x0), some (0, 4)]) (st' := [(0, 4), (2, M x0 2)]) (M' := M) hX [(.aload_n 0, 0, 0, 0), (.getfield 25, 10, 2, 2), (.iload_n 1, 0, 0, 0)] (by decide +kernel) rfl (And.intro g89 trivial) ?_
  obtain ⟨g90, h⟩ := zif h
  refine zG.new (ci := 6) hX sc_10_18 (by decide +kernel) g90 (by rw [hRm]; exact ⟨Nat.le_of_ble_eq_true rfl, Nat.le_of_ble_eq_true rfl⟩) ?_
  show zG C E 2 (zNewS S 6 0) 36 582 _ 80 [some (2, x0), some (0, 4)] [(2, (S.2.2 + 1)), (0, 4), (2, M x0 2)] (zNewM S M)
  generalize S.2.2 + 1 = r93 at h ⊢
  have h := zlt h
  generalize zNewM S M = M92 at h ⊢
  have h := zlt h
  generalize zNewS S 6 0 = S91 at h ⊢
  have h := zlt h
  refine zG.blk (pc' := 81) (l' := [some (2, x0), some (0, 4)]) (st' := [(2, r93), (2, r93), (0, 4), (2, M x0 2)]) (M' := M92) hX [(.dup, 0, 0, 0)] (by decide +kernel) rfl trivial ?_
  obtain ⟨g96, h⟩ := zif h
  obtain ⟨q94, e95, h⟩ := zbd h
  refine zG.callI (b := r93) (av := []) (st := [(2, r93), (0, 4), (2, M x0 2)]) hX (pX6_init_ok e95) si_10_20 rfl g96 (by decide +kernel) (by rw [hRm]; exact ⟨Nat.le_of_ble_eq_true rfl, Nat.le_of_ble_eq_true rfl⟩) (by rw [hRm]; exact ⟨Nat.le_of_ble_eq_true rfl, Nat.le_of_ble_eq_true rfl⟩) (Nat.le_of_ble_eq_true rfl) ?_
  show zG C E 2 q94.1 40 664 _ 84 [some (2, x0), some (0, 4)] [(2, r93), (0, 4), (2, M x0 2)] q94.2
  obtain ⟨g97, h⟩ := zif h
  obtain ⟨g98, h⟩ := zif h
  refine zG.blk (pc' := 85) (l' := [some (2, x0), some (0, 4)]) (st' := []) (M' := (upM q94.2 (M x0 2) 4 r93)) hX [(.aastore, 105, 6, 0)] (by decide +kernel) rfl (And.intro g97 (And.intro g98 trivial)) ?_
  generalize upM q94.2 (M x0 2) 4 r93 = M99 at h ⊢
  have h := zlt h
  exact (pX10_init_9000085_ok hX hRm h)
noncomputable def pX10_init_7000085 (S : ZS) (M : ZM) (x0 : Int) : Option (ZS × ZM) := if S.1 x0 = 10 then if S.2.2 < 2000000000 then zlet (S.2.2 + 1) fun r82 => zlet (zNewM S M) fun M81 => zlet (zNewS S 6 0) fun S80 => if 1 ≤ r82 then (pX6_init S80 M81 r82).bind fun q83 => if q83.1.1 (M x0 2) = 105 ∧ (0 : Int) ≤ 3 ∧ 3 < q83.1.2.1 (M x0 2) then if r82 = 0 ∨ q83.1.1 r82 = 6 then zlet (upM q83.2 (M x0 2) 3 r82) fun M88 => pX10_init_8000085 q83.1 M88 x0 else none else none else none else none else none
set_option maxHeartbeats 2000000 in
set_option maxRecDepth 20000 in
theorem pX10_init_7000085_ok {C : ZC} {E : ZE} {q : (ZS × ZM)} (hX : zCx C E 10 cX10_init 2 none true) (hRm : czR C = { frames := 3, cells := 115, slots := 1999, locals := 83 }) {S : ZS} {M : ZM} {x0 : Int} (h : pX10_init_7000085 S M x0 = some q) : zG C E 2 S 30 486 (zQ C E 115 1999 none q.1 q.2) 85 [some (2, x0), some (0, 2)] [] M := by
  unfold pX10_init_7000085 at h
  refine zG.blk (pc' := 88) (l' := [some (2, x0), some (0, 3)]) (st' := []) (M' := M) hX [(.iinc 1 1, 0, 0, 0)] (by decide +kernel) rfl trivial ?_
  refine zG.goto (tgt := 66) (off := (-22)) hX (by decide +kernel) (by decide) ?_
  refine zG.blk (pc' := 69) (l' := [some (2, x0), some (0, 3)]) (st' := [(0, 20), (0, 3)]) (M' := M) hX [(.iload_n 1, 0, 0, 0), (.bipush 20, 0, 0, 0)] (by decide +kernel) rfl trivial ?_
  refine zG.icmp_ge (tgt := 91) (off := 22) hX (by decide +kernel) (by decide) (fun c => absurd c (by decide)) (fun _ => ?_)
  obtain ⟨g78, h⟩ := zif h
  refine zG.blk (pc' := 77) (l' := [some (2, x0), some (0, 3)]) (st' := [(0, 3), (2, M x0 2)]) (M' := M) hX [(.aload_n 0, 0, 0, 0), (.getfield 25, 10, 2, 2), (.iload_n 1, 0, 0, 0)] (by decide +kernel) rfl (And.intro g78 trivial) ?_
  obtain ⟨g79, h⟩ := zif h
  refine zG.new (ci := 6) hX sc_10_18 (by decide +kernel) g79 (by rw [hRm]; exact ⟨Nat.le_of_ble_eq_true rfl, Nat.le_of_ble_eq_true rfl⟩) ?_
  show zG C E 2 (zNewS S 6 0) 31 493 _ 80 [some (2, x0), some (0, 3)] [(2, (S.2.2 + 1)), (0, 3), (2, M x0 2)] (zNewM S M)
  generalize S.2.2 + 1 = r82 at h ⊢
  have h := zlt h
  generalize zNewM S M = M81 at h ⊢
  have h := zlt h
  generalize zNewS S 6 0 = S80 at h ⊢
  have h := zlt h
  refine zG.blk (pc' := 81) (l' := [some (2, x0), some (0, 3)]) (st' := [(2, r82), (2, r82), (0, 3), (2, M x0 2)]) (M' := M81) hX [(.dup, 0, 0, 0)] (by decide +kernel) rfl trivial ?_
  obtain ⟨g85, h⟩ := zif h
  obtain ⟨q83, e84, h⟩ := zbd h
  refine zG.callI (b := r82) (av := []) (st := [(2, r82), (0, 3), (2, M x0 2)]) hX (pX6_init_ok e84) si_10_20 rfl g85 (by decide +kernel) (by rw [hRm]; exact ⟨Nat.le_of_ble_eq_true rfl, Nat.le_of_ble_eq_true rfl⟩) (by rw [hRm]; exact ⟨Nat.le_of_ble_eq_true rfl, Nat.le_of_ble_eq_true rfl⟩) (Nat.le_of_ble_eq_true rfl) ?_
  show zG C E 2 q83.1 35 575 _ 84 [some (2, x0), some (0, 3)] [(2, r82), (0, 3), (2, M x0 2)] q83.2
  obtain ⟨g86, h⟩ := zif h
  obtain ⟨g87, h⟩ := zif h
  refine zG.blk (pc' := 85) (l' := [some (2, x0), some (0, 3)]) (st' := []) (M' := (upM q83.2 (M x0 2) 3 r82)) hX [(.aastore, 105, 6, 0)] (by decide +kernel) rfl (And.intro g86 (And.intro g87 trivial)) ?_
  generalize upM q83.2 (M x0 2) 3 r82 = M88 at h ⊢
  have h := zlt h
  exact (pX10_init_8000085_ok hX hRm h)
noncomputable def pX10_init_6000085 (S : ZS) (M : ZM) (x0 : Int) : Option (ZS × ZM) := if S.1 x0 = 10 then if S.2.2 < 2000000000 then zlet (S.2.2 + 1) fun r71 => zlet (zNewM S M) fun M70 => zlet (zNewS S 6 0) fun S69 => if 1 ≤ r71 then (pX6_init S69 M70 r71).bind fun q72 => if q72.1.1 (M x0 2) = 105 ∧ (0 : Int) ≤ 2 ∧ 2 < q72.1.2.1 (M x0 2) then if r71 = 0 ∨ q72.1.1 r71 = 6 then zlet (upM q72.2 (M x0 2) 2 r71) fun M77 => pX10_init_7000085 q72.1 M77 x0 else none else none else none else none else none
set_option maxHeartbeats 2000000 in
set_option maxRecDepth 20000 in
theorem pX10_init_6000085_ok {C : ZC} {E : ZE} {q : (ZS × ZM)} (hX : zCx C E 10 cX10_init 2 none true) (hRm : czR C = { frames := 3, cells := 115, slots := 1999, locals := 83 }) {S : ZS} {M : ZM} {x0 : Int} (h : pX10_init_6000085 S M x0 = some q) : zG C E 2 S 25 397 (zQ C E 115 1999 none q.1 q.2) 85 [some (2, x0), some (0, 1)] [] M := by
  unfold pX10_init_6000085 at h
  refine zG.blk (pc' := 88) (l' := [some (2, x0), some (0, 2)]) (st' := []) (M' := M) hX [(.iinc 1 1, 0, 0, 0)] (by decide +kernel) rfl trivial ?_
  refine zG.goto (tgt := 66) (off := (-22)) hX (by decide +kernel) (by decide) ?_
  refine zG.blk (pc' := 69) (l' := [some (2, x0), some (0, 2)]) (st' := [(0, 20), (0, 2)]) (M' := M) hX [(.iload_n 1, 0, 0, 0), (.bipush 20, 0, 0, 0)] (by decide +kernel) rfl trivial ?_
  refine zG.icmp_ge (tgt := 91) (off := 22) hX (by decide +kernel) (by decide) (fun c => absurd c (by decide)) (fun _ => ?_)
  obtain ⟨g67, h⟩ := zif h
  refine zG.blk (pc' := 77) (l' := [some (2, x0), some (0, 2)]) (st' := [(0, 2), (2, M x0 2)]) (M' := M) hX [(.aload_n 0, 0, 0, 0), (.getfield 25, 10, 2, 2), (.iload_n 1, 0, 0, 0)] (by decide +kernel) rfl (And.intro g67 trivial) ?_
  obtain ⟨g68, h⟩ := zif h
  refine zG.new (ci := 6) hX sc_10_18 (by decide +kernel) g68 (by rw [hRm]; exact ⟨Nat.le_of_ble_eq_true rfl, Nat.le_of_ble_eq_true rfl⟩) ?_
  show zG C E 2 (zNewS S 6 0) 26 404 _ 80 [some (2, x0), some (0, 2)] [(2, (S.2.2 + 1)), (0, 2), (2, M x0 2)] (zNewM S M)
  generalize S.2.2 + 1 = r71 at h ⊢
  have h := zlt h
  generalize zNewM S M = M70 at h ⊢
  have h := zlt h
  generalize zNewS S 6 0 = S69 at h ⊢
  have h := zlt h
  refine zG.blk (pc' := 81) (l' := [some (2, x0), some (0, 2)]) (st' := [(2, r71), (2, r71), (0, 2), (2, M x0 2)]) (M' := M70) hX [(.dup, 0, 0, 0)] (by decide +kernel) rfl trivial ?_
  obtain ⟨g74, h⟩ := zif h
  obtain ⟨q72, e73, h⟩ := zbd h
  refine zG.callI (b := r71) (av := []) (st := [(2, r71), (0, 2), (2, M x0 2)]) hX (pX6_init_ok e73) si_10_20 rfl g74 (by decide +kernel) (by rw [hRm]; exact ⟨Nat.le_of_ble_eq_true rfl, Nat.le_of_ble_eq_true rfl⟩) (by rw [hRm]; exact ⟨Nat.le_of_ble_eq_true rfl, Nat.le_of_ble_eq_true rfl⟩) (Nat.le_of_ble_eq_true rfl) ?_
  show zG C E 2 q72.1 30 486 _ 84 [some (2, x0), some (0, 2)] [(2, r71), (0, 2), (2, M x0 2)] q72.2
  obtain ⟨g75, h⟩ := zif h
  obtain ⟨g76, h⟩ := zif h
  refine zG.blk (pc' := 85) (l' := [some (2, x0), some (0, 2)]) (st' := []) (M' := (upM q72.2 (M x0 2) 2 r71)) hX [(.aastore, 105, 6, 0)] (by decide +kernel) rfl (And.intro g75 (And.intro g76 trivial)) ?_
  generalize upM q72.2 (M x0 2) 2 r71 = M77 at h ⊢
  have h := zlt h
  exact (pX10_init_7000085_ok hX hRm h)
noncomputable def pX10_init_5000085 (S : ZS) (M : ZM) (x0 : Int) : Option (ZS × ZM) := if S.1 x0 = 10 then if S.2.2 < 2000000000 then zlet (S.2.2 + 1) fun r60 => zlet (zNewM S M) fun M59 => zlet (zNewS S 6 0) fun S58 => if 1 ≤ r60 then (pX6_init S58 M59 r60).bind fun q61 => if q61.1.1 (M x0 2) = 105 ∧ (0 : Int) ≤ 1 ∧ 1 < q61.1.2.1 (M x0 2) then if r60 = 0 ∨ q61.1.1 r60 = 6 then zlet (upM q61.2 (M x0 2) 1 r60) fun M66 => pX10_init_6000085 q61.1 M66 x0 else none else none else none else none else none
set_option maxHeartbeats 2000000 in
set_option maxRecDepth 20000 in
theorem pX10_init_5000085_ok {C : ZC} {E : ZE} {q : (ZS × ZM)} (hX : zCx C E 10 cX10_init 2 none true) (hRm : czR C = { frames := 3, cells := 115, slots := 1999, locals := 83 }) {S : ZS} {M : ZM} {x0 : Int} (h : pX10_init_5000085 S M x0 = some q) : zG C E 2 S 20 308 (zQ C E 115 1999 none q.1 q.2) 85 [some (2, x0), some (0, 0)] [] M := by
  unfold pX10_init_5000085 at h
  refine zG.blk (pc' := 88) (l' := [some (2, x0), some (0, 1)]) (st' := []) (M' := M) hX [(.iinc 1 1, 0, 0, 0)] (by decide +kernel) rfl trivial ?_
  refine zG.goto (tgt := 66) (off := (-22)) hX (by decide +kernel) (by decide) ?_
  refine zG.blk (pc' := 69) (l' := [some (2, x0), some (0, 1)]) (st' := [(0, 20), (0, 1)]) (M' := M) hX [(.iload_n 1, 0, 0, 0), (.bipush 20, 0, 0, 0)] (by decide +kernel) rfl trivial ?_
  refine zG.icmp_ge (tgt := 91) (off := 22) hX (by decide +kernel) (by decide) (fun c => absurd c (by decide)) (fun _ => ?_)
  obtain ⟨g56, h⟩ := zif h
  refine zG.blk (pc' := 77) (l' := [some (2, x0), some (0, 1)]) (st' := [(0, 1), (2, M x0 2)]) (M' := M) hX [(.aload_n 0, 0, 0, 0), (.getfield 25, 10, 2, 2), (.iload_n 1, 0, 0, 0)] (by decide +kernel) rfl (And.intro g56 trivial) ?_
  obtain ⟨g57, h⟩ := zif h
  refine zG.new (ci := 6) hX sc_10_18 (by decide +kernel) g57 (by rw [hRm]; exact ⟨Nat.le_of_ble_eq_true rfl, Nat.le_of_ble_eq_true rfl⟩) ?_
  show zG C E 2 (zNewS S 6 0) 21 315 _ 80 [some (2, x0), some (0, 1)] [(2, (S.2.2 + 1)), (0, 1), (2, M x0 2)] (zNewM S M)
  generalize S.2.2 + 1 = r60 at h ⊢
  have h := zlt h
  generalize zNewM S M = M59 at h ⊢
  have h := zlt h
  generalize zNewS S 6 0 = S58 at h ⊢
  have h := zlt h
  refine zG.blk (pc' := 81) (l' := [some (2, x0), some (0, 1)]) (st' := [(2, r60), (2, r60), (0, 1), (2, M x0 2)]) (M' := M59) hX [(.dup, 0, 0, 0)] (by decide +kernel) rfl trivial ?_
  obtain ⟨g63, h⟩ := zif h
  obtain ⟨q61, e62, h⟩ := zbd h
  refine zG.callI (b := r60) (av := []) (st := [(2, r60), (0, 1), (2, M x0 2)]) hX (pX6_init_ok e62) si_10_20 rfl g63 (by decide +kernel) (by rw [hRm]; exact ⟨Nat.le_of_ble_eq_true rfl, Nat.le_of_ble_eq_true rfl⟩) (by rw [hRm]; exact ⟨Nat.le_of_ble_eq_true rfl, Nat.le_of_ble_eq_true rfl⟩) (Nat.le_of_ble_eq_true rfl) ?_
  show zG C E 2 q61.1 25 397 _ 84 [some (2, x0), some (0, 1)] [(2, r60), (0, 1), (2, M x0 2)] q61.2
  obtain ⟨g64, h⟩ := zif h
  obtain ⟨g65, h⟩ := zif h
  refine zG.blk (pc' := 85) (l' := [some (2, x0), some (0, 1)]) (st' := []) (M' := (upM q61.2 (M x0 2) 1 r60)) hX [(.aastore, 105, 6, 0)] (by decide +kernel) rfl (And.intro g64 (And.intro g65 trivial)) ?_
  generalize upM q61.2 (M x0 2) 1 r60 = M66 at h ⊢
  have h := zlt h
  exact (pX10_init_6000085_ok hX hRm h)
noncomputable def pX10_init_4000059 (S : ZS) (M : ZM) (x0 : Int) : Option (ZS × ZM) := if S.1 x0 = 10 then zlet (upM M x0 9 (-1)) fun M45 => if S.2.2 < 2000000000 then zlet (S.2.2 + 1) fun r49 => zlet (zNewM S M45) fun M48 => zlet (zNewS S 6 0) fun S47 => if 1 ≤ r49 then (pX6_init S47 M48 r49).bind fun q50 => if q50.1.1 (M45 x0 2) = 105 ∧ (0 : Int) ≤ 0 ∧ 0 < q50.1.2.1 (M45 x0 2) then if r49 = 0 ∨ q50.1.1 r49 = 6 then zlet (upM q50.2 (M45 x0 2) 0 r49) fun M55 => pX10_init_5000085 q50.1 M55 x0 else none else none else none else none else none
set_option maxHeartbeats 2000000 in
set_option maxRecDepth 20000 in
theorem pX10_init_4000059_ok {C : ZC} {E : ZE} {q : (ZS × ZM)} (hX : zCx C E 10 cX10_init 2 none true) (hRm : czR C = { frames := 3, cells := 115, slots := 1999, locals := 83 }) {S : ZS} {M : ZM} {x0 : Int} (h : pX10_init_4000059 S M x0 = some q) : zG C E 2 S 15 219 (zQ C E 115 1999 none q.1 q.2) 59 [some (2, x0), none] [] M := by
  unfold pX10_init_4000059 at h
  obtain ⟨g44, h⟩ := zif h
  refine zG.blk (pc' := 64) (l' := [some (2, x0), none]) (st' := []) (M' := (upM M x0 9 (-1))) hX [(.aload_n 0, 0, 0, 0), (.iconst (-1), 0, 0, 0), (.putfield 39, 10, 9, 0)] (by decide +kernel) rfl (And.intro g44 trivial) ?_
  generalize upM M x0 9 (-1) = M45 at h ⊢
  have h := zlt h
  refine zG.blk (pc' := 69) (l' := [some (2, x0), some (0, 0)]) (st' := [(0, 20), (0, 0)]) (M' := M45) hX [(.iconst 0, 0, 0, 0), (.istore_n 1, 0, 0, 0), (.iload_n 1, 0, 0, 0), (.bipush 20, 0, 0, 0)] (by decide +kernel) rfl trivial ?_
  refine zG.icmp_ge (tgt := 91) (off := 22) hX (by decide +kernel) (by decide) (fun c => absurd c (by decide)) (fun _ => ?_)
  refine zG.blk (pc' := 77) (l' := [some (2, x0), some (0, 0)]) (st' := [(0, 0), (2, M45 x0 2)]) (M' := M45) hX [(.aload_n 0, 0, 0, 0), (.getfield 25, 10, 2, 2), (.iload_n 1, 0, 0, 0)] (by decide +kernel) rfl (And.intro g44 trivial) ?_
  obtain ⟨g46, h⟩ := zif h
  refine zG.new (ci := 6) hX sc_10_18 (by decide +kernel) g46 (by rw [hRm]; exact ⟨Nat.le_of_ble_eq_true rfl, Nat.le_of_ble_eq_true rfl⟩) ?_
  show zG C E 2 (zNewS S 6 0) 16 226 _ 80 [some (2, x0), some (0, 0)] [(2, (S.2.2 + 1)), (0, 0), (2, M45 x0 2)] (zNewM S M45)
  generalize S.2.2 + 1 = r49 at h ⊢
  have h := zlt h
  generalize zNewM S M45 = M48 at h ⊢
  have h := zlt h
  generalize zNewS S 6 0 = S47 at h ⊢
  have h := zlt h
  refine zG.blk (pc' := 81) (l' := [some (2, x0), some (0, 0)]) (st' := [(2, r49), (2, r49), (0, 0), (2, M45 x0 2)]) (M' := M48) hX [(.dup, 0, 0, 0)] (by decide +kernel) rfl trivial ?_
  obtain ⟨g52, h⟩ := zif h
  obtain ⟨q50, e51, h⟩ := zbd h
  refine zG.callI (b := r49) (av := []) (st := [(2, r49), (0, 0), (2, M45 x0 2)]) hX (pX6_init_ok e51) si_10_20 rfl g52 (by decide +kernel) (by rw [hRm]; exact ⟨Nat.le_of_ble_eq_true rfl, Nat.le_of_ble_eq_true rfl⟩) (by rw [hRm]; exact ⟨Nat.le_of_ble_eq_true rfl, Nat.le_of_ble_eq_true rfl⟩) (Nat.le_of_ble_eq_true rfl) ?_
  show zG C E 2 q50.1 20 308 _ 84 [some (2, x0), some (0, 0)] [(2, r49), (0, 0), (2, M45 x0 2)] q50.2
  obtain ⟨g53, h⟩ := zif h
  obtain ⟨g54, h⟩ := zif h
  refine zG.blk (pc' := 85) (l' := [some (2, x0), some (0, 0)]) (st' := []) (M' := (upM q50.2 (M45 x0 2) 0 r49)) hX [(.aastore, 105, 6, 0)] (by decide +kernel) rfl (And.intro g53 (And.intro g54 trivial)) ?_
  generalize upM q50.2 (M45 x0 2) 0 r49 = M55 at h ⊢
  have h := zlt h
  exact (pX10_init_5000085_ok hX hRm h)
noncomputable def pX10_init_3000043 (S : ZS) (M : ZM) (x0 : Int) : Option (ZS × ZM) := if S.2.2 < 2000000000 then zlet (S.2.2 + 1) fun r35 => zlet (zNewM S M) fun M34 => zlet (zNewS S 100 10) fun S33 => if S33.1 x0 = 10 then zlet (upM M34 x0 5 r35) fun M37 => if S33.2.2 < 2000000000 then zlet (S33.2.2 + 1) fun r41 => zlet (zNewM S33 M37) fun M40 => zlet (zNewS S33 100 10) fun S39 => if S39.1 x0 = 10 then zlet (upM M40 x0 6 r41) fun M43 => pX10_init_4000059 S39 M43 x0 else none else none else none else none
set_option maxHeartbeats 2000000 in
set_option maxRecDepth 20000 in
theorem pX10_init_3000043_ok {C : ZC} {E : ZE} {q : (ZS × ZM)} (hX : zCx C E 10 cX10_init 2 none true) (hRm : czR C = { frames := 3, cells := 115, slots := 1999, locals := 83 }) {S : ZS} {M : ZM} {x0 : Int} (h : pX10_init_3000043 S M x0 = some q) : zG C E 2 S 13 199 (zQ C E 115 1999 none q.1 q.2) 43 [some (2, x0), none] [] M := by
  unfold pX10_init_3000043 at h
  refine zG.blk (pc' := 46) (l' := [some (2, x0), none]) (st' := [(0, 10), (2, x0)]) (M' := M) hX [(.aload_n 0, 0, 0, 0), (.bipush 10, 0, 0, 0)] (by decide +kernel) rfl trivial ?_
  obtain ⟨g32, h⟩ := zif h
  refine zG.newarray (at_ := .int) (t := 0) (N := 10) hX (by simp) sa_int (by decide +kernel) g32 (by decide) (Nat.le_of_ble_eq_true rfl) (by rw [hRm]; exact ⟨Nat.le_of_ble_eq_true rfl, Nat.le_of_ble_eq_true rfl⟩) ?_
  show zG C E 2 (zNewS S 100 10) 14 209 _ 48 [some (2, x0), none] [(2, (S.2.2 + 1)), (2, x0)] (zNewM S M)
  generalize S.2.2 + 1 = r35 at h ⊢
  have h := zlt h
  generalize zNewM S M = M34 at h ⊢
  have h := zlt h
  generalize zNewS S 100 10 = S33 at h ⊢
  have h := zlt h
  obtain ⟨g36, h⟩ := zif h
  refine zG.blk (pc' := 51) (l' := [some (2, x0), none]) (st' := []) (M' := (upM M34 x0 5 r35)) hX [(.putfield 33, 10, 5, 2)] (by decide +kernel) rfl (And.intro g36 trivial) ?_
  generalize upM M34 x0 5 r35 = M37 at h ⊢
  have h := zlt h
  refine zG.blk (pc' := 54) (l' := [some (2, x0), none]) (st' := [(0, 10), (2, x0)]) (M' := M37) hX [(.aload_n 0, 0, 0, 0), (.bipush 10, 0, 0, 0)] (by decide +kernel) rfl trivial ?_
  obtain ⟨g38, h⟩ := zif h
  refine zG.newarray (at_ := .int) (t := 0) (N := 10) hX (by simp) sa_int (by decide +kernel) g38 (by decide) (Nat.le_of_ble_eq_true rfl) (by rw [hRm]; exact ⟨Nat.le_of_ble_eq_true rfl, Nat.le_of_ble_eq_true rfl⟩) ?_
  show zG C E 2 (zNewS S33 100 10) 15 219 _ 56 [some (2, x0), none] [(2, (S33.2.2 + 1)), (2, x0)] (zNewM S33 M37)
  generalize S33.2.2 + 1 = r41 at h ⊢
  have h := zlt h
  generalize zNewM S33 M37 = M40 at h ⊢
  have h := zlt h
  generalize zNewS S33 100 10 = S39 at h ⊢
  have h := zlt h
  obtain ⟨g42, h⟩ := zif h
  refine zG.blk (pc' := 59) (l' := [some (2, x0), none]) (st' := []) (M' := (upM M40 x0 6 r41)) hX [(.putfield 36, 10, 6, 2)] (by decide +kernel) rfl (And.intro g42 trivial) ?_
  generalize upM M40 x0 6 r41 = M43 at h ⊢
  have h := zlt h
  exact (pX10_init_4000059_ok hX hRm h)
noncomputable def pX10_init_2000026 (S : ZS) (M : ZM) (x0 : Int) : Option (ZS × ZM) := if S.2.2 < 2000000000 then zlet (S.2.2 + 1) fun r23 => zlet (zNewM S M) fun M22 => zlet (zNewS S 105 20) fun S21 => if S21.1 x0 = 10 then zlet (upM M22 x0 2 r23) fun M25 => if S21.2.2 < 2000000000 then zlet (S21.2.2 + 1) fun r29 => zlet (zNewM S21 M25) fun M28 => zlet (zNewS S21 100 10) fun S27 => if S27.1 x0 = 10 then zlet (upM M28 x0 4 r29) fun M31 => pX10_init_3000043 S27 M31 x0 else none else none else none else none
set_option maxHeartbeats 2000000 in
set_option maxRecDepth 20000 in
theorem pX10_init_2000026_ok {C : ZC} {E : ZE} {q : (ZS × ZM)} (hX : zCx C E 10 cX10_init 2 none true) (hRm : czR C = { frames := 3, cells := 115, slots := 1999, locals := 83 }) {S : ZS} {M : ZM} {x0 : Int} (h : pX10_init_2000026 S M x0 = some q) : zG C E 2 S 11 169 (zQ C E 115 1999 none q.1 q.2) 26 [some (2, x0), none] [] M := by
  unfold pX10_init_2000026 at h
  refine zG.blk (pc' := 29) (l' := [some (2, x0), none]) (st' := [(0, 20), (2, x0)]) (M' := M) hX [(.aload_n 0, 0, 0, 0), (.bipush 20, 0, 0, 0)] (by decide +kernel) rfl trivial ?_
  obtain ⟨g20, h⟩ := zif h
  refine zG.anewarray (ci := 6) (t := 5) (N := 20) hX (by decide) (zSC_link sc_10_18) (by decide +kernel) g20 (by decide) (Nat.le_of_ble_eq_true rfl) (by rw [hRm]; exact ⟨Nat.le_of_ble_eq_true rfl, Nat.le_of_ble_eq_true rfl⟩) ?_
  show zG C E 2 (zNewS S 105 20) 12 189 _ 32 [some (2, x0), none] [(2, (S.2.2 + 1)), (2, x0)] (zNewM S M)
  generalize S.2.2 + 1 = r23 at h ⊢
  have h := zlt h
  generalize zNewM S M = M22 at h ⊢
  have h := zlt h
  generalize zNewS S 105 20 = S21 at h ⊢
  have h := zlt h
  obtain ⟨g24, h⟩ := zif h
  refine zG.blk (pc' := 35) (l' := [some (2, x0), none]) (st' := []) (M' := (upM M22 x0 2 r23)) hX [(.putfield 25, 10, 2, 2)] (by decide +kernel) rfl (And.intro g24 trivial) ?_
  generalize upM M22 x0 2 r23 = M25 at h ⊢
  have h := zlt h
  refine zG.blk (pc' := 38) (l' := [some (2, x0), none]) (st' := [(0, 10), (2, x0)]) (M' := M25) hX [(.aload_n 0, 0, 0, 0), (.bipush 10, 0, 0, 0)] (by decide +kernel) rfl trivial ?_
  obtain ⟨g26, h⟩ := zif h
  refine zG.newarray (at_ := .int) (t := 0) (N := 10) hX (by simp) sa_int (by decide +kernel) g26 (by decide) (Nat.le_of_ble_eq_true rfl) (by rw [hRm]; exact ⟨Nat.le_of_ble_eq_true rfl, Nat.le_of_ble_eq_true rfl⟩) ?_
  show zG C E 2 (zNewS S21 100 10) 13 199 _ 40 [some (2, x0), none] [(2, (S21.2.2 + 1)), (2, x0)] (zNewM S21 M25)
  generalize S21.2.2 + 1 = r29 at h ⊢
  have h := zlt h
  generalize zNewM S21 M25 = M28 at h ⊢
  have h := zlt h
  generalize zNewS S21 100 10 = S27 at h ⊢
  have h := zlt h
  obtain ⟨g30, h⟩ := zif h
  refine zG.blk (pc' := 43) (l' := [some (2, x0), none]) (st' := []) (M' := (upM M28 x0 4 r29)) hX [(.putfield 29, 10, 4, 2)] (by decide +kernel) rfl (And.intro g30 trivial) ?_
  generalize upM M28 x0 4 r29 = M31 at h ⊢
  have h := zlt h
  exact (pX10_init_3000043_ok hX hRm h)
noncomputable def pX10_init_1000015 (S : ZS) (M : ZM) (x0 : Int) : Option (ZS × ZM) := if S.2.2 < 2000000000 then zlet (S.2.2 + 1) fun r14 => zlet (zNewM S M) fun M13 => zlet (zNewS S 6 0) fun S12 => if 1 ≤ r14 then (pX6_init S12 M13 r14).bind fun q15 => if q15.1.1 x0 = 10 then zlet (upM q15.2 x0 1 r14) fun M19 => pX10_init_2000026 q15.1 M19 x0 else none else none else none
set_option maxHeartbeats 2000000 in
set_option maxRecDepth 20000 in
theorem pX10_init_1000015_ok {C : ZC} {E : ZE} {q : (ZS × ZM)} (hX : zCx C E 10 cX10_init 2 none true) (hRm : czR C = { frames := 3, cells := 115, slots := 1999, locals := 83 }) {S : ZS} {M : ZM} {x0 : Int} (h : pX10_init_1000015 S M x0 = some q) : zG C E 2 S 6 80 (zQ C E 115 1999 none q.1 q.2) 15 [some (2, x0), none] [] M := by
  unfold pX10_init_1000015 at h
  refine zG.blk (pc' := 16) (l' := [some (2, x0), none]) (st' := [(2, x0)]) (M' := M) hX [(.aload_n 0, 0, 0, 0)] (by decide +kernel) rfl trivial ?_
  obtain ⟨g11, h⟩ := zif h
  refine zG.new (ci := 6) hX sc_10_18 (by decide +kernel) g11 (by rw [hRm]; exact ⟨Nat.le_of_ble_eq_true rfl, Nat.le_of_ble_eq_true rfl⟩) ?_
  show zG C E 2 (zNewS S 6 0) 7 87 _ 19 [some (2, x0), none] [(2, (S.2.2 + 1)), (2, x0)] (zNewM S M)
  generalize S.2.2 + 1 = r14 at h ⊢
  have h := zlt h
  generalize zNewM S M = M13 at h ⊢
  have h := zlt h
  generalize zNewS S 6 0 = S12 at h ⊢
  have h := zlt h
  refine zG.blk (pc' := 20) (l' := [some (2, x0), none]) (st' := [(2, r14), (2, r14), (2, x0)]) (M' := M13) hX [(.dup, 0, 0, 0)] (by decide +kernel) rfl trivial ?_
  obtain ⟨g17, h⟩ := zif h
  obtain ⟨q15, e16, h⟩ := zbd h
  refine zG.callI (b := r14) (av := []) (st := [(2, r14), (2, x0)]) hX (pX6_init_ok e16) si_10_20 rfl g17 (by decide +kernel) (by rw [hRm]; exact ⟨Nat.le_of_ble_eq_true rfl, Nat.le_of_ble_eq_true rfl⟩) (by rw [hRm]; exact ⟨Nat.le_of_ble_eq_true rfl, Nat.le_of_ble_eq_true rfl⟩) (Nat.le_of_ble_eq_true rfl) ?_
  show zG C E 2 q15.1 11 169 _ 23 [some (2, x0), none] [(2, r14), (2, x0)] q15.2
  obtain ⟨g18, h⟩ := zif h
  refine zG.blk (pc' := 26) (l' := [some (2, x0), none]) (st' := []) (M' := (upM q15.2 x0 1 r14)) hX [(.putfield 21, 10, 1, 2)] (by decide +kernel) rfl (And.intro g18 trivial) ?_
  generalize upM q15.2 x0 1 r14 = M19 at h ⊢
  have h := zlt h
  exact (pX10_init_2000026_ok hX hRm h)
noncomputable def pX10_init (S : ZS) (M : ZM) (a0 : Int) : Option (ZS × ZM) := if 1 ≤ a0 then if S.2.2 < 2000000000 then zlet (S.2.2 + 1) fun r5 => zlet (zNewM S M) fun M4 => zlet (zNewS S 9 0) fun S3 => if 1 ≤ r5 then (pX9_init S3 M4 r5).bind fun q6 => if q6.1.1 a0 = 10 then zlet (upM q6.2 a0 0 r5) fun M10 => pX10_init_1000015 q6.1 M10 a0 else none else none else none else none
set_option maxHeartbeats 2000000 in
set_option maxRecDepth 20000 in
theorem pX10_init_go {C : ZC} {E : ZE} {S : ZS} {M : ZM} {a0 : Int} {q : (ZS × ZM)} (hX : zCx C E 10 cX10_init 2 none true) (hRm : czR C = { frames := 3, cells := 115, slots := 1999, locals := 83 }) (h : pX10_init  S M a0 = some q) : zG C E 2 S 0 0 (zQ C E 115 1999 none q.1 q.2) 0 [some (2, a0), none] [] M := by
  unfold pX10_init at h
  refine zG.blk (pc' := 1) (l' := [some (2, a0), none]) (st' := [(2, a0)]) (M' := M) hX [(.aload_n 0, 0, 0, 0)] (by decide +kernel) rfl trivial ?_
  obtain ⟨g1, h⟩ := zif h
  refine zG.objInit hX so_10_3 so_1 so_2 g1 (by decide +kernel) (by rw [hRm]; exact ⟨Nat.le_of_ble_eq_true rfl, Nat.le_of_ble_eq_true rfl⟩) ?_
  show zG C E 2 S 0 0 _ 4 [some (2, a0), none] [] M
  refine zG.blk (pc' := 5) (l' := [some (2, a0), none]) (st' := [(2, a0)]) (M' := M) hX [(.aload_n 0, 0, 0, 0)] (by decide +kernel) rfl trivial ?_
  obtain ⟨g2, h⟩ := zif h
  refine zG.new (ci := 9) hX sc_10_9 (by decide +kernel) g2 (by rw [hRm]; exact ⟨Nat.le_of_ble_eq_true rfl, Nat.le_of_ble_eq_true rfl⟩) ?_
  show zG C E 2 (zNewS S 9 0) 1 10 _ 8 [some (2, a0), none] [(2, (S.2.2 + 1)), (2, a0)] (zNewM S M)
  generalize S.2.2 + 1 = r5 at h ⊢
  have h := zlt h
  generalize zNewM S M = M4 at h ⊢
  have h := zlt h
  generalize zNewS S 9 0 = S3 at h ⊢
  have h := zlt h
  refine zG.blk (pc' := 9) (l' := [some (2, a0), none]) (st' := [(2, r5), (2, r5), (2, a0)]) (M' := M4) hX [(.dup, 0, 0, 0)] (by decide +kernel) rfl trivial ?_
  obtain ⟨g8, h⟩ := zif h
  obtain ⟨q6, e7, h⟩ := zbd h
  refine zG.callN (b := r5) (av := []) (st := [(2, r5), (2, a0)]) hX (pX9_init_ok e7) sn_10_11 rfl g8 (by decide +kernel) (by rw [hRm]; exact ⟨Nat.le_of_ble_eq_true rfl, Nat.le_of_ble_eq_true rfl⟩) (by rw [hRm]; exact ⟨Nat.le_of_ble_eq_true rfl, Nat.le_of_ble_eq_true rfl⟩) (Nat.le_of_ble_eq_true rfl) ?_
  show zG C E 2 q6.1 6 80 _ 12 [some (2, a0), none] [(2, r5), (2, a0)] q6.2
  obtain ⟨g9, h⟩ := zif h
  refine zG.blk (pc' := 15) (l' := [some (2, a0), none]) (st' := []) (M' := (upM q6.2 a0 0 r5)) hX [(.putfield 12, 10, 0, 2)] (by decide +kernel) rfl (And.intro g9 trivial) ?_
  generalize upM q6.2 a0 0 r5 = M10 at h ⊢
  have h := zlt h
  exact (pX10_init_1000015_ok hX hRm h)
theorem pX10_init_ok {l : Launch} {E : ZE} {S : ZS} {M : ZM} {a0 : Int} {q : (ZS × ZM)} (h : pX10_init S M a0 = some q) : zMet l yX10_init cX10_init 2 none 3 83 115 1999 E S M [(2, a0)] (none) q.1 q.2 :=
  zMet.of (o := 10) (ini := true) (by decide +kernel) rfl (fun _ => rfl) (Nat.le_of_ble_eq_true rfl) (fun C hX hl hRm => by subst hl; exact pX10_init_go hX hRm h)
theorem so_11_1 : Cond.methodLink (zOwn 11) 1 Lib.objectInit ∈ gt := gt_at 131 (by decide +kernel) rfl
theorem sc_11_7 : zSC 11 7 8 := ⟨by decide, gt_at 134 (by decide +kernel) rfl, gt_at 135 (by decide +kernel) rfl, gt_at 106 (by decide +kernel) rfl⟩
theorem sn_11_9 : zSN 11 9 yX8_init cX8_init 1 0 := ⟨⟨by decide +kernel, gt_at 137 (by decide +kernel) rfl, gt_at 106 (by decide +kernel) rfl, gt_at 138 (by decide +kernel) rfl, rfl⟩, by decide +kernel, by decide +kernel, by decide +kernel⟩
theorem sc_11_16 : zSC 11 16 7 := ⟨by decide, gt_at 163 (by decide +kernel) rfl, gt_at 164 (by decide +kernel) rfl, gt_at 107 (by decide +kernel) rfl⟩
theorem sn_11_18 : zSN 11 18 yX7_init cX7_init 1 0 := ⟨⟨by decide +kernel, gt_at 166 (by decide +kernel) rfl, gt_at 107 (by decide +kernel) rfl, gt_at 167 (by decide +kernel) rfl, rfl⟩, by decide +kernel, by decide +kernel, by decide +kernel⟩
theorem sc_11_23 : zSC 11 23 5 := ⟨by decide, gt_at 240 (by decide +kernel) rfl, gt_at 241 (by decide +kernel) rfl, gt_at 109 (by decide +kernel) rfl⟩
theorem sn_11_25 : zSN 11 25 yX5_init cX5_init 1 0 := ⟨⟨by decide +kernel, gt_at 243 (by decide +kernel) rfl, gt_at 109 (by decide +kernel) rfl, gt_at 244 (by decide +kernel) rfl, rfl⟩, by decide +kernel, by decide +kernel, by decide +kernel⟩
theorem sc_11_30 : zSC 11 30 4 := ⟨by decide, gt_at 256 (by decide +kernel) rfl, gt_at 713 (by decide +kernel) rfl, gt_at 123 (by decide +kernel) rfl⟩
theorem sc_11_36 : zSC 11 36 10 := ⟨by decide, gt_at 258 (by decide +kernel) rfl, gt_at 259 (by decide +kernel) rfl, gt_at 110 (by decide +kernel) rfl⟩
theorem si_11_38 : zSI 11 38 yX10_init cX10_init 2 0 := ⟨⟨gt_at 260 (by decide +kernel) rfl, gt_at 261 (by decide +kernel) rfl, gt_at 110 (by decide +kernel) rfl, gt_at 262 (by decide +kernel) rfl, rfl⟩, by decide +kernel, by decide +kernel, by decide +kernel⟩
theorem sc_11_47 : zSC 11 47 0 := ⟨by decide, gt_at 372 (by decide +kernel) rfl, gt_at 373 (by decide +kernel) rfl, gt_at 113 (by decide +kernel) rfl⟩
theorem sn_11_49 : zSN 11 49 yX0_init cX0_init 1 0 := ⟨⟨by decide +kernel, gt_at 375 (by decide +kernel) rfl, gt_at 113 (by decide +kernel) rfl, gt_at 376 (by decide +kernel) rfl, rfl⟩, by decide +kernel, by decide +kernel, by decide +kernel⟩
theorem sc_11_54 : zSC 11 54 1 := ⟨by decide, gt_at 389 (by decide +kernel) rfl, gt_at 390 (by decide +kernel) rfl, gt_at 114 (by decide +kernel) rfl⟩
theorem sn_11_56 : zSN 11 56 yX1_init cX1_init 1 0 := ⟨⟨by decide +kernel, gt_at 392 (by decide +kernel) rfl, gt_at 114 (by decide +kernel) rfl, gt_at 393 (by decide +kernel) rfl, rfl⟩, by decide +kernel, by decide +kernel, by decide +kernel⟩
theorem sc_11_61 : zSC 11 61 2 := ⟨by decide, gt_at 417 (by decide +kernel) rfl, gt_at 418 (by decide +kernel) rfl, gt_at 115 (by decide +kernel) rfl⟩
theorem sn_11_63 : zSN 11 63 yX2_init cX2_init 1 0 := ⟨⟨by decide +kernel, gt_at 420 (by decide +kernel) rfl, gt_at 115 (by decide +kernel) rfl, gt_at 421 (by decide +kernel) rfl, rfl⟩, by decide +kernel, by decide +kernel, by decide +kernel⟩
theorem sc_11_68 : zSC 11 68 3 := ⟨by decide, gt_at 437 (by decide +kernel) rfl, gt_at 438 (by decide +kernel) rfl, gt_at 116 (by decide +kernel) rfl⟩
theorem sn_11_70 : zSN 11 70 yX3_init cX3_init 1 0 := ⟨⟨by decide +kernel, gt_at 440 (by decide +kernel) rfl, gt_at 116 (by decide +kernel) rfl, gt_at 441 (by decide +kernel) rfl, rfl⟩, by decide +kernel, by decide +kernel, by decide +kernel⟩
noncomputable def pX11_init_109 (S : ZS) (M : ZM) : Option (ZS × ZM) := some (S, M)
set_option maxHeartbeats 2000000 in
set_option maxRecDepth 20000 in
theorem pX11_init_109_ok {C : ZC} {E : ZE} {q : (ZS × ZM)} (hX : zCx C E 11 cX11_init 1 none true) (hRm : czR C = { frames := 4, cells := 174, slots := 4530, locals := 104 }) {S : ZS} {M : ZM} (h : pX11_init_109 S M = some q) : zG C E 1 S 174 4530 (zQ C E 174 4530 none q.1 q.2) 109 [none] [] M := by
  unfold pX11_init_109 at h
  cases h
  exact zG.vret hX (by decide +kernel)
noncomputable def pX11_init_98 (S : ZS) (M : ZM) (x0 : Int) : Option (ZS × ZM) := if S.2.2 < 2000000000 then zlet (S.2.2 + 1) fun r80 => zlet (zNewM S M) fun M79 => zlet (zNewS S 3 0) fun S78 => if 1 ≤ r80 then (pX3_init S78 M79 r80).bind fun q81 => if q81.1.1 x0 = 11 then zlet (upM q81.2 x0 10 r80) fun M85 => pX11_init_109 q81.1 M85 else none else none else none
set_option maxHeartbeats 2000000 in
set_option maxRecDepth 20000 in
theorem pX11_init_98_ok {C : ZC} {E : ZE} {q : (ZS × ZM)} (hX : zCx C E 11 cX11_init 1 none true) (hRm : czR C = { frames := 4, cells := 174, slots := 4530, locals := 104 }) {S : ZS} {M : ZM} {x0 : Int} (h : pX11_init_98 S M x0 = some q) : zG C E 1 S 164 4405 (zQ C E 174 4530 none q.1 q.2) 98 [some (2, x0)] [] M := by
  unfold pX11_init_98 at h
  refine zG.blk (pc' := 99) (l' := [some (2, x0)]) (st' := [(2, x0)]) (M' := M) hX [(.aload_n 0, 0, 0, 0)] (by decide +kernel) rfl trivial ?_
  obtain ⟨g77, h⟩ := zif h
  refine zG.new (ci := 3) hX sc_11_68 (by decide +kernel) g77 (by rw [hRm]; exact ⟨Nat.le_of_ble_eq_true rfl, Nat.le_of_ble_eq_true rfl⟩) ?_
  show zG C E 1 (zNewS S 3 0) 165 4410 _ 102 [some (2, x0)] [(2, (S.2.2 + 1)), (2, x0)] (zNewM S M)
  generalize S.2.2 + 1 = r80 at h ⊢
  have h := zlt h
  generalize zNewM S M = M79 at h ⊢
  have h := zlt h
  generalize zNewS S 3 0 = S78 at h ⊢
  have h := zlt h
  refine zG.blk (pc' := 103) (l' := [some (2, x0)]) (st' := [(2, r80), (2, r80), (2, x0)]) (M' := M79) hX [(.dup, 0, 0, 0)] (by decide +kernel) rfl trivial ?_
  obtain ⟨g83, h⟩ := zif h
  obtain ⟨q81, e82, h⟩ := zbd h
  refine zG.callN (b := r80) (av := []) (st := [(2, r80), (2, x0)]) hX (pX3_init_ok e82) sn_11_70 rfl g83 (by decide +kernel) (by rw [hRm]; exact ⟨Nat.le_of_ble_eq_true rfl, Nat.le_of_ble_eq_true rfl⟩) (by rw [hRm]; exact ⟨Nat.le_of_ble_eq_true rfl, Nat.le_of_ble_eq_true rfl⟩) (Nat.le_of_ble_eq_true rfl) ?_
  show zG C E 1 q81.1 174 4530 _ 106 [some (2, x0)] [(2, r80), (2, x0)] q81.2
  obtain ⟨g84, h⟩ := zif h
  refine zG.blk (pc' := 109) (l' := [some (2, x0)]) (st' := []) (M' := (upM q81.2 x0 10 r80)) hX [(.putfield 71, 11, 10, 2)] (by decide +kernel) rfl (And.intro g84 trivial) ?_
  generalize upM q81.2 x0 10 r80 = M85 at h ⊢
  have h := zlt h
  exact zG.wk [false] (pX11_init_109_ok hX hRm h)
noncomputable def pX11_init_87 (S : ZS) (M : ZM) (x0 : Int) : Option (ZS × ZM) := if S.2.2 < 2000000000 then zlet (S.2.2 + 1) fun r71 => zlet (zNewM S M) fun M70 => zlet (zNewS S 2 0) fun S69 => if 1 ≤ r71 then (pX2_init S69 M70 r71).bind fun q72 => if q72.1.1 x0 = 11 then zlet (upM q72.2 x0 9 r71) fun M76 => pX11_init_98 q72.1 M76 x0 else none else none else none
set_option maxHeartbeats 2000000 in
set_option maxRecDepth 20000 in
theorem pX11_init_87_ok {C : ZC} {E : ZE} {q : (ZS × ZM)} (hX : zCx C E 11 cX11_init 1 none true) (hRm : czR C = { frames := 4, cells := 174, slots := 4530, locals := 104 }) {S : ZS} {M : ZM} {x0 : Int} (h : pX11_init_87 S M x0 = some q) : zG C E 1 S 153 4037 (zQ C E 174 4530 none q.1 q.2) 87 [some (2, x0)] [] M := by
  unfold pX11_init_87 at h
  refine zG.blk (pc' := 88) (l' := [some (2, x0)]) (st' := [(2, x0)]) (M' := M) hX [(.aload_n 0, 0, 0, 0)] (by decide +kernel) rfl trivial ?_
  obtain ⟨g68, h⟩ := zif h
  refine zG.new (ci := 2) hX sc_11_61 (by decide +kernel) g68 (by rw [hRm]; exact ⟨Nat.le_of_ble_eq_true rfl, Nat.le_of_ble_eq_true rfl⟩) ?_
  show zG C E 1 (zNewS S 2 0) 154 4040 _ 91 [some (2, x0)] [(2, (S.2.2 + 1)), (2, x0)] (zNewM S M)
  generalize S.2.2 + 1 = r71 at h ⊢
  have h := zlt h
  generalize zNewM S M = M70 at h ⊢
  have h := zlt h
  generalize zNewS S 2 0 = S69 at h ⊢
  have h := zlt h
  refine zG.blk (pc' := 92) (l' := [some (2, x0)]) (st' := [(2, r71), (2, r71), (2, x0)]) (M' := M70) hX [(.dup, 0, 0, 0)] (by decide +kernel) rfl trivial ?_
  obtain ⟨g74, h⟩ := zif h
  obtain ⟨q72, e73, h⟩ := zbd h
  refine zG.callN (b := r71) (av := []) (st := [(2, r71), (2, x0)]) hX (pX2_init_ok e73) sn_11_63 rfl g74 (by decide +kernel) (by rw [hRm]; exact ⟨Nat.le_of_ble_eq_true rfl, Nat.le_of_ble_eq_true rfl⟩) (by rw [hRm]; exact ⟨Nat.le_of_ble_eq_true rfl, Nat.le_of_ble_eq_true rfl⟩) (Nat.le_of_ble_eq_true rfl) ?_
  show zG C E 1 q72.1 164 4405 _ 95 [some (2, x0)] [(2, r71), (2, x0)] q72.2
  obtain ⟨g75, h⟩ := zif h
  refine zG.blk (pc' := 98) (l' := [some (2, x0)]) (st' := []) (M' := (upM q72.2 x0 9 r71)) hX [(.putfield 64, 11, 9, 2)] (by decide +kernel) rfl (And.intro g75 trivial) ?_
  generalize upM q72.2 x0 9 r71 = M76 at h ⊢
  have h := zlt h
  exact (pX11_init_98_ok hX hRm h)
noncomputable def pX11_init_76 (S : ZS) (M : ZM) (x0 : Int) : Option (ZS × ZM) := if S.2.2 < 2000000000 then zlet (S.2.2 + 1) fun r62 => zlet (zNewM S M) fun M61 => zlet (zNewS S 1 0) fun S60 => if 1 ≤ r62 then (pX1_init S60 M61 r62).bind fun q63 => if q63.1.1 x0 = 11 then zlet (upM q63.2 x0 8 r62) fun M67 => pX11_init_87 q63.1 M67 x0 else none else none else none
set_option maxHeartbeats 2000000 in
set_option maxRecDepth 20000 in
theorem pX11_init_76_ok {C : ZC} {E : ZE} {q : (ZS × ZM)} (hX : zCx C E 11 cX11_init 1 none true) (hRm : czR C = { frames := 4, cells := 174, slots := 4530, locals := 104 }) {S : ZS} {M : ZM} {x0 : Int} (h : pX11_init_76 S M x0 = some q) : zG C E 1 S 135 3771 (zQ C E 174 4530 none q.1 q.2) 76 [some (2, x0)] [] M := by
  unfold pX11_init_76 at h
  refine zG.blk (pc' := 77) (l' := [some (2, x0)]) (st' := [(2, x0)]) (M' := M) hX [(.aload_n 0, 0, 0, 0)] (by decide +kernel) rfl trivial ?_
  obtain ⟨g59, h⟩ := zif h
  refine zG.new (ci := 1) hX sc_11_54 (by decide +kernel) g59 (by rw [hRm]; exact ⟨Nat.le_of_ble_eq_true rfl, Nat.le_of_ble_eq_true rfl⟩) ?_
  show zG C E 1 (zNewS S 1 0) 136 3776 _ 80 [some (2, x0)] [(2, (S.2.2 + 1)), (2, x0)] (zNewM S M)
  generalize S.2.2 + 1 = r62 at h ⊢
  have h := zlt h
  generalize zNewM S M = M61 at h ⊢
  have h := zlt h
  generalize zNewS S 1 0 = S60 at h ⊢
  have h := zlt h
  refine zG.blk (pc' := 81) (l' := [some (2, x0)]) (st' := [(2, r62), (2, r62), (2, x0)]) (M' := M61) hX [(.dup, 0, 0, 0)] (by decide +kernel) rfl trivial ?_
  obtain ⟨g65, h⟩ := zif h
  obtain ⟨q63, e64, h⟩ := zbd h
  refine zG.callN (b := r62) (av := []) (st := [(2, r62), (2, x0)]) hX (pX1_init_ok e64) sn_11_56 rfl g65 (by decide +kernel) (by rw [hRm]; exact ⟨Nat.le_of_ble_eq_true rfl, Nat.le_of_ble_eq_true rfl⟩) (by rw [hRm]; exact ⟨Nat.le_of_ble_eq_true rfl, Nat.le_of_ble_eq_true rfl⟩) (Nat.le_of_ble_eq_true rfl) ?_
  show zG C E 1 q63.1 153 4037 _ 84 [some (2, x0)] [(2, r62), (2, x0)] q63.2
  obtain ⟨g66, h⟩ := zif h
  refine zG.blk (pc' := 87) (l' := [some (2, x0)]) (st' := []) (M' := (upM q63.2 x0 8 r62)) hX [(.putfield 57, 11, 8, 2)] (by decide +kernel) rfl (And.intro g66 trivial) ?_
  generalize upM q63.2 x0 8 r62 = M67 at h ⊢
  have h := zlt h
  exact (pX11_init_87_ok hX hRm h)
noncomputable def pX11_init_57 (S : ZS) (M : ZM) (x0 : Int) : Option (ZS × ZM) := if S.2.2 < 2000000000 then zlet (S.2.2 + 1) fun r47 => zlet (zNewM S M) fun M46 => zlet (zNewS S 106 4) fun S45 => if S45.1 x0 = 11 then zlet (upM M46 x0 6 r47) fun M49 => if S45.2.2 < 2000000000 then zlet (S45.2.2 + 1) fun r53 => zlet (zNewM S45 M49) fun M52 => zlet (zNewS S45 0 0) fun S51 => if 1 ≤ r53 then (pX0_init S51 M52 r53).bind fun q54 => if q54.1.1 x0 = 11 then zlet (upM q54.2 x0 7 r53) fun M58 => pX11_init_76 q54.1 M58 x0 else none else none else none else none else none
set_option maxHeartbeats 2000000 in
set_option maxRecDepth 20000 in
theorem pX11_init_57_ok {C : ZC} {E : ZE} {q : (ZS × ZM)} (hX : zCx C E 11 cX11_init 1 none true) (hRm : czR C = { frames := 4, cells := 174, slots := 4530, locals := 104 }) {S : ZS} {M : ZM} {x0 : Int} (h : pX11_init_57 S M x0 = some q) : zG C E 1 S 130 3707 (zQ C E 174 4530 none q.1 q.2) 57 [some (2, x0)] [] M := by
  unfold pX11_init_57 at h
  refine zG.blk (pc' := 59) (l' := [some (2, x0)]) (st' := [(0, 4), (2, x0)]) (M' := M) hX [(.aload_n 0, 0, 0, 0), (.iconst 4, 0, 0, 0)] (by decide +kernel) rfl trivial ?_
  obtain ⟨g44, h⟩ := zif h
  refine zG.anewarray (ci := 10) (t := 6) (N := 4) hX (by decide) (zSC_link sc_11_36) (by decide +kernel) g44 (by decide) (Nat.le_of_ble_eq_true rfl) (by rw [hRm]; exact ⟨Nat.le_of_ble_eq_true rfl, Nat.le_of_ble_eq_true rfl⟩) ?_
  show zG C E 1 (zNewS S 106 4) 131 3711 _ 62 [some (2, x0)] [(2, (S.2.2 + 1)), (2, x0)] (zNewM S M)
  generalize S.2.2 + 1 = r47 at h ⊢
  have h := zlt h
  generalize zNewM S M = M46 at h ⊢
  have h := zlt h
  generalize zNewS S 106 4 = S45 at h ⊢
  have h := zlt h
  obtain ⟨g48, h⟩ := zif h
  refine zG.blk (pc' := 65) (l' := [some (2, x0)]) (st' := []) (M' := (upM M46 x0 6 r47)) hX [(.putfield 43, 11, 6, 2)] (by decide +kernel) rfl (And.intro g48 trivial) ?_
  generalize upM M46 x0 6 r47 = M49 at h ⊢
  have h := zlt h
  refine zG.blk (pc' := 66) (l' := [some (2, x0)]) (st' := [(2, x0)]) (M' := M49) hX [(.aload_n 0, 0, 0, 0)] (by decide +kernel) rfl trivial ?_
  obtain ⟨g50, h⟩ := zif h
  refine zG.new (ci := 0) hX sc_11_47 (by decide +kernel) g50 (by rw [hRm]; exact ⟨Nat.le_of_ble_eq_true rfl, Nat.le_of_ble_eq_true rfl⟩) ?_
  show zG C E 1 (zNewS S45 0 0) 132 3714 _ 69 [some (2, x0)] [(2, (S45.2.2 + 1)), (2, x0)] (zNewM S45 M49)
  generalize S45.2.2 + 1 = r53 at h ⊢
  have h := zlt h
  generalize zNewM S45 M49 = M52 at h ⊢
  have h := zlt h
  generalize zNewS S45 0 0 = S51 at h ⊢
  have h := zlt h
  refine zG.blk (pc' := 70) (l' := [some (2, x0)]) (st' := [(2, r53), (2, r53), (2, x0)]) (M' := M52) hX [(.dup, 0, 0, 0)] (by decide +kernel) rfl trivial ?_
  obtain ⟨g56, h⟩ := zif h
  obtain ⟨q54, e55, h⟩ := zbd h
  refine zG.callN (b := r53) (av := []) (st := [(2, r53), (2, x0)]) hX (pX0_init_ok e55) sn_11_49 rfl g56 (by decide +kernel) (by rw [hRm]; exact ⟨Nat.le_of_ble_eq_true rfl, Nat.le_of_ble_eq_true rfl⟩) (by rw [hRm]; exact ⟨Nat.le_of_ble_eq_true rfl, Nat.le_of_ble_eq_true rfl⟩) (Nat.le_of_ble_eq_true rfl) ?_
  show zG C E 1 q54.1 135 3771 _ 73 [some (2, x0)] [(2, r53), (2, x0)] q54.2
  obtain ⟨g57, h⟩ := zif h
  refine zG.blk (pc' := 76) (l' := [some (2, x0)]) (st' := []) (M' := (upM q54.2 x0 7 r53)) hX [(.putfield 50, 11, 7, 2)] (by decide +kernel) rfl (And.intro g57 trivial) ?_
  generalize upM q54.2 x0 7 r53 = M58 at h ⊢
  have h := zlt h
  exact (pX11_init_76_ok hX hRm h)
noncomputable def pX11_init_37 (S : ZS) (M : ZM) (x0 : Int) : Option (ZS × ZM) := if S.2.2 < 2000000000 then zlet (S.2.2 + 1) fun r32 => zlet (zNewM S M) fun M31 => zlet (zNewS S 104 6) fun S30 => if S30.1 x0 = 11 then zlet (upM M31 x0 3 r32) fun M34 => if S30.2.2 < 2000000000 then zlet (S30.2.2 + 1) fun r38 => zlet (zNewM S30 M34) fun M37 => zlet (zNewS S30 10 0) fun S36 => if 1 ≤ r38 then (pX10_init S36 M37 r38).bind fun q39 => if q39.1.1 x0 = 11 then zlet (upM q39.2 x0 5 r38) fun M43 => pX11_init_57 q39.1 M43 x0 else none else none else none else none else none
set_option maxHeartbeats 2000000 in
set_option maxRecDepth 20000 in
theorem pX11_init_37_ok {C : ZC} {E : ZE} {q : (ZS × ZM)} (hX : zCx C E 11 cX11_init 1 none true) (hRm : czR C = { frames := 4, cells := 174, slots := 4530, locals := 104 }) {S : ZS} {M : ZM} {x0 : Int} (h : pX11_init_37 S M x0 = some q) : zG C E 1 S 13 1692 (zQ C E 174 4530 none q.1 q.2) 37 [some (2, x0)] [] M := by
  unfold pX11_init_37 at h
  refine zG.blk (pc' := 40) (l' := [some (2, x0)]) (st' := [(0, 6), (2, x0)]) (M' := M) hX [(.aload_n 0, 0, 0, 0), (.bipush 6, 0, 0, 0)] (by decide +kernel) rfl trivial ?_
  obtain ⟨g29, h⟩ := zif h
  refine zG.anewarray (ci := 4) (t := 4) (N := 6) hX (by decide) (zSC_link sc_11_30) (by decide +kernel) g29 (by decide) (Nat.le_of_ble_eq_true rfl) (by rw [hRm]; exact ⟨Nat.le_of_ble_eq_true rfl, Nat.le_of_ble_eq_true rfl⟩) ?_
  show zG C E 1 (zNewS S 104 6) 14 1698 _ 43 [some (2, x0)] [(2, (S.2.2 + 1)), (2, x0)] (zNewM S M)
  generalize S.2.2 + 1 = r32 at h ⊢
  have h := zlt h
  generalize zNewM S M = M31 at h ⊢
  have h := zlt h
  generalize zNewS S 104 6 = S30 at h ⊢
  have h := zlt h
  obtain ⟨g33, h⟩ := zif h
  refine zG.blk (pc' := 46) (l' := [some (2, x0)]) (st' := []) (M' := (upM M31 x0 3 r32)) hX [(.putfield 32, 11, 3, 2)] (by decide +kernel) rfl (And.intro g33 trivial) ?_
  generalize upM M31 x0 3 r32 = M34 at h ⊢
  have h := zlt h
  refine zG.blk (pc' := 47) (l' := [some (2, x0)]) (st' := [(2, x0)]) (M' := M34) hX [(.aload_n 0, 0, 0, 0)] (by decide +kernel) rfl trivial ?_
  obtain ⟨g35, h⟩ := zif h
  refine zG.new (ci := 10) hX sc_11_36 (by decide +kernel) g35 (by rw [hRm]; exact ⟨Nat.le_of_ble_eq_true rfl, Nat.le_of_ble_eq_true rfl⟩) ?_
  show zG C E 1 (zNewS S30 10 0) 15 1708 _ 50 [some (2, x0)] [(2, (S30.2.2 + 1)), (2, x0)] (zNewM S30 M34)
  generalize S30.2.2 + 1 = r38 at h ⊢
  have h := zlt h
  generalize zNewM S30 M34 = M37 at h ⊢
  have h := zlt h
  generalize zNewS S30 10 0 = S36 at h ⊢
  have h := zlt h
  refine zG.blk (pc' := 51) (l' := [some (2, x0)]) (st' := [(2, r38), (2, r38), (2, x0)]) (M' := M37) hX [(.dup, 0, 0, 0)] (by decide +kernel) rfl trivial ?_
  obtain ⟨g41, h⟩ := zif h
  obtain ⟨q39, e40, h⟩ := zbd h
  refine zG.callI (b := r38) (av := []) (st := [(2, r38), (2, x0)]) hX (pX10_init_ok e40) si_11_38 rfl g41 (by decide +kernel) (by rw [hRm]; exact ⟨Nat.le_of_ble_eq_true rfl, Nat.le_of_ble_eq_true rfl⟩) (by rw [hRm]; exact ⟨Nat.le_of_ble_eq_true rfl, Nat.le_of_ble_eq_true rfl⟩) (Nat.le_of_ble_eq_true rfl) ?_
  show zG C E 1 q39.1 130 3707 _ 54 [some (2, x0)] [(2, r38), (2, x0)] q39.2
  obtain ⟨g42, h⟩ := zif h
  refine zG.blk (pc' := 57) (l' := [some (2, x0)]) (st' := []) (M' := (upM q39.2 x0 5 r38)) hX [(.putfield 39, 11, 5, 2)] (by decide +kernel) rfl (And.intro g42 trivial) ?_
  generalize upM q39.2 x0 5 r38 = M43 at h ⊢
  have h := zlt h
  exact (pX11_init_57_ok hX hRm h)
noncomputable def pX11_init_26 (S : ZS) (M : ZM) (x0 : Int) : Option (ZS × ZM) := if S.2.2 < 2000000000 then zlet (S.2.2 + 1) fun r23 => zlet (zNewM S M) fun M22 => zlet (zNewS S 5 0) fun S21 => if 1 ≤ r23 then (pX5_init S21 M22 r23).bind fun q24 => if q24.1.1 x0 = 11 then zlet (upM q24.2 x0 2 r23) fun M28 => pX11_init_37 q24.1 M28 x0 else none else none else none
set_option maxHeartbeats 2000000 in
set_option maxRecDepth 20000 in
theorem pX11_init_26_ok {C : ZC} {E : ZE} {q : (ZS × ZM)} (hX : zCx C E 11 cX11_init 1 none true) (hRm : czR C = { frames := 4, cells := 174, slots := 4530, locals := 104 }) {S : ZS} {M : ZM} {x0 : Int} (h : pX11_init_26 S M x0 = some q) : zG C E 1 S 11 1289 (zQ C E 174 4530 none q.1 q.2) 26 [some (2, x0)] [] M := by
  unfold pX11_init_26 at h
  refine zG.blk (pc' := 27) (l' := [some (2, x0)]) (st' := [(2, x0)]) (M' := M) hX [(.aload_n 0, 0, 0, 0)] (by decide +kernel) rfl trivial ?_
  obtain ⟨g20, h⟩ := zif h
  refine zG.new (ci := 5) hX sc_11_23 (by decide +kernel) g20 (by rw [hRm]; exact ⟨Nat.le_of_ble_eq_true rfl, Nat.le_of_ble_eq_true rfl⟩) ?_
  show zG C E 1 (zNewS S 5 0) 12 1292 _ 30 [some (2, x0)] [(2, (S.2.2 + 1)), (2, x0)] (zNewM S M)
  generalize S.2.2 + 1 = r23 at h ⊢
  have h := zlt h
  generalize zNewM S M = M22 at h ⊢
  have h := zlt h
  generalize zNewS S 5 0 = S21 at h ⊢
  have h := zlt h
  refine zG.blk (pc' := 31) (l' := [some (2, x0)]) (st' := [(2, r23), (2, r23), (2, x0)]) (M' := M22) hX [(.dup, 0, 0, 0)] (by decide +kernel) rfl trivial ?_
  obtain ⟨g26, h⟩ := zif h
  obtain ⟨q24, e25, h⟩ := zbd h
  refine zG.callN (b := r23) (av := []) (st := [(2, r23), (2, x0)]) hX (pX5_init_ok e25) sn_11_25 rfl g26 (by decide +kernel) (by rw [hRm]; exact ⟨Nat.le_of_ble_eq_true rfl, Nat.le_of_ble_eq_true rfl⟩) (by rw [hRm]; exact ⟨Nat.le_of_ble_eq_true rfl, Nat.le_of_ble_eq_true rfl⟩) (Nat.le_of_ble_eq_true rfl) ?_
  show zG C E 1 q24.1 13 1692 _ 34 [some (2, x0)] [(2, r23), (2, x0)] q24.2
  obtain ⟨g27, h⟩ := zif h
  refine zG.blk (pc' := 37) (l' := [some (2, x0)]) (st' := []) (M' := (upM q24.2 x0 2 r23)) hX [(.putfield 26, 11, 2, 2)] (by decide +kernel) rfl (And.intro g27 trivial) ?_
  generalize upM q24.2 x0 2 r23 = M28 at h ⊢
  have h := zlt h
  exact (pX11_init_37_ok hX hRm h)
noncomputable def pX11_init_15 (S : ZS) (M : ZM) (x0 : Int) : Option (ZS × ZM) := if S.2.2 < 2000000000 then zlet (S.2.2 + 1) fun r14 => zlet (zNewM S M) fun M13 => zlet (zNewS S 7 0) fun S12 => if 1 ≤ r14 then (pX7_init S12 M13 r14).bind fun q15 => if q15.1.1 x0 = 11 then zlet (upM q15.2 x0 1 r14) fun M19 => pX11_init_26 q15.1 M19 x0 else none else none else none
set_option maxHeartbeats 2000000 in
set_option maxRecDepth 20000 in
theorem pX11_init_15_ok {C : ZC} {E : ZE} {q : (ZS × ZM)} (hX : zCx C E 11 cX11_init 1 none true) (hRm : czR C = { frames := 4, cells := 174, slots := 4530, locals := 104 }) {S : ZS} {M : ZM} {x0 : Int} (h : pX11_init_15 S M x0 = some q) : zG C E 1 S 4 1208 (zQ C E 174 4530 none q.1 q.2) 15 [some (2, x0)] [] M := by
  unfold pX11_init_15 at h
  refine zG.blk (pc' := 16) (l' := [some (2, x0)]) (st' := [(2, x0)]) (M' := M) hX [(.aload_n 0, 0, 0, 0)] (by decide +kernel) rfl trivial ?_
  obtain ⟨g11, h⟩ := zif h
  refine zG.new (ci := 7) hX sc_11_16 (by decide +kernel) g11 (by rw [hRm]; exact ⟨Nat.le_of_ble_eq_true rfl, Nat.le_of_ble_eq_true rfl⟩) ?_
  show zG C E 1 (zNewS S 7 0) 5 1209 _ 19 [some (2, x0)] [(2, (S.2.2 + 1)), (2, x0)] (zNewM S M)
  generalize S.2.2 + 1 = r14 at h ⊢
  have h := zlt h
  generalize zNewM S M = M13 at h ⊢
  have h := zlt h
  generalize zNewS S 7 0 = S12 at h ⊢
  have h := zlt h
  refine zG.blk (pc' := 20) (l' := [some (2, x0)]) (st' := [(2, r14), (2, r14), (2, x0)]) (M' := M13) hX [(.dup, 0, 0, 0)] (by decide +kernel) rfl trivial ?_
  obtain ⟨g17, h⟩ := zif h
  obtain ⟨q15, e16, h⟩ := zbd h
  refine zG.callN (b := r14) (av := []) (st := [(2, r14), (2, x0)]) hX (pX7_init_ok e16) sn_11_18 rfl g17 (by decide +kernel) (by rw [hRm]; exact ⟨Nat.le_of_ble_eq_true rfl, Nat.le_of_ble_eq_true rfl⟩) (by rw [hRm]; exact ⟨Nat.le_of_ble_eq_true rfl, Nat.le_of_ble_eq_true rfl⟩) (Nat.le_of_ble_eq_true rfl) ?_
  show zG C E 1 q15.1 11 1289 _ 23 [some (2, x0)] [(2, r14), (2, x0)] q15.2
  obtain ⟨g18, h⟩ := zif h
  refine zG.blk (pc' := 26) (l' := [some (2, x0)]) (st' := []) (M' := (upM q15.2 x0 1 r14)) hX [(.putfield 19, 11, 1, 2)] (by decide +kernel) rfl (And.intro g18 trivial) ?_
  generalize upM q15.2 x0 1 r14 = M19 at h ⊢
  have h := zlt h
  exact (pX11_init_26_ok hX hRm h)
noncomputable def pX11_init (S : ZS) (M : ZM) (a0 : Int) : Option (ZS × ZM) := if 1 ≤ a0 then if S.2.2 < 2000000000 then zlet (S.2.2 + 1) fun r5 => zlet (zNewM S M) fun M4 => zlet (zNewS S 8 0) fun S3 => if 1 ≤ r5 then (pX8_init S3 M4 r5).bind fun q6 => if q6.1.1 a0 = 11 then zlet (upM q6.2 a0 0 r5) fun M10 => pX11_init_15 q6.1 M10 a0 else none else none else none else none
set_option maxHeartbeats 2000000 in
set_option maxRecDepth 20000 in
theorem pX11_init_go {C : ZC} {E : ZE} {S : ZS} {M : ZM} {a0 : Int} {q : (ZS × ZM)} (hX : zCx C E 11 cX11_init 1 none true) (hRm : czR C = { frames := 4, cells := 174, slots := 4530, locals := 104 }) (h : pX11_init  S M a0 = some q) : zG C E 1 S 0 0 (zQ C E 174 4530 none q.1 q.2) 0 [some (2, a0)] [] M := by
  unfold pX11_init at h
  refine zG.blk (pc' := 1) (l' := [some (2, a0)]) (st' := [(2, a0)]) (M' := M) hX [(.aload_n 0, 0, 0, 0)] (by decide +kernel) rfl trivial ?_
  obtain ⟨g1, h⟩ := zif h
  refine zG.objInit hX so_11_1 so_1 so_2 g1 (by decide +kernel) (by rw [hRm]; exact ⟨Nat.le_of_ble_eq_true rfl, Nat.le_of_ble_eq_true rfl⟩) ?_
  show zG C E 1 S 0 0 _ 4 [some (2, a0)] [] M
  refine zG.blk (pc' := 5) (l' := [some (2, a0)]) (st' := [(2, a0)]) (M' := M) hX [(.aload_n 0, 0, 0, 0)] (by decide +kernel) rfl trivial ?_
  obtain ⟨g2, h⟩ := zif h
  refine zG.new (ci := 8) hX sc_11_7 (by decide +kernel) g2 (by rw [hRm]; exact ⟨Nat.le_of_ble_eq_true rfl, Nat.le_of_ble_eq_true rfl⟩) ?_
  show zG C E 1 (zNewS S 8 0) 1 6 _ 8 [some (2, a0)] [(2, (S.2.2 + 1)), (2, a0)] (zNewM S M)
  generalize S.2.2 + 1 = r5 at h ⊢
  have h := zlt h
  generalize zNewM S M = M4 at h ⊢
  have h := zlt h
  generalize zNewS S 8 0 = S3 at h ⊢
  have h := zlt h
  refine zG.blk (pc' := 9) (l' := [some (2, a0)]) (st' := [(2, r5), (2, r5), (2, a0)]) (M' := M4) hX [(.dup, 0, 0, 0)] (by decide +kernel) rfl trivial ?_
  obtain ⟨g8, h⟩ := zif h
  obtain ⟨q6, e7, h⟩ := zbd h
  refine zG.callN (b := r5) (av := []) (st := [(2, r5), (2, a0)]) hX (pX8_init_ok e7) sn_11_9 rfl g8 (by decide +kernel) (by rw [hRm]; exact ⟨Nat.le_of_ble_eq_true rfl, Nat.le_of_ble_eq_true rfl⟩) (by rw [hRm]; exact ⟨Nat.le_of_ble_eq_true rfl, Nat.le_of_ble_eq_true rfl⟩) (Nat.le_of_ble_eq_true rfl) ?_
  show zG C E 1 q6.1 4 1208 _ 12 [some (2, a0)] [(2, r5), (2, a0)] q6.2
  obtain ⟨g9, h⟩ := zif h
  refine zG.blk (pc' := 15) (l' := [some (2, a0)]) (st' := []) (M' := (upM q6.2 a0 0 r5)) hX [(.putfield 10, 11, 0, 2)] (by decide +kernel) rfl (And.intro g9 trivial) ?_
  generalize upM q6.2 a0 0 r5 = M10 at h ⊢
  have h := zlt h
  exact (pX11_init_15_ok hX hRm h)
theorem pX11_init_ok {l : Launch} {E : ZE} {S : ZS} {M : ZM} {a0 : Int} {q : (ZS × ZM)} (h : pX11_init S M a0 = some q) : zMet l yX11_init cX11_init 1 none 4 104 174 4530 E S M [(2, a0)] (none) q.1 q.2 :=
  zMet.of (o := 11) (ini := true) (by decide +kernel) rfl (fun _ => rfl) (Nat.le_of_ble_eq_true rfl) (fun C hX hl hRm => by subst hl; exact pX11_init_go hX hRm h)
theorem so_12_3 : Cond.methodLink (zOwn 12) 3 Lib.objectInit ∈ gt := gt_at 1127 (by decide +kernel) rfl
theorem sa_byte : Cond.arrayClass (newarray.typeOf .byte) ∈ gt := gt_at 666 (by decide +kernel) rfl
theorem sa_boolean : Cond.arrayClass (newarray.typeOf .boolean) ∈ gt := gt_at 1290 (by decide +kernel) rfl
noncomputable def pX12_init_359 (S : ZS) (M : ZM) : Option (ZS × ZM) := some (S, M)
set_option maxHeartbeats 2000000 in
set_option maxRecDepth 20000 in
theorem pX12_init_359_ok {C : ZC} {E : ZE} {q : (ZS × ZM)} (hX : zCx C E 12 cX12_init 1 none true) (hRm : czR C = { frames := 1, cells := 38, slots := 20012, locals := 40 }) {S : ZS} {M : ZM} (h : pX12_init_359 S M = some q) : zG C E 1 S 38 20012 (zQ C E 38 20012 none q.1 q.2) 359 [none] [] M := by
  unfold pX12_init_359 at h
  cases h
  exact zG.vret hX (by decide +kernel)
noncomputable def pX12_init_343 (S : ZS) (M : ZM) (x0 : Int) : Option (ZS × ZM) := if S.2.2 < 2000000000 then zlet (S.2.2 + 1) fun r243 => zlet (zNewM S M) fun M242 => zlet (zNewS S 100 10000) fun S241 => if S241.1 x0 = 12 then zlet (upM M242 x0 50 r243) fun M245 => if S241.2.2 < 2000000000 then zlet (S241.2.2 + 1) fun r249 => zlet (zNewM S241 M245) fun M248 => zlet (zNewS S241 103 4) fun S247 => if S247.1 x0 = 12 then zlet (upM M248 x0 51 r249) fun M251 => pX12_init_359 S247 M251 else none else none else none else none
set_option maxHeartbeats 2000000 in
set_option maxRecDepth 20000 in
theorem pX12_init_343_ok {C : ZC} {E : ZE} {q : (ZS × ZM)} (hX : zCx C E 12 cX12_init 1 none true) (hRm : czR C = { frames := 1, cells := 38, slots := 20012, locals := 40 }) {S : ZS} {M : ZM} {x0 : Int} (h : pX12_init_343 S M x0 = some q) : zG C E 1 S 36 10008 (zQ C E 38 20012 none q.1 q.2) 343 [some (2, x0)] [] M := by
  unfold pX12_init_343 at h
  refine zG.blk (pc' := 347) (l' := [some (2, x0)]) (st' := [(0, 10000), (2, x0)]) (M' := M) hX [(.aload_n 0, 0, 0, 0), (.sipush 10000, 0, 0, 0)] (by decide +kernel) rfl trivial ?_
  obtain ⟨g240, h⟩ := zif h
  refine zG.newarray (at_ := .int) (t := 0) (N := 10000) hX (by simp) sa_int (by decide +kernel) g240 (by decide) (Nat.le_of_ble_eq_true rfl) (by rw [hRm]; exact ⟨Nat.le_of_ble_eq_true rfl, Nat.le_of_ble_eq_true rfl⟩) ?_
  show zG C E 1 (zNewS S 100 10000) 37 20008 _ 349 [some (2, x0)] [(2, (S.2.2 + 1)), (2, x0)] (zNewM S M)
  generalize S.2.2 + 1 = r243 at h ⊢
  have h := zlt h
  generalize zNewM S M = M242 at h ⊢
  have h := zlt h
  generalize zNewS S 100 10000 = S241 at h ⊢
  have h := zlt h
  obtain ⟨g244, h⟩ := zif h
  refine zG.blk (pc' := 352) (l' := [some (2, x0)]) (st' := []) (M' := (upM M242 x0 50 r243)) hX [(.putfield 124, 12, 50, 2)] (by decide +kernel) rfl (And.intro g244 trivial) ?_
  generalize upM M242 x0 50 r243 = M245 at h ⊢
  have h := zlt h
  refine zG.blk (pc' := 354) (l' := [some (2, x0)]) (st' := [(0, 4), (2, x0)]) (M' := M245) hX [(.aload_n 0, 0, 0, 0), (.iconst 4, 0, 0, 0)] (by decide +kernel) rfl trivial ?_
  obtain ⟨g246, h⟩ := zif h
  refine zG.newarray (at_ := .boolean) (t := 3) (N := 4) hX (by simp) sa_boolean (by decide +kernel) g246 (by decide) (Nat.le_of_ble_eq_true rfl) (by rw [hRm]; exact ⟨Nat.le_of_ble_eq_true rfl, Nat.le_of_ble_eq_true rfl⟩) ?_
  show zG C E 1 (zNewS S241 103 4) 38 20012 _ 356 [some (2, x0)] [(2, (S241.2.2 + 1)), (2, x0)] (zNewM S241 M245)
  generalize S241.2.2 + 1 = r249 at h ⊢
  have h := zlt h
  generalize zNewM S241 M245 = M248 at h ⊢
  have h := zlt h
  generalize zNewS S241 103 4 = S247 at h ⊢
  have h := zlt h
  obtain ⟨g250, h⟩ := zif h
  refine zG.blk (pc' := 359) (l' := [some (2, x0)]) (st' := []) (M' := (upM M248 x0 51 r249)) hX [(.putfield 127, 12, 51, 2)] (by decide +kernel) rfl (And.intro g250 trivial) ?_
  generalize upM M248 x0 51 r249 = M251 at h ⊢
  have h := zlt h
  exact zG.wk [false] (pX12_init_359_ok hX hRm h)
noncomputable def pX12_init_325 (S : ZS) (M : ZM) (x0 : Int) : Option (ZS × ZM) := if S.2.2 < 2000000000 then zlet (S.2.2 + 1) fun r231 => zlet (zNewM S M) fun M230 => zlet (zNewS S 100 252) fun S229 => if S229.1 x0 = 12 then zlet (upM M230 x0 48 r231) fun M233 => if S229.2.2 < 2000000000 then zlet (S229.2.2 + 1) fun r237 => zlet (zNewM S229 M233) fun M236 => zlet (zNewS S229 100 2196) fun S235 => if S235.1 x0 = 12 then zlet (upM M236 x0 49 r237) fun M239 => pX12_init_343 S235 M239 x0 else none else none else none else none
set_option maxHeartbeats 2000000 in
set_option maxRecDepth 20000 in
theorem pX12_init_325_ok {C : ZC} {E : ZE} {q : (ZS × ZM)} (hX : zCx C E 12 cX12_init 1 none true) (hRm : czR C = { frames := 1, cells := 38, slots := 20012, locals := 40 }) {S : ZS} {M : ZM} {x0 : Int} (h : pX12_init_325 S M x0 = some q) : zG C E 1 S 34 7560 (zQ C E 38 20012 none q.1 q.2) 325 [some (2, x0)] [] M := by
  unfold pX12_init_325 at h
  refine zG.blk (pc' := 329) (l' := [some (2, x0)]) (st' := [(0, 252), (2, x0)]) (M' := M) hX [(.aload_n 0, 0, 0, 0), (.sipush 252, 0, 0, 0)] (by decide +kernel) rfl trivial ?_
  obtain ⟨g228, h⟩ := zif h
  refine zG.newarray (at_ := .int) (t := 0) (N := 252) hX (by simp) sa_int (by decide +kernel) g228 (by decide) (Nat.le_of_ble_eq_true rfl) (by rw [hRm]; exact ⟨Nat.le_of_ble_eq_true rfl, Nat.le_of_ble_eq_true rfl⟩) ?_
  show zG C E 1 (zNewS S 100 252) 35 7812 _ 331 [some (2, x0)] [(2, (S.2.2 + 1)), (2, x0)] (zNewM S M)
  generalize S.2.2 + 1 = r231 at h ⊢
  have h := zlt h
  generalize zNewM S M = M230 at h ⊢
  have h := zlt h
  generalize zNewS S 100 252 = S229 at h ⊢
  have h := zlt h
  obtain ⟨g232, h⟩ := zif h
  refine zG.blk (pc' := 334) (l' := [some (2, x0)]) (st' := []) (M' := (upM M230 x0 48 r231)) hX [(.putfield 118, 12, 48, 2)] (by decide +kernel) rfl (And.intro g232 trivial) ?_
  generalize upM M230 x0 48 r231 = M233 at h ⊢
  have h := zlt h
  refine zG.blk (pc' := 338) (l' := [some (2, x0)]) (st' := [(0, 2196), (2, x0)]) (M' := M233) hX [(.aload_n 0, 0, 0, 0), (.sipush 2196, 0, 0, 0)] (by decide +kernel) rfl trivial ?_
  obtain ⟨g234, h⟩ := zif h
  refine zG.newarray (at_ := .int) (t := 0) (N := 2196) hX (by simp) sa_int (by decide +kernel) g234 (by decide) (Nat.le_of_ble_eq_true rfl) (by rw [hRm]; exact ⟨Nat.le_of_ble_eq_true rfl, Nat.le_of_ble_eq_true rfl⟩) ?_
  show zG C E 1 (zNewS S229 100 2196) 36 10008 _ 340 [some (2, x0)] [(2, (S229.2.2 + 1)), (2, x0)] (zNewM S229 M233)
  generalize S229.2.2 + 1 = r237 at h ⊢
  have h := zlt h
  generalize zNewM S229 M233 = M236 at h ⊢
  have h := zlt h
  generalize zNewS S229 100 2196 = S235 at h ⊢
  have h := zlt h
  obtain ⟨g238, h⟩ := zif h
  refine zG.blk (pc' := 343) (l' := [some (2, x0)]) (st' := []) (M' := (upM M236 x0 49 r237)) hX [(.putfield 121, 12, 49, 2)] (by decide +kernel) rfl (And.intro g238 trivial) ?_
  generalize upM M236 x0 49 r237 = M239 at h ⊢
  have h := zlt h
  exact (pX12_init_343_ok hX hRm h)
noncomputable def pX12_init_309 (S : ZS) (M : ZM) (x0 : Int) : Option (ZS × ZM) := if S.2.2 < 2000000000 then zlet (S.2.2 + 1) fun r219 => zlet (zNewM S M) fun M218 => zlet (zNewS S 100 16) fun S217 => if S217.1 x0 = 12 then zlet (upM M218 x0 46 r219) fun M221 => if S217.2.2 < 2000000000 then zlet (S217.2.2 + 1) fun r225 => zlet (zNewM S217 M221) fun M224 => zlet (zNewS S217 100 16) fun S223 => if S223.1 x0 = 12 then zlet (upM M224 x0 47 r225) fun M227 => pX12_init_325 S223 M227 x0 else none else none else none else none
set_option maxHeartbeats 2000000 in
set_option maxRecDepth 20000 in
theorem pX12_init_309_ok {C : ZC} {E : ZE} {q : (ZS × ZM)} (hX : zCx C E 12 cX12_init 1 none true) (hRm : czR C = { frames := 1, cells := 38, slots := 20012, locals := 40 }) {S : ZS} {M : ZM} {x0 : Int} (h : pX12_init_309 S M x0 = some q) : zG C E 1 S 32 7528 (zQ C E 38 20012 none q.1 q.2) 309 [some (2, x0)] [] M := by
  unfold pX12_init_309 at h
  refine zG.blk (pc' := 312) (l' := [some (2, x0)]) (st' := [(0, 16), (2, x0)]) (M' := M) hX [(.aload_n 0, 0, 0, 0), (.bipush 16, 0, 0, 0)] (by decide +kernel) rfl trivial ?_
  obtain ⟨g216, h⟩ := zif h
  refine zG.newarray (at_ := .int) (t := 0) (N := 16) hX (by simp) sa_int (by decide +kernel) g216 (by decide) (Nat.le_of_ble_eq_true rfl) (by rw [hRm]; exact ⟨Nat.le_of_ble_eq_true rfl, Nat.le_of_ble_eq_true rfl⟩) ?_
  show zG C E 1 (zNewS S 100 16) 33 7544 _ 314 [some (2, x0)] [(2, (S.2.2 + 1)), (2, x0)] (zNewM S M)
  generalize S.2.2 + 1 = r219 at h ⊢
  have h := zlt h
  generalize zNewM S M = M218 at h ⊢
  have h := zlt h
  generalize zNewS S 100 16 = S217 at h ⊢
  have h := zlt h
  obtain ⟨g220, h⟩ := zif h
  refine zG.blk (pc' := 317) (l' := [some (2, x0)]) (st' := []) (M' := (upM M218 x0 46 r219)) hX [(.putfield 112, 12, 46, 2)] (by decide +kernel) rfl (And.intro g220 trivial) ?_
  generalize upM M218 x0 46 r219 = M221 at h ⊢
  have h := zlt h
  refine zG.blk (pc' := 320) (l' := [some (2, x0)]) (st' := [(0, 16), (2, x0)]) (M' := M221) hX [(.aload_n 0, 0, 0, 0), (.bipush 16, 0, 0, 0)] (by decide +kernel) rfl trivial ?_
  obtain ⟨g222, h⟩ := zif h
  refine zG.newarray (at_ := .int) (t := 0) (N := 16) hX (by simp) sa_int (by decide +kernel) g222 (by decide) (Nat.le_of_ble_eq_true rfl) (by rw [hRm]; exact ⟨Nat.le_of_ble_eq_true rfl, Nat.le_of_ble_eq_true rfl⟩) ?_
  show zG C E 1 (zNewS S217 100 16) 34 7560 _ 322 [some (2, x0)] [(2, (S217.2.2 + 1)), (2, x0)] (zNewM S217 M221)
  generalize S217.2.2 + 1 = r225 at h ⊢
  have h := zlt h
  generalize zNewM S217 M221 = M224 at h ⊢
  have h := zlt h
  generalize zNewS S217 100 16 = S223 at h ⊢
  have h := zlt h
  obtain ⟨g226, h⟩ := zif h
  refine zG.blk (pc' := 325) (l' := [some (2, x0)]) (st' := []) (M' := (upM M224 x0 47 r225)) hX [(.putfield 115, 12, 47, 2)] (by decide +kernel) rfl (And.intro g226 trivial) ?_
  generalize upM M224 x0 47 r225 = M227 at h ⊢
  have h := zlt h
  exact (pX12_init_325_ok hX hRm h)
noncomputable def pX12_init_293 (S : ZS) (M : ZM) (x0 : Int) : Option (ZS × ZM) := if S.2.2 < 2000000000 then zlet (S.2.2 + 1) fun r207 => zlet (zNewM S M) fun M206 => zlet (zNewS S 100 1) fun S205 => if S205.1 x0 = 12 then zlet (upM M206 x0 41 r207) fun M209 => if S205.2.2 < 2000000000 then zlet (S205.2.2 + 1) fun r213 => zlet (zNewM S205 M209) fun M212 => zlet (zNewS S205 100 625) fun S211 => if S211.1 x0 = 12 then zlet (upM M212 x0 45 r213) fun M215 => pX12_init_309 S211 M215 x0 else none else none else none else none
set_option maxHeartbeats 2000000 in
set_option maxRecDepth 20000 in
theorem pX12_init_293_ok {C : ZC} {E : ZE} {q : (ZS × ZM)} (hX : zCx C E 12 cX12_init 1 none true) (hRm : czR C = { frames := 1, cells := 38, slots := 20012, locals := 40 }) {S : ZS} {M : ZM} {x0 : Int} (h : pX12_init_293 S M x0 = some q) : zG C E 1 S 30 6902 (zQ C E 38 20012 none q.1 q.2) 293 [some (2, x0)] [] M := by
  unfold pX12_init_293 at h
  refine zG.blk (pc' := 295) (l' := [some (2, x0)]) (st' := [(0, 1), (2, x0)]) (M' := M) hX [(.aload_n 0, 0, 0, 0), (.iconst 1, 0, 0, 0)] (by decide +kernel) rfl trivial ?_
  obtain ⟨g204, h⟩ := zif h
  refine zG.newarray (at_ := .int) (t := 0) (N := 1) hX (by simp) sa_int (by decide +kernel) g204 (by decide) (Nat.le_of_ble_eq_true rfl) (by rw [hRm]; exact ⟨Nat.le_of_ble_eq_true rfl, Nat.le_of_ble_eq_true rfl⟩) ?_
  show zG C E 1 (zNewS S 100 1) 31 6903 _ 297 [some (2, x0)] [(2, (S.2.2 + 1)), (2, x0)] (zNewM S M)
  generalize S.2.2 + 1 = r207 at h ⊢
  have h := zlt h
  generalize zNewM S M = M206 at h ⊢
  have h := zlt h
  generalize zNewS S 100 1 = S205 at h ⊢
  have h := zlt h
  obtain ⟨g208, h⟩ := zif h
  refine zG.blk (pc' := 300) (l' := [some (2, x0)]) (st' := []) (M' := (upM M206 x0 41 r207)) hX [(.putfield 106, 12, 41, 2)] (by decide +kernel) rfl (And.intro g208 trivial) ?_
  generalize upM M206 x0 41 r207 = M209 at h ⊢
  have h := zlt h
  refine zG.blk (pc' := 304) (l' := [some (2, x0)]) (st' := [(0, 625), (2, x0)]) (M' := M209) hX [(.aload_n 0, 0, 0, 0), (.sipush 625, 0, 0, 0)] (by decide +kernel) rfl trivial ?_
  obtain ⟨g210, h⟩ := zif h
  refine zG.newarray (at_ := .int) (t := 0) (N := 625) hX (by simp) sa_int (by decide +kernel) g210 (by decide) (Nat.le_of_ble_eq_true rfl) (by rw [hRm]; exact ⟨Nat.le_of_ble_eq_true rfl, Nat.le_of_ble_eq_true rfl⟩) ?_
  show zG C E 1 (zNewS S205 100 625) 32 7528 _ 306 [some (2, x0)] [(2, (S205.2.2 + 1)), (2, x0)] (zNewM S205 M209)
  generalize S205.2.2 + 1 = r213 at h ⊢
  have h := zlt h
  generalize zNewM S205 M209 = M212 at h ⊢
  have h := zlt h
  generalize zNewS S205 100 625 = S211 at h ⊢
  have h := zlt h
  obtain ⟨g214, h⟩ := zif h
  refine zG.blk (pc' := 309) (l' := [some (2, x0)]) (st' := []) (M' := (upM M212 x0 45 r213)) hX [(.putfield 109, 12, 45, 2)] (by decide +kernel) rfl (And.intro g214 trivial) ?_
  generalize upM M212 x0 45 r213 = M215 at h ⊢
  have h := zlt h
  exact (pX12_init_309_ok hX hRm h)
noncomputable def pX12_init_275 (S : ZS) (M : ZM) (x0 : Int) : Option (ZS × ZM) := if S.2.2 < 2000000000 then zlet (S.2.2 + 1) fun r195 => zlet (zNewM S M) fun M194 => zlet (zNewS S 101 300) fun S193 => if S193.1 x0 = 12 then zlet (upM M194 x0 39 r195) fun M197 => if S193.2.2 < 2000000000 then zlet (S193.2.2 + 1) fun r201 => zlet (zNewM S193 M197) fun M200 => zlet (zNewS S193 100 1700) fun S199 => if S199.1 x0 = 12 then zlet (upM M200 x0 40 r201) fun M203 => pX12_init_293 S199 M203 x0 else none else none else none else none
set_option maxHeartbeats 2000000 in
set_option maxRecDepth 20000 in
theorem pX12_init_275_ok {C : ZC} {E : ZE} {q : (ZS × ZM)} (hX : zCx C E 12 cX12_init 1 none true) (hRm : czR C = { frames := 1, cells := 38, slots := 20012, locals := 40 }) {S : ZS} {M : ZM} {x0 : Int} (h : pX12_init_275 S M x0 = some q) : zG C E 1 S 28 4902 (zQ C E 38 20012 none q.1 q.2) 275 [some (2, x0)] [] M := by
  unfold pX12_init_275 at h
  refine zG.blk (pc' := 279) (l' := [some (2, x0)]) (st' := [(0, 300), (2, x0)]) (M' := M) hX [(.aload_n 0, 0, 0, 0), (.sipush 300, 0, 0, 0)] (by decide +kernel) rfl trivial ?_
  obtain ⟨g192, h⟩ := zif h
  refine zG.newarray (at_ := .long) (t := 1) (N := 300) hX (by simp) sa_long (by decide +kernel) g192 (by decide) (Nat.le_of_ble_eq_true rfl) (by rw [hRm]; exact ⟨Nat.le_of_ble_eq_true rfl, Nat.le_of_ble_eq_true rfl⟩) ?_
  show zG C E 1 (zNewS S 101 300) 29 5202 _ 281 [some (2, x0)] [(2, (S.2.2 + 1)), (2, x0)] (zNewM S M)
  generalize S.2.2 + 1 = r195 at h ⊢
  have h := zlt h
  generalize zNewM S M = M194 at h ⊢
  have h := zlt h
  generalize zNewS S 101 300 = S193 at h ⊢
  have h := zlt h
  obtain ⟨g196, h⟩ := zif h
  refine zG.blk (pc' := 284) (l' := [some (2, x0)]) (st' := []) (M' := (upM M194 x0 39 r195)) hX [(.putfield 100, 12, 39, 2)] (by decide +kernel) rfl (And.intro g196 trivial) ?_
  generalize upM M194 x0 39 r195 = M197 at h ⊢
  have h := zlt h
  refine zG.blk (pc' := 288) (l' := [some (2, x0)]) (st' := [(0, 1700), (2, x0)]) (M' := M197) hX [(.aload_n 0, 0, 0, 0), (.sipush 1700, 0, 0, 0)] (by decide +kernel) rfl trivial ?_
  obtain ⟨g198, h⟩ := zif h
  refine zG.newarray (at_ := .int) (t := 0) (N := 1700) hX (by simp) sa_int (by decide +kernel) g198 (by decide) (Nat.le_of_ble_eq_true rfl) (by rw [hRm]; exact ⟨Nat.le_of_ble_eq_true rfl, Nat.le_of_ble_eq_true rfl⟩) ?_
  show zG C E 1 (zNewS S193 100 1700) 30 6902 _ 290 [some (2, x0)] [(2, (S193.2.2 + 1)), (2, x0)] (zNewM S193 M197)
  generalize S193.2.2 + 1 = r201 at h ⊢
  have h := zlt h
  generalize zNewM S193 M197 = M200 at h ⊢
  have h := zlt h
  generalize zNewS S193 100 1700 = S199 at h ⊢
  have h := zlt h
  obtain ⟨g202, h⟩ := zif h
  refine zG.blk (pc' := 293) (l' := [some (2, x0)]) (st' := []) (M' := (upM M200 x0 40 r201)) hX [(.putfield 103, 12, 40, 2)] (by decide +kernel) rfl (And.intro g202 trivial) ?_
  generalize upM M200 x0 40 r201 = M203 at h ⊢
  have h := zlt h
  exact (pX12_init_293_ok hX hRm h)
noncomputable def pX12_init_258 (S : ZS) (M : ZM) (x0 : Int) : Option (ZS × ZM) := if S.2.2 < 2000000000 then zlet (S.2.2 + 1) fun r183 => zlet (zNewM S M) fun M182 => zlet (zNewS S 100 402) fun S181 => if S181.1 x0 = 12 then zlet (upM M182 x0 37 r183) fun M185 => if S181.2.2 < 2000000000 then zlet (S181.2.2 + 1) fun r189 => zlet (zNewM S181 M185) fun M188 => zlet (zNewS S181 101 12) fun S187 => if S187.1 x0 = 12 then zlet (upM M188 x0 38 r189) fun M191 => pX12_init_275 S187 M191 x0 else none else none else none else none
set_option maxHeartbeats 2000000 in
set_option maxRecDepth 20000 in
theorem pX12_init_258_ok {C : ZC} {E : ZE} {q : (ZS × ZM)} (hX : zCx C E 12 cX12_init 1 none true) (hRm : czR C = { frames := 1, cells := 38, slots := 20012, locals := 40 }) {S : ZS} {M : ZM} {x0 : Int} (h : pX12_init_258 S M x0 = some q) : zG C E 1 S 26 4488 (zQ C E 38 20012 none q.1 q.2) 258 [some (2, x0)] [] M := by
  unfold pX12_init_258 at h
  refine zG.blk (pc' := 262) (l' := [some (2, x0)]) (st' := [(0, 402), (2, x0)]) (M' := M) hX [(.aload_n 0, 0, 0, 0), (.sipush 402, 0, 0, 0)] (by decide +kernel) rfl trivial ?_
  obtain ⟨g180, h⟩ := zif h
  refine zG.newarray (at_ := .int) (t := 0) (N := 402) hX (by simp) sa_int (by decide +kernel) g180 (by decide) (Nat.le_of_ble_eq_true rfl) (by rw [hRm]; exact ⟨Nat.le_of_ble_eq_true rfl, Nat.le_of_ble_eq_true rfl⟩) ?_
  show zG C E 1 (zNewS S 100 402) 27 4890 _ 264 [some (2, x0)] [(2, (S.2.2 + 1)), (2, x0)] (zNewM S M)
  generalize S.2.2 + 1 = r183 at h ⊢
  have h := zlt h
  generalize zNewM S M = M182 at h ⊢
  have h := zlt h
  generalize zNewS S 100 402 = S181 at h ⊢
  have h := zlt h
  obtain ⟨g184, h⟩ := zif h
  refine zG.blk (pc' := 267) (l' := [some (2, x0)]) (st' := []) (M' := (upM M182 x0 37 r183)) hX [(.putfield 93, 12, 37, 2)] (by decide +kernel) rfl (And.intro g184 trivial) ?_
  generalize upM M182 x0 37 r183 = M185 at h ⊢
  have h := zlt h
  refine zG.blk (pc' := 270) (l' := [some (2, x0)]) (st' := [(0, 12), (2, x0)]) (M' := M185) hX [(.aload_n 0, 0, 0, 0), (.bipush 12, 0, 0, 0)] (by decide +kernel) rfl trivial ?_
  obtain ⟨g186, h⟩ := zif h
  refine zG.newarray (at_ := .long) (t := 1) (N := 12) hX (by simp) sa_long (by decide +kernel) g186 (by decide) (Nat.le_of_ble_eq_true rfl) (by rw [hRm]; exact ⟨Nat.le_of_ble_eq_true rfl, Nat.le_of_ble_eq_true rfl⟩) ?_
  show zG C E 1 (zNewS S181 101 12) 28 4902 _ 272 [some (2, x0)] [(2, (S181.2.2 + 1)), (2, x0)] (zNewM S181 M185)
  generalize S181.2.2 + 1 = r189 at h ⊢
  have h := zlt h
  generalize zNewM S181 M185 = M188 at h ⊢
  have h := zlt h
  generalize zNewS S181 101 12 = S187 at h ⊢
  have h := zlt h
  obtain ⟨g190, h⟩ := zif h
  refine zG.blk (pc' := 275) (l' := [some (2, x0)]) (st' := []) (M' := (upM M188 x0 38 r189)) hX [(.putfield 96, 12, 38, 2)] (by decide +kernel) rfl (And.intro g190 trivial) ?_
  generalize upM M188 x0 38 r189 = M191 at h ⊢
  have h := zlt h
  exact (pX12_init_275_ok hX hRm h)
noncomputable def pX12_init_242 (S : ZS) (M : ZM) (x0 : Int) : Option (ZS × ZM) := if S.2.2 < 2000000000 then zlet (S.2.2 + 1) fun r171 => zlet (zNewM S M) fun M170 => zlet (zNewS S 100 72) fun S169 => if S169.1 x0 = 12 then zlet (upM M170 x0 35 r171) fun M173 => if S169.2.2 < 2000000000 then zlet (S169.2.2 + 1) fun r177 => zlet (zNewM S169 M173) fun M176 => zlet (zNewS S169 100 72) fun S175 => if S175.1 x0 = 12 then zlet (upM M176 x0 36 r177) fun M179 => pX12_init_258 S175 M179 x0 else none else none else none else none
set_option maxHeartbeats 2000000 in
set_option maxRecDepth 20000 in
theorem pX12_init_242_ok {C : ZC} {E : ZE} {q : (ZS × ZM)} (hX : zCx C E 12 cX12_init 1 none true) (hRm : czR C = { frames := 1, cells := 38, slots := 20012, locals := 40 }) {S : ZS} {M : ZM} {x0 : Int} (h : pX12_init_242 S M x0 = some q) : zG C E 1 S 24 4344 (zQ C E 38 20012 none q.1 q.2) 242 [some (2, x0)] [] M := by
  unfold pX12_init_242 at h
  refine zG.blk (pc' := 245) (l' := [some (2, x0)]) (st' := [(0, 72), (2, x0)]) (M' := M) hX [(.aload_n 0, 0, 0, 0), (.bipush 72, 0, 0, 0)] (by decide +kernel) rfl trivial ?_
  obtain ⟨g168, h⟩ := zif h
  refine zG.newarray (at_ := .int) (t := 0) (N := 72) hX (by simp) sa_int (by decide +kernel) g168 (by decide) (Nat.le_of_ble_eq_true rfl) (by rw [hRm]; exact ⟨Nat.le_of_ble_eq_true rfl, Nat.le_of_ble_eq_true rfl⟩) ?_
  show zG C E 1 (zNewS S 100 72) 25 4416 _ 247 [some (2, x0)] [(2, (S.2.2 + 1)), (2, x0)] (zNewM S M)
  generalize S.2.2 + 1 = r171 at h ⊢
  have h := zlt h
  generalize zNewM S M = M170 at h ⊢
  have h := zlt h
  generalize zNewS S 100 72 = S169 at h ⊢
  have h := zlt h
  obtain ⟨g172, h⟩ := zif h
  refine zG.blk (pc' := 250) (l' := [some (2, x0)]) (st' := []) (M' := (upM M170 x0 35 r171)) hX [(.putfield 87, 12, 35, 2)] (by decide +kernel) rfl (And.intro g172 trivial) ?_
  generalize upM M170 x0 35 r171 = M173 at h ⊢
  have h := zlt h
  refine zG.blk (pc' := 253) (l' := [some (2, x0)]) (st' := [(0, 72), (2, x0)]) (M' := M173) hX [(.aload_n 0, 0, 0, 0), (.bipush 72, 0, 0, 0)] (by decide +kernel) rfl trivial ?_
  obtain ⟨g174, h⟩ := zif h
  refine zG.newarray (at_ := .int) (t := 0) (N := 72) hX (by simp) sa_int (by decide +kernel) g174 (by decide) (Nat.le_of_ble_eq_true rfl) (by rw [hRm]; exact ⟨Nat.le_of_ble_eq_true rfl, Nat.le_of_ble_eq_true rfl⟩) ?_
  show zG C E 1 (zNewS S169 100 72) 26 4488 _ 255 [some (2, x0)] [(2, (S169.2.2 + 1)), (2, x0)] (zNewM S169 M173)
  generalize S169.2.2 + 1 = r177 at h ⊢
  have h := zlt h
  generalize zNewM S169 M173 = M176 at h ⊢
  have h := zlt h
  generalize zNewS S169 100 72 = S175 at h ⊢
  have h := zlt h
  obtain ⟨g178, h⟩ := zif h
  refine zG.blk (pc' := 258) (l' := [some (2, x0)]) (st' := []) (M' := (upM M176 x0 36 r177)) hX [(.putfield 90, 12, 36, 2)] (by decide +kernel) rfl (And.intro g178 trivial) ?_
  generalize upM M176 x0 36 r177 = M179 at h ⊢
  have h := zlt h
  exact (pX12_init_258_ok hX hRm h)
noncomputable def pX12_init_226 (S : ZS) (M : ZM) (x0 : Int) : Option (ZS × ZM) := if S.2.2 < 2000000000 then zlet (S.2.2 + 1) fun r159 => zlet (zNewM S M) fun M158 => zlet (zNewS S 100 6) fun S157 => if S157.1 x0 = 12 then zlet (upM M158 x0 33 r159) fun M161 => if S157.2.2 < 2000000000 then zlet (S157.2.2 + 1) fun r165 => zlet (zNewM S157 M161) fun M164 => zlet (zNewS S157 100 72) fun S163 => if S163.1 x0 = 12 then zlet (upM M164 x0 34 r165) fun M167 => pX12_init_242 S163 M167 x0 else none else none else none else none
set_option maxHeartbeats 2000000 in
set_option maxRecDepth 20000 in
theorem pX12_init_226_ok {C : ZC} {E : ZE} {q : (ZS × ZM)} (hX : zCx C E 12 cX12_init 1 none true) (hRm : czR C = { frames := 1, cells := 38, slots := 20012, locals := 40 }) {S : ZS} {M : ZM} {x0 : Int} (h : pX12_init_226 S M x0 = some q) : zG C E 1 S 22 4266 (zQ C E 38 20012 none q.1 q.2) 226 [some (2, x0)] [] M := by
  unfold pX12_init_226 at h
  refine zG.blk (pc' := 229) (l' := [some (2, x0)]) (st' := [(0, 6), (2, x0)]) (M' := M) hX [(.aload_n 0, 0, 0, 0), (.bipush 6, 0, 0, 0)] (by decide +kernel) rfl trivial ?_
  obtain ⟨g156, h⟩ := zif h
  refine zG.newarray (at_ := .int) (t := 0) (N := 6) hX (by simp) sa_int (by decide +kernel) g156 (by decide) (Nat.le_of_ble_eq_true rfl) (by rw [hRm]; exact ⟨Nat.le_of_ble_eq_true rfl, Nat.le_of_ble_eq_true rfl⟩) ?_
  show zG C E 1 (zNewS S 100 6) 23 4272 _ 231 [some (2, x0)] [(2, (S.2.2 + 1)), (2, x0)] (zNewM S M)
  generalize S.2.2 + 1 = r159 at h ⊢
  have h := zlt h
  generalize zNewM S M = M158 at h ⊢
  have h := zlt h
  generalize zNewS S 100 6 = S157 at h ⊢
  have h := zlt h
  obtain ⟨g160, h⟩ := zif h
  refine zG.blk (pc' := 234) (l' := [some (2, x0)]) (st' := []) (M' := (upM M158 x0 33 r159)) hX [(.putfield 81, 12, 33, 2)] (by decide +kernel) rfl (And.intro g160 trivial) ?_
  generalize upM M158 x0 33 r159 = M161 at h ⊢
  have h := zlt h
  refine zG.blk (pc' := 237) (l' := [some (2, x0)]) (st' := [(0, 72), (2, x0)]) (M' := M161) hX [(.aload_n 0, 0, 0, 0), (.bipush 72, 0, 0, 0)] (by decide +kernel) rfl trivial ?_
  obtain ⟨g162, h⟩ := zif h
  refine zG.newarray (at_ := .int) (t := 0) (N := 72) hX (by simp) sa_int (by decide +kernel) g162 (by decide) (Nat.le_of_ble_eq_true rfl) (by rw [hRm]; exact ⟨Nat.le_of_ble_eq_true rfl, Nat.le_of_ble_eq_true rfl⟩) ?_
  show zG C E 1 (zNewS S157 100 72) 24 4344 _ 239 [some (2, x0)] [(2, (S157.2.2 + 1)), (2, x0)] (zNewM S157 M161)
  generalize S157.2.2 + 1 = r165 at h ⊢
  have h := zlt h
  generalize zNewM S157 M161 = M164 at h ⊢
  have h := zlt h
  generalize zNewS S157 100 72 = S163 at h ⊢
  have h := zlt h
  obtain ⟨g166, h⟩ := zif h
  refine zG.blk (pc' := 242) (l' := [some (2, x0)]) (st' := []) (M' := (upM M164 x0 34 r165)) hX [(.putfield 84, 12, 34, 2)] (by decide +kernel) rfl (And.intro g166 trivial) ?_
  generalize upM M164 x0 34 r165 = M167 at h ⊢
  have h := zlt h
  exact (pX12_init_242_ok hX hRm h)
noncomputable def pX12_init_208 (S : ZS) (M : ZM) (x0 : Int) : Option (ZS × ZM) := if S.2.2 < 2000000000 then zlet (S.2.2 + 1) fun r147 => zlet (zNewM S M) fun M146 => zlet (zNewS S 100 1800) fun S145 => if S145.1 x0 = 12 then zlet (upM M146 x0 31 r147) fun M149 => if S145.2.2 < 2000000000 then zlet (S145.2.2 + 1) fun r153 => zlet (zNewM S145 M149) fun M152 => zlet (zNewS S145 100 1800) fun S151 => if S151.1 x0 = 12 then zlet (upM M152 x0 32 r153) fun M155 => pX12_init_226 S151 M155 x0 else none else none else none else none
set_option maxHeartbeats 2000000 in
set_option maxRecDepth 20000 in
theorem pX12_init_208_ok {C : ZC} {E : ZE} {q : (ZS × ZM)} (hX : zCx C E 12 cX12_init 1 none true) (hRm : czR C = { frames := 1, cells := 38, slots := 20012, locals := 40 }) {S : ZS} {M : ZM} {x0 : Int} (h : pX12_init_208 S M x0 = some q) : zG C E 1 S 20 666 (zQ C E 38 20012 none q.1 q.2) 208 [some (2, x0)] [] M := by
  unfold pX12_init_208 at h
  refine zG.blk (pc' := 212) (l' := [some (2, x0)]) (st' := [(0, 1800), (2, x0)]) (M' := M) hX [(.aload_n 0, 0, 0, 0), (.sipush 1800, 0, 0, 0)] (by decide +kernel) rfl trivial ?_
  obtain ⟨g144, h⟩ := zif h
  refine zG.newarray (at_ := .int) (t := 0) (N := 1800) hX (by simp) sa_int (by decide +kernel) g144 (by decide) (Nat.le_of_ble_eq_true rfl) (by rw [hRm]; exact ⟨Nat.le_of_ble_eq_true rfl, Nat.le_of_ble_eq_true rfl⟩) ?_
  show zG C E 1 (zNewS S 100 1800) 21 2466 _ 214 [some (2, x0)] [(2, (S.2.2 + 1)), (2, x0)] (zNewM S M)
  generalize S.2.2 + 1 = r147 at h ⊢
  have h := zlt h
  generalize zNewM S M = M146 at h ⊢
  have h := zlt h
  generalize zNewS S 100 1800 = S145 at h ⊢
  have h := zlt h
  obtain ⟨g148, h⟩ := zif h
  refine zG.blk (pc' := 217) (l' := [some (2, x0)]) (st' := []) (M' := (upM M146 x0 31 r147)) hX [(.putfield 75, 12, 31, 2)] (by decide +kernel) rfl (And.intro g148 trivial) ?_
  generalize upM M146 x0 31 r147 = M149 at h ⊢
  have h := zlt h
  refine zG.blk (pc' := 221) (l' := [some (2, x0)]) (st' := [(0, 1800), (2, x0)]) (M' := M149) hX [(.aload_n 0, 0, 0, 0), (.sipush 1800, 0, 0, 0)] (by decide +kernel) rfl trivial ?_
  obtain ⟨g150, h⟩ := zif h
  refine zG.newarray (at_ := .int) (t := 0) (N := 1800) hX (by simp) sa_int (by decide +kernel) g150 (by decide) (Nat.le_of_ble_eq_true rfl) (by rw [hRm]; exact ⟨Nat.le_of_ble_eq_true rfl, Nat.le_of_ble_eq_true rfl⟩) ?_
  show zG C E 1 (zNewS S145 100 1800) 22 4266 _ 223 [some (2, x0)] [(2, (S145.2.2 + 1)), (2, x0)] (zNewM S145 M149)
  generalize S145.2.2 + 1 = r153 at h ⊢
  have h := zlt h
  generalize zNewM S145 M149 = M152 at h ⊢
  have h := zlt h
  generalize zNewS S145 100 1800 = S151 at h ⊢
  have h := zlt h
  obtain ⟨g154, h⟩ := zif h
  refine zG.blk (pc' := 226) (l' := [some (2, x0)]) (st' := []) (M' := (upM M152 x0 32 r153)) hX [(.putfield 78, 12, 32, 2)] (by decide +kernel) rfl (And.intro g154 trivial) ?_
  generalize upM M152 x0 32 r153 = M155 at h ⊢
  have h := zlt h
  exact (pX12_init_226_ok hX hRm h)
noncomputable def pX12_init_193 (S : ZS) (M : ZM) (x0 : Int) : Option (ZS × ZM) := if S.1 x0 = 12 then zlet (upM M x0 29 12) fun M137 => if S.2.2 < 2000000000 then zlet (S.2.2 + 1) fun r141 => zlet (zNewM S M137) fun M140 => zlet (zNewS S 102 400) fun S139 => if S139.1 x0 = 12 then zlet (upM M140 x0 30 r141) fun M143 => pX12_init_208 S139 M143 x0 else none else none else none
set_option maxHeartbeats 2000000 in
set_option maxRecDepth 20000 in
theorem pX12_init_193_ok {C : ZC} {E : ZE} {q : (ZS × ZM)} (hX : zCx C E 12 cX12_init 1 none true) (hRm : czR C = { frames := 1, cells := 38, slots := 20012, locals := 40 }) {S : ZS} {M : ZM} {x0 : Int} (h : pX12_init_193 S M x0 = some q) : zG C E 1 S 19 266 (zQ C E 38 20012 none q.1 q.2) 193 [some (2, x0)] [] M := by
  unfold pX12_init_193 at h
  obtain ⟨g136, h⟩ := zif h
  refine zG.blk (pc' := 199) (l' := [some (2, x0)]) (st' := []) (M' := (upM M x0 29 12)) hX [(.aload_n 0, 0, 0, 0), (.bipush 12, 0, 0, 0), (.putfield 67, 12, 29, 0)] (by decide +kernel) rfl (And.intro g136 trivial) ?_
  generalize upM M x0 29 12 = M137 at h ⊢
  have h := zlt h
  refine zG.blk (pc' := 203) (l' := [some (2, x0)]) (st' := [(0, 400), (2, x0)]) (M' := M137) hX [(.aload_n 0, 0, 0, 0), (.sipush 400, 0, 0, 0)] (by decide +kernel) rfl trivial ?_
  obtain ⟨g138, h⟩ := zif h
  refine zG.newarray (at_ := .byte) (t := 2) (N := 400) hX (by simp) sa_byte (by decide +kernel) g138 (by decide) (Nat.le_of_ble_eq_true rfl) (by rw [hRm]; exact ⟨Nat.le_of_ble_eq_true rfl, Nat.le_of_ble_eq_true rfl⟩) ?_
  show zG C E 1 (zNewS S 102 400) 20 666 _ 205 [some (2, x0)] [(2, (S.2.2 + 1)), (2, x0)] (zNewM S M137)
  generalize S.2.2 + 1 = r141 at h ⊢
  have h := zlt h
  generalize zNewM S M137 = M140 at h ⊢
  have h := zlt h
  generalize zNewS S 102 400 = S139 at h ⊢
  have h := zlt h
  obtain ⟨g142, h⟩ := zif h
  refine zG.blk (pc' := 208) (l' := [some (2, x0)]) (st' := []) (M' := (upM M140 x0 30 r141)) hX [(.putfield 71, 12, 30, 2)] (by decide +kernel) rfl (And.intro g142 trivial) ?_
  generalize upM M140 x0 30 r141 = M143 at h ⊢
  have h := zlt h
  exact (pX12_init_208_ok hX hRm h)
noncomputable def pX12_init_177 (S : ZS) (M : ZM) (x0 : Int) : Option (ZS × ZM) := if S.2.2 < 2000000000 then zlet (S.2.2 + 1) fun r127 => zlet (zNewM S M) fun M126 => zlet (zNewS S 100 12) fun S125 => if S125.1 x0 = 12 then zlet (upM M126 x0 18 r127) fun M129 => if S125.2.2 < 2000000000 then zlet (S125.2.2 + 1) fun r133 => zlet (zNewM S125 M129) fun M132 => zlet (zNewS S125 100 36) fun S131 => if S131.1 x0 = 12 then zlet (upM M132 x0 19 r133) fun M135 => pX12_init_193 S131 M135 x0 else none else none else none else none
set_option maxHeartbeats 2000000 in
set_option maxRecDepth 20000 in
theorem pX12_init_177_ok {C : ZC} {E : ZE} {q : (ZS × ZM)} (hX : zCx C E 12 cX12_init 1 none true) (hRm : czR C = { frames := 1, cells := 38, slots := 20012, locals := 40 }) {S : ZS} {M : ZM} {x0 : Int} (h : pX12_init_177 S M x0 = some q) : zG C E 1 S 17 218 (zQ C E 38 20012 none q.1 q.2) 177 [some (2, x0)] [] M := by
  unfold pX12_init_177 at h
  refine zG.blk (pc' := 180) (l' := [some (2, x0)]) (st' := [(0, 12), (2, x0)]) (M' := M) hX [(.aload_n 0, 0, 0, 0), (.bipush 12, 0, 0, 0)] (by decide +kernel) rfl trivial ?_
  obtain ⟨g124, h⟩ := zif h
  refine zG.newarray (at_ := .int) (t := 0) (N := 12) hX (by simp) sa_int (by decide +kernel) g124 (by decide) (Nat.le_of_ble_eq_true rfl) (by rw [hRm]; exact ⟨Nat.le_of_ble_eq_true rfl, Nat.le_of_ble_eq_true rfl⟩) ?_
  show zG C E 1 (zNewS S 100 12) 18 230 _ 182 [some (2, x0)] [(2, (S.2.2 + 1)), (2, x0)] (zNewM S M)
  generalize S.2.2 + 1 = r127 at h ⊢
  have h := zlt h
  generalize zNewM S M = M126 at h ⊢
  have h := zlt h
  generalize zNewS S 100 12 = S125 at h ⊢
  have h := zlt h
  obtain ⟨g128, h⟩ := zif h
  refine zG.blk (pc' := 185) (l' := [some (2, x0)]) (st' := []) (M' := (upM M126 x0 18 r127)) hX [(.putfield 61, 12, 18, 2)] (by decide +kernel) rfl (And.intro g128 trivial) ?_
  generalize upM M126 x0 18 r127 = M129 at h ⊢
  have h := zlt h
  refine zG.blk (pc' := 188) (l' := [some (2, x0)]) (st' := [(0, 36), (2, x0)]) (M' := M129) hX [(.aload_n 0, 0, 0, 0), (.bipush 36, 0, 0, 0)] (by decide +kernel) rfl trivial ?_
  obtain ⟨g130, h⟩ := zif h
  refine zG.newarray (at_ := .int) (t := 0) (N := 36) hX (by simp) sa_int (by decide +kernel) g130 (by decide) (Nat.le_of_ble_eq_true rfl) (by rw [hRm]; exact ⟨Nat.le_of_ble_eq_true rfl, Nat.le_of_ble_eq_true rfl⟩) ?_
  show zG C E 1 (zNewS S125 100 36) 19 266 _ 190 [some (2, x0)] [(2, (S125.2.2 + 1)), (2, x0)] (zNewM S125 M129)
  generalize S125.2.2 + 1 = r133 at h ⊢
  have h := zlt h
  generalize zNewM S125 M129 = M132 at h ⊢
  have h := zlt h
  generalize zNewS S125 100 36 = S131 at h ⊢
  have h := zlt h
  obtain ⟨g134, h⟩ := zif h
  refine zG.blk (pc' := 193) (l' := [some (2, x0)]) (st' := []) (M' := (upM M132 x0 19 r133)) hX [(.putfield 64, 12, 19, 2)] (by decide +kernel) rfl (And.intro g134 trivial) ?_
  generalize upM M132 x0 19 r133 = M135 at h ⊢
  have h := zlt h
  exact (pX12_init_193_ok hX hRm h)
noncomputable def pX12_init_162 (S : ZS) (M : ZM) (x0 : Int) : Option (ZS × ZM) := if S.2.2 < 2000000000 then zlet (S.2.2 + 1) fun r115 => zlet (zNewM S M) fun M114 => zlet (zNewS S 100 5) fun S113 => if S113.1 x0 = 12 then zlet (upM M114 x0 16 r115) fun M117 => if S113.2.2 < 2000000000 then zlet (S113.2.2 + 1) fun r121 => zlet (zNewM S113 M117) fun M120 => zlet (zNewS S113 100 12) fun S119 => if S119.1 x0 = 12 then zlet (upM M120 x0 17 r121) fun M123 => pX12_init_177 S119 M123 x0 else none else none else none else none
set_option maxHeartbeats 2000000 in
set_option maxRecDepth 20000 in
theorem pX12_init_162_ok {C : ZC} {E : ZE} {q : (ZS × ZM)} (hX : zCx C E 12 cX12_init 1 none true) (hRm : czR C = { frames := 1, cells := 38, slots := 20012, locals := 40 }) {S : ZS} {M : ZM} {x0 : Int} (h : pX12_init_162 S M x0 = some q) : zG C E 1 S 15 201 (zQ C E 38 20012 none q.1 q.2) 162 [some (2, x0)] [] M := by
  unfold pX12_init_162 at h
  refine zG.blk (pc' := 164) (l' := [some (2, x0)]) (st' := [(0, 5), (2, x0)]) (M' := M) hX [(.aload_n 0, 0, 0, 0), (.iconst 5, 0, 0, 0)] (by decide +kernel) rfl trivial ?_
  obtain ⟨g112, h⟩ := zif h
  refine zG.newarray (at_ := .int) (t := 0) (N := 5) hX (by simp) sa_int (by decide +kernel) g112 (by decide) (Nat.le_of_ble_eq_true rfl) (by rw [hRm]; exact ⟨Nat.le_of_ble_eq_true rfl, Nat.le_of_ble_eq_true rfl⟩) ?_
  show zG C E 1 (zNewS S 100 5) 16 206 _ 166 [some (2, x0)] [(2, (S.2.2 + 1)), (2, x0)] (zNewM S M)
  generalize S.2.2 + 1 = r115 at h ⊢
  have h := zlt h
  generalize zNewM S M = M114 at h ⊢
  have h := zlt h
  generalize zNewS S 100 5 = S113 at h ⊢
  have h := zlt h
  obtain ⟨g116, h⟩ := zif h
  refine zG.blk (pc' := 169) (l' := [some (2, x0)]) (st' := []) (M' := (upM M114 x0 16 r115)) hX [(.putfield 55, 12, 16, 2)] (by decide +kernel) rfl (And.intro g116 trivial) ?_
  generalize upM M114 x0 16 r115 = M117 at h ⊢
  have h := zlt h
  refine zG.blk (pc' := 172) (l' := [some (2, x0)]) (st' := [(0, 12), (2, x0)]) (M' := M117) hX [(.aload_n 0, 0, 0, 0), (.bipush 12, 0, 0, 0)] (by decide +kernel) rfl trivial ?_
  obtain ⟨g118, h⟩ := zif h
  refine zG.newarray (at_ := .int) (t := 0) (N := 12) hX (by simp) sa_int (by decide +kernel) g118 (by decide) (Nat.le_of_ble_eq_true rfl) (by rw [hRm]; exact ⟨Nat.le_of_ble_eq_true rfl, Nat.le_of_ble_eq_true rfl⟩) ?_
  show zG C E 1 (zNewS S113 100 12) 17 218 _ 174 [some (2, x0)] [(2, (S113.2.2 + 1)), (2, x0)] (zNewM S113 M117)
  generalize S113.2.2 + 1 = r121 at h ⊢
  have h := zlt h
  generalize zNewM S113 M117 = M120 at h ⊢
  have h := zlt h
  generalize zNewS S113 100 12 = S119 at h ⊢
  have h := zlt h
  obtain ⟨g122, h⟩ := zif h
  refine zG.blk (pc' := 177) (l' := [some (2, x0)]) (st' := []) (M' := (upM M120 x0 17 r121)) hX [(.putfield 58, 12, 17, 2)] (by decide +kernel) rfl (And.intro g122 trivial) ?_
  generalize upM M120 x0 17 r121 = M123 at h ⊢
  have h := zlt h
  exact (pX12_init_177_ok hX hRm h)
noncomputable def pX12_init_148 (S : ZS) (M : ZM) (x0 : Int) : Option (ZS × ZM) := if S.2.2 < 2000000000 then zlet (S.2.2 + 1) fun r103 => zlet (zNewM S M) fun M102 => zlet (zNewS S 100 4) fun S101 => if S101.1 x0 = 12 then zlet (upM M102 x0 14 r103) fun M105 => if S101.2.2 < 2000000000 then zlet (S101.2.2 + 1) fun r109 => zlet (zNewM S101 M105) fun M108 => zlet (zNewS S101 100 5) fun S107 => if S107.1 x0 = 12 then zlet (upM M108 x0 15 r109) fun M111 => pX12_init_162 S107 M111 x0 else none else none else none else none
set_option maxHeartbeats 2000000 in
set_option maxRecDepth 20000 in
theorem pX12_init_148_ok {C : ZC} {E : ZE} {q : (ZS × ZM)} (hX : zCx C E 12 cX12_init 1 none true) (hRm : czR C = { frames := 1, cells := 38, slots := 20012, locals := 40 }) {S : ZS} {M : ZM} {x0 : Int} (h : pX12_init_148 S M x0 = some q) : zG C E 1 S 13 192 (zQ C E 38 20012 none q.1 q.2) 148 [some (2, x0)] [] M := by
  unfold pX12_init_148 at h
  refine zG.blk (pc' := 150) (l' := [some (2, x0)]) (st' := [(0, 4), (2, x0)]) (M' := M) hX [(.aload_n 0, 0, 0, 0), (.iconst 4, 0, 0, 0)] (by decide +kernel) rfl trivial ?_
  obtain ⟨g100, h⟩ := zif h
  refine zG.newarray (at_ := .int) (t := 0) (N := 4) hX (by simp) sa_int (by decide +kernel) g100 (by decide) (Nat.le_of_ble_eq_true rfl) (by rw [hRm]; exact ⟨Nat.le_of_ble_eq_true rfl, Nat.le_of_ble_eq_true rfl⟩) ?_
  show zG C E 1 (zNewS S 100 4) 14 196 _ 152 [some (2, x0)] [(2, (S.2.2 + 1)), (2, x0)] (zNewM S M)
  generalize S.2.2 + 1 = r103 at h ⊢
  have h := zlt h
  generalize zNewM S M = M102 at h ⊢
  have h := zlt h
  generalize zNewS S 100 4 = S101 at h ⊢
  have h := zlt h
  obtain ⟨g104, h⟩ := zif h
  refine zG.blk (pc' := 155) (l' := [some (2, x0)]) (st' := []) (M' := (upM M102 x0 14 r103)) hX [(.putfield 49, 12, 14, 2)] (by decide +kernel) rfl (And.intro g104 trivial) ?_
  generalize upM M102 x0 14 r103 = M105 at h ⊢
  have h := zlt h
  refine zG.blk (pc' := 157) (l' := [some (2, x0)]) (st' := [(0, 5), (2, x0)]) (M' := M105) hX [(.aload_n 0, 0, 0, 0), (.iconst 5, 0, 0, 0)] (by decide +kernel) rfl trivial ?_
  obtain ⟨g106, h⟩ := zif h
  refine zG.newarray (at_ := .int) (t := 0) (N := 5) hX (by simp) sa_int (by decide +kernel) g106 (by decide) (Nat.le_of_ble_eq_true rfl) (by rw [hRm]; exact ⟨Nat.le_of_ble_eq_true rfl, Nat.le_of_ble_eq_true rfl⟩) ?_
  show zG C E 1 (zNewS S101 100 5) 15 201 _ 159 [some (2, x0)] [(2, (S101.2.2 + 1)), (2, x0)] (zNewM S101 M105)
  generalize S101.2.2 + 1 = r109 at h ⊢
  have h := zlt h
  generalize zNewM S101 M105 = M108 at h ⊢
  have h := zlt h
  generalize zNewS S101 100 5 = S107 at h ⊢
  have h := zlt h
  obtain ⟨g110, h⟩ := zif h
  refine zG.blk (pc' := 162) (l' := [some (2, x0)]) (st' := []) (M' := (upM M108 x0 15 r109)) hX [(.putfield 52, 12, 15, 2)] (by decide +kernel) rfl (And.intro g110 trivial) ?_
  generalize upM M108 x0 15 r109 = M111 at h ⊢
  have h := zlt h
  exact (pX12_init_162_ok hX hRm h)
noncomputable def pX12_init_134 (S : ZS) (M : ZM) (x0 : Int) : Option (ZS × ZM) := if S.2.2 < 2000000000 then zlet (S.2.2 + 1) fun r91 => zlet (zNewM S M) fun M90 => zlet (zNewS S 100 5) fun S89 => if S89.1 x0 = 12 then zlet (upM M90 x0 12 r91) fun M93 => if S89.2.2 < 2000000000 then zlet (S89.2.2 + 1) fun r97 => zlet (zNewM S89 M93) fun M96 => zlet (zNewS S89 100 5) fun S95 => if S95.1 x0 = 12 then zlet (upM M96 x0 13 r97) fun M99 => pX12_init_148 S95 M99 x0 else none else none else none else none
set_option maxHeartbeats 2000000 in
set_option maxRecDepth 20000 in
theorem pX12_init_134_ok {C : ZC} {E : ZE} {q : (ZS × ZM)} (hX : zCx C E 12 cX12_init 1 none true) (hRm : czR C = { frames := 1, cells := 38, slots := 20012, locals := 40 }) {S : ZS} {M : ZM} {x0 : Int} (h : pX12_init_134 S M x0 = some q) : zG C E 1 S 11 182 (zQ C E 38 20012 none q.1 q.2) 134 [some (2, x0)] [] M := by
  unfold pX12_init_134 at h
  refine zG.blk (pc' := 136) (l' := [some (2, x0)]) (st' := [(0, 5), (2, x0)]) (M' := M) hX [(.aload_n 0, 0, 0, 0), (.iconst 5, 0, 0, 0)] (by decide +kernel) rfl trivial ?_
  obtain ⟨g88, h⟩ := zif h
  refine zG.newarray (at_ := .int) (t := 0) (N := 5) hX (by simp) sa_int (by decide +kernel) g88 (by decide) (Nat.le_of_ble_eq_true rfl) (by rw [hRm]; exact ⟨Nat.le_of_ble_eq_true rfl, Nat.le_of_ble_eq_true rfl⟩) ?_
  show zG C E 1 (zNewS S 100 5) 12 187 _ 138 [some (2, x0)] [(2, (S.2.2 + 1)), (2, x0)] (zNewM S M)
  generalize S.2.2 + 1 = r91 at h ⊢
  have h := zlt h
  generalize zNewM S M = M90 at h ⊢
  have h := zlt h
  generalize zNewS S 100 5 = S89 at h ⊢
  have h := zlt h
  obtain ⟨g92, h⟩ := zif h
  refine zG.blk (pc' := 141) (l' := [some (2, x0)]) (st' := []) (M' := (upM M90 x0 12 r91)) hX [(.putfield 43, 12, 12, 2)] (by decide +kernel) rfl (And.intro g92 trivial) ?_
  generalize upM M90 x0 12 r91 = M93 at h ⊢
  have h := zlt h
  refine zG.blk (pc' := 143) (l' := [some (2, x0)]) (st' := [(0, 5), (2, x0)]) (M' := M93) hX [(.aload_n 0, 0, 0, 0), (.iconst 5, 0, 0, 0)] (by decide +kernel) rfl trivial ?_
  obtain ⟨g94, h⟩ := zif h
  refine zG.newarray (at_ := .int) (t := 0) (N := 5) hX (by simp) sa_int (by decide +kernel) g94 (by decide) (Nat.le_of_ble_eq_true rfl) (by rw [hRm]; exact ⟨Nat.le_of_ble_eq_true rfl, Nat.le_of_ble_eq_true rfl⟩) ?_
  show zG C E 1 (zNewS S89 100 5) 13 192 _ 145 [some (2, x0)] [(2, (S89.2.2 + 1)), (2, x0)] (zNewM S89 M93)
  generalize S89.2.2 + 1 = r97 at h ⊢
  have h := zlt h
  generalize zNewM S89 M93 = M96 at h ⊢
  have h := zlt h
  generalize zNewS S89 100 5 = S95 at h ⊢
  have h := zlt h
  obtain ⟨g98, h⟩ := zif h
  refine zG.blk (pc' := 148) (l' := [some (2, x0)]) (st' := []) (M' := (upM M96 x0 13 r97)) hX [(.putfield 46, 12, 13, 2)] (by decide +kernel) rfl (And.intro g98 trivial) ?_
  generalize upM M96 x0 13 r97 = M99 at h ⊢
  have h := zlt h
  exact (pX12_init_148_ok hX hRm h)
noncomputable def pX12_init_118 (S : ZS) (M : ZM) (x0 : Int) : Option (ZS × ZM) := if S.2.2 < 2000000000 then zlet (S.2.2 + 1) fun r79 => zlet (zNewM S M) fun M78 => zlet (zNewS S 100 10) fun S77 => if S77.1 x0 = 12 then zlet (upM M78 x0 10 r79) fun M81 => if S77.2.2 < 2000000000 then zlet (S77.2.2 + 1) fun r85 => zlet (zNewM S77 M81) fun M84 => zlet (zNewS S77 100 10) fun S83 => if S83.1 x0 = 12 then zlet (upM M84 x0 11 r85) fun M87 => pX12_init_134 S83 M87 x0 else none else none else none else none
set_option maxHeartbeats 2000000 in
set_option maxRecDepth 20000 in
theorem pX12_init_118_ok {C : ZC} {E : ZE} {q : (ZS × ZM)} (hX : zCx C E 12 cX12_init 1 none true) (hRm : czR C = { frames := 1, cells := 38, slots := 20012, locals := 40 }) {S : ZS} {M : ZM} {x0 : Int} (h : pX12_init_118 S M x0 = some q) : zG C E 1 S 9 162 (zQ C E 38 20012 none q.1 q.2) 118 [some (2, x0)] [] M := by
  unfold pX12_init_118 at h
  refine zG.blk (pc' := 121) (l' := [some (2, x0)]) (st' := [(0, 10), (2, x0)]) (M' := M) hX [(.aload_n 0, 0, 0, 0), (.bipush 10, 0, 0, 0)] (by decide +kernel) rfl trivial ?_
  obtain ⟨g76, h⟩ := zif h
  refine zG.newarray (at_ := .int) (t := 0) (N := 10) hX (by simp) sa_int (by decide +kernel) g76 (by decide) (Nat.le_of_ble_eq_true rfl) (by rw [hRm]; exact ⟨Nat.le_of_ble_eq_true rfl, Nat.le_of_ble_eq_true rfl⟩) ?_
  show zG C E 1 (zNewS S 100 10) 10 172 _ 123 [some (2, x0)] [(2, (S.2.2 + 1)), (2, x0)] (zNewM S M)
  generalize S.2.2 + 1 = r79 at h ⊢
  have h := zlt h
  generalize zNewM S M = M78 at h ⊢
  have h := zlt h
  generalize zNewS S 100 10 = S77 at h ⊢
  have h := zlt h
  obtain ⟨g80, h⟩ := zif h
  refine zG.blk (pc' := 126) (l' := [some (2, x0)]) (st' := []) (M' := (upM M78 x0 10 r79)) hX [(.putfield 37, 12, 10, 2)] (by decide +kernel) rfl (And.intro g80 trivial) ?_
  generalize upM M78 x0 10 r79 = M81 at h ⊢
  have h := zlt h
  refine zG.blk (pc' := 129) (l' := [some (2, x0)]) (st' := [(0, 10), (2, x0)]) (M' := M81) hX [(.aload_n 0, 0, 0, 0), (.bipush 10, 0, 0, 0)] (by decide +kernel) rfl trivial ?_
  obtain ⟨g82, h⟩ := zif h
  refine zG.newarray (at_ := .int) (t := 0) (N := 10) hX (by simp) sa_int (by decide +kernel) g82 (by decide) (Nat.le_of_ble_eq_true rfl) (by rw [hRm]; exact ⟨Nat.le_of_ble_eq_true rfl, Nat.le_of_ble_eq_true rfl⟩) ?_
  show zG C E 1 (zNewS S77 100 10) 11 182 _ 131 [some (2, x0)] [(2, (S77.2.2 + 1)), (2, x0)] (zNewM S77 M81)
  generalize S77.2.2 + 1 = r85 at h ⊢
  have h := zlt h
  generalize zNewM S77 M81 = M84 at h ⊢
  have h := zlt h
  generalize zNewS S77 100 10 = S83 at h ⊢
  have h := zlt h
  obtain ⟨g86, h⟩ := zif h
  refine zG.blk (pc' := 134) (l' := [some (2, x0)]) (st' := []) (M' := (upM M84 x0 11 r85)) hX [(.putfield 40, 12, 11, 2)] (by decide +kernel) rfl (And.intro g86 trivial) ?_
  generalize upM M84 x0 11 r85 = M87 at h ⊢
  have h := zlt h
  exact (pX12_init_134_ok hX hRm h)
noncomputable def pX12_init_102 (S : ZS) (M : ZM) (x0 : Int) : Option (ZS × ZM) := if S.2.2 < 2000000000 then zlet (S.2.2 + 1) fun r67 => zlet (zNewM S M) fun M66 => zlet (zNewS S 100 36) fun S65 => if S65.1 x0 = 12 then zlet (upM M66 x0 8 r67) fun M69 => if S65.2.2 < 2000000000 then zlet (S65.2.2 + 1) fun r73 => zlet (zNewM S65 M69) fun M72 => zlet (zNewS S65 100 10) fun S71 => if S71.1 x0 = 12 then zlet (upM M72 x0 9 r73) fun M75 => pX12_init_118 S71 M75 x0 else none else none else none else none
set_option maxHeartbeats 2000000 in
set_option maxRecDepth 20000 in
theorem pX12_init_102_ok {C : ZC} {E : ZE} {q : (ZS × ZM)} (hX : zCx C E 12 cX12_init 1 none true) (hRm : czR C = { frames := 1, cells := 38, slots := 20012, locals := 40 }) {S : ZS} {M : ZM} {x0 : Int} (h : pX12_init_102 S M x0 = some q) : zG C E 1 S 7 116 (zQ C E 38 20012 none q.1 q.2) 102 [some (2, x0)] [] M := by
  unfold pX12_init_102 at h
  refine zG.blk (pc' := 105) (l' := [some (2, x0)]) (st' := [(0, 36), (2, x0)]) (M' := M) hX [(.aload_n 0, 0, 0, 0), (.bipush 36, 0, 0, 0)] (by decide +kernel) rfl trivial ?_
  obtain ⟨g64, h⟩ := zif h
  refine zG.newarray (at_ := .int) (t := 0) (N := 36) hX (by simp) sa_int (by decide +kernel) g64 (by decide) (Nat.le_of_ble_eq_true rfl) (by rw [hRm]; exact ⟨Nat.le_of_ble_eq_true rfl, Nat.le_of_ble_eq_true rfl⟩) ?_
  show zG C E 1 (zNewS S 100 36) 8 152 _ 107 [some (2, x0)] [(2, (S.2.2 + 1)), (2, x0)] (zNewM S M)
  generalize S.2.2 + 1 = r67 at h ⊢
  have h := zlt h
  generalize zNewM S M = M66 at h ⊢
  have h := zlt h
  generalize zNewS S 100 36 = S65 at h ⊢
  have h := zlt h
  obtain ⟨g68, h⟩ := zif h
  refine zG.blk (pc' := 110) (l' := [some (2, x0)]) (st' := []) (M' := (upM M66 x0 8 r67)) hX [(.putfield 31, 12, 8, 2)] (by decide +kernel) rfl (And.intro g68 trivial) ?_
  generalize upM M66 x0 8 r67 = M69 at h ⊢
  have h := zlt h
  refine zG.blk (pc' := 113) (l' := [some (2, x0)]) (st' := [(0, 10), (2, x0)]) (M' := M69) hX [(.aload_n 0, 0, 0, 0), (.bipush 10, 0, 0, 0)] (by decide +kernel) rfl trivial ?_
  obtain ⟨g70, h⟩ := zif h
  refine zG.newarray (at_ := .int) (t := 0) (N := 10) hX (by simp) sa_int (by decide +kernel) g70 (by decide) (Nat.le_of_ble_eq_true rfl) (by rw [hRm]; exact ⟨Nat.le_of_ble_eq_true rfl, Nat.le_of_ble_eq_true rfl⟩) ?_
  show zG C E 1 (zNewS S65 100 10) 9 162 _ 115 [some (2, x0)] [(2, (S65.2.2 + 1)), (2, x0)] (zNewM S65 M69)
  generalize S65.2.2 + 1 = r73 at h ⊢
  have h := zlt h
  generalize zNewM S65 M69 = M72 at h ⊢
  have h := zlt h
  generalize zNewS S65 100 10 = S71 at h ⊢
  have h := zlt h
  obtain ⟨g74, h⟩ := zif h
  refine zG.blk (pc' := 118) (l' := [some (2, x0)]) (st' := []) (M' := (upM M72 x0 9 r73)) hX [(.putfield 34, 12, 9, 2)] (by decide +kernel) rfl (And.intro g74 trivial) ?_
  generalize upM M72 x0 9 r73 = M75 at h ⊢
  have h := zlt h
  exact (pX12_init_118_ok hX hRm h)
noncomputable def pX12_init_86 (S : ZS) (M : ZM) (x0 : Int) : Option (ZS × ZM) := if S.2.2 < 2000000000 then zlet (S.2.2 + 1) fun r55 => zlet (zNewM S M) fun M54 => zlet (zNewS S 100 12) fun S53 => if S53.1 x0 = 12 then zlet (upM M54 x0 6 r55) fun M57 => if S53.2.2 < 2000000000 then zlet (S53.2.2 + 1) fun r61 => zlet (zNewM S53 M57) fun M60 => zlet (zNewS S53 100 12) fun S59 => if S59.1 x0 = 12 then zlet (upM M60 x0 7 r61) fun M63 => pX12_init_102 S59 M63 x0 else none else none else none else none
set_option maxHeartbeats 2000000 in
set_option maxRecDepth 20000 in
theorem pX12_init_86_ok {C : ZC} {E : ZE} {q : (ZS × ZM)} (hX : zCx C E 12 cX12_init 1 none true) (hRm : czR C = { frames := 1, cells := 38, slots := 20012, locals := 40 }) {S : ZS} {M : ZM} {x0 : Int} (h : pX12_init_86 S M x0 = some q) : zG C E 1 S 5 92 (zQ C E 38 20012 none q.1 q.2) 86 [some (2, x0)] [] M := by
  unfold pX12_init_86 at h
  refine zG.blk (pc' := 89) (l' := [some (2, x0)]) (st' := [(0, 12), (2, x0)]) (M' := M) hX [(.aload_n 0, 0, 0, 0), (.bipush 12, 0, 0, 0)] (by decide +kernel) rfl trivial ?_
  obtain ⟨g52, h⟩ := zif h
  refine zG.newarray (at_ := .int) (t := 0) (N := 12) hX (by simp) sa_int (by decide +kernel) g52 (by decide) (Nat.le_of_ble_eq_true rfl) (by rw [hRm]; exact ⟨Nat.le_of_ble_eq_true rfl, Nat.le_of_ble_eq_true rfl⟩) ?_
  show zG C E 1 (zNewS S 100 12) 6 104 _ 91 [some (2, x0)] [(2, (S.2.2 + 1)), (2, x0)] (zNewM S M)
  generalize S.2.2 + 1 = r55 at h ⊢
  have h := zlt h
  generalize zNewM S M = M54 at h ⊢
  have h := zlt h
  generalize zNewS S 100 12 = S53 at h ⊢
  have h := zlt h
  obtain ⟨g56, h⟩ := zif h
  refine zG.blk (pc' := 94) (l' := [some (2, x0)]) (st' := []) (M' := (upM M54 x0 6 r55)) hX [(.putfield 25, 12, 6, 2)] (by decide +kernel) rfl (And.intro g56 trivial) ?_
  generalize upM M54 x0 6 r55 = M57 at h ⊢
  have h := zlt h
  refine zG.blk (pc' := 97) (l' := [some (2, x0)]) (st' := [(0, 12), (2, x0)]) (M' := M57) hX [(.aload_n 0, 0, 0, 0), (.bipush 12, 0, 0, 0)] (by decide +kernel) rfl trivial ?_
  obtain ⟨g58, h⟩ := zif h
  refine zG.newarray (at_ := .int) (t := 0) (N := 12) hX (by simp) sa_int (by decide +kernel) g58 (by decide) (Nat.le_of_ble_eq_true rfl) (by rw [hRm]; exact ⟨Nat.le_of_ble_eq_true rfl, Nat.le_of_ble_eq_true rfl⟩) ?_
  show zG C E 1 (zNewS S53 100 12) 7 116 _ 99 [some (2, x0)] [(2, (S53.2.2 + 1)), (2, x0)] (zNewM S53 M57)
  generalize S53.2.2 + 1 = r61 at h ⊢
  have h := zlt h
  generalize zNewM S53 M57 = M60 at h ⊢
  have h := zlt h
  generalize zNewS S53 100 12 = S59 at h ⊢
  have h := zlt h
  obtain ⟨g62, h⟩ := zif h
  refine zG.blk (pc' := 102) (l' := [some (2, x0)]) (st' := []) (M' := (upM M60 x0 7 r61)) hX [(.putfield 28, 12, 7, 2)] (by decide +kernel) rfl (And.intro g62 trivial) ?_
  generalize upM M60 x0 7 r61 = M63 at h ⊢
  have h := zlt h
  exact (pX12_init_102_ok hX hRm h)
noncomputable def pX12_init_70 (S : ZS) (M : ZM) (x0 : Int) : Option (ZS × ZM) := if S.2.2 < 2000000000 then zlet (S.2.2 + 1) fun r43 => zlet (zNewM S M) fun M42 => zlet (zNewS S 100 36) fun S41 => if S41.1 x0 = 12 then zlet (upM M42 x0 4 r43) fun M45 => if S41.2.2 < 2000000000 then zlet (S41.2.2 + 1) fun r49 => zlet (zNewM S41 M45) fun M48 => zlet (zNewS S41 100 36) fun S47 => if S47.1 x0 = 12 then zlet (upM M48 x0 5 r49) fun M51 => pX12_init_86 S47 M51 x0 else none else none else none else none
set_option maxHeartbeats 2000000 in
set_option maxRecDepth 20000 in
theorem pX12_init_70_ok {C : ZC} {E : ZE} {q : (ZS × ZM)} (hX : zCx C E 12 cX12_init 1 none true) (hRm : czR C = { frames := 1, cells := 38, slots := 20012, locals := 40 }) {S : ZS} {M : ZM} {x0 : Int} (h : pX12_init_70 S M x0 = some q) : zG C E 1 S 3 20 (zQ C E 38 20012 none q.1 q.2) 70 [some (2, x0)] [] M := by
  unfold pX12_init_70 at h
  refine zG.blk (pc' := 73) (l' := [some (2, x0)]) (st' := [(0, 36), (2, x0)]) (M' := M) hX [(.aload_n 0, 0, 0, 0), (.bipush 36, 0, 0, 0)] (by decide +kernel) rfl trivial ?_
  obtain ⟨g40, h⟩ := zif h
  refine zG.newarray (at_ := .int) (t := 0) (N := 36) hX (by simp) sa_int (by decide +kernel) g40 (by decide) (Nat.le_of_ble_eq_true rfl) (by rw [hRm]; exact ⟨Nat.le_of_ble_eq_true rfl, Nat.le_of_ble_eq_true rfl⟩) ?_
  show zG C E 1 (zNewS S 100 36) 4 56 _ 75 [some (2, x0)] [(2, (S.2.2 + 1)), (2, x0)] (zNewM S M)
  generalize S.2.2 + 1 = r43 at h ⊢
  have h := zlt h
  generalize zNewM S M = M42 at h ⊢
  have h := zlt h
  generalize zNewS S 100 36 = S41 at h ⊢
  have h := zlt h
  obtain ⟨g44, h⟩ := zif h
  refine zG.blk (pc' := 78) (l' := [some (2, x0)]) (st' := []) (M' := (upM M42 x0 4 r43)) hX [(.putfield 19, 12, 4, 2)] (by decide +kernel) rfl (And.intro g44 trivial) ?_
  generalize upM M42 x0 4 r43 = M45 at h ⊢
  have h := zlt h
  refine zG.blk (pc' := 81) (l' := [some (2, x0)]) (st' := [(0, 36), (2, x0)]) (M' := M45) hX [(.aload_n 0, 0, 0, 0), (.bipush 36, 0, 0, 0)] (by decide +kernel) rfl trivial ?_
  obtain ⟨g46, h⟩ := zif h
  refine zG.newarray (at_ := .int) (t := 0) (N := 36) hX (by simp) sa_int (by decide +kernel) g46 (by decide) (Nat.le_of_ble_eq_true rfl) (by rw [hRm]; exact ⟨Nat.le_of_ble_eq_true rfl, Nat.le_of_ble_eq_true rfl⟩) ?_
  show zG C E 1 (zNewS S41 100 36) 5 92 _ 83 [some (2, x0)] [(2, (S41.2.2 + 1)), (2, x0)] (zNewM S41 M45)
  generalize S41.2.2 + 1 = r49 at h ⊢
  have h := zlt h
  generalize zNewM S41 M45 = M48 at h ⊢
  have h := zlt h
  generalize zNewS S41 100 36 = S47 at h ⊢
  have h := zlt h
  obtain ⟨g50, h⟩ := zif h
  refine zG.blk (pc' := 86) (l' := [some (2, x0)]) (st' := []) (M' := (upM M48 x0 5 r49)) hX [(.putfield 22, 12, 5, 2)] (by decide +kernel) rfl (And.intro g50 trivial) ?_
  generalize upM M48 x0 5 r49 = M51 at h ⊢
  have h := zlt h
  exact (pX12_init_86_ok hX hRm h)
noncomputable def pX12_init_56 (S : ZS) (M : ZM) (x0 : Int) : Option (ZS × ZM) := if S.2.2 < 2000000000 then zlet (S.2.2 + 1) fun r31 => zlet (zNewM S M) fun M30 => zlet (zNewS S 100 5) fun S29 => if S29.1 x0 = 12 then zlet (upM M30 x0 2 r31) fun M33 => if S29.2.2 < 2000000000 then zlet (S29.2.2 + 1) fun r37 => zlet (zNewM S29 M33) fun M36 => zlet (zNewS S29 100 5) fun S35 => if S35.1 x0 = 12 then zlet (upM M36 x0 3 r37) fun M39 => pX12_init_70 S35 M39 x0 else none else none else none else none
set_option maxHeartbeats 2000000 in
set_option maxRecDepth 20000 in
theorem pX12_init_56_ok {C : ZC} {E : ZE} {q : (ZS × ZM)} (hX : zCx C E 12 cX12_init 1 none true) (hRm : czR C = { frames := 1, cells := 38, slots := 20012, locals := 40 }) {S : ZS} {M : ZM} {x0 : Int} (h : pX12_init_56 S M x0 = some q) : zG C E 1 S 1 10 (zQ C E 38 20012 none q.1 q.2) 56 [some (2, x0)] [] M := by
  unfold pX12_init_56 at h
  refine zG.blk (pc' := 58) (l' := [some (2, x0)]) (st' := [(0, 5), (2, x0)]) (M' := M) hX [(.aload_n 0, 0, 0, 0), (.iconst 5, 0, 0, 0)] (by decide +kernel) rfl trivial ?_
  obtain ⟨g28, h⟩ := zif h
  refine zG.newarray (at_ := .int) (t := 0) (N := 5) hX (by simp) sa_int (by decide +kernel) g28 (by decide) (Nat.le_of_ble_eq_true rfl) (by rw [hRm]; exact ⟨Nat.le_of_ble_eq_true rfl, Nat.le_of_ble_eq_true rfl⟩) ?_
  show zG C E 1 (zNewS S 100 5) 2 15 _ 60 [some (2, x0)] [(2, (S.2.2 + 1)), (2, x0)] (zNewM S M)
  generalize S.2.2 + 1 = r31 at h ⊢
  have h := zlt h
  generalize zNewM S M = M30 at h ⊢
  have h := zlt h
  generalize zNewS S 100 5 = S29 at h ⊢
  have h := zlt h
  obtain ⟨g32, h⟩ := zif h
  refine zG.blk (pc' := 63) (l' := [some (2, x0)]) (st' := []) (M' := (upM M30 x0 2 r31)) hX [(.putfield 13, 12, 2, 2)] (by decide +kernel) rfl (And.intro g32 trivial) ?_
  generalize upM M30 x0 2 r31 = M33 at h ⊢
  have h := zlt h
  refine zG.blk (pc' := 65) (l' := [some (2, x0)]) (st' := [(0, 5), (2, x0)]) (M' := M33) hX [(.aload_n 0, 0, 0, 0), (.iconst 5, 0, 0, 0)] (by decide +kernel) rfl trivial ?_
  obtain ⟨g34, h⟩ := zif h
  refine zG.newarray (at_ := .int) (t := 0) (N := 5) hX (by simp) sa_int (by decide +kernel) g34 (by decide) (Nat.le_of_ble_eq_true rfl) (by rw [hRm]; exact ⟨Nat.le_of_ble_eq_true rfl, Nat.le_of_ble_eq_true rfl⟩) ?_
  show zG C E 1 (zNewS S29 100 5) 3 20 _ 67 [some (2, x0)] [(2, (S29.2.2 + 1)), (2, x0)] (zNewM S29 M33)
  generalize S29.2.2 + 1 = r37 at h ⊢
  have h := zlt h
  generalize zNewM S29 M33 = M36 at h ⊢
  have h := zlt h
  generalize zNewS S29 100 5 = S35 at h ⊢
  have h := zlt h
  obtain ⟨g38, h⟩ := zif h
  refine zG.blk (pc' := 70) (l' := [some (2, x0)]) (st' := []) (M' := (upM M36 x0 3 r37)) hX [(.putfield 16, 12, 3, 2)] (by decide +kernel) rfl (And.intro g38 trivial) ?_
  generalize upM M36 x0 3 r37 = M39 at h ⊢
  have h := zlt h
  exact (pX12_init_70_ok hX hRm h)
noncomputable def pX12_init (S : ZS) (M : ZM) (a0 : Int) : Option (ZS × ZM) := if 1 ≤ a0 then if S.2.2 < 2000000000 then zlet (S.2.2 + 1) fun r5 => zlet (zNewM S M) fun M4 => zlet (zNewS S 100 10) fun S3 => if S3.1 r5 = 100 ∧ (0 : Int) ≤ 0 ∧ 0 < S3.2.1 r5 then zlet (upM M4 r5 0 0) fun M7 => if S3.1 r5 = 100 ∧ (0 : Int) ≤ 1 ∧ 1 < S3.2.1 r5 then zlet (upM M7 r5 1 0) fun M9 => if S3.1 r5 = 100 ∧ (0 : Int) ≤ 2 ∧ 2 < S3.2.1 r5 then zlet (upM M9 r5 2 0) fun M11 => if S3.1 r5 = 100 ∧ (0 : Int) ≤ 3 ∧ 3 < S3.2.1 r5 then zlet (upM M11 r5 3 0) fun M13 => if S3.1 r5 = 100 ∧ (0 : Int) ≤ 4 ∧ 4 < S3.2.1 r5 then zlet (upM M13 r5 4 0) fun M15 => if S3.1 r5 = 100 ∧ (0 : Int) ≤ 5 ∧ 5 < S3.2.1 r5 then zlet (upM M15 r5 5 0) fun M17 => if S3.1 r5 = 100 ∧ (0 : Int) ≤ 6 ∧ 6 < S3.2.1 r5 then zlet (upM M17 r5 6 0) fun M19 => if S3.1 r5 = 100 ∧ (0 : Int) ≤ 7 ∧ 7 < S3.2.1 r5 then zlet (upM M19 r5 7 0) fun M21 => if S3.1 r5 = 100 ∧ (0 : Int) ≤ 8 ∧ 8 < S3.2.1 r5 then zlet (upM M21 r5 8 0) fun M23 => if S3.1 r5 = 100 ∧ (0 : Int) ≤ 9 ∧ 9 < S3.2.1 r5 then zlet (upM M23 r5 9 (-1)) fun M25 => if S3.1 a0 = 12 then zlet (upM M25 a0 1 r5) fun M27 => pX12_init_56 S3 M27 a0 else none else none else none else none else none else none else none else none else none else none else none else none else none
set_option maxHeartbeats 2000000 in
set_option maxRecDepth 20000 in
theorem pX12_init_go {C : ZC} {E : ZE} {S : ZS} {M : ZM} {a0 : Int} {q : (ZS × ZM)} (hX : zCx C E 12 cX12_init 1 none true) (hRm : czR C = { frames := 1, cells := 38, slots := 20012, locals := 40 }) (h : pX12_init  S M a0 = some q) : zG C E 1 S 0 0 (zQ C E 38 20012 none q.1 q.2) 0 [some (2, a0)] [] M := by
  unfold pX12_init at h
  refine zG.blk (pc' := 1) (l' := [some (2, a0)]) (st' := [(2, a0)]) (M' := M) hX [(.aload_n 0, 0, 0, 0)] (by decide +kernel) rfl trivial ?_
  obtain ⟨g1, h⟩ := zif h
  refine zG.objInit hX so_12_3 so_1 so_2 g1 (by decide +kernel) (by rw [hRm]; exact ⟨Nat.le_of_ble_eq_true rfl, Nat.le_of_ble_eq_true rfl⟩) ?_
  show zG C E 1 S 0 0 _ 4 [some (2, a0)] [] M
  refine zG.blk (pc' := 7) (l' := [some (2, a0)]) (st' := [(0, 10), (2, a0)]) (M' := M) hX [(.aload_n 0, 0, 0, 0), (.bipush 10, 0, 0, 0)] (by decide +kernel) rfl trivial ?_
  obtain ⟨g2, h⟩ := zif h
  refine zG.newarray (at_ := .int) (t := 0) (N := 10) hX (by simp) sa_int (by decide +kernel) g2 (by decide) (Nat.le_of_ble_eq_true rfl) (by rw [hRm]; exact ⟨Nat.le_of_ble_eq_true rfl, Nat.le_of_ble_eq_true rfl⟩) ?_
  show zG C E 1 (zNewS S 100 10) 1 10 _ 9 [some (2, a0)] [(2, (S.2.2 + 1)), (2, a0)] (zNewM S M)
  generalize S.2.2 + 1 = r5 at h ⊢
  have h := zlt h
  generalize zNewM S M = M4 at h ⊢
  have h := zlt h
  generalize zNewS S 100 10 = S3 at h ⊢
  have h := zlt h
  obtain ⟨g6, h⟩ := zif h
  refine zG.blk (pc' := 13) (l' := [some (2, a0)]) (st' := [(2, r5), (2, a0)]) (M' := (upM M4 r5 0 0)) hX [(.dup, 0, 0, 0), (.iconst 0, 0, 0, 0), (.iconst 0, 0, 0, 0), (.iastore, 0, 0, 0)] (by decide +kernel) rfl (And.intro g6 trivial) ?_
  generalize upM M4 r5 0 0 = M7 at h ⊢
  have h := zlt h
  obtain ⟨g8, h⟩ := zif h
  refine zG.blk (pc' := 17) (l' := [some (2, a0)]) (st' := [(2, r5), (2, a0)]) (M' := (upM M7 r5 1 0)) hX [(.dup, 0, 0, 0), (.iconst 1, 0, 0, 0), (.iconst 0, 0, 0, 0), (.iastore, 0, 0, 0)] (by decide +kernel) rfl (And.intro g8 trivial) ?_
  generalize upM M7 r5 1 0 = M9 at h ⊢
  have h := zlt h
  obtain ⟨g10, h⟩ := zif h
  refine zG.blk (pc' := 21) (l' := [some (2, a0)]) (st' := [(2, r5), (2, a0)]) (M' := (upM M9 r5 2 0)) hX [(.dup, 0, 0, 0), (.iconst 2, 0, 0, 0), (.iconst 0, 0, 0, 0), (.iastore, 0, 0, 0)] (by decide +kernel) rfl (And.intro g10 trivial) ?_
  generalize upM M9 r5 2 0 = M11 at h ⊢
  have h := zlt h
  obtain ⟨g12, h⟩ := zif h
  refine zG.blk (pc' := 25) (l' := [some (2, a0)]) (st' := [(2, r5), (2, a0)]) (M' := (upM M11 r5 3 0)) hX [(.dup, 0, 0, 0), (.iconst 3, 0, 0, 0), (.iconst 0, 0, 0, 0), (.iastore, 0, 0, 0)] (by decide +kernel) rfl (And.intro g12 trivial) ?_
  generalize upM M11 r5 3 0 = M13 at h ⊢
  have h := zlt h
  obtain ⟨g14, h⟩ := zif h
  refine zG.blk (pc' := 29) (l' := [some (2, a0)]) (st' := [(2, r5), (2, a0)]) (M' := (upM M13 r5 4 0)) hX [(.dup, 0, 0, 0), (.iconst 4, 0, 0, 0), (.iconst 0, 0, 0, 0), (.iastore, 0, 0, 0)] (by decide +kernel) rfl (And.intro g14 trivial) ?_
  generalize upM M13 r5 4 0 = M15 at h ⊢
  have h := zlt h
  obtain ⟨g16, h⟩ := zif h
  refine zG.blk (pc' := 33) (l' := [some (2, a0)]) (st' := [(2, r5), (2, a0)]) (M' := (upM M15 r5 5 0)) hX [(.dup, 0, 0, 0), (.iconst 5, 0, 0, 0), (.iconst 0, 0, 0, 0), (.iastore, 0, 0, 0)] (by decide +kernel) rfl (And.intro g16 trivial) ?_
  generalize upM M15 r5 5 0 = M17 at h ⊢
  have h := zlt h
  obtain ⟨g18, h⟩ := zif h
  refine zG.blk (pc' := 38) (l' := [some (2, a0)]) (st' := [(2, r5), (2, a0)]) (M' := (upM M17 r5 6 0)) hX [(.dup, 0, 0, 0), (.bipush 6, 0, 0, 0), (.iconst 0, 0, 0, 0), (.iastore, 0, 0, 0)] (by decide +kernel) rfl (And.intro g18 trivial) ?_
  generalize upM M17 r5 6 0 = M19 at h ⊢
  have h := zlt h
  obtain ⟨g20, h⟩ := zif h
  refine zG.blk (pc' := 43) (l' := [some (2, a0)]) (st' := [(2, r5), (2, a0)]) (M' := (upM M19 r5 7 0)) hX [(.dup, 0, 0, 0), (.bipush 7, 0, 0, 0), (.iconst 0, 0, 0, 0), (.iastore, 0, 0, 0)] (by decide +kernel) rfl (And.intro g20 trivial) ?_
  generalize upM M19 r5 7 0 = M21 at h ⊢
  have h := zlt h
  obtain ⟨g22, h⟩ := zif h
  refine zG.blk (pc' := 48) (l' := [some (2, a0)]) (st' := [(2, r5), (2, a0)]) (M' := (upM M21 r5 8 0)) hX [(.dup, 0, 0, 0), (.bipush 8, 0, 0, 0), (.iconst 0, 0, 0, 0), (.iastore, 0, 0, 0)] (by decide +kernel) rfl (And.intro g22 trivial) ?_
  generalize upM M21 r5 8 0 = M23 at h ⊢
  have h := zlt h
  obtain ⟨g24, h⟩ := zif h
  refine zG.blk (pc' := 53) (l' := [some (2, a0)]) (st' := [(2, r5), (2, a0)]) (M' := (upM M23 r5 9 (-1))) hX [(.dup, 0, 0, 0), (.bipush 9, 0, 0, 0), (.iconst (-1), 0, 0, 0), (.iastore, 0, 0, 0)] (by decide +kernel) rfl (And.intro g24 trivial) ?_
  generalize upM M23 r5 9 (-1) = M25 at h ⊢
  have h := zlt h
  obtain ⟨g26, h⟩ := zif h
  refine zG.blk (pc' := 56) (l' := [some (2, a0)]) (st' := []) (M' := (upM M25 a0 1 r5)) hX [(.putfield 9, 12, 1, 2)] (by decide +kernel) rfl (And.intro g26 trivial) ?_
  generalize upM M25 a0 1 r5 = M27 at h ⊢
  have h := zlt h
  exact (pX12_init_56_ok hX hRm h)
theorem pX12_init_ok {l : Launch} {E : ZE} {S : ZS} {M : ZM} {a0 : Int} {q : (ZS × ZM)} (h : pX12_init S M a0 = some q) : zMet l yX12_init cX12_init 1 none 1 40 38 20012 E S M [(2, a0)] (none) q.1 q.2 :=
  zMet.of (o := 12) (ini := true) (by decide +kernel) rfl (fun _ => rfl) (Nat.le_of_ble_eq_true rfl) (fun C hX hl hRm => by subst hl; exact pX12_init_go hX hRm h)
noncomputable def pX11_image_33 (S : ZS) (M : ZM) (x0 : Int) (x1 : Int) : Option (Int × ZS × ZM) := if S.1 x0 = 11 then if S.1 (M x0 6) = 106 ∧ (0 : Int) ≤ x1 ∧ x1 < S.2.1 (M x0 6) then if S.1 (M (M x0 6) x1) = 10 then (pX10_copyFrom S M (M (M x0 6) x1) (M x0 5)).bind fun q9 => if S.1 (q9 x0 5) = 10 then if S.1 (q9 (q9 x0 5) 1) = 6 then some (q9 (q9 (q9 x0 5) 1) 5, S, q9) else none else none else none else none else none
set_option maxHeartbeats 2000000 in
set_option maxRecDepth 20000 in
theorem pX11_image_33_ok {C : ZC} {E : ZE} {q : (Int × ZS × ZM)} (hX : zCx C E 11 cX11_image 2 (some .int) false) (hRm : czR C = { frames := 4, cells := 116, slots := 2009, locals := 104 }) {S : ZS} {M : ZM} {x0 : Int} {x1 : Int} (h : pX11_image_33 S M x0 x1 = some q) : zG C E 2 S 116 2009 (zQ C E 116 2009 (some (0, q.1)) q.2.1 q.2.2) 33 [some (2, x0), some (0, x1)] [] M := by
  unfold pX11_image_33 at h
  obtain ⟨g7, h⟩ := zif h
  obtain ⟨g8, h⟩ := zif h
  refine zG.blk (pc' := 43) (l' := [some (2, x0), some (0, x1)]) (st' := [(2, M x0 5), (2, M (M x0 6) x1)]) (M' := M) hX [(.aload_n 0, 0, 0, 0), (.getfield 43, 11, 6, 2), (.iload_n 1, 0, 0, 0), (.aaload, 106, 0, 0), (.aload_n 0, 0, 0, 0), (.getfield 39, 11, 5, 2)] (by decide +kernel) rfl (And.intro g7 (And.intro g8 (And.intro g7 trivial))) ?_
  obtain ⟨g11, h⟩ := zif h
  obtain ⟨q9, e10, h⟩ := zbd h
  refine zG.callV (b := M (M x0 6) x1) (av := [(2, M x0 5)]) (st := []) (ci := 10) hX (pX10_copyFrom_ok e10) sv_11_263 rfl ⟨by decide, rfl⟩ g11 (by decide +kernel) (by rw [hRm]; exact ⟨Nat.le_of_ble_eq_true rfl, Nat.le_of_ble_eq_true rfl⟩) (by rw [hRm]; exact ⟨Nat.le_of_ble_eq_true rfl, Nat.le_of_ble_eq_true rfl⟩) (Nat.le_of_ble_eq_true rfl) ?_
  show zG C E 2 S 116 2009 _ 46 [some (2, x0), some (0, x1)] [] q9
  obtain ⟨g12, h⟩ := zif h
  obtain ⟨g13, h⟩ := zif h
  refine zG.blk (pc' := 56) (l' := [some (2, x0), some (0, x1)]) (st' := [(0, q9 (q9 (q9 x0 5) 1) 5)]) (M' := q9) hX [(.aload_n 0, 0, 0, 0), (.getfield 39, 11, 5, 2), (.getfield 119, 10, 1, 2), (.getfield 155, 6, 5, 0)] (by decide +kernel) rfl (And.intro g7 (And.intro g12 (And.intro g13 trivial))) ?_
  cases h
  exact zG.iret hX (by decide +kernel)
noncomputable def pX11_image (S : ZS) (M : ZM) (a0 : Int) (a1 : Int) : Option (Int × ZS × ZM) := (pX11_within S M a1 0 3).bind fun q1 => if q1.1 = 0 then (some ((-1), S, q1.2)) else (if S.1 a0 = 11 then if S.1 (q1.2 a0 6) = 106 ∧ (0 : Int) ≤ a1 ∧ a1 < S.2.1 (q1.2 a0 6) then if 1 ≤ q1.2 (q1.2 a0 6) a1 then (pX11_image_33 S q1.2 a0 a1) else (if S.2.2 < 2000000000 then zlet (S.2.2 + 1) fun r17 => zlet (zNewM S q1.2) fun M16 => zlet (zNewS S 10 0) fun S15 => if 1 ≤ r17 then (pX10_init S15 M16 r17).bind fun q18 => if q18.1.1 (q1.2 a0 6) = 106 ∧ (0 : Int) ≤ a1 ∧ a1 < q18.1.2.1 (q1.2 a0 6) then if r17 = 0 ∨ q18.1.1 r17 = 10 then zlet (upM q18.2 (q1.2 a0 6) a1 r17) fun M23 => pX11_image_33 q18.1 M23 a0 a1 else none else none else none else none) else none else none)
set_option maxHeartbeats 2000000 in
set_option maxRecDepth 20000 in
theorem pX11_image_go {C : ZC} {E : ZE} {S : ZS} {M : ZM} {a0 a1 : Int} {q : (Int × ZS × ZM)} (hX : zCx C E 11 cX11_image 2 (some .int) false) (hRm : czR C = { frames := 4, cells := 116, slots := 2009, locals := 104 }) (h : pX11_image  S M a0 a1 = some q) : zG C E 2 S 0 0 (zQ C E 116 2009 (some (0, q.1)) q.2.1 q.2.2) 0 [some (2, a0), some (0, a1)] [] M := by
  unfold pX11_image at h
  refine zG.blk (pc' := 3) (l' := [some (2, a0), some (0, a1)]) (st' := [(0, 3), (0, 0), (0, a1)]) (M' := M) hX [(.iload_n 1, 0, 0, 0), (.iconst 0, 0, 0, 0), (.iconst 3, 0, 0, 0)] (by decide +kernel) rfl trivial ?_
  obtain ⟨q1, e2, h⟩ := zbd h
  refine zG.callS (av := [(0, a1), (0, 0), (0, 3)]) (st := []) hX (pX11_within_ok e2) ss_11_172 rfl (by decide +kernel) (by rw [hRm]; exact ⟨Nat.le_of_ble_eq_true rfl, Nat.le_of_ble_eq_true rfl⟩) (by rw [hRm]; exact ⟨Nat.le_of_ble_eq_true rfl, Nat.le_of_ble_eq_true rfl⟩) (Nat.le_of_ble_eq_true rfl) ?_
  show zG C E 2 S 0 0 _ 6 [some (2, a0), some (0, a1)] [(0, q1.1)] q1.2
  refine zG.if_ne (tgt := 11) (off := 5) hX (by decide +kernel) (by decide) (fun c3 => ?_) (fun c3 => ?_)
  · have h := zin c3 h
    obtain ⟨g4, h⟩ := zif h
    obtain ⟨g5, h⟩ := zif h
    refine zG.blk (pc' := 17) (l' := [some (2, a0), some (0, a1)]) (st' := [(2, q1.2 (q1.2 a0 6) a1)]) (M' := q1.2) hX [(.aload_n 0, 0, 0, 0), (.getfield 43, 11, 6, 2), (.iload_n 1, 0, 0, 0), (.aaload, 106, 0, 0)] (by decide +kernel) rfl (And.intro g4 (And.intro g5 trivial)) ?_
    refine zG.ifnonnull (tgt := 33) (off := 16) hX (by decide +kernel) (by decide) (fun c6 => ?_) (fun c6 => ?_)
    · have h := zip c6 h
      refine zG.widen (ce' := 116) (sl' := 2009) (Nat.le_of_ble_eq_true rfl) (Nat.le_of_ble_eq_true rfl) ?_
      exact (pX11_image_33_ok hX hRm h)
    · have h := zin c6 h
      refine zG.blk (pc' := 25) (l' := [some (2, a0), some (0, a1)]) (st' := [(0, a1), (2, q1.2 a0 6)]) (M' := q1.2) hX [(.aload_n 0, 0, 0, 0), (.getfield 43, 11, 6, 2), (.iload_n 1, 0, 0, 0)] (by decide +kernel) rfl (And.intro g4 trivial) ?_
      obtain ⟨g14, h⟩ := zif h
      refine zG.new (ci := 10) hX sc_11_36 (by decide +kernel) g14 (by rw [hRm]; exact ⟨Nat.le_of_ble_eq_true rfl, Nat.le_of_ble_eq_true rfl⟩) ?_
      show zG C E 2 (zNewS S 10 0) 1 10 _ 28 [some (2, a0), some (0, a1)] [(2, (S.2.2 + 1)), (0, a1), (2, q1.2 a0 6)] (zNewM S q1.2)
      generalize S.2.2 + 1 = r17 at h ⊢
      have h := zlt h
      generalize zNewM S q1.2 = M16 at h ⊢
      have h := zlt h
      generalize zNewS S 10 0 = S15 at h ⊢
      have h := zlt h
      refine zG.blk (pc' := 29) (l' := [some (2, a0), some (0, a1)]) (st' := [(2, r17), (2, r17), (0, a1), (2, q1.2 a0 6)]) (M' := M16) hX [(.dup, 0, 0, 0)] (by decide +kernel) rfl trivial ?_
      obtain ⟨g20, h⟩ := zif h
      obtain ⟨q18, e19, h⟩ := zbd h
      refine zG.callI (b := r17) (av := []) (st := [(2, r17), (0, a1), (2, q1.2 a0 6)]) hX (pX10_init_ok e19) si_11_38 rfl g20 (by decide +kernel) (by rw [hRm]; exact ⟨Nat.le_of_ble_eq_true rfl, Nat.le_of_ble_eq_true rfl⟩) (by rw [hRm]; exact ⟨Nat.le_of_ble_eq_true rfl, Nat.le_of_ble_eq_true rfl⟩) (Nat.le_of_ble_eq_true rfl) ?_
      show zG C E 2 q18.1 116 2009 _ 32 [some (2, a0), some (0, a1)] [(2, r17), (0, a1), (2, q1.2 a0 6)] q18.2
      obtain ⟨g21, h⟩ := zif h
      obtain ⟨g22, h⟩ := zif h
      refine zG.blk (pc' := 33) (l' := [some (2, a0), some (0, a1)]) (st' := []) (M' := (upM q18.2 (q1.2 a0 6) a1 r17)) hX [(.aastore, 106, 10, 0)] (by decide +kernel) rfl (And.intro g21 (And.intro g22 trivial)) ?_
      generalize upM q18.2 (q1.2 a0 6) a1 r17 = M23 at h ⊢
      have h := zlt h
      exact (pX11_image_33_ok hX hRm h)
  · have h := zip c3 h
    refine zG.blk (pc' := 10) (l' := [some (2, a0), some (0, a1)]) (st' := [(0, (-1))]) (M' := q1.2) hX [(.iconst (-1), 0, 0, 0)] (by decide +kernel) rfl trivial ?_
    cases h
    refine zG.widen (ce' := 116) (sl' := 2009) (Nat.le_of_ble_eq_true rfl) (Nat.le_of_ble_eq_true rfl) ?_
    exact zG.iret hX (by decide +kernel)
theorem pX11_image_ok {l : Launch} {E : ZE} {S : ZS} {M : ZM} {a0 a1 : Int} {q : (Int × ZS × ZM)} (h : pX11_image S M a0 a1 = some q) : zMet l yX11_image cX11_image 2 (some .int) 4 104 116 2009 E S M [(2, a0), (0, a1)] (some (0, q.1)) q.2.1 q.2.2 :=
  zMet.of (o := 11) (ini := false) (by decide +kernel) rfl (fun h => by cases h) (Nat.le_of_ble_eq_true rfl) (fun C hX hl hRm => by subst hl; exact pX11_image_go hX hRm h)
theorem sv_11_104 : zSV 11 104 yX5_faultOf cX5_faultOf 3 (some .int) 1 := ⟨⟨gt_at 671 (by decide +kernel) rfl, gt_at 672 (by decide +kernel) rfl, gt_at 673 (by decide +kernel) rfl, gt_at 109 (by decide +kernel) rfl, gt_at 674 (by decide +kernel) rfl⟩, by decide +kernel, by decide +kernel, by decide +kernel⟩
theorem sv_11_105 : zSV 11 105 yX5_orders cX5_orders 1 (some (.array .int)) 0 := ⟨⟨gt_at 714 (by decide +kernel) rfl, gt_at 715 (by decide +kernel) rfl, gt_at 716 (by decide +kernel) rfl, gt_at 109 (by decide +kernel) rfl, gt_at 717 (by decide +kernel) rfl⟩, by decide +kernel, by decide +kernel, by decide +kernel⟩
theorem si_11_109 : zSI 11 109 yX4_init cX4_init 2 1 := ⟨⟨gt_at 732 (by decide +kernel) rfl, gt_at 733 (by decide +kernel) rfl, gt_at 123 (by decide +kernel) rfl, gt_at 734 (by decide +kernel) rfl, rfl⟩, by decide +kernel, by decide +kernel, by decide +kernel⟩
noncomputable def pX11_rule_63 (S : ZS) (M : ZM) (x0 : Int) : Option (Int × ZS × ZM) := if S.1 x0 = 11 then zlet (upM M x0 4 (w32 ((M x0 4) + 1))) fun M24 => some (w32 ((M24 x0 4) - 1), S, M24) else none
set_option maxHeartbeats 2000000 in
set_option maxRecDepth 20000 in
theorem pX11_rule_63_ok {C : ZC} {E : ZE} {q : (Int × ZS × ZM)} (hX : zCx C E 11 cX11_rule 2 (some .int) false) (hRm : czR C = { frames := 48, cells := 2, slots := 401, locals := 2598 }) {S : ZS} {M : ZM} {x0 : Int} (h : pX11_rule_63 S M x0 = some q) : zG C E 2 S 2 401 (zQ C E 2 401 (some (0, q.1)) q.2.1 q.2.2) 63 [some (2, x0), none] [] M := by
  unfold pX11_rule_63 at h
  obtain ⟨g23, h⟩ := zif h
  refine zG.blk (pc' := 73) (l' := [some (2, x0), none]) (st' := []) (M' := (upM M x0 4 (w32 ((M x0 4) + 1)))) hX [(.aload_n 0, 0, 0, 0), (.dup, 0, 0, 0), (.getfield 101, 11, 4, 0), (.iconst 1, 0, 0, 0), (.iadd, 0, 0, 0), (.putfield 101, 11, 4, 0)] (by decide +kernel) rfl (And.intro g23 (And.intro g23 trivial)) ?_
  generalize upM M x0 4 (w32 ((M x0 4) + 1)) = M24 at h ⊢
  have h := zlt h
  refine zG.blk (pc' := 79) (l' := [some (2, x0), none]) (st' := [(0, w32 ((M24 x0 4) - 1))]) (M' := M24) hX [(.aload_n 0, 0, 0, 0), (.getfield 101, 11, 4, 0), (.iconst 1, 0, 0, 0), (.isub, 0, 0, 0)] (by decide +kernel) rfl (And.intro g23 trivial) ?_
  cases h
  exact zG.iret hX (by decide +kernel)
noncomputable def pX11_rule (S : ZS) (M : ZM) (a0 : Int) : Option (Int × ZS × ZM) := if S.1 a0 = 11 then if M a0 4 < 6 then (if S.1 (M a0 2) = 5 then (pX5_faultOf S M (M a0 2) (M a0 0)).bind fun q3 => if S.1 (q3.2 a0 0) = 8 then zlet (upM q3.2 (q3.2 a0 0) 1 0) fun M7 => if q3.1 = 0 then (if S.2.2 < 2000000000 then zlet (S.2.2 + 1) fun r12 => zlet (zNewM S M7) fun M11 => zlet (zNewS S 4 0) fun S10 => if S10.1 a0 = 11 then if S10.1 (M11 a0 2) = 5 then (pX5_orders S10 M11 (M11 a0 2)).bind fun q14 => if 1 ≤ r12 then (pX4_init q14.2.1 q14.2.2 r12 q14.1).bind fun q17 => if q14.2.1.1 (M7 a0 3) = 104 ∧ (0 : Int) ≤ M7 a0 4 ∧ M7 a0 4 < q14.2.1.2.1 (M7 a0 3) then if r12 = 0 ∨ q14.2.1.1 r12 = 4 then zlet (upM q17 (M7 a0 3) (M7 a0 4) r12) fun M22 => pX11_rule_63 q14.2.1 M22 a0 else none else none else none else none else none else none) else (some (w32 ((-2) - q3.1), S, M7)) else none else none) else (some ((-1), S, M)) else none
set_option maxHeartbeats 2000000 in
set_option maxRecDepth 20000 in
theorem pX11_rule_go {C : ZC} {E : ZE} {S : ZS} {M : ZM} {a0 : Int} {q : (Int × ZS × ZM)} (hX : zCx C E 11 cX11_rule 2 (some .int) false) (hRm : czR C = { frames := 48, cells := 2, slots := 401, locals := 2598 }) (h : pX11_rule  S M a0 = some q) : zG C E 2 S 0 0 (zQ C E 2 401 (some (0, q.1)) q.2.1 q.2.2) 0 [some (2, a0), none] [] M := by
  unfold pX11_rule at h
  obtain ⟨g1, h⟩ := zif h
  refine zG.blk (pc' := 6) (l' := [some (2, a0), none]) (st' := [(0, 6), (0, M a0 4)]) (M' := M) hX [(.aload_n 0, 0, 0, 0), (.getfield 101, 11, 4, 0), (.bipush 6, 0, 0, 0)] (by decide +kernel) rfl (And.intro g1 trivial) ?_
  refine zG.icmp_lt (tgt := 11) (off := 5) hX (by decide +kernel) (by decide) (fun c2 => ?_) (fun c2 => ?_)
  · have h := zip c2 h
    refine zG.blk (pc' := 19) (l' := [some (2, a0), none]) (st' := [(2, M a0 0), (2, M a0 2)]) (M' := M) hX [(.aload_n 0, 0, 0, 0), (.getfield 26, 11, 2, 2), (.aload_n 0, 0, 0, 0), (.getfield 10, 11, 0, 2)] (by decide +kernel) rfl (And.intro g1 (And.intro g1 trivial)) ?_
    obtain ⟨g5, h⟩ := zif h
    obtain ⟨q3, e4, h⟩ := zbd h
    refine zG.callV (b := M a0 2) (av := [(2, M a0 0)]) (st := []) (ci := 5) hX (pX5_faultOf_ok e4) sv_11_104 rfl ⟨by decide, rfl⟩ g5 (by decide +kernel) (by rw [hRm]; exact ⟨Nat.le_of_ble_eq_true rfl, Nat.le_of_ble_eq_true rfl⟩) (by rw [hRm]; exact ⟨Nat.le_of_ble_eq_true rfl, Nat.le_of_ble_eq_true rfl⟩) (Nat.le_of_ble_eq_true rfl) ?_
    show zG C E 2 S 0 0 _ 22 [some (2, a0), none] [(0, q3.1)] q3.2
    obtain ⟨g6, h⟩ := zif h
    refine zG.blk (pc' := 31) (l' := [some (2, a0), some (0, q3.1)]) (st' := []) (M' := (upM q3.2 (q3.2 a0 0) 1 0)) hX [(.istore_n 1, 0, 0, 0), (.aload_n 0, 0, 0, 0), (.getfield 10, 11, 0, 2), (.iconst 0, 0, 0, 0), (.putfield 75, 8, 1, 0)] (by decide +kernel) rfl (And.intro g1 (And.intro g6 trivial)) ?_
    generalize upM q3.2 (q3.2 a0 0) 1 0 = M7 at h ⊢
    have h := zlt h
    refine zG.blk (pc' := 32) (l' := [some (2, a0), some (0, q3.1)]) (st' := [(0, q3.1)]) (M' := M7) hX [(.iload_n 1, 0, 0, 0)] (by decide +kernel) rfl trivial ?_
    refine zG.if_eq (tgt := 40) (off := 8) hX (by decide +kernel) (by decide) (fun c8 => ?_) (fun c8 => ?_)
    · have h := zip c8 h
      refine zG.blk (pc' := 48) (l' := [some (2, a0), some (0, q3.1)]) (st' := [(0, M7 a0 4), (2, M7 a0 3)]) (M' := M7) hX [(.aload_n 0, 0, 0, 0), (.getfield 32, 11, 3, 2), (.aload_n 0, 0, 0, 0), (.getfield 101, 11, 4, 0)] (by decide +kernel) rfl (And.intro g1 (And.intro g1 trivial)) ?_
      obtain ⟨g9, h⟩ := zif h
      refine zG.new (ci := 4) hX sc_11_30 (by decide +kernel) g9 (by rw [hRm]; exact ⟨Nat.le_of_ble_eq_true rfl, Nat.le_of_ble_eq_true rfl⟩) ?_
      show zG C E 2 (zNewS S 4 0) 1 1 _ 51 [some (2, a0), some (0, q3.1)] [(2, (S.2.2 + 1)), (0, M7 a0 4), (2, M7 a0 3)] (zNewM S M7)
      generalize S.2.2 + 1 = r12 at h ⊢
      have h := zlt h
      generalize zNewM S M7 = M11 at h ⊢
      have h := zlt h
      generalize zNewS S 4 0 = S10 at h ⊢
      have h := zlt h
      obtain ⟨g13, h⟩ := zif h
      refine zG.blk (pc' := 56) (l' := [some (2, a0), some (0, q3.1)]) (st' := [(2, M11 a0 2), (2, r12), (2, r12), (0, M7 a0 4), (2, M7 a0 3)]) (M' := M11) hX [(.dup, 0, 0, 0), (.aload_n 0, 0, 0, 0), (.getfield 26, 11, 2, 2)] (by decide +kernel) rfl (And.intro g13 trivial) ?_
      obtain ⟨g16, h⟩ := zif h
      obtain ⟨q14, e15, h⟩ := zbd h
      refine zG.callV (b := M11 a0 2) (av := []) (st := [(2, r12), (2, r12), (0, M7 a0 4), (2, M7 a0 3)]) (ci := 5) hX (pX5_orders_ok e15) sv_11_105 rfl ⟨by decide, rfl⟩ g16 (by decide +kernel) (by rw [hRm]; exact ⟨Nat.le_of_ble_eq_true rfl, Nat.le_of_ble_eq_true rfl⟩) (by rw [hRm]; exact ⟨Nat.le_of_ble_eq_true rfl, Nat.le_of_ble_eq_true rfl⟩) (Nat.le_of_ble_eq_true rfl) ?_
      show zG C E 2 q14.2.1 2 401 _ 59 [some (2, a0), some (0, q3.1)] [(2, q14.1), (2, r12), (2, r12), (0, M7 a0 4), (2, M7 a0 3)] q14.2.2
      obtain ⟨g19, h⟩ := zif h
      obtain ⟨q17, e18, h⟩ := zbd h
      refine zG.callI (b := r12) (av := [(2, q14.1)]) (st := [(2, r12), (0, M7 a0 4), (2, M7 a0 3)]) hX (pX4_init_ok e18) si_11_109 rfl g19 (by decide +kernel) (by rw [hRm]; exact ⟨Nat.le_of_ble_eq_true rfl, Nat.le_of_ble_eq_true rfl⟩) (by rw [hRm]; exact ⟨Nat.le_of_ble_eq_true rfl, Nat.le_of_ble_eq_true rfl⟩) (Nat.le_of_ble_eq_true rfl) ?_
      show zG C E 2 q14.2.1 2 401 _ 62 [some (2, a0), some (0, q3.1)] [(2, r12), (0, M7 a0 4), (2, M7 a0 3)] q17
      obtain ⟨g20, h⟩ := zif h
      obtain ⟨g21, h⟩ := zif h
      refine zG.blk (pc' := 63) (l' := [some (2, a0), some (0, q3.1)]) (st' := []) (M' := (upM q17 (M7 a0 3) (M7 a0 4) r12)) hX [(.aastore, 104, 4, 0)] (by decide +kernel) rfl (And.intro g20 (And.intro g21 trivial)) ?_
      generalize upM q17 (M7 a0 3) (M7 a0 4) r12 = M22 at h ⊢
      have h := zlt h
      exact zG.wk [true, false] (pX11_rule_63_ok hX hRm h)
    · have h := zin c8 h
      refine zG.blk (pc' := 39) (l' := [some (2, a0), some (0, q3.1)]) (st' := [(0, w32 ((-2) - q3.1))]) (M' := M7) hX [(.bipush (-2), 0, 0, 0), (.iload_n 1, 0, 0, 0), (.isub, 0, 0, 0)] (by decide +kernel) rfl trivial ?_
      cases h
      refine zG.widen (ce' := 2) (sl' := 401) (Nat.le_of_ble_eq_true rfl) (Nat.le_of_ble_eq_true rfl) ?_
      exact zG.iret hX (by decide +kernel)
  · have h := zin c2 h
    refine zG.blk (pc' := 10) (l' := [some (2, a0), none]) (st' := [(0, (-1))]) (M' := M) hX [(.iconst (-1), 0, 0, 0)] (by decide +kernel) rfl trivial ?_
    cases h
    refine zG.widen (ce' := 2) (sl' := 401) (Nat.le_of_ble_eq_true rfl) (Nat.le_of_ble_eq_true rfl) ?_
    exact zG.iret hX (by decide +kernel)
theorem pX11_rule_ok {l : Launch} {E : ZE} {S : ZS} {M : ZM} {a0 : Int} {q : (Int × ZS × ZM)} (h : pX11_rule S M a0 = some q) : zMet l yX11_rule cX11_rule 2 (some .int) 48 2598 2 401 E S M [(2, a0)] (some (0, q.1)) q.2.1 q.2.2 :=
  zMet.of (o := 11) (ini := false) (by decide +kernel) rfl (fun h => by cases h) (Nat.le_of_ble_eq_true rfl) (fun C hX hl hRm => by subst hl; exact pX11_rule_go hX hRm h)
