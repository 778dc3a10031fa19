def pX12_in (S : ZS) (M : ZM) (a0 : Int) (a1 : Int) (a2 : Int) : Option (Int × ZM) := some ((if zcmp a0 a1 < 0 then (0 : Int) else (if 0 < zcmp a0 a2 then (0 : Int) else 1)), M)
set_option maxHeartbeats 2000000 in
set_option maxRecDepth 20000 in
theorem pX12_in_go {C : ZC} {E : ZE} {S : ZS} {M : ZM} {a0 a1 a2 : Int} {q : (Int × ZM)} (hX : zCx C E 12 cX12_in 6 (some .boolean) false) (hRm : czR C = { frames := 1, cells := 0, slots := 0, locals := 40 }) (h : pX12_in  S M a0 a1 a2 = some q) : zG C E 6 S 0 0 (zQ C E 0 0 (some (0, q.1)) S q.2) 0 [some (1, a0), none, some (1, a1), none, some (1, a2), none] [] M := by
  unfold pX12_in at h
  refine zG.blk (pc' := 3) (l' := [some (1, a0), none, some (1, a1), none, some (1, a2), none]) (st' := [(0, zcmp a0 a1)]) (M' := M) hX [(.lload_n 0, 0, 0, 0), (.lload_n 2, 0, 0, 0), (.lcmp, 0, 0, 0)] (by decide +kernel) rfl trivial ?_
  have key1 : zG C E 6 S 0 0 (zQ C E 0 0 (some (0, q.1)) S q.2) 18 [some (1, a0), none, some (1, a1), none, some (1, a2), none] [(0, (if zcmp a0 a1 < 0 then (0 : Int) else (if 0 < zcmp a0 a2 then (0 : Int) else 1)))] M := by
    cases h
    exact zG.zret hX (by decide +kernel) (z01_ite (Or.inl rfl) (z01_ite (Or.inl rfl) (Or.inr rfl)))
  refine zG.if_lt (tgt := 17) (off := 14) hX (by decide +kernel) (by decide) (fun c2 => ?_) (fun c2 => ?_)
  · refine zG.blk (pc' := 18) (l' := [some (1, a0), none, some (1, a1), none, some (1, a2), none]) (st' := [(0, 0)]) (M' := M) hX [(.iconst 0, 0, 0, 0)] (by decide +kernel) rfl trivial ?_
    (have k := key1; simp only [if_pos c2] at k; exact k)
  · refine zG.blk (pc' := 10) (l' := [some (1, a0), none, some (1, a1), none, some (1, a2), none]) (st' := [(0, zcmp a0 a2)]) (M' := M) hX [(.lload_n 0, 0, 0, 0), (.lload 4, 0, 0, 0), (.lcmp, 0, 0, 0)] (by decide +kernel) rfl trivial ?_
    refine zG.if_gt (tgt := 17) (off := 7) hX (by decide +kernel) (by decide) (fun c3 => ?_) (fun c3 => ?_)
    · refine zG.blk (pc' := 18) (l' := [some (1, a0), none, some (1, a1), none, some (1, a2), none]) (st' := [(0, 0)]) (M' := M) hX [(.iconst 0, 0, 0, 0)] (by decide +kernel) rfl trivial ?_
      (have k := key1; simp only [if_neg c2, if_pos c3] at k; exact k)
    · refine zG.blk (pc' := 14) (l' := [some (1, a0), none, some (1, a1), none, some (1, a2), none]) (st' := [(0, 1)]) (M' := M) hX [(.iconst 1, 0, 0, 0)] (by decide +kernel) rfl trivial ?_
      refine zG.goto (tgt := 18) (off := 4) hX (by decide +kernel) (by decide) ?_
      (have k := key1; simp only [if_neg c2, if_neg c3] at k; exact k)
theorem pX12_in_ok {l : Launch} {E : ZE} {S : ZS} {M : ZM} {a0 a1 a2 : Int} {q : (Int × ZM)} (h : pX12_in S M a0 a1 a2 = some q) : zMet l yX12_in cX12_in 6 (some .boolean) 1 40 0 0 E S M [(1, a0), (1, a1), (1, a2)] (some (0, q.1)) S q.2 :=
  zMet.of (o := 12) (ini := false) (by decide +kernel) rfl (fun h => by cases h) (Nat.le_of_ble_eq_true rfl) (fun C hX hl hRm => by subst hl; exact pX12_in_go hX hRm h)
def pX12_bits_4 (S : ZS) : Nat → ZM → Int → Int → Int → Option (Int × ZM)
  | 0 => fun _ _ _ _ => none
  | n + 1 => fun M x0 x1 x2 => if 16 ≤ x2 then (some (x1, M)) else (pX12_bits_4 S n M x0 (w32 (x1 + (zand (zshr x0 x2) 1))) (w32 (x2 + 1)))
set_option maxHeartbeats 2000000 in
set_option maxRecDepth 20000 in
theorem pX12_bits_4_ok {C : ZC} {E : ZE} {S : ZS} {q : (Int × ZM)} (hX : zCx C E 12 cX12_bits 3 (some .int) false) (hRm : czR C = { frames := 1, cells := 0, slots := 0, locals := 40 }) : ∀ (n : Nat) (M : ZM) (x0 : Int) (x1 : Int) (x2 : Int), pX12_bits_4 S n M x0 x1 x2 = some q → zG C E 3 S 0 0 (zQ C E 0 0 (some (0, q.1)) S q.2) 4 [some (0, x0), some (0, x1), some (0, x2)] [] M := by
  intro n
  induction n with
  | zero => intro M x0 x1 x2 h; cases h
  | succ n ih =>
    intro M x0 x1 x2 h
    unfold pX12_bits_4 at h
    refine zG.blk (pc' := 7) (l' := [some (0, x0), some (0, x1), some (0, x2)]) (st' := [(0, 16), (0, x2)]) (M' := M) hX [(.iload_n 2, 0, 0, 0), (.bipush 16, 0, 0, 0)] (by decide +kernel) rfl trivial ?_
    refine zG.icmp_ge (tgt := 24) (off := 17) hX (by decide +kernel) (by decide) (fun c1 => ?_) (fun c1 => ?_)
    · have h := zip c1 h
      refine zG.blk (pc' := 25) (l' := [some (0, x0), some (0, x1), some (0, x2)]) (st' := [(0, x1)]) (M' := M) hX [(.iload_n 1, 0, 0, 0)] (by decide +kernel) rfl trivial ?_
      cases h
      exact zG.iret hX (by decide +kernel)
    · have h := zin c1 h
      refine zG.blk (pc' := 21) (l' := [some (0, x0), some (0, w32 (x1 + (zand (zshr x0 x2) 1))), some (0, w32 (x2 + 1))]) (st' := []) (M' := M) hX [(.iload_n 1, 0, 0, 0), (.iload_n 0, 0, 0, 0), (.iload_n 2, 0, 0, 0), (.ishr, 0, 0, 0), (.iconst 1, 0, 0, 0), (.iand, 0, 0, 0), (.iadd, 0, 0, 0), (.istore_n 1, 0, 0, 0), (.iinc 2 1, 0, 0, 0)] (by decide +kernel) rfl trivial ?_
      refine zG.goto (tgt := 4) (off := (-17)) hX (by decide +kernel) (by decide) ?_
      exact ih _ _ _ _ h
def pX12_bits (S : ZS) (M : ZM) (a0 : Int) : Option (Int × ZM) := pX12_bits_4 S zFU M a0 0 0
set_option maxHeartbeats 2000000 in
set_option maxRecDepth 20000 in
theorem pX12_bits_go {C : ZC} {E : ZE} {S : ZS} {M : ZM} {a0 : Int} {q : (Int × ZM)} (hX : zCx C E 12 cX12_bits 3 (some .int) false) (hRm : czR C = { frames := 1, cells := 0, slots := 0, locals := 40 }) (h : pX12_bits  S M a0 = some q) : zG C E 3 S 0 0 (zQ C E 0 0 (some (0, q.1)) S q.2) 0 [some (0, a0), none, none] [] M := by
  unfold pX12_bits at h
  refine zG.blk (pc' := 4) (l' := [some (0, a0), some (0, 0), some (0, 0)]) (st' := []) (M' := M) hX [(.iconst 0, 0, 0, 0), (.istore_n 1, 0, 0, 0), (.iconst 0, 0, 0, 0), (.istore_n 2, 0, 0, 0)] (by decide +kernel) rfl trivial ?_
  exact (pX12_bits_4_ok hX hRm zFU _ _ _ _ h)
theorem pX12_bits_ok {l : Launch} {E : ZE} {S : ZS} {M : ZM} {a0 : Int} {q : (Int × ZM)} (h : pX12_bits S M a0 = some q) : zMet l yX12_bits cX12_bits 3 (some .int) 1 40 0 0 E S M [(0, a0)] (some (0, q.1)) S q.2 :=
  zMet.of (o := 12) (ini := false) (by decide +kernel) rfl (fun h => by cases h) (Nat.le_of_ble_eq_true rfl) (fun C hX hl hRm => by subst hl; exact pX12_bits_go hX hRm h)
def pX12_has (S : ZS) (M : ZM) (a0 : Int) (a1 : Int) : Option (Int × ZM) := some ((if zand (zshr a0 a1) 1 = 1 then (1 : Int) else 0), M)
set_option maxHeartbeats 2000000 in
set_option maxRecDepth 20000 in
theorem pX12_has_go {C : ZC} {E : ZE} {S : ZS} {M : ZM} {a0 a1 : Int} {q : (Int × ZM)} (hX : zCx C E 12 cX12_has 2 (some .boolean) false) (hRm : czR C = { frames := 1, cells := 0, slots := 0, locals := 40 }) (h : pX12_has  S M a0 a1 = some q) : zG C E 2 S 0 0 (zQ C E 0 0 (some (0, q.1)) S q.2) 0 [some (0, a0), some (0, a1)] [] M := by
  unfold pX12_has at h
  refine zG.blk (pc' := 6) (l' := [some (0, a0), some (0, a1)]) (st' := [(0, 1), (0, zand (zshr a0 a1) 1)]) (M' := M) hX [(.iload_n 0, 0, 0, 0), (.iload_n 1, 0, 0, 0), (.ishr, 0, 0, 0), (.iconst 1, 0, 0, 0), (.iand, 0, 0, 0), (.iconst 1, 0, 0, 0)] (by decide +kernel) rfl trivial ?_
  have key1 : zG C E 2 S 0 0 (zQ C E 0 0 (some (0, q.1)) S q.2) 14 [some (0, a0), some (0, a1)] [(0, (if zand (zshr a0 a1) 1 = 1 then (1 : Int) else 0))] M := by
    cases h
    exact zG.zret hX (by decide +kernel) (z01_ite (Or.inr rfl) (Or.inl rfl))
  refine zG.icmp_ne (tgt := 13) (off := 7) hX (by decide +kernel) (by decide) (fun c2 => ?_) (fun c2 => ?_)
  · refine zG.blk (pc' := 14) (l' := [some (0, a0), some (0, a1)]) (st' := [(0, 0)]) (M' := M) hX [(.iconst 0, 0, 0, 0)] (by decide +kernel) rfl trivial ?_
    (have k := key1; simp only [if_neg c2] at k; exact k)
  · refine zG.blk (pc' := 10) (l' := [some (0, a0), some (0, a1)]) (st' := [(0, 1)]) (M' := M) hX [(.iconst 1, 0, 0, 0)] (by decide +kernel) rfl trivial ?_
    refine zG.goto (tgt := 14) (off := 4) hX (by decide +kernel) (by decide) ?_
    (have k := key1; simp only [if_pos c2] at k; exact k)
theorem pX12_has_ok {l : Launch} {E : ZE} {S : ZS} {M : ZM} {a0 a1 : Int} {q : (Int × ZM)} (h : pX12_has S M a0 a1 = some q) : zMet l yX12_has cX12_has 2 (some .boolean) 1 40 0 0 E S M [(0, a0), (0, a1)] (some (0, q.1)) S q.2 :=
  zMet.of (o := 12) (ini := false) (by decide +kernel) rfl (fun h => by cases h) (Nat.le_of_ble_eq_true rfl) (fun C hX hl hRm => by subst hl; exact pX12_has_go hX hRm h)
def pX12_isSky (S : ZS) (M : ZM) (a0 : Int) : Option (Int × ZM) := if S.1 a0 = 12 then if S.1 (M a0 1) = 100 ∧ (0 : Int) ≤ 0 ∧ 0 < S.2.1 (M a0 1) then some ((if M (M a0 1) 0 ≤ 0 then (0 : Int) else 1), M) else none else none
set_option maxHeartbeats 2000000 in
set_option maxRecDepth 20000 in
theorem pX12_isSky_go {C : ZC} {E : ZE} {S : ZS} {M : ZM} {a0 : Int} {q : (Int × ZM)} (hX : zCx C E 12 cX12_isSky 1 (some .boolean) false) (hRm : czR C = { frames := 1, cells := 0, slots := 0, locals := 40 }) (h : pX12_isSky  S M a0 = some q) : zG C E 1 S 0 0 (zQ C E 0 0 (some (0, q.1)) S q.2) 0 [some (2, a0)] [] M := by
  unfold pX12_isSky at h
  obtain ⟨g1, h⟩ := zif h
  obtain ⟨g2, h⟩ := zif h
  refine zG.blk (pc' := 6) (l' := [some (2, a0)]) (st' := [(0, M (M a0 1) 0)]) (M' := M) hX [(.aload_n 0, 0, 0, 0), (.getfield 9, 12, 1, 2), (.iconst 0, 0, 0, 0), (.iaload, 0, 0, 0)] (by decide +kernel) rfl (And.intro g1 (And.intro g2 trivial)) ?_
  have key3 : zG C E 1 S 0 0 (zQ C E 0 0 (some (0, q.1)) S q.2) 14 [some (2, a0)] [(0, (if M (M a0 1) 0 ≤ 0 then (0 : Int) else 1))] M := by
    cases h
    exact zG.zret hX (by decide +kernel) (z01_ite (Or.inl rfl) (Or.inr rfl))
  refine zG.if_le (tgt := 13) (off := 7) hX (by decide +kernel) (by decide) (fun c4 => ?_) (fun c4 => ?_)
  · refine zG.blk (pc' := 14) (l' := [some (2, a0)]) (st' := [(0, 0)]) (M' := M) hX [(.iconst 0, 0, 0, 0)] (by decide +kernel) rfl trivial ?_
    (have k := key3; simp only [if_pos c4] at k; exact k)
  · refine zG.blk (pc' := 10) (l' := [some (2, a0)]) (st' := [(0, 1)]) (M' := M) hX [(.iconst 1, 0, 0, 0)] (by decide +kernel) rfl trivial ?_
    refine zG.goto (tgt := 14) (off := 4) hX (by decide +kernel) (by decide) ?_
    (have k := key3; simp only [if_neg c4] at k; exact k)
theorem pX12_isSky_ok {l : Launch} {E : ZE} {S : ZS} {M : ZM} {a0 : Int} {q : (Int × ZM)} (h : pX12_isSky S M a0 = some q) : zMet l yX12_isSky cX12_isSky 1 (some .boolean) 1 40 0 0 E S M [(2, a0)] (some (0, q.1)) S q.2 :=
  zMet.of (o := 12) (ini := false) (by decide +kernel) rfl (fun h => by cases h) (Nat.le_of_ble_eq_true rfl) (fun C hX hl hRm => by subst hl; exact pX12_isSky_go hX hRm h)
def pX12_cells (S : ZS) (M : ZM) (a0 : Int) : Option (Int × ZM) := if S.1 a0 = 12 then if S.1 (M a0 1) = 100 ∧ (0 : Int) ≤ 0 ∧ 0 < S.2.1 (M a0 1) then some (w32 ((M (M a0 1) 0) * (M (M a0 1) 0)), M) else none else none
set_option maxHeartbeats 2000000 in
set_option maxRecDepth 20000 in
theorem pX12_cells_go {C : ZC} {E : ZE} {S : ZS} {M : ZM} {a0 : Int} {q : (Int × ZM)} (hX : zCx C E 12 cX12_cells 1 (some .int) false) (hRm : czR C = { frames := 1, cells := 0, slots := 0, locals := 40 }) (h : pX12_cells  S M a0 = some q) : zG C E 1 S 0 0 (zQ C E 0 0 (some (0, q.1)) S q.2) 0 [some (2, a0)] [] M := by
  unfold pX12_cells at h
  obtain ⟨g1, h⟩ := zif h
  obtain ⟨g2, h⟩ := zif h
  refine zG.blk (pc' := 13) (l' := [some (2, a0)]) (st' := [(0, w32 ((M (M a0 1) 0) * (M (M a0 1) 0)))]) (M' := M) hX [(.aload_n 0, 0, 0, 0), (.getfield 9, 12, 1, 2), (.iconst 0, 0, 0, 0), (.iaload, 0, 0, 0), (.aload_n 0, 0, 0, 0), (.getfield 9, 12, 1, 2), (.iconst 0, 0, 0, 0), (.iaload, 0, 0, 0), (.imul, 0, 0, 0)] (by decide +kernel) rfl (And.intro g1 (And.intro g2 (And.intro g1 (And.intro g2 trivial)))) ?_
  cases h
  exact zG.iret hX (by decide +kernel)
theorem pX12_cells_ok {l : Launch} {E : ZE} {S : ZS} {M : ZM} {a0 : Int} {q : (Int × ZM)} (h : pX12_cells S M a0 = some q) : zMet l yX12_cells cX12_cells 1 (some .int) 1 40 0 0 E S M [(2, a0)] (some (0, q.1)) S q.2 :=
  zMet.of (o := 12) (ini := false) (by decide +kernel) rfl (fun h => by cases h) (Nat.le_of_ble_eq_true rfl) (fun C hX hl hRm => by subst hl; exact pX12_cells_go hX hRm h)
theorem sv_12_134 : zSV 12 134 yX12_cells cX12_cells 1 (some .int) 0 := ⟨⟨gt_at 1472 (by decide +kernel) rfl, gt_at 1474 (by decide +kernel) rfl, gt_at 66 (by decide +kernel) rfl, gt_at 117 (by decide +kernel) rfl, gt_at 1475 (by decide +kernel) rfl⟩, by decide +kernel, by decide +kernel, by decide +kernel⟩
theorem ss_12_138 : zSS 12 138 yX12_in cX12_in 6 (some .boolean) 3 := ⟨⟨gt_at 1367 (by decide +kernel) rfl, gt_at 1368 (by decide +kernel) rfl, gt_at 117 (by decide +kernel) rfl, gt_at 1369 (by decide +kernel) rfl⟩, by decide +kernel, by decide +kernel, by decide +kernel⟩
def pX12_isCell (S : ZS) (M : ZM) (a0 : Int) (a1 : Int) : Option (Int × ZM) := if S.1 a0 = 12 then (pX12_cells S M a0).bind fun q1 => (pX12_in S q1.2 a1 0 (w32 (q1.1 - 1))).bind fun q4 => if q4.1 = 0 ∨ q4.1 = 1 then some (q4.1, q4.2) else none else none
set_option maxHeartbeats 2000000 in
set_option maxRecDepth 20000 in
theorem pX12_isCell_go {C : ZC} {E : ZE} {S : ZS} {M : ZM} {a0 a1 : Int} {q : (Int × ZM)} (hX : zCx C E 12 cX12_isCell 2 (some .boolean) false) (hRm : czR C = { frames := 2, cells := 0, slots := 0, locals := 65 }) (h : pX12_isCell  S M a0 a1 = some q) : zG C E 2 S 0 0 (zQ C E 0 0 (some (0, q.1)) S q.2) 0 [some (2, a0), some (0, a1)] [] M := by
  unfold pX12_isCell at h
  refine zG.blk (pc' := 4) (l' := [some (2, a0), some (0, a1)]) (st' := [(2, a0), (1, 0), (1, a1)]) (M' := M) hX [(.iload_n 1, 0, 0, 0), (.i2l, 0, 0, 0), (.lconst 0, 0, 0, 0), (.aload_n 0, 0, 0, 0)] (by decide +kernel) rfl trivial ?_
  obtain ⟨g3, h⟩ := zif h
  obtain ⟨q1, e2, h⟩ := zbd h
  refine zG.callV (b := a0) (av := []) (st := [(1, 0), (1, a1)]) (ci := 12) hX (pX12_cells_ok e2) sv_12_134 rfl ⟨by decide, rfl⟩ g3 (by decide +kernel) (by rw [hRm]; exact ⟨Nat.le_of_ble_eq_true rfl, Nat.le_of_ble_eq_true rfl⟩) (by rw [hRm]; exact ⟨Nat.le_of_ble_eq_true rfl, Nat.le_of_ble_eq_true rfl⟩) (Nat.le_of_ble_eq_true rfl) ?_
  show zG C E 2 S 0 0 _ 7 [some (2, a0), some (0, a1)] [(0, q1.1), (1, 0), (1, a1)] q1.2
  refine zG.blk (pc' := 10) (l' := [some (2, a0), some (0, a1)]) (st' := [(1, w32 (q1.1 - 1)), (1, 0), (1, a1)]) (M' := q1.2) hX [(.iconst 1, 0, 0, 0), (.isub, 0, 0, 0), (.i2l, 0, 0, 0)] (by decide +kernel) rfl trivial ?_
  obtain ⟨q4, e5, h⟩ := zbd h
  refine zG.callS (av := [(1, a1), (1, 0), (1, w32 (q1.1 - 1))]) (st := []) hX (pX12_in_ok e5) ss_12_138 rfl (by decide +kernel) (by rw [hRm]; exact ⟨Nat.le_of_ble_eq_true rfl, Nat.le_of_ble_eq_true rfl⟩) (by rw [hRm]; exact ⟨Nat.le_of_ble_eq_true rfl, Nat.le_of_ble_eq_true rfl⟩) (Nat.le_of_ble_eq_true rfl) ?_
  show zG C E 2 S 0 0 _ 13 [some (2, a0), some (0, a1)] [(0, q4.1)] q4.2
  obtain ⟨g6, h⟩ := zif h
  cases h
  exact zG.zret hX (by decide +kernel) g6
theorem pX12_isCell_ok {l : Launch} {E : ZE} {S : ZS} {M : ZM} {a0 a1 : Int} {q : (Int × ZM)} (h : pX12_isCell S M a0 a1 = some q) : zMet l yX12_isCell cX12_isCell 2 (some .boolean) 2 65 0 0 E S M [(2, a0), (0, a1)] (some (0, q.1)) S q.2 :=
  zMet.of (o := 12) (ini := false) (by decide +kernel) rfl (fun h => by cases h) (Nat.le_of_ble_eq_true rfl) (fun C hX hl hRm => by subst hl; exact pX12_isCell_go hX hRm h)
def pX12_isPen (S : ZS) (M : ZM) (a0 : Int) (a1 : Int) : Option (Int × ZM) := if S.1 a0 = 12 then if S.1 (M a0 1) = 100 ∧ (0 : Int) ≤ 2 ∧ 2 < S.2.1 (M a0 1) then (pX12_in S M a1 0 (w32 ((M (M a0 1) 2) - 1))).bind fun q3 => if q3.1 = 0 ∨ q3.1 = 1 then some (q3.1, q3.2) else none else none else none
set_option maxHeartbeats 2000000 in
set_option maxRecDepth 20000 in
theorem pX12_isPen_go {C : ZC} {E : ZE} {S : ZS} {M : ZM} {a0 a1 : Int} {q : (Int × ZM)} (hX : zCx C E 12 cX12_isPen 2 (some .boolean) false) (hRm : czR C = { frames := 2, cells := 0, slots := 0, locals := 65 }) (h : pX12_isPen  S M a0 a1 = some q) : zG C E 2 S 0 0 (zQ C E 0 0 (some (0, q.1)) S q.2) 0 [some (2, a0), some (0, a1)] [] M := by
  unfold pX12_isPen at h
  obtain ⟨g1, h⟩ := zif h
  obtain ⟨g2, h⟩ := zif h
  refine zG.blk (pc' := 12) (l' := [some (2, a0), some (0, a1)]) (st' := [(1, w32 ((M (M a0 1) 2) - 1)), (1, 0), (1, a1)]) (M' := M) hX [(.iload_n 1, 0, 0, 0), (.i2l, 0, 0, 0), (.lconst 0, 0, 0, 0), (.aload_n 0, 0, 0, 0), (.getfield 9, 12, 1, 2), (.iconst 2, 0, 0, 0), (.iaload, 0, 0, 0), (.iconst 1, 0, 0, 0), (.isub, 0, 0, 0), (.i2l, 0, 0, 0)] (by decide +kernel) rfl (And.intro g1 (And.intro g2 trivial)) ?_
  obtain ⟨q3, e4, h⟩ := zbd h
  refine zG.callS (av := [(1, a1), (1, 0), (1, w32 ((M (M a0 1) 2) - 1))]) (st := []) hX (pX12_in_ok e4) ss_12_138 rfl (by decide +kernel) (by rw [hRm]; exact ⟨Nat.le_of_ble_eq_true rfl, Nat.le_of_ble_eq_true rfl⟩) (by rw [hRm]; exact ⟨Nat.le_of_ble_eq_true rfl, Nat.le_of_ble_eq_true rfl⟩) (Nat.le_of_ble_eq_true rfl) ?_
  show zG C E 2 S 0 0 _ 15 [some (2, a0), some (0, a1)] [(0, q3.1)] q3.2
  obtain ⟨g5, h⟩ := zif h
  cases h
  exact zG.zret hX (by decide +kernel) g5
theorem pX12_isPen_ok {l : Launch} {E : ZE} {S : ZS} {M : ZM} {a0 a1 : Int} {q : (Int × ZM)} (h : pX12_isPen S M a0 a1 = some q) : zMet l yX12_isPen cX12_isPen 2 (some .boolean) 2 65 0 0 E S M [(2, a0), (0, a1)] (some (0, q.1)) S q.2 :=
  zMet.of (o := 12) (ini := false) (by decide +kernel) rfl (fun h => by cases h) (Nat.le_of_ble_eq_true rfl) (fun C hX hl hRm => by subst hl; exact pX12_isPen_go hX hRm h)
def pX12_strokesOf_4 (S : ZS) : Nat → ZM → Int → Int → Int → Int → Option (Int × ZM)
  | 0 => fun _ _ _ _ _ => none
  | n + 1 => fun M x0 x1 x2 x3 => if S.1 x0 = 12 then (pX12_cells S M x0).bind fun q1 => if q1.1 ≤ x3 then (some (x2, q1.2)) else (if S.1 (q1.2 x0 4) = 100 ∧ (0 : Int) ≤ x3 ∧ x3 < S.2.1 (q1.2 x0 4) then zlet (w32 (x2 + (if q1.2 (q1.2 x0 4) x3 = x1 then (1 : Int) else 0))) fun x7 => pX12_strokesOf_4 S n q1.2 x0 x1 x7 (w32 (x3 + 1)) else none) else none
set_option maxHeartbeats 2000000 in
set_option maxRecDepth 20000 in
theorem pX12_strokesOf_4_ok {C : ZC} {E : ZE} {S : ZS} {q : (Int × ZM)} (hX : zCx C E 12 cX12_strokesOf 4 (some .int) false) (hRm : czR C = { frames := 2, cells := 0, slots := 0, locals := 60 }) : ∀ (n : Nat) (M : ZM) (x0 : Int) (x1 : Int) (x2 : Int) (x3 : Int), pX12_strokesOf_4 S n M x0 x1 x2 x3 = some q → zG C E 4 S 0 0 (zQ C E 0 0 (some (0, q.1)) S q.2) 4 [some (2, x0), some (0, x1), some (0, x2), some (0, x3)] [] M := by
  intro n
  induction n with
  | zero => intro M x0 x1 x2 x3 h; cases h
  | succ n ih =>
    intro M x0 x1 x2 x3 h
    unfold pX12_strokesOf_4 at h
    refine zG.blk (pc' := 6) (l' := [some (2, x0), some (0, x1), some (0, x2), some (0, x3)]) (st' := [(2, x0), (0, x3)]) (M' := M) hX [(.iload_n 3, 0, 0, 0), (.aload_n 0, 0, 0, 0)] (by decide +kernel) rfl trivial ?_
    obtain ⟨g3, h⟩ := zif h
    obtain ⟨q1, e2, h⟩ := zbd h
    refine zG.callV (b := x0) (av := []) (st := [(0, x3)]) (ci := 12) hX (pX12_cells_ok e2) sv_12_134 rfl ⟨by decide, rfl⟩ g3 (by decide +kernel) (by rw [hRm]; exact ⟨Nat.le_of_ble_eq_true rfl, Nat.le_of_ble_eq_true rfl⟩) (by rw [hRm]; exact ⟨Nat.le_of_ble_eq_true rfl, Nat.le_of_ble_eq_true rfl⟩) (Nat.le_of_ble_eq_true rfl) ?_
    show zG C E 4 S 0 0 _ 9 [some (2, x0), some (0, x1), some (0, x2), some (0, x3)] [(0, q1.1), (0, x3)] q1.2
    refine zG.icmp_ge (tgt := 36) (off := 27) hX (by decide +kernel) (by decide) (fun c4 => ?_) (fun c4 => ?_)
    · have h := zip c4 h
      refine zG.blk (pc' := 37) (l' := [some (2, x0), some (0, x1), some (0, x2), some (0, x3)]) (st' := [(0, x2)]) (M' := q1.2) hX [(.iload_n 2, 0, 0, 0)] (by decide +kernel) rfl trivial ?_
      cases h
      exact zG.iret hX (by decide +kernel)
    · have h := zin c4 h
      obtain ⟨g5, h⟩ := zif h
      refine zG.blk (pc' := 20) (l' := [some (2, x0), some (0, x1), some (0, x2), some (0, x3)]) (st' := [(0, x1), (0, q1.2 (q1.2 x0 4) x3), (0, x2)]) (M' := q1.2) hX [(.iload_n 2, 0, 0, 0), (.aload_n 0, 0, 0, 0), (.getfield 19, 12, 4, 2), (.iload_n 3, 0, 0, 0), (.iaload, 0, 0, 0), (.iload_n 1, 0, 0, 0)] (by decide +kernel) rfl (And.intro g3 (And.intro g5 trivial)) ?_
      have key6 : zG C E 4 S 0 0 (zQ C E 0 0 (some (0, q.1)) S q.2) 28 [some (2, x0), some (0, x1), some (0, x2), some (0, x3)] [(0, (if q1.2 (q1.2 x0 4) x3 = x1 then (1 : Int) else 0)), (0, x2)] q1.2 := by
        refine zG.blk (pc' := 30) (l' := [some (2, x0), some (0, x1), some (0, w32 (x2 + (if q1.2 (q1.2 x0 4) x3 = x1 then (1 : Int) else 0))), some (0, x3)]) (st' := []) (M' := q1.2) hX [(.iadd, 0, 0, 0), (.istore_n 2, 0, 0, 0)] (by decide +kernel) rfl trivial ?_
        generalize w32 (x2 + (if q1.2 (q1.2 x0 4) x3 = x1 then (1 : Int) else 0)) = x7 at h ⊢
        have h := zlt h
        refine zG.blk (pc' := 33) (l' := [some (2, x0), some (0, x1), some (0, x7), some (0, w32 (x3 + 1))]) (st' := []) (M' := q1.2) hX [(.iinc 3 1, 0, 0, 0)] (by decide +kernel) rfl trivial ?_
        refine zG.goto (tgt := 4) (off := (-29)) hX (by decide +kernel) (by decide) ?_
        exact ih _ _ _ _ _ h
      refine zG.icmp_ne (tgt := 27) (off := 7) hX (by decide +kernel) (by decide) (fun c8 => ?_) (fun c8 => ?_)
      · refine zG.blk (pc' := 28) (l' := [some (2, x0), some (0, x1), some (0, x2), some (0, x3)]) (st' := [(0, 0), (0, x2)]) (M' := q1.2) hX [(.iconst 0, 0, 0, 0)] (by decide +kernel) rfl trivial ?_
        (have k := key6; simp only [if_neg c8] at k; exact k)
      · refine zG.blk (pc' := 24) (l' := [some (2, x0), some (0, x1), some (0, x2), some (0, x3)]) (st' := [(0, 1), (0, x2)]) (M' := q1.2) hX [(.iconst 1, 0, 0, 0)] (by decide +kernel) rfl trivial ?_
        refine zG.goto (tgt := 28) (off := 4) hX (by decide +kernel) (by decide) ?_
        (have k := key6; simp only [if_pos c8] at k; exact k)
def pX12_strokesOf (S : ZS) (M : ZM) (a0 : Int) (a1 : Int) : Option (Int × ZM) := pX12_strokesOf_4 S zFU M a0 a1 0 0
set_option maxHeartbeats 2000000 in
set_option maxRecDepth 20000 in
theorem pX12_strokesOf_go {C : ZC} {E : ZE} {S : ZS} {M : ZM} {a0 a1 : Int} {q : (Int × ZM)} (hX : zCx C E 12 cX12_strokesOf 4 (some .int) false) (hRm : czR C = { frames := 2, cells := 0, slots := 0, locals := 60 }) (h : pX12_strokesOf  S M a0 a1 = some q) : zG C E 4 S 0 0 (zQ C E 0 0 (some (0, q.1)) S q.2) 0 [some (2, a0), some (0, a1), none, none] [] M := by
  unfold pX12_strokesOf at h
  refine zG.blk (pc' := 4) (l' := [some (2, a0), some (0, a1), some (0, 0), some (0, 0)]) (st' := []) (M' := M) hX [(.iconst 0, 0, 0, 0), (.istore_n 2, 0, 0, 0), (.iconst 0, 0, 0, 0), (.istore_n 3, 0, 0, 0)] (by decide +kernel) rfl trivial ?_
  exact (pX12_strokesOf_4_ok hX hRm zFU _ _ _ _ _ h)
theorem pX12_strokesOf_ok {l : Launch} {E : ZE} {S : ZS} {M : ZM} {a0 a1 : Int} {q : (Int × ZM)} (h : pX12_strokesOf S M a0 a1 = some q) : zMet l yX12_strokesOf cX12_strokesOf 4 (some .int) 2 60 0 0 E S M [(2, a0), (0, a1)] (some (0, q.1)) S q.2 :=
  zMet.of (o := 12) (ini := false) (by decide +kernel) rfl (fun h => by cases h) (Nat.le_of_ble_eq_true rfl) (fun C hX hl hRm => by subst hl; exact pX12_strokesOf_go hX hRm h)
theorem sv_12_338 : zSV 12 338 yX12_strokesOf cX12_strokesOf 4 (some .int) 1 := ⟨⟨gt_at 1468 (by decide +kernel) rfl, gt_at 1470 (by decide +kernel) rfl, gt_at 65 (by decide +kernel) rfl, gt_at 117 (by decide +kernel) rfl, gt_at 1471 (by decide +kernel) rfl⟩, by decide +kernel, by decide +kernel, by decide +kernel⟩
def pX12_allStrokes (S : ZS) (M : ZM) (a0 : Int) : Option (Int × ZM) := if S.1 a0 = 12 then (pX12_cells S M a0).bind fun q1 => (pX12_strokesOf S q1.2 a0 (-1)).bind fun q4 => some (w32 (q1.1 - q4.1), q4.2) else none
set_option maxHeartbeats 2000000 in
set_option maxRecDepth 20000 in
theorem pX12_allStrokes_go {C : ZC} {E : ZE} {S : ZS} {M : ZM} {a0 : Int} {q : (Int × ZM)} (hX : zCx C E 12 cX12_allStrokes 1 (some .int) false) (hRm : czR C = { frames := 3, cells := 0, slots := 0, locals := 83 }) (h : pX12_allStrokes  S M a0 = some q) : zG C E 1 S 0 0 (zQ C E 0 0 (some (0, q.1)) S q.2) 0 [some (2, a0)] [] M := by
  unfold pX12_allStrokes at h
  refine zG.blk (pc' := 1) (l' := [some (2, a0)]) (st' := [(2, a0)]) (M' := M) hX [(.aload_n 0, 0, 0, 0)] (by decide +kernel) rfl trivial ?_
  obtain ⟨g3, h⟩ := zif h
  obtain ⟨q1, e2, h⟩ := zbd h
  refine zG.callV (b := a0) (av := []) (st := []) (ci := 12) hX (pX12_cells_ok e2) sv_12_134 rfl ⟨by decide, rfl⟩ g3 (by decide +kernel) (by rw [hRm]; exact ⟨Nat.le_of_ble_eq_true rfl, Nat.le_of_ble_eq_true rfl⟩) (by rw [hRm]; exact ⟨Nat.le_of_ble_eq_true rfl, Nat.le_of_ble_eq_true rfl⟩) (Nat.le_of_ble_eq_true rfl) ?_
  show zG C E 1 S 0 0 _ 4 [some (2, a0)] [(0, q1.1)] q1.2
  refine zG.blk (pc' := 6) (l' := [some (2, a0)]) (st' := [(0, (-1)), (2, a0), (0, q1.1)]) (M' := q1.2) hX [(.aload_n 0, 0, 0, 0), (.iconst (-1), 0, 0, 0)] (by decide +kernel) rfl trivial ?_
  obtain ⟨q4, e5, h⟩ := zbd h
  refine zG.callV (b := a0) (av := [(0, (-1))]) (st := [(0, q1.1)]) (ci := 12) hX (pX12_strokesOf_ok e5) sv_12_338 rfl ⟨by decide, rfl⟩ g3 (by decide +kernel) (by rw [hRm]; exact ⟨Nat.le_of_ble_eq_true rfl, Nat.le_of_ble_eq_true rfl⟩) (by rw [hRm]; exact ⟨Nat.le_of_ble_eq_true rfl, Nat.le_of_ble_eq_true rfl⟩) (Nat.le_of_ble_eq_true rfl) ?_
  show zG C E 1 S 0 0 _ 9 [some (2, a0)] [(0, q4.1), (0, q1.1)] q4.2
  refine zG.blk (pc' := 10) (l' := [some (2, a0)]) (st' := [(0, w32 (q1.1 - q4.1))]) (M' := q4.2) hX [(.isub, 0, 0, 0)] (by decide +kernel) rfl trivial ?_
  cases h
  exact zG.iret hX (by decide +kernel)
theorem pX12_allStrokes_ok {l : Launch} {E : ZE} {S : ZS} {M : ZM} {a0 : Int} {q : (Int × ZM)} (h : pX12_allStrokes S M a0 = some q) : zMet l yX12_allStrokes cX12_allStrokes 1 (some .int) 3 83 0 0 E S M [(2, a0)] (some (0, q.1)) S q.2 :=
  zMet.of (o := 12) (ini := false) (by decide +kernel) rfl (fun h => by cases h) (Nat.le_of_ble_eq_true rfl) (fun C hX hl hRm => by subst hl; exact pX12_allStrokes_go hX hRm h)
def pX12_like_4 (S : ZS) : Nat → ZM → Int → Int → Int → Option (Int × ZM)
  | 0 => fun _ _ _ _ => none
  | n + 1 => fun M x0 x1 x2 => if S.1 x0 = 12 then (pX12_cells S M x0).bind fun q1 => if q1.1 ≤ x2 then (some (x1, q1.2)) else (if S.1 (q1.2 x0 4) = 100 ∧ (0 : Int) ≤ x2 ∧ x2 < S.2.1 (q1.2 x0 4) then if S.1 (q1.2 x0 8) = 100 ∧ (0 : Int) ≤ x2 ∧ x2 < S.2.1 (q1.2 x0 8) then zlet (w32 (x1 + (if (if q1.2 (q1.2 x0 4) x2 = (-1) then (0 : Int) else 1) = (if q1.2 (q1.2 x0 8) x2 = 1 then (1 : Int) else 0) then (1 : Int) else 0))) fun x10 => pX12_like_4 S n q1.2 x0 x10 (w32 (x2 + 1)) else none else none) else none
set_option maxHeartbeats 2000000 in
set_option maxRecDepth 20000 in
theorem pX12_like_4_ok {C : ZC} {E : ZE} {S : ZS} {q : (Int × ZM)} (hX : zCx C E 12 cX12_like 3 (some .int) false) (hRm : czR C = { frames := 2, cells := 0, slots := 0, locals := 60 }) : ∀ (n : Nat) (M : ZM) (x0 : Int) (x1 : Int) (x2 : Int), pX12_like_4 S n M x0 x1 x2 = some q → zG C E 3 S 0 0 (zQ C E 0 0 (some (0, q.1)) S q.2) 4 [some (2, x0), some (0, x1), some (0, x2)] [] M := by
  intro n
  induction n with
  | zero => intro M x0 x1 x2 h; cases h
  | succ n ih =>
    intro M x0 x1 x2 h
    unfold pX12_like_4 at h
    refine zG.blk (pc' := 6) (l' := [some (2, x0), some (0, x1), some (0, x2)]) (st' := [(2, x0), (0, x2)]) (M' := M) hX [(.iload_n 2, 0, 0, 0), (.aload_n 0, 0, 0, 0)] (by decide +kernel) rfl trivial ?_
    obtain ⟨g3, h⟩ := zif h
    obtain ⟨q1, e2, h⟩ := zbd h
    refine zG.callV (b := x0) (av := []) (st := [(0, x2)]) (ci := 12) hX (pX12_cells_ok e2) sv_12_134 rfl ⟨by decide, rfl⟩ g3 (by decide +kernel) (by rw [hRm]; exact ⟨Nat.le_of_ble_eq_true rfl, Nat.le_of_ble_eq_true rfl⟩) (by rw [hRm]; exact ⟨Nat.le_of_ble_eq_true rfl, Nat.le_of_ble_eq_true rfl⟩) (Nat.le_of_ble_eq_true rfl) ?_
    show zG C E 3 S 0 0 _ 9 [some (2, x0), some (0, x1), some (0, x2)] [(0, q1.1), (0, x2)] q1.2
    refine zG.icmp_ge (tgt := 59) (off := 50) hX (by decide +kernel) (by decide) (fun c4 => ?_) (fun c4 => ?_)
    · have h := zip c4 h
      refine zG.blk (pc' := 60) (l' := [some (2, x0), some (0, x1), some (0, x2)]) (st' := [(0, x1)]) (M' := q1.2) hX [(.iload_n 1, 0, 0, 0)] (by decide +kernel) rfl trivial ?_
      cases h
      exact zG.iret hX (by decide +kernel)
    · have h := zin c4 h
      obtain ⟨g5, h⟩ := zif h
      refine zG.blk (pc' := 20) (l' := [some (2, x0), some (0, x1), some (0, x2)]) (st' := [(0, (-1)), (0, q1.2 (q1.2 x0 4) x2), (0, x1)]) (M' := q1.2) hX [(.iload_n 1, 0, 0, 0), (.aload_n 0, 0, 0, 0), (.getfield 19, 12, 4, 2), (.iload_n 2, 0, 0, 0), (.iaload, 0, 0, 0), (.iconst (-1), 0, 0, 0)] (by decide +kernel) rfl (And.intro g3 (And.intro g5 trivial)) ?_
      have key6 : zG C E 3 S 0 0 (zQ C E 0 0 (some (0, q.1)) S q.2) 28 [some (2, x0), some (0, x1), some (0, x2)] [(0, (if q1.2 (q1.2 x0 4) x2 = (-1) then (0 : Int) else 1)), (0, x1)] q1.2 := by
        obtain ⟨g7, h⟩ := zif h
        refine zG.blk (pc' := 35) (l' := [some (2, x0), some (0, x1), some (0, x2)]) (st' := [(0, 1), (0, q1.2 (q1.2 x0 8) x2), (0, (if q1.2 (q1.2 x0 4) x2 = (-1) then (0 : Int) else 1)), (0, x1)]) (M' := q1.2) hX [(.aload_n 0, 0, 0, 0), (.getfield 31, 12, 8, 2), (.iload_n 2, 0, 0, 0), (.iaload, 0, 0, 0), (.iconst 1, 0, 0, 0)] (by decide +kernel) rfl (And.intro g3 (And.intro g7 trivial)) ?_
        have key8 : zG C E 3 S 0 0 (zQ C E 0 0 (some (0, q.1)) S q.2) 43 [some (2, x0), some (0, x1), some (0, x2)] [(0, (if q1.2 (q1.2 x0 8) x2 = 1 then (1 : Int) else 0)), (0, (if q1.2 (q1.2 x0 4) x2 = (-1) then (0 : Int) else 1)), (0, x1)] q1.2 := by
          have key9 : zG C E 3 S 0 0 (zQ C E 0 0 (some (0, q.1)) S q.2) 51 [some (2, x0), some (0, x1), some (0, x2)] [(0, (if (if q1.2 (q1.2 x0 4) x2 = (-1) then (0 : Int) else 1) = (if q1.2 (q1.2 x0 8) x2 = 1 then (1 : Int) else 0) then (1 : Int) else 0)), (0, x1)] q1.2 := by
            refine zG.blk (pc' := 53) (l' := [some (2, x0), some (0, w32 (x1 + (if (if q1.2 (q1.2 x0 4) x2 = (-1) then (0 : Int) else 1) = (if q1.2 (q1.2 x0 8) x2 = 1 then (1 : Int) else 0) then (1 : Int) else 0))), some (0, x2)]) (st' := []) (M' := q1.2) hX [(.iadd, 0, 0, 0), (.istore_n 1, 0, 0, 0)] (by decide +kernel) rfl trivial ?_
            generalize w32 (x1 + (if (if q1.2 (q1.2 x0 4) x2 = (-1) then (0 : Int) else 1) = (if q1.2 (q1.2 x0 8) x2 = 1 then (1 : Int) else 0) then (1 : Int) else 0)) = x10 at h ⊢
            have h := zlt h
            refine zG.blk (pc' := 56) (l' := [some (2, x0), some (0, x10), some (0, w32 (x2 + 1))]) (st' := []) (M' := q1.2) hX [(.iinc 2 1, 0, 0, 0)] (by decide +kernel) rfl trivial ?_
            refine zG.goto (tgt := 4) (off := (-52)) hX (by decide +kernel) (by decide) ?_
            exact ih _ _ _ _ h
          refine zG.icmp_ne (tgt := 50) (off := 7) hX (by decide +kernel) (by decide) (fun c11 => ?_) (fun c11 => ?_)
          · refine zG.blk (pc' := 51) (l' := [some (2, x0), some (0, x1), some (0, x2)]) (st' := [(0, 0), (0, x1)]) (M' := q1.2) hX [(.iconst 0, 0, 0, 0)] (by decide +kernel) rfl trivial ?_
            (have k := key9; simp only [if_neg c11] at k; exact k)
          · refine zG.blk (pc' := 47) (l' := [some (2, x0), some (0, x1), some (0, x2)]) (st' := [(0, 1), (0, x1)]) (M' := q1.2) hX [(.iconst 1, 0, 0, 0)] (by decide +kernel) rfl trivial ?_
            refine zG.goto (tgt := 51) (off := 4) hX (by decide +kernel) (by decide) ?_
            (have k := key9; simp only [if_pos c11] at k; exact k)
        refine zG.icmp_ne (tgt := 42) (off := 7) hX (by decide +kernel) (by decide) (fun c12 => ?_) (fun c12 => ?_)
        · refine zG.blk (pc' := 43) (l' := [some (2, x0), some (0, x1), some (0, x2)]) (st' := [(0, 0), (0, (if q1.2 (q1.2 x0 4) x2 = (-1) then (0 : Int) else 1)), (0, x1)]) (M' := q1.2) hX [(.iconst 0, 0, 0, 0)] (by decide +kernel) rfl trivial ?_
          (have k := key8; simp only [if_neg c12] at k; exact k)
        · refine zG.blk (pc' := 39) (l' := [some (2, x0), some (0, x1), some (0, x2)]) (st' := [(0, 1), (0, (if q1.2 (q1.2 x0 4) x2 = (-1) then (0 : Int) else 1)), (0, x1)]) (M' := q1.2) hX [(.iconst 1, 0, 0, 0)] (by decide +kernel) rfl trivial ?_
          refine zG.goto (tgt := 43) (off := 4) hX (by decide +kernel) (by decide) ?_
          (have k := key8; simp only [if_pos c12] at k; exact k)
      refine zG.icmp_eq (tgt := 27) (off := 7) hX (by decide +kernel) (by decide) (fun c13 => ?_) (fun c13 => ?_)
      · refine zG.blk (pc' := 28) (l' := [some (2, x0), some (0, x1), some (0, x2)]) (st' := [(0, 0), (0, x1)]) (M' := q1.2) hX [(.iconst 0, 0, 0, 0)] (by decide +kernel) rfl trivial ?_
        (have k := key6; simp only [if_pos c13] at k; exact k)
      · refine zG.blk (pc' := 24) (l' := [some (2, x0), some (0, x1), some (0, x2)]) (st' := [(0, 1), (0, x1)]) (M' := q1.2) hX [(.iconst 1, 0, 0, 0)] (by decide +kernel) rfl trivial ?_
        refine zG.goto (tgt := 28) (off := 4) hX (by decide +kernel) (by decide) ?_
        (have k := key6; simp only [if_neg c13] at k; exact k)
def pX12_like (S : ZS) (M : ZM) (a0 : Int) : Option (Int × ZM) := pX12_like_4 S zFU M a0 0 0
set_option maxHeartbeats 2000000 in
set_option maxRecDepth 20000 in
theorem pX12_like_go {C : ZC} {E : ZE} {S : ZS} {M : ZM} {a0 : Int} {q : (Int × ZM)} (hX : zCx C E 12 cX12_like 3 (some .int) false) (hRm : czR C = { frames := 2, cells := 0, slots := 0, locals := 60 }) (h : pX12_like  S M a0 = some q) : zG C E 3 S 0 0 (zQ C E 0 0 (some (0, q.1)) S q.2) 0 [some (2, a0), none, none] [] M := by
  unfold pX12_like at h
  refine zG.blk (pc' := 4) (l' := [some (2, a0), some (0, 0), some (0, 0)]) (st' := []) (M' := M) hX [(.iconst 0, 0, 0, 0), (.istore_n 1, 0, 0, 0), (.iconst 0, 0, 0, 0), (.istore_n 2, 0, 0, 0)] (by decide +kernel) rfl trivial ?_
  exact (pX12_like_4_ok hX hRm zFU _ _ _ _ h)
theorem pX12_like_ok {l : Launch} {E : ZE} {S : ZS} {M : ZM} {a0 : Int} {q : (Int × ZM)} (h : pX12_like S M a0 = some q) : zMet l yX12_like cX12_like 3 (some .int) 2 60 0 0 E S M [(2, a0)] (some (0, q.1)) S q.2 :=
  zMet.of (o := 12) (ini := false) (by decide +kernel) rfl (fun h => by cases h) (Nat.le_of_ble_eq_true rfl) (fun C hX hl hRm => by subst hl; exact pX12_like_go hX hRm h)
def pX12_wayOf_26 (S : ZS) (M : ZM) (y0 : Int) : Option (Int × ZM) := some (y0, M)
set_option maxHeartbeats 2000000 in
set_option maxRecDepth 20000 in
theorem pX12_wayOf_26_ok {C : ZC} {E : ZE} {S : ZS} {q : (Int × ZM)} (hX : zCx C E 12 cX12_wayOf 2 (some .int) false) (hRm : czR C = { frames := 1, cells := 0, slots := 0, locals := 40 }) {M : ZM} {y0 : Int} (h : pX12_wayOf_26 S M y0 = some q) : zG C E 2 S 0 0 (zQ C E 0 0 (some (0, q.1)) S q.2) 26 [none, none] [(0, y0)] M := by
  unfold pX12_wayOf_26 at h
  cases h
  exact zG.iret hX (by decide +kernel)
def pX12_wayOf (S : ZS) (M : ZM) (a0 : Int) (a1 : Int) : Option (Int × ZM) := if S.1 a0 = 12 then if S.1 (M a0 1) = 100 ∧ (0 : Int) ≤ 3 ∧ 3 < S.2.1 (M a0 1) then if M (M a0 1) 3 = 0 then (pX12_wayOf_26 S M 0) else (if ¬ M (M a0 1) 3 = 0 then if S.1 (M a0 6) = 100 ∧ (0 : Int) ≤ Int.tmod a1 (M (M a0 1) 3) ∧ Int.tmod a1 (M (M a0 1) 3) < S.2.1 (M a0 6) then pX12_wayOf_26 S M (M (M a0 6) (Int.tmod a1 (M (M a0 1) 3))) else none else none) else none else none
set_option maxHeartbeats 2000000 in
set_option maxRecDepth 20000 in
theorem pX12_wayOf_go {C : ZC} {E : ZE} {S : ZS} {M : ZM} {a0 a1 : Int} {q : (Int × ZM)} (hX : zCx C E 12 cX12_wayOf 2 (some .int) false) (hRm : czR C = { frames := 1, cells := 0, slots := 0, locals := 40 }) (h : pX12_wayOf  S M a0 a1 = some q) : zG C E 2 S 0 0 (zQ C E 0 0 (some (0, q.1)) S q.2) 0 [some (2, a0), some (0, a1)] [] M := by
  unfold pX12_wayOf at h
  obtain ⟨g1, h⟩ := zif h
  obtain ⟨g2, h⟩ := zif h
  refine zG.blk (pc' := 6) (l' := [some (2, a0), some (0, a1)]) (st' := [(0, M (M a0 1) 3)]) (M' := M) hX [(.aload_n 0, 0, 0, 0), (.getfield 9, 12, 1, 2), (.iconst 3, 0, 0, 0), (.iaload, 0, 0, 0)] (by decide +kernel) rfl (And.intro g1 (And.intro g2 trivial)) ?_
  refine zG.if_ne (tgt := 13) (off := 7) hX (by decide +kernel) (by decide) (fun c3 => ?_) (fun c3 => ?_)
  · have h := zin c3 h
    obtain ⟨g4, h⟩ := zif h
    obtain ⟨g5, h⟩ := zif h
    refine zG.blk (pc' := 26) (l' := [some (2, a0), some (0, a1)]) (st' := [(0, M (M a0 6) (Int.tmod a1 (M (M a0 1) 3)))]) (M' := M) hX [(.aload_n 0, 0, 0, 0), (.getfield 25, 12, 6, 2), (.iload_n 1, 0, 0, 0), (.aload_n 0, 0, 0, 0), (.getfield 9, 12, 1, 2), (.iconst 3, 0, 0, 0), (.iaload, 0, 0, 0), (.irem, 0, 0, 0), (.iaload, 0, 0, 0)] (by decide +kernel) rfl (And.intro g1 (And.intro g1 (And.intro g2 (And.intro g4 (And.intro g5 trivial))))) ?_
    exact zG.wk [false, false] (pX12_wayOf_26_ok hX hRm h)
  · have h := zip c3 h
    refine zG.blk (pc' := 10) (l' := [some (2, a0), some (0, a1)]) (st' := [(0, 0)]) (M' := M) hX [(.iconst 0, 0, 0, 0)] (by decide +kernel) rfl trivial ?_
    refine zG.goto (tgt := 26) (off := 16) hX (by decide +kernel) (by decide) ?_
    exact zG.wk [false, false] (pX12_wayOf_26_ok hX hRm h)
theorem pX12_wayOf_ok {l : Launch} {E : ZE} {S : ZS} {M : ZM} {a0 a1 : Int} {q : (Int × ZM)} (h : pX12_wayOf S M a0 a1 = some q) : zMet l yX12_wayOf cX12_wayOf 2 (some .int) 1 40 0 0 E S M [(2, a0), (0, a1)] (some (0, q.1)) S q.2 :=
  zMet.of (o := 12) (ini := false) (by decide +kernel) rfl (fun h => by cases h) (Nat.le_of_ble_eq_true rfl) (fun C hX hl hRm => by subst hl; exact pX12_wayOf_go hX hRm h)
def pX12_forceOf_26 (S : ZS) (M : ZM) (y0 : Int) : Option (Int × ZM) := some (y0, M)
set_option maxHeartbeats 2000000 in
set_option maxRecDepth 20000 in
theorem pX12_forceOf_26_ok {C : ZC} {E : ZE} {S : ZS} {q : (Int × ZM)} (hX : zCx C E 12 cX12_forceOf 2 (some .int) false) (hRm : czR C = { frames := 1, cells := 0, slots := 0, locals := 40 }) {M : ZM} {y0 : Int} (h : pX12_forceOf_26 S M y0 = some q) : zG C E 2 S 0 0 (zQ C E 0 0 (some (0, q.1)) S q.2) 26 [none, none] [(0, y0)] M := by
  unfold pX12_forceOf_26 at h
  cases h
  exact zG.iret hX (by decide +kernel)
def pX12_forceOf (S : ZS) (M : ZM) (a0 : Int) (a1 : Int) : Option (Int × ZM) := if S.1 a0 = 12 then if S.1 (M a0 1) = 100 ∧ (0 : Int) ≤ 3 ∧ 3 < S.2.1 (M a0 1) then if M (M a0 1) 3 = 0 then (pX12_forceOf_26 S M 0) else (if ¬ M (M a0 1) 3 = 0 then if S.1 (M a0 7) = 100 ∧ (0 : Int) ≤ Int.tmod a1 (M (M a0 1) 3) ∧ Int.tmod a1 (M (M a0 1) 3) < S.2.1 (M a0 7) then pX12_forceOf_26 S M (M (M a0 7) (Int.tmod a1 (M (M a0 1) 3))) else none else none) else none else none
set_option maxHeartbeats 2000000 in
set_option maxRecDepth 20000 in
theorem pX12_forceOf_go {C : ZC} {E : ZE} {S : ZS} {M : ZM} {a0 a1 : Int} {q : (Int × ZM)} (hX : zCx C E 12 cX12_forceOf 2 (some .int) false) (hRm : czR C = { frames := 1, cells := 0, slots := 0, locals := 40 }) (h : pX12_forceOf  S M a0 a1 = some q) : zG C E 2 S 0 0 (zQ C E 0 0 (some (0, q.1)) S q.2) 0 [some (2, a0), some (0, a1)] [] M := by
  unfold pX12_forceOf at h
  obtain ⟨g1, h⟩ := zif h
  obtain ⟨g2, h⟩ := zif h
  refine zG.blk (pc' := 6) (l' := [some (2, a0), some (0, a1)]) (st' := [(0, M (M a0 1) 3)]) (M' := M) hX [(.aload_n 0, 0, 0, 0), (.getfield 9, 12, 1, 2), (.iconst 3, 0, 0, 0), (.iaload, 0, 0, 0)] (by decide +kernel) rfl (And.intro g1 (And.intro g2 trivial)) ?_
  refine zG.if_ne (tgt := 13) (off := 7) hX (by decide +kernel) (by decide) (fun c3 => ?_) (fun c3 => ?_)
  · have h := zin c3 h
    obtain ⟨g4, h⟩ := zif h
    obtain ⟨g5, h⟩ := zif h
    refine zG.blk (pc' := 26) (l' := [some (2, a0), some (0, a1)]) (st' := [(0, M (M a0 7) (Int.tmod a1 (M (M a0 1) 3)))]) (M' := M) hX [(.aload_n 0, 0, 0, 0), (.getfield 28, 12, 7, 2), (.iload_n 1, 0, 0, 0), (.aload_n 0, 0, 0, 0), (.getfield 9, 12, 1, 2), (.iconst 3, 0, 0, 0), (.iaload, 0, 0, 0), (.irem, 0, 0, 0), (.iaload, 0, 0, 0)] (by decide +kernel) rfl (And.intro g1 (And.intro g1 (And.intro g2 (And.intro g4 (And.intro g5 trivial))))) ?_
    exact zG.wk [false, false] (pX12_forceOf_26_ok hX hRm h)
  · have h := zip c3 h
    refine zG.blk (pc' := 10) (l' := [some (2, a0), some (0, a1)]) (st' := [(0, 0)]) (M' := M) hX [(.iconst 0, 0, 0, 0)] (by decide +kernel) rfl trivial ?_
    refine zG.goto (tgt := 26) (off := 16) hX (by decide +kernel) (by decide) ?_
    exact zG.wk [false, false] (pX12_forceOf_26_ok hX hRm h)
theorem pX12_forceOf_ok {l : Launch} {E : ZE} {S : ZS} {M : ZM} {a0 a1 : Int} {q : (Int × ZM)} (h : pX12_forceOf S M a0 a1 = some q) : zMet l yX12_forceOf cX12_forceOf 2 (some .int) 1 40 0 0 E S M [(2, a0), (0, a1)] (some (0, q.1)) S q.2 :=
  zMet.of (o := 12) (ini := false) (by decide +kernel) rfl (fun h => by cases h) (Nat.le_of_ble_eq_true rfl) (fun C hX hl hRm => by subst hl; exact pX12_forceOf_go hX hRm h)
def pX12_beside (S : ZS) (M : ZM) (a0 : Int) (a1 : Int) (a2 : Int) : Option (Int × ZM) := if S.1 a0 = 12 then if S.1 (M a0 1) = 100 ∧ (0 : Int) ≤ 0 ∧ 0 < S.2.1 (M a0 1) then if ¬ M (M a0 1) 0 = 0 then zlet (w32 ((w32 (Int.tdiv a1 (M (M a0 1) 0))) + (if a2 = 0 then ((-1) : Int) else (if a2 = 2 then (1 : Int) else 0)))) fun x5 => zlet (w32 ((Int.tmod a1 (M (M a0 1) 0)) + (if a2 = 1 then (1 : Int) else (if a2 = 3 then ((-1) : Int) else 0)))) fun x7 => some ((if x5 < 0 then ((-1) : Int) else (if x7 < 0 then ((-1) : Int) else (if x5 = M (M a0 1) 0 then ((-1) : Int) else (if x7 = M (M a0 1) 0 then ((-1) : Int) else (w32 ((w32 ((M (M a0 1) 0) * x5)) + x7)))))), M) else none else none else none
set_option maxHeartbeats 2000000 in
set_option maxRecDepth 20000 in
theorem pX12_beside_go {C : ZC} {E : ZE} {S : ZS} {M : ZM} {a0 a1 a2 : Int} {q : (Int × ZM)} (hX : zCx C E 12 cX12_beside 6 (some .int) false) (hRm : czR C = { frames := 1, cells := 0, slots := 0, locals := 40 }) (h : pX12_beside  S M a0 a1 a2 = some q) : zG C E 6 S 0 0 (zQ C E 0 0 (some (0, q.1)) S q.2) 0 [some (2, a0), some (0, a1), some (0, a2), none, none, none] [] M := by
  unfold pX12_beside at h
  obtain ⟨g1, h⟩ := zif h
  obtain ⟨g2, h⟩ := zif h
  obtain ⟨g3, h⟩ := zif h
  refine zG.blk (pc' := 11) (l' := [some (2, a0), some (0, a1), some (0, a2), some (0, M (M a0 1) 0), none, none]) (st' := [(0, a2), (0, w32 (Int.tdiv a1 (M (M a0 1) 0)))]) (M' := M) hX [(.aload_n 0, 0, 0, 0), (.getfield 9, 12, 1, 2), (.iconst 0, 0, 0, 0), (.iaload, 0, 0, 0), (.istore_n 3, 0, 0, 0), (.iload_n 1, 0, 0, 0), (.iload_n 3, 0, 0, 0), (.idiv, 0, 0, 0), (.iload_n 2, 0, 0, 0)] (by decide +kernel) rfl (And.intro g1 (And.intro g2 (And.intro g3 trivial))) ?_
  have key4 : zG C E 6 S 0 0 (zQ C E 0 0 (some (0, q.1)) S q.2) 28 [some (2, a0), some (0, a1), some (0, a2), some (0, M (M a0 1) 0), none, none] [(0, (if a2 = 0 then ((-1) : Int) else (if a2 = 2 then (1 : Int) else 0))), (0, w32 (Int.tdiv a1 (M (M a0 1) 0)))] M := by
    refine zG.blk (pc' := 31) (l' := [some (2, a0), some (0, a1), some (0, a2), some (0, M (M a0 1) 0), some (0, w32 ((w32 (Int.tdiv a1 (M (M a0 1) 0))) + (if a2 = 0 then ((-1) : Int) else (if a2 = 2 then (1 : Int) else 0)))), none]) (st' := []) (M' := M) hX [(.iadd, 0, 0, 0), (.istore 4, 0, 0, 0)] (by decide +kernel) rfl trivial ?_
    generalize w32 ((w32 (Int.tdiv a1 (M (M a0 1) 0))) + (if a2 = 0 then ((-1) : Int) else (if a2 = 2 then (1 : Int) else 0))) = x5 at h ⊢
    have h := zlt h
    refine zG.blk (pc' := 36) (l' := [some (2, a0), some (0, a1), some (0, a2), some (0, M (M a0 1) 0), some (0, x5), none]) (st' := [(0, 1), (0, a2), (0, Int.tmod a1 (M (M a0 1) 0))]) (M' := M) hX [(.iload_n 1, 0, 0, 0), (.iload_n 3, 0, 0, 0), (.irem, 0, 0, 0), (.iload_n 2, 0, 0, 0), (.iconst 1, 0, 0, 0)] (by decide +kernel) rfl (And.intro g3 trivial) ?_
    have key6 : zG C E 6 S 0 0 (zQ C E 0 0 (some (0, q.1)) S q.2) 53 [some (2, a0), some (0, a1), some (0, a2), some (0, M (M a0 1) 0), some (0, x5), none] [(0, (if a2 = 1 then (1 : Int) else (if a2 = 3 then ((-1) : Int) else 0))), (0, Int.tmod a1 (M (M a0 1) 0))] M := by
      refine zG.blk (pc' := 56) (l' := [some (2, a0), some (0, a1), some (0, a2), some (0, M (M a0 1) 0), some (0, x5), some (0, w32 ((Int.tmod a1 (M (M a0 1) 0)) + (if a2 = 1 then (1 : Int) else (if a2 = 3 then ((-1) : Int) else 0))))]) (st' := []) (M' := M) hX [(.iadd, 0, 0, 0), (.istore 5, 0, 0, 0)] (by decide +kernel) rfl trivial ?_
      generalize w32 ((Int.tmod a1 (M (M a0 1) 0)) + (if a2 = 1 then (1 : Int) else (if a2 = 3 then ((-1) : Int) else 0))) = x7 at h ⊢
      have h := zlt h
      refine zG.blk (pc' := 58) (l' := [some (2, a0), some (0, a1), some (0, a2), some (0, M (M a0 1) 0), some (0, x5), some (0, x7)]) (st' := [(0, x5)]) (M' := M) hX [(.iload 4, 0, 0, 0)] (by decide +kernel) rfl trivial ?_
      have key8 : zG C E 6 S 0 0 (zQ C E 0 0 (some (0, q.1)) S q.2) 89 [some (2, a0), some (0, a1), some (0, a2), some (0, M (M a0 1) 0), some (0, x5), some (0, x7)] [(0, (if x5 < 0 then ((-1) : Int) else (if x7 < 0 then ((-1) : Int) else (if x5 = M (M a0 1) 0 then ((-1) : Int) else (if x7 = M (M a0 1) 0 then ((-1) : Int) else (w32 ((w32 ((M (M a0 1) 0) * x5)) + x7)))))))] M := by
        cases h
        exact zG.iret hX (by decide +kernel)
      refine zG.if_lt (tgt := 78) (off := 20) hX (by decide +kernel) (by decide) (fun c9 => ?_) (fun c9 => ?_)
      · refine zG.blk (pc' := 79) (l' := [some (2, a0), some (0, a1), some (0, a2), some (0, M (M a0 1) 0), some (0, x5), some (0, x7)]) (st' := [(0, (-1))]) (M' := M) hX [(.iconst (-1), 0, 0, 0)] (by decide +kernel) rfl trivial ?_
        refine zG.goto (tgt := 89) (off := 10) hX (by decide +kernel) (by decide) ?_
        (have k := key8; simp only [if_pos c9] at k; exact k)
      · refine zG.blk (pc' := 63) (l' := [some (2, a0), some (0, a1), some (0, a2), some (0, M (M a0 1) 0), some (0, x5), some (0, x7)]) (st' := [(0, x7)]) (M' := M) hX [(.iload 5, 0, 0, 0)] (by decide +kernel) rfl trivial ?_
        refine zG.if_lt (tgt := 78) (off := 15) hX (by decide +kernel) (by decide) (fun c10 => ?_) (fun c10 => ?_)
        · refine zG.blk (pc' := 79) (l' := [some (2, a0), some (0, a1), some (0, a2), some (0, M (M a0 1) 0), some (0, x5), some (0, x7)]) (st' := [(0, (-1))]) (M' := M) hX [(.iconst (-1), 0, 0, 0)] (by decide +kernel) rfl trivial ?_
          refine zG.goto (tgt := 89) (off := 10) hX (by decide +kernel) (by decide) ?_
          (have k := key8; simp only [if_neg c9, if_pos c10] at k; exact k)
        · refine zG.blk (pc' := 69) (l' := [some (2, a0), some (0, a1), some (0, a2), some (0, M (M a0 1) 0), some (0, x5), some (0, x7)]) (st' := [(0, M (M a0 1) 0), (0, x5)]) (M' := M) hX [(.iload 4, 0, 0, 0), (.iload_n 3, 0, 0, 0)] (by decide +kernel) rfl trivial ?_
          refine zG.icmp_eq (tgt := 78) (off := 9) hX (by decide +kernel) (by decide) (fun c11 => ?_) (fun c11 => ?_)
          · refine zG.blk (pc' := 79) (l' := [some (2, a0), some (0, a1), some (0, a2), some (0, M (M a0 1) 0), some (0, x5), some (0, x7)]) (st' := [(0, (-1))]) (M' := M) hX [(.iconst (-1), 0, 0, 0)] (by decide +kernel) rfl trivial ?_
            refine zG.goto (tgt := 89) (off := 10) hX (by decide +kernel) (by decide) ?_
            (have k := key8; simp only [if_neg c9, if_neg c10, if_pos c11] at k; exact k)
          · refine zG.blk (pc' := 75) (l' := [some (2, a0), some (0, a1), some (0, a2), some (0, M (M a0 1) 0), some (0, x5), some (0, x7)]) (st' := [(0, M (M a0 1) 0), (0, x7)]) (M' := M) hX [(.iload 5, 0, 0, 0), (.iload_n 3, 0, 0, 0)] (by decide +kernel) rfl trivial ?_
            refine zG.icmp_ne (tgt := 82) (off := 7) hX (by decide +kernel) (by decide) (fun c12 => ?_) (fun c12 => ?_)
            · refine zG.blk (pc' := 89) (l' := [some (2, a0), some (0, a1), some (0, a2), some (0, M (M a0 1) 0), some (0, x5), some (0, x7)]) (st' := [(0, w32 ((w32 ((M (M a0 1) 0) * x5)) + x7))]) (M' := M) hX [(.iload_n 3, 0, 0, 0), (.iload 4, 0, 0, 0), (.imul, 0, 0, 0), (.iload 5, 0, 0, 0), (.iadd, 0, 0, 0)] (by decide +kernel) rfl trivial ?_
              (have k := key8; simp only [if_neg c9, if_neg c10, if_neg c11, if_neg c12] at k; exact k)
            · refine zG.blk (pc' := 79) (l' := [some (2, a0), some (0, a1), some (0, a2), some (0, M (M a0 1) 0), some (0, x5), some (0, x7)]) (st' := [(0, (-1))]) (M' := M) hX [(.iconst (-1), 0, 0, 0)] (by decide +kernel) rfl trivial ?_
              refine zG.goto (tgt := 89) (off := 10) hX (by decide +kernel) (by decide) ?_
              (have k := key8; simp only [if_neg c9, if_neg c10, if_neg c11, if_pos c12] at k; exact k)
    refine zG.icmp_ne (tgt := 43) (off := 7) hX (by decide +kernel) (by decide) (fun c13 => ?_) (fun c13 => ?_)
    · refine zG.blk (pc' := 45) (l' := [some (2, a0), some (0, a1), some (0, a2), some (0, M (M a0 1) 0), some (0, x5), none]) (st' := [(0, 3), (0, a2), (0, Int.tmod a1 (M (M a0 1) 0))]) (M' := M) hX [(.iload_n 2, 0, 0, 0), (.iconst 3, 0, 0, 0)] (by decide +kernel) rfl trivial ?_
      refine zG.icmp_ne (tgt := 52) (off := 7) hX (by decide +kernel) (by decide) (fun c14 => ?_) (fun c14 => ?_)
      · refine zG.blk (pc' := 53) (l' := [some (2, a0), some (0, a1), some (0, a2), some (0, M (M a0 1) 0), some (0, x5), none]) (st' := [(0, 0), (0, Int.tmod a1 (M (M a0 1) 0))]) (M' := M) hX [(.iconst 0, 0, 0, 0)] (by decide +kernel) rfl trivial ?_
        (have k := key6; simp only [if_neg c13, if_neg c14] at k; exact k)
      · refine zG.blk (pc' := 49) (l' := [some (2, a0), some (0, a1), some (0, a2), some (0, M (M a0 1) 0), some (0, x5), none]) (st' := [(0, (-1)), (0, Int.tmod a1 (M (M a0 1) 0))]) (M' := M) hX [(.iconst (-1), 0, 0, 0)] (by decide +kernel) rfl trivial ?_
        refine zG.goto (tgt := 53) (off := 4) hX (by decide +kernel) (by decide) ?_
        (have k := key6; simp only [if_neg c13, if_pos c14] at k; exact k)
    · refine zG.blk (pc' := 40) (l' := [some (2, a0), some (0, a1), some (0, a2), some (0, M (M a0 1) 0), some (0, x5), none]) (st' := [(0, 1), (0, Int.tmod a1 (M (M a0 1) 0))]) (M' := M) hX [(.iconst 1, 0, 0, 0)] (by decide +kernel) rfl trivial ?_
      refine zG.goto (tgt := 53) (off := 13) hX (by decide +kernel) (by decide) ?_
      (have k := key6; simp only [if_pos c13] at k; exact k)
  refine zG.if_ne (tgt := 18) (off := 7) hX (by decide +kernel) (by decide) (fun c15 => ?_) (fun c15 => ?_)
  · refine zG.blk (pc' := 20) (l' := [some (2, a0), some (0, a1), some (0, a2), some (0, M (M a0 1) 0), none, none]) (st' := [(0, 2), (0, a2), (0, w32 (Int.tdiv a1 (M (M a0 1) 0)))]) (M' := M) hX [(.iload_n 2, 0, 0, 0), (.iconst 2, 0, 0, 0)] (by decide +kernel) rfl trivial ?_
    refine zG.icmp_ne (tgt := 27) (off := 7) hX (by decide +kernel) (by decide) (fun c16 => ?_) (fun c16 => ?_)
    · refine zG.blk (pc' := 28) (l' := [some (2, a0), some (0, a1), some (0, a2), some (0, M (M a0 1) 0), none, none]) (st' := [(0, 0), (0, w32 (Int.tdiv a1 (M (M a0 1) 0)))]) (M' := M) hX [(.iconst 0, 0, 0, 0)] (by decide +kernel) rfl trivial ?_
      (have k := key4; simp only [if_neg c15, if_neg c16] at k; exact k)
    · refine zG.blk (pc' := 24) (l' := [some (2, a0), some (0, a1), some (0, a2), some (0, M (M a0 1) 0), none, none]) (st' := [(0, 1), (0, w32 (Int.tdiv a1 (M (M a0 1) 0)))]) (M' := M) hX [(.iconst 1, 0, 0, 0)] (by decide +kernel) rfl trivial ?_
      refine zG.goto (tgt := 28) (off := 4) hX (by decide +kernel) (by decide) ?_
      (have k := key4; simp only [if_neg c15, if_pos c16] at k; exact k)
  · refine zG.blk (pc' := 15) (l' := [some (2, a0), some (0, a1), some (0, a2), some (0, M (M a0 1) 0), none, none]) (st' := [(0, (-1)), (0, w32 (Int.tdiv a1 (M (M a0 1) 0)))]) (M' := M) hX [(.iconst (-1), 0, 0, 0)] (by decide +kernel) rfl trivial ?_
    refine zG.goto (tgt := 28) (off := 13) hX (by decide +kernel) (by decide) ?_
    (have k := key4; simp only [if_pos c15] at k; exact k)
theorem pX12_beside_ok {l : Launch} {E : ZE} {S : ZS} {M : ZM} {a0 a1 a2 : Int} {q : (Int × ZM)} (h : pX12_beside S M a0 a1 a2 = some q) : zMet l yX12_beside cX12_beside 6 (some .int) 1 40 0 0 E S M [(2, a0), (0, a1), (0, a2)] (some (0, q.1)) S q.2 :=
  zMet.of (o := 12) (ini := false) (by decide +kernel) rfl (fun h => by cases h) (Nat.le_of_ble_eq_true rfl) (fun C hX hl hRm => by subst hl; exact pX12_beside_go hX hRm h)
def pX12_lays_27 (S : ZS) (M : ZM) (y0 : Int) (y1 : Int) (y2 : Int) : Option ZM := if S.1 y2 = 100 ∧ (0 : Int) ≤ y1 ∧ y1 < S.2.1 y2 then zlet (upM M y2 y1 y0) fun M7 => some M7 else none
set_option maxHeartbeats 2000000 in
set_option maxRecDepth 20000 in
theorem pX12_lays_27_ok {C : ZC} {E : ZE} {S : ZS} {q : ZM} (hX : zCx C E 12 cX12_lays 3 none false) (hRm : czR C = { frames := 1, cells := 0, slots := 0, locals := 40 }) {M : ZM} {y0 : Int} {y1 : Int} {y2 : Int} (h : pX12_lays_27 S M y0 y1 y2 = some q) : zG C E 3 S 0 0 (zQ C E 0 0 none S q) 27 [none, none, none] [(0, y0), (0, y1), (2, y2)] M := by
  unfold pX12_lays_27 at h
  obtain ⟨g6, h⟩ := zif h
  refine zG.blk (pc' := 28) (l' := [none, none, none]) (st' := []) (M' := (upM M y2 y1 y0)) hX [(.iastore, 0, 0, 0)] (by decide +kernel) rfl (And.intro g6 trivial) ?_
  generalize upM M y2 y1 y0 = M7 at h ⊢
  have h := zlt h
  cases h
  exact zG.vret hX (by decide +kernel)
def pX12_lays (S : ZS) (M : ZM) (a0 : Int) (a1 : Int) (a2 : Int) : Option ZM := if S.1 a0 = 12 then if S.1 (M a0 4) = 100 ∧ (0 : Int) ≤ a1 ∧ a1 < S.2.1 (M a0 4) then zlet (upM M (M a0 4) a1 a2) fun M3 => if a2 = (-1) then (pX12_lays_27 S M3 (-1) a1 (M3 a0 5)) else (if S.1 (M3 a0 1) = 100 ∧ (0 : Int) ≤ 4 ∧ 4 < S.2.1 (M3 a0 1) then pX12_lays_27 S M3 (M3 (M3 a0 1) 4) a1 (M3 a0 5) else none) else none else none
set_option maxHeartbeats 2000000 in
set_option maxRecDepth 20000 in
theorem pX12_lays_go {C : ZC} {E : ZE} {S : ZS} {M : ZM} {a0 a1 a2 : Int} {q : ZM} (hX : zCx C E 12 cX12_lays 3 none false) (hRm : czR C = { frames := 1, cells := 0, slots := 0, locals := 40 }) (h : pX12_lays  S M a0 a1 a2 = some q) : zG C E 3 S 0 0 (zQ C E 0 0 none S q) 0 [some (2, a0), some (0, a1), some (0, a2)] [] M := by
  unfold pX12_lays at h
  obtain ⟨g1, h⟩ := zif h
  obtain ⟨g2, h⟩ := zif h
  refine zG.blk (pc' := 7) (l' := [some (2, a0), some (0, a1), some (0, a2)]) (st' := []) (M' := (upM M (M a0 4) a1 a2)) hX [(.aload_n 0, 0, 0, 0), (.getfield 19, 12, 4, 2), (.iload_n 1, 0, 0, 0), (.iload_n 2, 0, 0, 0), (.iastore, 0, 0, 0)] (by decide +kernel) rfl (And.intro g1 (And.intro g2 trivial)) ?_
  generalize upM M (M a0 4) a1 a2 = M3 at h ⊢
  have h := zlt h
  refine zG.blk (pc' := 14) (l' := [some (2, a0), some (0, a1), some (0, a2)]) (st' := [(0, (-1)), (0, a2), (0, a1), (2, M3 a0 5)]) (M' := M3) hX [(.aload_n 0, 0, 0, 0), (.getfield 22, 12, 5, 2), (.iload_n 1, 0, 0, 0), (.iload_n 2, 0, 0, 0), (.iconst (-1), 0, 0, 0)] (by decide +kernel) rfl (And.intro g1 trivial) ?_
  refine zG.icmp_ne (tgt := 21) (off := 7) hX (by decide +kernel) (by decide) (fun c4 => ?_) (fun c4 => ?_)
  · have h := zin c4 h
    obtain ⟨g5, h⟩ := zif h
    refine zG.blk (pc' := 27) (l' := [some (2, a0), some (0, a1), some (0, a2)]) (st' := [(0, M3 (M3 a0 1) 4), (0, a1), (2, M3 a0 5)]) (M' := M3) hX [(.aload_n 0, 0, 0, 0), (.getfield 9, 12, 1, 2), (.iconst 4, 0, 0, 0), (.iaload, 0, 0, 0)] (by decide +kernel) rfl (And.intro g1 (And.intro g5 trivial)) ?_
    exact zG.wk [false, false, false] (pX12_lays_27_ok hX hRm h)
  · have h := zip c4 h
    refine zG.blk (pc' := 18) (l' := [some (2, a0), some (0, a1), some (0, a2)]) (st' := [(0, (-1)), (0, a1), (2, M3 a0 5)]) (M' := M3) hX [(.iconst (-1), 0, 0, 0)] (by decide +kernel) rfl trivial ?_
    refine zG.goto (tgt := 27) (off := 9) hX (by decide +kernel) (by decide) ?_
    exact zG.wk [false, false, false] (pX12_lays_27_ok hX hRm h)
theorem pX12_lays_ok {l : Launch} {E : ZE} {S : ZS} {M : ZM} {a0 a1 a2 : Int} {q : ZM} (h : pX12_lays S M a0 a1 a2 = some q) : zMet l yX12_lays cX12_lays 3 none 1 40 0 0 E S M [(2, a0), (0, a1), (0, a2)] (none) S q :=
  zMet.of (o := 12) (ini := false) (by decide +kernel) rfl (fun h => by cases h) (Nat.le_of_ble_eq_true rfl) (fun C hX hl hRm => by subst hl; exact pX12_lays_go hX hRm h)
def pX12_fades_48 (S : ZS) (k2 : ZM → Int → Int → Option ZM) (M : ZM) (x0 : Int) (x1 : Int) : Option ZM := k2 M x0 (w32 (x1 + 1))
set_option maxHeartbeats 2000000 in
set_option maxRecDepth 20000 in
theorem pX12_fades_48_ok {C : ZC} {E : ZE} {S : ZS} {k2 : ZM → Int → Int → Option ZM} {q : ZM} (hX : zCx C E 12 cX12_fades 2 none false) (hRm : czR C = { frames := 2, cells := 0, slots := 0, locals := 62 }) (hk2 : ∀ M x0 x1, k2 M x0 x1 = some q → zG C E 2 S 0 0 (zQ C E 0 0 none S q) 2 [some (2, x0), some (0, x1)] [] M) {M : ZM} {x0 : Int} {x1 : Int} (h : pX12_fades_48 S k2 M x0 x1 = some q) : zG C E 2 S 0 0 (zQ C E 0 0 none S q) 48 [some (2, x0), some (0, x1)] [] M := by
  unfold pX12_fades_48 at h
  refine zG.blk (pc' := 51) (l' := [some (2, x0), some (0, w32 (x1 + 1))]) (st' := []) (M' := M) hX [(.iinc 1 1, 0, 0, 0)] (by decide +kernel) rfl trivial ?_
  refine zG.goto (tgt := 2) (off := (-49)) hX (by decide +kernel) (by decide) ?_
  exact (hk2 _ _ _ h)
theorem sv_12_366 : zSV 12 366 yX12_lays cX12_lays 3 none 2 := ⟨⟨gt_at 1558 (by decide +kernel) rfl, gt_at 1560 (by decide +kernel) rfl, gt_at 82 (by decide +kernel) rfl, gt_at 117 (by decide +kernel) rfl, gt_at 1561 (by decide +kernel) rfl⟩, by decide +kernel, by decide +kernel, by decide +kernel⟩
def pX12_fades_2 (S : ZS) : Nat → ZM → Int → Int → Option ZM
  | 0 => fun _ _ _ => none
  | n + 1 => fun M x0 x1 => if S.1 x0 = 12 then (pX12_cells S M x0).bind fun q1 => if q1.1 ≤ x1 then (some q1.2) else (if S.1 (q1.2 x0 4) = 100 ∧ (0 : Int) ≤ x1 ∧ x1 < S.2.1 (q1.2 x0 4) then if q1.2 (q1.2 x0 4) x1 = (-1) then (pX12_fades_48 S (pX12_fades_2 S n) q1.2 x0 x1) else (if S.1 (q1.2 x0 1) = 100 ∧ (0 : Int) ≤ 4 ∧ 4 < S.2.1 (q1.2 x0 1) then if S.1 (q1.2 x0 5) = 100 ∧ (0 : Int) ≤ x1 ∧ x1 < S.2.1 (q1.2 x0 5) then if S.1 (q1.2 x0 1) = 100 ∧ (0 : Int) ≤ 1 ∧ 1 < S.2.1 (q1.2 x0 1) then if w32 ((q1.2 (q1.2 x0 1) 4) - (q1.2 (q1.2 x0 5) x1)) ≤ q1.2 (q1.2 x0 1) 1 then (pX12_fades_48 S (pX12_fades_2 S n) q1.2 x0 x1) else ((pX12_lays S q1.2 x0 x1 (-1)).bind fun q11 => pX12_fades_48 S (pX12_fades_2 S n) q11 x0 x1) else none else none else none) else none) else none
set_option maxHeartbeats 2000000 in
set_option maxRecDepth 20000 in
theorem pX12_fades_2_ok {C : ZC} {E : ZE} {S : ZS} {q : ZM} (hX : zCx C E 12 cX12_fades 2 none false) (hRm : czR C = { frames := 2, cells := 0, slots := 0, locals := 62 }) : ∀ (n : Nat) (M : ZM) (x0 : Int) (x1 : Int), pX12_fades_2 S n M x0 x1 = some q → zG C E 2 S 0 0 (zQ C E 0 0 none S q) 2 [some (2, x0), some (0, x1)] [] M := by
  intro n
  induction n with
  | zero => intro M x0 x1 h; cases h
  | succ n ih =>
    intro M x0 x1 h
    unfold pX12_fades_2 at h
    refine zG.blk (pc' := 4) (l' := [some (2, x0), some (0, x1)]) (st' := [(2, x0), (0, x1)]) (M' := M) hX [(.iload_n 1, 0, 0, 0), (.aload_n 0, 0, 0, 0)] (by decide +kernel) rfl trivial ?_
    obtain ⟨g3, h⟩ := zif h
    obtain ⟨q1, e2, h⟩ := zbd h
    refine zG.callV (b := x0) (av := []) (st := [(0, x1)]) (ci := 12) hX (pX12_cells_ok e2) sv_12_134 rfl ⟨by decide, rfl⟩ g3 (by decide +kernel) (by rw [hRm]; exact ⟨Nat.le_of_ble_eq_true rfl, Nat.le_of_ble_eq_true rfl⟩) (by rw [hRm]; exact ⟨Nat.le_of_ble_eq_true rfl, Nat.le_of_ble_eq_true rfl⟩) (Nat.le_of_ble_eq_true rfl) ?_
    show zG C E 2 S 0 0 _ 7 [some (2, x0), some (0, x1)] [(0, q1.1), (0, x1)] q1.2
    refine zG.icmp_ge (tgt := 54) (off := 47) hX (by decide +kernel) (by decide) (fun c4 => ?_) (fun c4 => ?_)
    · have h := zip c4 h
      cases h
      exact zG.vret hX (by decide +kernel)
    · have h := zin c4 h
      obtain ⟨g5, h⟩ := zif h
      refine zG.blk (pc' := 17) (l' := [some (2, x0), some (0, x1)]) (st' := [(0, (-1)), (0, q1.2 (q1.2 x0 4) x1)]) (M' := q1.2) hX [(.aload_n 0, 0, 0, 0), (.getfield 19, 12, 4, 2), (.iload_n 1, 0, 0, 0), (.iaload, 0, 0, 0), (.iconst (-1), 0, 0, 0)] (by decide +kernel) rfl (And.intro g3 (And.intro g5 trivial)) ?_
      refine zG.icmp_eq (tgt := 48) (off := 31) hX (by decide +kernel) (by decide) (fun c6 => ?_) (fun c6 => ?_)
      · have h := zip c6 h
        exact (pX12_fades_48_ok hX hRm ih h)
      · have h := zin c6 h
        obtain ⟨g7, h⟩ := zif h
        obtain ⟨g8, h⟩ := zif h
        obtain ⟨g9, h⟩ := zif h
        refine zG.blk (pc' := 39) (l' := [some (2, x0), some (0, x1)]) (st' := [(0, q1.2 (q1.2 x0 1) 1), (0, w32 ((q1.2 (q1.2 x0 1) 4) - (q1.2 (q1.2 x0 5) x1)))]) (M' := q1.2) hX [(.aload_n 0, 0, 0, 0), (.getfield 9, 12, 1, 2), (.iconst 4, 0, 0, 0), (.iaload, 0, 0, 0), (.aload_n 0, 0, 0, 0), (.getfield 22, 12, 5, 2), (.iload_n 1, 0, 0, 0), (.iaload, 0, 0, 0), (.isub, 0, 0, 0), (.aload_n 0, 0, 0, 0), (.getfield 9, 12, 1, 2), (.iconst 1, 0, 0, 0), (.iaload, 0, 0, 0)] (by decide +kernel) rfl (And.intro g3 (And.intro g7 (And.intro g3 (And.intro g8 (And.intro g3 (And.intro g9 trivial)))))) ?_
        refine zG.icmp_le (tgt := 48) (off := 9) hX (by decide +kernel) (by decide) (fun c10 => ?_) (fun c10 => ?_)
        · have h := zip c10 h
          exact (pX12_fades_48_ok hX hRm ih h)
        · have h := zin c10 h
          refine zG.blk (pc' := 45) (l' := [some (2, x0), some (0, x1)]) (st' := [(0, (-1)), (0, x1), (2, x0)]) (M' := q1.2) hX [(.aload_n 0, 0, 0, 0), (.iload_n 1, 0, 0, 0), (.iconst (-1), 0, 0, 0)] (by decide +kernel) rfl trivial ?_
          obtain ⟨q11, e12, h⟩ := zbd h
          refine zG.callV (b := x0) (av := [(0, x1), (0, (-1))]) (st := []) (ci := 12) hX (pX12_lays_ok e12) sv_12_366 rfl ⟨by decide, rfl⟩ g3 (by decide +kernel) (by rw [hRm]; exact ⟨Nat.le_of_ble_eq_true rfl, Nat.le_of_ble_eq_true rfl⟩) (by rw [hRm]; exact ⟨Nat.le_of_ble_eq_true rfl, Nat.le_of_ble_eq_true rfl⟩) (Nat.le_of_ble_eq_true rfl) ?_
          show zG C E 2 S 0 0 _ 48 [some (2, x0), some (0, x1)] [] q11
          exact (pX12_fades_48_ok hX hRm ih h)
def pX12_fades (S : ZS) (M : ZM) (a0 : Int) : Option ZM := pX12_fades_2 S zFU M a0 0
set_option maxHeartbeats 2000000 in
set_option maxRecDepth 20000 in
theorem pX12_fades_go {C : ZC} {E : ZE} {S : ZS} {M : ZM} {a0 : Int} {q : ZM} (hX : zCx C E 12 cX12_fades 2 none false) (hRm : czR C = { frames := 2, cells := 0, slots := 0, locals := 62 }) (h : pX12_fades  S M a0 = some q) : zG C E 2 S 0 0 (zQ C E 0 0 none S q) 0 [some (2, a0), none] [] M := by
  unfold pX12_fades at h
  refine zG.blk (pc' := 2) (l' := [some (2, a0), some (0, 0)]) (st' := []) (M' := M) hX [(.iconst 0, 0, 0, 0), (.istore_n 1, 0, 0, 0)] (by decide +kernel) rfl trivial ?_
  exact (pX12_fades_2_ok hX hRm zFU _ _ _ h)
theorem pX12_fades_ok {l : Launch} {E : ZE} {S : ZS} {M : ZM} {a0 : Int} {q : ZM} (h : pX12_fades S M a0 = some q) : zMet l yX12_fades cX12_fades 2 none 2 62 0 0 E S M [(2, a0)] (none) S q :=
  zMet.of (o := 12) (ini := false) (by decide +kernel) rfl (fun h => by cases h) (Nat.le_of_ble_eq_true rfl) (fun C hX hl hRm => by subst hl; exact pX12_fades_go hX hRm h)
