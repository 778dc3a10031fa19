noncomputable def pX12_pence_20 (S : ZS) (M : ZM) : Option (Int × ZM) := some ((-1), M)
set_option maxHeartbeats 2000000 in
set_option maxRecDepth 20000 in
theorem pX12_pence_20_ok {C : ZC} {E : ZE} {S : ZS} {q : (Int × ZM)} (hX : zCx C E 12 cX12_pence 8 (some .int) false) (hRm : czR C = { frames := 4, cells := 0, slots := 0, locals := 103 }) {M : ZM} (h : pX12_pence_20 S M = some q) : zG C E 8 S 0 0 (zQ C E 0 0 (some (0, q.1)) S q.2) 20 [none, none, none, none, none, none, none, none] [] M := by
  unfold pX12_pence_20 at h
  refine zG.blk (pc' := 21) (l' := [none, none, none, none, none, none, none, none]) (st' := [(0, (-1))]) (M' := M) hX [(.iconst (-1), 0, 0, 0)] (by decide +kernel) rfl trivial ?_
  cases h
  exact zG.iret hX (by decide +kernel)
noncomputable def pX12_pence_90 (S : ZS) (k42 : ZM → Int → Int → Int → Int → Int → Int → Int → Option (Int × ZM)) (M : ZM) (x0 : Int) (x1 : Int) (x2 : Int) (x3 : Int) (x4 : Int) (x5 : Int) (x6 : Int) (x7 : Int) : Option (Int × ZM) := zlet (w32 (x5 + (if 0 < x7 then (1 : Int) else (if x7 = 0 then ((if x2 ≤ x6 then (0 : Int) else 1) : Int) else 0)))) fun x29 => k42 M x0 x1 x2 x3 x4 x29 (w32 (x6 + 1))
set_option maxHeartbeats 2000000 in
set_option maxRecDepth 20000 in
theorem pX12_pence_90_ok {C : ZC} {E : ZE} {S : ZS} {k42 : ZM → Int → Int → Int → Int → Int → Int → Int → Option (Int × ZM)} {q : (Int × ZM)} (hX : zCx C E 12 cX12_pence 8 (some .int) false) (hRm : czR C = { frames := 4, cells := 0, slots := 0, locals := 103 }) (hk42 : ∀ M x0 x1 x2 x3 x4 x5 x6, k42 M x0 x1 x2 x3 x4 x5 x6 = some q → zG C E 8 S 0 0 (zQ C E 0 0 (some (0, q.1)) S q.2) 42 [some (2, x0), some (0, x1), some (0, x2), some (0, x3), some (0, x4), some (0, x5), some (0, x6), none] [] M) {M : ZM} {x0 : Int} {x1 : Int} {x2 : Int} {x3 : Int} {x4 : Int} {x5 : Int} {x6 : Int} {x7 : Int} (h : pX12_pence_90 S k42 M x0 x1 x2 x3 x4 x5 x6 x7 = some q) : zG C E 8 S 0 0 (zQ C E 0 0 (some (0, q.1)) S q.2) 90 [some (2, x0), some (0, x1), some (0, x2), some (0, x3), some (0, x4), some (0, x5), some (0, x6), some (0, x7)] [] M := by
  unfold pX12_pence_90 at h
  refine zG.blk (pc' := 94) (l' := [some (2, x0), some (0, x1), some (0, x2), some (0, x3), some (0, x4), some (0, x5), some (0, x6), some (0, x7)]) (st' := [(0, x7), (0, x5)]) (M' := M) hX [(.iload 5, 0, 0, 0), (.iload 7, 0, 0, 0)] (by decide +kernel) rfl trivial ?_
  have key28 : zG C E 8 S 0 0 (zQ C E 0 0 (some (0, q.1)) S q.2) 113 [some (2, x0), some (0, x1), some (0, x2), some (0, x3), some (0, x4), some (0, x5), some (0, x6), some (0, x7)] [(0, (if 0 < x7 then (1 : Int) else (if x7 = 0 then ((if x2 ≤ x6 then (0 : Int) else 1) : Int) else 0))), (0, x5)] M := by
    refine zG.blk (pc' := 116) (l' := [some (2, x0), some (0, x1), some (0, x2), some (0, x3), some (0, x4), some (0, w32 (x5 + (if 0 < x7 then (1 : Int) else (if x7 = 0 then ((if x2 ≤ x6 then (0 : Int) else 1) : Int) else 0)))), some (0, x6), some (0, x7)]) (st' := []) (M' := M) hX [(.iadd, 0, 0, 0), (.istore 5, 0, 0, 0)] (by decide +kernel) rfl trivial ?_
    generalize w32 (x5 + (if 0 < x7 then (1 : Int) else (if x7 = 0 then ((if x2 ≤ x6 then (0 : Int) else 1) : Int) else 0))) = x29 at h ⊢
    have h := zlt h
    refine zG.blk (pc' := 119) (l' := [some (2, x0), some (0, x1), some (0, x2), some (0, x3), some (0, x4), some (0, x29), some (0, w32 (x6 + 1)), some (0, x7)]) (st' := []) (M' := M) hX [(.iinc 6 1, 0, 0, 0)] (by decide +kernel) rfl trivial ?_
    refine zG.goto (tgt := 42) (off := (-77)) hX (by decide +kernel) (by decide) ?_
    exact zG.wk [true, true, true, true, true, true, true, false] (hk42 _ _ _ _ _ _ _ _ h)
  refine zG.if_gt (tgt := 108) (off := 14) hX (by decide +kernel) (by decide) (fun c30 => ?_) (fun c30 => ?_)
  · refine zG.blk (pc' := 109) (l' := [some (2, x0), some (0, x1), some (0, x2), some (0, x3), some (0, x4), some (0, x5), some (0, x6), some (0, x7)]) (st' := [(0, 1), (0, x5)]) (M' := M) hX [(.iconst 1, 0, 0, 0)] (by decide +kernel) rfl trivial ?_
    refine zG.goto (tgt := 113) (off := 4) hX (by decide +kernel) (by decide) ?_
    (have k := key28; simp only [if_pos c30] at k; exact k)
  · refine zG.blk (pc' := 99) (l' := [some (2, x0), some (0, x1), some (0, x2), some (0, x3), some (0, x4), some (0, x5), some (0, x6), some (0, x7)]) (st' := [(0, x7), (0, x5)]) (M' := M) hX [(.iload 7, 0, 0, 0)] (by decide +kernel) rfl trivial ?_
    refine zG.if_ne (tgt := 112) (off := 13) hX (by decide +kernel) (by decide) (fun c31 => ?_) (fun c31 => ?_)
    · refine zG.blk (pc' := 113) (l' := [some (2, x0), some (0, x1), some (0, x2), some (0, x3), some (0, x4), some (0, x5), some (0, x6), some (0, x7)]) (st' := [(0, 0), (0, x5)]) (M' := M) hX [(.iconst 0, 0, 0, 0)] (by decide +kernel) rfl trivial ?_
      (have k := key28; simp only [if_neg c30, if_neg c31] at k; exact k)
    · refine zG.blk (pc' := 105) (l' := [some (2, x0), some (0, x1), some (0, x2), some (0, x3), some (0, x4), some (0, x5), some (0, x6), some (0, x7)]) (st' := [(0, x2), (0, x6), (0, x5)]) (M' := M) hX [(.iload 6, 0, 0, 0), (.iload_n 2, 0, 0, 0)] (by decide +kernel) rfl trivial ?_
      refine zG.icmp_ge (tgt := 112) (off := 7) hX (by decide +kernel) (by decide) (fun c32 => ?_) (fun c32 => ?_)
      · refine zG.blk (pc' := 113) (l' := [some (2, x0), some (0, x1), some (0, x2), some (0, x3), some (0, x4), some (0, x5), some (0, x6), some (0, x7)]) (st' := [(0, 0), (0, x5)]) (M' := M) hX [(.iconst 0, 0, 0, 0)] (by decide +kernel) rfl trivial ?_
        (have k := key28; simp only [if_neg c30, if_pos c31, if_pos c32] at k; exact k)
      · refine zG.blk (pc' := 109) (l' := [some (2, x0), some (0, x1), some (0, x2), some (0, x3), some (0, x4), some (0, x5), some (0, x6), some (0, x7)]) (st' := [(0, 1), (0, x5)]) (M' := M) hX [(.iconst 1, 0, 0, 0)] (by decide +kernel) rfl trivial ?_
        refine zG.goto (tgt := 113) (off := 4) hX (by decide +kernel) (by decide) ?_
        (have k := key28; simp only [if_neg c30, if_pos c31, if_neg c32] at k; exact k)
noncomputable def pX12_pence_42 (S : ZS) : Nat → ZM → Int → Int → Int → Int → Int → Int → Int → Option (Int × ZM)
  | 0 => fun _ _ _ _ _ _ _ _ => none
  | n + 1 => fun M x0 x1 x2 x3 x4 x5 x6 => if S.1 x0 = 12 then if S.1 (M x0 1) = 100 ∧ (0 : Int) ≤ 2 ∧ 2 < S.2.1 (M x0 1) then if M (M x0 1) 2 ≤ x6 then ((pX12_strokesOf S M x0 x2).bind fun q14 => if ¬ x3 = 0 then some (w32 ((w32 (Int.tdiv (w32 (x1 * q14.1)) x3)) + (if x4 ≤ x5 then (0 : Int) else 1)), q14.2) else none) else ((pX12_strokesOf S M x0 x6).bind fun q19 => if ¬ x3 = 0 then zlet (w32 (x4 - (w32 (Int.tdiv (w32 (x1 * q19.1)) x3)))) fun x22 => (pX12_strokesOf S q19.2 x0 x6).bind fun q23 => (pX12_strokesOf S q23.2 x0 x2).bind fun q25 => zlet (w32 ((Int.tmod (w32 (x1 * q23.1)) x3) - (Int.tmod (w32 (x1 * q25.1)) x3))) fun x27 => pX12_pence_90 S (pX12_pence_42 S n) q25.2 x0 x1 x2 x3 x22 x5 x6 x27 else none) else none else none
set_option maxHeartbeats 2000000 in
set_option maxRecDepth 20000 in
theorem pX12_pence_42_ok {C : ZC} {E : ZE} {S : ZS} {q : (Int × ZM)} (hX : zCx C E 12 cX12_pence 8 (some .int) false) (hRm : czR C = { frames := 4, cells := 0, slots := 0, locals := 103 }) : ∀ (n : Nat) (M : ZM) (x0 : Int) (x1 : Int) (x2 : Int) (x3 : Int) (x4 : Int) (x5 : Int) (x6 : Int), pX12_pence_42 S n M x0 x1 x2 x3 x4 x5 x6 = some q → zG C E 8 S 0 0 (zQ C E 0 0 (some (0, q.1)) S q.2) 42 [some (2, x0), some (0, x1), some (0, x2), some (0, x3), some (0, x4), some (0, x5), some (0, x6), none] [] M := by
  intro n
  induction n with
  | zero => intro M x0 x1 x2 x3 x4 x5 x6 h; cases h
  | succ n ih =>
    intro M x0 x1 x2 x3 x4 x5 x6 h
    unfold pX12_pence_42 at h
    obtain ⟨g11, h⟩ := zif h
    obtain ⟨g12, h⟩ := zif h
    refine zG.blk (pc' := 50) (l' := [some (2, x0), some (0, x1), some (0, x2), some (0, x3), some (0, x4), some (0, x5), some (0, x6), none]) (st' := [(0, M (M x0 1) 2), (0, x6)]) (M' := M) hX [(.iload 6, 0, 0, 0), (.aload_n 0, 0, 0, 0), (.getfield 9, 12, 1, 2), (.iconst 2, 0, 0, 0), (.iaload, 0, 0, 0)] (by decide +kernel) rfl (And.intro g11 (And.intro g12 trivial)) ?_
    refine zG.icmp_ge (tgt := 122) (off := 72) hX (by decide +kernel) (by decide) (fun c13 => ?_) (fun c13 => ?_)
    · have h := zip c13 h
      refine zG.blk (pc' := 125) (l' := [some (2, x0), some (0, x1), some (0, x2), some (0, x3), some (0, x4), some (0, x5), some (0, x6), none]) (st' := [(0, x2), (2, x0), (0, x1)]) (M' := M) hX [(.iload_n 1, 0, 0, 0), (.aload_n 0, 0, 0, 0), (.iload_n 2, 0, 0, 0)] (by decide +kernel) rfl trivial ?_
      obtain ⟨q14, e15, h⟩ := zbd h
      refine zG.callV (b := x0) (av := [(0, x2)]) (st := [(0, x1)]) (ci := 12) hX (pX12_strokesOf_ok e15) sv_12_338 rfl ⟨by decide, rfl⟩ g11 (by decide +kernel) (by rw [hRm]; exact ⟨Nat.le_of_ble_eq_true rfl, Nat.le_of_ble_eq_true rfl⟩) (by rw [hRm]; exact ⟨Nat.le_of_ble_eq_true rfl, Nat.le_of_ble_eq_true rfl⟩) (Nat.le_of_ble_eq_true rfl) ?_
      show zG C E 8 S 0 0 _ 128 [some (2, x0), some (0, x1), some (0, x2), some (0, x3), some (0, x4), some (0, x5), some (0, x6), none] [(0, q14.1), (0, x1)] q14.2
      obtain ⟨g16, h⟩ := zif h
      refine zG.blk (pc' := 135) (l' := [some (2, x0), some (0, x1), some (0, x2), some (0, x3), some (0, x4), some (0, x5), some (0, x6), none]) (st' := [(0, x4), (0, x5), (0, w32 (Int.tdiv (w32 (x1 * q14.1)) x3))]) (M' := q14.2) hX [(.imul, 0, 0, 0), (.iload_n 3, 0, 0, 0), (.idiv, 0, 0, 0), (.iload 5, 0, 0, 0), (.iload 4, 0, 0, 0)] (by decide +kernel) rfl (And.intro g16 trivial) ?_
      have key17 : zG C E 8 S 0 0 (zQ C E 0 0 (some (0, q.1)) S q.2) 143 [some (2, x0), some (0, x1), some (0, x2), some (0, x3), some (0, x4), some (0, x5), some (0, x6), none] [(0, (if x4 ≤ x5 then (0 : Int) else 1)), (0, w32 (Int.tdiv (w32 (x1 * q14.1)) x3))] q14.2 := by
        refine zG.blk (pc' := 144) (l' := [some (2, x0), some (0, x1), some (0, x2), some (0, x3), some (0, x4), some (0, x5), some (0, x6), none]) (st' := [(0, w32 ((w32 (Int.tdiv (w32 (x1 * q14.1)) x3)) + (if x4 ≤ x5 then (0 : Int) else 1)))]) (M' := q14.2) hX [(.iadd, 0, 0, 0)] (by decide +kernel) rfl trivial ?_
        cases h
        exact zG.iret hX (by decide +kernel)
      refine zG.icmp_ge (tgt := 142) (off := 7) hX (by decide +kernel) (by decide) (fun c18 => ?_) (fun c18 => ?_)
      · refine zG.blk (pc' := 143) (l' := [some (2, x0), some (0, x1), some (0, x2), some (0, x3), some (0, x4), some (0, x5), some (0, x6), none]) (st' := [(0, 0), (0, w32 (Int.tdiv (w32 (x1 * q14.1)) x3))]) (M' := q14.2) hX [(.iconst 0, 0, 0, 0)] (by decide +kernel) rfl trivial ?_
        (have k := key17; simp only [if_pos c18] at k; exact k)
      · refine zG.blk (pc' := 139) (l' := [some (2, x0), some (0, x1), some (0, x2), some (0, x3), some (0, x4), some (0, x5), some (0, x6), none]) (st' := [(0, 1), (0, w32 (Int.tdiv (w32 (x1 * q14.1)) x3))]) (M' := q14.2) hX [(.iconst 1, 0, 0, 0)] (by decide +kernel) rfl trivial ?_
        refine zG.goto (tgt := 143) (off := 4) hX (by decide +kernel) (by decide) ?_
        (have k := key17; simp only [if_neg c18] at k; exact k)
    · have h := zin c13 h
      refine zG.blk (pc' := 59) (l' := [some (2, x0), some (0, x1), some (0, x2), some (0, x3), some (0, x4), some (0, x5), some (0, x6), none]) (st' := [(0, x6), (2, x0), (0, x1), (0, x4)]) (M' := M) hX [(.iload 4, 0, 0, 0), (.iload_n 1, 0, 0, 0), (.aload_n 0, 0, 0, 0), (.iload 6, 0, 0, 0)] (by decide +kernel) rfl trivial ?_
      obtain ⟨q19, e20, h⟩ := zbd h
      refine zG.callV (b := x0) (av := [(0, x6)]) (st := [(0, x1), (0, x4)]) (ci := 12) hX (pX12_strokesOf_ok e20) sv_12_338 rfl ⟨by decide, rfl⟩ g11 (by decide +kernel) (by rw [hRm]; exact ⟨Nat.le_of_ble_eq_true rfl, Nat.le_of_ble_eq_true rfl⟩) (by rw [hRm]; exact ⟨Nat.le_of_ble_eq_true rfl, Nat.le_of_ble_eq_true rfl⟩) (Nat.le_of_ble_eq_true rfl) ?_
      show zG C E 8 S 0 0 _ 62 [some (2, x0), some (0, x1), some (0, x2), some (0, x3), some (0, x4), some (0, x5), some (0, x6), none] [(0, q19.1), (0, x1), (0, x4)] q19.2
      obtain ⟨g21, h⟩ := zif h
      refine zG.blk (pc' := 68) (l' := [some (2, x0), some (0, x1), some (0, x2), some (0, x3), some (0, w32 (x4 - (w32 (Int.tdiv (w32 (x1 * q19.1)) x3)))), some (0, x5), some (0, x6), none]) (st' := []) (M' := q19.2) hX [(.imul, 0, 0, 0), (.iload_n 3, 0, 0, 0), (.idiv, 0, 0, 0), (.isub, 0, 0, 0), (.istore 4, 0, 0, 0)] (by decide +kernel) rfl (And.intro g21 trivial) ?_
      generalize w32 (x4 - (w32 (Int.tdiv (w32 (x1 * q19.1)) x3))) = x22 at h ⊢
      have h := zlt h
      refine zG.blk (pc' := 72) (l' := [some (2, x0), some (0, x1), some (0, x2), some (0, x3), some (0, x22), some (0, x5), some (0, x6), none]) (st' := [(0, x6), (2, x0), (0, x1)]) (M' := q19.2) hX [(.iload_n 1, 0, 0, 0), (.aload_n 0, 0, 0, 0), (.iload 6, 0, 0, 0)] (by decide +kernel) rfl trivial ?_
      obtain ⟨q23, e24, h⟩ := zbd h
      refine zG.callV (b := x0) (av := [(0, x6)]) (st := [(0, x1)]) (ci := 12) hX (pX12_strokesOf_ok e24) sv_12_338 rfl ⟨by decide, rfl⟩ g11 (by decide +kernel) (by rw [hRm]; exact ⟨Nat.le_of_ble_eq_true rfl, Nat.le_of_ble_eq_true rfl⟩) (by rw [hRm]; exact ⟨Nat.le_of_ble_eq_true rfl, Nat.le_of_ble_eq_true rfl⟩) (Nat.le_of_ble_eq_true rfl) ?_
      show zG C E 8 S 0 0 _ 75 [some (2, x0), some (0, x1), some (0, x2), some (0, x3), some (0, x22), some (0, x5), some (0, x6), none] [(0, q23.1), (0, x1)] q23.2
      refine zG.blk (pc' := 81) (l' := [some (2, x0), some (0, x1), some (0, x2), some (0, x3), some (0, x22), some (0, x5), some (0, x6), none]) (st' := [(0, x2), (2, x0), (0, x1), (0, Int.tmod (w32 (x1 * q23.1)) x3)]) (M' := q23.2) hX [(.imul, 0, 0, 0), (.iload_n 3, 0, 0, 0), (.irem, 0, 0, 0), (.iload_n 1, 0, 0, 0), (.aload_n 0, 0, 0, 0), (.iload_n 2, 0, 0, 0)] (by decide +kernel) rfl (And.intro g21 trivial) ?_
      obtain ⟨q25, e26, h⟩ := zbd h
      refine zG.callV (b := x0) (av := [(0, x2)]) (st := [(0, x1), (0, Int.tmod (w32 (x1 * q23.1)) x3)]) (ci := 12) hX (pX12_strokesOf_ok e26) sv_12_338 rfl ⟨by decide, rfl⟩ g11 (by decide +kernel) (by rw [hRm]; exact ⟨Nat.le_of_ble_eq_true rfl, Nat.le_of_ble_eq_true rfl⟩) (by rw [hRm]; exact ⟨Nat.le_of_ble_eq_true rfl, Nat.le_of_ble_eq_true rfl⟩) (Nat.le_of_ble_eq_true rfl) ?_
      show zG C E 8 S 0 0 _ 84 [some (2, x0), some (0, x1), some (0, x2), some (0, x3), some (0, x22), some (0, x5), some (0, x6), none] [(0, q25.1), (0, x1), (0, Int.tmod (w32 (x1 * q23.1)) x3)] q25.2
      refine zG.blk (pc' := 90) (l' := [some (2, x0), some (0, x1), some (0, x2), some (0, x3), some (0, x22), some (0, x5), some (0, x6), some (0, w32 ((Int.tmod (w32 (x1 * q23.1)) x3) - (Int.tmod (w32 (x1 * q25.1)) x3)))]) (st' := []) (M' := q25.2) hX [(.imul, 0, 0, 0), (.iload_n 3, 0, 0, 0), (.irem, 0, 0, 0), (.isub, 0, 0, 0), (.istore 7, 0, 0, 0)] (by decide +kernel) rfl (And.intro g21 trivial) ?_
      generalize w32 ((Int.tmod (w32 (x1 * q23.1)) x3) - (Int.tmod (w32 (x1 * q25.1)) x3)) = x27 at h ⊢
      have h := zlt h
      exact (pX12_pence_90_ok hX hRm ih h)
noncomputable def pX12_pence (S : ZS) (M : ZM) (a0 : Int) (a1 : Int) (a2 : Int) : Option (Int × ZM) := if S.1 a0 = 12 then (pX12_isPen S M a0 a2).bind fun q1 => if q1.1 = 0 then (pX12_pence_20 S q1.2) else ((pX12_in S q1.2 a1 0 9999).bind fun q5 => if q5.1 = 0 then (pX12_pence_20 S q5.2) else ((pX12_allStrokes S q5.2 a0).bind fun q8 => if q8.1 = 0 then (some (0, q8.2)) else (pX12_pence_42 S zFU q8.2 a0 a1 a2 q8.1 a1 0 0))) else none
set_option maxHeartbeats 2000000 in
set_option maxRecDepth 20000 in
theorem pX12_pence_go {C : ZC} {E : ZE} {S : ZS} {M : ZM} {a0 a1 a2 : Int} {q : (Int × ZM)} (hX : zCx C E 12 cX12_pence 8 (some .int) false) (hRm : czR C = { frames := 4, cells := 0, slots := 0, locals := 103 }) (h : pX12_pence  S M a0 a1 a2 = some q) : zG C E 8 S 0 0 (zQ C E 0 0 (some (0, q.1)) S q.2) 0 [some (2, a0), some (0, a1), some (0, a2), none, none, none, none, none] [] M := by
  unfold pX12_pence at h
  refine zG.blk (pc' := 2) (l' := [some (2, a0), some (0, a1), some (0, a2), none, none, none, none, none]) (st' := [(0, a2), (2, a0)]) (M' := M) hX [(.aload_n 0, 0, 0, 0), (.iload_n 2, 0, 0, 0)] (by decide +kernel) rfl trivial ?_
  obtain ⟨g3, h⟩ := zif h
  obtain ⟨q1, e2, h⟩ := zbd h
  refine zG.callV (b := a0) (av := [(0, a2)]) (st := []) (ci := 12) hX (pX12_isPen_ok e2) sv_12_341 rfl ⟨by decide, rfl⟩ g3 (by decide +kernel) (by rw [hRm]; exact ⟨Nat.le_of_ble_eq_true rfl, Nat.le_of_ble_eq_true rfl⟩) (by rw [hRm]; exact ⟨Nat.le_of_ble_eq_true rfl, Nat.le_of_ble_eq_true rfl⟩) (Nat.le_of_ble_eq_true rfl) ?_
  show zG C E 8 S 0 0 _ 5 [some (2, a0), some (0, a1), some (0, a2), none, none, none, none, none] [(0, q1.1)] q1.2
  refine zG.if_eq (tgt := 20) (off := 15) hX (by decide +kernel) (by decide) (fun c4 => ?_) (fun c4 => ?_)
  · have h := zip c4 h
    exact zG.wk [false, false, false, true, true, true, true, true] (pX12_pence_20_ok hX hRm h)
  · have h := zin c4 h
    refine zG.blk (pc' := 14) (l' := [some (2, a0), some (0, a1), some (0, a2), none, none, none, none, none]) (st' := [(1, 9999), (1, 0), (1, a1)]) (M' := q1.2) hX [(.iload_n 1, 0, 0, 0), (.i2l, 0, 0, 0), (.lconst 0, 0, 0, 0), (.ldc2_w 475, 9999, 0, 0)] (by decide +kernel) rfl trivial ?_
    obtain ⟨q5, e6, h⟩ := zbd h
    refine zG.callS (av := [(1, a1), (1, 0), (1, 9999)]) (st := []) hX (pX12_in_ok e6) ss_12_138 rfl (by decide +kernel) (by rw [hRm]; exact ⟨Nat.le_of_ble_eq_true rfl, Nat.le_of_ble_eq_true rfl⟩) (by rw [hRm]; exact ⟨Nat.le_of_ble_eq_true rfl, Nat.le_of_ble_eq_true rfl⟩) (Nat.le_of_ble_eq_true rfl) ?_
    show zG C E 8 S 0 0 _ 17 [some (2, a0), some (0, a1), some (0, a2), none, none, none, none, none] [(0, q5.1)] q5.2
    refine zG.if_ne (tgt := 22) (off := 5) hX (by decide +kernel) (by decide) (fun c7 => ?_) (fun c7 => ?_)
    · have h := zin c7 h
      refine zG.blk (pc' := 23) (l' := [some (2, a0), some (0, a1), some (0, a2), none, none, none, none, none]) (st' := [(2, a0)]) (M' := q5.2) hX [(.aload_n 0, 0, 0, 0)] (by decide +kernel) rfl trivial ?_
      obtain ⟨q8, e9, h⟩ := zbd h
      refine zG.callV (b := a0) (av := []) (st := []) (ci := 12) hX (pX12_allStrokes_ok e9) sv_12_429 rfl ⟨by decide, rfl⟩ g3 (by decide +kernel) (by rw [hRm]; exact ⟨Nat.le_of_ble_eq_true rfl, Nat.le_of_ble_eq_true rfl⟩) (by rw [hRm]; exact ⟨Nat.le_of_ble_eq_true rfl, Nat.le_of_ble_eq_true rfl⟩) (Nat.le_of_ble_eq_true rfl) ?_
      show zG C E 8 S 0 0 _ 26 [some (2, a0), some (0, a1), some (0, a2), none, none, none, none, none] [(0, q8.1)] q8.2
      refine zG.blk (pc' := 28) (l' := [some (2, a0), some (0, a1), some (0, a2), some (0, q8.1), none, none, none, none]) (st' := [(0, q8.1)]) (M' := q8.2) hX [(.istore_n 3, 0, 0, 0), (.iload_n 3, 0, 0, 0)] (by decide +kernel) rfl trivial ?_
      refine zG.if_ne (tgt := 33) (off := 5) hX (by decide +kernel) (by decide) (fun c10 => ?_) (fun c10 => ?_)
      · have h := zin c10 h
        refine zG.blk (pc' := 42) (l' := [some (2, a0), some (0, a1), some (0, a2), some (0, q8.1), some (0, a1), some (0, 0), some (0, 0), none]) (st' := []) (M' := q8.2) hX [(.iload_n 1, 0, 0, 0), (.istore 4, 0, 0, 0), (.iconst 0, 0, 0, 0), (.istore 5, 0, 0, 0), (.iconst 0, 0, 0, 0), (.istore 6, 0, 0, 0)] (by decide +kernel) rfl trivial ?_
        exact (pX12_pence_42_ok hX hRm zFU _ _ _ _ _ _ _ _ h)
      · have h := zip c10 h
        refine zG.blk (pc' := 32) (l' := [some (2, a0), some (0, a1), some (0, a2), some (0, q8.1), none, none, none, none]) (st' := [(0, 0)]) (M' := q8.2) hX [(.iconst 0, 0, 0, 0)] (by decide +kernel) rfl trivial ?_
        cases h
        exact zG.iret hX (by decide +kernel)
    · have h := zip c7 h
      exact zG.wk [false, false, false, true, true, true, true, true] (pX12_pence_20_ok hX hRm h)
theorem pX12_pence_ok {l : Launch} {E : ZE} {S : ZS} {M : ZM} {a0 a1 a2 : Int} {q : (Int × ZM)} (h : pX12_pence S M a0 a1 a2 = some q) : zMet l yX12_pence cX12_pence 8 (some .int) 4 103 0 0 E S M [(2, a0), (0, a1), (0, a2)] (some (0, q.1)) S q.2 :=
  zMet.of (o := 12) (ini := false) (by decide +kernel) rfl (fun h => by cases h) (Nat.le_of_ble_eq_true rfl) (fun C hX hl hRm => by subst hl; exact pX12_pence_go hX hRm h)
noncomputable def pX12_rains_54 (S : ZS) (M : ZM) : Option (Int × ZM) := some ((-1), M)
set_option maxHeartbeats 2000000 in
set_option maxRecDepth 20000 in
theorem pX12_rains_54_ok {C : ZC} {E : ZE} {S : ZS} {q : (Int × ZM)} (hX : zCx C E 12 cX12_rains 11 (some .int) false) (hRm : czR C = { frames := 7, cells := 0, slots := 0, locals := 176 }) {M : ZM} (h : pX12_rains_54 S M = some q) : zG C E 11 S 0 0 (zQ C E 0 0 (some (0, q.1)) S q.2) 54 [none, none, none, none, none, none, none, none, none, none, none] [] M := by
  unfold pX12_rains_54 at h
  refine zG.blk (pc' := 55) (l' := [none, none, none, none, none, none, none, none, none, none, none]) (st' := [(0, (-1))]) (M' := M) hX [(.iconst (-1), 0, 0, 0)] (by decide +kernel) rfl trivial ?_
  cases h
  exact zG.iret hX (by decide +kernel)
noncomputable def pX12_rains_170 (S : ZS) (k88 : ZM → Int → Int → Int → Int → Int → Int → Int → Int → Int → Int → Option (Int × ZM)) (M : ZM) (x0 : Int) (x1 : Int) (x2 : Int) (x3 : Int) (x4 : Int) (x5 : Int) (x7 : Int) (x9 : Int) (y0 : Int) (y1 : Int) : Option (Int × ZM) := if S.1 x0 = 12 then if S.1 (M x0 1) = 100 ∧ (0 : Int) ≤ 8 ∧ 8 < S.2.1 (M x0 1) then (pX12_laysBack S M x0).bind fun q34 => k88 q34 x0 x1 x2 x3 x4 x5 (M (M x0 1) 8) x7 (w32 (y1 + y0)) (w32 (x9 + 1)) else none else none
set_option maxHeartbeats 2000000 in
set_option maxRecDepth 20000 in
theorem pX12_rains_170_ok {C : ZC} {E : ZE} {S : ZS} {k88 : ZM → Int → Int → Int → Int → Int → Int → Int → Int → Int → Int → Option (Int × ZM)} {q : (Int × ZM)} (hX : zCx C E 12 cX12_rains 11 (some .int) false) (hRm : czR C = { frames := 7, cells := 0, slots := 0, locals := 176 }) (hk88 : ∀ M x0 x1 x2 x3 x4 x5 x6 x7 x8 x9, k88 M x0 x1 x2 x3 x4 x5 x6 x7 x8 x9 = some q → zG C E 11 S 0 0 (zQ C E 0 0 (some (0, q.1)) S q.2) 88 [some (2, x0), some (0, x1), some (0, x2), some (0, x3), some (0, x4), some (0, x5), some (0, x6), some (0, x7), some (0, x8), some (0, x9), none] [] M) {M : ZM} {x0 : Int} {x1 : Int} {x2 : Int} {x3 : Int} {x4 : Int} {x5 : Int} {x7 : Int} {x9 : Int} {y0 : Int} {y1 : Int} (h : pX12_rains_170 S k88 M x0 x1 x2 x3 x4 x5 x7 x9 y0 y1 = some q) : zG C E 11 S 0 0 (zQ C E 0 0 (some (0, q.1)) S q.2) 170 [some (2, x0), some (0, x1), some (0, x2), some (0, x3), some (0, x4), some (0, x5), none, some (0, x7), none, some (0, x9), none] [(0, y0), (0, y1)] M := by
  unfold pX12_rains_170 at h
  obtain ⟨g32, h⟩ := zif h
  obtain ⟨g33, h⟩ := zif h
  refine zG.blk (pc' := 183) (l' := [some (2, x0), some (0, x1), some (0, x2), some (0, x3), some (0, x4), some (0, x5), some (0, M (M x0 1) 8), some (0, x7), some (0, w32 (y1 + y0)), some (0, x9), none]) (st' := [(2, x0)]) (M' := M) hX [(.iadd, 0, 0, 0), (.istore 8, 0, 0, 0), (.aload_n 0, 0, 0, 0), (.getfield 9, 12, 1, 2), (.bipush 8, 0, 0, 0), (.iaload, 0, 0, 0), (.istore 6, 0, 0, 0), (.aload_n 0, 0, 0, 0)] (by decide +kernel) rfl (And.intro g32 (And.intro g33 trivial)) ?_
  obtain ⟨q34, e35, h⟩ := zbd h
  refine zG.callV (b := x0) (av := []) (st := []) (ci := 12) hX (pX12_laysBack_ok e35) sv_12_419 rfl ⟨by decide, rfl⟩ g32 (by decide +kernel) (by rw [hRm]; exact ⟨Nat.le_of_ble_eq_true rfl, Nat.le_of_ble_eq_true rfl⟩) (by rw [hRm]; exact ⟨Nat.le_of_ble_eq_true rfl, Nat.le_of_ble_eq_true rfl⟩) (Nat.le_of_ble_eq_true rfl) ?_
  show zG C E 11 S 0 0 _ 186 [some (2, x0), some (0, x1), some (0, x2), some (0, x3), some (0, x4), some (0, x5), some (0, M (M x0 1) 8), some (0, x7), some (0, w32 (y1 + y0)), some (0, x9), none] [] q34
  refine zG.blk (pc' := 189) (l' := [some (2, x0), some (0, x1), some (0, x2), some (0, x3), some (0, x4), some (0, x5), some (0, M (M x0 1) 8), some (0, x7), some (0, w32 (y1 + y0)), some (0, w32 (x9 + 1)), none]) (st' := []) (M' := q34) hX [(.iinc 9 1, 0, 0, 0)] (by decide +kernel) rfl trivial ?_
  refine zG.goto (tgt := 88) (off := (-101)) hX (by decide +kernel) (by decide) ?_
  exact (hk88 _ _ _ _ _ _ _ _ _ _ _ h)
theorem sv_12_495 : zSV 12 495 yX12_draws cX12_draws 2 (some .int) 1 := ⟨⟨gt_at 1734 (by decide +kernel) rfl, gt_at 1736 (by decide +kernel) rfl, gt_at 103 (by decide +kernel) rfl, gt_at 117 (by decide +kernel) rfl, gt_at 1737 (by decide +kernel) rfl⟩, by decide +kernel, by decide +kernel, by decide +kernel⟩
noncomputable def pX12_rains_135 (S : ZS) (k88 : ZM → Int → Int → Int → Int → Int → Int → Int → Int → Int → Int → Option (Int × ZM)) (k106 : ZM → Int → Int → Int → Int → Int → Int → Int → Int → Int → Int → Option (Int × ZM)) (M : ZM) (x0 : Int) (x1 : Int) (x2 : Int) (x3 : Int) (x4 : Int) (x5 : Int) (x7 : Int) (x8 : Int) (x9 : Int) (x10 : Int) : Option (Int × ZM) := if S.1 x0 = 12 then (pX12_goes S M x0).bind fun q43 => k106 q43.2 x0 x1 x2 x3 x4 x5 x7 x8 x9 (w32 (x10 + 1)) else none
set_option maxHeartbeats 2000000 in
set_option maxRecDepth 20000 in
theorem pX12_rains_135_ok {C : ZC} {E : ZE} {S : ZS} {k88 : ZM → Int → Int → Int → Int → Int → Int → Int → Int → Int → Int → Option (Int × ZM)} {k106 : ZM → Int → Int → Int → Int → Int → Int → Int → Int → Int → Int → Option (Int × ZM)} {q : (Int × ZM)} (hX : zCx C E 12 cX12_rains 11 (some .int) false) (hRm : czR C = { frames := 7, cells := 0, slots := 0, locals := 176 }) (hk88 : ∀ M x0 x1 x2 x3 x4 x5 x6 x7 x8 x9, k88 M x0 x1 x2 x3 x4 x5 x6 x7 x8 x9 = some q → zG C E 11 S 0 0 (zQ C E 0 0 (some (0, q.1)) S q.2) 88 [some (2, x0), some (0, x1), some (0, x2), some (0, x3), some (0, x4), some (0, x5), some (0, x6), some (0, x7), some (0, x8), some (0, x9), none] [] M) (hk106 : ∀ M x0 x1 x2 x3 x4 x5 x7 x8 x9 x10, k106 M x0 x1 x2 x3 x4 x5 x7 x8 x9 x10 = some q → zG C E 11 S 0 0 (zQ C E 0 0 (some (0, q.1)) S q.2) 106 [some (2, x0), some (0, x1), some (0, x2), some (0, x3), some (0, x4), some (0, x5), none, some (0, x7), some (0, x8), some (0, x9), some (0, x10)] [] M) {M : ZM} {x0 : Int} {x1 : Int} {x2 : Int} {x3 : Int} {x4 : Int} {x5 : Int} {x7 : Int} {x8 : Int} {x9 : Int} {x10 : Int} (h : pX12_rains_135 S k88 k106 M x0 x1 x2 x3 x4 x5 x7 x8 x9 x10 = some q) : zG C E 11 S 0 0 (zQ C E 0 0 (some (0, q.1)) S q.2) 135 [some (2, x0), some (0, x1), some (0, x2), some (0, x3), some (0, x4), some (0, x5), none, some (0, x7), some (0, x8), some (0, x9), some (0, x10)] [] M := by
  unfold pX12_rains_135 at h
  refine zG.blk (pc' := 136) (l' := [some (2, x0), some (0, x1), some (0, x2), some (0, x3), some (0, x4), some (0, x5), none, some (0, x7), some (0, x8), some (0, x9), some (0, x10)]) (st' := [(2, x0)]) (M' := M) hX [(.aload_n 0, 0, 0, 0)] (by decide +kernel) rfl trivial ?_
  obtain ⟨g45, h⟩ := zif h
  obtain ⟨q43, e44, h⟩ := zbd h
  refine zG.callV (b := x0) (av := []) (st := []) (ci := 12) hX (pX12_goes_ok e44) sv_12_381 rfl ⟨by decide, rfl⟩ g45 (by decide +kernel) (by rw [hRm]; exact ⟨Nat.le_of_ble_eq_true rfl, Nat.le_of_ble_eq_true rfl⟩) (by rw [hRm]; exact ⟨Nat.le_of_ble_eq_true rfl, Nat.le_of_ble_eq_true rfl⟩) (Nat.le_of_ble_eq_true rfl) ?_
  show zG C E 11 S 0 0 _ 139 [some (2, x0), some (0, x1), some (0, x2), some (0, x3), some (0, x4), some (0, x5), none, some (0, x7), some (0, x8), some (0, x9), some (0, x10)] [(0, q43.1)] q43.2
  refine zG.blk (pc' := 143) (l' := [some (2, x0), some (0, x1), some (0, x2), some (0, x3), some (0, x4), some (0, x5), none, some (0, x7), some (0, x8), some (0, x9), some (0, w32 (x10 + 1))]) (st' := []) (M' := q43.2) hX [(.pop, 0, 0, 0), (.iinc 10 1, 0, 0, 0)] (by decide +kernel) rfl trivial ?_
  refine zG.goto (tgt := 106) (off := (-37)) hX (by decide +kernel) (by decide) ?_
  exact (hk106 _ _ _ _ _ _ _ _ _ _ _ h)
noncomputable def pX12_rains_106 (S : ZS) (k88 : ZM → Int → Int → Int → Int → Int → Int → Int → Int → Int → Int → Option (Int × ZM)) : Nat → ZM → Int → Int → Int → Int → Int → Int → Int → Int → Int → Int → Option (Int × ZM)
  | 0 => fun _ _ _ _ _ _ _ _ _ _ _ => none
  | n + 1 => fun M x0 x1 x2 x3 x4 x5 x7 x8 x9 x10 => if x2 ≤ x10 then (if x4 = 0 then (if S.1 x0 = 12 then (pX12_like S M x0).bind fun q36 => pX12_rains_170 S k88 q36.2 x0 x1 x2 x3 x4 x5 x7 x9 q36.1 x8 else none) else (if S.1 x0 = 12 then if S.1 (M x0 1) = 100 ∧ (0 : Int) ≤ 6 ∧ 6 < S.2.1 (M x0 1) then pX12_rains_170 S k88 M x0 x1 x2 x3 x4 x5 x7 x9 (w32 ((M (M x0 1) 6) - x7)) x8 else none else none)) else (if S.1 x0 = 12 then (pX12_draws S M x0 100).bind fun q39 => if x3 ≤ q39.1 then (pX12_rains_135 S k88 (pX12_rains_106 S k88 n) q39.2 x0 x1 x2 x3 x4 x5 x7 x8 x9 x10) else ((pX12_cells S q39.2 x0).bind fun q46 => (pX12_draws S q46.2 x0 q46.1).bind fun q48 => (pX12_lays S q48.2 x0 q48.1 (-1)).bind fun q50 => pX12_rains_135 S k88 (pX12_rains_106 S k88 n) q50 x0 x1 x2 x3 x4 x5 x7 x8 x9 x10) else none)
set_option maxHeartbeats 2000000 in
set_option maxRecDepth 20000 in
theorem pX12_rains_106_ok {C : ZC} {E : ZE} {S : ZS} {k88 : ZM → Int → Int → Int → Int → Int → Int → Int → Int → Int → Int → Option (Int × ZM)} {q : (Int × ZM)} (hX : zCx C E 12 cX12_rains 11 (some .int) false) (hRm : czR C = { frames := 7, cells := 0, slots := 0, locals := 176 }) (hk88 : ∀ M x0 x1 x2 x3 x4 x5 x6 x7 x8 x9, k88 M x0 x1 x2 x3 x4 x5 x6 x7 x8 x9 = some q → zG C E 11 S 0 0 (zQ C E 0 0 (some (0, q.1)) S q.2) 88 [some (2, x0), some (0, x1), some (0, x2), some (0, x3), some (0, x4), some (0, x5), some (0, x6), some (0, x7), some (0, x8), some (0, x9), none] [] M) : ∀ (n : Nat) (M : ZM) (x0 : Int) (x1 : Int) (x2 : Int) (x3 : Int) (x4 : Int) (x5 : Int) (x7 : Int) (x8 : Int) (x9 : Int) (x10 : Int), pX12_rains_106 S k88 n M x0 x1 x2 x3 x4 x5 x7 x8 x9 x10 = some q → zG C E 11 S 0 0 (zQ C E 0 0 (some (0, q.1)) S q.2) 106 [some (2, x0), some (0, x1), some (0, x2), some (0, x3), some (0, x4), some (0, x5), none, some (0, x7), some (0, x8), some (0, x9), some (0, x10)] [] M := by
  intro n
  induction n with
  | zero => intro M x0 x1 x2 x3 x4 x5 x7 x8 x9 x10 h; cases h
  | succ n ih =>
    intro M x0 x1 x2 x3 x4 x5 x7 x8 x9 x10 h
    unfold pX12_rains_106 at h
    refine zG.blk (pc' := 109) (l' := [some (2, x0), some (0, x1), some (0, x2), some (0, x3), some (0, x4), some (0, x5), none, some (0, x7), some (0, x8), some (0, x9), some (0, x10)]) (st' := [(0, x2), (0, x10)]) (M' := M) hX [(.iload 10, 0, 0, 0), (.iload_n 2, 0, 0, 0)] (by decide +kernel) rfl trivial ?_
    refine zG.icmp_ge (tgt := 146) (off := 37) hX (by decide +kernel) (by decide) (fun c28 => ?_) (fun c28 => ?_)
    · have h := zip c28 h
      refine zG.blk (pc' := 150) (l' := [some (2, x0), some (0, x1), some (0, x2), some (0, x3), some (0, x4), some (0, x5), none, some (0, x7), some (0, x8), some (0, x9), some (0, x10)]) (st' := [(0, x4), (0, x8)]) (M' := M) hX [(.iload 8, 0, 0, 0), (.iload 4, 0, 0, 0)] (by decide +kernel) rfl trivial ?_
      refine zG.if_ne (tgt := 160) (off := 10) hX (by decide +kernel) (by decide) (fun c29 => ?_) (fun c29 => ?_)
      · have h := zin c29 h
        obtain ⟨g30, h⟩ := zif h
        obtain ⟨g31, h⟩ := zif h
        refine zG.blk (pc' := 170) (l' := [some (2, x0), some (0, x1), some (0, x2), some (0, x3), some (0, x4), some (0, x5), none, some (0, x7), some (0, x8), some (0, x9), some (0, x10)]) (st' := [(0, w32 ((M (M x0 1) 6) - x7)), (0, x8)]) (M' := M) hX [(.aload_n 0, 0, 0, 0), (.getfield 9, 12, 1, 2), (.bipush 6, 0, 0, 0), (.iaload, 0, 0, 0), (.iload 7, 0, 0, 0), (.isub, 0, 0, 0)] (by decide +kernel) rfl (And.intro g30 (And.intro g31 trivial)) ?_
        exact zG.wk [true, true, true, true, true, true, true, true, false, true, false] (pX12_rains_170_ok hX hRm hk88 h)
      · have h := zip c29 h
        refine zG.blk (pc' := 154) (l' := [some (2, x0), some (0, x1), some (0, x2), some (0, x3), some (0, x4), some (0, x5), none, some (0, x7), some (0, x8), some (0, x9), some (0, x10)]) (st' := [(2, x0), (0, x8)]) (M' := M) hX [(.aload_n 0, 0, 0, 0)] (by decide +kernel) rfl trivial ?_
        obtain ⟨g38, h⟩ := zif h
        obtain ⟨q36, e37, h⟩ := zbd h
        refine zG.callV (b := x0) (av := []) (st := [(0, x8)]) (ci := 12) hX (pX12_like_ok e37) sv_12_416 rfl ⟨by decide, rfl⟩ g38 (by decide +kernel) (by rw [hRm]; exact ⟨Nat.le_of_ble_eq_true rfl, Nat.le_of_ble_eq_true rfl⟩) (by rw [hRm]; exact ⟨Nat.le_of_ble_eq_true rfl, Nat.le_of_ble_eq_true rfl⟩) (Nat.le_of_ble_eq_true rfl) ?_
        show zG C E 11 S 0 0 _ 157 [some (2, x0), some (0, x1), some (0, x2), some (0, x3), some (0, x4), some (0, x5), none, some (0, x7), some (0, x8), some (0, x9), some (0, x10)] [(0, q36.1), (0, x8)] q36.2
        refine zG.goto (tgt := 170) (off := 13) hX (by decide +kernel) (by decide) ?_
        exact zG.wk [true, true, true, true, true, true, true, true, false, true, false] (pX12_rains_170_ok hX hRm hk88 h)
    · have h := zin c28 h
      refine zG.blk (pc' := 115) (l' := [some (2, x0), some (0, x1), some (0, x2), some (0, x3), some (0, x4), some (0, x5), none, some (0, x7), some (0, x8), some (0, x9), some (0, x10)]) (st' := [(0, 100), (2, x0)]) (M' := M) hX [(.aload_n 0, 0, 0, 0), (.bipush 100, 0, 0, 0)] (by decide +kernel) rfl trivial ?_
      obtain ⟨g41, h⟩ := zif h
      obtain ⟨q39, e40, h⟩ := zbd h
      refine zG.callV (b := x0) (av := [(0, 100)]) (st := []) (ci := 12) hX (pX12_draws_ok e40) sv_12_495 rfl ⟨by decide, rfl⟩ g41 (by decide +kernel) (by rw [hRm]; exact ⟨Nat.le_of_ble_eq_true rfl, Nat.le_of_ble_eq_true rfl⟩) (by rw [hRm]; exact ⟨Nat.le_of_ble_eq_true rfl, Nat.le_of_ble_eq_true rfl⟩) (Nat.le_of_ble_eq_true rfl) ?_
      show zG C E 11 S 0 0 _ 118 [some (2, x0), some (0, x1), some (0, x2), some (0, x3), some (0, x4), some (0, x5), none, some (0, x7), some (0, x8), some (0, x9), some (0, x10)] [(0, q39.1)] q39.2
      refine zG.blk (pc' := 119) (l' := [some (2, x0), some (0, x1), some (0, x2), some (0, x3), some (0, x4), some (0, x5), none, some (0, x7), some (0, x8), some (0, x9), some (0, x10)]) (st' := [(0, x3), (0, q39.1)]) (M' := q39.2) hX [(.iload_n 3, 0, 0, 0)] (by decide +kernel) rfl trivial ?_
      refine zG.icmp_ge (tgt := 135) (off := 16) hX (by decide +kernel) (by decide) (fun c42 => ?_) (fun c42 => ?_)
      · have h := zip c42 h
        exact (pX12_rains_135_ok hX hRm hk88 ih h)
      · have h := zin c42 h
        refine zG.blk (pc' := 125) (l' := [some (2, x0), some (0, x1), some (0, x2), some (0, x3), some (0, x4), some (0, x5), none, some (0, x7), some (0, x8), some (0, x9), some (0, x10)]) (st' := [(2, x0), (2, x0), (2, x0)]) (M' := q39.2) hX [(.aload_n 0, 0, 0, 0), (.aload_n 0, 0, 0, 0), (.aload_n 0, 0, 0, 0)] (by decide +kernel) rfl trivial ?_
        obtain ⟨q46, e47, h⟩ := zbd h
        refine zG.callV (b := x0) (av := []) (st := [(2, x0), (2, x0)]) (ci := 12) hX (pX12_cells_ok e47) sv_12_134 rfl ⟨by decide, rfl⟩ g41 (by decide +kernel) (by rw [hRm]; exact ⟨Nat.le_of_ble_eq_true rfl, Nat.le_of_ble_eq_true rfl⟩) (by rw [hRm]; exact ⟨Nat.le_of_ble_eq_true rfl, Nat.le_of_ble_eq_true rfl⟩) (Nat.le_of_ble_eq_true rfl) ?_
        show zG C E 11 S 0 0 _ 128 [some (2, x0), some (0, x1), some (0, x2), some (0, x3), some (0, x4), some (0, x5), none, some (0, x7), some (0, x8), some (0, x9), some (0, x10)] [(0, q46.1), (2, x0), (2, x0)] q46.2
        obtain ⟨q48, e49, h⟩ := zbd h
        refine zG.callV (b := x0) (av := [(0, q46.1)]) (st := [(2, x0)]) (ci := 12) hX (pX12_draws_ok e49) sv_12_495 rfl ⟨by decide, rfl⟩ g41 (by decide +kernel) (by rw [hRm]; exact ⟨Nat.le_of_ble_eq_true rfl, Nat.le_of_ble_eq_true rfl⟩) (by rw [hRm]; exact ⟨Nat.le_of_ble_eq_true rfl, Nat.le_of_ble_eq_true rfl⟩) (Nat.le_of_ble_eq_true rfl) ?_
        show zG C E 11 S 0 0 _ 131 [some (2, x0), some (0, x1), some (0, x2), some (0, x3), some (0, x4), some (0, x5), none, some (0, x7), some (0, x8), some (0, x9), some (0, x10)] [(0, q48.1), (2, x0)] q48.2
        refine zG.blk (pc' := 132) (l' := [some (2, x0), some (0, x1), some (0, x2), some (0, x3), some (0, x4), some (0, x5), none, some (0, x7), some (0, x8), some (0, x9), some (0, x10)]) (st' := [(0, (-1)), (0, q48.1), (2, x0)]) (M' := q48.2) hX [(.iconst (-1), 0, 0, 0)] (by decide +kernel) rfl trivial ?_
        obtain ⟨q50, e51, h⟩ := zbd h
        refine zG.callV (b := x0) (av := [(0, q48.1), (0, (-1))]) (st := []) (ci := 12) hX (pX12_lays_ok e51) sv_12_366 rfl ⟨by decide, rfl⟩ g41 (by decide +kernel) (by rw [hRm]; exact ⟨Nat.le_of_ble_eq_true rfl, Nat.le_of_ble_eq_true rfl⟩) (by rw [hRm]; exact ⟨Nat.le_of_ble_eq_true rfl, Nat.le_of_ble_eq_true rfl⟩) (Nat.le_of_ble_eq_true rfl) ?_
        show zG C E 11 S 0 0 _ 135 [some (2, x0), some (0, x1), some (0, x2), some (0, x3), some (0, x4), some (0, x5), none, some (0, x7), some (0, x8), some (0, x9), some (0, x10)] [] q50
        exact (pX12_rains_135_ok hX hRm hk88 ih h)
noncomputable def pX12_rains_88 (S : ZS) : Nat → ZM → Int → Int → Int → Int → Int → Int → Int → Int → Int → Int → Option (Int × ZM)
  | 0 => fun _ _ _ _ _ _ _ _ _ _ _ => none
  | n + 1 => fun M x0 x1 x2 x3 x4 x5 x6 x7 x8 x9 => if x1 ≤ x9 then (if S.1 x0 = 12 then if S.1 (M x0 1) = 100 ∧ (0 : Int) ≤ 8 ∧ 8 < S.2.1 (M x0 1) then zlet (upM M (M x0 1) 8 x5) fun M24 => some (x8, M24) else none else none) else (if S.1 x0 = 12 then if S.1 (M x0 1) = 100 ∧ (0 : Int) ≤ 8 ∧ 8 < S.2.1 (M x0 1) then zlet (upM M (M x0 1) 8 x6) fun M27 => pX12_rains_106 S (pX12_rains_88 S n) zFU M27 x0 x1 x2 x3 x4 x5 x7 x8 x9 0 else none else none)
set_option maxHeartbeats 2000000 in
set_option maxRecDepth 20000 in
theorem pX12_rains_88_ok {C : ZC} {E : ZE} {S : ZS} {q : (Int × ZM)} (hX : zCx C E 12 cX12_rains 11 (some .int) false) (hRm : czR C = { frames := 7, cells := 0, slots := 0, locals := 176 }) : ∀ (n : Nat) (M : ZM) (x0 : Int) (x1 : Int) (x2 : Int) (x3 : Int) (x4 : Int) (x5 : Int) (x6 : Int) (x7 : Int) (x8 : Int) (x9 : Int), pX12_rains_88 S n M x0 x1 x2 x3 x4 x5 x6 x7 x8 x9 = some q → zG C E 11 S 0 0 (zQ C E 0 0 (some (0, q.1)) S q.2) 88 [some (2, x0), some (0, x1), some (0, x2), some (0, x3), some (0, x4), some (0, x5), some (0, x6), some (0, x7), some (0, x8), some (0, x9), none] [] M := by
  intro n
  induction n with
  | zero => intro M x0 x1 x2 x3 x4 x5 x6 x7 x8 x9 h; cases h
  | succ n ih =>
    intro M x0 x1 x2 x3 x4 x5 x6 x7 x8 x9 h
    unfold pX12_rains_88 at h
    refine zG.blk (pc' := 91) (l' := [some (2, x0), some (0, x1), some (0, x2), some (0, x3), some (0, x4), some (0, x5), some (0, x6), some (0, x7), some (0, x8), some (0, x9), none]) (st' := [(0, x1), (0, x9)]) (M' := M) hX [(.iload 9, 0, 0, 0), (.iload_n 1, 0, 0, 0)] (by decide +kernel) rfl trivial ?_
    refine zG.icmp_ge (tgt := 192) (off := 101) hX (by decide +kernel) (by decide) (fun c21 => ?_) (fun c21 => ?_)
    · have h := zip c21 h
      obtain ⟨g22, h⟩ := zif h
      obtain ⟨g23, h⟩ := zif h
      refine zG.blk (pc' := 201) (l' := [some (2, x0), some (0, x1), some (0, x2), some (0, x3), some (0, x4), some (0, x5), some (0, x6), some (0, x7), some (0, x8), some (0, x9), none]) (st' := []) (M' := (upM M (M x0 1) 8 x5)) hX [(.aload_n 0, 0, 0, 0), (.getfield 9, 12, 1, 2), (.bipush 8, 0, 0, 0), (.iload 5, 0, 0, 0), (.iastore, 0, 0, 0)] (by decide +kernel) rfl (And.intro g22 (And.intro g23 trivial)) ?_
      generalize upM M (M x0 1) 8 x5 = M24 at h ⊢
      have h := zlt h
      refine zG.blk (pc' := 203) (l' := [some (2, x0), some (0, x1), some (0, x2), some (0, x3), some (0, x4), some (0, x5), some (0, x6), some (0, x7), some (0, x8), some (0, x9), none]) (st' := [(0, x8)]) (M' := M24) hX [(.iload 8, 0, 0, 0)] (by decide +kernel) rfl trivial ?_
      cases h
      exact zG.iret hX (by decide +kernel)
    · have h := zin c21 h
      obtain ⟨g25, h⟩ := zif h
      obtain ⟨g26, h⟩ := zif h
      refine zG.blk (pc' := 103) (l' := [some (2, x0), some (0, x1), some (0, x2), some (0, x3), some (0, x4), some (0, x5), some (0, x6), some (0, x7), some (0, x8), some (0, x9), none]) (st' := []) (M' := (upM M (M x0 1) 8 x6)) hX [(.aload_n 0, 0, 0, 0), (.getfield 9, 12, 1, 2), (.bipush 8, 0, 0, 0), (.iload 6, 0, 0, 0), (.iastore, 0, 0, 0)] (by decide +kernel) rfl (And.intro g25 (And.intro g26 trivial)) ?_
      generalize upM M (M x0 1) 8 x6 = M27 at h ⊢
      have h := zlt h
      refine zG.blk (pc' := 106) (l' := [some (2, x0), some (0, x1), some (0, x2), some (0, x3), some (0, x4), some (0, x5), some (0, x6), some (0, x7), some (0, x8), some (0, x9), some (0, 0)]) (st' := []) (M' := M27) hX [(.iconst 0, 0, 0, 0), (.istore 10, 0, 0, 0)] (by decide +kernel) rfl trivial ?_
      exact zG.wk [true, true, true, true, true, true, false, true, true, true, true] (pX12_rains_106_ok hX hRm ih zFU _ _ _ _ _ _ _ _ _ _ _ h)
noncomputable def pX12_rains (S : ZS) (M : ZM) (a0 : Int) (a1 : Int) (a2 : Int) (a3 : Int) (a4 : Int) : Option (Int × ZM) := if S.1 a0 = 12 then (pX12_isSky S M a0).bind fun q1 => if q1.1 = 0 then (pX12_rains_54 S q1.2) else ((pX12_in S q1.2 a1 1 10).bind fun q5 => if q5.1 = 0 then (pX12_rains_54 S q5.2) else ((pX12_in S q5.2 a2 1 60).bind fun q8 => if q8.1 = 0 then (pX12_rains_54 S q8.2) else ((pX12_in S q8.2 a3 0 100).bind fun q11 => if q11.1 = 0 then (pX12_rains_54 S q11.2) else ((pX12_in S q11.2 a4 0 1).bind fun q14 => if q14.1 = 0 then (pX12_rains_54 S q14.2) else (if S.1 (q14.2 a0 1) = 100 ∧ (0 : Int) ≤ 8 ∧ 8 < S.2.1 (q14.2 a0 1) then if S.1 (q14.2 a0 1) = 100 ∧ (0 : Int) ≤ 6 ∧ 6 < S.2.1 (q14.2 a0 1) then (pX12_keepsAll S q14.2 a0).bind fun q19 => pX12_rains_88 S zFU q19 a0 a1 a2 a3 a4 (q14.2 (q14.2 a0 1) 8) (q14.2 (q14.2 a0 1) 8) (q14.2 (q14.2 a0 1) 6) 0 0 else none else none))))) else none
set_option maxHeartbeats 2000000 in
set_option maxRecDepth 20000 in
theorem pX12_rains_go {C : ZC} {E : ZE} {S : ZS} {M : ZM} {a0 a1 a2 a3 a4 : Int} {q : (Int × ZM)} (hX : zCx C E 12 cX12_rains 11 (some .int) false) (hRm : czR C = { frames := 7, cells := 0, slots := 0, locals := 176 }) (h : pX12_rains  S M a0 a1 a2 a3 a4 = some q) : zG C E 11 S 0 0 (zQ C E 0 0 (some (0, q.1)) S q.2) 0 [some (2, a0), some (0, a1), some (0, a2), some (0, a3), some (0, a4), none, none, none, none, none, none] [] M := by
  unfold pX12_rains at h
  refine zG.blk (pc' := 1) (l' := [some (2, a0), some (0, a1), some (0, a2), some (0, a3), some (0, a4), none, none, none, none, none, none]) (st' := [(2, a0)]) (M' := M) hX [(.aload_n 0, 0, 0, 0)] (by decide +kernel) rfl trivial ?_
  obtain ⟨g3, h⟩ := zif h
  obtain ⟨q1, e2, h⟩ := zbd h
  refine zG.callV (b := a0) (av := []) (st := []) (ci := 12) hX (pX12_isSky_ok e2) sv_12_402 rfl ⟨by decide, rfl⟩ g3 (by decide +kernel) (by rw [hRm]; exact ⟨Nat.le_of_ble_eq_true rfl, Nat.le_of_ble_eq_true rfl⟩) (by rw [hRm]; exact ⟨Nat.le_of_ble_eq_true rfl, Nat.le_of_ble_eq_true rfl⟩) (Nat.le_of_ble_eq_true rfl) ?_
  show zG C E 11 S 0 0 _ 4 [some (2, a0), some (0, a1), some (0, a2), some (0, a3), some (0, a4), none, none, none, none, none, none] [(0, q1.1)] q1.2
  refine zG.if_eq (tgt := 54) (off := 50) hX (by decide +kernel) (by decide) (fun c4 => ?_) (fun c4 => ?_)
  · have h := zip c4 h
    exact zG.wk [false, false, false, false, false, true, true, true, true, true, true] (pX12_rains_54_ok hX hRm h)
  · have h := zin c4 h
    refine zG.blk (pc' := 13) (l' := [some (2, a0), some (0, a1), some (0, a2), some (0, a3), some (0, a4), none, none, none, none, none, none]) (st' := [(1, 10), (1, 1), (1, a1)]) (M' := q1.2) hX [(.iload_n 1, 0, 0, 0), (.i2l, 0, 0, 0), (.lconst 1, 1, 0, 0), (.ldc2_w 493, 10, 0, 0)] (by decide +kernel) rfl trivial ?_
    obtain ⟨q5, e6, h⟩ := zbd h
    refine zG.callS (av := [(1, a1), (1, 1), (1, 10)]) (st := []) hX (pX12_in_ok e6) ss_12_138 rfl (by decide +kernel) (by rw [hRm]; exact ⟨Nat.le_of_ble_eq_true rfl, Nat.le_of_ble_eq_true rfl⟩) (by rw [hRm]; exact ⟨Nat.le_of_ble_eq_true rfl, Nat.le_of_ble_eq_true rfl⟩) (Nat.le_of_ble_eq_true rfl) ?_
    show zG C E 11 S 0 0 _ 16 [some (2, a0), some (0, a1), some (0, a2), some (0, a3), some (0, a4), none, none, none, none, none, none] [(0, q5.1)] q5.2
    refine zG.if_eq (tgt := 54) (off := 38) hX (by decide +kernel) (by decide) (fun c7 => ?_) (fun c7 => ?_)
    · have h := zip c7 h
      exact zG.wk [false, false, false, false, false, true, true, true, true, true, true] (pX12_rains_54_ok hX hRm h)
    · have h := zin c7 h
      refine zG.blk (pc' := 25) (l' := [some (2, a0), some (0, a1), some (0, a2), some (0, a3), some (0, a4), none, none, none, none, none, none]) (st' := [(1, 60), (1, 1), (1, a2)]) (M' := q5.2) hX [(.iload_n 2, 0, 0, 0), (.i2l, 0, 0, 0), (.lconst 1, 1, 0, 0), (.ldc2_w 440, 60, 0, 0)] (by decide +kernel) rfl trivial ?_
      obtain ⟨q8, e9, h⟩ := zbd h
      refine zG.callS (av := [(1, a2), (1, 1), (1, 60)]) (st := []) hX (pX12_in_ok e9) ss_12_138 rfl (by decide +kernel) (by rw [hRm]; exact ⟨Nat.le_of_ble_eq_true rfl, Nat.le_of_ble_eq_true rfl⟩) (by rw [hRm]; exact ⟨Nat.le_of_ble_eq_true rfl, Nat.le_of_ble_eq_true rfl⟩) (Nat.le_of_ble_eq_true rfl) ?_
      show zG C E 11 S 0 0 _ 28 [some (2, a0), some (0, a1), some (0, a2), some (0, a3), some (0, a4), none, none, none, none, none, none] [(0, q8.1)] q8.2
      refine zG.if_eq (tgt := 54) (off := 26) hX (by decide +kernel) (by decide) (fun c10 => ?_) (fun c10 => ?_)
      · have h := zip c10 h
        exact zG.wk [false, false, false, false, false, true, true, true, true, true, true] (pX12_rains_54_ok hX hRm h)
      · have h := zin c10 h
        refine zG.blk (pc' := 37) (l' := [some (2, a0), some (0, a1), some (0, a2), some (0, a3), some (0, a4), none, none, none, none, none, none]) (st' := [(1, 100), (1, 0), (1, a3)]) (M' := q8.2) hX [(.iload_n 3, 0, 0, 0), (.i2l, 0, 0, 0), (.lconst 0, 0, 0, 0), (.ldc2_w 424, 100, 0, 0)] (by decide +kernel) rfl trivial ?_
        obtain ⟨q11, e12, h⟩ := zbd h
        refine zG.callS (av := [(1, a3), (1, 0), (1, 100)]) (st := []) hX (pX12_in_ok e12) ss_12_138 rfl (by decide +kernel) (by rw [hRm]; exact ⟨Nat.le_of_ble_eq_true rfl, Nat.le_of_ble_eq_true rfl⟩) (by rw [hRm]; exact ⟨Nat.le_of_ble_eq_true rfl, Nat.le_of_ble_eq_true rfl⟩) (Nat.le_of_ble_eq_true rfl) ?_
        show zG C E 11 S 0 0 _ 40 [some (2, a0), some (0, a1), some (0, a2), some (0, a3), some (0, a4), none, none, none, none, none, none] [(0, q11.1)] q11.2
        refine zG.if_eq (tgt := 54) (off := 14) hX (by decide +kernel) (by decide) (fun c13 => ?_) (fun c13 => ?_)
        · have h := zip c13 h
          exact zG.wk [false, false, false, false, false, true, true, true, true, true, true] (pX12_rains_54_ok hX hRm h)
        · have h := zin c13 h
          refine zG.blk (pc' := 48) (l' := [some (2, a0), some (0, a1), some (0, a2), some (0, a3), some (0, a4), none, none, none, none, none, none]) (st' := [(1, 1), (1, 0), (1, a4)]) (M' := q11.2) hX [(.iload 4, 0, 0, 0), (.i2l, 0, 0, 0), (.lconst 0, 0, 0, 0), (.lconst 1, 1, 0, 0)] (by decide +kernel) rfl trivial ?_
          obtain ⟨q14, e15, h⟩ := zbd h
          refine zG.callS (av := [(1, a4), (1, 0), (1, 1)]) (st := []) hX (pX12_in_ok e15) ss_12_138 rfl (by decide +kernel) (by rw [hRm]; exact ⟨Nat.le_of_ble_eq_true rfl, Nat.le_of_ble_eq_true rfl⟩) (by rw [hRm]; exact ⟨Nat.le_of_ble_eq_true rfl, Nat.le_of_ble_eq_true rfl⟩) (Nat.le_of_ble_eq_true rfl) ?_
          show zG C E 11 S 0 0 _ 51 [some (2, a0), some (0, a1), some (0, a2), some (0, a3), some (0, a4), none, none, none, none, none, none] [(0, q14.1)] q14.2
          refine zG.if_ne (tgt := 56) (off := 5) hX (by decide +kernel) (by decide) (fun c16 => ?_) (fun c16 => ?_)
          · have h := zin c16 h
            obtain ⟨g17, h⟩ := zif h
            obtain ⟨g18, h⟩ := zif h
            refine zG.blk (pc' := 82) (l' := [some (2, a0), some (0, a1), some (0, a2), some (0, a3), some (0, a4), some (0, q14.2 (q14.2 a0 1) 8), some (0, q14.2 (q14.2 a0 1) 8), some (0, q14.2 (q14.2 a0 1) 6), some (0, 0), none, none]) (st' := [(2, a0)]) (M' := q14.2) hX [(.aload_n 0, 0, 0, 0), (.getfield 9, 12, 1, 2), (.bipush 8, 0, 0, 0), (.iaload, 0, 0, 0), (.istore 5, 0, 0, 0), (.iload 5, 0, 0, 0), (.istore 6, 0, 0, 0), (.aload_n 0, 0, 0, 0), (.getfield 9, 12, 1, 2), (.bipush 6, 0, 0, 0), (.iaload, 0, 0, 0), (.istore 7, 0, 0, 0), (.iconst 0, 0, 0, 0), (.istore 8, 0, 0, 0), (.aload_n 0, 0, 0, 0)] (by decide +kernel) rfl (And.intro g3 (And.intro g17 (And.intro g3 (And.intro g18 trivial)))) ?_
            obtain ⟨q19, e20, h⟩ := zbd h
            refine zG.callV (b := a0) (av := []) (st := []) (ci := 12) hX (pX12_keepsAll_ok e20) sv_12_426 rfl ⟨by decide, rfl⟩ g3 (by decide +kernel) (by rw [hRm]; exact ⟨Nat.le_of_ble_eq_true rfl, Nat.le_of_ble_eq_true rfl⟩) (by rw [hRm]; exact ⟨Nat.le_of_ble_eq_true rfl, Nat.le_of_ble_eq_true rfl⟩) (Nat.le_of_ble_eq_true rfl) ?_
            show zG C E 11 S 0 0 _ 85 [some (2, a0), some (0, a1), some (0, a2), some (0, a3), some (0, a4), some (0, q14.2 (q14.2 a0 1) 8), some (0, q14.2 (q14.2 a0 1) 8), some (0, q14.2 (q14.2 a0 1) 6), some (0, 0), none, none] [] q19
            refine zG.blk (pc' := 88) (l' := [some (2, a0), some (0, a1), some (0, a2), some (0, a3), some (0, a4), some (0, q14.2 (q14.2 a0 1) 8), some (0, q14.2 (q14.2 a0 1) 8), some (0, q14.2 (q14.2 a0 1) 6), some (0, 0), some (0, 0), none]) (st' := []) (M' := q19) hX [(.iconst 0, 0, 0, 0), (.istore 9, 0, 0, 0)] (by decide +kernel) rfl trivial ?_
            exact (pX12_rains_88_ok hX hRm zFU _ _ _ _ _ _ _ _ _ _ _ h)
          · have h := zip c16 h
            exact zG.wk [false, false, false, false, false, true, true, true, true, true, true] (pX12_rains_54_ok hX hRm h)
theorem pX12_rains_ok {l : Launch} {E : ZE} {S : ZS} {M : ZM} {a0 a1 a2 a3 a4 : Int} {q : (Int × ZM)} (h : pX12_rains S M a0 a1 a2 a3 a4 = some q) : zMet l yX12_rains cX12_rains 11 (some .int) 7 176 0 0 E S M [(2, a0), (0, a1), (0, a2), (0, a3), (0, a4)] (some (0, q.1)) S q.2 :=
  zMet.of (o := 12) (ini := false) (by decide +kernel) rfl (fun h => by cases h) (Nat.le_of_ble_eq_true rfl) (fun C hX hl hRm => by subst hl; exact pX12_rains_go hX hRm h)
noncomputable def pX12_read_29 (S : ZS) (M : ZM) : Option (Int × ZM) := some ((-1), M)
set_option maxHeartbeats 2000000 in
set_option maxRecDepth 20000 in
theorem pX12_read_29_ok {C : ZC} {E : ZE} {S : ZS} {q : (Int × ZM)} (hX : zCx C E 12 cX12_read 5 (some .int) false) (hRm : czR C = { frames := 8, cells := 0, slots := 0, locals := 198 }) {M : ZM} (h : pX12_read_29 S M = some q) : zG C E 5 S 0 0 (zQ C E 0 0 (some (0, q.1)) S q.2) 29 [none, none, none, none, none] [] M := by
  unfold pX12_read_29 at h
  refine zG.blk (pc' := 30) (l' := [none, none, none, none, none]) (st' := [(0, (-1))]) (M' := M) hX [(.iconst (-1), 0, 0, 0)] (by decide +kernel) rfl trivial ?_
  cases h
  exact zG.iret hX (by decide +kernel)
noncomputable def pX12_read_135 (S : ZS) (M : ZM) (y0 : Int) : Option (Int × ZM) := some (y0, M)
set_option maxHeartbeats 2000000 in
set_option maxRecDepth 20000 in
theorem pX12_read_135_ok {C : ZC} {E : ZE} {S : ZS} {q : (Int × ZM)} (hX : zCx C E 12 cX12_read 5 (some .int) false) (hRm : czR C = { frames := 8, cells := 0, slots := 0, locals := 198 }) {M : ZM} {y0 : Int} (h : pX12_read_135 S M y0 = some q) : zG C E 5 S 0 0 (zQ C E 0 0 (some (0, q.1)) S q.2) 135 [none, none, none, none, none] [(0, y0)] M := by
  unfold pX12_read_135 at h
  cases h
  exact zG.iret hX (by decide +kernel)
noncomputable def pX12_read_61 (S : ZS) (k37 : ZM → Int → Int → Int → Int → Option (Int × ZM)) : Nat → ZM → Int → Int → Int → Int → Int → Option (Int × ZM)
  | 0 => fun _ _ _ _ _ _ => none
  | n + 1 => fun M x0 x1 x2 x3 x4 => if 36 ≤ x4 then (if S.1 x0 = 12 then (pX12_laysBack S M x0).bind fun q25 => k37 q25 x0 x1 x2 (w32 (x3 + 1)) else none) else (if S.1 x0 = 12 then if S.1 (M x0 4) = 100 ∧ (0 : Int) ≤ x4 ∧ x4 < S.2.1 (M x0 4) then if S.1 (M x0 48) = 100 ∧ (0 : Int) ≤ w32 ((w32 (36 * (w32 (x3 + 1)))) + x4) ∧ w32 ((w32 (36 * (w32 (x3 + 1)))) + x4) < S.2.1 (M x0 48) then zlet (upM M (M x0 48) (w32 ((w32 (36 * (w32 (x3 + 1)))) + x4)) (M (M x0 4) x4)) fun M31 => pX12_read_61 S k37 n M31 x0 x1 x2 x3 (w32 (x4 + 1)) else none else none else none)
set_option maxHeartbeats 2000000 in
set_option maxRecDepth 20000 in
theorem pX12_read_61_ok {C : ZC} {E : ZE} {S : ZS} {k37 : ZM → Int → Int → Int → Int → Option (Int × ZM)} {q : (Int × ZM)} (hX : zCx C E 12 cX12_read 5 (some .int) false) (hRm : czR C = { frames := 8, cells := 0, slots := 0, locals := 198 }) (hk37 : ∀ M x0 x1 x2 x3, k37 M x0 x1 x2 x3 = some q → zG C E 5 S 0 0 (zQ C E 0 0 (some (0, q.1)) S q.2) 37 [some (2, x0), some (0, x1), some (0, x2), some (0, x3), none] [] M) : ∀ (n : Nat) (M : ZM) (x0 : Int) (x1 : Int) (x2 : Int) (x3 : Int) (x4 : Int), pX12_read_61 S k37 n M x0 x1 x2 x3 x4 = some q → zG C E 5 S 0 0 (zQ C E 0 0 (some (0, q.1)) S q.2) 61 [some (2, x0), some (0, x1), some (0, x2), some (0, x3), some (0, x4)] [] M := by
  intro n
  induction n with
  | zero => intro M x0 x1 x2 x3 x4 h; cases h
  | succ n ih =>
    intro M x0 x1 x2 x3 x4 h
    unfold pX12_read_61 at h
    refine zG.blk (pc' := 65) (l' := [some (2, x0), some (0, x1), some (0, x2), some (0, x3), some (0, x4)]) (st' := [(0, 36), (0, x4)]) (M' := M) hX [(.iload 4, 0, 0, 0), (.bipush 36, 0, 0, 0)] (by decide +kernel) rfl trivial ?_
    refine zG.icmp_ge (tgt := 95) (off := 30) hX (by decide +kernel) (by decide) (fun c24 => ?_) (fun c24 => ?_)
    · have h := zip c24 h
      refine zG.blk (pc' := 96) (l' := [some (2, x0), some (0, x1), some (0, x2), some (0, x3), some (0, x4)]) (st' := [(2, x0)]) (M' := M) hX [(.aload_n 0, 0, 0, 0)] (by decide +kernel) rfl trivial ?_
      obtain ⟨g27, h⟩ := zif h
      obtain ⟨q25, e26, h⟩ := zbd h
      refine zG.callV (b := x0) (av := []) (st := []) (ci := 12) hX (pX12_laysBack_ok e26) sv_12_419 rfl ⟨by decide, rfl⟩ g27 (by decide +kernel) (by rw [hRm]; exact ⟨Nat.le_of_ble_eq_true rfl, Nat.le_of_ble_eq_true rfl⟩) (by rw [hRm]; exact ⟨Nat.le_of_ble_eq_true rfl, Nat.le_of_ble_eq_true rfl⟩) (Nat.le_of_ble_eq_true rfl) ?_
      show zG C E 5 S 0 0 _ 99 [some (2, x0), some (0, x1), some (0, x2), some (0, x3), some (0, x4)] [] q25
      refine zG.blk (pc' := 102) (l' := [some (2, x0), some (0, x1), some (0, x2), some (0, w32 (x3 + 1)), some (0, x4)]) (st' := []) (M' := q25) hX [(.iinc 3 1, 0, 0, 0)] (by decide +kernel) rfl trivial ?_
      refine zG.goto (tgt := 37) (off := (-65)) hX (by decide +kernel) (by decide) ?_
      exact zG.wk [true, true, true, true, false] (hk37 _ _ _ _ _ h)
    · have h := zin c24 h
      obtain ⟨g28, h⟩ := zif h
      obtain ⟨g29, h⟩ := zif h
      obtain ⟨g30, h⟩ := zif h
      refine zG.blk (pc' := 89) (l' := [some (2, x0), some (0, x1), some (0, x2), some (0, x3), some (0, x4)]) (st' := []) (M' := (upM M (M x0 48) (w32 ((w32 (36 * (w32 (x3 + 1)))) + x4)) (M (M x0 4) x4))) hX [(.aload_n 0, 0, 0, 0), (.getfield 118, 12, 48, 2), (.bipush 36, 0, 0, 0), (.iload_n 3, 0, 0, 0), (.iconst 1, 0, 0, 0), (.iadd, 0, 0, 0), (.imul, 0, 0, 0), (.iload 4, 0, 0, 0), (.iadd, 0, 0, 0), (.aload_n 0, 0, 0, 0), (.getfield 19, 12, 4, 2), (.iload 4, 0, 0, 0), (.iaload, 0, 0, 0), (.iastore, 0, 0, 0)] (by decide +kernel) rfl (And.intro g28 (And.intro g28 (And.intro g29 (And.intro g30 trivial)))) ?_
      generalize upM M (M x0 48) (w32 ((w32 (36 * (w32 (x3 + 1)))) + x4)) (M (M x0 4) x4) = M31 at h ⊢
      have h := zlt h
      refine zG.blk (pc' := 92) (l' := [some (2, x0), some (0, x1), some (0, x2), some (0, x3), some (0, w32 (x4 + 1))]) (st' := []) (M' := M31) hX [(.iinc 4 1, 0, 0, 0)] (by decide +kernel) rfl trivial ?_
      refine zG.goto (tgt := 61) (off := (-31)) hX (by decide +kernel) (by decide) ?_
      exact ih _ _ _ _ _ _ h
noncomputable def pX12_read_37 (S : ZS) : Nat → ZM → Int → Int → Int → Int → Option (Int × ZM)
  | 0 => fun _ _ _ _ _ => none
  | n + 1 => fun M x0 x1 x2 x3 => if S.1 x0 = 12 then if M x0 24 ≤ x3 then ((pX12_parting S M x0 (w32 ((M x0 24) + 1))).bind fun q15 => if x2 = 0 then (pX12_read_135 S q15.2 q15.1) else ((pX12_mostAlike S q15.2 x0 q15.1 (w32 ((q15.2 x0 24) + 1))).bind fun q18 => pX12_read_135 S q18.2 q18.1)) else (if S.1 (M x0 1) = 100 ∧ (0 : Int) ≤ 9 ∧ 9 < S.2.1 (M x0 1) then zlet (upM M (M x0 1) 9 x3) fun M21 => (pX12_goFor S M21 x0 x1).bind fun q22 => pX12_read_61 S (pX12_read_37 S n) zFU q22 x0 x1 x2 x3 0 else none) else none
set_option maxHeartbeats 2000000 in
set_option maxRecDepth 20000 in
theorem pX12_read_37_ok {C : ZC} {E : ZE} {S : ZS} {q : (Int × ZM)} (hX : zCx C E 12 cX12_read 5 (some .int) false) (hRm : czR C = { frames := 8, cells := 0, slots := 0, locals := 198 }) : ∀ (n : Nat) (M : ZM) (x0 : Int) (x1 : Int) (x2 : Int) (x3 : Int), pX12_read_37 S n M x0 x1 x2 x3 = some q → zG C E 5 S 0 0 (zQ C E 0 0 (some (0, q.1)) S q.2) 37 [some (2, x0), some (0, x1), some (0, x2), some (0, x3), none] [] M := by
  intro n
  induction n with
  | zero => intro M x0 x1 x2 x3 h; cases h
  | succ n ih =>
    intro M x0 x1 x2 x3 h
    unfold pX12_read_37 at h
    obtain ⟨g13, h⟩ := zif h
    refine zG.blk (pc' := 42) (l' := [some (2, x0), some (0, x1), some (0, x2), some (0, x3), none]) (st' := [(0, M x0 24), (0, x3)]) (M' := M) hX [(.iload_n 3, 0, 0, 0), (.aload_n 0, 0, 0, 0), (.getfield 318, 12, 24, 0)] (by decide +kernel) rfl (And.intro g13 trivial) ?_
    refine zG.icmp_ge (tgt := 105) (off := 63) hX (by decide +kernel) (by decide) (fun c14 => ?_) (fun c14 => ?_)
    · have h := zip c14 h
      refine zG.blk (pc' := 112) (l' := [some (2, x0), some (0, x1), some (0, x2), some (0, x3), none]) (st' := [(0, w32 ((M x0 24) + 1)), (2, x0)]) (M' := M) hX [(.aload_n 0, 0, 0, 0), (.aload_n 0, 0, 0, 0), (.getfield 318, 12, 24, 0), (.iconst 1, 0, 0, 0), (.iadd, 0, 0, 0)] (by decide +kernel) rfl (And.intro g13 trivial) ?_
      obtain ⟨q15, e16, h⟩ := zbd h
      refine zG.callV (b := x0) (av := [(0, w32 ((M x0 24) + 1))]) (st := []) (ci := 12) hX (pX12_parting_ok e16) sv_12_480 rfl ⟨by decide, rfl⟩ g13 (by decide +kernel) (by rw [hRm]; exact ⟨Nat.le_of_ble_eq_true rfl, Nat.le_of_ble_eq_true rfl⟩) (by rw [hRm]; exact ⟨Nat.le_of_ble_eq_true rfl, Nat.le_of_ble_eq_true rfl⟩) (Nat.le_of_ble_eq_true rfl) ?_
      show zG C E 5 S 0 0 _ 115 [some (2, x0), some (0, x1), some (0, x2), some (0, x3), none] [(0, q15.1)] q15.2
      refine zG.blk (pc' := 117) (l' := [some (2, x0), some (0, x1), some (0, x2), some (0, q15.1), none]) (st' := [(0, x2)]) (M' := q15.2) hX [(.istore_n 3, 0, 0, 0), (.iload_n 2, 0, 0, 0)] (by decide +kernel) rfl trivial ?_
      refine zG.if_ne (tgt := 124) (off := 7) hX (by decide +kernel) (by decide) (fun c17 => ?_) (fun c17 => ?_)
      · have h := zin c17 h
        refine zG.blk (pc' := 132) (l' := [some (2, x0), some (0, x1), some (0, x2), some (0, q15.1), none]) (st' := [(0, w32 ((q15.2 x0 24) + 1)), (0, q15.1), (2, x0)]) (M' := q15.2) hX [(.aload_n 0, 0, 0, 0), (.iload_n 3, 0, 0, 0), (.aload_n 0, 0, 0, 0), (.getfield 318, 12, 24, 0), (.iconst 1, 0, 0, 0), (.iadd, 0, 0, 0)] (by decide +kernel) rfl (And.intro g13 trivial) ?_
        obtain ⟨q18, e19, h⟩ := zbd h
        refine zG.callV (b := x0) (av := [(0, q15.1), (0, w32 ((q15.2 x0 24) + 1))]) (st := []) (ci := 12) hX (pX12_mostAlike_ok e19) sv_12_477 rfl ⟨by decide, rfl⟩ g13 (by decide +kernel) (by rw [hRm]; exact ⟨Nat.le_of_ble_eq_true rfl, Nat.le_of_ble_eq_true rfl⟩) (by rw [hRm]; exact ⟨Nat.le_of_ble_eq_true rfl, Nat.le_of_ble_eq_true rfl⟩) (Nat.le_of_ble_eq_true rfl) ?_
        show zG C E 5 S 0 0 _ 135 [some (2, x0), some (0, x1), some (0, x2), some (0, q15.1), none] [(0, q18.1)] q18.2
        exact zG.wk [false, false, false, false, true] (pX12_read_135_ok hX hRm h)
      · have h := zip c17 h
        refine zG.blk (pc' := 121) (l' := [some (2, x0), some (0, x1), some (0, x2), some (0, q15.1), none]) (st' := [(0, q15.1)]) (M' := q15.2) hX [(.iload_n 3, 0, 0, 0)] (by decide +kernel) rfl trivial ?_
        refine zG.goto (tgt := 135) (off := 14) hX (by decide +kernel) (by decide) ?_
        exact zG.wk [false, false, false, false, true] (pX12_read_135_ok hX hRm h)
    · have h := zin c14 h
      obtain ⟨g20, h⟩ := zif h
      refine zG.blk (pc' := 53) (l' := [some (2, x0), some (0, x1), some (0, x2), some (0, x3), none]) (st' := []) (M' := (upM M (M x0 1) 9 x3)) hX [(.aload_n 0, 0, 0, 0), (.getfield 9, 12, 1, 2), (.bipush 9, 0, 0, 0), (.iload_n 3, 0, 0, 0), (.iastore, 0, 0, 0)] (by decide +kernel) rfl (And.intro g13 (And.intro g20 trivial)) ?_
      generalize upM M (M x0 1) 9 x3 = M21 at h ⊢
      have h := zlt h
      refine zG.blk (pc' := 55) (l' := [some (2, x0), some (0, x1), some (0, x2), some (0, x3), none]) (st' := [(0, x1), (2, x0)]) (M' := M21) hX [(.aload_n 0, 0, 0, 0), (.iload_n 1, 0, 0, 0)] (by decide +kernel) rfl trivial ?_
      obtain ⟨q22, e23, h⟩ := zbd h
      refine zG.callV (b := x0) (av := [(0, x1)]) (st := []) (ci := 12) hX (pX12_goFor_ok e23) sv_12_413 rfl ⟨by decide, rfl⟩ g13 (by decide +kernel) (by rw [hRm]; exact ⟨Nat.le_of_ble_eq_true rfl, Nat.le_of_ble_eq_true rfl⟩) (by rw [hRm]; exact ⟨Nat.le_of_ble_eq_true rfl, Nat.le_of_ble_eq_true rfl⟩) (Nat.le_of_ble_eq_true rfl) ?_
      show zG C E 5 S 0 0 _ 58 [some (2, x0), some (0, x1), some (0, x2), some (0, x3), none] [] q22
      refine zG.blk (pc' := 61) (l' := [some (2, x0), some (0, x1), some (0, x2), some (0, x3), some (0, 0)]) (st' := []) (M' := q22) hX [(.iconst 0, 0, 0, 0), (.istore 4, 0, 0, 0)] (by decide +kernel) rfl trivial ?_
      exact (pX12_read_61_ok hX hRm ih zFU _ _ _ _ _ _ h)
noncomputable def pX12_read (S : ZS) (M : ZM) (a0 : Int) (a1 : Int) (a2 : Int) : Option (Int × ZM) := if S.1 a0 = 12 then (pX12_isSky S M a0).bind fun q1 => if q1.1 = 0 then (pX12_read_29 S q1.2) else ((pX12_in S q1.2 a1 1 60).bind fun q5 => if q5.1 = 0 then (pX12_read_29 S q5.2) else ((pX12_in S q5.2 a2 0 1).bind fun q8 => if q8.1 = 0 then (pX12_read_29 S q8.2) else ((pX12_keepsAll S q8.2 a0).bind fun q11 => pX12_read_37 S zFU q11 a0 a1 a2 (-1)))) else none
set_option maxHeartbeats 2000000 in
set_option maxRecDepth 20000 in
theorem pX12_read_go {C : ZC} {E : ZE} {S : ZS} {M : ZM} {a0 a1 a2 : Int} {q : (Int × ZM)} (hX : zCx C E 12 cX12_read 5 (some .int) false) (hRm : czR C = { frames := 8, cells := 0, slots := 0, locals := 198 }) (h : pX12_read  S M a0 a1 a2 = some q) : zG C E 5 S 0 0 (zQ C E 0 0 (some (0, q.1)) S q.2) 0 [some (2, a0), some (0, a1), some (0, a2), none, none] [] M := by
  unfold pX12_read at h
  refine zG.blk (pc' := 1) (l' := [some (2, a0), some (0, a1), some (0, a2), none, none]) (st' := [(2, a0)]) (M' := M) hX [(.aload_n 0, 0, 0, 0)] (by decide +kernel) rfl trivial ?_
  obtain ⟨g3, h⟩ := zif h
  obtain ⟨q1, e2, h⟩ := zbd h
  refine zG.callV (b := a0) (av := []) (st := []) (ci := 12) hX (pX12_isSky_ok e2) sv_12_402 rfl ⟨by decide, rfl⟩ g3 (by decide +kernel) (by rw [hRm]; exact ⟨Nat.le_of_ble_eq_true rfl, Nat.le_of_ble_eq_true rfl⟩) (by rw [hRm]; exact ⟨Nat.le_of_ble_eq_true rfl, Nat.le_of_ble_eq_true rfl⟩) (Nat.le_of_ble_eq_true rfl) ?_
  show zG C E 5 S 0 0 _ 4 [some (2, a0), some (0, a1), some (0, a2), none, none] [(0, q1.1)] q1.2
  refine zG.if_eq (tgt := 29) (off := 25) hX (by decide +kernel) (by decide) (fun c4 => ?_) (fun c4 => ?_)
  · have h := zip c4 h
    exact zG.wk [false, false, false, true, true] (pX12_read_29_ok hX hRm h)
  · have h := zin c4 h
    refine zG.blk (pc' := 13) (l' := [some (2, a0), some (0, a1), some (0, a2), none, none]) (st' := [(1, 60), (1, 1), (1, a1)]) (M' := q1.2) hX [(.iload_n 1, 0, 0, 0), (.i2l, 0, 0, 0), (.lconst 1, 1, 0, 0), (.ldc2_w 440, 60, 0, 0)] (by decide +kernel) rfl trivial ?_
    obtain ⟨q5, e6, h⟩ := zbd h
    refine zG.callS (av := [(1, a1), (1, 1), (1, 60)]) (st := []) hX (pX12_in_ok e6) ss_12_138 rfl (by decide +kernel) (by rw [hRm]; exact ⟨Nat.le_of_ble_eq_true rfl, Nat.le_of_ble_eq_true rfl⟩) (by rw [hRm]; exact ⟨Nat.le_of_ble_eq_true rfl, Nat.le_of_ble_eq_true rfl⟩) (Nat.le_of_ble_eq_true rfl) ?_
    show zG C E 5 S 0 0 _ 16 [some (2, a0), some (0, a1), some (0, a2), none, none] [(0, q5.1)] q5.2
    refine zG.if_eq (tgt := 29) (off := 13) hX (by decide +kernel) (by decide) (fun c7 => ?_) (fun c7 => ?_)
    · have h := zip c7 h
      exact zG.wk [false, false, false, true, true] (pX12_read_29_ok hX hRm h)
    · have h := zin c7 h
      refine zG.blk (pc' := 23) (l' := [some (2, a0), some (0, a1), some (0, a2), none, none]) (st' := [(1, 1), (1, 0), (1, a2)]) (M' := q5.2) hX [(.iload_n 2, 0, 0, 0), (.i2l, 0, 0, 0), (.lconst 0, 0, 0, 0), (.lconst 1, 1, 0, 0)] (by decide +kernel) rfl trivial ?_
      obtain ⟨q8, e9, h⟩ := zbd h
      refine zG.callS (av := [(1, a2), (1, 0), (1, 1)]) (st := []) hX (pX12_in_ok e9) ss_12_138 rfl (by decide +kernel) (by rw [hRm]; exact ⟨Nat.le_of_ble_eq_true rfl, Nat.le_of_ble_eq_true rfl⟩) (by rw [hRm]; exact ⟨Nat.le_of_ble_eq_true rfl, Nat.le_of_ble_eq_true rfl⟩) (Nat.le_of_ble_eq_true rfl) ?_
      show zG C E 5 S 0 0 _ 26 [some (2, a0), some (0, a1), some (0, a2), none, none] [(0, q8.1)] q8.2
      refine zG.if_ne (tgt := 31) (off := 5) hX (by decide +kernel) (by decide) (fun c10 => ?_) (fun c10 => ?_)
      · have h := zin c10 h
        refine zG.blk (pc' := 32) (l' := [some (2, a0), some (0, a1), some (0, a2), none, none]) (st' := [(2, a0)]) (M' := q8.2) hX [(.aload_n 0, 0, 0, 0)] (by decide +kernel) rfl trivial ?_
        obtain ⟨q11, e12, h⟩ := zbd h
        refine zG.callV (b := a0) (av := []) (st := []) (ci := 12) hX (pX12_keepsAll_ok e12) sv_12_426 rfl ⟨by decide, rfl⟩ g3 (by decide +kernel) (by rw [hRm]; exact ⟨Nat.le_of_ble_eq_true rfl, Nat.le_of_ble_eq_true rfl⟩) (by rw [hRm]; exact ⟨Nat.le_of_ble_eq_true rfl, Nat.le_of_ble_eq_true rfl⟩) (Nat.le_of_ble_eq_true rfl) ?_
        show zG C E 5 S 0 0 _ 35 [some (2, a0), some (0, a1), some (0, a2), none, none] [] q11
        refine zG.blk (pc' := 37) (l' := [some (2, a0), some (0, a1), some (0, a2), some (0, (-1)), none]) (st' := []) (M' := q11) hX [(.iconst (-1), 0, 0, 0), (.istore_n 3, 0, 0, 0)] (by decide +kernel) rfl trivial ?_
        exact (pX12_read_37_ok hX hRm zFU _ _ _ _ _ h)
      · have h := zip c10 h
        exact zG.wk [false, false, false, true, true] (pX12_read_29_ok hX hRm h)
theorem pX12_read_ok {l : Launch} {E : ZE} {S : ZS} {M : ZM} {a0 a1 a2 : Int} {q : (Int × ZM)} (h : pX12_read S M a0 a1 a2 = some q) : zMet l yX12_read cX12_read 5 (some .int) 8 198 0 0 E S M [(2, a0), (0, a1), (0, a2)] (some (0, q.1)) S q.2 :=
  zMet.of (o := 12) (ini := false) (by decide +kernel) rfl (fun h => by cases h) (Nat.le_of_ble_eq_true rfl) (fun C hX hl hRm => by subst hl; exact pX12_read_go hX hRm h)
theorem sv_12_272 : zSV 12 272 yX12_amount cX12_amount 5 (some .int) 2 := ⟨⟨gt_at 1352 (by decide +kernel) rfl, gt_at 1354 (by decide +kernel) rfl, gt_at 46 (by decide +kernel) rfl, gt_at 117 (by decide +kernel) rfl, gt_at 1355 (by decide +kernel) rfl⟩, by decide +kernel, by decide +kernel, by decide +kernel⟩
noncomputable def pX12_skyPart_192 (S : ZS) (M : ZM) : Option ZM := some M
set_option maxHeartbeats 2000000 in
set_option maxRecDepth 20000 in
theorem pX12_skyPart_192_ok {C : ZC} {E : ZE} {S : ZS} {q : ZM} (hX : zCx C E 12 cX12_skyPart 4 none false) (hRm : czR C = { frames := 5, cells := 0, slots := 0, locals := 132 }) {M : ZM} (h : pX12_skyPart_192 S M = some q) : zG C E 4 S 0 0 (zQ C E 0 0 none S q) 192 [none, none, none, none] [] M := by
  unfold pX12_skyPart_192 at h
  cases h
  exact zG.vret hX (by decide +kernel)
noncomputable def pX12_skyPart_72 (S : ZS) (M : ZM) : Option ZM := pX12_skyPart_192 S M
set_option maxHeartbeats 2000000 in
set_option maxRecDepth 20000 in
theorem pX12_skyPart_72_ok {C : ZC} {E : ZE} {S : ZS} {q : ZM} (hX : zCx C E 12 cX12_skyPart 4 none false) (hRm : czR C = { frames := 5, cells := 0, slots := 0, locals := 132 }) {M : ZM} (h : pX12_skyPart_72 S M = some q) : zG C E 4 S 0 0 (zQ C E 0 0 none S q) 72 [none, none, none, none] [] M := by
  unfold pX12_skyPart_72 at h
  refine zG.goto (tgt := 192) (off := 120) hX (by decide +kernel) (by decide) ?_
  exact (pX12_skyPart_192_ok hX hRm h)
noncomputable def pX12_skyPart_110 (S : ZS) (M : ZM) (x0 : Int) : Option ZM := if S.1 x0 = 12 then if S.1 (M x0 14) = 100 ∧ (0 : Int) ≤ 2 ∧ 2 < S.2.1 (M x0 14) then zlet (upM M (M x0 14) 2 (w32 ((M (M x0 14) 2) + 1))) fun M27 => pX12_skyPart_192 S M27 else none else none
set_option maxHeartbeats 2000000 in
set_option maxRecDepth 20000 in
theorem pX12_skyPart_110_ok {C : ZC} {E : ZE} {S : ZS} {q : ZM} (hX : zCx C E 12 cX12_skyPart 4 none false) (hRm : czR C = { frames := 5, cells := 0, slots := 0, locals := 132 }) {M : ZM} {x0 : Int} (h : pX12_skyPart_110 S M x0 = some q) : zG C E 4 S 0 0 (zQ C E 0 0 none S q) 110 [some (2, x0), none, none, none] [] M := by
  unfold pX12_skyPart_110 at h
  obtain ⟨g25, h⟩ := zif h
  obtain ⟨g26, h⟩ := zif h
  refine zG.blk (pc' := 120) (l' := [some (2, x0), none, none, none]) (st' := []) (M' := (upM M (M x0 14) 2 (w32 ((M (M x0 14) 2) + 1)))) hX [(.aload_n 0, 0, 0, 0), (.getfield 49, 12, 14, 2), (.iconst 2, 0, 0, 0), (.dup2, 0, 0, 0), (.iaload, 0, 0, 0), (.iconst 1, 0, 0, 0), (.iadd, 0, 0, 0), (.iastore, 0, 0, 0)] (by decide +kernel) rfl (And.intro g25 (And.intro g26 (And.intro g26 trivial))) ?_
  generalize upM M (M x0 14) 2 (w32 ((M (M x0 14) 2) + 1)) = M27 at h ⊢
  have h := zlt h
  refine zG.goto (tgt := 192) (off := 72) hX (by decide +kernel) (by decide) ?_
  exact zG.wk [false, true, true, true] (pX12_skyPart_192_ok hX hRm h)
noncomputable def pX12_skyPart_158 (S : ZS) (M : ZM) (x0 : Int) : Option ZM := if S.1 x0 = 12 then if S.1 (M x0 14) = 100 ∧ (0 : Int) ≤ 3 ∧ 3 < S.2.1 (M x0 14) then zlet (upM M (M x0 14) 3 (w32 ((M (M x0 14) 3) + 1))) fun M41 => pX12_skyPart_192 S M41 else none else none
set_option maxHeartbeats 2000000 in
set_option maxRecDepth 20000 in
theorem pX12_skyPart_158_ok {C : ZC} {E : ZE} {S : ZS} {q : ZM} (hX : zCx C E 12 cX12_skyPart 4 none false) (hRm : czR C = { frames := 5, cells := 0, slots := 0, locals := 132 }) {M : ZM} {x0 : Int} (h : pX12_skyPart_158 S M x0 = some q) : zG C E 4 S 0 0 (zQ C E 0 0 none S q) 158 [some (2, x0), none, none, none] [] M := by
  unfold pX12_skyPart_158 at h
  obtain ⟨g39, h⟩ := zif h
  obtain ⟨g40, h⟩ := zif h
  refine zG.blk (pc' := 168) (l' := [some (2, x0), none, none, none]) (st' := []) (M' := (upM M (M x0 14) 3 (w32 ((M (M x0 14) 3) + 1)))) hX [(.aload_n 0, 0, 0, 0), (.getfield 49, 12, 14, 2), (.iconst 3, 0, 0, 0), (.dup2, 0, 0, 0), (.iaload, 0, 0, 0), (.iconst 1, 0, 0, 0), (.iadd, 0, 0, 0), (.iastore, 0, 0, 0)] (by decide +kernel) rfl (And.intro g39 (And.intro g40 (And.intro g40 trivial))) ?_
  generalize upM M (M x0 14) 3 (w32 ((M (M x0 14) 3) + 1)) = M41 at h ⊢
  have h := zlt h
  refine zG.goto (tgt := 192) (off := 24) hX (by decide +kernel) (by decide) ?_
  exact zG.wk [false, true, true, true] (pX12_skyPart_192_ok hX hRm h)
noncomputable def pX12_skyPart (S : ZS) (M : ZM) (a0 : Int) (a1 : Int) : Option ZM := if S.1 a0 = 12 then if S.1 (M a0 14) = 100 ∧ (0 : Int) ≤ 0 ∧ 0 < S.2.1 (M a0 14) then zlet (w32 ((w32 ((M (M a0 14) 0) * (M (M a0 14) 0))) - 1)) fun x3 => if a1 = 0 then ((pX12_amount S M a0 2 6).bind fun q6 => (pX12_amount S q6.2 a0 1 60).bind fun q8 => if S.1 (q6.2 a0 14) = 100 ∧ (0 : Int) ≤ 1 ∧ 1 < S.2.1 (q6.2 a0 14) then zlet (upM q8.2 (q6.2 a0 14) 1 q8.1) fun M11 => if S.1 (M11 a0 14) = 100 ∧ (0 : Int) ≤ 0 ∧ 0 < S.2.1 (M11 a0 14) then zlet (upM M11 (M11 a0 14) 0 q6.1) fun M13 => pX12_skyPart_72 S M13 else none else none) else if a1 = 1 then (if S.1 (M a0 14) = 100 ∧ (0 : Int) ≤ 2 ∧ 2 < S.2.1 (M a0 14) then (pX12_amount S M a0 0 x3).bind fun q16 => if S.1 (M a0 15) = 100 ∧ (0 : Int) ≤ M (M a0 14) 2 ∧ M (M a0 14) 2 < S.2.1 (M a0 15) then zlet (upM q16.2 (M a0 15) (M (M a0 14) 2) q16.1) fun M19 => if S.1 (M19 a0 14) = 100 ∧ (0 : Int) ≤ 2 ∧ 2 < S.2.1 (M19 a0 14) then (pX12_amount S M19 a0 0 9).bind fun q21 => if S.1 (M19 a0 16) = 100 ∧ (0 : Int) ≤ M19 (M19 a0 14) 2 ∧ M19 (M19 a0 14) 2 < S.2.1 (M19 a0 16) then zlet (upM q21.2 (M19 a0 16) (M19 (M19 a0 14) 2) q21.1) fun M24 => pX12_skyPart_110 S M24 a0 else none else none else none else none) else if a1 = 2 then (if S.1 (M a0 14) = 100 ∧ (0 : Int) ≤ 3 ∧ 3 < S.2.1 (M a0 14) then (pX12_amount S M a0 0 3).bind fun q30 => if S.1 (M a0 17) = 100 ∧ (0 : Int) ≤ M (M a0 14) 3 ∧ M (M a0 14) 3 < S.2.1 (M a0 17) then zlet (upM q30.2 (M a0 17) (M (M a0 14) 3) q30.1) fun M33 => if S.1 (M33 a0 14) = 100 ∧ (0 : Int) ≤ 3 ∧ 3 < S.2.1 (M33 a0 14) then (pX12_amount S M33 a0 0 9).bind fun q35 => if S.1 (M33 a0 18) = 100 ∧ (0 : Int) ≤ M33 (M33 a0 14) 3 ∧ M33 (M33 a0 14) 3 < S.2.1 (M33 a0 18) then zlet (upM q35.2 (M33 a0 18) (M33 (M33 a0 14) 3) q35.1) fun M38 => pX12_skyPart_158 S M38 a0 else none else none else none else none) else ((pX12_amount S M a0 0 x3).bind fun q42 => if q42.2 a0 22 = 0 then (if S.1 (q42.2 a0 19) = 100 ∧ (0 : Int) ≤ q42.1 ∧ q42.1 < S.2.1 (q42.2 a0 19) then zlet (upM q42.2 (q42.2 a0 19) q42.1 1) fun M46 => pX12_skyPart_192 S M46 else none) else (pX12_skyPart_192 S q42.2)) else none else none
set_option maxHeartbeats 2000000 in
set_option maxRecDepth 20000 in
theorem pX12_skyPart_go {C : ZC} {E : ZE} {S : ZS} {M : ZM} {a0 a1 : Int} {q : ZM} (hX : zCx C E 12 cX12_skyPart 4 none false) (hRm : czR C = { frames := 5, cells := 0, slots := 0, locals := 132 }) (h : pX12_skyPart  S M a0 a1 = some q) : zG C E 4 S 0 0 (zQ C E 0 0 none S q) 0 [some (2, a0), some (0, a1), none, none] [] M := by
  unfold pX12_skyPart at h
  obtain ⟨g1, h⟩ := zif h
  obtain ⟨g2, h⟩ := zif h
  refine zG.blk (pc' := 16) (l' := [some (2, a0), some (0, a1), some (0, w32 ((w32 ((M (M a0 14) 0) * (M (M a0 14) 0))) - 1)), none]) (st' := []) (M' := M) hX [(.aload_n 0, 0, 0, 0), (.getfield 49, 12, 14, 2), (.iconst 0, 0, 0, 0), (.iaload, 0, 0, 0), (.aload_n 0, 0, 0, 0), (.getfield 49, 12, 14, 2), (.iconst 0, 0, 0, 0), (.iaload, 0, 0, 0), (.imul, 0, 0, 0), (.iconst 1, 0, 0, 0), (.isub, 0, 0, 0), (.istore_n 2, 0, 0, 0)] (by decide +kernel) rfl (And.intro g1 (And.intro g2 (And.intro g1 (And.intro g2 trivial)))) ?_
  generalize w32 ((w32 ((M (M a0 14) 0) * (M (M a0 14) 0))) - 1) = x3 at h ⊢
  have h := zlt h
  refine zG.blk (pc' := 17) (l' := [some (2, a0), some (0, a1), some (0, x3), none]) (st' := [(0, a1)]) (M' := M) hX [(.iload_n 1, 0, 0, 0)] (by decide +kernel) rfl trivial ?_
  have hs4 : decode cX12_skyPart 17 = .ok (.tableswitch 154 0 2 #[27, 58, 106], 27) := by decide +kernel
  by_cases c5 : a1 = 0
  · have h := zip c5 h
    refine zG.tabIn (tgt := 44) hX hs4 0 c5 (by decide) rfl (by decide) ?_
    refine zG.blk (pc' := 48) (l' := [some (2, a0), some (0, a1), some (0, x3), none]) (st' := [(0, 6), (0, 2), (2, a0)]) (M' := M) hX [(.aload_n 0, 0, 0, 0), (.iconst 2, 0, 0, 0), (.bipush 6, 0, 0, 0)] (by decide +kernel) rfl trivial ?_
    obtain ⟨q6, e7, h⟩ := zbd h
    refine zG.callV (b := a0) (av := [(0, 2), (0, 6)]) (st := []) (ci := 12) hX (pX12_amount_ok e7) sv_12_272 rfl ⟨by decide, rfl⟩ g1 (by decide +kernel) (by rw [hRm]; exact ⟨Nat.le_of_ble_eq_true rfl, Nat.le_of_ble_eq_true rfl⟩) (by rw [hRm]; exact ⟨Nat.le_of_ble_eq_true rfl, Nat.le_of_ble_eq_true rfl⟩) (Nat.le_of_ble_eq_true rfl) ?_
    show zG C E 4 S 0 0 _ 51 [some (2, a0), some (0, a1), some (0, x3), none] [(0, q6.1)] q6.2
    refine zG.blk (pc' := 61) (l' := [some (2, a0), some (0, a1), some (0, x3), some (0, q6.1)]) (st' := [(0, 60), (0, 1), (2, a0), (0, 1), (2, q6.2 a0 14)]) (M' := q6.2) hX [(.istore_n 3, 0, 0, 0), (.aload_n 0, 0, 0, 0), (.getfield 49, 12, 14, 2), (.iconst 1, 0, 0, 0), (.aload_n 0, 0, 0, 0), (.iconst 1, 0, 0, 0), (.bipush 60, 0, 0, 0)] (by decide +kernel) rfl (And.intro g1 trivial) ?_
    obtain ⟨q8, e9, h⟩ := zbd h
    refine zG.callV (b := a0) (av := [(0, 1), (0, 60)]) (st := [(0, 1), (2, q6.2 a0 14)]) (ci := 12) hX (pX12_amount_ok e9) sv_12_272 rfl ⟨by decide, rfl⟩ g1 (by decide +kernel) (by rw [hRm]; exact ⟨Nat.le_of_ble_eq_true rfl, Nat.le_of_ble_eq_true rfl⟩) (by rw [hRm]; exact ⟨Nat.le_of_ble_eq_true rfl, Nat.le_of_ble_eq_true rfl⟩) (Nat.le_of_ble_eq_true rfl) ?_
    show zG C E 4 S 0 0 _ 64 [some (2, a0), some (0, a1), some (0, x3), some (0, q6.1)] [(0, q8.1), (0, 1), (2, q6.2 a0 14)] q8.2
    obtain ⟨g10, h⟩ := zif h
    refine zG.blk (pc' := 65) (l' := [some (2, a0), some (0, a1), some (0, x3), some (0, q6.1)]) (st' := []) (M' := (upM q8.2 (q6.2 a0 14) 1 q8.1)) hX [(.iastore, 0, 0, 0)] (by decide +kernel) rfl (And.intro g10 trivial) ?_
    generalize upM q8.2 (q6.2 a0 14) 1 q8.1 = M11 at h ⊢
    have h := zlt h
    obtain ⟨g12, h⟩ := zif h
    refine zG.blk (pc' := 72) (l' := [some (2, a0), some (0, a1), some (0, x3), some (0, q6.1)]) (st' := []) (M' := (upM M11 (M11 a0 14) 0 q6.1)) hX [(.aload_n 0, 0, 0, 0), (.getfield 49, 12, 14, 2), (.iconst 0, 0, 0, 0), (.iload_n 3, 0, 0, 0), (.iastore, 0, 0, 0)] (by decide +kernel) rfl (And.intro g1 (And.intro g12 trivial)) ?_
    generalize upM M11 (M11 a0 14) 0 q6.1 = M13 at h ⊢
    have h := zlt h
    exact zG.wk [false, false, false, false] (pX12_skyPart_72_ok hX hRm h)
  · have h := zin c5 h
    by_cases c14 : a1 = 1
    · have h := zip c14 h
      refine zG.tabIn (tgt := 75) hX hs4 1 c14 (by decide) rfl (by decide) ?_
      obtain ⟨g15, h⟩ := zif h
      refine zG.blk (pc' := 88) (l' := [some (2, a0), some (0, a1), some (0, x3), none]) (st' := [(0, x3), (0, 0), (2, a0), (0, M (M a0 14) 2), (2, M a0 15)]) (M' := M) hX [(.aload_n 0, 0, 0, 0), (.getfield 52, 12, 15, 2), (.aload_n 0, 0, 0, 0), (.getfield 49, 12, 14, 2), (.iconst 2, 0, 0, 0), (.iaload, 0, 0, 0), (.aload_n 0, 0, 0, 0), (.iconst 0, 0, 0, 0), (.iload_n 2, 0, 0, 0)] (by decide +kernel) rfl (And.intro g1 (And.intro g1 (And.intro g15 trivial))) ?_
      obtain ⟨q16, e17, h⟩ := zbd h
      refine zG.callV (b := a0) (av := [(0, 0), (0, x3)]) (st := [(0, M (M a0 14) 2), (2, M a0 15)]) (ci := 12) hX (pX12_amount_ok e17) sv_12_272 rfl ⟨by decide, rfl⟩ g1 (by decide +kernel) (by rw [hRm]; exact ⟨Nat.le_of_ble_eq_true rfl, Nat.le_of_ble_eq_true rfl⟩) (by rw [hRm]; exact ⟨Nat.le_of_ble_eq_true rfl, Nat.le_of_ble_eq_true rfl⟩) (Nat.le_of_ble_eq_true rfl) ?_
      show zG C E 4 S 0 0 _ 91 [some (2, a0), some (0, a1), some (0, x3), none] [(0, q16.1), (0, M (M a0 14) 2), (2, M a0 15)] q16.2
      obtain ⟨g18, h⟩ := zif h
      refine zG.blk (pc' := 92) (l' := [some (2, a0), some (0, a1), some (0, x3), none]) (st' := []) (M' := (upM q16.2 (M a0 15) (M (M a0 14) 2) q16.1)) hX [(.iastore, 0, 0, 0)] (by decide +kernel) rfl (And.intro g18 trivial) ?_
      generalize upM q16.2 (M a0 15) (M (M a0 14) 2) q16.1 = M19 at h ⊢
      have h := zlt h
      obtain ⟨g20, h⟩ := zif h
      refine zG.blk (pc' := 106) (l' := [some (2, a0), some (0, a1), some (0, x3), none]) (st' := [(0, 9), (0, 0), (2, a0), (0, M19 (M19 a0 14) 2), (2, M19 a0 16)]) (M' := M19) hX [(.aload_n 0, 0, 0, 0), (.getfield 55, 12, 16, 2), (.aload_n 0, 0, 0, 0), (.getfield 49, 12, 14, 2), (.iconst 2, 0, 0, 0), (.iaload, 0, 0, 0), (.aload_n 0, 0, 0, 0), (.iconst 0, 0, 0, 0), (.bipush 9, 0, 0, 0)] (by decide +kernel) rfl (And.intro g1 (And.intro g1 (And.intro g20 trivial))) ?_
      obtain ⟨q21, e22, h⟩ := zbd h
      refine zG.callV (b := a0) (av := [(0, 0), (0, 9)]) (st := [(0, M19 (M19 a0 14) 2), (2, M19 a0 16)]) (ci := 12) hX (pX12_amount_ok e22) sv_12_272 rfl ⟨by decide, rfl⟩ g1 (by decide +kernel) (by rw [hRm]; exact ⟨Nat.le_of_ble_eq_true rfl, Nat.le_of_ble_eq_true rfl⟩) (by rw [hRm]; exact ⟨Nat.le_of_ble_eq_true rfl, Nat.le_of_ble_eq_true rfl⟩) (Nat.le_of_ble_eq_true rfl) ?_
      show zG C E 4 S 0 0 _ 109 [some (2, a0), some (0, a1), some (0, x3), none] [(0, q21.1), (0, M19 (M19 a0 14) 2), (2, M19 a0 16)] q21.2
      obtain ⟨g23, h⟩ := zif h
      refine zG.blk (pc' := 110) (l' := [some (2, a0), some (0, a1), some (0, x3), none]) (st' := []) (M' := (upM q21.2 (M19 a0 16) (M19 (M19 a0 14) 2) q21.1)) hX [(.iastore, 0, 0, 0)] (by decide +kernel) rfl (And.intro g23 trivial) ?_
      generalize upM q21.2 (M19 a0 16) (M19 (M19 a0 14) 2) q21.1 = M24 at h ⊢
      have h := zlt h
      exact zG.wk [true, false, false, true] (pX12_skyPart_110_ok hX hRm h)
    · have h := zin c14 h
      by_cases c28 : a1 = 2
      · have h := zip c28 h
        refine zG.tabIn (tgt := 123) hX hs4 2 c28 (by decide) rfl (by decide) ?_
        obtain ⟨g29, h⟩ := zif h
        refine zG.blk (pc' := 136) (l' := [some (2, a0), some (0, a1), some (0, x3), none]) (st' := [(0, 3), (0, 0), (2, a0), (0, M (M a0 14) 3), (2, M a0 17)]) (M' := M) hX [(.aload_n 0, 0, 0, 0), (.getfield 58, 12, 17, 2), (.aload_n 0, 0, 0, 0), (.getfield 49, 12, 14, 2), (.iconst 3, 0, 0, 0), (.iaload, 0, 0, 0), (.aload_n 0, 0, 0, 0), (.iconst 0, 0, 0, 0), (.iconst 3, 0, 0, 0)] (by decide +kernel) rfl (And.intro g1 (And.intro g1 (And.intro g29 trivial))) ?_
        obtain ⟨q30, e31, h⟩ := zbd h
        refine zG.callV (b := a0) (av := [(0, 0), (0, 3)]) (st := [(0, M (M a0 14) 3), (2, M a0 17)]) (ci := 12) hX (pX12_amount_ok e31) sv_12_272 rfl ⟨by decide, rfl⟩ g1 (by decide +kernel) (by rw [hRm]; exact ⟨Nat.le_of_ble_eq_true rfl, Nat.le_of_ble_eq_true rfl⟩) (by rw [hRm]; exact ⟨Nat.le_of_ble_eq_true rfl, Nat.le_of_ble_eq_true rfl⟩) (Nat.le_of_ble_eq_true rfl) ?_
        show zG C E 4 S 0 0 _ 139 [some (2, a0), some (0, a1), some (0, x3), none] [(0, q30.1), (0, M (M a0 14) 3), (2, M a0 17)] q30.2
        obtain ⟨g32, h⟩ := zif h
        refine zG.blk (pc' := 140) (l' := [some (2, a0), some (0, a1), some (0, x3), none]) (st' := []) (M' := (upM q30.2 (M a0 17) (M (M a0 14) 3) q30.1)) hX [(.iastore, 0, 0, 0)] (by decide +kernel) rfl (And.intro g32 trivial) ?_
        generalize upM q30.2 (M a0 17) (M (M a0 14) 3) q30.1 = M33 at h ⊢
        have h := zlt h
        obtain ⟨g34, h⟩ := zif h
        refine zG.blk (pc' := 154) (l' := [some (2, a0), some (0, a1), some (0, x3), none]) (st' := [(0, 9), (0, 0), (2, a0), (0, M33 (M33 a0 14) 3), (2, M33 a0 18)]) (M' := M33) hX [(.aload_n 0, 0, 0, 0), (.getfield 61, 12, 18, 2), (.aload_n 0, 0, 0, 0), (.getfield 49, 12, 14, 2), (.iconst 3, 0, 0, 0), (.iaload, 0, 0, 0), (.aload_n 0, 0, 0, 0), (.iconst 0, 0, 0, 0), (.bipush 9, 0, 0, 0)] (by decide +kernel) rfl (And.intro g1 (And.intro g1 (And.intro g34 trivial))) ?_
        obtain ⟨q35, e36, h⟩ := zbd h
        refine zG.callV (b := a0) (av := [(0, 0), (0, 9)]) (st := [(0, M33 (M33 a0 14) 3), (2, M33 a0 18)]) (ci := 12) hX (pX12_amount_ok e36) sv_12_272 rfl ⟨by decide, rfl⟩ g1 (by decide +kernel) (by rw [hRm]; exact ⟨Nat.le_of_ble_eq_true rfl, Nat.le_of_ble_eq_true rfl⟩) (by rw [hRm]; exact ⟨Nat.le_of_ble_eq_true rfl, Nat.le_of_ble_eq_true rfl⟩) (Nat.le_of_ble_eq_true rfl) ?_
        show zG C E 4 S 0 0 _ 157 [some (2, a0), some (0, a1), some (0, x3), none] [(0, q35.1), (0, M33 (M33 a0 14) 3), (2, M33 a0 18)] q35.2
        obtain ⟨g37, h⟩ := zif h
        refine zG.blk (pc' := 158) (l' := [some (2, a0), some (0, a1), some (0, x3), none]) (st' := []) (M' := (upM q35.2 (M33 a0 18) (M33 (M33 a0 14) 3) q35.1)) hX [(.iastore, 0, 0, 0)] (by decide +kernel) rfl (And.intro g37 trivial) ?_
        generalize upM q35.2 (M33 a0 18) (M33 (M33 a0 14) 3) q35.1 = M38 at h ⊢
        have h := zlt h
        exact zG.wk [true, false, false, true] (pX12_skyPart_158_ok hX hRm h)
      · have h := zin c28 h
        refine zG.tabOut (tgt := 171) hX hs4 (by omega) (by decide) ?_
        refine zG.blk (pc' := 174) (l' := [some (2, a0), some (0, a1), some (0, x3), none]) (st' := [(0, x3), (0, 0), (2, a0)]) (M' := M) hX [(.aload_n 0, 0, 0, 0), (.iconst 0, 0, 0, 0), (.iload_n 2, 0, 0, 0)] (by decide +kernel) rfl trivial ?_
        obtain ⟨q42, e43, h⟩ := zbd h
        refine zG.callV (b := a0) (av := [(0, 0), (0, x3)]) (st := []) (ci := 12) hX (pX12_amount_ok e43) sv_12_272 rfl ⟨by decide, rfl⟩ g1 (by decide +kernel) (by rw [hRm]; exact ⟨Nat.le_of_ble_eq_true rfl, Nat.le_of_ble_eq_true rfl⟩) (by rw [hRm]; exact ⟨Nat.le_of_ble_eq_true rfl, Nat.le_of_ble_eq_true rfl⟩) (Nat.le_of_ble_eq_true rfl) ?_
        show zG C E 4 S 0 0 _ 177 [some (2, a0), some (0, a1), some (0, x3), none] [(0, q42.1)] q42.2
        refine zG.blk (pc' := 182) (l' := [some (2, a0), some (0, a1), some (0, x3), some (0, q42.1)]) (st' := [(0, q42.2 a0 22)]) (M' := q42.2) hX [(.istore_n 3, 0, 0, 0), (.aload_n 0, 0, 0, 0), (.getfield 171, 12, 22, 0)] (by decide +kernel) rfl (And.intro g1 trivial) ?_
        refine zG.if_ne (tgt := 192) (off := 10) hX (by decide +kernel) (by decide) (fun c44 => ?_) (fun c44 => ?_)
        · have h := zin c44 h
          exact zG.wk [false, false, false, false] (pX12_skyPart_192_ok hX hRm h)
        · have h := zip c44 h
          obtain ⟨g45, h⟩ := zif h
          refine zG.blk (pc' := 192) (l' := [some (2, a0), some (0, a1), some (0, x3), some (0, q42.1)]) (st' := []) (M' := (upM q42.2 (q42.2 a0 19) q42.1 1)) hX [(.aload_n 0, 0, 0, 0), (.getfield 64, 12, 19, 2), (.iload_n 3, 0, 0, 0), (.iconst 1, 0, 0, 0), (.iastore, 0, 0, 0)] (by decide +kernel) rfl (And.intro g1 (And.intro g45 trivial)) ?_
          generalize upM q42.2 (q42.2 a0 19) q42.1 1 = M46 at h ⊢
          have h := zlt h
          exact zG.wk [false, false, false, false] (pX12_skyPart_192_ok hX hRm h)
theorem pX12_skyPart_ok {l : Launch} {E : ZE} {S : ZS} {M : ZM} {a0 a1 : Int} {q : ZM} (h : pX12_skyPart S M a0 a1 = some q) : zMet l yX12_skyPart cX12_skyPart 4 none 5 132 0 0 E S M [(2, a0), (0, a1)] (none) S q :=
  zMet.of (o := 12) (ini := false) (by decide +kernel) rfl (fun h => by cases h) (Nat.le_of_ble_eq_true rfl) (fun C hX hl hRm => by subst hl; exact pX12_skyPart_go hX hRm h)
noncomputable def pX12_starts_25 (S : ZS) (M : ZM) : Option ZM := some M
set_option maxHeartbeats 2000000 in
set_option maxRecDepth 20000 in
theorem pX12_starts_25_ok {C : ZC} {E : ZE} {S : ZS} {q : ZM} (hX : zCx C E 12 cX12_starts 1 none false) (hRm : czR C = { frames := 1, cells := 0, slots := 0, locals := 40 }) {M : ZM} (h : pX12_starts_25 S M = some q) : zG C E 1 S 0 0 (zQ C E 0 0 none S q) 25 [none] [] M := by
  unfold pX12_starts_25 at h
  cases h
  exact zG.vret hX (by decide +kernel)
noncomputable def pX12_starts (S : ZS) (M : ZM) (a0 : Int) : Option ZM := if S.1 a0 = 12 then zlet (upM M a0 21 0) fun M2 => zlet (upM M2 a0 22 0) fun M3 => zlet (upM M3 a0 25 0) fun M4 => zlet (upM M4 a0 26 0) fun M5 => zlet (upM M5 a0 27 0) fun M6 => pX12_starts_25 S M6 else none
set_option maxHeartbeats 2000000 in
set_option maxRecDepth 20000 in
theorem pX12_starts_go {C : ZC} {E : ZE} {S : ZS} {M : ZM} {a0 : Int} {q : ZM} (hX : zCx C E 12 cX12_starts 1 none false) (hRm : czR C = { frames := 1, cells := 0, slots := 0, locals := 40 }) (h : pX12_starts  S M a0 = some q) : zG C E 1 S 0 0 (zQ C E 0 0 none S q) 0 [some (2, a0)] [] M := by
  unfold pX12_starts at h
  obtain ⟨g1, h⟩ := zif h
  refine zG.blk (pc' := 5) (l' := [some (2, a0)]) (st' := []) (M' := (upM M a0 21 0)) hX [(.aload_n 0, 0, 0, 0), (.iconst 0, 0, 0, 0), (.putfield 174, 12, 21, 0)] (by decide +kernel) rfl (And.intro g1 trivial) ?_
  generalize upM M a0 21 0 = M2 at h ⊢
  have h := zlt h
  refine zG.blk (pc' := 10) (l' := [some (2, a0)]) (st' := []) (M' := (upM M2 a0 22 0)) hX [(.aload_n 0, 0, 0, 0), (.iconst 0, 0, 0, 0), (.putfield 171, 12, 22, 0)] (by decide +kernel) rfl (And.intro g1 trivial) ?_
  generalize upM M2 a0 22 0 = M3 at h ⊢
  have h := zlt h
  refine zG.blk (pc' := 15) (l' := [some (2, a0)]) (st' := []) (M' := (upM M3 a0 25 0)) hX [(.aload_n 0, 0, 0, 0), (.iconst 0, 0, 0, 0), (.putfield 203, 12, 25, 0)] (by decide +kernel) rfl (And.intro g1 trivial) ?_
  generalize upM M3 a0 25 0 = M4 at h ⊢
  have h := zlt h
  refine zG.blk (pc' := 20) (l' := [some (2, a0)]) (st' := []) (M' := (upM M4 a0 26 0)) hX [(.aload_n 0, 0, 0, 0), (.iconst 0, 0, 0, 0), (.putfield 244, 12, 26, 0)] (by decide +kernel) rfl (And.intro g1 trivial) ?_
  generalize upM M4 a0 26 0 = M5 at h ⊢
  have h := zlt h
  refine zG.blk (pc' := 25) (l' := [some (2, a0)]) (st' := []) (M' := (upM M5 a0 27 0)) hX [(.aload_n 0, 0, 0, 0), (.iconst 0, 0, 0, 0), (.putfield 206, 12, 27, 0)] (by decide +kernel) rfl (And.intro g1 trivial) ?_
  generalize upM M5 a0 27 0 = M6 at h ⊢
  have h := zlt h
  exact zG.wk [false] (pX12_starts_25_ok hX hRm h)
theorem pX12_starts_ok {l : Launch} {E : ZE} {S : ZS} {M : ZM} {a0 : Int} {q : ZM} (h : pX12_starts S M a0 = some q) : zMet l yX12_starts cX12_starts 1 none 1 40 0 0 E S M [(2, a0)] (none) S q :=
  zMet.of (o := 12) (ini := false) (by decide +kernel) rfl (fun h => by cases h) (Nat.le_of_ble_eq_true rfl) (fun C hX hl hRm => by subst hl; exact pX12_starts_go hX hRm h)
noncomputable def pX12_rests_46 (S : ZS) (M : ZM) : Option (Int × ZM) := some ((-1), M)
set_option maxHeartbeats 2000000 in
set_option maxRecDepth 20000 in
theorem pX12_rests_46_ok {C : ZC} {E : ZE} {S : ZS} {q : (Int × ZM)} (hX : zCx C E 12 cX12_rests 8 (some .int) false) (hRm : czR C = { frames := 9, cells := 0, slots := 0, locals := 222 }) {M : ZM} (h : pX12_rests_46 S M = some q) : zG C E 8 S 0 0 (zQ C E 0 0 (some (0, q.1)) S q.2) 46 [none, none, none, none, none, none, none, none] [] M := by
  unfold pX12_rests_46 at h
  refine zG.blk (pc' := 47) (l' := [none, none, none, none, none, none, none, none]) (st' := [(0, (-1))]) (M' := M) hX [(.iconst (-1), 0, 0, 0)] (by decide +kernel) rfl trivial ?_
  cases h
  exact zG.iret hX (by decide +kernel)
theorem sv_12_468 : zSV 12 468 yX12_laysStiffs cX12_laysStiffs 5 none 3 := ⟨⟨gt_at 1684 (by decide +kernel) rfl, gt_at 1686 (by decide +kernel) rfl, gt_at 98 (by decide +kernel) rfl, gt_at 117 (by decide +kernel) rfl, gt_at 1687 (by decide +kernel) rfl⟩, by decide +kernel, by decide +kernel, by decide +kernel⟩
noncomputable def pX12_rests_141 (S : ZS) (M : ZM) (y0 : Int) : Option (Int × ZM) := some (y0, M)
set_option maxHeartbeats 2000000 in
set_option maxRecDepth 20000 in
theorem pX12_rests_141_ok {C : ZC} {E : ZE} {S : ZS} {q : (Int × ZM)} (hX : zCx C E 12 cX12_rests 8 (some .int) false) (hRm : czR C = { frames := 9, cells := 0, slots := 0, locals := 222 }) {M : ZM} {y0 : Int} (h : pX12_rests_141 S M y0 = some q) : zG C E 8 S 0 0 (zQ C E 0 0 (some (0, q.1)) S q.2) 141 [none, none, none, none, none, none, none, none] [(0, y0)] M := by
  unfold pX12_rests_141 at h
  cases h
  exact zG.iret hX (by decide +kernel)
noncomputable def pX12_rests_140 (S : ZS) (M : ZM) (y0 : Int) (y1 : Int) : Option (Int × ZM) := pX12_rests_141 S M (w32 (y1 * y0))
set_option maxHeartbeats 2000000 in
set_option maxRecDepth 20000 in
theorem pX12_rests_140_ok {C : ZC} {E : ZE} {S : ZS} {q : (Int × ZM)} (hX : zCx C E 12 cX12_rests 8 (some .int) false) (hRm : czR C = { frames := 9, cells := 0, slots := 0, locals := 222 }) {M : ZM} {y0 : Int} {y1 : Int} (h : pX12_rests_140 S M y0 y1 = some q) : zG C E 8 S 0 0 (zQ C E 0 0 (some (0, q.1)) S q.2) 140 [none, none, none, none, none, none, none, none] [(0, y0), (0, y1)] M := by
  unfold pX12_rests_140 at h
  refine zG.blk (pc' := 141) (l' := [none, none, none, none, none, none, none, none]) (st' := [(0, w32 (y1 * y0))]) (M' := M) hX [(.imul, 0, 0, 0)] (by decide +kernel) rfl trivial ?_
  exact (pX12_rests_141_ok hX hRm h)
theorem sv_12_472 : zSV 12 472 yX12_isRest cX12_isRest 3 (some .boolean) 1 := ⟨⟨gt_at 1688 (by decide +kernel) rfl, gt_at 1690 (by decide +kernel) rfl, gt_at 99 (by decide +kernel) rfl, gt_at 117 (by decide +kernel) rfl, gt_at 1691 (by decide +kernel) rfl⟩, by decide +kernel, by decide +kernel, by decide +kernel⟩
noncomputable def pX12_rests_64 (S : ZS) : Nat → ZM → Int → Int → Int → Int → Int → Option (Int × ZM)
  | 0 => fun _ _ _ _ _ _ => none
  | n + 1 => fun M x0 x4 x5 x6 x7 => if 16 ≤ x7 then (if x4 = 0 then (some (x5, M)) else (if x6 = (-1) then (pX12_rests_141 S M (-2)) else (if x4 = 1 then (pX12_rests_140 S M (w32 (Int.tdiv x6 4)) 3) else (pX12_rests_140 S M (Int.tmod x6 4) 3)))) else (if S.1 x0 = 12 then (pX12_isRest S M x0 x7).bind fun q21 => pX12_rests_64 S n q21.2 x0 x4 (if q21.1 = 0 then (x5 : Int) else (w32 (x5 + 1))) (if q21.1 = 0 then (x6 : Int) else (if x5 = 0 then (x7 : Int) else x6)) (w32 (x7 + 1)) else none)
set_option maxHeartbeats 2000000 in
set_option maxRecDepth 20000 in
theorem pX12_rests_64_ok {C : ZC} {E : ZE} {S : ZS} {q : (Int × ZM)} (hX : zCx C E 12 cX12_rests 8 (some .int) false) (hRm : czR C = { frames := 9, cells := 0, slots := 0, locals := 222 }) : ∀ (n : Nat) (M : ZM) (x0 : Int) (x4 : Int) (x5 : Int) (x6 : Int) (x7 : Int), pX12_rests_64 S n M x0 x4 x5 x6 x7 = some q → zG C E 8 S 0 0 (zQ C E 0 0 (some (0, q.1)) S q.2) 64 [some (2, x0), none, none, none, some (0, x4), some (0, x5), some (0, x6), some (0, x7)] [] M := by
  intro n
  induction n with
  | zero => intro M x0 x4 x5 x6 x7 h; cases h
  | succ n ih =>
    intro M x0 x4 x5 x6 x7 h
    unfold pX12_rests_64 at h
    refine zG.blk (pc' := 68) (l' := [some (2, x0), none, none, none, some (0, x4), some (0, x5), some (0, x6), some (0, x7)]) (st' := [(0, 16), (0, x7)]) (M' := M) hX [(.iload 7, 0, 0, 0), (.bipush 16, 0, 0, 0)] (by decide +kernel) rfl trivial ?_
    refine zG.icmp_ge (tgt := 103) (off := 35) hX (by decide +kernel) (by decide) (fun c17 => ?_) (fun c17 => ?_)
    · have h := zip c17 h
      refine zG.blk (pc' := 105) (l' := [some (2, x0), none, none, none, some (0, x4), some (0, x5), some (0, x6), some (0, x7)]) (st' := [(0, x4)]) (M' := M) hX [(.iload 4, 0, 0, 0)] (by decide +kernel) rfl trivial ?_
      refine zG.if_ne (tgt := 111) (off := 6) hX (by decide +kernel) (by decide) (fun c18 => ?_) (fun c18 => ?_)
      · have h := zin c18 h
        refine zG.blk (pc' := 114) (l' := [some (2, x0), none, none, none, some (0, x4), some (0, x5), some (0, x6), some (0, x7)]) (st' := [(0, (-1)), (0, x6)]) (M' := M) hX [(.iload 6, 0, 0, 0), (.iconst (-1), 0, 0, 0)] (by decide +kernel) rfl trivial ?_
        refine zG.icmp_ne (tgt := 122) (off := 8) hX (by decide +kernel) (by decide) (fun c19 => ?_) (fun c19 => ?_)
        · have h := zin c19 h
          refine zG.blk (pc' := 126) (l' := [some (2, x0), none, none, none, some (0, x4), some (0, x5), some (0, x6), some (0, x7)]) (st' := [(0, 1), (0, x4), (0, 3)]) (M' := M) hX [(.iconst 3, 0, 0, 0), (.iload 4, 0, 0, 0), (.iconst 1, 0, 0, 0)] (by decide +kernel) rfl trivial ?_
          refine zG.icmp_ne (tgt := 136) (off := 10) hX (by decide +kernel) (by decide) (fun c20 => ?_) (fun c20 => ?_)
          · have h := zin c20 h
            refine zG.blk (pc' := 140) (l' := [some (2, x0), none, none, none, some (0, x4), some (0, x5), some (0, x6), some (0, x7)]) (st' := [(0, Int.tmod x6 4), (0, 3)]) (M' := M) hX [(.iload 6, 0, 0, 0), (.iconst 4, 0, 0, 0), (.irem, 0, 0, 0)] (by decide +kernel) rfl (And.intro (by decide) trivial) ?_
            exact zG.wk [false, true, true, true, false, false, false, false] (pX12_rests_140_ok hX hRm h)
          · have h := zip c20 h
            refine zG.blk (pc' := 133) (l' := [some (2, x0), none, none, none, some (0, x4), some (0, x5), some (0, x6), some (0, x7)]) (st' := [(0, w32 (Int.tdiv x6 4)), (0, 3)]) (M' := M) hX [(.iload 6, 0, 0, 0), (.iconst 4, 0, 0, 0), (.idiv, 0, 0, 0)] (by decide +kernel) rfl (And.intro (by decide) trivial) ?_
            refine zG.goto (tgt := 140) (off := 7) hX (by decide +kernel) (by decide) ?_
            exact zG.wk [false, true, true, true, false, false, false, false] (pX12_rests_140_ok hX hRm h)
        · have h := zip c19 h
          refine zG.blk (pc' := 119) (l' := [some (2, x0), none, none, none, some (0, x4), some (0, x5), some (0, x6), some (0, x7)]) (st' := [(0, (-2))]) (M' := M) hX [(.bipush (-2), 0, 0, 0)] (by decide +kernel) rfl trivial ?_
          refine zG.goto (tgt := 141) (off := 22) hX (by decide +kernel) (by decide) ?_
          exact zG.wk [false, true, true, true, false, false, false, false] (pX12_rests_141_ok hX hRm h)
      · have h := zip c18 h
        refine zG.blk (pc' := 110) (l' := [some (2, x0), none, none, none, some (0, x4), some (0, x5), some (0, x6), some (0, x7)]) (st' := [(0, x5)]) (M' := M) hX [(.iload 5, 0, 0, 0)] (by decide +kernel) rfl trivial ?_
        cases h
        exact zG.iret hX (by decide +kernel)
    · have h := zin c17 h
      refine zG.blk (pc' := 74) (l' := [some (2, x0), none, none, none, some (0, x4), some (0, x5), some (0, x6), some (0, x7)]) (st' := [(0, x7), (2, x0)]) (M' := M) hX [(.aload_n 0, 0, 0, 0), (.iload 7, 0, 0, 0)] (by decide +kernel) rfl trivial ?_
      obtain ⟨g23, h⟩ := zif h
      obtain ⟨q21, e22, h⟩ := zbd h
      refine zG.callV (b := x0) (av := [(0, x7)]) (st := []) (ci := 12) hX (pX12_isRest_ok e22) sv_12_472 rfl ⟨by decide, rfl⟩ g23 (by decide +kernel) (by rw [hRm]; exact ⟨Nat.le_of_ble_eq_true rfl, Nat.le_of_ble_eq_true rfl⟩) (by rw [hRm]; exact ⟨Nat.le_of_ble_eq_true rfl, Nat.le_of_ble_eq_true rfl⟩) (Nat.le_of_ble_eq_true rfl) ?_
      show zG C E 8 S 0 0 _ 77 [some (2, x0), none, none, none, some (0, x4), some (0, x5), some (0, x6), some (0, x7)] [(0, q21.1)] q21.2
      have key24 : zG C E 8 S 0 0 (zQ C E 0 0 (some (0, q.1)) S q.2) 97 [some (2, x0), none, none, none, some (0, x4), some (0, (if q21.1 = 0 then (x5 : Int) else (w32 (x5 + 1)))), some (0, (if q21.1 = 0 then (x6 : Int) else (if x5 = 0 then (x7 : Int) else x6))), some (0, x7)] [] q21.2 := by
        refine zG.blk (pc' := 100) (l' := [some (2, x0), none, none, none, some (0, x4), some (0, (if q21.1 = 0 then (x5 : Int) else (w32 (x5 + 1)))), some (0, (if q21.1 = 0 then (x6 : Int) else (if x5 = 0 then (x7 : Int) else x6))), some (0, w32 (x7 + 1))]) (st' := []) (M' := q21.2) hX [(.iinc 7 1, 0, 0, 0)] (by decide +kernel) rfl trivial ?_
        refine zG.goto (tgt := 64) (off := (-36)) hX (by decide +kernel) (by decide) ?_
        exact ih _ _ _ _ _ _ h
      refine zG.if_eq (tgt := 97) (off := 20) hX (by decide +kernel) (by decide) (fun c25 => ?_) (fun c25 => ?_)
      · (have k := key24; simp only [if_pos c25] at k; exact k)
      · refine zG.blk (pc' := 82) (l' := [some (2, x0), none, none, none, some (0, x4), some (0, x5), some (0, x6), some (0, x7)]) (st' := [(0, x5)]) (M' := q21.2) hX [(.iload 5, 0, 0, 0)] (by decide +kernel) rfl trivial ?_
        refine zG.if_ne (tgt := 90) (off := 8) hX (by decide +kernel) (by decide) (fun c26 => ?_) (fun c26 => ?_)
        · refine zG.blk (pc' := 97) (l' := [some (2, x0), none, none, none, some (0, x4), some (0, w32 (x5 + 1)), some (0, x6), some (0, x7)]) (st' := []) (M' := q21.2) hX [(.iload 6, 0, 0, 0), (.istore 6, 0, 0, 0), (.iinc 5 1, 0, 0, 0)] (by decide +kernel) rfl trivial ?_
          (have k := key24; simp only [if_neg c25, if_neg c26] at k; exact k)
        · refine zG.blk (pc' := 87) (l' := [some (2, x0), none, none, none, some (0, x4), some (0, x5), some (0, x6), some (0, x7)]) (st' := [(0, x7)]) (M' := q21.2) hX [(.iload 7, 0, 0, 0)] (by decide +kernel) rfl trivial ?_
          refine zG.goto (tgt := 92) (off := 5) hX (by decide +kernel) (by decide) ?_
          refine zG.blk (pc' := 97) (l' := [some (2, x0), none, none, none, some (0, x4), some (0, w32 (x5 + 1)), some (0, x7), some (0, x7)]) (st' := []) (M' := q21.2) hX [(.istore 6, 0, 0, 0), (.iinc 5 1, 0, 0, 0)] (by decide +kernel) rfl trivial ?_
          (have k := key24; simp only [if_neg c25, if_pos c26] at k; exact k)
noncomputable def pX12_rests (S : ZS) (M : ZM) (a0 : Int) (a1 : Int) (a2 : Int) (a3 : Int) (a4 : Int) : Option (Int × ZM) := if S.1 a0 = 12 then (pX12_isPen S M a0 a1).bind fun q1 => if q1.1 = 0 then (pX12_rests_46 S q1.2) else ((pX12_isPen S q1.2 a0 a2).bind fun q5 => if q5.1 = 0 then (pX12_rests_46 S q5.2) else (if a1 = a2 then (pX12_rests_46 S q5.2) else ((pX12_in S q5.2 a3 1 20).bind fun q9 => if q9.1 = 0 then (pX12_rests_46 S q9.2) else ((pX12_in S q9.2 a4 0 2).bind fun q12 => if q12.1 = 0 then (pX12_rests_46 S q12.2) else ((pX12_laysStiffs S q12.2 a0 a1 a2 a3).bind fun q15 => pX12_rests_64 S zFU q15 a0 a4 0 (-1) 0))))) else none
set_option maxHeartbeats 2000000 in
set_option maxRecDepth 20000 in
theorem pX12_rests_go {C : ZC} {E : ZE} {S : ZS} {M : ZM} {a0 a1 a2 a3 a4 : Int} {q : (Int × ZM)} (hX : zCx C E 12 cX12_rests 8 (some .int) false) (hRm : czR C = { frames := 9, cells := 0, slots := 0, locals := 222 }) (h : pX12_rests  S M a0 a1 a2 a3 a4 = some q) : zG C E 8 S 0 0 (zQ C E 0 0 (some (0, q.1)) S q.2) 0 [some (2, a0), some (0, a1), some (0, a2), some (0, a3), some (0, a4), none, none, none] [] M := by
  unfold pX12_rests at h
  refine zG.blk (pc' := 2) (l' := [some (2, a0), some (0, a1), some (0, a2), some (0, a3), some (0, a4), none, none, none]) (st' := [(0, a1), (2, a0)]) (M' := M) hX [(.aload_n 0, 0, 0, 0), (.iload_n 1, 0, 0, 0)] (by decide +kernel) rfl trivial ?_
  obtain ⟨g3, h⟩ := zif h
  obtain ⟨q1, e2, h⟩ := zbd h
  refine zG.callV (b := a0) (av := [(0, a1)]) (st := []) (ci := 12) hX (pX12_isPen_ok e2) sv_12_341 rfl ⟨by decide, rfl⟩ g3 (by decide +kernel) (by rw [hRm]; exact ⟨Nat.le_of_ble_eq_true rfl, Nat.le_of_ble_eq_true rfl⟩) (by rw [hRm]; exact ⟨Nat.le_of_ble_eq_true rfl, Nat.le_of_ble_eq_true rfl⟩) (Nat.le_of_ble_eq_true rfl) ?_
  show zG C E 8 S 0 0 _ 5 [some (2, a0), some (0, a1), some (0, a2), some (0, a3), some (0, a4), none, none, none] [(0, q1.1)] q1.2
  refine zG.if_eq (tgt := 46) (off := 41) hX (by decide +kernel) (by decide) (fun c4 => ?_) (fun c4 => ?_)
  · have h := zip c4 h
    exact zG.wk [false, false, false, false, false, true, true, true] (pX12_rests_46_ok hX hRm h)
  · have h := zin c4 h
    refine zG.blk (pc' := 10) (l' := [some (2, a0), some (0, a1), some (0, a2), some (0, a3), some (0, a4), none, none, none]) (st' := [(0, a2), (2, a0)]) (M' := q1.2) hX [(.aload_n 0, 0, 0, 0), (.iload_n 2, 0, 0, 0)] (by decide +kernel) rfl trivial ?_
    obtain ⟨q5, e6, h⟩ := zbd h
    refine zG.callV (b := a0) (av := [(0, a2)]) (st := []) (ci := 12) hX (pX12_isPen_ok e6) sv_12_341 rfl ⟨by decide, rfl⟩ g3 (by decide +kernel) (by rw [hRm]; exact ⟨Nat.le_of_ble_eq_true rfl, Nat.le_of_ble_eq_true rfl⟩) (by rw [hRm]; exact ⟨Nat.le_of_ble_eq_true rfl, Nat.le_of_ble_eq_true rfl⟩) (Nat.le_of_ble_eq_true rfl) ?_
    show zG C E 8 S 0 0 _ 13 [some (2, a0), some (0, a1), some (0, a2), some (0, a3), some (0, a4), none, none, none] [(0, q5.1)] q5.2
    refine zG.if_eq (tgt := 46) (off := 33) hX (by decide +kernel) (by decide) (fun c7 => ?_) (fun c7 => ?_)
    · have h := zip c7 h
      exact zG.wk [false, false, false, false, false, true, true, true] (pX12_rests_46_ok hX hRm h)
    · have h := zin c7 h
      refine zG.blk (pc' := 18) (l' := [some (2, a0), some (0, a1), some (0, a2), some (0, a3), some (0, a4), none, none, none]) (st' := [(0, a2), (0, a1)]) (M' := q5.2) hX [(.iload_n 1, 0, 0, 0), (.iload_n 2, 0, 0, 0)] (by decide +kernel) rfl trivial ?_
      refine zG.icmp_eq (tgt := 46) (off := 28) hX (by decide +kernel) (by decide) (fun c8 => ?_) (fun c8 => ?_)
      · have h := zip c8 h
        exact zG.wk [false, false, false, false, false, true, true, true] (pX12_rests_46_ok hX hRm h)
      · have h := zin c8 h
        refine zG.blk (pc' := 27) (l' := [some (2, a0), some (0, a1), some (0, a2), some (0, a3), some (0, a4), none, none, none]) (st' := [(1, 20), (1, 1), (1, a3)]) (M' := q5.2) hX [(.iload_n 3, 0, 0, 0), (.i2l, 0, 0, 0), (.lconst 1, 1, 0, 0), (.ldc2_w 466, 20, 0, 0)] (by decide +kernel) rfl trivial ?_
        obtain ⟨q9, e10, h⟩ := zbd h
        refine zG.callS (av := [(1, a3), (1, 1), (1, 20)]) (st := []) hX (pX12_in_ok e10) ss_12_138 rfl (by decide +kernel) (by rw [hRm]; exact ⟨Nat.le_of_ble_eq_true rfl, Nat.le_of_ble_eq_true rfl⟩) (by rw [hRm]; exact ⟨Nat.le_of_ble_eq_true rfl, Nat.le_of_ble_eq_true rfl⟩) (Nat.le_of_ble_eq_true rfl) ?_
        show zG C E 8 S 0 0 _ 30 [some (2, a0), some (0, a1), some (0, a2), some (0, a3), some (0, a4), none, none, none] [(0, q9.1)] q9.2
        refine zG.if_eq (tgt := 46) (off := 16) hX (by decide +kernel) (by decide) (fun c11 => ?_) (fun c11 => ?_)
        · have h := zip c11 h
          exact zG.wk [false, false, false, false, false, true, true, true] (pX12_rests_46_ok hX hRm h)
        · have h := zin c11 h
          refine zG.blk (pc' := 40) (l' := [some (2, a0), some (0, a1), some (0, a2), some (0, a3), some (0, a4), none, none, none]) (st' := [(1, 2), (1, 0), (1, a4)]) (M' := q9.2) hX [(.iload 4, 0, 0, 0), (.i2l, 0, 0, 0), (.lconst 0, 0, 0, 0), (.ldc2_w 348, 2, 0, 0)] (by decide +kernel) rfl trivial ?_
          obtain ⟨q12, e13, h⟩ := zbd h
          refine zG.callS (av := [(1, a4), (1, 0), (1, 2)]) (st := []) hX (pX12_in_ok e13) ss_12_138 rfl (by decide +kernel) (by rw [hRm]; exact ⟨Nat.le_of_ble_eq_true rfl, Nat.le_of_ble_eq_true rfl⟩) (by rw [hRm]; exact ⟨Nat.le_of_ble_eq_true rfl, Nat.le_of_ble_eq_true rfl⟩) (Nat.le_of_ble_eq_true rfl) ?_
          show zG C E 8 S 0 0 _ 43 [some (2, a0), some (0, a1), some (0, a2), some (0, a3), some (0, a4), none, none, none] [(0, q12.1)] q12.2
          refine zG.if_ne (tgt := 48) (off := 5) hX (by decide +kernel) (by decide) (fun c14 => ?_) (fun c14 => ?_)
          · have h := zin c14 h
            refine zG.blk (pc' := 52) (l' := [some (2, a0), some (0, a1), some (0, a2), some (0, a3), some (0, a4), none, none, none]) (st' := [(0, a3), (0, a2), (0, a1), (2, a0)]) (M' := q12.2) hX [(.aload_n 0, 0, 0, 0), (.iload_n 1, 0, 0, 0), (.iload_n 2, 0, 0, 0), (.iload_n 3, 0, 0, 0)] (by decide +kernel) rfl trivial ?_
            obtain ⟨q15, e16, h⟩ := zbd h
            refine zG.callV (b := a0) (av := [(0, a1), (0, a2), (0, a3)]) (st := []) (ci := 12) hX (pX12_laysStiffs_ok e16) sv_12_468 rfl ⟨by decide, rfl⟩ g3 (by decide +kernel) (by rw [hRm]; exact ⟨Nat.le_of_ble_eq_true rfl, Nat.le_of_ble_eq_true rfl⟩) (by rw [hRm]; exact ⟨Nat.le_of_ble_eq_true rfl, Nat.le_of_ble_eq_true rfl⟩) (Nat.le_of_ble_eq_true rfl) ?_
            show zG C E 8 S 0 0 _ 55 [some (2, a0), some (0, a1), some (0, a2), some (0, a3), some (0, a4), none, none, none] [] q15
            refine zG.blk (pc' := 64) (l' := [some (2, a0), some (0, a1), some (0, a2), some (0, a3), some (0, a4), some (0, 0), some (0, (-1)), some (0, 0)]) (st' := []) (M' := q15) hX [(.iconst 0, 0, 0, 0), (.istore 5, 0, 0, 0), (.iconst (-1), 0, 0, 0), (.istore 6, 0, 0, 0), (.iconst 0, 0, 0, 0), (.istore 7, 0, 0, 0)] (by decide +kernel) rfl trivial ?_
            exact zG.wk [true, false, false, false, true, true, true, true] (pX12_rests_64_ok hX hRm zFU _ _ _ _ _ _ h)
          · have h := zip c14 h
            exact zG.wk [false, false, false, false, false, true, true, true] (pX12_rests_46_ok hX hRm h)
theorem pX12_rests_ok {l : Launch} {E : ZE} {S : ZS} {M : ZM} {a0 a1 a2 a3 a4 : Int} {q : (Int × ZM)} (h : pX12_rests S M a0 a1 a2 a3 a4 = some q) : zMet l yX12_rests cX12_rests 8 (some .int) 9 222 0 0 E S M [(2, a0), (0, a1), (0, a2), (0, a3), (0, a4)] (some (0, q.1)) S q.2 :=
  zMet.of (o := 12) (ini := false) (by decide +kernel) rfl (fun h => by cases h) (Nat.le_of_ble_eq_true rfl) (fun C hX hl hRm => by subst hl; exact pX12_rests_go hX hRm h)
noncomputable def pX12_ruled_17 (S : ZS) (M : ZM) : Option (Int × ZM) := some ((-3), M)
set_option maxHeartbeats 2000000 in
set_option maxRecDepth 20000 in
theorem pX12_ruled_17_ok {C : ZC} {E : ZE} {S : ZS} {q : (Int × ZM)} (hX : zCx C E 12 cX12_ruled 5 (some .int) false) (hRm : czR C = { frames := 8, cells := 0, slots := 0, locals := 199 }) {M : ZM} (h : pX12_ruled_17 S M = some q) : zG C E 5 S 0 0 (zQ C E 0 0 (some (0, q.1)) S q.2) 17 [none, none, none, none, none] [] M := by
  unfold pX12_ruled_17 at h
  refine zG.blk (pc' := 19) (l' := [none, none, none, none, none]) (st' := [(0, (-3))]) (M' := M) hX [(.bipush (-3), 0, 0, 0)] (by decide +kernel) rfl trivial ?_
  cases h
  exact zG.iret hX (by decide +kernel)
noncomputable def pX12_ruled_32 (S : ZS) : Nat → ZM → Int → Int → Int → Int → Int → Option (Int × ZM)
  | 0 => fun _ _ _ _ _ _ => none
  | n + 1 => fun M x0 x1 x2 x3 x4 => if S.1 x0 = 12 then if M x0 24 ≤ x4 then (some ((if x1 = 0 then (x2 : Int) else x3), M)) else ((pX12_couldRule S M x0 x4).bind fun q14 => pX12_ruled_32 S n q14.2 x0 x1 (if q14.1 = 0 then (x2 : Int) else (w32 (x2 + 1))) (if q14.1 = 0 then (x3 : Int) else (if x2 = 0 then (x4 : Int) else x3)) (w32 (x4 + 1))) else none
set_option maxHeartbeats 2000000 in
set_option maxRecDepth 20000 in
theorem pX12_ruled_32_ok {C : ZC} {E : ZE} {S : ZS} {q : (Int × ZM)} (hX : zCx C E 12 cX12_ruled 5 (some .int) false) (hRm : czR C = { frames := 8, cells := 0, slots := 0, locals := 199 }) : ∀ (n : Nat) (M : ZM) (x0 : Int) (x1 : Int) (x2 : Int) (x3 : Int) (x4 : Int), pX12_ruled_32 S n M x0 x1 x2 x3 x4 = some q → zG C E 5 S 0 0 (zQ C E 0 0 (some (0, q.1)) S q.2) 32 [some (2, x0), some (0, x1), some (0, x2), some (0, x3), some (0, x4)] [] M := by
  intro n
  induction n with
  | zero => intro M x0 x1 x2 x3 x4 h; cases h
  | succ n ih =>
    intro M x0 x1 x2 x3 x4 h
    unfold pX12_ruled_32 at h
    obtain ⟨g10, h⟩ := zif h
    refine zG.blk (pc' := 38) (l' := [some (2, x0), some (0, x1), some (0, x2), some (0, x3), some (0, x4)]) (st' := [(0, M x0 24), (0, x4)]) (M' := M) hX [(.iload 4, 0, 0, 0), (.aload_n 0, 0, 0, 0), (.getfield 318, 12, 24, 0)] (by decide +kernel) rfl (And.intro g10 trivial) ?_
    refine zG.icmp_ge (tgt := 70) (off := 32) hX (by decide +kernel) (by decide) (fun c11 => ?_) (fun c11 => ?_)
    · have h := zip c11 h
      refine zG.blk (pc' := 71) (l' := [some (2, x0), some (0, x1), some (0, x2), some (0, x3), some (0, x4)]) (st' := [(0, x1)]) (M' := M) hX [(.iload_n 1, 0, 0, 0)] (by decide +kernel) rfl trivial ?_
      have key12 : zG C E 5 S 0 0 (zQ C E 0 0 (some (0, q.1)) S q.2) 79 [some (2, x0), some (0, x1), some (0, x2), some (0, x3), some (0, x4)] [(0, (if x1 = 0 then (x2 : Int) else x3))] M := by
        cases h
        exact zG.iret hX (by decide +kernel)
      refine zG.if_ne (tgt := 78) (off := 7) hX (by decide +kernel) (by decide) (fun c13 => ?_) (fun c13 => ?_)
      · refine zG.blk (pc' := 79) (l' := [some (2, x0), some (0, x1), some (0, x2), some (0, x3), some (0, x4)]) (st' := [(0, x3)]) (M' := M) hX [(.iload_n 3, 0, 0, 0)] (by decide +kernel) rfl trivial ?_
        (have k := key12; simp only [if_neg c13] at k; exact k)
      · refine zG.blk (pc' := 75) (l' := [some (2, x0), some (0, x1), some (0, x2), some (0, x3), some (0, x4)]) (st' := [(0, x2)]) (M' := M) hX [(.iload_n 2, 0, 0, 0)] (by decide +kernel) rfl trivial ?_
        refine zG.goto (tgt := 79) (off := 4) hX (by decide +kernel) (by decide) ?_
        (have k := key12; simp only [if_pos c13] at k; exact k)
    · have h := zin c11 h
      refine zG.blk (pc' := 44) (l' := [some (2, x0), some (0, x1), some (0, x2), some (0, x3), some (0, x4)]) (st' := [(0, x4), (2, x0)]) (M' := M) hX [(.aload_n 0, 0, 0, 0), (.iload 4, 0, 0, 0)] (by decide +kernel) rfl trivial ?_
      obtain ⟨q14, e15, h⟩ := zbd h
      refine zG.callV (b := x0) (av := [(0, x4)]) (st := []) (ci := 12) hX (pX12_couldRule_ok e15) sv_12_483 rfl ⟨by decide, rfl⟩ g10 (by decide +kernel) (by rw [hRm]; exact ⟨Nat.le_of_ble_eq_true rfl, Nat.le_of_ble_eq_true rfl⟩) (by rw [hRm]; exact ⟨Nat.le_of_ble_eq_true rfl, Nat.le_of_ble_eq_true rfl⟩) (Nat.le_of_ble_eq_true rfl) ?_
      show zG C E 5 S 0 0 _ 47 [some (2, x0), some (0, x1), some (0, x2), some (0, x3), some (0, x4)] [(0, q14.1)] q14.2
      have key16 : zG C E 5 S 0 0 (zQ C E 0 0 (some (0, q.1)) S q.2) 64 [some (2, x0), some (0, x1), some (0, (if q14.1 = 0 then (x2 : Int) else (w32 (x2 + 1)))), some (0, (if q14.1 = 0 then (x3 : Int) else (if x2 = 0 then (x4 : Int) else x3))), some (0, x4)] [] q14.2 := by
        refine zG.blk (pc' := 67) (l' := [some (2, x0), some (0, x1), some (0, (if q14.1 = 0 then (x2 : Int) else (w32 (x2 + 1)))), some (0, (if q14.1 = 0 then (x3 : Int) else (if x2 = 0 then (x4 : Int) else x3))), some (0, w32 (x4 + 1))]) (st' := []) (M' := q14.2) hX [(.iinc 4 1, 0, 0, 0)] (by decide +kernel) rfl trivial ?_
        refine zG.goto (tgt := 32) (off := (-35)) hX (by decide +kernel) (by decide) ?_
        exact ih _ _ _ _ _ _ h
      refine zG.if_eq (tgt := 64) (off := 17) hX (by decide +kernel) (by decide) (fun c17 => ?_) (fun c17 => ?_)
      · (have k := key16; simp only [if_pos c17] at k; exact k)
      · refine zG.blk (pc' := 51) (l' := [some (2, x0), some (0, x1), some (0, x2), some (0, x3), some (0, x4)]) (st' := [(0, x2)]) (M' := q14.2) hX [(.iload_n 2, 0, 0, 0)] (by decide +kernel) rfl trivial ?_
        refine zG.if_ne (tgt := 59) (off := 8) hX (by decide +kernel) (by decide) (fun c18 => ?_) (fun c18 => ?_)
        · refine zG.blk (pc' := 64) (l' := [some (2, x0), some (0, x1), some (0, w32 (x2 + 1)), some (0, x3), some (0, x4)]) (st' := []) (M' := q14.2) hX [(.iload_n 3, 0, 0, 0), (.istore_n 3, 0, 0, 0), (.iinc 2 1, 0, 0, 0)] (by decide +kernel) rfl trivial ?_
          (have k := key16; simp only [if_neg c17, if_neg c18] at k; exact k)
        · refine zG.blk (pc' := 56) (l' := [some (2, x0), some (0, x1), some (0, x2), some (0, x3), some (0, x4)]) (st' := [(0, x4)]) (M' := q14.2) hX [(.iload 4, 0, 0, 0)] (by decide +kernel) rfl trivial ?_
          refine zG.goto (tgt := 60) (off := 4) hX (by decide +kernel) (by decide) ?_
          refine zG.blk (pc' := 64) (l' := [some (2, x0), some (0, x1), some (0, w32 (x2 + 1)), some (0, x4), some (0, x4)]) (st' := []) (M' := q14.2) hX [(.istore_n 3, 0, 0, 0), (.iinc 2 1, 0, 0, 0)] (by decide +kernel) rfl trivial ?_
          (have k := key16; simp only [if_neg c17, if_pos c18] at k; exact k)
noncomputable def pX12_ruled (S : ZS) (M : ZM) (a0 : Int) (a1 : Int) : Option (Int × ZM) := if S.1 a0 = 12 then (pX12_isSky S M a0).bind fun q1 => if q1.1 = 0 then (pX12_ruled_17 S q1.2) else ((pX12_in S q1.2 a1 0 1).bind fun q5 => if q5.1 = 0 then (pX12_ruled_17 S q5.2) else ((pX12_keepsAll S q5.2 a0).bind fun q8 => pX12_ruled_32 S zFU q8 a0 a1 0 (-2) (-1))) else none
set_option maxHeartbeats 2000000 in
set_option maxRecDepth 20000 in
theorem pX12_ruled_go {C : ZC} {E : ZE} {S : ZS} {M : ZM} {a0 a1 : Int} {q : (Int × ZM)} (hX : zCx C E 12 cX12_ruled 5 (some .int) false) (hRm : czR C = { frames := 8, cells := 0, slots := 0, locals := 199 }) (h : pX12_ruled  S M a0 a1 = some q) : zG C E 5 S 0 0 (zQ C E 0 0 (some (0, q.1)) S q.2) 0 [some (2, a0), some (0, a1), none, none, none] [] M := by
  unfold pX12_ruled at h
  refine zG.blk (pc' := 1) (l' := [some (2, a0), some (0, a1), none, none, none]) (st' := [(2, a0)]) (M' := M) hX [(.aload_n 0, 0, 0, 0)] (by decide +kernel) rfl trivial ?_
  obtain ⟨g3, h⟩ := zif h
  obtain ⟨q1, e2, h⟩ := zbd h
  refine zG.callV (b := a0) (av := []) (st := []) (ci := 12) hX (pX12_isSky_ok e2) sv_12_402 rfl ⟨by decide, rfl⟩ g3 (by decide +kernel) (by rw [hRm]; exact ⟨Nat.le_of_ble_eq_true rfl, Nat.le_of_ble_eq_true rfl⟩) (by rw [hRm]; exact ⟨Nat.le_of_ble_eq_true rfl, Nat.le_of_ble_eq_true rfl⟩) (Nat.le_of_ble_eq_true rfl) ?_
  show zG C E 5 S 0 0 _ 4 [some (2, a0), some (0, a1), none, none, none] [(0, q1.1)] q1.2
  refine zG.if_eq (tgt := 17) (off := 13) hX (by decide +kernel) (by decide) (fun c4 => ?_) (fun c4 => ?_)
  · have h := zip c4 h
    exact zG.wk [false, false, true, true, true] (pX12_ruled_17_ok hX hRm h)
  · have h := zin c4 h
    refine zG.blk (pc' := 11) (l' := [some (2, a0), some (0, a1), none, none, none]) (st' := [(1, 1), (1, 0), (1, a1)]) (M' := q1.2) hX [(.iload_n 1, 0, 0, 0), (.i2l, 0, 0, 0), (.lconst 0, 0, 0, 0), (.lconst 1, 1, 0, 0)] (by decide +kernel) rfl trivial ?_
    obtain ⟨q5, e6, h⟩ := zbd h
    refine zG.callS (av := [(1, a1), (1, 0), (1, 1)]) (st := []) hX (pX12_in_ok e6) ss_12_138 rfl (by decide +kernel) (by rw [hRm]; exact ⟨Nat.le_of_ble_eq_true rfl, Nat.le_of_ble_eq_true rfl⟩) (by rw [hRm]; exact ⟨Nat.le_of_ble_eq_true rfl, Nat.le_of_ble_eq_true rfl⟩) (Nat.le_of_ble_eq_true rfl) ?_
    show zG C E 5 S 0 0 _ 14 [some (2, a0), some (0, a1), none, none, none] [(0, q5.1)] q5.2
    refine zG.if_ne (tgt := 20) (off := 6) hX (by decide +kernel) (by decide) (fun c7 => ?_) (fun c7 => ?_)
    · have h := zin c7 h
      refine zG.blk (pc' := 21) (l' := [some (2, a0), some (0, a1), none, none, none]) (st' := [(2, a0)]) (M' := q5.2) hX [(.aload_n 0, 0, 0, 0)] (by decide +kernel) rfl trivial ?_
      obtain ⟨q8, e9, h⟩ := zbd h
      refine zG.callV (b := a0) (av := []) (st := []) (ci := 12) hX (pX12_keepsAll_ok e9) sv_12_426 rfl ⟨by decide, rfl⟩ g3 (by decide +kernel) (by rw [hRm]; exact ⟨Nat.le_of_ble_eq_true rfl, Nat.le_of_ble_eq_true rfl⟩) (by rw [hRm]; exact ⟨Nat.le_of_ble_eq_true rfl, Nat.le_of_ble_eq_true rfl⟩) (Nat.le_of_ble_eq_true rfl) ?_
      show zG C E 5 S 0 0 _ 24 [some (2, a0), some (0, a1), none, none, none] [] q8
      refine zG.blk (pc' := 32) (l' := [some (2, a0), some (0, a1), some (0, 0), some (0, (-2)), some (0, (-1))]) (st' := []) (M' := q8) hX [(.iconst 0, 0, 0, 0), (.istore_n 2, 0, 0, 0), (.bipush (-2), 0, 0, 0), (.istore_n 3, 0, 0, 0), (.iconst (-1), 0, 0, 0), (.istore 4, 0, 0, 0)] (by decide +kernel) rfl trivial ?_
      exact (pX12_ruled_32_ok hX hRm zFU _ _ _ _ _ _ h)
    · have h := zip c7 h
      exact zG.wk [false, false, true, true, true] (pX12_ruled_17_ok hX hRm h)
theorem pX12_ruled_ok {l : Launch} {E : ZE} {S : ZS} {M : ZM} {a0 a1 : Int} {q : (Int × ZM)} (h : pX12_ruled S M a0 a1 = some q) : zMet l yX12_ruled cX12_ruled 5 (some .int) 8 199 0 0 E S M [(2, a0), (0, a1)] (some (0, q.1)) S q.2 :=
  zMet.of (o := 12) (ini := false) (by decide +kernel) rfl (fun h => by cases h) (Nat.le_of_ble_eq_true rfl) (fun C hX hl hRm => by subst hl; exact pX12_ruled_go hX hRm h)
noncomputable def pX12_seed (S : ZS) (M : ZM) (a0 : Int) (a1 : Int) : Option (Int × ZM) := if 0 ≤ a1 then (if S.1 a0 = 12 then if S.1 (M a0 1) = 100 ∧ (0 : Int) ≤ 8 ∧ 8 < S.2.1 (M a0 1) then zlet (upM M (M a0 1) 8 a1) fun M4 => some (M (M a0 1) 8, M4) else none else none) else (some ((-1), M))
set_option maxHeartbeats 2000000 in
set_option maxRecDepth 20000 in
theorem pX12_seed_go {C : ZC} {E : ZE} {S : ZS} {M : ZM} {a0 a1 : Int} {q : (Int × ZM)} (hX : zCx C E 12 cX12_seed 3 (some .int) false) (hRm : czR C = { frames := 1, cells := 0, slots := 0, locals := 40 }) (h : pX12_seed  S M a0 a1 = some q) : zG C E 3 S 0 0 (zQ C E 0 0 (some (0, q.1)) S q.2) 0 [some (2, a0), some (0, a1), none] [] M := by
  unfold pX12_seed at h
  refine zG.blk (pc' := 1) (l' := [some (2, a0), some (0, a1), none]) (st' := [(0, a1)]) (M' := M) hX [(.iload_n 1, 0, 0, 0)] (by decide +kernel) rfl trivial ?_
  refine zG.if_ge (tgt := 6) (off := 5) hX (by decide +kernel) (by decide) (fun c1 => ?_) (fun c1 => ?_)
  · have h := zip c1 h
    obtain ⟨g2, h⟩ := zif h
    obtain ⟨g3, h⟩ := zif h
    refine zG.blk (pc' := 22) (l' := [some (2, a0), some (0, a1), some (0, M (M a0 1) 8)]) (st' := []) (M' := (upM M (M a0 1) 8 a1)) hX [(.aload_n 0, 0, 0, 0), (.getfield 9, 12, 1, 2), (.bipush 8, 0, 0, 0), (.iaload, 0, 0, 0), (.istore_n 2, 0, 0, 0), (.aload_n 0, 0, 0, 0), (.getfield 9, 12, 1, 2), (.bipush 8, 0, 0, 0), (.iload_n 1, 0, 0, 0), (.iastore, 0, 0, 0)] (by decide +kernel) rfl (And.intro g2 (And.intro g3 (And.intro g2 (And.intro g3 trivial)))) ?_
    generalize upM M (M a0 1) 8 a1 = M4 at h ⊢
    have h := zlt h
    refine zG.blk (pc' := 23) (l' := [some (2, a0), some (0, a1), some (0, M (M a0 1) 8)]) (st' := [(0, M (M a0 1) 8)]) (M' := M4) hX [(.iload_n 2, 0, 0, 0)] (by decide +kernel) rfl trivial ?_
    cases h
    exact zG.iret hX (by decide +kernel)
  · have h := zin c1 h
    refine zG.blk (pc' := 5) (l' := [some (2, a0), some (0, a1), none]) (st' := [(0, (-1))]) (M' := M) hX [(.iconst (-1), 0, 0, 0)] (by decide +kernel) rfl trivial ?_
    cases h
    exact zG.iret hX (by decide +kernel)
theorem pX12_seed_ok {l : Launch} {E : ZE} {S : ZS} {M : ZM} {a0 a1 : Int} {q : (Int × ZM)} (h : pX12_seed S M a0 a1 = some q) : zMet l yX12_seed cX12_seed 3 (some .int) 1 40 0 0 E S M [(2, a0), (0, a1)] (some (0, q.1)) S q.2 :=
  zMet.of (o := 12) (ini := false) (by decide +kernel) rfl (fun h => by cases h) (Nat.le_of_ble_eq_true rfl) (fun C hX hl hRm => by subst hl; exact pX12_seed_go hX hRm h)
noncomputable def pX12_set_26 (S : ZS) (M : ZM) : Option (Int × ZM) := some ((-1), M)
set_option maxHeartbeats 2000000 in
set_option maxRecDepth 20000 in
theorem pX12_set_26_ok {C : ZC} {E : ZE} {S : ZS} {q : (Int × ZM)} (hX : zCx C E 12 cX12_set 4 (some .int) false) (hRm : czR C = { frames := 5, cells := 0, slots := 0, locals := 128 }) {M : ZM} (h : pX12_set_26 S M = some q) : zG C E 4 S 0 0 (zQ C E 0 0 (some (0, q.1)) S q.2) 26 [none, none, none, none] [] M := by
  unfold pX12_set_26 at h
  refine zG.blk (pc' := 27) (l' := [none, none, none, none]) (st' := [(0, (-1))]) (M' := M) hX [(.iconst (-1), 0, 0, 0)] (by decide +kernel) rfl trivial ?_
  cases h
  exact zG.iret hX (by decide +kernel)
noncomputable def pX12_set (S : ZS) (M : ZM) (a0 : Int) (a1 : Int) (a2 : Int) : Option (Int × ZM) := if S.1 a0 = 12 then (pX12_isPen S M a0 a1).bind fun q1 => if q1.1 = 0 then (pX12_set_26 S q1.2) else ((pX12_isCell S q1.2 a0 a2).bind fun q5 => if q5.1 = 0 then (pX12_set_26 S q5.2) else (if S.1 (q5.2 a0 2) = 100 ∧ (0 : Int) ≤ a1 ∧ a1 < S.2.1 (q5.2 a0 2) then if q5.2 (q5.2 a0 2) a1 = a2 then (pX12_set_26 S q5.2) else ((pX12_keepsAct S q5.2 a0).bind fun q10 => if S.1 (q10 a0 2) = 100 ∧ (0 : Int) ≤ a1 ∧ a1 < S.2.1 (q10 a0 2) then zlet (upM q10 (q10 a0 2) a1 a2) fun M13 => some (q10 (q10 a0 2) a1, M13) else none) else none)) else none
set_option maxHeartbeats 2000000 in
set_option maxRecDepth 20000 in
theorem pX12_set_go {C : ZC} {E : ZE} {S : ZS} {M : ZM} {a0 a1 a2 : Int} {q : (Int × ZM)} (hX : zCx C E 12 cX12_set 4 (some .int) false) (hRm : czR C = { frames := 5, cells := 0, slots := 0, locals := 128 }) (h : pX12_set  S M a0 a1 a2 = some q) : zG C E 4 S 0 0 (zQ C E 0 0 (some (0, q.1)) S q.2) 0 [some (2, a0), some (0, a1), some (0, a2), none] [] M := by
  unfold pX12_set at h
  refine zG.blk (pc' := 2) (l' := [some (2, a0), some (0, a1), some (0, a2), none]) (st' := [(0, a1), (2, a0)]) (M' := M) hX [(.aload_n 0, 0, 0, 0), (.iload_n 1, 0, 0, 0)] (by decide +kernel) rfl trivial ?_
  obtain ⟨g3, h⟩ := zif h
  obtain ⟨q1, e2, h⟩ := zbd h
  refine zG.callV (b := a0) (av := [(0, a1)]) (st := []) (ci := 12) hX (pX12_isPen_ok e2) sv_12_341 rfl ⟨by decide, rfl⟩ g3 (by decide +kernel) (by rw [hRm]; exact ⟨Nat.le_of_ble_eq_true rfl, Nat.le_of_ble_eq_true rfl⟩) (by rw [hRm]; exact ⟨Nat.le_of_ble_eq_true rfl, Nat.le_of_ble_eq_true rfl⟩) (Nat.le_of_ble_eq_true rfl) ?_
  show zG C E 4 S 0 0 _ 5 [some (2, a0), some (0, a1), some (0, a2), none] [(0, q1.1)] q1.2
  refine zG.if_eq (tgt := 26) (off := 21) hX (by decide +kernel) (by decide) (fun c4 => ?_) (fun c4 => ?_)
  · have h := zip c4 h
    exact zG.wk [false, false, false, true] (pX12_set_26_ok hX hRm h)
  · have h := zin c4 h
    refine zG.blk (pc' := 10) (l' := [some (2, a0), some (0, a1), some (0, a2), none]) (st' := [(0, a2), (2, a0)]) (M' := q1.2) hX [(.aload_n 0, 0, 0, 0), (.iload_n 2, 0, 0, 0)] (by decide +kernel) rfl trivial ?_
    obtain ⟨q5, e6, h⟩ := zbd h
    refine zG.callV (b := a0) (av := [(0, a2)]) (st := []) (ci := 12) hX (pX12_isCell_ok e6) sv_12_345 rfl ⟨by decide, rfl⟩ g3 (by decide +kernel) (by rw [hRm]; exact ⟨Nat.le_of_ble_eq_true rfl, Nat.le_of_ble_eq_true rfl⟩) (by rw [hRm]; exact ⟨Nat.le_of_ble_eq_true rfl, Nat.le_of_ble_eq_true rfl⟩) (Nat.le_of_ble_eq_true rfl) ?_
    show zG C E 4 S 0 0 _ 13 [some (2, a0), some (0, a1), some (0, a2), none] [(0, q5.1)] q5.2
    refine zG.if_eq (tgt := 26) (off := 13) hX (by decide +kernel) (by decide) (fun c7 => ?_) (fun c7 => ?_)
    · have h := zip c7 h
      exact zG.wk [false, false, false, true] (pX12_set_26_ok hX hRm h)
    · have h := zin c7 h
      obtain ⟨g8, h⟩ := zif h
      refine zG.blk (pc' := 23) (l' := [some (2, a0), some (0, a1), some (0, a2), none]) (st' := [(0, a2), (0, q5.2 (q5.2 a0 2) a1)]) (M' := q5.2) hX [(.aload_n 0, 0, 0, 0), (.getfield 13, 12, 2, 2), (.iload_n 1, 0, 0, 0), (.iaload, 0, 0, 0), (.iload_n 2, 0, 0, 0)] (by decide +kernel) rfl (And.intro g3 (And.intro g8 trivial)) ?_
      refine zG.icmp_ne (tgt := 28) (off := 5) hX (by decide +kernel) (by decide) (fun c9 => ?_) (fun c9 => ?_)
      · have h := zin c9 h
        refine zG.blk (pc' := 29) (l' := [some (2, a0), some (0, a1), some (0, a2), none]) (st' := [(2, a0)]) (M' := q5.2) hX [(.aload_n 0, 0, 0, 0)] (by decide +kernel) rfl trivial ?_
        obtain ⟨q10, e11, h⟩ := zbd h
        refine zG.callV (b := a0) (av := []) (st := []) (ci := 12) hX (pX12_keepsAct_ok e11) sv_12_405 rfl ⟨by decide, rfl⟩ g3 (by decide +kernel) (by rw [hRm]; exact ⟨Nat.le_of_ble_eq_true rfl, Nat.le_of_ble_eq_true rfl⟩) (by rw [hRm]; exact ⟨Nat.le_of_ble_eq_true rfl, Nat.le_of_ble_eq_true rfl⟩) (Nat.le_of_ble_eq_true rfl) ?_
        show zG C E 4 S 0 0 _ 32 [some (2, a0), some (0, a1), some (0, a2), none] [] q10
        obtain ⟨g12, h⟩ := zif h
        refine zG.blk (pc' := 46) (l' := [some (2, a0), some (0, a1), some (0, a2), some (0, q10 (q10 a0 2) a1)]) (st' := []) (M' := (upM q10 (q10 a0 2) a1 a2)) hX [(.aload_n 0, 0, 0, 0), (.getfield 13, 12, 2, 2), (.iload_n 1, 0, 0, 0), (.iaload, 0, 0, 0), (.istore_n 3, 0, 0, 0), (.aload_n 0, 0, 0, 0), (.getfield 13, 12, 2, 2), (.iload_n 1, 0, 0, 0), (.iload_n 2, 0, 0, 0), (.iastore, 0, 0, 0)] (by decide +kernel) rfl (And.intro g3 (And.intro g12 (And.intro g3 (And.intro g12 trivial)))) ?_
        generalize upM q10 (q10 a0 2) a1 a2 = M13 at h ⊢
        have h := zlt h
        refine zG.blk (pc' := 47) (l' := [some (2, a0), some (0, a1), some (0, a2), some (0, q10 (q10 a0 2) a1)]) (st' := [(0, q10 (q10 a0 2) a1)]) (M' := M13) hX [(.iload_n 3, 0, 0, 0)] (by decide +kernel) rfl trivial ?_
        cases h
        exact zG.iret hX (by decide +kernel)
      · have h := zip c9 h
        exact zG.wk [false, false, false, true] (pX12_set_26_ok hX hRm h)
theorem pX12_set_ok {l : Launch} {E : ZE} {S : ZS} {M : ZM} {a0 a1 a2 : Int} {q : (Int × ZM)} (h : pX12_set S M a0 a1 a2 = some q) : zMet l yX12_set cX12_set 4 (some .int) 5 128 0 0 E S M [(2, a0), (0, a1), (0, a2)] (some (0, q.1)) S q.2 :=
  zMet.of (o := 12) (ini := false) (by decide +kernel) rfl (fun h => by cases h) (Nat.le_of_ble_eq_true rfl) (fun C hX hl hRm => by subst hl; exact pX12_set_go hX hRm h)
noncomputable def pX12_sign (S : ZS) (M : ZM) (a0 : Int) : Option (Int × ZM) := if S.1 a0 = 12 then (pX12_signedAt S M a0 0).bind fun q1 => some (q1.1, q1.2) else none
set_option maxHeartbeats 2000000 in
set_option maxRecDepth 20000 in
theorem pX12_sign_go {C : ZC} {E : ZE} {S : ZS} {M : ZM} {a0 : Int} {q : (Int × ZM)} (hX : zCx C E 12 cX12_sign 1 (some .int) false) (hRm : czR C = { frames := 8, cells := 0, slots := 0, locals := 199 }) (h : pX12_sign  S M a0 = some q) : zG C E 1 S 0 0 (zQ C E 0 0 (some (0, q.1)) S q.2) 0 [some (2, a0)] [] M := by
  unfold pX12_sign at h
  refine zG.blk (pc' := 2) (l' := [some (2, a0)]) (st' := [(0, 0), (2, a0)]) (M' := M) hX [(.aload_n 0, 0, 0, 0), (.iconst 0, 0, 0, 0)] (by decide +kernel) rfl trivial ?_
  obtain ⟨g3, h⟩ := zif h
  obtain ⟨q1, e2, h⟩ := zbd h
  refine zG.callV (b := a0) (av := [(0, 0)]) (st := []) (ci := 12) hX (pX12_signedAt_ok e2) sv_12_436 rfl ⟨by decide, rfl⟩ g3 (by decide +kernel) (by rw [hRm]; exact ⟨Nat.le_of_ble_eq_true rfl, Nat.le_of_ble_eq_true rfl⟩) (by rw [hRm]; exact ⟨Nat.le_of_ble_eq_true rfl, Nat.le_of_ble_eq_true rfl⟩) (Nat.le_of_ble_eq_true rfl) ?_
  show zG C E 1 S 0 0 _ 5 [some (2, a0)] [(0, q1.1)] q1.2
  cases h
  exact zG.iret hX (by decide +kernel)
theorem pX12_sign_ok {l : Launch} {E : ZE} {S : ZS} {M : ZM} {a0 : Int} {q : (Int × ZM)} (h : pX12_sign S M a0 = some q) : zMet l yX12_sign cX12_sign 1 (some .int) 8 199 0 0 E S M [(2, a0)] (some (0, q.1)) S q.2 :=
  zMet.of (o := 12) (ini := false) (by decide +kernel) rfl (fun h => by cases h) (Nat.le_of_ble_eq_true rfl) (fun C hX hl hRm => by subst hl; exact pX12_sign_go hX hRm h)
noncomputable def pX12_stay (S : ZS) (M : ZM) (a0 : Int) (a1 : Int) : Option (Int × ZM) := if S.1 a0 = 12 then (pX12_isPen S M a0 a1).bind fun q1 => if q1.1 = 0 then (some ((-1), q1.2)) else ((pX12_keepsAct S q1.2 a0).bind fun q5 => if S.1 (q5 a0 1) = 100 ∧ (0 : Int) ≤ 5 ∧ 5 < S.2.1 (q5 a0 1) then zlet (upM q5 (q5 a0 1) 5 (zxor (q5 (q5 a0 1) 5) (zshl 1 a1))) fun M8 => if S.1 (M8 a0 1) = 100 ∧ (0 : Int) ≤ 5 ∧ 5 < S.2.1 (M8 a0 1) then some (M8 (M8 a0 1) 5, M8) else none else none) else none
set_option maxHeartbeats 2000000 in
set_option maxRecDepth 20000 in
theorem pX12_stay_go {C : ZC} {E : ZE} {S : ZS} {M : ZM} {a0 a1 : Int} {q : (Int × ZM)} (hX : zCx C E 12 cX12_stay 2 (some .int) false) (hRm : czR C = { frames := 5, cells := 0, slots := 0, locals := 128 }) (h : pX12_stay  S M a0 a1 = some q) : zG C E 2 S 0 0 (zQ C E 0 0 (some (0, q.1)) S q.2) 0 [some (2, a0), some (0, a1)] [] M := by
  unfold pX12_stay at h
  refine zG.blk (pc' := 2) (l' := [some (2, a0), some (0, a1)]) (st' := [(0, a1), (2, a0)]) (M' := M) hX [(.aload_n 0, 0, 0, 0), (.iload_n 1, 0, 0, 0)] (by decide +kernel) rfl trivial ?_
  obtain ⟨g3, h⟩ := zif h
  obtain ⟨q1, e2, h⟩ := zbd h
  refine zG.callV (b := a0) (av := [(0, a1)]) (st := []) (ci := 12) hX (pX12_isPen_ok e2) sv_12_341 rfl ⟨by decide, rfl⟩ g3 (by decide +kernel) (by rw [hRm]; exact ⟨Nat.le_of_ble_eq_true rfl, Nat.le_of_ble_eq_true rfl⟩) (by rw [hRm]; exact ⟨Nat.le_of_ble_eq_true rfl, Nat.le_of_ble_eq_true rfl⟩) (Nat.le_of_ble_eq_true rfl) ?_
  show zG C E 2 S 0 0 _ 5 [some (2, a0), some (0, a1)] [(0, q1.1)] q1.2
  refine zG.if_ne (tgt := 10) (off := 5) hX (by decide +kernel) (by decide) (fun c4 => ?_) (fun c4 => ?_)
  · have h := zin c4 h
    refine zG.blk (pc' := 11) (l' := [some (2, a0), some (0, a1)]) (st' := [(2, a0)]) (M' := q1.2) hX [(.aload_n 0, 0, 0, 0)] (by decide +kernel) rfl trivial ?_
    obtain ⟨q5, e6, h⟩ := zbd h
    refine zG.callV (b := a0) (av := []) (st := []) (ci := 12) hX (pX12_keepsAct_ok e6) sv_12_405 rfl ⟨by decide, rfl⟩ g3 (by decide +kernel) (by rw [hRm]; exact ⟨Nat.le_of_ble_eq_true rfl, Nat.le_of_ble_eq_true rfl⟩) (by rw [hRm]; exact ⟨Nat.le_of_ble_eq_true rfl, Nat.le_of_ble_eq_true rfl⟩) (Nat.le_of_ble_eq_true rfl) ?_
    show zG C E 2 S 0 0 _ 14 [some (2, a0), some (0, a1)] [] q5
    obtain ⟨g7, h⟩ := zif h
    refine zG.blk (pc' := 26) (l' := [some (2, a0), some (0, a1)]) (st' := []) (M' := (upM q5 (q5 a0 1) 5 (zxor (q5 (q5 a0 1) 5) (zshl 1 a1)))) hX [(.aload_n 0, 0, 0, 0), (.getfield 9, 12, 1, 2), (.iconst 5, 0, 0, 0), (.dup2, 0, 0, 0), (.iaload, 0, 0, 0), (.iconst 1, 0, 0, 0), (.iload_n 1, 0, 0, 0), (.ishl, 0, 0, 0), (.ixor, 0, 0, 0), (.iastore, 0, 0, 0)] (by decide +kernel) rfl (And.intro g3 (And.intro g7 (And.intro g7 trivial))) ?_
    generalize upM q5 (q5 a0 1) 5 (zxor (q5 (q5 a0 1) 5) (zshl 1 a1)) = M8 at h ⊢
    have h := zlt h
    obtain ⟨g9, h⟩ := zif h
    refine zG.blk (pc' := 32) (l' := [some (2, a0), some (0, a1)]) (st' := [(0, M8 (M8 a0 1) 5)]) (M' := M8) hX [(.aload_n 0, 0, 0, 0), (.getfield 9, 12, 1, 2), (.iconst 5, 0, 0, 0), (.iaload, 0, 0, 0)] (by decide +kernel) rfl (And.intro g3 (And.intro g9 trivial)) ?_
    cases h
    exact zG.iret hX (by decide +kernel)
  · have h := zip c4 h
    refine zG.blk (pc' := 9) (l' := [some (2, a0), some (0, a1)]) (st' := [(0, (-1))]) (M' := q1.2) hX [(.iconst (-1), 0, 0, 0)] (by decide +kernel) rfl trivial ?_
    cases h
    exact zG.iret hX (by decide +kernel)
theorem pX12_stay_ok {l : Launch} {E : ZE} {S : ZS} {M : ZM} {a0 a1 : Int} {q : (Int × ZM)} (h : pX12_stay S M a0 a1 = some q) : zMet l yX12_stay cX12_stay 2 (some .int) 5 128 0 0 E S M [(2, a0), (0, a1)] (some (0, q.1)) S q.2 :=
  zMet.of (o := 12) (ini := false) (by decide +kernel) rfl (fun h => by cases h) (Nat.le_of_ble_eq_true rfl) (fun C hX hl hRm => by subst hl; exact pX12_stay_go hX hRm h)
noncomputable def pX12_undo (S : ZS) (M : ZM) (a0 : Int) : Option (Int × ZM) := if S.1 a0 = 12 then if M a0 42 = 0 then (some ((-2), M)) else (zlet (upM M a0 42 (w32 ((M a0 42) - 1))) fun M3 => (pX12_movesAll S M3 a0 (M3 a0 42) 1).bind fun q4 => some (q4 a0 42, q4)) else none
set_option maxHeartbeats 2000000 in
set_option maxRecDepth 20000 in
theorem pX12_undo_go {C : ZC} {E : ZE} {S : ZS} {M : ZM} {a0 : Int} {q : (Int × ZM)} (hX : zCx C E 12 cX12_undo 1 (some .int) false) (hRm : czR C = { frames := 4, cells := 0, slots := 0, locals := 107 }) (h : pX12_undo  S M a0 = some q) : zG C E 1 S 0 0 (zQ C E 0 0 (some (0, q.1)) S q.2) 0 [some (2, a0)] [] M := by
  unfold pX12_undo at h
  obtain ⟨g1, h⟩ := zif h
  refine zG.blk (pc' := 4) (l' := [some (2, a0)]) (st' := [(0, M a0 42)]) (M' := M) hX [(.aload_n 0, 0, 0, 0), (.getfield 305, 12, 42, 0)] (by decide +kernel) rfl (And.intro g1 trivial) ?_
  refine zG.if_ne (tgt := 10) (off := 6) hX (by decide +kernel) (by decide) (fun c2 => ?_) (fun c2 => ?_)
  · have h := zin c2 h
    refine zG.blk (pc' := 20) (l' := [some (2, a0)]) (st' := []) (M' := (upM M a0 42 (w32 ((M a0 42) - 1)))) hX [(.aload_n 0, 0, 0, 0), (.dup, 0, 0, 0), (.getfield 305, 12, 42, 0), (.iconst 1, 0, 0, 0), (.isub, 0, 0, 0), (.putfield 305, 12, 42, 0)] (by decide +kernel) rfl (And.intro g1 (And.intro g1 trivial)) ?_
    generalize upM M a0 42 (w32 ((M a0 42) - 1)) = M3 at h ⊢
    have h := zlt h
    refine zG.blk (pc' := 26) (l' := [some (2, a0)]) (st' := [(0, 1), (0, M3 a0 42), (2, a0)]) (M' := M3) hX [(.aload_n 0, 0, 0, 0), (.aload_n 0, 0, 0, 0), (.getfield 305, 12, 42, 0), (.iconst 1, 0, 0, 0)] (by decide +kernel) rfl (And.intro g1 trivial) ?_
    obtain ⟨q4, e5, h⟩ := zbd h
    refine zG.callV (b := a0) (av := [(0, M3 a0 42), (0, 1)]) (st := []) (ci := 12) hX (pX12_movesAll_ok e5) sv_12_398 rfl ⟨by decide, rfl⟩ g1 (by decide +kernel) (by rw [hRm]; exact ⟨Nat.le_of_ble_eq_true rfl, Nat.le_of_ble_eq_true rfl⟩) (by rw [hRm]; exact ⟨Nat.le_of_ble_eq_true rfl, Nat.le_of_ble_eq_true rfl⟩) (Nat.le_of_ble_eq_true rfl) ?_
    show zG C E 1 S 0 0 _ 29 [some (2, a0)] [] q4
    refine zG.blk (pc' := 33) (l' := [some (2, a0)]) (st' := [(0, q4 a0 42)]) (M' := q4) hX [(.aload_n 0, 0, 0, 0), (.getfield 305, 12, 42, 0)] (by decide +kernel) rfl (And.intro g1 trivial) ?_
    cases h
    exact zG.iret hX (by decide +kernel)
  · have h := zip c2 h
    refine zG.blk (pc' := 9) (l' := [some (2, a0)]) (st' := [(0, (-2))]) (M' := M) hX [(.bipush (-2), 0, 0, 0)] (by decide +kernel) rfl trivial ?_
    cases h
    exact zG.iret hX (by decide +kernel)
theorem pX12_undo_ok {l : Launch} {E : ZE} {S : ZS} {M : ZM} {a0 : Int} {q : (Int × ZM)} (h : pX12_undo S M a0 = some q) : zMet l yX12_undo cX12_undo 1 (some .int) 4 107 0 0 E S M [(2, a0)] (some (0, q.1)) S q.2 :=
  zMet.of (o := 12) (ini := false) (by decide +kernel) rfl (fun h => by cases h) (Nat.le_of_ble_eq_true rfl) (fun C hX hl hRm => by subst hl; exact pX12_undo_go hX hRm h)
noncomputable def pX12_wrote_20 (S : ZS) (M : ZM) : Option (Int × ZM) := some ((-1), M)
set_option maxHeartbeats 2000000 in
set_option maxRecDepth 20000 in
theorem pX12_wrote_20_ok {C : ZC} {E : ZE} {S : ZS} {q : (Int × ZM)} (hX : zCx C E 12 cX12_wrote 5 (some .int) false) (hRm : czR C = { frames := 8, cells := 0, slots := 0, locals := 202 }) {M : ZM} (h : pX12_wrote_20 S M = some q) : zG C E 5 S 0 0 (zQ C E 0 0 (some (0, q.1)) S q.2) 20 [none, none, none, none, none] [] M := by
  unfold pX12_wrote_20 at h
  refine zG.blk (pc' := 21) (l' := [none, none, none, none, none]) (st' := [(0, (-1))]) (M' := M) hX [(.iconst (-1), 0, 0, 0)] (by decide +kernel) rfl trivial ?_
  cases h
  exact zG.iret hX (by decide +kernel)
theorem sv_12_448 : zSV 12 448 yX12_leaves cX12_leaves 7 (some .boolean) 3 := ⟨⟨gt_at 1649 (by decide +kernel) rfl, gt_at 1651 (by decide +kernel) rfl, gt_at 94 (by decide +kernel) rfl, gt_at 117 (by decide +kernel) rfl, gt_at 1652 (by decide +kernel) rfl⟩, by decide +kernel, by decide +kernel, by decide +kernel⟩
noncomputable def pX12_wrote_31 (S : ZS) : Nat → ZM → Int → Int → Int → Int → Int → Option (Int × ZM)
  | 0 => fun _ _ _ _ _ _ => none
  | n + 1 => fun M x0 x1 x2 x3 x4 => if S.1 x0 = 12 then if S.1 (M x0 1) = 100 ∧ (0 : Int) ≤ 2 ∧ 2 < S.2.1 (M x0 1) then if M (M x0 1) 2 ≤ x4 then (some (x3, M)) else ((pX12_leaves S M x0 x4 x1 x2).bind fun q13 => zlet (zor x3 (if q13.1 = 0 then (0 : Int) else (zshl 1 x4))) fun x16 => pX12_wrote_31 S n q13.2 x0 x1 x2 x16 (w32 (x4 + 1))) else none else none
set_option maxHeartbeats 2000000 in
set_option maxRecDepth 20000 in
theorem pX12_wrote_31_ok {C : ZC} {E : ZE} {S : ZS} {q : (Int × ZM)} (hX : zCx C E 12 cX12_wrote 5 (some .int) false) (hRm : czR C = { frames := 8, cells := 0, slots := 0, locals := 202 }) : ∀ (n : Nat) (M : ZM) (x0 : Int) (x1 : Int) (x2 : Int) (x3 : Int) (x4 : Int), pX12_wrote_31 S n M x0 x1 x2 x3 x4 = some q → zG C E 5 S 0 0 (zQ C E 0 0 (some (0, q.1)) S q.2) 31 [some (2, x0), some (0, x1), some (0, x2), some (0, x3), some (0, x4)] [] M := by
  intro n
  induction n with
  | zero => intro M x0 x1 x2 x3 x4 h; cases h
  | succ n ih =>
    intro M x0 x1 x2 x3 x4 h
    unfold pX12_wrote_31 at h
    obtain ⟨g10, h⟩ := zif h
    obtain ⟨g11, h⟩ := zif h
    refine zG.blk (pc' := 39) (l' := [some (2, x0), some (0, x1), some (0, x2), some (0, x3), some (0, x4)]) (st' := [(0, M (M x0 1) 2), (0, x4)]) (M' := M) hX [(.iload 4, 0, 0, 0), (.aload_n 0, 0, 0, 0), (.getfield 9, 12, 1, 2), (.iconst 2, 0, 0, 0), (.iaload, 0, 0, 0)] (by decide +kernel) rfl (And.intro g10 (And.intro g11 trivial)) ?_
    refine zG.icmp_ge (tgt := 70) (off := 31) hX (by decide +kernel) (by decide) (fun c12 => ?_) (fun c12 => ?_)
    · have h := zip c12 h
      refine zG.blk (pc' := 71) (l' := [some (2, x0), some (0, x1), some (0, x2), some (0, x3), some (0, x4)]) (st' := [(0, x3)]) (M' := M) hX [(.iload_n 3, 0, 0, 0)] (by decide +kernel) rfl trivial ?_
      cases h
      exact zG.iret hX (by decide +kernel)
    · have h := zin c12 h
      refine zG.blk (pc' := 48) (l' := [some (2, x0), some (0, x1), some (0, x2), some (0, x3), some (0, x4)]) (st' := [(0, x2), (0, x1), (0, x4), (2, x0), (0, x3)]) (M' := M) hX [(.iload_n 3, 0, 0, 0), (.aload_n 0, 0, 0, 0), (.iload 4, 0, 0, 0), (.iload_n 1, 0, 0, 0), (.iload_n 2, 0, 0, 0)] (by decide +kernel) rfl trivial ?_
      obtain ⟨q13, e14, h⟩ := zbd h
      refine zG.callV (b := x0) (av := [(0, x4), (0, x1), (0, x2)]) (st := [(0, x3)]) (ci := 12) hX (pX12_leaves_ok e14) sv_12_448 rfl ⟨by decide, rfl⟩ g10 (by decide +kernel) (by rw [hRm]; exact ⟨Nat.le_of_ble_eq_true rfl, Nat.le_of_ble_eq_true rfl⟩) (by rw [hRm]; exact ⟨Nat.le_of_ble_eq_true rfl, Nat.le_of_ble_eq_true rfl⟩) (Nat.le_of_ble_eq_true rfl) ?_
      show zG C E 5 S 0 0 _ 51 [some (2, x0), some (0, x1), some (0, x2), some (0, x3), some (0, x4)] [(0, q13.1), (0, x3)] q13.2
      have key15 : zG C E 5 S 0 0 (zQ C E 0 0 (some (0, q.1)) S q.2) 62 [some (2, x0), some (0, x1), some (0, x2), some (0, x3), some (0, x4)] [(0, (if q13.1 = 0 then (0 : Int) else (zshl 1 x4))), (0, x3)] q13.2 := by
        refine zG.blk (pc' := 64) (l' := [some (2, x0), some (0, x1), some (0, x2), some (0, zor x3 (if q13.1 = 0 then (0 : Int) else (zshl 1 x4))), some (0, x4)]) (st' := []) (M' := q13.2) hX [(.ior, 0, 0, 0), (.istore_n 3, 0, 0, 0)] (by decide +kernel) rfl trivial ?_
        generalize zor x3 (if q13.1 = 0 then (0 : Int) else (zshl 1 x4)) = x16 at h ⊢
        have h := zlt h
        refine zG.blk (pc' := 67) (l' := [some (2, x0), some (0, x1), some (0, x2), some (0, x16), some (0, w32 (x4 + 1))]) (st' := []) (M' := q13.2) hX [(.iinc 4 1, 0, 0, 0)] (by decide +kernel) rfl trivial ?_
        refine zG.goto (tgt := 31) (off := (-36)) hX (by decide +kernel) (by decide) ?_
        exact ih _ _ _ _ _ _ h
      refine zG.if_eq (tgt := 61) (off := 10) hX (by decide +kernel) (by decide) (fun c17 => ?_) (fun c17 => ?_)
      · refine zG.blk (pc' := 62) (l' := [some (2, x0), some (0, x1), some (0, x2), some (0, x3), some (0, x4)]) (st' := [(0, 0), (0, x3)]) (M' := q13.2) hX [(.iconst 0, 0, 0, 0)] (by decide +kernel) rfl trivial ?_
        (have k := key15; simp only [if_pos c17] at k; exact k)
      · refine zG.blk (pc' := 58) (l' := [some (2, x0), some (0, x1), some (0, x2), some (0, x3), some (0, x4)]) (st' := [(0, zshl 1 x4), (0, x3)]) (M' := q13.2) hX [(.iconst 1, 0, 0, 0), (.iload 4, 0, 0, 0), (.ishl, 0, 0, 0)] (by decide +kernel) rfl trivial ?_
        refine zG.goto (tgt := 62) (off := 4) hX (by decide +kernel) (by decide) ?_
        (have k := key15; simp only [if_neg c17] at k; exact k)
noncomputable def pX12_wrote (S : ZS) (M : ZM) (a0 : Int) (a1 : Int) (a2 : Int) : Option (Int × ZM) := if S.1 a0 = 12 then (pX12_isCell S M a0 a1).bind fun q1 => if q1.1 = 0 then (pX12_wrote_20 S q1.2) else ((pX12_in S q1.2 a2 1 60).bind fun q5 => if q5.1 = 0 then (pX12_wrote_20 S q5.2) else ((pX12_keepsAll S q5.2 a0).bind fun q8 => pX12_wrote_31 S zFU q8 a0 a1 a2 0 0)) else none
set_option maxHeartbeats 2000000 in
set_option maxRecDepth 20000 in
theorem pX12_wrote_go {C : ZC} {E : ZE} {S : ZS} {M : ZM} {a0 a1 a2 : Int} {q : (Int × ZM)} (hX : zCx C E 12 cX12_wrote 5 (some .int) false) (hRm : czR C = { frames := 8, cells := 0, slots := 0, locals := 202 }) (h : pX12_wrote  S M a0 a1 a2 = some q) : zG C E 5 S 0 0 (zQ C E 0 0 (some (0, q.1)) S q.2) 0 [some (2, a0), some (0, a1), some (0, a2), none, none] [] M := by
  unfold pX12_wrote at h
  refine zG.blk (pc' := 2) (l' := [some (2, a0), some (0, a1), some (0, a2), none, none]) (st' := [(0, a1), (2, a0)]) (M' := M) hX [(.aload_n 0, 0, 0, 0), (.iload_n 1, 0, 0, 0)] (by decide +kernel) rfl trivial ?_
  obtain ⟨g3, h⟩ := zif h
  obtain ⟨q1, e2, h⟩ := zbd h
  refine zG.callV (b := a0) (av := [(0, a1)]) (st := []) (ci := 12) hX (pX12_isCell_ok e2) sv_12_345 rfl ⟨by decide, rfl⟩ g3 (by decide +kernel) (by rw [hRm]; exact ⟨Nat.le_of_ble_eq_true rfl, Nat.le_of_ble_eq_true rfl⟩) (by rw [hRm]; exact ⟨Nat.le_of_ble_eq_true rfl, Nat.le_of_ble_eq_true rfl⟩) (Nat.le_of_ble_eq_true rfl) ?_
  show zG C E 5 S 0 0 _ 5 [some (2, a0), some (0, a1), some (0, a2), none, none] [(0, q1.1)] q1.2
  refine zG.if_eq (tgt := 20) (off := 15) hX (by decide +kernel) (by decide) (fun c4 => ?_) (fun c4 => ?_)
  · have h := zip c4 h
    exact zG.wk [false, false, false, true, true] (pX12_wrote_20_ok hX hRm h)
  · have h := zin c4 h
    refine zG.blk (pc' := 14) (l' := [some (2, a0), some (0, a1), some (0, a2), none, none]) (st' := [(1, 60), (1, 1), (1, a2)]) (M' := q1.2) hX [(.iload_n 2, 0, 0, 0), (.i2l, 0, 0, 0), (.lconst 1, 1, 0, 0), (.ldc2_w 440, 60, 0, 0)] (by decide +kernel) rfl trivial ?_
    obtain ⟨q5, e6, h⟩ := zbd h
    refine zG.callS (av := [(1, a2), (1, 1), (1, 60)]) (st := []) hX (pX12_in_ok e6) ss_12_138 rfl (by decide +kernel) (by rw [hRm]; exact ⟨Nat.le_of_ble_eq_true rfl, Nat.le_of_ble_eq_true rfl⟩) (by rw [hRm]; exact ⟨Nat.le_of_ble_eq_true rfl, Nat.le_of_ble_eq_true rfl⟩) (Nat.le_of_ble_eq_true rfl) ?_
    show zG C E 5 S 0 0 _ 17 [some (2, a0), some (0, a1), some (0, a2), none, none] [(0, q5.1)] q5.2
    refine zG.if_ne (tgt := 22) (off := 5) hX (by decide +kernel) (by decide) (fun c7 => ?_) (fun c7 => ?_)
    · have h := zin c7 h
      refine zG.blk (pc' := 25) (l' := [some (2, a0), some (0, a1), some (0, a2), some (0, 0), none]) (st' := [(2, a0)]) (M' := q5.2) hX [(.iconst 0, 0, 0, 0), (.istore_n 3, 0, 0, 0), (.aload_n 0, 0, 0, 0)] (by decide +kernel) rfl trivial ?_
      obtain ⟨q8, e9, h⟩ := zbd h
      refine zG.callV (b := a0) (av := []) (st := []) (ci := 12) hX (pX12_keepsAll_ok e9) sv_12_426 rfl ⟨by decide, rfl⟩ g3 (by decide +kernel) (by rw [hRm]; exact ⟨Nat.le_of_ble_eq_true rfl, Nat.le_of_ble_eq_true rfl⟩) (by rw [hRm]; exact ⟨Nat.le_of_ble_eq_true rfl, Nat.le_of_ble_eq_true rfl⟩) (Nat.le_of_ble_eq_true rfl) ?_
      show zG C E 5 S 0 0 _ 28 [some (2, a0), some (0, a1), some (0, a2), some (0, 0), none] [] q8
      refine zG.blk (pc' := 31) (l' := [some (2, a0), some (0, a1), some (0, a2), some (0, 0), some (0, 0)]) (st' := []) (M' := q8) hX [(.iconst 0, 0, 0, 0), (.istore 4, 0, 0, 0)] (by decide +kernel) rfl trivial ?_
      exact (pX12_wrote_31_ok hX hRm zFU _ _ _ _ _ _ h)
    · have h := zip c7 h
      exact zG.wk [false, false, false, true, true] (pX12_wrote_20_ok hX hRm h)
theorem pX12_wrote_ok {l : Launch} {E : ZE} {S : ZS} {M : ZM} {a0 a1 a2 : Int} {q : (Int × ZM)} (h : pX12_wrote S M a0 a1 a2 = some q) : zMet l yX12_wrote cX12_wrote 5 (some .int) 8 202 0 0 E S M [(2, a0), (0, a1), (0, a2)] (some (0, q.1)) S q.2 :=
  zMet.of (o := 12) (ini := false) (by decide +kernel) rfl (fun h => by cases h) (Nat.le_of_ble_eq_true rfl) (fun C hX hl hRm => by subst hl; exact pX12_wrote_go hX hRm h)
