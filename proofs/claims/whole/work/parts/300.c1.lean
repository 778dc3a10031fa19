noncomputable def pJ6_bitCount_0f7a4 (S : ZS) (M : ZM) (a0 : Int) : Option (Int × ZM) := zlet (w32 ((zand (w32 (a0 - (zand (zush a0 1) 1431655765))) 858993459) + (zand (zush (w32 (a0 - (zand (zush a0 1) 1431655765))) 2) 858993459))) fun x1 => zlet (w32 ((zand (w32 (x1 + (zush x1 4))) 252645135) + (zush (zand (w32 (x1 + (zush x1 4))) 252645135) 8))) fun x2 => some (zand (w32 (x2 + (zush x2 16))) 63, M)
set_option maxHeartbeats 2000000 in
set_option maxRecDepth 20000 in
theorem pJ6_bitCount_0f7a4_go {C : ZC} {E : ZE} {S : ZS} {M : ZM} {a0 : Int} {q : (Int × ZM)} (hX : zCx C E 15 cJ6_bitCount_0f7a4 1 (some .int) false) (hRm : czR C = { frames := 1, cells := 0, slots := 0, locals := 40 }) (h : pJ6_bitCount_0f7a4  S M a0 = some q) : zG C E 1 S 0 0 (zQ C E 0 0 (some (0, q.1)) S q.2) 0 [some (0, a0)] [] M := by
  unfold pJ6_bitCount_0f7a4 at h
  refine zG.blk (pc' := 24) (l' := [some (0, w32 ((zand (w32 (a0 - (zand (zush a0 1) 1431655765))) 858993459) + (zand (zush (w32 (a0 - (zand (zush a0 1) 1431655765))) 2) 858993459)))]) (st' := []) (M' := M) hX [(.iload_n 0, 0, 0, 0), (.iload_n 0, 0, 0, 0), (.iconst 1, 0, 0, 0), (.iushr, 0, 0, 0), (.ldc_w 265, 1431655765, 0, 0), (.iand, 0, 0, 0), (.isub, 0, 0, 0), (.istore_n 0, 0, 0, 0), (.iload_n 0, 0, 0, 0), (.ldc_w 266, 858993459, 0, 0), (.iand, 0, 0, 0), (.iload_n 0, 0, 0, 0), (.iconst 2, 0, 0, 0), (.iushr, 0, 0, 0), (.ldc_w 266, 858993459, 0, 0), (.iand, 0, 0, 0), (.iadd, 0, 0, 0), (.istore_n 0, 0, 0, 0)] (by decide +kernel) rfl trivial ?_
  generalize w32 ((zand (w32 (a0 - (zand (zush a0 1) 1431655765))) 858993459) + (zand (zush (w32 (a0 - (zand (zush a0 1) 1431655765))) 2) 858993459)) = x1 at h ⊢
  have h := zlt h
  refine zG.blk (pc' := 41) (l' := [some (0, w32 ((zand (w32 (x1 + (zush x1 4))) 252645135) + (zush (zand (w32 (x1 + (zush x1 4))) 252645135) 8)))]) (st' := []) (M' := M) hX [(.iload_n 0, 0, 0, 0), (.iload_n 0, 0, 0, 0), (.iconst 4, 0, 0, 0), (.iushr, 0, 0, 0), (.iadd, 0, 0, 0), (.ldc_w 267, 252645135, 0, 0), (.iand, 0, 0, 0), (.istore_n 0, 0, 0, 0), (.iload_n 0, 0, 0, 0), (.iload_n 0, 0, 0, 0), (.bipush 8, 0, 0, 0), (.iushr, 0, 0, 0), (.iadd, 0, 0, 0), (.istore_n 0, 0, 0, 0)] (by decide +kernel) rfl trivial ?_
  generalize w32 ((zand (w32 (x1 + (zush x1 4))) 252645135) + (zush (zand (w32 (x1 + (zush x1 4))) 252645135) 8)) = x2 at h ⊢
  have h := zlt h
  refine zG.blk (pc' := 52) (l' := [some (0, w32 (x2 + (zush x2 16)))]) (st' := [(0, zand (w32 (x2 + (zush x2 16))) 63)]) (M' := M) hX [(.iload_n 0, 0, 0, 0), (.iload_n 0, 0, 0, 0), (.bipush 16, 0, 0, 0), (.iushr, 0, 0, 0), (.iadd, 0, 0, 0), (.istore_n 0, 0, 0, 0), (.iload_n 0, 0, 0, 0), (.bipush 63, 0, 0, 0), (.iand, 0, 0, 0)] (by decide +kernel) rfl trivial ?_
  cases h
  exact zG.iret hX (by decide +kernel)
theorem pJ6_bitCount_0f7a4_ok {l : Launch} {E : ZE} {S : ZS} {M : ZM} {a0 : Int} {q : (Int × ZM)} (h : pJ6_bitCount_0f7a4 S M a0 = some q) : zMet l yJ6_bitCount_0f7a4 cJ6_bitCount_0f7a4 1 (some .int) 1 40 0 0 E S M [(0, a0)] (some (0, q.1)) S q.2 :=
  zMet.of (o := 15) (ini := false) (by decide +kernel) rfl (fun h => by cases h) (Nat.le_of_ble_eq_true rfl) (fun C hX hl hRm => by subst hl; exact pJ6_bitCount_0f7a4_go hX hRm h)
noncomputable def pJ7_fill_53178_5 (S : ZS) : Nat → ZM → Int → Int → Int → Int → Option ZM
  | 0 => fun _ _ _ _ _ => none
  | n + 1 => fun M x0 x1 x2 x3 => if x3 ≤ x2 then (some M) else (if S.1 x0 = 100 ∧ (0 : Int) ≤ x2 ∧ x2 < S.2.1 x0 then zlet (upM M x0 x2 x1) fun M4 => pJ7_fill_53178_5 S n M4 x0 x1 (w32 (x2 + 1)) x3 else none)
set_option maxHeartbeats 2000000 in
set_option maxRecDepth 20000 in
theorem pJ7_fill_53178_5_ok {C : ZC} {E : ZE} {S : ZS} {q : ZM} (hX : zCx C E 14 cJ7_fill_53178 4 none false) (hRm : czR C = { frames := 1, cells := 0, slots := 0, locals := 40 }) : ∀ (n : Nat) (M : ZM) (x0 : Int) (x1 : Int) (x2 : Int) (x3 : Int), pJ7_fill_53178_5 S n M x0 x1 x2 x3 = some q → zG C E 4 S 0 0 (zQ C E 0 0 none S q) 5 [some (2, x0), some (0, x1), some (0, x2), some (0, x3)] [] M := by
  intro n
  induction n with
  | zero => intro M x0 x1 x2 x3 h; cases h
  | succ n ih =>
    intro M x0 x1 x2 x3 h
    unfold pJ7_fill_53178_5 at h
    refine zG.blk (pc' := 7) (l' := [some (2, x0), some (0, x1), some (0, x2), some (0, x3)]) (st' := [(0, x3), (0, x2)]) (M' := M) hX [(.iload_n 2, 0, 0, 0), (.iload_n 3, 0, 0, 0)] (by decide +kernel) rfl trivial ?_
    refine zG.icmp_ge (tgt := 20) (off := 13) hX (by decide +kernel) (by decide) (fun c2 => ?_) (fun c2 => ?_)
    · have h := zip c2 h
      cases h
      exact zG.vret hX (by decide +kernel)
    · have h := zin c2 h
      obtain ⟨g3, h⟩ := zif h
      refine zG.blk (pc' := 14) (l' := [some (2, x0), some (0, x1), some (0, x2), some (0, x3)]) (st' := []) (M' := (upM M x0 x2 x1)) hX [(.aload_n 0, 0, 0, 0), (.iload_n 2, 0, 0, 0), (.iload_n 1, 0, 0, 0), (.iastore, 0, 0, 0)] (by decide +kernel) rfl (And.intro g3 trivial) ?_
      generalize upM M x0 x2 x1 = M4 at h ⊢
      have h := zlt h
      refine zG.blk (pc' := 17) (l' := [some (2, x0), some (0, x1), some (0, w32 (x2 + 1)), some (0, x3)]) (st' := []) (M' := M4) hX [(.iinc 2 1, 0, 0, 0)] (by decide +kernel) rfl trivial ?_
      refine zG.goto (tgt := 5) (off := (-12)) hX (by decide +kernel) (by decide) ?_
      exact ih _ _ _ _ _ h
noncomputable def pJ7_fill_53178 (S : ZS) (M : ZM) (a0 : Int) (a1 : Int) : Option ZM := if S.1 a0 = 100 then pJ7_fill_53178_5 S zFU M a0 a1 0 (S.2.1 a0) else none
set_option maxHeartbeats 2000000 in
set_option maxRecDepth 20000 in
theorem pJ7_fill_53178_go {C : ZC} {E : ZE} {S : ZS} {M : ZM} {a0 a1 : Int} {q : ZM} (hX : zCx C E 14 cJ7_fill_53178 4 none false) (hRm : czR C = { frames := 1, cells := 0, slots := 0, locals := 40 }) (h : pJ7_fill_53178  S M a0 a1 = some q) : zG C E 4 S 0 0 (zQ C E 0 0 none S q) 0 [some (2, a0), some (0, a1), none, none] [] M := by
  unfold pJ7_fill_53178 at h
  obtain ⟨g1, h⟩ := zif h
  refine zG.blk (pc' := 5) (l' := [some (2, a0), some (0, a1), some (0, 0), some (0, S.2.1 a0)]) (st' := []) (M' := M) hX [(.iconst 0, 0, 0, 0), (.istore_n 2, 0, 0, 0), (.aload_n 0, 0, 0, 0), (.arraylength, 100, 0, 0), (.istore_n 3, 0, 0, 0)] (by decide +kernel) rfl (And.intro g1 trivial) ?_
  exact (pJ7_fill_53178_5_ok hX hRm zFU _ _ _ _ _ h)
theorem pJ7_fill_53178_ok {l : Launch} {E : ZE} {S : ZS} {M : ZM} {a0 a1 : Int} {q : ZM} (h : pJ7_fill_53178 S M a0 a1 = some q) : zMet l yJ7_fill_53178 cJ7_fill_53178 4 none 1 40 0 0 E S M [(2, a0), (0, a1)] (none) S q :=
  zMet.of (o := 14) (ini := false) (by decide +kernel) rfl (fun h => by cases h) (Nat.le_of_ble_eq_true rfl) (fun C hX hl hRm => by subst hl; exact pJ7_fill_53178_go hX hRm h)
noncomputable def pX0_fadeStrokes_41 (S : ZS) (k13 : ZM → Int → Int → Int → Int → Option ZM) (M : ZM) (x1 : Int) (x2 : Int) (x3 : Int) (x4 : Int) : Option ZM := k13 M x1 x2 x3 (w32 (x4 + 1))
set_option maxHeartbeats 2000000 in
set_option maxRecDepth 20000 in
theorem pX0_fadeStrokes_41_ok {C : ZC} {E : ZE} {S : ZS} {k13 : ZM → Int → Int → Int → Int → Option ZM} {q : ZM} (hX : zCx C E 0 cX0_fadeStrokes 5 none false) (hRm : czR C = { frames := 1, cells := 0, slots := 0, locals := 40 }) (hk13 : ∀ M x1 x2 x3 x4, k13 M x1 x2 x3 x4 = some q → zG C E 5 S 0 0 (zQ C E 0 0 none S q) 13 [none, some (2, x1), some (2, x2), some (0, x3), some (0, x4)] [] M) {M : ZM} {x1 : Int} {x2 : Int} {x3 : Int} {x4 : Int} (h : pX0_fadeStrokes_41 S k13 M x1 x2 x3 x4 = some q) : zG C E 5 S 0 0 (zQ C E 0 0 none S q) 41 [none, some (2, x1), some (2, x2), some (0, x3), some (0, x4)] [] M := by
  unfold pX0_fadeStrokes_41 at h
  refine zG.blk (pc' := 44) (l' := [none, some (2, x1), some (2, x2), some (0, x3), some (0, w32 (x4 + 1))]) (st' := []) (M' := M) hX [(.iinc 4 1, 0, 0, 0)] (by decide +kernel) rfl trivial ?_
  refine zG.goto (tgt := 13) (off := (-31)) hX (by decide +kernel) (by decide) ?_
  exact (hk13 _ _ _ _ _ h)
noncomputable def pX0_fadeStrokes_13 (S : ZS) : Nat → ZM → Int → Int → Int → Int → Option ZM
  | 0 => fun _ _ _ _ _ => none
  | n + 1 => fun M x1 x2 x3 x4 => if S.1 x1 = 9 then if M x1 1 ≤ x4 then (some M) else (if S.1 x2 = 6 then if S.1 (M x2 3) = 100 ∧ (0 : Int) ≤ x4 ∧ x4 < S.2.1 (M x2 3) then if x3 ≤ M (M x2 3) x4 then (pX0_fadeStrokes_41 S (pX0_fadeStrokes_13 S n) M x1 x2 x3 x4) else (if S.1 (M x2 2) = 100 ∧ (0 : Int) ≤ x4 ∧ x4 < S.2.1 (M x2 2) then zlet (upM M (M x2 2) x4 (-1)) fun M9 => pX0_fadeStrokes_41 S (pX0_fadeStrokes_13 S n) M9 x1 x2 x3 x4 else none) else none else none) else none
set_option maxHeartbeats 2000000 in
set_option maxRecDepth 20000 in
theorem pX0_fadeStrokes_13_ok {C : ZC} {E : ZE} {S : ZS} {q : ZM} (hX : zCx C E 0 cX0_fadeStrokes 5 none false) (hRm : czR C = { frames := 1, cells := 0, slots := 0, locals := 40 }) : ∀ (n : Nat) (M : ZM) (x1 : Int) (x2 : Int) (x3 : Int) (x4 : Int), pX0_fadeStrokes_13 S n M x1 x2 x3 x4 = some q → zG C E 5 S 0 0 (zQ C E 0 0 none S q) 13 [none, some (2, x1), some (2, x2), some (0, x3), some (0, x4)] [] M := by
  intro n
  induction n with
  | zero => intro M x1 x2 x3 x4 h; cases h
  | succ n ih =>
    intro M x1 x2 x3 x4 h
    unfold pX0_fadeStrokes_13 at h
    obtain ⟨g3, h⟩ := zif h
    refine zG.blk (pc' := 19) (l' := [none, some (2, x1), some (2, x2), some (0, x3), some (0, x4)]) (st' := [(0, M x1 1), (0, x4)]) (M' := M) hX [(.iload 4, 0, 0, 0), (.aload_n 1, 0, 0, 0), (.getfield 87, 9, 1, 0)] (by decide +kernel) rfl (And.intro g3 trivial) ?_
    refine zG.icmp_ge (tgt := 47) (off := 28) hX (by decide +kernel) (by decide) (fun c4 => ?_) (fun c4 => ?_)
    · have h := zip c4 h
      cases h
      exact zG.vret hX (by decide +kernel)
    · have h := zin c4 h
      obtain ⟨g5, h⟩ := zif h
      obtain ⟨g6, h⟩ := zif h
      refine zG.blk (pc' := 30) (l' := [none, some (2, x1), some (2, x2), some (0, x3), some (0, x4)]) (st' := [(0, x3), (0, M (M x2 3) x4)]) (M' := M) hX [(.aload_n 2, 0, 0, 0), (.getfield 116, 6, 3, 2), (.iload 4, 0, 0, 0), (.iaload, 0, 0, 0), (.iload_n 3, 0, 0, 0)] (by decide +kernel) rfl (And.intro g5 (And.intro g6 trivial)) ?_
      refine zG.icmp_ge (tgt := 41) (off := 11) hX (by decide +kernel) (by decide) (fun c7 => ?_) (fun c7 => ?_)
      · have h := zip c7 h
        exact (pX0_fadeStrokes_41_ok hX hRm ih h)
      · have h := zin c7 h
        obtain ⟨g8, h⟩ := zif h
        refine zG.blk (pc' := 41) (l' := [none, some (2, x1), some (2, x2), some (0, x3), some (0, x4)]) (st' := []) (M' := (upM M (M x2 2) x4 (-1))) hX [(.aload_n 2, 0, 0, 0), (.getfield 90, 6, 2, 2), (.iload 4, 0, 0, 0), (.iconst (-1), 0, 0, 0), (.iastore, 0, 0, 0)] (by decide +kernel) rfl (And.intro g5 (And.intro g8 trivial)) ?_
        generalize upM M (M x2 2) x4 (-1) = M9 at h ⊢
        have h := zlt h
        exact (pX0_fadeStrokes_41_ok hX hRm ih h)
noncomputable def pX0_fadeStrokes (S : ZS) (M : ZM) (a0 : Int) (a1 : Int) (a2 : Int) : Option ZM := if S.1 a2 = 6 then if S.1 a1 = 9 then pX0_fadeStrokes_13 S zFU M a1 a2 (w32 ((M a2 5) - (M a1 2))) 0 else none else none
set_option maxHeartbeats 2000000 in
set_option maxRecDepth 20000 in
theorem pX0_fadeStrokes_go {C : ZC} {E : ZE} {S : ZS} {M : ZM} {a0 a1 a2 : Int} {q : ZM} (hX : zCx C E 0 cX0_fadeStrokes 5 none false) (hRm : czR C = { frames := 1, cells := 0, slots := 0, locals := 40 }) (h : pX0_fadeStrokes  S M a0 a1 a2 = some q) : zG C E 5 S 0 0 (zQ C E 0 0 none S q) 0 [some (2, a0), some (2, a1), some (2, a2), none, none] [] M := by
  unfold pX0_fadeStrokes at h
  obtain ⟨g1, h⟩ := zif h
  obtain ⟨g2, h⟩ := zif h
  refine zG.blk (pc' := 13) (l' := [some (2, a0), some (2, a1), some (2, a2), some (0, w32 ((M a2 5) - (M a1 2))), some (0, 0)]) (st' := []) (M' := M) hX [(.aload_n 2, 0, 0, 0), (.getfield 49, 6, 5, 0), (.aload_n 1, 0, 0, 0), (.getfield 122, 9, 2, 0), (.isub, 0, 0, 0), (.istore_n 3, 0, 0, 0), (.iconst 0, 0, 0, 0), (.istore 4, 0, 0, 0)] (by decide +kernel) rfl (And.intro g1 (And.intro g2 trivial)) ?_
  exact zG.wk [false, true, true, true, true] (pX0_fadeStrokes_13_ok hX hRm zFU _ _ _ _ _ h)
theorem pX0_fadeStrokes_ok {l : Launch} {E : ZE} {S : ZS} {M : ZM} {a0 a1 a2 : Int} {q : ZM} (h : pX0_fadeStrokes S M a0 a1 a2 = some q) : zMet l yX0_fadeStrokes cX0_fadeStrokes 5 none 1 40 0 0 E S M [(2, a0), (2, a1), (2, a2)] (none) S q :=
  zMet.of (o := 0) (ini := false) (by decide +kernel) rfl (fun h => by cases h) (Nat.le_of_ble_eq_true rfl) (fun C hX hl hRm => by subst hl; exact pX0_fadeStrokes_go hX hRm h)
noncomputable def pX0_writersAt_45 (S : ZS) (k6 : ZM → Int → Int → Int → Int → Int → Int → Option (Int × ZM)) (M : ZM) (x0 : Int) (x1 : Int) (x2 : Int) (x3 : Int) (x4 : Int) (x5 : Int) : Option (Int × ZM) := k6 M x0 x1 x2 x3 x4 (w32 (x5 + 1))
set_option maxHeartbeats 2000000 in
set_option maxRecDepth 20000 in
theorem pX0_writersAt_45_ok {C : ZC} {E : ZE} {S : ZS} {k6 : ZM → Int → Int → Int → Int → Int → Int → Option (Int × ZM)} {q : (Int × ZM)} (hX : zCx C E 0 cX0_writersAt 6 (some .int) false) (hRm : czR C = { frames := 1, cells := 0, slots := 0, locals := 40 }) (hk6 : ∀ M x0 x1 x2 x3 x4 x5, k6 M x0 x1 x2 x3 x4 x5 = some q → zG C E 6 S 0 0 (zQ C E 0 0 (some (0, q.1)) S q.2) 6 [some (2, x0), some (2, x1), some (0, x2), some (0, x3), some (0, x4), some (0, x5)] [] M) {M : ZM} {x0 : Int} {x1 : Int} {x2 : Int} {x3 : Int} {x4 : Int} {x5 : Int} (h : pX0_writersAt_45 S k6 M x0 x1 x2 x3 x4 x5 = some q) : zG C E 6 S 0 0 (zQ C E 0 0 (some (0, q.1)) S q.2) 45 [some (2, x0), some (2, x1), some (0, x2), some (0, x3), some (0, x4), some (0, x5)] [] M := by
  unfold pX0_writersAt_45 at h
  refine zG.blk (pc' := 48) (l' := [some (2, x0), some (2, x1), some (0, x2), some (0, x3), some (0, x4), some (0, w32 (x5 + 1))]) (st' := []) (M' := M) hX [(.iinc 5 1, 0, 0, 0)] (by decide +kernel) rfl trivial ?_
  refine zG.goto (tgt := 6) (off := (-42)) hX (by decide +kernel) (by decide) ?_
  exact (hk6 _ _ _ _ _ _ _ h)
noncomputable def pX0_writersAt_6 (S : ZS) : Nat → ZM → Int → Int → Int → Int → Int → Int → Option (Int × ZM)
  | 0 => fun _ _ _ _ _ _ _ => none
  | n + 1 => fun M x0 x1 x2 x3 x4 x5 => if S.1 x0 = 9 then if M x0 3 ≤ x5 then (some (x4, M)) else (if zand (zshr x2 x5) 1 = 1 then (if S.1 x1 = 6 then if S.1 (M x1 0) = 100 ∧ (0 : Int) ≤ x5 ∧ x5 < S.2.1 (M x1 0) then if M (M x1 0) x5 = x3 then (pX0_writersAt_45 S (pX0_writersAt_6 S n) M x0 x1 x2 x3 (zor x4 (zshl 1 x5)) x5) else (pX0_writersAt_45 S (pX0_writersAt_6 S n) M x0 x1 x2 x3 x4 x5) else none else none) else (pX0_writersAt_45 S (pX0_writersAt_6 S n) M x0 x1 x2 x3 x4 x5)) else none
set_option maxHeartbeats 2000000 in
set_option maxRecDepth 20000 in
theorem pX0_writersAt_6_ok {C : ZC} {E : ZE} {S : ZS} {q : (Int × ZM)} (hX : zCx C E 0 cX0_writersAt 6 (some .int) false) (hRm : czR C = { frames := 1, cells := 0, slots := 0, locals := 40 }) : ∀ (n : Nat) (M : ZM) (x0 : Int) (x1 : Int) (x2 : Int) (x3 : Int) (x4 : Int) (x5 : Int), pX0_writersAt_6 S n M x0 x1 x2 x3 x4 x5 = some q → zG C E 6 S 0 0 (zQ C E 0 0 (some (0, q.1)) S q.2) 6 [some (2, x0), some (2, x1), some (0, x2), some (0, x3), some (0, x4), some (0, x5)] [] M := by
  intro n
  induction n with
  | zero => intro M x0 x1 x2 x3 x4 x5 h; cases h
  | succ n ih =>
    intro M x0 x1 x2 x3 x4 x5 h
    unfold pX0_writersAt_6 at h
    obtain ⟨g1, h⟩ := zif h
    refine zG.blk (pc' := 12) (l' := [some (2, x0), some (2, x1), some (0, x2), some (0, x3), some (0, x4), some (0, x5)]) (st' := [(0, M x0 3), (0, x5)]) (M' := M) hX [(.iload 5, 0, 0, 0), (.aload_n 0, 0, 0, 0), (.getfield 58, 9, 3, 0)] (by decide +kernel) rfl (And.intro g1 trivial) ?_
    refine zG.icmp_ge (tgt := 51) (off := 39) hX (by decide +kernel) (by decide) (fun c2 => ?_) (fun c2 => ?_)
    · have h := zip c2 h
      refine zG.blk (pc' := 53) (l' := [some (2, x0), some (2, x1), some (0, x2), some (0, x3), some (0, x4), some (0, x5)]) (st' := [(0, x4)]) (M' := M) hX [(.iload 4, 0, 0, 0)] (by decide +kernel) rfl trivial ?_
      cases h
      exact zG.iret hX (by decide +kernel)
    · have h := zin c2 h
      refine zG.blk (pc' := 22) (l' := [some (2, x0), some (2, x1), some (0, x2), some (0, x3), some (0, x4), some (0, x5)]) (st' := [(0, 1), (0, zand (zshr x2 x5) 1)]) (M' := M) hX [(.iload_n 2, 0, 0, 0), (.iload 5, 0, 0, 0), (.ishr, 0, 0, 0), (.iconst 1, 0, 0, 0), (.iand, 0, 0, 0), (.iconst 1, 0, 0, 0)] (by decide +kernel) rfl trivial ?_
      refine zG.icmp_ne (tgt := 45) (off := 23) hX (by decide +kernel) (by decide) (fun c3 => ?_) (fun c3 => ?_)
      · have h := zin c3 h
        exact (pX0_writersAt_45_ok hX hRm ih h)
      · have h := zip c3 h
        obtain ⟨g4, h⟩ := zif h
        obtain ⟨g5, h⟩ := zif h
        refine zG.blk (pc' := 33) (l' := [some (2, x0), some (2, x1), some (0, x2), some (0, x3), some (0, x4), some (0, x5)]) (st' := [(0, x3), (0, M (M x1 0) x5)]) (M' := M) hX [(.aload_n 1, 0, 0, 0), (.getfield 93, 6, 0, 2), (.iload 5, 0, 0, 0), (.iaload, 0, 0, 0), (.iload_n 3, 0, 0, 0)] (by decide +kernel) rfl (And.intro g4 (And.intro g5 trivial)) ?_
        refine zG.icmp_ne (tgt := 45) (off := 12) hX (by decide +kernel) (by decide) (fun c6 => ?_) (fun c6 => ?_)
        · have h := zin c6 h
          exact (pX0_writersAt_45_ok hX hRm ih h)
        · have h := zip c6 h
          refine zG.blk (pc' := 45) (l' := [some (2, x0), some (2, x1), some (0, x2), some (0, x3), some (0, zor x4 (zshl 1 x5)), some (0, x5)]) (st' := []) (M' := M) hX [(.iload 4, 0, 0, 0), (.iconst 1, 0, 0, 0), (.iload 5, 0, 0, 0), (.ishl, 0, 0, 0), (.ior, 0, 0, 0), (.istore 4, 0, 0, 0)] (by decide +kernel) rfl trivial ?_
          exact (pX0_writersAt_45_ok hX hRm ih h)
noncomputable def pX0_writersAt (S : ZS) (M : ZM) (a0 : Int) (a1 : Int) (a2 : Int) (a3 : Int) : Option (Int × ZM) := pX0_writersAt_6 S zFU M a0 a1 a2 a3 0 0
set_option maxHeartbeats 2000000 in
set_option maxRecDepth 20000 in
theorem pX0_writersAt_go {C : ZC} {E : ZE} {S : ZS} {M : ZM} {a0 a1 a2 a3 : Int} {q : (Int × ZM)} (hX : zCx C E 0 cX0_writersAt 6 (some .int) false) (hRm : czR C = { frames := 1, cells := 0, slots := 0, locals := 40 }) (h : pX0_writersAt  S M a0 a1 a2 a3 = some q) : zG C E 6 S 0 0 (zQ C E 0 0 (some (0, q.1)) S q.2) 0 [some (2, a0), some (2, a1), some (0, a2), some (0, a3), none, none] [] M := by
  unfold pX0_writersAt at h
  refine zG.blk (pc' := 6) (l' := [some (2, a0), some (2, a1), some (0, a2), some (0, a3), some (0, 0), some (0, 0)]) (st' := []) (M' := M) hX [(.iconst 0, 0, 0, 0), (.istore 4, 0, 0, 0), (.iconst 0, 0, 0, 0), (.istore 5, 0, 0, 0)] (by decide +kernel) rfl trivial ?_
  exact (pX0_writersAt_6_ok hX hRm zFU _ _ _ _ _ _ _ h)
theorem pX0_writersAt_ok {l : Launch} {E : ZE} {S : ZS} {M : ZM} {a0 a1 a2 a3 : Int} {q : (Int × ZM)} (h : pX0_writersAt S M a0 a1 a2 a3 = some q) : zMet l yX0_writersAt cX0_writersAt 6 (some .int) 1 40 0 0 E S M [(2, a0), (2, a1), (0, a2), (0, a3)] (some (0, q.1)) S q.2 :=
  zMet.of (o := 0) (ini := false) (by decide +kernel) rfl (fun h => by cases h) (Nat.le_of_ble_eq_true rfl) (fun C hX hl hRm => by subst hl; exact pX0_writersAt_go hX hRm h)
noncomputable def pX0_leaveStrokes_103 (S : ZS) (k3 : ZM → Int → Int → Int → Int → Option ZM) (M : ZM) (x1 : Int) (x2 : Int) (x3 : Int) (x4 : Int) : Option ZM := k3 M x1 x2 x3 (w32 (x4 + 1))
set_option maxHeartbeats 2000000 in
set_option maxRecDepth 20000 in
theorem pX0_leaveStrokes_103_ok {C : ZC} {E : ZE} {S : ZS} {k3 : ZM → Int → Int → Int → Int → Option ZM} {q : ZM} (hX : zCx C E 0 cX0_leaveStrokes 7 none false) (hRm : czR C = { frames := 2, cells := 0, slots := 0, locals := 65 }) (hk3 : ∀ M x1 x2 x3 x4, k3 M x1 x2 x3 x4 = some q → zG C E 7 S 0 0 (zQ C E 0 0 none S q) 3 [none, some (2, x1), some (2, x2), some (0, x3), some (0, x4), none, none] [] M) {M : ZM} {x1 : Int} {x2 : Int} {x3 : Int} {x4 : Int} (h : pX0_leaveStrokes_103 S k3 M x1 x2 x3 x4 = some q) : zG C E 7 S 0 0 (zQ C E 0 0 none S q) 103 [none, some (2, x1), some (2, x2), some (0, x3), some (0, x4), none, none] [] M := by
  unfold pX0_leaveStrokes_103 at h
  refine zG.blk (pc' := 106) (l' := [none, some (2, x1), some (2, x2), some (0, x3), some (0, w32 (x4 + 1)), none, none]) (st' := []) (M' := M) hX [(.iinc 4 1, 0, 0, 0)] (by decide +kernel) rfl trivial ?_
  refine zG.goto (tgt := 3) (off := (-103)) hX (by decide +kernel) (by decide) ?_
  exact (hk3 _ _ _ _ _ h)
theorem ss_0_112 : zSS 0 112 yX0_writersAt cX0_writersAt 6 (some .int) 4 := ⟨⟨gt_at 857 (by decide +kernel) rfl, gt_at 858 (by decide +kernel) rfl, gt_at 113 (by decide +kernel) rfl, gt_at 859 (by decide +kernel) rfl⟩, by decide +kernel, by decide +kernel, by decide +kernel⟩
noncomputable def pX0_leaveStrokes_3 (S : ZS) : Nat → ZM → Int → Int → Int → Int → Option ZM
  | 0 => fun _ _ _ _ _ => none
  | n + 1 => fun M x1 x2 x3 x4 => if S.1 x1 = 9 then if M x1 3 ≤ x4 then (some M) else (if zand (zshr x3 x4) 1 = 1 then (if S.1 x2 = 6 then if S.1 (M x2 0) = 100 ∧ (0 : Int) ≤ x4 ∧ x4 < S.2.1 (M x2 0) then (pX0_writersAt S M x1 x2 x3 (M (M x2 0) x4)).bind fun q6 => if q6.1 = zshl 1 x4 then (if S.1 (q6.2 x2 2) = 100 ∧ (0 : Int) ≤ M (M x2 0) x4 ∧ M (M x2 0) x4 < S.2.1 (q6.2 x2 2) then zlet (upM q6.2 (q6.2 x2 2) (M (M x2 0) x4) x4) fun M14 => if S.1 (M14 x2 3) = 100 ∧ (0 : Int) ≤ M (M x2 0) x4 ∧ M (M x2 0) x4 < S.2.1 (M14 x2 3) then zlet (upM M14 (M14 x2 3) (M (M x2 0) x4) (M14 x2 5)) fun M16 => pX0_leaveStrokes_103 S (pX0_leaveStrokes_3 S n) M16 x1 x2 x3 x4 else none else none) else (if S.1 (q6.2 x2 2) = 100 ∧ (0 : Int) ≤ M (M x2 0) x4 ∧ M (M x2 0) x4 < S.2.1 (q6.2 x2 2) then zlet (upM q6.2 (q6.2 x2 2) (M (M x2 0) x4) (-1)) fun M10 => if zand q6.1 (w32 ((zshl 1 x4) - 1)) = 0 then (zlet (upM M10 x2 6 (w32 ((M10 x2 6) + 1))) fun M12 => pX0_leaveStrokes_103 S (pX0_leaveStrokes_3 S n) M12 x1 x2 x3 x4) else (pX0_leaveStrokes_103 S (pX0_leaveStrokes_3 S n) M10 x1 x2 x3 x4) else none) else none else none) else (pX0_leaveStrokes_103 S (pX0_leaveStrokes_3 S n) M x1 x2 x3 x4)) else none
set_option maxHeartbeats 2000000 in
set_option maxRecDepth 20000 in
theorem pX0_leaveStrokes_3_ok {C : ZC} {E : ZE} {S : ZS} {q : ZM} (hX : zCx C E 0 cX0_leaveStrokes 7 none false) (hRm : czR C = { frames := 2, cells := 0, slots := 0, locals := 65 }) : ∀ (n : Nat) (M : ZM) (x1 : Int) (x2 : Int) (x3 : Int) (x4 : Int), pX0_leaveStrokes_3 S n M x1 x2 x3 x4 = some q → zG C E 7 S 0 0 (zQ C E 0 0 none S q) 3 [none, some (2, x1), some (2, x2), some (0, x3), some (0, x4), none, none] [] M := by
  intro n
  induction n with
  | zero => intro M x1 x2 x3 x4 h; cases h
  | succ n ih =>
    intro M x1 x2 x3 x4 h
    unfold pX0_leaveStrokes_3 at h
    obtain ⟨g1, h⟩ := zif h
    refine zG.blk (pc' := 9) (l' := [none, some (2, x1), some (2, x2), some (0, x3), some (0, x4), none, none]) (st' := [(0, M x1 3), (0, x4)]) (M' := M) hX [(.iload 4, 0, 0, 0), (.aload_n 1, 0, 0, 0), (.getfield 58, 9, 3, 0)] (by decide +kernel) rfl (And.intro g1 trivial) ?_
    refine zG.icmp_ge (tgt := 109) (off := 100) hX (by decide +kernel) (by decide) (fun c2 => ?_) (fun c2 => ?_)
    · have h := zip c2 h
      cases h
      exact zG.vret hX (by decide +kernel)
    · have h := zin c2 h
      refine zG.blk (pc' := 19) (l' := [none, some (2, x1), some (2, x2), some (0, x3), some (0, x4), none, none]) (st' := [(0, 1), (0, zand (zshr x3 x4) 1)]) (M' := M) hX [(.iload_n 3, 0, 0, 0), (.iload 4, 0, 0, 0), (.ishr, 0, 0, 0), (.iconst 1, 0, 0, 0), (.iand, 0, 0, 0), (.iconst 1, 0, 0, 0)] (by decide +kernel) rfl trivial ?_
      refine zG.icmp_ne (tgt := 103) (off := 84) hX (by decide +kernel) (by decide) (fun c3 => ?_) (fun c3 => ?_)
      · have h := zin c3 h
        exact (pX0_leaveStrokes_103_ok hX hRm ih h)
      · have h := zip c3 h
        obtain ⟨g4, h⟩ := zif h
        obtain ⟨g5, h⟩ := zif h
        refine zG.blk (pc' := 36) (l' := [none, some (2, x1), some (2, x2), some (0, x3), some (0, x4), some (0, M (M x2 0) x4), none]) (st' := [(0, M (M x2 0) x4), (0, x3), (2, x2), (2, x1)]) (M' := M) hX [(.aload_n 2, 0, 0, 0), (.getfield 93, 6, 0, 2), (.iload 4, 0, 0, 0), (.iaload, 0, 0, 0), (.istore 5, 0, 0, 0), (.aload_n 1, 0, 0, 0), (.aload_n 2, 0, 0, 0), (.iload_n 3, 0, 0, 0), (.iload 5, 0, 0, 0)] (by decide +kernel) rfl (And.intro g4 (And.intro g5 trivial)) ?_
        obtain ⟨q6, e7, h⟩ := zbd h
        refine zG.callS (av := [(2, x1), (2, x2), (0, x3), (0, M (M x2 0) x4)]) (st := []) hX (pX0_writersAt_ok e7) ss_0_112 rfl (by decide +kernel) (by rw [hRm]; exact ⟨Nat.le_of_ble_eq_true rfl, Nat.le_of_ble_eq_true rfl⟩) (by rw [hRm]; exact ⟨Nat.le_of_ble_eq_true rfl, Nat.le_of_ble_eq_true rfl⟩) (Nat.le_of_ble_eq_true rfl) ?_
        show zG C E 7 S 0 0 _ 39 [none, some (2, x1), some (2, x2), some (0, x3), some (0, x4), some (0, M (M x2 0) x4), none] [(0, q6.1)] q6.2
        refine zG.blk (pc' := 47) (l' := [none, some (2, x1), some (2, x2), some (0, x3), some (0, x4), some (0, M (M x2 0) x4), some (0, q6.1)]) (st' := [(0, zshl 1 x4), (0, q6.1)]) (M' := q6.2) hX [(.istore 6, 0, 0, 0), (.iload 6, 0, 0, 0), (.iconst 1, 0, 0, 0), (.iload 4, 0, 0, 0), (.ishl, 0, 0, 0)] (by decide +kernel) rfl trivial ?_
        refine zG.icmp_ne (tgt := 73) (off := 26) hX (by decide +kernel) (by decide) (fun c8 => ?_) (fun c8 => ?_)
        · have h := zin c8 h
          obtain ⟨g9, h⟩ := zif h
          refine zG.blk (pc' := 81) (l' := [none, some (2, x1), some (2, x2), some (0, x3), some (0, x4), some (0, M (M x2 0) x4), some (0, q6.1)]) (st' := []) (M' := (upM q6.2 (q6.2 x2 2) (M (M x2 0) x4) (-1))) hX [(.aload_n 2, 0, 0, 0), (.getfield 90, 6, 2, 2), (.iload 5, 0, 0, 0), (.iconst (-1), 0, 0, 0), (.iastore, 0, 0, 0)] (by decide +kernel) rfl (And.intro g4 (And.intro g9 trivial)) ?_
          generalize upM q6.2 (q6.2 x2 2) (M (M x2 0) x4) (-1) = M10 at h ⊢
          have h := zlt h
          refine zG.blk (pc' := 90) (l' := [none, some (2, x1), some (2, x2), some (0, x3), some (0, x4), some (0, M (M x2 0) x4), some (0, q6.1)]) (st' := [(0, zand q6.1 (w32 ((zshl 1 x4) - 1)))]) (M' := M10) hX [(.iload 6, 0, 0, 0), (.iconst 1, 0, 0, 0), (.iload 4, 0, 0, 0), (.ishl, 0, 0, 0), (.iconst 1, 0, 0, 0), (.isub, 0, 0, 0), (.iand, 0, 0, 0)] (by decide +kernel) rfl trivial ?_
          refine zG.if_ne (tgt := 103) (off := 13) hX (by decide +kernel) (by decide) (fun c11 => ?_) (fun c11 => ?_)
          · have h := zin c11 h
            exact zG.wk [true, true, true, true, true, false, false] (pX0_leaveStrokes_103_ok hX hRm ih h)
          · have h := zip c11 h
            refine zG.blk (pc' := 103) (l' := [none, some (2, x1), some (2, x2), some (0, x3), some (0, x4), some (0, M (M x2 0) x4), some (0, q6.1)]) (st' := []) (M' := (upM M10 x2 6 (w32 ((M10 x2 6) + 1)))) hX [(.aload_n 2, 0, 0, 0), (.dup, 0, 0, 0), (.getfield 119, 6, 6, 0), (.iconst 1, 0, 0, 0), (.iadd, 0, 0, 0), (.putfield 119, 6, 6, 0)] (by decide +kernel) rfl (And.intro g4 (And.intro g4 trivial)) ?_
            generalize upM M10 x2 6 (w32 ((M10 x2 6) + 1)) = M12 at h ⊢
            have h := zlt h
            exact zG.wk [true, true, true, true, true, false, false] (pX0_leaveStrokes_103_ok hX hRm ih h)
        · have h := zip c8 h
          obtain ⟨g13, h⟩ := zif h
          refine zG.blk (pc' := 59) (l' := [none, some (2, x1), some (2, x2), some (0, x3), some (0, x4), some (0, M (M x2 0) x4), some (0, q6.1)]) (st' := []) (M' := (upM q6.2 (q6.2 x2 2) (M (M x2 0) x4) x4)) hX [(.aload_n 2, 0, 0, 0), (.getfield 90, 6, 2, 2), (.iload 5, 0, 0, 0), (.iload 4, 0, 0, 0), (.iastore, 0, 0, 0)] (by decide +kernel) rfl (And.intro g4 (And.intro g13 trivial)) ?_
          generalize upM q6.2 (q6.2 x2 2) (M (M x2 0) x4) x4 = M14 at h ⊢
          have h := zlt h
          obtain ⟨g15, h⟩ := zif h
          refine zG.blk (pc' := 70) (l' := [none, some (2, x1), some (2, x2), some (0, x3), some (0, x4), some (0, M (M x2 0) x4), some (0, q6.1)]) (st' := []) (M' := (upM M14 (M14 x2 3) (M (M x2 0) x4) (M14 x2 5))) hX [(.aload_n 2, 0, 0, 0), (.getfield 116, 6, 3, 2), (.iload 5, 0, 0, 0), (.aload_n 2, 0, 0, 0), (.getfield 49, 6, 5, 0), (.iastore, 0, 0, 0)] (by decide +kernel) rfl (And.intro g4 (And.intro g4 (And.intro g15 trivial))) ?_
          generalize upM M14 (M14 x2 3) (M (M x2 0) x4) (M14 x2 5) = M16 at h ⊢
          have h := zlt h
          refine zG.goto (tgt := 103) (off := 33) hX (by decide +kernel) (by decide) ?_
          exact zG.wk [true, true, true, true, true, false, false] (pX0_leaveStrokes_103_ok hX hRm ih h)
noncomputable def pX0_leaveStrokes (S : ZS) (M : ZM) (a0 : Int) (a1 : Int) (a2 : Int) (a3 : Int) : Option ZM := pX0_leaveStrokes_3 S zFU M a1 a2 a3 0
set_option maxHeartbeats 2000000 in
set_option maxRecDepth 20000 in
theorem pX0_leaveStrokes_go {C : ZC} {E : ZE} {S : ZS} {M : ZM} {a0 a1 a2 a3 : Int} {q : ZM} (hX : zCx C E 0 cX0_leaveStrokes 7 none false) (hRm : czR C = { frames := 2, cells := 0, slots := 0, locals := 65 }) (h : pX0_leaveStrokes  S M a0 a1 a2 a3 = some q) : zG C E 7 S 0 0 (zQ C E 0 0 none S q) 0 [some (2, a0), some (2, a1), some (2, a2), some (0, a3), none, none, none] [] M := by
  unfold pX0_leaveStrokes at h
  refine zG.blk (pc' := 3) (l' := [some (2, a0), some (2, a1), some (2, a2), some (0, a3), some (0, 0), none, none]) (st' := []) (M' := M) hX [(.iconst 0, 0, 0, 0), (.istore 4, 0, 0, 0)] (by decide +kernel) rfl trivial ?_
  exact zG.wk [false, true, true, true, true, true, true] (pX0_leaveStrokes_3_ok hX hRm zFU _ _ _ _ _ h)
theorem pX0_leaveStrokes_ok {l : Launch} {E : ZE} {S : ZS} {M : ZM} {a0 a1 a2 a3 : Int} {q : ZM} (h : pX0_leaveStrokes S M a0 a1 a2 a3 = some q) : zMet l yX0_leaveStrokes cX0_leaveStrokes 7 none 2 65 0 0 E S M [(2, a0), (2, a1), (2, a2), (0, a3)] (none) S q :=
  zMet.of (o := 0) (ini := false) (by decide +kernel) rfl (fun h => by cases h) (Nat.le_of_ble_eq_true rfl) (fun C hX hl hRm => by subst hl; exact pX0_leaveStrokes_go hX hRm h)
noncomputable def pX6_isStayed (S : ZS) (M : ZM) (a0 : Int) (a1 : Int) : Option (Int × ZM) := if S.1 a0 = 6 then some ((if zand (zshr (M a0 4) a1) 1 = 1 then (1 : Int) else 0), M) else none
set_option maxHeartbeats 2000000 in
set_option maxRecDepth 20000 in
theorem pX6_isStayed_go {C : ZC} {E : ZE} {S : ZS} {M : ZM} {a0 a1 : Int} {q : (Int × ZM)} (hX : zCx C E 6 cX6_isStayed 2 (some .boolean) false) (hRm : czR C = { frames := 1, cells := 0, slots := 0, locals := 40 }) (h : pX6_isStayed  S M a0 a1 = some q) : zG C E 2 S 0 0 (zQ C E 0 0 (some (0, q.1)) S q.2) 0 [some (2, a0), some (0, a1)] [] M := by
  unfold pX6_isStayed at h
  obtain ⟨g1, h⟩ := zif h
  refine zG.blk (pc' := 9) (l' := [some (2, a0), some (0, a1)]) (st' := [(0, 1), (0, zand (zshr (M a0 4) a1) 1)]) (M' := M) hX [(.aload_n 0, 0, 0, 0), (.getfield 40, 6, 4, 0), (.iload_n 1, 0, 0, 0), (.ishr, 0, 0, 0), (.iconst 1, 0, 0, 0), (.iand, 0, 0, 0), (.iconst 1, 0, 0, 0)] (by decide +kernel) rfl (And.intro g1 trivial) ?_
  have key2 : zG C E 2 S 0 0 (zQ C E 0 0 (some (0, q.1)) S q.2) 17 [some (2, a0), some (0, a1)] [(0, (if zand (zshr (M a0 4) a1) 1 = 1 then (1 : Int) else 0))] M := by
    cases h
    exact zG.zret hX (by decide +kernel) (z01_ite (Or.inr rfl) (Or.inl rfl))
  refine zG.icmp_ne (tgt := 16) (off := 7) hX (by decide +kernel) (by decide) (fun c3 => ?_) (fun c3 => ?_)
  · refine zG.blk (pc' := 17) (l' := [some (2, a0), some (0, a1)]) (st' := [(0, 0)]) (M' := M) hX [(.iconst 0, 0, 0, 0)] (by decide +kernel) rfl trivial ?_
    (have k := key2; simp only [if_neg c3] at k; exact k)
  · refine zG.blk (pc' := 13) (l' := [some (2, a0), some (0, a1)]) (st' := [(0, 1)]) (M' := M) hX [(.iconst 1, 0, 0, 0)] (by decide +kernel) rfl trivial ?_
    refine zG.goto (tgt := 17) (off := 4) hX (by decide +kernel) (by decide) ?_
    (have k := key2; simp only [if_pos c3] at k; exact k)
theorem pX6_isStayed_ok {l : Launch} {E : ZE} {S : ZS} {M : ZM} {a0 a1 : Int} {q : (Int × ZM)} (h : pX6_isStayed S M a0 a1 = some q) : zMet l yX6_isStayed cX6_isStayed 2 (some .boolean) 1 40 0 0 E S M [(2, a0), (0, a1)] (some (0, q.1)) S q.2 :=
  zMet.of (o := 6) (ini := false) (by decide +kernel) rfl (fun h => by cases h) (Nat.le_of_ble_eq_true rfl) (fun C hX hl hRm => by subst hl; exact pX6_isStayed_go hX hRm h)
noncomputable def pX9_columnOf_17 (S : ZS) (M : ZM) (y0 : Int) : Option (Int × ZM) := some (y0, M)
set_option maxHeartbeats 2000000 in
set_option maxRecDepth 20000 in
theorem pX9_columnOf_17_ok {C : ZC} {E : ZE} {S : ZS} {q : (Int × ZM)} (hX : zCx C E 9 cX9_columnOf 2 (some .int) false) (hRm : czR C = { frames := 1, cells := 0, slots := 0, locals := 40 }) {M : ZM} {y0 : Int} (h : pX9_columnOf_17 S M y0 = some q) : zG C E 2 S 0 0 (zQ C E 0 0 (some (0, q.1)) S q.2) 17 [none, none] [(0, y0)] M := by
  unfold pX9_columnOf_17 at h
  cases h
  exact zG.iret hX (by decide +kernel)
noncomputable def pX9_columnOf (S : ZS) (M : ZM) (a0 : Int) (a1 : Int) : Option (Int × ZM) := if S.1 a0 = 9 then if M a0 0 = 0 then (pX9_columnOf_17 S M 0) else (if ¬ M a0 0 = 0 then pX9_columnOf_17 S M (Int.tmod a1 (M a0 0)) else none) else none
set_option maxHeartbeats 2000000 in
set_option maxRecDepth 20000 in
theorem pX9_columnOf_go {C : ZC} {E : ZE} {S : ZS} {M : ZM} {a0 a1 : Int} {q : (Int × ZM)} (hX : zCx C E 9 cX9_columnOf 2 (some .int) false) (hRm : czR C = { frames := 1, cells := 0, slots := 0, locals := 40 }) (h : pX9_columnOf  S M a0 a1 = some q) : zG C E 2 S 0 0 (zQ C E 0 0 (some (0, q.1)) S q.2) 0 [some (2, a0), some (0, a1)] [] M := by
  unfold pX9_columnOf at h
  obtain ⟨g1, h⟩ := zif h
  refine zG.blk (pc' := 4) (l' := [some (2, a0), some (0, a1)]) (st' := [(0, M a0 0)]) (M' := M) hX [(.aload_n 0, 0, 0, 0), (.getfield 27, 9, 0, 0)] (by decide +kernel) rfl (And.intro g1 trivial) ?_
  refine zG.if_ne (tgt := 11) (off := 7) hX (by decide +kernel) (by decide) (fun c2 => ?_) (fun c2 => ?_)
  · have h := zin c2 h
    obtain ⟨g3, h⟩ := zif h
    refine zG.blk (pc' := 17) (l' := [some (2, a0), some (0, a1)]) (st' := [(0, Int.tmod a1 (M a0 0))]) (M' := M) hX [(.iload_n 1, 0, 0, 0), (.aload_n 0, 0, 0, 0), (.getfield 27, 9, 0, 0), (.irem, 0, 0, 0)] (by decide +kernel) rfl (And.intro g1 (And.intro g3 trivial)) ?_
    exact zG.wk [false, false] (pX9_columnOf_17_ok hX hRm h)
  · have h := zip c2 h
    refine zG.blk (pc' := 8) (l' := [some (2, a0), some (0, a1)]) (st' := [(0, 0)]) (M' := M) hX [(.iconst 0, 0, 0, 0)] (by decide +kernel) rfl trivial ?_
    refine zG.goto (tgt := 17) (off := 9) hX (by decide +kernel) (by decide) ?_
    exact zG.wk [false, false] (pX9_columnOf_17_ok hX hRm h)
theorem pX9_columnOf_ok {l : Launch} {E : ZE} {S : ZS} {M : ZM} {a0 a1 : Int} {q : (Int × ZM)} (h : pX9_columnOf S M a0 a1 = some q) : zMet l yX9_columnOf cX9_columnOf 2 (some .int) 1 40 0 0 E S M [(2, a0), (0, a1)] (some (0, q.1)) S q.2 :=
  zMet.of (o := 9) (ini := false) (by decide +kernel) rfl (fun h => by cases h) (Nat.le_of_ble_eq_true rfl) (fun C hX hl hRm => by subst hl; exact pX9_columnOf_go hX hRm h)
noncomputable def pX9_rowOf_17 (S : ZS) (M : ZM) (y0 : Int) : Option (Int × ZM) := some (y0, M)
set_option maxHeartbeats 2000000 in
set_option maxRecDepth 20000 in
theorem pX9_rowOf_17_ok {C : ZC} {E : ZE} {S : ZS} {q : (Int × ZM)} (hX : zCx C E 9 cX9_rowOf 2 (some .int) false) (hRm : czR C = { frames := 1, cells := 0, slots := 0, locals := 40 }) {M : ZM} {y0 : Int} (h : pX9_rowOf_17 S M y0 = some q) : zG C E 2 S 0 0 (zQ C E 0 0 (some (0, q.1)) S q.2) 17 [none, none] [(0, y0)] M := by
  unfold pX9_rowOf_17 at h
  cases h
  exact zG.iret hX (by decide +kernel)
noncomputable def pX9_rowOf (S : ZS) (M : ZM) (a0 : Int) (a1 : Int) : Option (Int × ZM) := if S.1 a0 = 9 then if M a0 0 = 0 then (pX9_rowOf_17 S M 0) else (if ¬ M a0 0 = 0 then pX9_rowOf_17 S M (w32 (Int.tdiv a1 (M a0 0))) else none) else none
set_option maxHeartbeats 2000000 in
set_option maxRecDepth 20000 in
theorem pX9_rowOf_go {C : ZC} {E : ZE} {S : ZS} {M : ZM} {a0 a1 : Int} {q : (Int × ZM)} (hX : zCx C E 9 cX9_rowOf 2 (some .int) false) (hRm : czR C = { frames := 1, cells := 0, slots := 0, locals := 40 }) (h : pX9_rowOf  S M a0 a1 = some q) : zG C E 2 S 0 0 (zQ C E 0 0 (some (0, q.1)) S q.2) 0 [some (2, a0), some (0, a1)] [] M := by
  unfold pX9_rowOf at h
  obtain ⟨g1, h⟩ := zif h
  refine zG.blk (pc' := 4) (l' := [some (2, a0), some (0, a1)]) (st' := [(0, M a0 0)]) (M' := M) hX [(.aload_n 0, 0, 0, 0), (.getfield 27, 9, 0, 0)] (by decide +kernel) rfl (And.intro g1 trivial) ?_
  refine zG.if_ne (tgt := 11) (off := 7) hX (by decide +kernel) (by decide) (fun c2 => ?_) (fun c2 => ?_)
  · have h := zin c2 h
    obtain ⟨g3, h⟩ := zif h
    refine zG.blk (pc' := 17) (l' := [some (2, a0), some (0, a1)]) (st' := [(0, w32 (Int.tdiv a1 (M a0 0)))]) (M' := M) hX [(.iload_n 1, 0, 0, 0), (.aload_n 0, 0, 0, 0), (.getfield 27, 9, 0, 0), (.idiv, 0, 0, 0)] (by decide +kernel) rfl (And.intro g1 (And.intro g3 trivial)) ?_
    exact zG.wk [false, false] (pX9_rowOf_17_ok hX hRm h)
  · have h := zip c2 h
    refine zG.blk (pc' := 8) (l' := [some (2, a0), some (0, a1)]) (st' := [(0, 0)]) (M' := M) hX [(.iconst 0, 0, 0, 0)] (by decide +kernel) rfl trivial ?_
    refine zG.goto (tgt := 17) (off := 9) hX (by decide +kernel) (by decide) ?_
    exact zG.wk [false, false] (pX9_rowOf_17_ok hX hRm h)
theorem pX9_rowOf_ok {l : Launch} {E : ZE} {S : ZS} {M : ZM} {a0 a1 : Int} {q : (Int × ZM)} (h : pX9_rowOf S M a0 a1 = some q) : zMet l yX9_rowOf cX9_rowOf 2 (some .int) 1 40 0 0 E S M [(2, a0), (0, a1)] (some (0, q.1)) S q.2 :=
  zMet.of (o := 9) (ini := false) (by decide +kernel) rfl (fun h => by cases h) (Nat.le_of_ble_eq_true rfl) (fun C hX hl hRm => by subst hl; exact pX9_rowOf_go hX hRm h)
theorem sv_9_55 : zSV 9 55 yX9_rowOf cX9_rowOf 2 (some .int) 1 := ⟨⟨gt_at 851 (by decide +kernel) rfl, gt_at 826 (by decide +kernel) rfl, gt_at 827 (by decide +kernel) rfl, gt_at 108 (by decide +kernel) rfl, gt_at 828 (by decide +kernel) rfl⟩, by decide +kernel, by decide +kernel, by decide +kernel⟩
noncomputable def pX9_beside_46 (S : ZS) (M : ZM) (y0 : Int) : Option (Int × ZM) := some (y0, M)
set_option maxHeartbeats 2000000 in
set_option maxRecDepth 20000 in
theorem pX9_beside_46_ok {C : ZC} {E : ZE} {S : ZS} {q : (Int × ZM)} (hX : zCx C E 9 cX9_beside 3 (some .int) false) (hRm : czR C = { frames := 2, cells := 0, slots := 0, locals := 61 }) {M : ZM} {y0 : Int} (h : pX9_beside_46 S M y0 = some q) : zG C E 3 S 0 0 (zQ C E 0 0 (some (0, q.1)) S q.2) 46 [none, none, none] [(0, y0)] M := by
  unfold pX9_beside_46 at h
  cases h
  exact zG.iret hX (by decide +kernel)
theorem sv_9_59 : zSV 9 59 yX9_columnOf cX9_columnOf 2 (some .int) 1 := ⟨⟨gt_at 852 (by decide +kernel) rfl, gt_at 830 (by decide +kernel) rfl, gt_at 831 (by decide +kernel) rfl, gt_at 108 (by decide +kernel) rfl, gt_at 832 (by decide +kernel) rfl⟩, by decide +kernel, by decide +kernel, by decide +kernel⟩
noncomputable def pX9_beside_93 (S : ZS) (M : ZM) (y0 : Int) : Option (Int × ZM) := some (y0, M)
set_option maxHeartbeats 2000000 in
set_option maxRecDepth 20000 in
theorem pX9_beside_93_ok {C : ZC} {E : ZE} {S : ZS} {q : (Int × ZM)} (hX : zCx C E 9 cX9_beside 3 (some .int) false) (hRm : czR C = { frames := 2, cells := 0, slots := 0, locals := 61 }) {M : ZM} {y0 : Int} (h : pX9_beside_93 S M y0 = some q) : zG C E 3 S 0 0 (zQ C E 0 0 (some (0, q.1)) S q.2) 93 [none, none, none] [(0, y0)] M := by
  unfold pX9_beside_93 at h
  cases h
  exact zG.iret hX (by decide +kernel)
noncomputable def pX9_beside (S : ZS) (M : ZM) (a0 : Int) (a1 : Int) (a2 : Int) : Option (Int × ZM) := if a2 = 0 then (if S.1 a0 = 9 then (pX9_rowOf S M a0 a1).bind fun q3 => if q3.1 ≤ 0 then (pX9_beside_46 S q3.2 a1) else (pX9_beside_46 S q3.2 (w32 (a1 - (q3.2 a0 0)))) else none) else if a2 = 1 then (if S.1 a0 = 9 then (pX9_columnOf S M a0 a1).bind fun q8 => some ((if w32 ((q8.2 a0 0) - 1) ≤ q8.1 then (a1 : Int) else (w32 (a1 + 1))), q8.2) else none) else if a2 = 2 then (if S.1 a0 = 9 then (pX9_rowOf S M a0 a1).bind fun q14 => if w32 ((q14.2 a0 0) - 1) ≤ q14.1 then (pX9_beside_93 S q14.2 a1) else (pX9_beside_93 S q14.2 (w32 (a1 + (q14.2 a0 0)))) else none) else (if S.1 a0 = 9 then (pX9_columnOf S M a0 a1).bind fun q18 => some ((if q18.1 ≤ 0 then (a1 : Int) else (w32 (a1 - 1))), q18.2) else none)
set_option maxHeartbeats 2000000 in
set_option maxRecDepth 20000 in
theorem pX9_beside_go {C : ZC} {E : ZE} {S : ZS} {M : ZM} {a0 a1 a2 : Int} {q : (Int × ZM)} (hX : zCx C E 9 cX9_beside 3 (some .int) false) (hRm : czR C = { frames := 2, cells := 0, slots := 0, locals := 61 }) (h : pX9_beside  S M a0 a1 a2 = some q) : zG C E 3 S 0 0 (zQ C E 0 0 (some (0, q.1)) S q.2) 0 [some (2, a0), some (0, a1), some (0, a2)] [] M := by
  unfold pX9_beside at h
  refine zG.blk (pc' := 1) (l' := [some (2, a0), some (0, a1), some (0, a2)]) (st' := [(0, a2)]) (M' := M) hX [(.iload_n 2, 0, 0, 0)] (by decide +kernel) rfl trivial ?_
  have hs1 : decode cX9_beside 1 = .ok (.tableswitch 93 0 2 #[27, 46, 68], 27) := by decide +kernel
  by_cases c2 : a2 = 0
  · have h := zip c2 h
    refine zG.tabIn (tgt := 28) hX hs1 0 c2 (by decide) rfl (by decide) ?_
    refine zG.blk (pc' := 30) (l' := [some (2, a0), some (0, a1), some (0, a2)]) (st' := [(0, a1), (2, a0)]) (M' := M) hX [(.aload_n 0, 0, 0, 0), (.iload_n 1, 0, 0, 0)] (by decide +kernel) rfl trivial ?_
    obtain ⟨g5, h⟩ := zif h
    obtain ⟨q3, e4, h⟩ := zbd h
    refine zG.callV (b := a0) (av := [(0, a1)]) (st := []) (ci := 9) hX (pX9_rowOf_ok e4) sv_9_55 rfl ⟨by decide, rfl⟩ g5 (by decide +kernel) (by rw [hRm]; exact ⟨Nat.le_of_ble_eq_true rfl, Nat.le_of_ble_eq_true rfl⟩) (by rw [hRm]; exact ⟨Nat.le_of_ble_eq_true rfl, Nat.le_of_ble_eq_true rfl⟩) (Nat.le_of_ble_eq_true rfl) ?_
    show zG C E 3 S 0 0 _ 33 [some (2, a0), some (0, a1), some (0, a2)] [(0, q3.1)] q3.2
    refine zG.if_le (tgt := 45) (off := 12) hX (by decide +kernel) (by decide) (fun c6 => ?_) (fun c6 => ?_)
    · have h := zip c6 h
      refine zG.blk (pc' := 46) (l' := [some (2, a0), some (0, a1), some (0, a2)]) (st' := [(0, a1)]) (M' := q3.2) hX [(.iload_n 1, 0, 0, 0)] (by decide +kernel) rfl trivial ?_
      exact zG.wk [false, false, false] (pX9_beside_46_ok hX hRm h)
    · have h := zin c6 h
      refine zG.blk (pc' := 42) (l' := [some (2, a0), some (0, a1), some (0, a2)]) (st' := [(0, w32 (a1 - (q3.2 a0 0)))]) (M' := q3.2) hX [(.iload_n 1, 0, 0, 0), (.aload_n 0, 0, 0, 0), (.getfield 27, 9, 0, 0), (.isub, 0, 0, 0)] (by decide +kernel) rfl (And.intro g5 trivial) ?_
      refine zG.goto (tgt := 46) (off := 4) hX (by decide +kernel) (by decide) ?_
      exact zG.wk [false, false, false] (pX9_beside_46_ok hX hRm h)
  · have h := zin c2 h
    by_cases c7 : a2 = 1
    · have h := zip c7 h
      refine zG.tabIn (tgt := 47) hX hs1 1 c7 (by decide) rfl (by decide) ?_
      refine zG.blk (pc' := 49) (l' := [some (2, a0), some (0, a1), some (0, a2)]) (st' := [(0, a1), (2, a0)]) (M' := M) hX [(.aload_n 0, 0, 0, 0), (.iload_n 1, 0, 0, 0)] (by decide +kernel) rfl trivial ?_
      obtain ⟨g10, h⟩ := zif h
      obtain ⟨q8, e9, h⟩ := zbd h
      refine zG.callV (b := a0) (av := [(0, a1)]) (st := []) (ci := 9) hX (pX9_columnOf_ok e9) sv_9_59 rfl ⟨by decide, rfl⟩ g10 (by decide +kernel) (by rw [hRm]; exact ⟨Nat.le_of_ble_eq_true rfl, Nat.le_of_ble_eq_true rfl⟩) (by rw [hRm]; exact ⟨Nat.le_of_ble_eq_true rfl, Nat.le_of_ble_eq_true rfl⟩) (Nat.le_of_ble_eq_true rfl) ?_
      show zG C E 3 S 0 0 _ 52 [some (2, a0), some (0, a1), some (0, a2)] [(0, q8.1)] q8.2
      refine zG.blk (pc' := 58) (l' := [some (2, a0), some (0, a1), some (0, a2)]) (st' := [(0, w32 ((q8.2 a0 0) - 1)), (0, q8.1)]) (M' := q8.2) hX [(.aload_n 0, 0, 0, 0), (.getfield 27, 9, 0, 0), (.iconst 1, 0, 0, 0), (.isub, 0, 0, 0)] (by decide +kernel) rfl (And.intro g10 trivial) ?_
      have key11 : zG C E 3 S 0 0 (zQ C E 0 0 (some (0, q.1)) S q.2) 68 [some (2, a0), some (0, a1), some (0, a2)] [(0, (if w32 ((q8.2 a0 0) - 1) ≤ q8.1 then (a1 : Int) else (w32 (a1 + 1))))] q8.2 := by
        cases h
        exact zG.iret hX (by decide +kernel)
      refine zG.icmp_ge (tgt := 67) (off := 9) hX (by decide +kernel) (by decide) (fun c12 => ?_) (fun c12 => ?_)
      · refine zG.blk (pc' := 68) (l' := [some (2, a0), some (0, a1), some (0, a2)]) (st' := [(0, a1)]) (M' := q8.2) hX [(.iload_n 1, 0, 0, 0)] (by decide +kernel) rfl trivial ?_
        (have k := key11; simp only [if_pos c12] at k; exact k)
      · refine zG.blk (pc' := 64) (l' := [some (2, a0), some (0, a1), some (0, a2)]) (st' := [(0, w32 (a1 + 1))]) (M' := q8.2) hX [(.iload_n 1, 0, 0, 0), (.iconst 1, 0, 0, 0), (.iadd, 0, 0, 0)] (by decide +kernel) rfl trivial ?_
        refine zG.goto (tgt := 68) (off := 4) hX (by decide +kernel) (by decide) ?_
        (have k := key11; simp only [if_neg c12] at k; exact k)
    · have h := zin c7 h
      by_cases c13 : a2 = 2
      · have h := zip c13 h
        refine zG.tabIn (tgt := 69) hX hs1 2 c13 (by decide) rfl (by decide) ?_
        refine zG.blk (pc' := 71) (l' := [some (2, a0), some (0, a1), some (0, a2)]) (st' := [(0, a1), (2, a0)]) (M' := M) hX [(.aload_n 0, 0, 0, 0), (.iload_n 1, 0, 0, 0)] (by decide +kernel) rfl trivial ?_
        obtain ⟨g16, h⟩ := zif h
        obtain ⟨q14, e15, h⟩ := zbd h
        refine zG.callV (b := a0) (av := [(0, a1)]) (st := []) (ci := 9) hX (pX9_rowOf_ok e15) sv_9_55 rfl ⟨by decide, rfl⟩ g16 (by decide +kernel) (by rw [hRm]; exact ⟨Nat.le_of_ble_eq_true rfl, Nat.le_of_ble_eq_true rfl⟩) (by rw [hRm]; exact ⟨Nat.le_of_ble_eq_true rfl, Nat.le_of_ble_eq_true rfl⟩) (Nat.le_of_ble_eq_true rfl) ?_
        show zG C E 3 S 0 0 _ 74 [some (2, a0), some (0, a1), some (0, a2)] [(0, q14.1)] q14.2
        refine zG.blk (pc' := 80) (l' := [some (2, a0), some (0, a1), some (0, a2)]) (st' := [(0, w32 ((q14.2 a0 0) - 1)), (0, q14.1)]) (M' := q14.2) hX [(.aload_n 0, 0, 0, 0), (.getfield 27, 9, 0, 0), (.iconst 1, 0, 0, 0), (.isub, 0, 0, 0)] (by decide +kernel) rfl (And.intro g16 trivial) ?_
        refine zG.icmp_ge (tgt := 92) (off := 12) hX (by decide +kernel) (by decide) (fun c17 => ?_) (fun c17 => ?_)
        · have h := zip c17 h
          refine zG.blk (pc' := 93) (l' := [some (2, a0), some (0, a1), some (0, a2)]) (st' := [(0, a1)]) (M' := q14.2) hX [(.iload_n 1, 0, 0, 0)] (by decide +kernel) rfl trivial ?_
          exact zG.wk [false, false, false] (pX9_beside_93_ok hX hRm h)
        · have h := zin c17 h
          refine zG.blk (pc' := 89) (l' := [some (2, a0), some (0, a1), some (0, a2)]) (st' := [(0, w32 (a1 + (q14.2 a0 0)))]) (M' := q14.2) hX [(.iload_n 1, 0, 0, 0), (.aload_n 0, 0, 0, 0), (.getfield 27, 9, 0, 0), (.iadd, 0, 0, 0)] (by decide +kernel) rfl (And.intro g16 trivial) ?_
          refine zG.goto (tgt := 93) (off := 4) hX (by decide +kernel) (by decide) ?_
          exact zG.wk [false, false, false] (pX9_beside_93_ok hX hRm h)
      · have h := zin c13 h
        refine zG.tabOut (tgt := 94) hX hs1 (by omega) (by decide) ?_
        refine zG.blk (pc' := 96) (l' := [some (2, a0), some (0, a1), some (0, a2)]) (st' := [(0, a1), (2, a0)]) (M' := M) hX [(.aload_n 0, 0, 0, 0), (.iload_n 1, 0, 0, 0)] (by decide +kernel) rfl trivial ?_
        obtain ⟨g20, h⟩ := zif h
        obtain ⟨q18, e19, h⟩ := zbd h
        refine zG.callV (b := a0) (av := [(0, a1)]) (st := []) (ci := 9) hX (pX9_columnOf_ok e19) sv_9_59 rfl ⟨by decide, rfl⟩ g20 (by decide +kernel) (by rw [hRm]; exact ⟨Nat.le_of_ble_eq_true rfl, Nat.le_of_ble_eq_true rfl⟩) (by rw [hRm]; exact ⟨Nat.le_of_ble_eq_true rfl, Nat.le_of_ble_eq_true rfl⟩) (Nat.le_of_ble_eq_true rfl) ?_
        show zG C E 3 S 0 0 _ 99 [some (2, a0), some (0, a1), some (0, a2)] [(0, q18.1)] q18.2
        have key21 : zG C E 3 S 0 0 (zQ C E 0 0 (some (0, q.1)) S q.2) 109 [some (2, a0), some (0, a1), some (0, a2)] [(0, (if q18.1 ≤ 0 then (a1 : Int) else (w32 (a1 - 1))))] q18.2 := by
          cases h
          exact zG.iret hX (by decide +kernel)
        refine zG.if_le (tgt := 108) (off := 9) hX (by decide +kernel) (by decide) (fun c22 => ?_) (fun c22 => ?_)
        · refine zG.blk (pc' := 109) (l' := [some (2, a0), some (0, a1), some (0, a2)]) (st' := [(0, a1)]) (M' := q18.2) hX [(.iload_n 1, 0, 0, 0)] (by decide +kernel) rfl trivial ?_
          (have k := key21; simp only [if_pos c22] at k; exact k)
        · refine zG.blk (pc' := 105) (l' := [some (2, a0), some (0, a1), some (0, a2)]) (st' := [(0, w32 (a1 - 1))]) (M' := q18.2) hX [(.iload_n 1, 0, 0, 0), (.iconst 1, 0, 0, 0), (.isub, 0, 0, 0)] (by decide +kernel) rfl trivial ?_
          refine zG.goto (tgt := 109) (off := 4) hX (by decide +kernel) (by decide) ?_
          (have k := key21; simp only [if_neg c22] at k; exact k)
theorem pX9_beside_ok {l : Launch} {E : ZE} {S : ZS} {M : ZM} {a0 a1 a2 : Int} {q : (Int × ZM)} (h : pX9_beside S M a0 a1 a2 = some q) : zMet l yX9_beside cX9_beside 3 (some .int) 2 61 0 0 E S M [(2, a0), (0, a1), (0, a2)] (some (0, q.1)) S q.2 :=
  zMet.of (o := 9) (ini := false) (by decide +kernel) rfl (fun h => by cases h) (Nat.le_of_ble_eq_true rfl) (fun C hX hl hRm => by subst hl; exact pX9_beside_go hX hRm h)
noncomputable def pX9_strengthOn_22 (S : ZS) (M : ZM) (y0 : Int) : Option (Int × ZM) := some (y0, M)
set_option maxHeartbeats 2000000 in
set_option maxRecDepth 20000 in
theorem pX9_strengthOn_22_ok {C : ZC} {E : ZE} {S : ZS} {q : (Int × ZM)} (hX : zCx C E 9 cX9_strengthOn 2 (some .int) false) (hRm : czR C = { frames := 1, cells := 0, slots := 0, locals := 40 }) {M : ZM} {y0 : Int} (h : pX9_strengthOn_22 S M y0 = some q) : zG C E 2 S 0 0 (zQ C E 0 0 (some (0, q.1)) S q.2) 22 [none, none] [(0, y0)] M := by
  unfold pX9_strengthOn_22 at h
  cases h
  exact zG.iret hX (by decide +kernel)
noncomputable def pX9_strengthOn (S : ZS) (M : ZM) (a0 : Int) (a1 : Int) : Option (Int × ZM) := if S.1 a0 = 9 then if M a0 4 = 0 then (pX9_strengthOn_22 S M 0) else (if ¬ M a0 4 = 0 then if S.1 (M a0 8) = 100 ∧ (0 : Int) ≤ Int.tmod a1 (M a0 4) ∧ Int.tmod a1 (M a0 4) < S.2.1 (M a0 8) then pX9_strengthOn_22 S M (M (M a0 8) (Int.tmod a1 (M a0 4))) else none else none) else none
set_option maxHeartbeats 2000000 in
set_option maxRecDepth 20000 in
theorem pX9_strengthOn_go {C : ZC} {E : ZE} {S : ZS} {M : ZM} {a0 a1 : Int} {q : (Int × ZM)} (hX : zCx C E 9 cX9_strengthOn 2 (some .int) false) (hRm : czR C = { frames := 1, cells := 0, slots := 0, locals := 40 }) (h : pX9_strengthOn  S M a0 a1 = some q) : zG C E 2 S 0 0 (zQ C E 0 0 (some (0, q.1)) S q.2) 0 [some (2, a0), some (0, a1)] [] M := by
  unfold pX9_strengthOn at h
  obtain ⟨g1, h⟩ := zif h
  refine zG.blk (pc' := 4) (l' := [some (2, a0), some (0, a1)]) (st' := [(0, M a0 4)]) (M' := M) hX [(.aload_n 0, 0, 0, 0), (.getfield 40, 9, 4, 0)] (by decide +kernel) rfl (And.intro g1 trivial) ?_
  refine zG.if_ne (tgt := 11) (off := 7) hX (by decide +kernel) (by decide) (fun c2 => ?_) (fun c2 => ?_)
  · have h := zin c2 h
    obtain ⟨g3, h⟩ := zif h
    obtain ⟨g4, h⟩ := zif h
    refine zG.blk (pc' := 22) (l' := [some (2, a0), some (0, a1)]) (st' := [(0, M (M a0 8) (Int.tmod a1 (M a0 4)))]) (M' := M) hX [(.aload_n 0, 0, 0, 0), (.getfield 21, 9, 8, 2), (.iload_n 1, 0, 0, 0), (.aload_n 0, 0, 0, 0), (.getfield 40, 9, 4, 0), (.irem, 0, 0, 0), (.iaload, 0, 0, 0)] (by decide +kernel) rfl (And.intro g1 (And.intro g1 (And.intro g3 (And.intro g4 trivial)))) ?_
    exact zG.wk [false, false] (pX9_strengthOn_22_ok hX hRm h)
  · have h := zip c2 h
    refine zG.blk (pc' := 8) (l' := [some (2, a0), some (0, a1)]) (st' := [(0, 0)]) (M' := M) hX [(.iconst 0, 0, 0, 0)] (by decide +kernel) rfl trivial ?_
    refine zG.goto (tgt := 22) (off := 14) hX (by decide +kernel) (by decide) ?_
    exact zG.wk [false, false] (pX9_strengthOn_22_ok hX hRm h)
theorem pX9_strengthOn_ok {l : Launch} {E : ZE} {S : ZS} {M : ZM} {a0 a1 : Int} {q : (Int × ZM)} (h : pX9_strengthOn S M a0 a1 = some q) : zMet l yX9_strengthOn cX9_strengthOn 2 (some .int) 1 40 0 0 E S M [(2, a0), (0, a1)] (some (0, q.1)) S q.2 :=
  zMet.of (o := 9) (ini := false) (by decide +kernel) rfl (fun h => by cases h) (Nat.le_of_ble_eq_true rfl) (fun C hX hl hRm => by subst hl; exact pX9_strengthOn_go hX hRm h)
noncomputable def pX9_wayOn_22 (S : ZS) (M : ZM) (y0 : Int) : Option (Int × ZM) := some (y0, M)
set_option maxHeartbeats 2000000 in
set_option maxRecDepth 20000 in
theorem pX9_wayOn_22_ok {C : ZC} {E : ZE} {S : ZS} {q : (Int × ZM)} (hX : zCx C E 9 cX9_wayOn 2 (some .int) false) (hRm : czR C = { frames := 1, cells := 0, slots := 0, locals := 40 }) {M : ZM} {y0 : Int} (h : pX9_wayOn_22 S M y0 = some q) : zG C E 2 S 0 0 (zQ C E 0 0 (some (0, q.1)) S q.2) 22 [none, none] [(0, y0)] M := by
  unfold pX9_wayOn_22 at h
  cases h
  exact zG.iret hX (by decide +kernel)
noncomputable def pX9_wayOn (S : ZS) (M : ZM) (a0 : Int) (a1 : Int) : Option (Int × ZM) := if S.1 a0 = 9 then if M a0 4 = 0 then (pX9_wayOn_22 S M 0) else (if ¬ M a0 4 = 0 then if S.1 (M a0 7) = 100 ∧ (0 : Int) ≤ Int.tmod a1 (M a0 4) ∧ Int.tmod a1 (M a0 4) < S.2.1 (M a0 7) then pX9_wayOn_22 S M (M (M a0 7) (Int.tmod a1 (M a0 4))) else none else none) else none
set_option maxHeartbeats 2000000 in
set_option maxRecDepth 20000 in
theorem pX9_wayOn_go {C : ZC} {E : ZE} {S : ZS} {M : ZM} {a0 a1 : Int} {q : (Int × ZM)} (hX : zCx C E 9 cX9_wayOn 2 (some .int) false) (hRm : czR C = { frames := 1, cells := 0, slots := 0, locals := 40 }) (h : pX9_wayOn  S M a0 a1 = some q) : zG C E 2 S 0 0 (zQ C E 0 0 (some (0, q.1)) S q.2) 0 [some (2, a0), some (0, a1)] [] M := by
  unfold pX9_wayOn at h
  obtain ⟨g1, h⟩ := zif h
  refine zG.blk (pc' := 4) (l' := [some (2, a0), some (0, a1)]) (st' := [(0, M a0 4)]) (M' := M) hX [(.aload_n 0, 0, 0, 0), (.getfield 40, 9, 4, 0)] (by decide +kernel) rfl (And.intro g1 trivial) ?_
  refine zG.if_ne (tgt := 11) (off := 7) hX (by decide +kernel) (by decide) (fun c2 => ?_) (fun c2 => ?_)
  · have h := zin c2 h
    obtain ⟨g3, h⟩ := zif h
    obtain ⟨g4, h⟩ := zif h
    refine zG.blk (pc' := 22) (l' := [some (2, a0), some (0, a1)]) (st' := [(0, M (M a0 7) (Int.tmod a1 (M a0 4)))]) (M' := M) hX [(.aload_n 0, 0, 0, 0), (.getfield 18, 9, 7, 2), (.iload_n 1, 0, 0, 0), (.aload_n 0, 0, 0, 0), (.getfield 40, 9, 4, 0), (.irem, 0, 0, 0), (.iaload, 0, 0, 0)] (by decide +kernel) rfl (And.intro g1 (And.intro g1 (And.intro g3 (And.intro g4 trivial)))) ?_
    exact zG.wk [false, false] (pX9_wayOn_22_ok hX hRm h)
  · have h := zip c2 h
    refine zG.blk (pc' := 8) (l' := [some (2, a0), some (0, a1)]) (st' := [(0, 0)]) (M' := M) hX [(.iconst 0, 0, 0, 0)] (by decide +kernel) rfl trivial ?_
    refine zG.goto (tgt := 22) (off := 14) hX (by decide +kernel) (by decide) ?_
    exact zG.wk [false, false] (pX9_wayOn_22_ok hX hRm h)
theorem pX9_wayOn_ok {l : Launch} {E : ZE} {S : ZS} {M : ZM} {a0 a1 : Int} {q : (Int × ZM)} (h : pX9_wayOn S M a0 a1 = some q) : zMet l yX9_wayOn cX9_wayOn 2 (some .int) 1 40 0 0 E S M [(2, a0), (0, a1)] (some (0, q.1)) S q.2 :=
  zMet.of (o := 9) (ini := false) (by decide +kernel) rfl (fun h => by cases h) (Nat.le_of_ble_eq_true rfl) (fun C hX hl hRm => by subst hl; exact pX9_wayOn_go hX hRm h)
theorem sv_0_74 : zSV 0 74 yX9_wayOn cX9_wayOn 2 (some .int) 1 := ⟨⟨gt_at 811 (by decide +kernel) rfl, gt_at 812 (by decide +kernel) rfl, gt_at 813 (by decide +kernel) rfl, gt_at 108 (by decide +kernel) rfl, gt_at 814 (by decide +kernel) rfl⟩, by decide +kernel, by decide +kernel, by decide +kernel⟩
theorem sv_0_78 : zSV 0 78 yX9_strengthOn cX9_strengthOn 2 (some .int) 1 := ⟨⟨gt_at 815 (by decide +kernel) rfl, gt_at 816 (by decide +kernel) rfl, gt_at 817 (by decide +kernel) rfl, gt_at 108 (by decide +kernel) rfl, gt_at 818 (by decide +kernel) rfl⟩, by decide +kernel, by decide +kernel, by decide +kernel⟩
theorem sv_0_61 : zSV 0 61 yX6_isStayed cX6_isStayed 2 (some .boolean) 1 := ⟨⟨gt_at 820 (by decide +kernel) rfl, gt_at 753 (by decide +kernel) rfl, gt_at 754 (by decide +kernel) rfl, gt_at 111 (by decide +kernel) rfl, gt_at 755 (by decide +kernel) rfl⟩, by decide +kernel, by decide +kernel, by decide +kernel⟩
noncomputable def pX0_movePens_71 (S : ZS) (k22 : ZM → Int → Int → Int → Int → Int → Option ZM) (M : ZM) (x1 : Int) (x2 : Int) (x3 : Int) (x4 : Int) (x5 : Int) : Option ZM := k22 M x1 x2 x3 x4 (w32 (x5 + 1))
set_option maxHeartbeats 2000000 in
set_option maxRecDepth 20000 in
theorem pX0_movePens_71_ok {C : ZC} {E : ZE} {S : ZS} {k22 : ZM → Int → Int → Int → Int → Int → Option ZM} {q : ZM} (hX : zCx C E 0 cX0_movePens 6 none false) (hRm : czR C = { frames := 3, cells := 0, slots := 0, locals := 83 }) (hk22 : ∀ M x1 x2 x3 x4 x5, k22 M x1 x2 x3 x4 x5 = some q → zG C E 6 S 0 0 (zQ C E 0 0 none S q) 22 [none, some (2, x1), some (2, x2), some (0, x3), some (0, x4), some (0, x5)] [] M) {M : ZM} {x1 : Int} {x2 : Int} {x3 : Int} {x4 : Int} {x5 : Int} (h : pX0_movePens_71 S k22 M x1 x2 x3 x4 x5 = some q) : zG C E 6 S 0 0 (zQ C E 0 0 none S q) 71 [none, some (2, x1), some (2, x2), some (0, x3), some (0, x4), some (0, x5)] [] M := by
  unfold pX0_movePens_71 at h
  refine zG.blk (pc' := 74) (l' := [none, some (2, x1), some (2, x2), some (0, x3), some (0, x4), some (0, w32 (x5 + 1))]) (st' := []) (M' := M) hX [(.iinc 5 1, 0, 0, 0)] (by decide +kernel) rfl trivial ?_
  refine zG.goto (tgt := 22) (off := (-52)) hX (by decide +kernel) (by decide) ?_
  exact (hk22 _ _ _ _ _ _ h)
theorem sv_0_108 : zSV 0 108 yX9_beside cX9_beside 3 (some .int) 2 := ⟨⟨gt_at 847 (by decide +kernel) rfl, gt_at 848 (by decide +kernel) rfl, gt_at 849 (by decide +kernel) rfl, gt_at 108 (by decide +kernel) rfl, gt_at 850 (by decide +kernel) rfl⟩, by decide +kernel, by decide +kernel, by decide +kernel⟩
noncomputable def pX0_movePens_22 (S : ZS) : Nat → ZM → Int → Int → Int → Int → Int → Option ZM
  | 0 => fun _ _ _ _ _ _ => none
  | n + 1 => fun M x1 x2 x3 x4 x5 => if S.1 x1 = 9 then if M x1 3 ≤ x5 then (some M) else (if S.1 x2 = 6 then (pX6_isStayed S M x2 x5).bind fun q9 => if q9.1 = 0 then (if S.1 (q9.2 x2 1) = 100 ∧ (0 : Int) ≤ x5 ∧ x5 < S.2.1 (q9.2 x2 1) then if x4 < q9.2 (q9.2 x2 1) x5 then (pX0_movePens_71 S (pX0_movePens_22 S n) q9.2 x1 x2 x3 x4 x5) else (if S.1 (q9.2 x2 0) = 100 ∧ (0 : Int) ≤ x5 ∧ x5 < S.2.1 (q9.2 x2 0) then (pX9_beside S q9.2 x1 (q9.2 (q9.2 x2 0) x5) x3).bind fun q16 => zlet (upM q16.2 (q9.2 x2 0) x5 q16.1) fun M18 => pX0_movePens_71 S (pX0_movePens_22 S n) M18 x1 x2 x3 x4 x5 else none) else none) else (pX0_movePens_71 S (pX0_movePens_22 S n) q9.2 x1 x2 x3 x4 x5) else none) else none
set_option maxHeartbeats 2000000 in
set_option maxRecDepth 20000 in
theorem pX0_movePens_22_ok {C : ZC} {E : ZE} {S : ZS} {q : ZM} (hX : zCx C E 0 cX0_movePens 6 none false) (hRm : czR C = { frames := 3, cells := 0, slots := 0, locals := 83 }) : ∀ (n : Nat) (M : ZM) (x1 : Int) (x2 : Int) (x3 : Int) (x4 : Int) (x5 : Int), pX0_movePens_22 S n M x1 x2 x3 x4 x5 = some q → zG C E 6 S 0 0 (zQ C E 0 0 none S q) 22 [none, some (2, x1), some (2, x2), some (0, x3), some (0, x4), some (0, x5)] [] M := by
  intro n
  induction n with
  | zero => intro M x1 x2 x3 x4 x5 h; cases h
  | succ n ih =>
    intro M x1 x2 x3 x4 x5 h
    unfold pX0_movePens_22 at h
    obtain ⟨g7, h⟩ := zif h
    refine zG.blk (pc' := 28) (l' := [none, some (2, x1), some (2, x2), some (0, x3), some (0, x4), some (0, x5)]) (st' := [(0, M x1 3), (0, x5)]) (M' := M) hX [(.iload 5, 0, 0, 0), (.aload_n 1, 0, 0, 0), (.getfield 58, 9, 3, 0)] (by decide +kernel) rfl (And.intro g7 trivial) ?_
    refine zG.icmp_ge (tgt := 77) (off := 49) hX (by decide +kernel) (by decide) (fun c8 => ?_) (fun c8 => ?_)
    · have h := zip c8 h
      cases h
      exact zG.vret hX (by decide +kernel)
    · have h := zin c8 h
      refine zG.blk (pc' := 34) (l' := [none, some (2, x1), some (2, x2), some (0, x3), some (0, x4), some (0, x5)]) (st' := [(0, x5), (2, x2)]) (M' := M) hX [(.aload_n 2, 0, 0, 0), (.iload 5, 0, 0, 0)] (by decide +kernel) rfl trivial ?_
      obtain ⟨g11, h⟩ := zif h
      obtain ⟨q9, e10, h⟩ := zbd h
      refine zG.callV (b := x2) (av := [(0, x5)]) (st := []) (ci := 6) hX (pX6_isStayed_ok e10) sv_0_61 rfl ⟨by decide, rfl⟩ g11 (by decide +kernel) (by rw [hRm]; exact ⟨Nat.le_of_ble_eq_true rfl, Nat.le_of_ble_eq_true rfl⟩) (by rw [hRm]; exact ⟨Nat.le_of_ble_eq_true rfl, Nat.le_of_ble_eq_true rfl⟩) (Nat.le_of_ble_eq_true rfl) ?_
      show zG C E 6 S 0 0 _ 37 [none, some (2, x1), some (2, x2), some (0, x3), some (0, x4), some (0, x5)] [(0, q9.1)] q9.2
      refine zG.if_ne (tgt := 71) (off := 34) hX (by decide +kernel) (by decide) (fun c12 => ?_) (fun c12 => ?_)
      · have h := zin c12 h
        exact (pX0_movePens_71_ok hX hRm ih h)
      · have h := zip c12 h
        obtain ⟨g13, h⟩ := zif h
        refine zG.blk (pc' := 49) (l' := [none, some (2, x1), some (2, x2), some (0, x3), some (0, x4), some (0, x5)]) (st' := [(0, x4), (0, q9.2 (q9.2 x2 1) x5)]) (M' := q9.2) hX [(.aload_n 2, 0, 0, 0), (.getfield 102, 6, 1, 2), (.iload 5, 0, 0, 0), (.iaload, 0, 0, 0), (.iload 4, 0, 0, 0)] (by decide +kernel) rfl (And.intro g11 (And.intro g13 trivial)) ?_
        refine zG.icmp_gt (tgt := 71) (off := 22) hX (by decide +kernel) (by decide) (fun c14 => ?_) (fun c14 => ?_)
        · have h := zip c14 h
          exact (pX0_movePens_71_ok hX hRm ih h)
        · have h := zin c14 h
          obtain ⟨g15, h⟩ := zif h
          refine zG.blk (pc' := 67) (l' := [none, some (2, x1), some (2, x2), some (0, x3), some (0, x4), some (0, x5)]) (st' := [(0, x3), (0, q9.2 (q9.2 x2 0) x5), (2, x1), (0, x5), (2, q9.2 x2 0)]) (M' := q9.2) hX [(.aload_n 2, 0, 0, 0), (.getfield 93, 6, 0, 2), (.iload 5, 0, 0, 0), (.aload_n 1, 0, 0, 0), (.aload_n 2, 0, 0, 0), (.getfield 93, 6, 0, 2), (.iload 5, 0, 0, 0), (.iaload, 0, 0, 0), (.iload_n 3, 0, 0, 0)] (by decide +kernel) rfl (And.intro g11 (And.intro g11 (And.intro g15 trivial))) ?_
          obtain ⟨q16, e17, h⟩ := zbd h
          refine zG.callV (b := x1) (av := [(0, q9.2 (q9.2 x2 0) x5), (0, x3)]) (st := [(0, x5), (2, q9.2 x2 0)]) (ci := 9) hX (pX9_beside_ok e17) sv_0_108 rfl ⟨by decide, rfl⟩ g7 (by decide +kernel) (by rw [hRm]; exact ⟨Nat.le_of_ble_eq_true rfl, Nat.le_of_ble_eq_true rfl⟩) (by rw [hRm]; exact ⟨Nat.le_of_ble_eq_true rfl, Nat.le_of_ble_eq_true rfl⟩) (Nat.le_of_ble_eq_true rfl) ?_
          show zG C E 6 S 0 0 _ 70 [none, some (2, x1), some (2, x2), some (0, x3), some (0, x4), some (0, x5)] [(0, q16.1), (0, x5), (2, q9.2 x2 0)] q16.2
          refine zG.blk (pc' := 71) (l' := [none, some (2, x1), some (2, x2), some (0, x3), some (0, x4), some (0, x5)]) (st' := []) (M' := (upM q16.2 (q9.2 x2 0) x5 q16.1)) hX [(.iastore, 0, 0, 0)] (by decide +kernel) rfl (And.intro g15 trivial) ?_
          generalize upM q16.2 (q9.2 x2 0) x5 q16.1 = M18 at h ⊢
          have h := zlt h
          exact (pX0_movePens_71_ok hX hRm ih h)
noncomputable def pX0_movePens (S : ZS) (M : ZM) (a0 : Int) (a1 : Int) (a2 : Int) : Option ZM := if S.1 a2 = 6 then if S.1 a1 = 9 then (pX9_wayOn S M a1 (M a2 5)).bind fun q2 => (pX9_strengthOn S q2.2 a1 (q2.2 a2 5)).bind fun q5 => pX0_movePens_22 S zFU q5.2 a1 a2 q2.1 q5.1 0 else none else none
set_option maxHeartbeats 2000000 in
set_option maxRecDepth 20000 in
theorem pX0_movePens_go {C : ZC} {E : ZE} {S : ZS} {M : ZM} {a0 a1 a2 : Int} {q : ZM} (hX : zCx C E 0 cX0_movePens 6 none false) (hRm : czR C = { frames := 3, cells := 0, slots := 0, locals := 83 }) (h : pX0_movePens  S M a0 a1 a2 = some q) : zG C E 6 S 0 0 (zQ C E 0 0 none S q) 0 [some (2, a0), some (2, a1), some (2, a2), none, none, none] [] M := by
  unfold pX0_movePens at h
  obtain ⟨g1, h⟩ := zif h
  refine zG.blk (pc' := 5) (l' := [some (2, a0), some (2, a1), some (2, a2), none, none, none]) (st' := [(0, M a2 5), (2, a1)]) (M' := M) hX [(.aload_n 1, 0, 0, 0), (.aload_n 2, 0, 0, 0), (.getfield 49, 6, 5, 0)] (by decide +kernel) rfl (And.intro g1 trivial) ?_
  obtain ⟨g4, h⟩ := zif h
  obtain ⟨q2, e3, h⟩ := zbd h
  refine zG.callV (b := a1) (av := [(0, M a2 5)]) (st := []) (ci := 9) hX (pX9_wayOn_ok e3) sv_0_74 rfl ⟨by decide, rfl⟩ g4 (by decide +kernel) (by rw [hRm]; exact ⟨Nat.le_of_ble_eq_true rfl, Nat.le_of_ble_eq_true rfl⟩) (by rw [hRm]; exact ⟨Nat.le_of_ble_eq_true rfl, Nat.le_of_ble_eq_true rfl⟩) (Nat.le_of_ble_eq_true rfl) ?_
  show zG C E 6 S 0 0 _ 8 [some (2, a0), some (2, a1), some (2, a2), none, none, none] [(0, q2.1)] q2.2
  refine zG.blk (pc' := 14) (l' := [some (2, a0), some (2, a1), some (2, a2), some (0, q2.1), none, none]) (st' := [(0, q2.2 a2 5), (2, a1)]) (M' := q2.2) hX [(.istore_n 3, 0, 0, 0), (.aload_n 1, 0, 0, 0), (.aload_n 2, 0, 0, 0), (.getfield 49, 6, 5, 0)] (by decide +kernel) rfl (And.intro g1 trivial) ?_
  obtain ⟨q5, e6, h⟩ := zbd h
  refine zG.callV (b := a1) (av := [(0, q2.2 a2 5)]) (st := []) (ci := 9) hX (pX9_strengthOn_ok e6) sv_0_78 rfl ⟨by decide, rfl⟩ g4 (by decide +kernel) (by rw [hRm]; exact ⟨Nat.le_of_ble_eq_true rfl, Nat.le_of_ble_eq_true rfl⟩) (by rw [hRm]; exact ⟨Nat.le_of_ble_eq_true rfl, Nat.le_of_ble_eq_true rfl⟩) (Nat.le_of_ble_eq_true rfl) ?_
  show zG C E 6 S 0 0 _ 17 [some (2, a0), some (2, a1), some (2, a2), some (0, q2.1), none, none] [(0, q5.1)] q5.2
  refine zG.blk (pc' := 22) (l' := [some (2, a0), some (2, a1), some (2, a2), some (0, q2.1), some (0, q5.1), some (0, 0)]) (st' := []) (M' := q5.2) hX [(.istore 4, 0, 0, 0), (.iconst 0, 0, 0, 0), (.istore 5, 0, 0, 0)] (by decide +kernel) rfl trivial ?_
  exact zG.wk [false, true, true, true, true, true] (pX0_movePens_22_ok hX hRm zFU _ _ _ _ _ _ h)
theorem pX0_movePens_ok {l : Launch} {E : ZE} {S : ZS} {M : ZM} {a0 a1 a2 : Int} {q : ZM} (h : pX0_movePens S M a0 a1 a2 = some q) : zMet l yX0_movePens cX0_movePens 6 none 3 83 0 0 E S M [(2, a0), (2, a1), (2, a2)] (none) S q :=
  zMet.of (o := 0) (ini := false) (by decide +kernel) rfl (fun h => by cases h) (Nat.le_of_ble_eq_true rfl) (fun C hX hl hRm => by subst hl; exact pX0_movePens_go hX hRm h)
theorem ss_0_81 : zSS 0 81 yJ7_fill_53178 cJ7_fill_53178 4 none 2 := ⟨⟨gt_at 819 (by decide +kernel) rfl, gt_at 273 (by decide +kernel) rfl, gt_at 112 (by decide +kernel) rfl, gt_at 274 (by decide +kernel) rfl⟩, by decide +kernel, by decide +kernel, by decide +kernel⟩
noncomputable def pX0_tellDay_104 (S : ZS) (k66 : ZM → Int → Int → Int → Int → Option ZM) (M : ZM) (x0 : Int) (x1 : Int) (x2 : Int) (x3 : Int) : Option ZM := k66 M x0 x1 x2 (w32 (x3 + 1))
set_option maxHeartbeats 2000000 in
set_option maxRecDepth 20000 in
theorem pX0_tellDay_104_ok {C : ZC} {E : ZE} {S : ZS} {k66 : ZM → Int → Int → Int → Int → Option ZM} {q : ZM} (hX : zCx C E 0 cX0_tellDay 5 none false) (hRm : czR C = { frames := 2, cells := 0, slots := 0, locals := 63 }) (hk66 : ∀ M x0 x1 x2 x3, k66 M x0 x1 x2 x3 = some q → zG C E 5 S 0 0 (zQ C E 0 0 none S q) 66 [some (2, x0), some (2, x1), some (2, x2), some (0, x3), none] [] M) {M : ZM} {x0 : Int} {x1 : Int} {x2 : Int} {x3 : Int} (h : pX0_tellDay_104 S k66 M x0 x1 x2 x3 = some q) : zG C E 5 S 0 0 (zQ C E 0 0 none S q) 104 [some (2, x0), some (2, x1), some (2, x2), some (0, x3), none] [] M := by
  unfold pX0_tellDay_104 at h
  refine zG.blk (pc' := 107) (l' := [some (2, x0), some (2, x1), some (2, x2), some (0, w32 (x3 + 1)), none]) (st' := []) (M' := M) hX [(.iinc 3 1, 0, 0, 0)] (by decide +kernel) rfl trivial ?_
  refine zG.goto (tgt := 66) (off := (-41)) hX (by decide +kernel) (by decide) ?_
  exact (hk66 _ _ _ _ _ h)
noncomputable def pX0_tellDay_66 (S : ZS) : Nat → ZM → Int → Int → Int → Int → Option ZM
  | 0 => fun _ _ _ _ _ => none
  | n + 1 => fun M x0 x1 x2 x3 => if S.1 x1 = 9 then if M x1 1 ≤ x3 then (some M) else (if S.1 x2 = 6 then if S.1 (M x2 2) = 100 ∧ (0 : Int) ≤ x3 ∧ x3 < S.2.1 (M x2 2) then if M (M x2 2) x3 < 0 then (pX0_tellDay_104 S (pX0_tellDay_66 S n) M x0 x1 x2 x3) else (if 5 ≤ M (M x2 2) x3 then (pX0_tellDay_104 S (pX0_tellDay_66 S n) M x0 x1 x2 x3) else (if S.1 x0 = 0 then if S.1 (M x0 1) = 100 ∧ (0 : Int) ≤ M (M x2 2) x3 ∧ M (M x2 2) x3 < S.2.1 (M x0 1) then zlet (upM M (M x0 1) (M (M x2 2) x3) (w32 ((M (M x0 1) (M (M x2 2) x3)) + 1))) fun M36 => pX0_tellDay_104 S (pX0_tellDay_66 S n) M36 x0 x1 x2 x3 else none else none)) else none else none) else none
set_option maxHeartbeats 2000000 in
set_option maxRecDepth 20000 in
theorem pX0_tellDay_66_ok {C : ZC} {E : ZE} {S : ZS} {q : ZM} (hX : zCx C E 0 cX0_tellDay 5 none false) (hRm : czR C = { frames := 2, cells := 0, slots := 0, locals := 63 }) : ∀ (n : Nat) (M : ZM) (x0 : Int) (x1 : Int) (x2 : Int) (x3 : Int), pX0_tellDay_66 S n M x0 x1 x2 x3 = some q → zG C E 5 S 0 0 (zQ C E 0 0 none S q) 66 [some (2, x0), some (2, x1), some (2, x2), some (0, x3), none] [] M := by
  intro n
  induction n with
  | zero => intro M x0 x1 x2 x3 h; cases h
  | succ n ih =>
    intro M x0 x1 x2 x3 h
    unfold pX0_tellDay_66 at h
    obtain ⟨g28, h⟩ := zif h
    refine zG.blk (pc' := 71) (l' := [some (2, x0), some (2, x1), some (2, x2), some (0, x3), none]) (st' := [(0, M x1 1), (0, x3)]) (M' := M) hX [(.iload_n 3, 0, 0, 0), (.aload_n 1, 0, 0, 0), (.getfield 87, 9, 1, 0)] (by decide +kernel) rfl (And.intro g28 trivial) ?_
    refine zG.icmp_ge (tgt := 110) (off := 39) hX (by decide +kernel) (by decide) (fun c29 => ?_) (fun c29 => ?_)
    · have h := zip c29 h
      cases h
      exact zG.vret hX (by decide +kernel)
    · have h := zin c29 h
      obtain ⟨g30, h⟩ := zif h
      obtain ⟨g31, h⟩ := zif h
      refine zG.blk (pc' := 84) (l' := [some (2, x0), some (2, x1), some (2, x2), some (0, x3), some (0, M (M x2 2) x3)]) (st' := [(0, M (M x2 2) x3)]) (M' := M) hX [(.aload_n 2, 0, 0, 0), (.getfield 90, 6, 2, 2), (.iload_n 3, 0, 0, 0), (.iaload, 0, 0, 0), (.istore 4, 0, 0, 0), (.iload 4, 0, 0, 0)] (by decide +kernel) rfl (And.intro g30 (And.intro g31 trivial)) ?_
      refine zG.if_lt (tgt := 104) (off := 20) hX (by decide +kernel) (by decide) (fun c32 => ?_) (fun c32 => ?_)
      · have h := zip c32 h
        exact zG.wk [true, true, true, true, false] (pX0_tellDay_104_ok hX hRm ih h)
      · have h := zin c32 h
        refine zG.blk (pc' := 90) (l' := [some (2, x0), some (2, x1), some (2, x2), some (0, x3), some (0, M (M x2 2) x3)]) (st' := [(0, 5), (0, M (M x2 2) x3)]) (M' := M) hX [(.iload 4, 0, 0, 0), (.iconst 5, 0, 0, 0)] (by decide +kernel) rfl trivial ?_
        refine zG.icmp_ge (tgt := 104) (off := 14) hX (by decide +kernel) (by decide) (fun c33 => ?_) (fun c33 => ?_)
        · have h := zip c33 h
          exact zG.wk [true, true, true, true, false] (pX0_tellDay_104_ok hX hRm ih h)
        · have h := zin c33 h
          obtain ⟨g34, h⟩ := zif h
          obtain ⟨g35, h⟩ := zif h
          refine zG.blk (pc' := 104) (l' := [some (2, x0), some (2, x1), some (2, x2), some (0, x3), some (0, M (M x2 2) x3)]) (st' := []) (M' := (upM M (M x0 1) (M (M x2 2) x3) (w32 ((M (M x0 1) (M (M x2 2) x3)) + 1)))) hX [(.aload_n 0, 0, 0, 0), (.getfield 15, 0, 1, 2), (.iload 4, 0, 0, 0), (.dup2, 0, 0, 0), (.iaload, 0, 0, 0), (.iconst 1, 0, 0, 0), (.iadd, 0, 0, 0), (.iastore, 0, 0, 0)] (by decide +kernel) rfl (And.intro g34 (And.intro g35 (And.intro g35 trivial))) ?_
          generalize upM M (M x0 1) (M (M x2 2) x3) (w32 ((M (M x0 1) (M (M x2 2) x3)) + 1)) = M36 at h ⊢
          have h := zlt h
          exact zG.wk [true, true, true, true, false] (pX0_tellDay_104_ok hX hRm ih h)
noncomputable def pX0_tellDay_45 (S : ZS) (M : ZM) (x0 : Int) (x1 : Int) (x2 : Int) : Option ZM := if S.1 x0 = 0 then if S.1 x2 = 6 then if S.1 (M x0 0) = 100 ∧ (0 : Int) ≤ 11 ∧ 11 < S.2.1 (M x0 0) then zlet (upM M (M x0 0) 11 (M x2 5)) fun M25 => (pJ7_fill_53178 S M25 (M25 x0 1) 0).bind fun q26 => pX0_tellDay_66 S zFU q26 x0 x1 x2 0 else none else none else none
set_option maxHeartbeats 2000000 in
set_option maxRecDepth 20000 in
theorem pX0_tellDay_45_ok {C : ZC} {E : ZE} {S : ZS} {q : ZM} (hX : zCx C E 0 cX0_tellDay 5 none false) (hRm : czR C = { frames := 2, cells := 0, slots := 0, locals := 63 }) {M : ZM} {x0 : Int} {x1 : Int} {x2 : Int} (h : pX0_tellDay_45 S M x0 x1 x2 = some q) : zG C E 5 S 0 0 (zQ C E 0 0 none S q) 45 [some (2, x0), some (2, x1), some (2, x2), none, none] [] M := by
  unfold pX0_tellDay_45 at h
  obtain ⟨g22, h⟩ := zif h
  obtain ⟨g23, h⟩ := zif h
  obtain ⟨g24, h⟩ := zif h
  refine zG.blk (pc' := 56) (l' := [some (2, x0), some (2, x1), some (2, x2), none, none]) (st' := []) (M' := (upM M (M x0 0) 11 (M x2 5))) hX [(.aload_n 0, 0, 0, 0), (.getfield 9, 0, 0, 2), (.bipush 11, 0, 0, 0), (.aload_n 2, 0, 0, 0), (.getfield 49, 6, 5, 0), (.iastore, 0, 0, 0)] (by decide +kernel) rfl (And.intro g22 (And.intro g23 (And.intro g24 trivial))) ?_
  generalize upM M (M x0 0) 11 (M x2 5) = M25 at h ⊢
  have h := zlt h
  refine zG.blk (pc' := 61) (l' := [some (2, x0), some (2, x1), some (2, x2), none, none]) (st' := [(0, 0), (2, M25 x0 1)]) (M' := M25) hX [(.aload_n 0, 0, 0, 0), (.getfield 15, 0, 1, 2), (.iconst 0, 0, 0, 0)] (by decide +kernel) rfl (And.intro g22 trivial) ?_
  obtain ⟨q26, e27, h⟩ := zbd h
  refine zG.callS (av := [(2, M25 x0 1), (0, 0)]) (st := []) hX (pJ7_fill_53178_ok e27) ss_0_81 rfl (by decide +kernel) (by rw [hRm]; exact ⟨Nat.le_of_ble_eq_true rfl, Nat.le_of_ble_eq_true rfl⟩) (by rw [hRm]; exact ⟨Nat.le_of_ble_eq_true rfl, Nat.le_of_ble_eq_true rfl⟩) (Nat.le_of_ble_eq_true rfl) ?_
  show zG C E 5 S 0 0 _ 64 [some (2, x0), some (2, x1), some (2, x2), none, none] [] q26
  refine zG.blk (pc' := 66) (l' := [some (2, x0), some (2, x1), some (2, x2), some (0, 0), none]) (st' := []) (M' := q26) hX [(.iconst 0, 0, 0, 0), (.istore_n 3, 0, 0, 0)] (by decide +kernel) rfl trivial ?_
  exact (pX0_tellDay_66_ok hX hRm zFU _ _ _ _ _ h)
noncomputable def pX0_tellDay_28 (S : ZS) (M : ZM) (x0 : Int) (x1 : Int) (x2 : Int) : Option ZM := if S.1 x0 = 0 then if S.1 x2 = 6 then if S.1 x1 = 9 then (pX9_strengthOn S M x1 (w32 ((M x2 5) + 1))).bind fun q17 => if S.1 (M x0 0) = 100 ∧ (0 : Int) ≤ 10 ∧ 10 < S.2.1 (M x0 0) then zlet (upM q17.2 (M x0 0) 10 q17.1) fun M21 => pX0_tellDay_45 S M21 x0 x1 x2 else none else none else none else none
set_option maxHeartbeats 2000000 in
set_option maxRecDepth 20000 in
theorem pX0_tellDay_28_ok {C : ZC} {E : ZE} {S : ZS} {q : ZM} (hX : zCx C E 0 cX0_tellDay 5 none false) (hRm : czR C = { frames := 2, cells := 0, slots := 0, locals := 63 }) {M : ZM} {x0 : Int} {x1 : Int} {x2 : Int} (h : pX0_tellDay_28 S M x0 x1 x2 = some q) : zG C E 5 S 0 0 (zQ C E 0 0 none S q) 28 [some (2, x0), some (2, x1), some (2, x2), none, none] [] M := by
  unfold pX0_tellDay_28 at h
  obtain ⟨g15, h⟩ := zif h
  obtain ⟨g16, h⟩ := zif h
  refine zG.blk (pc' := 41) (l' := [some (2, x0), some (2, x1), some (2, x2), none, none]) (st' := [(0, w32 ((M x2 5) + 1)), (2, x1), (0, 10), (2, M x0 0)]) (M' := M) hX [(.aload_n 0, 0, 0, 0), (.getfield 9, 0, 0, 2), (.bipush 10, 0, 0, 0), (.aload_n 1, 0, 0, 0), (.aload_n 2, 0, 0, 0), (.getfield 49, 6, 5, 0), (.iconst 1, 0, 0, 0), (.iadd, 0, 0, 0)] (by decide +kernel) rfl (And.intro g15 (And.intro g16 trivial)) ?_
  obtain ⟨g19, h⟩ := zif h
  obtain ⟨q17, e18, h⟩ := zbd h
  refine zG.callV (b := x1) (av := [(0, w32 ((M x2 5) + 1))]) (st := [(0, 10), (2, M x0 0)]) (ci := 9) hX (pX9_strengthOn_ok e18) sv_0_78 rfl ⟨by decide, rfl⟩ g19 (by decide +kernel) (by rw [hRm]; exact ⟨Nat.le_of_ble_eq_true rfl, Nat.le_of_ble_eq_true rfl⟩) (by rw [hRm]; exact ⟨Nat.le_of_ble_eq_true rfl, Nat.le_of_ble_eq_true rfl⟩) (Nat.le_of_ble_eq_true rfl) ?_
  show zG C E 5 S 0 0 _ 44 [some (2, x0), some (2, x1), some (2, x2), none, none] [(0, q17.1), (0, 10), (2, M x0 0)] q17.2
  obtain ⟨g20, h⟩ := zif h
  refine zG.blk (pc' := 45) (l' := [some (2, x0), some (2, x1), some (2, x2), none, none]) (st' := []) (M' := (upM q17.2 (M x0 0) 10 q17.1)) hX [(.iastore, 0, 0, 0)] (by decide +kernel) rfl (And.intro g20 trivial) ?_
  generalize upM q17.2 (M x0 0) 10 q17.1 = M21 at h ⊢
  have h := zlt h
  exact (pX0_tellDay_45_ok hX hRm h)
noncomputable def pX0_tellDay_14 (S : ZS) (M : ZM) (x0 : Int) (x1 : Int) (x2 : Int) : Option ZM := if S.1 x0 = 0 then if S.1 x2 = 6 then if S.1 x1 = 9 then (pX9_strengthOn S M x1 (M x2 5)).bind fun q10 => if S.1 (M x0 0) = 100 ∧ (0 : Int) ≤ 5 ∧ 5 < S.2.1 (M x0 0) then zlet (upM q10.2 (M x0 0) 5 q10.1) fun M14 => pX0_tellDay_28 S M14 x0 x1 x2 else none else none else none else none
set_option maxHeartbeats 2000000 in
set_option maxRecDepth 20000 in
theorem pX0_tellDay_14_ok {C : ZC} {E : ZE} {S : ZS} {q : ZM} (hX : zCx C E 0 cX0_tellDay 5 none false) (hRm : czR C = { frames := 2, cells := 0, slots := 0, locals := 63 }) {M : ZM} {x0 : Int} {x1 : Int} {x2 : Int} (h : pX0_tellDay_14 S M x0 x1 x2 = some q) : zG C E 5 S 0 0 (zQ C E 0 0 none S q) 14 [some (2, x0), some (2, x1), some (2, x2), none, none] [] M := by
  unfold pX0_tellDay_14 at h
  obtain ⟨g8, h⟩ := zif h
  obtain ⟨g9, h⟩ := zif h
  refine zG.blk (pc' := 24) (l' := [some (2, x0), some (2, x1), some (2, x2), none, none]) (st' := [(0, M x2 5), (2, x1), (0, 5), (2, M x0 0)]) (M' := M) hX [(.aload_n 0, 0, 0, 0), (.getfield 9, 0, 0, 2), (.iconst 5, 0, 0, 0), (.aload_n 1, 0, 0, 0), (.aload_n 2, 0, 0, 0), (.getfield 49, 6, 5, 0)] (by decide +kernel) rfl (And.intro g8 (And.intro g9 trivial)) ?_
  obtain ⟨g12, h⟩ := zif h
  obtain ⟨q10, e11, h⟩ := zbd h
  refine zG.callV (b := x1) (av := [(0, M x2 5)]) (st := [(0, 5), (2, M x0 0)]) (ci := 9) hX (pX9_strengthOn_ok e11) sv_0_78 rfl ⟨by decide, rfl⟩ g12 (by decide +kernel) (by rw [hRm]; exact ⟨Nat.le_of_ble_eq_true rfl, Nat.le_of_ble_eq_true rfl⟩) (by rw [hRm]; exact ⟨Nat.le_of_ble_eq_true rfl, Nat.le_of_ble_eq_true rfl⟩) (Nat.le_of_ble_eq_true rfl) ?_
  show zG C E 5 S 0 0 _ 27 [some (2, x0), some (2, x1), some (2, x2), none, none] [(0, q10.1), (0, 5), (2, M x0 0)] q10.2
  obtain ⟨g13, h⟩ := zif h
  refine zG.blk (pc' := 28) (l' := [some (2, x0), some (2, x1), some (2, x2), none, none]) (st' := []) (M' := (upM q10.2 (M x0 0) 5 q10.1)) hX [(.iastore, 0, 0, 0)] (by decide +kernel) rfl (And.intro g13 trivial) ?_
  generalize upM q10.2 (M x0 0) 5 q10.1 = M14 at h ⊢
  have h := zlt h
  exact (pX0_tellDay_28_ok hX hRm h)
noncomputable def pX0_tellDay (S : ZS) (M : ZM) (a0 : Int) (a1 : Int) (a2 : Int) : Option ZM := if S.1 a0 = 0 then if S.1 a2 = 6 then if S.1 a1 = 9 then (pX9_wayOn S M a1 (M a2 5)).bind fun q3 => if S.1 (M a0 0) = 100 ∧ (0 : Int) ≤ 4 ∧ 4 < S.2.1 (M a0 0) then zlet (upM q3.2 (M a0 0) 4 q3.1) fun M7 => pX0_tellDay_14 S M7 a0 a1 a2 else none else none else none else none
set_option maxHeartbeats 2000000 in
set_option maxRecDepth 20000 in
theorem pX0_tellDay_go {C : ZC} {E : ZE} {S : ZS} {M : ZM} {a0 a1 a2 : Int} {q : ZM} (hX : zCx C E 0 cX0_tellDay 5 none false) (hRm : czR C = { frames := 2, cells := 0, slots := 0, locals := 63 }) (h : pX0_tellDay  S M a0 a1 a2 = some q) : zG C E 5 S 0 0 (zQ C E 0 0 none S q) 0 [some (2, a0), some (2, a1), some (2, a2), none, none] [] M := by
  unfold pX0_tellDay at h
  obtain ⟨g1, h⟩ := zif h
  obtain ⟨g2, h⟩ := zif h
  refine zG.blk (pc' := 10) (l' := [some (2, a0), some (2, a1), some (2, a2), none, none]) (st' := [(0, M a2 5), (2, a1), (0, 4), (2, M a0 0)]) (M' := M) hX [(.aload_n 0, 0, 0, 0), (.getfield 9, 0, 0, 2), (.iconst 4, 0, 0, 0), (.aload_n 1, 0, 0, 0), (.aload_n 2, 0, 0, 0), (.getfield 49, 6, 5, 0)] (by decide +kernel) rfl (And.intro g1 (And.intro g2 trivial)) ?_
  obtain ⟨g5, h⟩ := zif h
  obtain ⟨q3, e4, h⟩ := zbd h
  refine zG.callV (b := a1) (av := [(0, M a2 5)]) (st := [(0, 4), (2, M a0 0)]) (ci := 9) hX (pX9_wayOn_ok e4) sv_0_74 rfl ⟨by decide, rfl⟩ g5 (by decide +kernel) (by rw [hRm]; exact ⟨Nat.le_of_ble_eq_true rfl, Nat.le_of_ble_eq_true rfl⟩) (by rw [hRm]; exact ⟨Nat.le_of_ble_eq_true rfl, Nat.le_of_ble_eq_true rfl⟩) (Nat.le_of_ble_eq_true rfl) ?_
  show zG C E 5 S 0 0 _ 13 [some (2, a0), some (2, a1), some (2, a2), none, none] [(0, q3.1), (0, 4), (2, M a0 0)] q3.2
  obtain ⟨g6, h⟩ := zif h
  refine zG.blk (pc' := 14) (l' := [some (2, a0), some (2, a1), some (2, a2), none, none]) (st' := []) (M' := (upM q3.2 (M a0 0) 4 q3.1)) hX [(.iastore, 0, 0, 0)] (by decide +kernel) rfl (And.intro g6 trivial) ?_
  generalize upM q3.2 (M a0 0) 4 q3.1 = M7 at h ⊢
  have h := zlt h
  exact (pX0_tellDay_14_ok hX hRm h)
theorem pX0_tellDay_ok {l : Launch} {E : ZE} {S : ZS} {M : ZM} {a0 a1 a2 : Int} {q : ZM} (h : pX0_tellDay S M a0 a1 a2 = some q) : zMet l yX0_tellDay cX0_tellDay 5 none 2 63 0 0 E S M [(2, a0), (2, a1), (2, a2)] (none) S q :=
  zMet.of (o := 0) (ini := false) (by decide +kernel) rfl (fun h => by cases h) (Nat.le_of_ble_eq_true rfl) (fun C hX hl hRm => by subst hl; exact pX0_tellDay_go hX hRm h)
theorem sv_0_96 : zSV 0 96 yX9_rowOf cX9_rowOf 2 (some .int) 1 := ⟨⟨gt_at 825 (by decide +kernel) rfl, gt_at 826 (by decide +kernel) rfl, gt_at 827 (by decide +kernel) rfl, gt_at 108 (by decide +kernel) rfl, gt_at 828 (by decide +kernel) rfl⟩, by decide +kernel, by decide +kernel, by decide +kernel⟩
theorem sv_0_99 : zSV 0 99 yX9_columnOf cX9_columnOf 2 (some .int) 1 := ⟨⟨gt_at 829 (by decide +kernel) rfl, gt_at 830 (by decide +kernel) rfl, gt_at 831 (by decide +kernel) rfl, gt_at 108 (by decide +kernel) rfl, gt_at 832 (by decide +kernel) rfl⟩, by decide +kernel, by decide +kernel, by decide +kernel⟩
noncomputable def pX0_tellPen_123 (S : ZS) (M : ZM) : Option ZM := some M
set_option maxHeartbeats 2000000 in
set_option maxRecDepth 20000 in
theorem pX0_tellPen_123_ok {C : ZC} {E : ZE} {S : ZS} {q : ZM} (hX : zCx C E 0 cX0_tellPen 6 none false) (hRm : czR C = { frames := 2, cells := 0, slots := 0, locals := 61 }) {M : ZM} (h : pX0_tellPen_123 S M = some q) : zG C E 6 S 0 0 (zQ C E 0 0 none S q) 123 [none, none, none, none, none, none] [] M := by
  unfold pX0_tellPen_123 at h
  cases h
  exact zG.vret hX (by decide +kernel)
noncomputable def pX0_tellPen_108 (S : ZS) (M : ZM) (x0 : Int) (x1 : Int) (x4 : Int) (y0 : Int) (y1 : Int) (y2 : Int) : Option ZM := if S.1 y2 = 100 ∧ (0 : Int) ≤ y1 ∧ y1 < S.2.1 y2 then zlet (upM M y2 y1 y0) fun M32 => if S.1 x0 = 0 then if S.1 x1 = 9 then if S.1 (M32 x1 9) = 100 ∧ (0 : Int) ≤ x4 ∧ x4 < S.2.1 (M32 x1 9) then if S.1 (M32 x0 0) = 100 ∧ (0 : Int) ≤ 9 ∧ 9 < S.2.1 (M32 x0 0) then zlet (upM M32 (M32 x0 0) 9 (M32 (M32 x1 9) x4)) fun M37 => pX0_tellPen_123 S M37 else none else none else none else none else none
set_option maxHeartbeats 2000000 in
set_option maxRecDepth 20000 in
theorem pX0_tellPen_108_ok {C : ZC} {E : ZE} {S : ZS} {q : ZM} (hX : zCx C E 0 cX0_tellPen 6 none false) (hRm : czR C = { frames := 2, cells := 0, slots := 0, locals := 61 }) {M : ZM} {x0 : Int} {x1 : Int} {x4 : Int} {y0 : Int} {y1 : Int} {y2 : Int} (h : pX0_tellPen_108 S M x0 x1 x4 y0 y1 y2 = some q) : zG C E 6 S 0 0 (zQ C E 0 0 none S q) 108 [some (2, x0), some (2, x1), none, none, some (0, x4), none] [(0, y0), (0, y1), (2, y2)] M := by
  unfold pX0_tellPen_108 at h
  obtain ⟨g31, h⟩ := zif h
  refine zG.blk (pc' := 109) (l' := [some (2, x0), some (2, x1), none, none, some (0, x4), none]) (st' := []) (M' := (upM M y2 y1 y0)) hX [(.iastore, 0, 0, 0)] (by decide +kernel) rfl (And.intro g31 trivial) ?_
  generalize upM M y2 y1 y0 = M32 at h ⊢
  have h := zlt h
  obtain ⟨g33, h⟩ := zif h
  obtain ⟨g34, h⟩ := zif h
  obtain ⟨g35, h⟩ := zif h
  obtain ⟨g36, h⟩ := zif h
  refine zG.blk (pc' := 123) (l' := [some (2, x0), some (2, x1), none, none, some (0, x4), none]) (st' := []) (M' := (upM M32 (M32 x0 0) 9 (M32 (M32 x1 9) x4))) hX [(.aload_n 0, 0, 0, 0), (.getfield 9, 0, 0, 2), (.bipush 9, 0, 0, 0), (.aload_n 1, 0, 0, 0), (.getfield 105, 9, 9, 2), (.iload 4, 0, 0, 0), (.iaload, 0, 0, 0), (.iastore, 0, 0, 0)] (by decide +kernel) rfl (And.intro g33 (And.intro g34 (And.intro g35 (And.intro g36 trivial)))) ?_
  generalize upM M32 (M32 x0 0) 9 (M32 (M32 x1 9) x4) = M37 at h ⊢
  have h := zlt h
  exact zG.wk [false, false, true, true, false, true] (pX0_tellPen_123_ok hX hRm h)
noncomputable def pX0_tellPen_90 (S : ZS) (M : ZM) (x0 : Int) (x1 : Int) (x3 : Int) (x4 : Int) (x5 : Int) (y0 : Int) (y1 : Int) (y2 : Int) : Option ZM := if S.1 y2 = 100 ∧ (0 : Int) ≤ y1 ∧ y1 < S.2.1 y2 then zlet (upM M y2 y1 y0) fun M28 => if S.1 x0 = 0 then pX0_tellPen_108 S M28 x0 x1 x4 (if x5 = x3 then (1 : Int) else 0) 8 (M28 x0 0) else none else none
set_option maxHeartbeats 2000000 in
set_option maxRecDepth 20000 in
theorem pX0_tellPen_90_ok {C : ZC} {E : ZE} {S : ZS} {q : ZM} (hX : zCx C E 0 cX0_tellPen 6 none false) (hRm : czR C = { frames := 2, cells := 0, slots := 0, locals := 61 }) {M : ZM} {x0 : Int} {x1 : Int} {x3 : Int} {x4 : Int} {x5 : Int} {y0 : Int} {y1 : Int} {y2 : Int} (h : pX0_tellPen_90 S M x0 x1 x3 x4 x5 y0 y1 y2 = some q) : zG C E 6 S 0 0 (zQ C E 0 0 none S q) 90 [some (2, x0), some (2, x1), none, some (0, x3), some (0, x4), some (0, x5)] [(0, y0), (0, y1), (2, y2)] M := by
  unfold pX0_tellPen_90 at h
  obtain ⟨g27, h⟩ := zif h
  refine zG.blk (pc' := 91) (l' := [some (2, x0), some (2, x1), none, some (0, x3), some (0, x4), some (0, x5)]) (st' := []) (M' := (upM M y2 y1 y0)) hX [(.iastore, 0, 0, 0)] (by decide +kernel) rfl (And.intro g27 trivial) ?_
  generalize upM M y2 y1 y0 = M28 at h ⊢
  have h := zlt h
  obtain ⟨g29, h⟩ := zif h
  refine zG.blk (pc' := 100) (l' := [some (2, x0), some (2, x1), none, some (0, x3), some (0, x4), some (0, x5)]) (st' := [(0, x3), (0, x5), (0, 8), (2, M28 x0 0)]) (M' := M28) hX [(.aload_n 0, 0, 0, 0), (.getfield 9, 0, 0, 2), (.bipush 8, 0, 0, 0), (.iload 5, 0, 0, 0), (.iload_n 3, 0, 0, 0)] (by decide +kernel) rfl (And.intro g29 trivial) ?_
  have key30 : zG C E 6 S 0 0 (zQ C E 0 0 none S q) 108 [some (2, x0), some (2, x1), none, some (0, x3), some (0, x4), some (0, x5)] [(0, (if x5 = x3 then (1 : Int) else 0)), (0, 8), (2, M28 x0 0)] M28 := by
    exact zG.wk [true, true, true, false, true, false] (pX0_tellPen_108_ok hX hRm h)
  refine zG.icmp_ne (tgt := 107) (off := 7) hX (by decide +kernel) (by decide) (fun c38 => ?_) (fun c38 => ?_)
  · refine zG.blk (pc' := 108) (l' := [some (2, x0), some (2, x1), none, some (0, x3), some (0, x4), some (0, x5)]) (st' := [(0, 0), (0, 8), (2, M28 x0 0)]) (M' := M28) hX [(.iconst 0, 0, 0, 0)] (by decide +kernel) rfl trivial ?_
    (have k := key30; simp only [if_neg c38] at k; exact k)
  · refine zG.blk (pc' := 104) (l' := [some (2, x0), some (2, x1), none, some (0, x3), some (0, x4), some (0, x5)]) (st' := [(0, 1), (0, 8), (2, M28 x0 0)]) (M' := M28) hX [(.iconst 1, 0, 0, 0)] (by decide +kernel) rfl trivial ?_
    refine zG.goto (tgt := 108) (off := 4) hX (by decide +kernel) (by decide) ?_
    (have k := key30; simp only [if_pos c38] at k; exact k)
noncomputable def pX0_tellPen_73 (S : ZS) (M : ZM) (x0 : Int) (x1 : Int) (x3 : Int) (x4 : Int) (x5 : Int) : Option ZM := if S.1 x0 = 0 then pX0_tellPen_90 S M x0 x1 x3 x4 x5 (if x5 = (-1) then (0 : Int) else 1) 7 (M x0 0) else none
set_option maxHeartbeats 2000000 in
set_option maxRecDepth 20000 in
theorem pX0_tellPen_73_ok {C : ZC} {E : ZE} {S : ZS} {q : ZM} (hX : zCx C E 0 cX0_tellPen 6 none false) (hRm : czR C = { frames := 2, cells := 0, slots := 0, locals := 61 }) {M : ZM} {x0 : Int} {x1 : Int} {x3 : Int} {x4 : Int} {x5 : Int} (h : pX0_tellPen_73 S M x0 x1 x3 x4 x5 = some q) : zG C E 6 S 0 0 (zQ C E 0 0 none S q) 73 [some (2, x0), some (2, x1), none, some (0, x3), some (0, x4), some (0, x5)] [] M := by
  unfold pX0_tellPen_73 at h
  obtain ⟨g25, h⟩ := zif h
  refine zG.blk (pc' := 82) (l' := [some (2, x0), some (2, x1), none, some (0, x3), some (0, x4), some (0, x5)]) (st' := [(0, (-1)), (0, x5), (0, 7), (2, M x0 0)]) (M' := M) hX [(.aload_n 0, 0, 0, 0), (.getfield 9, 0, 0, 2), (.bipush 7, 0, 0, 0), (.iload 5, 0, 0, 0), (.iconst (-1), 0, 0, 0)] (by decide +kernel) rfl (And.intro g25 trivial) ?_
  have key26 : zG C E 6 S 0 0 (zQ C E 0 0 none S q) 90 [some (2, x0), some (2, x1), none, some (0, x3), some (0, x4), some (0, x5)] [(0, (if x5 = (-1) then (0 : Int) else 1)), (0, 7), (2, M x0 0)] M := by
    exact (pX0_tellPen_90_ok hX hRm h)
  refine zG.icmp_ne (tgt := 89) (off := 7) hX (by decide +kernel) (by decide) (fun c39 => ?_) (fun c39 => ?_)
  · refine zG.blk (pc' := 90) (l' := [some (2, x0), some (2, x1), none, some (0, x3), some (0, x4), some (0, x5)]) (st' := [(0, 1), (0, 7), (2, M x0 0)]) (M' := M) hX [(.iconst 1, 0, 0, 0)] (by decide +kernel) rfl trivial ?_
    (have k := key26; simp only [if_neg c39] at k; exact k)
  · refine zG.blk (pc' := 86) (l' := [some (2, x0), some (2, x1), none, some (0, x3), some (0, x4), some (0, x5)]) (st' := [(0, 0), (0, 7), (2, M x0 0)]) (M' := M) hX [(.iconst 0, 0, 0, 0)] (by decide +kernel) rfl trivial ?_
    refine zG.goto (tgt := 90) (off := 4) hX (by decide +kernel) (by decide) ?_
    (have k := key26; simp only [if_pos c39] at k; exact k)
noncomputable def pX0_tellPen_48 (S : ZS) (M : ZM) (x0 : Int) (x1 : Int) (x2 : Int) (x3 : Int) (x4 : Int) (x5 : Int) : Option ZM := if S.1 x0 = 0 then if S.1 x2 = 6 then if S.1 (M x2 1) = 100 ∧ (0 : Int) ≤ x3 ∧ x3 < S.2.1 (M x2 1) then if S.1 (M x0 0) = 100 ∧ (0 : Int) ≤ 3 ∧ 3 < S.2.1 (M x0 0) then zlet (upM M (M x0 0) 3 (M (M x2 1) x3)) fun M21 => if S.1 (M21 x0 1) = 100 ∧ (0 : Int) ≤ x3 ∧ x3 < S.2.1 (M21 x0 1) then if S.1 (M21 x0 0) = 100 ∧ (0 : Int) ≤ 6 ∧ 6 < S.2.1 (M21 x0 0) then zlet (upM M21 (M21 x0 0) 6 (M21 (M21 x0 1) x3)) fun M24 => pX0_tellPen_73 S M24 x0 x1 x3 x4 x5 else none else none else none else none else none else none
set_option maxHeartbeats 2000000 in
set_option maxRecDepth 20000 in
theorem pX0_tellPen_48_ok {C : ZC} {E : ZE} {S : ZS} {q : ZM} (hX : zCx C E 0 cX0_tellPen 6 none false) (hRm : czR C = { frames := 2, cells := 0, slots := 0, locals := 61 }) {M : ZM} {x0 : Int} {x1 : Int} {x2 : Int} {x3 : Int} {x4 : Int} {x5 : Int} (h : pX0_tellPen_48 S M x0 x1 x2 x3 x4 x5 = some q) : zG C E 6 S 0 0 (zQ C E 0 0 none S q) 48 [some (2, x0), some (2, x1), some (2, x2), some (0, x3), some (0, x4), some (0, x5)] [] M := by
  unfold pX0_tellPen_48 at h
  obtain ⟨g17, h⟩ := zif h
  obtain ⟨g18, h⟩ := zif h
  obtain ⟨g19, h⟩ := zif h
  obtain ⟨g20, h⟩ := zif h
  refine zG.blk (pc' := 60) (l' := [some (2, x0), some (2, x1), some (2, x2), some (0, x3), some (0, x4), some (0, x5)]) (st' := []) (M' := (upM M (M x0 0) 3 (M (M x2 1) x3))) hX [(.aload_n 0, 0, 0, 0), (.getfield 9, 0, 0, 2), (.iconst 3, 0, 0, 0), (.aload_n 2, 0, 0, 0), (.getfield 102, 6, 1, 2), (.iload_n 3, 0, 0, 0), (.iaload, 0, 0, 0), (.iastore, 0, 0, 0)] (by decide +kernel) rfl (And.intro g17 (And.intro g18 (And.intro g19 (And.intro g20 trivial)))) ?_
  generalize upM M (M x0 0) 3 (M (M x2 1) x3) = M21 at h ⊢
  have h := zlt h
  obtain ⟨g22, h⟩ := zif h
  obtain ⟨g23, h⟩ := zif h
  refine zG.blk (pc' := 73) (l' := [some (2, x0), some (2, x1), some (2, x2), some (0, x3), some (0, x4), some (0, x5)]) (st' := []) (M' := (upM M21 (M21 x0 0) 6 (M21 (M21 x0 1) x3))) hX [(.aload_n 0, 0, 0, 0), (.getfield 9, 0, 0, 2), (.bipush 6, 0, 0, 0), (.aload_n 0, 0, 0, 0), (.getfield 15, 0, 1, 2), (.iload_n 3, 0, 0, 0), (.iaload, 0, 0, 0), (.iastore, 0, 0, 0)] (by decide +kernel) rfl (And.intro g17 (And.intro g17 (And.intro g22 (And.intro g23 trivial)))) ?_
  generalize upM M21 (M21 x0 0) 6 (M21 (M21 x0 1) x3) = M24 at h ⊢
  have h := zlt h
  exact zG.wk [true, true, false, true, true, true] (pX0_tellPen_73_ok hX hRm h)
noncomputable def pX0_tellPen_24 (S : ZS) (M : ZM) (x0 : Int) (x1 : Int) (x2 : Int) (x3 : Int) (x4 : Int) (x5 : Int) : Option ZM := if S.1 x0 = 0 then if S.1 x1 = 9 then (pX9_rowOf S M x1 x4).bind fun q8 => if S.1 (M x0 0) = 100 ∧ (0 : Int) ≤ 1 ∧ 1 < S.2.1 (M x0 0) then zlet (upM q8.2 (M x0 0) 1 q8.1) fun M12 => (pX9_columnOf S M12 x1 x4).bind fun q13 => if S.1 (M12 x0 0) = 100 ∧ (0 : Int) ≤ 2 ∧ 2 < S.2.1 (M12 x0 0) then zlet (upM q13.2 (M12 x0 0) 2 q13.1) fun M16 => pX0_tellPen_48 S M16 x0 x1 x2 x3 x4 x5 else none else none else none else none
set_option maxHeartbeats 2000000 in
set_option maxRecDepth 20000 in
theorem pX0_tellPen_24_ok {C : ZC} {E : ZE} {S : ZS} {q : ZM} (hX : zCx C E 0 cX0_tellPen 6 none false) (hRm : czR C = { frames := 2, cells := 0, slots := 0, locals := 61 }) {M : ZM} {x0 : Int} {x1 : Int} {x2 : Int} {x3 : Int} {x4 : Int} {x5 : Int} (h : pX0_tellPen_24 S M x0 x1 x2 x3 x4 x5 = some q) : zG C E 6 S 0 0 (zQ C E 0 0 none S q) 24 [some (2, x0), some (2, x1), some (2, x2), some (0, x3), some (0, x4), some (0, x5)] [] M := by
  unfold pX0_tellPen_24 at h
  obtain ⟨g7, h⟩ := zif h
  refine zG.blk (pc' := 32) (l' := [some (2, x0), some (2, x1), some (2, x2), some (0, x3), some (0, x4), some (0, x5)]) (st' := [(0, x4), (2, x1), (0, 1), (2, M x0 0)]) (M' := M) hX [(.aload_n 0, 0, 0, 0), (.getfield 9, 0, 0, 2), (.iconst 1, 0, 0, 0), (.aload_n 1, 0, 0, 0), (.iload 4, 0, 0, 0)] (by decide +kernel) rfl (And.intro g7 trivial) ?_
  obtain ⟨g10, h⟩ := zif h
  obtain ⟨q8, e9, h⟩ := zbd h
  refine zG.callV (b := x1) (av := [(0, x4)]) (st := [(0, 1), (2, M x0 0)]) (ci := 9) hX (pX9_rowOf_ok e9) sv_0_96 rfl ⟨by decide, rfl⟩ g10 (by decide +kernel) (by rw [hRm]; exact ⟨Nat.le_of_ble_eq_true rfl, Nat.le_of_ble_eq_true rfl⟩) (by rw [hRm]; exact ⟨Nat.le_of_ble_eq_true rfl, Nat.le_of_ble_eq_true rfl⟩) (Nat.le_of_ble_eq_true rfl) ?_
  show zG C E 6 S 0 0 _ 35 [some (2, x0), some (2, x1), some (2, x2), some (0, x3), some (0, x4), some (0, x5)] [(0, q8.1), (0, 1), (2, M x0 0)] q8.2
  obtain ⟨g11, h⟩ := zif h
  refine zG.blk (pc' := 36) (l' := [some (2, x0), some (2, x1), some (2, x2), some (0, x3), some (0, x4), some (0, x5)]) (st' := []) (M' := (upM q8.2 (M x0 0) 1 q8.1)) hX [(.iastore, 0, 0, 0)] (by decide +kernel) rfl (And.intro g11 trivial) ?_
  generalize upM q8.2 (M x0 0) 1 q8.1 = M12 at h ⊢
  have h := zlt h
  refine zG.blk (pc' := 44) (l' := [some (2, x0), some (2, x1), some (2, x2), some (0, x3), some (0, x4), some (0, x5)]) (st' := [(0, x4), (2, x1), (0, 2), (2, M12 x0 0)]) (M' := M12) hX [(.aload_n 0, 0, 0, 0), (.getfield 9, 0, 0, 2), (.iconst 2, 0, 0, 0), (.aload_n 1, 0, 0, 0), (.iload 4, 0, 0, 0)] (by decide +kernel) rfl (And.intro g7 trivial) ?_
  obtain ⟨q13, e14, h⟩ := zbd h
  refine zG.callV (b := x1) (av := [(0, x4)]) (st := [(0, 2), (2, M12 x0 0)]) (ci := 9) hX (pX9_columnOf_ok e14) sv_0_99 rfl ⟨by decide, rfl⟩ g10 (by decide +kernel) (by rw [hRm]; exact ⟨Nat.le_of_ble_eq_true rfl, Nat.le_of_ble_eq_true rfl⟩) (by rw [hRm]; exact ⟨Nat.le_of_ble_eq_true rfl, Nat.le_of_ble_eq_true rfl⟩) (Nat.le_of_ble_eq_true rfl) ?_
  show zG C E 6 S 0 0 _ 47 [some (2, x0), some (2, x1), some (2, x2), some (0, x3), some (0, x4), some (0, x5)] [(0, q13.1), (0, 2), (2, M12 x0 0)] q13.2
  obtain ⟨g15, h⟩ := zif h
  refine zG.blk (pc' := 48) (l' := [some (2, x0), some (2, x1), some (2, x2), some (0, x3), some (0, x4), some (0, x5)]) (st' := []) (M' := (upM q13.2 (M12 x0 0) 2 q13.1)) hX [(.iastore, 0, 0, 0)] (by decide +kernel) rfl (And.intro g15 trivial) ?_
  generalize upM q13.2 (M12 x0 0) 2 q13.1 = M16 at h ⊢
  have h := zlt h
  exact (pX0_tellPen_48_ok hX hRm h)
noncomputable def pX0_tellPen (S : ZS) (M : ZM) (a0 : Int) (a1 : Int) (a2 : Int) (a3 : Int) : Option ZM := if S.1 a2 = 6 then if S.1 (M a2 0) = 100 ∧ (0 : Int) ≤ a3 ∧ a3 < S.2.1 (M a2 0) then if S.1 (M a2 2) = 100 ∧ (0 : Int) ≤ M (M a2 0) a3 ∧ M (M a2 0) a3 < S.2.1 (M a2 2) then if S.1 a0 = 0 then if S.1 (M a0 0) = 100 ∧ (0 : Int) ≤ 0 ∧ 0 < S.2.1 (M a0 0) then zlet (upM M (M a0 0) 0 a3) fun M6 => pX0_tellPen_24 S M6 a0 a1 a2 a3 (M (M a2 0) a3) (M (M a2 2) (M (M a2 0) a3)) else none else none else none else none else none
set_option maxHeartbeats 2000000 in
set_option maxRecDepth 20000 in
theorem pX0_tellPen_go {C : ZC} {E : ZE} {S : ZS} {M : ZM} {a0 a1 a2 a3 : Int} {q : ZM} (hX : zCx C E 0 cX0_tellPen 6 none false) (hRm : czR C = { frames := 2, cells := 0, slots := 0, locals := 61 }) (h : pX0_tellPen  S M a0 a1 a2 a3 = some q) : zG C E 6 S 0 0 (zQ C E 0 0 none S q) 0 [some (2, a0), some (2, a1), some (2, a2), some (0, a3), none, none] [] M := by
  unfold pX0_tellPen at h
  obtain ⟨g1, h⟩ := zif h
  obtain ⟨g2, h⟩ := zif h
  obtain ⟨g3, h⟩ := zif h
  obtain ⟨g4, h⟩ := zif h
  obtain ⟨g5, h⟩ := zif h
  refine zG.blk (pc' := 24) (l' := [some (2, a0), some (2, a1), some (2, a2), some (0, a3), some (0, M (M a2 0) a3), some (0, M (M a2 2) (M (M a2 0) a3))]) (st' := []) (M' := (upM M (M a0 0) 0 a3)) hX [(.aload_n 2, 0, 0, 0), (.getfield 93, 6, 0, 2), (.iload_n 3, 0, 0, 0), (.iaload, 0, 0, 0), (.istore 4, 0, 0, 0), (.aload_n 2, 0, 0, 0), (.getfield 90, 6, 2, 2), (.iload 4, 0, 0, 0), (.iaload, 0, 0, 0), (.istore 5, 0, 0, 0), (.aload_n 0, 0, 0, 0), (.getfield 9, 0, 0, 2), (.iconst 0, 0, 0, 0), (.iload_n 3, 0, 0, 0), (.iastore, 0, 0, 0)] (by decide +kernel) rfl (And.intro g1 (And.intro g2 (And.intro g1 (And.intro g3 (And.intro g4 (And.intro g5 trivial)))))) ?_
  generalize upM M (M a0 0) 0 a3 = M6 at h ⊢
  have h := zlt h
  exact (pX0_tellPen_24_ok hX hRm h)
theorem pX0_tellPen_ok {l : Launch} {E : ZE} {S : ZS} {M : ZM} {a0 a1 a2 a3 : Int} {q : ZM} (h : pX0_tellPen S M a0 a1 a2 a3 = some q) : zMet l yX0_tellPen cX0_tellPen 6 none 2 61 0 0 E S M [(2, a0), (2, a1), (2, a2), (0, a3)] (none) S q :=
  zMet.of (o := 0) (ini := false) (by decide +kernel) rfl (fun h => by cases h) (Nat.le_of_ble_eq_true rfl) (fun C hX hl hRm => by subst hl; exact pX0_tellPen_go hX hRm h)
noncomputable def pX4_joined_89 (S : ZS) (M : ZM) (y0 : Int) : Option (Int × ZM) := some (y0, M)
set_option maxHeartbeats 2000000 in
set_option maxRecDepth 20000 in
theorem pX4_joined_89_ok {C : ZC} {E : ZE} {S : ZS} {q : (Int × ZM)} (hX : zCx C E 4 cX4_joined 5 (some .long) false) (hRm : czR C = { frames := 1, cells := 0, slots := 0, locals := 40 }) {M : ZM} {y0 : Int} (h : pX4_joined_89 S M y0 = some q) : zG C E 5 S 0 0 (zQ C E 0 0 (some (1, q.1)) S q.2) 89 [none, none, none, none, none] [(1, y0)] M := by
  unfold pX4_joined_89 at h
  cases h
  exact zG.lret hX (by decide +kernel)
noncomputable def pX4_joined_103 (S : ZS) (M : ZM) (y0 : Int) : Option (Int × ZM) := some (y0, M)
set_option maxHeartbeats 2000000 in
set_option maxRecDepth 20000 in
theorem pX4_joined_103_ok {C : ZC} {E : ZE} {S : ZS} {q : (Int × ZM)} (hX : zCx C E 4 cX4_joined 5 (some .long) false) (hRm : czR C = { frames := 1, cells := 0, slots := 0, locals := 40 }) {M : ZM} {y0 : Int} (h : pX4_joined_103 S M y0 = some q) : zG C E 5 S 0 0 (zQ C E 0 0 (some (1, q.1)) S q.2) 103 [none, none, none, none, none] [(1, y0)] M := by
  unfold pX4_joined_103 at h
  cases h
  exact zG.lret hX (by decide +kernel)
noncomputable def pX4_joined (S : ZS) (M : ZM) (a0 : Int) (a1 : Int) (a2 : Int) : Option (Int × ZM) := if a0 = 2 then (some (w64 (a1 + a2), M)) else if a0 = 3 then (some (w64 (a1 - a2), M)) else if a0 = 4 then (some (w64 (a1 * a2), M)) else if a0 = 5 then (if zcmp a2 0 = 0 then (pX4_joined_89 S M 0) else (if ¬ a2 = 0 then pX4_joined_89 S M (w64 (Int.tdiv a1 a2)) else none)) else if a0 = 6 then (if zcmp a2 0 = 0 then (pX4_joined_103 S M 0) else (if ¬ a2 = 0 then pX4_joined_103 S M (Int.tmod a1 a2) else none)) else if a0 = 7 then (some ((if 0 ≤ zcmp a1 a2 then (0 : Int) else 1), M)) else if a0 = 8 then (some ((if 0 < zcmp a1 a2 then (0 : Int) else 1), M)) else if a0 = 9 then (some ((if zcmp a1 a2 = 0 then (1 : Int) else 0), M)) else if a0 = 10 then (some ((if zcmp a1 a2 < 0 then (0 : Int) else 1), M)) else if a0 = 11 then (some ((if zcmp a1 a2 ≤ 0 then (0 : Int) else 1), M)) else if a0 = 12 then (some (zandl a1 a2, M)) else if a0 = 13 then (some (zorl a1 a2, M)) else (some ((if zcmp a1 a2 ≤ 0 then (0 : Int) else 1), M))
set_option maxHeartbeats 2000000 in
set_option maxRecDepth 20000 in
theorem pX4_joined_go {C : ZC} {E : ZE} {S : ZS} {M : ZM} {a0 a1 a2 : Int} {q : (Int × ZM)} (hX : zCx C E 4 cX4_joined 5 (some .long) false) (hRm : czR C = { frames := 1, cells := 0, slots := 0, locals := 40 }) (h : pX4_joined  S M a0 a1 a2 = some q) : zG C E 5 S 0 0 (zQ C E 0 0 (some (1, q.1)) S q.2) 0 [some (0, a0), some (1, a1), none, some (1, a2), none] [] M := by
  unfold pX4_joined at h
  refine zG.blk (pc' := 1) (l' := [some (0, a0), some (1, a1), none, some (1, a2), none]) (st' := [(0, a0)]) (M' := M) hX [(.iload_n 0, 0, 0, 0)] (by decide +kernel) rfl trivial ?_
  have hs1 : decode cX4_joined 1 = .ok (.tableswitch 159 2 13 #[63, 67, 71, 75, 89, 111, 123, 135, 147, 159, 103, 107], 63) := by decide +kernel
  by_cases c2 : a0 = 2
  · have h := zip c2 h
    refine zG.tabIn (tgt := 64) hX hs1 2 c2 (by decide) rfl (by decide) ?_
    refine zG.blk (pc' := 67) (l' := [some (0, a0), some (1, a1), none, some (1, a2), none]) (st' := [(1, w64 (a1 + a2))]) (M' := M) hX [(.lload_n 1, 0, 0, 0), (.lload_n 3, 0, 0, 0), (.ladd, 0, 0, 0)] (by decide +kernel) rfl trivial ?_
    cases h
    exact zG.lret hX (by decide +kernel)
  · have h := zin c2 h
    by_cases c3 : a0 = 3
    · have h := zip c3 h
      refine zG.tabIn (tgt := 68) hX hs1 3 c3 (by decide) rfl (by decide) ?_
      refine zG.blk (pc' := 71) (l' := [some (0, a0), some (1, a1), none, some (1, a2), none]) (st' := [(1, w64 (a1 - a2))]) (M' := M) hX [(.lload_n 1, 0, 0, 0), (.lload_n 3, 0, 0, 0), (.lsub, 0, 0, 0)] (by decide +kernel) rfl trivial ?_
      cases h
      exact zG.lret hX (by decide +kernel)
    · have h := zin c3 h
      by_cases c4 : a0 = 4
      · have h := zip c4 h
        refine zG.tabIn (tgt := 72) hX hs1 4 c4 (by decide) rfl (by decide) ?_
        refine zG.blk (pc' := 75) (l' := [some (0, a0), some (1, a1), none, some (1, a2), none]) (st' := [(1, w64 (a1 * a2))]) (M' := M) hX [(.lload_n 1, 0, 0, 0), (.lload_n 3, 0, 0, 0), (.lmul, 0, 0, 0)] (by decide +kernel) rfl trivial ?_
        cases h
        exact zG.lret hX (by decide +kernel)
      · have h := zin c4 h
        by_cases c5 : a0 = 5
        · have h := zip c5 h
          refine zG.tabIn (tgt := 76) hX hs1 5 c5 (by decide) rfl (by decide) ?_
          refine zG.blk (pc' := 79) (l' := [some (0, a0), some (1, a1), none, some (1, a2), none]) (st' := [(0, zcmp a2 0)]) (M' := M) hX [(.lload_n 3, 0, 0, 0), (.lconst 0, 0, 0, 0), (.lcmp, 0, 0, 0)] (by decide +kernel) rfl trivial ?_
          refine zG.if_ne (tgt := 86) (off := 7) hX (by decide +kernel) (by decide) (fun c6 => ?_) (fun c6 => ?_)
          · have h := zin c6 h
            obtain ⟨g7, h⟩ := zif h
            refine zG.blk (pc' := 89) (l' := [some (0, a0), some (1, a1), none, some (1, a2), none]) (st' := [(1, w64 (Int.tdiv a1 a2))]) (M' := M) hX [(.lload_n 1, 0, 0, 0), (.lload_n 3, 0, 0, 0), (.ldiv, 0, 0, 0)] (by decide +kernel) rfl (And.intro g7 trivial) ?_
            exact zG.wk [false, false, true, false, true] (pX4_joined_89_ok hX hRm h)
          · have h := zip c6 h
            refine zG.blk (pc' := 83) (l' := [some (0, a0), some (1, a1), none, some (1, a2), none]) (st' := [(1, 0)]) (M' := M) hX [(.lconst 0, 0, 0, 0)] (by decide +kernel) rfl trivial ?_
            refine zG.goto (tgt := 89) (off := 6) hX (by decide +kernel) (by decide) ?_
            exact zG.wk [false, false, true, false, true] (pX4_joined_89_ok hX hRm h)
        · have h := zin c5 h
          by_cases c8 : a0 = 6
          · have h := zip c8 h
            refine zG.tabIn (tgt := 90) hX hs1 6 c8 (by decide) rfl (by decide) ?_
            refine zG.blk (pc' := 93) (l' := [some (0, a0), some (1, a1), none, some (1, a2), none]) (st' := [(0, zcmp a2 0)]) (M' := M) hX [(.lload_n 3, 0, 0, 0), (.lconst 0, 0, 0, 0), (.lcmp, 0, 0, 0)] (by decide +kernel) rfl trivial ?_
            refine zG.if_ne (tgt := 100) (off := 7) hX (by decide +kernel) (by decide) (fun c9 => ?_) (fun c9 => ?_)
            · have h := zin c9 h
              obtain ⟨g10, h⟩ := zif h
              refine zG.blk (pc' := 103) (l' := [some (0, a0), some (1, a1), none, some (1, a2), none]) (st' := [(1, Int.tmod a1 a2)]) (M' := M) hX [(.lload_n 1, 0, 0, 0), (.lload_n 3, 0, 0, 0), (.lrem, 0, 0, 0)] (by decide +kernel) rfl (And.intro g10 trivial) ?_
              exact zG.wk [false, false, true, false, true] (pX4_joined_103_ok hX hRm h)
            · have h := zip c9 h
              refine zG.blk (pc' := 97) (l' := [some (0, a0), some (1, a1), none, some (1, a2), none]) (st' := [(1, 0)]) (M' := M) hX [(.lconst 0, 0, 0, 0)] (by decide +kernel) rfl trivial ?_
              refine zG.goto (tgt := 103) (off := 6) hX (by decide +kernel) (by decide) ?_
              exact zG.wk [false, false, true, false, true] (pX4_joined_103_ok hX hRm h)
          · have h := zin c8 h
            by_cases c11 : a0 = 7
            · have h := zip c11 h
              refine zG.tabIn (tgt := 112) hX hs1 7 c11 (by decide) rfl (by decide) ?_
              refine zG.blk (pc' := 115) (l' := [some (0, a0), some (1, a1), none, some (1, a2), none]) (st' := [(0, zcmp a1 a2)]) (M' := M) hX [(.lload_n 1, 0, 0, 0), (.lload_n 3, 0, 0, 0), (.lcmp, 0, 0, 0)] (by decide +kernel) rfl trivial ?_
              have key12 : zG C E 5 S 0 0 (zQ C E 0 0 (some (1, q.1)) S q.2) 123 [some (0, a0), some (1, a1), none, some (1, a2), none] [(1, (if 0 ≤ zcmp a1 a2 then (0 : Int) else 1))] M := by
                cases h
                exact zG.lret hX (by decide +kernel)
              refine zG.if_ge (tgt := 122) (off := 7) hX (by decide +kernel) (by decide) (fun c13 => ?_) (fun c13 => ?_)
              · refine zG.blk (pc' := 123) (l' := [some (0, a0), some (1, a1), none, some (1, a2), none]) (st' := [(1, 0)]) (M' := M) hX [(.lconst 0, 0, 0, 0)] (by decide +kernel) rfl trivial ?_
                (have k := key12; simp only [if_pos c13] at k; exact k)
              · refine zG.blk (pc' := 119) (l' := [some (0, a0), some (1, a1), none, some (1, a2), none]) (st' := [(1, 1)]) (M' := M) hX [(.lconst 1, 1, 0, 0)] (by decide +kernel) rfl trivial ?_
                refine zG.goto (tgt := 123) (off := 4) hX (by decide +kernel) (by decide) ?_
                (have k := key12; simp only [if_neg c13] at k; exact k)
            · have h := zin c11 h
              by_cases c14 : a0 = 8
              · have h := zip c14 h
                refine zG.tabIn (tgt := 124) hX hs1 8 c14 (by decide) rfl (by decide) ?_
                refine zG.blk (pc' := 127) (l' := [some (0, a0), some (1, a1), none, some (1, a2), none]) (st' := [(0, zcmp a1 a2)]) (M' := M) hX [(.lload_n 1, 0, 0, 0), (.lload_n 3, 0, 0, 0), (.lcmp, 0, 0, 0)] (by decide +kernel) rfl trivial ?_
                have key15 : zG C E 5 S 0 0 (zQ C E 0 0 (some (1, q.1)) S q.2) 135 [some (0, a0), some (1, a1), none, some (1, a2), none] [(1, (if 0 < zcmp a1 a2 then (0 : Int) else 1))] M := by
                  cases h
                  exact zG.lret hX (by decide +kernel)
                refine zG.if_gt (tgt := 134) (off := 7) hX (by decide +kernel) (by decide) (fun c16 => ?_) (fun c16 => ?_)
                · refine zG.blk (pc' := 135) (l' := [some (0, a0), some (1, a1), none, some (1, a2), none]) (st' := [(1, 0)]) (M' := M) hX [(.lconst 0, 0, 0, 0)] (by decide +kernel) rfl trivial ?_
                  (have k := key15; simp only [if_pos c16] at k; exact k)
                · refine zG.blk (pc' := 131) (l' := [some (0, a0), some (1, a1), none, some (1, a2), none]) (st' := [(1, 1)]) (M' := M) hX [(.lconst 1, 1, 0, 0)] (by decide +kernel) rfl trivial ?_
                  refine zG.goto (tgt := 135) (off := 4) hX (by decide +kernel) (by decide) ?_
                  (have k := key15; simp only [if_neg c16] at k; exact k)
              · have h := zin c14 h
                by_cases c17 : a0 = 9
                · have h := zip c17 h
                  refine zG.tabIn (tgt := 136) hX hs1 9 c17 (by decide) rfl (by decide) ?_
                  refine zG.blk (pc' := 139) (l' := [some (0, a0), some (1, a1), none, some (1, a2), none]) (st' := [(0, zcmp a1 a2)]) (M' := M) hX [(.lload_n 1, 0, 0, 0), (.lload_n 3, 0, 0, 0), (.lcmp, 0, 0, 0)] (by decide +kernel) rfl trivial ?_
                  have key18 : zG C E 5 S 0 0 (zQ C E 0 0 (some (1, q.1)) S q.2) 147 [some (0, a0), some (1, a1), none, some (1, a2), none] [(1, (if zcmp a1 a2 = 0 then (1 : Int) else 0))] M := by
                    cases h
                    exact zG.lret hX (by decide +kernel)
                  refine zG.if_ne (tgt := 146) (off := 7) hX (by decide +kernel) (by decide) (fun c19 => ?_) (fun c19 => ?_)
                  · refine zG.blk (pc' := 147) (l' := [some (0, a0), some (1, a1), none, some (1, a2), none]) (st' := [(1, 0)]) (M' := M) hX [(.lconst 0, 0, 0, 0)] (by decide +kernel) rfl trivial ?_
                    (have k := key18; simp only [if_neg c19] at k; exact k)
                  · refine zG.blk (pc' := 143) (l' := [some (0, a0), some (1, a1), none, some (1, a2), none]) (st' := [(1, 1)]) (M' := M) hX [(.lconst 1, 1, 0, 0)] (by decide +kernel) rfl trivial ?_
                    refine zG.goto (tgt := 147) (off := 4) hX (by decide +kernel) (by decide) ?_
                    (have k := key18; simp only [if_pos c19] at k; exact k)
                · have h := zin c17 h
                  by_cases c20 : a0 = 10
                  · have h := zip c20 h
                    refine zG.tabIn (tgt := 148) hX hs1 10 c20 (by decide) rfl (by decide) ?_
                    refine zG.blk (pc' := 151) (l' := [some (0, a0), some (1, a1), none, some (1, a2), none]) (st' := [(0, zcmp a1 a2)]) (M' := M) hX [(.lload_n 1, 0, 0, 0), (.lload_n 3, 0, 0, 0), (.lcmp, 0, 0, 0)] (by decide +kernel) rfl trivial ?_
                    have key21 : zG C E 5 S 0 0 (zQ C E 0 0 (some (1, q.1)) S q.2) 159 [some (0, a0), some (1, a1), none, some (1, a2), none] [(1, (if zcmp a1 a2 < 0 then (0 : Int) else 1))] M := by
                      cases h
                      exact zG.lret hX (by decide +kernel)
                    refine zG.if_lt (tgt := 158) (off := 7) hX (by decide +kernel) (by decide) (fun c22 => ?_) (fun c22 => ?_)
                    · refine zG.blk (pc' := 159) (l' := [some (0, a0), some (1, a1), none, some (1, a2), none]) (st' := [(1, 0)]) (M' := M) hX [(.lconst 0, 0, 0, 0)] (by decide +kernel) rfl trivial ?_
                      (have k := key21; simp only [if_pos c22] at k; exact k)
                    · refine zG.blk (pc' := 155) (l' := [some (0, a0), some (1, a1), none, some (1, a2), none]) (st' := [(1, 1)]) (M' := M) hX [(.lconst 1, 1, 0, 0)] (by decide +kernel) rfl trivial ?_
                      refine zG.goto (tgt := 159) (off := 4) hX (by decide +kernel) (by decide) ?_
                      (have k := key21; simp only [if_neg c22] at k; exact k)
                  · have h := zin c20 h
                    by_cases c23 : a0 = 11
                    · have h := zip c23 h
                      refine zG.tabIn (tgt := 160) hX hs1 11 c23 (by decide) rfl (by decide) ?_
                      refine zG.blk (pc' := 163) (l' := [some (0, a0), some (1, a1), none, some (1, a2), none]) (st' := [(0, zcmp a1 a2)]) (M' := M) hX [(.lload_n 1, 0, 0, 0), (.lload_n 3, 0, 0, 0), (.lcmp, 0, 0, 0)] (by decide +kernel) rfl trivial ?_
                      have key24 : zG C E 5 S 0 0 (zQ C E 0 0 (some (1, q.1)) S q.2) 171 [some (0, a0), some (1, a1), none, some (1, a2), none] [(1, (if zcmp a1 a2 ≤ 0 then (0 : Int) else 1))] M := by
                        cases h
                        exact zG.lret hX (by decide +kernel)
                      refine zG.if_le (tgt := 170) (off := 7) hX (by decide +kernel) (by decide) (fun c25 => ?_) (fun c25 => ?_)
                      · refine zG.blk (pc' := 171) (l' := [some (0, a0), some (1, a1), none, some (1, a2), none]) (st' := [(1, 0)]) (M' := M) hX [(.lconst 0, 0, 0, 0)] (by decide +kernel) rfl trivial ?_
                        (have k := key24; simp only [if_pos c25] at k; exact k)
                      · refine zG.blk (pc' := 167) (l' := [some (0, a0), some (1, a1), none, some (1, a2), none]) (st' := [(1, 1)]) (M' := M) hX [(.lconst 1, 1, 0, 0)] (by decide +kernel) rfl trivial ?_
                        refine zG.goto (tgt := 171) (off := 4) hX (by decide +kernel) (by decide) ?_
                        (have k := key24; simp only [if_neg c25] at k; exact k)
                    · have h := zin c23 h
                      by_cases c26 : a0 = 12
                      · have h := zip c26 h
                        refine zG.tabIn (tgt := 104) hX hs1 12 c26 (by decide) rfl (by decide) ?_
                        refine zG.blk (pc' := 107) (l' := [some (0, a0), some (1, a1), none, some (1, a2), none]) (st' := [(1, zandl a1 a2)]) (M' := M) hX [(.lload_n 1, 0, 0, 0), (.lload_n 3, 0, 0, 0), (.land, 0, 0, 0)] (by decide +kernel) rfl trivial ?_
                        cases h
                        exact zG.lret hX (by decide +kernel)
                      · have h := zin c26 h
                        by_cases c27 : a0 = 13
                        · have h := zip c27 h
                          refine zG.tabIn (tgt := 108) hX hs1 13 c27 (by decide) rfl (by decide) ?_
                          refine zG.blk (pc' := 111) (l' := [some (0, a0), some (1, a1), none, some (1, a2), none]) (st' := [(1, zorl a1 a2)]) (M' := M) hX [(.lload_n 1, 0, 0, 0), (.lload_n 3, 0, 0, 0), (.lor, 0, 0, 0)] (by decide +kernel) rfl trivial ?_
                          cases h
                          exact zG.lret hX (by decide +kernel)
                        · have h := zin c27 h
                          refine zG.tabOut (tgt := 160) hX hs1 (by omega) (by decide) ?_
                          refine zG.blk (pc' := 163) (l' := [some (0, a0), some (1, a1), none, some (1, a2), none]) (st' := [(0, zcmp a1 a2)]) (M' := M) hX [(.lload_n 1, 0, 0, 0), (.lload_n 3, 0, 0, 0), (.lcmp, 0, 0, 0)] (by decide +kernel) rfl trivial ?_
                          have key28 : zG C E 5 S 0 0 (zQ C E 0 0 (some (1, q.1)) S q.2) 171 [some (0, a0), some (1, a1), none, some (1, a2), none] [(1, (if zcmp a1 a2 ≤ 0 then (0 : Int) else 1))] M := by
                            cases h
                            exact zG.lret hX (by decide +kernel)
                          refine zG.if_le (tgt := 170) (off := 7) hX (by decide +kernel) (by decide) (fun c29 => ?_) (fun c29 => ?_)
                          · refine zG.blk (pc' := 171) (l' := [some (0, a0), some (1, a1), none, some (1, a2), none]) (st' := [(1, 0)]) (M' := M) hX [(.lconst 0, 0, 0, 0)] (by decide +kernel) rfl trivial ?_
                            (have k := key28; simp only [if_pos c29] at k; exact k)
                          · refine zG.blk (pc' := 167) (l' := [some (0, a0), some (1, a1), none, some (1, a2), none]) (st' := [(1, 1)]) (M' := M) hX [(.lconst 1, 1, 0, 0)] (by decide +kernel) rfl trivial ?_
                            refine zG.goto (tgt := 171) (off := 4) hX (by decide +kernel) (by decide) ?_
                            (have k := key28; simp only [if_neg c29] at k; exact k)
theorem pX4_joined_ok {l : Launch} {E : ZE} {S : ZS} {M : ZM} {a0 a1 a2 : Int} {q : (Int × ZM)} (h : pX4_joined S M a0 a1 a2 = some q) : zMet l yX4_joined cX4_joined 5 (some .long) 1 40 0 0 E S M [(0, a0), (1, a1), (1, a2)] (some (1, q.1)) S q.2 :=
  zMet.of (o := 4) (ini := false) (by decide +kernel) rfl (fun h => by cases h) (Nat.le_of_ble_eq_true rfl) (fun C hX hl hRm => by subst hl; exact pX4_joined_go hX hRm h)
noncomputable def pX4_wordOf_18 (S : ZS) (M : ZM) (y0 : Int) : Option (Int × ZM) := some (y0, M)
set_option maxHeartbeats 2000000 in
set_option maxRecDepth 20000 in
theorem pX4_wordOf_18_ok {C : ZC} {E : ZE} {S : ZS} {q : (Int × ZM)} (hX : zCx C E 4 cX4_wordOf 2 (some .long) false) (hRm : czR C = { frames := 1, cells := 0, slots := 0, locals := 40 }) {M : ZM} {y0 : Int} (h : pX4_wordOf_18 S M y0 = some q) : zG C E 2 S 0 0 (zQ C E 0 0 (some (1, q.1)) S q.2) 18 [none, none] [(1, y0)] M := by
  unfold pX4_wordOf_18 at h
  cases h
  exact zG.lret hX (by decide +kernel)
noncomputable def pX4_wordOf_17 (S : ZS) (M : ZM) : Option (Int × ZM) := pX4_wordOf_18 S M 0
set_option maxHeartbeats 2000000 in
set_option maxRecDepth 20000 in
theorem pX4_wordOf_17_ok {C : ZC} {E : ZE} {S : ZS} {q : (Int × ZM)} (hX : zCx C E 4 cX4_wordOf 2 (some .long) false) (hRm : czR C = { frames := 1, cells := 0, slots := 0, locals := 40 }) {M : ZM} (h : pX4_wordOf_17 S M = some q) : zG C E 2 S 0 0 (zQ C E 0 0 (some (1, q.1)) S q.2) 17 [none, none] [] M := by
  unfold pX4_wordOf_17 at h
  refine zG.blk (pc' := 18) (l' := [none, none]) (st' := [(1, 0)]) (M' := M) hX [(.lconst 0, 0, 0, 0)] (by decide +kernel) rfl trivial ?_
  exact (pX4_wordOf_18_ok hX hRm h)
noncomputable def pX4_wordOf (S : ZS) (M : ZM) (a0 : Int) (a1 : Int) : Option (Int × ZM) := if a1 < 0 then (pX4_wordOf_17 S M) else (if S.1 a0 = 100 then if S.2.1 a0 ≤ a1 then (pX4_wordOf_17 S M) else (if S.1 a0 = 100 ∧ (0 : Int) ≤ a1 ∧ a1 < S.2.1 a0 then pX4_wordOf_18 S M (M a0 a1) else none) else none)
set_option maxHeartbeats 2000000 in
set_option maxRecDepth 20000 in
theorem pX4_wordOf_go {C : ZC} {E : ZE} {S : ZS} {M : ZM} {a0 a1 : Int} {q : (Int × ZM)} (hX : zCx C E 4 cX4_wordOf 2 (some .long) false) (hRm : czR C = { frames := 1, cells := 0, slots := 0, locals := 40 }) (h : pX4_wordOf  S M a0 a1 = some q) : zG C E 2 S 0 0 (zQ C E 0 0 (some (1, q.1)) S q.2) 0 [some (2, a0), some (0, a1)] [] M := by
  unfold pX4_wordOf at h
  refine zG.blk (pc' := 1) (l' := [some (2, a0), some (0, a1)]) (st' := [(0, a1)]) (M' := M) hX [(.iload_n 1, 0, 0, 0)] (by decide +kernel) rfl trivial ?_
  refine zG.if_lt (tgt := 17) (off := 16) hX (by decide +kernel) (by decide) (fun c1 => ?_) (fun c1 => ?_)
  · have h := zip c1 h
    exact zG.wk [false, false] (pX4_wordOf_17_ok hX hRm h)
  · have h := zin c1 h
    obtain ⟨g2, h⟩ := zif h
    refine zG.blk (pc' := 7) (l' := [some (2, a0), some (0, a1)]) (st' := [(0, S.2.1 a0), (0, a1)]) (M' := M) hX [(.iload_n 1, 0, 0, 0), (.aload_n 0, 0, 0, 0), (.arraylength, 100, 0, 0)] (by decide +kernel) rfl (And.intro g2 trivial) ?_
    refine zG.icmp_ge (tgt := 17) (off := 10) hX (by decide +kernel) (by decide) (fun c3 => ?_) (fun c3 => ?_)
    · have h := zip c3 h
      exact zG.wk [false, false] (pX4_wordOf_17_ok hX hRm h)
    · have h := zin c3 h
      obtain ⟨g4, h⟩ := zif h
      refine zG.blk (pc' := 14) (l' := [some (2, a0), some (0, a1)]) (st' := [(1, M a0 a1)]) (M' := M) hX [(.aload_n 0, 0, 0, 0), (.iload_n 1, 0, 0, 0), (.iaload, 0, 0, 0), (.i2l, 0, 0, 0)] (by decide +kernel) rfl (And.intro g4 trivial) ?_
      refine zG.goto (tgt := 18) (off := 4) hX (by decide +kernel) (by decide) ?_
      exact zG.wk [false, false] (pX4_wordOf_18_ok hX hRm h)
theorem pX4_wordOf_ok {l : Launch} {E : ZE} {S : ZS} {M : ZM} {a0 a1 : Int} {q : (Int × ZM)} (h : pX4_wordOf S M a0 a1 = some q) : zMet l yX4_wordOf cX4_wordOf 2 (some .long) 1 40 0 0 E S M [(2, a0), (0, a1)] (some (1, q.1)) S q.2 :=
  zMet.of (o := 4) (ini := false) (by decide +kernel) rfl (fun h => by cases h) (Nat.le_of_ble_eq_true rfl) (fun C hX hl hRm => by subst hl; exact pX4_wordOf_go hX hRm h)
theorem ss_4_15 : zSS 4 15 yX4_wordOf cX4_wordOf 2 (some .long) 2 := ⟨⟨gt_at 837 (by decide +kernel) rfl, gt_at 838 (by decide +kernel) rfl, gt_at 123 (by decide +kernel) rfl, gt_at 839 (by decide +kernel) rfl⟩, by decide +kernel, by decide +kernel, by decide +kernel⟩
noncomputable def pX4_sum_193 (S : ZS) (k5 : ZM → Int → Int → Int → Int → Int → Option (Int × ZM)) (M : ZM) (x0 : Int) (x1 : Int) (x2 : Int) (x3 : Int) (x4 : Int) : Option (Int × ZM) := k5 M x0 x1 x2 x3 (w32 (x4 + 1))
set_option maxHeartbeats 2000000 in
set_option maxRecDepth 20000 in
theorem pX4_sum_193_ok {C : ZC} {E : ZE} {S : ZS} {k5 : ZM → Int → Int → Int → Int → Int → Option (Int × ZM)} {q : (Int × ZM)} (hX : zCx C E 4 cX4_sum 7 (some .long) false) (hRm : czR C = { frames := 2, cells := 0, slots := 0, locals := 64 }) (hk5 : ∀ M x0 x1 x2 x3 x4, k5 M x0 x1 x2 x3 x4 = some q → zG C E 7 S 0 0 (zQ C E 0 0 (some (1, q.1)) S q.2) 5 [some (2, x0), some (2, x1), some (2, x2), some (0, x3), some (0, x4), none, none] [] M) {M : ZM} {x0 : Int} {x1 : Int} {x2 : Int} {x3 : Int} {x4 : Int} (h : pX4_sum_193 S k5 M x0 x1 x2 x3 x4 = some q) : zG C E 7 S 0 0 (zQ C E 0 0 (some (1, q.1)) S q.2) 193 [some (2, x0), some (2, x1), some (2, x2), some (0, x3), some (0, x4), none, none] [] M := by
  unfold pX4_sum_193 at h
  refine zG.blk (pc' := 196) (l' := [some (2, x0), some (2, x1), some (2, x2), some (0, x3), some (0, w32 (x4 + 1)), none, none]) (st' := []) (M' := M) hX [(.iinc 4 1, 0, 0, 0)] (by decide +kernel) rfl trivial ?_
  refine zG.goto (tgt := 5) (off := (-191)) hX (by decide +kernel) (by decide) ?_
  exact (hk5 _ _ _ _ _ _ h)
noncomputable def pX4_sum_76 (S : ZS) (k5 : ZM → Int → Int → Int → Int → Int → Option (Int × ZM)) (M : ZM) (x0 : Int) (x1 : Int) (x2 : Int) (x3 : Int) (x4 : Int) (y0 : Int) (y1 : Int) (y2 : Int) : Option (Int × ZM) := if S.1 y2 = 101 ∧ (0 : Int) ≤ y1 ∧ y1 < S.2.1 y2 then zlet (upM M y2 y1 y0) fun M12 => pX4_sum_193 S k5 M12 x0 x1 x2 (w32 (x3 + 1)) x4 else none
set_option maxHeartbeats 2000000 in
set_option maxRecDepth 20000 in
theorem pX4_sum_76_ok {C : ZC} {E : ZE} {S : ZS} {k5 : ZM → Int → Int → Int → Int → Int → Option (Int × ZM)} {q : (Int × ZM)} (hX : zCx C E 4 cX4_sum 7 (some .long) false) (hRm : czR C = { frames := 2, cells := 0, slots := 0, locals := 64 }) (hk5 : ∀ M x0 x1 x2 x3 x4, k5 M x0 x1 x2 x3 x4 = some q → zG C E 7 S 0 0 (zQ C E 0 0 (some (1, q.1)) S q.2) 5 [some (2, x0), some (2, x1), some (2, x2), some (0, x3), some (0, x4), none, none] [] M) {M : ZM} {x0 : Int} {x1 : Int} {x2 : Int} {x3 : Int} {x4 : Int} {y0 : Int} {y1 : Int} {y2 : Int} (h : pX4_sum_76 S k5 M x0 x1 x2 x3 x4 y0 y1 y2 = some q) : zG C E 7 S 0 0 (zQ C E 0 0 (some (1, q.1)) S q.2) 76 [some (2, x0), some (2, x1), some (2, x2), some (0, x3), some (0, x4), none, none] [(1, y0), (0, y1), (2, y2)] M := by
  unfold pX4_sum_76 at h
  obtain ⟨g11, h⟩ := zif h
  refine zG.blk (pc' := 77) (l' := [some (2, x0), some (2, x1), some (2, x2), some (0, x3), some (0, x4), none, none]) (st' := []) (M' := (upM M y2 y1 y0)) hX [(.lastore, 0, 0, 0)] (by decide +kernel) rfl (And.intro g11 trivial) ?_
  generalize upM M y2 y1 y0 = M12 at h ⊢
  have h := zlt h
  refine zG.blk (pc' := 80) (l' := [some (2, x0), some (2, x1), some (2, x2), some (0, w32 (x3 + 1)), some (0, x4), none, none]) (st' := []) (M' := M12) hX [(.iinc 3 1, 0, 0, 0)] (by decide +kernel) rfl trivial ?_
  refine zG.goto (tgt := 193) (off := 113) hX (by decide +kernel) (by decide) ?_
  exact (pX4_sum_193_ok hX hRm hk5 h)
noncomputable def pX4_sum_49 (S : ZS) (k5 : ZM → Int → Int → Int → Int → Int → Option (Int × ZM)) (M : ZM) (x0 : Int) (x1 : Int) (x2 : Int) (x3 : Int) (x4 : Int) (x5 : Int) (x6 : Int) : Option (Int × ZM) := if S.1 x2 = 101 then if x3 < S.2.1 x2 then (if x5 = 0 then (pX4_sum_76 S k5 M x0 x1 x2 x3 x4 x6 x3 x2) else ((pX4_wordOf S M x1 x6).bind fun q9 => pX4_sum_76 S k5 q9.2 x0 x1 x2 x3 x4 q9.1 x3 x2)) else (some (0, M)) else none
set_option maxHeartbeats 2000000 in
set_option maxRecDepth 20000 in
theorem pX4_sum_49_ok {C : ZC} {E : ZE} {S : ZS} {k5 : ZM → Int → Int → Int → Int → Int → Option (Int × ZM)} {q : (Int × ZM)} (hX : zCx C E 4 cX4_sum 7 (some .long) false) (hRm : czR C = { frames := 2, cells := 0, slots := 0, locals := 64 }) (hk5 : ∀ M x0 x1 x2 x3 x4, k5 M x0 x1 x2 x3 x4 = some q → zG C E 7 S 0 0 (zQ C E 0 0 (some (1, q.1)) S q.2) 5 [some (2, x0), some (2, x1), some (2, x2), some (0, x3), some (0, x4), none, none] [] M) {M : ZM} {x0 : Int} {x1 : Int} {x2 : Int} {x3 : Int} {x4 : Int} {x5 : Int} {x6 : Int} (h : pX4_sum_49 S k5 M x0 x1 x2 x3 x4 x5 x6 = some q) : zG C E 7 S 0 0 (zQ C E 0 0 (some (1, q.1)) S q.2) 49 [some (2, x0), some (2, x1), some (2, x2), some (0, x3), some (0, x4), some (0, x5), some (0, x6)] [] M := by
  unfold pX4_sum_49 at h
  obtain ⟨g6, h⟩ := zif h
  refine zG.blk (pc' := 52) (l' := [some (2, x0), some (2, x1), some (2, x2), some (0, x3), some (0, x4), some (0, x5), some (0, x6)]) (st' := [(0, S.2.1 x2), (0, x3)]) (M' := M) hX [(.iload_n 3, 0, 0, 0), (.aload_n 2, 0, 0, 0), (.arraylength, 101, 0, 0)] (by decide +kernel) rfl (And.intro g6 trivial) ?_
  refine zG.icmp_lt (tgt := 57) (off := 5) hX (by decide +kernel) (by decide) (fun c7 => ?_) (fun c7 => ?_)
  · have h := zip c7 h
    refine zG.blk (pc' := 61) (l' := [some (2, x0), some (2, x1), some (2, x2), some (0, x3), some (0, x4), some (0, x5), some (0, x6)]) (st' := [(0, x5), (0, x3), (2, x2)]) (M' := M) hX [(.aload_n 2, 0, 0, 0), (.iload_n 3, 0, 0, 0), (.iload 5, 0, 0, 0)] (by decide +kernel) rfl trivial ?_
    refine zG.if_ne (tgt := 70) (off := 9) hX (by decide +kernel) (by decide) (fun c8 => ?_) (fun c8 => ?_)
    · have h := zin c8 h
      refine zG.blk (pc' := 73) (l' := [some (2, x0), some (2, x1), some (2, x2), some (0, x3), some (0, x4), some (0, x5), some (0, x6)]) (st' := [(0, x6), (2, x1), (0, x3), (2, x2)]) (M' := M) hX [(.aload_n 1, 0, 0, 0), (.iload 6, 0, 0, 0)] (by decide +kernel) rfl trivial ?_
      obtain ⟨q9, e10, h⟩ := zbd h
      refine zG.callS (av := [(2, x1), (0, x6)]) (st := [(0, x3), (2, x2)]) hX (pX4_wordOf_ok e10) ss_4_15 rfl (by decide +kernel) (by rw [hRm]; exact ⟨Nat.le_of_ble_eq_true rfl, Nat.le_of_ble_eq_true rfl⟩) (by rw [hRm]; exact ⟨Nat.le_of_ble_eq_true rfl, Nat.le_of_ble_eq_true rfl⟩) (Nat.le_of_ble_eq_true rfl) ?_
      show zG C E 7 S 0 0 _ 76 [some (2, x0), some (2, x1), some (2, x2), some (0, x3), some (0, x4), some (0, x5), some (0, x6)] [(1, q9.1), (0, x3), (2, x2)] q9.2
      exact zG.wk [true, true, true, true, true, false, false] (pX4_sum_76_ok hX hRm hk5 h)
    · have h := zip c8 h
      refine zG.blk (pc' := 67) (l' := [some (2, x0), some (2, x1), some (2, x2), some (0, x3), some (0, x4), some (0, x5), some (0, x6)]) (st' := [(1, x6), (0, x3), (2, x2)]) (M' := M) hX [(.iload 6, 0, 0, 0), (.i2l, 0, 0, 0)] (by decide +kernel) rfl trivial ?_
      refine zG.goto (tgt := 76) (off := 9) hX (by decide +kernel) (by decide) ?_
      exact zG.wk [true, true, true, true, true, false, false] (pX4_sum_76_ok hX hRm hk5 h)
  · have h := zin c7 h
    refine zG.blk (pc' := 56) (l' := [some (2, x0), some (2, x1), some (2, x2), some (0, x3), some (0, x4), some (0, x5), some (0, x6)]) (st' := [(1, 0)]) (M' := M) hX [(.lconst 0, 0, 0, 0)] (by decide +kernel) rfl trivial ?_
    cases h
    exact zG.lret hX (by decide +kernel)
theorem ss_4_19 : zSS 4 19 yX4_joined cX4_joined 5 (some .long) 3 := ⟨⟨gt_at 840 (by decide +kernel) rfl, gt_at 841 (by decide +kernel) rfl, gt_at 123 (by decide +kernel) rfl, gt_at 842 (by decide +kernel) rfl⟩, by decide +kernel, by decide +kernel, by decide +kernel⟩
noncomputable def pX4_sum_104 (S : ZS) (M : ZM) (y0 : Int) : Option (Int × ZM) := some (y0, M)
set_option maxHeartbeats 2000000 in
set_option maxRecDepth 20000 in
theorem pX4_sum_104_ok {C : ZC} {E : ZE} {S : ZS} {q : (Int × ZM)} (hX : zCx C E 4 cX4_sum 7 (some .long) false) (hRm : czR C = { frames := 2, cells := 0, slots := 0, locals := 64 }) {M : ZM} {y0 : Int} (h : pX4_sum_104 S M y0 = some q) : zG C E 7 S 0 0 (zQ C E 0 0 (some (1, q.1)) S q.2) 104 [none, none, none, none, none, none, none] [(1, y0)] M := by
  unfold pX4_sum_104 at h
  cases h
  exact zG.lret hX (by decide +kernel)
noncomputable def pX4_sum_5 (S : ZS) : Nat → ZM → Int → Int → Int → Int → Int → Option (Int × ZM)
  | 0 => fun _ _ _ _ _ _ => none
  | n + 1 => fun M x0 x1 x2 x3 x4 => if S.1 x0 = 4 then if S.1 (M x0 0) = 100 then if S.2.1 (M x0 0) ≤ x4 then (some (0, M)) else (if S.1 (M x0 0) = 100 ∧ (0 : Int) ≤ x4 ∧ x4 < S.2.1 (M x0 0) then if zand (M (M x0 0) x4) 31 = 0 then (pX4_sum_49 S (pX4_sum_5 S n) M x0 x1 x2 x3 x4 (zand (M (M x0 0) x4) 31) (zshr (M (M x0 0) x4) 5)) else (if zand (M (M x0 0) x4) 31 = 1 then (pX4_sum_49 S (pX4_sum_5 S n) M x0 x1 x2 x3 x4 (zand (M (M x0 0) x4) 31) (zshr (M (M x0 0) x4) 5)) else (if zand (M (M x0 0) x4) 31 = 15 then (if 1 ≤ x3 then (if S.1 x2 = 101 ∧ (0 : Int) ≤ w32 (x3 - 1) ∧ w32 (x3 - 1) < S.2.1 x2 then pX4_sum_104 S M (M x2 (w32 (x3 - 1))) else none) else (pX4_sum_104 S M 0)) else (if zand (M (M x0 0) x4) 31 = 14 then (if 1 ≤ x3 then (if S.1 x2 = 101 ∧ (0 : Int) ≤ w32 (x3 - 1) ∧ w32 (x3 - 1) < S.2.1 x2 then zlet (upM M x2 (w32 (x3 - 1)) (w64 (1 - (M x2 (w32 (x3 - 1)))))) fun M28 => pX4_sum_193 S (pX4_sum_5 S n) M28 x0 x1 x2 x3 x4 else none) else (some (0, M))) else (if 2 ≤ x3 then (if zand (M (M x0 0) x4) 31 = 16 then (if S.1 x2 = 101 ∧ (0 : Int) ≤ w32 (x3 - 1) ∧ w32 (x3 - 1) < S.2.1 x2 then if zcmp (M x2 (w32 (x3 - 1))) 0 = 0 then (pX4_sum_193 S (pX4_sum_5 S n) M x0 x1 x2 (w32 (x3 + (-2))) x4) else (if S.1 x2 = 101 ∧ (0 : Int) ≤ w32 (x3 - 2) ∧ w32 (x3 - 2) < S.2.1 x2 then some (M x2 (w32 (x3 - 2)), M) else none) else none) else (if S.1 x2 = 101 ∧ (0 : Int) ≤ w32 (x3 - 2) ∧ w32 (x3 - 2) < S.2.1 x2 then if S.1 x2 = 101 ∧ (0 : Int) ≤ w32 (x3 - 1) ∧ w32 (x3 - 1) < S.2.1 x2 then (pX4_joined S M (zand (M (M x0 0) x4) 31) (M x2 (w32 (x3 - 2))) (M x2 (w32 (x3 - 1)))).bind fun q20 => zlet (upM q20.2 x2 (w32 (x3 - 2)) q20.1) fun M22 => pX4_sum_193 S (pX4_sum_5 S n) M22 x0 x1 x2 (w32 (x3 + (-1))) x4 else none else none)) else (some (0, M)))))) else none) else none else none
set_option maxHeartbeats 2000000 in
set_option maxRecDepth 20000 in
theorem pX4_sum_5_ok {C : ZC} {E : ZE} {S : ZS} {q : (Int × ZM)} (hX : zCx C E 4 cX4_sum 7 (some .long) false) (hRm : czR C = { frames := 2, cells := 0, slots := 0, locals := 64 }) : ∀ (n : Nat) (M : ZM) (x0 : Int) (x1 : Int) (x2 : Int) (x3 : Int) (x4 : Int), pX4_sum_5 S n M x0 x1 x2 x3 x4 = some q → zG C E 7 S 0 0 (zQ C E 0 0 (some (1, q.1)) S q.2) 5 [some (2, x0), some (2, x1), some (2, x2), some (0, x3), some (0, x4), none, none] [] M := by
  intro n
  induction n with
  | zero => intro M x0 x1 x2 x3 x4 h; cases h
  | succ n ih =>
    intro M x0 x1 x2 x3 x4 h
    unfold pX4_sum_5 at h
    obtain ⟨g1, h⟩ := zif h
    obtain ⟨g2, h⟩ := zif h
    refine zG.blk (pc' := 12) (l' := [some (2, x0), some (2, x1), some (2, x2), some (0, x3), some (0, x4), none, none]) (st' := [(0, S.2.1 (M x0 0)), (0, x4)]) (M' := M) hX [(.iload 4, 0, 0, 0), (.aload_n 0, 0, 0, 0), (.getfield 9, 4, 0, 2), (.arraylength, 100, 0, 0)] (by decide +kernel) rfl (And.intro g1 (And.intro g2 trivial)) ?_
    refine zG.icmp_ge (tgt := 199) (off := 187) hX (by decide +kernel) (by decide) (fun c3 => ?_) (fun c3 => ?_)
    · have h := zip c3 h
      refine zG.blk (pc' := 200) (l' := [some (2, x0), some (2, x1), some (2, x2), some (0, x3), some (0, x4), none, none]) (st' := [(1, 0)]) (M' := M) hX [(.lconst 0, 0, 0, 0)] (by decide +kernel) rfl trivial ?_
      cases h
      exact zG.lret hX (by decide +kernel)
    · have h := zin c3 h
      obtain ⟨g4, h⟩ := zif h
      refine zG.blk (pc' := 40) (l' := [some (2, x0), some (2, x1), some (2, x2), some (0, x3), some (0, x4), some (0, zand (M (M x0 0) x4) 31), some (0, zshr (M (M x0 0) x4) 5)]) (st' := [(0, zand (M (M x0 0) x4) 31)]) (M' := M) hX [(.aload_n 0, 0, 0, 0), (.getfield 9, 4, 0, 2), (.iload 4, 0, 0, 0), (.iaload, 0, 0, 0), (.bipush 31, 0, 0, 0), (.iand, 0, 0, 0), (.istore 5, 0, 0, 0), (.aload_n 0, 0, 0, 0), (.getfield 9, 4, 0, 2), (.iload 4, 0, 0, 0), (.iaload, 0, 0, 0), (.iconst 5, 0, 0, 0), (.ishr, 0, 0, 0), (.istore 6, 0, 0, 0), (.iload 5, 0, 0, 0)] (by decide +kernel) rfl (And.intro g1 (And.intro g4 (And.intro g1 (And.intro g4 trivial)))) ?_
      refine zG.if_eq (tgt := 49) (off := 9) hX (by decide +kernel) (by decide) (fun c5 => ?_) (fun c5 => ?_)
      · have h := zip c5 h
        exact (pX4_sum_49_ok hX hRm ih h)
      · have h := zin c5 h
        refine zG.blk (pc' := 46) (l' := [some (2, x0), some (2, x1), some (2, x2), some (0, x3), some (0, x4), some (0, zand (M (M x0 0) x4) 31), some (0, zshr (M (M x0 0) x4) 5)]) (st' := [(0, 1), (0, zand (M (M x0 0) x4) 31)]) (M' := M) hX [(.iload 5, 0, 0, 0), (.iconst 1, 0, 0, 0)] (by decide +kernel) rfl trivial ?_
        refine zG.icmp_ne (tgt := 83) (off := 37) hX (by decide +kernel) (by decide) (fun c13 => ?_) (fun c13 => ?_)
        · have h := zin c13 h
          refine zG.blk (pc' := 87) (l' := [some (2, x0), some (2, x1), some (2, x2), some (0, x3), some (0, x4), some (0, zand (M (M x0 0) x4) 31), some (0, zshr (M (M x0 0) x4) 5)]) (st' := [(0, 15), (0, zand (M (M x0 0) x4) 31)]) (M' := M) hX [(.iload 5, 0, 0, 0), (.bipush 15, 0, 0, 0)] (by decide +kernel) rfl trivial ?_
          refine zG.icmp_ne (tgt := 105) (off := 18) hX (by decide +kernel) (by decide) (fun c14 => ?_) (fun c14 => ?_)
          · have h := zin c14 h
            refine zG.blk (pc' := 109) (l' := [some (2, x0), some (2, x1), some (2, x2), some (0, x3), some (0, x4), some (0, zand (M (M x0 0) x4) 31), some (0, zshr (M (M x0 0) x4) 5)]) (st' := [(0, 14), (0, zand (M (M x0 0) x4) 31)]) (M' := M) hX [(.iload 5, 0, 0, 0), (.bipush 14, 0, 0, 0)] (by decide +kernel) rfl trivial ?_
            refine zG.icmp_ne (tgt := 134) (off := 25) hX (by decide +kernel) (by decide) (fun c15 => ?_) (fun c15 => ?_)
            · have h := zin c15 h
              refine zG.blk (pc' := 136) (l' := [some (2, x0), some (2, x1), some (2, x2), some (0, x3), some (0, x4), some (0, zand (M (M x0 0) x4) 31), some (0, zshr (M (M x0 0) x4) 5)]) (st' := [(0, 2), (0, x3)]) (M' := M) hX [(.iload_n 3, 0, 0, 0), (.iconst 2, 0, 0, 0)] (by decide +kernel) rfl trivial ?_
              refine zG.icmp_ge (tgt := 141) (off := 5) hX (by decide +kernel) (by decide) (fun c16 => ?_) (fun c16 => ?_)
              · have h := zip c16 h
                refine zG.blk (pc' := 145) (l' := [some (2, x0), some (2, x1), some (2, x2), some (0, x3), some (0, x4), some (0, zand (M (M x0 0) x4) 31), some (0, zshr (M (M x0 0) x4) 5)]) (st' := [(0, 16), (0, zand (M (M x0 0) x4) 31)]) (M' := M) hX [(.iload 5, 0, 0, 0), (.bipush 16, 0, 0, 0)] (by decide +kernel) rfl trivial ?_
                refine zG.icmp_ne (tgt := 170) (off := 25) hX (by decide +kernel) (by decide) (fun c17 => ?_) (fun c17 => ?_)
                · have h := zin c17 h
                  obtain ⟨g18, h⟩ := zif h
                  obtain ⟨g19, h⟩ := zif h
                  refine zG.blk (pc' := 186) (l' := [some (2, x0), some (2, x1), some (2, x2), some (0, x3), some (0, x4), some (0, zand (M (M x0 0) x4) 31), some (0, zshr (M (M x0 0) x4) 5)]) (st' := [(1, M x2 (w32 (x3 - 1))), (1, M x2 (w32 (x3 - 2))), (0, zand (M (M x0 0) x4) 31), (0, w32 (x3 - 2)), (2, x2)]) (M' := M) hX [(.aload_n 2, 0, 0, 0), (.iload_n 3, 0, 0, 0), (.iconst 2, 0, 0, 0), (.isub, 0, 0, 0), (.iload 5, 0, 0, 0), (.aload_n 2, 0, 0, 0), (.iload_n 3, 0, 0, 0), (.iconst 2, 0, 0, 0), (.isub, 0, 0, 0), (.laload, 0, 0, 0), (.aload_n 2, 0, 0, 0), (.iload_n 3, 0, 0, 0), (.iconst 1, 0, 0, 0), (.isub, 0, 0, 0), (.laload, 0, 0, 0)] (by decide +kernel) rfl (And.intro g18 (And.intro g19 trivial)) ?_
                  obtain ⟨q20, e21, h⟩ := zbd h
                  refine zG.callS (av := [(0, zand (M (M x0 0) x4) 31), (1, M x2 (w32 (x3 - 2))), (1, M x2 (w32 (x3 - 1)))]) (st := [(0, w32 (x3 - 2)), (2, x2)]) hX (pX4_joined_ok e21) ss_4_19 rfl (by decide +kernel) (by rw [hRm]; exact ⟨Nat.le_of_ble_eq_true rfl, Nat.le_of_ble_eq_true rfl⟩) (by rw [hRm]; exact ⟨Nat.le_of_ble_eq_true rfl, Nat.le_of_ble_eq_true rfl⟩) (Nat.le_of_ble_eq_true rfl) ?_
                  show zG C E 7 S 0 0 _ 189 [some (2, x0), some (2, x1), some (2, x2), some (0, x3), some (0, x4), some (0, zand (M (M x0 0) x4) 31), some (0, zshr (M (M x0 0) x4) 5)] [(1, q20.1), (0, w32 (x3 - 2)), (2, x2)] q20.2
                  refine zG.blk (pc' := 190) (l' := [some (2, x0), some (2, x1), some (2, x2), some (0, x3), some (0, x4), some (0, zand (M (M x0 0) x4) 31), some (0, zshr (M (M x0 0) x4) 5)]) (st' := []) (M' := (upM q20.2 x2 (w32 (x3 - 2)) q20.1)) hX [(.lastore, 0, 0, 0)] (by decide +kernel) rfl (And.intro g18 trivial) ?_
                  generalize upM q20.2 x2 (w32 (x3 - 2)) q20.1 = M22 at h ⊢
                  have h := zlt h
                  refine zG.blk (pc' := 193) (l' := [some (2, x0), some (2, x1), some (2, x2), some (0, w32 (x3 + (-1))), some (0, x4), some (0, zand (M (M x0 0) x4) 31), some (0, zshr (M (M x0 0) x4) 5)]) (st' := []) (M' := M22) hX [(.iinc 3 (-1), 0, 0, 0)] (by decide +kernel) rfl trivial ?_
                  exact zG.wk [true, true, true, true, true, false, false] (pX4_sum_193_ok hX hRm ih h)
                · have h := zip c17 h
                  obtain ⟨g23, h⟩ := zif h
                  refine zG.blk (pc' := 155) (l' := [some (2, x0), some (2, x1), some (2, x2), some (0, x3), some (0, x4), some (0, zand (M (M x0 0) x4) 31), some (0, zshr (M (M x0 0) x4) 5)]) (st' := [(0, zcmp (M x2 (w32 (x3 - 1))) 0)]) (M' := M) hX [(.aload_n 2, 0, 0, 0), (.iload_n 3, 0, 0, 0), (.iconst 1, 0, 0, 0), (.isub, 0, 0, 0), (.laload, 0, 0, 0), (.lconst 0, 0, 0, 0), (.lcmp, 0, 0, 0)] (by decide +kernel) rfl (And.intro g23 trivial) ?_
                  refine zG.if_eq (tgt := 164) (off := 9) hX (by decide +kernel) (by decide) (fun c24 => ?_) (fun c24 => ?_)
                  · have h := zip c24 h
                    refine zG.blk (pc' := 167) (l' := [some (2, x0), some (2, x1), some (2, x2), some (0, w32 (x3 + (-2))), some (0, x4), some (0, zand (M (M x0 0) x4) 31), some (0, zshr (M (M x0 0) x4) 5)]) (st' := []) (M' := M) hX [(.iinc 3 (-2), 0, 0, 0)] (by decide +kernel) rfl trivial ?_
                    refine zG.goto (tgt := 193) (off := 26) hX (by decide +kernel) (by decide) ?_
                    exact zG.wk [true, true, true, true, true, false, false] (pX4_sum_193_ok hX hRm ih h)
                  · have h := zin c24 h
                    obtain ⟨g25, h⟩ := zif h
                    refine zG.blk (pc' := 163) (l' := [some (2, x0), some (2, x1), some (2, x2), some (0, x3), some (0, x4), some (0, zand (M (M x0 0) x4) 31), some (0, zshr (M (M x0 0) x4) 5)]) (st' := [(1, M x2 (w32 (x3 - 2)))]) (M' := M) hX [(.aload_n 2, 0, 0, 0), (.iload_n 3, 0, 0, 0), (.iconst 2, 0, 0, 0), (.isub, 0, 0, 0), (.laload, 0, 0, 0)] (by decide +kernel) rfl (And.intro g25 trivial) ?_
                    cases h
                    exact zG.lret hX (by decide +kernel)
              · have h := zin c16 h
                refine zG.blk (pc' := 140) (l' := [some (2, x0), some (2, x1), some (2, x2), some (0, x3), some (0, x4), some (0, zand (M (M x0 0) x4) 31), some (0, zshr (M (M x0 0) x4) 5)]) (st' := [(1, 0)]) (M' := M) hX [(.lconst 0, 0, 0, 0)] (by decide +kernel) rfl trivial ?_
                cases h
                exact zG.lret hX (by decide +kernel)
            · have h := zip c15 h
              refine zG.blk (pc' := 114) (l' := [some (2, x0), some (2, x1), some (2, x2), some (0, x3), some (0, x4), some (0, zand (M (M x0 0) x4) 31), some (0, zshr (M (M x0 0) x4) 5)]) (st' := [(0, 1), (0, x3)]) (M' := M) hX [(.iload_n 3, 0, 0, 0), (.iconst 1, 0, 0, 0)] (by decide +kernel) rfl trivial ?_
              refine zG.icmp_ge (tgt := 119) (off := 5) hX (by decide +kernel) (by decide) (fun c26 => ?_) (fun c26 => ?_)
              · have h := zip c26 h
                obtain ⟨g27, h⟩ := zif h
                refine zG.blk (pc' := 131) (l' := [some (2, x0), some (2, x1), some (2, x2), some (0, x3), some (0, x4), some (0, zand (M (M x0 0) x4) 31), some (0, zshr (M (M x0 0) x4) 5)]) (st' := []) (M' := (upM M x2 (w32 (x3 - 1)) (w64 (1 - (M x2 (w32 (x3 - 1))))))) hX [(.aload_n 2, 0, 0, 0), (.iload_n 3, 0, 0, 0), (.iconst 1, 0, 0, 0), (.isub, 0, 0, 0), (.lconst 1, 1, 0, 0), (.aload_n 2, 0, 0, 0), (.iload_n 3, 0, 0, 0), (.iconst 1, 0, 0, 0), (.isub, 0, 0, 0), (.laload, 0, 0, 0), (.lsub, 0, 0, 0), (.lastore, 0, 0, 0)] (by decide +kernel) rfl (And.intro g27 (And.intro g27 trivial)) ?_
                generalize upM M x2 (w32 (x3 - 1)) (w64 (1 - (M x2 (w32 (x3 - 1))))) = M28 at h ⊢
                have h := zlt h
                refine zG.goto (tgt := 193) (off := 62) hX (by decide +kernel) (by decide) ?_
                exact zG.wk [true, true, true, true, true, false, false] (pX4_sum_193_ok hX hRm ih h)
              · have h := zin c26 h
                refine zG.blk (pc' := 118) (l' := [some (2, x0), some (2, x1), some (2, x2), some (0, x3), some (0, x4), some (0, zand (M (M x0 0) x4) 31), some (0, zshr (M (M x0 0) x4) 5)]) (st' := [(1, 0)]) (M' := M) hX [(.lconst 0, 0, 0, 0)] (by decide +kernel) rfl trivial ?_
                cases h
                exact zG.lret hX (by decide +kernel)
          · have h := zip c14 h
            refine zG.blk (pc' := 92) (l' := [some (2, x0), some (2, x1), some (2, x2), some (0, x3), some (0, x4), some (0, zand (M (M x0 0) x4) 31), some (0, zshr (M (M x0 0) x4) 5)]) (st' := [(0, 1), (0, x3)]) (M' := M) hX [(.iload_n 3, 0, 0, 0), (.iconst 1, 0, 0, 0)] (by decide +kernel) rfl trivial ?_
            refine zG.icmp_ge (tgt := 99) (off := 7) hX (by decide +kernel) (by decide) (fun c29 => ?_) (fun c29 => ?_)
            · have h := zip c29 h
              obtain ⟨g30, h⟩ := zif h
              refine zG.blk (pc' := 104) (l' := [some (2, x0), some (2, x1), some (2, x2), some (0, x3), some (0, x4), some (0, zand (M (M x0 0) x4) 31), some (0, zshr (M (M x0 0) x4) 5)]) (st' := [(1, M x2 (w32 (x3 - 1)))]) (M' := M) hX [(.aload_n 2, 0, 0, 0), (.iload_n 3, 0, 0, 0), (.iconst 1, 0, 0, 0), (.isub, 0, 0, 0), (.laload, 0, 0, 0)] (by decide +kernel) rfl (And.intro g30 trivial) ?_
              exact zG.wk [false, false, false, false, false, false, false] (pX4_sum_104_ok hX hRm h)
            · have h := zin c29 h
              refine zG.blk (pc' := 96) (l' := [some (2, x0), some (2, x1), some (2, x2), some (0, x3), some (0, x4), some (0, zand (M (M x0 0) x4) 31), some (0, zshr (M (M x0 0) x4) 5)]) (st' := [(1, 0)]) (M' := M) hX [(.lconst 0, 0, 0, 0)] (by decide +kernel) rfl trivial ?_
              refine zG.goto (tgt := 104) (off := 8) hX (by decide +kernel) (by decide) ?_
              exact zG.wk [false, false, false, false, false, false, false] (pX4_sum_104_ok hX hRm h)
        · have h := zip c13 h
          exact (pX4_sum_49_ok hX hRm ih h)
noncomputable def pX4_sum (S : ZS) (M : ZM) (a0 : Int) (a1 : Int) (a2 : Int) : Option (Int × ZM) := pX4_sum_5 S zFU M a0 a1 a2 0 0
set_option maxHeartbeats 2000000 in
set_option maxRecDepth 20000 in
theorem pX4_sum_go {C : ZC} {E : ZE} {S : ZS} {M : ZM} {a0 a1 a2 : Int} {q : (Int × ZM)} (hX : zCx C E 4 cX4_sum 7 (some .long) false) (hRm : czR C = { frames := 2, cells := 0, slots := 0, locals := 64 }) (h : pX4_sum  S M a0 a1 a2 = some q) : zG C E 7 S 0 0 (zQ C E 0 0 (some (1, q.1)) S q.2) 0 [some (2, a0), some (2, a1), some (2, a2), none, none, none, none] [] M := by
  unfold pX4_sum at h
  refine zG.blk (pc' := 5) (l' := [some (2, a0), some (2, a1), some (2, a2), some (0, 0), some (0, 0), none, none]) (st' := []) (M' := M) hX [(.iconst 0, 0, 0, 0), (.istore_n 3, 0, 0, 0), (.iconst 0, 0, 0, 0), (.istore 4, 0, 0, 0)] (by decide +kernel) rfl trivial ?_
  exact (pX4_sum_5_ok hX hRm zFU _ _ _ _ _ _ h)
theorem pX4_sum_ok {l : Launch} {E : ZE} {S : ZS} {M : ZM} {a0 a1 a2 : Int} {q : (Int × ZM)} (h : pX4_sum S M a0 a1 a2 = some q) : zMet l yX4_sum cX4_sum 7 (some .long) 2 64 0 0 E S M [(2, a0), (2, a1), (2, a2)] (some (1, q.1)) S q.2 :=
  zMet.of (o := 4) (ini := false) (by decide +kernel) rfl (fun h => by cases h) (Nat.le_of_ble_eq_true rfl) (fun C hX hl hRm => by subst hl; exact pX4_sum_go hX hRm h)
theorem sv_0_55 : zSV 0 55 yX0_tellDay cX0_tellDay 5 none 2 := ⟨⟨gt_at 807 (by decide +kernel) rfl, gt_at 809 (by decide +kernel) rfl, gt_at 21 (by decide +kernel) rfl, gt_at 113 (by decide +kernel) rfl, gt_at 810 (by decide +kernel) rfl⟩, by decide +kernel, by decide +kernel, by decide +kernel⟩
noncomputable def pX0_writersBy_64 (S : ZS) (k12 : ZM → Int → Int → Int → Int → Int → Int → Option (Int × ZM)) (M : ZM) (x0 : Int) (x1 : Int) (x2 : Int) (x3 : Int) (x4 : Int) (x5 : Int) : Option (Int × ZM) := k12 M x0 x1 x2 x3 x4 (w32 (x5 + 1))
set_option maxHeartbeats 2000000 in
set_option maxRecDepth 20000 in
theorem pX0_writersBy_64_ok {C : ZC} {E : ZE} {S : ZS} {k12 : ZM → Int → Int → Int → Int → Int → Int → Option (Int × ZM)} {q : (Int × ZM)} (hX : zCx C E 0 cX0_writersBy 6 (some .int) false) (hRm : czR C = { frames := 3, cells := 0, slots := 0, locals := 90 }) (hk12 : ∀ M x0 x1 x2 x3 x4 x5, k12 M x0 x1 x2 x3 x4 x5 = some q → zG C E 6 S 0 0 (zQ C E 0 0 (some (0, q.1)) S q.2) 12 [some (2, x0), some (2, x1), some (2, x2), some (2, x3), some (0, x4), some (0, x5)] [] M) {M : ZM} {x0 : Int} {x1 : Int} {x2 : Int} {x3 : Int} {x4 : Int} {x5 : Int} (h : pX0_writersBy_64 S k12 M x0 x1 x2 x3 x4 x5 = some q) : zG C E 6 S 0 0 (zQ C E 0 0 (some (0, q.1)) S q.2) 64 [some (2, x0), some (2, x1), some (2, x2), some (2, x3), some (0, x4), some (0, x5)] [] M := by
  unfold pX0_writersBy_64 at h
  refine zG.blk (pc' := 67) (l' := [some (2, x0), some (2, x1), some (2, x2), some (2, x3), some (0, x4), some (0, w32 (x5 + 1))]) (st' := []) (M' := M) hX [(.iinc 5 1, 0, 0, 0)] (by decide +kernel) rfl trivial ?_
  refine zG.goto (tgt := 12) (off := (-55)) hX (by decide +kernel) (by decide) ?_
  exact (hk12 _ _ _ _ _ _ _ h)
theorem sv_0_65 : zSV 0 65 yX0_tellPen cX0_tellPen 6 none 3 := ⟨⟨gt_at 821 (by decide +kernel) rfl, gt_at 823 (by decide +kernel) rfl, gt_at 22 (by decide +kernel) rfl, gt_at 113 (by decide +kernel) rfl, gt_at 824 (by decide +kernel) rfl⟩, by decide +kernel, by decide +kernel, by decide +kernel⟩
theorem sv_0_68 : zSV 0 68 yX4_sum cX4_sum 7 (some .long) 2 := ⟨⟨gt_at 833 (by decide +kernel) rfl, gt_at 834 (by decide +kernel) rfl, gt_at 835 (by decide +kernel) rfl, gt_at 123 (by decide +kernel) rfl, gt_at 836 (by decide +kernel) rfl⟩, by decide +kernel, by decide +kernel, by decide +kernel⟩
noncomputable def pX0_writersBy_12 (S : ZS) : Nat → ZM → Int → Int → Int → Int → Int → Int → Option (Int × ZM)
  | 0 => fun _ _ _ _ _ _ _ => none
  | n + 1 => fun M x0 x1 x2 x3 x4 x5 => if S.1 x1 = 9 then if M x1 3 ≤ x5 then (some (x4, M)) else (if S.1 x2 = 6 then (pX6_isStayed S M x2 x5).bind fun q6 => if q6.1 = 0 then (if S.1 x0 = 0 then (pX0_tellPen S q6.2 x0 x1 x2 x5).bind fun q10 => if S.1 x3 = 4 then (pX4_sum S q10 x3 (q10 x0 0) (q10 x0 2)).bind fun q13 => if zcmp q13.1 0 ≤ 0 then (pX0_writersBy_64 S (pX0_writersBy_12 S n) q13.2 x0 x1 x2 x3 x4 x5) else (pX0_writersBy_64 S (pX0_writersBy_12 S n) q13.2 x0 x1 x2 x3 (zor x4 (zshl 1 x5)) x5) else none else none) else (pX0_writersBy_64 S (pX0_writersBy_12 S n) q6.2 x0 x1 x2 x3 x4 x5) else none) else none
set_option maxHeartbeats 2000000 in
set_option maxRecDepth 20000 in
theorem pX0_writersBy_12_ok {C : ZC} {E : ZE} {S : ZS} {q : (Int × ZM)} (hX : zCx C E 0 cX0_writersBy 6 (some .int) false) (hRm : czR C = { frames := 3, cells := 0, slots := 0, locals := 90 }) : ∀ (n : Nat) (M : ZM) (x0 : Int) (x1 : Int) (x2 : Int) (x3 : Int) (x4 : Int) (x5 : Int), pX0_writersBy_12 S n M x0 x1 x2 x3 x4 x5 = some q → zG C E 6 S 0 0 (zQ C E 0 0 (some (0, q.1)) S q.2) 12 [some (2, x0), some (2, x1), some (2, x2), some (2, x3), some (0, x4), some (0, x5)] [] M := by
  intro n
  induction n with
  | zero => intro M x0 x1 x2 x3 x4 x5 h; cases h
  | succ n ih =>
    intro M x0 x1 x2 x3 x4 x5 h
    unfold pX0_writersBy_12 at h
    obtain ⟨g4, h⟩ := zif h
    refine zG.blk (pc' := 18) (l' := [some (2, x0), some (2, x1), some (2, x2), some (2, x3), some (0, x4), some (0, x5)]) (st' := [(0, M x1 3), (0, x5)]) (M' := M) hX [(.iload 5, 0, 0, 0), (.aload_n 1, 0, 0, 0), (.getfield 58, 9, 3, 0)] (by decide +kernel) rfl (And.intro g4 trivial) ?_
    refine zG.icmp_ge (tgt := 70) (off := 52) hX (by decide +kernel) (by decide) (fun c5 => ?_) (fun c5 => ?_)
    · have h := zip c5 h
      refine zG.blk (pc' := 72) (l' := [some (2, x0), some (2, x1), some (2, x2), some (2, x3), some (0, x4), some (0, x5)]) (st' := [(0, x4)]) (M' := M) hX [(.iload 4, 0, 0, 0)] (by decide +kernel) rfl trivial ?_
      cases h
      exact zG.iret hX (by decide +kernel)
    · have h := zin c5 h
      refine zG.blk (pc' := 24) (l' := [some (2, x0), some (2, x1), some (2, x2), some (2, x3), some (0, x4), some (0, x5)]) (st' := [(0, x5), (2, x2)]) (M' := M) hX [(.aload_n 2, 0, 0, 0), (.iload 5, 0, 0, 0)] (by decide +kernel) rfl trivial ?_
      obtain ⟨g8, h⟩ := zif h
      obtain ⟨q6, e7, h⟩ := zbd h
      refine zG.callV (b := x2) (av := [(0, x5)]) (st := []) (ci := 6) hX (pX6_isStayed_ok e7) sv_0_61 rfl ⟨by decide, rfl⟩ g8 (by decide +kernel) (by rw [hRm]; exact ⟨Nat.le_of_ble_eq_true rfl, Nat.le_of_ble_eq_true rfl⟩) (by rw [hRm]; exact ⟨Nat.le_of_ble_eq_true rfl, Nat.le_of_ble_eq_true rfl⟩) (Nat.le_of_ble_eq_true rfl) ?_
      show zG C E 6 S 0 0 _ 27 [some (2, x0), some (2, x1), some (2, x2), some (2, x3), some (0, x4), some (0, x5)] [(0, q6.1)] q6.2
      refine zG.if_ne (tgt := 64) (off := 37) hX (by decide +kernel) (by decide) (fun c9 => ?_) (fun c9 => ?_)
      · have h := zin c9 h
        exact (pX0_writersBy_64_ok hX hRm ih h)
      · have h := zip c9 h
        refine zG.blk (pc' := 35) (l' := [some (2, x0), some (2, x1), some (2, x2), some (2, x3), some (0, x4), some (0, x5)]) (st' := [(0, x5), (2, x2), (2, x1), (2, x0)]) (M' := q6.2) hX [(.aload_n 0, 0, 0, 0), (.aload_n 1, 0, 0, 0), (.aload_n 2, 0, 0, 0), (.iload 5, 0, 0, 0)] (by decide +kernel) rfl trivial ?_
        obtain ⟨g12, h⟩ := zif h
        obtain ⟨q10, e11, h⟩ := zbd h
        refine zG.callV (b := x0) (av := [(2, x1), (2, x2), (0, x5)]) (st := []) (ci := 0) hX (pX0_tellPen_ok e11) sv_0_65 rfl ⟨by decide, rfl⟩ g12 (by decide +kernel) (by rw [hRm]; exact ⟨Nat.le_of_ble_eq_true rfl, Nat.le_of_ble_eq_true rfl⟩) (by rw [hRm]; exact ⟨Nat.le_of_ble_eq_true rfl, Nat.le_of_ble_eq_true rfl⟩) (Nat.le_of_ble_eq_true rfl) ?_
        show zG C E 6 S 0 0 _ 38 [some (2, x0), some (2, x1), some (2, x2), some (2, x3), some (0, x4), some (0, x5)] [] q10
        refine zG.blk (pc' := 47) (l' := [some (2, x0), some (2, x1), some (2, x2), some (2, x3), some (0, x4), some (0, x5)]) (st' := [(2, q10 x0 2), (2, q10 x0 0), (2, x3)]) (M' := q10) hX [(.aload_n 3, 0, 0, 0), (.aload_n 0, 0, 0, 0), (.getfield 9, 0, 0, 2), (.aload_n 0, 0, 0, 0), (.getfield 18, 0, 2, 2)] (by decide +kernel) rfl (And.intro g12 (And.intro g12 trivial)) ?_
        obtain ⟨g15, h⟩ := zif h
        obtain ⟨q13, e14, h⟩ := zbd h
        refine zG.callV (b := x3) (av := [(2, q10 x0 0), (2, q10 x0 2)]) (st := []) (ci := 4) hX (pX4_sum_ok e14) sv_0_68 rfl ⟨by decide, rfl⟩ g15 (by decide +kernel) (by rw [hRm]; exact ⟨Nat.le_of_ble_eq_true rfl, Nat.le_of_ble_eq_true rfl⟩) (by rw [hRm]; exact ⟨Nat.le_of_ble_eq_true rfl, Nat.le_of_ble_eq_true rfl⟩) (Nat.le_of_ble_eq_true rfl) ?_
        show zG C E 6 S 0 0 _ 50 [some (2, x0), some (2, x1), some (2, x2), some (2, x3), some (0, x4), some (0, x5)] [(1, q13.1)] q13.2
        refine zG.blk (pc' := 52) (l' := [some (2, x0), some (2, x1), some (2, x2), some (2, x3), some (0, x4), some (0, x5)]) (st' := [(0, zcmp q13.1 0)]) (M' := q13.2) hX [(.lconst 0, 0, 0, 0), (.lcmp, 0, 0, 0)] (by decide +kernel) rfl trivial ?_
        refine zG.if_le (tgt := 64) (off := 12) hX (by decide +kernel) (by decide) (fun c16 => ?_) (fun c16 => ?_)
        · have h := zip c16 h
          exact (pX0_writersBy_64_ok hX hRm ih h)
        · have h := zin c16 h
          refine zG.blk (pc' := 64) (l' := [some (2, x0), some (2, x1), some (2, x2), some (2, x3), some (0, zor x4 (zshl 1 x5)), some (0, x5)]) (st' := []) (M' := q13.2) hX [(.iload 4, 0, 0, 0), (.iconst 1, 0, 0, 0), (.iload 5, 0, 0, 0), (.ishl, 0, 0, 0), (.ior, 0, 0, 0), (.istore 4, 0, 0, 0)] (by decide +kernel) rfl trivial ?_
          exact (pX0_writersBy_64_ok hX hRm ih h)
noncomputable def pX0_writersBy (S : ZS) (M : ZM) (a0 : Int) (a1 : Int) (a2 : Int) (a3 : Int) : Option (Int × ZM) := if S.1 a0 = 0 then (pX0_tellDay S M a0 a1 a2).bind fun q1 => pX0_writersBy_12 S zFU q1 a0 a1 a2 a3 0 0 else none
set_option maxHeartbeats 2000000 in
set_option maxRecDepth 20000 in
theorem pX0_writersBy_go {C : ZC} {E : ZE} {S : ZS} {M : ZM} {a0 a1 a2 a3 : Int} {q : (Int × ZM)} (hX : zCx C E 0 cX0_writersBy 6 (some .int) false) (hRm : czR C = { frames := 3, cells := 0, slots := 0, locals := 90 }) (h : pX0_writersBy  S M a0 a1 a2 a3 = some q) : zG C E 6 S 0 0 (zQ C E 0 0 (some (0, q.1)) S q.2) 0 [some (2, a0), some (2, a1), some (2, a2), some (2, a3), none, none] [] M := by
  unfold pX0_writersBy at h
  refine zG.blk (pc' := 3) (l' := [some (2, a0), some (2, a1), some (2, a2), some (2, a3), none, none]) (st' := [(2, a2), (2, a1), (2, a0)]) (M' := M) hX [(.aload_n 0, 0, 0, 0), (.aload_n 1, 0, 0, 0), (.aload_n 2, 0, 0, 0)] (by decide +kernel) rfl trivial ?_
  obtain ⟨g3, h⟩ := zif h
  obtain ⟨q1, e2, h⟩ := zbd h
  refine zG.callV (b := a0) (av := [(2, a1), (2, a2)]) (st := []) (ci := 0) hX (pX0_tellDay_ok e2) sv_0_55 rfl ⟨by decide, rfl⟩ g3 (by decide +kernel) (by rw [hRm]; exact ⟨Nat.le_of_ble_eq_true rfl, Nat.le_of_ble_eq_true rfl⟩) (by rw [hRm]; exact ⟨Nat.le_of_ble_eq_true rfl, Nat.le_of_ble_eq_true rfl⟩) (Nat.le_of_ble_eq_true rfl) ?_
  show zG C E 6 S 0 0 _ 6 [some (2, a0), some (2, a1), some (2, a2), some (2, a3), none, none] [] q1
  refine zG.blk (pc' := 12) (l' := [some (2, a0), some (2, a1), some (2, a2), some (2, a3), some (0, 0), some (0, 0)]) (st' := []) (M' := q1) hX [(.iconst 0, 0, 0, 0), (.istore 4, 0, 0, 0), (.iconst 0, 0, 0, 0), (.istore 5, 0, 0, 0)] (by decide +kernel) rfl trivial ?_
  exact (pX0_writersBy_12_ok hX hRm zFU _ _ _ _ _ _ _ h)
theorem pX0_writersBy_ok {l : Launch} {E : ZE} {S : ZS} {M : ZM} {a0 a1 a2 a3 : Int} {q : (Int × ZM)} (h : pX0_writersBy S M a0 a1 a2 a3 = some q) : zMet l yX0_writersBy cX0_writersBy 6 (some .int) 3 90 0 0 E S M [(2, a0), (2, a1), (2, a2), (2, a3)] (some (0, q.1)) S q.2 :=
  zMet.of (o := 0) (ini := false) (by decide +kernel) rfl (fun h => by cases h) (Nat.le_of_ble_eq_true rfl) (fun C hX hl hRm => by subst hl; exact pX0_writersBy_go hX hRm h)
noncomputable def pX9_allPens (S : ZS) (M : ZM) (a0 : Int) : Option (Int × ZM) := if S.1 a0 = 9 then some (w32 ((zshl 1 (M a0 3)) - 1), M) else none
set_option maxHeartbeats 2000000 in
set_option maxRecDepth 20000 in
theorem pX9_allPens_go {C : ZC} {E : ZE} {S : ZS} {M : ZM} {a0 : Int} {q : (Int × ZM)} (hX : zCx C E 9 cX9_allPens 1 (some .int) false) (hRm : czR C = { frames := 1, cells := 0, slots := 0, locals := 40 }) (h : pX9_allPens  S M a0 = some q) : zG C E 1 S 0 0 (zQ C E 0 0 (some (0, q.1)) S q.2) 0 [some (2, a0)] [] M := by
  unfold pX9_allPens at h
  obtain ⟨g1, h⟩ := zif h
  refine zG.blk (pc' := 8) (l' := [some (2, a0)]) (st' := [(0, w32 ((zshl 1 (M a0 3)) - 1))]) (M' := M) hX [(.iconst 1, 0, 0, 0), (.aload_n 0, 0, 0, 0), (.getfield 37, 9, 3, 0), (.ishl, 0, 0, 0), (.iconst 1, 0, 0, 0), (.isub, 0, 0, 0)] (by decide +kernel) rfl (And.intro g1 trivial) ?_
  cases h
  exact zG.iret hX (by decide +kernel)
theorem pX9_allPens_ok {l : Launch} {E : ZE} {S : ZS} {M : ZM} {a0 : Int} {q : (Int × ZM)} (h : pX9_allPens S M a0 = some q) : zMet l yX9_allPens cX9_allPens 1 (some .int) 1 40 0 0 E S M [(2, a0)] (some (0, q.1)) S q.2 :=
  zMet.of (o := 9) (ini := false) (by decide +kernel) rfl (fun h => by cases h) (Nat.le_of_ble_eq_true rfl) (fun C hX hl hRm => by subst hl; exact pX9_allPens_go hX hRm h)
theorem sv_0_38 : zSV 0 38 yX0_writersBy cX0_writersBy 6 (some .int) 3 := ⟨⟨gt_at 803 (by decide +kernel) rfl, gt_at 805 (by decide +kernel) rfl, gt_at 20 (by decide +kernel) rfl, gt_at 113 (by decide +kernel) rfl, gt_at 806 (by decide +kernel) rfl⟩, by decide +kernel, by decide +kernel, by decide +kernel⟩
theorem sv_0_41 : zSV 0 41 yX0_movePens cX0_movePens 6 none 2 := ⟨⟨gt_at 843 (by decide +kernel) rfl, gt_at 845 (by decide +kernel) rfl, gt_at 23 (by decide +kernel) rfl, gt_at 113 (by decide +kernel) rfl, gt_at 846 (by decide +kernel) rfl⟩, by decide +kernel, by decide +kernel, by decide +kernel⟩
theorem sv_0_45 : zSV 0 45 yX0_leaveStrokes cX0_leaveStrokes 7 none 3 := ⟨⟨gt_at 853 (by decide +kernel) rfl, gt_at 855 (by decide +kernel) rfl, gt_at 24 (by decide +kernel) rfl, gt_at 113 (by decide +kernel) rfl, gt_at 856 (by decide +kernel) rfl⟩, by decide +kernel, by decide +kernel, by decide +kernel⟩
theorem sv_0_52 : zSV 0 52 yX0_fadeStrokes cX0_fadeStrokes 5 none 2 := ⟨⟨gt_at 860 (by decide +kernel) rfl, gt_at 862 (by decide +kernel) rfl, gt_at 25 (by decide +kernel) rfl, gt_at 113 (by decide +kernel) rfl, gt_at 863 (by decide +kernel) rfl⟩, by decide +kernel, by decide +kernel, by decide +kernel⟩
noncomputable def pX0_one_57 (S : ZS) (M : ZM) (x4 : Int) : Option (Int × ZM) := some (x4, M)
set_option maxHeartbeats 2000000 in
set_option maxRecDepth 20000 in
theorem pX0_one_57_ok {C : ZC} {E : ZE} {S : ZS} {q : (Int × ZM)} (hX : zCx C E 0 cX0_one 5 (some .int) false) (hRm : czR C = { frames := 4, cells := 0, slots := 0, locals := 115 }) {M : ZM} {x4 : Int} (h : pX0_one_57 S M x4 = some q) : zG C E 5 S 0 0 (zQ C E 0 0 (some (0, q.1)) S q.2) 57 [none, none, none, none, some (0, x4)] [] M := by
  unfold pX0_one_57 at h
  refine zG.blk (pc' := 59) (l' := [none, none, none, none, some (0, x4)]) (st' := [(0, x4)]) (M' := M) hX [(.iload 4, 0, 0, 0)] (by decide +kernel) rfl trivial ?_
  cases h
  exact zG.iret hX (by decide +kernel)
noncomputable def pX0_one_25 (S : ZS) (M : ZM) (x0 : Int) (x1 : Int) (x2 : Int) (y0 : Int) : Option (Int × ZM) := if S.1 x0 = 0 then (pX0_movePens S M x0 x1 x2).bind fun q5 => (pX0_leaveStrokes S q5 x0 x1 x2 y0).bind fun q8 => if S.1 x2 = 6 then zlet (upM q8 x2 5 (w32 ((q8 x2 5) + 1))) fun M11 => (pX0_fadeStrokes S M11 x0 x1 x2).bind fun q12 => pX0_one_57 S q12 y0 else none else none
set_option maxHeartbeats 2000000 in
set_option maxRecDepth 20000 in
theorem pX0_one_25_ok {C : ZC} {E : ZE} {S : ZS} {q : (Int × ZM)} (hX : zCx C E 0 cX0_one 5 (some .int) false) (hRm : czR C = { frames := 4, cells := 0, slots := 0, locals := 115 }) {M : ZM} {x0 : Int} {x1 : Int} {x2 : Int} {y0 : Int} (h : pX0_one_25 S M x0 x1 x2 y0 = some q) : zG C E 5 S 0 0 (zQ C E 0 0 (some (0, q.1)) S q.2) 25 [some (2, x0), some (2, x1), some (2, x2), none, none] [(0, y0)] M := by
  unfold pX0_one_25 at h
  refine zG.blk (pc' := 30) (l' := [some (2, x0), some (2, x1), some (2, x2), none, some (0, y0)]) (st' := [(2, x2), (2, x1), (2, x0)]) (M' := M) hX [(.istore 4, 0, 0, 0), (.aload_n 0, 0, 0, 0), (.aload_n 1, 0, 0, 0), (.aload_n 2, 0, 0, 0)] (by decide +kernel) rfl trivial ?_
  obtain ⟨g7, h⟩ := zif h
  obtain ⟨q5, e6, h⟩ := zbd h
  refine zG.callV (b := x0) (av := [(2, x1), (2, x2)]) (st := []) (ci := 0) hX (pX0_movePens_ok e6) sv_0_41 rfl ⟨by decide, rfl⟩ g7 (by decide +kernel) (by rw [hRm]; exact ⟨Nat.le_of_ble_eq_true rfl, Nat.le_of_ble_eq_true rfl⟩) (by rw [hRm]; exact ⟨Nat.le_of_ble_eq_true rfl, Nat.le_of_ble_eq_true rfl⟩) (Nat.le_of_ble_eq_true rfl) ?_
  show zG C E 5 S 0 0 _ 33 [some (2, x0), some (2, x1), some (2, x2), none, some (0, y0)] [] q5
  refine zG.blk (pc' := 38) (l' := [some (2, x0), some (2, x1), some (2, x2), none, some (0, y0)]) (st' := [(0, y0), (2, x2), (2, x1), (2, x0)]) (M' := q5) hX [(.aload_n 0, 0, 0, 0), (.aload_n 1, 0, 0, 0), (.aload_n 2, 0, 0, 0), (.iload 4, 0, 0, 0)] (by decide +kernel) rfl trivial ?_
  obtain ⟨q8, e9, h⟩ := zbd h
  refine zG.callV (b := x0) (av := [(2, x1), (2, x2), (0, y0)]) (st := []) (ci := 0) hX (pX0_leaveStrokes_ok e9) sv_0_45 rfl ⟨by decide, rfl⟩ g7 (by decide +kernel) (by rw [hRm]; exact ⟨Nat.le_of_ble_eq_true rfl, Nat.le_of_ble_eq_true rfl⟩) (by rw [hRm]; exact ⟨Nat.le_of_ble_eq_true rfl, Nat.le_of_ble_eq_true rfl⟩) (Nat.le_of_ble_eq_true rfl) ?_
  show zG C E 5 S 0 0 _ 41 [some (2, x0), some (2, x1), some (2, x2), none, some (0, y0)] [] q8
  obtain ⟨g10, h⟩ := zif h
  refine zG.blk (pc' := 51) (l' := [some (2, x0), some (2, x1), some (2, x2), none, some (0, y0)]) (st' := []) (M' := (upM q8 x2 5 (w32 ((q8 x2 5) + 1)))) hX [(.aload_n 2, 0, 0, 0), (.dup, 0, 0, 0), (.getfield 49, 6, 5, 0), (.iconst 1, 0, 0, 0), (.iadd, 0, 0, 0), (.putfield 49, 6, 5, 0)] (by decide +kernel) rfl (And.intro g10 (And.intro g10 trivial)) ?_
  generalize upM q8 x2 5 (w32 ((q8 x2 5) + 1)) = M11 at h ⊢
  have h := zlt h
  refine zG.blk (pc' := 54) (l' := [some (2, x0), some (2, x1), some (2, x2), none, some (0, y0)]) (st' := [(2, x2), (2, x1), (2, x0)]) (M' := M11) hX [(.aload_n 0, 0, 0, 0), (.aload_n 1, 0, 0, 0), (.aload_n 2, 0, 0, 0)] (by decide +kernel) rfl trivial ?_
  obtain ⟨q12, e13, h⟩ := zbd h
  refine zG.callV (b := x0) (av := [(2, x1), (2, x2)]) (st := []) (ci := 0) hX (pX0_fadeStrokes_ok e13) sv_0_52 rfl ⟨by decide, rfl⟩ g7 (by decide +kernel) (by rw [hRm]; exact ⟨Nat.le_of_ble_eq_true rfl, Nat.le_of_ble_eq_true rfl⟩) (by rw [hRm]; exact ⟨Nat.le_of_ble_eq_true rfl, Nat.le_of_ble_eq_true rfl⟩) (Nat.le_of_ble_eq_true rfl) ?_
  show zG C E 5 S 0 0 _ 57 [some (2, x0), some (2, x1), some (2, x2), none, some (0, y0)] [] q12
  exact zG.wk [false, false, false, true, true] (pX0_one_57_ok hX hRm h)
theorem sv_0_32 : zSV 0 32 yX9_allPens cX9_allPens 1 (some .int) 0 := ⟨⟨gt_at 799 (by decide +kernel) rfl, gt_at 800 (by decide +kernel) rfl, gt_at 801 (by decide +kernel) rfl, gt_at 108 (by decide +kernel) rfl, gt_at 802 (by decide +kernel) rfl⟩, by decide +kernel, by decide +kernel, by decide +kernel⟩
noncomputable def pX0_one (S : ZS) (M : ZM) (a0 : Int) (a1 : Int) (a2 : Int) (a3 : Int) : Option (Int × ZM) := if 1 ≤ a3 then (if S.1 a0 = 0 then (pX0_writersBy S M a0 a1 a2 a3).bind fun q2 => pX0_one_25 S q2.2 a0 a1 a2 q2.1 else none) else (if S.1 a2 = 6 then if S.1 a1 = 9 then (pX9_allPens S M a1).bind fun q15 => pX0_one_25 S q15.2 a0 a1 a2 (zand (zxor (M a2 4) (-1)) q15.1) else none else none)
set_option maxHeartbeats 2000000 in
set_option maxRecDepth 20000 in
theorem pX0_one_go {C : ZC} {E : ZE} {S : ZS} {M : ZM} {a0 a1 a2 a3 : Int} {q : (Int × ZM)} (hX : zCx C E 0 cX0_one 5 (some .int) false) (hRm : czR C = { frames := 4, cells := 0, slots := 0, locals := 115 }) (h : pX0_one  S M a0 a1 a2 a3 = some q) : zG C E 5 S 0 0 (zQ C E 0 0 (some (0, q.1)) S q.2) 0 [some (2, a0), some (2, a1), some (2, a2), some (2, a3), none] [] M := by
  unfold pX0_one at h
  refine zG.blk (pc' := 1) (l' := [some (2, a0), some (2, a1), some (2, a2), some (2, a3), none]) (st' := [(2, a3)]) (M' := M) hX [(.aload_n 3, 0, 0, 0)] (by decide +kernel) rfl trivial ?_
  refine zG.ifnonnull (tgt := 18) (off := 17) hX (by decide +kernel) (by decide) (fun c1 => ?_) (fun c1 => ?_)
  · have h := zip c1 h
    refine zG.blk (pc' := 22) (l' := [some (2, a0), some (2, a1), some (2, a2), some (2, a3), none]) (st' := [(2, a3), (2, a2), (2, a1), (2, a0)]) (M' := M) hX [(.aload_n 0, 0, 0, 0), (.aload_n 1, 0, 0, 0), (.aload_n 2, 0, 0, 0), (.aload_n 3, 0, 0, 0)] (by decide +kernel) rfl trivial ?_
    obtain ⟨g4, h⟩ := zif h
    obtain ⟨q2, e3, h⟩ := zbd h
    refine zG.callV (b := a0) (av := [(2, a1), (2, a2), (2, a3)]) (st := []) (ci := 0) hX (pX0_writersBy_ok e3) sv_0_38 rfl ⟨by decide, rfl⟩ g4 (by decide +kernel) (by rw [hRm]; exact ⟨Nat.le_of_ble_eq_true rfl, Nat.le_of_ble_eq_true rfl⟩) (by rw [hRm]; exact ⟨Nat.le_of_ble_eq_true rfl, Nat.le_of_ble_eq_true rfl⟩) (Nat.le_of_ble_eq_true rfl) ?_
    show zG C E 5 S 0 0 _ 25 [some (2, a0), some (2, a1), some (2, a2), some (2, a3), none] [(0, q2.1)] q2.2
    exact zG.wk [true, true, true, false, true] (pX0_one_25_ok hX hRm h)
  · have h := zin c1 h
    obtain ⟨g14, h⟩ := zif h
    refine zG.blk (pc' := 11) (l' := [some (2, a0), some (2, a1), some (2, a2), some (2, a3), none]) (st' := [(2, a1), (0, zxor (M a2 4) (-1))]) (M' := M) hX [(.aload_n 2, 0, 0, 0), (.getfield 26, 6, 4, 0), (.iconst (-1), 0, 0, 0), (.ixor, 0, 0, 0), (.aload_n 1, 0, 0, 0)] (by decide +kernel) rfl (And.intro g14 trivial) ?_
    obtain ⟨g17, h⟩ := zif h
    obtain ⟨q15, e16, h⟩ := zbd h
    refine zG.callV (b := a1) (av := []) (st := [(0, zxor (M a2 4) (-1))]) (ci := 9) hX (pX9_allPens_ok e16) sv_0_32 rfl ⟨by decide, rfl⟩ g17 (by decide +kernel) (by rw [hRm]; exact ⟨Nat.le_of_ble_eq_true rfl, Nat.le_of_ble_eq_true rfl⟩) (by rw [hRm]; exact ⟨Nat.le_of_ble_eq_true rfl, Nat.le_of_ble_eq_true rfl⟩) (Nat.le_of_ble_eq_true rfl) ?_
    show zG C E 5 S 0 0 _ 14 [some (2, a0), some (2, a1), some (2, a2), some (2, a3), none] [(0, q15.1), (0, zxor (M a2 4) (-1))] q15.2
    refine zG.blk (pc' := 15) (l' := [some (2, a0), some (2, a1), some (2, a2), some (2, a3), none]) (st' := [(0, zand (zxor (M a2 4) (-1)) q15.1)]) (M' := q15.2) hX [(.iand, 0, 0, 0)] (by decide +kernel) rfl trivial ?_
    refine zG.goto (tgt := 25) (off := 10) hX (by decide +kernel) (by decide) ?_
    exact zG.wk [true, true, true, false, true] (pX0_one_25_ok hX hRm h)
theorem pX0_one_ok {l : Launch} {E : ZE} {S : ZS} {M : ZM} {a0 a1 a2 a3 : Int} {q : (Int × ZM)} (h : pX0_one S M a0 a1 a2 a3 = some q) : zMet l yX0_one cX0_one 5 (some .int) 4 115 0 0 E S M [(2, a0), (2, a1), (2, a2), (2, a3)] (some (0, q.1)) S q.2 :=
  zMet.of (o := 0) (ini := false) (by decide +kernel) rfl (fun h => by cases h) (Nat.le_of_ble_eq_true rfl) (fun C hX hl hRm => by subst hl; exact pX0_one_go hX hRm h)
