/-! THE LAW'S TURNS -/
def zScr (C : ZC) (E : ZE) (b L : Int) (xs : Int → Int) : Prop := 0 ≤ b ∧ 0 ≤ L ∧ ∃ x32 : Nat → Int32, va_X b.toNat L.toNat x32 (czs C) (czs C).heap ∧ b.toNat < (czs C).heap.size ∧ b.toNat < eB E ∧ ∀ i : Int, xs i = (x32 i.toNat).toInt
theorem zG.sld {C : ZC} {E : ZE} {o : Nat} {cc : ByteArray} {nL : Nat} {ret : Option FieldType} {ini : Bool} {S : ZS} {ce sl : Nat} {Q : State → Prop} {pc : Nat} {l : ZL} {st : List ZV} {M : ZM} {b L i : Int} {xs : Int → Int} (hX : zCx C E o cc nL ret ini) (hsc : zScr C E b L xs) (hi : 0 ≤ i ∧ i < L) (hd : decode cc pc = .ok (.iaload, 1)) (k : zG C E nL S ce sl Q (pc + 1) l ((0, xs i) :: st) M) : zG C E nL S ce sl Q pc l ((0, i) :: (5, b) :: st) M := by
  intro hO hl hs H locs ls hR hS hL
  obtain ⟨hx, hb, hml, hown, hts, hEn, -⟩ := hX
  obtain ⟨h0, hL0, x32, h1, h2, h3, h4⟩ := hsc
  have hii := hs.head.i
  have e : zV E (5, b) = .ref b.toNat := by
    show va_rf (if b < 0 then none else some b.toNat) = _
    rw [if_neg (by omega)]; rfl
  have key := k hO hl (hs.tail.tail.cons (zVo_i (x := xs i) (by rw [h4]; exact i32_in _))) H locs ls hR hS hL
  show zW C H locs ce sl Q (F0 (czm C) pc ls (.int (Int32.ofInt i) :: zV E (5, b) :: st.map (zV E)))
  rw [e]
  refine va_sld hx hb h1 h2 (Nat.not_le.mpr h3) hS (i32_vin hii hi.1 hi.2) hd ?_
  rw [i32_clamp hii]
  have e2 : zV E (0, xs i) = .int (x32 i.toNat) := by
    show Value.int (Int32.ofInt (xs i)) = _
    rw [h4, Int32.ofInt_toInt]
  rw [List.map_cons, e2] at key
  exact key
theorem zG.sll {C : ZC} {E : ZE} {o : Nat} {cc : ByteArray} {nL : Nat} {ret : Option FieldType} {ini : Bool} {S : ZS} {ce sl : Nat} {Q : State → Prop} {pc : Nat} {l : ZL} {st : List ZV} {M : ZM} {b L : Int} {xs : Int → Int} (hX : zCx C E o cc nL ret ini) (hsc : zScr C E b L xs) (hLb : L ≤ 3072) (hd : decode cc pc = .ok (.arraylength, 1)) (k : zG C E nL S ce sl Q (pc + 1) l ((0, L) :: st) M) : zG C E nL S ce sl Q pc l ((5, b) :: st) M := by
  intro hO hl hs H locs ls hR hS hL
  obtain ⟨hx, hb, hml, hown, hts, hEn, -⟩ := hX
  obtain ⟨h0, hL0, x32, h1, h2, h3, h4⟩ := hsc
  have e : zV E (5, b) = .ref b.toNat := by
    show va_rf (if b < 0 then none else some b.toNat) = _
    rw [if_neg (by omega)]; rfl
  have key := k hO hl (hs.tail.cons (zVo_i (x := L) (by unfold in32; omega))) H locs ls hR hS hL
  show zW C H locs ce sl Q (F0 (czm C) pc ls (zV E (5, b) :: st.map (zV E)))
  rw [e]
  refine va_slen hx hb h1 h2 (Nat.not_le.mpr h3) hS hd ?_
  have e2 : Int32.ofNat L.toNat = Int32.ofInt L := by
    rw [← Int32.ofInt_eq_ofNat]; congr 1; omega
  rw [e2]
  exact key
theorem sv_13_13 : zSV 13 13 yX11_feed cX11_feed 6 (some .int) 5 := ⟨⟨gt_at 495 (by decide +kernel) rfl, gt_at 496 (by decide +kernel) rfl, gt_at 497 (by decide +kernel) rfl, gt_at 105 (by decide +kernel) rfl, gt_at 498 (by decide +kernel) rfl⟩, by decide +kernel, by decide +kernel, by decide +kernel⟩
theorem sv_13_17 : zSV 13 17 yX12_feed cX12_feed 6 (some .int) 5 := ⟨⟨gt_at 1291 (by decide +kernel) rfl, gt_at 1292 (by decide +kernel) rfl, gt_at 1293 (by decide +kernel) rfl, gt_at 117 (by decide +kernel) rfl, gt_at 1294 (by decide +kernel) rfl⟩, by decide +kernel, by decide +kernel, by decide +kernel⟩
noncomputable def lawC0 (xs : Int → Int) (S : ZS) (M : ZM) (x1 x2 i : Int) : Option (ZS × ZM) := if S.1 x1 = 11 then (pX11_feed S M x1 (xs (i + 1)) (xs (i + 2)) (xs (i + 3)) (xs (i + 4)) (xs (i + 5))).bind fun q0 => if S.1 x2 = 12 then (pX12_feed S q0.2 x2 (xs (i + 1)) (xs (i + 2)) (xs (i + 3)) (xs (i + 4)) (xs (i + 5))).bind fun q1 => if q0.1 = q1.1 then some (S, q1.2) else none else none else none
set_option maxHeartbeats 2000000 in
set_option maxRecDepth 20000 in
theorem lawC0_ok {C : ZC} {E : ZE} {b x1 x2 i L : Int} {xs : Int → Int} {S : ZS} {M : ZM} {ce sl : Nat} {Q : State → Prop} {q : ZS × ZM} (hX : zCx C E 13 code 4 ret false) (hRm : czR C = room_1) (hsc : zScr C E b L xs) (hi : 0 ≤ i ∧ i + 6 ≤ L) (hL : L ≤ 3072) (hce : ce + 200 ≤ 600000 ∧ sl + 2500 ≤ 7302249) (h : lawC0 xs S M x1 x2 i = some q) (hk : zG C E 4 q.1 (ce + 120) (sl + 2100) Q 1152 [some (5, b), some (2, x1), some (2, x2), some (0, i)] [] q.2) : zG C E 4 S ce sl Q 176 [some (5, b), some (2, x1), some (2, x2), some (0, i)] [] M := by
  unfold lawC0 at h
  have e1 : w32 (i + 1) = i + 1 := w32_id (by unfold in32; omega)
  have e2 : w32 (i + 2) = i + 2 := w32_id (by unfold in32; omega)
  have e3 : w32 (i + 3) = i + 3 := w32_id (by unfold in32; omega)
  have e4 : w32 (i + 4) = i + 4 := w32_id (by unfold in32; omega)
  have e5 : w32 (i + 5) = i + 5 := w32_id (by unfold in32; omega)
  refine zG.blk (pc' := 181) (l' := [some (5, b), some (2, x1), some (2, x2), some (0, i)]) (st' := [(0, w32 (i + 1)), (5, b), (2, x1)]) (M' := M) hX [(.aload_n 1, 0, 0, 0), (.aload_n 0, 0, 0, 0), (.iload_n 3, 0, 0, 0), (.iconst 1, 0, 0, 0), (.iadd, 0, 0, 0)] (by decide +kernel) rfl trivial ?_
  refine zG.sld (i := w32 (i + 1)) hX hsc (by rw [e1]; omega) (by decide +kernel) ?_
  rw [e1]
  show zG C E 4 S (ce) (sl) Q 182 [some (5, b), some (2, x1), some (2, x2), some (0, i)] [(0, xs (i + 1)), (2, x1)] M
  refine zG.blk (pc' := 186) (l' := [some (5, b), some (2, x1), some (2, x2), some (0, i)]) (st' := [(0, w32 (i + 2)), (5, b), (0, xs (i + 1)), (2, x1)]) (M' := M) hX [(.aload_n 0, 0, 0, 0), (.iload_n 3, 0, 0, 0), (.iconst 2, 0, 0, 0), (.iadd, 0, 0, 0)] (by decide +kernel) rfl trivial ?_
  refine zG.sld (i := w32 (i + 2)) hX hsc (by rw [e2]; omega) (by decide +kernel) ?_
  rw [e2]
  show zG C E 4 S (ce) (sl) Q 187 [some (5, b), some (2, x1), some (2, x2), some (0, i)] [(0, xs (i + 2)), (0, xs (i + 1)), (2, x1)] M
  refine zG.blk (pc' := 191) (l' := [some (5, b), some (2, x1), some (2, x2), some (0, i)]) (st' := [(0, w32 (i + 3)), (5, b), (0, xs (i + 2)), (0, xs (i + 1)), (2, x1)]) (M' := M) hX [(.aload_n 0, 0, 0, 0), (.iload_n 3, 0, 0, 0), (.iconst 3, 0, 0, 0), (.iadd, 0, 0, 0)] (by decide +kernel) rfl trivial ?_
  refine zG.sld (i := w32 (i + 3)) hX hsc (by rw [e3]; omega) (by decide +kernel) ?_
  rw [e3]
  show zG C E 4 S (ce) (sl) Q 192 [some (5, b), some (2, x1), some (2, x2), some (0, i)] [(0, xs (i + 3)), (0, xs (i + 2)), (0, xs (i + 1)), (2, x1)] M
  refine zG.blk (pc' := 196) (l' := [some (5, b), some (2, x1), some (2, x2), some (0, i)]) (st' := [(0, w32 (i + 4)), (5, b), (0, xs (i + 3)), (0, xs (i + 2)), (0, xs (i + 1)), (2, x1)]) (M' := M) hX [(.aload_n 0, 0, 0, 0), (.iload_n 3, 0, 0, 0), (.iconst 4, 0, 0, 0), (.iadd, 0, 0, 0)] (by decide +kernel) rfl trivial ?_
  refine zG.sld (i := w32 (i + 4)) hX hsc (by rw [e4]; omega) (by decide +kernel) ?_
  rw [e4]
  show zG C E 4 S (ce) (sl) Q 197 [some (5, b), some (2, x1), some (2, x2), some (0, i)] [(0, xs (i + 4)), (0, xs (i + 3)), (0, xs (i + 2)), (0, xs (i + 1)), (2, x1)] M
  refine zG.blk (pc' := 201) (l' := [some (5, b), some (2, x1), some (2, x2), some (0, i)]) (st' := [(0, w32 (i + 5)), (5, b), (0, xs (i + 4)), (0, xs (i + 3)), (0, xs (i + 2)), (0, xs (i + 1)), (2, x1)]) (M' := M) hX [(.aload_n 0, 0, 0, 0), (.iload_n 3, 0, 0, 0), (.iconst 5, 0, 0, 0), (.iadd, 0, 0, 0)] (by decide +kernel) rfl trivial ?_
  refine zG.sld (i := w32 (i + 5)) hX hsc (by rw [e5]; omega) (by decide +kernel) ?_
  rw [e5]
  show zG C E 4 S (ce) (sl) Q 202 [some (5, b), some (2, x1), some (2, x2), some (0, i)] [(0, xs (i + 5)), (0, xs (i + 4)), (0, xs (i + 3)), (0, xs (i + 2)), (0, xs (i + 1)), (2, x1)] M
  obtain ⟨g0, h⟩ := zif h
  obtain ⟨q0, f0, h⟩ := zbd h
  refine zG.callV (b := x1) (av := [(0, xs (i + 1)), (0, xs (i + 2)), (0, xs (i + 3)), (0, xs (i + 4)), (0, xs (i + 5))]) (st := []) (ci := 11) hX (pX11_feed_ok f0) sv_13_13 rfl ⟨by decide, rfl⟩ g0 (by decide +kernel) (by rw [hRm]; exact ⟨Nat.le_of_ble_eq_true rfl, Nat.le_of_ble_eq_true rfl⟩) (by rw [hRm]; exact ⟨by show ce + 0 ≤ 600000; omega, by show sl + 0 ≤ 7302249; omega⟩) (Nat.le_of_ble_eq_true rfl) ?_
  show zG C E 4 S (ce) (sl) Q 205 [some (5, b), some (2, x1), some (2, x2), some (0, i)] [(0, q0.1)] q0.2
  refine zG.blk (pc' := 210) (l' := [some (5, b), some (2, x1), some (2, x2), some (0, i)]) (st' := [(0, w32 (i + 1)), (5, b), (2, x2), (0, q0.1)]) (M' := q0.2) hX [(.aload_n 2, 0, 0, 0), (.aload_n 0, 0, 0, 0), (.iload_n 3, 0, 0, 0), (.iconst 1, 0, 0, 0), (.iadd, 0, 0, 0)] (by decide +kernel) rfl trivial ?_
  refine zG.sld (i := w32 (i + 1)) hX hsc (by rw [e1]; omega) (by decide +kernel) ?_
  rw [e1]
  show zG C E 4 S (ce) (sl) Q 211 [some (5, b), some (2, x1), some (2, x2), some (0, i)] [(0, xs (i + 1)), (2, x2), (0, q0.1)] q0.2
  refine zG.blk (pc' := 215) (l' := [some (5, b), some (2, x1), some (2, x2), some (0, i)]) (st' := [(0, w32 (i + 2)), (5, b), (0, xs (i + 1)), (2, x2), (0, q0.1)]) (M' := q0.2) hX [(.aload_n 0, 0, 0, 0), (.iload_n 3, 0, 0, 0), (.iconst 2, 0, 0, 0), (.iadd, 0, 0, 0)] (by decide +kernel) rfl trivial ?_
  refine zG.sld (i := w32 (i + 2)) hX hsc (by rw [e2]; omega) (by decide +kernel) ?_
  rw [e2]
  show zG C E 4 S (ce) (sl) Q 216 [some (5, b), some (2, x1), some (2, x2), some (0, i)] [(0, xs (i + 2)), (0, xs (i + 1)), (2, x2), (0, q0.1)] q0.2
  refine zG.blk (pc' := 220) (l' := [some (5, b), some (2, x1), some (2, x2), some (0, i)]) (st' := [(0, w32 (i + 3)), (5, b), (0, xs (i + 2)), (0, xs (i + 1)), (2, x2), (0, q0.1)]) (M' := q0.2) hX [(.aload_n 0, 0, 0, 0), (.iload_n 3, 0, 0, 0), (.iconst 3, 0, 0, 0), (.iadd, 0, 0, 0)] (by decide +kernel) rfl trivial ?_
  refine zG.sld (i := w32 (i + 3)) hX hsc (by rw [e3]; omega) (by decide +kernel) ?_
  rw [e3]
  show zG C E 4 S (ce) (sl) Q 221 [some (5, b), some (2, x1), some (2, x2), some (0, i)] [(0, xs (i + 3)), (0, xs (i + 2)), (0, xs (i + 1)), (2, x2), (0, q0.1)] q0.2
  refine zG.blk (pc' := 225) (l' := [some (5, b), some (2, x1), some (2, x2), some (0, i)]) (st' := [(0, w32 (i + 4)), (5, b), (0, xs (i + 3)), (0, xs (i + 2)), (0, xs (i + 1)), (2, x2), (0, q0.1)]) (M' := q0.2) hX [(.aload_n 0, 0, 0, 0), (.iload_n 3, 0, 0, 0), (.iconst 4, 0, 0, 0), (.iadd, 0, 0, 0)] (by decide +kernel) rfl trivial ?_
  refine zG.sld (i := w32 (i + 4)) hX hsc (by rw [e4]; omega) (by decide +kernel) ?_
  rw [e4]
  show zG C E 4 S (ce) (sl) Q 226 [some (5, b), some (2, x1), some (2, x2), some (0, i)] [(0, xs (i + 4)), (0, xs (i + 3)), (0, xs (i + 2)), (0, xs (i + 1)), (2, x2), (0, q0.1)] q0.2
  refine zG.blk (pc' := 230) (l' := [some (5, b), some (2, x1), some (2, x2), some (0, i)]) (st' := [(0, w32 (i + 5)), (5, b), (0, xs (i + 4)), (0, xs (i + 3)), (0, xs (i + 2)), (0, xs (i + 1)), (2, x2), (0, q0.1)]) (M' := q0.2) hX [(.aload_n 0, 0, 0, 0), (.iload_n 3, 0, 0, 0), (.iconst 5, 0, 0, 0), (.iadd, 0, 0, 0)] (by decide +kernel) rfl trivial ?_
  refine zG.sld (i := w32 (i + 5)) hX hsc (by rw [e5]; omega) (by decide +kernel) ?_
  rw [e5]
  show zG C E 4 S (ce) (sl) Q 231 [some (5, b), some (2, x1), some (2, x2), some (0, i)] [(0, xs (i + 5)), (0, xs (i + 4)), (0, xs (i + 3)), (0, xs (i + 2)), (0, xs (i + 1)), (2, x2), (0, q0.1)] q0.2
  obtain ⟨g1, h⟩ := zif h
  obtain ⟨q1, f1, h⟩ := zbd h
  refine zG.callV (b := x2) (av := [(0, xs (i + 1)), (0, xs (i + 2)), (0, xs (i + 3)), (0, xs (i + 4)), (0, xs (i + 5))]) (st := [(0, q0.1)]) (ci := 12) hX (pX12_feed_ok f1) sv_13_17 rfl ⟨by decide, rfl⟩ g1 (by decide +kernel) (by rw [hRm]; exact ⟨Nat.le_of_ble_eq_true rfl, Nat.le_of_ble_eq_true rfl⟩) (by rw [hRm]; exact ⟨by show ce + 0 ≤ 600000; omega, by show sl + 0 ≤ 7302249; omega⟩) (Nat.le_of_ble_eq_true rfl) ?_
  show zG C E 4 S (ce) (sl) Q 234 [some (5, b), some (2, x1), some (2, x2), some (0, i)] [(0, q1.1), (0, q0.1)] q1.2
  obtain ⟨hc, h⟩ := zif h
  cases h
  refine zG.icmp_eq (tgt := 1152) (off := 918) hX (by decide +kernel) (by decide) (fun _ => ?_) (fun c => absurd hc c)
  exact zG.widen (ce' := ce + 120) (sl' := sl + 2100) (by omega) (by omega) hk
theorem sv_13_18 : zSV 13 18 yX11_end cX11_end 2 (some .int) 1 := ⟨⟨gt_at 503 (by decide +kernel) rfl, gt_at 504 (by decide +kernel) rfl, gt_at 505 (by decide +kernel) rfl, gt_at 105 (by decide +kernel) rfl, gt_at 506 (by decide +kernel) rfl⟩, by decide +kernel, by decide +kernel, by decide +kernel⟩
theorem sv_13_22 : zSV 13 22 yX12_end cX12_end 2 (some .int) 1 := ⟨⟨gt_at 1299 (by decide +kernel) rfl, gt_at 1300 (by decide +kernel) rfl, gt_at 1301 (by decide +kernel) rfl, gt_at 117 (by decide +kernel) rfl, gt_at 1302 (by decide +kernel) rfl⟩, by decide +kernel, by decide +kernel, by decide +kernel⟩
noncomputable def lawC1 (xs : Int → Int) (S : ZS) (M : ZM) (x1 x2 i : Int) : Option (ZS × ZM) := if S.1 x1 = 11 then (pX11_end S M x1 (xs (i + 1))).bind fun q0 => if S.1 x2 = 12 then (pX12_end S q0.2 x2 (xs (i + 1))).bind fun q1 => if q0.1 = q1.1 then some (S, q1.2) else none else none else none
set_option maxHeartbeats 2000000 in
set_option maxRecDepth 20000 in
theorem lawC1_ok {C : ZC} {E : ZE} {b x1 x2 i L : Int} {xs : Int → Int} {S : ZS} {M : ZM} {ce sl : Nat} {Q : State → Prop} {q : ZS × ZM} (hX : zCx C E 13 code 4 ret false) (hRm : czR C = room_1) (hsc : zScr C E b L xs) (hi : 0 ≤ i ∧ i + 6 ≤ L) (hL : L ≤ 3072) (hce : ce + 200 ≤ 600000 ∧ sl + 2500 ≤ 7302249) (h : lawC1 xs S M x1 x2 i = some q) (hk : zG C E 4 q.1 (ce + 120) (sl + 2100) Q 1152 [some (5, b), some (2, x1), some (2, x2), some (0, i)] [] q.2) : zG C E 4 S ce sl Q 239 [some (5, b), some (2, x1), some (2, x2), some (0, i)] [] M := by
  unfold lawC1 at h
  have e1 : w32 (i + 1) = i + 1 := w32_id (by unfold in32; omega)
  have e2 : w32 (i + 2) = i + 2 := w32_id (by unfold in32; omega)
  have e3 : w32 (i + 3) = i + 3 := w32_id (by unfold in32; omega)
  have e4 : w32 (i + 4) = i + 4 := w32_id (by unfold in32; omega)
  have e5 : w32 (i + 5) = i + 5 := w32_id (by unfold in32; omega)
  refine zG.blk (pc' := 244) (l' := [some (5, b), some (2, x1), some (2, x2), some (0, i)]) (st' := [(0, w32 (i + 1)), (5, b), (2, x1)]) (M' := M) hX [(.aload_n 1, 0, 0, 0), (.aload_n 0, 0, 0, 0), (.iload_n 3, 0, 0, 0), (.iconst 1, 0, 0, 0), (.iadd, 0, 0, 0)] (by decide +kernel) rfl trivial ?_
  refine zG.sld (i := w32 (i + 1)) hX hsc (by rw [e1]; omega) (by decide +kernel) ?_
  rw [e1]
  show zG C E 4 S (ce) (sl) Q 245 [some (5, b), some (2, x1), some (2, x2), some (0, i)] [(0, xs (i + 1)), (2, x1)] M
  obtain ⟨g0, h⟩ := zif h
  obtain ⟨q0, f0, h⟩ := zbd h
  refine zG.callV (b := x1) (av := [(0, xs (i + 1))]) (st := []) (ci := 11) hX (pX11_end_ok f0) sv_13_18 rfl ⟨by decide, rfl⟩ g0 (by decide +kernel) (by rw [hRm]; exact ⟨Nat.le_of_ble_eq_true rfl, Nat.le_of_ble_eq_true rfl⟩) (by rw [hRm]; exact ⟨by show ce + 0 ≤ 600000; omega, by show sl + 0 ≤ 7302249; omega⟩) (Nat.le_of_ble_eq_true rfl) ?_
  show zG C E 4 S (ce) (sl) Q 248 [some (5, b), some (2, x1), some (2, x2), some (0, i)] [(0, q0.1)] q0.2
  refine zG.blk (pc' := 253) (l' := [some (5, b), some (2, x1), some (2, x2), some (0, i)]) (st' := [(0, w32 (i + 1)), (5, b), (2, x2), (0, q0.1)]) (M' := q0.2) hX [(.aload_n 2, 0, 0, 0), (.aload_n 0, 0, 0, 0), (.iload_n 3, 0, 0, 0), (.iconst 1, 0, 0, 0), (.iadd, 0, 0, 0)] (by decide +kernel) rfl trivial ?_
  refine zG.sld (i := w32 (i + 1)) hX hsc (by rw [e1]; omega) (by decide +kernel) ?_
  rw [e1]
  show zG C E 4 S (ce) (sl) Q 254 [some (5, b), some (2, x1), some (2, x2), some (0, i)] [(0, xs (i + 1)), (2, x2), (0, q0.1)] q0.2
  obtain ⟨g1, h⟩ := zif h
  obtain ⟨q1, f1, h⟩ := zbd h
  refine zG.callV (b := x2) (av := [(0, xs (i + 1))]) (st := [(0, q0.1)]) (ci := 12) hX (pX12_end_ok f1) sv_13_22 rfl ⟨by decide, rfl⟩ g1 (by decide +kernel) (by rw [hRm]; exact ⟨Nat.le_of_ble_eq_true rfl, Nat.le_of_ble_eq_true rfl⟩) (by rw [hRm]; exact ⟨by show ce + 0 ≤ 600000; omega, by show sl + 0 ≤ 7302249; omega⟩) (Nat.le_of_ble_eq_true rfl) ?_
  show zG C E 4 S (ce) (sl) Q 257 [some (5, b), some (2, x1), some (2, x2), some (0, i)] [(0, q1.1), (0, q0.1)] q1.2
  obtain ⟨hc, h⟩ := zif h
  cases h
  refine zG.icmp_eq (tgt := 1152) (off := 895) hX (by decide +kernel) (by decide) (fun _ => ?_) (fun c => absurd hc c)
  exact zG.widen (ce' := ce + 120) (sl' := sl + 2100) (by omega) (by omega) hk
theorem sv_13_23 : zSV 13 23 yX11_sky cX11_sky 2 (some .int) 0 := ⟨⟨gt_at 507 (by decide +kernel) rfl, gt_at 508 (by decide +kernel) rfl, gt_at 509 (by decide +kernel) rfl, gt_at 105 (by decide +kernel) rfl, gt_at 510 (by decide +kernel) rfl⟩, by decide +kernel, by decide +kernel, by decide +kernel⟩
theorem sv_13_27 : zSV 13 27 yX12_sky cX12_sky 2 (some .int) 0 := ⟨⟨gt_at 1303 (by decide +kernel) rfl, gt_at 1304 (by decide +kernel) rfl, gt_at 1305 (by decide +kernel) rfl, gt_at 117 (by decide +kernel) rfl, gt_at 1306 (by decide +kernel) rfl⟩, by decide +kernel, by decide +kernel, by decide +kernel⟩
noncomputable def lawC2 (xs : Int → Int) (S : ZS) (M : ZM) (x1 x2 i : Int) : Option (ZS × ZM) := if S.1 x1 = 11 then (pX11_sky S M x1).bind fun q0 => if S.1 x2 = 12 then (pX12_sky S q0.2 x2).bind fun q1 => if q0.1 = q1.1 then some (S, q1.2) else none else none else none
set_option maxHeartbeats 2000000 in
set_option maxRecDepth 20000 in
theorem lawC2_ok {C : ZC} {E : ZE} {b x1 x2 i L : Int} {xs : Int → Int} {S : ZS} {M : ZM} {ce sl : Nat} {Q : State → Prop} {q : ZS × ZM} (hX : zCx C E 13 code 4 ret false) (hRm : czR C = room_1) (hsc : zScr C E b L xs) (hi : 0 ≤ i ∧ i + 6 ≤ L) (hL : L ≤ 3072) (hce : ce + 200 ≤ 600000 ∧ sl + 2500 ≤ 7302249) (h : lawC2 xs S M x1 x2 i = some q) (hk : zG C E 4 q.1 (ce + 120) (sl + 2100) Q 1152 [some (5, b), some (2, x1), some (2, x2), some (0, i)] [] q.2) : zG C E 4 S ce sl Q 262 [some (5, b), some (2, x1), some (2, x2), some (0, i)] [] M := by
  unfold lawC2 at h
  have e1 : w32 (i + 1) = i + 1 := w32_id (by unfold in32; omega)
  have e2 : w32 (i + 2) = i + 2 := w32_id (by unfold in32; omega)
  have e3 : w32 (i + 3) = i + 3 := w32_id (by unfold in32; omega)
  have e4 : w32 (i + 4) = i + 4 := w32_id (by unfold in32; omega)
  have e5 : w32 (i + 5) = i + 5 := w32_id (by unfold in32; omega)
  refine zG.blk (pc' := 263) (l' := [some (5, b), some (2, x1), some (2, x2), some (0, i)]) (st' := [(2, x1)]) (M' := M) hX [(.aload_n 1, 0, 0, 0)] (by decide +kernel) rfl trivial ?_
  obtain ⟨g0, h⟩ := zif h
  obtain ⟨q0, f0, h⟩ := zbd h
  refine zG.callV (b := x1) (av := []) (st := []) (ci := 11) hX (pX11_sky_ok f0) sv_13_23 rfl ⟨by decide, rfl⟩ g0 (by decide +kernel) (by rw [hRm]; exact ⟨Nat.le_of_ble_eq_true rfl, Nat.le_of_ble_eq_true rfl⟩) (by rw [hRm]; exact ⟨by show ce + 0 ≤ 600000; omega, by show sl + 0 ≤ 7302249; omega⟩) (Nat.le_of_ble_eq_true rfl) ?_
  show zG C E 4 S (ce) (sl) Q 266 [some (5, b), some (2, x1), some (2, x2), some (0, i)] [(0, q0.1)] q0.2
  refine zG.blk (pc' := 267) (l' := [some (5, b), some (2, x1), some (2, x2), some (0, i)]) (st' := [(2, x2), (0, q0.1)]) (M' := q0.2) hX [(.aload_n 2, 0, 0, 0)] (by decide +kernel) rfl trivial ?_
  obtain ⟨g1, h⟩ := zif h
  obtain ⟨q1, f1, h⟩ := zbd h
  refine zG.callV (b := x2) (av := []) (st := [(0, q0.1)]) (ci := 12) hX (pX12_sky_ok f1) sv_13_27 rfl ⟨by decide, rfl⟩ g1 (by decide +kernel) (by rw [hRm]; exact ⟨Nat.le_of_ble_eq_true rfl, Nat.le_of_ble_eq_true rfl⟩) (by rw [hRm]; exact ⟨by show ce + 0 ≤ 600000; omega, by show sl + 0 ≤ 7302249; omega⟩) (Nat.le_of_ble_eq_true rfl) ?_
  show zG C E 4 S (ce) (sl) Q 270 [some (5, b), some (2, x1), some (2, x2), some (0, i)] [(0, q1.1), (0, q0.1)] q1.2
  obtain ⟨hc, h⟩ := zif h
  cases h
  refine zG.icmp_eq (tgt := 1152) (off := 882) hX (by decide +kernel) (by decide) (fun _ => ?_) (fun c => absurd hc c)
  exact zG.widen (ce' := ce + 120) (sl' := sl + 2100) (by omega) (by omega) hk
theorem sv_13_28 : zSV 13 28 yX11_rule cX11_rule 2 (some .int) 0 := ⟨⟨gt_at 667 (by decide +kernel) rfl, gt_at 668 (by decide +kernel) rfl, gt_at 669 (by decide +kernel) rfl, gt_at 105 (by decide +kernel) rfl, gt_at 670 (by decide +kernel) rfl⟩, by decide +kernel, by decide +kernel, by decide +kernel⟩
theorem sv_13_31 : zSV 13 31 yX12_rule cX12_rule 3 (some .int) 0 := ⟨⟨gt_at 1381 (by decide +kernel) rfl, gt_at 1382 (by decide +kernel) rfl, gt_at 1383 (by decide +kernel) rfl, gt_at 117 (by decide +kernel) rfl, gt_at 1384 (by decide +kernel) rfl⟩, by decide +kernel, by decide +kernel, by decide +kernel⟩
noncomputable def lawC3 (xs : Int → Int) (S : ZS) (M : ZM) (x1 x2 i : Int) : Option (ZS × ZM) := if S.1 x1 = 11 then (pX11_rule S M x1).bind fun q0 => if q0.2.1.1 x2 = 12 then (pX12_rule q0.2.1 q0.2.2 x2).bind fun q1 => if q0.1 = q1.1 then some (q0.2.1, q1.2) else none else none else none
set_option maxHeartbeats 2000000 in
set_option maxRecDepth 20000 in
theorem lawC3_ok {C : ZC} {E : ZE} {b x1 x2 i L : Int} {xs : Int → Int} {S : ZS} {M : ZM} {ce sl : Nat} {Q : State → Prop} {q : ZS × ZM} (hX : zCx C E 13 code 4 ret false) (hRm : czR C = room_1) (hsc : zScr C E b L xs) (hi : 0 ≤ i ∧ i + 6 ≤ L) (hL : L ≤ 3072) (hce : ce + 200 ≤ 600000 ∧ sl + 2500 ≤ 7302249) (h : lawC3 xs S M x1 x2 i = some q) (hk : zG C E 4 q.1 (ce + 120) (sl + 2100) Q 1152 [some (5, b), some (2, x1), some (2, x2), some (0, i)] [] q.2) : zG C E 4 S ce sl Q 275 [some (5, b), some (2, x1), some (2, x2), some (0, i)] [] M := by
  unfold lawC3 at h
  have e1 : w32 (i + 1) = i + 1 := w32_id (by unfold in32; omega)
  have e2 : w32 (i + 2) = i + 2 := w32_id (by unfold in32; omega)
  have e3 : w32 (i + 3) = i + 3 := w32_id (by unfold in32; omega)
  have e4 : w32 (i + 4) = i + 4 := w32_id (by unfold in32; omega)
  have e5 : w32 (i + 5) = i + 5 := w32_id (by unfold in32; omega)
  refine zG.blk (pc' := 276) (l' := [some (5, b), some (2, x1), some (2, x2), some (0, i)]) (st' := [(2, x1)]) (M' := M) hX [(.aload_n 1, 0, 0, 0)] (by decide +kernel) rfl trivial ?_
  obtain ⟨g0, h⟩ := zif h
  obtain ⟨q0, f0, h⟩ := zbd h
  refine zG.callV (b := x1) (av := []) (st := []) (ci := 11) hX (pX11_rule_ok f0) sv_13_28 rfl ⟨by decide, rfl⟩ g0 (by decide +kernel) (by rw [hRm]; exact ⟨Nat.le_of_ble_eq_true rfl, Nat.le_of_ble_eq_true rfl⟩) (by rw [hRm]; exact ⟨by show ce + 2 ≤ 600000; omega, by show sl + 401 ≤ 7302249; omega⟩) (Nat.le_of_ble_eq_true rfl) ?_
  show zG C E 4 q0.2.1 (ce + 2) (sl + 401) Q 279 [some (5, b), some (2, x1), some (2, x2), some (0, i)] [(0, q0.1)] q0.2.2
  refine zG.blk (pc' := 280) (l' := [some (5, b), some (2, x1), some (2, x2), some (0, i)]) (st' := [(2, x2), (0, q0.1)]) (M' := q0.2.2) hX [(.aload_n 2, 0, 0, 0)] (by decide +kernel) rfl trivial ?_
  obtain ⟨g1, h⟩ := zif h
  obtain ⟨q1, f1, h⟩ := zbd h
  refine zG.callV (b := x2) (av := []) (st := [(0, q0.1)]) (ci := 12) hX (pX12_rule_ok f1) sv_13_31 rfl ⟨by decide, rfl⟩ g1 (by decide +kernel) (by rw [hRm]; exact ⟨Nat.le_of_ble_eq_true rfl, Nat.le_of_ble_eq_true rfl⟩) (by rw [hRm]; exact ⟨by show ce + 2 + 0 ≤ 600000; omega, by show sl + 401 + 0 ≤ 7302249; omega⟩) (Nat.le_of_ble_eq_true rfl) ?_
  show zG C E 4 q0.2.1 (ce + 2) (sl + 401) Q 283 [some (5, b), some (2, x1), some (2, x2), some (0, i)] [(0, q1.1), (0, q0.1)] q1.2
  obtain ⟨hc, h⟩ := zif h
  cases h
  refine zG.icmp_eq (tgt := 1152) (off := 869) hX (by decide +kernel) (by decide) (fun _ => ?_) (fun c => absurd hc c)
  exact zG.widen (ce' := ce + 120) (sl' := sl + 2100) (by omega) (by omega) hk
theorem sv_13_32 : zSV 13 32 yX11_force cX11_force 3 (some .int) 1 := ⟨⟨gt_at 740 (by decide +kernel) rfl, gt_at 741 (by decide +kernel) rfl, gt_at 742 (by decide +kernel) rfl, gt_at 105 (by decide +kernel) rfl, gt_at 743 (by decide +kernel) rfl⟩, by decide +kernel, by decide +kernel, by decide +kernel⟩
theorem sv_13_35 : zSV 13 35 yX12_force cX12_force 3 (some .int) 1 := ⟨⟨gt_at 1455 (by decide +kernel) rfl, gt_at 1456 (by decide +kernel) rfl, gt_at 1457 (by decide +kernel) rfl, gt_at 117 (by decide +kernel) rfl, gt_at 1458 (by decide +kernel) rfl⟩, by decide +kernel, by decide +kernel, by decide +kernel⟩
noncomputable def lawC4 (xs : Int → Int) (S : ZS) (M : ZM) (x1 x2 i : Int) : Option (ZS × ZM) := if S.1 x1 = 11 then (pX11_force S M x1 (xs (i + 1))).bind fun q0 => if S.1 x2 = 12 then (pX12_force S q0.2 x2 (xs (i + 1))).bind fun q1 => if q0.1 = q1.1 then some (S, q1.2) else none else none else none
set_option maxHeartbeats 2000000 in
set_option maxRecDepth 20000 in
theorem lawC4_ok {C : ZC} {E : ZE} {b x1 x2 i L : Int} {xs : Int → Int} {S : ZS} {M : ZM} {ce sl : Nat} {Q : State → Prop} {q : ZS × ZM} (hX : zCx C E 13 code 4 ret false) (hRm : czR C = room_1) (hsc : zScr C E b L xs) (hi : 0 ≤ i ∧ i + 6 ≤ L) (hL : L ≤ 3072) (hce : ce + 200 ≤ 600000 ∧ sl + 2500 ≤ 7302249) (h : lawC4 xs S M x1 x2 i = some q) (hk : zG C E 4 q.1 (ce + 120) (sl + 2100) Q 1152 [some (5, b), some (2, x1), some (2, x2), some (0, i)] [] q.2) : zG C E 4 S ce sl Q 288 [some (5, b), some (2, x1), some (2, x2), some (0, i)] [] M := by
  unfold lawC4 at h
  have e1 : w32 (i + 1) = i + 1 := w32_id (by unfold in32; omega)
  have e2 : w32 (i + 2) = i + 2 := w32_id (by unfold in32; omega)
  have e3 : w32 (i + 3) = i + 3 := w32_id (by unfold in32; omega)
  have e4 : w32 (i + 4) = i + 4 := w32_id (by unfold in32; omega)
  have e5 : w32 (i + 5) = i + 5 := w32_id (by unfold in32; omega)
  refine zG.blk (pc' := 293) (l' := [some (5, b), some (2, x1), some (2, x2), some (0, i)]) (st' := [(0, w32 (i + 1)), (5, b), (2, x1)]) (M' := M) hX [(.aload_n 1, 0, 0, 0), (.aload_n 0, 0, 0, 0), (.iload_n 3, 0, 0, 0), (.iconst 1, 0, 0, 0), (.iadd, 0, 0, 0)] (by decide +kernel) rfl trivial ?_
  refine zG.sld (i := w32 (i + 1)) hX hsc (by rw [e1]; omega) (by decide +kernel) ?_
  rw [e1]
  show zG C E 4 S (ce) (sl) Q 294 [some (5, b), some (2, x1), some (2, x2), some (0, i)] [(0, xs (i + 1)), (2, x1)] M
  obtain ⟨g0, h⟩ := zif h
  obtain ⟨q0, f0, h⟩ := zbd h
  refine zG.callV (b := x1) (av := [(0, xs (i + 1))]) (st := []) (ci := 11) hX (pX11_force_ok f0) sv_13_32 rfl ⟨by decide, rfl⟩ g0 (by decide +kernel) (by rw [hRm]; exact ⟨Nat.le_of_ble_eq_true rfl, Nat.le_of_ble_eq_true rfl⟩) (by rw [hRm]; exact ⟨by show ce + 0 ≤ 600000; omega, by show sl + 0 ≤ 7302249; omega⟩) (Nat.le_of_ble_eq_true rfl) ?_
  show zG C E 4 S (ce) (sl) Q 297 [some (5, b), some (2, x1), some (2, x2), some (0, i)] [(0, q0.1)] q0.2
  refine zG.blk (pc' := 302) (l' := [some (5, b), some (2, x1), some (2, x2), some (0, i)]) (st' := [(0, w32 (i + 1)), (5, b), (2, x2), (0, q0.1)]) (M' := q0.2) hX [(.aload_n 2, 0, 0, 0), (.aload_n 0, 0, 0, 0), (.iload_n 3, 0, 0, 0), (.iconst 1, 0, 0, 0), (.iadd, 0, 0, 0)] (by decide +kernel) rfl trivial ?_
  refine zG.sld (i := w32 (i + 1)) hX hsc (by rw [e1]; omega) (by decide +kernel) ?_
  rw [e1]
  show zG C E 4 S (ce) (sl) Q 303 [some (5, b), some (2, x1), some (2, x2), some (0, i)] [(0, xs (i + 1)), (2, x2), (0, q0.1)] q0.2
  obtain ⟨g1, h⟩ := zif h
  obtain ⟨q1, f1, h⟩ := zbd h
  refine zG.callV (b := x2) (av := [(0, xs (i + 1))]) (st := [(0, q0.1)]) (ci := 12) hX (pX12_force_ok f1) sv_13_35 rfl ⟨by decide, rfl⟩ g1 (by decide +kernel) (by rw [hRm]; exact ⟨Nat.le_of_ble_eq_true rfl, Nat.le_of_ble_eq_true rfl⟩) (by rw [hRm]; exact ⟨by show ce + 0 ≤ 600000; omega, by show sl + 0 ≤ 7302249; omega⟩) (Nat.le_of_ble_eq_true rfl) ?_
  show zG C E 4 S (ce) (sl) Q 306 [some (5, b), some (2, x1), some (2, x2), some (0, i)] [(0, q1.1), (0, q0.1)] q1.2
  obtain ⟨hc, h⟩ := zif h
  cases h
  refine zG.icmp_eq (tgt := 1152) (off := 846) hX (by decide +kernel) (by decide) (fun _ => ?_) (fun c => absurd hc c)
  exact zG.widen (ce' := ce + 120) (sl' := sl + 2100) (by omega) (by omega) hk
theorem sv_13_36 : zSV 13 36 yX11_pen cX11_pen 3 (some .int) 2 := ⟨⟨gt_at 744 (by decide +kernel) rfl, gt_at 745 (by decide +kernel) rfl, gt_at 746 (by decide +kernel) rfl, gt_at 105 (by decide +kernel) rfl, gt_at 747 (by decide +kernel) rfl⟩, by decide +kernel, by decide +kernel, by decide +kernel⟩
theorem sv_13_40 : zSV 13 40 yX12_pen cX12_pen 3 (some .int) 2 := ⟨⟨gt_at 1460 (by decide +kernel) rfl, gt_at 1461 (by decide +kernel) rfl, gt_at 1462 (by decide +kernel) rfl, gt_at 117 (by decide +kernel) rfl, gt_at 1463 (by decide +kernel) rfl⟩, by decide +kernel, by decide +kernel, by decide +kernel⟩
noncomputable def lawC5 (xs : Int → Int) (S : ZS) (M : ZM) (x1 x2 i : Int) : Option (ZS × ZM) := if S.1 x1 = 11 then (pX11_pen S M x1 (xs (i + 1)) (xs (i + 2))).bind fun q0 => if S.1 x2 = 12 then (pX12_pen S q0.2 x2 (xs (i + 1)) (xs (i + 2))).bind fun q1 => if q0.1 = q1.1 then some (S, q1.2) else none else none else none
set_option maxHeartbeats 2000000 in
set_option maxRecDepth 20000 in
theorem lawC5_ok {C : ZC} {E : ZE} {b x1 x2 i L : Int} {xs : Int → Int} {S : ZS} {M : ZM} {ce sl : Nat} {Q : State → Prop} {q : ZS × ZM} (hX : zCx C E 13 code 4 ret false) (hRm : czR C = room_1) (hsc : zScr C E b L xs) (hi : 0 ≤ i ∧ i + 6 ≤ L) (hL : L ≤ 3072) (hce : ce + 200 ≤ 600000 ∧ sl + 2500 ≤ 7302249) (h : lawC5 xs S M x1 x2 i = some q) (hk : zG C E 4 q.1 (ce + 120) (sl + 2100) Q 1152 [some (5, b), some (2, x1), some (2, x2), some (0, i)] [] q.2) : zG C E 4 S ce sl Q 311 [some (5, b), some (2, x1), some (2, x2), some (0, i)] [] M := by
  unfold lawC5 at h
  have e1 : w32 (i + 1) = i + 1 := w32_id (by unfold in32; omega)
  have e2 : w32 (i + 2) = i + 2 := w32_id (by unfold in32; omega)
  have e3 : w32 (i + 3) = i + 3 := w32_id (by unfold in32; omega)
  have e4 : w32 (i + 4) = i + 4 := w32_id (by unfold in32; omega)
  have e5 : w32 (i + 5) = i + 5 := w32_id (by unfold in32; omega)
  refine zG.blk (pc' := 316) (l' := [some (5, b), some (2, x1), some (2, x2), some (0, i)]) (st' := [(0, w32 (i + 1)), (5, b), (2, x1)]) (M' := M) hX [(.aload_n 1, 0, 0, 0), (.aload_n 0, 0, 0, 0), (.iload_n 3, 0, 0, 0), (.iconst 1, 0, 0, 0), (.iadd, 0, 0, 0)] (by decide +kernel) rfl trivial ?_
  refine zG.sld (i := w32 (i + 1)) hX hsc (by rw [e1]; omega) (by decide +kernel) ?_
  rw [e1]
  show zG C E 4 S (ce) (sl) Q 317 [some (5, b), some (2, x1), some (2, x2), some (0, i)] [(0, xs (i + 1)), (2, x1)] M
  refine zG.blk (pc' := 321) (l' := [some (5, b), some (2, x1), some (2, x2), some (0, i)]) (st' := [(0, w32 (i + 2)), (5, b), (0, xs (i + 1)), (2, x1)]) (M' := M) hX [(.aload_n 0, 0, 0, 0), (.iload_n 3, 0, 0, 0), (.iconst 2, 0, 0, 0), (.iadd, 0, 0, 0)] (by decide +kernel) rfl trivial ?_
  refine zG.sld (i := w32 (i + 2)) hX hsc (by rw [e2]; omega) (by decide +kernel) ?_
  rw [e2]
  show zG C E 4 S (ce) (sl) Q 322 [some (5, b), some (2, x1), some (2, x2), some (0, i)] [(0, xs (i + 2)), (0, xs (i + 1)), (2, x1)] M
  obtain ⟨g0, h⟩ := zif h
  obtain ⟨q0, f0, h⟩ := zbd h
  refine zG.callV (b := x1) (av := [(0, xs (i + 1)), (0, xs (i + 2))]) (st := []) (ci := 11) hX (pX11_pen_ok f0) sv_13_36 rfl ⟨by decide, rfl⟩ g0 (by decide +kernel) (by rw [hRm]; exact ⟨Nat.le_of_ble_eq_true rfl, Nat.le_of_ble_eq_true rfl⟩) (by rw [hRm]; exact ⟨by show ce + 0 ≤ 600000; omega, by show sl + 0 ≤ 7302249; omega⟩) (Nat.le_of_ble_eq_true rfl) ?_
  show zG C E 4 S (ce) (sl) Q 325 [some (5, b), some (2, x1), some (2, x2), some (0, i)] [(0, q0.1)] q0.2
  refine zG.blk (pc' := 330) (l' := [some (5, b), some (2, x1), some (2, x2), some (0, i)]) (st' := [(0, w32 (i + 1)), (5, b), (2, x2), (0, q0.1)]) (M' := q0.2) hX [(.aload_n 2, 0, 0, 0), (.aload_n 0, 0, 0, 0), (.iload_n 3, 0, 0, 0), (.iconst 1, 0, 0, 0), (.iadd, 0, 0, 0)] (by decide +kernel) rfl trivial ?_
  refine zG.sld (i := w32 (i + 1)) hX hsc (by rw [e1]; omega) (by decide +kernel) ?_
  rw [e1]
  show zG C E 4 S (ce) (sl) Q 331 [some (5, b), some (2, x1), some (2, x2), some (0, i)] [(0, xs (i + 1)), (2, x2), (0, q0.1)] q0.2
  refine zG.blk (pc' := 335) (l' := [some (5, b), some (2, x1), some (2, x2), some (0, i)]) (st' := [(0, w32 (i + 2)), (5, b), (0, xs (i + 1)), (2, x2), (0, q0.1)]) (M' := q0.2) hX [(.aload_n 0, 0, 0, 0), (.iload_n 3, 0, 0, 0), (.iconst 2, 0, 0, 0), (.iadd, 0, 0, 0)] (by decide +kernel) rfl trivial ?_
  refine zG.sld (i := w32 (i + 2)) hX hsc (by rw [e2]; omega) (by decide +kernel) ?_
  rw [e2]
  show zG C E 4 S (ce) (sl) Q 336 [some (5, b), some (2, x1), some (2, x2), some (0, i)] [(0, xs (i + 2)), (0, xs (i + 1)), (2, x2), (0, q0.1)] q0.2
  obtain ⟨g1, h⟩ := zif h
  obtain ⟨q1, f1, h⟩ := zbd h
  refine zG.callV (b := x2) (av := [(0, xs (i + 1)), (0, xs (i + 2))]) (st := [(0, q0.1)]) (ci := 12) hX (pX12_pen_ok f1) sv_13_40 rfl ⟨by decide, rfl⟩ g1 (by decide +kernel) (by rw [hRm]; exact ⟨Nat.le_of_ble_eq_true rfl, Nat.le_of_ble_eq_true rfl⟩) (by rw [hRm]; exact ⟨by show ce + 0 ≤ 600000; omega, by show sl + 0 ≤ 7302249; omega⟩) (Nat.le_of_ble_eq_true rfl) ?_
  show zG C E 4 S (ce) (sl) Q 339 [some (5, b), some (2, x1), some (2, x2), some (0, i)] [(0, q1.1), (0, q0.1)] q1.2
  obtain ⟨hc, h⟩ := zif h
  cases h
  refine zG.icmp_eq (tgt := 1152) (off := 813) hX (by decide +kernel) (by decide) (fun _ => ?_) (fun c => absurd hc c)
  exact zG.widen (ce' := ce + 120) (sl' := sl + 2100) (by omega) (by omega) hk
theorem sv_13_41 : zSV 13 41 yX11_cell cX11_cell 3 (some .int) 2 := ⟨⟨gt_at 760 (by decide +kernel) rfl, gt_at 761 (by decide +kernel) rfl, gt_at 762 (by decide +kernel) rfl, gt_at 105 (by decide +kernel) rfl, gt_at 763 (by decide +kernel) rfl⟩, by decide +kernel, by decide +kernel, by decide +kernel⟩
theorem sv_13_44 : zSV 13 44 yX12_cell cX12_cell 3 (some .int) 2 := ⟨⟨gt_at 1476 (by decide +kernel) rfl, gt_at 1477 (by decide +kernel) rfl, gt_at 1478 (by decide +kernel) rfl, gt_at 117 (by decide +kernel) rfl, gt_at 1479 (by decide +kernel) rfl⟩, by decide +kernel, by decide +kernel, by decide +kernel⟩
noncomputable def lawC6 (xs : Int → Int) (S : ZS) (M : ZM) (x1 x2 i : Int) : Option (ZS × ZM) := if S.1 x1 = 11 then (pX11_cell S M x1 (xs (i + 1)) (xs (i + 2))).bind fun q0 => if S.1 x2 = 12 then (pX12_cell S q0.2 x2 (xs (i + 1)) (xs (i + 2))).bind fun q1 => if q0.1 = q1.1 then some (S, q1.2) else none else none else none
set_option maxHeartbeats 2000000 in
set_option maxRecDepth 20000 in
theorem lawC6_ok {C : ZC} {E : ZE} {b x1 x2 i L : Int} {xs : Int → Int} {S : ZS} {M : ZM} {ce sl : Nat} {Q : State → Prop} {q : ZS × ZM} (hX : zCx C E 13 code 4 ret false) (hRm : czR C = room_1) (hsc : zScr C E b L xs) (hi : 0 ≤ i ∧ i + 6 ≤ L) (hL : L ≤ 3072) (hce : ce + 200 ≤ 600000 ∧ sl + 2500 ≤ 7302249) (h : lawC6 xs S M x1 x2 i = some q) (hk : zG C E 4 q.1 (ce + 120) (sl + 2100) Q 1152 [some (5, b), some (2, x1), some (2, x2), some (0, i)] [] q.2) : zG C E 4 S ce sl Q 344 [some (5, b), some (2, x1), some (2, x2), some (0, i)] [] M := by
  unfold lawC6 at h
  have e1 : w32 (i + 1) = i + 1 := w32_id (by unfold in32; omega)
  have e2 : w32 (i + 2) = i + 2 := w32_id (by unfold in32; omega)
  have e3 : w32 (i + 3) = i + 3 := w32_id (by unfold in32; omega)
  have e4 : w32 (i + 4) = i + 4 := w32_id (by unfold in32; omega)
  have e5 : w32 (i + 5) = i + 5 := w32_id (by unfold in32; omega)
  refine zG.blk (pc' := 349) (l' := [some (5, b), some (2, x1), some (2, x2), some (0, i)]) (st' := [(0, w32 (i + 1)), (5, b), (2, x1)]) (M' := M) hX [(.aload_n 1, 0, 0, 0), (.aload_n 0, 0, 0, 0), (.iload_n 3, 0, 0, 0), (.iconst 1, 0, 0, 0), (.iadd, 0, 0, 0)] (by decide +kernel) rfl trivial ?_
  refine zG.sld (i := w32 (i + 1)) hX hsc (by rw [e1]; omega) (by decide +kernel) ?_
  rw [e1]
  show zG C E 4 S (ce) (sl) Q 350 [some (5, b), some (2, x1), some (2, x2), some (0, i)] [(0, xs (i + 1)), (2, x1)] M
  refine zG.blk (pc' := 354) (l' := [some (5, b), some (2, x1), some (2, x2), some (0, i)]) (st' := [(0, w32 (i + 2)), (5, b), (0, xs (i + 1)), (2, x1)]) (M' := M) hX [(.aload_n 0, 0, 0, 0), (.iload_n 3, 0, 0, 0), (.iconst 2, 0, 0, 0), (.iadd, 0, 0, 0)] (by decide +kernel) rfl trivial ?_
  refine zG.sld (i := w32 (i + 2)) hX hsc (by rw [e2]; omega) (by decide +kernel) ?_
  rw [e2]
  show zG C E 4 S (ce) (sl) Q 355 [some (5, b), some (2, x1), some (2, x2), some (0, i)] [(0, xs (i + 2)), (0, xs (i + 1)), (2, x1)] M
  obtain ⟨g0, h⟩ := zif h
  obtain ⟨q0, f0, h⟩ := zbd h
  refine zG.callV (b := x1) (av := [(0, xs (i + 1)), (0, xs (i + 2))]) (st := []) (ci := 11) hX (pX11_cell_ok f0) sv_13_41 rfl ⟨by decide, rfl⟩ g0 (by decide +kernel) (by rw [hRm]; exact ⟨Nat.le_of_ble_eq_true rfl, Nat.le_of_ble_eq_true rfl⟩) (by rw [hRm]; exact ⟨by show ce + 0 ≤ 600000; omega, by show sl + 0 ≤ 7302249; omega⟩) (Nat.le_of_ble_eq_true rfl) ?_
  show zG C E 4 S (ce) (sl) Q 358 [some (5, b), some (2, x1), some (2, x2), some (0, i)] [(0, q0.1)] q0.2
  refine zG.blk (pc' := 363) (l' := [some (5, b), some (2, x1), some (2, x2), some (0, i)]) (st' := [(0, w32 (i + 1)), (5, b), (2, x2), (0, q0.1)]) (M' := q0.2) hX [(.aload_n 2, 0, 0, 0), (.aload_n 0, 0, 0, 0), (.iload_n 3, 0, 0, 0), (.iconst 1, 0, 0, 0), (.iadd, 0, 0, 0)] (by decide +kernel) rfl trivial ?_
  refine zG.sld (i := w32 (i + 1)) hX hsc (by rw [e1]; omega) (by decide +kernel) ?_
  rw [e1]
  show zG C E 4 S (ce) (sl) Q 364 [some (5, b), some (2, x1), some (2, x2), some (0, i)] [(0, xs (i + 1)), (2, x2), (0, q0.1)] q0.2
  refine zG.blk (pc' := 368) (l' := [some (5, b), some (2, x1), some (2, x2), some (0, i)]) (st' := [(0, w32 (i + 2)), (5, b), (0, xs (i + 1)), (2, x2), (0, q0.1)]) (M' := q0.2) hX [(.aload_n 0, 0, 0, 0), (.iload_n 3, 0, 0, 0), (.iconst 2, 0, 0, 0), (.iadd, 0, 0, 0)] (by decide +kernel) rfl trivial ?_
  refine zG.sld (i := w32 (i + 2)) hX hsc (by rw [e2]; omega) (by decide +kernel) ?_
  rw [e2]
  show zG C E 4 S (ce) (sl) Q 369 [some (5, b), some (2, x1), some (2, x2), some (0, i)] [(0, xs (i + 2)), (0, xs (i + 1)), (2, x2), (0, q0.1)] q0.2
  obtain ⟨g1, h⟩ := zif h
  obtain ⟨q1, f1, h⟩ := zbd h
  refine zG.callV (b := x2) (av := [(0, xs (i + 1)), (0, xs (i + 2))]) (st := [(0, q0.1)]) (ci := 12) hX (pX12_cell_ok f1) sv_13_44 rfl ⟨by decide, rfl⟩ g1 (by decide +kernel) (by rw [hRm]; exact ⟨Nat.le_of_ble_eq_true rfl, Nat.le_of_ble_eq_true rfl⟩) (by rw [hRm]; exact ⟨by show ce + 0 ≤ 600000; omega, by show sl + 0 ≤ 7302249; omega⟩) (Nat.le_of_ble_eq_true rfl) ?_
  show zG C E 4 S (ce) (sl) Q 372 [some (5, b), some (2, x1), some (2, x2), some (0, i)] [(0, q1.1), (0, q0.1)] q1.2
  obtain ⟨hc, h⟩ := zif h
  cases h
  refine zG.icmp_eq (tgt := 1152) (off := 780) hX (by decide +kernel) (by decide) (fun _ => ?_) (fun c => absurd hc c)
  exact zG.widen (ce' := ce + 120) (sl' := sl + 2100) (by omega) (by omega) hk
theorem sv_13_45 : zSV 13 45 yX11_day cX11_day 1 (some .int) 0 := ⟨⟨gt_at 768 (by decide +kernel) rfl, gt_at 769 (by decide +kernel) rfl, gt_at 770 (by decide +kernel) rfl, gt_at 105 (by decide +kernel) rfl, gt_at 771 (by decide +kernel) rfl⟩, by decide +kernel, by decide +kernel, by decide +kernel⟩
theorem sv_13_48 : zSV 13 48 yX12_day cX12_day 1 (some .int) 0 := ⟨⟨gt_at 1501 (by decide +kernel) rfl, gt_at 1502 (by decide +kernel) rfl, gt_at 1503 (by decide +kernel) rfl, gt_at 117 (by decide +kernel) rfl, gt_at 1504 (by decide +kernel) rfl⟩, by decide +kernel, by decide +kernel, by decide +kernel⟩
noncomputable def lawC7 (xs : Int → Int) (S : ZS) (M : ZM) (x1 x2 i : Int) : Option (ZS × ZM) := if S.1 x1 = 11 then (pX11_day S M x1).bind fun q0 => if S.1 x2 = 12 then (pX12_day S q0.2 x2).bind fun q1 => if q0.1 = q1.1 then some (S, q1.2) else none else none else none
set_option maxHeartbeats 2000000 in
set_option maxRecDepth 20000 in
theorem lawC7_ok {C : ZC} {E : ZE} {b x1 x2 i L : Int} {xs : Int → Int} {S : ZS} {M : ZM} {ce sl : Nat} {Q : State → Prop} {q : ZS × ZM} (hX : zCx C E 13 code 4 ret false) (hRm : czR C = room_1) (hsc : zScr C E b L xs) (hi : 0 ≤ i ∧ i + 6 ≤ L) (hL : L ≤ 3072) (hce : ce + 200 ≤ 600000 ∧ sl + 2500 ≤ 7302249) (h : lawC7 xs S M x1 x2 i = some q) (hk : zG C E 4 q.1 (ce + 120) (sl + 2100) Q 1152 [some (5, b), some (2, x1), some (2, x2), some (0, i)] [] q.2) : zG C E 4 S ce sl Q 377 [some (5, b), some (2, x1), some (2, x2), some (0, i)] [] M := by
  unfold lawC7 at h
  have e1 : w32 (i + 1) = i + 1 := w32_id (by unfold in32; omega)
  have e2 : w32 (i + 2) = i + 2 := w32_id (by unfold in32; omega)
  have e3 : w32 (i + 3) = i + 3 := w32_id (by unfold in32; omega)
  have e4 : w32 (i + 4) = i + 4 := w32_id (by unfold in32; omega)
  have e5 : w32 (i + 5) = i + 5 := w32_id (by unfold in32; omega)
  refine zG.blk (pc' := 378) (l' := [some (5, b), some (2, x1), some (2, x2), some (0, i)]) (st' := [(2, x1)]) (M' := M) hX [(.aload_n 1, 0, 0, 0)] (by decide +kernel) rfl trivial ?_
  obtain ⟨g0, h⟩ := zif h
  obtain ⟨q0, f0, h⟩ := zbd h
  refine zG.callV (b := x1) (av := []) (st := []) (ci := 11) hX (pX11_day_ok f0) sv_13_45 rfl ⟨by decide, rfl⟩ g0 (by decide +kernel) (by rw [hRm]; exact ⟨Nat.le_of_ble_eq_true rfl, Nat.le_of_ble_eq_true rfl⟩) (by rw [hRm]; exact ⟨by show ce + 0 ≤ 600000; omega, by show sl + 0 ≤ 7302249; omega⟩) (Nat.le_of_ble_eq_true rfl) ?_
  show zG C E 4 S (ce) (sl) Q 381 [some (5, b), some (2, x1), some (2, x2), some (0, i)] [(0, q0.1)] q0.2
  refine zG.blk (pc' := 382) (l' := [some (5, b), some (2, x1), some (2, x2), some (0, i)]) (st' := [(2, x2), (0, q0.1)]) (M' := q0.2) hX [(.aload_n 2, 0, 0, 0)] (by decide +kernel) rfl trivial ?_
  obtain ⟨g1, h⟩ := zif h
  obtain ⟨q1, f1, h⟩ := zbd h
  refine zG.callV (b := x2) (av := []) (st := [(0, q0.1)]) (ci := 12) hX (pX12_day_ok f1) sv_13_48 rfl ⟨by decide, rfl⟩ g1 (by decide +kernel) (by rw [hRm]; exact ⟨Nat.le_of_ble_eq_true rfl, Nat.le_of_ble_eq_true rfl⟩) (by rw [hRm]; exact ⟨by show ce + 0 ≤ 600000; omega, by show sl + 0 ≤ 7302249; omega⟩) (Nat.le_of_ble_eq_true rfl) ?_
  show zG C E 4 S (ce) (sl) Q 385 [some (5, b), some (2, x1), some (2, x2), some (0, i)] [(0, q1.1), (0, q0.1)] q1.2
  obtain ⟨hc, h⟩ := zif h
  cases h
  refine zG.icmp_eq (tgt := 1152) (off := 767) hX (by decide +kernel) (by decide) (fun _ => ?_) (fun c => absurd hc c)
  exact zG.widen (ce' := ce + 120) (sl' := sl + 2100) (by omega) (by omega) hk
theorem sv_13_49 : zSV 13 49 yX11_stay cX11_stay 2 (some .int) 1 := ⟨⟨gt_at 864 (by decide +kernel) rfl, gt_at 865 (by decide +kernel) rfl, gt_at 866 (by decide +kernel) rfl, gt_at 105 (by decide +kernel) rfl, gt_at 867 (by decide +kernel) rfl⟩, by decide +kernel, by decide +kernel, by decide +kernel⟩
theorem sv_13_52 : zSV 13 52 yX12_stay cX12_stay 2 (some .int) 1 := ⟨⟨gt_at 1566 (by decide +kernel) rfl, gt_at 1567 (by decide +kernel) rfl, gt_at 1568 (by decide +kernel) rfl, gt_at 117 (by decide +kernel) rfl, gt_at 1569 (by decide +kernel) rfl⟩, by decide +kernel, by decide +kernel, by decide +kernel⟩
noncomputable def lawC8 (xs : Int → Int) (S : ZS) (M : ZM) (x1 x2 i : Int) : Option (ZS × ZM) := if S.1 x1 = 11 then (pX11_stay S M x1 (xs (i + 1))).bind fun q0 => if S.1 x2 = 12 then (pX12_stay S q0.2 x2 (xs (i + 1))).bind fun q1 => if q0.1 = q1.1 then some (S, q1.2) else none else none else none
set_option maxHeartbeats 2000000 in
set_option maxRecDepth 20000 in
theorem lawC8_ok {C : ZC} {E : ZE} {b x1 x2 i L : Int} {xs : Int → Int} {S : ZS} {M : ZM} {ce sl : Nat} {Q : State → Prop} {q : ZS × ZM} (hX : zCx C E 13 code 4 ret false) (hRm : czR C = room_1) (hsc : zScr C E b L xs) (hi : 0 ≤ i ∧ i + 6 ≤ L) (hL : L ≤ 3072) (hce : ce + 200 ≤ 600000 ∧ sl + 2500 ≤ 7302249) (h : lawC8 xs S M x1 x2 i = some q) (hk : zG C E 4 q.1 (ce + 120) (sl + 2100) Q 1152 [some (5, b), some (2, x1), some (2, x2), some (0, i)] [] q.2) : zG C E 4 S ce sl Q 390 [some (5, b), some (2, x1), some (2, x2), some (0, i)] [] M := by
  unfold lawC8 at h
  have e1 : w32 (i + 1) = i + 1 := w32_id (by unfold in32; omega)
  have e2 : w32 (i + 2) = i + 2 := w32_id (by unfold in32; omega)
  have e3 : w32 (i + 3) = i + 3 := w32_id (by unfold in32; omega)
  have e4 : w32 (i + 4) = i + 4 := w32_id (by unfold in32; omega)
  have e5 : w32 (i + 5) = i + 5 := w32_id (by unfold in32; omega)
  refine zG.blk (pc' := 395) (l' := [some (5, b), some (2, x1), some (2, x2), some (0, i)]) (st' := [(0, w32 (i + 1)), (5, b), (2, x1)]) (M' := M) hX [(.aload_n 1, 0, 0, 0), (.aload_n 0, 0, 0, 0), (.iload_n 3, 0, 0, 0), (.iconst 1, 0, 0, 0), (.iadd, 0, 0, 0)] (by decide +kernel) rfl trivial ?_
  refine zG.sld (i := w32 (i + 1)) hX hsc (by rw [e1]; omega) (by decide +kernel) ?_
  rw [e1]
  show zG C E 4 S (ce) (sl) Q 396 [some (5, b), some (2, x1), some (2, x2), some (0, i)] [(0, xs (i + 1)), (2, x1)] M
  obtain ⟨g0, h⟩ := zif h
  obtain ⟨q0, f0, h⟩ := zbd h
  refine zG.callV (b := x1) (av := [(0, xs (i + 1))]) (st := []) (ci := 11) hX (pX11_stay_ok f0) sv_13_49 rfl ⟨by decide, rfl⟩ g0 (by decide +kernel) (by rw [hRm]; exact ⟨Nat.le_of_ble_eq_true rfl, Nat.le_of_ble_eq_true rfl⟩) (by rw [hRm]; exact ⟨by show ce + 0 ≤ 600000; omega, by show sl + 0 ≤ 7302249; omega⟩) (Nat.le_of_ble_eq_true rfl) ?_
  show zG C E 4 S (ce) (sl) Q 399 [some (5, b), some (2, x1), some (2, x2), some (0, i)] [(0, q0.1)] q0.2
  refine zG.blk (pc' := 404) (l' := [some (5, b), some (2, x1), some (2, x2), some (0, i)]) (st' := [(0, w32 (i + 1)), (5, b), (2, x2), (0, q0.1)]) (M' := q0.2) hX [(.aload_n 2, 0, 0, 0), (.aload_n 0, 0, 0, 0), (.iload_n 3, 0, 0, 0), (.iconst 1, 0, 0, 0), (.iadd, 0, 0, 0)] (by decide +kernel) rfl trivial ?_
  refine zG.sld (i := w32 (i + 1)) hX hsc (by rw [e1]; omega) (by decide +kernel) ?_
  rw [e1]
  show zG C E 4 S (ce) (sl) Q 405 [some (5, b), some (2, x1), some (2, x2), some (0, i)] [(0, xs (i + 1)), (2, x2), (0, q0.1)] q0.2
  obtain ⟨g1, h⟩ := zif h
  obtain ⟨q1, f1, h⟩ := zbd h
  refine zG.callV (b := x2) (av := [(0, xs (i + 1))]) (st := [(0, q0.1)]) (ci := 12) hX (pX12_stay_ok f1) sv_13_52 rfl ⟨by decide, rfl⟩ g1 (by decide +kernel) (by rw [hRm]; exact ⟨Nat.le_of_ble_eq_true rfl, Nat.le_of_ble_eq_true rfl⟩) (by rw [hRm]; exact ⟨by show ce + 0 ≤ 600000; omega, by show sl + 0 ≤ 7302249; omega⟩) (Nat.le_of_ble_eq_true rfl) ?_
  show zG C E 4 S (ce) (sl) Q 408 [some (5, b), some (2, x1), some (2, x2), some (0, i)] [(0, q1.1), (0, q0.1)] q1.2
  obtain ⟨hc, h⟩ := zif h
  cases h
  refine zG.icmp_eq (tgt := 1152) (off := 744) hX (by decide +kernel) (by decide) (fun _ => ?_) (fun c => absurd hc c)
  exact zG.widen (ce' := ce + 120) (sl' := sl + 2100) (by omega) (by omega) hk
theorem sv_13_53 : zSV 13 53 yX11_set cX11_set 4 (some .int) 2 := ⟨⟨gt_at 868 (by decide +kernel) rfl, gt_at 869 (by decide +kernel) rfl, gt_at 870 (by decide +kernel) rfl, gt_at 105 (by decide +kernel) rfl, gt_at 871 (by decide +kernel) rfl⟩, by decide +kernel, by decide +kernel, by decide +kernel⟩
theorem sv_13_56 : zSV 13 56 yX12_set cX12_set 4 (some .int) 2 := ⟨⟨gt_at 1570 (by decide +kernel) rfl, gt_at 1571 (by decide +kernel) rfl, gt_at 1572 (by decide +kernel) rfl, gt_at 117 (by decide +kernel) rfl, gt_at 1573 (by decide +kernel) rfl⟩, by decide +kernel, by decide +kernel, by decide +kernel⟩
noncomputable def lawC9 (xs : Int → Int) (S : ZS) (M : ZM) (x1 x2 i : Int) : Option (ZS × ZM) := if S.1 x1 = 11 then (pX11_set S M x1 (xs (i + 1)) (xs (i + 2))).bind fun q0 => if S.1 x2 = 12 then (pX12_set S q0.2 x2 (xs (i + 1)) (xs (i + 2))).bind fun q1 => if q0.1 = q1.1 then some (S, q1.2) else none else none else none
set_option maxHeartbeats 2000000 in
set_option maxRecDepth 20000 in
theorem lawC9_ok {C : ZC} {E : ZE} {b x1 x2 i L : Int} {xs : Int → Int} {S : ZS} {M : ZM} {ce sl : Nat} {Q : State → Prop} {q : ZS × ZM} (hX : zCx C E 13 code 4 ret false) (hRm : czR C = room_1) (hsc : zScr C E b L xs) (hi : 0 ≤ i ∧ i + 6 ≤ L) (hL : L ≤ 3072) (hce : ce + 200 ≤ 600000 ∧ sl + 2500 ≤ 7302249) (h : lawC9 xs S M x1 x2 i = some q) (hk : zG C E 4 q.1 (ce + 120) (sl + 2100) Q 1152 [some (5, b), some (2, x1), some (2, x2), some (0, i)] [] q.2) : zG C E 4 S ce sl Q 413 [some (5, b), some (2, x1), some (2, x2), some (0, i)] [] M := by
  unfold lawC9 at h
  have e1 : w32 (i + 1) = i + 1 := w32_id (by unfold in32; omega)
  have e2 : w32 (i + 2) = i + 2 := w32_id (by unfold in32; omega)
  have e3 : w32 (i + 3) = i + 3 := w32_id (by unfold in32; omega)
  have e4 : w32 (i + 4) = i + 4 := w32_id (by unfold in32; omega)
  have e5 : w32 (i + 5) = i + 5 := w32_id (by unfold in32; omega)
  refine zG.blk (pc' := 418) (l' := [some (5, b), some (2, x1), some (2, x2), some (0, i)]) (st' := [(0, w32 (i + 1)), (5, b), (2, x1)]) (M' := M) hX [(.aload_n 1, 0, 0, 0), (.aload_n 0, 0, 0, 0), (.iload_n 3, 0, 0, 0), (.iconst 1, 0, 0, 0), (.iadd, 0, 0, 0)] (by decide +kernel) rfl trivial ?_
  refine zG.sld (i := w32 (i + 1)) hX hsc (by rw [e1]; omega) (by decide +kernel) ?_
  rw [e1]
  show zG C E 4 S (ce) (sl) Q 419 [some (5, b), some (2, x1), some (2, x2), some (0, i)] [(0, xs (i + 1)), (2, x1)] M
  refine zG.blk (pc' := 423) (l' := [some (5, b), some (2, x1), some (2, x2), some (0, i)]) (st' := [(0, w32 (i + 2)), (5, b), (0, xs (i + 1)), (2, x1)]) (M' := M) hX [(.aload_n 0, 0, 0, 0), (.iload_n 3, 0, 0, 0), (.iconst 2, 0, 0, 0), (.iadd, 0, 0, 0)] (by decide +kernel) rfl trivial ?_
  refine zG.sld (i := w32 (i + 2)) hX hsc (by rw [e2]; omega) (by decide +kernel) ?_
  rw [e2]
  show zG C E 4 S (ce) (sl) Q 424 [some (5, b), some (2, x1), some (2, x2), some (0, i)] [(0, xs (i + 2)), (0, xs (i + 1)), (2, x1)] M
  obtain ⟨g0, h⟩ := zif h
  obtain ⟨q0, f0, h⟩ := zbd h
  refine zG.callV (b := x1) (av := [(0, xs (i + 1)), (0, xs (i + 2))]) (st := []) (ci := 11) hX (pX11_set_ok f0) sv_13_53 rfl ⟨by decide, rfl⟩ g0 (by decide +kernel) (by rw [hRm]; exact ⟨Nat.le_of_ble_eq_true rfl, Nat.le_of_ble_eq_true rfl⟩) (by rw [hRm]; exact ⟨by show ce + 0 ≤ 600000; omega, by show sl + 0 ≤ 7302249; omega⟩) (Nat.le_of_ble_eq_true rfl) ?_
  show zG C E 4 S (ce) (sl) Q 427 [some (5, b), some (2, x1), some (2, x2), some (0, i)] [(0, q0.1)] q0.2
  refine zG.blk (pc' := 432) (l' := [some (5, b), some (2, x1), some (2, x2), some (0, i)]) (st' := [(0, w32 (i + 1)), (5, b), (2, x2), (0, q0.1)]) (M' := q0.2) hX [(.aload_n 2, 0, 0, 0), (.aload_n 0, 0, 0, 0), (.iload_n 3, 0, 0, 0), (.iconst 1, 0, 0, 0), (.iadd, 0, 0, 0)] (by decide +kernel) rfl trivial ?_
  refine zG.sld (i := w32 (i + 1)) hX hsc (by rw [e1]; omega) (by decide +kernel) ?_
  rw [e1]
  show zG C E 4 S (ce) (sl) Q 433 [some (5, b), some (2, x1), some (2, x2), some (0, i)] [(0, xs (i + 1)), (2, x2), (0, q0.1)] q0.2
  refine zG.blk (pc' := 437) (l' := [some (5, b), some (2, x1), some (2, x2), some (0, i)]) (st' := [(0, w32 (i + 2)), (5, b), (0, xs (i + 1)), (2, x2), (0, q0.1)]) (M' := q0.2) hX [(.aload_n 0, 0, 0, 0), (.iload_n 3, 0, 0, 0), (.iconst 2, 0, 0, 0), (.iadd, 0, 0, 0)] (by decide +kernel) rfl trivial ?_
  refine zG.sld (i := w32 (i + 2)) hX hsc (by rw [e2]; omega) (by decide +kernel) ?_
  rw [e2]
  show zG C E 4 S (ce) (sl) Q 438 [some (5, b), some (2, x1), some (2, x2), some (0, i)] [(0, xs (i + 2)), (0, xs (i + 1)), (2, x2), (0, q0.1)] q0.2
  obtain ⟨g1, h⟩ := zif h
  obtain ⟨q1, f1, h⟩ := zbd h
  refine zG.callV (b := x2) (av := [(0, xs (i + 1)), (0, xs (i + 2))]) (st := [(0, q0.1)]) (ci := 12) hX (pX12_set_ok f1) sv_13_56 rfl ⟨by decide, rfl⟩ g1 (by decide +kernel) (by rw [hRm]; exact ⟨Nat.le_of_ble_eq_true rfl, Nat.le_of_ble_eq_true rfl⟩) (by rw [hRm]; exact ⟨by show ce + 0 ≤ 600000; omega, by show sl + 0 ≤ 7302249; omega⟩) (Nat.le_of_ble_eq_true rfl) ?_
  show zG C E 4 S (ce) (sl) Q 441 [some (5, b), some (2, x1), some (2, x2), some (0, i)] [(0, q1.1), (0, q0.1)] q1.2
  obtain ⟨hc, h⟩ := zif h
  cases h
  refine zG.icmp_eq (tgt := 1152) (off := 711) hX (by decide +kernel) (by decide) (fun _ => ?_) (fun c => absurd hc c)
  exact zG.widen (ce' := ce + 120) (sl' := sl + 2100) (by omega) (by omega) hk
theorem sv_13_57 : zSV 13 57 yX11_bend cX11_bend 4 (some .int) 2 := ⟨⟨gt_at 872 (by decide +kernel) rfl, gt_at 873 (by decide +kernel) rfl, gt_at 874 (by decide +kernel) rfl, gt_at 105 (by decide +kernel) rfl, gt_at 875 (by decide +kernel) rfl⟩, by decide +kernel, by decide +kernel, by decide +kernel⟩
theorem sv_13_60 : zSV 13 60 yX12_bend cX12_bend 4 (some .int) 2 := ⟨⟨gt_at 1574 (by decide +kernel) rfl, gt_at 1575 (by decide +kernel) rfl, gt_at 1576 (by decide +kernel) rfl, gt_at 117 (by decide +kernel) rfl, gt_at 1577 (by decide +kernel) rfl⟩, by decide +kernel, by decide +kernel, by decide +kernel⟩
noncomputable def lawC10 (xs : Int → Int) (S : ZS) (M : ZM) (x1 x2 i : Int) : Option (ZS × ZM) := if S.1 x1 = 11 then (pX11_bend S M x1 (xs (i + 1)) (xs (i + 2))).bind fun q0 => if S.1 x2 = 12 then (pX12_bend S q0.2 x2 (xs (i + 1)) (xs (i + 2))).bind fun q1 => if q0.1 = q1.1 then some (S, q1.2) else none else none else none
set_option maxHeartbeats 2000000 in
set_option maxRecDepth 20000 in
theorem lawC10_ok {C : ZC} {E : ZE} {b x1 x2 i L : Int} {xs : Int → Int} {S : ZS} {M : ZM} {ce sl : Nat} {Q : State → Prop} {q : ZS × ZM} (hX : zCx C E 13 code 4 ret false) (hRm : czR C = room_1) (hsc : zScr C E b L xs) (hi : 0 ≤ i ∧ i + 6 ≤ L) (hL : L ≤ 3072) (hce : ce + 200 ≤ 600000 ∧ sl + 2500 ≤ 7302249) (h : lawC10 xs S M x1 x2 i = some q) (hk : zG C E 4 q.1 (ce + 120) (sl + 2100) Q 1152 [some (5, b), some (2, x1), some (2, x2), some (0, i)] [] q.2) : zG C E 4 S ce sl Q 446 [some (5, b), some (2, x1), some (2, x2), some (0, i)] [] M := by
  unfold lawC10 at h
  have e1 : w32 (i + 1) = i + 1 := w32_id (by unfold in32; omega)
  have e2 : w32 (i + 2) = i + 2 := w32_id (by unfold in32; omega)
  have e3 : w32 (i + 3) = i + 3 := w32_id (by unfold in32; omega)
  have e4 : w32 (i + 4) = i + 4 := w32_id (by unfold in32; omega)
  have e5 : w32 (i + 5) = i + 5 := w32_id (by unfold in32; omega)
  refine zG.blk (pc' := 451) (l' := [some (5, b), some (2, x1), some (2, x2), some (0, i)]) (st' := [(0, w32 (i + 1)), (5, b), (2, x1)]) (M' := M) hX [(.aload_n 1, 0, 0, 0), (.aload_n 0, 0, 0, 0), (.iload_n 3, 0, 0, 0), (.iconst 1, 0, 0, 0), (.iadd, 0, 0, 0)] (by decide +kernel) rfl trivial ?_
  refine zG.sld (i := w32 (i + 1)) hX hsc (by rw [e1]; omega) (by decide +kernel) ?_
  rw [e1]
  show zG C E 4 S (ce) (sl) Q 452 [some (5, b), some (2, x1), some (2, x2), some (0, i)] [(0, xs (i + 1)), (2, x1)] M
  refine zG.blk (pc' := 456) (l' := [some (5, b), some (2, x1), some (2, x2), some (0, i)]) (st' := [(0, w32 (i + 2)), (5, b), (0, xs (i + 1)), (2, x1)]) (M' := M) hX [(.aload_n 0, 0, 0, 0), (.iload_n 3, 0, 0, 0), (.iconst 2, 0, 0, 0), (.iadd, 0, 0, 0)] (by decide +kernel) rfl trivial ?_
  refine zG.sld (i := w32 (i + 2)) hX hsc (by rw [e2]; omega) (by decide +kernel) ?_
  rw [e2]
  show zG C E 4 S (ce) (sl) Q 457 [some (5, b), some (2, x1), some (2, x2), some (0, i)] [(0, xs (i + 2)), (0, xs (i + 1)), (2, x1)] M
  obtain ⟨g0, h⟩ := zif h
  obtain ⟨q0, f0, h⟩ := zbd h
  refine zG.callV (b := x1) (av := [(0, xs (i + 1)), (0, xs (i + 2))]) (st := []) (ci := 11) hX (pX11_bend_ok f0) sv_13_57 rfl ⟨by decide, rfl⟩ g0 (by decide +kernel) (by rw [hRm]; exact ⟨Nat.le_of_ble_eq_true rfl, Nat.le_of_ble_eq_true rfl⟩) (by rw [hRm]; exact ⟨by show ce + 0 ≤ 600000; omega, by show sl + 0 ≤ 7302249; omega⟩) (Nat.le_of_ble_eq_true rfl) ?_
  show zG C E 4 S (ce) (sl) Q 460 [some (5, b), some (2, x1), some (2, x2), some (0, i)] [(0, q0.1)] q0.2
  refine zG.blk (pc' := 465) (l' := [some (5, b), some (2, x1), some (2, x2), some (0, i)]) (st' := [(0, w32 (i + 1)), (5, b), (2, x2), (0, q0.1)]) (M' := q0.2) hX [(.aload_n 2, 0, 0, 0), (.aload_n 0, 0, 0, 0), (.iload_n 3, 0, 0, 0), (.iconst 1, 0, 0, 0), (.iadd, 0, 0, 0)] (by decide +kernel) rfl trivial ?_
  refine zG.sld (i := w32 (i + 1)) hX hsc (by rw [e1]; omega) (by decide +kernel) ?_
  rw [e1]
  show zG C E 4 S (ce) (sl) Q 466 [some (5, b), some (2, x1), some (2, x2), some (0, i)] [(0, xs (i + 1)), (2, x2), (0, q0.1)] q0.2
  refine zG.blk (pc' := 470) (l' := [some (5, b), some (2, x1), some (2, x2), some (0, i)]) (st' := [(0, w32 (i + 2)), (5, b), (0, xs (i + 1)), (2, x2), (0, q0.1)]) (M' := q0.2) hX [(.aload_n 0, 0, 0, 0), (.iload_n 3, 0, 0, 0), (.iconst 2, 0, 0, 0), (.iadd, 0, 0, 0)] (by decide +kernel) rfl trivial ?_
  refine zG.sld (i := w32 (i + 2)) hX hsc (by rw [e2]; omega) (by decide +kernel) ?_
  rw [e2]
  show zG C E 4 S (ce) (sl) Q 471 [some (5, b), some (2, x1), some (2, x2), some (0, i)] [(0, xs (i + 2)), (0, xs (i + 1)), (2, x2), (0, q0.1)] q0.2
  obtain ⟨g1, h⟩ := zif h
  obtain ⟨q1, f1, h⟩ := zbd h
  refine zG.callV (b := x2) (av := [(0, xs (i + 1)), (0, xs (i + 2))]) (st := [(0, q0.1)]) (ci := 12) hX (pX12_bend_ok f1) sv_13_60 rfl ⟨by decide, rfl⟩ g1 (by decide +kernel) (by rw [hRm]; exact ⟨Nat.le_of_ble_eq_true rfl, Nat.le_of_ble_eq_true rfl⟩) (by rw [hRm]; exact ⟨by show ce + 0 ≤ 600000; omega, by show sl + 0 ≤ 7302249; omega⟩) (Nat.le_of_ble_eq_true rfl) ?_
  show zG C E 4 S (ce) (sl) Q 474 [some (5, b), some (2, x1), some (2, x2), some (0, i)] [(0, q1.1), (0, q0.1)] q1.2
  obtain ⟨hc, h⟩ := zif h
  cases h
  refine zG.icmp_eq (tgt := 1152) (off := 678) hX (by decide +kernel) (by decide) (fun _ => ?_) (fun c => absurd hc c)
  exact zG.widen (ce' := ce + 120) (sl' := sl + 2100) (by omega) (by omega) hk
theorem sv_13_61 : zSV 13 61 yX11_blot cX11_blot 3 (some .int) 1 := ⟨⟨gt_at 876 (by decide +kernel) rfl, gt_at 877 (by decide +kernel) rfl, gt_at 878 (by decide +kernel) rfl, gt_at 105 (by decide +kernel) rfl, gt_at 879 (by decide +kernel) rfl⟩, by decide +kernel, by decide +kernel, by decide +kernel⟩
theorem sv_13_64 : zSV 13 64 yX12_blot cX12_blot 3 (some .int) 1 := ⟨⟨gt_at 1579 (by decide +kernel) rfl, gt_at 1580 (by decide +kernel) rfl, gt_at 1581 (by decide +kernel) rfl, gt_at 117 (by decide +kernel) rfl, gt_at 1582 (by decide +kernel) rfl⟩, by decide +kernel, by decide +kernel, by decide +kernel⟩
noncomputable def lawC11 (xs : Int → Int) (S : ZS) (M : ZM) (x1 x2 i : Int) : Option (ZS × ZM) := if S.1 x1 = 11 then (pX11_blot S M x1 (xs (i + 1))).bind fun q0 => if S.1 x2 = 12 then (pX12_blot S q0.2 x2 (xs (i + 1))).bind fun q1 => if q0.1 = q1.1 then some (S, q1.2) else none else none else none
set_option maxHeartbeats 2000000 in
set_option maxRecDepth 20000 in
theorem lawC11_ok {C : ZC} {E : ZE} {b x1 x2 i L : Int} {xs : Int → Int} {S : ZS} {M : ZM} {ce sl : Nat} {Q : State → Prop} {q : ZS × ZM} (hX : zCx C E 13 code 4 ret false) (hRm : czR C = room_1) (hsc : zScr C E b L xs) (hi : 0 ≤ i ∧ i + 6 ≤ L) (hL : L ≤ 3072) (hce : ce + 200 ≤ 600000 ∧ sl + 2500 ≤ 7302249) (h : lawC11 xs S M x1 x2 i = some q) (hk : zG C E 4 q.1 (ce + 120) (sl + 2100) Q 1152 [some (5, b), some (2, x1), some (2, x2), some (0, i)] [] q.2) : zG C E 4 S ce sl Q 479 [some (5, b), some (2, x1), some (2, x2), some (0, i)] [] M := by
  unfold lawC11 at h
  have e1 : w32 (i + 1) = i + 1 := w32_id (by unfold in32; omega)
  have e2 : w32 (i + 2) = i + 2 := w32_id (by unfold in32; omega)
  have e3 : w32 (i + 3) = i + 3 := w32_id (by unfold in32; omega)
  have e4 : w32 (i + 4) = i + 4 := w32_id (by unfold in32; omega)
  have e5 : w32 (i + 5) = i + 5 := w32_id (by unfold in32; omega)
  refine zG.blk (pc' := 484) (l' := [some (5, b), some (2, x1), some (2, x2), some (0, i)]) (st' := [(0, w32 (i + 1)), (5, b), (2, x1)]) (M' := M) hX [(.aload_n 1, 0, 0, 0), (.aload_n 0, 0, 0, 0), (.iload_n 3, 0, 0, 0), (.iconst 1, 0, 0, 0), (.iadd, 0, 0, 0)] (by decide +kernel) rfl trivial ?_
  refine zG.sld (i := w32 (i + 1)) hX hsc (by rw [e1]; omega) (by decide +kernel) ?_
  rw [e1]
  show zG C E 4 S (ce) (sl) Q 485 [some (5, b), some (2, x1), some (2, x2), some (0, i)] [(0, xs (i + 1)), (2, x1)] M
  obtain ⟨g0, h⟩ := zif h
  obtain ⟨q0, f0, h⟩ := zbd h
  refine zG.callV (b := x1) (av := [(0, xs (i + 1))]) (st := []) (ci := 11) hX (pX11_blot_ok f0) sv_13_61 rfl ⟨by decide, rfl⟩ g0 (by decide +kernel) (by rw [hRm]; exact ⟨Nat.le_of_ble_eq_true rfl, Nat.le_of_ble_eq_true rfl⟩) (by rw [hRm]; exact ⟨by show ce + 0 ≤ 600000; omega, by show sl + 0 ≤ 7302249; omega⟩) (Nat.le_of_ble_eq_true rfl) ?_
  show zG C E 4 S (ce) (sl) Q 488 [some (5, b), some (2, x1), some (2, x2), some (0, i)] [(0, q0.1)] q0.2
  refine zG.blk (pc' := 493) (l' := [some (5, b), some (2, x1), some (2, x2), some (0, i)]) (st' := [(0, w32 (i + 1)), (5, b), (2, x2), (0, q0.1)]) (M' := q0.2) hX [(.aload_n 2, 0, 0, 0), (.aload_n 0, 0, 0, 0), (.iload_n 3, 0, 0, 0), (.iconst 1, 0, 0, 0), (.iadd, 0, 0, 0)] (by decide +kernel) rfl trivial ?_
  refine zG.sld (i := w32 (i + 1)) hX hsc (by rw [e1]; omega) (by decide +kernel) ?_
  rw [e1]
  show zG C E 4 S (ce) (sl) Q 494 [some (5, b), some (2, x1), some (2, x2), some (0, i)] [(0, xs (i + 1)), (2, x2), (0, q0.1)] q0.2
  obtain ⟨g1, h⟩ := zif h
  obtain ⟨q1, f1, h⟩ := zbd h
  refine zG.callV (b := x2) (av := [(0, xs (i + 1))]) (st := [(0, q0.1)]) (ci := 12) hX (pX12_blot_ok f1) sv_13_64 rfl ⟨by decide, rfl⟩ g1 (by decide +kernel) (by rw [hRm]; exact ⟨Nat.le_of_ble_eq_true rfl, Nat.le_of_ble_eq_true rfl⟩) (by rw [hRm]; exact ⟨by show ce + 0 ≤ 600000; omega, by show sl + 0 ≤ 7302249; omega⟩) (Nat.le_of_ble_eq_true rfl) ?_
  show zG C E 4 S (ce) (sl) Q 497 [some (5, b), some (2, x1), some (2, x2), some (0, i)] [(0, q1.1), (0, q0.1)] q1.2
  obtain ⟨hc, h⟩ := zif h
  cases h
  refine zG.icmp_eq (tgt := 1152) (off := 655) hX (by decide +kernel) (by decide) (fun _ => ?_) (fun c => absurd hc c)
  exact zG.widen (ce' := ce + 120) (sl' := sl + 2100) (by omega) (by omega) hk
theorem sv_13_65 : zSV 13 65 yX11_undo cX11_undo 1 (some .int) 0 := ⟨⟨gt_at 880 (by decide +kernel) rfl, gt_at 881 (by decide +kernel) rfl, gt_at 882 (by decide +kernel) rfl, gt_at 105 (by decide +kernel) rfl, gt_at 883 (by decide +kernel) rfl⟩, by decide +kernel, by decide +kernel, by decide +kernel⟩
theorem sv_13_68 : zSV 13 68 yX12_undo cX12_undo 1 (some .int) 0 := ⟨⟨gt_at 1485 (by decide +kernel) rfl, gt_at 1486 (by decide +kernel) rfl, gt_at 1487 (by decide +kernel) rfl, gt_at 117 (by decide +kernel) rfl, gt_at 1488 (by decide +kernel) rfl⟩, by decide +kernel, by decide +kernel, by decide +kernel⟩
noncomputable def lawC12 (xs : Int → Int) (S : ZS) (M : ZM) (x1 x2 i : Int) : Option (ZS × ZM) := if S.1 x1 = 11 then (pX11_undo S M x1).bind fun q0 => if S.1 x2 = 12 then (pX12_undo S q0.2 x2).bind fun q1 => if q0.1 = q1.1 then some (S, q1.2) else none else none else none
set_option maxHeartbeats 2000000 in
set_option maxRecDepth 20000 in
theorem lawC12_ok {C : ZC} {E : ZE} {b x1 x2 i L : Int} {xs : Int → Int} {S : ZS} {M : ZM} {ce sl : Nat} {Q : State → Prop} {q : ZS × ZM} (hX : zCx C E 13 code 4 ret false) (hRm : czR C = room_1) (hsc : zScr C E b L xs) (hi : 0 ≤ i ∧ i + 6 ≤ L) (hL : L ≤ 3072) (hce : ce + 200 ≤ 600000 ∧ sl + 2500 ≤ 7302249) (h : lawC12 xs S M x1 x2 i = some q) (hk : zG C E 4 q.1 (ce + 120) (sl + 2100) Q 1152 [some (5, b), some (2, x1), some (2, x2), some (0, i)] [] q.2) : zG C E 4 S ce sl Q 502 [some (5, b), some (2, x1), some (2, x2), some (0, i)] [] M := by
  unfold lawC12 at h
  have e1 : w32 (i + 1) = i + 1 := w32_id (by unfold in32; omega)
  have e2 : w32 (i + 2) = i + 2 := w32_id (by unfold in32; omega)
  have e3 : w32 (i + 3) = i + 3 := w32_id (by unfold in32; omega)
  have e4 : w32 (i + 4) = i + 4 := w32_id (by unfold in32; omega)
  have e5 : w32 (i + 5) = i + 5 := w32_id (by unfold in32; omega)
  refine zG.blk (pc' := 503) (l' := [some (5, b), some (2, x1), some (2, x2), some (0, i)]) (st' := [(2, x1)]) (M' := M) hX [(.aload_n 1, 0, 0, 0)] (by decide +kernel) rfl trivial ?_
  obtain ⟨g0, h⟩ := zif h
  obtain ⟨q0, f0, h⟩ := zbd h
  refine zG.callV (b := x1) (av := []) (st := []) (ci := 11) hX (pX11_undo_ok f0) sv_13_65 rfl ⟨by decide, rfl⟩ g0 (by decide +kernel) (by rw [hRm]; exact ⟨Nat.le_of_ble_eq_true rfl, Nat.le_of_ble_eq_true rfl⟩) (by rw [hRm]; exact ⟨by show ce + 0 ≤ 600000; omega, by show sl + 0 ≤ 7302249; omega⟩) (Nat.le_of_ble_eq_true rfl) ?_
  show zG C E 4 S (ce) (sl) Q 506 [some (5, b), some (2, x1), some (2, x2), some (0, i)] [(0, q0.1)] q0.2
  refine zG.blk (pc' := 507) (l' := [some (5, b), some (2, x1), some (2, x2), some (0, i)]) (st' := [(2, x2), (0, q0.1)]) (M' := q0.2) hX [(.aload_n 2, 0, 0, 0)] (by decide +kernel) rfl trivial ?_
  obtain ⟨g1, h⟩ := zif h
  obtain ⟨q1, f1, h⟩ := zbd h
  refine zG.callV (b := x2) (av := []) (st := [(0, q0.1)]) (ci := 12) hX (pX12_undo_ok f1) sv_13_68 rfl ⟨by decide, rfl⟩ g1 (by decide +kernel) (by rw [hRm]; exact ⟨Nat.le_of_ble_eq_true rfl, Nat.le_of_ble_eq_true rfl⟩) (by rw [hRm]; exact ⟨by show ce + 0 ≤ 600000; omega, by show sl + 0 ≤ 7302249; omega⟩) (Nat.le_of_ble_eq_true rfl) ?_
  show zG C E 4 S (ce) (sl) Q 510 [some (5, b), some (2, x1), some (2, x2), some (0, i)] [(0, q1.1), (0, q0.1)] q1.2
  obtain ⟨hc, h⟩ := zif h
  cases h
  refine zG.icmp_eq (tgt := 1152) (off := 642) hX (by decide +kernel) (by decide) (fun _ => ?_) (fun c => absurd hc c)
  exact zG.widen (ce' := ce + 120) (sl' := sl + 2100) (by omega) (by omega) hk
theorem sv_13_69 : zSV 13 69 yX11_ahead cX11_ahead 5 (some .int) 3 := ⟨⟨gt_at 888 (by decide +kernel) rfl, gt_at 889 (by decide +kernel) rfl, gt_at 890 (by decide +kernel) rfl, gt_at 105 (by decide +kernel) rfl, gt_at 891 (by decide +kernel) rfl⟩, by decide +kernel, by decide +kernel, by decide +kernel⟩
theorem sv_13_73 : zSV 13 73 yX12_ahead cX12_ahead 6 (some .int) 3 := ⟨⟨gt_at 1583 (by decide +kernel) rfl, gt_at 1584 (by decide +kernel) rfl, gt_at 1585 (by decide +kernel) rfl, gt_at 117 (by decide +kernel) rfl, gt_at 1586 (by decide +kernel) rfl⟩, by decide +kernel, by decide +kernel, by decide +kernel⟩
noncomputable def lawC13 (xs : Int → Int) (S : ZS) (M : ZM) (x1 x2 i : Int) : Option (ZS × ZM) := if S.1 x1 = 11 then (pX11_ahead S M x1 (xs (i + 1)) (xs (i + 2)) (xs (i + 3))).bind fun q0 => if S.1 x2 = 12 then (pX12_ahead S q0.2 x2 (xs (i + 1)) (xs (i + 2)) (xs (i + 3))).bind fun q1 => if q0.1 = q1.1 then some (S, q1.2) else none else none else none
set_option maxHeartbeats 2000000 in
set_option maxRecDepth 20000 in
theorem lawC13_ok {C : ZC} {E : ZE} {b x1 x2 i L : Int} {xs : Int → Int} {S : ZS} {M : ZM} {ce sl : Nat} {Q : State → Prop} {q : ZS × ZM} (hX : zCx C E 13 code 4 ret false) (hRm : czR C = room_1) (hsc : zScr C E b L xs) (hi : 0 ≤ i ∧ i + 6 ≤ L) (hL : L ≤ 3072) (hce : ce + 200 ≤ 600000 ∧ sl + 2500 ≤ 7302249) (h : lawC13 xs S M x1 x2 i = some q) (hk : zG C E 4 q.1 (ce + 120) (sl + 2100) Q 1152 [some (5, b), some (2, x1), some (2, x2), some (0, i)] [] q.2) : zG C E 4 S ce sl Q 515 [some (5, b), some (2, x1), some (2, x2), some (0, i)] [] M := by
  unfold lawC13 at h
  have e1 : w32 (i + 1) = i + 1 := w32_id (by unfold in32; omega)
  have e2 : w32 (i + 2) = i + 2 := w32_id (by unfold in32; omega)
  have e3 : w32 (i + 3) = i + 3 := w32_id (by unfold in32; omega)
  have e4 : w32 (i + 4) = i + 4 := w32_id (by unfold in32; omega)
  have e5 : w32 (i + 5) = i + 5 := w32_id (by unfold in32; omega)
  refine zG.blk (pc' := 520) (l' := [some (5, b), some (2, x1), some (2, x2), some (0, i)]) (st' := [(0, w32 (i + 1)), (5, b), (2, x1)]) (M' := M) hX [(.aload_n 1, 0, 0, 0), (.aload_n 0, 0, 0, 0), (.iload_n 3, 0, 0, 0), (.iconst 1, 0, 0, 0), (.iadd, 0, 0, 0)] (by decide +kernel) rfl trivial ?_
  refine zG.sld (i := w32 (i + 1)) hX hsc (by rw [e1]; omega) (by decide +kernel) ?_
  rw [e1]
  show zG C E 4 S (ce) (sl) Q 521 [some (5, b), some (2, x1), some (2, x2), some (0, i)] [(0, xs (i + 1)), (2, x1)] M
  refine zG.blk (pc' := 525) (l' := [some (5, b), some (2, x1), some (2, x2), some (0, i)]) (st' := [(0, w32 (i + 2)), (5, b), (0, xs (i + 1)), (2, x1)]) (M' := M) hX [(.aload_n 0, 0, 0, 0), (.iload_n 3, 0, 0, 0), (.iconst 2, 0, 0, 0), (.iadd, 0, 0, 0)] (by decide +kernel) rfl trivial ?_
  refine zG.sld (i := w32 (i + 2)) hX hsc (by rw [e2]; omega) (by decide +kernel) ?_
  rw [e2]
  show zG C E 4 S (ce) (sl) Q 526 [some (5, b), some (2, x1), some (2, x2), some (0, i)] [(0, xs (i + 2)), (0, xs (i + 1)), (2, x1)] M
  refine zG.blk (pc' := 530) (l' := [some (5, b), some (2, x1), some (2, x2), some (0, i)]) (st' := [(0, w32 (i + 3)), (5, b), (0, xs (i + 2)), (0, xs (i + 1)), (2, x1)]) (M' := M) hX [(.aload_n 0, 0, 0, 0), (.iload_n 3, 0, 0, 0), (.iconst 3, 0, 0, 0), (.iadd, 0, 0, 0)] (by decide +kernel) rfl trivial ?_
  refine zG.sld (i := w32 (i + 3)) hX hsc (by rw [e3]; omega) (by decide +kernel) ?_
  rw [e3]
  show zG C E 4 S (ce) (sl) Q 531 [some (5, b), some (2, x1), some (2, x2), some (0, i)] [(0, xs (i + 3)), (0, xs (i + 2)), (0, xs (i + 1)), (2, x1)] M
  obtain ⟨g0, h⟩ := zif h
  obtain ⟨q0, f0, h⟩ := zbd h
  refine zG.callV (b := x1) (av := [(0, xs (i + 1)), (0, xs (i + 2)), (0, xs (i + 3))]) (st := []) (ci := 11) hX (pX11_ahead_ok f0) sv_13_69 rfl ⟨by decide, rfl⟩ g0 (by decide +kernel) (by rw [hRm]; exact ⟨Nat.le_of_ble_eq_true rfl, Nat.le_of_ble_eq_true rfl⟩) (by rw [hRm]; exact ⟨by show ce + 0 ≤ 600000; omega, by show sl + 0 ≤ 7302249; omega⟩) (Nat.le_of_ble_eq_true rfl) ?_
  show zG C E 4 S (ce) (sl) Q 534 [some (5, b), some (2, x1), some (2, x2), some (0, i)] [(0, q0.1)] q0.2
  refine zG.blk (pc' := 539) (l' := [some (5, b), some (2, x1), some (2, x2), some (0, i)]) (st' := [(0, w32 (i + 1)), (5, b), (2, x2), (0, q0.1)]) (M' := q0.2) hX [(.aload_n 2, 0, 0, 0), (.aload_n 0, 0, 0, 0), (.iload_n 3, 0, 0, 0), (.iconst 1, 0, 0, 0), (.iadd, 0, 0, 0)] (by decide +kernel) rfl trivial ?_
  refine zG.sld (i := w32 (i + 1)) hX hsc (by rw [e1]; omega) (by decide +kernel) ?_
  rw [e1]
  show zG C E 4 S (ce) (sl) Q 540 [some (5, b), some (2, x1), some (2, x2), some (0, i)] [(0, xs (i + 1)), (2, x2), (0, q0.1)] q0.2
  refine zG.blk (pc' := 544) (l' := [some (5, b), some (2, x1), some (2, x2), some (0, i)]) (st' := [(0, w32 (i + 2)), (5, b), (0, xs (i + 1)), (2, x2), (0, q0.1)]) (M' := q0.2) hX [(.aload_n 0, 0, 0, 0), (.iload_n 3, 0, 0, 0), (.iconst 2, 0, 0, 0), (.iadd, 0, 0, 0)] (by decide +kernel) rfl trivial ?_
  refine zG.sld (i := w32 (i + 2)) hX hsc (by rw [e2]; omega) (by decide +kernel) ?_
  rw [e2]
  show zG C E 4 S (ce) (sl) Q 545 [some (5, b), some (2, x1), some (2, x2), some (0, i)] [(0, xs (i + 2)), (0, xs (i + 1)), (2, x2), (0, q0.1)] q0.2
  refine zG.blk (pc' := 549) (l' := [some (5, b), some (2, x1), some (2, x2), some (0, i)]) (st' := [(0, w32 (i + 3)), (5, b), (0, xs (i + 2)), (0, xs (i + 1)), (2, x2), (0, q0.1)]) (M' := q0.2) hX [(.aload_n 0, 0, 0, 0), (.iload_n 3, 0, 0, 0), (.iconst 3, 0, 0, 0), (.iadd, 0, 0, 0)] (by decide +kernel) rfl trivial ?_
  refine zG.sld (i := w32 (i + 3)) hX hsc (by rw [e3]; omega) (by decide +kernel) ?_
  rw [e3]
  show zG C E 4 S (ce) (sl) Q 550 [some (5, b), some (2, x1), some (2, x2), some (0, i)] [(0, xs (i + 3)), (0, xs (i + 2)), (0, xs (i + 1)), (2, x2), (0, q0.1)] q0.2
  obtain ⟨g1, h⟩ := zif h
  obtain ⟨q1, f1, h⟩ := zbd h
  refine zG.callV (b := x2) (av := [(0, xs (i + 1)), (0, xs (i + 2)), (0, xs (i + 3))]) (st := [(0, q0.1)]) (ci := 12) hX (pX12_ahead_ok f1) sv_13_73 rfl ⟨by decide, rfl⟩ g1 (by decide +kernel) (by rw [hRm]; exact ⟨Nat.le_of_ble_eq_true rfl, Nat.le_of_ble_eq_true rfl⟩) (by rw [hRm]; exact ⟨by show ce + 0 ≤ 600000; omega, by show sl + 0 ≤ 7302249; omega⟩) (Nat.le_of_ble_eq_true rfl) ?_
  show zG C E 4 S (ce) (sl) Q 553 [some (5, b), some (2, x1), some (2, x2), some (0, i)] [(0, q1.1), (0, q0.1)] q1.2
  obtain ⟨hc, h⟩ := zif h
  cases h
  refine zG.icmp_eq (tgt := 1152) (off := 599) hX (by decide +kernel) (by decide) (fun _ => ?_) (fun c => absurd hc c)
  exact zG.widen (ce' := ce + 120) (sl' := sl + 2100) (by omega) (by omega) hk
theorem sv_13_74 : zSV 13 74 yX11_sign cX11_sign 1 (some .int) 0 := ⟨⟨gt_at 910 (by decide +kernel) rfl, gt_at 911 (by decide +kernel) rfl, gt_at 912 (by decide +kernel) rfl, gt_at 105 (by decide +kernel) rfl, gt_at 913 (by decide +kernel) rfl⟩, by decide +kernel, by decide +kernel, by decide +kernel⟩
theorem sv_13_77 : zSV 13 77 yX12_sign cX12_sign 1 (some .int) 0 := ⟨⟨gt_at 1617 (by decide +kernel) rfl, gt_at 1618 (by decide +kernel) rfl, gt_at 1619 (by decide +kernel) rfl, gt_at 117 (by decide +kernel) rfl, gt_at 1620 (by decide +kernel) rfl⟩, by decide +kernel, by decide +kernel, by decide +kernel⟩
noncomputable def lawC14 (xs : Int → Int) (S : ZS) (M : ZM) (x1 x2 i : Int) : Option (ZS × ZM) := if S.1 x1 = 11 then (pX11_sign S M x1).bind fun q0 => if S.1 x2 = 12 then (pX12_sign S q0.2 x2).bind fun q1 => if q0.1 = q1.1 then some (S, q1.2) else none else none else none
set_option maxHeartbeats 2000000 in
set_option maxRecDepth 20000 in
theorem lawC14_ok {C : ZC} {E : ZE} {b x1 x2 i L : Int} {xs : Int → Int} {S : ZS} {M : ZM} {ce sl : Nat} {Q : State → Prop} {q : ZS × ZM} (hX : zCx C E 13 code 4 ret false) (hRm : czR C = room_1) (hsc : zScr C E b L xs) (hi : 0 ≤ i ∧ i + 6 ≤ L) (hL : L ≤ 3072) (hce : ce + 200 ≤ 600000 ∧ sl + 2500 ≤ 7302249) (h : lawC14 xs S M x1 x2 i = some q) (hk : zG C E 4 q.1 (ce + 120) (sl + 2100) Q 1152 [some (5, b), some (2, x1), some (2, x2), some (0, i)] [] q.2) : zG C E 4 S ce sl Q 558 [some (5, b), some (2, x1), some (2, x2), some (0, i)] [] M := by
  unfold lawC14 at h
  have e1 : w32 (i + 1) = i + 1 := w32_id (by unfold in32; omega)
  have e2 : w32 (i + 2) = i + 2 := w32_id (by unfold in32; omega)
  have e3 : w32 (i + 3) = i + 3 := w32_id (by unfold in32; omega)
  have e4 : w32 (i + 4) = i + 4 := w32_id (by unfold in32; omega)
  have e5 : w32 (i + 5) = i + 5 := w32_id (by unfold in32; omega)
  refine zG.blk (pc' := 559) (l' := [some (5, b), some (2, x1), some (2, x2), some (0, i)]) (st' := [(2, x1)]) (M' := M) hX [(.aload_n 1, 0, 0, 0)] (by decide +kernel) rfl trivial ?_
  obtain ⟨g0, h⟩ := zif h
  obtain ⟨q0, f0, h⟩ := zbd h
  refine zG.callV (b := x1) (av := []) (st := []) (ci := 11) hX (pX11_sign_ok f0) sv_13_74 rfl ⟨by decide, rfl⟩ g0 (by decide +kernel) (by rw [hRm]; exact ⟨Nat.le_of_ble_eq_true rfl, Nat.le_of_ble_eq_true rfl⟩) (by rw [hRm]; exact ⟨by show ce + 0 ≤ 600000; omega, by show sl + 0 ≤ 7302249; omega⟩) (Nat.le_of_ble_eq_true rfl) ?_
  show zG C E 4 S (ce) (sl) Q 562 [some (5, b), some (2, x1), some (2, x2), some (0, i)] [(0, q0.1)] q0.2
  refine zG.blk (pc' := 563) (l' := [some (5, b), some (2, x1), some (2, x2), some (0, i)]) (st' := [(2, x2), (0, q0.1)]) (M' := q0.2) hX [(.aload_n 2, 0, 0, 0)] (by decide +kernel) rfl trivial ?_
  obtain ⟨g1, h⟩ := zif h
  obtain ⟨q1, f1, h⟩ := zbd h
  refine zG.callV (b := x2) (av := []) (st := [(0, q0.1)]) (ci := 12) hX (pX12_sign_ok f1) sv_13_77 rfl ⟨by decide, rfl⟩ g1 (by decide +kernel) (by rw [hRm]; exact ⟨Nat.le_of_ble_eq_true rfl, Nat.le_of_ble_eq_true rfl⟩) (by rw [hRm]; exact ⟨by show ce + 0 ≤ 600000; omega, by show sl + 0 ≤ 7302249; omega⟩) (Nat.le_of_ble_eq_true rfl) ?_
  show zG C E 4 S (ce) (sl) Q 566 [some (5, b), some (2, x1), some (2, x2), some (0, i)] [(0, q1.1), (0, q0.1)] q1.2
  obtain ⟨hc, h⟩ := zif h
  cases h
  refine zG.icmp_eq (tgt := 1152) (off := 586) hX (by decide +kernel) (by decide) (fun _ => ?_) (fun c => absurd hc c)
  exact zG.widen (ce' := ce + 120) (sl' := sl + 2100) (by omega) (by omega) hk
theorem sv_13_78 : zSV 13 78 yX11_clean cX11_clean 1 (some .int) 0 := ⟨⟨gt_at 924 (by decide +kernel) rfl, gt_at 925 (by decide +kernel) rfl, gt_at 926 (by decide +kernel) rfl, gt_at 105 (by decide +kernel) rfl, gt_at 927 (by decide +kernel) rfl⟩, by decide +kernel, by decide +kernel, by decide +kernel⟩
theorem sv_13_81 : zSV 13 81 yX12_clean cX12_clean 1 (some .int) 0 := ⟨⟨gt_at 1629 (by decide +kernel) rfl, gt_at 1630 (by decide +kernel) rfl, gt_at 1631 (by decide +kernel) rfl, gt_at 117 (by decide +kernel) rfl, gt_at 1632 (by decide +kernel) rfl⟩, by decide +kernel, by decide +kernel, by decide +kernel⟩
noncomputable def lawC15 (xs : Int → Int) (S : ZS) (M : ZM) (x1 x2 i : Int) : Option (ZS × ZM) := if S.1 x1 = 11 then (pX11_clean S M x1).bind fun q0 => if S.1 x2 = 12 then (pX12_clean S q0.2 x2).bind fun q1 => if q0.1 = q1.1 then some (S, q1.2) else none else none else none
set_option maxHeartbeats 2000000 in
set_option maxRecDepth 20000 in
theorem lawC15_ok {C : ZC} {E : ZE} {b x1 x2 i L : Int} {xs : Int → Int} {S : ZS} {M : ZM} {ce sl : Nat} {Q : State → Prop} {q : ZS × ZM} (hX : zCx C E 13 code 4 ret false) (hRm : czR C = room_1) (hsc : zScr C E b L xs) (hi : 0 ≤ i ∧ i + 6 ≤ L) (hL : L ≤ 3072) (hce : ce + 200 ≤ 600000 ∧ sl + 2500 ≤ 7302249) (h : lawC15 xs S M x1 x2 i = some q) (hk : zG C E 4 q.1 (ce + 120) (sl + 2100) Q 1152 [some (5, b), some (2, x1), some (2, x2), some (0, i)] [] q.2) : zG C E 4 S ce sl Q 571 [some (5, b), some (2, x1), some (2, x2), some (0, i)] [] M := by
  unfold lawC15 at h
  have e1 : w32 (i + 1) = i + 1 := w32_id (by unfold in32; omega)
  have e2 : w32 (i + 2) = i + 2 := w32_id (by unfold in32; omega)
  have e3 : w32 (i + 3) = i + 3 := w32_id (by unfold in32; omega)
  have e4 : w32 (i + 4) = i + 4 := w32_id (by unfold in32; omega)
  have e5 : w32 (i + 5) = i + 5 := w32_id (by unfold in32; omega)
  refine zG.blk (pc' := 572) (l' := [some (5, b), some (2, x1), some (2, x2), some (0, i)]) (st' := [(2, x1)]) (M' := M) hX [(.aload_n 1, 0, 0, 0)] (by decide +kernel) rfl trivial ?_
  obtain ⟨g0, h⟩ := zif h
  obtain ⟨q0, f0, h⟩ := zbd h
  refine zG.callV (b := x1) (av := []) (st := []) (ci := 11) hX (pX11_clean_ok f0) sv_13_78 rfl ⟨by decide, rfl⟩ g0 (by decide +kernel) (by rw [hRm]; exact ⟨Nat.le_of_ble_eq_true rfl, Nat.le_of_ble_eq_true rfl⟩) (by rw [hRm]; exact ⟨by show ce + 0 ≤ 600000; omega, by show sl + 0 ≤ 7302249; omega⟩) (Nat.le_of_ble_eq_true rfl) ?_
  show zG C E 4 S (ce) (sl) Q 575 [some (5, b), some (2, x1), some (2, x2), some (0, i)] [(0, q0.1)] q0.2
  refine zG.blk (pc' := 576) (l' := [some (5, b), some (2, x1), some (2, x2), some (0, i)]) (st' := [(2, x2), (0, q0.1)]) (M' := q0.2) hX [(.aload_n 2, 0, 0, 0)] (by decide +kernel) rfl trivial ?_
  obtain ⟨g1, h⟩ := zif h
  obtain ⟨q1, f1, h⟩ := zbd h
  refine zG.callV (b := x2) (av := []) (st := [(0, q0.1)]) (ci := 12) hX (pX12_clean_ok f1) sv_13_81 rfl ⟨by decide, rfl⟩ g1 (by decide +kernel) (by rw [hRm]; exact ⟨Nat.le_of_ble_eq_true rfl, Nat.le_of_ble_eq_true rfl⟩) (by rw [hRm]; exact ⟨by show ce + 0 ≤ 600000; omega, by show sl + 0 ≤ 7302249; omega⟩) (Nat.le_of_ble_eq_true rfl) ?_
  show zG C E 4 S (ce) (sl) Q 579 [some (5, b), some (2, x1), some (2, x2), some (0, i)] [(0, q1.1), (0, q0.1)] q1.2
  obtain ⟨hc, h⟩ := zif h
  cases h
  refine zG.icmp_eq (tgt := 1152) (off := 573) hX (by decide +kernel) (by decide) (fun _ => ?_) (fun c => absurd hc c)
  exact zG.widen (ce' := ce + 120) (sl' := sl + 2100) (by omega) (by omega) hk
theorem sv_13_82 : zSV 13 82 yX11_hold cX11_hold 3 (some .int) 2 := ⟨⟨gt_at 928 (by decide +kernel) rfl, gt_at 929 (by decide +kernel) rfl, gt_at 930 (by decide +kernel) rfl, gt_at 105 (by decide +kernel) rfl, gt_at 931 (by decide +kernel) rfl⟩, by decide +kernel, by decide +kernel, by decide +kernel⟩
theorem sv_13_85 : zSV 13 85 yX12_hold cX12_hold 7 (some .int) 2 := ⟨⟨gt_at 1633 (by decide +kernel) rfl, gt_at 1634 (by decide +kernel) rfl, gt_at 1635 (by decide +kernel) rfl, gt_at 117 (by decide +kernel) rfl, gt_at 1636 (by decide +kernel) rfl⟩, by decide +kernel, by decide +kernel, by decide +kernel⟩
noncomputable def lawC16 (xs : Int → Int) (S : ZS) (M : ZM) (x1 x2 i : Int) : Option (ZS × ZM) := if S.1 x1 = 11 then (pX11_hold S M x1 (xs (i + 1)) (xs (i + 2))).bind fun q0 => if S.1 x2 = 12 then (pX12_hold S q0.2 x2 (xs (i + 1)) (xs (i + 2))).bind fun q1 => if q0.1 = q1.1 then some (S, q1.2) else none else none else none
set_option maxHeartbeats 2000000 in
set_option maxRecDepth 20000 in
theorem lawC16_ok {C : ZC} {E : ZE} {b x1 x2 i L : Int} {xs : Int → Int} {S : ZS} {M : ZM} {ce sl : Nat} {Q : State → Prop} {q : ZS × ZM} (hX : zCx C E 13 code 4 ret false) (hRm : czR C = room_1) (hsc : zScr C E b L xs) (hi : 0 ≤ i ∧ i + 6 ≤ L) (hL : L ≤ 3072) (hce : ce + 200 ≤ 600000 ∧ sl + 2500 ≤ 7302249) (h : lawC16 xs S M x1 x2 i = some q) (hk : zG C E 4 q.1 (ce + 120) (sl + 2100) Q 1152 [some (5, b), some (2, x1), some (2, x2), some (0, i)] [] q.2) : zG C E 4 S ce sl Q 584 [some (5, b), some (2, x1), some (2, x2), some (0, i)] [] M := by
  unfold lawC16 at h
  have e1 : w32 (i + 1) = i + 1 := w32_id (by unfold in32; omega)
  have e2 : w32 (i + 2) = i + 2 := w32_id (by unfold in32; omega)
  have e3 : w32 (i + 3) = i + 3 := w32_id (by unfold in32; omega)
  have e4 : w32 (i + 4) = i + 4 := w32_id (by unfold in32; omega)
  have e5 : w32 (i + 5) = i + 5 := w32_id (by unfold in32; omega)
  refine zG.blk (pc' := 589) (l' := [some (5, b), some (2, x1), some (2, x2), some (0, i)]) (st' := [(0, w32 (i + 1)), (5, b), (2, x1)]) (M' := M) hX [(.aload_n 1, 0, 0, 0), (.aload_n 0, 0, 0, 0), (.iload_n 3, 0, 0, 0), (.iconst 1, 0, 0, 0), (.iadd, 0, 0, 0)] (by decide +kernel) rfl trivial ?_
  refine zG.sld (i := w32 (i + 1)) hX hsc (by rw [e1]; omega) (by decide +kernel) ?_
  rw [e1]
  show zG C E 4 S (ce) (sl) Q 590 [some (5, b), some (2, x1), some (2, x2), some (0, i)] [(0, xs (i + 1)), (2, x1)] M
  refine zG.blk (pc' := 594) (l' := [some (5, b), some (2, x1), some (2, x2), some (0, i)]) (st' := [(0, w32 (i + 2)), (5, b), (0, xs (i + 1)), (2, x1)]) (M' := M) hX [(.aload_n 0, 0, 0, 0), (.iload_n 3, 0, 0, 0), (.iconst 2, 0, 0, 0), (.iadd, 0, 0, 0)] (by decide +kernel) rfl trivial ?_
  refine zG.sld (i := w32 (i + 2)) hX hsc (by rw [e2]; omega) (by decide +kernel) ?_
  rw [e2]
  show zG C E 4 S (ce) (sl) Q 595 [some (5, b), some (2, x1), some (2, x2), some (0, i)] [(0, xs (i + 2)), (0, xs (i + 1)), (2, x1)] M
  obtain ⟨g0, h⟩ := zif h
  obtain ⟨q0, f0, h⟩ := zbd h
  refine zG.callV (b := x1) (av := [(0, xs (i + 1)), (0, xs (i + 2))]) (st := []) (ci := 11) hX (pX11_hold_ok f0) sv_13_82 rfl ⟨by decide, rfl⟩ g0 (by decide +kernel) (by rw [hRm]; exact ⟨Nat.le_of_ble_eq_true rfl, Nat.le_of_ble_eq_true rfl⟩) (by rw [hRm]; exact ⟨by show ce + 0 ≤ 600000; omega, by show sl + 0 ≤ 7302249; omega⟩) (Nat.le_of_ble_eq_true rfl) ?_
  show zG C E 4 S (ce) (sl) Q 598 [some (5, b), some (2, x1), some (2, x2), some (0, i)] [(0, q0.1)] q0.2
  refine zG.blk (pc' := 603) (l' := [some (5, b), some (2, x1), some (2, x2), some (0, i)]) (st' := [(0, w32 (i + 1)), (5, b), (2, x2), (0, q0.1)]) (M' := q0.2) hX [(.aload_n 2, 0, 0, 0), (.aload_n 0, 0, 0, 0), (.iload_n 3, 0, 0, 0), (.iconst 1, 0, 0, 0), (.iadd, 0, 0, 0)] (by decide +kernel) rfl trivial ?_
  refine zG.sld (i := w32 (i + 1)) hX hsc (by rw [e1]; omega) (by decide +kernel) ?_
  rw [e1]
  show zG C E 4 S (ce) (sl) Q 604 [some (5, b), some (2, x1), some (2, x2), some (0, i)] [(0, xs (i + 1)), (2, x2), (0, q0.1)] q0.2
  refine zG.blk (pc' := 608) (l' := [some (5, b), some (2, x1), some (2, x2), some (0, i)]) (st' := [(0, w32 (i + 2)), (5, b), (0, xs (i + 1)), (2, x2), (0, q0.1)]) (M' := q0.2) hX [(.aload_n 0, 0, 0, 0), (.iload_n 3, 0, 0, 0), (.iconst 2, 0, 0, 0), (.iadd, 0, 0, 0)] (by decide +kernel) rfl trivial ?_
  refine zG.sld (i := w32 (i + 2)) hX hsc (by rw [e2]; omega) (by decide +kernel) ?_
  rw [e2]
  show zG C E 4 S (ce) (sl) Q 609 [some (5, b), some (2, x1), some (2, x2), some (0, i)] [(0, xs (i + 2)), (0, xs (i + 1)), (2, x2), (0, q0.1)] q0.2
  obtain ⟨g1, h⟩ := zif h
  obtain ⟨q1, f1, h⟩ := zbd h
  refine zG.callV (b := x2) (av := [(0, xs (i + 1)), (0, xs (i + 2))]) (st := [(0, q0.1)]) (ci := 12) hX (pX12_hold_ok f1) sv_13_85 rfl ⟨by decide, rfl⟩ g1 (by decide +kernel) (by rw [hRm]; exact ⟨Nat.le_of_ble_eq_true rfl, Nat.le_of_ble_eq_true rfl⟩) (by rw [hRm]; exact ⟨by show ce + 0 ≤ 600000; omega, by show sl + 0 ≤ 7302249; omega⟩) (Nat.le_of_ble_eq_true rfl) ?_
  show zG C E 4 S (ce) (sl) Q 612 [some (5, b), some (2, x1), some (2, x2), some (0, i)] [(0, q1.1), (0, q0.1)] q1.2
  obtain ⟨hc, h⟩ := zif h
  cases h
  refine zG.icmp_eq (tgt := 1152) (off := 540) hX (by decide +kernel) (by decide) (fun _ => ?_) (fun c => absurd hc c)
  exact zG.widen (ce' := ce + 120) (sl' := sl + 2100) (by omega) (by omega) hk
theorem sv_13_86 : zSV 13 86 yX11_wrote cX11_wrote 3 (some .int) 2 := ⟨⟨gt_at 943 (by decide +kernel) rfl, gt_at 944 (by decide +kernel) rfl, gt_at 945 (by decide +kernel) rfl, gt_at 105 (by decide +kernel) rfl, gt_at 946 (by decide +kernel) rfl⟩, by decide +kernel, by decide +kernel, by decide +kernel⟩
theorem sv_13_89 : zSV 13 89 yX12_wrote cX12_wrote 5 (some .int) 2 := ⟨⟨gt_at 1645 (by decide +kernel) rfl, gt_at 1646 (by decide +kernel) rfl, gt_at 1647 (by decide +kernel) rfl, gt_at 117 (by decide +kernel) rfl, gt_at 1648 (by decide +kernel) rfl⟩, by decide +kernel, by decide +kernel, by decide +kernel⟩
noncomputable def lawC17 (xs : Int → Int) (S : ZS) (M : ZM) (x1 x2 i : Int) : Option (ZS × ZM) := if S.1 x1 = 11 then (pX11_wrote S M x1 (xs (i + 1)) (xs (i + 2))).bind fun q0 => if S.1 x2 = 12 then (pX12_wrote S q0.2 x2 (xs (i + 1)) (xs (i + 2))).bind fun q1 => if q0.1 = q1.1 then some (S, q1.2) else none else none else none
set_option maxHeartbeats 2000000 in
set_option maxRecDepth 20000 in
theorem lawC17_ok {C : ZC} {E : ZE} {b x1 x2 i L : Int} {xs : Int → Int} {S : ZS} {M : ZM} {ce sl : Nat} {Q : State → Prop} {q : ZS × ZM} (hX : zCx C E 13 code 4 ret false) (hRm : czR C = room_1) (hsc : zScr C E b L xs) (hi : 0 ≤ i ∧ i + 6 ≤ L) (hL : L ≤ 3072) (hce : ce + 200 ≤ 600000 ∧ sl + 2500 ≤ 7302249) (h : lawC17 xs S M x1 x2 i = some q) (hk : zG C E 4 q.1 (ce + 120) (sl + 2100) Q 1152 [some (5, b), some (2, x1), some (2, x2), some (0, i)] [] q.2) : zG C E 4 S ce sl Q 617 [some (5, b), some (2, x1), some (2, x2), some (0, i)] [] M := by
  unfold lawC17 at h
  have e1 : w32 (i + 1) = i + 1 := w32_id (by unfold in32; omega)
  have e2 : w32 (i + 2) = i + 2 := w32_id (by unfold in32; omega)
  have e3 : w32 (i + 3) = i + 3 := w32_id (by unfold in32; omega)
  have e4 : w32 (i + 4) = i + 4 := w32_id (by unfold in32; omega)
  have e5 : w32 (i + 5) = i + 5 := w32_id (by unfold in32; omega)
  refine zG.blk (pc' := 622) (l' := [some (5, b), some (2, x1), some (2, x2), some (0, i)]) (st' := [(0, w32 (i + 1)), (5, b), (2, x1)]) (M' := M) hX [(.aload_n 1, 0, 0, 0), (.aload_n 0, 0, 0, 0), (.iload_n 3, 0, 0, 0), (.iconst 1, 0, 0, 0), (.iadd, 0, 0, 0)] (by decide +kernel) rfl trivial ?_
  refine zG.sld (i := w32 (i + 1)) hX hsc (by rw [e1]; omega) (by decide +kernel) ?_
  rw [e1]
  show zG C E 4 S (ce) (sl) Q 623 [some (5, b), some (2, x1), some (2, x2), some (0, i)] [(0, xs (i + 1)), (2, x1)] M
  refine zG.blk (pc' := 627) (l' := [some (5, b), some (2, x1), some (2, x2), some (0, i)]) (st' := [(0, w32 (i + 2)), (5, b), (0, xs (i + 1)), (2, x1)]) (M' := M) hX [(.aload_n 0, 0, 0, 0), (.iload_n 3, 0, 0, 0), (.iconst 2, 0, 0, 0), (.iadd, 0, 0, 0)] (by decide +kernel) rfl trivial ?_
  refine zG.sld (i := w32 (i + 2)) hX hsc (by rw [e2]; omega) (by decide +kernel) ?_
  rw [e2]
  show zG C E 4 S (ce) (sl) Q 628 [some (5, b), some (2, x1), some (2, x2), some (0, i)] [(0, xs (i + 2)), (0, xs (i + 1)), (2, x1)] M
  obtain ⟨g0, h⟩ := zif h
  obtain ⟨q0, f0, h⟩ := zbd h
  refine zG.callV (b := x1) (av := [(0, xs (i + 1)), (0, xs (i + 2))]) (st := []) (ci := 11) hX (pX11_wrote_ok f0) sv_13_86 rfl ⟨by decide, rfl⟩ g0 (by decide +kernel) (by rw [hRm]; exact ⟨Nat.le_of_ble_eq_true rfl, Nat.le_of_ble_eq_true rfl⟩) (by rw [hRm]; exact ⟨by show ce + 0 ≤ 600000; omega, by show sl + 0 ≤ 7302249; omega⟩) (Nat.le_of_ble_eq_true rfl) ?_
  show zG C E 4 S (ce) (sl) Q 631 [some (5, b), some (2, x1), some (2, x2), some (0, i)] [(0, q0.1)] q0.2
  refine zG.blk (pc' := 636) (l' := [some (5, b), some (2, x1), some (2, x2), some (0, i)]) (st' := [(0, w32 (i + 1)), (5, b), (2, x2), (0, q0.1)]) (M' := q0.2) hX [(.aload_n 2, 0, 0, 0), (.aload_n 0, 0, 0, 0), (.iload_n 3, 0, 0, 0), (.iconst 1, 0, 0, 0), (.iadd, 0, 0, 0)] (by decide +kernel) rfl trivial ?_
  refine zG.sld (i := w32 (i + 1)) hX hsc (by rw [e1]; omega) (by decide +kernel) ?_
  rw [e1]
  show zG C E 4 S (ce) (sl) Q 637 [some (5, b), some (2, x1), some (2, x2), some (0, i)] [(0, xs (i + 1)), (2, x2), (0, q0.1)] q0.2
  refine zG.blk (pc' := 641) (l' := [some (5, b), some (2, x1), some (2, x2), some (0, i)]) (st' := [(0, w32 (i + 2)), (5, b), (0, xs (i + 1)), (2, x2), (0, q0.1)]) (M' := q0.2) hX [(.aload_n 0, 0, 0, 0), (.iload_n 3, 0, 0, 0), (.iconst 2, 0, 0, 0), (.iadd, 0, 0, 0)] (by decide +kernel) rfl trivial ?_
  refine zG.sld (i := w32 (i + 2)) hX hsc (by rw [e2]; omega) (by decide +kernel) ?_
  rw [e2]
  show zG C E 4 S (ce) (sl) Q 642 [some (5, b), some (2, x1), some (2, x2), some (0, i)] [(0, xs (i + 2)), (0, xs (i + 1)), (2, x2), (0, q0.1)] q0.2
  obtain ⟨g1, h⟩ := zif h
  obtain ⟨q1, f1, h⟩ := zbd h
  refine zG.callV (b := x2) (av := [(0, xs (i + 1)), (0, xs (i + 2))]) (st := [(0, q0.1)]) (ci := 12) hX (pX12_wrote_ok f1) sv_13_89 rfl ⟨by decide, rfl⟩ g1 (by decide +kernel) (by rw [hRm]; exact ⟨Nat.le_of_ble_eq_true rfl, Nat.le_of_ble_eq_true rfl⟩) (by rw [hRm]; exact ⟨by show ce + 0 ≤ 600000; omega, by show sl + 0 ≤ 7302249; omega⟩) (Nat.le_of_ble_eq_true rfl) ?_
  show zG C E 4 S (ce) (sl) Q 645 [some (5, b), some (2, x1), some (2, x2), some (0, i)] [(0, q1.1), (0, q0.1)] q1.2
  obtain ⟨hc, h⟩ := zif h
  cases h
  refine zG.icmp_eq (tgt := 1152) (off := 507) hX (by decide +kernel) (by decide) (fun _ => ?_) (fun c => absurd hc c)
  exact zG.widen (ce' := ce + 120) (sl' := sl + 2100) (by omega) (by omega) hk
theorem sv_13_90 : zSV 13 90 yX11_came cX11_came 5 (some .int) 4 := ⟨⟨gt_at 951 (by decide +kernel) rfl, gt_at 952 (by decide +kernel) rfl, gt_at 953 (by decide +kernel) rfl, gt_at 105 (by decide +kernel) rfl, gt_at 954 (by decide +kernel) rfl⟩, by decide +kernel, by decide +kernel, by decide +kernel⟩
theorem sv_13_94 : zSV 13 94 yX12_came cX12_came 9 (some .int) 4 := ⟨⟨gt_at 1653 (by decide +kernel) rfl, gt_at 1654 (by decide +kernel) rfl, gt_at 1655 (by decide +kernel) rfl, gt_at 117 (by decide +kernel) rfl, gt_at 1656 (by decide +kernel) rfl⟩, by decide +kernel, by decide +kernel, by decide +kernel⟩
noncomputable def lawC18 (xs : Int → Int) (S : ZS) (M : ZM) (x1 x2 i : Int) : Option (ZS × ZM) := if S.1 x1 = 11 then (pX11_came S M x1 (xs (i + 1)) (xs (i + 2)) (xs (i + 3)) (xs (i + 4))).bind fun q0 => if S.1 x2 = 12 then (pX12_came S q0.2 x2 (xs (i + 1)) (xs (i + 2)) (xs (i + 3)) (xs (i + 4))).bind fun q1 => if q0.1 = q1.1 then some (S, q1.2) else none else none else none
set_option maxHeartbeats 2000000 in
set_option maxRecDepth 20000 in
theorem lawC18_ok {C : ZC} {E : ZE} {b x1 x2 i L : Int} {xs : Int → Int} {S : ZS} {M : ZM} {ce sl : Nat} {Q : State → Prop} {q : ZS × ZM} (hX : zCx C E 13 code 4 ret false) (hRm : czR C = room_1) (hsc : zScr C E b L xs) (hi : 0 ≤ i ∧ i + 6 ≤ L) (hL : L ≤ 3072) (hce : ce + 200 ≤ 600000 ∧ sl + 2500 ≤ 7302249) (h : lawC18 xs S M x1 x2 i = some q) (hk : zG C E 4 q.1 (ce + 120) (sl + 2100) Q 1152 [some (5, b), some (2, x1), some (2, x2), some (0, i)] [] q.2) : zG C E 4 S ce sl Q 650 [some (5, b), some (2, x1), some (2, x2), some (0, i)] [] M := by
  unfold lawC18 at h
  have e1 : w32 (i + 1) = i + 1 := w32_id (by unfold in32; omega)
  have e2 : w32 (i + 2) = i + 2 := w32_id (by unfold in32; omega)
  have e3 : w32 (i + 3) = i + 3 := w32_id (by unfold in32; omega)
  have e4 : w32 (i + 4) = i + 4 := w32_id (by unfold in32; omega)
  have e5 : w32 (i + 5) = i + 5 := w32_id (by unfold in32; omega)
  refine zG.blk (pc' := 655) (l' := [some (5, b), some (2, x1), some (2, x2), some (0, i)]) (st' := [(0, w32 (i + 1)), (5, b), (2, x1)]) (M' := M) hX [(.aload_n 1, 0, 0, 0), (.aload_n 0, 0, 0, 0), (.iload_n 3, 0, 0, 0), (.iconst 1, 0, 0, 0), (.iadd, 0, 0, 0)] (by decide +kernel) rfl trivial ?_
  refine zG.sld (i := w32 (i + 1)) hX hsc (by rw [e1]; omega) (by decide +kernel) ?_
  rw [e1]
  show zG C E 4 S (ce) (sl) Q 656 [some (5, b), some (2, x1), some (2, x2), some (0, i)] [(0, xs (i + 1)), (2, x1)] M
  refine zG.blk (pc' := 660) (l' := [some (5, b), some (2, x1), some (2, x2), some (0, i)]) (st' := [(0, w32 (i + 2)), (5, b), (0, xs (i + 1)), (2, x1)]) (M' := M) hX [(.aload_n 0, 0, 0, 0), (.iload_n 3, 0, 0, 0), (.iconst 2, 0, 0, 0), (.iadd, 0, 0, 0)] (by decide +kernel) rfl trivial ?_
  refine zG.sld (i := w32 (i + 2)) hX hsc (by rw [e2]; omega) (by decide +kernel) ?_
  rw [e2]
  show zG C E 4 S (ce) (sl) Q 661 [some (5, b), some (2, x1), some (2, x2), some (0, i)] [(0, xs (i + 2)), (0, xs (i + 1)), (2, x1)] M
  refine zG.blk (pc' := 665) (l' := [some (5, b), some (2, x1), some (2, x2), some (0, i)]) (st' := [(0, w32 (i + 3)), (5, b), (0, xs (i + 2)), (0, xs (i + 1)), (2, x1)]) (M' := M) hX [(.aload_n 0, 0, 0, 0), (.iload_n 3, 0, 0, 0), (.iconst 3, 0, 0, 0), (.iadd, 0, 0, 0)] (by decide +kernel) rfl trivial ?_
  refine zG.sld (i := w32 (i + 3)) hX hsc (by rw [e3]; omega) (by decide +kernel) ?_
  rw [e3]
  show zG C E 4 S (ce) (sl) Q 666 [some (5, b), some (2, x1), some (2, x2), some (0, i)] [(0, xs (i + 3)), (0, xs (i + 2)), (0, xs (i + 1)), (2, x1)] M
  refine zG.blk (pc' := 670) (l' := [some (5, b), some (2, x1), some (2, x2), some (0, i)]) (st' := [(0, w32 (i + 4)), (5, b), (0, xs (i + 3)), (0, xs (i + 2)), (0, xs (i + 1)), (2, x1)]) (M' := M) hX [(.aload_n 0, 0, 0, 0), (.iload_n 3, 0, 0, 0), (.iconst 4, 0, 0, 0), (.iadd, 0, 0, 0)] (by decide +kernel) rfl trivial ?_
  refine zG.sld (i := w32 (i + 4)) hX hsc (by rw [e4]; omega) (by decide +kernel) ?_
  rw [e4]
  show zG C E 4 S (ce) (sl) Q 671 [some (5, b), some (2, x1), some (2, x2), some (0, i)] [(0, xs (i + 4)), (0, xs (i + 3)), (0, xs (i + 2)), (0, xs (i + 1)), (2, x1)] M
  obtain ⟨g0, h⟩ := zif h
  obtain ⟨q0, f0, h⟩ := zbd h
  refine zG.callV (b := x1) (av := [(0, xs (i + 1)), (0, xs (i + 2)), (0, xs (i + 3)), (0, xs (i + 4))]) (st := []) (ci := 11) hX (pX11_came_ok f0) sv_13_90 rfl ⟨by decide, rfl⟩ g0 (by decide +kernel) (by rw [hRm]; exact ⟨Nat.le_of_ble_eq_true rfl, Nat.le_of_ble_eq_true rfl⟩) (by rw [hRm]; exact ⟨by show ce + 0 ≤ 600000; omega, by show sl + 0 ≤ 7302249; omega⟩) (Nat.le_of_ble_eq_true rfl) ?_
  show zG C E 4 S (ce) (sl) Q 674 [some (5, b), some (2, x1), some (2, x2), some (0, i)] [(0, q0.1)] q0.2
  refine zG.blk (pc' := 679) (l' := [some (5, b), some (2, x1), some (2, x2), some (0, i)]) (st' := [(0, w32 (i + 1)), (5, b), (2, x2), (0, q0.1)]) (M' := q0.2) hX [(.aload_n 2, 0, 0, 0), (.aload_n 0, 0, 0, 0), (.iload_n 3, 0, 0, 0), (.iconst 1, 0, 0, 0), (.iadd, 0, 0, 0)] (by decide +kernel) rfl trivial ?_
  refine zG.sld (i := w32 (i + 1)) hX hsc (by rw [e1]; omega) (by decide +kernel) ?_
  rw [e1]
  show zG C E 4 S (ce) (sl) Q 680 [some (5, b), some (2, x1), some (2, x2), some (0, i)] [(0, xs (i + 1)), (2, x2), (0, q0.1)] q0.2
  refine zG.blk (pc' := 684) (l' := [some (5, b), some (2, x1), some (2, x2), some (0, i)]) (st' := [(0, w32 (i + 2)), (5, b), (0, xs (i + 1)), (2, x2), (0, q0.1)]) (M' := q0.2) hX [(.aload_n 0, 0, 0, 0), (.iload_n 3, 0, 0, 0), (.iconst 2, 0, 0, 0), (.iadd, 0, 0, 0)] (by decide +kernel) rfl trivial ?_
  refine zG.sld (i := w32 (i + 2)) hX hsc (by rw [e2]; omega) (by decide +kernel) ?_
  rw [e2]
  show zG C E 4 S (ce) (sl) Q 685 [some (5, b), some (2, x1), some (2, x2), some (0, i)] [(0, xs (i + 2)), (0, xs (i + 1)), (2, x2), (0, q0.1)] q0.2
  refine zG.blk (pc' := 689) (l' := [some (5, b), some (2, x1), some (2, x2), some (0, i)]) (st' := [(0, w32 (i + 3)), (5, b), (0, xs (i + 2)), (0, xs (i + 1)), (2, x2), (0, q0.1)]) (M' := q0.2) hX [(.aload_n 0, 0, 0, 0), (.iload_n 3, 0, 0, 0), (.iconst 3, 0, 0, 0), (.iadd, 0, 0, 0)] (by decide +kernel) rfl trivial ?_
  refine zG.sld (i := w32 (i + 3)) hX hsc (by rw [e3]; omega) (by decide +kernel) ?_
  rw [e3]
  show zG C E 4 S (ce) (sl) Q 690 [some (5, b), some (2, x1), some (2, x2), some (0, i)] [(0, xs (i + 3)), (0, xs (i + 2)), (0, xs (i + 1)), (2, x2), (0, q0.1)] q0.2
  refine zG.blk (pc' := 694) (l' := [some (5, b), some (2, x1), some (2, x2), some (0, i)]) (st' := [(0, w32 (i + 4)), (5, b), (0, xs (i + 3)), (0, xs (i + 2)), (0, xs (i + 1)), (2, x2), (0, q0.1)]) (M' := q0.2) hX [(.aload_n 0, 0, 0, 0), (.iload_n 3, 0, 0, 0), (.iconst 4, 0, 0, 0), (.iadd, 0, 0, 0)] (by decide +kernel) rfl trivial ?_
  refine zG.sld (i := w32 (i + 4)) hX hsc (by rw [e4]; omega) (by decide +kernel) ?_
  rw [e4]
  show zG C E 4 S (ce) (sl) Q 695 [some (5, b), some (2, x1), some (2, x2), some (0, i)] [(0, xs (i + 4)), (0, xs (i + 3)), (0, xs (i + 2)), (0, xs (i + 1)), (2, x2), (0, q0.1)] q0.2
  obtain ⟨g1, h⟩ := zif h
  obtain ⟨q1, f1, h⟩ := zbd h
  refine zG.callV (b := x2) (av := [(0, xs (i + 1)), (0, xs (i + 2)), (0, xs (i + 3)), (0, xs (i + 4))]) (st := [(0, q0.1)]) (ci := 12) hX (pX12_came_ok f1) sv_13_94 rfl ⟨by decide, rfl⟩ g1 (by decide +kernel) (by rw [hRm]; exact ⟨Nat.le_of_ble_eq_true rfl, Nat.le_of_ble_eq_true rfl⟩) (by rw [hRm]; exact ⟨by show ce + 0 ≤ 600000; omega, by show sl + 0 ≤ 7302249; omega⟩) (Nat.le_of_ble_eq_true rfl) ?_
  show zG C E 4 S (ce) (sl) Q 698 [some (5, b), some (2, x1), some (2, x2), some (0, i)] [(0, q1.1), (0, q0.1)] q1.2
  obtain ⟨hc, h⟩ := zif h
  cases h
  refine zG.icmp_eq (tgt := 1152) (off := 454) hX (by decide +kernel) (by decide) (fun _ => ?_) (fun c => absurd hc c)
  exact zG.widen (ce' := ce + 120) (sl' := sl + 2100) (by omega) (by omega) hk
theorem sv_13_95 : zSV 13 95 yX11_change cX11_change 3 (some .int) 2 := ⟨⟨gt_at 959 (by decide +kernel) rfl, gt_at 960 (by decide +kernel) rfl, gt_at 961 (by decide +kernel) rfl, gt_at 105 (by decide +kernel) rfl, gt_at 962 (by decide +kernel) rfl⟩, by decide +kernel, by decide +kernel, by decide +kernel⟩
theorem sv_13_98 : zSV 13 98 yX12_change cX12_change 9 (some .int) 2 := ⟨⟨gt_at 1657 (by decide +kernel) rfl, gt_at 1658 (by decide +kernel) rfl, gt_at 1659 (by decide +kernel) rfl, gt_at 117 (by decide +kernel) rfl, gt_at 1660 (by decide +kernel) rfl⟩, by decide +kernel, by decide +kernel, by decide +kernel⟩
noncomputable def lawC19 (xs : Int → Int) (S : ZS) (M : ZM) (x1 x2 i : Int) : Option (ZS × ZM) := if S.1 x1 = 11 then (pX11_change S M x1 (xs (i + 1)) (xs (i + 2))).bind fun q0 => if S.1 x2 = 12 then (pX12_change S q0.2 x2 (xs (i + 1)) (xs (i + 2))).bind fun q1 => if q0.1 = q1.1 then some (S, q1.2) else none else none else none
set_option maxHeartbeats 2000000 in
set_option maxRecDepth 20000 in
theorem lawC19_ok {C : ZC} {E : ZE} {b x1 x2 i L : Int} {xs : Int → Int} {S : ZS} {M : ZM} {ce sl : Nat} {Q : State → Prop} {q : ZS × ZM} (hX : zCx C E 13 code 4 ret false) (hRm : czR C = room_1) (hsc : zScr C E b L xs) (hi : 0 ≤ i ∧ i + 6 ≤ L) (hL : L ≤ 3072) (hce : ce + 200 ≤ 600000 ∧ sl + 2500 ≤ 7302249) (h : lawC19 xs S M x1 x2 i = some q) (hk : zG C E 4 q.1 (ce + 120) (sl + 2100) Q 1152 [some (5, b), some (2, x1), some (2, x2), some (0, i)] [] q.2) : zG C E 4 S ce sl Q 703 [some (5, b), some (2, x1), some (2, x2), some (0, i)] [] M := by
  unfold lawC19 at h
  have e1 : w32 (i + 1) = i + 1 := w32_id (by unfold in32; omega)
  have e2 : w32 (i + 2) = i + 2 := w32_id (by unfold in32; omega)
  have e3 : w32 (i + 3) = i + 3 := w32_id (by unfold in32; omega)
  have e4 : w32 (i + 4) = i + 4 := w32_id (by unfold in32; omega)
  have e5 : w32 (i + 5) = i + 5 := w32_id (by unfold in32; omega)
  refine zG.blk (pc' := 708) (l' := [some (5, b), some (2, x1), some (2, x2), some (0, i)]) (st' := [(0, w32 (i + 1)), (5, b), (2, x1)]) (M' := M) hX [(.aload_n 1, 0, 0, 0), (.aload_n 0, 0, 0, 0), (.iload_n 3, 0, 0, 0), (.iconst 1, 0, 0, 0), (.iadd, 0, 0, 0)] (by decide +kernel) rfl trivial ?_
  refine zG.sld (i := w32 (i + 1)) hX hsc (by rw [e1]; omega) (by decide +kernel) ?_
  rw [e1]
  show zG C E 4 S (ce) (sl) Q 709 [some (5, b), some (2, x1), some (2, x2), some (0, i)] [(0, xs (i + 1)), (2, x1)] M
  refine zG.blk (pc' := 713) (l' := [some (5, b), some (2, x1), some (2, x2), some (0, i)]) (st' := [(0, w32 (i + 2)), (5, b), (0, xs (i + 1)), (2, x1)]) (M' := M) hX [(.aload_n 0, 0, 0, 0), (.iload_n 3, 0, 0, 0), (.iconst 2, 0, 0, 0), (.iadd, 0, 0, 0)] (by decide +kernel) rfl trivial ?_
  refine zG.sld (i := w32 (i + 2)) hX hsc (by rw [e2]; omega) (by decide +kernel) ?_
  rw [e2]
  show zG C E 4 S (ce) (sl) Q 714 [some (5, b), some (2, x1), some (2, x2), some (0, i)] [(0, xs (i + 2)), (0, xs (i + 1)), (2, x1)] M
  obtain ⟨g0, h⟩ := zif h
  obtain ⟨q0, f0, h⟩ := zbd h
  refine zG.callV (b := x1) (av := [(0, xs (i + 1)), (0, xs (i + 2))]) (st := []) (ci := 11) hX (pX11_change_ok f0) sv_13_95 rfl ⟨by decide, rfl⟩ g0 (by decide +kernel) (by rw [hRm]; exact ⟨Nat.le_of_ble_eq_true rfl, Nat.le_of_ble_eq_true rfl⟩) (by rw [hRm]; exact ⟨by show ce + 0 ≤ 600000; omega, by show sl + 0 ≤ 7302249; omega⟩) (Nat.le_of_ble_eq_true rfl) ?_
  show zG C E 4 S (ce) (sl) Q 717 [some (5, b), some (2, x1), some (2, x2), some (0, i)] [(0, q0.1)] q0.2
  refine zG.blk (pc' := 722) (l' := [some (5, b), some (2, x1), some (2, x2), some (0, i)]) (st' := [(0, w32 (i + 1)), (5, b), (2, x2), (0, q0.1)]) (M' := q0.2) hX [(.aload_n 2, 0, 0, 0), (.aload_n 0, 0, 0, 0), (.iload_n 3, 0, 0, 0), (.iconst 1, 0, 0, 0), (.iadd, 0, 0, 0)] (by decide +kernel) rfl trivial ?_
  refine zG.sld (i := w32 (i + 1)) hX hsc (by rw [e1]; omega) (by decide +kernel) ?_
  rw [e1]
  show zG C E 4 S (ce) (sl) Q 723 [some (5, b), some (2, x1), some (2, x2), some (0, i)] [(0, xs (i + 1)), (2, x2), (0, q0.1)] q0.2
  refine zG.blk (pc' := 727) (l' := [some (5, b), some (2, x1), some (2, x2), some (0, i)]) (st' := [(0, w32 (i + 2)), (5, b), (0, xs (i + 1)), (2, x2), (0, q0.1)]) (M' := q0.2) hX [(.aload_n 0, 0, 0, 0), (.iload_n 3, 0, 0, 0), (.iconst 2, 0, 0, 0), (.iadd, 0, 0, 0)] (by decide +kernel) rfl trivial ?_
  refine zG.sld (i := w32 (i + 2)) hX hsc (by rw [e2]; omega) (by decide +kernel) ?_
  rw [e2]
  show zG C E 4 S (ce) (sl) Q 728 [some (5, b), some (2, x1), some (2, x2), some (0, i)] [(0, xs (i + 2)), (0, xs (i + 1)), (2, x2), (0, q0.1)] q0.2
  obtain ⟨g1, h⟩ := zif h
  obtain ⟨q1, f1, h⟩ := zbd h
  refine zG.callV (b := x2) (av := [(0, xs (i + 1)), (0, xs (i + 2))]) (st := [(0, q0.1)]) (ci := 12) hX (pX12_change_ok f1) sv_13_98 rfl ⟨by decide, rfl⟩ g1 (by decide +kernel) (by rw [hRm]; exact ⟨Nat.le_of_ble_eq_true rfl, Nat.le_of_ble_eq_true rfl⟩) (by rw [hRm]; exact ⟨by show ce + 0 ≤ 600000; omega, by show sl + 0 ≤ 7302249; omega⟩) (Nat.le_of_ble_eq_true rfl) ?_
  show zG C E 4 S (ce) (sl) Q 731 [some (5, b), some (2, x1), some (2, x2), some (0, i)] [(0, q1.1), (0, q0.1)] q1.2
  obtain ⟨hc, h⟩ := zif h
  cases h
  refine zG.icmp_eq (tgt := 1152) (off := 421) hX (by decide +kernel) (by decide) (fun _ => ?_) (fun c => absurd hc c)
  exact zG.widen (ce' := ce + 120) (sl' := sl + 2100) (by omega) (by omega) hk
theorem sv_13_99 : zSV 13 99 yX11_game cX11_game 5 (some .int) 4 := ⟨⟨gt_at 973 (by decide +kernel) rfl, gt_at 974 (by decide +kernel) rfl, gt_at 975 (by decide +kernel) rfl, gt_at 105 (by decide +kernel) rfl, gt_at 976 (by decide +kernel) rfl⟩, by decide +kernel, by decide +kernel, by decide +kernel⟩
theorem sv_13_102 : zSV 13 102 yX12_game cX12_game 8 (some .int) 4 := ⟨⟨gt_at 1665 (by decide +kernel) rfl, gt_at 1666 (by decide +kernel) rfl, gt_at 1667 (by decide +kernel) rfl, gt_at 117 (by decide +kernel) rfl, gt_at 1668 (by decide +kernel) rfl⟩, by decide +kernel, by decide +kernel, by decide +kernel⟩
noncomputable def lawC20 (xs : Int → Int) (S : ZS) (M : ZM) (x1 x2 i : Int) : Option (ZS × ZM) := if S.1 x1 = 11 then (pX11_game S M x1 (xs (i + 1)) (xs (i + 2)) (xs (i + 3)) (xs (i + 4))).bind fun q0 => if S.1 x2 = 12 then (pX12_game S q0.2 x2 (xs (i + 1)) (xs (i + 2)) (xs (i + 3)) (xs (i + 4))).bind fun q1 => if q0.1 = q1.1 then some (S, q1.2) else none else none else none
set_option maxHeartbeats 2000000 in
set_option maxRecDepth 20000 in
theorem lawC20_ok {C : ZC} {E : ZE} {b x1 x2 i L : Int} {xs : Int → Int} {S : ZS} {M : ZM} {ce sl : Nat} {Q : State → Prop} {q : ZS × ZM} (hX : zCx C E 13 code 4 ret false) (hRm : czR C = room_1) (hsc : zScr C E b L xs) (hi : 0 ≤ i ∧ i + 6 ≤ L) (hL : L ≤ 3072) (hce : ce + 200 ≤ 600000 ∧ sl + 2500 ≤ 7302249) (h : lawC20 xs S M x1 x2 i = some q) (hk : zG C E 4 q.1 (ce + 120) (sl + 2100) Q 1152 [some (5, b), some (2, x1), some (2, x2), some (0, i)] [] q.2) : zG C E 4 S ce sl Q 736 [some (5, b), some (2, x1), some (2, x2), some (0, i)] [] M := by
  unfold lawC20 at h
  have e1 : w32 (i + 1) = i + 1 := w32_id (by unfold in32; omega)
  have e2 : w32 (i + 2) = i + 2 := w32_id (by unfold in32; omega)
  have e3 : w32 (i + 3) = i + 3 := w32_id (by unfold in32; omega)
  have e4 : w32 (i + 4) = i + 4 := w32_id (by unfold in32; omega)
  have e5 : w32 (i + 5) = i + 5 := w32_id (by unfold in32; omega)
  refine zG.blk (pc' := 741) (l' := [some (5, b), some (2, x1), some (2, x2), some (0, i)]) (st' := [(0, w32 (i + 1)), (5, b), (2, x1)]) (M' := M) hX [(.aload_n 1, 0, 0, 0), (.aload_n 0, 0, 0, 0), (.iload_n 3, 0, 0, 0), (.iconst 1, 0, 0, 0), (.iadd, 0, 0, 0)] (by decide +kernel) rfl trivial ?_
  refine zG.sld (i := w32 (i + 1)) hX hsc (by rw [e1]; omega) (by decide +kernel) ?_
  rw [e1]
  show zG C E 4 S (ce) (sl) Q 742 [some (5, b), some (2, x1), some (2, x2), some (0, i)] [(0, xs (i + 1)), (2, x1)] M
  refine zG.blk (pc' := 746) (l' := [some (5, b), some (2, x1), some (2, x2), some (0, i)]) (st' := [(0, w32 (i + 2)), (5, b), (0, xs (i + 1)), (2, x1)]) (M' := M) hX [(.aload_n 0, 0, 0, 0), (.iload_n 3, 0, 0, 0), (.iconst 2, 0, 0, 0), (.iadd, 0, 0, 0)] (by decide +kernel) rfl trivial ?_
  refine zG.sld (i := w32 (i + 2)) hX hsc (by rw [e2]; omega) (by decide +kernel) ?_
  rw [e2]
  show zG C E 4 S (ce) (sl) Q 747 [some (5, b), some (2, x1), some (2, x2), some (0, i)] [(0, xs (i + 2)), (0, xs (i + 1)), (2, x1)] M
  refine zG.blk (pc' := 751) (l' := [some (5, b), some (2, x1), some (2, x2), some (0, i)]) (st' := [(0, w32 (i + 3)), (5, b), (0, xs (i + 2)), (0, xs (i + 1)), (2, x1)]) (M' := M) hX [(.aload_n 0, 0, 0, 0), (.iload_n 3, 0, 0, 0), (.iconst 3, 0, 0, 0), (.iadd, 0, 0, 0)] (by decide +kernel) rfl trivial ?_
  refine zG.sld (i := w32 (i + 3)) hX hsc (by rw [e3]; omega) (by decide +kernel) ?_
  rw [e3]
  show zG C E 4 S (ce) (sl) Q 752 [some (5, b), some (2, x1), some (2, x2), some (0, i)] [(0, xs (i + 3)), (0, xs (i + 2)), (0, xs (i + 1)), (2, x1)] M
  refine zG.blk (pc' := 756) (l' := [some (5, b), some (2, x1), some (2, x2), some (0, i)]) (st' := [(0, w32 (i + 4)), (5, b), (0, xs (i + 3)), (0, xs (i + 2)), (0, xs (i + 1)), (2, x1)]) (M' := M) hX [(.aload_n 0, 0, 0, 0), (.iload_n 3, 0, 0, 0), (.iconst 4, 0, 0, 0), (.iadd, 0, 0, 0)] (by decide +kernel) rfl trivial ?_
  refine zG.sld (i := w32 (i + 4)) hX hsc (by rw [e4]; omega) (by decide +kernel) ?_
  rw [e4]
  show zG C E 4 S (ce) (sl) Q 757 [some (5, b), some (2, x1), some (2, x2), some (0, i)] [(0, xs (i + 4)), (0, xs (i + 3)), (0, xs (i + 2)), (0, xs (i + 1)), (2, x1)] M
  obtain ⟨g0, h⟩ := zif h
  obtain ⟨q0, f0, h⟩ := zbd h
  refine zG.callV (b := x1) (av := [(0, xs (i + 1)), (0, xs (i + 2)), (0, xs (i + 3)), (0, xs (i + 4))]) (st := []) (ci := 11) hX (pX11_game_ok f0) sv_13_99 rfl ⟨by decide, rfl⟩ g0 (by decide +kernel) (by rw [hRm]; exact ⟨Nat.le_of_ble_eq_true rfl, Nat.le_of_ble_eq_true rfl⟩) (by rw [hRm]; exact ⟨by show ce + 0 ≤ 600000; omega, by show sl + 0 ≤ 7302249; omega⟩) (Nat.le_of_ble_eq_true rfl) ?_
  show zG C E 4 S (ce) (sl) Q 760 [some (5, b), some (2, x1), some (2, x2), some (0, i)] [(0, q0.1)] q0.2
  refine zG.blk (pc' := 765) (l' := [some (5, b), some (2, x1), some (2, x2), some (0, i)]) (st' := [(0, w32 (i + 1)), (5, b), (2, x2), (0, q0.1)]) (M' := q0.2) hX [(.aload_n 2, 0, 0, 0), (.aload_n 0, 0, 0, 0), (.iload_n 3, 0, 0, 0), (.iconst 1, 0, 0, 0), (.iadd, 0, 0, 0)] (by decide +kernel) rfl trivial ?_
  refine zG.sld (i := w32 (i + 1)) hX hsc (by rw [e1]; omega) (by decide +kernel) ?_
  rw [e1]
  show zG C E 4 S (ce) (sl) Q 766 [some (5, b), some (2, x1), some (2, x2), some (0, i)] [(0, xs (i + 1)), (2, x2), (0, q0.1)] q0.2
  refine zG.blk (pc' := 770) (l' := [some (5, b), some (2, x1), some (2, x2), some (0, i)]) (st' := [(0, w32 (i + 2)), (5, b), (0, xs (i + 1)), (2, x2), (0, q0.1)]) (M' := q0.2) hX [(.aload_n 0, 0, 0, 0), (.iload_n 3, 0, 0, 0), (.iconst 2, 0, 0, 0), (.iadd, 0, 0, 0)] (by decide +kernel) rfl trivial ?_
  refine zG.sld (i := w32 (i + 2)) hX hsc (by rw [e2]; omega) (by decide +kernel) ?_
  rw [e2]
  show zG C E 4 S (ce) (sl) Q 771 [some (5, b), some (2, x1), some (2, x2), some (0, i)] [(0, xs (i + 2)), (0, xs (i + 1)), (2, x2), (0, q0.1)] q0.2
  refine zG.blk (pc' := 775) (l' := [some (5, b), some (2, x1), some (2, x2), some (0, i)]) (st' := [(0, w32 (i + 3)), (5, b), (0, xs (i + 2)), (0, xs (i + 1)), (2, x2), (0, q0.1)]) (M' := q0.2) hX [(.aload_n 0, 0, 0, 0), (.iload_n 3, 0, 0, 0), (.iconst 3, 0, 0, 0), (.iadd, 0, 0, 0)] (by decide +kernel) rfl trivial ?_
  refine zG.sld (i := w32 (i + 3)) hX hsc (by rw [e3]; omega) (by decide +kernel) ?_
  rw [e3]
  show zG C E 4 S (ce) (sl) Q 776 [some (5, b), some (2, x1), some (2, x2), some (0, i)] [(0, xs (i + 3)), (0, xs (i + 2)), (0, xs (i + 1)), (2, x2), (0, q0.1)] q0.2
  refine zG.blk (pc' := 780) (l' := [some (5, b), some (2, x1), some (2, x2), some (0, i)]) (st' := [(0, w32 (i + 4)), (5, b), (0, xs (i + 3)), (0, xs (i + 2)), (0, xs (i + 1)), (2, x2), (0, q0.1)]) (M' := q0.2) hX [(.aload_n 0, 0, 0, 0), (.iload_n 3, 0, 0, 0), (.iconst 4, 0, 0, 0), (.iadd, 0, 0, 0)] (by decide +kernel) rfl trivial ?_
  refine zG.sld (i := w32 (i + 4)) hX hsc (by rw [e4]; omega) (by decide +kernel) ?_
  rw [e4]
  show zG C E 4 S (ce) (sl) Q 781 [some (5, b), some (2, x1), some (2, x2), some (0, i)] [(0, xs (i + 4)), (0, xs (i + 3)), (0, xs (i + 2)), (0, xs (i + 1)), (2, x2), (0, q0.1)] q0.2
  obtain ⟨g1, h⟩ := zif h
  obtain ⟨q1, f1, h⟩ := zbd h
  refine zG.callV (b := x2) (av := [(0, xs (i + 1)), (0, xs (i + 2)), (0, xs (i + 3)), (0, xs (i + 4))]) (st := [(0, q0.1)]) (ci := 12) hX (pX12_game_ok f1) sv_13_102 rfl ⟨by decide, rfl⟩ g1 (by decide +kernel) (by rw [hRm]; exact ⟨Nat.le_of_ble_eq_true rfl, Nat.le_of_ble_eq_true rfl⟩) (by rw [hRm]; exact ⟨by show ce + 0 ≤ 600000; omega, by show sl + 0 ≤ 7302249; omega⟩) (Nat.le_of_ble_eq_true rfl) ?_
  show zG C E 4 S (ce) (sl) Q 784 [some (5, b), some (2, x1), some (2, x2), some (0, i)] [(0, q1.1), (0, q0.1)] q1.2
  obtain ⟨hc, h⟩ := zif h
  cases h
  refine zG.icmp_eq (tgt := 1152) (off := 368) hX (by decide +kernel) (by decide) (fun _ => ?_) (fun c => absurd hc c)
  exact zG.widen (ce' := ce + 120) (sl' := sl + 2100) (by omega) (by omega) hk
theorem sv_13_103 : zSV 13 103 yX11_rests cX11_rests 5 (some .int) 4 := ⟨⟨gt_at 1000 (by decide +kernel) rfl, gt_at 1001 (by decide +kernel) rfl, gt_at 1002 (by decide +kernel) rfl, gt_at 105 (by decide +kernel) rfl, gt_at 1003 (by decide +kernel) rfl⟩, by decide +kernel, by decide +kernel, by decide +kernel⟩
theorem sv_13_106 : zSV 13 106 yX12_rests cX12_rests 8 (some .int) 4 := ⟨⟨gt_at 1679 (by decide +kernel) rfl, gt_at 1680 (by decide +kernel) rfl, gt_at 1681 (by decide +kernel) rfl, gt_at 117 (by decide +kernel) rfl, gt_at 1682 (by decide +kernel) rfl⟩, by decide +kernel, by decide +kernel, by decide +kernel⟩
noncomputable def lawC21 (xs : Int → Int) (S : ZS) (M : ZM) (x1 x2 i : Int) : Option (ZS × ZM) := if S.1 x1 = 11 then (pX11_rests S M x1 (xs (i + 1)) (xs (i + 2)) (xs (i + 3)) (xs (i + 4))).bind fun q0 => if S.1 x2 = 12 then (pX12_rests S q0.2 x2 (xs (i + 1)) (xs (i + 2)) (xs (i + 3)) (xs (i + 4))).bind fun q1 => if q0.1 = q1.1 then some (S, q1.2) else none else none else none
set_option maxHeartbeats 2000000 in
set_option maxRecDepth 20000 in
theorem lawC21_ok {C : ZC} {E : ZE} {b x1 x2 i L : Int} {xs : Int → Int} {S : ZS} {M : ZM} {ce sl : Nat} {Q : State → Prop} {q : ZS × ZM} (hX : zCx C E 13 code 4 ret false) (hRm : czR C = room_1) (hsc : zScr C E b L xs) (hi : 0 ≤ i ∧ i + 6 ≤ L) (hL : L ≤ 3072) (hce : ce + 200 ≤ 600000 ∧ sl + 2500 ≤ 7302249) (h : lawC21 xs S M x1 x2 i = some q) (hk : zG C E 4 q.1 (ce + 120) (sl + 2100) Q 1152 [some (5, b), some (2, x1), some (2, x2), some (0, i)] [] q.2) : zG C E 4 S ce sl Q 789 [some (5, b), some (2, x1), some (2, x2), some (0, i)] [] M := by
  unfold lawC21 at h
  have e1 : w32 (i + 1) = i + 1 := w32_id (by unfold in32; omega)
  have e2 : w32 (i + 2) = i + 2 := w32_id (by unfold in32; omega)
  have e3 : w32 (i + 3) = i + 3 := w32_id (by unfold in32; omega)
  have e4 : w32 (i + 4) = i + 4 := w32_id (by unfold in32; omega)
  have e5 : w32 (i + 5) = i + 5 := w32_id (by unfold in32; omega)
  refine zG.blk (pc' := 794) (l' := [some (5, b), some (2, x1), some (2, x2), some (0, i)]) (st' := [(0, w32 (i + 1)), (5, b), (2, x1)]) (M' := M) hX [(.aload_n 1, 0, 0, 0), (.aload_n 0, 0, 0, 0), (.iload_n 3, 0, 0, 0), (.iconst 1, 0, 0, 0), (.iadd, 0, 0, 0)] (by decide +kernel) rfl trivial ?_
  refine zG.sld (i := w32 (i + 1)) hX hsc (by rw [e1]; omega) (by decide +kernel) ?_
  rw [e1]
  show zG C E 4 S (ce) (sl) Q 795 [some (5, b), some (2, x1), some (2, x2), some (0, i)] [(0, xs (i + 1)), (2, x1)] M
  refine zG.blk (pc' := 799) (l' := [some (5, b), some (2, x1), some (2, x2), some (0, i)]) (st' := [(0, w32 (i + 2)), (5, b), (0, xs (i + 1)), (2, x1)]) (M' := M) hX [(.aload_n 0, 0, 0, 0), (.iload_n 3, 0, 0, 0), (.iconst 2, 0, 0, 0), (.iadd, 0, 0, 0)] (by decide +kernel) rfl trivial ?_
  refine zG.sld (i := w32 (i + 2)) hX hsc (by rw [e2]; omega) (by decide +kernel) ?_
  rw [e2]
  show zG C E 4 S (ce) (sl) Q 800 [some (5, b), some (2, x1), some (2, x2), some (0, i)] [(0, xs (i + 2)), (0, xs (i + 1)), (2, x1)] M
  refine zG.blk (pc' := 804) (l' := [some (5, b), some (2, x1), some (2, x2), some (0, i)]) (st' := [(0, w32 (i + 3)), (5, b), (0, xs (i + 2)), (0, xs (i + 1)), (2, x1)]) (M' := M) hX [(.aload_n 0, 0, 0, 0), (.iload_n 3, 0, 0, 0), (.iconst 3, 0, 0, 0), (.iadd, 0, 0, 0)] (by decide +kernel) rfl trivial ?_
  refine zG.sld (i := w32 (i + 3)) hX hsc (by rw [e3]; omega) (by decide +kernel) ?_
  rw [e3]
  show zG C E 4 S (ce) (sl) Q 805 [some (5, b), some (2, x1), some (2, x2), some (0, i)] [(0, xs (i + 3)), (0, xs (i + 2)), (0, xs (i + 1)), (2, x1)] M
  refine zG.blk (pc' := 809) (l' := [some (5, b), some (2, x1), some (2, x2), some (0, i)]) (st' := [(0, w32 (i + 4)), (5, b), (0, xs (i + 3)), (0, xs (i + 2)), (0, xs (i + 1)), (2, x1)]) (M' := M) hX [(.aload_n 0, 0, 0, 0), (.iload_n 3, 0, 0, 0), (.iconst 4, 0, 0, 0), (.iadd, 0, 0, 0)] (by decide +kernel) rfl trivial ?_
  refine zG.sld (i := w32 (i + 4)) hX hsc (by rw [e4]; omega) (by decide +kernel) ?_
  rw [e4]
  show zG C E 4 S (ce) (sl) Q 810 [some (5, b), some (2, x1), some (2, x2), some (0, i)] [(0, xs (i + 4)), (0, xs (i + 3)), (0, xs (i + 2)), (0, xs (i + 1)), (2, x1)] M
  obtain ⟨g0, h⟩ := zif h
  obtain ⟨q0, f0, h⟩ := zbd h
  refine zG.callV (b := x1) (av := [(0, xs (i + 1)), (0, xs (i + 2)), (0, xs (i + 3)), (0, xs (i + 4))]) (st := []) (ci := 11) hX (pX11_rests_ok f0) sv_13_103 rfl ⟨by decide, rfl⟩ g0 (by decide +kernel) (by rw [hRm]; exact ⟨Nat.le_of_ble_eq_true rfl, Nat.le_of_ble_eq_true rfl⟩) (by rw [hRm]; exact ⟨by show ce + 0 ≤ 600000; omega, by show sl + 0 ≤ 7302249; omega⟩) (Nat.le_of_ble_eq_true rfl) ?_
  show zG C E 4 S (ce) (sl) Q 813 [some (5, b), some (2, x1), some (2, x2), some (0, i)] [(0, q0.1)] q0.2
  refine zG.blk (pc' := 818) (l' := [some (5, b), some (2, x1), some (2, x2), some (0, i)]) (st' := [(0, w32 (i + 1)), (5, b), (2, x2), (0, q0.1)]) (M' := q0.2) hX [(.aload_n 2, 0, 0, 0), (.aload_n 0, 0, 0, 0), (.iload_n 3, 0, 0, 0), (.iconst 1, 0, 0, 0), (.iadd, 0, 0, 0)] (by decide +kernel) rfl trivial ?_
  refine zG.sld (i := w32 (i + 1)) hX hsc (by rw [e1]; omega) (by decide +kernel) ?_
  rw [e1]
  show zG C E 4 S (ce) (sl) Q 819 [some (5, b), some (2, x1), some (2, x2), some (0, i)] [(0, xs (i + 1)), (2, x2), (0, q0.1)] q0.2
  refine zG.blk (pc' := 823) (l' := [some (5, b), some (2, x1), some (2, x2), some (0, i)]) (st' := [(0, w32 (i + 2)), (5, b), (0, xs (i + 1)), (2, x2), (0, q0.1)]) (M' := q0.2) hX [(.aload_n 0, 0, 0, 0), (.iload_n 3, 0, 0, 0), (.iconst 2, 0, 0, 0), (.iadd, 0, 0, 0)] (by decide +kernel) rfl trivial ?_
  refine zG.sld (i := w32 (i + 2)) hX hsc (by rw [e2]; omega) (by decide +kernel) ?_
  rw [e2]
  show zG C E 4 S (ce) (sl) Q 824 [some (5, b), some (2, x1), some (2, x2), some (0, i)] [(0, xs (i + 2)), (0, xs (i + 1)), (2, x2), (0, q0.1)] q0.2
  refine zG.blk (pc' := 828) (l' := [some (5, b), some (2, x1), some (2, x2), some (0, i)]) (st' := [(0, w32 (i + 3)), (5, b), (0, xs (i + 2)), (0, xs (i + 1)), (2, x2), (0, q0.1)]) (M' := q0.2) hX [(.aload_n 0, 0, 0, 0), (.iload_n 3, 0, 0, 0), (.iconst 3, 0, 0, 0), (.iadd, 0, 0, 0)] (by decide +kernel) rfl trivial ?_
  refine zG.sld (i := w32 (i + 3)) hX hsc (by rw [e3]; omega) (by decide +kernel) ?_
  rw [e3]
  show zG C E 4 S (ce) (sl) Q 829 [some (5, b), some (2, x1), some (2, x2), some (0, i)] [(0, xs (i + 3)), (0, xs (i + 2)), (0, xs (i + 1)), (2, x2), (0, q0.1)] q0.2
  refine zG.blk (pc' := 833) (l' := [some (5, b), some (2, x1), some (2, x2), some (0, i)]) (st' := [(0, w32 (i + 4)), (5, b), (0, xs (i + 3)), (0, xs (i + 2)), (0, xs (i + 1)), (2, x2), (0, q0.1)]) (M' := q0.2) hX [(.aload_n 0, 0, 0, 0), (.iload_n 3, 0, 0, 0), (.iconst 4, 0, 0, 0), (.iadd, 0, 0, 0)] (by decide +kernel) rfl trivial ?_
  refine zG.sld (i := w32 (i + 4)) hX hsc (by rw [e4]; omega) (by decide +kernel) ?_
  rw [e4]
  show zG C E 4 S (ce) (sl) Q 834 [some (5, b), some (2, x1), some (2, x2), some (0, i)] [(0, xs (i + 4)), (0, xs (i + 3)), (0, xs (i + 2)), (0, xs (i + 1)), (2, x2), (0, q0.1)] q0.2
  obtain ⟨g1, h⟩ := zif h
  obtain ⟨q1, f1, h⟩ := zbd h
  refine zG.callV (b := x2) (av := [(0, xs (i + 1)), (0, xs (i + 2)), (0, xs (i + 3)), (0, xs (i + 4))]) (st := [(0, q0.1)]) (ci := 12) hX (pX12_rests_ok f1) sv_13_106 rfl ⟨by decide, rfl⟩ g1 (by decide +kernel) (by rw [hRm]; exact ⟨Nat.le_of_ble_eq_true rfl, Nat.le_of_ble_eq_true rfl⟩) (by rw [hRm]; exact ⟨by show ce + 0 ≤ 600000; omega, by show sl + 0 ≤ 7302249; omega⟩) (Nat.le_of_ble_eq_true rfl) ?_
  show zG C E 4 S (ce) (sl) Q 837 [some (5, b), some (2, x1), some (2, x2), some (0, i)] [(0, q1.1), (0, q0.1)] q1.2
  obtain ⟨hc, h⟩ := zif h
  cases h
  refine zG.icmp_eq (tgt := 1152) (off := 315) hX (by decide +kernel) (by decide) (fun _ => ?_) (fun c => absurd hc c)
  exact zG.widen (ce' := ce + 120) (sl' := sl + 2100) (by omega) (by omega) hk
theorem sv_13_107 : zSV 13 107 yX11_pence cX11_pence 3 (some .int) 2 := ⟨⟨gt_at 1013 (by decide +kernel) rfl, gt_at 1014 (by decide +kernel) rfl, gt_at 1015 (by decide +kernel) rfl, gt_at 105 (by decide +kernel) rfl, gt_at 1016 (by decide +kernel) rfl⟩, by decide +kernel, by decide +kernel, by decide +kernel⟩
theorem sv_13_110 : zSV 13 110 yX12_pence cX12_pence 8 (some .int) 2 := ⟨⟨gt_at 1692 (by decide +kernel) rfl, gt_at 1693 (by decide +kernel) rfl, gt_at 1694 (by decide +kernel) rfl, gt_at 117 (by decide +kernel) rfl, gt_at 1695 (by decide +kernel) rfl⟩, by decide +kernel, by decide +kernel, by decide +kernel⟩
noncomputable def lawC22 (xs : Int → Int) (S : ZS) (M : ZM) (x1 x2 i : Int) : Option (ZS × ZM) := if S.1 x1 = 11 then (pX11_pence S M x1 (xs (i + 1)) (xs (i + 2))).bind fun q0 => if S.1 x2 = 12 then (pX12_pence S q0.2 x2 (xs (i + 1)) (xs (i + 2))).bind fun q1 => if q0.1 = q1.1 then some (S, q1.2) else none else none else none
set_option maxHeartbeats 2000000 in
set_option maxRecDepth 20000 in
theorem lawC22_ok {C : ZC} {E : ZE} {b x1 x2 i L : Int} {xs : Int → Int} {S : ZS} {M : ZM} {ce sl : Nat} {Q : State → Prop} {q : ZS × ZM} (hX : zCx C E 13 code 4 ret false) (hRm : czR C = room_1) (hsc : zScr C E b L xs) (hi : 0 ≤ i ∧ i + 6 ≤ L) (hL : L ≤ 3072) (hce : ce + 200 ≤ 600000 ∧ sl + 2500 ≤ 7302249) (h : lawC22 xs S M x1 x2 i = some q) (hk : zG C E 4 q.1 (ce + 120) (sl + 2100) Q 1152 [some (5, b), some (2, x1), some (2, x2), some (0, i)] [] q.2) : zG C E 4 S ce sl Q 842 [some (5, b), some (2, x1), some (2, x2), some (0, i)] [] M := by
  unfold lawC22 at h
  have e1 : w32 (i + 1) = i + 1 := w32_id (by unfold in32; omega)
  have e2 : w32 (i + 2) = i + 2 := w32_id (by unfold in32; omega)
  have e3 : w32 (i + 3) = i + 3 := w32_id (by unfold in32; omega)
  have e4 : w32 (i + 4) = i + 4 := w32_id (by unfold in32; omega)
  have e5 : w32 (i + 5) = i + 5 := w32_id (by unfold in32; omega)
  refine zG.blk (pc' := 847) (l' := [some (5, b), some (2, x1), some (2, x2), some (0, i)]) (st' := [(0, w32 (i + 1)), (5, b), (2, x1)]) (M' := M) hX [(.aload_n 1, 0, 0, 0), (.aload_n 0, 0, 0, 0), (.iload_n 3, 0, 0, 0), (.iconst 1, 0, 0, 0), (.iadd, 0, 0, 0)] (by decide +kernel) rfl trivial ?_
  refine zG.sld (i := w32 (i + 1)) hX hsc (by rw [e1]; omega) (by decide +kernel) ?_
  rw [e1]
  show zG C E 4 S (ce) (sl) Q 848 [some (5, b), some (2, x1), some (2, x2), some (0, i)] [(0, xs (i + 1)), (2, x1)] M
  refine zG.blk (pc' := 852) (l' := [some (5, b), some (2, x1), some (2, x2), some (0, i)]) (st' := [(0, w32 (i + 2)), (5, b), (0, xs (i + 1)), (2, x1)]) (M' := M) hX [(.aload_n 0, 0, 0, 0), (.iload_n 3, 0, 0, 0), (.iconst 2, 0, 0, 0), (.iadd, 0, 0, 0)] (by decide +kernel) rfl trivial ?_
  refine zG.sld (i := w32 (i + 2)) hX hsc (by rw [e2]; omega) (by decide +kernel) ?_
  rw [e2]
  show zG C E 4 S (ce) (sl) Q 853 [some (5, b), some (2, x1), some (2, x2), some (0, i)] [(0, xs (i + 2)), (0, xs (i + 1)), (2, x1)] M
  obtain ⟨g0, h⟩ := zif h
  obtain ⟨q0, f0, h⟩ := zbd h
  refine zG.callV (b := x1) (av := [(0, xs (i + 1)), (0, xs (i + 2))]) (st := []) (ci := 11) hX (pX11_pence_ok f0) sv_13_107 rfl ⟨by decide, rfl⟩ g0 (by decide +kernel) (by rw [hRm]; exact ⟨Nat.le_of_ble_eq_true rfl, Nat.le_of_ble_eq_true rfl⟩) (by rw [hRm]; exact ⟨by show ce + 0 ≤ 600000; omega, by show sl + 0 ≤ 7302249; omega⟩) (Nat.le_of_ble_eq_true rfl) ?_
  show zG C E 4 S (ce) (sl) Q 856 [some (5, b), some (2, x1), some (2, x2), some (0, i)] [(0, q0.1)] q0.2
  refine zG.blk (pc' := 861) (l' := [some (5, b), some (2, x1), some (2, x2), some (0, i)]) (st' := [(0, w32 (i + 1)), (5, b), (2, x2), (0, q0.1)]) (M' := q0.2) hX [(.aload_n 2, 0, 0, 0), (.aload_n 0, 0, 0, 0), (.iload_n 3, 0, 0, 0), (.iconst 1, 0, 0, 0), (.iadd, 0, 0, 0)] (by decide +kernel) rfl trivial ?_
  refine zG.sld (i := w32 (i + 1)) hX hsc (by rw [e1]; omega) (by decide +kernel) ?_
  rw [e1]
  show zG C E 4 S (ce) (sl) Q 862 [some (5, b), some (2, x1), some (2, x2), some (0, i)] [(0, xs (i + 1)), (2, x2), (0, q0.1)] q0.2
  refine zG.blk (pc' := 866) (l' := [some (5, b), some (2, x1), some (2, x2), some (0, i)]) (st' := [(0, w32 (i + 2)), (5, b), (0, xs (i + 1)), (2, x2), (0, q0.1)]) (M' := q0.2) hX [(.aload_n 0, 0, 0, 0), (.iload_n 3, 0, 0, 0), (.iconst 2, 0, 0, 0), (.iadd, 0, 0, 0)] (by decide +kernel) rfl trivial ?_
  refine zG.sld (i := w32 (i + 2)) hX hsc (by rw [e2]; omega) (by decide +kernel) ?_
  rw [e2]
  show zG C E 4 S (ce) (sl) Q 867 [some (5, b), some (2, x1), some (2, x2), some (0, i)] [(0, xs (i + 2)), (0, xs (i + 1)), (2, x2), (0, q0.1)] q0.2
  obtain ⟨g1, h⟩ := zif h
  obtain ⟨q1, f1, h⟩ := zbd h
  refine zG.callV (b := x2) (av := [(0, xs (i + 1)), (0, xs (i + 2))]) (st := [(0, q0.1)]) (ci := 12) hX (pX12_pence_ok f1) sv_13_110 rfl ⟨by decide, rfl⟩ g1 (by decide +kernel) (by rw [hRm]; exact ⟨Nat.le_of_ble_eq_true rfl, Nat.le_of_ble_eq_true rfl⟩) (by rw [hRm]; exact ⟨by show ce + 0 ≤ 600000; omega, by show sl + 0 ≤ 7302249; omega⟩) (Nat.le_of_ble_eq_true rfl) ?_
  show zG C E 4 S (ce) (sl) Q 870 [some (5, b), some (2, x1), some (2, x2), some (0, i)] [(0, q1.1), (0, q0.1)] q1.2
  obtain ⟨hc, h⟩ := zif h
  cases h
  refine zG.icmp_eq (tgt := 1152) (off := 282) hX (by decide +kernel) (by decide) (fun _ => ?_) (fun c => absurd hc c)
  exact zG.widen (ce' := ce + 120) (sl' := sl + 2100) (by omega) (by omega) hk
theorem sv_13_111 : zSV 13 111 yX11_read cX11_read 3 (some .int) 2 := ⟨⟨gt_at 1023 (by decide +kernel) rfl, gt_at 1024 (by decide +kernel) rfl, gt_at 1025 (by decide +kernel) rfl, gt_at 105 (by decide +kernel) rfl, gt_at 1026 (by decide +kernel) rfl⟩, by decide +kernel, by decide +kernel, by decide +kernel⟩
theorem sv_13_114 : zSV 13 114 yX12_read cX12_read 5 (some .int) 2 := ⟨⟨gt_at 1697 (by decide +kernel) rfl, gt_at 1698 (by decide +kernel) rfl, gt_at 1699 (by decide +kernel) rfl, gt_at 117 (by decide +kernel) rfl, gt_at 1700 (by decide +kernel) rfl⟩, by decide +kernel, by decide +kernel, by decide +kernel⟩
noncomputable def lawC23 (xs : Int → Int) (S : ZS) (M : ZM) (x1 x2 i : Int) : Option (ZS × ZM) := if S.1 x1 = 11 then (pX11_read S M x1 (xs (i + 1)) (xs (i + 2))).bind fun q0 => if S.1 x2 = 12 then (pX12_read S q0.2 x2 (xs (i + 1)) (xs (i + 2))).bind fun q1 => if q0.1 = q1.1 then some (S, q1.2) else none else none else none
set_option maxHeartbeats 2000000 in
set_option maxRecDepth 20000 in
theorem lawC23_ok {C : ZC} {E : ZE} {b x1 x2 i L : Int} {xs : Int → Int} {S : ZS} {M : ZM} {ce sl : Nat} {Q : State → Prop} {q : ZS × ZM} (hX : zCx C E 13 code 4 ret false) (hRm : czR C = room_1) (hsc : zScr C E b L xs) (hi : 0 ≤ i ∧ i + 6 ≤ L) (hL : L ≤ 3072) (hce : ce + 200 ≤ 600000 ∧ sl + 2500 ≤ 7302249) (h : lawC23 xs S M x1 x2 i = some q) (hk : zG C E 4 q.1 (ce + 120) (sl + 2100) Q 1152 [some (5, b), some (2, x1), some (2, x2), some (0, i)] [] q.2) : zG C E 4 S ce sl Q 875 [some (5, b), some (2, x1), some (2, x2), some (0, i)] [] M := by
  unfold lawC23 at h
  have e1 : w32 (i + 1) = i + 1 := w32_id (by unfold in32; omega)
  have e2 : w32 (i + 2) = i + 2 := w32_id (by unfold in32; omega)
  have e3 : w32 (i + 3) = i + 3 := w32_id (by unfold in32; omega)
  have e4 : w32 (i + 4) = i + 4 := w32_id (by unfold in32; omega)
  have e5 : w32 (i + 5) = i + 5 := w32_id (by unfold in32; omega)
  refine zG.blk (pc' := 880) (l' := [some (5, b), some (2, x1), some (2, x2), some (0, i)]) (st' := [(0, w32 (i + 1)), (5, b), (2, x1)]) (M' := M) hX [(.aload_n 1, 0, 0, 0), (.aload_n 0, 0, 0, 0), (.iload_n 3, 0, 0, 0), (.iconst 1, 0, 0, 0), (.iadd, 0, 0, 0)] (by decide +kernel) rfl trivial ?_
  refine zG.sld (i := w32 (i + 1)) hX hsc (by rw [e1]; omega) (by decide +kernel) ?_
  rw [e1]
  show zG C E 4 S (ce) (sl) Q 881 [some (5, b), some (2, x1), some (2, x2), some (0, i)] [(0, xs (i + 1)), (2, x1)] M
  refine zG.blk (pc' := 885) (l' := [some (5, b), some (2, x1), some (2, x2), some (0, i)]) (st' := [(0, w32 (i + 2)), (5, b), (0, xs (i + 1)), (2, x1)]) (M' := M) hX [(.aload_n 0, 0, 0, 0), (.iload_n 3, 0, 0, 0), (.iconst 2, 0, 0, 0), (.iadd, 0, 0, 0)] (by decide +kernel) rfl trivial ?_
  refine zG.sld (i := w32 (i + 2)) hX hsc (by rw [e2]; omega) (by decide +kernel) ?_
  rw [e2]
  show zG C E 4 S (ce) (sl) Q 886 [some (5, b), some (2, x1), some (2, x2), some (0, i)] [(0, xs (i + 2)), (0, xs (i + 1)), (2, x1)] M
  obtain ⟨g0, h⟩ := zif h
  obtain ⟨q0, f0, h⟩ := zbd h
  refine zG.callV (b := x1) (av := [(0, xs (i + 1)), (0, xs (i + 2))]) (st := []) (ci := 11) hX (pX11_read_ok f0) sv_13_111 rfl ⟨by decide, rfl⟩ g0 (by decide +kernel) (by rw [hRm]; exact ⟨Nat.le_of_ble_eq_true rfl, Nat.le_of_ble_eq_true rfl⟩) (by rw [hRm]; exact ⟨by show ce + 0 ≤ 600000; omega, by show sl + 0 ≤ 7302249; omega⟩) (Nat.le_of_ble_eq_true rfl) ?_
  show zG C E 4 S (ce) (sl) Q 889 [some (5, b), some (2, x1), some (2, x2), some (0, i)] [(0, q0.1)] q0.2
  refine zG.blk (pc' := 894) (l' := [some (5, b), some (2, x1), some (2, x2), some (0, i)]) (st' := [(0, w32 (i + 1)), (5, b), (2, x2), (0, q0.1)]) (M' := q0.2) hX [(.aload_n 2, 0, 0, 0), (.aload_n 0, 0, 0, 0), (.iload_n 3, 0, 0, 0), (.iconst 1, 0, 0, 0), (.iadd, 0, 0, 0)] (by decide +kernel) rfl trivial ?_
  refine zG.sld (i := w32 (i + 1)) hX hsc (by rw [e1]; omega) (by decide +kernel) ?_
  rw [e1]
  show zG C E 4 S (ce) (sl) Q 895 [some (5, b), some (2, x1), some (2, x2), some (0, i)] [(0, xs (i + 1)), (2, x2), (0, q0.1)] q0.2
  refine zG.blk (pc' := 899) (l' := [some (5, b), some (2, x1), some (2, x2), some (0, i)]) (st' := [(0, w32 (i + 2)), (5, b), (0, xs (i + 1)), (2, x2), (0, q0.1)]) (M' := q0.2) hX [(.aload_n 0, 0, 0, 0), (.iload_n 3, 0, 0, 0), (.iconst 2, 0, 0, 0), (.iadd, 0, 0, 0)] (by decide +kernel) rfl trivial ?_
  refine zG.sld (i := w32 (i + 2)) hX hsc (by rw [e2]; omega) (by decide +kernel) ?_
  rw [e2]
  show zG C E 4 S (ce) (sl) Q 900 [some (5, b), some (2, x1), some (2, x2), some (0, i)] [(0, xs (i + 2)), (0, xs (i + 1)), (2, x2), (0, q0.1)] q0.2
  obtain ⟨g1, h⟩ := zif h
  obtain ⟨q1, f1, h⟩ := zbd h
  refine zG.callV (b := x2) (av := [(0, xs (i + 1)), (0, xs (i + 2))]) (st := [(0, q0.1)]) (ci := 12) hX (pX12_read_ok f1) sv_13_114 rfl ⟨by decide, rfl⟩ g1 (by decide +kernel) (by rw [hRm]; exact ⟨Nat.le_of_ble_eq_true rfl, Nat.le_of_ble_eq_true rfl⟩) (by rw [hRm]; exact ⟨by show ce + 0 ≤ 600000; omega, by show sl + 0 ≤ 7302249; omega⟩) (Nat.le_of_ble_eq_true rfl) ?_
  show zG C E 4 S (ce) (sl) Q 903 [some (5, b), some (2, x1), some (2, x2), some (0, i)] [(0, q1.1), (0, q0.1)] q1.2
  obtain ⟨hc, h⟩ := zif h
  cases h
  refine zG.icmp_eq (tgt := 1152) (off := 249) hX (by decide +kernel) (by decide) (fun _ => ?_) (fun c => absurd hc c)
  exact zG.widen (ce' := ce + 120) (sl' := sl + 2100) (by omega) (by omega) hk
theorem sv_13_115 : zSV 13 115 yX11_note cX11_note 5 (some .int) 3 := ⟨⟨gt_at 1048 (by decide +kernel) rfl, gt_at 1049 (by decide +kernel) rfl, gt_at 1050 (by decide +kernel) rfl, gt_at 105 (by decide +kernel) rfl, gt_at 1051 (by decide +kernel) rfl⟩, by decide +kernel, by decide +kernel, by decide +kernel⟩
theorem sv_13_118 : zSV 13 118 yX12_note cX12_note 5 (some .int) 3 := ⟨⟨gt_at 1709 (by decide +kernel) rfl, gt_at 1710 (by decide +kernel) rfl, gt_at 1711 (by decide +kernel) rfl, gt_at 117 (by decide +kernel) rfl, gt_at 1712 (by decide +kernel) rfl⟩, by decide +kernel, by decide +kernel, by decide +kernel⟩
noncomputable def lawC24 (xs : Int → Int) (S : ZS) (M : ZM) (x1 x2 i : Int) : Option (ZS × ZM) := if S.1 x1 = 11 then (pX11_note S M x1 (xs (i + 1)) (xs (i + 2)) (xs (i + 3))).bind fun q0 => if S.1 x2 = 12 then (pX12_note S q0.2 x2 (xs (i + 1)) (xs (i + 2)) (xs (i + 3))).bind fun q1 => if q0.1 = q1.1 then some (S, q1.2) else none else none else none
set_option maxHeartbeats 2000000 in
set_option maxRecDepth 20000 in
theorem lawC24_ok {C : ZC} {E : ZE} {b x1 x2 i L : Int} {xs : Int → Int} {S : ZS} {M : ZM} {ce sl : Nat} {Q : State → Prop} {q : ZS × ZM} (hX : zCx C E 13 code 4 ret false) (hRm : czR C = room_1) (hsc : zScr C E b L xs) (hi : 0 ≤ i ∧ i + 6 ≤ L) (hL : L ≤ 3072) (hce : ce + 200 ≤ 600000 ∧ sl + 2500 ≤ 7302249) (h : lawC24 xs S M x1 x2 i = some q) (hk : zG C E 4 q.1 (ce + 120) (sl + 2100) Q 1152 [some (5, b), some (2, x1), some (2, x2), some (0, i)] [] q.2) : zG C E 4 S ce sl Q 908 [some (5, b), some (2, x1), some (2, x2), some (0, i)] [] M := by
  unfold lawC24 at h
  have e1 : w32 (i + 1) = i + 1 := w32_id (by unfold in32; omega)
  have e2 : w32 (i + 2) = i + 2 := w32_id (by unfold in32; omega)
  have e3 : w32 (i + 3) = i + 3 := w32_id (by unfold in32; omega)
  have e4 : w32 (i + 4) = i + 4 := w32_id (by unfold in32; omega)
  have e5 : w32 (i + 5) = i + 5 := w32_id (by unfold in32; omega)
  refine zG.blk (pc' := 913) (l' := [some (5, b), some (2, x1), some (2, x2), some (0, i)]) (st' := [(0, w32 (i + 1)), (5, b), (2, x1)]) (M' := M) hX [(.aload_n 1, 0, 0, 0), (.aload_n 0, 0, 0, 0), (.iload_n 3, 0, 0, 0), (.iconst 1, 0, 0, 0), (.iadd, 0, 0, 0)] (by decide +kernel) rfl trivial ?_
  refine zG.sld (i := w32 (i + 1)) hX hsc (by rw [e1]; omega) (by decide +kernel) ?_
  rw [e1]
  show zG C E 4 S (ce) (sl) Q 914 [some (5, b), some (2, x1), some (2, x2), some (0, i)] [(0, xs (i + 1)), (2, x1)] M
  refine zG.blk (pc' := 918) (l' := [some (5, b), some (2, x1), some (2, x2), some (0, i)]) (st' := [(0, w32 (i + 2)), (5, b), (0, xs (i + 1)), (2, x1)]) (M' := M) hX [(.aload_n 0, 0, 0, 0), (.iload_n 3, 0, 0, 0), (.iconst 2, 0, 0, 0), (.iadd, 0, 0, 0)] (by decide +kernel) rfl trivial ?_
  refine zG.sld (i := w32 (i + 2)) hX hsc (by rw [e2]; omega) (by decide +kernel) ?_
  rw [e2]
  show zG C E 4 S (ce) (sl) Q 919 [some (5, b), some (2, x1), some (2, x2), some (0, i)] [(0, xs (i + 2)), (0, xs (i + 1)), (2, x1)] M
  refine zG.blk (pc' := 923) (l' := [some (5, b), some (2, x1), some (2, x2), some (0, i)]) (st' := [(0, w32 (i + 3)), (5, b), (0, xs (i + 2)), (0, xs (i + 1)), (2, x1)]) (M' := M) hX [(.aload_n 0, 0, 0, 0), (.iload_n 3, 0, 0, 0), (.iconst 3, 0, 0, 0), (.iadd, 0, 0, 0)] (by decide +kernel) rfl trivial ?_
  refine zG.sld (i := w32 (i + 3)) hX hsc (by rw [e3]; omega) (by decide +kernel) ?_
  rw [e3]
  show zG C E 4 S (ce) (sl) Q 924 [some (5, b), some (2, x1), some (2, x2), some (0, i)] [(0, xs (i + 3)), (0, xs (i + 2)), (0, xs (i + 1)), (2, x1)] M
  obtain ⟨g0, h⟩ := zif h
  obtain ⟨q0, f0, h⟩ := zbd h
  refine zG.callV (b := x1) (av := [(0, xs (i + 1)), (0, xs (i + 2)), (0, xs (i + 3))]) (st := []) (ci := 11) hX (pX11_note_ok f0) sv_13_115 rfl ⟨by decide, rfl⟩ g0 (by decide +kernel) (by rw [hRm]; exact ⟨Nat.le_of_ble_eq_true rfl, Nat.le_of_ble_eq_true rfl⟩) (by rw [hRm]; exact ⟨by show ce + 0 ≤ 600000; omega, by show sl + 0 ≤ 7302249; omega⟩) (Nat.le_of_ble_eq_true rfl) ?_
  show zG C E 4 S (ce) (sl) Q 927 [some (5, b), some (2, x1), some (2, x2), some (0, i)] [(0, q0.1)] q0.2
  refine zG.blk (pc' := 932) (l' := [some (5, b), some (2, x1), some (2, x2), some (0, i)]) (st' := [(0, w32 (i + 1)), (5, b), (2, x2), (0, q0.1)]) (M' := q0.2) hX [(.aload_n 2, 0, 0, 0), (.aload_n 0, 0, 0, 0), (.iload_n 3, 0, 0, 0), (.iconst 1, 0, 0, 0), (.iadd, 0, 0, 0)] (by decide +kernel) rfl trivial ?_
  refine zG.sld (i := w32 (i + 1)) hX hsc (by rw [e1]; omega) (by decide +kernel) ?_
  rw [e1]
  show zG C E 4 S (ce) (sl) Q 933 [some (5, b), some (2, x1), some (2, x2), some (0, i)] [(0, xs (i + 1)), (2, x2), (0, q0.1)] q0.2
  refine zG.blk (pc' := 937) (l' := [some (5, b), some (2, x1), some (2, x2), some (0, i)]) (st' := [(0, w32 (i + 2)), (5, b), (0, xs (i + 1)), (2, x2), (0, q0.1)]) (M' := q0.2) hX [(.aload_n 0, 0, 0, 0), (.iload_n 3, 0, 0, 0), (.iconst 2, 0, 0, 0), (.iadd, 0, 0, 0)] (by decide +kernel) rfl trivial ?_
  refine zG.sld (i := w32 (i + 2)) hX hsc (by rw [e2]; omega) (by decide +kernel) ?_
  rw [e2]
  show zG C E 4 S (ce) (sl) Q 938 [some (5, b), some (2, x1), some (2, x2), some (0, i)] [(0, xs (i + 2)), (0, xs (i + 1)), (2, x2), (0, q0.1)] q0.2
  refine zG.blk (pc' := 942) (l' := [some (5, b), some (2, x1), some (2, x2), some (0, i)]) (st' := [(0, w32 (i + 3)), (5, b), (0, xs (i + 2)), (0, xs (i + 1)), (2, x2), (0, q0.1)]) (M' := q0.2) hX [(.aload_n 0, 0, 0, 0), (.iload_n 3, 0, 0, 0), (.iconst 3, 0, 0, 0), (.iadd, 0, 0, 0)] (by decide +kernel) rfl trivial ?_
  refine zG.sld (i := w32 (i + 3)) hX hsc (by rw [e3]; omega) (by decide +kernel) ?_
  rw [e3]
  show zG C E 4 S (ce) (sl) Q 943 [some (5, b), some (2, x1), some (2, x2), some (0, i)] [(0, xs (i + 3)), (0, xs (i + 2)), (0, xs (i + 1)), (2, x2), (0, q0.1)] q0.2
  obtain ⟨g1, h⟩ := zif h
  obtain ⟨q1, f1, h⟩ := zbd h
  refine zG.callV (b := x2) (av := [(0, xs (i + 1)), (0, xs (i + 2)), (0, xs (i + 3))]) (st := [(0, q0.1)]) (ci := 12) hX (pX12_note_ok f1) sv_13_118 rfl ⟨by decide, rfl⟩ g1 (by decide +kernel) (by rw [hRm]; exact ⟨Nat.le_of_ble_eq_true rfl, Nat.le_of_ble_eq_true rfl⟩) (by rw [hRm]; exact ⟨by show ce + 0 ≤ 600000; omega, by show sl + 0 ≤ 7302249; omega⟩) (Nat.le_of_ble_eq_true rfl) ?_
  show zG C E 4 S (ce) (sl) Q 946 [some (5, b), some (2, x1), some (2, x2), some (0, i)] [(0, q1.1), (0, q0.1)] q1.2
  obtain ⟨hc, h⟩ := zif h
  cases h
  refine zG.icmp_eq (tgt := 1152) (off := 206) hX (by decide +kernel) (by decide) (fun _ => ?_) (fun c => absurd hc c)
  exact zG.widen (ce' := ce + 120) (sl' := sl + 2100) (by omega) (by omega) hk
theorem sv_13_119 : zSV 13 119 yX11_ruled cX11_ruled 2 (some .int) 1 := ⟨⟨gt_at 1056 (by decide +kernel) rfl, gt_at 1057 (by decide +kernel) rfl, gt_at 1058 (by decide +kernel) rfl, gt_at 105 (by decide +kernel) rfl, gt_at 1059 (by decide +kernel) rfl⟩, by decide +kernel, by decide +kernel, by decide +kernel⟩
theorem sv_13_122 : zSV 13 122 yX12_ruled cX12_ruled 5 (some .int) 1 := ⟨⟨gt_at 1713 (by decide +kernel) rfl, gt_at 1714 (by decide +kernel) rfl, gt_at 1715 (by decide +kernel) rfl, gt_at 117 (by decide +kernel) rfl, gt_at 1716 (by decide +kernel) rfl⟩, by decide +kernel, by decide +kernel, by decide +kernel⟩
noncomputable def lawC25 (xs : Int → Int) (S : ZS) (M : ZM) (x1 x2 i : Int) : Option (ZS × ZM) := if S.1 x1 = 11 then (pX11_ruled S M x1 (xs (i + 1))).bind fun q0 => if S.1 x2 = 12 then (pX12_ruled S q0.2 x2 (xs (i + 1))).bind fun q1 => if q0.1 = q1.1 then some (S, q1.2) else none else none else none
set_option maxHeartbeats 2000000 in
set_option maxRecDepth 20000 in
theorem lawC25_ok {C : ZC} {E : ZE} {b x1 x2 i L : Int} {xs : Int → Int} {S : ZS} {M : ZM} {ce sl : Nat} {Q : State → Prop} {q : ZS × ZM} (hX : zCx C E 13 code 4 ret false) (hRm : czR C = room_1) (hsc : zScr C E b L xs) (hi : 0 ≤ i ∧ i + 6 ≤ L) (hL : L ≤ 3072) (hce : ce + 200 ≤ 600000 ∧ sl + 2500 ≤ 7302249) (h : lawC25 xs S M x1 x2 i = some q) (hk : zG C E 4 q.1 (ce + 120) (sl + 2100) Q 1152 [some (5, b), some (2, x1), some (2, x2), some (0, i)] [] q.2) : zG C E 4 S ce sl Q 951 [some (5, b), some (2, x1), some (2, x2), some (0, i)] [] M := by
  unfold lawC25 at h
  have e1 : w32 (i + 1) = i + 1 := w32_id (by unfold in32; omega)
  have e2 : w32 (i + 2) = i + 2 := w32_id (by unfold in32; omega)
  have e3 : w32 (i + 3) = i + 3 := w32_id (by unfold in32; omega)
  have e4 : w32 (i + 4) = i + 4 := w32_id (by unfold in32; omega)
  have e5 : w32 (i + 5) = i + 5 := w32_id (by unfold in32; omega)
  refine zG.blk (pc' := 956) (l' := [some (5, b), some (2, x1), some (2, x2), some (0, i)]) (st' := [(0, w32 (i + 1)), (5, b), (2, x1)]) (M' := M) hX [(.aload_n 1, 0, 0, 0), (.aload_n 0, 0, 0, 0), (.iload_n 3, 0, 0, 0), (.iconst 1, 0, 0, 0), (.iadd, 0, 0, 0)] (by decide +kernel) rfl trivial ?_
  refine zG.sld (i := w32 (i + 1)) hX hsc (by rw [e1]; omega) (by decide +kernel) ?_
  rw [e1]
  show zG C E 4 S (ce) (sl) Q 957 [some (5, b), some (2, x1), some (2, x2), some (0, i)] [(0, xs (i + 1)), (2, x1)] M
  obtain ⟨g0, h⟩ := zif h
  obtain ⟨q0, f0, h⟩ := zbd h
  refine zG.callV (b := x1) (av := [(0, xs (i + 1))]) (st := []) (ci := 11) hX (pX11_ruled_ok f0) sv_13_119 rfl ⟨by decide, rfl⟩ g0 (by decide +kernel) (by rw [hRm]; exact ⟨Nat.le_of_ble_eq_true rfl, Nat.le_of_ble_eq_true rfl⟩) (by rw [hRm]; exact ⟨by show ce + 0 ≤ 600000; omega, by show sl + 0 ≤ 7302249; omega⟩) (Nat.le_of_ble_eq_true rfl) ?_
  show zG C E 4 S (ce) (sl) Q 960 [some (5, b), some (2, x1), some (2, x2), some (0, i)] [(0, q0.1)] q0.2
  refine zG.blk (pc' := 965) (l' := [some (5, b), some (2, x1), some (2, x2), some (0, i)]) (st' := [(0, w32 (i + 1)), (5, b), (2, x2), (0, q0.1)]) (M' := q0.2) hX [(.aload_n 2, 0, 0, 0), (.aload_n 0, 0, 0, 0), (.iload_n 3, 0, 0, 0), (.iconst 1, 0, 0, 0), (.iadd, 0, 0, 0)] (by decide +kernel) rfl trivial ?_
  refine zG.sld (i := w32 (i + 1)) hX hsc (by rw [e1]; omega) (by decide +kernel) ?_
  rw [e1]
  show zG C E 4 S (ce) (sl) Q 966 [some (5, b), some (2, x1), some (2, x2), some (0, i)] [(0, xs (i + 1)), (2, x2), (0, q0.1)] q0.2
  obtain ⟨g1, h⟩ := zif h
  obtain ⟨q1, f1, h⟩ := zbd h
  refine zG.callV (b := x2) (av := [(0, xs (i + 1))]) (st := [(0, q0.1)]) (ci := 12) hX (pX12_ruled_ok f1) sv_13_122 rfl ⟨by decide, rfl⟩ g1 (by decide +kernel) (by rw [hRm]; exact ⟨Nat.le_of_ble_eq_true rfl, Nat.le_of_ble_eq_true rfl⟩) (by rw [hRm]; exact ⟨by show ce + 0 ≤ 600000; omega, by show sl + 0 ≤ 7302249; omega⟩) (Nat.le_of_ble_eq_true rfl) ?_
  show zG C E 4 S (ce) (sl) Q 969 [some (5, b), some (2, x1), some (2, x2), some (0, i)] [(0, q1.1), (0, q0.1)] q1.2
  obtain ⟨hc, h⟩ := zif h
  cases h
  refine zG.icmp_eq (tgt := 1152) (off := 183) hX (by decide +kernel) (by decide) (fun _ => ?_) (fun c => absurd hc c)
  exact zG.widen (ce' := ce + 120) (sl' := sl + 2100) (by omega) (by omega) hk
theorem sv_13_123 : zSV 13 123 yX11_look cX11_look 3 (some .int) 2 := ⟨⟨gt_at 1074 (by decide +kernel) rfl, gt_at 1075 (by decide +kernel) rfl, gt_at 1076 (by decide +kernel) rfl, gt_at 105 (by decide +kernel) rfl, gt_at 1077 (by decide +kernel) rfl⟩, by decide +kernel, by decide +kernel, by decide +kernel⟩
theorem sv_13_126 : zSV 13 126 yX12_look cX12_look 6 (some .int) 2 := ⟨⟨gt_at 1721 (by decide +kernel) rfl, gt_at 1722 (by decide +kernel) rfl, gt_at 1723 (by decide +kernel) rfl, gt_at 117 (by decide +kernel) rfl, gt_at 1724 (by decide +kernel) rfl⟩, by decide +kernel, by decide +kernel, by decide +kernel⟩
noncomputable def lawC26 (xs : Int → Int) (S : ZS) (M : ZM) (x1 x2 i : Int) : Option (ZS × ZM) := if S.1 x1 = 11 then (pX11_look S M x1 (xs (i + 1)) (xs (i + 2))).bind fun q0 => if S.1 x2 = 12 then (pX12_look S q0.2 x2 (xs (i + 1)) (xs (i + 2))).bind fun q1 => if q0.1 = q1.1 then some (S, q1.2) else none else none else none
set_option maxHeartbeats 2000000 in
set_option maxRecDepth 20000 in
theorem lawC26_ok {C : ZC} {E : ZE} {b x1 x2 i L : Int} {xs : Int → Int} {S : ZS} {M : ZM} {ce sl : Nat} {Q : State → Prop} {q : ZS × ZM} (hX : zCx C E 13 code 4 ret false) (hRm : czR C = room_1) (hsc : zScr C E b L xs) (hi : 0 ≤ i ∧ i + 6 ≤ L) (hL : L ≤ 3072) (hce : ce + 200 ≤ 600000 ∧ sl + 2500 ≤ 7302249) (h : lawC26 xs S M x1 x2 i = some q) (hk : zG C E 4 q.1 (ce + 120) (sl + 2100) Q 1152 [some (5, b), some (2, x1), some (2, x2), some (0, i)] [] q.2) : zG C E 4 S ce sl Q 974 [some (5, b), some (2, x1), some (2, x2), some (0, i)] [] M := by
  unfold lawC26 at h
  have e1 : w32 (i + 1) = i + 1 := w32_id (by unfold in32; omega)
  have e2 : w32 (i + 2) = i + 2 := w32_id (by unfold in32; omega)
  have e3 : w32 (i + 3) = i + 3 := w32_id (by unfold in32; omega)
  have e4 : w32 (i + 4) = i + 4 := w32_id (by unfold in32; omega)
  have e5 : w32 (i + 5) = i + 5 := w32_id (by unfold in32; omega)
  refine zG.blk (pc' := 979) (l' := [some (5, b), some (2, x1), some (2, x2), some (0, i)]) (st' := [(0, w32 (i + 1)), (5, b), (2, x1)]) (M' := M) hX [(.aload_n 1, 0, 0, 0), (.aload_n 0, 0, 0, 0), (.iload_n 3, 0, 0, 0), (.iconst 1, 0, 0, 0), (.iadd, 0, 0, 0)] (by decide +kernel) rfl trivial ?_
  refine zG.sld (i := w32 (i + 1)) hX hsc (by rw [e1]; omega) (by decide +kernel) ?_
  rw [e1]
  show zG C E 4 S (ce) (sl) Q 980 [some (5, b), some (2, x1), some (2, x2), some (0, i)] [(0, xs (i + 1)), (2, x1)] M
  refine zG.blk (pc' := 984) (l' := [some (5, b), some (2, x1), some (2, x2), some (0, i)]) (st' := [(0, w32 (i + 2)), (5, b), (0, xs (i + 1)), (2, x1)]) (M' := M) hX [(.aload_n 0, 0, 0, 0), (.iload_n 3, 0, 0, 0), (.iconst 2, 0, 0, 0), (.iadd, 0, 0, 0)] (by decide +kernel) rfl trivial ?_
  refine zG.sld (i := w32 (i + 2)) hX hsc (by rw [e2]; omega) (by decide +kernel) ?_
  rw [e2]
  show zG C E 4 S (ce) (sl) Q 985 [some (5, b), some (2, x1), some (2, x2), some (0, i)] [(0, xs (i + 2)), (0, xs (i + 1)), (2, x1)] M
  obtain ⟨g0, h⟩ := zif h
  obtain ⟨q0, f0, h⟩ := zbd h
  refine zG.callV (b := x1) (av := [(0, xs (i + 1)), (0, xs (i + 2))]) (st := []) (ci := 11) hX (pX11_look_ok f0) sv_13_123 rfl ⟨by decide, rfl⟩ g0 (by decide +kernel) (by rw [hRm]; exact ⟨Nat.le_of_ble_eq_true rfl, Nat.le_of_ble_eq_true rfl⟩) (by rw [hRm]; exact ⟨by show ce + 0 ≤ 600000; omega, by show sl + 0 ≤ 7302249; omega⟩) (Nat.le_of_ble_eq_true rfl) ?_
  show zG C E 4 S (ce) (sl) Q 988 [some (5, b), some (2, x1), some (2, x2), some (0, i)] [(0, q0.1)] q0.2
  refine zG.blk (pc' := 993) (l' := [some (5, b), some (2, x1), some (2, x2), some (0, i)]) (st' := [(0, w32 (i + 1)), (5, b), (2, x2), (0, q0.1)]) (M' := q0.2) hX [(.aload_n 2, 0, 0, 0), (.aload_n 0, 0, 0, 0), (.iload_n 3, 0, 0, 0), (.iconst 1, 0, 0, 0), (.iadd, 0, 0, 0)] (by decide +kernel) rfl trivial ?_
  refine zG.sld (i := w32 (i + 1)) hX hsc (by rw [e1]; omega) (by decide +kernel) ?_
  rw [e1]
  show zG C E 4 S (ce) (sl) Q 994 [some (5, b), some (2, x1), some (2, x2), some (0, i)] [(0, xs (i + 1)), (2, x2), (0, q0.1)] q0.2
  refine zG.blk (pc' := 998) (l' := [some (5, b), some (2, x1), some (2, x2), some (0, i)]) (st' := [(0, w32 (i + 2)), (5, b), (0, xs (i + 1)), (2, x2), (0, q0.1)]) (M' := q0.2) hX [(.aload_n 0, 0, 0, 0), (.iload_n 3, 0, 0, 0), (.iconst 2, 0, 0, 0), (.iadd, 0, 0, 0)] (by decide +kernel) rfl trivial ?_
  refine zG.sld (i := w32 (i + 2)) hX hsc (by rw [e2]; omega) (by decide +kernel) ?_
  rw [e2]
  show zG C E 4 S (ce) (sl) Q 999 [some (5, b), some (2, x1), some (2, x2), some (0, i)] [(0, xs (i + 2)), (0, xs (i + 1)), (2, x2), (0, q0.1)] q0.2
  obtain ⟨g1, h⟩ := zif h
  obtain ⟨q1, f1, h⟩ := zbd h
  refine zG.callV (b := x2) (av := [(0, xs (i + 1)), (0, xs (i + 2))]) (st := [(0, q0.1)]) (ci := 12) hX (pX12_look_ok f1) sv_13_126 rfl ⟨by decide, rfl⟩ g1 (by decide +kernel) (by rw [hRm]; exact ⟨Nat.le_of_ble_eq_true rfl, Nat.le_of_ble_eq_true rfl⟩) (by rw [hRm]; exact ⟨by show ce + 0 ≤ 600000; omega, by show sl + 0 ≤ 7302249; omega⟩) (Nat.le_of_ble_eq_true rfl) ?_
  show zG C E 4 S (ce) (sl) Q 1002 [some (5, b), some (2, x1), some (2, x2), some (0, i)] [(0, q1.1), (0, q0.1)] q1.2
  obtain ⟨hc, h⟩ := zif h
  cases h
  refine zG.icmp_eq (tgt := 1152) (off := 150) hX (by decide +kernel) (by decide) (fun _ => ?_) (fun c => absurd hc c)
  exact zG.widen (ce' := ce + 120) (sl' := sl + 2100) (by omega) (by omega) hk
theorem sv_13_127 : zSV 13 127 yX11_seed cX11_seed 3 (some .int) 1 := ⟨⟨gt_at 1082 (by decide +kernel) rfl, gt_at 1083 (by decide +kernel) rfl, gt_at 1084 (by decide +kernel) rfl, gt_at 105 (by decide +kernel) rfl, gt_at 1085 (by decide +kernel) rfl⟩, by decide +kernel, by decide +kernel, by decide +kernel⟩
theorem sv_13_130 : zSV 13 130 yX12_seed cX12_seed 3 (some .int) 1 := ⟨⟨gt_at 1725 (by decide +kernel) rfl, gt_at 1726 (by decide +kernel) rfl, gt_at 1727 (by decide +kernel) rfl, gt_at 117 (by decide +kernel) rfl, gt_at 1728 (by decide +kernel) rfl⟩, by decide +kernel, by decide +kernel, by decide +kernel⟩
noncomputable def lawC27 (xs : Int → Int) (S : ZS) (M : ZM) (x1 x2 i : Int) : Option (ZS × ZM) := if S.1 x1 = 11 then (pX11_seed S M x1 (xs (i + 1))).bind fun q0 => if S.1 x2 = 12 then (pX12_seed S q0.2 x2 (xs (i + 1))).bind fun q1 => if q0.1 = q1.1 then some (S, q1.2) else none else none else none
set_option maxHeartbeats 2000000 in
set_option maxRecDepth 20000 in
theorem lawC27_ok {C : ZC} {E : ZE} {b x1 x2 i L : Int} {xs : Int → Int} {S : ZS} {M : ZM} {ce sl : Nat} {Q : State → Prop} {q : ZS × ZM} (hX : zCx C E 13 code 4 ret false) (hRm : czR C = room_1) (hsc : zScr C E b L xs) (hi : 0 ≤ i ∧ i + 6 ≤ L) (hL : L ≤ 3072) (hce : ce + 200 ≤ 600000 ∧ sl + 2500 ≤ 7302249) (h : lawC27 xs S M x1 x2 i = some q) (hk : zG C E 4 q.1 (ce + 120) (sl + 2100) Q 1152 [some (5, b), some (2, x1), some (2, x2), some (0, i)] [] q.2) : zG C E 4 S ce sl Q 1007 [some (5, b), some (2, x1), some (2, x2), some (0, i)] [] M := by
  unfold lawC27 at h
  have e1 : w32 (i + 1) = i + 1 := w32_id (by unfold in32; omega)
  have e2 : w32 (i + 2) = i + 2 := w32_id (by unfold in32; omega)
  have e3 : w32 (i + 3) = i + 3 := w32_id (by unfold in32; omega)
  have e4 : w32 (i + 4) = i + 4 := w32_id (by unfold in32; omega)
  have e5 : w32 (i + 5) = i + 5 := w32_id (by unfold in32; omega)
  refine zG.blk (pc' := 1012) (l' := [some (5, b), some (2, x1), some (2, x2), some (0, i)]) (st' := [(0, w32 (i + 1)), (5, b), (2, x1)]) (M' := M) hX [(.aload_n 1, 0, 0, 0), (.aload_n 0, 0, 0, 0), (.iload_n 3, 0, 0, 0), (.iconst 1, 0, 0, 0), (.iadd, 0, 0, 0)] (by decide +kernel) rfl trivial ?_
  refine zG.sld (i := w32 (i + 1)) hX hsc (by rw [e1]; omega) (by decide +kernel) ?_
  rw [e1]
  show zG C E 4 S (ce) (sl) Q 1013 [some (5, b), some (2, x1), some (2, x2), some (0, i)] [(0, xs (i + 1)), (2, x1)] M
  obtain ⟨g0, h⟩ := zif h
  obtain ⟨q0, f0, h⟩ := zbd h
  refine zG.callV (b := x1) (av := [(0, xs (i + 1))]) (st := []) (ci := 11) hX (pX11_seed_ok f0) sv_13_127 rfl ⟨by decide, rfl⟩ g0 (by decide +kernel) (by rw [hRm]; exact ⟨Nat.le_of_ble_eq_true rfl, Nat.le_of_ble_eq_true rfl⟩) (by rw [hRm]; exact ⟨by show ce + 0 ≤ 600000; omega, by show sl + 0 ≤ 7302249; omega⟩) (Nat.le_of_ble_eq_true rfl) ?_
  show zG C E 4 S (ce) (sl) Q 1016 [some (5, b), some (2, x1), some (2, x2), some (0, i)] [(0, q0.1)] q0.2
  refine zG.blk (pc' := 1021) (l' := [some (5, b), some (2, x1), some (2, x2), some (0, i)]) (st' := [(0, w32 (i + 1)), (5, b), (2, x2), (0, q0.1)]) (M' := q0.2) hX [(.aload_n 2, 0, 0, 0), (.aload_n 0, 0, 0, 0), (.iload_n 3, 0, 0, 0), (.iconst 1, 0, 0, 0), (.iadd, 0, 0, 0)] (by decide +kernel) rfl trivial ?_
  refine zG.sld (i := w32 (i + 1)) hX hsc (by rw [e1]; omega) (by decide +kernel) ?_
  rw [e1]
  show zG C E 4 S (ce) (sl) Q 1022 [some (5, b), some (2, x1), some (2, x2), some (0, i)] [(0, xs (i + 1)), (2, x2), (0, q0.1)] q0.2
  obtain ⟨g1, h⟩ := zif h
  obtain ⟨q1, f1, h⟩ := zbd h
  refine zG.callV (b := x2) (av := [(0, xs (i + 1))]) (st := [(0, q0.1)]) (ci := 12) hX (pX12_seed_ok f1) sv_13_130 rfl ⟨by decide, rfl⟩ g1 (by decide +kernel) (by rw [hRm]; exact ⟨Nat.le_of_ble_eq_true rfl, Nat.le_of_ble_eq_true rfl⟩) (by rw [hRm]; exact ⟨by show ce + 0 ≤ 600000; omega, by show sl + 0 ≤ 7302249; omega⟩) (Nat.le_of_ble_eq_true rfl) ?_
  show zG C E 4 S (ce) (sl) Q 1025 [some (5, b), some (2, x1), some (2, x2), some (0, i)] [(0, q1.1), (0, q0.1)] q1.2
  obtain ⟨hc, h⟩ := zif h
  cases h
  refine zG.icmp_eq (tgt := 1152) (off := 127) hX (by decide +kernel) (by decide) (fun _ => ?_) (fun c => absurd hc c)
  exact zG.widen (ce' := ce + 120) (sl' := sl + 2100) (by omega) (by omega) hk
theorem sv_13_131 : zSV 13 131 yX11_rains cX11_rains 6 (some .int) 4 := ⟨⟨gt_at 1086 (by decide +kernel) rfl, gt_at 1087 (by decide +kernel) rfl, gt_at 1088 (by decide +kernel) rfl, gt_at 105 (by decide +kernel) rfl, gt_at 1089 (by decide +kernel) rfl⟩, by decide +kernel, by decide +kernel, by decide +kernel⟩
theorem sv_13_134 : zSV 13 134 yX12_rains cX12_rains 11 (some .int) 4 := ⟨⟨gt_at 1729 (by decide +kernel) rfl, gt_at 1730 (by decide +kernel) rfl, gt_at 1731 (by decide +kernel) rfl, gt_at 117 (by decide +kernel) rfl, gt_at 1732 (by decide +kernel) rfl⟩, by decide +kernel, by decide +kernel, by decide +kernel⟩
noncomputable def lawC28 (xs : Int → Int) (S : ZS) (M : ZM) (x1 x2 i : Int) : Option (ZS × ZM) := if S.1 x1 = 11 then (pX11_rains S M x1 (xs (i + 1)) (xs (i + 2)) (xs (i + 3)) (xs (i + 4))).bind fun q0 => if S.1 x2 = 12 then (pX12_rains S q0.2 x2 (xs (i + 1)) (xs (i + 2)) (xs (i + 3)) (xs (i + 4))).bind fun q1 => if q0.1 = q1.1 then some (S, q1.2) else none else none else none
set_option maxHeartbeats 2000000 in
set_option maxRecDepth 20000 in
theorem lawC28_ok {C : ZC} {E : ZE} {b x1 x2 i L : Int} {xs : Int → Int} {S : ZS} {M : ZM} {ce sl : Nat} {Q : State → Prop} {q : ZS × ZM} (hX : zCx C E 13 code 4 ret false) (hRm : czR C = room_1) (hsc : zScr C E b L xs) (hi : 0 ≤ i ∧ i + 6 ≤ L) (hL : L ≤ 3072) (hce : ce + 200 ≤ 600000 ∧ sl + 2500 ≤ 7302249) (h : lawC28 xs S M x1 x2 i = some q) (hk : zG C E 4 q.1 (ce + 120) (sl + 2100) Q 1152 [some (5, b), some (2, x1), some (2, x2), some (0, i)] [] q.2) : zG C E 4 S ce sl Q 1030 [some (5, b), some (2, x1), some (2, x2), some (0, i)] [] M := by
  unfold lawC28 at h
  have e1 : w32 (i + 1) = i + 1 := w32_id (by unfold in32; omega)
  have e2 : w32 (i + 2) = i + 2 := w32_id (by unfold in32; omega)
  have e3 : w32 (i + 3) = i + 3 := w32_id (by unfold in32; omega)
  have e4 : w32 (i + 4) = i + 4 := w32_id (by unfold in32; omega)
  have e5 : w32 (i + 5) = i + 5 := w32_id (by unfold in32; omega)
  refine zG.blk (pc' := 1035) (l' := [some (5, b), some (2, x1), some (2, x2), some (0, i)]) (st' := [(0, w32 (i + 1)), (5, b), (2, x1)]) (M' := M) hX [(.aload_n 1, 0, 0, 0), (.aload_n 0, 0, 0, 0), (.iload_n 3, 0, 0, 0), (.iconst 1, 0, 0, 0), (.iadd, 0, 0, 0)] (by decide +kernel) rfl trivial ?_
  refine zG.sld (i := w32 (i + 1)) hX hsc (by rw [e1]; omega) (by decide +kernel) ?_
  rw [e1]
  show zG C E 4 S (ce) (sl) Q 1036 [some (5, b), some (2, x1), some (2, x2), some (0, i)] [(0, xs (i + 1)), (2, x1)] M
  refine zG.blk (pc' := 1040) (l' := [some (5, b), some (2, x1), some (2, x2), some (0, i)]) (st' := [(0, w32 (i + 2)), (5, b), (0, xs (i + 1)), (2, x1)]) (M' := M) hX [(.aload_n 0, 0, 0, 0), (.iload_n 3, 0, 0, 0), (.iconst 2, 0, 0, 0), (.iadd, 0, 0, 0)] (by decide +kernel) rfl trivial ?_
  refine zG.sld (i := w32 (i + 2)) hX hsc (by rw [e2]; omega) (by decide +kernel) ?_
  rw [e2]
  show zG C E 4 S (ce) (sl) Q 1041 [some (5, b), some (2, x1), some (2, x2), some (0, i)] [(0, xs (i + 2)), (0, xs (i + 1)), (2, x1)] M
  refine zG.blk (pc' := 1045) (l' := [some (5, b), some (2, x1), some (2, x2), some (0, i)]) (st' := [(0, w32 (i + 3)), (5, b), (0, xs (i + 2)), (0, xs (i + 1)), (2, x1)]) (M' := M) hX [(.aload_n 0, 0, 0, 0), (.iload_n 3, 0, 0, 0), (.iconst 3, 0, 0, 0), (.iadd, 0, 0, 0)] (by decide +kernel) rfl trivial ?_
  refine zG.sld (i := w32 (i + 3)) hX hsc (by rw [e3]; omega) (by decide +kernel) ?_
  rw [e3]
  show zG C E 4 S (ce) (sl) Q 1046 [some (5, b), some (2, x1), some (2, x2), some (0, i)] [(0, xs (i + 3)), (0, xs (i + 2)), (0, xs (i + 1)), (2, x1)] M
  refine zG.blk (pc' := 1050) (l' := [some (5, b), some (2, x1), some (2, x2), some (0, i)]) (st' := [(0, w32 (i + 4)), (5, b), (0, xs (i + 3)), (0, xs (i + 2)), (0, xs (i + 1)), (2, x1)]) (M' := M) hX [(.aload_n 0, 0, 0, 0), (.iload_n 3, 0, 0, 0), (.iconst 4, 0, 0, 0), (.iadd, 0, 0, 0)] (by decide +kernel) rfl trivial ?_
  refine zG.sld (i := w32 (i + 4)) hX hsc (by rw [e4]; omega) (by decide +kernel) ?_
  rw [e4]
  show zG C E 4 S (ce) (sl) Q 1051 [some (5, b), some (2, x1), some (2, x2), some (0, i)] [(0, xs (i + 4)), (0, xs (i + 3)), (0, xs (i + 2)), (0, xs (i + 1)), (2, x1)] M
  obtain ⟨g0, h⟩ := zif h
  obtain ⟨q0, f0, h⟩ := zbd h
  refine zG.callV (b := x1) (av := [(0, xs (i + 1)), (0, xs (i + 2)), (0, xs (i + 3)), (0, xs (i + 4))]) (st := []) (ci := 11) hX (pX11_rains_ok f0) sv_13_131 rfl ⟨by decide, rfl⟩ g0 (by decide +kernel) (by rw [hRm]; exact ⟨Nat.le_of_ble_eq_true rfl, Nat.le_of_ble_eq_true rfl⟩) (by rw [hRm]; exact ⟨by show ce + 0 ≤ 600000; omega, by show sl + 0 ≤ 7302249; omega⟩) (Nat.le_of_ble_eq_true rfl) ?_
  show zG C E 4 S (ce) (sl) Q 1054 [some (5, b), some (2, x1), some (2, x2), some (0, i)] [(0, q0.1)] q0.2
  refine zG.blk (pc' := 1059) (l' := [some (5, b), some (2, x1), some (2, x2), some (0, i)]) (st' := [(0, w32 (i + 1)), (5, b), (2, x2), (0, q0.1)]) (M' := q0.2) hX [(.aload_n 2, 0, 0, 0), (.aload_n 0, 0, 0, 0), (.iload_n 3, 0, 0, 0), (.iconst 1, 0, 0, 0), (.iadd, 0, 0, 0)] (by decide +kernel) rfl trivial ?_
  refine zG.sld (i := w32 (i + 1)) hX hsc (by rw [e1]; omega) (by decide +kernel) ?_
  rw [e1]
  show zG C E 4 S (ce) (sl) Q 1060 [some (5, b), some (2, x1), some (2, x2), some (0, i)] [(0, xs (i + 1)), (2, x2), (0, q0.1)] q0.2
  refine zG.blk (pc' := 1064) (l' := [some (5, b), some (2, x1), some (2, x2), some (0, i)]) (st' := [(0, w32 (i + 2)), (5, b), (0, xs (i + 1)), (2, x2), (0, q0.1)]) (M' := q0.2) hX [(.aload_n 0, 0, 0, 0), (.iload_n 3, 0, 0, 0), (.iconst 2, 0, 0, 0), (.iadd, 0, 0, 0)] (by decide +kernel) rfl trivial ?_
  refine zG.sld (i := w32 (i + 2)) hX hsc (by rw [e2]; omega) (by decide +kernel) ?_
  rw [e2]
  show zG C E 4 S (ce) (sl) Q 1065 [some (5, b), some (2, x1), some (2, x2), some (0, i)] [(0, xs (i + 2)), (0, xs (i + 1)), (2, x2), (0, q0.1)] q0.2
  refine zG.blk (pc' := 1069) (l' := [some (5, b), some (2, x1), some (2, x2), some (0, i)]) (st' := [(0, w32 (i + 3)), (5, b), (0, xs (i + 2)), (0, xs (i + 1)), (2, x2), (0, q0.1)]) (M' := q0.2) hX [(.aload_n 0, 0, 0, 0), (.iload_n 3, 0, 0, 0), (.iconst 3, 0, 0, 0), (.iadd, 0, 0, 0)] (by decide +kernel) rfl trivial ?_
  refine zG.sld (i := w32 (i + 3)) hX hsc (by rw [e3]; omega) (by decide +kernel) ?_
  rw [e3]
  show zG C E 4 S (ce) (sl) Q 1070 [some (5, b), some (2, x1), some (2, x2), some (0, i)] [(0, xs (i + 3)), (0, xs (i + 2)), (0, xs (i + 1)), (2, x2), (0, q0.1)] q0.2
  refine zG.blk (pc' := 1074) (l' := [some (5, b), some (2, x1), some (2, x2), some (0, i)]) (st' := [(0, w32 (i + 4)), (5, b), (0, xs (i + 3)), (0, xs (i + 2)), (0, xs (i + 1)), (2, x2), (0, q0.1)]) (M' := q0.2) hX [(.aload_n 0, 0, 0, 0), (.iload_n 3, 0, 0, 0), (.iconst 4, 0, 0, 0), (.iadd, 0, 0, 0)] (by decide +kernel) rfl trivial ?_
  refine zG.sld (i := w32 (i + 4)) hX hsc (by rw [e4]; omega) (by decide +kernel) ?_
  rw [e4]
  show zG C E 4 S (ce) (sl) Q 1075 [some (5, b), some (2, x1), some (2, x2), some (0, i)] [(0, xs (i + 4)), (0, xs (i + 3)), (0, xs (i + 2)), (0, xs (i + 1)), (2, x2), (0, q0.1)] q0.2
  obtain ⟨g1, h⟩ := zif h
  obtain ⟨q1, f1, h⟩ := zbd h
  refine zG.callV (b := x2) (av := [(0, xs (i + 1)), (0, xs (i + 2)), (0, xs (i + 3)), (0, xs (i + 4))]) (st := [(0, q0.1)]) (ci := 12) hX (pX12_rains_ok f1) sv_13_134 rfl ⟨by decide, rfl⟩ g1 (by decide +kernel) (by rw [hRm]; exact ⟨Nat.le_of_ble_eq_true rfl, Nat.le_of_ble_eq_true rfl⟩) (by rw [hRm]; exact ⟨by show ce + 0 ≤ 600000; omega, by show sl + 0 ≤ 7302249; omega⟩) (Nat.le_of_ble_eq_true rfl) ?_
  show zG C E 4 S (ce) (sl) Q 1078 [some (5, b), some (2, x1), some (2, x2), some (0, i)] [(0, q1.1), (0, q0.1)] q1.2
  obtain ⟨hc, h⟩ := zif h
  cases h
  refine zG.icmp_eq (tgt := 1152) (off := 74) hX (by decide +kernel) (by decide) (fun _ => ?_) (fun c => absurd hc c)
  exact zG.widen (ce' := ce + 120) (sl' := sl + 2100) (by omega) (by omega) hk
theorem sv_13_135 : zSV 13 135 yX11_count cX11_count 2 (some .int) 1 := ⟨⟨gt_at 1105 (by decide +kernel) rfl, gt_at 1106 (by decide +kernel) rfl, gt_at 1107 (by decide +kernel) rfl, gt_at 105 (by decide +kernel) rfl, gt_at 1108 (by decide +kernel) rfl⟩, by decide +kernel, by decide +kernel, by decide +kernel⟩
theorem sv_13_138 : zSV 13 138 yX12_count cX12_count 2 (some .int) 1 := ⟨⟨gt_at 1742 (by decide +kernel) rfl, gt_at 1743 (by decide +kernel) rfl, gt_at 1744 (by decide +kernel) rfl, gt_at 117 (by decide +kernel) rfl, gt_at 1745 (by decide +kernel) rfl⟩, by decide +kernel, by decide +kernel, by decide +kernel⟩
noncomputable def lawC29 (xs : Int → Int) (S : ZS) (M : ZM) (x1 x2 i : Int) : Option (ZS × ZM) := if S.1 x1 = 11 then (pX11_count S M x1 (xs (i + 1))).bind fun q0 => if S.1 x2 = 12 then (pX12_count S q0.2 x2 (xs (i + 1))).bind fun q1 => if q0.1 = q1.1 then some (S, q1.2) else none else none else none
set_option maxHeartbeats 2000000 in
set_option maxRecDepth 20000 in
theorem lawC29_ok {C : ZC} {E : ZE} {b x1 x2 i L : Int} {xs : Int → Int} {S : ZS} {M : ZM} {ce sl : Nat} {Q : State → Prop} {q : ZS × ZM} (hX : zCx C E 13 code 4 ret false) (hRm : czR C = room_1) (hsc : zScr C E b L xs) (hi : 0 ≤ i ∧ i + 6 ≤ L) (hL : L ≤ 3072) (hce : ce + 200 ≤ 600000 ∧ sl + 2500 ≤ 7302249) (h : lawC29 xs S M x1 x2 i = some q) (hk : zG C E 4 q.1 (ce + 120) (sl + 2100) Q 1152 [some (5, b), some (2, x1), some (2, x2), some (0, i)] [] q.2) : zG C E 4 S ce sl Q 1083 [some (5, b), some (2, x1), some (2, x2), some (0, i)] [] M := by
  unfold lawC29 at h
  have e1 : w32 (i + 1) = i + 1 := w32_id (by unfold in32; omega)
  have e2 : w32 (i + 2) = i + 2 := w32_id (by unfold in32; omega)
  have e3 : w32 (i + 3) = i + 3 := w32_id (by unfold in32; omega)
  have e4 : w32 (i + 4) = i + 4 := w32_id (by unfold in32; omega)
  have e5 : w32 (i + 5) = i + 5 := w32_id (by unfold in32; omega)
  refine zG.blk (pc' := 1088) (l' := [some (5, b), some (2, x1), some (2, x2), some (0, i)]) (st' := [(0, w32 (i + 1)), (5, b), (2, x1)]) (M' := M) hX [(.aload_n 1, 0, 0, 0), (.aload_n 0, 0, 0, 0), (.iload_n 3, 0, 0, 0), (.iconst 1, 0, 0, 0), (.iadd, 0, 0, 0)] (by decide +kernel) rfl trivial ?_
  refine zG.sld (i := w32 (i + 1)) hX hsc (by rw [e1]; omega) (by decide +kernel) ?_
  rw [e1]
  show zG C E 4 S (ce) (sl) Q 1089 [some (5, b), some (2, x1), some (2, x2), some (0, i)] [(0, xs (i + 1)), (2, x1)] M
  obtain ⟨g0, h⟩ := zif h
  obtain ⟨q0, f0, h⟩ := zbd h
  refine zG.callV (b := x1) (av := [(0, xs (i + 1))]) (st := []) (ci := 11) hX (pX11_count_ok f0) sv_13_135 rfl ⟨by decide, rfl⟩ g0 (by decide +kernel) (by rw [hRm]; exact ⟨Nat.le_of_ble_eq_true rfl, Nat.le_of_ble_eq_true rfl⟩) (by rw [hRm]; exact ⟨by show ce + 0 ≤ 600000; omega, by show sl + 0 ≤ 7302249; omega⟩) (Nat.le_of_ble_eq_true rfl) ?_
  show zG C E 4 S (ce) (sl) Q 1092 [some (5, b), some (2, x1), some (2, x2), some (0, i)] [(0, q0.1)] q0.2
  refine zG.blk (pc' := 1097) (l' := [some (5, b), some (2, x1), some (2, x2), some (0, i)]) (st' := [(0, w32 (i + 1)), (5, b), (2, x2), (0, q0.1)]) (M' := q0.2) hX [(.aload_n 2, 0, 0, 0), (.aload_n 0, 0, 0, 0), (.iload_n 3, 0, 0, 0), (.iconst 1, 0, 0, 0), (.iadd, 0, 0, 0)] (by decide +kernel) rfl trivial ?_
  refine zG.sld (i := w32 (i + 1)) hX hsc (by rw [e1]; omega) (by decide +kernel) ?_
  rw [e1]
  show zG C E 4 S (ce) (sl) Q 1098 [some (5, b), some (2, x1), some (2, x2), some (0, i)] [(0, xs (i + 1)), (2, x2), (0, q0.1)] q0.2
  obtain ⟨g1, h⟩ := zif h
  obtain ⟨q1, f1, h⟩ := zbd h
  refine zG.callV (b := x2) (av := [(0, xs (i + 1))]) (st := [(0, q0.1)]) (ci := 12) hX (pX12_count_ok f1) sv_13_138 rfl ⟨by decide, rfl⟩ g1 (by decide +kernel) (by rw [hRm]; exact ⟨Nat.le_of_ble_eq_true rfl, Nat.le_of_ble_eq_true rfl⟩) (by rw [hRm]; exact ⟨by show ce + 0 ≤ 600000; omega, by show sl + 0 ≤ 7302249; omega⟩) (Nat.le_of_ble_eq_true rfl) ?_
  show zG C E 4 S (ce) (sl) Q 1101 [some (5, b), some (2, x1), some (2, x2), some (0, i)] [(0, q1.1), (0, q0.1)] q1.2
  obtain ⟨hc, h⟩ := zif h
  cases h
  refine zG.icmp_eq (tgt := 1152) (off := 51) hX (by decide +kernel) (by decide) (fun _ => ?_) (fun c => absurd hc c)
  exact zG.widen (ce' := ce + 120) (sl' := sl + 2100) (by omega) (by omega) hk
theorem sv_13_139 : zSV 13 139 yX11_image cX11_image 2 (some .int) 1 := ⟨⟨gt_at 1109 (by decide +kernel) rfl, gt_at 1110 (by decide +kernel) rfl, gt_at 1111 (by decide +kernel) rfl, gt_at 105 (by decide +kernel) rfl, gt_at 1112 (by decide +kernel) rfl⟩, by decide +kernel, by decide +kernel, by decide +kernel⟩
theorem sv_13_142 : zSV 13 142 yX12_image cX12_image 2 (some .int) 1 := ⟨⟨gt_at 1746 (by decide +kernel) rfl, gt_at 1747 (by decide +kernel) rfl, gt_at 1748 (by decide +kernel) rfl, gt_at 117 (by decide +kernel) rfl, gt_at 1749 (by decide +kernel) rfl⟩, by decide +kernel, by decide +kernel, by decide +kernel⟩
noncomputable def lawC30 (xs : Int → Int) (S : ZS) (M : ZM) (x1 x2 i : Int) : Option (ZS × ZM) := if S.1 x1 = 11 then (pX11_image S M x1 (xs (i + 1))).bind fun q0 => if q0.2.1.1 x2 = 12 then (pX12_image q0.2.1 q0.2.2 x2 (xs (i + 1))).bind fun q1 => if q0.1 = q1.1 then some (q0.2.1, q1.2) else none else none else none
set_option maxHeartbeats 2000000 in
set_option maxRecDepth 20000 in
theorem lawC30_ok {C : ZC} {E : ZE} {b x1 x2 i L : Int} {xs : Int → Int} {S : ZS} {M : ZM} {ce sl : Nat} {Q : State → Prop} {q : ZS × ZM} (hX : zCx C E 13 code 4 ret false) (hRm : czR C = room_1) (hsc : zScr C E b L xs) (hi : 0 ≤ i ∧ i + 6 ≤ L) (hL : L ≤ 3072) (hce : ce + 200 ≤ 600000 ∧ sl + 2500 ≤ 7302249) (h : lawC30 xs S M x1 x2 i = some q) (hk : zG C E 4 q.1 (ce + 120) (sl + 2100) Q 1152 [some (5, b), some (2, x1), some (2, x2), some (0, i)] [] q.2) : zG C E 4 S ce sl Q 1106 [some (5, b), some (2, x1), some (2, x2), some (0, i)] [] M := by
  unfold lawC30 at h
  have e1 : w32 (i + 1) = i + 1 := w32_id (by unfold in32; omega)
  have e2 : w32 (i + 2) = i + 2 := w32_id (by unfold in32; omega)
  have e3 : w32 (i + 3) = i + 3 := w32_id (by unfold in32; omega)
  have e4 : w32 (i + 4) = i + 4 := w32_id (by unfold in32; omega)
  have e5 : w32 (i + 5) = i + 5 := w32_id (by unfold in32; omega)
  refine zG.blk (pc' := 1111) (l' := [some (5, b), some (2, x1), some (2, x2), some (0, i)]) (st' := [(0, w32 (i + 1)), (5, b), (2, x1)]) (M' := M) hX [(.aload_n 1, 0, 0, 0), (.aload_n 0, 0, 0, 0), (.iload_n 3, 0, 0, 0), (.iconst 1, 0, 0, 0), (.iadd, 0, 0, 0)] (by decide +kernel) rfl trivial ?_
  refine zG.sld (i := w32 (i + 1)) hX hsc (by rw [e1]; omega) (by decide +kernel) ?_
  rw [e1]
  show zG C E 4 S (ce) (sl) Q 1112 [some (5, b), some (2, x1), some (2, x2), some (0, i)] [(0, xs (i + 1)), (2, x1)] M
  obtain ⟨g0, h⟩ := zif h
  obtain ⟨q0, f0, h⟩ := zbd h
  refine zG.callV (b := x1) (av := [(0, xs (i + 1))]) (st := []) (ci := 11) hX (pX11_image_ok f0) sv_13_139 rfl ⟨by decide, rfl⟩ g0 (by decide +kernel) (by rw [hRm]; exact ⟨Nat.le_of_ble_eq_true rfl, Nat.le_of_ble_eq_true rfl⟩) (by rw [hRm]; exact ⟨by show ce + 116 ≤ 600000; omega, by show sl + 2009 ≤ 7302249; omega⟩) (Nat.le_of_ble_eq_true rfl) ?_
  show zG C E 4 q0.2.1 (ce + 116) (sl + 2009) Q 1115 [some (5, b), some (2, x1), some (2, x2), some (0, i)] [(0, q0.1)] q0.2.2
  refine zG.blk (pc' := 1120) (l' := [some (5, b), some (2, x1), some (2, x2), some (0, i)]) (st' := [(0, w32 (i + 1)), (5, b), (2, x2), (0, q0.1)]) (M' := q0.2.2) hX [(.aload_n 2, 0, 0, 0), (.aload_n 0, 0, 0, 0), (.iload_n 3, 0, 0, 0), (.iconst 1, 0, 0, 0), (.iadd, 0, 0, 0)] (by decide +kernel) rfl trivial ?_
  refine zG.sld (i := w32 (i + 1)) hX hsc (by rw [e1]; omega) (by decide +kernel) ?_
  rw [e1]
  show zG C E 4 q0.2.1 (ce + 116) (sl + 2009) Q 1121 [some (5, b), some (2, x1), some (2, x2), some (0, i)] [(0, xs (i + 1)), (2, x2), (0, q0.1)] q0.2.2
  obtain ⟨g1, h⟩ := zif h
  obtain ⟨q1, f1, h⟩ := zbd h
  refine zG.callV (b := x2) (av := [(0, xs (i + 1))]) (st := [(0, q0.1)]) (ci := 12) hX (pX12_image_ok f1) sv_13_142 rfl ⟨by decide, rfl⟩ g1 (by decide +kernel) (by rw [hRm]; exact ⟨Nat.le_of_ble_eq_true rfl, Nat.le_of_ble_eq_true rfl⟩) (by rw [hRm]; exact ⟨by show ce + 116 + 0 ≤ 600000; omega, by show sl + 2009 + 0 ≤ 7302249; omega⟩) (Nat.le_of_ble_eq_true rfl) ?_
  show zG C E 4 q0.2.1 (ce + 116) (sl + 2009) Q 1124 [some (5, b), some (2, x1), some (2, x2), some (0, i)] [(0, q1.1), (0, q0.1)] q1.2
  obtain ⟨hc, h⟩ := zif h
  cases h
  refine zG.icmp_eq (tgt := 1152) (off := 28) hX (by decide +kernel) (by decide) (fun _ => ?_) (fun c => absurd hc c)
  exact zG.widen (ce' := ce + 120) (sl' := sl + 2100) (by omega) (by omega) hk
theorem sv_13_143 : zSV 13 143 yX11_back cX11_back 2 (some .int) 1 := ⟨⟨gt_at 1118 (by decide +kernel) rfl, gt_at 1119 (by decide +kernel) rfl, gt_at 1120 (by decide +kernel) rfl, gt_at 105 (by decide +kernel) rfl, gt_at 1121 (by decide +kernel) rfl⟩, by decide +kernel, by decide +kernel, by decide +kernel⟩
theorem sv_13_146 : zSV 13 146 yX12_back cX12_back 2 (some .int) 1 := ⟨⟨gt_at 1750 (by decide +kernel) rfl, gt_at 1751 (by decide +kernel) rfl, gt_at 1752 (by decide +kernel) rfl, gt_at 117 (by decide +kernel) rfl, gt_at 1753 (by decide +kernel) rfl⟩, by decide +kernel, by decide +kernel, by decide +kernel⟩
noncomputable def lawC31 (xs : Int → Int) (S : ZS) (M : ZM) (x1 x2 i : Int) : Option (ZS × ZM) := if S.1 x1 = 11 then (pX11_back S M x1 (xs (i + 1))).bind fun q0 => if S.1 x2 = 12 then (pX12_back S q0.2 x2 (xs (i + 1))).bind fun q1 => if q0.1 = q1.1 then some (S, q1.2) else none else none else none
set_option maxHeartbeats 2000000 in
set_option maxRecDepth 20000 in
theorem lawC31_ok {C : ZC} {E : ZE} {b x1 x2 i L : Int} {xs : Int → Int} {S : ZS} {M : ZM} {ce sl : Nat} {Q : State → Prop} {q : ZS × ZM} (hX : zCx C E 13 code 4 ret false) (hRm : czR C = room_1) (hsc : zScr C E b L xs) (hi : 0 ≤ i ∧ i + 6 ≤ L) (hL : L ≤ 3072) (hce : ce + 200 ≤ 600000 ∧ sl + 2500 ≤ 7302249) (h : lawC31 xs S M x1 x2 i = some q) (hk : zG C E 4 q.1 (ce + 120) (sl + 2100) Q 1152 [some (5, b), some (2, x1), some (2, x2), some (0, i)] [] q.2) : zG C E 4 S ce sl Q 1129 [some (5, b), some (2, x1), some (2, x2), some (0, i)] [] M := by
  unfold lawC31 at h
  have e1 : w32 (i + 1) = i + 1 := w32_id (by unfold in32; omega)
  have e2 : w32 (i + 2) = i + 2 := w32_id (by unfold in32; omega)
  have e3 : w32 (i + 3) = i + 3 := w32_id (by unfold in32; omega)
  have e4 : w32 (i + 4) = i + 4 := w32_id (by unfold in32; omega)
  have e5 : w32 (i + 5) = i + 5 := w32_id (by unfold in32; omega)
  refine zG.blk (pc' := 1134) (l' := [some (5, b), some (2, x1), some (2, x2), some (0, i)]) (st' := [(0, w32 (i + 1)), (5, b), (2, x1)]) (M' := M) hX [(.aload_n 1, 0, 0, 0), (.aload_n 0, 0, 0, 0), (.iload_n 3, 0, 0, 0), (.iconst 1, 0, 0, 0), (.iadd, 0, 0, 0)] (by decide +kernel) rfl trivial ?_
  refine zG.sld (i := w32 (i + 1)) hX hsc (by rw [e1]; omega) (by decide +kernel) ?_
  rw [e1]
  show zG C E 4 S (ce) (sl) Q 1135 [some (5, b), some (2, x1), some (2, x2), some (0, i)] [(0, xs (i + 1)), (2, x1)] M
  obtain ⟨g0, h⟩ := zif h
  obtain ⟨q0, f0, h⟩ := zbd h
  refine zG.callV (b := x1) (av := [(0, xs (i + 1))]) (st := []) (ci := 11) hX (pX11_back_ok f0) sv_13_143 rfl ⟨by decide, rfl⟩ g0 (by decide +kernel) (by rw [hRm]; exact ⟨Nat.le_of_ble_eq_true rfl, Nat.le_of_ble_eq_true rfl⟩) (by rw [hRm]; exact ⟨by show ce + 0 ≤ 600000; omega, by show sl + 0 ≤ 7302249; omega⟩) (Nat.le_of_ble_eq_true rfl) ?_
  show zG C E 4 S (ce) (sl) Q 1138 [some (5, b), some (2, x1), some (2, x2), some (0, i)] [(0, q0.1)] q0.2
  refine zG.blk (pc' := 1143) (l' := [some (5, b), some (2, x1), some (2, x2), some (0, i)]) (st' := [(0, w32 (i + 1)), (5, b), (2, x2), (0, q0.1)]) (M' := q0.2) hX [(.aload_n 2, 0, 0, 0), (.aload_n 0, 0, 0, 0), (.iload_n 3, 0, 0, 0), (.iconst 1, 0, 0, 0), (.iadd, 0, 0, 0)] (by decide +kernel) rfl trivial ?_
  refine zG.sld (i := w32 (i + 1)) hX hsc (by rw [e1]; omega) (by decide +kernel) ?_
  rw [e1]
  show zG C E 4 S (ce) (sl) Q 1144 [some (5, b), some (2, x1), some (2, x2), some (0, i)] [(0, xs (i + 1)), (2, x2), (0, q0.1)] q0.2
  obtain ⟨g1, h⟩ := zif h
  obtain ⟨q1, f1, h⟩ := zbd h
  refine zG.callV (b := x2) (av := [(0, xs (i + 1))]) (st := [(0, q0.1)]) (ci := 12) hX (pX12_back_ok f1) sv_13_146 rfl ⟨by decide, rfl⟩ g1 (by decide +kernel) (by rw [hRm]; exact ⟨Nat.le_of_ble_eq_true rfl, Nat.le_of_ble_eq_true rfl⟩) (by rw [hRm]; exact ⟨by show ce + 0 ≤ 600000; omega, by show sl + 0 ≤ 7302249; omega⟩) (Nat.le_of_ble_eq_true rfl) ?_
  show zG C E 4 S (ce) (sl) Q 1147 [some (5, b), some (2, x1), some (2, x2), some (0, i)] [(0, q1.1), (0, q0.1)] q1.2
  obtain ⟨hc, h⟩ := zif h
  cases h
  refine zG.icmp_eq (tgt := 1152) (off := 5) hX (by decide +kernel) (by decide) (fun _ => ?_) (fun c => absurd hc c)
  exact zG.widen (ce' := ce + 120) (sl' := sl + 2100) (by omega) (by omega) hk
noncomputable def lawT (xs : Int → Int) (S : ZS) (M : ZM) (x1 x2 i : Int) : Option (ZS × ZM) :=
  if zand (xs i) 31 = 0 then lawC0 xs S M x1 x2 i else if zand (xs i) 31 = 1 then lawC1 xs S M x1 x2 i else if zand (xs i) 31 = 2 then lawC2 xs S M x1 x2 i else if zand (xs i) 31 = 3 then lawC3 xs S M x1 x2 i else if zand (xs i) 31 = 4 then lawC4 xs S M x1 x2 i else if zand (xs i) 31 = 5 then lawC5 xs S M x1 x2 i else if zand (xs i) 31 = 6 then lawC6 xs S M x1 x2 i else if zand (xs i) 31 = 7 then lawC7 xs S M x1 x2 i else if zand (xs i) 31 = 8 then lawC8 xs S M x1 x2 i else if zand (xs i) 31 = 9 then lawC9 xs S M x1 x2 i else if zand (xs i) 31 = 10 then lawC10 xs S M x1 x2 i else if zand (xs i) 31 = 11 then lawC11 xs S M x1 x2 i else if zand (xs i) 31 = 12 then lawC12 xs S M x1 x2 i else if zand (xs i) 31 = 13 then lawC13 xs S M x1 x2 i else if zand (xs i) 31 = 14 then lawC14 xs S M x1 x2 i else if zand (xs i) 31 = 15 then lawC15 xs S M x1 x2 i else if zand (xs i) 31 = 16 then lawC16 xs S M x1 x2 i else if zand (xs i) 31 = 17 then lawC17 xs S M x1 x2 i else if zand (xs i) 31 = 18 then lawC18 xs S M x1 x2 i else if zand (xs i) 31 = 19 then lawC19 xs S M x1 x2 i else if zand (xs i) 31 = 20 then lawC20 xs S M x1 x2 i else if zand (xs i) 31 = 21 then lawC21 xs S M x1 x2 i else if zand (xs i) 31 = 22 then lawC22 xs S M x1 x2 i else if zand (xs i) 31 = 23 then lawC23 xs S M x1 x2 i else if zand (xs i) 31 = 24 then lawC24 xs S M x1 x2 i else if zand (xs i) 31 = 25 then lawC25 xs S M x1 x2 i else if zand (xs i) 31 = 26 then lawC26 xs S M x1 x2 i else if zand (xs i) 31 = 27 then lawC27 xs S M x1 x2 i else if zand (xs i) 31 = 28 then lawC28 xs S M x1 x2 i else if zand (xs i) 31 = 29 then lawC29 xs S M x1 x2 i else if zand (xs i) 31 = 30 then lawC30 xs S M x1 x2 i else if zand (xs i) 31 = 31 then lawC31 xs S M x1 x2 i else none
set_option maxHeartbeats 2000000 in
set_option maxRecDepth 20000 in
theorem lawT_ok {C : ZC} {E : ZE} {b x1 x2 i L : Int} {xs : Int → Int} {S : ZS} {M : ZM} {ce sl : Nat} {Q : State → Prop} {q : ZS × ZM} (hX : zCx C E 13 code 4 ret false) (hRm : czR C = room_1) (hsc : zScr C E b L xs) (hi : 0 ≤ i ∧ i + 6 ≤ L) (hL : L ≤ 3072) (hce : ce + 200 ≤ 600000 ∧ sl + 2500 ≤ 7302249) (h : lawT xs S M x1 x2 i = some q) (hk : zG C E 4 q.1 (ce + 120) (sl + 2100) Q 1152 [some (5, b), some (2, x1), some (2, x2), some (0, i)] [] q.2) : zG C E 4 S ce sl Q 27 [some (5, b), some (2, x1), some (2, x2), some (0, i)] [] M := by
  unfold lawT at h
  refine zG.blk (pc' := 29) (l' := [some (5, b), some (2, x1), some (2, x2), some (0, i)]) (st' := [(0, i), (5, b)]) (M' := M) hX [(.aload_n 0, 0, 0, 0), (.iload_n 3, 0, 0, 0)] (by decide +kernel) rfl trivial ?_
  refine zG.sld (i := i) hX hsc (by omega) (by decide +kernel) ?_
  refine zG.blk (pc' := 33) (l' := [some (5, b), some (2, x1), some (2, x2), some (0, i)]) (st' := [(0, zand (xs i) 31)]) (M' := M) hX [(.bipush 31, 0, 0, 0), (.iand, 0, 0, 0)] (by decide +kernel) rfl trivial ?_
  have hsw : decode code 33 = .ok (.tableswitch 1119 0 31 #[143, 206, 229, 242, 255, 278, 311, 344, 357, 380, 413, 446, 469, 482, 525, 538, 551, 584, 617, 670, 703, 756, 809, 842, 875, 918, 941, 974, 997, 1050, 1073, 1096], 143) := by decide +kernel
  by_cases c0 : zand (xs i) 31 = 0
  · have h := zip c0 h
    exact zG.tabIn (tgt := 176) hX hsw 0 c0 (by decide) rfl (by decide) (lawC0_ok hX hRm hsc hi hL hce h hk)
  have h := zin c0 h
  by_cases c1 : zand (xs i) 31 = 1
  · have h := zip c1 h
    exact zG.tabIn (tgt := 239) hX hsw 1 c1 (by decide) rfl (by decide) (lawC1_ok hX hRm hsc hi hL hce h hk)
  have h := zin c1 h
  by_cases c2 : zand (xs i) 31 = 2
  · have h := zip c2 h
    exact zG.tabIn (tgt := 262) hX hsw 2 c2 (by decide) rfl (by decide) (lawC2_ok hX hRm hsc hi hL hce h hk)
  have h := zin c2 h
  by_cases c3 : zand (xs i) 31 = 3
  · have h := zip c3 h
    exact zG.tabIn (tgt := 275) hX hsw 3 c3 (by decide) rfl (by decide) (lawC3_ok hX hRm hsc hi hL hce h hk)
  have h := zin c3 h
  by_cases c4 : zand (xs i) 31 = 4
  · have h := zip c4 h
    exact zG.tabIn (tgt := 288) hX hsw 4 c4 (by decide) rfl (by decide) (lawC4_ok hX hRm hsc hi hL hce h hk)
  have h := zin c4 h
  by_cases c5 : zand (xs i) 31 = 5
  · have h := zip c5 h
    exact zG.tabIn (tgt := 311) hX hsw 5 c5 (by decide) rfl (by decide) (lawC5_ok hX hRm hsc hi hL hce h hk)
  have h := zin c5 h
  by_cases c6 : zand (xs i) 31 = 6
  · have h := zip c6 h
    exact zG.tabIn (tgt := 344) hX hsw 6 c6 (by decide) rfl (by decide) (lawC6_ok hX hRm hsc hi hL hce h hk)
  have h := zin c6 h
  by_cases c7 : zand (xs i) 31 = 7
  · have h := zip c7 h
    exact zG.tabIn (tgt := 377) hX hsw 7 c7 (by decide) rfl (by decide) (lawC7_ok hX hRm hsc hi hL hce h hk)
  have h := zin c7 h
  by_cases c8 : zand (xs i) 31 = 8
  · have h := zip c8 h
    exact zG.tabIn (tgt := 390) hX hsw 8 c8 (by decide) rfl (by decide) (lawC8_ok hX hRm hsc hi hL hce h hk)
  have h := zin c8 h
  by_cases c9 : zand (xs i) 31 = 9
  · have h := zip c9 h
    exact zG.tabIn (tgt := 413) hX hsw 9 c9 (by decide) rfl (by decide) (lawC9_ok hX hRm hsc hi hL hce h hk)
  have h := zin c9 h
  by_cases c10 : zand (xs i) 31 = 10
  · have h := zip c10 h
    exact zG.tabIn (tgt := 446) hX hsw 10 c10 (by decide) rfl (by decide) (lawC10_ok hX hRm hsc hi hL hce h hk)
  have h := zin c10 h
  by_cases c11 : zand (xs i) 31 = 11
  · have h := zip c11 h
    exact zG.tabIn (tgt := 479) hX hsw 11 c11 (by decide) rfl (by decide) (lawC11_ok hX hRm hsc hi hL hce h hk)
  have h := zin c11 h
  by_cases c12 : zand (xs i) 31 = 12
  · have h := zip c12 h
    exact zG.tabIn (tgt := 502) hX hsw 12 c12 (by decide) rfl (by decide) (lawC12_ok hX hRm hsc hi hL hce h hk)
  have h := zin c12 h
  by_cases c13 : zand (xs i) 31 = 13
  · have h := zip c13 h
    exact zG.tabIn (tgt := 515) hX hsw 13 c13 (by decide) rfl (by decide) (lawC13_ok hX hRm hsc hi hL hce h hk)
  have h := zin c13 h
  by_cases c14 : zand (xs i) 31 = 14
  · have h := zip c14 h
    exact zG.tabIn (tgt := 558) hX hsw 14 c14 (by decide) rfl (by decide) (lawC14_ok hX hRm hsc hi hL hce h hk)
  have h := zin c14 h
  by_cases c15 : zand (xs i) 31 = 15
  · have h := zip c15 h
    exact zG.tabIn (tgt := 571) hX hsw 15 c15 (by decide) rfl (by decide) (lawC15_ok hX hRm hsc hi hL hce h hk)
  have h := zin c15 h
  by_cases c16 : zand (xs i) 31 = 16
  · have h := zip c16 h
    exact zG.tabIn (tgt := 584) hX hsw 16 c16 (by decide) rfl (by decide) (lawC16_ok hX hRm hsc hi hL hce h hk)
  have h := zin c16 h
  by_cases c17 : zand (xs i) 31 = 17
  · have h := zip c17 h
    exact zG.tabIn (tgt := 617) hX hsw 17 c17 (by decide) rfl (by decide) (lawC17_ok hX hRm hsc hi hL hce h hk)
  have h := zin c17 h
  by_cases c18 : zand (xs i) 31 = 18
  · have h := zip c18 h
    exact zG.tabIn (tgt := 650) hX hsw 18 c18 (by decide) rfl (by decide) (lawC18_ok hX hRm hsc hi hL hce h hk)
  have h := zin c18 h
  by_cases c19 : zand (xs i) 31 = 19
  · have h := zip c19 h
    exact zG.tabIn (tgt := 703) hX hsw 19 c19 (by decide) rfl (by decide) (lawC19_ok hX hRm hsc hi hL hce h hk)
  have h := zin c19 h
  by_cases c20 : zand (xs i) 31 = 20
  · have h := zip c20 h
    exact zG.tabIn (tgt := 736) hX hsw 20 c20 (by decide) rfl (by decide) (lawC20_ok hX hRm hsc hi hL hce h hk)
  have h := zin c20 h
  by_cases c21 : zand (xs i) 31 = 21
  · have h := zip c21 h
    exact zG.tabIn (tgt := 789) hX hsw 21 c21 (by decide) rfl (by decide) (lawC21_ok hX hRm hsc hi hL hce h hk)
  have h := zin c21 h
  by_cases c22 : zand (xs i) 31 = 22
  · have h := zip c22 h
    exact zG.tabIn (tgt := 842) hX hsw 22 c22 (by decide) rfl (by decide) (lawC22_ok hX hRm hsc hi hL hce h hk)
  have h := zin c22 h
  by_cases c23 : zand (xs i) 31 = 23
  · have h := zip c23 h
    exact zG.tabIn (tgt := 875) hX hsw 23 c23 (by decide) rfl (by decide) (lawC23_ok hX hRm hsc hi hL hce h hk)
  have h := zin c23 h
  by_cases c24 : zand (xs i) 31 = 24
  · have h := zip c24 h
    exact zG.tabIn (tgt := 908) hX hsw 24 c24 (by decide) rfl (by decide) (lawC24_ok hX hRm hsc hi hL hce h hk)
  have h := zin c24 h
  by_cases c25 : zand (xs i) 31 = 25
  · have h := zip c25 h
    exact zG.tabIn (tgt := 951) hX hsw 25 c25 (by decide) rfl (by decide) (lawC25_ok hX hRm hsc hi hL hce h hk)
  have h := zin c25 h
  by_cases c26 : zand (xs i) 31 = 26
  · have h := zip c26 h
    exact zG.tabIn (tgt := 974) hX hsw 26 c26 (by decide) rfl (by decide) (lawC26_ok hX hRm hsc hi hL hce h hk)
  have h := zin c26 h
  by_cases c27 : zand (xs i) 31 = 27
  · have h := zip c27 h
    exact zG.tabIn (tgt := 1007) hX hsw 27 c27 (by decide) rfl (by decide) (lawC27_ok hX hRm hsc hi hL hce h hk)
  have h := zin c27 h
  by_cases c28 : zand (xs i) 31 = 28
  · have h := zip c28 h
    exact zG.tabIn (tgt := 1030) hX hsw 28 c28 (by decide) rfl (by decide) (lawC28_ok hX hRm hsc hi hL hce h hk)
  have h := zin c28 h
  by_cases c29 : zand (xs i) 31 = 29
  · have h := zip c29 h
    exact zG.tabIn (tgt := 1083) hX hsw 29 c29 (by decide) rfl (by decide) (lawC29_ok hX hRm hsc hi hL hce h hk)
  have h := zin c29 h
  by_cases c30 : zand (xs i) 31 = 30
  · have h := zip c30 h
    exact zG.tabIn (tgt := 1106) hX hsw 30 c30 (by decide) rfl (by decide) (lawC30_ok hX hRm hsc hi hL hce h hk)
  have h := zin c30 h
  by_cases c31 : zand (xs i) 31 = 31
  · have h := zip c31 h
    exact zG.tabIn (tgt := 1129) hX hsw 31 c31 (by decide) rfl (by decide) (lawC31_ok hX hRm hsc hi hL hce h hk)
  have h := zin c31 h
  cases h
