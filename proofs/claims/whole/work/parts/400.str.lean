/-! STRING CONSTANTS: length and charAt -/
def zSl (i : Int) : Int := ((zSln.getD i.toNat 0 : Nat) : Int)
def zSb8 (i k : Int) : Int := ((zSbs.getD i.toNat []).getD k.toNat 0).toInt
def zSc (i k : Int) : Int := zand (zSb8 i k) 255
theorem zSl_b : ∀ i, i < 20 → zSln.getD i 0 ≤ 100 := by decide +kernel
theorem zSl_in {i : Int} (h : 0 ≤ i ∧ i < 20) : 0 ≤ zSl i ∧ zSl i ≤ 100 := by
  have := zSl_b i.toNat (by omega)
  unfold zSl; omega
theorem zSc_b : ∀ i, i < 20 → ∀ k, k < 100 → 0 ≤ zand ((zSbs.getD i []).getD k 0).toInt 255 ∧ zand ((zSbs.getD i []).getD k 0).toInt 255 ≤ 255 := by decide +kernel
theorem zSc_in {i k : Int} (h : 0 ≤ i ∧ i < 20) (hk : 0 ≤ k ∧ k < zSl i) : 0 ≤ zSc i k ∧ zSc i k ≤ 255 := by
  have h1 := zSl_in h
  exact zSc_b i.toNat (by omega) k.toNat (by omega)
theorem zShr0 : ∀ n, n < 101 → zshr ((n : Nat) : Int) 0 = n := by decide +kernel
section
variable {C : ZC} {E : ZE} {o : Nat} {cc : ByteArray} {nL : Nat} {ret : Option FieldType} {ini : Bool} {S : ZS} {ce sl : Nat} {Q : State → Prop} {pc : Nat} {l : ZL} {st : List ZV} {M : ZM} {idx : Nat}
variable {y : MethodName} {cy : ByteArray} {nY : Nat} {ry : Option FieldType} {fr lo mc ms n : Nat} {av : List ZV} {r : Option ZV} {S' : ZS} {M' : ZM} {b : Int}
theorem zG.ldcS (hX : zCx C E o cc nL ret ini) {i : Nat} {own tx : String} (hq : zStrs[i]? = some (own, idx, tx)) (ho : zOwn o = own) (hd : decode cc pc = .ok (.ldc idx, 2)) (k : zG C E nL S ce sl Q (pc + 2) l ((3, (i : Int)) :: st) M) : zG C E nL S ce sl Q pc l st M := by
  intro hO hl hs H locs ls hR hS hL
  obtain ⟨hx, hb, hml, hown, hts, hEn, -⟩ := hX
  have hz := hEn.2.2.2.1.2.1 i _ hq
  rw [ho] at hown
  refine va_ldcS hx hb hown hz hd ?_
  exact k hO hl (hs.cons (zVo_s (Nat.le_refl 3) _)) H locs ls hR hS hL
theorem zG.xret {ty : FieldType} (hX : zCx C E o cc nL (some ty) ini) (hd : decode cc pc = .ok (.ireturn, 1)) {x : Int} (hn : narrow ty (.int (Int32.ofInt x)) = .int (Int32.ofInt x)) : zG C E nL S ce sl (zQ C E ce sl (some (0, x)) S M) pc l [(0, x)] M := by
  intro hO hl hs H locs ls hR hS hL
  obtain ⟨hx, hb, hml, hown, hts, hEn, hret, hlk, hini⟩ := hX
  exact W.zret hx hb hret hn (fun t ht hW => ⟨rfl, by rw [ht]; exact hR, hS.F ht, hO, fun v hv => by cases hv; exact hs.head⟩) hS.2.2 hd hlk
theorem zG.callVs (hX : zCx C E o cc nL ret ini) (hM : zMet (czl C) y cy nY ry fr lo mc ms E S M ((3, b) :: av) r S' M') (hT : zSV o idx y cy nY ry n) (hn : av.length = n) (hy : y.cls = "java/lang/String") (hb : 0 ≤ b ∧ b < 20) (hd : decode cc pc = .ok (.invokevirtual idx, 3)) (hR1 : fr + 1 ≤ (czR C).frames ∧ 8 + (nY + 11) + lo ≤ (czR C).locals) (hR2 : ce + mc ≤ (czR C).cells ∧ sl + ms ≤ (czR C).slots) (hW : (st.map fun v => if v.1 = 1 then 2 else 1).sum ≤ 8)
    (k : zG C E nL S' (ce + mc) (sl + ms) Q (pc + 3) l (r.toList ++ st) M') : zG C E nL S ce sl Q pc l (av.reverse ++ (3, b) :: st) M := by
  intro hO hl hs H locs ls hR hS hL
  obtain ⟨hs1, hs2⟩ := zVt.app hs
  have hM' := hM hO (fun v hv => (List.mem_cons.mp hv).elim (fun e => e ▸ hs2.head) (fun h => hs1 v (by simpa using h)))
  obtain ⟨⟨t1, t2, t3, t4, t8⟩, t5, t6, t7⟩ := hT
  obtain ⟨hx, hbc, hml, hown, hts, hEn, hret, hlk, hini⟩ := id hX
  have cb : CallB (czR C) (czs C) (cza C) (zOwn o) idx y cy nY ry (.code y cy nY ry :: gt) { frames := fr, cells := mc, slots := ms, locals := lo } mc ms n := callB_of n hts (zCwG t8) rfl rfl rfl (hts _ t4) (hts _ t1) ⟨t5, t6, t7⟩ hR1
  have hrc := vk_recv (i := b.toNat) hEn.2.2.2.1.1 (by omega) hS
  rw [← hy] at hrc
  have hpre := zPre (av := (3, b) :: av) hX hR hS (.ref (E.2.2.2.1 b.toNat) :: av.map (zV E)) rfl
  rw [zAvM, List.map_cons]
  exact zRun (va_runV (g := F0 (czm C) pc ls ((av.map (zV E)).reverse ++ .ref (E.2.2.2.1 b.toNat) :: st.map (zV E))) ⟨hx, hbc, hml, hown, hts⟩ hM' ⟨cb, hts _ t2, hts _ t3⟩ ⟨hpre.1, hrc, hpre.2⟩ rfl (by rw [List.length_map]; exact hn) hL.2.1 rfl (by rw [zCat]; show 2 * 0 + _ ≤ 8; omega) hd hR2) hS k hl hs2.tail hL
theorem zG.sval (hX : zCx C E 17 cc nL ret ini) (hb : 0 ≤ b ∧ b < 20) (hd : decode cc pc = .ok (.getfield 9, 3)) (k : zG C E nL S ce sl Q (pc + 3) l ((4, b) :: st) M) : zG C E nL S ce sl Q pc l ((3, b) :: st) M := by
  intro hO hl hs H locs ls hR hS hL
  obtain ⟨hx, hbc, hml, hown, hts, hEn, -⟩ := hX
  refine vk_getf hx hbc (hEn.2.2.2.1.1.1 b.toNat (by omega)).2.2.1 hS hown (hts (.fieldLink (zOwn 17) 9 "java/lang/String" "value" "[B") (gt_at 1754 (by decide +kernel) rfl)) (fun _ h => h) hd ?_
  exact k hO hl (hs.tail.cons (zVo_s (by decide) _)) H locs ls hR hS hL
theorem zG.scod (hX : zCx C E 17 cc nL ret ini) (hb : 0 ≤ b ∧ b < 20) (hd : decode cc pc = .ok (.getfield 15, 3)) (k : zG C E nL S ce sl Q (pc + 3) l ((0, 0) :: st) M) : zG C E nL S ce sl Q pc l ((3, b) :: st) M := by
  intro hO hl hs H locs ls hR hS hL
  obtain ⟨hx, hbc, hml, hown, hts, hEn, -⟩ := hX
  refine vk_getf hx hbc (hEn.2.2.2.1.1.1 b.toNat (by omega)).2.1 hS hown (hts (.fieldLink (zOwn 17) 15 "java/lang/String" "coder" "B") (gt_at 1755 (by decide +kernel) rfl)) (fun _ h => h) hd ?_
  exact k hO hl (hs.tail.cons (zVo_i in32_0)) H locs ls hR hS hL
theorem zG.sblen (hX : zCx C E o cc nL ret ini) (hb : 0 ≤ b ∧ b < 20) (hd : decode cc pc = .ok (.arraylength, 1)) (k : zG C E nL S ce sl Q (pc + 1) l ((0, zSl b) :: st) M) : zG C E nL S ce sl Q pc l ((4, b) :: st) M := by
  intro hO hl hs H locs ls hR hS hL
  obtain ⟨hx, hbc, hml, hown, hts, hEn, -⟩ := hX
  have hl2 := zSl_in hb
  have key := k hO hl (hs.tail.cons (zVo_i (x := zSl b) (by unfold in32; omega))) H locs ls hR hS hL
  have e : Int32.ofInt (zSl b) = Int32.ofNat (zSln.getD b.toNat 0) := by unfold zSl; rw [Int32.ofInt_eq_ofNat]
  exact va_tlen hx hbc (hEn.2.2.2.1.1.1 b.toNat (by omega)).2.2.2 hS e.symm hd key
theorem zG.sbyte (hX : zCx C E o cc nL ret ini) (hb : 0 ≤ b ∧ b < 20) {i : Int} (hi : 0 ≤ i ∧ i < zSl b) (hd : decode cc pc = .ok (.baload, 1)) (k : zG C E nL S ce sl Q (pc + 1) l ((0, zSb8 b i) :: st) M) : zG C E nL S ce sl Q pc l ((0, i) :: (4, b) :: st) M := by
  intro hO hl hs H locs ls hR hS hL
  obtain ⟨hx, hbc, hml, hown, hts, hEn, -⟩ := hX
  have hii := hs.head.i
  have key := k hO hl (hs.tail.tail.cons (zVo_i (x := zSb8 b i) (i32_in _))) H locs ls hR hS hL
  have hcl := i32_clamp hii
  have hv : vp_in (Int32.ofInt i) (zSln.getD b.toNat 0) := by
    have := i32_vin (n := zSl b) hii hi.1 hi.2
    unfold zSl at this
    simpa using this
  have e : Value.int ((zSbs.getD b.toNat []).getD (Int32.ofInt i).toNatClampNeg 0) = zV E (0, zSb8 b i) := by
    show _ = Value.int (Int32.ofInt (zSb8 b i))
    unfold zSb8
    rw [Int32.ofInt_toInt, hcl]
  exact va_tb hx hbc (hEn.2.2.2.1.1.1 b.toNat (by omega)).2.2.2 hS hv e hd key
theorem zG.i2c (hX : zCx C E o cc nL ret ini) (hd : decode cc pc = .ok (.i2c, 1)) {x : Int} (hx2 : 0 ≤ x ∧ x ≤ 255) (k : zG C E nL S ce sl Q (pc + 1) l ((0, x) :: st) M) : zG C E nL S ce sl Q pc l ((0, x) :: st) M := by
  intro hO hl hs H locs ls hR hS hL
  obtain ⟨hx, hbc, hml, hown, hts, hEn, -⟩ := hX
  refine lv_i2c hx hbc hd (v := Int32.ofInt x) ?_ (k hO hl hs H locs ls hR hS hL)
  have : ∀ n : Nat, n < 256 → ((Int32.ofInt ((n : Nat) : Int)).toUInt32 % 65536).toInt32 = Int32.ofInt ((n : Nat) : Int) := by decide +kernel
  have h2 := this x.toNat (by omega)
  rw [show ((x.toNat : Nat) : Int) = x by omega] at h2
  exact h2
theorem zG.gets1 (hX : zCx C E 17 cc nL ret ini) (hd : decode cc pc = .ok (.getstatic 38, 3)) (k : zG C E nL S ce sl Q (pc + 3) l ((0, 1) :: st) M) : zG C E nL S ce sl Q pc l st M := by
  intro hO hl hs H locs ls hR hS hL
  obtain ⟨hx, hbc, hml, hown, hts, hEn, -⟩ := hX
  refine va_gets hx hbc hEn.2.2.2.1.2.2.1 hS hown (hts (.fieldLink (zOwn 17) 38 "java/lang/String" "COMPACT_STRINGS" "Z") (gt_at 554 (by decide +kernel) rfl)) (fun _ h => h) hd ?_
  exact k hO hl (hs.cons (zVo_i (x := 1) (by unfold in32; omega))) H locs ls hR hS hL
theorem zG.gets2 (hX : zCx C E 17 cc nL ret ini) (hd : decode cc pc = .ok (.getstatic 1053, 3)) (k : ∀ x : Int, zG C E nL S ce sl Q (pc + 3) l ((5, x) :: st) M) : zG C E nL S ce sl Q pc l st M := by
  intro hO hl hs H locs ls hR hS hL
  obtain ⟨hx, hbc, hml, hown, hts, hEn, -⟩ := hX
  rcases hEn.2.2.2.1.2.2.2 with hz | ⟨t, hz⟩
  · refine va_gets hx hbc hz hS hown (hts (.fieldLink (zOwn 17) 1053 "jdk/internal/util/Preconditions" "SIOOBE_FORMATTER" "Ljava/util/function/BiFunction;") (gt_at 570 (by decide +kernel) rfl)) (fun _ h => h) hd ?_
    exact k (-1) hO hl (hs.cons (zVo_s (by decide) _)) H locs ls hR hS hL
  · refine va_gets hx hbc hz hS hown (hts (.fieldLink (zOwn 17) 1053 "jdk/internal/util/Preconditions" "SIOOBE_FORMATTER" "Ljava/util/function/BiFunction;") (gt_at 570 (by decide +kernel) rfl)) (fun _ h => h) hd ?_
    have key := k (t : Int) hO hl (hs.cons (zVo_s (by decide) _)) H locs ls hR hS hL
    have e : zV E (5, (t : Int)) = .ref t := by
      show va_rf (if (t : Int) < 0 then none else some (t : Int).toNat) = _
      rw [if_neg (by omega)]; rfl
    rw [List.map_cons, e] at key
    exact key
end
theorem ss_17_1059 : zSS 17 1059 yJ3_checkIndex_8e157 cJ3_checkIndex_8e157 3 (some .int) 3 := ⟨⟨gt_at 572 (by decide +kernel) rfl, gt_at 573 (by decide +kernel) rfl, gt_at 120 (by decide +kernel) rfl, gt_at 574 (by decide +kernel) rfl⟩, by decide +kernel, by decide +kernel, by decide +kernel⟩
theorem ss_18_9 : zSS 18 9 yJ0_checkIndex_df160 cJ0_checkIndex_df160 2 none 2 := ⟨⟨gt_at 567 (by decide +kernel) rfl, gt_at 568 (by decide +kernel) rfl, gt_at 118 (by decide +kernel) rfl, gt_at 569 (by decide +kernel) rfl⟩, by decide +kernel, by decide +kernel, by decide +kernel⟩
theorem ss_17_495 : zSS 17 495 yJ1_charAt_3b067 cJ1_charAt_3b067 2 (some .char) 2 := ⟨⟨gt_at 564 (by decide +kernel) rfl, gt_at 565 (by decide +kernel) rfl, gt_at 119 (by decide +kernel) rfl, gt_at 566 (by decide +kernel) rfl⟩, by decide +kernel, by decide +kernel, by decide +kernel⟩
theorem sv_17_335 : zSV 17 335 yJ0_coder_7d493 cJ0_coder_7d493 1 (some .byte) 0 := ⟨⟨gt_at 550 (by decide +kernel) rfl, gt_at 551 (by decide +kernel) rfl, gt_at 552 (by decide +kernel) rfl, gt_at 118 (by decide +kernel) rfl, gt_at 553 (by decide +kernel) rfl⟩, by decide +kernel, by decide +kernel, by decide +kernel⟩
theorem sv_17_492 : zSV 17 492 yJ0_isLatin1_aae02 cJ0_isLatin1_aae02 1 (some .boolean) 0 := ⟨⟨gt_at 560 (by decide +kernel) rfl, gt_at 561 (by decide +kernel) rfl, gt_at 562 (by decide +kernel) rfl, gt_at 118 (by decide +kernel) rfl, gt_at 563 (by decide +kernel) rfl⟩, by decide +kernel, by decide +kernel, by decide +kernel⟩
theorem zm_chk {l : Launch} {E : ZE} {S : ZS} {M : ZM} {a b x : Int} (h : 0 ≤ a ∧ a < b) : zMet l yJ3_checkIndex_8e157 cJ3_checkIndex_8e157 3 (some .int) 1 40 0 0 E S M [(0, a), (0, b), (5, x)] (some (0, a)) S M :=
  zMet.of (o := 19) (ini := false) (by decide +kernel) rfl (fun h => by cases h) (Nat.le_of_ble_eq_true rfl) (fun C hX hl hRm => by
    refine zG.blk (pc' := 1) (l' := [some (0, a), some (0, b), some (5, x)]) (st' := [(0, a)]) (M' := M) hX [(.iload_n 0, 0, 0, 0)] (by decide +kernel) rfl trivial ?_
    refine zG.if_lt (tgt := 9) (off := 8) hX (by decide +kernel) (by decide) (fun c => absurd c (by omega)) (fun _ => ?_)
    refine zG.blk (pc' := 6) (l' := [some (0, a), some (0, b), some (5, x)]) (st' := [(0, b), (0, a)]) (M' := M) hX [(.iload_n 0, 0, 0, 0), (.iload_n 1, 0, 0, 0)] (by decide +kernel) rfl trivial ?_
    refine zG.icmp_lt (tgt := 16) (off := 10) hX (by decide +kernel) (by decide) (fun _ => ?_) (fun c => absurd h.2 c)
    refine zG.blk (pc' := 17) (l' := [some (0, a), some (0, b), some (5, x)]) (st' := [(0, a)]) (M' := M) hX [(.iload_n 0, 0, 0, 0)] (by decide +kernel) rfl trivial ?_
    exact zG.iret hX (by decide +kernel))
theorem zm_chk2 {l : Launch} {E : ZE} {S : ZS} {M : ZM} {a b : Int} (h : 0 ≤ a ∧ a < b) : zMet l yJ0_checkIndex_df160 cJ0_checkIndex_df160 2 none 2 70 0 0 E S M [(0, a), (0, b)] none S M :=
  zMet.of (o := 17) (ini := false) (by decide +kernel) rfl (fun h => by cases h) (Nat.le_of_ble_eq_true rfl) (fun C hX hl hRm => by
    subst hl
    refine zG.blk (pc' := 2) (l' := [some (0, a), some (0, b)]) (st' := [(0, b), (0, a)]) (M' := M) hX [(.iload_n 0, 0, 0, 0), (.iload_n 1, 0, 0, 0)] (by decide +kernel) rfl trivial ?_
    refine zG.gets2 hX (by decide +kernel) (fun x => ?_)
    refine zG.callS (av := [(0, a), (0, b), (5, x)]) (st := []) hX (zm_chk h) ss_17_1059 rfl (by decide +kernel) (by rw [hRm]; exact ⟨Nat.le_of_ble_eq_true rfl, Nat.le_of_ble_eq_true rfl⟩) (by rw [hRm]; exact ⟨Nat.le_of_ble_eq_true rfl, Nat.le_of_ble_eq_true rfl⟩) (Nat.le_of_ble_eq_true rfl) ?_
    show zG C E 2 S 0 0 _ 8 [some (0, a), some (0, b)] [(0, a)] M
    refine zG.blk (pc' := 9) (l' := [some (0, a), some (0, b)]) (st' := []) (M' := M) hX [(.pop, 0, 0, 0)] (by decide +kernel) rfl trivial ?_
    exact zG.vret hX (by decide +kernel))
theorem zNarC {x : Int} (h : 0 ≤ x ∧ x ≤ 255) : narrow .char (.int (Int32.ofInt x)) = .int (Int32.ofInt x) := by
  have : ∀ n : Nat, n < 256 → (Int32.ofInt ((n : Nat) : Int)).toUInt32.toUInt16.toUInt32.toInt32 = Int32.ofInt ((n : Nat) : Int) := by decide +kernel
  have h2 := this x.toNat (by omega)
  rw [show ((x.toNat : Nat) : Int) = x by omega] at h2
  show Value.int _ = _
  rw [h2]
theorem zm_l1 {l : Launch} {E : ZE} {S : ZS} {M : ZM} {i k : Int} (hi : 0 ≤ i ∧ i < 20) (hk : 0 ≤ k ∧ k < zSl i) : zMet l yJ1_charAt_3b067 cJ1_charAt_3b067 2 (some .char) 3 100 0 0 E S M [(4, i), (0, k)] (some (0, zSc i k)) S M :=
  zMet.of (o := 18) (ini := false) (by decide +kernel) rfl (fun h => by cases h) (Nat.le_of_ble_eq_true rfl) (fun C hX hl hRm => by
    subst hl
    refine zG.blk (pc' := 2) (l' := [some (4, i), some (0, k)]) (st' := [(4, i), (0, k)]) (M' := M) hX [(.iload_n 1, 0, 0, 0), (.aload_n 0, 0, 0, 0)] (by decide +kernel) rfl trivial ?_
    refine zG.sblen hX hi (by decide +kernel) ?_
    refine zG.callS (av := [(0, k), (0, zSl i)]) (st := []) hX (zm_chk2 hk) ss_18_9 rfl (by decide +kernel) (by rw [hRm]; exact ⟨Nat.le_of_ble_eq_true rfl, Nat.le_of_ble_eq_true rfl⟩) (by rw [hRm]; exact ⟨Nat.le_of_ble_eq_true rfl, Nat.le_of_ble_eq_true rfl⟩) (Nat.le_of_ble_eq_true rfl) ?_
    show zG C E 2 S 0 0 _ 6 [some (4, i), some (0, k)] [] M
    refine zG.blk (pc' := 8) (l' := [some (4, i), some (0, k)]) (st' := [(0, k), (4, i)]) (M' := M) hX [(.aload_n 0, 0, 0, 0), (.iload_n 1, 0, 0, 0)] (by decide +kernel) rfl trivial ?_
    refine zG.sbyte hX hi hk (by decide +kernel) ?_
    refine zG.blk (pc' := 13) (l' := [some (4, i), some (0, k)]) (st' := [(0, zSc i k)]) (M' := M) hX [(.sipush 255, 0, 0, 0), (.iand, 0, 0, 0)] (by decide +kernel) rfl trivial ?_
    refine zG.i2c hX (by decide +kernel) (zSc_in hi hk) ?_
    exact zG.xret hX (by decide +kernel) (zNarC (zSc_in hi hk)))
theorem zm_cod {l : Launch} {E : ZE} {S : ZS} {M : ZM} {i : Int} (hi : 0 ≤ i ∧ i < 20) : zMet l yJ0_coder_7d493 cJ0_coder_7d493 1 (some .byte) 1 40 0 0 E S M [(3, i)] (some (0, 0)) S M :=
  zMet.of (o := 17) (ini := false) (by decide +kernel) rfl (fun h => by cases h) (Nat.le_of_ble_eq_true rfl) (fun C hX hl hRm => by
    refine zG.gets1 hX (by decide +kernel) ?_
    refine zG.if_eq (tgt := 13) (off := 10) hX (by decide +kernel) (by decide) (fun c => absurd c (by decide)) (fun _ => ?_)
    refine zG.blk (pc' := 7) (l' := [some (3, i)]) (st' := [(3, i)]) (M' := M) hX [(.aload_n 0, 0, 0, 0)] (by decide +kernel) rfl trivial ?_
    refine zG.scod hX hi (by decide +kernel) ?_
    refine zG.goto (tgt := 14) (off := 4) hX (by decide +kernel) (by decide) ?_
    exact zG.xret hX (by decide +kernel) rfl)
theorem zm_lat {l : Launch} {E : ZE} {S : ZS} {M : ZM} {i : Int} (hi : 0 ≤ i ∧ i < 20) : zMet l yJ0_isLatin1_aae02 cJ0_isLatin1_aae02 1 (some .boolean) 1 40 0 0 E S M [(3, i)] (some (0, 1)) S M :=
  zMet.of (o := 17) (ini := false) (by decide +kernel) rfl (fun h => by cases h) (Nat.le_of_ble_eq_true rfl) (fun C hX hl hRm => by
    refine zG.gets1 hX (by decide +kernel) ?_
    refine zG.if_eq (tgt := 17) (off := 14) hX (by decide +kernel) (by decide) (fun c => absurd c (by decide)) (fun _ => ?_)
    refine zG.blk (pc' := 7) (l' := [some (3, i)]) (st' := [(3, i)]) (M' := M) hX [(.aload_n 0, 0, 0, 0)] (by decide +kernel) rfl trivial ?_
    refine zG.scod hX hi (by decide +kernel) ?_
    refine zG.if_ne (tgt := 17) (off := 7) hX (by decide +kernel) (by decide) (fun c => absurd rfl c) (fun _ => ?_)
    refine zG.blk (pc' := 14) (l' := [some (3, i)]) (st' := [(0, 1)]) (M' := M) hX [(.iconst 1, 0, 0, 0)] (by decide +kernel) rfl trivial ?_
    refine zG.goto (tgt := 18) (off := 4) hX (by decide +kernel) (by decide) ?_
    exact zG.zret hX (by decide +kernel) (Or.inr rfl))
theorem zm_len {l : Launch} {E : ZE} {S : ZS} {M : ZM} {i : Int} (hi : 0 ≤ i ∧ i < 20) : zMet l yJ0_length_8abf5 cJ0_length_8abf5 1 (some .int) 2 70 0 0 E S M [(3, i)] (some (0, zSl i)) S M :=
  zMet.of (o := 17) (ini := false) (by decide +kernel) rfl (fun h => by cases h) (Nat.le_of_ble_eq_true rfl) (fun C hX hl hRm => by
    subst hl
    refine zG.blk (pc' := 1) (l' := [some (3, i)]) (st' := [(3, i)]) (M' := M) hX [(.aload_n 0, 0, 0, 0)] (by decide +kernel) rfl trivial ?_
    refine zG.sval hX hi (by decide +kernel) ?_
    refine zG.sblen hX hi (by decide +kernel) ?_
    refine zG.blk (pc' := 6) (l' := [some (3, i)]) (st' := [(3, i), (0, zSl i)]) (M' := M) hX [(.aload_n 0, 0, 0, 0)] (by decide +kernel) rfl trivial ?_
    refine zG.callVs (b := i) (av := []) (st := [(0, zSl i)]) hX (zm_cod hi) sv_17_335 rfl rfl hi (by decide +kernel) (by rw [hRm]; exact ⟨Nat.le_of_ble_eq_true rfl, Nat.le_of_ble_eq_true rfl⟩) (by rw [hRm]; exact ⟨Nat.le_of_ble_eq_true rfl, Nat.le_of_ble_eq_true rfl⟩) (Nat.le_of_ble_eq_true rfl) ?_
    show zG C E 1 S 0 0 _ 9 [some (3, i)] [(0, 0), (0, zSl i)] M
    refine zG.blk (pc' := 10) (l' := [some (3, i)]) (st' := [(0, zshr (zSl i) 0)]) (M' := M) hX [(.ishr, 0, 0, 0)] (by decide +kernel) rfl trivial ?_
    have e : zshr (zSl i) 0 = zSl i := by
      have h1 := zSl_b i.toNat (by omega)
      exact zShr0 (zSln.getD i.toNat 0) (by omega)
    rw [e]
    exact zG.iret hX (by decide +kernel))
theorem zm_char {l : Launch} {E : ZE} {S : ZS} {M : ZM} {i k : Int} (hi : 0 ≤ i ∧ i < 20) (hk : 0 ≤ k ∧ k < zSl i) : zMet l yJ0_charAt_5068e cJ0_charAt_5068e 2 (some .char) 4 150 0 0 E S M [(3, i), (0, k)] (some (0, zSc i k)) S M :=
  zMet.of (o := 17) (ini := false) (by decide +kernel) rfl (fun h => by cases h) (Nat.le_of_ble_eq_true rfl) (fun C hX hl hRm => by
    subst hl
    refine zG.blk (pc' := 1) (l' := [some (3, i), some (0, k)]) (st' := [(3, i)]) (M' := M) hX [(.aload_n 0, 0, 0, 0)] (by decide +kernel) rfl trivial ?_
    refine zG.callVs (b := i) (av := []) (st := []) hX (zm_lat hi) sv_17_492 rfl rfl hi (by decide +kernel) (by rw [hRm]; exact ⟨Nat.le_of_ble_eq_true rfl, Nat.le_of_ble_eq_true rfl⟩) (by rw [hRm]; exact ⟨Nat.le_of_ble_eq_true rfl, Nat.le_of_ble_eq_true rfl⟩) (Nat.le_of_ble_eq_true rfl) ?_
    show zG C E 2 S 0 0 _ 4 [some (3, i), some (0, k)] [(0, 1)] M
    refine zG.if_eq (tgt := 16) (off := 12) hX (by decide +kernel) (by decide) (fun c => absurd c (by decide)) (fun _ => ?_)
    refine zG.blk (pc' := 8) (l' := [some (3, i), some (0, k)]) (st' := [(3, i)]) (M' := M) hX [(.aload_n 0, 0, 0, 0)] (by decide +kernel) rfl trivial ?_
    refine zG.sval hX hi (by decide +kernel) ?_
    refine zG.blk (pc' := 12) (l' := [some (3, i), some (0, k)]) (st' := [(0, k), (4, i)]) (M' := M) hX [(.iload_n 1, 0, 0, 0)] (by decide +kernel) rfl trivial ?_
    refine zG.callS (av := [(4, i), (0, k)]) (st := []) hX (zm_l1 hi hk) ss_17_495 rfl (by decide +kernel) (by rw [hRm]; exact ⟨Nat.le_of_ble_eq_true rfl, Nat.le_of_ble_eq_true rfl⟩) (by rw [hRm]; exact ⟨Nat.le_of_ble_eq_true rfl, Nat.le_of_ble_eq_true rfl⟩) (Nat.le_of_ble_eq_true rfl) ?_
    show zG C E 2 S 0 0 _ 15 [some (3, i), some (0, k)] [(0, zSc i k)] M
    exact zG.xret hX (by decide +kernel) (zNarC (zSc_in hi hk)))
section
variable {C : ZC} {E : ZE} {o : Nat} {cc : ByteArray} {nL : Nat} {ret : Option FieldType} {ini : Bool} {S : ZS} {ce sl : Nat} {Q : State → Prop} {pc : Nat} {l : ZL} {st : List ZV} {M : ZM} {idx : Nat}
theorem zG.slen (hX : zCx C E o cc nL ret ini) (hT : zSV o idx yJ0_length_8abf5 cJ0_length_8abf5 1 (some .int) 0) {i : Int} (hi : 0 ≤ i ∧ i < 20) (hd : decode cc pc = .ok (.invokevirtual idx, 3)) (hR1 : 3 ≤ (czR C).frames ∧ 90 ≤ (czR C).locals) (hR2 : ce + 0 ≤ (czR C).cells ∧ sl + 0 ≤ (czR C).slots) (hW : (st.map fun v => if v.1 = 1 then 2 else 1).sum ≤ 8)
    (k : zG C E nL S ce sl Q (pc + 3) l ((0, zSl i) :: st) M) : zG C E nL S ce sl Q pc l ((3, i) :: st) M :=
  zG.callVs (av := []) hX (zm_len hi) hT rfl rfl hi hd hR1 hR2 hW k
theorem zG.schar (hX : zCx C E o cc nL ret ini) (hT : zSV o idx yJ0_charAt_5068e cJ0_charAt_5068e 2 (some .char) 1) {i j : Int} (hi : (0 ≤ i ∧ i < 20) ∧ 0 ≤ j ∧ j < zSl i) (hd : decode cc pc = .ok (.invokevirtual idx, 3)) (hR1 : 5 ≤ (czR C).frames ∧ 171 ≤ (czR C).locals) (hR2 : ce + 0 ≤ (czR C).cells ∧ sl + 0 ≤ (czR C).slots) (hW : (st.map fun v => if v.1 = 1 then 2 else 1).sum ≤ 8)
    (k : zG C E nL S ce sl Q (pc + 3) l ((0, zSc i j) :: st) M) : zG C E nL S ce sl Q pc l ((0, j) :: (3, i) :: st) M :=
  zG.callVs (av := [(0, j)]) hX (zm_char hi.1 hi.2) hT rfl rfl hi.1 hd hR1 hR2 hW k
end
section
variable {C : ZC} {E : ZE} {o : Nat} {cc : ByteArray} {nL : Nat} {ret : Option FieldType} {ini : Bool} {S : ZS} {ce sl : Nat} {Q : State → Prop} {pc : Nat} {l : ZL} {st : List ZV} {M : ZM} {idx : Nat}
theorem zG.ldcW (hX : zCx C E o cc nL ret ini) {i : Nat} {own tx : String} (hq : zStrs[i]? = some (own, idx, tx)) (ho : zOwn o = own) (hd : decode cc pc = .ok (.ldc_w idx, 3)) (k : zG C E nL S ce sl Q (pc + 3) l ((3, (i : Int)) :: st) M) : zG C E nL S ce sl Q pc l st M := by
  intro hO hl hs H locs ls hR hS hL
  obtain ⟨hx, hb, hml, hown, hts, hEn, -⟩ := hX
  have hz := hEn.2.2.2.1.2.1 i _ hq
  rw [ho] at hown
  intro T hT X
  obtain ⟨t, a1, b1⟩ := k hO hl (hs.cons (zVo_s (Nat.le_refl 3) _)) H locs ls hR hS hL T hT X
  exact ⟨t, X.ldcStringW hx hown (text := tx) (a := E.2.2.2.1 i) hz.1 hz.2 (g := F0 (czm C) pc ls (st.map (zV E))) rfl (by rw [hb]; exact hd) t a1, b1⟩
end
