/-! EACH INSTRUCTION OF THE PURE MACHINE IS THE MACHINE'S -/
section
variable {C : ZC} {E : ZE} {o : Nat} {cc : ByteArray} {nL : Nat} {ret : Option FieldType} {ini : Bool} {S : ZS} {ce sl : Nat} {Q : State → Prop} {pc : Nat} {l : ZL} {st : List ZV} {M : ZM}
theorem zs_const {i : Instr} {n : Nat} {v : ZV} (hv : zVo v) (row : ∀ (H : Heap) (locs : List Loc) (ls : Array Slot) (r : List Value), zW C H locs ce sl Q (F0 (czm C) (pc + n) ls (zV E v :: r)) → zW C H locs ce sl Q (F0 (czm C) pc ls r)) (k : zG C E nL S ce sl Q (pc + n) l (v :: st) M) : zG C E nL S ce sl Q pc l st M :=
  fun hO hl hs H locs ls hR hS hL => row H locs ls _ (k hO hl (hs.cons hv) H locs ls hR hS hL)
theorem zs_load {i n : Nat} {v : ZV} (hz : zld l i = some v) (row : ∀ (H : Heap) (locs : List Loc) (ls : Array Slot) (r : List Value), ls[i]? = some (.val (zV E v)) → zW C H locs ce sl Q (F0 (czm C) (pc + n) ls (zV E v :: r)) → zW C H locs ce sl Q (F0 (czm C) pc ls r)) (k : zG C E nL S ce sl Q (pc + n) l (v :: st) M) : zG C E nL S ce sl Q pc l st M :=
  fun hO hl hs H locs ls hR hS hL => row H locs ls _ (hL.2.2.2 i v (zld_some.mp hz)) (k hO hl (hs.cons (hl i v (zld_some.mp hz))) H locs ls hR hS hL)
theorem zs_store {i n : Nat} {v : ZV} (row : ∀ (H : Heap) (locs : List Loc) (ls : Array Slot) (r : List Value), lv_has ls nL (zAs E l) → i < nL → (∀ ls' : Array Slot, lv_has ls' nL ((i, zV E v) :: (zAs E l).filter (fun q => !(q.1 == i) && !(q.1 + 1 == i && q.2.category == 2))) → zW C H locs ce sl Q (F0 (czm C) (pc + n) ls' r)) → zW C H locs ce sl Q (F0 (czm C) pc ls (zV E v :: r)))
    (hi : i < l.length) (k : zG C E nL S ce sl Q (pc + n) (zst1 l i v) st M) : zG C E nL S ce sl Q pc l (v :: st) M :=
  fun hO hl hs H locs ls hR hS hL => row H locs ls _ hL.has (by rw [← hL.1]; exact hi) (fun ls' h' => k hO (hl.st1 hs.head) hs.tail H locs ls' hR hS (zLs.st1 hL.1 h'))
theorem zs_bin {t u n : Nat} {x y z : Int} (row : in64 x → in64 y → (t = 0 → in32 x ∧ in32 y) → ∀ (H : Heap) (locs : List Loc) (ls : Array Slot) (r : List Value), zW C H locs ce sl Q (F0 (czm C) (pc + n) ls (zV E (u, z) :: r)) → zW C H locs ce sl Q (F0 (czm C) pc ls (zV E (t, y) :: zV E (t, x) :: r)))
    (ht : t = 0 ∨ t = 1) (hz : zVo (t, x) → zVo (t, y) → zVo (u, z)) (k : zG C E nL S ce sl Q (pc + n) l ((u, z) :: st) M) : zG C E nL S ce sl Q pc l ((t, y) :: (t, x) :: st) M := by
  intro hO hl hs H locs ls hR hS hL
  have h1 := hs.head
  have h2 := hs.tail.head
  refine row ?_ ?_ ?_ H locs ls _ (k hO hl (hs.tail.tail.cons (hz h2 h1)) H locs ls hR hS hL)
  · rcases ht with rfl | rfl
    · exact in32_64 h2.i
    · exact h2.l
  · rcases ht with rfl | rfl
    · exact in32_64 h1.i
    · exact h1.l
  · rintro rfl
    exact ⟨h2.i, h1.i⟩
theorem zs_un {t u n : Nat} {x z : Int} (row : zVo (t, x) → ∀ (H : Heap) (locs : List Loc) (ls : Array Slot) (r : List Value), zW C H locs ce sl Q (F0 (czm C) (pc + n) ls (zV E (u, z) :: r)) → zW C H locs ce sl Q (F0 (czm C) pc ls (zV E (t, x) :: r)))
    (hz : zVo (t, x) → zVo (u, z)) (k : zG C E nL S ce sl Q (pc + n) l ((u, z) :: st) M) : zG C E nL S ce sl Q pc l ((t, x) :: st) M :=
  fun hO hl hs H locs ls hR hS hL => row hs.head H locs ls _ (k hO hl (hs.tail.cons (hz hs.head)) H locs ls hR hS hL)
theorem zv_ref {E : ZE} {a : Int} (h : 1 ≤ a) : zV E (2, a) = .ref (eB E + (a.toNat - 1)) := by
  show va_rf (zRf E a) = _
  rw [zRf_at h]; rfl
theorem zv_null {E : ZE} {a : Int} (h : a ≤ 0) : zV E (2, a) = .null := by
  show va_rf (zRf E a) = _
  rw [zRf_0 h]; rfl
theorem zv_A {E : ZE} {t : Nat} {x : Int} (h : 2 ≤ t) : zV E (t, x) = .null ∨ ∃ q, zV E (t, x) = .ref q := by
  match t, h with
  | 2, _ =>
    by_cases hx : x ≤ 0
    · exact Or.inl (zv_null hx)
    · exact Or.inr ⟨_, zv_ref (by omega)⟩
  | 3, _ => exact Or.inr ⟨_, rfl⟩
  | 4, _ => exact Or.inr ⟨_, rfl⟩
  | n + 5, _ =>
    by_cases hx : x < 0
    · exact Or.inl (by show va_rf (if x < 0 then none else some x.toNat) = _; rw [if_pos hx]; rfl)
    · exact Or.inr ⟨x.toNat, by show va_rf (if x < 0 then none else some x.toNat) = _; rw [if_neg hx]; rfl⟩
theorem zx_getf (hX : zCx C E o cc nL ret ini) {idx : Nat} {c j : Nat} (hc : c < 13) (hj : j < zN c) (hw : Cond.fieldLink (zOwn o) idx (zOwn c) (zTT c j).2.1 (zTT c j).2.2.1 ∈ gt) (hd : decode cc pc = .ok (.getfield idx, 3)) {a : Int} (ha : S.1 a = c)
    (k : zG C E nL S ce sl Q (pc + 3) l ((if zTag (zTy c j) = 2 then 2 else 0, M a j) :: st) M) : zG C E nL S ce sl Q pc l ((2, a) :: st) M := by
  intro hO hl hs H locs ls hR hS hL
  obtain ⟨hx, hb, hml, hown, hts, ⟨hK, -⟩, -⟩ := hX
  have hne : S.1 a ≠ -1 := by rw [ha]; omega
  have hat := zWl_at (E := E) hO hne
  obtain ⟨⟨h1, h2⟩, -⟩ := hO.at hne
  rw [ha, zCell_obj (by omega)] at hat
  have hm : in32 (M a j) := (hO.2.2.1 a j).2 (by rw [ha]; omega)
  have e : ((c : Int)).toNat = c := by omega
  rw [e] at hat
  have hvo : zVo (if zTag (zTy c j) = 2 then 2 else 0, M a j) := by
    split
    · exact zVo_r hm
    · exact zVo_i hm
  have key := k hO hl (hs.tail.cons hvo) H locs ls hR hS hL
  show zW C H locs ce sl Q (F0 (czm C) pc ls (zV E (2, a) :: st.map (zV E)))
  rw [zv_ref h1]
  refine va_get hx hb hts (zUws c hc) hown hK hR.1 (a.toNat - 1) hat (zcl_at c hc) j hj (hts _ hw) (by rw [zOwn_ok c hc j hj]; exact fun _ h => h) (zFs_at hj) hd ?_
  have e2 : zFv E (zTag (zTy c j)) (M a j) = zV E (if zTag (zTy c j) = 2 then 2 else 0, M a j) := by
    unfold zFv
    split <;> rfl
  rw [e2]
  exact key
theorem zSt_new {E : ZE} {S : ZS} {M : ZM} {H H1 : Heap} {a i v : Int} (h1 : 1 ≤ a) (h2 : a ≤ S.2.2) (hR : zRep E S M H) {e : va_E} (he : e = zCell E (S.1 a) (S.2.1 a) (upM M a i v a)) (hz : H1.size = H.size) (hP : va_P E.1 zcl ((zWl E S M).set (a.toNat - 1) (eB E + (a.toNat - 1), e)) H1) : zRep E S (upM M a i v) H1 := by
  refine ⟨?_, by rw [hz]; exact hR.2⟩
  rw [← zWl_set (M := M) h1 h2 rfl (fun b hb => upM_ne hb)]
  rw [← he]
  exact hP
theorem zRep.put {E : ZE} {S : ZS} {M : ZM} {H H0 H1 : Heap} {locs : List Loc} {a i v : Int} (hO : zOk S M) (hne : S.1 a ≠ -1) (hR : zRep E S M H) (hS : va_S (zA E) H0 H locs) (hz : H1.size = H.size) (oq : ∀ q : Nat, q ≠ eB E + (a.toNat - 1) → H1[q]? = H[q]?) (hc : va_at E.1 zcl (eB E + (a.toNat - 1), zCell E (S.1 a) (S.2.1 a) (upM M a i v a)) H1) (k : Nat) :
    zRep E S (upM M a i v) H1 ∧ va_S (zA E) H0 H1 (locs ++ [⟨eB E + (a.toNat - 1), k⟩]) := by
  obtain ⟨⟨h1, h2⟩, -⟩ := hO.at hne
  have hat := zWl_at (E := E) hO hne
  have hD := zWl_D E S M
  refine ⟨⟨?_, by rw [hz]; exact hR.2⟩, hS.put hz oq (hD.2 _ _ hat)⟩
  rw [← zWl_set (M := M) h1 h2 rfl (fun b hb => upM_ne hb)]
  exact hR.1.set hD hat hc oq
theorem zArr_upd (conv : Int → Value) (cA : ClassId) (n : Nat) (M : ZM) {a i v : Int} (hi : 0 ≤ i) : (arrV cA n (fun j => conv (M a j))).setSlot i.toNat (conv v) = arrV cA n (fun j => conv (upM M a i v a j)) := by
  rw [arrV_store]
  congr 1
  funext j
  rw [upM_at]
  dsimp only
  by_cases hj : j = i.toNat
  · subst hj
    rw [if_pos (by omega)]
    simp [updV]
  · rw [if_neg (by omega)]
    simp [updV, hj]
theorem zx_putf (hX : zCx C E o cc nL ret ini) {idx : Nat} {c j : Nat} (hc : c < 13) (hj : j < zN c) (hw : Cond.fieldLink (zOwn o) idx (zOwn c) (zTT c j).2.1 (zTT c j).2.2.1 ∈ gt) (hf : (zTT c j).2.2.2 = false ∨ (ini = true ∧ c = o)) (hd : decode cc pc = .ok (.putfield idx, 3)) {a v : Int} {t : Nat} (ht : t = (if zTag (zTy c j) = 2 then 2 else 0)) (hbo : zTag (zTy c j) = 5 → v = 0 ∨ v = 1) (ha : S.1 a = c)
    (k : zG C E nL S ce sl Q (pc + 3) l st (upM M a j v)) : zG C E nL S ce sl Q pc l ((t, v) :: (2, a) :: st) M := by
  intro hO hl hs H locs ls hR hS hL
  obtain ⟨hx, hb, hml, hown, hts, ⟨hK, -⟩, hret, hlk, hini⟩ := hX
  have hne : S.1 a ≠ -1 := by rw [ha]; omega
  have hat := zWl_at (E := E) hO hne
  obtain ⟨⟨h1, h2⟩, -⟩ := hO.at hne
  rw [ha, zCell_obj (by omega)] at hat
  have e : ((c : Int)).toNat = c := by omega
  rw [e] at hat
  have hv32 : in32 v := by
    have h := hs.head
    subst ht
    split at h
    · exact h.r
    · exact h.i
  have hO' : zOk S (upM M a j v) := zOk_up hO (in32_64 hv32) (fun _ => hv32)
  obtain ⟨hty, htag⟩ := zTag_ok c hc j hj
  have e2 : zV E (t, v) = zFv E (zTag (zTy c j)) v := by
    subst ht
    unfold zFv
    split <;> rfl
  have hn : narrow (zTy c j) (zFv E (zTag (zTy c j)) v) = zFv E (zTag (zTy c j)) v := by
    unfold zFv
    generalize zTy c j = ty at *
    cases ty with
    | boolean =>
      rcases hbo rfl with rfl | rfl
      · rfl
      · rfl
    | int => rfl
    | object n => simp [zTag]; cases zRf E v <;> rfl
    | array n => simp [zTag]; cases zRf E v <;> rfl
    | _ => simp [zTag] at htag
  have hfit : fits (zTy c j) (zFv E (zTag (zTy c j)) v) = true := by
    unfold zFv
    generalize zTy c j = ty at *
    cases ty with
    | boolean =>
      rcases hbo rfl with rfl | rfl
      · rfl
      · rfl
    | int => rfl
    | object n => simp [zTag]; cases zRf E v <;> rfl
    | array n => simp [zTag]; cases zRf E v <;> rfl
    | _ => simp [zTag] at htag
  have hre : zOwn c = (zTT c j).1 := (zOwn_ok c hc j hj).symm
  show zW C H locs ce sl Q (F0 (czm C) pc ls (zV E (t, v) :: zV E (2, a) :: st.map (zV E)))
  rw [zv_ref h1, e2]
  have hap := va_apart (own := zOwn o) hts (zUws c hc) (zTy c) (fun k hk => (zTag_ok c hc k hk).1) (zNm_ok c hc) hK (zcl_at c hc)
  obtain ⟨r, g1, cell, q1, q2, q3, q4⟩ := hR.1 _ _ hat
  have hr : r = (zOwn c, zTT c, zN c) := Option.some.inj (g1.symm.trans (zcl_at c hc))
  subst hr
  obtain ⟨hSl, hfc, kC, hkC, hkind⟩ := hK.1 c _ (zcl_at c hc)
  obtain ⟨cf, kf, fi, f, hi, hsl⟩ := hSl j hj
  have hlay := hts _ (zUws c hc _ (u_in_lay hj))
  have hst := (u_facts hfc hkC (u_lays hts (zUws c hc) hj) hi).1
  have hk2 : ∀ H' : Heap, H'[eB E + (a.toNat - 1)]? = some (cell.setSlot f.slot (zFv E (zTag (zTy c j)) v)) → H'.size = H.size → (∀ q : Nat, q ≠ eB E + (a.toNat - 1) → H'[q]? = H[q]?) → zW C H' (locs ++ [⟨eB E + (a.toNat - 1), f.slot⟩]) ce sl Q (F0 (czm C) (pc + 3) ls (st.map (zV E))) := by
    intro H' e1 z1 o1
    rw [hsl] at e1 ⊢
    have hat2 : va_at E.1 zcl (eB E + (a.toNat - 1), zCell E (S.1 a) (S.2.1 a) (upM M a j v a)) H' := by
      rw [ha, zCell_obj (by omega), e, upM_at, ← zFs_set hj]
      exact ⟨_, zcl_at c hc, t_OB.to (V := updV (vp_V (zFs E c (M a))) j (zFv E (zTag (zTy c j)) v)) ⟨_, e1, q2, q3, t_set q4 hap hj _⟩ (fun i _ => vp_updV_set (by rw [zFs_len]; exact hj) _ i)⟩
    obtain ⟨hR', hS'⟩ := zRep.put hO hne hR hS z1 o1 hat2 (E.1.2 c j)
    exact k hO' hl hs.tail.tail H' _ ls hR' hS' hL
  unfold u_lay at hlay
  by_cases hfin : (zTT c j).2.2.2 = true
  · rw [if_pos hfin] at hlay
    have hf2 : ini = true ∧ c = o := hf.resolve_left (by rw [hfin]; decide)
    have hcf : (czm C).cls = cf := by
      obtain ⟨_, _, c', _, _, _, -, -, hf', -, -, -, hown2, -⟩ := Cond.laysFinal_spec hlay
      have e1 : c' = cf := by have := hi.symm.trans hf'; simp at this; exact this.1.symm
      rw [← hre, hf2.2] at hown2
      rw [← e1]; exact Option.some.inj (hown.symm.trans hown2)
    have h6 := u_fits hfc hkC hkind (Or.inr hlay) hi hty hn hfit
    exact W.putFinK hx hb hown (hts _ hw) (by rw [hre]; exact hi) hst hcf (hini hf2.1) (by rw [q2]; exact h6) q1 q3 (by rw [hsl]; exact k2_hasslot (q4 j hj)) rfl rfl hd hk2
  · rw [if_neg hfin] at hlay
    have h6 := u_store hfc hkC hkind hlay hi hty hn hfit
    exact W.putK hx hb (f := f) ⟨hown, hts _ hw, ⟨_, _, _, by rw [hre]; exact hi⟩, hst⟩ (by rw [q2]; exact h6) q1 q3 (by rw [hsl]; exact k2_hasslot (q4 j hj)) rfl rfl hd hk2
theorem zTys (E : ZE) : ∀ k, k < 7 → ∃ ty, (zty E)[k]? = some (E.2.1 k, ty) := fun k hk => match k, hk with
  | 0, _ => ⟨_, rfl⟩ | 1, _ => ⟨_, rfl⟩ | 2, _ => ⟨_, rfl⟩ | 3, _ => ⟨_, rfl⟩ | 4, _ => ⟨_, rfl⟩ | 5, _ => ⟨_, rfl⟩ | 6, _ => ⟨_, rfl⟩ | n + 7, h => absurd h (by omega)
theorem zx_iald (hX : zCx C E o cc nL ret ini) (hd : decode cc pc = .ok (.iaload, 1)) {a i : Int} (hg : S.1 a = 100 ∧ 0 ≤ i ∧ i < S.2.1 a) (k : zG C E nL S ce sl Q (pc + 1) l ((0, M a i) :: st) M) : zG C E nL S ce sl Q pc l ((0, i) :: (2, a) :: st) M := by
  intro hO hl hs H locs ls hR hS hL
  obtain ⟨hx, hb, hml, hown, hts, ⟨hK, -⟩, -⟩ := hX
  obtain ⟨ha, h3, h4⟩ := hg
  have hne : S.1 a ≠ -1 := by rw [ha]; omega
  have hat := zWl_at (E := E) hO hne
  obtain ⟨⟨h1, h2⟩, -⟩ := hO.at hne
  rw [ha, zCell_int (Or.inl rfl)] at hat
  have hm : in32 (M a i) := (hO.2.2.1 a i).2 (by rw [ha]; omega)
  have hi := hs.head.i
  show zW C H locs ce sl Q (F0 (czm C) pc ls (.int (Int32.ofInt i) :: zV E (2, a) :: st.map (zV E)))
  rw [zv_ref h1]
  refine va_iald hx hb hK hR.1 (a.toNat - 1) 0 hat rfl (i32_vin hi h3 h4) hd ?_
  rw [i32_clamp hi, show ((i.toNat : Nat) : Int) = i by omega]
  exact k hO hl (hs.tail.tail.cons (zVo_i hm)) H locs ls hR hS hL
theorem zx_lald (hX : zCx C E o cc nL ret ini) (hd : decode cc pc = .ok (.laload, 1)) {a i : Int} (hg : S.1 a = 101 ∧ 0 ≤ i ∧ i < S.2.1 a) (k : zG C E nL S ce sl Q (pc + 1) l ((1, M a i) :: st) M) : zG C E nL S ce sl Q pc l ((0, i) :: (2, a) :: st) M := by
  intro hO hl hs H locs ls hR hS hL
  obtain ⟨hx, hb, hml, hown, hts, ⟨hK, -⟩, -⟩ := hX
  obtain ⟨ha, h3, h4⟩ := hg
  have hne : S.1 a ≠ -1 := by rw [ha]; omega
  have hat := zWl_at (E := E) hO hne
  obtain ⟨⟨h1, h2⟩, -⟩ := hO.at hne
  rw [ha, zCell_long] at hat
  have hi := hs.head.i
  show zW C H locs ce sl Q (F0 (czm C) pc ls (.int (Int32.ofInt i) :: zV E (2, a) :: st.map (zV E)))
  rw [zv_ref h1]
  refine va_lald hx hb hK hR.1 (a.toNat - 1) 1 hat rfl (i32_vin hi h3 h4) hd ?_
  rw [i32_clamp hi, show ((i.toNat : Nat) : Int) = i by omega]
  exact k hO hl (hs.tail.tail.cons (zVo_l (hO.2.2.1 a i).1)) H locs ls hR hS hL
theorem zx_bald (hX : zCx C E o cc nL ret ini) (hd : decode cc pc = .ok (.baload, 1)) {kd a i : Int} (hkd : kd = 102 ∨ kd = 103) (hg : S.1 a = kd ∧ 0 ≤ i ∧ i < S.2.1 a) (k : zG C E nL S ce sl Q (pc + 1) l ((0, M a i) :: st) M) : zG C E nL S ce sl Q pc l ((0, i) :: (2, a) :: st) M := by
  intro hO hl hs H locs ls hR hS hL
  obtain ⟨hx, hb, hml, hown, hts, ⟨hK, -⟩, -⟩ := hX
  obtain ⟨ha, h3, h4⟩ := hg
  have hne : S.1 a ≠ -1 := by rw [ha]; omega
  have hat := zWl_at (E := E) hO hne
  obtain ⟨⟨h1, h2⟩, -⟩ := hO.at hne
  rw [ha, zCell_int (Or.inr hkd)] at hat
  have hm : in32 (M a i) := (hO.2.2.1 a i).2 (by rw [ha]; omega)
  have hi := hs.head.i
  have key := k hO hl (hs.tail.tail.cons (zVo_i hm)) H locs ls hR hS hL
  show zW C H locs ce sl Q (F0 (czm C) pc ls (.int (Int32.ofInt i) :: zV E (2, a) :: st.map (zV E)))
  rw [zv_ref h1]
  rcases hkd with rfl | rfl
  · refine va_bald hx hb hK hR.1 (a.toNat - 1) 2 hat rfl (i32_vin hi h3 h4) hd ?_
    rw [i32_clamp hi, show ((i.toNat : Nat) : Int) = i by omega]
    exact key
  · refine va_zald hx hb hK hR.1 (a.toNat - 1) 3 hat rfl (i32_vin hi h3 h4) hd ?_
    rw [i32_clamp hi, show ((i.toNat : Nat) : Int) = i by omega]
    exact key
theorem zx_aald (hX : zCx C E o cc nL ret ini) (hd : decode cc pc = .ok (.aaload, 1)) {kd a i : Int} (hkd : 104 ≤ kd ∧ kd ≤ 106) (hg : S.1 a = kd ∧ 0 ≤ i ∧ i < S.2.1 a) (k : zG C E nL S ce sl Q (pc + 1) l ((2, M a i) :: st) M) : zG C E nL S ce sl Q pc l ((0, i) :: (2, a) :: st) M := by
  intro hO hl hs H locs ls hR hS hL
  obtain ⟨hx, hb, hml, hown, hts, ⟨hK, -⟩, -⟩ := hX
  obtain ⟨ha, h3, h4⟩ := hg
  have hne : S.1 a ≠ -1 := by rw [ha]; omega
  have hat := zWl_at (E := E) hO hne
  obtain ⟨⟨h1, h2⟩, -⟩ := hO.at hne
  rw [ha, zCell_ref hkd.1] at hat
  have hm : in32 (M a i) := (hO.2.2.1 a i).2 (by rw [ha]; omega)
  have hi := hs.head.i
  have key := k hO hl (hs.tail.tail.cons (zVo_r hm)) H locs ls hR hS hL
  show zW C H locs ce sl Q (F0 (czm C) pc ls (.int (Int32.ofInt i) :: zV E (2, a) :: st.map (zV E)))
  rw [zv_ref h1]
  have hk3 : kd = 104 ∨ kd = 105 ∨ kd = 106 := by omega
  rcases hk3 with rfl | rfl | rfl
  · refine va_aldq (C := RX4) hx hb hK hR.1 (a.toNat - 1) 4 hat rfl (i32_vin hi h3 h4) hd ?_
    rw [i32_clamp hi, show ((i.toNat : Nat) : Int) = i by omega]
    exact key
  · refine va_aldq (C := RX6) hx hb hK hR.1 (a.toNat - 1) 5 hat rfl (i32_vin hi h3 h4) hd ?_
    rw [i32_clamp hi, show ((i.toNat : Nat) : Int) = i by omega]
    exact key
  · refine va_aldq (C := RX10) hx hb hK hR.1 (a.toNat - 1) 6 hat rfl (i32_vin hi h3 h4) hd ?_
    rw [i32_clamp hi, show ((i.toNat : Nat) : Int) = i by omega]
    exact key
theorem zx_alen (hX : zCx C E o cc nL ret ini) (hd : decode cc pc = .ok (.arraylength, 1)) {kd a : Int} (hkd : 100 ≤ kd ∧ kd ≤ 106) (ha : S.1 a = kd) (k : zG C E nL S ce sl Q (pc + 1) l ((0, S.2.1 a) :: st) M) : zG C E nL S ce sl Q pc l ((2, a) :: st) M := by
  intro hO hl hs H locs ls hR hS hL
  obtain ⟨hx, hb, hml, hown, hts, ⟨hK, -⟩, -⟩ := hX
  have hne : S.1 a ≠ -1 := by rw [ha]; omega
  have hat := zWl_at (E := E) hO hne
  obtain ⟨⟨h1, h2⟩, -⟩ := hO.at hne
  have hn := hO.2.2.2 a
  have key := k hO hl (hs.tail.cons (zVo_i (x := S.2.1 a) (by unfold in32; omega))) H locs ls hR hS hL
  show zW C H locs ce sl Q (F0 (czm C) pc ls (zV E (2, a) :: st.map (zV E)))
  rw [zv_ref h1]
  have e : Int32.ofNat (S.2.1 a).toNat = Int32.ofInt (S.2.1 a) := by
    rw [← Int32.ofInt_eq_ofNat]
    congr 1
    omega
  rw [ha] at hat
  have hk3 : kd = 101 ∨ (kd = 100 ∨ kd = 102 ∨ kd = 103) ∨ 104 ≤ kd := by omega
  obtain ⟨ty, hty⟩ := zTys E (kd - 100).toNat (by omega)
  rcases hk3 with rfl | hq | hq
  · rw [zCell_long] at hat
    exact va_alen hx hb hK hR.1 (a.toNat - 1) 1 hat rfl e hd key
  · rw [zCell_int hq] at hat
    exact va_alen hx hb hK hR.1 (a.toNat - 1) (kd - 100).toNat hat hty e hd key
  · rw [zCell_ref hq] at hat
    exact va_alen hx hb hK hR.1 (a.toNat - 1) (kd - 100).toNat hat hty e hd key
theorem zx_iast (hX : zCx C E o cc nL ret ini) (hd : decode cc pc = .ok (.iastore, 1)) {a i v : Int} (hg : S.1 a = 100 ∧ 0 ≤ i ∧ i < S.2.1 a) (k : zG C E nL S ce sl Q (pc + 1) l st (upM M a i v)) : zG C E nL S ce sl Q pc l ((0, v) :: (0, i) :: (2, a) :: st) M := by
  intro hO hl hs H locs ls hR hS hL
  obtain ⟨hx, hb, hml, hown, hts, ⟨hK, -⟩, -⟩ := hX
  obtain ⟨ha, h3, h4⟩ := hg
  have hne : S.1 a ≠ -1 := by rw [ha]; omega
  have hat := zWl_at (E := E) hO hne
  obtain ⟨⟨h1, h2⟩, -⟩ := hO.at hne
  rw [ha, zCell_int (Or.inl rfl)] at hat
  have hv := hs.head.i
  have hi := hs.tail.head.i
  show zW C H locs ce sl Q (F0 (czm C) pc ls (.int (Int32.ofInt v) :: .int (Int32.ofInt i) :: zV E (2, a) :: st.map (zV E)))
  rw [zv_ref h1]
  have hc0 := hR.1 _ _ hat
  refine W.iast hx hb hc0 ((hK.2 0 _ rfl).1 _ (fun j => .int (Int32.ofInt (M a j)))) (fun q => by cases q) (by show ¬ (_ < 0 ∨ (arrV _ _ _).slots.size ≤ _); rw [arrV_size]; exact i32_vin hi h3 h4) rfl rfl hd fun H1 e z oq => ?_
  have hat2 : va_at E.1 zcl (eB E + (a.toNat - 1), zCell E (S.1 a) (S.2.1 a) (upM M a i v a)) H1 := by
    rw [ha, zCell_int (Or.inl rfl)]
    show H1[_]? = some (vp_cell _ _)
    rw [e, i32_clamp hi]
    exact congrArg some (zArr_upd (fun x => .int (Int32.ofInt x)) _ _ M h3)
  obtain ⟨hR', hS'⟩ := zRep.put hO hne hR hS z oq hat2 (Int32.ofInt i).toNatClampNeg
  exact k (zOk_up hO (in32_64 hv) (fun _ => hv)) hl hs.tail.tail.tail H1 _ ls hR' hS' hL
theorem zx_last (hX : zCx C E o cc nL ret ini) (hd : decode cc pc = .ok (.lastore, 1)) {a i v : Int} (hg : S.1 a = 101 ∧ 0 ≤ i ∧ i < S.2.1 a) (k : zG C E nL S ce sl Q (pc + 1) l st (upM M a i v)) : zG C E nL S ce sl Q pc l ((1, v) :: (0, i) :: (2, a) :: st) M := by
  intro hO hl hs H locs ls hR hS hL
  obtain ⟨hx, hb, hml, hown, hts, ⟨hK, -⟩, -⟩ := hX
  obtain ⟨ha, h3, h4⟩ := hg
  have hne : S.1 a ≠ -1 := by rw [ha]; omega
  have hat := zWl_at (E := E) hO hne
  obtain ⟨⟨h1, h2⟩, -⟩ := hO.at hne
  rw [ha, zCell_long] at hat
  have hv := hs.head.l
  have hi := hs.tail.head.i
  show zW C H locs ce sl Q (F0 (czm C) pc ls (.long (Int64.ofInt v) :: .int (Int32.ofInt i) :: zV E (2, a) :: st.map (zV E)))
  rw [zv_ref h1]
  have hc0 := hR.1 _ _ hat
  refine W.last hx hb hc0 ((hK.2 1 _ rfl).1 _ (fun j => .long (Int64.ofInt (M a j)))) (fun q => by cases q) (by show ¬ (_ < 0 ∨ (arrV _ _ _).slots.size ≤ _); rw [arrV_size]; exact i32_vin hi h3 h4) rfl rfl hd fun H1 e z oq => ?_
  have hat2 : va_at E.1 zcl (eB E + (a.toNat - 1), zCell E (S.1 a) (S.2.1 a) (upM M a i v a)) H1 := by
    rw [ha, zCell_long]
    show H1[_]? = some (vp_cell _ _)
    rw [e, i32_clamp hi]
    exact congrArg some (zArr_upd (fun x => .long (Int64.ofInt x)) _ _ M h3)
  obtain ⟨hR', hS'⟩ := zRep.put hO hne hR hS z oq hat2 (Int32.ofInt i).toNatClampNeg
  exact k (zOk_up hO hv (fun q => absurd ha q)) hl hs.tail.tail.tail H1 _ ls hR' hS' hL
theorem zx_bast (hX : zCx C E o cc nL ret ini) (hd : decode cc pc = .ok (.bastore, 1)) {a i v : Int} (hg : S.1 a = 102 ∧ 0 ≤ i ∧ i < S.2.1 a) (k : zG C E nL S ce sl Q (pc + 1) l st (upM M a i (w8 v))) : zG C E nL S ce sl Q pc l ((0, v) :: (0, i) :: (2, a) :: st) M := by
  intro hO hl hs H locs ls hR hS hL
  obtain ⟨hx, hb, hml, hown, hts, ⟨hK, -⟩, -⟩ := hX
  obtain ⟨ha, h3, h4⟩ := hg
  have hne : S.1 a ≠ -1 := by rw [ha]; omega
  have hat := zWl_at (E := E) hO hne
  obtain ⟨⟨h1, h2⟩, -⟩ := hO.at hne
  rw [ha, zCell_int (Or.inr (Or.inl rfl))] at hat
  have hv := hs.head.i
  have hw8 : in32 (w8 v) := by have := w8_in v; unfold in32; omega
  have hi := hs.tail.head.i
  show zW C H locs ce sl Q (F0 (czm C) pc ls (.int (Int32.ofInt v) :: .int (Int32.ofInt i) :: zV E (2, a) :: st.map (zV E)))
  rw [zv_ref h1]
  have hc0 := hR.1 _ _ hat
  refine W.bast hx hb hc0 ((hK.2 2 _ rfl).1 _ (fun j => .int (Int32.ofInt (M a j)))) (fun q => by cases q) (by show ¬ (_ < 0 ∨ (arrV _ _ _).slots.size ≤ _); rw [arrV_size]; exact i32_vin hi h3 h4) rfl rfl hd fun H1 e z oq => ?_
  have hat2 : va_at E.1 zcl (eB E + (a.toNat - 1), zCell E (S.1 a) (S.2.1 a) (upM M a i (w8 v) a)) H1 := by
    rw [ha, zCell_int (Or.inr (Or.inl rfl))]
    show H1[_]? = some (vp_cell _ _)
    rw [e, i32_clamp hi, show narrow .byte (.int (Int32.ofInt v)) = .int (Int32.ofInt v).toInt8.toInt32 from rfl, i32_i2b hv]
    exact congrArg some (zArr_upd (fun x => .int (Int32.ofInt x)) _ _ M h3)
  obtain ⟨hR', hS'⟩ := zRep.put hO hne hR hS z oq hat2 (Int32.ofInt i).toNatClampNeg
  exact k (zOk_up hO (in32_64 hw8) (fun _ => hw8)) hl hs.tail.tail.tail H1 _ ls hR' hS' hL
theorem zx_zast (hX : zCx C E o cc nL ret ini) (hd : decode cc pc = .ok (.bastore, 1)) {a i v : Int} (hg : S.1 a = 103 ∧ 0 ≤ i ∧ i < S.2.1 a) (hbo : v = 0 ∨ v = 1) (k : zG C E nL S ce sl Q (pc + 1) l st (upM M a i v)) : zG C E nL S ce sl Q pc l ((0, v) :: (0, i) :: (2, a) :: st) M := by
  intro hO hl hs H locs ls hR hS hL
  obtain ⟨hx, hb, hml, hown, hts, ⟨hK, -⟩, -⟩ := hX
  obtain ⟨ha, h3, h4⟩ := hg
  have hne : S.1 a ≠ -1 := by rw [ha]; omega
  have hat := zWl_at (E := E) hO hne
  obtain ⟨⟨h1, h2⟩, -⟩ := hO.at hne
  rw [ha, zCell_int (Or.inr (Or.inr rfl))] at hat
  have hv := hs.head.i
  have hi := hs.tail.head.i
  show zW C H locs ce sl Q (F0 (czm C) pc ls (.int (Int32.ofInt v) :: .int (Int32.ofInt i) :: zV E (2, a) :: st.map (zV E)))
  rw [zv_ref h1]
  have hc0 := hR.1 _ _ hat
  have hna : narrow .boolean (.int (Int32.ofInt v)) = .int (Int32.ofInt v) := by rcases hbo with rfl | rfl <;> rfl
  refine W.zast hx hb hc0 ((hK.2 3 _ rfl).1 _ (fun j => .int (Int32.ofInt (M a j)))) (fun q => by cases q) (by show ¬ (_ < 0 ∨ (arrV _ _ _).slots.size ≤ _); rw [arrV_size]; exact i32_vin hi h3 h4) rfl rfl hd fun H1 e z oq => ?_
  have hat2 : va_at E.1 zcl (eB E + (a.toNat - 1), zCell E (S.1 a) (S.2.1 a) (upM M a i v a)) H1 := by
    rw [ha, zCell_int (Or.inr (Or.inr rfl))]
    show H1[_]? = some (vp_cell _ _)
    rw [e, i32_clamp hi, hna]
    exact congrArg some (zArr_upd (fun x => .int (Int32.ofInt x)) _ _ M h3)
  obtain ⟨hR', hS'⟩ := zRep.put hO hne hR hS z oq hat2 (Int32.ofInt i).toNatClampNeg
  exact k (zOk_up hO (in32_64 hv) (fun _ => hv)) hl hs.tail.tail.tail H1 _ ls hR' hS' hL
theorem zx_aast (hX : zCx C E o cc nL ret ini) (hd : decode cc pc = .ok (.aastore, 1)) {kd a i v : Int} {ci : Nat} (hkd : (kd = 104 ∧ ci = 4) ∨ (kd = 105 ∧ ci = 6) ∨ (kd = 106 ∧ ci = 10)) (hg : S.1 a = kd ∧ 0 ≤ i ∧ i < S.2.1 a) (hvk : v = 0 ∨ S.1 v = ci) (k : zG C E nL S ce sl Q (pc + 1) l st (upM M a i v)) : zG C E nL S ce sl Q pc l ((2, v) :: (0, i) :: (2, a) :: st) M := by
  intro hO hl hs H locs ls hR hS hL
  obtain ⟨hx, hb, hml, hown, hts, ⟨hK, -⟩, -⟩ := hX
  obtain ⟨ha, h3, h4⟩ := hg
  have hne : S.1 a ≠ -1 := by rw [ha]; omega
  have hat := zWl_at (E := E) hO hne
  obtain ⟨⟨h1, h2⟩, -⟩ := hO.at hne
  have hkd4 : 104 ≤ kd := by omega
  have hci : ci < 13 := by omega
  rw [ha, zCell_ref hkd4] at hat
  have hv := hs.head.r
  have hi := hs.tail.head.i
  have ht : (zty E)[(kd - 100).toNat]? = some (E.2.1 (kd - 100).toNat, .object (zOwn ci)) := by
    rcases hkd with ⟨rfl, rfl⟩ | ⟨rfl, rfl⟩ | ⟨rfl, rfl⟩ <;> rfl
  have hc0 := hR.1 _ _ hat
  have hin := i32_vin hi h3 h4
  have kk : ∀ H1 : Heap, H1[eB E + (a.toNat - 1)]? = some ((vp_cell (E.2.1 (kd - 100).toNat) ((S.2.1 a).toNat, .inr (.inr (.inr (.inr fun j => zRf E (M a j)))))).setSlot (Int32.ofInt i).toNatClampNeg (zV E (2, v))) → H1.size = H.size → (∀ q : Nat, q ≠ eB E + (a.toNat - 1) → H1[q]? = H[q]?) → zW C H1 (locs ++ [⟨eB E + (a.toNat - 1), (Int32.ofInt i).toNatClampNeg⟩]) ce sl Q (F0 (czm C) (pc + 1) ls (st.map (zV E))) := by
    intro H1 e z oq
    have hat2 : va_at E.1 zcl (eB E + (a.toNat - 1), zCell E (S.1 a) (S.2.1 a) (upM M a i v a)) H1 := by
      rw [ha, zCell_ref hkd4]
      show H1[_]? = some (vp_cell _ _)
      rw [e, i32_clamp hi]
      exact congrArg some (zArr_upd (fun x => va_rf (zRf E x)) _ _ M h3)
    obtain ⟨hR', hS'⟩ := zRep.put hO hne hR hS z oq hat2 (Int32.ofInt i).toNatClampNeg
    exact k (zOk_up hO (in32_64 hv) (fun _ => hv)) hl hs.tail.tail.tail H1 _ ls hR' hS' hL
  show zW C H locs ce sl Q (F0 (czm C) pc ls (zV E (2, v) :: .int (Int32.ofInt i) :: zV E (2, a) :: st.map (zV E)))
  rw [zv_ref h1]
  rcases hvk with rfl | hvk
  · rw [zv_null (Int.le_refl 0)] at kk ⊢
    exact va_WaastN (C := zOwn ci) hx hb hc0 ((hK.2 _ _ ht).1 _ (fun j => va_rf (zRf E (M a j)))) (fun h => by cases h) (by show ¬ (_ < 0 ∨ (arrV _ _ _).slots.size ≤ _); rw [arrV_size]; exact hin) rfl rfl hd kk
  · have hnv : S.1 v ≠ -1 := by rw [hvk]; omega
    have hav := zWl_at (E := E) hO hnv
    obtain ⟨⟨v1, v2⟩, -⟩ := hO.at hnv
    rw [hvk, zCell_obj (by omega), show ((ci : Int)).toNat = ci by omega] at hav
    rw [zv_ref v1] at kk ⊢
    have hlt : (Int32.ofInt i).toNatClampNeg < (S.2.1 a).toNat := Nat.not_le.mp fun q => hin (Or.inr q)
    have h0 : ¬ Int32.ofInt i < 0 := fun q => hin (Or.inl q)
    obtain ⟨r', hr', cellV, g1, g2, g3, -⟩ := hR.1 _ _ hav
    have hcls := (hK.1 ci _ (zcl_at ci hci)).2
    obtain ⟨kA, comp, k1, k2, k3, -⟩ := (hK.2 _ _ ht).2
    have hcomp : comp = E.1.1 ci := Option.some.inj (k3.symm.trans hcls.1)
    subst hcomp
    obtain ⟨kC, hkC, -⟩ := hcls.2
    exact W.aast hx hb hc0 (fun q h => by cases h) (fun h => by cases h) k1 k2 rfl hkC ⟨h0, by show _ < (arrV _ _ _).slots.size; rw [arrV_size]; exact hlt⟩ g1 (fun q h => by rw [g3] at h; cases h) (by rw [g2]; exact hkC) (by rw [g2]; exact va_assign hcls) rfl rfl hd kk
end
