/-! CALLS -/
def zSV (o idx : Nat) (y : MethodName) (cc : ByteArray) (nL : Nat) (ret : Option FieldType) (n : Nat) : Prop := (Cond.methodLink (zOwn o) idx y ∈ gt ∧ Cond.instanceMethod y ∈ gt ∧ Cond.selects y.cls y y ∈ gt ∧ Cond.initialized y.cls ∈ gt ∧ Cond.code y cc nL ret ∈ gt) ∧ y.cls ≠ "java/lang/invoke/MethodHandle" ∧ y.cls ≠ "java/lang/invoke/VarHandle" ∧ (parseMethodDescriptor y.desc).map (fun d => d.parameters.length) = some n
def zSS (o idx : Nat) (y : MethodName) (cc : ByteArray) (nL : Nat) (ret : Option FieldType) (n : Nat) : Prop := (Cond.methodLink (zOwn o) idx y ∈ gt ∧ Cond.static y ∈ gt ∧ Cond.initialized y.cls ∈ gt ∧ Cond.code y cc nL ret ∈ gt) ∧ y.cls ≠ "java/lang/invoke/MethodHandle" ∧ y.cls ≠ "java/lang/invoke/VarHandle" ∧ (parseMethodDescriptor y.desc).map (fun d => d.parameters.length) = some n
def zSI (o idx : Nat) (y : MethodName) (cc : ByteArray) (nL : Nat) (n : Nat) : Prop := (Cond.methodLink (zOwn o) idx y ∈ gt ∧ Cond.instanceMethod y ∈ gt ∧ Cond.initialized y.cls ∈ gt ∧ Cond.code y cc nL none ∈ gt ∧ y.name = "<init>") ∧ y.cls ≠ "java/lang/invoke/MethodHandle" ∧ y.cls ≠ "java/lang/invoke/VarHandle" ∧ (parseMethodDescriptor y.desc).map (fun d => d.parameters.length) = some n
def zSN (o idx : Nat) (y : MethodName) (cc : ByteArray) (nL : Nat) (n : Nat) : Prop := ((zOwn o, idx, y) ∈ zNst ∧ Cond.instanceMethod y ∈ gt ∧ Cond.initialized y.cls ∈ gt ∧ Cond.code y cc nL none ∈ gt ∧ y.name = "<init>") ∧ y.cls ≠ "java/lang/invoke/MethodHandle" ∧ y.cls ≠ "java/lang/invoke/VarHandle" ∧ (parseMethodDescriptor y.desc).map (fun d => d.parameters.length) = some n
theorem zCat (E : ZE) (st : List ZV) : ((st.map (zV E)).map fun v => v.category).sum = (st.map fun v => if v.1 = 1 then 2 else 1).sum := by
  induction st with
  | nil => rfl
  | cons v st ih =>
    simp only [List.map_cons, List.sum_cons, ih]
    congr 1
    by_cases h : v.1 = 1
    · rw [if_pos h, (zV_cat E v).mpr h]
    · rw [if_neg h, zV_cat1 h]
theorem zCwG {y : MethodName} {cc : ByteArray} {nL : Nat} {ret : Option FieldType} (h : Cond.code y cc nL ret ∈ gt) : GoodIn gt (.code y cc nL ret :: gt) := gt_sub (fun w hw => (List.mem_cons.mp hw).elim (fun e => e ▸ h) (fun h => h))
section
variable {C : ZC} {E : ZE} {o : Nat} {cc : ByteArray} {nL : Nat} {ret : Option FieldType} {ini : Bool} {S : ZS} {ce sl : Nat} {Q : State → Prop} {pc : Nat} {l : ZL} {st : List ZV} {M : ZM}
variable {y : MethodName} {cy : ByteArray} {nY : Nat} {ry : Option FieldType} {fr lo mc ms n idx : Nat} {av : List ZV} {r : Option ZV} {S' : ZS} {M' : ZM} {b : Int}
/-- behind a call -/
theorem zRun {H : Heap} {locs : List Loc} {ls : Array Slot} {st0 : List Value} {a : Array Value} (hr : va_Run (czp C) (czl C) (cze C) (czR C) (czs C) (czm C) (cza C) (czb C) (czh C) (czc C) H locs ce sl mc ms (F0 (czm C) pc ls st0) (st.map (zV E)) (zQc E r S' M' a) (zA E)) (hS : va_S (zA E) (czs C).heap H locs)
    (k : zG C E nL S' (ce + mc) (sl + ms) Q (pc + 3) l (r.toList ++ st) M') (hl : zVs l) (hs : zVt st) (hL : zLs E ls nL l) : zW C H locs ce sl Q (F0 (czm C) pc ls st0) := by
  intro T hT X
  obtain ⟨v, st₀, t, T', L, h0, X', hL1, e1, e2, ⟨hv, hR1, ⟨hz, hk⟩, hO1, hr1⟩, stp⟩ := hr T hT X
  rw [h0] at hz hk
  have hv' : v = r.map (zV E) := by cases hv; rfl
  subst hv'
  have hS1 : va_S (zA E) (czs C).heap T'.heap (locs ++ L) := by
    refine ⟨Nat.le_trans hS.1 (by rw [e1]; exact hz), fun q h1 h2 => ?_, fun q hq => ?_⟩
    · rw [e1, hk q (Nat.lt_of_lt_of_le h1 hS.1) h2]; exact hS.2.1 q h1 h2
    · rcases List.mem_append.mp hq with h | h
      · exact hS.2.2 q h
      · exact hL1 q h
  have hst : zVt (r.toList ++ st) := by
    intro u hu
    rcases List.mem_append.mp hu with h | h
    · cases r with
      | none => cases h
      | some w => simp at h; subst h; exact hr1 _ rfl
    · exact hs u h
  have key := k hO1 hl hst T'.heap (locs ++ L) ls (by rw [e1]; exact hR1) hS1 hL
  have e3 : (r.toList ++ st).map (zV E) = (r.map (zV E)).toList ++ st.map (zV E) := by cases r <;> rfl
  rw [e3] at key
  obtain ⟨t2, a1, b1⟩ := key T' rfl X'
  exact ⟨t2, stp t2 a1, b1⟩
theorem zPre {H : Heap} {locs : List Loc} (hX : zCx C E o cc nL ret ini) (hR : zRep E S M H) (hS : va_S (zA E) (czs C).heap H locs) (As : List Value) (he : As = av.map (zV E)) : PreS (czs C) H (va_Pc (av.map (zV E)) (fun U => zRep E S M U.heap ∧ zEnv E U)) As := by
  subst he
  refine ⟨fun a U g mk q => ⟨q.1, q.2.1, q.2.2.called g mk a⟩, fun U hU hW => ⟨rfl, by rw [hU]; exact hR, ?_⟩⟩
  exact hX.2.2.2.2.2.1.moved hW (by rw [hU]; exact hS.1) (fun a h1 h2 => by rw [hU]; exact hS.2.1 a h1 h2)
theorem zAvM (E : ZE) (av : List ZV) (st : List ZV) : (av.reverse ++ st).map (zV E) = (av.map (zV E)).reverse ++ st.map (zV E) := by rw [List.map_append, List.map_reverse]
theorem zVt.app {a b : List ZV} (h : zVt (a ++ b)) : zVt a ∧ zVt b := ⟨fun u hu => h u (List.mem_append_left _ hu), fun u hu => h u (List.mem_append_right _ hu)⟩
theorem zG.callS (hX : zCx C E o cc nL ret ini) (hM : zMet (czl C) y cy nY ry fr lo mc ms E S M av r S' M') (hT : zSS o idx y cy nY ry n) (hn : av.length = n) (hd : decode cc pc = .ok (.invokestatic idx, 3)) (hR1 : fr + 1 ≤ (czR C).frames ∧ 8 + (nY + 11) + lo ≤ (czR C).locals) (hR2 : ce + mc ≤ (czR C).cells ∧ sl + ms ≤ (czR C).slots) (hW : (st.map fun v => if v.1 = 1 then 2 else 1).sum ≤ 8)
    (k : zG C E nL S' (ce + mc) (sl + ms) Q (pc + 3) l (r.toList ++ st) M') : zG C E nL S ce sl Q pc l (av.reverse ++ st) M := by
  intro hO hl hs H locs ls hR hS hL
  obtain ⟨hs1, hs2⟩ := zVt.app hs
  have hM' := hM hO (fun v hv => hs1 v (by simpa using hv))
  obtain ⟨⟨t1, t2, t3, t4⟩, t5, t6, t7⟩ := hT
  obtain ⟨hx, hb, hml, hown, hts, hEn, hret, hlk, hini⟩ := id hX
  have cb : CallB (czR C) (czs C) (cza C) (zOwn o) idx y cy nY ry (.code y cy nY ry :: gt) { frames := fr, cells := mc, slots := ms, locals := lo } mc ms n := callB_of n hts (zCwG t4) rfl rfl rfl (hts _ t3) (hts _ t1) ⟨t5, t6, t7⟩ hR1
  rw [zAvM]
  exact zRun (va_runS (g := F0 (czm C) pc ls ((av.map (zV E)).reverse ++ st.map (zV E))) ⟨hx, hb, hml, hown, hts⟩ hM' ⟨cb, hts _ t2⟩ (zPre hX hR hS _ rfl) rfl (by rw [List.length_map]; exact hn) hL.2.1 rfl (by rw [zCat]; show 2 * 0 + _ ≤ 8; omega) hd hR2) hS k hl hs2 hL
theorem zG.callV (hX : zCx C E o cc nL ret ini) (hM : zMet (czl C) y cy nY ry fr lo mc ms E S M ((2, b) :: av) r S' M') (hT : zSV o idx y cy nY ry n) (hn : av.length = n) {ci : Nat} (hci : ci < 13 ∧ y.cls = zOwn ci) (hb : S.1 b = ci) (hd : decode cc pc = .ok (.invokevirtual idx, 3)) (hR1 : fr + 1 ≤ (czR C).frames ∧ 8 + (nY + 11) + lo ≤ (czR C).locals) (hR2 : ce + mc ≤ (czR C).cells ∧ sl + ms ≤ (czR C).slots) (hW : (st.map fun v => if v.1 = 1 then 2 else 1).sum ≤ 8)
    (k : zG C E nL S' (ce + mc) (sl + ms) Q (pc + 3) l (r.toList ++ st) M') : zG C E nL S ce sl Q pc l (av.reverse ++ (2, b) :: st) M := by
  intro hO hl hs H locs ls hR hS hL
  obtain ⟨hs1, hs2⟩ := zVt.app hs
  have hM' := hM hO (fun v hv => (List.mem_cons.mp hv).elim (fun e => e ▸ hs2.head) (fun h => hs1 v (by simpa using h)))
  obtain ⟨⟨t1, t2, t3, t4, t8⟩, t5, t6, t7⟩ := hT
  obtain ⟨hx, hbc, hml, hown, hts, hEn, hret, hlk, hini⟩ := id hX
  have cb : CallB (czR C) (czs C) (cza C) (zOwn o) idx y cy nY ry (.code y cy nY ry :: gt) { frames := fr, cells := mc, slots := ms, locals := lo } mc ms n := callB_of n hts (zCwG t8) rfl rfl rfl (hts _ t4) (hts _ t1) ⟨t5, t6, t7⟩ hR1
  have hne : S.1 b ≠ -1 := by rw [hb]; omega
  have hat := zWl_at (E := E) hO hne
  obtain ⟨⟨h1, h2⟩, -⟩ := hO.at hne
  rw [hb, zCell_obj (by omega), show ((ci : Int)).toNat = ci by omega] at hat
  have hrc := va_recv hEn.1 hR.1 (zcl_at ci hci.1) hat
  rw [← hci.2] at hrc
  have hpre := zPre (av := (2, b) :: av) hX hR hS (.ref (eB E + (b.toNat - 1)) :: av.map (zV E)) (by rw [List.map_cons, zv_ref h1])
  rw [zAvM, List.map_cons, zv_ref h1]
  exact zRun (va_runV (g := F0 (czm C) pc ls ((av.map (zV E)).reverse ++ .ref (eB E + (b.toNat - 1)) :: st.map (zV E))) ⟨hx, hbc, hml, hown, hts⟩ hM' ⟨cb, hts _ t2, hts _ t3⟩ ⟨hpre.1, hrc, hpre.2⟩ rfl (by rw [List.length_map]; exact hn) hL.2.1 rfl (by rw [zCat]; show 2 * 0 + _ ≤ 8; omega) hd hR2) hS k hl hs2.tail hL
theorem zG.callI (hX : zCx C E o cc nL ret ini) (hM : zMet (czl C) y cy nY none fr lo mc ms E S M ((2, b) :: av) r S' M') (hT : zSI o idx y cy nY n) (hn : av.length = n) (hb : 1 ≤ b) (hd : decode cc pc = .ok (.invokespecial idx, 3)) (hR1 : fr + 1 ≤ (czR C).frames ∧ 8 + (nY + 11) + lo ≤ (czR C).locals) (hR2 : ce + mc ≤ (czR C).cells ∧ sl + ms ≤ (czR C).slots) (hW : (st.map fun v => if v.1 = 1 then 2 else 1).sum ≤ 8)
    (k : zG C E nL S' (ce + mc) (sl + ms) Q (pc + 3) l (r.toList ++ st) M') : zG C E nL S ce sl Q pc l (av.reverse ++ (2, b) :: st) M := by
  intro hO hl hs H locs ls hR hS hL
  obtain ⟨hs1, hs2⟩ := zVt.app hs
  have hM' := hM hO (fun v hv => (List.mem_cons.mp hv).elim (fun e => e ▸ hs2.head) (fun h => hs1 v (by simpa using h)))
  obtain ⟨⟨t1, t2, t3, t4, t8⟩, t5, t6, t7⟩ := hT
  obtain ⟨hx, hbc, hml, hown, hts, hEn, hret, hlk, hini⟩ := id hX
  have cb : CallB (czR C) (czs C) (cza C) (zOwn o) idx y cy nY none (.code y cy nY none :: gt) { frames := fr, cells := mc, slots := ms, locals := lo } mc ms n := callB_of n hts (zCwG t4) rfl rfl rfl (hts _ t3) (hts _ t1) ⟨t5, t6, t7⟩ hR1
  have hpre := zPre (av := (2, b) :: av) hX hR hS (.ref (eB E + (b.toNat - 1)) :: av.map (zV E)) (by rw [List.map_cons, zv_ref hb])
  rw [zAvM, List.map_cons, zv_ref hb]
  exact zRun (va_runI (g := F0 (czm C) pc ls ((av.map (zV E)).reverse ++ .ref (eB E + (b.toNat - 1)) :: st.map (zV E))) ⟨hx, hbc, hml, hown, hts⟩ hM' ⟨cb, t8, hts _ t2⟩ hpre rfl (by rw [List.length_map]; exact hn) hL.2.1 rfl (by rw [zCat]; show 2 * 0 + _ ≤ 8; omega) hd hR2) hS k hl hs2.tail hL
theorem zG.callN (hX : zCx C E o cc nL ret ini) (hM : zMet (czl C) y cy nY none fr lo mc ms E S M ((2, b) :: av) r S' M') (hT : zSN o idx y cy nY n) (hn : av.length = n) (hb : 1 ≤ b) (hd : decode cc pc = .ok (.invokespecial idx, 3)) (hR1 : fr + 1 ≤ (czR C).frames ∧ 8 + (nY + 11) + lo ≤ (czR C).locals) (hR2 : ce + mc ≤ (czR C).cells ∧ sl + ms ≤ (czR C).slots) (hW : (st.map fun v => if v.1 = 1 then 2 else 1).sum ≤ 8)
    (k : zG C E nL S' (ce + mc) (sl + ms) Q (pc + 3) l (r.toList ++ st) M') : zG C E nL S ce sl Q pc l (av.reverse ++ (2, b) :: st) M := by
  intro hO hl hs H locs ls hR hS hL
  obtain ⟨hs1, hs2⟩ := zVt.app hs
  have hM' := hM hO (fun v hv => (List.mem_cons.mp hv).elim (fun e => e ▸ hs2.head) (fun h => hs1 v (by simpa using h)))
  obtain ⟨⟨t1, t2, t3, t4, t8⟩, t5, t6, t7⟩ := hT
  obtain ⟨hx, hbc, hml, hown, hts, hEn, hret, hlk, hini⟩ := id hX
  have cb := va_cnB (host := RX11) (own := zOwn o) (index := idx) (y := y) (bytes := cy) (maxL := nY) (ret := none) (rm := { frames := fr, cells := mc, slots := ms, locals := lo }) (mc := mc) (ms := ms) (R := czR C) (args := cza C) n hts (zCwG t4) rfl rfl rfl (hEn.2.1 _ t1) (hts _ t3) ⟨t5, t6, t7⟩ hR1
  have hpre := zPre (av := (2, b) :: av) hX hR hS (.ref (eB E + (b.toNat - 1)) :: av.map (zV E)) (by rw [List.map_cons, zv_ref hb])
  rw [zAvM, List.map_cons, zv_ref hb]
  exact zRun (va_runIN (g := F0 (czm C) pc ls ((av.map (zV E)).reverse ++ .ref (eB E + (b.toNat - 1)) :: st.map (zV E))) ⟨hx, hbc, hml, hown, hts⟩ hM' ⟨cb, t8, hts _ t2⟩ hpre rfl (by rw [List.length_map]; exact hn) hL.2.1 rfl (by rw [zCat]; show 2 * 0 + _ ≤ 8; omega) hd hR2) hS k hl hs2.tail hL
theorem zG.objInit (hX : zCx C E o cc nL ret ini) (h1 : Cond.methodLink (zOwn o) idx Lib.objectInit ∈ gt) (h2 : Cond.instanceMethod Lib.objectInit ∈ gt) (h3 : Cond.code Lib.objectInit ⟨#[0xb1]⟩ 1 none ∈ gt) (hb : 1 ≤ b) (hd : decode cc pc = .ok (.invokespecial idx, 3)) (hR1 : 1 ≤ (czR C).frames ∧ (st.map fun v => if v.1 = 1 then 2 else 1).sum + 12 ≤ (czR C).locals)
    (k : zG C E nL S ce sl Q (pc + 3) l st M) : zG C E nL S ce sl Q pc l ((2, b) :: st) M := by
  intro hO hl hs H locs ls hR hS hL
  obtain ⟨hx, hbc, hml, hown, hts, -⟩ := hX
  rw [List.map_cons, zv_ref hb]
  refine W.objInit hx hbc hown (hts _ h1) (hts _ h2) (hts _ h3) (g := F0 (czm C) pc ls (.ref (eB E + (b.toNat - 1)) :: st.map (zV E))) rfl (by rw [hml]; exact hL.2.1) rfl hd hR1.1 (by rw [zCat]; show 2 * 0 + _ + 12 ≤ _; omega) ?_
  exact k hO hl hs.tail H locs ls hR hS hL
theorem zG.max (hX : zCx C E o cc nL ret ini) (h1 : Cond.methodLink (zOwn o) idx Lib.Math.max.name ∈ gt) (h2 : Cond.static Lib.Math.max.name ∈ gt) (h3 : Cond.initialized "java/lang/Math" ∈ gt) (h4 : Cond.code Lib.Math.max.name Lib.Math.max.code 2 (some .int) ∈ gt) (hd : decode cc pc = .ok (.invokestatic idx, 3)) (hR1 : 1 ≤ (czR C).frames ∧ (st.map fun v => if v.1 = 1 then 2 else 1).sum + 13 ≤ (czR C).locals) (hR2 : ce ≤ (czR C).cells ∧ sl ≤ (czR C).slots) {x y : Int}
    (k : zG C E nL S ce sl Q (pc + 3) l ((0, if x < y then y else x) :: st) M) : zG C E nL S ce sl Q pc l ((0, y) :: (0, x) :: st) M := by
  intro hO hl hs H locs ls hR hS hL
  obtain ⟨hx, hbc, hml, hown, hts, -⟩ := hX
  have hy := hs.head.i
  have hx2 := hs.tail.head.i
  have key := k hO hl (hs.tail.tail.cons (v := (0, if x < y then y else x)) (zVo_i (by split <;> assumption))) H locs ls hR hS hL
  refine va_mmax hx hbc (by rw [hml]; exact hL.2.1.symm) hown (hts _ h1) (hts _ h2) (hts _ h3) (hts _ h4) hR1.1 (by rw [zCat]; exact hR1.2) hR2.1 hR2.2 hd ?_
  have e : (if Int32.ofInt x < Int32.ofInt y then Int32.ofInt y else Int32.ofInt x) = Int32.ofInt (if x < y then y else x) := by
    by_cases q : x < y
    · rw [if_pos q, if_pos ((i32_lt hx2 hy).mpr q)]
    · rw [if_neg q, if_neg (fun z => q ((i32_lt hx2 hy).mp z))]
  rw [e]
  exact key
end
