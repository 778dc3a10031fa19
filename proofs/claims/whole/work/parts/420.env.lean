/-! THE START'S ENVIRONMENT -/
theorem zIns : ∀ ci, ci < 13 → lw_tbl[([373, 390, 418, 438, 713, 241, 267, 164, 135, 170, 259, 127, 1123].getD ci 0)]? = some (Cond.instantiable (zOwn ci) (zN ci)) := by decide +kernel
theorem zNstI : ∀ k, k < 13 → lw_tbl[([136, 165, 171, 242, 265, 374, 391, 396, 400, 419, 424, 439, 444].getD k 0)]? = some (Cond.methodLinkNest (zNst.getD k ("", 0, yL_law)).1 (zNst.getD k ("", 0, yL_law)).2.1 (zNst.getD k ("", 0, yL_law)).2.2 RX11) := by decide +kernel
theorem zStrI : ∀ k, k < 20 → lw_tbl[([545, 1330, 1331, 1332, 1333, 1389, 1413, 1414, 1415, 1416, 1417, 1418, 1419, 1420, 1421, 1422, 1423, 1436, 1453, 1454].getD k 0)]? = some (Cond.stringRef (zStrs.getD k ("", 0, "")).1 (zStrs.getD k ("", 0, "")).2.1 (zStrs.getD k ("", 0, "")).2.2) := by decide +kernel
theorem zAc_int : Cond.arrayClass .int ∈ lw_tbl := List.mem_of_getElem? (i := 162) (by decide +kernel)
theorem zAc_long : Cond.arrayClass .long ∈ lw_tbl := List.mem_of_getElem? (i := 388) (by decide +kernel)
theorem zAc_byte : Cond.arrayClass .byte ∈ lw_tbl := List.mem_of_getElem? (i := 666) (by decide +kernel)
theorem zAc_boolean : Cond.arrayClass .boolean ∈ lw_tbl := List.mem_of_getElem? (i := 1290) (by decide +kernel)
theorem zAv_4 : Cond.arrayOver (.object RX4) ∈ lw_tbl := List.mem_of_getElem? (i := 257) (by decide +kernel)
theorem zAv_6 : Cond.arrayOver (.object RX6) ∈ lw_tbl := List.mem_of_getElem? (i := 322) (by decide +kernel)
theorem zAv_10 : Cond.arrayOver (.object RX10) ∈ lw_tbl := List.mem_of_getElem? (i := 371) (by decide +kernel)
theorem zLs_1 : Cond.laysStatic "java/lang/String" "COMPACT_STRINGS" "Z" ∈ lw_tbl := List.mem_of_getElem? (i := 555) (by decide +kernel)
theorem zLs_2 : Cond.laysStatic "jdk/internal/util/Preconditions" "SIOOBE_FORMATTER" "Ljava/util/function/BiFunction;" ∈ lw_tbl := List.mem_of_getElem? (i := 571) (by decide +kernel)
theorem zIn_1 : Cond.initialized "java/lang/String" ∈ lw_tbl := List.mem_of_getElem? (i := 118) (by decide +kernel)
theorem zIn_2 : Cond.initialized "jdk/internal/util/Preconditions" ∈ lw_tbl := List.mem_of_getElem? (i := 120) (by decide +kernel)
theorem zArrP {args : Array Value} {s : State} {ty : FieldType} (hra : ∀ cA, s.vm.findClass ("[" ++ ty.toString) = some cA → va_RA s cA ty) (h : (Cond.arrayClass ty).before args s = true) : ∃ cA, ArrOfT s cA ty ∧ va_RA s cA ty := by
  obtain ⟨c, k, comp, h1, h2, h3⟩ := Cond.arrayClass_spec h
  exact ⟨c, fun n z => ⟨fun k h => (by cases h), k, h2, comp, h3⟩, hra c h1⟩
theorem zArrQ {args : Array Value} {s : State} {C : String} (h : (Cond.arrayOver (.object C)).before args s = true) : ∃ cA, ArrOfT s cA (.object C) ∧ va_RA s cA (.object C) := by
  obtain ⟨comp, c, k, h1, h2, h3, h4, h5⟩ := Cond.arrayOver_spec h
  exact ⟨c, fun n z => ⟨fun k h => (by cases h), k, h3, comp, h4⟩, k, comp, h3, h4, h1, h5⟩
theorem env_of {args : Array Value} {s : State} (hts : ∀ w ∈ lw_tbl, w.before args s = true) (hgv : (Jvm.Cond.and given_1 narrow_1).before args s = true) : ∃ E : ZE, eB E = s.heap.size ∧ zEnv E s := by
  have hsf := flat_of_before _ hgv
  have hgt : ∀ w ∈ gt, w.before args s = true := fun w hw => hts w (List.mem_filter.mp hw).1
  have hkn : ∀ ci : Nat, ∃ p : ClassId × (Nat → Nat), ci < 13 → u_Kn s (zOwn ci) (zTT ci) (zN ci) p.1 p.2 := by
    intro ci
    by_cases h : ci < 13
    · obtain ⟨c0, i0, hk⟩ := u_known (C := zOwn ci) (T := zTT ci) (N := zN ci) (n := zN ci) hgt (zUws ci h) (hts _ (List.mem_of_getElem? (zIns ci h)))
      exact ⟨(c0, i0), fun _ => hk⟩
    · exact ⟨(0, fun _ => 0), fun q => absurd q h⟩
  obtain ⟨fK, hfK⟩ := Classical.axiomOfChoice hkn
  obtain ⟨cI, hI⟩ := zArrP (ty := .int) (fun _ h => h) (hts _ zAc_int)
  obtain ⟨cJ, hJ⟩ := zArrP (ty := .long) (fun _ h => h) (hts _ zAc_long)
  obtain ⟨cB, hB⟩ := zArrP (ty := .byte) (fun _ h => h) (hts _ zAc_byte)
  obtain ⟨cZ, hZ⟩ := zArrP (ty := .boolean) (fun _ h => h) (hts _ zAc_boolean)
  obtain ⟨c4, h4⟩ := zArrQ (hts _ zAv_4)
  obtain ⟨c6, h6⟩ := zArrQ (hts _ zAv_6)
  obtain ⟨c10, h10⟩ := zArrQ (hts _ zAv_10)
  obtain ⟨adK, adV, hS, hev⟩ := vk_Sof (N := 20) (tm := zTm) (len := zSln) (byt := zSbs) (A := fun q => s.heap.size ≤ q) (args := args) (s := s) (fun i hi => Nat.lt_of_le_of_lt (zSl_b i hi) (by decide)) (fun i hi => hsf _ (List.mem_of_getElem? (fl_ex i hi))) (fun i hi => hsf _ (List.mem_of_getElem? (fl_co i hi))) (fun i hi => hsf _ (List.mem_of_getElem? (fl_ar i hi))) (fun i hi => hsf _ (List.mem_of_getElem? (fl_le i hi))) (fun i hi j hj => hsf _ (fl_el i hi j hj)) (fun i j hi hj hne => (fl_ne i hi j hj hne).imp (hsf _) (hsf _)) (fun a h => Nat.not_le.mpr h)
  refine ⟨((fun ci => (fK ci).1, fun ci => (fK ci).2), (fun k => match k with | 0 => cI | 1 => cJ | 2 => cB | 3 => cZ | 4 => c4 | 5 => c6 | _ => c10), s.heap.size, adK, adV), rfl, ⟨?_, ?_⟩, ?_, ⟨?_, ?_, ?_⟩, ⟨hS, ?_, ?_, ?_⟩, Nat.le_refl _⟩
  · intro c q hq
    have hc : c < 13 := (List.getElem?_eq_some_iff.mp hq).1
    rw [zcl_at c hc] at hq
    cases hq
    exact hfK c hc
  · intro k q hq
    match k, hq with
    | 0, hq => cases hq; exact hI
    | 1, hq => cases hq; exact hJ
    | 2, hq => cases hq; exact hB
    | 3, hq => cases hq; exact hZ
    | 4, hq => cases hq; exact h4
    | 5, hq => cases hq; exact h6
    | 6, hq => cases hq; exact h10
    | n + 7, hq => cases hq
  · intro q hq
    obtain ⟨k, hk⟩ := List.getElem?_of_mem hq
    have hk13 : k < 13 := (List.getElem?_eq_some_iff.mp hk).1
    have hw := zNstI k hk13
    have e : zNst.getD k ("", 0, yL_law) = q := by rw [List.getD_eq_getElem?_getD, hk]; rfl
    rw [e] at hw
    exact va_Nw.of rfl (hts _ (List.mem_of_getElem? hw))
  · exact va_AO.of (hts _ zAv_4)
  · exact va_AO.of (hts _ zAv_6)
  · exact va_AO.of (hts _ zAv_10)
  · intro i q hq
    have hi : i < 20 := (List.getElem?_eq_some_iff.mp hq).1
    have hw := zStrI i hi
    have he := hev i hi
    have e : zStrs.getD i ("", 0, "") = q := by rw [List.getD_eq_getElem?_getD, hq]; rfl
    unfold zTm at he
    rw [e] at hw he
    exact vk_R.of (hts _ (List.mem_of_getElem? hw)) he
  · exact va_Zof (hts _ zLs_1) (hts _ zIn_1) (va_eqi (hsf _ (List.mem_of_getElem? fl_cs))) (fun a h => Nat.not_le.mpr h)
  · exact va_Zqof (hts _ zLs_2) (hts _ zIn_2) (hsf _ (List.mem_of_getElem? fl_fm)) (fun a h => Nat.not_le.mpr h)
