/-! THE PURE MACHINE AND THE MACHINE: representation -/
/-- classes by number: RX0 .. RX12 -/
abbrev zcl : List vw_C := [(RX0, TX0, 3), (RX1, TX1, 5), (RX2, TX2, 3), (RX3, TX3, 5), (RX4, TX4, 1), (RX5, TX5, 3), (RX6, TX6, 7), (RX7, TX7, 1), (RX8, TX8, 6), (RX9, TX9, 10), (RX10, TX10, 10), (RX11, TX11, 11), (RX12, TX12, 54)]
def zTy (ci : Nat) : Nat → FieldType := match ci with
  | 0 => tyX0 | 1 => tyX1 | 2 => tyX2 | 3 => tyX3 | 4 => tyX4 | 5 => tyX5 | 6 => tyX6 | 7 => tyX7 | 8 => tyX8 | 9 => tyX9 | 10 => tyX10 | 11 => tyX11 | _ => tyX12
def zTT (ci : Nat) : u_T := match ci with
  | 0 => TX0 | 1 => TX1 | 2 => TX2 | 3 => TX3 | 4 => TX4 | 5 => TX5 | 6 => TX6 | 7 => TX7 | 8 => TX8 | 9 => TX9 | 10 => TX10 | 11 => TX11 | _ => TX12
def zN (ci : Nat) : Nat := match ci with
  | 0 => 3 | 1 => 5 | 2 => 3 | 3 => 5 | 4 => 1 | 5 => 3 | 6 => 7 | 7 => 1 | 8 => 6 | 9 => 10 | 10 => 10 | 11 => 11 | _ => 54
def zOwn (o : Nat) : String := match o with
  | 0 => RX0 | 1 => RX1 | 2 => RX2 | 3 => RX3 | 4 => RX4 | 5 => RX5 | 6 => RX6 | 7 => RX7 | 8 => RX8 | 9 => RX9 | 10 => RX10 | 11 => RX11 | 12 => RX12 | 13 => RL | 14 => RJ7 | 15 => RJ6 | 16 => RJ9 | 17 => RJ0 | 18 => RJ1 | 19 => RJ3 | _ => RJ2
theorem zcl_at (ci : Nat) (h : ci < 13) : zcl[ci]? = some (zOwn ci, zTT ci, zN ci) := match ci, h with
  | 0, _ => rfl | 1, _ => rfl | 2, _ => rfl | 3, _ => rfl | 4, _ => rfl | 5, _ => rfl | 6, _ => rfl | 7, _ => rfl | 8, _ => rfl | 9, _ => rfl | 10, _ => rfl | 11, _ => rfl | 12, _ => rfl | n + 13, h => absurd h (by omega)
/-- what a field of a type holds: 0 int, 2 reference, 5 boolean -/
def zTag (t : FieldType) : Nat := match t with
  | .int => 0 | .boolean => 5 | .object _ => 2 | .array _ => 2 | _ => 9
theorem zTag_ok : ∀ ci, ci < 13 → ∀ k, k < zN ci → parseFieldDescriptor (zTT ci k).2.2.1 = some (zTy ci k) ∧ (zTag (zTy ci k) = 0 ∨ zTag (zTy ci k) = 2 ∨ zTag (zTy ci k) = 5) := by decide +kernel
theorem zNm_ok : ∀ ci, ci < 13 → ∀ a, a < zN ci → ∀ b, b < zN ci → a ≠ b → (zTT ci a).2.1 ≠ (zTT ci b).2.1 := by decide +kernel
theorem zOwn_ok : ∀ ci, ci < 13 → ∀ k, k < zN ci → (zTT ci k).1 = zOwn ci := by decide +kernel
/-- an environment: classes and slots, array classes, the base address, the addresses of the String constants and of their bytes -/
abbrev ZE : Type := va_G × (Nat → ClassId) × Nat × (Nat → Nat) × (Nat → Nat)
abbrev eB (E : ZE) : Nat := E.2.2.1
def zRf (E : ZE) (x : Int) : Option Nat := if x ≤ 0 then none else some (eB E + (x.toNat - 1))
def zV (E : ZE) (v : ZV) : Value := match v.1 with
  | 0 => .int (Int32.ofInt v.2)
  | 1 => .long (Int64.ofInt v.2)
  | 2 => va_rf (zRf E v.2)
  | 3 => .ref (E.2.2.2.1 v.2.toNat)
  | 4 => .ref (E.2.2.2.2 v.2.toNat)
  | _ => va_rf (if v.2 < 0 then none else some v.2.toNat)
def zFv (E : ZE) (t : Nat) (x : Int) : Value := if t = 2 then va_rf (zRf E x) else .int (Int32.ofInt x)
def zFs (E : ZE) (ci : Nat) (row : Int → Int) : List Value := (List.range (zN ci)).map fun j => zFv E (zTag (zTy ci j)) (row j)
def zCell (E : ZE) (kd ln : Int) (row : Int → Int) : va_E :=
  if kd < 100 then .inr (kd.toNat, zFs E kd.toNat row)
  else if kd = 101 then .inl (E.2.1 1, ln.toNat, .inr (.inl fun j => Int64.ofInt (row j)))
  else if kd ≤ 103 then .inl (E.2.1 (kd - 100).toNat, ln.toNat, .inl fun j => Int32.ofInt (row j))
  else .inl (E.2.1 (kd - 100).toNat, ln.toNat, .inr (.inr (.inr (.inr fun j => zRf E (row j)))))
def zWl (E : ZE) (S : ZS) (M : ZM) : va_W := (List.range S.2.2.toNat).map fun (k : Nat) => (eB E + k, zCell E (S.1 (k + 1)) (S.2.1 (k + 1)) (M (k + 1)))
abbrev zty (E : ZE) : List (ClassId × FieldType) := [(E.2.1 0, .int), (E.2.1 1, .long), (E.2.1 2, .byte), (E.2.1 3, .boolean), (E.2.1 4, .object RX4), (E.2.1 5, .object RX6), (E.2.1 6, .object RX10)]
def zRep (E : ZE) (S : ZS) (M : ZM) (H : Heap) : Prop := va_P E.1 zcl (zWl E S M) H ∧ H.size = eB E + S.2.2.toNat
/-- kinds stand for the cells that there are, lengths and numbers are in range -/
def zOk (S : ZS) (M : ZM) : Prop := (0 ≤ S.2.2 ∧ S.2.2 ≤ 2000000000) ∧ (∀ a, S.1 a = -1 ∨ ((1 ≤ a ∧ a ≤ S.2.2) ∧ ((0 ≤ S.1 a ∧ S.1 a ≤ 12) ∨ (100 ≤ S.1 a ∧ S.1 a ≤ 106)))) ∧ (∀ a i, in64 (M a i) ∧ (S.1 a ≠ 101 → in32 (M a i))) ∧ ∀ a, 0 ≤ S.2.1 a ∧ S.2.1 a ≤ 2147483647
def zVo (v : ZV) : Prop := if v.1 = 1 then in64 v.2 else if v.1 ≤ 2 then in32 v.2 else True
def zVs (l : ZL) : Prop := ∀ (i : Nat) (v : ZV), l[i]? = some (some v) → zVo v
def zVt (st : List ZV) : Prop := ∀ v ∈ st, zVo v
def zLs (E : ZE) (ls : Array Slot) (nL : Nat) (l : ZL) : Prop := l.length = nL ∧ ls.size = nL ∧ lv_wf ls ∧ ∀ (i : Nat) (v : ZV), l[i]? = some (some v) → ls[i]? = some (.val (zV E v))
/-- the words that ride along -/
def gt : List Cond := lw_tbl.filter goodWord
theorem gt_in {w : Cond} (h : w ∈ lw_tbl) (g : goodWord w = true) : w ∈ gt := List.mem_filter.mpr ⟨h, g⟩
theorem gt_good {w : Cond} (h : w ∈ gt) : goodWord w = true := (List.mem_filter.mp h).2
theorem gt_at {w : Cond} (i : Nat) (h : lw_tbl[i]? = some w) (g : goodWord w = true) : w ∈ gt := gt_in (List.mem_of_getElem? h) g
theorem gt_sub {ws : List Cond} (h : ∀ w ∈ ws, w ∈ gt) : GoodIn gt ws := fun w hw => ⟨h w hw, good_of_word (gt_good (h w hw))⟩
/-- the private constructors of nest mates, by their callers -/
def zNst : List (String × Nat × MethodName) := [(RX11, 9, yX8_init), (RX11, 18, yX7_init), (RX7, 11, yX9_init), (RX11, 25, yX5_init), (RX10, 11, yX9_init), (RX11, 49, yX0_init), (RX11, 56, yX1_init), (RX1, 11, yX0_init), (RX1, 27, yX9_init), (RX11, 63, yX2_init), (RX2, 11, yX0_init), (RX11, 70, yX3_init), (RX3, 11, yX9_init)]
/-- the String constants: class, place in its pool, text -/
def zStrs : List (String × Nat × String) := [(RX8, 55, "pen row column stiff way force ink here mine mark next day sky wind write if or and not "), (RX12, 268, "sky"), (RX12, 149, "pen"), (RX12, 270, "wind"), (RX12, 165, "mark"), (RX12, 308, "write"), (RX12, 151, "row"), (RX12, 153, "column"), (RX12, 155, "stiff"), (RX12, 156, "way"), (RX12, 157, "force"), (RX12, 159, "ink"), (RX12, 161, "here"), (RX12, 163, "mine"), (RX12, 167, "next"), (RX12, 169, "day"), (RX12, 310, "if"), (RX12, 250, "not"), (RX12, 264, "and"), (RX12, 266, "or")]
def zSb (i : Nat) : List Int32 := ((zStrs.getD i ("", 0, "")).2.2.toList).map fun c => Int32.ofNat c.toNat
def zSbs : List (List Int32) := (List.range 20).map zSb
def zSln : List Nat := zSbs.map List.length
abbrev zA (E : ZE) : Nat → Prop := fun q => eB E ≤ q
def zStr (E : ZE) (U : State) : Prop := vk_S 20 zSln zSbs E.2.2.2.1 E.2.2.2.2 (zA E) U U.heap ∧ (∀ (i : Nat) (q : String × Nat × String), zStrs[i]? = some q → vk_R q.1 q.2.1 q.2.2 (E.2.2.2.1 i) U) ∧ va_Z "java/lang/String" "COMPACT_STRINGS" "Z" (.int 1) (zA E) U U.heap ∧ va_Zq "jdk/internal/util/Preconditions" "SIOOBE_FORMATTER" "Ljava/util/function/BiFunction;" (zA E) U U.heap
def zEnv (E : ZE) (U : State) : Prop := va_K E.1 zcl (zty E) U ∧ (∀ q ∈ zNst, va_Nw (.methodLinkNest q.1 q.2.1 q.2.2 RX11) U) ∧ (va_AO RX4 U ∧ va_AO RX6 U ∧ va_AO RX10 U) ∧ zStr E U ∧ eB E ≤ U.heap.size
theorem va_Zq_moved {C n d : String} {A : Nat → Prop} {u U : State} {H : Heap} (hvm : u.vm.Alike U.vm) (h : va_Zq C n d A u H) : va_Zq C n d A U H := h.elim (fun h => Or.inl (va_Z.moved hvm h)) (fun ⟨t, h⟩ => Or.inr ⟨t, va_Z.moved hvm h⟩)
theorem va_Zq_kept {C n d : String} {A : Nat → Prop} {U : State} {H H1 : Heap} (h : va_Zq C n d A U H) (hq : ∀ a : Nat, a < H.size → ¬ A a → H1[a]? = H[a]?) : va_Zq C n d A U H1 := h.elim (fun h => Or.inl (va_Z.kept h hq)) (fun ⟨t, h⟩ => Or.inr ⟨t, va_Z.kept h hq⟩)
theorem zEnv.moved {E : ZE} {s U : State} (h : zEnv E s) (hW : s.WarmedH U.vm) (hS : s.heap.size ≤ U.heap.size) (hq : ∀ a : Nat, a < s.heap.size → ¬ eB E ≤ a → U.heap[a]? = s.heap[a]?) : zEnv E U := by
  obtain ⟨h1, h2, ⟨h3, h4, h5⟩, ⟨h6, h7, h8, h9⟩, h10⟩ := h
  refine ⟨va_K.moved hW.alike h1, fun q hq => va_Nw.warmM hW (h2 q hq), ⟨va_AO.moved hW.alike h3, va_AO.moved hW.alike h4, va_AO.moved hW.alike h5⟩, ⟨?_, ?_, ?_, ?_⟩, Nat.le_trans h10 hS⟩
  · exact vk_S.moved hW.alike (h6.kept hq)
  · exact fun i q hi => (h7 i q hi).warm hW
  · exact va_Z.moved hW.alike (h8.kept hq)
  · exact va_Zq_moved hW.alike (va_Zq_kept h9 hq)
theorem zEnv.called {E : ZE} {U : State} (h : zEnv E U) (g : JFrame) (mk : MethodId) (a : Array Value) : zEnv E (U.calling g mk a) := by
  obtain ⟨h1, h2, ⟨h3, h4, h5⟩, ⟨h6, h7, h8, h9⟩, h10⟩ := h
  have hv : U.vm.Alike (U.calling g mk a).vm := Vm.Alike.refl U.vm
  refine ⟨va_K.moved hv h1, fun q hq => va_Nw.same rfl rfl (h2 q hq), ⟨va_AO.moved hv h3, va_AO.moved hv h4, va_AO.moved hv h5⟩, ⟨?_, ?_, ?_, ?_⟩, h10⟩
  · exact vk_S.moved hv h6
  · exact fun i q hi => vk_R.same (u := U) rfl (h7 i q hi)
  · exact va_Z.moved hv h8
  · exact va_Zq_moved hv h9
/-! the judgement -/
abbrev ZC : Type := Program × Launch × Env × Room × State × MethodId × Array Value × List Frame × Method × Code
abbrev czp (C : ZC) : Program := C.1
abbrev czl (C : ZC) : Launch := C.2.1
abbrev cze (C : ZC) : Env := C.2.2.1
abbrev czR (C : ZC) : Room := C.2.2.2.1
abbrev czs (C : ZC) : State := C.2.2.2.2.1
abbrev czm (C : ZC) : MethodId := C.2.2.2.2.2.1
abbrev cza (C : ZC) : Array Value := C.2.2.2.2.2.2.1
abbrev czb (C : ZC) : List Frame := C.2.2.2.2.2.2.2.1
abbrev czh (C : ZC) : Method := C.2.2.2.2.2.2.2.2.1
abbrev czc (C : ZC) : Code := C.2.2.2.2.2.2.2.2.2
abbrev zW (C : ZC) (H : Heap) (locs : List Loc) (ce sl : Nat) (Q : State → Prop) (g : JFrame) : Prop := W (czp C) (czl C) (cze C) (czR C) (czs C) (czm C) (cza C) (czb C) (czh C) (czc C) H locs ce sl Q g
def zG (C : ZC) (E : ZE) (nL : Nat) (S : ZS) (ce sl : Nat) (Q : State → Prop) (pc : Nat) (l : ZL) (st : List ZV) (M : ZM) : Prop :=
  zOk S M → zVs l → zVt st → ∀ (H : Heap) (locs : List Loc) (ls : Array Slot), zRep E S M H → va_S (zA E) (czs C).heap H locs → zLs E ls nL l → zW C H locs ce sl Q (F0 (czm C) pc ls (st.map (zV E)))
/-- what stands fast through a method: its class by number, its code, its locals, what it returns, whether it is a constructor -/
def zCx (C : ZC) (E : ZE) (o : Nat) (cc : ByteArray) (nL : Nat) (ret : Option FieldType) (ini : Bool) : Prop :=
  (czp C).tables.exec = Jvm.exec ∧ (czc C).code = cc ∧ (czc C).maxLocals = nL ∧ (czs C).vm.findClass (zOwn o) = some (czm C).cls ∧ (∀ w ∈ gt, w.before (cza C) (czs C) = true) ∧ zEnv E (czs C) ∧ (czh C).sig.returnType = ret ∧ (czh C).locks = false ∧ (ini = true → (czh C).name = "<init>")
