/-! FLOW: branches, returns, contracts, calls, new cells -/
section
variable {C : ZC} {E : ZE} {o : Nat} {cc : ByteArray} {nL : Nat} {ret : Option FieldType} {ini : Bool} {S : ZS} {ce sl : Nat} {Q : State → Prop} {pc : Nat} {l : ZL} {st : List ZV} {M : ZM}
theorem zG.icmp_eq (hX : zCx C E o cc nL ret ini) {off : Int} {tgt : Nat} (hd : decode cc pc = .ok (.if_icmp .eq off, 3)) (ht : (pc : Int) + off = (tgt : Int)) {x y : Int} (kt : x = y → zG C E nL S ce sl Q tgt l st M) (kf : ¬ (x = y) → zG C E nL S ce sl Q (pc + 3) l st M) : zG C E nL S ce sl Q pc l ((0, y) :: (0, x) :: st) M := by
  intro hO hl hs H locs ls hR hS hL
  have h1 := hs.head
  have h2 := hs.tail.head
  have e := (i32_eq h2.i h1.i)
  exact lv_icmp_eq hX.1 hX.2.1 hd ht (fun q => kt (e.mp q) hO hl hs.tail.tail H locs ls hR hS hL) (fun q => kf (fun z => q (e.mpr z)) hO hl hs.tail.tail H locs ls hR hS hL)
theorem zG.if_eq (hX : zCx C E o cc nL ret ini) {off : Int} {tgt : Nat} (hd : decode cc pc = .ok (.ifCond .eq off, 3)) (ht : (pc : Int) + off = (tgt : Int)) {x : Int} (kt : x = 0 → zG C E nL S ce sl Q tgt l st M) (kf : ¬ (x = 0) → zG C E nL S ce sl Q (pc + 3) l st M) : zG C E nL S ce sl Q pc l ((0, x) :: st) M := by
  intro hO hl hs H locs ls hR hS hL
  have h1 := hs.head
  have e := (i32_eq h1.i in32_0)
  exact lv_if_eq hX.1 hX.2.1 hd ht (fun q => kt (e.mp q) hO hl hs.tail H locs ls hR hS hL) (fun q => kf (fun z => q (e.mpr z)) hO hl hs.tail H locs ls hR hS hL)
theorem zG.icmp_ne (hX : zCx C E o cc nL ret ini) {off : Int} {tgt : Nat} (hd : decode cc pc = .ok (.if_icmp .ne off, 3)) (ht : (pc : Int) + off = (tgt : Int)) {x y : Int} (kt : ¬ x = y → zG C E nL S ce sl Q tgt l st M) (kf : x = y → zG C E nL S ce sl Q (pc + 3) l st M) : zG C E nL S ce sl Q pc l ((0, y) :: (0, x) :: st) M := by
  intro hO hl hs H locs ls hR hS hL
  have h1 := hs.head
  have h2 := hs.tail.head
  have e := (not_congr (i32_eq h2.i h1.i))
  exact lv_icmp_ne hX.1 hX.2.1 hd ht (fun q => kt (e.mp q) hO hl hs.tail.tail H locs ls hR hS hL) (fun q => kf ((i32_eq h2.i h1.i).mp q) hO hl hs.tail.tail H locs ls hR hS hL)
theorem zG.if_ne (hX : zCx C E o cc nL ret ini) {off : Int} {tgt : Nat} (hd : decode cc pc = .ok (.ifCond .ne off, 3)) (ht : (pc : Int) + off = (tgt : Int)) {x : Int} (kt : ¬ x = 0 → zG C E nL S ce sl Q tgt l st M) (kf : x = 0 → zG C E nL S ce sl Q (pc + 3) l st M) : zG C E nL S ce sl Q pc l ((0, x) :: st) M := by
  intro hO hl hs H locs ls hR hS hL
  have h1 := hs.head
  have e := (not_congr (i32_eq h1.i in32_0))
  exact lv_if_ne hX.1 hX.2.1 hd ht (fun q => kt (e.mp q) hO hl hs.tail H locs ls hR hS hL) (fun q => kf ((i32_eq h1.i in32_0).mp q) hO hl hs.tail H locs ls hR hS hL)
theorem zG.icmp_lt (hX : zCx C E o cc nL ret ini) {off : Int} {tgt : Nat} (hd : decode cc pc = .ok (.if_icmp .lt off, 3)) (ht : (pc : Int) + off = (tgt : Int)) {x y : Int} (kt : x < y → zG C E nL S ce sl Q tgt l st M) (kf : ¬ (x < y) → zG C E nL S ce sl Q (pc + 3) l st M) : zG C E nL S ce sl Q pc l ((0, y) :: (0, x) :: st) M := by
  intro hO hl hs H locs ls hR hS hL
  have h1 := hs.head
  have h2 := hs.tail.head
  have e := (i32_lt h2.i h1.i)
  exact lv_icmp_lt hX.1 hX.2.1 hd ht (fun q => kt (e.mp q) hO hl hs.tail.tail H locs ls hR hS hL) (fun q => kf (fun z => q (e.mpr z)) hO hl hs.tail.tail H locs ls hR hS hL)
theorem zG.if_lt (hX : zCx C E o cc nL ret ini) {off : Int} {tgt : Nat} (hd : decode cc pc = .ok (.ifCond .lt off, 3)) (ht : (pc : Int) + off = (tgt : Int)) {x : Int} (kt : x < 0 → zG C E nL S ce sl Q tgt l st M) (kf : ¬ (x < 0) → zG C E nL S ce sl Q (pc + 3) l st M) : zG C E nL S ce sl Q pc l ((0, x) :: st) M := by
  intro hO hl hs H locs ls hR hS hL
  have h1 := hs.head
  have e := (i32_lt h1.i in32_0)
  exact lv_if_lt hX.1 hX.2.1 hd ht (fun q => kt (e.mp q) hO hl hs.tail H locs ls hR hS hL) (fun q => kf (fun z => q (e.mpr z)) hO hl hs.tail H locs ls hR hS hL)
theorem zG.icmp_ge (hX : zCx C E o cc nL ret ini) {off : Int} {tgt : Nat} (hd : decode cc pc = .ok (.if_icmp .ge off, 3)) (ht : (pc : Int) + off = (tgt : Int)) {x y : Int} (kt : y ≤ x → zG C E nL S ce sl Q tgt l st M) (kf : ¬ (y ≤ x) → zG C E nL S ce sl Q (pc + 3) l st M) : zG C E nL S ce sl Q pc l ((0, y) :: (0, x) :: st) M := by
  intro hO hl hs H locs ls hR hS hL
  have h1 := hs.head
  have h2 := hs.tail.head
  have e := (i32_le h1.i h2.i)
  exact lv_icmp_ge hX.1 hX.2.1 hd ht (fun q => kt (e.mp q) hO hl hs.tail.tail H locs ls hR hS hL) (fun q => kf (fun z => q (e.mpr z)) hO hl hs.tail.tail H locs ls hR hS hL)
theorem zG.if_ge (hX : zCx C E o cc nL ret ini) {off : Int} {tgt : Nat} (hd : decode cc pc = .ok (.ifCond .ge off, 3)) (ht : (pc : Int) + off = (tgt : Int)) {x : Int} (kt : 0 ≤ x → zG C E nL S ce sl Q tgt l st M) (kf : ¬ (0 ≤ x) → zG C E nL S ce sl Q (pc + 3) l st M) : zG C E nL S ce sl Q pc l ((0, x) :: st) M := by
  intro hO hl hs H locs ls hR hS hL
  have h1 := hs.head
  have e := (i32_le in32_0 h1.i)
  exact lv_if_ge hX.1 hX.2.1 hd ht (fun q => kt (e.mp q) hO hl hs.tail H locs ls hR hS hL) (fun q => kf (fun z => q (e.mpr z)) hO hl hs.tail H locs ls hR hS hL)
theorem zG.icmp_gt (hX : zCx C E o cc nL ret ini) {off : Int} {tgt : Nat} (hd : decode cc pc = .ok (.if_icmp .gt off, 3)) (ht : (pc : Int) + off = (tgt : Int)) {x y : Int} (kt : y < x → zG C E nL S ce sl Q tgt l st M) (kf : ¬ (y < x) → zG C E nL S ce sl Q (pc + 3) l st M) : zG C E nL S ce sl Q pc l ((0, y) :: (0, x) :: st) M := by
  intro hO hl hs H locs ls hR hS hL
  have h1 := hs.head
  have h2 := hs.tail.head
  have e := (i32_lt h1.i h2.i)
  exact lv_icmp_gt hX.1 hX.2.1 hd ht (fun q => kt (e.mp q) hO hl hs.tail.tail H locs ls hR hS hL) (fun q => kf (fun z => q (e.mpr z)) hO hl hs.tail.tail H locs ls hR hS hL)
theorem zG.if_gt (hX : zCx C E o cc nL ret ini) {off : Int} {tgt : Nat} (hd : decode cc pc = .ok (.ifCond .gt off, 3)) (ht : (pc : Int) + off = (tgt : Int)) {x : Int} (kt : 0 < x → zG C E nL S ce sl Q tgt l st M) (kf : ¬ (0 < x) → zG C E nL S ce sl Q (pc + 3) l st M) : zG C E nL S ce sl Q pc l ((0, x) :: st) M := by
  intro hO hl hs H locs ls hR hS hL
  have h1 := hs.head
  have e := (i32_lt in32_0 h1.i)
  exact lv_if_gt hX.1 hX.2.1 hd ht (fun q => kt (e.mp q) hO hl hs.tail H locs ls hR hS hL) (fun q => kf (fun z => q (e.mpr z)) hO hl hs.tail H locs ls hR hS hL)
theorem zG.icmp_le (hX : zCx C E o cc nL ret ini) {off : Int} {tgt : Nat} (hd : decode cc pc = .ok (.if_icmp .le off, 3)) (ht : (pc : Int) + off = (tgt : Int)) {x y : Int} (kt : x ≤ y → zG C E nL S ce sl Q tgt l st M) (kf : ¬ (x ≤ y) → zG C E nL S ce sl Q (pc + 3) l st M) : zG C E nL S ce sl Q pc l ((0, y) :: (0, x) :: st) M := by
  intro hO hl hs H locs ls hR hS hL
  have h1 := hs.head
  have h2 := hs.tail.head
  have e := (i32_le h2.i h1.i)
  exact lv_icmp_le hX.1 hX.2.1 hd ht (fun q => kt (e.mp q) hO hl hs.tail.tail H locs ls hR hS hL) (fun q => kf (fun z => q (e.mpr z)) hO hl hs.tail.tail H locs ls hR hS hL)
theorem zG.if_le (hX : zCx C E o cc nL ret ini) {off : Int} {tgt : Nat} (hd : decode cc pc = .ok (.ifCond .le off, 3)) (ht : (pc : Int) + off = (tgt : Int)) {x : Int} (kt : x ≤ 0 → zG C E nL S ce sl Q tgt l st M) (kf : ¬ (x ≤ 0) → zG C E nL S ce sl Q (pc + 3) l st M) : zG C E nL S ce sl Q pc l ((0, x) :: st) M := by
  intro hO hl hs H locs ls hR hS hL
  have h1 := hs.head
  have e := (i32_le h1.i in32_0)
  exact lv_if_le hX.1 hX.2.1 hd ht (fun q => kt (e.mp q) hO hl hs.tail H locs ls hR hS hL) (fun q => kf (fun z => q (e.mpr z)) hO hl hs.tail H locs ls hR hS hL)
theorem zG.goto (hX : zCx C E o cc nL ret ini) {off : Int} {tgt : Nat} (hd : decode cc pc = .ok (.goto off, 3)) (ht : (pc : Int) + off = (tgt : Int)) (k : zG C E nL S ce sl Q tgt l st M) : zG C E nL S ce sl Q pc l st M :=
  fun hO hl hs H locs ls hR hS hL => lv_goto hX.1 hX.2.1 hd ht (k hO hl hs H locs ls hR hS hL)
theorem zG.ifnonnull (hX : zCx C E o cc nL ret ini) {off : Int} {tgt : Nat} (hd : decode cc pc = .ok (.ifnonnull off, 3)) (ht : (pc : Int) + off = (tgt : Int)) {x : Int} (kt : 1 ≤ x → zG C E nL S ce sl Q tgt l st M) (kf : ¬ 1 ≤ x → zG C E nL S ce sl Q (pc + 3) l st M) : zG C E nL S ce sl Q pc l ((2, x) :: st) M := by
  intro hO hl hs H locs ls hR hS hL
  show zW C H locs ce sl Q (F0 (czm C) pc ls (zV E (2, x) :: st.map (zV E)))
  by_cases hx : 1 ≤ x
  · rw [zv_ref hx]
    exact lv_ifnonnull hX.1 hX.2.1 hd ht (kt hx hO hl hs.tail H locs ls hR hS hL)
  · rw [zv_null (by omega)]
    exact lv_ifnonnullN hX.1 hX.2.1 hd (kf hx hO hl hs.tail H locs ls hR hS hL)
theorem zG.tabIn (hX : zCx C E o cc nL ret ini) {dflt lo hi : Int} {offs : Array Int} {len : Nat} {x : Int} {off : Int} {tgt : Nat} (hd : decode cc pc = .ok (.tableswitch dflt lo hi offs, len)) (v : Int) (hv : x = v) (h1 : lo ≤ v ∧ v ≤ hi) (ho : offs[(v - lo).toNat]? = some off) (ht : (pc : Int) + off = (tgt : Int)) (k : zG C E nL S ce sl Q tgt l st M) : zG C E nL S ce sl Q pc l ((0, x) :: st) M := by
  intro hO hl hs H locs ls hR hS hL
  have hi := hs.head.i
  subst hv
  refine lv_tableIn hX.1 hX.2.1 hd ?_ ?_ ?_ ht (k hO hl hs.tail H locs ls hR hS hL)
  · rw [i32_to hi]; omega
  · rw [i32_to hi]; omega
  · rw [i32_to hi]; exact ho
theorem zG.tabOut (hX : zCx C E o cc nL ret ini) {dflt lo hi : Int} {offs : Array Int} {len : Nat} {x : Int} {tgt : Nat} (hd : decode cc pc = .ok (.tableswitch dflt lo hi offs, len)) (h : x < lo ∨ hi < x) (ht : (pc : Int) + dflt = (tgt : Int)) (k : zG C E nL S ce sl Q tgt l st M) : zG C E nL S ce sl Q pc l ((0, x) :: st) M := by
  intro hO hl hs H locs ls hR hS hL
  have hi := hs.head.i
  exact lv_tableOut hX.1 hX.2.1 hd (by rw [i32_to hi]; exact h) ht (k hO hl hs.tail H locs ls hR hS hL)
theorem zG.look (hX : zCx C E o cc nL ret ini) {dflt : Int} {ps : Array (Int × Int)} {len : Nat} {x : Int} {off : Int} {tgt : Nat} (hd : decode cc pc = .ok (.lookupswitch dflt ps, len)) (hp : (ps.toList.zip (ps.toList.drop 1)).all (fun (a, next) => a.1 < next.1) = true) (ho : Op.lookupswitch.offset ps.toList dflt x = off) (ht : (pc : Int) + off = (tgt : Int)) (k : zG C E nL S ce sl Q tgt l st M) : zG C E nL S ce sl Q pc l ((0, x) :: st) M := by
  intro hO hl hs H locs ls hR hS hL
  have hi := hs.head.i
  exact lv_lookup hX.1 hX.2.1 hd hp (by rw [i32_to hi]; exact ho) ht (k hO hl hs.tail H locs ls hR hS hL)
theorem zG.widen {ce' sl' : Nat} (h1 : ce ≤ ce') (h2 : sl ≤ sl') (k : zG C E nL S ce' sl' Q pc l st M) : zG C E nL S ce sl Q pc l st M :=
  fun hO hl hs H locs ls hR hS hL => W.widen h1 h2 (k hO hl hs H locs ls hR hS hL)
/-! what a method's end is -/
def zQc (E : ZE) (r : Option ZV) (S : ZS) (M : ZM) : Array Value → State → Outcome → State → Prop := fun _ st oc t => oc = .returned (r.map (zV E)) ∧ zRep E S M t.heap ∧ va_F (zA E) st t ∧ zOk S M ∧ ∀ v, r = some v → zVo v
def zQ (C : ZC) (E : ZE) (mc ms : Nat) (r : Option ZV) (S : ZS) (M : ZM) : State → Prop := MQ (czb C) (zQc E r S M) (cza C) (czs C) mc ms (zA E)
theorem zG.iret (hX : zCx C E o cc nL (some .int) ini) (hd : decode cc pc = .ok (.ireturn, 1)) {x : Int} : zG C E nL S ce sl (zQ C E ce sl (some (0, x)) S M) pc l [(0, x)] M := by
  intro hO hl hs H locs ls hR hS hL
  obtain ⟨hx, hb, hml, hown, hts, hEn, hret, hlk, hini⟩ := hX
  exact W.iret hx hb hret (fun t ht hW => ⟨rfl, by rw [ht]; exact hR, hS.F ht, hO, fun v hv => by cases hv; exact hs.head⟩) hS.2.2 hd hlk
theorem zG.zret (hX : zCx C E o cc nL (some .boolean) ini) (hd : decode cc pc = .ok (.ireturn, 1)) {x : Int} (hbo : x = 0 ∨ x = 1) : zG C E nL S ce sl (zQ C E ce sl (some (0, x)) S M) pc l [(0, x)] M := by
  intro hO hl hs H locs ls hR hS hL
  obtain ⟨hx, hb, hml, hown, hts, hEn, hret, hlk, hini⟩ := hX
  exact W.zret hx hb hret (by rcases hbo with rfl | rfl <;> rfl) (fun t ht hW => ⟨rfl, by rw [ht]; exact hR, hS.F ht, hO, fun v hv => by cases hv; exact hs.head⟩) hS.2.2 hd hlk
theorem zG.lret (hX : zCx C E o cc nL (some .long) ini) (hd : decode cc pc = .ok (.lreturn, 1)) {x : Int} : zG C E nL S ce sl (zQ C E ce sl (some (1, x)) S M) pc l [(1, x)] M := by
  intro hO hl hs H locs ls hR hS hL
  obtain ⟨hx, hb, hml, hown, hts, hEn, hret, hlk, hini⟩ := hX
  exact W.lret hx hb hret (fun t ht hW => ⟨rfl, by rw [ht]; exact hR, hS.F ht, hO, fun v hv => by cases hv; exact hs.head⟩) hS.2.2 hd hlk
theorem zG.vret (hX : zCx C E o cc nL none ini) (hd : decode cc pc = .ok (.return_, 1)) : zG C E nL S ce sl (zQ C E ce sl none S M) pc l [] M := by
  intro hO hl hs H locs ls hR hS hL
  obtain ⟨hx, hb, hml, hown, hts, hEn, hret, hlk, hini⟩ := hX
  exact W.vret hx hb hret (fun t ht hW => ⟨rfl, by rw [ht]; exact hR, hS.F ht, hO, fun v hv => by cases hv⟩) hS.2.2 hd hlk
theorem zG.aret {rt : FieldType} (hX : zCx C E o cc nL (some rt) ini) (hrt : (∃ n, rt = .object n) ∨ ∃ t, rt = .array t) (hd : decode cc pc = .ok (.areturn, 1)) {t : Nat} {x : Int} (ht2 : 2 ≤ t) : zG C E nL S ce sl (zQ C E ce sl (some (t, x)) S M) pc l [(t, x)] M := by
  intro hO hl hs H locs ls hR hS hL
  obtain ⟨hx, hb, hml, hown, hts, hEn, hret, hlk, hini⟩ := hX
  exact W.aret hx hb hret hrt (zv_A ht2) (fun t ht hW => ⟨rfl, by rw [ht]; exact hR, hS.F ht, hO, fun v hv => by cases hv; exact hs.head⟩) hS.2.2 hd hlk
end
/-! a method's contract -/
def zMet (l : Launch) (y : MethodName) (cc : ByteArray) (nL : Nat) (ret : Option FieldType) (fr lo mc ms : Nat) (E : ZE) (S : ZS) (M : ZM) (av : List ZV) (r : Option ZV) (S' : ZS) (M' : ZM) : Prop :=
  zOk S M → zVt av → Met l y (.code y cc nL ret :: gt) { frames := fr, cells := mc, slots := ms, locals := lo } (va_Pc (av.map (zV E)) (fun U => zRep E S M U.heap ∧ zEnv E U)) (zQc E r S' M') mc ms (zA E)
def zAl (av : List ZV) : ZL := av.flatMap fun v => if v.1 = 1 then [some v, none] else [some v]
def zArgs (av : List ZV) (nL : Nat) : ZL := zAl av ++ List.replicate (nL - (zAl av).length) none
theorem zAl_sl (E : ZE) (av : List ZV) : lg_sl (av.map (zV E)) = (zAl av).map (fun q => match q with | some v => Slot.val (zV E v) | none => Slot.second) := by
  induction av with
  | nil => rfl
  | cons v av ih =>
    have e1 : lg_sl ((v :: av).map (zV E)) = (if (zV E v).category = 2 then [Slot.val (zV E v), .second] else [Slot.val (zV E v)]) ++ lg_sl (av.map (zV E)) := rfl
    have e2 : zAl (v :: av) = (if v.1 = 1 then [some v, none] else [some v]) ++ zAl av := rfl
    rw [e1, e2, List.map_append, ih]
    by_cases h : v.1 = 1
    · rw [if_pos h, if_pos ((zV_cat E v).mpr h)]; rfl
    · rw [if_neg h, if_neg (fun q => h ((zV_cat E v).mp q))]; rfl
theorem zAl_mem {av : List ZV} {v : ZV} (h : some v ∈ zAl av) : v ∈ av := by
  unfold zAl at h
  obtain ⟨u, hu, h⟩ := List.mem_flatMap.mp h
  split at h
  · simp at h; exact h ▸ hu
  · simp at h; exact h ▸ hu
theorem zMet.of {l : Launch} {y : MethodName} {cc : ByteArray} {nL : Nat} {ret : Option FieldType} {fr lo mc ms : Nat} {E : ZE} {S : ZS} {M : ZM} {av : List ZV} {r : Option ZV} {S' : ZS} {M' : ZM} {o : Nat} {ini : Bool} (hy : plainName y.cls = true) (hown : y.cls = zOwn o) (hini : ini = true → y.name = "<init>") (hn : (zAl av).length ≤ nL)
    (body : ∀ C : ZC, zCx C E o cc nL ret ini → czl C = l → czR C = { frames := fr, cells := mc, slots := ms, locals := lo } → zG C E nL S 0 0 (zQ C E mc ms r S' M') 0 (zArgs av nL) [] M) : zMet l y cc nL ret fr lo mc ms E S M av r S' M' := by
  intro hO hV
  refine Met.ofW (cc := cc) (maxL := nL) (ret := ret) hy rfl ?_
  intro p e s m args below meth c s₁ B hml hv
  obtain ⟨rfl, hR, hEn⟩ := hv
  have hts := atoms_spec (ws := .code y cc nL ret :: gt) B.pre
  have hX : zCx (p, l, e, (headSpec (.code y cc nL ret :: gt) { frames := fr, cells := mc, slots := ms, locals := lo }).room, s, m, (av.map (zV E)).toArray, below, meth, c) E o cc nL ret ini := by
    refine ⟨B.exec, B.bytes, hml, ?_, fun w hw => hts w (List.mem_cons_of_mem _ hw), hEn, B.returns, B.notSynchronized, fun q => ?_⟩
    · rw [← hown]; exact findClass_of_methodNamed B.named
    · rw [← hini q]; exact (name_of_methodNamed B.named B.method).1
  have hG := body _ hX rfl rfl
  have hlen : (lg_sl (av.map (zV E))).length = (zAl av).length := by rw [zAl_sl, List.length_map]
  have hl := lv_entry (av.map (zV E)) (n := nL) (by rw [hlen]; exact hn)
  rw [lg_entry_eq]
  have hzl : zLs E ((lg_sl (av.map (zV E)) ++ List.replicate (nL - (lg_sl (av.map (zV E))).length) Slot.unset).toArray) nL (zArgs av nL) := by
    refine ⟨by unfold zArgs; rw [List.length_append, List.length_replicate]; omega, hl.1, hl.2.1, fun i v hi => ?_⟩
    unfold zArgs at hi
    have hil : i < (zAl av).length := by
      by_cases q : i < (zAl av).length
      · exact q
      · rw [List.getElem?_append_right (by omega), List.getElem?_replicate] at hi
        split at hi
        · cases hi
        · cases hi
    rw [List.getElem?_append_left hil] at hi
    rw [List.getElem?_toArray, List.getElem?_append_left (by rw [hlen]; exact hil), zAl_sl, List.getElem?_map, hi]
    rfl
  refine hG hO ?_ (fun v hv => by cases hv) s.heap [] _ hR va_S.rf hzl
  intro i v hi
  unfold zArgs at hi
  have hil : i < (zAl av).length := by
    by_cases q : i < (zAl av).length
    · exact q
    · rw [List.getElem?_append_right (by omega), List.getElem?_replicate] at hi
      split at hi
      · cases hi
      · cases hi
  rw [List.getElem?_append_left hil] at hi
  exact hV v (zAl_mem (List.mem_of_getElem? hi))
