/-! WHAT THE PRINTED WALKS USE -/
def zFU : Nat := 4000
def zlet {α β : Type} (x : α) (f : α → β) : β := f x
theorem zlt {α β : Type} {x : α} {f : α → Option β} {r : β} (h : zlet x f = some r) : f x = some r := h
theorem zif {α : Type} {c : Prop} {_ : Decidable c} {a : Option α} {r : α} (h : (if c then a else none) = some r) : c ∧ a = some r := by
  by_cases q : c
  · rw [if_pos q] at h; exact ⟨q, h⟩
  · rw [if_neg q] at h; cases h
theorem zbd {α β : Type} {x : Option α} {f : α → Option β} {r : β} (h : x.bind f = some r) : ∃ v, x = some v ∧ f v = some r := by
  cases x with
  | none => cases h
  | some v => exact ⟨v, rfl, h⟩
theorem zip {α : Type} {c : Prop} {_ : Decidable c} {a b : Option α} {r : α} (q : c) (h : (if c then a else b) = some r) : a = some r := by rw [if_pos q] at h; exact h
theorem zin {α : Type} {c : Prop} {_ : Decidable c} {a b : Option α} {r : α} (q : ¬ c) (h : (if c then a else b) = some r) : b = some r := by rw [if_neg q] at h; exact h
theorem z01_ite {c : Prop} {_ : Decidable c} {a b : Int} (ha : a = 0 ∨ a = 1) (hb : b = 0 ∨ b = 1) : (if c then a else b) = 0 ∨ (if c then a else b) = 1 := by
  by_cases q : c
  · rw [if_pos q]; exact ha
  · rw [if_neg q]; exact hb
def zmask : ZL → List Bool → ZL
  | a :: l, true :: bs => a :: zmask l bs
  | _ :: l, false :: bs => none :: zmask l bs
  | l, [] => l
  | [], _ => []
theorem zmask_len : ∀ (l : ZL) (bs : List Bool), (zmask l bs).length = l.length
  | [], [] => rfl
  | [], _ :: _ => rfl
  | _ :: _, [] => rfl
  | a :: l, true :: bs => by simp [zmask, zmask_len l bs]
  | a :: l, false :: bs => by simp [zmask, zmask_len l bs]
theorem zmask_at : ∀ (l : ZL) (bs : List Bool) (i : Nat) (v : ZV), (zmask l bs)[i]? = some (some v) → l[i]? = some (some v)
  | [], [], _, _, h => h
  | [], _ :: _, _, _, h => h
  | _ :: _, [], _, _, h => h
  | a :: l, true :: bs, 0, v, h => h
  | a :: l, true :: bs, i + 1, v, h => zmask_at l bs i v h
  | a :: l, false :: bs, 0, v, h => by cases h
  | a :: l, false :: bs, i + 1, v, h => zmask_at l bs i v h
section
variable {C : ZC} {E : ZE} {o : Nat} {cc : ByteArray} {nL : Nat} {ret : Option FieldType} {ini : Bool} {S : ZS} {ce sl : Nat} {Q : State → Prop} {pc : Nat} {l : ZL} {st : List ZV} {M : ZM} {idx : Nat}
theorem zG.wk (bs : List Bool) (k : zG C E nL S ce sl Q pc (zmask l bs) st M) : zG C E nL S ce sl Q pc l st M :=
  fun hO hl hs H locs ls hR hS hL => k hO (fun i v h => hl i v (zmask_at l bs i v h)) hs H locs ls hR hS ⟨(zmask_len l bs).trans hL.1, hL.2.1, hL.2.2.1, fun i v h => hL.2.2.2 i v (zmask_at l bs i v h)⟩
theorem zG.min (hX : zCx C E o cc nL ret ini) (h1 : Cond.methodLink (zOwn o) idx Lib.Math.min.name ∈ gt) (h2 : Cond.static Lib.Math.min.name ∈ gt) (h3 : Cond.initialized "java/lang/Math" ∈ gt) (h4 : Cond.code Lib.Math.min.name Lib.Math.min.code 2 (some .int) ∈ gt) (hd : decode cc pc = .ok (.invokestatic idx, 3)) (hR1 : 1 ≤ (czR C).frames ∧ (st.map fun v => if v.1 = 1 then 2 else 1).sum + 13 ≤ (czR C).locals) (hR2 : ce ≤ (czR C).cells ∧ sl ≤ (czR C).slots) {x y : Int}
    (k : zG C E nL S ce sl Q (pc + 3) l ((0, if y < x then y else x) :: st) M) : zG C E nL S ce sl Q pc l ((0, y) :: (0, x) :: st) M := by
  intro hO hl hs H locs ls hR hS hL
  obtain ⟨hx, hbc, hml, hown, hts, -⟩ := hX
  have hy := hs.head.i
  have hx2 := hs.tail.head.i
  have key := k hO hl (hs.tail.tail.cons (v := (0, if y < x then y else x)) (zVo_i (by split <;> assumption))) H locs ls hR hS hL
  refine va_mmin hx hbc (by rw [hml]; exact hL.2.1.symm) hown (hts _ h1) (hts _ h2) (hts _ h3) (hts _ h4) hR1.1 (by rw [zCat]; exact hR1.2) hR2.1 hR2.2 hd ?_
  have e : (if Int32.ofInt y < Int32.ofInt x then Int32.ofInt y else Int32.ofInt x) = Int32.ofInt (if y < x then y else x) := by
    by_cases q : y < x
    · rw [if_pos q, if_pos ((i32_lt hy hx2).mpr q)]
    · rw [if_neg q, if_neg (fun z => q ((i32_lt hy hx2).mp z))]
  rw [e]
  exact key
end
theorem zSC_link {o idx ci : Nat} (h : zSC o idx ci) : Cond.classLink (zOwn o) idx (zOwn ci) ∈ gt := h.2.1
theorem so_1 : Cond.instanceMethod Lib.objectInit ∈ gt := gt_at 132 (by decide +kernel) rfl
theorem so_2 : Cond.code Lib.objectInit ⟨#[0xb1]⟩ 1 none ∈ gt := gt_at 133 (by decide +kernel) rfl
theorem sk_1 : Cond.native arraycopyName ∈ gt := gt_at 660 (by decide +kernel) rfl
theorem sk_2 : Cond.static arraycopyName ∈ gt := gt_at 659 (by decide +kernel) rfl
theorem sk_3 : Cond.initialized "java/lang/System" ∈ gt := gt_at 122 (by decide +kernel) rfl
theorem sm_max_1 : Cond.static Lib.Math.max.name ∈ gt := gt_at 1046 (by decide +kernel) rfl
theorem sm_max_2 : Cond.code Lib.Math.max.name Lib.Math.max.code 2 (some .int) ∈ gt := gt_at 1047 (by decide +kernel) rfl
theorem sm_min_1 : Cond.static Lib.Math.min.name ∈ gt := gt_at 729 (by decide +kernel) rfl
theorem sm_min_2 : Cond.code Lib.Math.min.name Lib.Math.min.code 2 (some .int) ∈ gt := gt_at 730 (by decide +kernel) rfl
theorem sm_1 : Cond.initialized "java/lang/Math" ∈ gt := gt_at 124 (by decide +kernel) rfl
