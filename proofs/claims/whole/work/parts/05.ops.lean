theorem zOk.at {S : ZS} {M : ZM} (h : zOk S M) {a : Int} (ha : S.1 a ≠ -1) : (1 ≤ a ∧ a ≤ S.2.2) ∧ ((0 ≤ S.1 a ∧ S.1 a ≤ 12) ∨ (100 ≤ S.1 a ∧ S.1 a ≤ 106)) := (h.2.1 a).resolve_left ha
theorem zRf_at {E : ZE} {a : Int} (h : 1 ≤ a) : zRf E a = some (eB E + (a.toNat - 1)) := by
  unfold zRf; rw [if_neg (by omega)]
theorem zRf_0 {E : ZE} {a : Int} (h : a ≤ 0) : zRf E a = none := by
  unfold zRf; rw [if_pos h]
theorem zWl_at {E : ZE} {S : ZS} {M : ZM} (h : zOk S M) {a : Int} (ha : S.1 a ≠ -1) : (zWl E S M)[a.toNat - 1]? = some (eB E + (a.toNat - 1), zCell E (S.1 a) (S.2.1 a) (M a)) := by
  obtain ⟨⟨h1, h2⟩, -⟩ := h.at ha
  unfold zWl
  rw [List.getElem?_map, List.getElem?_range (by omega)]
  have e : ((a.toNat - 1 : Nat) : Int) + 1 = a := by omega
  simp only [Option.map_some, e]
theorem zWl_D (E : ZE) (S : ZS) (M : ZM) : va_D (zA E) (zWl E S M) := by
  have key : ∀ (k : Nat) (q : Nat × va_E), (zWl E S M)[k]? = some q → q.1 = eB E + k := by
    intro k q hk
    unfold zWl at hk
    rw [List.getElem?_map] at hk
    cases hr : (List.range S.2.2.toNat)[k]? with
    | none => rw [hr] at hk; cases hk
    | some z =>
      rw [hr] at hk
      have hz : z = k := by
        have := List.getElem?_eq_some_iff.mp hr
        obtain ⟨h1, h2⟩ := this
        simp at h2; omega
      subst hz
      cases hk
      rfl
  refine ⟨fun i j p q hi hj e => ?_, fun k q hk => ?_⟩
  · have h1 := key i p hi; have h2 := key j q hj; omega
  · rw [key k q hk]; exact Nat.le_add_right _ _
theorem zWl_set {E : ZE} {S : ZS} {M M' : ZM} {a : Int} {e : va_E} (h1 : 1 ≤ a) (h2 : a ≤ S.2.2) (he : e = zCell E (S.1 a) (S.2.1 a) (M' a)) (hM : ∀ b, b ≠ a → M' b = M b) : (zWl E S M).set (a.toNat - 1) (eB E + (a.toNat - 1), e) = zWl E S M' := by
  apply List.ext_getElem?
  intro k
  subst he
  unfold zWl
  by_cases hk : k = a.toNat - 1
  · subst hk
    have e : ((a.toNat - 1 : Nat) : Int) + 1 = a := by omega
    rw [List.getElem?_set_self (by simp; omega), List.getElem?_map, List.getElem?_range (by omega)]
    simp only [Option.map_some, e]
  · rw [List.getElem?_set_ne (Ne.symm hk), List.getElem?_map, List.getElem?_map]
    by_cases hl : k < S.2.2.toNat
    · rw [List.getElem?_range hl]
      simp only [Option.map_some]
      rw [hM _ (by omega)]
    · rw [List.getElem?_eq_none (by simp; omega)]
      rfl
theorem upM_ne {M : ZM} {a i v b : Int} (h : b ≠ a) : upM M a i v b = M b := by
  funext j; unfold upM; rw [if_neg (fun q => h q.1)]
theorem upM_at (M : ZM) (a i v : Int) : upM M a i v a = fun j => if j = i then v else M a j := by
  funext j; unfold upM; simp
theorem zOk_up {S : ZS} {M : ZM} (h : zOk S M) {a i v : Int} (h1 : in64 v) (h2 : S.1 a ≠ 101 → in32 v) : zOk S (upM M a i v) := by
  refine ⟨h.1, h.2.1, fun b j => ?_, h.2.2.2⟩
  unfold upM
  by_cases hc : b = a ∧ j = i
  · rw [if_pos hc]
    exact ⟨h1, fun q => h2 (hc.1 ▸ q)⟩
  · rw [if_neg hc]
    exact h.2.2.1 b j
theorem zCell_obj {E : ZE} {kd ln : Int} {row : Int → Int} (h : kd < 100) : zCell E kd ln row = .inr (kd.toNat, zFs E kd.toNat row) := by unfold zCell; rw [if_pos h]
theorem zCell_int {E : ZE} {kd ln : Int} {row : Int → Int} (h : kd = 100 ∨ kd = 102 ∨ kd = 103) : zCell E kd ln row = .inl (E.2.1 (kd - 100).toNat, ln.toNat, .inl fun j => Int32.ofInt (row j)) := by
  unfold zCell; rw [if_neg (by omega), if_neg (by omega), if_pos (by omega)]
theorem zCell_long {E : ZE} {ln : Int} {row : Int → Int} : zCell E 101 ln row = .inl (E.2.1 1, ln.toNat, .inr (.inl fun j => Int64.ofInt (row j))) := by
  unfold zCell; rw [if_neg (by omega), if_pos rfl]
theorem zCell_ref {E : ZE} {kd ln : Int} {row : Int → Int} (h : 104 ≤ kd) : zCell E kd ln row = .inl (E.2.1 (kd - 100).toNat, ln.toNat, .inr (.inr (.inr (.inr fun j => zRf E (row j))))) := by
  unfold zCell; rw [if_neg (by omega), if_neg (by omega), if_neg (by omega)]
theorem zFs_len (E : ZE) (ci : Nat) (row : Int → Int) : (zFs E ci row).length = zN ci := by unfold zFs; simp
theorem zFs_at {E : ZE} {ci k : Nat} {row : Int → Int} (h : k < zN ci) : (zFs E ci row)[k]? = some (zFv E (zTag (zTy ci k)) (row k)) := by
  unfold zFs; rw [List.getElem?_map, List.getElem?_range h]; rfl
theorem zFs_set {E : ZE} {ci k : Nat} {row : Int → Int} {v : Int} (h : k < zN ci) : (zFs E ci row).set k (zFv E (zTag (zTy ci k)) v) = zFs E ci (fun j => if j = (k : Int) then v else row j) := by
  apply List.ext_getElem?
  intro j
  by_cases hj : j = k
  · subst hj
    rw [List.getElem?_set_self (by rw [zFs_len]; exact h), zFs_at h, if_pos rfl]
  · rw [List.getElem?_set_ne (Ne.symm hj)]
    by_cases hl : j < zN ci
    · rw [zFs_at hl, zFs_at hl, if_neg (by omega)]
    · rw [List.getElem?_eq_none (by rw [zFs_len]; omega), List.getElem?_eq_none (by rw [zFs_len]; omega)]
/-! locals -/
def zAs (E : ZE) (l : ZL) : List (Nat × Value) := (List.range l.length).filterMap fun i => (zld l i).map fun v => (i, zV E v)
theorem zld_some {l : ZL} {i : Nat} {v : ZV} : zld l i = some v ↔ l[i]? = some (some v) := by
  unfold zld
  cases h : l[i]? with
  | none => simp
  | some o => cases o <;> simp
theorem zAs_in {E : ZE} {l : ZL} {q : Nat × Value} : q ∈ zAs E l ↔ ∃ v, l[q.1]? = some (some v) ∧ q.2 = zV E v := by
  unfold zAs
  rw [List.mem_filterMap]
  constructor
  · rintro ⟨i, hi, h⟩
    cases hz : zld l i with
    | none => rw [hz] at h; cases h
    | some v =>
      rw [hz] at h
      cases h
      exact ⟨v, zld_some.mp hz, rfl⟩
  · rintro ⟨v, h1, h2⟩
    obtain ⟨i, w⟩ := q
    have hl : i < l.length := (List.getElem?_eq_some_iff.mp h1).1
    refine ⟨i, List.mem_range.mpr hl, ?_⟩
    rw [zld_some.mpr h1]
    simp at h2
    simp [h2]
theorem zLs.has {E : ZE} {ls : Array Slot} {nL : Nat} {l : ZL} (h : zLs E ls nL l) : lv_has ls nL (zAs E l) := ⟨h.2.1, h.2.2.1, fun q hq => by
  obtain ⟨v, h1, h2⟩ := zAs_in.mp hq
  rw [h2]
  exact h.2.2.2 _ v h1⟩
theorem zV_cat (E : ZE) (v : ZV) : (zV E v).category = 2 ↔ v.1 = 1 := by
  obtain ⟨t, x⟩ := v
  match t with
  | 0 => simp [zV, Value.category]
  | 1 => simp [zV, Value.category]
  | 2 =>
    simp only [zV]
    cases zRf E x <;> simp [va_rf, Value.category]
  | 3 => simp [zV, Value.category]
  | 4 => simp [zV, Value.category]
  | n + 5 =>
    simp only [zV]
    cases (if x < 0 then none else some x.toNat) <;> simp [va_rf, Value.category]
theorem zclr_len (l : ZL) (i : Nat) : (zclr l i).length = l.length := by
  unfold zclr
  split
  · rfl
  · split
    · split <;> simp
    · rfl
theorem zclr_at {l : ZL} {i j : Nat} {u : ZV} (hj : j ≠ i) (h : (zclr l i)[j]? = some (some u)) : l[j]? = some (some u) ∧ ¬ (j + 1 = i ∧ u.1 = 1) := by
  unfold zclr at h
  split at h
  · exact ⟨h, by omega⟩
  · rename_i k
    split at h
    · rename_i v hv
      by_cases ht : v.1 = 1
      · rw [if_pos ht] at h
        by_cases hjk : j = k
        · subst hjk
          have hl : j < l.length := by
            have := List.getElem?_eq_some_iff.mp h
            simpa using this.1
          rw [List.getElem?_set_self hl] at h
          cases h
        · rw [List.getElem?_set_ne (Ne.symm hjk)] at h
          exact ⟨h, by omega⟩
      · rw [if_neg ht] at h
        refine ⟨h, fun q => ?_⟩
        have e : j = k := by omega
        subst e
        have := zld_some.mpr h
        rw [this] at hv
        cases hv
        exact ht q.2
    · rename_i hv
      refine ⟨h, fun q => ?_⟩
      have e : j = k := by omega
      subst e
      have := zld_some.mpr h
      rw [this] at hv
      cases hv
theorem zLs.st1 {E : ZE} {ls' : Array Slot} {nL : Nat} {l : ZL} {i : Nat} {v : ZV} (hl : l.length = nL)
    (h : lv_has ls' nL ((i, zV E v) :: (zAs E l).filter (fun q => !(q.1 == i) && !(q.1 + 1 == i && q.2.category == 2)))) : zLs E ls' nL (zst1 l i v) := by
  refine ⟨by unfold zst1; rw [List.length_set, zclr_len]; exact hl, h.1, h.2.1, fun j u hj => ?_⟩
  unfold zst1 at hj
  by_cases hji : j = i
  · subst hji
    have hl2 : j < (zclr l j).length := by
      have := (List.getElem?_eq_some_iff.mp hj).1
      simpa using this
    rw [List.getElem?_set_self hl2] at hj
    cases hj
    exact h.2.2 (j, zV E v) List.mem_cons_self
  · rw [List.getElem?_set_ne (Ne.symm hji)] at hj
    obtain ⟨h1, h2⟩ := zclr_at hji hj
    refine h.2.2 (j, zV E u) (List.mem_cons_of_mem _ (List.mem_filter.mpr ⟨zAs_in.mpr ⟨u, h1, rfl⟩, ?_⟩))
    have h3 : ¬ (j + 1 = i ∧ (zV E u).category = 2) := fun q => h2 ⟨q.1, (zV_cat E u).mp q.2⟩
    simp only [Bool.and_eq_true, Bool.not_eq_true', beq_eq_false_iff_ne, ne_eq, Bool.and_eq_false_iff]
    refine ⟨hji, ?_⟩
    by_cases q : j + 1 = i
    · exact Or.inr (fun z => h3 ⟨q, z⟩)
    · exact Or.inl q
theorem zVs.st1 {l : ZL} (h : zVs l) {i : Nat} {v : ZV} (hv : zVo v) : zVs (zst1 l i v) := by
  intro j u hj
  unfold zst1 at hj
  by_cases hji : j = i
  · subst hji
    have hl2 : j < (zclr l j).length := by
      have := (List.getElem?_eq_some_iff.mp hj).1
      simpa using this
    rw [List.getElem?_set_self hl2] at hj
    cases hj
    exact hv
  · rw [List.getElem?_set_ne (Ne.symm hji)] at hj
    exact h j u (zclr_at hji hj).1
theorem zVt.cons {v : ZV} {st : List ZV} (h1 : zVo v) (h2 : zVt st) : zVt (v :: st) := fun u hu => (List.mem_cons.mp hu).elim (fun e => e ▸ h1) (h2 u)
theorem zVt.head {v : ZV} {st : List ZV} (h : zVt (v :: st)) : zVo v := h v List.mem_cons_self
theorem zVt.tail {v : ZV} {st : List ZV} (h : zVt (v :: st)) : zVt st := fun u hu => h u (List.mem_cons_of_mem _ hu)
theorem zVo_i {x : Int} (h : in32 x) : zVo (0, x) := by unfold zVo; rw [if_neg (show ¬ (0 : Nat) = 1 by decide), if_pos (show (0 : Nat) ≤ 2 by decide)]; exact h
theorem zVo_l {x : Int} (h : in64 x) : zVo (1, x) := by unfold zVo; rw [if_pos rfl]; exact h
theorem zVo_r {x : Int} (h : in32 x) : zVo (2, x) := by unfold zVo; rw [if_neg (show ¬ (2 : Nat) = 1 by decide), if_pos (show (2 : Nat) ≤ 2 by decide)]; exact h
theorem zVo_s {t : Nat} (ht : 3 ≤ t) (x : Int) : zVo (t, x) := by unfold zVo; rw [if_neg (show ¬ t = 1 by omega), if_neg (show ¬ t ≤ 2 by omega)]; trivial
theorem zVo.i {x : Int} (h : zVo (0, x)) : in32 x := by unfold zVo at h; rw [if_neg (show ¬ (0 : Nat) = 1 by decide), if_pos (show (0 : Nat) ≤ 2 by decide)] at h; exact h
theorem zVo.l {x : Int} (h : zVo (1, x)) : in64 x := by unfold zVo at h; rw [if_pos rfl] at h; exact h
theorem zVo.r {x : Int} (h : zVo (2, x)) : in32 x := by unfold zVo at h; rw [if_neg (show ¬ (2 : Nat) = 1 by decide), if_pos (show (2 : Nat) ≤ 2 by decide)] at h; exact h
