theorem fl_ex : ∀ i : Nat, i < 20 → (flatC (Jvm.Cond.and given_1 narrow_1))[([48, 140, 148, 157, 168, 180, 194, 207, 224, 241, 257, 276, 294, 314, 335, 357, 379, 401, 425, 450].getD i 0)]? = some (Cond.exactly (zTm i) "java/lang/String") := by decide +kernel
theorem fl_co : ∀ i : Nat, i < 20 → (flatC (Jvm.Cond.and given_1 narrow_1))[([49, 141, 149, 158, 169, 181, 195, 208, 225, 242, 258, 277, 295, 315, 336, 358, 380, 402, 426, 451].getD i 0)]? = some (Cond.eq (.field (zTm i) "java/lang/String" "coder" "B") (.int 0)) := by decide +kernel
theorem fl_ar : ∀ i : Nat, i < 20 → (flatC (Jvm.Cond.and given_1 narrow_1))[([50, 142, 150, 159, 170, 182, 196, 209, 226, 243, 259, 278, 296, 316, 337, 359, 381, 403, 427, 452].getD i 0)]? = some (Cond.arrayOf (.field (zTm i) "java/lang/String" "value" "[B") .byte) := by decide +kernel
theorem fl_le : ∀ i : Nat, i < 20 → (flatC (Jvm.Cond.and given_1 narrow_1))[([51, 143, 151, 160, 171, 183, 197, 210, 227, 244, 260, 279, 297, 317, 338, 360, 382, 404, 428, 453].getD i 0)]? = some (Cond.eq (.length (.field (zTm i) "java/lang/String" "value" "[B")) (.int (Int32.ofNat (zSln.getD i 0)))) := by decide +kernel
theorem fl_cs : (flatC (Jvm.Cond.and given_1 narrow_1))[4]? = some (Cond.eq (.static "java/lang/String" "COMPACT_STRINGS" "Z") (.int 1)) := by decide +kernel
theorem fl_fm : (flatC (Jvm.Cond.and given_1 narrow_1))[5]? = some (Cond.isRef (.static "jdk/internal/util/Preconditions" "SIOOBE_FORMATTER" "Ljava/util/function/BiFunction;")) := by decide +kernel
theorem zSln_eq : zSln = [88, 3, 3, 4, 4, 5, 3, 6, 5, 3, 5, 3, 4, 4, 4, 3, 2, 3, 3, 2] := by decide +kernel
theorem fl_el : ∀ i : Nat, i < 20 → ∀ j : Nat, j < zSln.getD i 0 → Cond.eq (.elem (.field (zTm i) "java/lang/String" "value" "[B") (.int (Int32.ofNat j))) (.int ((zSbs.getD i []).getD j 0)) ∈ flatC (Jvm.Cond.and given_1 narrow_1) := by
  intro i hi j hj
  rw [zSln_eq] at hj
  match i, hi with
  | 0, _ => exact List.mem_of_getElem? (fl_el0 j hj)
  | 1, _ => exact List.mem_of_getElem? (fl_el1 j hj)
  | 2, _ => exact List.mem_of_getElem? (fl_el2 j hj)
  | 3, _ => exact List.mem_of_getElem? (fl_el3 j hj)
  | 4, _ => exact List.mem_of_getElem? (fl_el4 j hj)
  | 5, _ => exact List.mem_of_getElem? (fl_el5 j hj)
  | 6, _ => exact List.mem_of_getElem? (fl_el6 j hj)
  | 7, _ => exact List.mem_of_getElem? (fl_el7 j hj)
  | 8, _ => exact List.mem_of_getElem? (fl_el8 j hj)
  | 9, _ => exact List.mem_of_getElem? (fl_el9 j hj)
  | 10, _ => exact List.mem_of_getElem? (fl_el10 j hj)
  | 11, _ => exact List.mem_of_getElem? (fl_el11 j hj)
  | 12, _ => exact List.mem_of_getElem? (fl_el12 j hj)
  | 13, _ => exact List.mem_of_getElem? (fl_el13 j hj)
  | 14, _ => exact List.mem_of_getElem? (fl_el14 j hj)
  | 15, _ => exact List.mem_of_getElem? (fl_el15 j hj)
  | 16, _ => exact List.mem_of_getElem? (fl_el16 j hj)
  | 17, _ => exact List.mem_of_getElem? (fl_el17 j hj)
  | 18, _ => exact List.mem_of_getElem? (fl_el18 j hj)
  | 19, _ => exact List.mem_of_getElem? (fl_el19 j hj)
  | n + 20, h => exact absurd h (by omega)
theorem zBif {a b : Cond} {L : List Cond} {k : Nat} {t : Bool} (h : L[k]? = some (bif t then a else b)) : a ∈ L ∨ b ∈ L := by
  cases t with
  | true => exact Or.inl (List.mem_of_getElem? h)
  | false => exact Or.inr (List.mem_of_getElem? h)
theorem fl_ne : ∀ i : Nat, i < 20 → ∀ j : Nat, j < 20 → i ≠ j → Cond.not (Cond.eq (zTm i) (zTm j)) ∈ flatC (Jvm.Cond.and given_1 narrow_1) ∨ Cond.not (Cond.eq (zTm j) (zTm i)) ∈ flatC (Jvm.Cond.and given_1 narrow_1) := by
  intro i hi j hj hne
  match i, hi with
  | 0, _ => exact zBif (fl_ne0 j hj hne)
  | 1, _ => exact zBif (fl_ne1 j hj hne)
  | 2, _ => exact zBif (fl_ne2 j hj hne)
  | 3, _ => exact zBif (fl_ne3 j hj hne)
  | 4, _ => exact zBif (fl_ne4 j hj hne)
  | 5, _ => exact zBif (fl_ne5 j hj hne)
  | 6, _ => exact zBif (fl_ne6 j hj hne)
  | 7, _ => exact zBif (fl_ne7 j hj hne)
  | 8, _ => exact zBif (fl_ne8 j hj hne)
  | 9, _ => exact zBif (fl_ne9 j hj hne)
  | 10, _ => exact zBif (fl_ne10 j hj hne)
  | 11, _ => exact zBif (fl_ne11 j hj hne)
  | 12, _ => exact zBif (fl_ne12 j hj hne)
  | 13, _ => exact zBif (fl_ne13 j hj hne)
  | 14, _ => exact zBif (fl_ne14 j hj hne)
  | 15, _ => exact zBif (fl_ne15 j hj hne)
  | 16, _ => exact zBif (fl_ne16 j hj hne)
  | 17, _ => exact zBif (fl_ne17 j hj hne)
  | 18, _ => exact zBif (fl_ne18 j hj hne)
  | 19, _ => exact zBif (fl_ne19 j hj hne)
  | n + 20, h => exact absurd h (by omega)
