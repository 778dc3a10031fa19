/-! links and constants, by the class that bears them -/
def zFl (o : Nat) : List (Nat × Nat × Nat × Nat) := match o with
  | 0 => [(9, 0, 0, 378), (15, 0, 1, 379), (18, 0, 2, 380), (26, 6, 4, 295), (49, 6, 5, 299), (58, 9, 3, 190), (87, 9, 1, 182), (90, 6, 2, 286), (93, 6, 0, 277), (102, 6, 1, 281), (105, 9, 9, 210), (116, 6, 3, 292), (119, 6, 6, 304), (122, 9, 2, 187)]
  | 1 => [(12, 1, 0, 401), (21, 1, 1, 402), (28, 1, 2, 403), (32, 1, 3, 404), (36, 1, 4, 405), (39, 10, 1, 329), (48, 10, 0, 325), (59, 9, 1, 179), (67, 6, 5, 300), (78, 6, 4, 296), (87, 9, 3, 193), (90, 6, 2, 287), (93, 6, 3, 291), (96, 6, 0, 278), (106, 9, 4, 197), (113, 6, 1, 283), (123, 10, 8, 346), (134, 6, 6, 305)]
  | 2 => [(12, 2, 0, 427), (21, 2, 1, 428), (25, 2, 2, 429), (35, 10, 1, 331), (44, 10, 0, 326), (71, 10, 7, 343), (75, 10, 4, 337), (92, 6, 5, 301), (95, 6, 2, 288), (98, 10, 5, 339), (101, 10, 6, 341), (104, 9, 1, 184)]
  | 3 => [(12, 3, 0, 445), (18, 3, 1, 446), (22, 3, 2, 447), (25, 3, 3, 448), (28, 10, 0, 324), (35, 10, 1, 330), (39, 6, 2, 285), (48, 6, 0, 276), (55, 3, 4, 449), (70, 9, 1, 180)]
  | 4 => [(9, 4, 0, 736)]
  | 5 => [(9, 5, 0, 246), (20, 5, 1, 247), (24, 5, 2, 248), (35, 8, 5, 147)]
  | 6 => [(9, 6, 0, 275), (15, 6, 1, 280), (18, 6, 2, 284), (21, 6, 3, 290), (30, 9, 5, 200), (39, 9, 6, 203), (40, 6, 4, 294), (44, 6, 5, 298), (47, 6, 6, 303), (50, 9, 1, 183), (53, 9, 9, 211)]
  | 7 => [(12, 7, 0, 235), (34, 8, 5, 146), (65, 9, 3, 191), (68, 9, 4, 196), (75, 9, 0, 176), (78, 9, 1, 181), (81, 9, 2, 186), (84, 9, 5, 201), (88, 9, 6, 204), (91, 9, 7, 206), (94, 9, 8, 208), (97, 9, 9, 212)]
  | 8 => [(9, 8, 0, 140), (15, 8, 2, 143), (18, 8, 3, 144), (21, 8, 1, 142), (36, 8, 4, 145), (39, 8, 5, 148)]
  | 9 => [(9, 9, 5, 199), (15, 9, 6, 202), (18, 9, 7, 205), (21, 9, 8, 207), (24, 9, 9, 209), (27, 9, 0, 175), (31, 9, 1, 178), (34, 9, 2, 185), (37, 9, 3, 189), (40, 9, 4, 195)]
  | 10 => [(12, 10, 0, 323), (21, 10, 1, 328), (25, 10, 2, 333), (29, 10, 4, 336), (33, 10, 5, 338), (36, 10, 6, 340), (39, 10, 9, 348), (50, 10, 3, 334), (53, 10, 7, 342), (65, 10, 8, 345), (79, 9, 3, 194)]
  | 11 => [(10, 11, 0, 461), (19, 11, 1, 462), (26, 11, 2, 463), (32, 11, 3, 464), (39, 11, 5, 466), (43, 11, 6, 467), (50, 11, 7, 468), (57, 11, 8, 469), (64, 11, 9, 470), (71, 11, 10, 471), (75, 8, 1, 141), (87, 7, 0, 236), (95, 10, 0, 327), (96, 9, 3, 192), (101, 11, 4, 465), (112, 10, 9, 349), (119, 10, 1, 332), (123, 6, 0, 279), (129, 6, 1, 282), (142, 6, 2, 289), (145, 6, 3, 293), (148, 9, 9, 213), (155, 6, 5, 302), (169, 6, 4, 297), (176, 10, 3, 335), (231, 10, 7, 344), (245, 10, 8, 347), (251, 9, 0, 177), (254, 9, 2, 188), (257, 9, 4, 198), (260, 6, 6, 306)]
  | 12 => [(9, 12, 1, 1128), (13, 12, 2, 1129), (16, 12, 3, 1130), (19, 12, 4, 1131), (22, 12, 5, 1132), (25, 12, 6, 1133), (28, 12, 7, 1134), (31, 12, 8, 1135), (34, 12, 9, 1136), (37, 12, 10, 1137), (40, 12, 11, 1138), (43, 12, 12, 1139), (46, 12, 13, 1140), (49, 12, 14, 1141), (52, 12, 15, 1142), (55, 12, 16, 1143), (58, 12, 17, 1144), (61, 12, 18, 1145), (64, 12, 19, 1146), (67, 12, 29, 1156), (71, 12, 30, 1157), (75, 12, 31, 1158), (78, 12, 32, 1159), (81, 12, 33, 1160), (84, 12, 34, 1161), (87, 12, 35, 1162), (90, 12, 36, 1163), (93, 12, 37, 1164), (96, 12, 38, 1165), (100, 12, 39, 1166), (103, 12, 40, 1167), (106, 12, 41, 1168), (109, 12, 45, 1172), (112, 12, 46, 1173), (115, 12, 47, 1174), (118, 12, 48, 1175), (121, 12, 49, 1176), (124, 12, 50, 1177), (127, 12, 51, 1178), (142, 12, 20, 1147), (171, 12, 22, 1149), (174, 12, 21, 1148), (200, 12, 23, 1150), (203, 12, 25, 1152), (206, 12, 27, 1154), (241, 12, 28, 1155), (244, 12, 26, 1153), (305, 12, 42, 1169), (318, 12, 24, 1151), (384, 12, 44, 1171), (388, 12, 43, 1170), (498, 12, 53, 1180), (501, 12, 52, 1179)]
  | _ => []
def zCn : List (Nat × Nat × Int × Nat) := [(15, 265, 1431655765, 940), (15, 266, 858993459, 941), (15, 267, 252645135, 942), (1, 129, 65536, 1100), (12, 217, 99999, 1356), (12, 455, -100000, 1674), (12, 492, 65536, 1741)]
def zLn : List (Nat × Nat × Int × Nat) := [(1, 137, 1103515245, 1097), (1, 139, 12345, 1098), (1, 141, 2147483647, 1099), (12, 180, 48, 1365), (12, 182, 57, 1366), (12, 324, -1, 1459), (12, 348, 2, 1484), (12, 408, 9, 1578), (12, 422, 3, 1587), (12, 424, 100, 1588), (12, 440, 60, 1637), (12, 456, 4, 1669), (12, 466, 20, 1683), (12, 475, 9999, 1696), (12, 493, 10, 1733), (12, 486, 1103515245, 1738), (12, 488, 12345, 1739), (12, 490, 2147483648, 1740)]
theorem zFl_ok0 : ∀ e ∈ zFl 0, e.2.1 < 13 ∧ e.2.2.1 < zN e.2.1 ∧ lw_tbl[e.2.2.2]? = some (Cond.fieldLink (zOwn 0) e.1 (zOwn e.2.1) (zTT e.2.1 e.2.2.1).2.1 (zTT e.2.1 e.2.2.1).2.2.1) := by decide +kernel
theorem zFl_ok1 : ∀ e ∈ zFl 1, e.2.1 < 13 ∧ e.2.2.1 < zN e.2.1 ∧ lw_tbl[e.2.2.2]? = some (Cond.fieldLink (zOwn 1) e.1 (zOwn e.2.1) (zTT e.2.1 e.2.2.1).2.1 (zTT e.2.1 e.2.2.1).2.2.1) := by decide +kernel
theorem zFl_ok2 : ∀ e ∈ zFl 2, e.2.1 < 13 ∧ e.2.2.1 < zN e.2.1 ∧ lw_tbl[e.2.2.2]? = some (Cond.fieldLink (zOwn 2) e.1 (zOwn e.2.1) (zTT e.2.1 e.2.2.1).2.1 (zTT e.2.1 e.2.2.1).2.2.1) := by decide +kernel
theorem zFl_ok3 : ∀ e ∈ zFl 3, e.2.1 < 13 ∧ e.2.2.1 < zN e.2.1 ∧ lw_tbl[e.2.2.2]? = some (Cond.fieldLink (zOwn 3) e.1 (zOwn e.2.1) (zTT e.2.1 e.2.2.1).2.1 (zTT e.2.1 e.2.2.1).2.2.1) := by decide +kernel
theorem zFl_ok4 : ∀ e ∈ zFl 4, e.2.1 < 13 ∧ e.2.2.1 < zN e.2.1 ∧ lw_tbl[e.2.2.2]? = some (Cond.fieldLink (zOwn 4) e.1 (zOwn e.2.1) (zTT e.2.1 e.2.2.1).2.1 (zTT e.2.1 e.2.2.1).2.2.1) := by decide +kernel
theorem zFl_ok5 : ∀ e ∈ zFl 5, e.2.1 < 13 ∧ e.2.2.1 < zN e.2.1 ∧ lw_tbl[e.2.2.2]? = some (Cond.fieldLink (zOwn 5) e.1 (zOwn e.2.1) (zTT e.2.1 e.2.2.1).2.1 (zTT e.2.1 e.2.2.1).2.2.1) := by decide +kernel
theorem zFl_ok6 : ∀ e ∈ zFl 6, e.2.1 < 13 ∧ e.2.2.1 < zN e.2.1 ∧ lw_tbl[e.2.2.2]? = some (Cond.fieldLink (zOwn 6) e.1 (zOwn e.2.1) (zTT e.2.1 e.2.2.1).2.1 (zTT e.2.1 e.2.2.1).2.2.1) := by decide +kernel
theorem zFl_ok7 : ∀ e ∈ zFl 7, e.2.1 < 13 ∧ e.2.2.1 < zN e.2.1 ∧ lw_tbl[e.2.2.2]? = some (Cond.fieldLink (zOwn 7) e.1 (zOwn e.2.1) (zTT e.2.1 e.2.2.1).2.1 (zTT e.2.1 e.2.2.1).2.2.1) := by decide +kernel
theorem zFl_ok8 : ∀ e ∈ zFl 8, e.2.1 < 13 ∧ e.2.2.1 < zN e.2.1 ∧ lw_tbl[e.2.2.2]? = some (Cond.fieldLink (zOwn 8) e.1 (zOwn e.2.1) (zTT e.2.1 e.2.2.1).2.1 (zTT e.2.1 e.2.2.1).2.2.1) := by decide +kernel
theorem zFl_ok9 : ∀ e ∈ zFl 9, e.2.1 < 13 ∧ e.2.2.1 < zN e.2.1 ∧ lw_tbl[e.2.2.2]? = some (Cond.fieldLink (zOwn 9) e.1 (zOwn e.2.1) (zTT e.2.1 e.2.2.1).2.1 (zTT e.2.1 e.2.2.1).2.2.1) := by decide +kernel
theorem zFl_ok10 : ∀ e ∈ zFl 10, e.2.1 < 13 ∧ e.2.2.1 < zN e.2.1 ∧ lw_tbl[e.2.2.2]? = some (Cond.fieldLink (zOwn 10) e.1 (zOwn e.2.1) (zTT e.2.1 e.2.2.1).2.1 (zTT e.2.1 e.2.2.1).2.2.1) := by decide +kernel
theorem zFl_ok11 : ∀ e ∈ zFl 11, e.2.1 < 13 ∧ e.2.2.1 < zN e.2.1 ∧ lw_tbl[e.2.2.2]? = some (Cond.fieldLink (zOwn 11) e.1 (zOwn e.2.1) (zTT e.2.1 e.2.2.1).2.1 (zTT e.2.1 e.2.2.1).2.2.1) := by decide +kernel
theorem zFl_ok12 : ∀ e ∈ zFl 12, e.2.1 < 13 ∧ e.2.2.1 < zN e.2.1 ∧ lw_tbl[e.2.2.2]? = some (Cond.fieldLink (zOwn 12) e.1 (zOwn e.2.1) (zTT e.2.1 e.2.2.1).2.1 (zTT e.2.1 e.2.2.1).2.2.1) := by decide +kernel
theorem zFl_ok (o : Nat) : ∀ e ∈ zFl o, e.2.1 < 13 ∧ e.2.2.1 < zN e.2.1 ∧ lw_tbl[e.2.2.2]? = some (Cond.fieldLink (zOwn o) e.1 (zOwn e.2.1) (zTT e.2.1 e.2.2.1).2.1 (zTT e.2.1 e.2.2.1).2.2.1) := match o with
  | 0 => zFl_ok0
  | 1 => zFl_ok1
  | 2 => zFl_ok2
  | 3 => zFl_ok3
  | 4 => zFl_ok4
  | 5 => zFl_ok5
  | 6 => zFl_ok6
  | 7 => zFl_ok7
  | 8 => zFl_ok8
  | 9 => zFl_ok9
  | 10 => zFl_ok10
  | 11 => zFl_ok11
  | 12 => zFl_ok12
  | n + 13 => fun e h => by cases h
theorem zCn_ok : ∀ e ∈ zCn, lw_tbl[e.2.2.2]? = some (Cond.constant (zOwn e.1) e.2.1 (Int32.ofInt e.2.2.1)) ∧ (-2147483648 ≤ e.2.2.1 ∧ e.2.2.1 ≤ 2147483647) := by decide +kernel
theorem zLn_ok : ∀ e ∈ zLn, lw_tbl[e.2.2.2]? = some (Cond.constantLong (zOwn e.1) e.2.1 (Int64.ofInt e.2.2.1)) ∧ (-9223372036854775808 ≤ e.2.2.1 ∧ e.2.2.1 ≤ 9223372036854775807) := by decide +kernel
def zFlk (o idx : Nat) (ci k : Int) (t : Nat) : Bool := ((zFl o).any fun e => e.1 == idx && (e.2.1 : Int) == ci && (e.2.2.1 : Int) == k) && t == zTag (zTy ci.toNat k.toNat)
def zCnk (o idx : Nat) (v : Int) : Bool := zCn.any fun e => e.1 == o && e.2.1 == idx && e.2.2.1 == v
def zLnk (o idx : Nat) (v : Int) : Bool := zLn.any fun e => e.1 == o && e.2.1 == idx && e.2.2.1 == v
def zlk (o : Nat) (ini : Bool) (q : ZO) : Bool := match q.1 with
  | .iconst n => decide (-1 ≤ n) && decide (n ≤ 5)
  | .bipush n => decide (-128 ≤ n) && decide (n ≤ 127)
  | .sipush n => decide (-32768 ≤ n) && decide (n ≤ 32767)
  | .ldc i => zCnk o i q.2.1
  | .ldc_w i => zCnk o i q.2.1
  | .ldc2_w i => zLnk o i q.2.1
  | .lconst n => q.2.1 == ((n.val : Nat) : Int)
  | .getfield i => zFlk o i q.2.1 q.2.2.1 q.2.2.2
  | .putfield i => zFlk o i q.2.1 q.2.2.1 q.2.2.2 && ((zTT q.2.1.toNat q.2.2.1.toNat).2.2.2 == false || (ini && q.2.1 == (o : Int)))
  | .iinc _ n => decide (-128 ≤ n) && decide (n ≤ 127)
  | .baload => q.2.1 == 102 || q.2.1 == 103
  | .bastore => q.2.1 == 102 || q.2.1 == 103
  | .aaload => decide (104 ≤ q.2.1) && decide (q.2.1 ≤ 106)
  | .aastore => (q.2.1 == 104 && q.2.2.1 == 4) || (q.2.1 == 105 && q.2.2.1 == 6) || (q.2.1 == 106 && q.2.2.1 == 10)
  | .arraylength => decide (100 ≤ q.2.1) && decide (q.2.1 ≤ 106)
  | _ => true
def zlen (i : Instr) : Nat := match i with
  | .bipush _ => 2 | .sipush _ => 3 | .ldc _ => 2 | .ldc_w _ => 3 | .ldc2_w _ => 3 | .iload _ => 2 | .lload _ => 2 | .aload _ => 2 | .istore _ => 2 | .astore _ => 2 | .iinc _ _ => 3 | .getfield _ => 3 | .putfield _ => 3 | _ => 1
def zdec (o : Nat) (ini : Bool) (cc : ByteArray) : Nat → List ZO → Option Nat
  | pc, [] => some pc
  | pc, q :: os => match decode cc pc with
    | .ok (i, n) => if i = q.1 ∧ n = zlen q.1 ∧ zlk o ini q = true then zdec o ini cc (pc + n) os else none
    | _ => none
theorem zFlk_ok {o idx : Nat} {ci k : Int} {t : Nat} (h : zFlk o idx ci k t = true) : ∃ c j : Nat, ci = c ∧ k = j ∧ c < 13 ∧ j < zN c ∧ t = zTag (zTy c j) ∧ Cond.fieldLink (zOwn o) idx (zOwn c) (zTT c j).2.1 (zTT c j).2.2.1 ∈ gt := by
  unfold zFlk at h
  simp only [Bool.and_eq_true, List.any_eq_true, beq_iff_eq] at h
  obtain ⟨⟨e, he, ⟨h1, h2⟩, h3⟩, h4⟩ := h
  obtain ⟨a1, a2, a3⟩ := zFl_ok o e he
  refine ⟨e.2.1, e.2.2.1, h2.symm, h3.symm, a1, a2, ?_, ?_⟩
  · rw [h4, ← h2, ← h3]; rfl
  · rw [h1] at a3; exact gt_at _ a3 rfl
theorem zCnk_ok {o idx : Nat} {v : Int} (h : zCnk o idx v = true) : Cond.constant (zOwn o) idx (Int32.ofInt v) ∈ gt ∧ in32 v := by
  unfold zCnk at h
  simp only [List.any_eq_true, Bool.and_eq_true, beq_iff_eq] at h
  obtain ⟨e, he, ⟨h1, h2⟩, h3⟩ := h
  obtain ⟨a1, a2⟩ := zCn_ok e he
  subst h1; subst h2; subst h3
  exact ⟨gt_at _ a1 rfl, a2⟩
theorem zLnk_ok {o idx : Nat} {v : Int} (h : zLnk o idx v = true) : Cond.constantLong (zOwn o) idx (Int64.ofInt v) ∈ gt ∧ in64 v := by
  unfold zLnk at h
  simp only [List.any_eq_true, Bool.and_eq_true, beq_iff_eq] at h
  obtain ⟨e, he, ⟨h1, h2⟩, h3⟩ := h
  obtain ⟨a1, a2⟩ := zLn_ok e he
  subst h1; subst h2; subst h3
  exact ⟨gt_at _ a1 rfl, a2⟩
theorem zLay0 : ∀ k, k < 3 → lw_tbl[([381, 383, 385].getD k 0)]? = some (u_lay RX0 TX0 k) ∧ goodWord (u_lay RX0 TX0 k) = true := by decide +kernel
theorem zLay1 : ∀ k, k < 5 → lw_tbl[([406, 408, 410, 412, 414].getD k 0)]? = some (u_lay RX1 TX1 k) ∧ goodWord (u_lay RX1 TX1 k) = true := by decide +kernel
theorem zLay2 : ∀ k, k < 3 → lw_tbl[([430, 432, 434].getD k 0)]? = some (u_lay RX2 TX2 k) ∧ goodWord (u_lay RX2 TX2 k) = true := by decide +kernel
theorem zLay3 : ∀ k, k < 5 → lw_tbl[([450, 452, 454, 456, 458].getD k 0)]? = some (u_lay RX3 TX3 k) ∧ goodWord (u_lay RX3 TX3 k) = true := by decide +kernel
theorem zLay4 : ∀ k, k < 1 → lw_tbl[([737].getD k 0)]? = some (u_lay RX4 TX4 k) ∧ goodWord (u_lay RX4 TX4 k) = true := by decide +kernel
theorem zLay5 : ∀ k, k < 3 → lw_tbl[([249, 251, 253].getD k 0)]? = some (u_lay RX5 TX5 k) ∧ goodWord (u_lay RX5 TX5 k) = true := by decide +kernel
theorem zLay6 : ∀ k, k < 7 → lw_tbl[([307, 309, 311, 313, 315, 317, 319].getD k 0)]? = some (u_lay RX6 TX6 k) ∧ goodWord (u_lay RX6 TX6 k) = true := by decide +kernel
theorem zLay7 : ∀ k, k < 1 → lw_tbl[([237].getD k 0)]? = some (u_lay RX7 TX7 k) ∧ goodWord (u_lay RX7 TX7 k) = true := by decide +kernel
theorem zLay8 : ∀ k, k < 6 → lw_tbl[([149, 151, 153, 155, 157, 159].getD k 0)]? = some (u_lay RX8 TX8 k) ∧ goodWord (u_lay RX8 TX8 k) = true := by decide +kernel
theorem zLay9 : ∀ k, k < 10 → lw_tbl[([214, 216, 218, 220, 222, 224, 226, 228, 230, 232].getD k 0)]? = some (u_lay RX9 TX9 k) ∧ goodWord (u_lay RX9 TX9 k) = true := by decide +kernel
theorem zLay10 : ∀ k, k < 10 → lw_tbl[([350, 352, 354, 356, 358, 360, 362, 364, 366, 368].getD k 0)]? = some (u_lay RX10 TX10 k) ∧ goodWord (u_lay RX10 TX10 k) = true := by decide +kernel
theorem zLay11 : ∀ k, k < 11 → lw_tbl[([472, 474, 476, 478, 480, 482, 484, 486, 488, 490, 492].getD k 0)]? = some (u_lay RX11 TX11 k) ∧ goodWord (u_lay RX11 TX11 k) = true := by decide +kernel
theorem zLay12 : ∀ k, k < 54 → lw_tbl[([1181, 1183, 1185, 1187, 1189, 1191, 1193, 1195, 1197, 1199, 1201, 1203, 1205, 1207, 1209, 1211, 1213, 1215, 1217, 1219, 1221, 1223, 1225, 1227, 1229, 1231, 1233, 1235, 1237, 1239, 1241, 1243, 1245, 1247, 1249, 1251, 1253, 1255, 1257, 1259, 1261, 1263, 1265, 1267, 1269, 1271, 1273, 1275, 1277, 1279, 1281, 1283, 1285, 1287].getD k 0)]? = some (u_lay RX12 TX12 k) ∧ goodWord (u_lay RX12 TX12 k) = true := by decide +kernel
theorem zUws (ci : Nat) (h : ci < 13) : ∀ w ∈ u_ws (zOwn ci) (zTT ci) (zN ci), w ∈ gt := by
  intro w hw
  unfold u_ws at hw
  obtain ⟨k, hk, rfl⟩ := List.mem_map.mp hw
  have hk := List.mem_range.mp hk
  match ci, h with
  | 0, _ => exact gt_at _ (zLay0 k hk).1 (zLay0 k hk).2
  | 1, _ => exact gt_at _ (zLay1 k hk).1 (zLay1 k hk).2
  | 2, _ => exact gt_at _ (zLay2 k hk).1 (zLay2 k hk).2
  | 3, _ => exact gt_at _ (zLay3 k hk).1 (zLay3 k hk).2
  | 4, _ => exact gt_at _ (zLay4 k hk).1 (zLay4 k hk).2
  | 5, _ => exact gt_at _ (zLay5 k hk).1 (zLay5 k hk).2
  | 6, _ => exact gt_at _ (zLay6 k hk).1 (zLay6 k hk).2
  | 7, _ => exact gt_at _ (zLay7 k hk).1 (zLay7 k hk).2
  | 8, _ => exact gt_at _ (zLay8 k hk).1 (zLay8 k hk).2
  | 9, _ => exact gt_at _ (zLay9 k hk).1 (zLay9 k hk).2
  | 10, _ => exact gt_at _ (zLay10 k hk).1 (zLay10 k hk).2
  | 11, _ => exact gt_at _ (zLay11 k hk).1 (zLay11 k hk).2
  | 12, _ => exact gt_at _ (zLay12 k hk).1 (zLay12 k hk).2
  | n + 13, h => exact absurd h (by omega)
