/-! PURE NUMBERS: ints, longs and references are Int; memory is a function of address and place -/
def w32 (x : Int) : Int := Int.bmod x 4294967296
def w64 (x : Int) : Int := Int.bmod x 18446744073709551616
def w8 (x : Int) : Int := Int.bmod x 256
def in32 (x : Int) : Prop := -2147483648 ≤ x ∧ x ≤ 2147483647
def in64 (x : Int) : Prop := -9223372036854775808 ≤ x ∧ x ≤ 9223372036854775807
def zand (x y : Int) : Int := (Int32.ofInt x &&& Int32.ofInt y).toInt
def zor (x y : Int) : Int := (Int32.ofInt x ||| Int32.ofInt y).toInt
def zxor (x y : Int) : Int := (Int32.ofInt x ^^^ Int32.ofInt y).toInt
def zshl (x y : Int) : Int := (Int32.ofInt x <<< (Int32.ofInt y &&& 31)).toInt
def zshr (x y : Int) : Int := (Int32.ofInt x >>> (Int32.ofInt y &&& 31)).toInt
def zush (x y : Int) : Int := ((Int32.ofInt x).toUInt32 >>> ((Int32.ofInt y).toUInt32 &&& Int32.toUInt32 31)).toInt32.toInt
def zandl (x y : Int) : Int := (Int64.ofInt x &&& Int64.ofInt y).toInt
def zorl (x y : Int) : Int := (Int64.ofInt x ||| Int64.ofInt y).toInt
def zcmp (x y : Int) : Int := if x < y then -1 else if x = y then 0 else 1
theorem w32_in (x : Int) : in32 (w32 x) := by
  unfold in32 w32
  have h1 := Int.le_bmod (x := x) (m := 4294967296) (by decide)
  have h2 := Int.bmod_lt (x := x) (m := 4294967296) (by decide)
  omega
theorem w64_in (x : Int) : in64 (w64 x) := by
  unfold in64 w64
  have h1 := Int.le_bmod (x := x) (m := 18446744073709551616) (by decide)
  have h2 := Int.bmod_lt (x := x) (m := 18446744073709551616) (by decide)
  omega
theorem w8_in (x : Int) : -128 ≤ w8 x ∧ w8 x ≤ 127 := by
  unfold w8
  have h1 := Int.le_bmod (x := x) (m := 256) (by decide)
  have h2 := Int.bmod_lt (x := x) (m := 256) (by decide)
  omega
theorem w32_id {x : Int} (h : in32 x) : w32 x = x := by
  unfold in32 at h; unfold w32
  rw [Int.bmod_def]; split <;> omega
theorem w64_id {x : Int} (h : in64 x) : w64 x = x := by
  unfold in64 at h; unfold w64
  rw [Int.bmod_def]; split <;> omega
theorem w32_of (x : Int) : (Int32.ofInt x).toInt = w32 x := by
  rw [Int32.toInt_ofInt]; rfl
theorem w64_of (x : Int) : (Int64.ofInt x).toInt = w64 x := by
  rw [Int64.toInt_ofInt]; rfl
theorem i32_to {x : Int} (h : in32 x) : (Int32.ofInt x).toInt = x := by rw [w32_of, w32_id h]
theorem i64_to {x : Int} (h : in64 x) : (Int64.ofInt x).toInt = x := by rw [w64_of, w64_id h]
theorem i32_w (x : Int) : Int32.ofInt (w32 x) = Int32.ofInt x := by
  apply Int32.toInt_inj.mp; rw [w32_of, w32_of, w32_id (w32_in x)]
theorem i64_w (x : Int) : Int64.ofInt (w64 x) = Int64.ofInt x := by
  apply Int64.toInt_inj.mp; rw [w64_of, w64_of, w64_id (w64_in x)]
theorem i32_in (v : Int32) : in32 v.toInt := by
  have h := w32_in v.toInt
  rw [← w32_of, Int32.ofInt_toInt] at h; exact h
theorem i64_in (v : Int64) : in64 v.toInt := by
  have h := w64_in v.toInt
  rw [← w64_of, Int64.ofInt_toInt] at h; exact h
theorem in32_64 {x : Int} (h : in32 x) : in64 x := by unfold in32 at h; unfold in64; omega
theorem i32_add (x y : Int) : Int32.ofInt (w32 (x + y)) = Int32.ofInt x + Int32.ofInt y := by rw [i32_w, Int32.ofInt_add]
theorem i32_sub (x y : Int) : Int32.ofInt (w32 (x - y)) = Int32.ofInt x - Int32.ofInt y := by rw [i32_w, Int32.ofInt_sub]
theorem i32_mul (x y : Int) : Int32.ofInt (w32 (x * y)) = Int32.ofInt x * Int32.ofInt y := by rw [i32_w, Int32.ofInt_mul]
theorem i64_add (x y : Int) : Int64.ofInt (w64 (x + y)) = Int64.ofInt x + Int64.ofInt y := by rw [i64_w, Int64.ofInt_add]
theorem i64_sub (x y : Int) : Int64.ofInt (w64 (x - y)) = Int64.ofInt x - Int64.ofInt y := by rw [i64_w, Int64.ofInt_sub]
theorem i64_mul (x y : Int) : Int64.ofInt (w64 (x * y)) = Int64.ofInt x * Int64.ofInt y := by rw [i64_w, Int64.ofInt_mul]
theorem i32_div {x y : Int} (hx : in32 x) (hy : in32 y) : Int32.ofInt (w32 (x.tdiv y)) = Int32.ofInt x / Int32.ofInt y := by
  apply Int32.toInt_inj.mp
  rw [Int32.toInt_div, i32_to hx, i32_to hy, i32_to (w32_in _)]; rfl
theorem i64_div {x y : Int} (hx : in64 x) (hy : in64 y) : Int64.ofInt (w64 (x.tdiv y)) = Int64.ofInt x / Int64.ofInt y := by
  apply Int64.toInt_inj.mp
  rw [Int64.toInt_div, i64_to hx, i64_to hy, i64_to (w64_in _)]; rfl
theorem zt_b {x y : Int} {B : Int} (hy : y ≠ 0) (hyb : -B ≤ y ∧ y ≤ B) : -B < x.tmod y ∧ x.tmod y < B := by
  rcases Int.lt_or_gt_of_ne hy with h | h
  · have h1 := Int.tmod_lt_of_pos x (b := -y) (by omega)
    have h2 := Int.lt_tmod_of_pos x (b := -y) (by omega)
    rw [Int.tmod_neg] at h1 h2
    omega
  · have h1 := Int.tmod_lt_of_pos x (b := y) (by omega)
    have h2 := Int.lt_tmod_of_pos x (b := y) (by omega)
    omega
theorem tmod_in32 {x y : Int} (hy : in32 y) (h0 : y ≠ 0) : in32 (x.tmod y) := by
  unfold in32 at *
  have := zt_b (x := x) (B := 2147483648) h0 (by omega)
  omega
theorem tmod_in64 {x y : Int} (hy : in64 y) (h0 : y ≠ 0) : in64 (x.tmod y) := by
  unfold in64 at *
  have := zt_b (x := x) (B := 9223372036854775808) h0 (by omega)
  omega
theorem i32_rem {x y : Int} (hx : in32 x) (hy : in32 y) (h0 : y ≠ 0) : Int32.ofInt (x.tmod y) = Int32.ofInt x - Int32.ofInt x / Int32.ofInt y * Int32.ofInt y := by
  apply Int32.toInt_inj.mp
  rw [rem_toInt, i32_to hx, i32_to hy, i32_to (tmod_in32 hy h0)]
theorem i64_rem {x y : Int} (hx : in64 x) (hy : in64 y) (h0 : y ≠ 0) : Int64.ofInt (x.tmod y) = Int64.ofInt x - Int64.ofInt x / Int64.ofInt y * Int64.ofInt y := by
  rw [← i64_div hx hy, ← i64_mul, ← i64_sub, i64_w]
  apply Int64.toInt_inj.mp
  rw [w64_of, w64_of]
  unfold w64
  rw [Int.sub_bmod_bmod]
  rw [Int.sub_bmod, Int.bmod_mul_bmod, ← Int.sub_bmod]
  congr 1
  have := Int.tmod_add_mul_tdiv x y
  rw [Int.mul_comm] at this
  omega
theorem i32_lt {x y : Int} (hx : in32 x) (hy : in32 y) : (Int32.ofInt x < Int32.ofInt y) ↔ x < y := by
  rw [Int32.lt_iff_toInt_lt, i32_to hx, i32_to hy]
theorem i32_le {x y : Int} (hx : in32 x) (hy : in32 y) : (Int32.ofInt x ≤ Int32.ofInt y) ↔ x ≤ y := by
  rw [Int32.le_iff_toInt_le, i32_to hx, i32_to hy]
theorem i32_eq {x y : Int} (hx : in32 x) (hy : in32 y) : (Int32.ofInt x = Int32.ofInt y) ↔ x = y := by
  rw [← Int32.toInt_inj, i32_to hx, i32_to hy]
theorem i64_lt {x y : Int} (hx : in64 x) (hy : in64 y) : (Int64.ofInt x < Int64.ofInt y) ↔ x < y := by
  rw [Int64.lt_iff_toInt_lt, i64_to hx, i64_to hy]
theorem i64_eq {x y : Int} (hx : in64 x) (hy : in64 y) : (Int64.ofInt x = Int64.ofInt y) ↔ x = y := by
  rw [← Int64.toInt_inj, i64_to hx, i64_to hy]
theorem i32_0 : Int32.ofInt 0 = 0 := rfl
theorem i64_0 : Int64.ofInt 0 = 0 := rfl
theorem in32_0 : in32 0 := by unfold in32; omega
theorem i32_clamp {x : Int} (hx : in32 x) : (Int32.ofInt x).toNatClampNeg = x.toNat := by
  show (Int32.ofInt x).toInt.toNat = _
  rw [i32_to hx]
theorem i32_vin {i n : Int} (hi : in32 i) (h0 : 0 ≤ i) (h1 : i < n) : vp_in (Int32.ofInt i) n.toNat := by
  unfold vp_in
  rw [i32_clamp hi, ← i32_0, i32_lt hi in32_0]
  omega
theorem i32_i2l {x : Int} (hx : in32 x) : (Int32.ofInt x).toInt64 = Int64.ofInt x := by
  apply Int64.toInt_inj.mp
  rw [Int32.toInt_toInt64, i32_to hx, i64_to (in32_64 hx)]
theorem i64_l2i {x : Int} (hx : in64 x) : (Int64.ofInt x).toInt32 = Int32.ofInt (w32 x) := by
  apply Int32.toInt_inj.mp
  rw [Int64.toInt_toInt32, i64_to hx, i32_to (w32_in x)]; rfl
theorem i32_i2b {x : Int} (hx : in32 x) : (Int32.ofInt x).toInt8.toInt32 = Int32.ofInt (w8 x) := by
  have h := w8_in x
  apply Int32.toInt_inj.mp
  rw [Int8.toInt_toInt32, Int32.toInt_toInt8, i32_to hx, i32_to (by unfold in32; omega)]; rfl
theorem i64_cmp {x y : Int} (hx : in64 x) (hy : in64 y) : lg_cmp (Int64.ofInt x) (Int64.ofInt y) = Int32.ofInt (zcmp x y) := by
  unfold lg_cmp zcmp
  have h2 : (Int64.ofInt x > Int64.ofInt y) ↔ y < x := i64_lt hy hx
  simp only [h2, i64_eq hx hy]
  by_cases a : y < x
  · rw [if_pos a, if_neg (by omega), if_neg (by omega)]; rfl
  · by_cases b : x = y
    · rw [if_neg a, if_pos b, if_neg (by omega), if_pos b]; rfl
    · rw [if_neg a, if_neg b, if_pos (by omega)]; rfl
theorem zcmp_in (x y : Int) : in32 (zcmp x y) := by unfold zcmp in32; split <;> (try split) <;> omega

/-! THE PURE MACHINE -/
abbrev ZV : Type := Nat × Int
abbrev ZM : Type := Int → Int → Int
abbrev ZS : Type := (Int → Int) × (Int → Int) × Int
abbrev ZL : Type := List (Option ZV)
abbrev ZO : Type := Instr × Int × Int × Nat
def upM (M : ZM) (a i v : Int) : ZM := fun b j => if b = a ∧ j = i then v else M b j
def zld (l : ZL) (i : Nat) : Option ZV := match l[i]? with
  | some (some v) => some v
  | _ => none
def zclr (l : ZL) (i : Nat) : ZL := match i with
  | 0 => l
  | j + 1 => match zld l j with
    | some v => if v.1 = 1 then l.set j none else l
    | none => l
def zst1 (l : ZL) (i : Nat) (v : ZV) : ZL := (zclr l i).set i (some v)
def zst2 (l : ZL) (i : Nat) (v : ZV) : ZL := ((zclr l i).set i (some v)).set (i + 1) none
abbrev ZR : Type := Option ((Prop → Prop) × ZL × List ZV × ZM)
def znog (P : Prop) : Prop := P
def zpush (v : ZV) (l : ZL) (st : List ZV) (M : ZM) : ZR := some (znog, l, v :: st, M)
def zload (t : Nat) (i : Nat) (l : ZL) (st : List ZV) (M : ZM) : ZR := match zld l i with
  | some v => if v.1 = t then some (znog, l, v :: st, M) else none
  | none => none
def zloadA (i : Nat) (l : ZL) (st : List ZV) (M : ZM) : ZR := match zld l i with
  | some v => if 2 ≤ v.1 then some (znog, l, v :: st, M) else none
  | none => none
def zstore1 (t : Nat) (i : Nat) (l : ZL) (st : List ZV) (M : ZM) : ZR := match st with
  | v :: r => if v.1 = t ∧ i < l.length then some (znog, zst1 l i v, r, M) else none
  | _ => none
def zstore2 (i : Nat) (l : ZL) (st : List ZV) (M : ZM) : ZR := match st with
  | v :: r => if v.1 = 1 ∧ i + 1 < l.length then some (znog, zst2 l i v, r, M) else none
  | _ => none
def zinc (i : Nat) (n : Int) (l : ZL) (st : List ZV) (M : ZM) : ZR := match zld l i with
  | some v => if v.1 = 0 ∧ i < l.length then some (znog, zst1 l i (0, w32 (v.2 + n)), st, M) else none
  | none => none
def zbin (t u : Nat) (f : Int → Int → Int) (l : ZL) (st : List ZV) (M : ZM) : ZR := match st with
  | y :: x :: r => if x.1 = t ∧ y.1 = t then some (znog, l, (u, f x.2 y.2) :: r, M) else none
  | _ => none
def zbind (t : Nat) (f : Int → Int → Int) (l : ZL) (st : List ZV) (M : ZM) : ZR := match st with
  | y :: x :: r => if x.1 = t ∧ y.1 = t then some (fun P => ¬ y.2 = 0 ∧ P, l, (t, f x.2 y.2) :: r, M) else none
  | _ => none
def zun (t u : Nat) (f : Int → Int) (l : ZL) (st : List ZV) (M : ZM) : ZR := match st with
  | x :: r => if x.1 = t then some (znog, l, (u, f x.2) :: r, M) else none
  | _ => none
def zdup (l : ZL) (st : List ZV) (M : ZM) : ZR := match st with
  | x :: r => if x.1 = 1 then none else some (znog, l, x :: x :: r, M)
  | _ => none
def zdup2 (l : ZL) (st : List ZV) (M : ZM) : ZR := match st with
  | x :: y :: r => if x.1 = 1 ∨ y.1 = 1 then none else some (znog, l, x :: y :: x :: y :: r, M)
  | _ => none
def zpop (l : ZL) (st : List ZV) (M : ZM) : ZR := match st with
  | x :: r => if x.1 = 1 then none else some (znog, l, r, M)
  | _ => none
/-- field tags: 0 int, 2 reference, 5 boolean -/
def zgetf (S : ZS) (ci k : Int) (t : Nat) (l : ZL) (st : List ZV) (M : ZM) : ZR := match st with
  | a :: r => if a.1 = 2 then some (fun P => S.1 a.2 = ci ∧ P, l, (if t = 2 then 2 else 0, M a.2 k) :: r, M) else none
  | _ => none
def zputf (S : ZS) (ci k : Int) (t : Nat) (l : ZL) (st : List ZV) (M : ZM) : ZR := match st with
  | v :: a :: r => if a.1 = 2 ∧ v.1 = (if t = 2 then 2 else 0) then some (if t = 5 then (fun P => S.1 a.2 = ci ∧ (v.2 = 0 ∨ v.2 = 1) ∧ P) else (fun P => S.1 a.2 = ci ∧ P), l, r, upM M a.2 k v.2) else none
  | _ => none
def zald (S : ZS) (kd : Int) (t : Nat) (l : ZL) (st : List ZV) (M : ZM) : ZR := match st with
  | i :: a :: r => if a.1 = 2 ∧ i.1 = 0 then some (fun P => (S.1 a.2 = kd ∧ 0 ≤ i.2 ∧ i.2 < S.2.1 a.2) ∧ P, l, (t, M a.2 i.2) :: r, M) else none
  | _ => none
def zast (S : ZS) (kd : Int) (t : Nat) (l : ZL) (st : List ZV) (M : ZM) : ZR := match st with
  | v :: i :: a :: r => if a.1 = 2 ∧ i.1 = 0 ∧ v.1 = t then some (fun P => (S.1 a.2 = kd ∧ 0 ≤ i.2 ∧ i.2 < S.2.1 a.2) ∧ P, l, r, upM M a.2 i.2 v.2) else none
  | _ => none
def zastB (S : ZS) (l : ZL) (st : List ZV) (M : ZM) : ZR := match st with
  | v :: i :: a :: r => if a.1 = 2 ∧ i.1 = 0 ∧ v.1 = 0 then some (fun P => (S.1 a.2 = 102 ∧ 0 ≤ i.2 ∧ i.2 < S.2.1 a.2) ∧ P, l, r, upM M a.2 i.2 (w8 v.2)) else none
  | _ => none
def zastZ (S : ZS) (l : ZL) (st : List ZV) (M : ZM) : ZR := match st with
  | v :: i :: a :: r => if a.1 = 2 ∧ i.1 = 0 ∧ v.1 = 0 then some (fun P => (S.1 a.2 = 103 ∧ 0 ≤ i.2 ∧ i.2 < S.2.1 a.2) ∧ (v.2 = 0 ∨ v.2 = 1) ∧ P, l, r, upM M a.2 i.2 v.2) else none
  | _ => none
def zastA (S : ZS) (kd ck : Int) (l : ZL) (st : List ZV) (M : ZM) : ZR := match st with
  | v :: i :: a :: r => if a.1 = 2 ∧ i.1 = 0 ∧ v.1 = 2 then some (fun P => (S.1 a.2 = kd ∧ 0 ≤ i.2 ∧ i.2 < S.2.1 a.2) ∧ (v.2 = 0 ∨ S.1 v.2 = ck) ∧ P, l, r, upM M a.2 i.2 v.2) else none
  | _ => none
def zalen (S : ZS) (kd : Int) (l : ZL) (st : List ZV) (M : ZM) : ZR := match st with
  | a :: r => if a.1 = 2 then some (fun P => S.1 a.2 = kd ∧ P, l, (0, S.2.1 a.2) :: r, M) else none
  | _ => none
def zx (S : ZS) (o : ZO) (l : ZL) (st : List ZV) (M : ZM) : ZR := match o.1 with
  | .iconst n => zpush (0, n) l st M
  | .bipush n => zpush (0, n) l st M
  | .sipush n => zpush (0, n) l st M
  | .ldc _ => zpush (0, o.2.1) l st M
  | .ldc_w _ => zpush (0, o.2.1) l st M
  | .ldc2_w _ => zpush (1, o.2.1) l st M
  | .lconst _ => zpush (1, o.2.1) l st M
  | .aconst_null => zpush (2, 0) l st M
  | .iload i => zload 0 i l st M
  | .iload_n i => zload 0 i.val l st M
  | .lload i => zload 1 i l st M
  | .lload_n i => zload 1 i.val l st M
  | .aload i => zloadA i l st M
  | .aload_n i => zloadA i.val l st M
  | .istore i => zstore1 0 i l st M
  | .istore_n i => zstore1 0 i.val l st M
  | .astore i => zstore1 2 i l st M
  | .astore_n i => zstore1 2 i.val l st M
  | .iinc i n => zinc i n l st M
  | .iadd => zbin 0 0 (fun x y => w32 (x + y)) l st M
  | .isub => zbin 0 0 (fun x y => w32 (x - y)) l st M
  | .imul => zbin 0 0 (fun x y => w32 (x * y)) l st M
  | .iand => zbin 0 0 zand l st M
  | .ior => zbin 0 0 zor l st M
  | .ixor => zbin 0 0 zxor l st M
  | .ishl => zbin 0 0 zshl l st M
  | .ishr => zbin 0 0 zshr l st M
  | .iushr => zbin 0 0 zush l st M
  | .idiv => zbind 0 (fun x y => w32 (x.tdiv y)) l st M
  | .irem => zbind 0 (fun x y => x.tmod y) l st M
  | .ladd => zbin 1 1 (fun x y => w64 (x + y)) l st M
  | .lsub => zbin 1 1 (fun x y => w64 (x - y)) l st M
  | .lmul => zbin 1 1 (fun x y => w64 (x * y)) l st M
  | .land => zbin 1 1 zandl l st M
  | .lor => zbin 1 1 zorl l st M
  | .lcmp => zbin 1 0 zcmp l st M
  | .ldiv => zbind 1 (fun x y => w64 (x.tdiv y)) l st M
  | .lrem => zbind 1 (fun x y => x.tmod y) l st M
  | .i2l => zun 0 1 (fun x => x) l st M
  | .l2i => zun 1 0 (fun x => w32 x) l st M
  | .i2b => zun 0 0 (fun x => w8 x) l st M
  | .dup => zdup l st M
  | .dup2 => zdup2 l st M
  | .pop => zpop l st M
  | .getfield _ => zgetf S o.2.1 o.2.2.1 o.2.2.2 l st M
  | .putfield _ => zputf S o.2.1 o.2.2.1 o.2.2.2 l st M
  | .iaload => zald S 100 0 l st M
  | .laload => zald S 101 1 l st M
  | .baload => zald S o.2.1 0 l st M
  | .aaload => zald S o.2.1 2 l st M
  | .iastore => zast S 100 0 l st M
  | .lastore => zast S 101 1 l st M
  | .bastore => if o.2.1 = 102 then zastB S l st M else zastZ S l st M
  | .aastore => zastA S o.2.1 o.2.2.1 l st M
  | .arraylength => zalen S o.2.1 l st M
  | _ => none
def zxs (S : ZS) : List ZO → ZL → List ZV → ZM → ZR
  | [], l, st, M => some (znog, l, st, M)
  | o :: os, l, st, M => match zx S o l st M with
    | none => none
    | some (g, l1, st1, M1) => match zxs S os l1 st1 M1 with
      | none => none
      | some (g2, r) => some (fun P => g (g2 P), r)
theorem zt_1 (S : ZS) (M : ZM) (a b c d : Int) : zxs S [(.aload_n 0, 0, 0, 0), (.getfield 9, 12, 3, 2), (.iload_n 2, 0, 0, 0), (.iaload, 0, 0, 0), (.iload_n 1, 0,0,0), (.iadd, 0,0,0), (.istore_n 3, 0,0,0)] [some (2, a), some (0, b), some (0, c), none] [] M = some (fun P => S.1 a = 12 ∧ (S.1 (M a 3) = 100 ∧ 0 ≤ c ∧ c < S.2.1 (M a 3)) ∧ P, [some (2, a), some (0, b), some (0, c), some (0, w32 (M (M a 3) c + b))], [], M) := rfl
