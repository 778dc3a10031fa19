section
variable {C : ZC} {E : ZE} {o : Nat} {cc : ByteArray} {nL : Nat} {ret : Option FieldType} {ini : Bool} {S : ZS} {ce sl : Nat} {Q : State → Prop} {pc : Nat} {l : ZL} {st : List ZV} {M : ZM} {P : Prop} {g : Prop → Prop} {l' : ZL} {st' : List ZV} {M' : ZM}
theorem zload_inv {t i : Nat} (h : zload t i l st M = some (g, l', st', M')) : ∃ x, zld l i = some (t, x) ∧ g = znog ∧ l' = l ∧ st' = (t, x) :: st ∧ M' = M := by
  unfold zload at h
  split at h
  · rename_i v hv
    split at h
    · rename_i ht
      obtain ⟨t', x⟩ := v
      cases ht
      cases h
      exact ⟨x, hv, rfl, rfl, rfl, rfl⟩
    · cases h
  · cases h
theorem zloadA_inv {i : Nat} (h : zloadA i l st M = some (g, l', st', M')) : ∃ t x, zld l i = some (t, x) ∧ 2 ≤ t ∧ g = znog ∧ l' = l ∧ st' = (t, x) :: st ∧ M' = M := by
  unfold zloadA at h
  split at h
  · rename_i v hv
    split at h
    · rename_i ht
      obtain ⟨t', x⟩ := v
      cases h
      exact ⟨t', x, hv, ht, rfl, rfl, rfl, rfl⟩
    · cases h
  · cases h
theorem zstore1_inv {t i : Nat} (h : zstore1 t i l st M = some (g, l', st', M')) : ∃ x r, st = (t, x) :: r ∧ i < l.length ∧ g = znog ∧ l' = zst1 l i (t, x) ∧ st' = r ∧ M' = M := by
  unfold zstore1 at h
  split at h
  · rename_i v r
    split at h
    · rename_i ht
      obtain ⟨t', x⟩ := v
      obtain ⟨rfl, hi⟩ := ht
      cases h
      exact ⟨x, _, rfl, hi, rfl, rfl, rfl, rfl⟩
    · cases h
  · cases h
theorem zinc_inv {i : Nat} {n : Int} (h : zinc i n l st M = some (g, l', st', M')) : ∃ x, zld l i = some (0, x) ∧ i < l.length ∧ g = znog ∧ l' = zst1 l i (0, w32 (x + n)) ∧ st' = st ∧ M' = M := by
  unfold zinc at h
  split at h
  · rename_i v hv
    split at h
    · rename_i ht
      obtain ⟨t', x⟩ := v
      obtain ⟨rfl, hi⟩ := ht
      cases h
      exact ⟨x, hv, hi, rfl, rfl, rfl, rfl⟩
    · cases h
  · cases h
theorem zbin_inv {t u : Nat} {f : Int → Int → Int} (h : zbin t u f l st M = some (g, l', st', M')) : ∃ x y r, st = (t, y) :: (t, x) :: r ∧ g = znog ∧ l' = l ∧ st' = (u, f x y) :: r ∧ M' = M := by
  unfold zbin at h
  split at h
  · rename_i y x r
    split at h
    · rename_i ht
      obtain ⟨t1, x⟩ := x
      obtain ⟨t2, y⟩ := y
      obtain ⟨h1, h2⟩ := ht
      dsimp only at h1 h2
      subst h1
      subst h2
      cases h
      exact ⟨x, y, r, rfl, rfl, rfl, rfl, rfl⟩
    · cases h
  · cases h
theorem zbind_inv {t : Nat} {f : Int → Int → Int} (h : zbind t f l st M = some (g, l', st', M')) : ∃ x y r, st = (t, y) :: (t, x) :: r ∧ g = (fun P => ¬ y = 0 ∧ P) ∧ l' = l ∧ st' = (t, f x y) :: r ∧ M' = M := by
  unfold zbind at h
  split at h
  · rename_i y x r
    split at h
    · rename_i ht
      obtain ⟨t1, x⟩ := x
      obtain ⟨t2, y⟩ := y
      obtain ⟨h1, h2⟩ := ht
      dsimp only at h1 h2
      subst h1
      subst h2
      cases h
      exact ⟨x, y, r, rfl, rfl, rfl, rfl, rfl⟩
    · cases h
  · cases h
theorem zun_inv {t u : Nat} {f : Int → Int} (h : zun t u f l st M = some (g, l', st', M')) : ∃ x r, st = (t, x) :: r ∧ g = znog ∧ l' = l ∧ st' = (u, f x) :: r ∧ M' = M := by
  unfold zun at h
  split at h
  · rename_i x r
    split at h
    · rename_i ht
      obtain ⟨t1, x⟩ := x
      cases ht
      cases h
      exact ⟨x, r, rfl, rfl, rfl, rfl, rfl⟩
    · cases h
  · cases h
theorem zputf_inv {ci k : Int} {t : Nat} (h : zputf S ci k t l st M = some (g, l', st', M')) : ∃ a v r, st = ((if t = 2 then 2 else 0), v) :: (2, a) :: r ∧ g = (if t = 5 then (fun P => S.1 a = ci ∧ (v = 0 ∨ v = 1) ∧ P) else (fun P => S.1 a = ci ∧ P)) ∧ l' = l ∧ st' = r ∧ M' = upM M a k v := by
  match st, h with
  | [], h => cases h
  | [_], h => cases h
  | (tv, v) :: (ta, a) :: r, h =>
    unfold zputf at h
    dsimp only at h
    by_cases hc : ta = 2 ∧ tv = (if t = 2 then 2 else 0)
    · rw [if_pos hc] at h
      obtain ⟨rfl, rfl⟩ := hc
      cases h
      exact ⟨a, v, _, rfl, rfl, rfl, rfl, rfl⟩
    · rw [if_neg hc] at h
      cases h
theorem zV_cat1 {E : ZE} {v : ZV} (h : ¬ v.1 = 1) : (zV E v).category = 1 := (lv_cat (zV E v)).resolve_right (fun q => h ((zV_cat E v).mp q))
theorem i8_c {n : Int} (h : -128 ≤ n ∧ n ≤ 127) : (Int8.ofInt n).toInt32 = Int32.ofInt n := by
  apply Int32.toInt_inj.mp
  rw [Int8.toInt_toInt32, Int8.toInt_ofInt, i32_to (by unfold in32; omega), show Int8.size = 256 from rfl, Int.bmod_def]
  split <;> omega
theorem i16_c {n : Int} (h : -32768 ≤ n ∧ n ≤ 32767) : (Int16.ofInt n).toInt32 = Int32.ofInt n := by
  apply Int32.toInt_inj.mp
  rw [Int16.toInt_toInt32, Int16.toInt_ofInt, i32_to (by unfold in32; omega), show Int16.size = 65536 from rfl, Int.bmod_def]
  split <;> omega
theorem i64_fin (n : Fin 2) : Int64.ofNat (n : Nat) = Int64.ofInt ((n.val : Nat) : Int) := by
  rw [Int64.ofInt_eq_ofNat]
theorem zand_i (x y : Int) : Int32.ofInt (zand x y) = Int32.ofInt x &&& Int32.ofInt y := by unfold zand; rw [Int32.ofInt_toInt]
theorem zor_i (x y : Int) : Int32.ofInt (zor x y) = Int32.ofInt x ||| Int32.ofInt y := by unfold zor; rw [Int32.ofInt_toInt]
theorem zxor_i (x y : Int) : Int32.ofInt (zxor x y) = Int32.ofInt x ^^^ Int32.ofInt y := by unfold zxor; rw [Int32.ofInt_toInt]
theorem zshl_i (x y : Int) : Int32.ofInt (zshl x y) = Int32.ofInt x <<< (Int32.ofInt y &&& 31) := by unfold zshl; rw [Int32.ofInt_toInt]
theorem zshr_i (x y : Int) : Int32.ofInt (zshr x y) = Int32.ofInt x >>> (Int32.ofInt y &&& 31) := by unfold zshr; rw [Int32.ofInt_toInt]
theorem zush_i (x y : Int) : Int32.ofInt (zush x y) = ((Int32.ofInt x).toUInt32 >>> ((Int32.ofInt y).toUInt32 &&& Int32.toUInt32 31)).toInt32 := by unfold zush; rw [Int32.ofInt_toInt]
theorem zandl_i (x y : Int) : Int64.ofInt (zandl x y) = Int64.ofInt x &&& Int64.ofInt y := by unfold zandl; rw [Int64.ofInt_toInt]
theorem zorl_i (x y : Int) : Int64.ofInt (zorl x y) = Int64.ofInt x ||| Int64.ofInt y := by unfold zorl; rw [Int64.ofInt_toInt]
/-- a step of the pure machine is one of the machine's -/
theorem zx_ok (hX : zCx C E o cc nL ret ini) {q : ZO} {n : Nat} (hd : decode cc pc = .ok (q.1, n)) (hn : n = zlen q.1) (hk : zlk o ini q = true) (hz : zx S q l st M = some (g, l', st', M')) (hg : g P) (k : P → zG C E nL S ce sl Q (pc + n) l' st' M') : zG C E nL S ce sl Q pc l st M := by
  obtain ⟨i, qa, qb, qt⟩ := q
  have hX' := hX
  obtain ⟨hx, hb, hml, hown, hts, hEn, hret, hlk, hini⟩ := hX
  dsimp only at hd hn hk hz
  cases i with
  | iconst c =>
    cases hn
    cases hz
    simp only [zlk, Bool.and_eq_true, decide_eq_true_eq] at hk
    exact zs_const (i := .iconst c) (zVo_i (by unfold in32; omega)) (fun H locs ls r h => lv_iconst hx hb hd rfl h) (k hg)
  | bipush c =>
    cases hn
    cases hz
    simp only [zlk, Bool.and_eq_true, decide_eq_true_eq] at hk
    exact zs_const (i := .iconst c) (zVo_i (by unfold in32; omega)) (fun H locs ls r h => lv_bipush hx hb hd (i8_c hk) h) (k hg)
  | sipush c =>
    cases hn
    cases hz
    simp only [zlk, Bool.and_eq_true, decide_eq_true_eq] at hk
    exact zs_const (i := .iconst c) (zVo_i (by unfold in32; omega)) (fun H locs ls r h => lv_sipush hx hb hd (i16_c hk) h) (k hg)
  | ldc c =>
    cases hn
    cases hz
    obtain ⟨h1, h2⟩ := zCnk_ok hk
    exact zs_const (i := .ldc c) (zVo_i h2) (fun H locs ls r h => lv_ldc hx hb hown (hts _ h1) hd h) (k hg)
  | ldc_w c =>
    cases hn
    cases hz
    obtain ⟨h1, h2⟩ := zCnk_ok hk
    exact zs_const (i := .ldc c) (zVo_i h2) (fun H locs ls r h => lv_ldcw hx hb hown (hts _ h1) hd h) (k hg)
  | ldc2_w c =>
    cases hn
    cases hz
    obtain ⟨h1, h2⟩ := zLnk_ok hk
    exact zs_const (i := .ldc c) (zVo_l h2) (fun H locs ls r h => lv_ldc2 hx hb hown (hts _ h1) hd h) (k hg)
  | lconst c =>
    cases hn
    cases hz
    simp only [zlk, beq_iff_eq] at hk
    subst hk
    have hcl := c.isLt
    exact zs_const (v := (1, ((c.val : Nat) : Int))) (i := .ldc 0) (zVo_l (by unfold in64; omega)) (fun H locs ls r h => lv_lconst hx hb hd (i64_fin c) h) (k hg)
  | aconst_null =>
    cases hn
    cases hz
    exact zs_const (i := .ldc 0) (zVo_r in32_0) (fun H locs ls r h => lv_null hx hb hd h) (k hg)
  | iload i =>
    cases hn
    obtain ⟨x, h1, rfl, rfl, rfl, rfl⟩ := zload_inv hz
    exact zs_load h1 (fun H locs ls r hl h => lv_iload hx hb hd hl h) (k hg)
  | iload_n i =>
    cases hn
    obtain ⟨x, h1, rfl, rfl, rfl, rfl⟩ := zload_inv hz
    exact zs_load h1 (fun H locs ls r hl h => lv_iload_n hx hb hd rfl hl h) (k hg)
  | lload i =>
    cases hn
    obtain ⟨x, h1, rfl, rfl, rfl, rfl⟩ := zload_inv hz
    exact zs_load h1 (fun H locs ls r hl h => lv_lload hx hb hd hl h) (k hg)
  | lload_n i =>
    cases hn
    obtain ⟨x, h1, rfl, rfl, rfl, rfl⟩ := zload_inv hz
    exact zs_load h1 (fun H locs ls r hl h => lv_lload_n hx hb hd rfl hl h) (k hg)
  | aload i =>
    cases hn
    obtain ⟨t, x, h1, h2, rfl, rfl, rfl, rfl⟩ := zloadA_inv hz
    refine zs_load h1 (fun H locs ls r hl h => ?_) (k hg)
    rcases zv_A (E := E) (x := x) h2 with e | ⟨q, e⟩
    · rw [e] at hl h; exact lv_aloadN hx hb hd hl h
    · rw [e] at hl h; exact lv_aload hx hb hd hl h
  | aload_n i =>
    cases hn
    obtain ⟨t, x, h1, h2, rfl, rfl, rfl, rfl⟩ := zloadA_inv hz
    refine zs_load h1 (fun H locs ls r hl h => ?_) (k hg)
    rcases zv_A (E := E) (x := x) h2 with e | ⟨q, e⟩
    · rw [e] at hl h; exact lv_aload_nN hx hb hd rfl hl h
    · rw [e] at hl h; exact lv_aload_n hx hb hd rfl hl h
  | istore i =>
    cases hn
    obtain ⟨x, r, rfl, hi, rfl, rfl, rfl, rfl⟩ := zstore1_inv hz
    exact zs_store (fun H locs ls r hh hi h => lv_istore hx hb hd hh hi rfl h) hi (k hg)
  | istore_n i =>
    cases hn
    obtain ⟨x, r, rfl, hi, rfl, rfl, rfl, rfl⟩ := zstore1_inv hz
    exact zs_store (fun H locs ls r hh hi h => lv_istore_n hx hb hd rfl hh hi rfl h) hi (k hg)
  | astore i =>
    cases hn
    obtain ⟨x, r, rfl, hi, rfl, rfl, rfl, rfl⟩ := zstore1_inv hz
    refine zs_store (fun H locs ls r hh hi h => ?_) hi (k hg)
    rcases zv_A (E := E) (x := x) (Nat.le_refl 2) with e | ⟨q, e⟩
    · rw [e] at h ⊢; exact lv_astoreN hx hb hd hh hi rfl h
    · rw [e] at h ⊢; exact lv_astore hx hb hd hh hi rfl h
  | astore_n i =>
    cases hn
    obtain ⟨x, r, rfl, hi, rfl, rfl, rfl, rfl⟩ := zstore1_inv hz
    refine zs_store (fun H locs ls r hh hi h => ?_) hi (k hg)
    rcases zv_A (E := E) (x := x) (Nat.le_refl 2) with e | ⟨q, e⟩
    · rw [e] at h ⊢; exact lv_astore_nN hx hb hd rfl hh hi rfl h
    · rw [e] at h ⊢; exact lv_astore_n hx hb hd rfl hh hi rfl h
  | iinc i c =>
    cases hn
    obtain ⟨x, h1, hi, rfl, rfl, rfl, rfl⟩ := zinc_inv hz
    intro hO hl hs H locs ls hR hS hL
    have hin : (i, zV E (0, x)) ∈ zAs E l := zAs_in.mpr ⟨(0, x), zld_some.mp h1, rfl⟩
    obtain ⟨kk, hkk⟩ := List.getElem?_of_mem hin
    refine lv_iinc (v := Int32.ofInt (w32 (x + c))) hx hb hd hL.has hkk (by rw [i32_add]) (by rw [← hL.1]; exact hi) rfl (fun ls' h' => ?_)
    exact k hg hO (hl.st1 (zVo_i (w32_in _))) hs H locs ls' hR hS (zLs.st1 hL.1 h')
  | iadd =>
    cases hn
    obtain ⟨x, y, r, rfl, rfl, rfl, rfl, rfl⟩ := zbin_inv (t := 0) (u := 0) (f := fun x y => w32 (x + y)) hz
    exact zs_bin (fun _ _ _ H locs ls r h => lv_iadd hx hb hd (by rw [← i32_add]; exact h)) (Or.inl rfl) (fun _ _ => zVo_i (w32_in _)) (k hg)
  | isub =>
    cases hn
    obtain ⟨x, y, r, rfl, rfl, rfl, rfl, rfl⟩ := zbin_inv (t := 0) (u := 0) (f := fun x y => w32 (x - y)) hz
    exact zs_bin (fun _ _ _ H locs ls r h => lv_isub hx hb hd (by rw [← i32_sub]; exact h)) (Or.inl rfl) (fun _ _ => zVo_i (w32_in _)) (k hg)
  | imul =>
    cases hn
    obtain ⟨x, y, r, rfl, rfl, rfl, rfl, rfl⟩ := zbin_inv (t := 0) (u := 0) (f := fun x y => w32 (x * y)) hz
    exact zs_bin (fun _ _ _ H locs ls r h => lv_imul hx hb hd (by rw [← i32_mul]; exact h)) (Or.inl rfl) (fun _ _ => zVo_i (w32_in _)) (k hg)
  | iand =>
    cases hn
    obtain ⟨x, y, r, rfl, rfl, rfl, rfl, rfl⟩ := zbin_inv hz
    exact zs_bin (fun _ _ _ H locs ls r h => lv_iand hx hb hd (by rw [← zand_i]; exact h)) (Or.inl rfl) (fun _ _ => zVo_i (i32_in _)) (k hg)
  | ior =>
    cases hn
    obtain ⟨x, y, r, rfl, rfl, rfl, rfl, rfl⟩ := zbin_inv hz
    exact zs_bin (fun _ _ _ H locs ls r h => lv_ior hx hb hd (by rw [← zor_i]; exact h)) (Or.inl rfl) (fun _ _ => zVo_i (i32_in _)) (k hg)
  | ixor =>
    cases hn
    obtain ⟨x, y, r, rfl, rfl, rfl, rfl, rfl⟩ := zbin_inv hz
    exact zs_bin (fun _ _ _ H locs ls r h => lv_ixor hx hb hd (by rw [← zxor_i]; exact h)) (Or.inl rfl) (fun _ _ => zVo_i (i32_in _)) (k hg)
  | ishl =>
    cases hn
    obtain ⟨x, y, r, rfl, rfl, rfl, rfl, rfl⟩ := zbin_inv hz
    exact zs_bin (fun _ _ _ H locs ls r h => lv_ishl hx hb hd (by rw [← zshl_i]; exact h)) (Or.inl rfl) (fun _ _ => zVo_i (i32_in _)) (k hg)
  | ishr =>
    cases hn
    obtain ⟨x, y, r, rfl, rfl, rfl, rfl, rfl⟩ := zbin_inv hz
    exact zs_bin (fun _ _ _ H locs ls r h => lv_ishr hx hb hd (by rw [← zshr_i]; exact h)) (Or.inl rfl) (fun _ _ => zVo_i (i32_in _)) (k hg)
  | iushr =>
    cases hn
    obtain ⟨x, y, r, rfl, rfl, rfl, rfl, rfl⟩ := zbin_inv hz
    exact zs_bin (fun _ _ _ H locs ls r h => lv_iushr hx hb hd (zush_i x y).symm h) (Or.inl rfl) (fun _ _ => zVo_i (i32_in _)) (k hg)
  | idiv =>
    cases hn
    obtain ⟨x, y, r, rfl, rfl, rfl, rfl, rfl⟩ := zbind_inv (t := 0) (f := fun x y => w32 (x.tdiv y)) hz
    exact zs_bin (fun _ _ h3 H locs ls r h => lv_idiv hx hb hd (by rw [← i32_0, i32_eq (h3 rfl).2 in32_0]; exact hg.1) (by rw [← i32_div (h3 rfl).1 (h3 rfl).2]; exact h)) (Or.inl rfl) (fun _ _ => zVo_i (w32_in _)) (k hg.2)
  | irem =>
    cases hn
    obtain ⟨x, y, r, rfl, rfl, rfl, rfl, rfl⟩ := zbind_inv (t := 0) (f := fun x y => x.tmod y) hz
    exact zs_bin (fun _ _ h3 H locs ls r h => lv_irem hx hb hd (by rw [← i32_0, i32_eq (h3 rfl).2 in32_0]; exact hg.1) (by rw [← i32_rem (h3 rfl).1 (h3 rfl).2 hg.1]; exact h)) (Or.inl rfl) (fun _ hy => zVo_i (tmod_in32 hy.i hg.1)) (k hg.2)
  | ladd =>
    cases hn
    obtain ⟨x, y, r, rfl, rfl, rfl, rfl, rfl⟩ := zbin_inv (t := 1) (u := 1) (f := fun x y => w64 (x + y)) hz
    exact zs_bin (fun _ _ _ H locs ls r h => lv_ladd hx hb hd (by rw [← i64_add]; exact h)) (Or.inr rfl) (fun _ _ => zVo_l (w64_in _)) (k hg)
  | lsub =>
    cases hn
    obtain ⟨x, y, r, rfl, rfl, rfl, rfl, rfl⟩ := zbin_inv (t := 1) (u := 1) (f := fun x y => w64 (x - y)) hz
    exact zs_bin (fun _ _ _ H locs ls r h => lv_lsub hx hb hd (by rw [← i64_sub]; exact h)) (Or.inr rfl) (fun _ _ => zVo_l (w64_in _)) (k hg)
  | lmul =>
    cases hn
    obtain ⟨x, y, r, rfl, rfl, rfl, rfl, rfl⟩ := zbin_inv (t := 1) (u := 1) (f := fun x y => w64 (x * y)) hz
    exact zs_bin (fun _ _ _ H locs ls r h => lv_lmul hx hb hd (by rw [← i64_mul]; exact h)) (Or.inr rfl) (fun _ _ => zVo_l (w64_in _)) (k hg)
  | land =>
    cases hn
    obtain ⟨x, y, r, rfl, rfl, rfl, rfl, rfl⟩ := zbin_inv hz
    exact zs_bin (fun _ _ _ H locs ls r h => lv_land hx hb hd (by rw [← zandl_i]; exact h)) (Or.inr rfl) (fun _ _ => zVo_l (i64_in _)) (k hg)
  | lor =>
    cases hn
    obtain ⟨x, y, r, rfl, rfl, rfl, rfl, rfl⟩ := zbin_inv hz
    exact zs_bin (fun _ _ _ H locs ls r h => lv_lor hx hb hd (by rw [← zorl_i]; exact h)) (Or.inr rfl) (fun _ _ => zVo_l (i64_in _)) (k hg)
  | lcmp =>
    cases hn
    obtain ⟨x, y, r, rfl, rfl, rfl, rfl, rfl⟩ := zbin_inv hz
    exact zs_bin (fun h1 h2 _ H locs ls r h => W.lcmp hx hb hd (by rw [i64_cmp h1 h2]; exact h)) (Or.inr rfl) (fun _ _ => zVo_i (zcmp_in _ _)) (k hg)
  | ldiv =>
    cases hn
    obtain ⟨x, y, r, rfl, rfl, rfl, rfl, rfl⟩ := zbind_inv (t := 1) (f := fun x y => w64 (x.tdiv y)) hz
    exact zs_bin (fun h1 h2 h3 H locs ls r h => lv_ldiv hx hb hd (by rw [← i64_0, i64_eq h2 (in32_64 in32_0)]; exact hg.1) (by rw [← i64_div h1 h2]; exact h)) (Or.inr rfl) (fun _ _ => zVo_l (w64_in _)) (k hg.2)
  | lrem =>
    cases hn
    obtain ⟨x, y, r, rfl, rfl, rfl, rfl, rfl⟩ := zbind_inv (t := 1) (f := fun x y => x.tmod y) hz
    exact zs_bin (fun h1 h2 h3 H locs ls r h => lv_lrem hx hb hd (by rw [← i64_0, i64_eq h2 (in32_64 in32_0)]; exact hg.1) (by rw [← i64_rem h1 h2 hg.1]; exact h)) (Or.inr rfl) (fun _ hy => zVo_l (tmod_in64 hy.l hg.1)) (k hg.2)
  | i2l =>
    cases hn
    obtain ⟨x, r, rfl, rfl, rfl, rfl, rfl⟩ := zun_inv (t := 0) (u := 1) (f := fun x => x) hz
    exact zs_un (fun hv H locs ls r h => lv_i2l hx hb hd (i32_i2l hv.i) h) (fun hv => zVo_l (in32_64 hv.i)) (k hg)
  | l2i =>
    cases hn
    obtain ⟨x, r, rfl, rfl, rfl, rfl, rfl⟩ := zun_inv (t := 1) (u := 0) (f := fun x => w32 x) hz
    exact zs_un (fun hv H locs ls r h => lv_l2i hx hb hd (i64_l2i hv.l) h) (fun hv => zVo_i (w32_in _)) (k hg)
  | i2b =>
    cases hn
    obtain ⟨x, r, rfl, rfl, rfl, rfl, rfl⟩ := zun_inv (t := 0) (u := 0) (f := fun x => w8 x) hz
    exact zs_un (fun hv H locs ls r h => lv_i2b hx hb hd (i32_i2b hv.i) h) (fun hv => zVo_i (by have := w8_in x; unfold in32; omega)) (k hg)
  | dup =>
    cases hn
    simp only [zx, zdup] at hz
    split at hz
    · rename_i v r
      split at hz
      · cases hz
      · rename_i ht
        cases hz
        intro hO hl hs H locs ls hR hS hL
        exact lv_dup hx hb hd (zV_cat1 ht) (k hg hO hl (hs.cons hs.head) H locs ls hR hS hL)
    · cases hz
  | pop =>
    cases hn
    simp only [zx, zpop] at hz
    split at hz
    · rename_i v r
      split at hz
      · cases hz
      · rename_i ht
        cases hz
        intro hO hl hs H locs ls hR hS hL
        exact lv_pop hx hb hd (zV_cat1 ht) (k hg hO hl hs.tail H locs ls hR hS hL)
    · cases hz
  | dup2 =>
    cases hn
    simp only [zx, zdup2] at hz
    split at hz
    · rename_i v w r
      split at hz
      · cases hz
      · rename_i ht
        cases hz
        intro hO hl hs H locs ls hR hS hL
        exact lv_dup2_11 hx hb hd (zV_cat1 (fun q => ht (Or.inl q))) (zV_cat1 (fun q => ht (Or.inr q))) (k hg hO hl ((hs.cons hs.tail.head).cons hs.head) H locs ls hR hS hL)
    · cases hz
  | getfield i =>
    cases hn
    obtain ⟨c, j, rfl, rfl, h1, h2, h3, h4⟩ := zFlk_ok hk
    simp only [zx, zgetf] at hz
    split at hz
    · rename_i a r
      split at hz
      · rename_i ht
        obtain ⟨t, a⟩ := a
        cases ht
        cases hz
        subst h3
        exact zx_getf hX' h1 h2 h4 hd hg.1 (k hg.2)
      · cases hz
    · cases hz
  | putfield i =>
    cases hn
    simp only [zlk, Bool.and_eq_true, Bool.or_eq_true, beq_iff_eq] at hk
    obtain ⟨hk1, hk2⟩ := hk
    obtain ⟨c, j, rfl, rfl, h1, h2, h3, h4⟩ := zFlk_ok hk1
    obtain ⟨a, v, r, rfl, rfl, rfl, rfl, rfl⟩ := zputf_inv (ci := c) (k := j) (t := qt) hz
    subst h3
    have hf : (zTT c j).2.2.2 = false ∨ (ini = true ∧ c = o) := hk2.imp (fun h => h) (fun h => ⟨h.1, by omega⟩)
    by_cases h7 : zTag (zTy c j) = 5
    · rw [if_pos h7] at hg
      exact zx_putf hX' h1 h2 h4 hf hd rfl (fun _ => hg.2.1) hg.1 (k hg.2.2)
    · rw [if_neg h7] at hg
      exact zx_putf hX' h1 h2 h4 hf hd rfl (fun q => absurd q h7) hg.1 (k hg.2)
  | iaload =>
    cases hn
    simp only [zx, zald] at hz
    split at hz
    · rename_i i a r
      split at hz
      · rename_i ht
        obtain ⟨t, a⟩ := a
        obtain ⟨ti, i⟩ := i
        obtain ⟨h5, h6⟩ := ht
        cases h5
        cases h6
        cases hz
        exact zx_iald hX' hd hg.1 (k hg.2)
      · cases hz
    · cases hz
  | laload =>
    cases hn
    simp only [zx, zald] at hz
    split at hz
    · rename_i i a r
      split at hz
      · rename_i ht
        obtain ⟨t, a⟩ := a
        obtain ⟨ti, i⟩ := i
        obtain ⟨h5, h6⟩ := ht
        cases h5
        cases h6
        cases hz
        exact zx_lald hX' hd hg.1 (k hg.2)
      · cases hz
    · cases hz
  | baload =>
    cases hn
    simp only [zlk, Bool.or_eq_true, beq_iff_eq] at hk
    simp only [zx, zald] at hz
    split at hz
    · rename_i i a r
      split at hz
      · rename_i ht
        obtain ⟨t, a⟩ := a
        obtain ⟨ti, i⟩ := i
        obtain ⟨h5, h6⟩ := ht
        cases h5
        cases h6
        cases hz
        exact zx_bald hX' hd hk hg.1 (k hg.2)
      · cases hz
    · cases hz
  | aaload =>
    cases hn
    simp only [zlk, Bool.and_eq_true, decide_eq_true_eq] at hk
    simp only [zx, zald] at hz
    split at hz
    · rename_i i a r
      split at hz
      · rename_i ht
        obtain ⟨t, a⟩ := a
        obtain ⟨ti, i⟩ := i
        obtain ⟨h5, h6⟩ := ht
        cases h5
        cases h6
        cases hz
        exact zx_aald hX' hd hk hg.1 (k hg.2)
      · cases hz
    · cases hz
  | iastore =>
    cases hn
    simp only [zx, zast] at hz
    split at hz
    · rename_i v i a r
      split at hz
      · rename_i ht
        obtain ⟨t, a⟩ := a
        obtain ⟨ti, i⟩ := i
        obtain ⟨tv, v⟩ := v
        obtain ⟨h5, h6, h7⟩ := ht
        cases h5
        cases h6
        cases h7
        cases hz
        exact zx_iast hX' hd hg.1 (k hg.2)
      · cases hz
    · cases hz
  | lastore =>
    cases hn
    simp only [zx, zast] at hz
    split at hz
    · rename_i v i a r
      split at hz
      · rename_i ht
        obtain ⟨t, a⟩ := a
        obtain ⟨ti, i⟩ := i
        obtain ⟨tv, v⟩ := v
        obtain ⟨h5, h6, h7⟩ := ht
        cases h5
        cases h6
        cases h7
        cases hz
        exact zx_last hX' hd hg.1 (k hg.2)
      · cases hz
    · cases hz
  | bastore =>
    cases hn
    simp only [zx] at hz
    by_cases hq : qa = 102
    · rw [if_pos hq] at hz
      simp only [zastB] at hz
      split at hz
      · rename_i v i a r
        split at hz
        · rename_i ht
          obtain ⟨t, a⟩ := a
          obtain ⟨ti, i⟩ := i
          obtain ⟨tv, v⟩ := v
          obtain ⟨h5, h6, h7⟩ := ht
          cases h5
          cases h6
          cases h7
          cases hz
          exact zx_bast hX' hd hg.1 (k hg.2)
        · cases hz
      · cases hz
    · rw [if_neg hq] at hz
      simp only [zastZ] at hz
      split at hz
      · rename_i v i a r
        split at hz
        · rename_i ht
          obtain ⟨t, a⟩ := a
          obtain ⟨ti, i⟩ := i
          obtain ⟨tv, v⟩ := v
          obtain ⟨h5, h6, h7⟩ := ht
          cases h5
          cases h6
          cases h7
          cases hz
          exact zx_zast hX' hd hg.1 hg.2.1 (k hg.2.2)
        · cases hz
      · cases hz
  | aastore =>
    cases hn
    simp only [zlk, Bool.or_eq_true, Bool.and_eq_true, beq_iff_eq] at hk
    simp only [zx, zastA] at hz
    split at hz
    · rename_i v i a r
      split at hz
      · rename_i ht
        obtain ⟨t, a⟩ := a
        obtain ⟨ti, i⟩ := i
        obtain ⟨tv, v⟩ := v
        obtain ⟨h5, h6, h7⟩ := ht
        cases h5
        cases h6
        cases h7
        cases hz
        exact zx_aast (ci := qb.toNat) hX' hd (by omega) hg.1 (hg.2.1.imp id (fun h => by rw [h]; omega)) (k hg.2.2)
      · cases hz
    · cases hz
  | arraylength =>
    cases hn
    simp only [zlk, Bool.and_eq_true, decide_eq_true_eq] at hk
    simp only [zx, zalen] at hz
    split at hz
    · rename_i a r
      split at hz
      · rename_i ht
        obtain ⟨t, a⟩ := a
        cases ht
        cases hz
        exact zx_alen hX' hd hk hg.1 (k hg.2)
      · cases hz
    · cases hz
  | _ => cases hz
/-- a row of instructions -/
theorem zG.blk (hX : zCx C E o cc nL ret ini) (os : List ZO) : ∀ {pc : Nat} {l : ZL} {st : List ZV} {M : ZM} {g : Prop → Prop} {pc' : Nat}, zdec o ini cc pc os = some pc' → zxs S os l st M = some (g, l', st', M') → g True → zG C E nL S ce sl Q pc' l' st' M' → zG C E nL S ce sl Q pc l st M := by
  have gen : ∀ (os : List ZO) {pc : Nat} {l : ZL} {st : List ZV} {M : ZM} {g : Prop → Prop} {pc' : Nat} (P : Prop), zdec o ini cc pc os = some pc' → zxs S os l st M = some (g, l', st', M') → g P → (P → zG C E nL S ce sl Q pc' l' st' M') → zG C E nL S ce sl Q pc l st M := by
    intro os
    induction os with
    | nil =>
      intro pc l st M g pc' P hd hz hg k
      cases hd
      cases hz
      exact k hg
    | cons q os ih =>
      intro pc l st M g pc' P hd hz hg k
      unfold zdec at hd
      cases hdc : decode cc pc with
      | error e => rw [hdc] at hd; cases hd
      | ok r =>
        obtain ⟨i, n⟩ := r
        rw [hdc] at hd
        dsimp only at hd
        by_cases hc : i = q.1 ∧ n = zlen q.1 ∧ zlk o ini q = true
        · rw [if_pos hc] at hd
          obtain ⟨rfl, hn, hk⟩ := hc
          unfold zxs at hz
          cases h1 : zx S q l st M with
          | none => rw [h1] at hz; cases hz
          | some r1 =>
            obtain ⟨g1, l1, st1, M1⟩ := r1
            rw [h1] at hz
            dsimp only at hz
            cases h2 : zxs S os l1 st1 M1 with
            | none => rw [h2] at hz; cases hz
            | some r2 =>
              obtain ⟨g2, l2, st2, M2⟩ := r2
              rw [h2] at hz
              dsimp only at hz
              cases hz
              exact zx_ok hX hdc hn hk h1 hg (fun hg2 => ih P hd h2 hg2 k)
        · rw [if_neg hc] at hd; cases hd
  intro pc l st M g pc' hd hz hg k
  exact gen os True hd hz hg (fun _ => k)
end
