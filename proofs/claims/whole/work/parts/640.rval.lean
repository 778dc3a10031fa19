/-! A RULE READ: a value in the reference -/
def wo (k : Int) : Int := ([2, 6, 7, 8, 9, 10, 11, 12, 13, 4, 14, 15] : List Int).getD k.toNat 15
theorem wo_tab : ∀ k : Fin 12, (1 ≤ wo (k.1 : Int) ∧ wo (k.1 : Int) < 20) ∧ cw (wo (k.1 : Int)) = k.1 := by decide +kernel
theorem wo_of {k : Int} (h : 0 ≤ k ∧ k < 12) : (1 ≤ wo k ∧ wo k < 20) ∧ (cw (wo k) : Int) = k := by
  have := wo_tab ⟨k.toNat, by omega⟩
  have e : ((⟨k.toNat, by omega⟩ : Fin 12).1 : Int) = k := by show ((k.toNat : Nat) : Int) = k; omega
  rw [e] at this
  refine ⟨this.1, ?_⟩
  rw [this.2]; exact e
/-- the reference reads a rule: its entries so far, its count -/
def RJ (S : ZS) (R : ZM) (T : Int) (B : Int → Int) (p : Int) (L : List (Int × Int)) (P j : Int) : Prop := RP S R T B p ∧ ((R 176 23 = j ∧ R 176 29 = 12) ∧ (0 ≤ j ∧ j < 6)) ∧ (R 176 25 = (L.length : Int) ∧ SgR (R 197) (R 198) (300 * j) L) ∧ R 176 27 = P
/-- only the entries of a rule and the reading are others -/
def FG (j : Int) (R R' : ZM) : Prop := (∀ x, x ≠ 176 → x ≠ 197 → x ≠ 198 → R' x = R x) ∧ (∀ i, i ≠ 21 → i ≠ 22 → i ≠ 25 → i ≠ 27 → R' 176 i = R 176 i) ∧ ∀ i, (i < 300 * j ∨ 300 * j + 300 ≤ i) → R' 197 i = R 197 i ∧ R' 198 i = R 198 i
/-- only the place and the count are others -/
def FZ (R R' : ZM) : Prop := (∀ x, x ≠ 176 → R' x = R x) ∧ ∀ i, i ≠ 21 → i ≠ 27 → R' 176 i = R 176 i
section
variable {S : ZS} {R M : ZM} {T : Int} {B : Int → Int} {p q P j : Int} {L : List (Int × Int)}
theorem FG.refl (R : ZM) : FG j R R := ⟨fun _ _ _ _ => rfl, fun _ _ _ _ _ => rfl, fun _ _ => ⟨rfl, rfl⟩⟩
theorem FG.trans {R R' R'' : ZM} (h : FG j R R') (h' : FG j R' R'') : FG j R R'' := ⟨fun x a b c => (h'.1 x a b c).trans (h.1 x a b c), fun i a b c d => (h'.2.1 i a b c d).trans (h.2.1 i a b c d), fun i a => ⟨(h'.2.2 i a).1.trans (h.2.2 i a).1, (h'.2.2 i a).2.trans (h.2.2 i a).2⟩⟩
theorem FG.fp {R' : ZM} (h : FP R R') : FG j R R' := ⟨fun x a _ _ => h.1 x a, fun i a b _ _ => h.2 i a b, fun i _ => by rw [h.1 197 (by decide), h.1 198 (by decide)]; exact ⟨rfl, rfl⟩⟩
theorem FG.z {R' : ZM} (h : FZ R R') : FG j R R' := ⟨fun x a _ _ => h.1 x a, fun i a _ _ d => h.2 i a d, fun i _ => by rw [h.1 197 (by decide), h.1 198 (by decide)]; exact ⟨rfl, rfl⟩⟩
theorem FZ.refl (R : ZM) : FZ R R := ⟨fun _ _ => rfl, fun _ _ _ => rfl⟩
theorem FZ.trans {R R' R'' : ZM} (h : FZ R R') (h' : FZ R' R'') : FZ R R'' := ⟨fun x a => (h'.1 x a).trans (h.1 x a), fun i a b => (h'.2 i a b).trans (h.2 i a b)⟩
theorem FZ.at {v : Int} : FZ M (upM M 176 21 v) := ⟨fun x a => upM_r a, fun j a _ => upM_i a⟩
theorem FZ.c {v : Int} : FZ M (upM M 176 27 v) := ⟨fun x a => upM_r a, fun j _ a => upM_i a⟩
theorem PtW.fg {R' : ZM} (h : PtW R) (f : FG j R R') : PtW R' := h.j (fun i x => f.2.1 i (by omega) (by omega) (by omega) (by omega))
theorem PtW.fz {R' : ZM} (h : PtW R) (f : FZ R R') : PtW R' := h.j (fun i x => f.2 i (by omega) (by omega))
theorem RTp.fg {R' : ZM} (h : RTp R T B) (f : FG j R R') : RTp R' T B := ⟨by rw [f.2.1 20 (by decide) (by decide) (by decide) (by decide)]; exact h.1, by rw [f.1 196 (by decide) (by decide) (by decide)]; exact h.2⟩
theorem RTp.fz {R' : ZM} (h : RTp R T B) (f : FZ R R') : RTp R' T B := ⟨by rw [f.2 20 (by decide) (by decide)]; exact h.1, by rw [f.1 196 (by decide)]; exact h.2⟩
/-- the place alone moves -/
theorem RJ.at {v : Int} (h : RJ S R T B p L P j) (hv : 0 ≤ v ∧ v ≤ T) : RJ S (upM R 176 21 v) T B v L P j := by
  obtain ⟨⟨h1, h2, h3, h4, h5, h6⟩, ⟨a1, a2⟩, ⟨b1, b2⟩, c⟩ := h
  refine ⟨⟨h1, h2.fp FP.p, h3.fp FP.p, hv, by rw [upM_i (by decide)]; exact h5, upM_s _ _ _ _⟩, ⟨by rw [upM_i (by decide), upM_i (by decide)]; exact a1, a2⟩, ⟨by rw [upM_i (by decide)]; exact b1, by rw [upM_r (by decide), upM_r (by decide)]; exact b2⟩, by rw [upM_i (by decide)]; exact c⟩
theorem RJ.sk (hT : TOk T B) (h : RJ S R T B p L P j) : pX12_blanks S R 176 = some (upM R 176 21 (sk T B p)) ∧ RJ S (upM R 176 21 (sk T B p)) T B (sk T B p) L P j := by
  have hs := sk_b (B := B) h.1.2.2.2.1.2
  have hp := h.1.2.2.2.1
  exact ⟨(h.1.sk hT).1, h.at (by omega)⟩
theorem r_entryF (hS : ShW S) {a b : Int} (hf : R 176 22 ≠ 0) : pX12_entry S R 176 a b = some R := by
  simp only [pX12_entry, pX12_entry_55, hS.o, if_true, if_neg hf]
theorem r_entry (h : RJ S R T B p L P j) (hl : (L.length : Int) < 300) {a b : Int} : ∃ R', pX12_entry S R 176 a b = some R' ∧ RJ S R' T B p (L ++ [(a, b)]) P j ∧ FG j R R' := by
  obtain ⟨⟨h1, h2, h3, h4, h5, h6⟩, ⟨⟨a1, a2⟩, a3⟩, ⟨b1, b2⟩, c⟩ := h
  have hn0 : 0 ≤ (L.length : Int) := Int.natCast_nonneg _
  generalize hn : (L.length : Int) = n at *
  have w1 : w32 (300 * j) = 300 * j := w32_i (by omega) (by omega)
  have w2 : w32 (300 * j + n) = 300 * j + n := w32_i (by omega) (by omega)
  have w3 : w32 (n + 1) = n + 1 := w32_i (by omega) (by omega)
  have c1 : 0 ≤ 300 * j + n := by omega
  have c2 : 300 * j + n < 1800 := by omega
  generalize hR1 : upM R 197 (300 * j + n) a = R1
  have e1 : ∀ x, x ≠ 197 → R1 x = R x := fun x y => by rw [← hR1, upM_r y]
  have p1 : PtW R1 := h2.o.eq (e1 176 (by decide))
  generalize hR2 : upM R1 198 (300 * j + n) b = R2
  have e2 : ∀ x, x ≠ 198 → R2 x = R1 x := fun x y => by rw [← hR2, upM_r y]
  generalize hR3 : upM R2 176 25 (n + 1) = R3
  have e3 : ∀ x, x ≠ 176 → R3 x = R2 x := fun x y => by rw [← hR3, upM_r y]
  have e4 : ∀ i, i ≠ 25 → R3 176 i = R 176 i := fun i y => by rw [← hR3, upM_i y, e2 176 (by decide), e1 176 (by decide)]
  have e5 : R3 176 25 = n + 1 := by rw [← hR3, upM_s]
  have x197 : R3 197 = upM R 197 (300 * j + n) a 197 := by rw [e3 197 (by decide), e2 197 (by decide), hR1]
  have x198 : R3 198 = upM R1 198 (300 * j + n) b 198 := by rw [e3 198 (by decide), hR2]
  have g : FG j R R3 := by
    refine ⟨fun x u v y => by rw [e3 x u, e2 x y, e1 x v], fun i _ _ u _ => e4 i u, fun i u => ⟨?_, ?_⟩⟩
    · rw [x197, upM_i (by omega)]
    · rw [x198, upM_i (by omega), e1 198 (by decide)]
  refine ⟨R3, ?_, ⟨⟨h1, h2.fg g, h3.fg g, h4, by rw [e4 22 (by decide)]; exact h5, by rw [e4 21 (by decide)]; exact h6⟩, ⟨by rw [e4 23 (by decide), e4 29 (by decide)]; exact ⟨a1, a2⟩, a3⟩, ⟨by rw [e5, List.length_append, ← hn]; rfl, ?_⟩, by rw [e4 27 (by decide)]; exact c⟩, g⟩
  · have f1 : R1 176 23 = j := by rw [e1 176 (by decide)]; exact a1
    have f2 : R1 176 25 = n := by rw [e1 176 (by decide)]; exact b1
    have f3 : R2 176 25 = n := by rw [e2 176 (by decide)]; exact f2
    simp only [pX12_entry, pX12_entry_55, h1.o, h2.o, p1.o, if_true, h5, a1, b1, w1, w2, c1, c2, and_self, zlet, hR1, f1, f2, hR2, f3, w3, hR3]
  · refine SgR.snoc (SgR.eq L _ b2 (fun i u v => ⟨?_, ?_⟩)) ⟨?_, ?_⟩
    · rw [x197, upM_i (by omega)]
    · rw [x198, upM_i (by omega), e1 198 (by decide)]
    · rw [hn, x197, upM_s]
    · rw [hn, x198, upM_s]
theorem r_count (hS : ShW S) {g : Int} (hg : 0 ≤ g ∧ g ≤ 1000) : pX12_isCounted S R 176 g = some (upM (if R 176 27 = 60 ∧ R 176 22 = 0 then upM R 176 22 (1 + 8 * g + 3) else R) 176 27 (w32 (R 176 27 + 1))) := by
  by_cases z : R 176 27 = 60
  · by_cases y : R 176 22 = 0
    · have e : (upM R 176 22 (1 + 8 * g + 3)) 176 27 = R 176 27 := upM_i (by decide)
      rw [if_pos ⟨z, y⟩]
      simp only [pX12_isCounted, pX12_isCounted_15, hS.o, if_true, if_pos z, r_fails (M := R) (k := 3) hS hg (by decide), if_pos y, Option.bind_some, zlet, e]
    · rw [if_neg (fun u => y u.2)]
      simp only [pX12_isCounted, pX12_isCounted_15, hS.o, if_true, if_pos z, r_fails (M := R) (k := 3) hS hg (by decide), if_neg y, Option.bind_some, zlet]
  · rw [if_neg (fun u => z u.1)]
    simp only [pX12_isCounted, pX12_isCounted_15, hS.o, if_true, if_neg z, zlet]
/-- which word of a rule stands here -/
theorem r_val37 (hS : ShW S) (hM : PtW R) (hT : TOk T B) (ht : RTp R T B) (h29 : R 176 29 = 12) (hp : R 176 21 = q) (hq : 0 ≤ q ∧ q ≤ T) {g : Int} : ∀ (n fuel : Nat) (k : Int), k + n = 12 → 0 ≤ k → n < fuel → (∀ i, 0 ≤ i → i < k → tk T B q ≠ 256 + i) → pX12_value_37 S fuel R 176 g k = pX12_value_62 S R 176 g (if 256 ≤ tk T B q ∧ tk T B q < 268 then tk T B q - 256 else 12) := by
  intro n
  induction n with
  | zero =>
    intro fuel k h1 h2 h3 h4
    obtain ⟨f, rfl⟩ : ∃ f, fuel = f + 1 := ⟨fuel - 1, by omega⟩
    have hk : k = 12 := by omega
    have ht : ¬ (256 ≤ tk T B q ∧ tk T B q < 268) := fun u => h4 (tk T B q - 256) (by omega) (by omega) (by omega)
    rw [if_neg ht, hk]
    simp only [pX12_value_37, hS.o, if_true, h29, Int.le_refl]
  | succ n ih =>
    intro fuel k h1 h2 h3 h4
    obtain ⟨f, rfl⟩ : ∃ f, fuel = f + 1 := ⟨fuel - 1, by omega⟩
    have w1 : w32 (k + 1) = k + 1 := w32_i (by omega) (by omega)
    obtain ⟨o1, o2⟩ := wo_of (k := k) (by omega)
    have hw : pX12_wordOf S R k = some (wo k, R) := by
      have hk : k = 0 ∨ k = 1 ∨ k = 2 ∨ k = 3 ∨ k = 4 ∨ k = 5 ∨ k = 6 ∨ k = 7 ∨ k = 8 ∨ k = 9 ∨ k = 10 ∨ k = 11 := by omega
      rcases hk with u | u | u | u | u | u | u | u | u | u | u | u <;> subst u <;> rfl
    have hs := r_stood hS hM hT ht (w := wo k) o1 (by rw [hp]; exact hq)
    rw [hp, o2] at hs
    by_cases z : tk T B q = 256 + k
    · rw [if_pos (by omega), show tk T B q - 256 = k by omega]
      simp only [pX12_value_37, hS.o, if_true, h29, show ¬ 12 ≤ k by omega, if_false, hw, Option.bind_some, hs, if_pos z, show ¬ (1 : Int) = 0 by decide]
    · rw [← ih f (k + 1) (by omega) (by omega) (by omega) (fun i a b => by
        by_cases y : i = k
        · rw [y]; exact z
        · exact h4 i a (by omega))]
      simp only [pX12_value_37, hS.o, if_true, h29, show ¬ 12 ≤ k by omega, if_false, hw, Option.bind_some, hs, if_neg z, w1]
theorem r_wordOf {k : Int} (hk : 0 ≤ k ∧ k < 12) : pX12_wordOf S R k = some (wo k, R) := by
  have hk : k = 0 ∨ k = 1 ∨ k = 2 ∨ k = 3 ∨ k = 4 ∨ k = 5 ∨ k = 6 ∨ k = 7 ∨ k = 8 ∨ k = 9 ∨ k = 10 ∨ k = 11 := by omega
  rcases hk with u | u | u | u | u | u | u | u | u | u | u | u <;> subst u <;> rfl
/-- a word of a rule ends where its letters end -/
theorem wo_len (hT : TOk T B) (hq : 0 ≤ q) (ht : 256 ≤ tk T B q ∧ tk T B q < 268) : q + zSl (wo (tk T B q - 256)) = eot T B q ∧ q < T := by
  obtain ⟨o1, o2⟩ := wo_of (k := tk T B q - 256) (by omega)
  exact tk_len hT o1 hq (by rw [o2]; omega)
/-- after a fault a value is read for nothing -/
theorem r_valueF (hS : ShW S) (hM : PtW R) (hT : TOk T B) (ht : RTp R T B) (h29 : R 176 29 = 12) (hp : 0 ≤ R 176 21 ∧ R 176 21 ≤ T) (hf : R 176 22 ≠ 0) : ∃ R', pX12_value S R 176 = some R' ∧ FZ R R' ∧ (0 ≤ R' 176 21 ∧ R' 176 21 ≤ T) := by
  have hb := hT.1
  have hs := sk_b (B := B) hp.2
  have b1 := r_blanks hS hM hT ht (by omega)
  generalize hq : sk T B (R 176 21) = q at b1 hs
  generalize hR1 : upM R 176 21 q = R1 at b1
  have z1 : FZ R R1 := by rw [← hR1]; exact FZ.at
  have e21 : R1 176 21 = q := by rw [← hR1, upM_s]
  have e22 : R1 176 22 ≠ 0 := by rw [z1.2 22 (by decide) (by decide)]; exact hf
  have e29 : R1 176 29 = 12 := by rw [z1.2 29 (by decide) (by decide)]; exact h29
  have p1 := hM.fz z1
  have t1 := ht.fz z1
  have hq' : 0 ≤ q ∧ q ≤ T := by omega
  have d0 := r_isDg hS p1 hT t1 (by rw [e21]; omega)
  rw [e21] at d0
  have cnt : ∀ R2 : ZM, R2 176 22 ≠ 0 → pX12_isCounted S R2 176 q = some (upM R2 176 27 (w32 (R2 176 27 + 1))) := fun R2 y => by
    rw [r_count hS (by omega), if_neg (fun u => y u.2)]
  by_cases z : isDg (bt T B q)
  · rw [if_pos z] at d0
    obtain ⟨v, d1, -, -⟩ := (r_digits hS p1 hT t1 (by rw [e21]; exact hq')).2 (by rw [e21]; exact z)
    rw [e21, if_neg e22, ite_self, ← eot_dg z] at d1
    have hlt := bt_lt (T := T) (B := B) (p := q) (by unfold isDg at z; omega)
    have he := eot_b (B := B) hlt
    generalize hR2 : upM R1 176 21 (eot T B q) = R2 at d1
    have z2 : FZ R1 R2 := by rw [← hR2]; exact FZ.at
    have f22 : R2 176 22 ≠ 0 := by rw [z2.2 22 (by decide) (by decide)]; exact e22
    refine ⟨upM R2 176 27 (w32 (R2 176 27 + 1)), ?_, (z1.trans z2).trans FZ.c, by rw [upM_i (by decide), ← hR2, upM_s]; omega⟩
    have f3 : (upM R2 176 27 (w32 (R2 176 27 + 1))) 176 22 ≠ 0 := by rw [upM_i (by decide)]; exact f22
    simp only [pX12_value, hS.o, if_true, b1, Option.bind_some, d0, show ¬ (1 : Int) = 0 by decide, if_false, d1, e21, cnt R2 f22, r_entryF hS f3]
  · rw [if_neg z] at d0
    have l37 := r_val37 hS p1 hT t1 e29 e21 hq' (g := q) 12 zFU 0 (by decide) (by decide) (zFU_gt (by decide)) (fun i a b => by omega)
    by_cases y : 256 ≤ tk T B q ∧ tk T B q < 268
    · rw [if_pos y] at l37
      obtain ⟨o1, -⟩ := wo_of (k := tk T B q - 256) (by omega)
      obtain ⟨l1, l2⟩ := wo_len hT hq'.1 y
      have he := eot_b (B := B) (p := q) ⟨hq'.1, l2⟩
      generalize hR2 : upM R1 176 27 (w32 (R1 176 27 + 1)) = R2
      have z2 : FZ R1 R2 := by rw [← hR2]; exact FZ.c
      have f21 : R2 176 21 = q := by rw [← hR2, upM_i (by decide)]; exact e21
      have w1 : w32 (q + zSl (wo (tk T B q - 256))) = eot T B q := by rw [l1]; exact w32_i (by omega) (by omega)
      have c1 := cnt R1 e22
      rw [hR2] at c1
      refine ⟨upM R2 176 21 (eot T B q), ?_, (z1.trans z2).trans FZ.at, by rw [upM_s]; omega⟩
      have f3 : (upM R2 176 21 (eot T B q)) 176 22 ≠ 0 := by rw [upM_i (by decide), z2.2 22 (by decide) (by decide)]; exact e22
      have o1' : 0 ≤ wo (tk T B q - 256) ∧ wo (tk T B q - 256) < 20 := by omega
      simp only [pX12_value, hS.o, if_true, b1, Option.bind_some, d0, e21, l37, pX12_value_62, e29, show ¬ tk T B q - 256 = 12 by omega, if_false, c1, r_wordOf (k := tk T B q - 256) (by omega), o1', and_self, f21, w1, zlet, r_entryF hS f3]
    · rw [if_neg y] at l37
      refine ⟨R1, ?_, z1, by rw [e21]; exact hq'⟩
      simp only [pX12_value, hS.o, if_true, b1, Option.bind_some, d0, e21, l37, pX12_value_62, e29, r_fails (M := R1) (k := 0) hS (show 0 ≤ q ∧ q ≤ 1000 by omega) (by decide), if_neg e22]
end
