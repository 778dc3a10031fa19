/-! TOKENS: the reference -/
theorem w_ref : ∀ w : Fin 19, ∃ k : Fin 19, zSl (w.1 + 1 : Int) = wln k.1 ∧ ∀ i : Fin 7, (i.1 : Int) < wln k.1 → zSc (w.1 + 1 : Int) (i.1 : Int) = zSc 0 (wst k.1 + (i.1 : Int)) := by decide +kernel
/-- which word of the row the reference's word is -/
def cw (w : Int) : Nat := ([0, 12, 0, 13, 9, 14, 1, 2, 3, 4, 5, 6, 7, 8, 10, 11, 15, 18, 17, 16] : List Nat).getD w.toNat 0
theorem cw_tab : ∀ w : Fin 20, w.1 ≠ 0 → cw (w.1 : Int) < 19 ∧ zSl (w.1 : Int) = wln (cw (w.1 : Int)) ∧ ∀ i : Fin 7, (i.1 : Int) < wln (cw (w.1 : Int)) → zSc (w.1 : Int) (i.1 : Int) = zSc 0 (wst (cw (w.1 : Int)) + (i.1 : Int)) ∧ (97 ≤ zSc (w.1 : Int) (i.1 : Int) ∧ zSc (w.1 : Int) (i.1 : Int) ≤ 122) := by decide +kernel
theorem cw_of {w : Int} (h : 1 ≤ w ∧ w < 20) : cw w < 19 ∧ zSl w = wln (cw w) ∧ ∀ i, 0 ≤ i → i < wln (cw w) → zSc w i = zSc 0 (wst (cw w) + i) ∧ (97 ≤ zSc w i ∧ zSc w i ≤ 122) := by
  have := cw_tab ⟨w.toNat, by omega⟩ (by show w.toNat ≠ 0; omega)
  simp only [Int.toNat_of_nonneg (show 0 ≤ w by omega)] at this
  refine ⟨this.1, this.2.1, fun i a b => ?_⟩
  have hl := (wt_len this.1).1
  have t := this.2.2 ⟨i.toNat, by omega⟩
  simp only [Int.toNat_of_nonneg a] at t
  exact t b
theorem nv_sn {f : Int → Int} : ∀ (n : Nat) (p v : Int), nvF f (n + 1) p v = nvF f n p v * 10 + f (p + n) - 48 := by
  intro n
  induction n with
  | zero => intro p v; simp [nvF]
  | succ n ih =>
    intro p v
    rw [nvF, ih, nvF, show p + 1 + (n : Int) = p + ((n + 1 : Nat) : Int) by omega]
section
variable {S : ZS} {M : ZM} {T : Int} {B : Int → Int}
/-- only the place of reading, and the fault, are others -/
def FP (M M' : ZM) : Prop := (∀ x, x ≠ 176 → M' x = M x) ∧ ∀ j, j ≠ 21 → j ≠ 22 → M' 176 j = M 176 j
theorem FP.refl (M : ZM) : FP M M := ⟨fun _ _ => rfl, fun _ _ _ => rfl⟩
theorem FP.trans {M M' M'' : ZM} (h : FP M M') (h' : FP M' M'') : FP M M'' := ⟨fun x a => (h'.1 x a).trans (h.1 x a), fun j a b => (h'.2 j a b).trans (h.2 j a b)⟩
theorem FP.p {v : Int} : FP M (upM M 176 21 v) := ⟨fun x a => upM_r a, fun j a _ => upM_i a⟩
theorem FP.f {v : Int} : FP M (upM M 176 22 v) := ⟨fun x a => upM_r a, fun j _ a => upM_i a⟩
theorem PtW.fp {M' : ZM} (h : PtW M) (f : FP M M') : PtW M' := h.j (fun j x => f.2 j (by omega) (by omega))
theorem RTp.fp {M' : ZM} (h : RTp M T B) (f : FP M M') : RTp M' T B := ⟨by rw [f.2 20 (by decide) (by decide)]; exact h.1, by rw [f.1 196 (by decide)]; exact h.2⟩
theorem upM_same {a j : Int} : upM M a j (M a j) = M := by
  funext x y
  rw [upM_ap]
  by_cases z : x = a ∧ y = j
  · rw [if_pos z, z.1, z.2]
  · rw [if_neg z]
theorem upM_two {a j u v : Int} : upM (upM M a j u) a j v = upM M a j v := by
  funext x y
  rw [upM_ap, upM_ap, upM_ap]
  by_cases z : x = a ∧ y = j
  · rw [if_pos z, if_pos z]
  · rw [if_neg z, if_neg z, if_neg z]
theorem r_byteHere (hS : ShW S) (hM : PtW M) (hT : TOk T B) (ht : RTp M T B) (hp : 0 ≤ M 176 21) : pX12_byteHere S M 176 = some (bt T B (M 176 21), M) := by
  have e1 := ht.1
  have hb := hT.1
  by_cases y : T ≤ M 176 21
  · simp only [pX12_byteHere, pX12_byteHere_28, hS.o, e1, if_pos y, if_true, bt_out y]
  · have e2 := (ht.2 (M 176 21) hp (by omega)).1
    have l4 : M 176 21 < 400 := by omega
    simp only [pX12_byteHere, pX12_byteHere_28, hS.o, hM.o, e1, if_neg y, hp, l4, and_self, if_true, zand255, e2, bt_in (B := B) (show 0 ≤ M 176 21 ∧ M 176 21 < T by omega)]
theorem r_blanks0 (hS : ShW S) (hT : TOk T B) : ∀ (k fuel : Nat) (M : ZM), PtW M → RTp M T B → T - M 176 21 ≤ k → (0 ≤ M 176 21 ∧ M 176 21 ≤ 1000) → k < fuel → pX12_blanks_0 S fuel M 176 = some (upM M 176 21 (sk T B (M 176 21))) := by
  have hb := hT.1
  intro k
  induction k with
  | zero =>
    intro fuel M hM ht h1 h2 h3
    obtain ⟨f, rfl⟩ : ∃ f, fuel = f + 1 := ⟨fuel - 1, by omega⟩
    have e := bt_out (T := T) (B := B) (p := M 176 21) (by omega)
    unfold sk
    rw [rn_ge (by omega), upM_same]
    simp only [pX12_blanks_0, hS.o, if_true, r_byteHere hS hM hT ht h2.1, Option.bind_some, e, show ¬ (-1 : Int) = 32 by decide, if_false]
  | succ k ih =>
    intro fuel M hM ht h1 h2 h3
    obtain ⟨f, rfl⟩ : ∃ f, fuel = f + 1 := ⟨fuel - 1, by omega⟩
    by_cases z : bt T B (M 176 21) = 32
    · have hl := bt_lt (T := T) (B := B) (p := M 176 21) (by omega)
      have w1 : w32 (M 176 21 + 1) = M 176 21 + 1 := w32_i (by omega) (by omega)
      have := ih f (upM M 176 21 (M 176 21 + 1)) (hM.fp FP.p) (ht.fp FP.p) (by rw [upM_s]; omega) (by rw [upM_s]; omega) (by omega)
      rw [upM_s, upM_two] at this
      have es : sk T B (M 176 21) = sk T B (M 176 21 + 1) := rn_y (by decide) (by omega)
      rw [es, ← this]
      simp only [pX12_blanks_0, hS.o, if_true, r_byteHere hS hM hT ht h2.1, Option.bind_some, if_pos z, zlet, w1]
    · have es : sk T B (M 176 21) = M 176 21 := rn_n (by decide) (by omega)
      rw [es, upM_same]
      simp only [pX12_blanks_0, hS.o, if_true, r_byteHere hS hM hT ht h2.1, Option.bind_some, if_neg z]
theorem r_blanks (hS : ShW S) (hM : PtW M) (hT : TOk T B) (ht : RTp M T B) (hp : 0 ≤ M 176 21 ∧ M 176 21 ≤ 1000) : pX12_blanks S M 176 = some (upM M 176 21 (sk T B (M 176 21))) :=
  r_blanks0 hS hT (T - M 176 21).toNat zFU M hM ht (by omega) hp (zFU_gt (by have := hT.1; omega))
theorem r_isDg (hS : ShW S) (hM : PtW M) (hT : TOk T B) (ht : RTp M T B) (hp : 0 ≤ M 176 21) : pX12_isDigit S M 176 = some (if isDg (bt T B (M 176 21)) then 1 else 0, M) := by
  by_cases z : isDg (bt T B (M 176 21))
  · simp only [pX12_isDigit, hS.o, if_true, r_byteHere hS hM hT ht hp, Option.bind_some, r_in, if_pos z, or_true, if_true]
  · simp only [pX12_isDigit, hS.o, if_true, r_byteHere hS hM hT ht hp, Option.bind_some, r_in, if_neg z, true_or, if_true]
theorem r_fails {k q : Int} (hS : ShW S) (hq : 0 ≤ q ∧ q ≤ 1000) (hk : 0 ≤ k ∧ k ≤ 10) : pX12_fails S M 176 k q = some (if M 176 22 = 0 then upM M 176 22 (1 + 8 * q + k) else M) := by
  have w1 : w32 (8 * q) = 8 * q := w32_i (by omega) (by omega)
  have w2 : w32 (1 + 8 * q) = 1 + 8 * q := w32_i (by omega) (by omega)
  have w3 : w32 (1 + 8 * q + k) = 1 + 8 * q + k := w32_i (by omega) (by omega)
  by_cases z : M 176 22 = 0
  · simp only [pX12_fails, pX12_fails_23, hS.o, if_true, if_pos z, w1, w2, w3, zlet]
  · simp only [pX12_fails, pX12_fails_23, hS.o, if_true, if_neg z, zlet, upM_same]
/-- the digits of a number, to their end -/
theorem r_digits25 (hS : ShW S) (hT : TOk T B) {q e : Int} (he : e = rn T B 48 57 q) (hq : 0 ≤ q ∧ q < T) : ∀ (k fuel : Nat) (M : ZM) (v : Int), PtW M → RTp M T B → M 176 21 + k = e → q ≤ M 176 21 → (0 ≤ v ∧ v ≤ 99999) → (M 176 21 - q ≤ 5 → v = nvF (bt T B) (M 176 21 - q).toNat q 0) → k < fuel → ∃ v', pX12_digits_25 S fuel M 176 99999 q v = some (v', if e - q ≤ 5 then upM M 176 21 e else (if M 176 22 = 0 then upM (upM M 176 21 e) 176 22 (1 + 8 * q + 1) else upM M 176 21 e)) ∧ (e - q ≤ 5 → v' = numv T B q e) ∧ (0 ≤ v' ∧ v' ≤ 99999) := by
  have hb := hT.1
  have hrb := rn_b (T := T) (B := B) (lo := 48) (hi := 57) (p := q)
  rw [← he] at hrb
  intro k
  induction k with
  | zero =>
    intro fuel M v hM ht h1 h2 h3 h4 h5
    obtain ⟨f, rfl⟩ : ∃ f, fuel = f + 1 := ⟨fuel - 1, by omega⟩
    have ep : M 176 21 = e := by omega
    have nd : ¬ isDg (bt T B (M 176 21)) := by
      rw [ep, he]; exact rn_end (by decide) (T - q).toNat q (by omega)
    have w1 : w32 (M 176 21 - q) = M 176 21 - q := w32_i (by omega) (by omega)
    have us : upM M 176 21 e = M := by rw [← ep]; exact upM_same
    have hp0 : 0 ≤ M 176 21 := by omega
    refine ⟨v, ?_, fun u => ?_, h3⟩
    · rw [us]
      by_cases z : e - q ≤ 5
      · have z' : ¬ 5 < M 176 21 - q := by omega
        rw [if_pos z]
        simp only [pX12_digits_25, hS.o, if_true, r_isDg hS hM hT ht hp0, Option.bind_some, if_neg nd, w1, if_neg z', if_pos h3.2, pX12_digits_93]
      · have z' : 5 < M 176 21 - q := by omega
        rw [if_neg z]
        simp only [pX12_digits_25, hS.o, if_true, r_isDg hS hM hT ht hp0, Option.bind_some, if_neg nd, w1, if_pos z', pX12_digits_87, r_fails (M := M) (k := 1) (q := q) hS (by omega) (by decide), pX12_digits_93]
    · unfold numv
      rw [h4 (by omega), ep]
  | succ k ih =>
    intro fuel M v hM ht h1 h2 h3 h4 h5
    obtain ⟨f, rfl⟩ : ∃ f, fuel = f + 1 := ⟨fuel - 1, by omega⟩
    have dg : isDg (bt T B (M 176 21)) := by
      have : M 176 21 < rn T B 48 57 q := by omega
      exact rn_in h2 this
    have w1 : w32 (M 176 21 - q) = M 176 21 - q := w32_i (by omega) (by omega)
    have w2 : w32 (M 176 21 + 1) = M 176 21 + 1 := w32_i (by omega) (by omega)
    have hp0 : 0 ≤ M 176 21 := by omega
    have e21 : (upM M 176 21 (M 176 21 + 1)) 176 21 = M 176 21 + 1 := upM_s _ _ _ _
    have e22 : (upM M 176 21 (M 176 21 + 1)) 176 22 = M 176 22 := upM_i (by decide)
    by_cases z : 5 ≤ M 176 21 - q
    · obtain ⟨v', a1, a2, a3⟩ := ih f (upM M 176 21 (M 176 21 + 1)) v (hM.fp FP.p) (ht.fp FP.p) (by rw [e21]; omega) (by rw [e21]; omega) h3 (fun u => by rw [e21] at u; omega) (by omega)
      rw [e22, upM_two] at a1
      refine ⟨v', ?_, a2, a3⟩
      rw [← a1]
      simp only [pX12_digits_25, hS.o, if_true, r_isDg hS hM hT ht hp0, Option.bind_some, if_pos dg, show ¬ (1 : Int) = 0 by decide, if_false, w1, if_pos z, pX12_digits_58, w2, zlet]
    · have hv := h4 (by omega)
      have sn : nvF (bt T B) (M 176 21 + 1 - q).toNat q 0 = v * 10 + bt T B (M 176 21) - 48 := by
        rw [show (M 176 21 + 1 - q).toNat = (M 176 21 - q).toNat + 1 by omega, nv_sn, ← hv, show q + ((M 176 21 - q).toNat : Int) = M 176 21 by omega]
      have h5' : ∀ n : Nat, n < 6 → ((0 : Int) + 1) * (10 : Int) ^ n ≤ 100000 := by decide
      have bb := (nv_b (f := bt T B) (M 176 21 + 1 - q).toNat q 0 (fun i a b => by
        have : i < rn T B 48 57 q := by omega
        exact rn_in a this) (by decide) (h5' _ (by omega))).1
      rw [sn] at bb
      have w3 : w32 (10 * v) = 10 * v := w32_i (by omega) (by omega)
      have w4 : w32 (10 * v + bt T B (M 176 21)) = 10 * v + bt T B (M 176 21) := w32_i (by omega) (by omega)
      have w5 : w32 (10 * v + bt T B (M 176 21) - 48) = v * 10 + bt T B (M 176 21) - 48 := by rw [w32_i (by omega) (by omega)]; omega
      obtain ⟨v', a1, a2, a3⟩ := ih f (upM M 176 21 (M 176 21 + 1)) (v * 10 + bt T B (M 176 21) - 48) (hM.fp FP.p) (ht.fp FP.p) (by rw [e21]; omega) (by rw [e21]; omega) bb (fun u => by rw [e21]; exact sn.symm) (by omega)
      rw [e22, upM_two] at a1
      refine ⟨v', ?_, a2, a3⟩
      rw [← a1]
      simp only [pX12_digits_25, hS.o, if_true, r_isDg hS hM hT ht hp0, Option.bind_some, if_pos dg, show ¬ (1 : Int) = 0 by decide, if_false, w1, if_neg z, r_byteHere hS hM hT ht hp0, pX12_digits_58, w2, w3, w4, w5, zlet]
/-- a number at a place past the blanks: its value, or a fault -/
theorem r_digits (hS : ShW S) (hM : PtW M) (hT : TOk T B) (ht : RTp M T B) (hq : 0 ≤ M 176 21 ∧ M 176 21 ≤ T) : (¬ isDg (bt T B (M 176 21)) → pX12_digits S M 176 99999 = some (0, if M 176 22 = 0 then upM M 176 22 (1 + 8 * M 176 21 + 0) else M)) ∧ (isDg (bt T B (M 176 21)) → ∃ v', pX12_digits S M 176 99999 = some (v', if rn T B 48 57 (M 176 21) - M 176 21 ≤ 5 then upM M 176 21 (rn T B 48 57 (M 176 21)) else (if M 176 22 = 0 then upM (upM M 176 21 (rn T B 48 57 (M 176 21))) 176 22 (1 + 8 * M 176 21 + 1) else upM M 176 21 (rn T B 48 57 (M 176 21)))) ∧ (rn T B 48 57 (M 176 21) - M 176 21 ≤ 5 → v' = numv T B (M 176 21) (rn T B 48 57 (M 176 21))) ∧ (0 ≤ v' ∧ v' ≤ 99999)) := by
  have hb := hT.1
  refine ⟨fun z => ?_, fun z => ?_⟩
  · simp only [pX12_digits, hS.o, if_true, r_isDg hS hM hT ht hq.1, Option.bind_some, if_neg z, r_fails (M := M) (k := 0) (q := M 176 21) hS (by omega) (by decide)]
  · have hl := bt_lt (T := T) (B := B) (p := M 176 21) (by omega)
    have hrb := rn_b (T := T) (B := B) (lo := 48) (hi := 57) (p := M 176 21)
    obtain ⟨v', a1, a2, a3⟩ := r_digits25 hS hT (q := M 176 21) rfl hl (rn T B 48 57 (M 176 21) - M 176 21).toNat zFU M 0 hM ht (by omega) (Int.le_refl _) (by decide) (fun u => by rw [show (M 176 21 - M 176 21).toNat = 0 by omega]; rfl) (zFU_gt (by omega))
    refine ⟨v', ?_, a2, a3⟩
    rw [← a1]
    simp only [pX12_digits, hS.o, if_true, r_isDg hS hM hT ht hq.1, Option.bind_some, if_pos z, show ¬ (1 : Int) = 0 by decide, if_false]
end
