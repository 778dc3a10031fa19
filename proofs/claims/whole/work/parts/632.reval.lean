/-! RULES: what a row comes to, in the reference -/
/-- a stack that lies in a row, its top first -/
def StK (f : Int → Int) : List Int → Prop
  | [] => True
  | a :: s => f (s.length : Int) = a ∧ StK f s
theorem StK.eq {f g : Int → Int} : ∀ (s : List Int), StK f s → (∀ i, 0 ≤ i → i < (s.length : Int) → g i = f i) → StK g s := by
  intro s
  induction s with
  | nil => intro _ _; trivial
  | cons a s ih =>
    intro h e
    simp only [List.length_cons] at e
    exact ⟨(e _ (by omega) (by omega)).trans h.1, ih h.2 (fun i x y => e i x (by omega))⟩
theorem zcmp0 {b : Int} : zcmp b 0 = 0 ↔ b = 0 := by
  unfold zcmp
  by_cases h : b < 0
  · rw [if_pos h]; omega
  · rw [if_neg h]
    by_cases h' : b = 0
    · rw [if_pos h']; exact ⟨fun _ => h', fun _ => rfl⟩
    · rw [if_neg h']; exact ⟨fun u => by omega, fun u => absurd u h'⟩
section
variable {S : ZS} {M : ZM} {w : Int → Int}
theorem r_both {k a b : Int} (hk : isJn k) : pX12_both S M k a b = some (jn k a b, M) := by
  have t : ∀ y : Int, (y = 0 ∨ y = 1) → pX12_truth S M y = some (y, M) := fun y hy => by
    rcases hy with u | u <;> subst u <;> rfl
  have hk' : k = 2 ∨ k = 3 ∨ k = 4 ∨ k = 5 ∨ k = 6 ∨ k = 7 ∨ k = 8 ∨ k = 10 ∨ k = 11 ∨ k = 13 ∨ k = 14 ∨ k = 15 := by unfold isJn at hk; omega
  have i1 : ∀ (p : Prop) [Decidable p], (if p then (0 : Int) else 1) = 0 ∨ (if p then (0 : Int) else 1) = 1 := fun p _ => by by_cases h : p <;> simp [h]
  have i2 : ∀ (p : Prop) [Decidable p], (if p then (1 : Int) else 0) = 0 ∨ (if p then (1 : Int) else 0) = 1 := fun p _ => by by_cases h : p <;> simp [h]
  rcases hk' with u | u | u | u | u | u | u | u | u | u | u | u <;> subst u
  · rfl
  · rfl
  · exact (congrArg (fun x => x.bind fun q6 : Int × ZM => some (q6.1, q6.2)) (t _ (i1 (0 ≤ zcmp a b)))).trans rfl
  · exact (congrArg (fun x => x.bind fun q6 : Int × ZM => some (q6.1, q6.2)) (t _ (i1 (0 < zcmp a b)))).trans rfl
  · exact (congrArg (fun x => x.bind fun q6 : Int × ZM => some (q6.1, q6.2)) (t _ (i2 (zcmp a b = 0)))).trans rfl
  · exact (congrArg (fun x => x.bind fun q6 : Int × ZM => some (q6.1, q6.2)) (t _ (i1 (zcmp a b < 0)))).trans rfl
  · exact (congrArg (fun x => x.bind fun q6 : Int × ZM => some (q6.1, q6.2)) (t _ (i1 (zcmp a b ≤ 0)))).trans rfl
  · rfl
  · rfl
  · rfl
  · by_cases h : zcmp b 0 = 0
    · have e : jn 14 a b = 0 := by
        show (if zcmp b 0 = 0 then (0 : Int) else w64 (Int.tdiv a b)) = 0
        rw [if_pos h]
      rw [e]
      show (if zcmp b 0 = 0 then pX12_both_97 S M 0 else _) = _
      rw [if_pos h]; rfl
    · have e : jn 14 a b = w64 (Int.tdiv a b) := by
        show (if zcmp b 0 = 0 then (0 : Int) else w64 (Int.tdiv a b)) = _
        rw [if_neg h]
      have hb : ¬ b = 0 := fun u => h (zcmp0.2 u)
      rw [e]
      show (if zcmp b 0 = 0 then pX12_both_97 S M 0 else (if ¬ b = 0 then pX12_both_97 S M (w64 (Int.tdiv a b)) else none)) = _
      rw [if_neg h, if_pos hb]; rfl
  · by_cases h : zcmp b 0 = 0
    · have e : jn 15 a b = 0 := by
        show (if zcmp b 0 = 0 then (0 : Int) else Int.tmod a b) = 0
        rw [if_pos h]
      rw [e]
      show (if zcmp b 0 = 0 then pX12_both_111 S M 0 else _) = _
      rw [if_pos h]; rfl
    · have e : jn 15 a b = Int.tmod a b := by
        show (if zcmp b 0 = 0 then (0 : Int) else Int.tmod a b) = _
        rw [if_neg h]
      have hb : ¬ b = 0 := fun u => h (zcmp0.2 u)
      rw [e]
      show (if zcmp b 0 = 0 then pX12_both_111 S M 0 else (if ¬ b = 0 then pX12_both_111 S M (Int.tmod a b) else none)) = _
      rw [if_neg h, if_pos hb]; rfl
theorem r_ans (hS : ShR S) {j n : Int} (hj : 0 ≤ j ∧ j < 6) (hn : n ≤ 300) : ∀ (a : List (Int × Int)) (fuel : Nat) (M : ZM) (h k : Int) (s : List Int), PtR M → (∀ i, 0 ≤ i → i < 12 → M 204 i = w i) → SgR (M 197) (M 198) (300 * j + k) a → StK (M 205) s → h = (s.length : Int) → h ≤ 300 → fits a h 300 → k + (a.length : Int) = n → 0 ≤ k → a.length < fuel → ∃ M', pX12_answer_6 S fuel M 176 j n h k = some (M' 205 0, M') ∧ StK (M' 205) (runs w a s) ∧ ∀ x, x ≠ 205 → M' x = M x := by
  intro a
  induction a with
  | nil =>
    intro fuel M h k s hM h4 hsg hst hh h3 hf hk hk0 hfu
    obtain ⟨f, rfl⟩ : ∃ f, fuel = f + 1 := ⟨fuel - 1, by omega⟩
    have hkn : n ≤ k := by simp at hk; omega
    refine ⟨M, ?_, hst, fun _ _ => rfl⟩
    simp only [pX12_answer_6, if_pos hkn, hS, hM, if_true, Int.le_refl, show (0 : Int) < 300 by decide, and_self]
  | cons c cs ih =>
    intro fuel M h k s hM h4 hsg hst hh h3 hf hk hk0 hfu
    obtain ⟨f, rfl⟩ : ∃ f, fuel = f + 1 := ⟨fuel - 1, by omega⟩
    simp only [List.length_cons] at hk hfu
    have hkn : ¬ n ≤ k := by omega
    have w1 : w32 (300 * j) = 300 * j := w32_i (by omega) (by omega)
    have w2 : w32 (300 * j + k) = 300 * j + k := w32_i (by omega) (by omega)
    have w3 : w32 (k + 1) = k + 1 := w32_i (by omega) (by omega)
    have b1 : 0 ≤ 300 * j + k := by omega
    have b2 : 300 * j + k < 1800 := by omega
    obtain ⟨⟨s1, s2⟩, s3⟩ := hsg
    have s3' : SgR (M 197) (M 198) (300 * j + (k + 1)) cs := by rw [show 300 * j + (k + 1) = 300 * j + k + 1 by omega]; exact s3
    have next : ∀ (M1 : ZM) (h1 : Int) (s1 : List Int), (∀ x, x ≠ 205 → M1 x = M x) → StK (M1 205) s1 → h1 = (s1.length : Int) → h1 ≤ 300 → fits cs h1 300 → ∃ M', pX12_answer_6 S f M1 176 j n h1 (k + 1) = some (M' 205 0, M') ∧ StK (M' 205) (runs w cs s1) ∧ ∀ x, x ≠ 205 → M' x = M x := fun M1 h1 s1 e st eh e3 ft => by
      obtain ⟨M', a1, a2, a3⟩ := ih f M1 h1 (k + 1) s1 (hM.eq (e 176 (by decide))) (by rw [e 204 (by decide)]; exact h4) (by rw [e 197 (by decide), e 198 (by decide)]; exact s3') st eh e3 ft (by omega) (by omega) (by omega)
      exact ⟨M', a1, a2, fun x y => (a3 x y).trans (e x y)⟩
    have hs0 : 0 ≤ h := by omega
    by_cases z0 : c.1 = 0
    · simp only [fits, if_pos z0] at hf
      obtain ⟨-, f2, f3⟩ := hf
      have w4 : w32 (h + 1) = h + 1 := w32_i (by omega) (by omega)
      obtain ⟨M', a1, a2, a3⟩ := next (upM M 205 h c.2) (h + 1) (c.2 :: s) (fun x y => upM_r y) ⟨by rw [← hh, upM_s], hst.eq s (fun i x y => upM_i (by omega))⟩ (by simp only [List.length_cons]; omega) (by omega) f3
      refine ⟨M', ?_, ?_, a3⟩
      · rw [← a1]
        simp only [pX12_answer_6, pX12_answer_53, pX12_answer_77, pX12_answer_147, if_neg hkn, hS, hM, if_true, w1, w2, b1, b2, and_self, s1, s2, z0, hs0, show h < 300 by omega, zlet, w3, w4]
      · show StK (M' 205) (runs w cs (stp w c s))
        unfold stp; rw [if_pos z0]; exact a2
    by_cases z1 : c.1 = 1
    · simp only [fits, if_neg z0, if_pos z1] at hf
      obtain ⟨f1, f2, f3⟩ := hf
      have w4 : w32 (h + 1) = h + 1 := w32_i (by omega) (by omega)
      obtain ⟨M', a1, a2, a3⟩ := next (upM M 205 h (w c.2)) (h + 1) (w c.2 :: s) (fun x y => upM_r y) ⟨by rw [← hh, upM_s], hst.eq s (fun i x y => upM_i (by omega))⟩ (by simp only [List.length_cons]; omega) (by omega) f3
      refine ⟨M', ?_, ?_, a3⟩
      · rw [← a1]
        simp only [pX12_answer_6, pX12_answer_53, pX12_answer_77, pX12_answer_147, if_neg hkn, hS, hM, if_true, w1, w2, b1, b2, and_self, s1, s2, z1, show ¬ (1 : Int) = 0 by decide, if_false, f1.1, f1.2, h4 c.2 f1.1 f1.2, hs0, show h < 300 by omega, zlet, w3, w4]
      · show StK (M' 205) (runs w cs (stp w c s))
        unfold stp; rw [if_neg z0, if_pos z1]; exact a2
    by_cases z9 : c.1 = 9
    · simp only [fits, if_neg z0, if_neg z1, if_pos z9] at hf
      obtain ⟨-, f2, f3⟩ := hf
      match s, hst, hh with
      | [], _, hh => simp at hh; omega
      | x0 :: s', hst, hh =>
        simp only [List.length_cons] at hh
        have e1 : w32 (h - 1) = (s'.length : Int) := by rw [w32_i (by omega) (by omega)]; omega
        obtain ⟨t1, t2⟩ := hst
        obtain ⟨M', a1, a2, a3⟩ := next (upM M 205 (s'.length : Int) (w64 (1 - x0))) h (w64 (1 - x0) :: s') (fun x y => upM_r y) ⟨by rw [upM_s], t2.eq s' (fun i x y => upM_i (by omega))⟩ (by simp only [List.length_cons]; omega) h3 f3
        refine ⟨M', ?_, ?_, a3⟩
        · rw [← a1]
          simp only [pX12_answer_6, pX12_answer_147, if_neg hkn, hS, hM, if_true, w1, w2, b1, b2, and_self, s1, s2, z9, show ¬ (9 : Int) = 0 by decide, show ¬ (9 : Int) = 1 by decide, if_false, e1, show (0 : Int) ≤ (s'.length : Int) by omega, show (s'.length : Int) < 300 by omega, t1, zlet, w3]
        · show StK (M' 205) (runs w cs (stp w c (x0 :: s')))
          unfold stp; rw [if_neg z0, if_neg z1, if_pos z9]; exact a2
    · simp only [fits, if_neg z0, if_neg z1, if_neg z9] at hf
      obtain ⟨⟨f1, -⟩, f2, f3⟩ := hf
      match s, hst, hh with
      | [], _, hh => simp at hh; omega
      | [_], _, hh => simp at hh; omega
      | x1 :: x0 :: s', hst, hh =>
        simp only [List.length_cons] at hh
        have e0 : w32 (h + (-1)) = (s'.length : Int) + 1 := by rw [w32_i (by omega) (by omega)]; omega
        have e1 : w32 ((s'.length : Int) + 1 - 1) = (s'.length : Int) := by rw [w32_i (by omega) (by omega)]; omega
        obtain ⟨t1, t2, t3⟩ := hst
        simp only [List.length_cons] at t1
        have t1' : M 205 ((s'.length : Int) + 1) = x1 := t1
        obtain ⟨M', a1, a2, a3⟩ := next (upM M 205 (s'.length : Int) (jn c.1 x0 x1)) ((s'.length : Int) + 1) (jn c.1 x0 x1 :: s') (fun x y => upM_r y) ⟨by rw [upM_s], t3.eq s' (fun i x y => upM_i (by omega))⟩ (by simp only [List.length_cons]; omega) (by omega) (by rw [show (s'.length : Int) + 1 = h - 1 by omega]; exact f3)
        refine ⟨M', ?_, ?_, a3⟩
        · rw [← a1]
          simp only [pX12_answer_6, pX12_answer_147, if_neg hkn, hS, hM, if_true, w1, w2, b1, b2, and_self, s1, s2, if_neg z0, if_neg z1, if_neg z9, e0, e1, show (0 : Int) ≤ (s'.length : Int) by omega, show (s'.length : Int) < 300 by omega, show (0 : Int) ≤ (s'.length : Int) + 1 by omega, show (s'.length : Int) + 1 < 300 by omega, t1', t2, r_both f1, Option.bind_some, zlet, w3]
        · show StK (M' 205) (runs w cs (stp w c (x1 :: x0 :: s')))
          unfold stp; rw [if_neg z0, if_neg z1, if_neg z9]; exact a2
/-- a row that lays one value, in the reference -/
theorem r_answer (hS : ShR S) (hM : PtR M) (h4 : ∀ i, 0 ≤ i → i < 12 → M 204 i = w i) {j k n m : Int} {a : List (Int × Int)} {v : (Int → Int) → Int} (hj : 0 ≤ j ∧ j < 6) (hk : 0 ≤ k) (hn : k + (a.length : Int) = n) (hn3 : n ≤ 300) (hs : SgR (M 197) (M 198) (300 * j + k) a) (he : Ex a v m) (hm : m ≤ 300) : ∃ M', pX12_answer S M 176 j k n = some (v w, M') ∧ ∀ x, x ≠ 205 → M' x = M x := by
  obtain ⟨M', a1, a2, a3⟩ := r_ans (w := w) hS hj hn3 a zFU M 0 k [] hM h4 hs trivial rfl (by decide) (he.2 0 300 (by decide) (by omega)).1 hn hk (zFU_gt (by omega))
  rw [he.1 w []] at a2
  have e : M' 205 0 = v w := a2.1
  refine ⟨M', ?_, a3⟩
  unfold pX12_answer
  rw [a1, e]
end
