/-! RULES: what a row comes to, in the class; clauses -/
abbrev Cl : Type := List (Int × Int) × List (Int × Int)
/-- a clause in the class: its sum, its test, its mark -/
def clC (c : Cl) : List (Int × Int) := c.1 ++ c.2 ++ [(if c.2.length = 0 then 16 else 17, 0)]
def flC : List Cl → List (Int × Int)
  | [] => []
  | c :: cs => clC c ++ flC cs
noncomputable def vl (a : List (Int × Int)) (w : Int → Int) : Int := (runs w a []).headD 0
noncomputable def rvF : List Cl → (Int → Int) → Int
  | [], _ => 0
  | c :: cs, w => if c.2.length = 0 then vl c.1 w else if vl c.2 w = 0 then rvF cs w else vl c.1 w
def ClOk (c : Cl) : Prop := (∃ v, Ex c.1 v 3) ∧ (c.2 = [] ∨ ∃ u, Ex c.2 u 26 ∧ ∀ w, u w = 0 ∨ u w = 1)
theorem ex_vl {a : List (Int × Int)} {v : (Int → Int) → Int} {m : Int} (h : Ex a v m) (w : Int → Int) : vl a w = v w := by
  unfold vl; rw [h.1]; rfl
section
variable {S : ZS} {M : ZM} {w : Int → Int}
theorem c_joined {k a b : Int} (hk : isJn k) : pX4_joined S M (kc k) a b = some (jn k a b, M) := by
  have hk' : k = 2 ∨ k = 3 ∨ k = 4 ∨ k = 5 ∨ k = 6 ∨ k = 7 ∨ k = 8 ∨ k = 10 ∨ k = 11 ∨ k = 13 ∨ k = 14 ∨ k = 15 := by unfold isJn at hk; omega
  rcases hk' with u | u | u | u | u | u | u | u | u | u | u | u <;> subst u
  · rfl
  · rfl
  · rfl
  · rfl
  · rfl
  · rfl
  · rfl
  · rfl
  · rfl
  · rfl
  · by_cases h : zcmp b 0 = 0
    · have e : jn 14 a b = 0 := by
        show (if zcmp b 0 = 0 then (0 : Int) else w64 (Int.tdiv a b)) = 0
        rw [if_pos h]
      rw [e]
      show (if zcmp b 0 = 0 then pX4_joined_89 S M 0 else _) = _
      rw [if_pos h]; rfl
    · have e : jn 14 a b = w64 (Int.tdiv a b) := by
        show (if zcmp b 0 = 0 then (0 : Int) else w64 (Int.tdiv a b)) = _
        rw [if_neg h]
      have hb : ¬ b = 0 := fun u => h (zcmp0.2 u)
      rw [e]
      show (if zcmp b 0 = 0 then pX4_joined_89 S M 0 else (if ¬ b = 0 then pX4_joined_89 S M (w64 (Int.tdiv a b)) else none)) = _
      rw [if_neg h, if_pos hb]; rfl
  · by_cases h : zcmp b 0 = 0
    · have e : jn 15 a b = 0 := by
        show (if zcmp b 0 = 0 then (0 : Int) else Int.tmod a b) = 0
        rw [if_pos h]
      rw [e]
      show (if zcmp b 0 = 0 then pX4_joined_103 S M 0 else _) = _
      rw [if_pos h]; rfl
    · have e : jn 15 a b = Int.tmod a b := by
        show (if zcmp b 0 = 0 then (0 : Int) else Int.tmod a b) = _
        rw [if_neg h]
      have hb : ¬ b = 0 := fun u => h (zcmp0.2 u)
      rw [e]
      show (if zcmp b 0 = 0 then pX4_joined_103 S M 0 else (if ¬ b = 0 then pX4_joined_103 S M (Int.tmod a b) else none)) = _
      rw [if_neg h, if_pos hb]; rfl
theorem kc_n {k : Int} (hk : isJn k) : kc k ≠ 0 ∧ kc k ≠ 1 ∧ kc k ≠ 15 ∧ kc k ≠ 14 ∧ kc k ≠ 16 := by
  have hk' : k = 2 ∨ k = 3 ∨ k = 4 ∨ k = 5 ∨ k = 6 ∨ k = 7 ∨ k = 8 ∨ k = 10 ∨ k = 11 ∨ k = 13 ∨ k = 14 ∨ k = 15 := by unfold isJn at hk; omega
  rcases hk' with u | u | u | u | u | u | u | u | u | u | u | u <;> subst u <;> decide
/-- the shapes that an evaluation of the class rests on -/
def EvS (S : ZS) (e o n d k : Int) : Prop := S.1 e = 4 ∧ (S.1 o = 100 ∧ S.2.1 o = n) ∧ (S.1 d = 100 ∧ S.2.1 d = 12) ∧ (S.1 k = 101 ∧ S.2.1 k = 40) ∧ (e ≠ k ∧ o ≠ k ∧ d ≠ k)
theorem c_seg {e o n d k : Int} (hS : EvS S e o n d k) (hn : n ≤ 400) : ∀ (a : List (Int × Int)) (fuel : Nat) (M : ZM) (h i : Int) (s : List Int), M e 0 = o → (∀ i, 0 ≤ i → i < 12 → M d i = w i) → SgC (M o) i a → StK (M k) s → h = (s.length : Int) → h ≤ 40 → fits a h 40 → i + (a.length : Int) ≤ n → 0 ≤ i → ∃ M', pX4_sum_5 S (fuel + a.length) M e d k h i = pX4_sum_5 S fuel M' e d k ((runs w a s).length : Int) (i + (a.length : Int)) ∧ StK (M' k) (runs w a s) ∧ ∀ x, x ≠ k → M' x = M x := by
  obtain ⟨g1, ⟨g2, g3⟩, ⟨g4, g5⟩, ⟨g6, g7⟩, n1, n2, n3⟩ := hS
  intro a
  induction a with
  | nil =>
    intro fuel M h i s ho h4 hsg hst hh h3 hf hi hi0
    refine ⟨M, ?_, hst, fun _ _ => rfl⟩
    simp only [List.length_nil, runs, Nat.add_zero, Int.add_zero, hh, Int.ofNat_zero]
  | cons c cs ih =>
    intro fuel M h i s ho h4 hsg hst hh h3 hf hi hi0
    simp only [List.length_cons] at hi
    obtain ⟨s1, s3⟩ := hsg
    have w3 : w32 (i + 1) = i + 1 := w32_i (by omega) (by omega)
    have hin : ¬ n ≤ i := by omega
    have hs0 : 0 ≤ h := by omega
    have next : ∀ (M1 : ZM) (h1 : Int) (s1 : List Int), (∀ x, x ≠ k → M1 x = M x) → StK (M1 k) s1 → h1 = (s1.length : Int) → h1 ≤ 40 → fits cs h1 40 → ∃ M', pX4_sum_5 S (fuel + cs.length) M1 e d k h1 (i + 1) = pX4_sum_5 S fuel M' e d k ((runs w cs s1).length : Int) (i + ((c :: cs).length : Int)) ∧ StK (M' k) (runs w cs s1) ∧ ∀ x, x ≠ k → M' x = M x := fun M1 h1 s1 e1 st eh e3 ft => by
      obtain ⟨M', a1, a2, a3⟩ := ih fuel M1 h1 (i + 1) s1 (by rw [e1 e n1]; exact ho) (by rw [e1 d n3]; exact h4) (by rw [e1 o n2]; exact s3) st eh e3 ft (by omega) (by omega)
      refine ⟨M', ?_, a2, fun x y => (a3 x y).trans (e1 x y)⟩
      rw [a1, show i + 1 + (cs.length : Int) = i + ((c :: cs).length : Int) by simp only [List.length_cons]; omega]
    rw [show fuel + (c :: cs).length = fuel + cs.length + 1 from rfl]
    by_cases z0 : c.1 = 0
    · simp only [fits, if_pos z0] at hf
      obtain ⟨f1, f2, f3⟩ := hf
      have w4 : w32 (h + 1) = h + 1 := w32_i (by omega) (by omega)
      obtain ⟨k1, k2⟩ := enc_k (c := c) (by omega) f1
      rw [z0, show kc 0 = 0 from rfl] at k1
      obtain ⟨M', a1, a2, a3⟩ := next (upM M k h c.2) (h + 1) (c.2 :: s) (fun x y => upM_r y) ⟨by rw [← hh, upM_s], hst.eq s (fun i x y => upM_i (by omega))⟩ (by simp only [List.length_cons]; omega) (by omega) f3
      have er : runs w (c :: cs) s = runs w cs (c.2 :: s) := by
        show runs w cs (stp w c s) = _
        unfold stp; rw [if_pos z0]
      rw [er]
      refine ⟨M', ?_, a2, a3⟩
      rw [← a1]
      simp only [pX4_sum_5, pX4_sum_49, pX4_sum_76, pX4_sum_193, g1, g2, g3, g6, g7, ho, if_true, if_neg hin, hi0, show i < n by omega, and_self, s1, k1, k2, hs0, show h < 40 by omega, zlet, w3, w4]
    by_cases z1 : c.1 = 1
    · simp only [fits, if_neg z0, if_pos z1] at hf
      obtain ⟨f1, f2, f3⟩ := hf
      have w4 : w32 (h + 1) = h + 1 := w32_i (by omega) (by omega)
      obtain ⟨k1, k2⟩ := enc_k (c := c) (by omega) (by omega)
      rw [z1, show kc 1 = 1 from rfl] at k1
      have wo : pX4_wordOf S M d c.2 = some (w c.2, M) := by
        simp only [pX4_wordOf, pX4_wordOf_18, g4, g5, show ¬ c.2 < 0 by omega, show ¬ 12 ≤ c.2 by omega, if_false, if_true, f1.1, f1.2, and_self, h4 c.2 f1.1 f1.2]
      obtain ⟨M', a1, a2, a3⟩ := next (upM M k h (w c.2)) (h + 1) (w c.2 :: s) (fun x y => upM_r y) ⟨by rw [← hh, upM_s], hst.eq s (fun i x y => upM_i (by omega))⟩ (by simp only [List.length_cons]; omega) (by omega) f3
      have er : runs w (c :: cs) s = runs w cs (w c.2 :: s) := by
        show runs w cs (stp w c s) = _
        unfold stp; rw [if_neg z0, if_pos z1]
      rw [er]
      refine ⟨M', ?_, a2, a3⟩
      rw [← a1]
      simp only [pX4_sum_5, pX4_sum_49, pX4_sum_76, pX4_sum_193, g1, g2, g3, g6, g7, ho, if_true, if_neg hin, hi0, show i < n by omega, and_self, s1, k1, k2, show ¬ (1 : Int) = 0 by decide, if_false, wo, Option.bind_some, hs0, show h < 40 by omega, zlet, w3, w4]
    by_cases z9 : c.1 = 9
    · simp only [fits, if_neg z0, if_neg z1, if_pos z9] at hf
      obtain ⟨f1, f2, f3⟩ := hf
      obtain ⟨k1, k2⟩ := enc_k (c := c) (by omega) (by omega)
      rw [z9, show kc 9 = 14 from rfl] at k1
      match s, hst, hh with
      | [], _, hh => simp at hh; omega
      | x0 :: s', hst, hh =>
        simp only [List.length_cons] at hh
        have e1 : w32 (h - 1) = (s'.length : Int) := by rw [w32_i (by omega) (by omega)]; omega
        obtain ⟨t1, t2⟩ := hst
        obtain ⟨M', a1, a2, a3⟩ := next (upM M k (s'.length : Int) (w64 (1 - x0))) h (w64 (1 - x0) :: s') (fun x y => upM_r y) ⟨by rw [upM_s], t2.eq s' (fun i x y => upM_i (by omega))⟩ (by simp only [List.length_cons]; omega) h3 f3
        have er : runs w (c :: cs) (x0 :: s') = runs w cs (w64 (1 - x0) :: s') := by
          show runs w cs (stp w c (x0 :: s')) = _
          unfold stp; rw [if_neg z0, if_neg z1, if_pos z9]
        rw [er]
        refine ⟨M', ?_, a2, a3⟩
        rw [← a1]
        simp only [pX4_sum_5, pX4_sum_193, g1, g2, g3, g6, g7, ho, if_true, if_neg hin, hi0, show i < n by omega, and_self, s1, k1, show ¬ (14 : Int) = 0 by decide, show ¬ (14 : Int) = 1 by decide, show ¬ (14 : Int) = 15 by decide, if_false, f2, e1, show (0 : Int) ≤ (s'.length : Int) by omega, show (s'.length : Int) < 40 by omega, t1, zlet, w3]
    · simp only [fits, if_neg z0, if_neg z1, if_neg z9] at hf
      obtain ⟨⟨f1, f1'⟩, f2, f3⟩ := hf
      obtain ⟨k1, k2⟩ := enc_k (c := c) (by unfold isJn at f1; omega) (by omega)
      obtain ⟨d0, d1, d15, d14, d16⟩ := kc_n f1
      match s, hst, hh with
      | [], _, hh => simp at hh; omega
      | [_], _, hh => simp at hh; omega
      | x1 :: x0 :: s', hst, hh =>
        simp only [List.length_cons] at hh
        have e0 : w32 (h + (-1)) = (s'.length : Int) + 1 := by rw [w32_i (by omega) (by omega)]; omega
        have e1 : w32 (h - 2) = (s'.length : Int) := by rw [w32_i (by omega) (by omega)]; omega
        have e2 : w32 (h - 1) = (s'.length : Int) + 1 := by rw [w32_i (by omega) (by omega)]; omega
        obtain ⟨t1, t2, t3⟩ := hst
        simp only [List.length_cons] at t1
        have t1' : M k ((s'.length : Int) + 1) = x1 := t1
        obtain ⟨M', a1, a2, a3⟩ := next (upM M k (s'.length : Int) (jn c.1 x0 x1)) ((s'.length : Int) + 1) (jn c.1 x0 x1 :: s') (fun x y => upM_r y) ⟨by rw [upM_s], t3.eq s' (fun i x y => upM_i (by omega))⟩ (by simp only [List.length_cons]; omega) (by omega) (by rw [show (s'.length : Int) + 1 = h - 1 by omega]; exact f3)
        have er : runs w (c :: cs) (x1 :: x0 :: s') = runs w cs (jn c.1 x0 x1 :: s') := by
          show runs w cs (stp w c (x1 :: x0 :: s')) = _
          unfold stp; rw [if_neg z0, if_neg z1, if_neg z9]
        rw [er]
        refine ⟨M', ?_, a2, a3⟩
        rw [← a1]
        simp only [pX4_sum_5, pX4_sum_193, g1, g2, g3, g6, g7, ho, if_true, if_neg hin, hi0, show i < n by omega, and_self, s1, k1, if_neg d0, if_neg d1, if_neg d15, if_neg d14, if_neg d16, f2, e0, e1, e2, show (0 : Int) ≤ (s'.length : Int) by omega, show (s'.length : Int) < 40 by omega, show (0 : Int) ≤ (s'.length : Int) + 1 by omega, show (s'.length : Int) + 1 < 40 by omega, t1', t2, c_joined f1, Option.bind_some, zlet, w3]
theorem c_rule {e o n d k : Int} (hS : EvS S e o n d k) (hn : n ≤ 400) : ∀ (cl : List Cl) (fuel : Nat) (M : ZM) (i : Int), M e 0 = o → (∀ i, 0 ≤ i → i < 12 → M d i = w i) → SgC (M o) i (flC cl) → (∀ c, c ∈ cl → ClOk c) → i + ((flC cl).length : Int) = n → 0 ≤ i → ∃ M', pX4_sum_5 S (fuel + (flC cl).length + 1) M e d k 0 i = some (rvF cl w, M') ∧ ∀ x, x ≠ k → M' x = M x := by
  have hS' := hS
  obtain ⟨g1, ⟨g2, g3⟩, ⟨g4, g5⟩, ⟨g6, g7⟩, n1, n2, n3⟩ := hS
  intro cl
  induction cl with
  | nil =>
    intro fuel M i ho h4 hsg hok hi hi0
    have hin : n ≤ i := by simp [flC] at hi; omega
    refine ⟨M, ?_, fun _ _ => rfl⟩
    simp only [flC, List.length_nil, Nat.add_zero, pX4_sum_5, g1, g2, g3, ho, if_true, if_pos hin, rvF]
  | cons c cs ih =>
    intro fuel M i ho h4 hsg hok hi hi0
    obtain ⟨⟨v, hv⟩, hu⟩ := hok c (List.mem_cons_self ..)
    have hl : (flC (c :: cs)).length = c.1.length + c.2.length + 1 + (flC cs).length := by
      simp [flC, clC]; omega
    rw [hl] at hi
    have hsg0 : SgC (M o) i (c.1 ++ (c.2 ++ ((if c.2.length = 0 then 16 else 17, 0) :: flC cs))) := by
      have : flC (c :: cs) = c.1 ++ (c.2 ++ ((if c.2.length = 0 then 16 else 17, 0) :: flC cs)) := by
        simp [flC, clC, List.append_assoc]
      rw [← this]; exact hsg
    obtain ⟨sg1, sg2⟩ := (SgC.app _ _ _).1 hsg0
    obtain ⟨sg3, sg4, sg5⟩ := (SgC.app _ _ _).1 sg2
    have fv := (hv.2 0 40 (by decide) (by decide)).1
    rw [hl, show fuel + (c.1.length + c.2.length + 1 + (flC cs).length) + 1 = (fuel + c.2.length + 1 + (flC cs).length + 1) + c.1.length by omega]
    obtain ⟨M1, a1, a2, a3⟩ := c_seg (w := w) hS' hn c.1 (fuel + c.2.length + 1 + (flC cs).length + 1) M 0 i [] ho h4 sg1 trivial rfl (by decide) fv (by omega) hi0
    rw [hv.1 w []] at a1 a2
    have t1 : M1 k 0 = v w := a2.1
    simp only [List.length_cons, List.length_nil, Nat.zero_add] at a1
    rw [show ((1 : Nat) : Int) = 1 from rfl] at a1
    have ho1 : M1 e 0 = o := by rw [a3 e n1]; exact ho
    by_cases z : c.2.length = 0
    · have hz : c.2 = [] := List.eq_nil_of_length_eq_zero z
      rw [if_pos z] at sg4
      rw [z] at sg4 a1
      rw [show i + (c.1.length : Int) + ((0 : Nat) : Int) = i + (c.1.length : Int) by omega, ← a3 o n2] at sg4
      obtain ⟨k1, k2⟩ := enc_k (c := ((16 : Int), (0 : Int))) (by decide) (by decide)
      rw [show kc ((16 : Int), (0 : Int)).1 = 15 from rfl] at k1
      refine ⟨M1, ?_, a3⟩
      rw [show rvF (c :: cs) w = vl c.1 w by rw [rvF, if_pos z], ex_vl hv w, z, a1]
      have w1 : w32 ((1 : Int) - 1) = 0 := by decide
      simp only [pX4_sum_5, pX4_sum_104, g1, g2, g3, g6, g7, ho1, if_true, show ¬ n ≤ i + (c.1.length : Int) by omega, if_false, show 0 ≤ i + (c.1.length : Int) by omega, show i + (c.1.length : Int) < n by omega, and_self, sg4, k1, show ¬ (15 : Int) = 0 by decide, show ¬ (15 : Int) = 1 by decide, Int.le_refl, w1, show (0 : Int) < 40 by decide, t1]
    · obtain ⟨u, hu1, hu2⟩ : ∃ u, Ex c.2 u 26 ∧ ∀ w, u w = 0 ∨ u w = 1 := by
        rcases hu with y | y
        · rw [y] at z; exact absurd rfl z
        · exact y
      have fu := (hu1.2 1 40 (by decide) (by decide)).1
      rw [if_neg z] at sg4
      obtain ⟨M2, b1, b2, b3⟩ := c_seg (w := w) hS' hn c.2 (fuel + 1 + (flC cs).length + 1) M1 1 (i + (c.1.length : Int)) [v w] ho1 (by rw [a3 d n3]; exact h4) (by rw [a3 o n2]; exact sg3) a2 rfl (by decide) fu (by omega) (by omega)
      rw [hu1.1 w [v w]] at b1 b2
      simp only [List.length_cons, List.length_nil, Nat.zero_add] at b1
      rw [show ((1 + 1 : Nat) : Int) = 2 from rfl] at b1
      have t2 : M2 k 1 = u w := b2.1
      have t3 : M2 k 0 = v w := b2.2.1
      have ho2 : M2 e 0 = o := by rw [b3 e n1]; exact ho1
      rw [← a3 o n2, ← b3 o n2] at sg4
      obtain ⟨k1, k2⟩ := enc_k (c := ((17 : Int), (0 : Int))) (by decide) (by decide)
      rw [show kc ((17 : Int), (0 : Int)).1 = 16 from rfl] at k1
      rw [a1, show fuel + c.2.length + 1 + (flC cs).length + 1 = fuel + 1 + (flC cs).length + 1 + c.2.length by omega, b1]
      have w1 : w32 ((2 : Int) - 1) = 1 := by decide
      have w2 : w32 ((2 : Int) - 2) = 0 := by decide
      have w3 : w32 ((2 : Int) + (-2)) = 0 := by decide
      have w4 : w32 (i + (c.1.length : Int) + (c.2.length : Int) + 1) = i + (c.1.length : Int) + (c.2.length : Int) + 1 := w32_i (by omega) (by omega)
      by_cases y : u w = 0
      · have y' : zcmp (u w) 0 = 0 := zcmp0.2 y
        obtain ⟨M', d1, d2⟩ := ih fuel M2 (i + (c.1.length : Int) + (c.2.length : Int) + 1) ho2 (by rw [b3 d n3, a3 d n3]; exact h4) (by rw [b3 o n2, a3 o n2]; exact sg5) (fun c' hc => hok c' (List.mem_cons_of_mem _ hc)) (by omega) (by omega)
        refine ⟨M', ?_, fun x y => by rw [d2 x y, b3 x y, a3 x y]⟩
        rw [show rvF (c :: cs) w = rvF cs w by rw [rvF, if_neg z, ex_vl hu1 w, if_pos y], ← d1]
        rw [show fuel + 1 + (flC cs).length + 1 = (fuel + (flC cs).length + 1) + 1 by omega]
        generalize fuel + (flC cs).length + 1 = f
        simp only [pX4_sum_5, pX4_sum_193, g1, g2, g3, g6, g7, ho2, if_true, show ¬ n ≤ i + (c.1.length : Int) + (c.2.length : Int) by omega, if_false, show 0 ≤ i + (c.1.length : Int) + (c.2.length : Int) by omega, show i + (c.1.length : Int) + (c.2.length : Int) < n by omega, and_self, sg4, k1, show ¬ (16 : Int) = 0 by decide, show ¬ (16 : Int) = 1 by decide, show ¬ (16 : Int) = 15 by decide, show ¬ (16 : Int) = 14 by decide, Int.le_refl, w1, show (0 : Int) ≤ 1 by decide, show (1 : Int) < 40 by decide, t2, y', w3, w4]
      · have y' : ¬ zcmp (u w) 0 = 0 := fun x => y (zcmp0.1 x)
        refine ⟨M2, ?_, fun x y => by rw [b3 x y, a3 x y]⟩
        rw [show rvF (c :: cs) w = v w by rw [rvF, if_neg z, ex_vl hu1 w, if_neg y, ex_vl hv w]]
        simp only [pX4_sum_5, g1, g2, g3, g6, g7, ho2, if_true, show ¬ n ≤ i + (c.1.length : Int) + (c.2.length : Int) by omega, if_false, show 0 ≤ i + (c.1.length : Int) + (c.2.length : Int) by omega, show i + (c.1.length : Int) + (c.2.length : Int) < n by omega, and_self, sg4, k1, show ¬ (16 : Int) = 0 by decide, show ¬ (16 : Int) = 1 by decide, show ¬ (16 : Int) = 15 by decide, show ¬ (16 : Int) = 14 by decide, Int.le_refl, w1, w2, show (0 : Int) ≤ 1 by decide, show (1 : Int) < 40 by decide, show (0 : Int) < 40 by decide, t2, t3, if_neg y']
end
