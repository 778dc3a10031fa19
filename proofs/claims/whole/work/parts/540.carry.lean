/-! THE REFERENCE: rows carried into an image and back -/
/-- the same, so that omega does not look into them -/
def ShW (S : ZS) : Prop := ShR S
def PtW (M : ZM) : Prop := PtR M
theorem ShW.o {S : ZS} (h : ShW S) : ShR S := h
theorem PtW.o {M : ZM} (h : PtW M) : PtR M := h
theorem PtR.w {M : ZM} (h : PtR M) : PtW M := h
theorem PtR.j {M M' : ZM} (h : PtR M) (q : ∀ j, (j < 20 ∨ (30 ≤ j ∧ j ≤ 41) ∨ (45 ≤ j ∧ j ≤ 51)) → M' 176 j = M 176 j) : PtR M' := by
  unfold PtR at *
  rw [q 1 (by decide), q 2 (by decide), q 3 (by decide), q 4 (by decide), q 5 (by decide), q 6 (by decide), q 7 (by decide), q 8 (by decide), q 9 (by decide), q 10 (by decide), q 11 (by decide), q 12 (by decide), q 13 (by decide), q 14 (by decide), q 15 (by decide), q 16 (by decide), q 17 (by decide), q 18 (by decide), q 19 (by decide), q 30 (by decide), q 31 (by decide), q 32 (by decide), q 33 (by decide), q 34 (by decide), q 35 (by decide), q 36 (by decide), q 37 (by decide), q 38 (by decide), q 39 (by decide), q 40 (by decide), q 41 (by decide), q 45 (by decide), q 46 (by decide), q 47 (by decide), q 48 (by decide), q 49 (by decide), q 50 (by decide), q 51 (by decide)]
  exact h
theorem PtW.j {M M' : ZM} (h : PtW M) (q : ∀ j, (j < 20 ∨ (30 ≤ j ∧ j ≤ 41) ∨ (45 ≤ j ∧ j ≤ 51)) → M' 176 j = M 176 j) : PtW M' := PtR.j h q
section
variable {S : ZS}
theorem r_carry_o2 (hS : ShW S) {r L : Int} (hk : S.1 r = 100) (hL : S.2.1 r = L) (hr : r ≠ 176 ∧ r ≠ 213) (hb : L ≤ 1700) : ∀ (k fuel : Nat) (M : ZM) (i : Int), i + k = L → 0 ≤ i → 0 ≤ M 176 52 ∧ M 176 52 + k ≤ 10000 → M 176 53 = 0 → M 176 50 = 213 → k < fuel →
    ∃ M', pX12_carryRow_2 S fuel M 176 r i = some M' ∧ (∀ a, a ≠ 176 → a ≠ 213 → M' a = M a) ∧ (∀ j, j ≠ 52 → M' 176 j = M 176 j) ∧ M' 176 52 = M 176 52 + k ∧ (∀ j, i ≤ j → j < L → M' 213 (M 176 52 + (j - i)) = M r j) ∧ (∀ j, (j < M 176 52 ∨ M 176 52 + k ≤ j) → M' 213 j = M 213 j) := by
  intro k
  induction k with
  | zero =>
    intro fuel M i h1 h2 h3 h4 hM h5
    obtain ⟨f, rfl⟩ : ∃ f, fuel = f + 1 := ⟨fuel - 1, by omega⟩
    refine ⟨M, ?_, fun _ _ _ => rfl, fun _ _ => rfl, by omega, fun j x y => by omega, fun _ _ => rfl⟩
    simp [pX12_carryRow_2, hk, hL, show L ≤ i by omega]
  | succ k ih =>
    intro fuel M i h1 h2 h3 h4 hM h5
    obtain ⟨f, rfl⟩ : ∃ f, fuel = f + 1 := ⟨fuel - 1, by omega⟩
    have ew : w32 (i + 1) = i + 1 := w32_i (by omega) (by omega)
    have ew2 : w32 (M 176 52 + 1) = M 176 52 + 1 := w32_i (by omega) (by omega)
    generalize hM1 : upM (upM M 213 (M 176 52) (M r i)) 176 52 (M 176 52 + 1) = M1
    have q1 : ∀ a, a ≠ 176 → a ≠ 213 → M1 a = M a := fun a x y => by rw [← hM1, upM_r x, upM_r y]
    have q2 : ∀ j, j ≠ 52 → M1 176 j = M 176 j := fun j x => by rw [← hM1, upM_i x, upM_r (by decide)]
    have q3 : M1 176 52 = M 176 52 + 1 := by rw [← hM1, upM_s]
    have q4 : M1 213 (M 176 52) = M r i := by rw [← hM1, upM_r (by decide), upM_s]
    have q5 : ∀ j, j ≠ M 176 52 → M1 213 j = M 213 j := fun j x => by rw [← hM1, upM_r (by decide), upM_i x]
    have hP1 : M1 176 50 = 213 := by rw [q2 50 (by decide)]; exact hM
    obtain ⟨M', a1, a2, a3, a4, a5, a6⟩ := ih f M1 (i + 1) (by omega) (by omega) (by rw [q3]; omega) (by rw [q2 53 (by decide)]; exact h4) hP1 (by omega)
    rw [q3] at a4 a5 a6
    refine ⟨M', ?_, fun a x y => (a2 a x y).trans (q1 a x y), fun j x => (a3 j x).trans (q2 j x), by omega, fun j x y => ?_, fun j x => ?_⟩
    · rw [pX12_carryRow_2]
      have g1 : ¬ L ≤ i := by omega
      have g2 : (0 : Int) ≤ i ∧ i < L := by omega
      have g3 : (0 : Int) ≤ M 176 52 ∧ M 176 52 < 10000 := by omega
      simp [hS.o, hM, hk, hL, g1, g2, g3, h4, zlet, pX12_carryRow_42, upM_r (show (176 : Int) ≠ 213 by decide), ew, ew2, hM1, a1]
    · by_cases z : j = i
      · subst z
        rw [show M 176 52 + (j - j) = M 176 52 by omega, a6 _ (by omega), q4]
      · have := a5 j (by omega) y
        rw [show M 176 52 + 1 + (j - (i + 1)) = M 176 52 + (j - i) by omega] at this
        rw [this, q1 r hr.1 hr.2]
    · rw [a6 j (by omega), q5 j (by omega)]
theorem r_carry_i2 (hS : ShW S) {r L : Int} (hk : S.1 r = 100) (hL : S.2.1 r = L) (hr : r ≠ 176 ∧ r ≠ 213) (hb : L ≤ 1700) : ∀ (k fuel : Nat) (M : ZM) (i : Int), i + k = L → 0 ≤ i → 0 ≤ M 176 52 ∧ M 176 52 + k ≤ 10000 → M 176 53 = 1 → M 176 50 = 213 → k < fuel →
    ∃ M', pX12_carryRow_2 S fuel M 176 r i = some M' ∧ (∀ a, a ≠ 176 → a ≠ r → M' a = M a) ∧ (∀ j, j ≠ 52 → M' 176 j = M 176 j) ∧ M' 176 52 = M 176 52 + k ∧ (∀ j, i ≤ j → j < L → M' r j = M 213 (M 176 52 + (j - i))) ∧ (∀ j, j < i → M' r j = M r j) := by
  intro k
  induction k with
  | zero =>
    intro fuel M i h1 h2 h3 h4 hM h5
    obtain ⟨f, rfl⟩ : ∃ f, fuel = f + 1 := ⟨fuel - 1, by omega⟩
    refine ⟨M, ?_, fun _ _ _ => rfl, fun _ _ => rfl, by omega, fun j x y => by omega, fun _ _ => rfl⟩
    simp [pX12_carryRow_2, hk, hL, show L ≤ i by omega]
  | succ k ih =>
    intro fuel M i h1 h2 h3 h4 hM h5
    obtain ⟨f, rfl⟩ : ∃ f, fuel = f + 1 := ⟨fuel - 1, by omega⟩
    have ew : w32 (i + 1) = i + 1 := w32_i (by omega) (by omega)
    have ew2 : w32 (M 176 52 + 1) = M 176 52 + 1 := w32_i (by omega) (by omega)
    generalize hM1 : upM (upM M r i (M 213 (M 176 52))) 176 52 (M 176 52 + 1) = M1
    have q1 : ∀ a, a ≠ 176 → a ≠ r → M1 a = M a := fun a x y => by rw [← hM1, upM_r x, upM_r y]
    have q2 : ∀ j, j ≠ 52 → M1 176 j = M 176 j := fun j x => by rw [← hM1, upM_i x, upM_r (Ne.symm hr.1)]
    have q3 : M1 176 52 = M 176 52 + 1 := by rw [← hM1, upM_s]
    have q4 : M1 r i = M 213 (M 176 52) := by rw [← hM1, upM_r hr.1, upM_s]
    have q5 : ∀ j, j ≠ i → M1 r j = M r j := fun j x => by rw [← hM1, upM_r hr.1, upM_i x]
    obtain ⟨M', a1, a2, a3, a4, a5, a6⟩ := ih f M1 (i + 1) (by omega) (by omega) (by rw [q3]; omega) (by rw [q2 53 (by decide)]; exact h4) (by rw [q2 50 (by decide)]; exact hM) (by omega)
    rw [q3] at a4 a5
    refine ⟨M', ?_, fun a x y => (a2 a x y).trans (q1 a x y), fun j x => (a3 j x).trans (q2 j x), by omega, fun j x y => ?_, fun j x => ?_⟩
    · rw [pX12_carryRow_2]
      have g1 : ¬ L ≤ i := by omega
      have g2 : (0 : Int) ≤ i ∧ i < L := by omega
      have g3 : (0 : Int) ≤ M 176 52 ∧ M 176 52 < 10000 := by omega
      simp [hS.o, hM, hk, hL, g1, g2, g3, h4, zlet, pX12_carryRow_42, upM_r (Ne.symm hr.1), ew, ew2, hM1, a1]
    · by_cases z : j = i
      · subst z
        rw [show M 176 52 + (j - j) = M 176 52 by omega, a6 _ (by omega), q4]
      · have := a5 j (by omega) y
        rw [show M 176 52 + 1 + (j - (i + 1)) = M 176 52 + (j - i) by omega] at this
        rw [this, q1 213 (by decide) (Ne.symm hr.2)]
    · rw [a6 j (by omega), q5 j (by omega)]
theorem r_carry_o (hS : ShW S) {M : ZM} {r L o : Int} (hk : S.1 r = 100 ∧ S.2.1 r = L) (hr : r ≠ 176 ∧ r ≠ 213) (hb : 0 ≤ L ∧ L ≤ 1700) (ho : M 176 52 = o) (hob : 0 ≤ o ∧ o + L ≤ 10000) (h4 : M 176 53 = 0) (hM : M 176 50 = 213) :
    ∃ M', pX12_carryRow S M 176 r = some M' ∧ (∀ a, a ≠ 176 → a ≠ 213 → M' a = M a) ∧ (∀ j, j ≠ 52 → M' 176 j = M 176 j) ∧ M' 176 52 = o + L ∧ (∀ j, 0 ≤ j → j < L → M' 213 (o + j) = M r j) ∧ (∀ j, (j < o ∨ o + L ≤ j) → M' 213 j = M 213 j) ∧ M' 176 53 = 0 := by
  obtain ⟨M', a1, a2, a3, a4, a5, a6⟩ := r_carry_o2 hS hk.1 hk.2 hr hb.2 L.toNat zFU M 0 (by omega) (by omega) (by omega) h4 hM (zFU_gt (by omega))
  refine ⟨M', a1, a2, a3, by omega, fun j x y => ?_, fun j x => a6 j (by omega), by rw [a3 53 (by decide)]; exact h4⟩
  have := a5 j x y
  rw [ho, show o + (j - 0) = o + j by omega] at this
  exact this
theorem r_carry_i (hS : ShW S) {M : ZM} {r L o : Int} (hk : S.1 r = 100 ∧ S.2.1 r = L) (hr : r ≠ 176 ∧ r ≠ 213) (hb : 0 ≤ L ∧ L ≤ 1700) (ho : M 176 52 = o) (hob : 0 ≤ o ∧ o + L ≤ 10000) (h4 : M 176 53 = 1) (hM : M 176 50 = 213) :
    ∃ M', pX12_carryRow S M 176 r = some M' ∧ (∀ a, a ≠ 176 → a ≠ r → M' a = M a) ∧ (∀ j, j ≠ 52 → M' 176 j = M 176 j) ∧ M' 176 52 = o + L ∧ (∀ j, 0 ≤ j → j < L → M' r j = M 213 (o + j)) ∧ M' 176 53 = 1 := by
  obtain ⟨M', a1, a2, a3, a4, a5, a6⟩ := r_carry_i2 hS hk.1 hk.2 hr hb.2 L.toNat zFU M 0 (by omega) (by omega) (by omega) h4 hM (zFU_gt (by omega))
  refine ⟨M', a1, a2, a3, by omega, fun j x y => ?_, by rw [a3 53 (by decide)]; exact h4⟩
  have := a5 j x y
  rw [ho, show o + (j - 0) = o + j by omega] at this
  exact this
/-- rows (field, row, length) carried one behind another, and what comes then -/
noncomputable def cRows (S : ZS) (K : ZM → Option ZM) : List (Int × Int × Int) → ZM → Option ZM
  | [], M => K M
  | x :: rs, M => (pX12_carryRow S M 176 (M 176 x.1)).bind fun q => cRows S K rs q
def SlL (f : Int → Int) (R : ZM) : List (Int × Int × Int) → Int → Prop
  | [], _ => True
  | x :: rs, o => (∀ j, 0 ≤ j → j < x.2.2 → f (o + j) = R x.2.1 j) ∧ SlL f R rs (o + x.2.2)
def RwL (M R : ZM) : List (Int × Int × Int) → Prop
  | [] => True
  | x :: rs => (∀ j, 0 ≤ j → j < x.2.2 → M x.2.1 j = R x.2.1 j) ∧ RwL M R rs
def lenL : List (Int × Int × Int) → Int
  | [] => 0
  | x :: rs => x.2.2 + lenL rs
def okL (S : ZS) (M : ZM) (rs : List (Int × Int × Int)) : Prop := ∀ x ∈ rs, (M 176 x.1 = x.2.1 ∧ x.1 ≠ 52) ∧ (S.1 x.2.1 = 100 ∧ S.2.1 x.2.1 = x.2.2) ∧ (x.2.1 ≠ 176 ∧ x.2.1 ≠ 213) ∧ (0 ≤ x.2.2 ∧ x.2.2 ≤ 1700)
theorem okL.len {M : ZM} : ∀ {rs : List (Int × Int × Int)}, okL S M rs → 0 ≤ lenL rs
  | [], _ => Int.le_refl 0
  | x :: rs, h => by
    have h1 := (h x List.mem_cons_self).2.2.2
    have h2 := okL.len (rs := rs) (fun y hy => h y (List.mem_cons_of_mem _ hy))
    simp only [lenL]; omega
theorem SlL.congr {f : Int → Int} {R R' : ZM} : ∀ {rs : List (Int × Int × Int)} {o : Int}, (∀ x ∈ rs, R' x.2.1 = R x.2.1) → SlL f R rs o → SlL f R' rs o
  | [], _, _, _ => trivial
  | x :: rs, o, h, hs => ⟨fun j a b => by rw [h x List.mem_cons_self]; exact hs.1 j a b, SlL.congr (fun y hy => h y (List.mem_cons_of_mem _ hy)) hs.2⟩
theorem r_rows_o (hS : ShW S) (K : ZM → Option ZM) : ∀ (rs : List (Int × Int × Int)) (M : ZM) (o : Int), okL S M rs → M 176 52 = o → 0 ≤ o ∧ o + lenL rs ≤ 10000 → M 176 53 = 0 → M 176 50 = 213 →
    ∃ M', cRows S K rs M = K M' ∧ (∀ a, a ≠ 176 → a ≠ 213 → M' a = M a) ∧ (∀ j, j ≠ 52 → M' 176 j = M 176 j) ∧ M' 176 52 = o + lenL rs ∧ SlL (M' 213) M rs o ∧ (∀ j, (j < o ∨ o + lenL rs ≤ j) → M' 213 j = M 213 j) := by
  intro rs
  induction rs with
  | nil => intro M o h h1 h2 h3 h4; exact ⟨M, rfl, fun _ _ _ => rfl, fun _ _ => rfl, by simp only [lenL]; omega, trivial, fun _ _ => rfl⟩
  | cons x rs ih =>
    intro M o h h1 h2 h3 h4
    obtain ⟨⟨x1, x2⟩, x3, x4, x5⟩ := h x List.mem_cons_self
    have hl : 0 ≤ lenL rs := okL.len (S := S) (M := M) (fun y hy => h y (List.mem_cons_of_mem _ hy))
    simp only [lenL] at h2
    obtain ⟨M1, a1, a2, a3, a4, a5, a6, a7⟩ := r_carry_o hS x3 x4 x5 h1 (by omega) h3 h4
    obtain ⟨M', b1, b2, b3, b4, b5, b6⟩ := ih M1 (o + x.2.2) (fun y hy => by
      have := h y (List.mem_cons_of_mem _ hy)
      rw [a3 _ this.1.2]; exact this) a4 (by omega) a7 (by rw [a3 50 (by decide)]; exact h4)
    refine ⟨M', ?_, fun a u v => (b2 a u v).trans (a2 a u v), fun j u => (b3 j u).trans (a3 j u), by simp only [lenL]; omega, ⟨fun j u v => ?_, ?_⟩, fun j u => ?_⟩
    · simp only [cRows, x1, a1, Option.bind_some]; exact b1
    · rw [b6 _ (by omega)]; exact a5 j u v
    · exact b5.congr (fun y hy => by
        have := h y (List.mem_cons_of_mem _ hy)
        exact (a2 _ this.2.2.1.1 this.2.2.1.2).symm)
    · simp only [lenL] at u
      rw [b6 j (by omega), a6 j (by omega)]
theorem r_rows_i (hS : ShW S) (K : ZM → Option ZM) {R : ZM} : ∀ (rs : List (Int × Int × Int)) (M : ZM) (o : Int), okL S M rs → (rs.map (·.2.1)).Nodup → M 176 52 = o → 0 ≤ o ∧ o + lenL rs ≤ 10000 → M 176 53 = 1 → M 176 50 = 213 → SlL (M 213) R rs o →
    ∃ M', cRows S K rs M = K M' ∧ (∀ a, a ≠ 176 → a ∉ rs.map (·.2.1) → M' a = M a) ∧ (∀ j, j ≠ 52 → M' 176 j = M 176 j) ∧ M' 176 52 = o + lenL rs ∧ RwL M' R rs := by
  intro rs
  induction rs with
  | nil => intro M o h _ h1 h2 h3 h4 _; exact ⟨M, rfl, fun _ _ _ => rfl, fun _ _ => rfl, by simp only [lenL]; omega, trivial⟩
  | cons x rs ih =>
    intro M o h hn h1 h2 h3 h4 hs
    obtain ⟨⟨x1, x2⟩, x3, x4, x5⟩ := h x List.mem_cons_self
    have hl : 0 ≤ lenL rs := okL.len (S := S) (M := M) (fun y hy => h y (List.mem_cons_of_mem _ hy))
    simp only [lenL] at h2
    rw [List.map_cons, List.nodup_cons] at hn
    obtain ⟨M1, a1, a2, a3, a4, a5, a7⟩ := r_carry_i hS x3 x4 x5 h1 (by omega) h3 h4
    obtain ⟨M', b1, b2, b3, b4, b5⟩ := ih M1 (o + x.2.2) (fun y hy => by
      have := h y (List.mem_cons_of_mem _ hy)
      rw [a3 _ this.1.2]; exact this) hn.2 a4 (by omega) a7 (by rw [a3 50 (by decide)]; exact h4) (by rw [a2 213 (by decide) (Ne.symm x4.2)]; exact hs.2)
    refine ⟨M', ?_, fun a u v => ?_, fun j u => (b3 j u).trans (a3 j u), by simp only [lenL]; omega, ⟨fun j u v => ?_, b5⟩⟩
    · simp only [cRows, x1, a1, Option.bind_some]; exact b1
    · rw [List.map_cons, List.mem_cons, not_or] at v
      rw [b2 a u v.2, a2 a u v.1]
    · rw [b2 _ x4.1 hn.1, a5 j u v]; exact hs.1 j u v
/-- the seven rows of a scene and its winds; the eight behind -/
def rs7 : List (Int × Int × Int) := [(1, 177, 10), (2, 178, 5), (3, 179, 5), (4, 180, 36), (5, 181, 36), (6, 182, 12), (7, 183, 12)]
def rs7b : List (Int × Int × Int) := [(8, 184, 36), (9, 185, 10), (10, 186, 10), (11, 187, 10), (12, 188, 5), (13, 189, 5), (40, 206, 1700)]
theorem okL_7 (hS : ShW S) {M : ZM} (hM : PtW M) : okL S M rs7 := by
  have hS' := hS.o
  have hM' := hM.o
  intro x hx
  simp only [rs7, List.mem_cons, List.not_mem_nil, or_false] at hx
  rcases hx with rfl | rfl | rfl | rfl | rfl | rfl | rfl <;> simp [hS', hM']
theorem okL_7b (hS : ShW S) {M : ZM} (hM : PtW M) : okL S M rs7b := by
  have hS' := hS.o
  have hM' := hM.o
  intro x hx
  simp only [rs7b, List.mem_cons, List.not_mem_nil, or_false] at hx
  rcases hx with rfl | rfl | rfl | rfl | rfl | rfl | rfl <;> simp [hS', hM']
theorem carries_7 (hS : ShW S) {M : ZM} {k b : Int} (hk : 0 ≤ k ∧ k ≤ 4) (hb : b = 0 ∨ b = 1) : pX12_carriesAll S M 176 k b = cRows S (fun q => pX12_carriesAll_70 S q 176 k) rs7 (upM (upM M 176 52 (2000 * k)) 176 53 b) := by
  have h := hS.o.1
  have e : (fun (q : ZM) => pX12_carriesAll_30 S q 176 k) = fun (q : ZM) => cRows S (fun q => pX12_carriesAll_70 S q 176 k) [(3, 179, 5), (4, 180, 36), (5, 181, 36), (6, 182, 12), (7, 183, 12)] q := by
    funext q
    rw [pX12_carriesAll_30, if_pos h]; rfl
  rw [pX12_carriesAll, if_pos h, w32_i (x := 2000 * k) (by omega) (by omega)]
  simp only [zlet, if_pos hb]
  simp only [e]
  rfl
theorem carries_104 (hS : ShW S) {M : ZM} : pX12_carriesAll_104 S M 176 = cRows S (fun q => some q) rs7b M := by
  have h := hS.o.1
  have e : (fun (q : ZM) => pX12_carriesAll_144 S q 176) = fun (q : ZM) => cRows S (fun q => some q) [(13, 189, 5), (40, 206, 1700)] q := by
    funext q
    rw [pX12_carriesAll_144, if_pos h]; rfl
  rw [pX12_carriesAll_104, if_pos h]
  simp only [e]
  rfl
theorem r_c7o (hS : ShW S) {M : ZM} (hM : PtW M) {k : Int} (hk : 0 ≤ k ∧ k ≤ 4) : ∃ M', pX12_carriesAll S M 176 k 0 = pX12_carriesAll_70 S M' 176 k ∧ (∀ a, a ≠ 176 → a ≠ 213 → M' a = M a) ∧ (∀ j, j ≠ 52 → j ≠ 53 → M' 176 j = M 176 j) ∧ M' 176 52 = 2000 * k + 116 ∧ M' 176 53 = 0 ∧ SlL (M' 213) M rs7 (2000 * k) ∧ (∀ j, (j < 2000 * k ∨ 2000 * k + 116 ≤ j) → M' 213 j = M 213 j) := by
  rw [carries_7 hS hk (Or.inl rfl)]
  generalize hM0 : upM (upM M 176 52 (2000 * k)) 176 53 0 = M0
  have q1 : ∀ a, a ≠ 176 → M0 a = M a := fun a x => by rw [← hM0, upM_r x, upM_r x]
  have q2 : ∀ j, j ≠ 52 → j ≠ 53 → M0 176 j = M 176 j := fun j x y => by rw [← hM0, upM_i y, upM_i x]
  have q3 : M0 176 52 = 2000 * k := by rw [← hM0, upM_i (by decide), upM_s]
  have q4 : M0 176 53 = 0 := by rw [← hM0, upM_s]
  have p0 : PtW M0 := hM.j (fun j x => q2 j (by omega) (by omega))
  have hl : lenL rs7 = 116 := by decide
  have h50 : M0 176 50 = 213 := by rw [q2 50 (by decide) (by decide)]; exact hM.o.2.2.2.2.2.2.2.1
  obtain ⟨M', a1, a2, a3, a4, a5, a6⟩ := r_rows_o hS (fun q => pX12_carriesAll_70 S q 176 k) rs7 M0 (2000 * k) (okL_7 hS p0) q3 (by rw [hl]; omega) q4 h50
  rw [hl] at a4 a6
  refine ⟨M', a1, fun a x y => (a2 a x y).trans (q1 a x), fun j x y => (a3 j x).trans (q2 j x y), a4, by rw [a3 53 (by decide)]; exact q4, ?_, fun j x => by rw [a6 j x, q1 213 (by decide)]⟩
  exact a5.congr (fun x hx => (q1 _ (okL_7 hS p0 x hx).2.2.1.1).symm)
theorem r_c7i (hS : ShW S) {M : ZM} (hM : PtW M) {k : Int} (hk : 0 ≤ k ∧ k ≤ 4) {R : ZM} (hs : SlL (M 213) R rs7 (2000 * k)) : ∃ M', pX12_carriesAll S M 176 k 1 = pX12_carriesAll_70 S M' 176 k ∧ (∀ a, a ≠ 176 → (a < 177 ∨ 183 < a) → M' a = M a) ∧ (∀ j, j ≠ 52 → j ≠ 53 → M' 176 j = M 176 j) ∧ M' 176 52 = 2000 * k + 116 ∧ M' 176 53 = 1 ∧ RwL M' R rs7 := by
  rw [carries_7 hS hk (Or.inr rfl)]
  generalize hM0 : upM (upM M 176 52 (2000 * k)) 176 53 1 = M0
  have q1 : ∀ a, a ≠ 176 → M0 a = M a := fun a x => by rw [← hM0, upM_r x, upM_r x]
  have q2 : ∀ j, j ≠ 52 → j ≠ 53 → M0 176 j = M 176 j := fun j x y => by rw [← hM0, upM_i y, upM_i x]
  have q3 : M0 176 52 = 2000 * k := by rw [← hM0, upM_i (by decide), upM_s]
  have q4 : M0 176 53 = 1 := by rw [← hM0, upM_s]
  have p0 : PtW M0 := hM.j (fun j x => q2 j (by omega) (by omega))
  have hl : lenL rs7 = 116 := by decide
  have h50 : M0 176 50 = 213 := by rw [q2 50 (by decide) (by decide)]; exact hM.o.2.2.2.2.2.2.2.1
  obtain ⟨M', a1, a2, a3, a4, a5⟩ := r_rows_i hS (fun q => pX12_carriesAll_70 S q 176 k) (R := R) rs7 M0 (2000 * k) (okL_7 hS p0) (by decide) q3 (by rw [hl]; omega) q4 h50 (by rw [q1 213 (by decide)]; exact hs)
  rw [hl] at a4
  refine ⟨M', a1, fun a x y => ?_, fun j x y => (a3 j x).trans (q2 j x y), a4, by rw [a3 53 (by decide)]; exact q4, a5⟩
  rw [a2 a x ?_, q1 a x]
  simp only [rs7, List.map_cons, List.map_nil, List.mem_cons, List.not_mem_nil, or_false]
  omega
end
