/-! IMAGES: the reference -/
def vo (r : Int) : Int := if r = 177 then 0 else if r = 178 then 10 else if r = 179 then 15 else if r = 180 then 20 else if r = 181 then 56 else if r = 182 then 92 else if r = 183 then 104 else if r = 207 then 116 else if r = 184 then 117 else if r = 185 then 153 else if r = 186 then 163 else if r = 187 then 173 else if r = 188 then 183 else if r = 189 then 188 else 193
/-- an image as rows -/
def vw (M : ZM) (k : Int) : ZM := fun r j => M 213 (2000 * k + vo r + j)
/-- the same world in other rows -/
def VE (V V' : ZM) : Prop := (∀ j, 0 ≤ j → j < 10 → V' 177 j = V 177 j) ∧ (∀ j, 0 ≤ j → j < 5 → V' 178 j = V 178 j ∧ V' 179 j = V 179 j ∧ V' 188 j = V 188 j ∧ V' 189 j = V 189 j) ∧ (∀ j, 0 ≤ j → j < 36 → V' 180 j = V 180 j ∧ V' 181 j = V 181 j ∧ V' 184 j = V 184 j) ∧ (∀ j, 0 ≤ j → j < 12 → V' 182 j = V 182 j ∧ V' 183 j = V 183 j) ∧ (∀ j, 0 ≤ j → j < 10 → V' 185 j = V 185 j ∧ V' 186 j = V 186 j ∧ V' 187 j = V 187 j) ∧ (∀ j, 0 ≤ j → j < 1700 → V' 206 j = V 206 j)
theorem RW.ve {V V' : ZM} {pm nR : Int} {w : Wd} (h : RW V pm w) (hw : WOk nR w) (e : VE V V') : RW V' pm w := by
  obtain ⟨h1, h2, h3, h4, h5, h6, h7⟩ := h
  obtain ⟨e1, e2, e3, e4, e5, e6⟩ := e
  have hq := hw.2.2.2.1.1
  have hk := hw.2.2.2.2.2.2.1
  refine ⟨?_, ?_, ?_, ?_, ?_, h6, fun i a b => (h7 i a b).eq (fun z u v => e6 z (by omega) (by omega))⟩
  · obtain ⟨a1, a2, a3, a4, a5, a6⟩ := h1
    refine ⟨by rw [e1 0 (by decide) (by decide)]; exact a1, by rw [e1 1 (by decide) (by decide)]; exact a2, by rw [e1 2 (by decide) (by decide)]; exact a3, by rw [e1 3 (by decide) (by decide)]; exact a4, fun i x y => ?_, fun c x y => ?_⟩
    · rw [(e4 i x y).1, (e4 i x y).2]; exact a5 i x y
    · rw [(e3 c x y).2.2]; exact a6 c x y
  · obtain ⟨a1, a2, a3, a4, a5⟩ := h2
    refine ⟨fun q x y => ?_, fun c x y => ?_, by rw [e1 5 (by decide) (by decide)]; exact a3, by rw [e1 4 (by decide) (by decide)]; exact a4, by rw [e1 6 (by decide) (by decide)]; exact a5⟩
    · rw [(e2 q x y).1, (e2 q x y).2.1]; exact a1 q x y
    · rw [(e3 c x y).1, (e3 c x y).2.1]; exact a2 c x y
  · refine ⟨by rw [e1 7 (by decide) (by decide)]; exact h3.1, fun i x y => ?_⟩
    have := e5 i x (by omega)
    rw [this.1, this.2.1, this.2.2]; exact h3.2 i x y
  · rw [e1 8 (by decide) (by decide), e1 9 (by decide) (by decide)]; exact h4
  · intro q x y
    rw [(e2 q x y).2.2.1, (e2 q x y).2.2.2]; exact h5 q x y
section
variable {S : ZS} {M : ZM}
theorem sl7_vw {k : Int} : SlL (M 213) (vw M k) rs7 (2000 * k) := by
  refine ⟨fun j _ _ => ?_, fun j _ _ => ?_, fun j _ _ => ?_, fun j _ _ => ?_, fun j _ _ => ?_, fun j _ _ => ?_, fun j _ _ => ?_, trivial⟩
  · show M 213 (2000 * k + j) = M 213 (2000 * k + 0 + j); rw [Int.add_zero]
  · show M 213 (2000 * k + 10 + j) = M 213 (2000 * k + 10 + j); rfl
  · show M 213 (2000 * k + 10 + 5 + j) = M 213 (2000 * k + 15 + j); rw [show 2000 * k + 10 + 5 = 2000 * k + 15 by omega]
  · show M 213 (2000 * k + 10 + 5 + 5 + j) = M 213 (2000 * k + 20 + j); rw [show 2000 * k + 10 + 5 + 5 = 2000 * k + 20 by omega]
  · show M 213 (2000 * k + 10 + 5 + 5 + 36 + j) = M 213 (2000 * k + 56 + j); rw [show 2000 * k + 10 + 5 + 5 + 36 = 2000 * k + 56 by omega]
  · show M 213 (2000 * k + 10 + 5 + 5 + 36 + 36 + j) = M 213 (2000 * k + 92 + j); rw [show 2000 * k + 10 + 5 + 5 + 36 + 36 = 2000 * k + 92 by omega]
  · show M 213 (2000 * k + 10 + 5 + 5 + 36 + 36 + 12 + j) = M 213 (2000 * k + 104 + j); rw [show 2000 * k + 10 + 5 + 5 + 36 + 36 + 12 = 2000 * k + 104 by omega]
theorem sl7b_vw {k : Int} {f : Int → Int} (hf : ∀ j, 2000 * k + 117 ≤ j → f j = M 213 j) : SlL f (vw M k) rs7b (2000 * k + 117) := by
  refine ⟨fun j a _ => ?_, fun j a _ => ?_, fun j a _ => ?_, fun j a _ => ?_, fun j a _ => ?_, fun j a _ => ?_, fun j a _ => ?_, trivial⟩
  · show f (2000 * k + 117 + j) = M 213 (2000 * k + 117 + j); exact hf _ (by omega)
  · show f (2000 * k + 117 + 36 + j) = M 213 (2000 * k + 153 + j); rw [hf _ (by omega), show 2000 * k + 117 + 36 = 2000 * k + 153 by omega]
  · show f (2000 * k + 117 + 36 + 10 + j) = M 213 (2000 * k + 163 + j); rw [hf _ (by omega), show 2000 * k + 117 + 36 + 10 = 2000 * k + 163 by omega]
  · show f (2000 * k + 117 + 36 + 10 + 10 + j) = M 213 (2000 * k + 173 + j); rw [hf _ (by omega), show 2000 * k + 117 + 36 + 10 + 10 = 2000 * k + 173 by omega]
  · show f (2000 * k + 117 + 36 + 10 + 10 + 10 + j) = M 213 (2000 * k + 183 + j); rw [hf _ (by omega), show 2000 * k + 117 + 36 + 10 + 10 + 10 = 2000 * k + 183 by omega]
  · show f (2000 * k + 117 + 36 + 10 + 10 + 10 + 5 + j) = M 213 (2000 * k + 188 + j); rw [hf _ (by omega), show 2000 * k + 117 + 36 + 10 + 10 + 10 + 5 = 2000 * k + 188 by omega]
  · show f (2000 * k + 117 + 36 + 10 + 10 + 10 + 5 + 5 + j) = M 213 (2000 * k + 193 + j); rw [hf _ (by omega), show 2000 * k + 117 + 36 + 10 + 10 + 10 + 5 + 5 = 2000 * k + 193 by omega]
theorem r_out (hS : ShW S) (hM : PtW M) {k : Int} (hk : 0 ≤ k ∧ k ≤ 3) : ∃ M', pX12_carriesAll S M 176 k 0 = some M' ∧ PtW M' ∧ (∀ a, a ≠ 176 → a ≠ 213 → a ≠ 207 → M' a = M a) ∧ (∀ j, j ≠ 52 → j ≠ 53 → M' 176 j = M 176 j) ∧ (∀ j, (j < 2000 * k ∨ 2000 * k + 1893 ≤ j) → M' 213 j = M 213 j) ∧ VE M (vw M' k) ∧ vw M' k 207 0 = M 176 42 := by
  obtain ⟨M1, a1, a2, a3, a4, a5, a6, a7⟩ := r_c7o hS hM (k := k) (by omega)
  have p1 : PtW M1 := hM.j (fun j x => a3 j (by omega) (by omega))
  have e42 : M1 176 42 = M 176 42 := a3 42 (by decide) (by decide)
  have hp2 : PtW (upM M1 207 0 (M 176 42)) := p1.o.eq (upM_r (by decide))
  obtain ⟨M2, b1, b2, b3, b4, b5, b6, b7⟩ := r_carry_o (S := S) hS (M := upM M1 207 0 (M 176 42)) (r := 207) (L := 1) (o := 2000 * k + 116) (by have := hS.o; simp [this]) (by decide) (by decide) (by rw [upM_r (by decide)]; exact a4) (by omega) (by rw [upM_r (by decide)]; exact a5) (by have := hp2.o; simp [this])
  have e207 : M2 207 0 = M 176 42 := by rw [b2 207 (by decide) (by decide), upM_s]
  have e213 : M2 213 (2000 * k + 116) = M 176 42 := by
    have := b5 0 (by decide) (by decide)
    rw [Int.add_zero, upM_s] at this; exact this
  have r2 : ∀ j, j ≠ 52 → M2 176 j = M1 176 j := fun j x => by rw [b3 j x, upM_r (by decide)]
  have p2 : PtW M2 := p1.j (fun j x => r2 j (by omega))
  have hsame : upM M2 176 42 (M 176 42) = M2 := by
    funext a j
    rw [upM_ap]
    by_cases z : a = 176 ∧ j = 42
    · rw [if_pos z, z.1, z.2, r2 42 (by decide), e42]
    · rw [if_neg z]
  have hl : lenL rs7b = 1776 := by decide
  obtain ⟨M3, c1, c2, c3, c4, c5, c6⟩ := r_rows_o hS (fun q => some q) rs7b M2 (2000 * k + 117) (okL_7b hS p2) (by rw [b4]; omega) (by rw [hl]; omega) b7 (by have := p2.o; simp [this])
  rw [hl] at c4 c6
  have s1 : ∀ a, a ≠ 176 → a ≠ 213 → a ≠ 207 → M3 a = M a := fun a x y z => by rw [c2 a x y, b2 a x y, upM_r z, a2 a x y]
  have s2 : ∀ j, j ≠ 52 → j ≠ 53 → M3 176 j = M 176 j := fun j x y => by rw [c3 j x, r2 j x, a3 j x y]
  have s3 : ∀ j, (j < 2000 * k ∨ 2000 * k + 1893 ≤ j) → M3 213 j = M 213 j := fun j x => by rw [c6 j (by omega), b6 j (by omega), upM_r (by decide), a7 j (by omega)]
  have s4 : ∀ j, 2000 * k ≤ j → j < 2000 * k + 116 → M3 213 j = M1 213 j := fun j x y => by rw [c6 j (by omega), b6 j (by omega), upM_r (by decide)]
  have s5 : ∀ a, a ≠ 176 → a ≠ 213 → a ≠ 207 → M2 a = M a := fun a x y z => by rw [b2 a x y, upM_r z, a2 a x y]
  refine ⟨M3, ?_, hM.j (fun j x => s2 j (by omega) (by omega)), s1, s2, s3, ?_, ?_⟩
  · rw [a1, pX12_carriesAll_70, if_neg (by omega)]
    simp [hS.o, p1.o, e42, zlet, hp2.o, b1, p2.o, e207, hsame, carries_104 hS, c1]
  · obtain ⟨f1, f2, f3, f4, f5, f6, f7, -⟩ := a6
    obtain ⟨g1, g2, g3, g4, g5, g6, g7, -⟩ := c5
    refine ⟨fun j x y => ?_, fun j x y => ⟨?_, ?_, ?_, ?_⟩, fun j x y => ⟨?_, ?_, ?_⟩, fun j x y => ⟨?_, ?_⟩, fun j x y => ⟨?_, ?_, ?_⟩, fun j x y => ?_⟩
    · show M3 213 (2000 * k + 0 + j) = M 177 j
      rw [show 2000 * k + 0 + j = 2000 * k + j by omega, s4 _ (by omega) (by omega)]; exact f1 j x y
    · show M3 213 (2000 * k + 10 + j) = M 178 j
      rw [s4 _ (by omega) (by omega)]; exact f2 j x y
    · show M3 213 (2000 * k + 15 + j) = M 179 j
      rw [s4 _ (by omega) (by omega), show 2000 * k + 15 + j = 2000 * k + 10 + 5 + j by omega]; exact f3 j x y
    · show M3 213 (2000 * k + 183 + j) = M 188 j
      have := g5 j x y
      rw [show 2000 * k + 183 + j = 2000 * k + 117 + 36 + 10 + 10 + 10 + j by omega]
      exact this.trans (by rw [show ((12 : Int), (188 : Int), (5 : Int)).2.1 = 188 from rfl, s5 188 (by decide) (by decide) (by decide)])
    · show M3 213 (2000 * k + 188 + j) = M 189 j
      have := g6 j x y
      rw [show 2000 * k + 188 + j = 2000 * k + 117 + 36 + 10 + 10 + 10 + 5 + j by omega]
      exact this.trans (by rw [show ((13 : Int), (189 : Int), (5 : Int)).2.1 = 189 from rfl, s5 189 (by decide) (by decide) (by decide)])
    · show M3 213 (2000 * k + 20 + j) = M 180 j
      rw [s4 _ (by omega) (by omega), show 2000 * k + 20 + j = 2000 * k + 10 + 5 + 5 + j by omega]; exact f4 j x y
    · show M3 213 (2000 * k + 56 + j) = M 181 j
      rw [s4 _ (by omega) (by omega), show 2000 * k + 56 + j = 2000 * k + 10 + 5 + 5 + 36 + j by omega]; exact f5 j x y
    · show M3 213 (2000 * k + 117 + j) = M 184 j
      have := g1 j x y
      exact this.trans (by rw [show ((8 : Int), (184 : Int), (36 : Int)).2.1 = 184 from rfl, s5 184 (by decide) (by decide) (by decide)])
    · show M3 213 (2000 * k + 92 + j) = M 182 j
      rw [s4 _ (by omega) (by omega), show 2000 * k + 92 + j = 2000 * k + 10 + 5 + 5 + 36 + 36 + j by omega]; exact f6 j x y
    · show M3 213 (2000 * k + 104 + j) = M 183 j
      rw [s4 _ (by omega) (by omega), show 2000 * k + 104 + j = 2000 * k + 10 + 5 + 5 + 36 + 36 + 12 + j by omega]; exact f7 j x y
    · show M3 213 (2000 * k + 153 + j) = M 185 j
      have := g2 j x y
      rw [show 2000 * k + 153 + j = 2000 * k + 117 + 36 + j by omega]
      exact this.trans (by rw [show ((9 : Int), (185 : Int), (10 : Int)).2.1 = 185 from rfl, s5 185 (by decide) (by decide) (by decide)])
    · show M3 213 (2000 * k + 163 + j) = M 186 j
      have := g3 j x y
      rw [show 2000 * k + 163 + j = 2000 * k + 117 + 36 + 10 + j by omega]
      exact this.trans (by rw [show ((10 : Int), (186 : Int), (10 : Int)).2.1 = 186 from rfl, s5 186 (by decide) (by decide) (by decide)])
    · show M3 213 (2000 * k + 173 + j) = M 187 j
      have := g4 j x y
      rw [show 2000 * k + 173 + j = 2000 * k + 117 + 36 + 10 + 10 + j by omega]
      exact this.trans (by rw [show ((11 : Int), (187 : Int), (10 : Int)).2.1 = 187 from rfl, s5 187 (by decide) (by decide) (by decide)])
    · show M3 213 (2000 * k + 193 + j) = M 206 j
      have := g7 j x y
      rw [show 2000 * k + 193 + j = 2000 * k + 117 + 36 + 10 + 10 + 10 + 5 + 5 + j by omega]
      exact this.trans (by rw [show ((40 : Int), (206 : Int), (1700 : Int)).2.1 = 206 from rfl, s5 206 (by decide) (by decide) (by decide)])
  · show M3 213 (2000 * k + 116 + 0) = M 176 42
    rw [Int.add_zero, c6 _ (by omega), e213]
theorem r_in_ (hS : ShW S) (hM : PtW M) {k : Int} (hk : 0 ≤ k ∧ k ≤ 3) : ∃ M', pX12_carriesAll S M 176 k 1 = some M' ∧ PtW M' ∧ (∀ a, (a < 176 ∨ (190 ≤ a ∧ a ≤ 205) ∨ 208 ≤ a) → M' a = M a) ∧ (∀ j, j ≠ 52 → j ≠ 53 → j ≠ 42 → M' 176 j = M 176 j) ∧ VE (vw M k) M' ∧ M' 176 42 = vw M k 207 0 := by
  obtain ⟨M1, a1, a2, a3, a4, a5, a6⟩ := r_c7i hS hM (k := k) (by omega) (R := vw M k) sl7_vw
  have p1 : PtW M1 := hM.j (fun j x => a3 j (by omega) (by omega))
  have e42 : M1 176 42 = M 176 42 := a3 42 (by decide) (by decide)
  have hp2 : PtW (upM M1 207 0 (M 176 42)) := p1.o.eq (upM_r (by decide))
  obtain ⟨M2, b1, b2, b3, b4, b5, b7⟩ := r_carry_i (S := S) hS (M := upM M1 207 0 (M 176 42)) (r := 207) (L := 1) (o := 2000 * k + 116) (by have := hS.o; simp [this]) (by decide) (by decide) (by rw [upM_r (by decide)]; exact a4) (by omega) (by rw [upM_r (by decide)]; exact a5) (by have := hp2.o; simp [this])
  have e213 : M1 213 = M 213 := a2 213 (by decide) (by decide)
  have e207 : M2 207 0 = vw M k 207 0 := by
    rw [b5 0 (by decide) (by decide), upM_r (by decide), e213]; rfl
  have r2 : ∀ j, j ≠ 52 → M2 176 j = M1 176 j := fun j x => by rw [b3 j x, upM_r (by decide)]
  have p2 : PtW M2 := p1.j (fun j x => r2 j (by omega))
  generalize hM3 : upM M2 176 42 (vw M k 207 0) = M3
  have q3 : ∀ j, j ≠ 42 → M3 176 j = M2 176 j := fun j x => by rw [← hM3, upM_i x]
  have q4 : ∀ a, a ≠ 176 → M3 a = M2 a := fun a x => by rw [← hM3, upM_r x]
  have p3 : PtW M3 := p2.j (fun j x => q3 j (by omega))
  have hl : lenL rs7b = 1776 := by decide
  have e213' : M3 213 = M 213 := by rw [q4 213 (by decide), b2 213 (by decide) (by decide), upM_r (by decide), e213]
  obtain ⟨M4, c1, c2, c3, c4, c5⟩ := r_rows_i hS (fun q => some q) (R := vw M k) rs7b M3 (2000 * k + 117) (okL_7b hS p3) (by decide) (by rw [q3 52 (by decide), b4]; omega) (by rw [hl]; omega) (by rw [q3 53 (by decide)]; exact b7) (by have := p3.o; simp [this]) (sl7b_vw (fun j x => by rw [e213']))
  have nm : ∀ a, (a < 184 ∨ (190 ≤ a ∧ a ≠ 206)) → a ∉ rs7b.map (·.2.1) := fun a x => by
    simp only [rs7b, List.map_cons, List.map_nil, List.mem_cons, List.not_mem_nil, or_false]
    omega
  have s1 : ∀ a, a ≠ 176 → (a < 184 ∨ (190 ≤ a ∧ a ≠ 206)) → a ≠ 207 → M4 a = M1 a := fun a x y z => by rw [c2 a x (nm a y), q4 a x, b2 a x z, upM_r z]
  have s2 : ∀ j, j ≠ 52 → j ≠ 53 → j ≠ 42 → M4 176 j = M 176 j := fun j x y z => by rw [c3 j x, q3 j z, r2 j x, a3 j x y]
  refine ⟨M4, ?_, hM.j (fun j x => s2 j (by omega) (by omega) (by omega)), fun a x => by rw [s1 a (by omega) (by omega) (by omega)]; exact a2 a (by omega) (by omega), s2, ?_, ?_⟩
  · rw [a1, pX12_carriesAll_70, if_neg (by omega)]
    simp [hS.o, p1.o, e42, zlet, hp2.o, b1, p2.o, e207, hM3, carries_104 hS, c1]
  · obtain ⟨f1, f2, f3, f4, f5, f6, f7, -⟩ := a6
    obtain ⟨g1, g2, g3, g4, g5, g6, g7, -⟩ := c5
    refine ⟨fun j x y => ?_, fun j x y => ⟨?_, ?_, ?_, ?_⟩, fun j x y => ⟨?_, ?_, ?_⟩, fun j x y => ⟨?_, ?_⟩, fun j x y => ⟨?_, ?_, ?_⟩, fun j x y => ?_⟩
    · rw [s1 177 (by decide) (by decide) (by decide)]; exact f1 j x y
    · rw [s1 178 (by decide) (by decide) (by decide)]; exact f2 j x y
    · rw [s1 179 (by decide) (by decide) (by decide)]; exact f3 j x y
    · exact g5 j x y
    · exact g6 j x y
    · rw [s1 180 (by decide) (by decide) (by decide)]; exact f4 j x y
    · rw [s1 181 (by decide) (by decide) (by decide)]; exact f5 j x y
    · exact g1 j x y
    · rw [s1 182 (by decide) (by decide) (by decide)]; exact f6 j x y
    · rw [s1 183 (by decide) (by decide) (by decide)]; exact f7 j x y
    · exact g2 j x y
    · exact g3 j x y
    · exact g4 j x y
    · exact g7 j x y
  · rw [c3 42 (by decide), ← hM3, upM_s]
/-- the images in the reference -/
def RIm (M : ZM) (nR : Int) (im : Int → Option Wd) : Prop := ∀ k, 0 ≤ k → k < 4 → (im k = none ∧ M 214 k = 0) ∨ (∃ w, im k = some w ∧ M 214 k = 1 ∧ RW (vw M k) (vw M k 207 0) w ∧ WOk nR w)
theorem vw_eq {M' : ZM} {k : Int} (hk : 0 ≤ k ∧ k < 4) (e : ∀ j, 2000 * k ≤ j → j < 2000 * k + 1893 → M' 213 j = M 213 j) : VE (vw M k) (vw M' k) ∧ vw M' k 207 0 = vw M k 207 0 := by
  refine ⟨⟨fun j x y => ?_, fun j x y => ⟨?_, ?_, ?_, ?_⟩, fun j x y => ⟨?_, ?_, ?_⟩, fun j x y => ⟨?_, ?_⟩, fun j x y => ⟨?_, ?_, ?_⟩, fun j x y => ?_⟩, ?_⟩
  · show M' 213 (2000 * k + 0 + j) = M 213 (2000 * k + 0 + j); exact e _ (by omega) (by omega)
  · show M' 213 (2000 * k + 10 + j) = M 213 (2000 * k + 10 + j); exact e _ (by omega) (by omega)
  · show M' 213 (2000 * k + 15 + j) = M 213 (2000 * k + 15 + j); exact e _ (by omega) (by omega)
  · show M' 213 (2000 * k + 183 + j) = M 213 (2000 * k + 183 + j); exact e _ (by omega) (by omega)
  · show M' 213 (2000 * k + 188 + j) = M 213 (2000 * k + 188 + j); exact e _ (by omega) (by omega)
  · show M' 213 (2000 * k + 20 + j) = M 213 (2000 * k + 20 + j); exact e _ (by omega) (by omega)
  · show M' 213 (2000 * k + 56 + j) = M 213 (2000 * k + 56 + j); exact e _ (by omega) (by omega)
  · show M' 213 (2000 * k + 117 + j) = M 213 (2000 * k + 117 + j); exact e _ (by omega) (by omega)
  · show M' 213 (2000 * k + 92 + j) = M 213 (2000 * k + 92 + j); exact e _ (by omega) (by omega)
  · show M' 213 (2000 * k + 104 + j) = M 213 (2000 * k + 104 + j); exact e _ (by omega) (by omega)
  · show M' 213 (2000 * k + 153 + j) = M 213 (2000 * k + 153 + j); exact e _ (by omega) (by omega)
  · show M' 213 (2000 * k + 163 + j) = M 213 (2000 * k + 163 + j); exact e _ (by omega) (by omega)
  · show M' 213 (2000 * k + 173 + j) = M 213 (2000 * k + 173 + j); exact e _ (by omega) (by omega)
  · show M' 213 (2000 * k + 193 + j) = M 213 (2000 * k + 193 + j); exact e _ (by omega) (by omega)
  · show M' 213 (2000 * k + 116 + 0) = M 213 (2000 * k + 116 + 0); exact e _ (by omega) (by omega)
theorem RIm.fr {M' : ZM} {nR : Int} {im : Int → Option Wd} (h : RIm M nR im) (f : FrS M M') : RIm M' nR im := by
  intro k a b
  rw [f.1 214 (by omega)]
  rcases h k a b with z | ⟨w, z1, z2, z3, z4⟩
  · exact Or.inl z
  · have := vw_eq (M := M) (M' := M') (k := k) ⟨a, b⟩ (fun j x y => f.2.1 j (by omega))
    exact Or.inr ⟨w, z1, z2, by rw [this.2]; exact z3.ve z4 this.1, z4⟩
def opImage (w : Wd) (im : Int → Option Wd) (k : Int) : Int × (Int → Option Wd) := if 0 ≤ k ∧ k ≤ 3 then (cDy (wC w), fun i => if i = k then some w else im i) else (-1, im)
def opBack (w : Wd) (im : Int → Option Wd) (k : Int) : Int × Wd := if 0 ≤ k ∧ k ≤ 3 then (match im k with | none => (-1, w) | some v => (cDy (wC v), v)) else (-1, w)
/-- what stays over image and back -/
def FrI (M M' : ZM) : Prop := (∀ a, (a < 176 ∨ (196 ≤ a ∧ a ≤ 203) ∨ 215 ≤ a) → M' a = M a) ∧ (M' 176 20 = M 176 20 ∧ M' 176 24 = M 176 24 ∧ M' 176 29 = M 176 29)
theorem RRs.fi {M' : ZM} {nR : Int} {rl : Int → Ru} (h : RRs S M nR rl) (f : FrI M M') : RRs S M' nR rl := by
  obtain ⟨h1, h2, h3⟩ := h
  refine ⟨h1, by rw [f.2.2.1]; exact h2, fun j a b => ?_⟩
  exact (h3 j a b).eq (fun a x y => by rw [upM_r (by omega), upM_r (by omega)]; exact f.1 a (by omega)) (by rw [upM_s, upM_s])
theorem e_image {nR : Int} {rl : Int → Ru} {w : Wd} {im : Int → Option Wd} (h : RG S M nR rl w) (hi : RIm M nR im) {k : Int} : ∃ M', pX12_image S M 176 k = some ((opImage w im k).1, M') ∧ RG S M' nR rl w ∧ RIm M' nR (opImage w im k).2 ∧ FrI M M' := by
  have hS := h.1
  have hM := h.2.1
  unfold opImage
  by_cases g : 0 ≤ k ∧ k ≤ 3
  · rw [if_pos g]
    have p1 : PtW (upM M 214 k 1) := hM.o.eq (upM_r (by decide))
    obtain ⟨M2, a1, a2, a3, a4, a5, a6, a7⟩ := r_out hS p1 (k := k) g
    have r3 : ∀ a, a ≠ 176 → a ≠ 213 → a ≠ 207 → a ≠ 214 → M2 a = M a := fun a x y z u => by rw [a3 a x y z, upM_r u]
    have r4 : ∀ j, j ≠ 52 → j ≠ 53 → M2 176 j = M 176 j := fun j x y => by rw [a4 j x y, upM_r (by decide)]
    have r5 : ∀ j, (j < 2000 * k ∨ 2000 * k + 1893 ≤ j) → M2 213 j = M 213 j := fun j x => by rw [a5 j x, upM_r (by decide)]
    have f1 : FrI M M2 := ⟨fun a x => r3 a (by omega) (by omega) (by omega) (by omega), r4 20 (by decide) (by decide), r4 24 (by decide) (by decide), r4 29 (by decide) (by decide)⟩
    have ve1 : VE M M2 := ⟨fun j _ _ => by rw [r3 177 (by decide) (by decide) (by decide) (by decide)], fun j _ _ => ⟨by rw [r3 178 (by decide) (by decide) (by decide) (by decide)], by rw [r3 179 (by decide) (by decide) (by decide) (by decide)], by rw [r3 188 (by decide) (by decide) (by decide) (by decide)], by rw [r3 189 (by decide) (by decide) (by decide) (by decide)]⟩, fun j _ _ => ⟨by rw [r3 180 (by decide) (by decide) (by decide) (by decide)], by rw [r3 181 (by decide) (by decide) (by decide) (by decide)], by rw [r3 184 (by decide) (by decide) (by decide) (by decide)]⟩, fun j _ _ => ⟨by rw [r3 182 (by decide) (by decide) (by decide) (by decide)], by rw [r3 183 (by decide) (by decide) (by decide) (by decide)]⟩, fun j _ _ => ⟨by rw [r3 185 (by decide) (by decide) (by decide) (by decide)], by rw [r3 186 (by decide) (by decide) (by decide) (by decide)], by rw [r3 187 (by decide) (by decide) (by decide) (by decide)]⟩, fun j _ _ => by rw [r3 206 (by decide) (by decide) (by decide) (by decide)]⟩
    have hW2 : RW M2 (M2 176 42) w := by rw [r4 42 (by decide) (by decide)]; exact h.2.2.2.1.ve h.2.2.2.2 ve1
    have veI : VE M (vw M2 k) := by
      obtain ⟨v1, v2, v3, v4, v5, v6⟩ := a6
      have u : ∀ a, a ≠ 214 → upM M 214 k 1 a = M a := fun a x => upM_r x
      rw [u 177 (by decide)] at v1
      rw [u 178 (by decide), u 179 (by decide), u 188 (by decide), u 189 (by decide)] at v2
      rw [u 180 (by decide), u 181 (by decide), u 184 (by decide)] at v3
      rw [u 182 (by decide), u 183 (by decide)] at v4
      rw [u 185 (by decide), u 186 (by decide), u 187 (by decide)] at v5
      rw [u 206 (by decide)] at v6
      exact ⟨v1, v2, v3, v4, v5, v6⟩
    refine ⟨M2, ?_, ⟨hS, a2, h.2.2.1.fi f1, hW2, h.2.2.2.2⟩, fun i x y => ?_, f1⟩
    · have e4 : M2 177 4 = cDy (wC w) := hW2.2.1.2.2.2.1
      simp [pX12_image, r_in, g, hS.o, hM.o, show k < 4 by omega, zlet, a1, a2.o, e4]
    · have e214 : ∀ j, M2 214 j = if j = k then 1 else M 214 j := fun j => by
        rw [a3 214 (by decide) (by decide) (by decide)]
        by_cases z : j = k
        · rw [if_pos z, z, upM_s]
        · rw [if_neg z, upM_i z]
      show ((if i = k then some w else im i) = none ∧ M2 214 i = 0) ∨ _
      by_cases z : i = k
      · subst z
        right
        refine ⟨w, by show (if i = i then some w else im i) = some w; rw [if_pos rfl], by rw [e214, if_pos rfl], ?_, h.2.2.2.2⟩
        rw [a7, upM_r (by decide)]
        exact h.2.2.2.1.ve h.2.2.2.2 veI
      · rw [if_neg z, e214, if_neg z]
        rcases hi i x y with q | ⟨v, q1, q2, q3, q4⟩
        · exact Or.inl q
        · have := vw_eq (M := M) (M' := M2) (k := i) ⟨x, y⟩ (fun j u v => r5 j (by omega))
          exact Or.inr ⟨v, by show (if i = k then some w else im i) = some v; rw [if_neg z]; exact q1, q2, by rw [this.2]; exact q3.ve q4 this.1, q4⟩
  · rw [if_neg g]
    refine ⟨M, ?_, h, hi, ⟨fun _ _ => rfl, rfl, rfl, rfl⟩⟩
    simp [pX12_image, r_in, g]
theorem e_back {nR : Int} {rl : Int → Ru} {w : Wd} {im : Int → Option Wd} (h : RG S M nR rl w) (hi : RIm M nR im) {k : Int} : ∃ M', pX12_back S M 176 k = some ((opBack w im k).1, M') ∧ RG S M' nR rl (opBack w im k).2 ∧ RIm M' nR im ∧ FrI M M' := by
  have hS := h.1
  have hM := h.2.1
  unfold opBack
  by_cases g : 0 ≤ k ∧ k ≤ 3
  · rw [if_pos g]
    rcases hi k g.1 (by omega) with ⟨q1, q2⟩ | ⟨v, q1, q2, q3, q4⟩
    · rw [q1]
      refine ⟨M, ?_, h, hi, ⟨fun _ _ => rfl, rfl, rfl, rfl⟩⟩
      simp [pX12_back, pX12_back_21, r_in, g, hS.o, hM.o, show k < 4 by omega, q2]
    · rw [q1]
      obtain ⟨M2, a1, a2, a3, a4, a5, a6⟩ := r_in_ hS hM (k := k) g
      have f1 : FrI M M2 := ⟨fun a x => a3 a (by omega), a4 20 (by decide) (by decide) (by decide), a4 24 (by decide) (by decide) (by decide), a4 29 (by decide) (by decide) (by decide)⟩
      have hW2 : RW M2 (M2 176 42) v := by rw [a6]; exact q3.ve q4 a5
      have e4 : M2 177 4 = cDy (wC v) := hW2.2.1.2.2.2.1
      refine ⟨M2, ?_, ⟨hS, a2, h.2.2.1.fi f1, hW2, q4⟩, ?_, f1⟩
      · simp [pX12_back, r_in, g, hS.o, hM.o, show k < 4 by omega, q2, a1, a2.o, e4]
      · intro i x y
        rw [a3 214 (by omega)]
        rcases hi i x y with z | ⟨u, z1, z2, z3, z4⟩
        · exact Or.inl z
        · have := vw_eq (M := M) (M' := M2) (k := i) ⟨x, y⟩ (fun j _ _ => by rw [a3 213 (by omega)])
          exact Or.inr ⟨u, z1, z2, by rw [this.2]; exact z3.ve z4 this.1, z4⟩
  · rw [if_neg g]
    refine ⟨M, ?_, h, hi, ⟨fun _ _ => rfl, rfl, rfl, rfl⟩⟩
    simp [pX12_back, pX12_back_21, r_in, g]
end
