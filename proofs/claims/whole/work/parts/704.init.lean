/-! ALL CALLS: two new objects -/
theorem fin_all {n : Nat} {P : Int → Prop} (h : ∀ c : Fin n, P (c.1 : Int)) : ∀ c : Int, 0 ≤ c → c < (n : Int) → P c := fun c a b => by
  have := h ⟨c.toNat, by omega⟩
  have e : ((⟨c.toNat, by omega⟩ : Fin n).1 : Int) = c := by show ((c.toNat : Nat) : Int) = c; omega
  rw [e] at this; exact this
def w0 (M : ZM) : Wd := ((0, M 177 1, 0, 0, M 182, M 183, M 184), M 188, M 189, (M 178, M 179, M 180, M 181, 0, 0, 0), (0, M 185, M 186, M 187), M 177 8, -1, 0, fun _ => (M 178, M 179, M 180, M 181, 0, 0, 0))
def I10 (M : ZM) : Prop := M 177 0 = 0 ∧ M 177 2 = 0 ∧ M 177 3 = 0 ∧ M 177 4 = 0 ∧ M 177 5 = 0 ∧ M 177 6 = 0 ∧ M 177 7 = 0 ∧ M 177 9 = -1 ∧ M 176 42 = 0
def I11 (M : ZM) : Prop := (0 ≤ M 177 1 ∧ M 177 1 ≤ 60) ∧ (0 ≤ M 177 8 ∧ M 177 8 ≤ 2147483647)
def I12 (M : ZM) : Prop := M 17 0 = 0 ∧ M 17 1 = 0 ∧ M 17 2 = M 177 1 ∧ M 17 3 = 0 ∧ M 17 4 = 0 ∧ M 23 4 = 0 ∧ M 23 5 = 0 ∧ M 23 6 = 0 ∧ M 16 7 = 0 ∧ M 16 8 = M 177 8 ∧ M 16 9 = -1 ∧ M 16 3 = 0
def I13 (M : ZM) : Prop := M 2 1 = 0 ∧ M 176 20 = 0 ∧ M 1 4 = 0 ∧ M 176 24 = 0 ∧ M 176 29 = 12
def I14 (M : ZM) : Prop := ∀ c : Fin 36, (M 22 (c.1 : Int) = M 184 (c.1 : Int) ∧ (M 184 (c.1 : Int) = 0 ∨ M 184 (c.1 : Int) = 1)) ∧ M 26 (c.1 : Int) = -1
def I15 (M : ZM) : Prop := ∀ k : Fin 4, M 132 (k.1 : Int) = 0 ∧ M 214 (k.1 : Int) = 0
def I16 (M : ZM) : Prop := ∀ i : Fin 20, M 28 (i.1 : Int) = 32 + 5 * (i.1 : Int)
def I17 (M : ZM) : Prop := ∀ i : Fin 20, PtC M (16 + 16 + 5 * (i.1 : Int))
def I18 (S : ZS) : Prop := ∀ i : Fin 20, ShC S (16 + 16 + 5 * (i.1 : Int))
section
variable {S : ZS} {M : ZM}
theorem w0_ok (i11 : I11 M) (i14 : I14 M) : WOk 0 (w0 M) := by
  have hm := fin_all (n := 36) (P := fun c => (M 22 c = M 184 c ∧ (M 184 c = 0 ∨ M 184 c = 1)) ∧ M 26 c = -1) i14
  have ht : TdOk (wT (w0 M)) := ⟨Or.inl rfl, i11.1, by show (0 : Int) ≤ 0 ∧ (0 : Int) ≤ 5; decide, by show (0 : Int) ≤ 0 ∧ (0 : Int) ≤ 12; decide, fun i a b => by have b' : i < 0 := b; omega, fun c a b => (hm c a b).1.2⟩
  have hs : SOk (wT (w0 M)) (wC (w0 M)) := ⟨⟨fun q a b => by have b' : q < 0 := b; omega, fun c a b => by have b' : c < 0 * 0 := b; omega, by show (0 : Int) ≤ 0 ∧ (0 : Int) < 32; decide⟩, fun z => absurd rfl z, fun c a b => by have b' : c < 0 * 0 := b; omega, by show (0 : Int) ≤ 0 ∧ (0 : Int) ≤ 999; decide, by show (0 : Int) ≤ 0 ∧ (0 : Int) ≤ 36 * 0; decide⟩
  exact ⟨ht, fun q a b => by have b' : q < 0 := b; omega, hs, ⟨by show (0 : Int) ≤ 0 ∧ (0 : Int) ≤ 10; decide, fun i a b => by have b' : i < 0 := b; omega⟩, i11.2, by show (-1 : Int) ≤ -1 ∧ (-1 : Int) < 0; decide, by show (0 : Int) ≤ 0 ∧ (0 : Int) ≤ 20; decide, fun i a b => by have b' : i < 0 := b; omega⟩
theorem in_20 (i16 : I16 M) (i17 : I17 M) (i18 : I18 S) (i19 : WA S 16 ∧ WB M 16) : WSh S 16 ∧ WPt M 16 := by
  obtain ⟨⟨a1, a2, a3, a4, a5, a6, a7⟩, b1, b2, b3⟩ := i19
  have h28 := fin_all (n := 20) (P := fun i => M 28 i = 32 + 5 * i) i16
  refine ⟨⟨a1, a2, a3, a4, a5, a6, a7, fin_all (n := 20) (P := fun i => ShC S (16 + 16 + 5 * i)) i18⟩, ⟨b1, b2, b3, fin_all (n := 20) (P := fun i => PtC M (16 + 16 + 5 * i)) i17, fun i a b => ⟨i, ⟨a, b⟩, ?_⟩, fun i j a b c d e => ?_⟩⟩
  · show M 28 i = 16 + 16 + 5 * i
    rw [h28 i a b]; omega
  · show M 28 i ≠ M 28 j
    rw [h28 i a b, h28 j c d]; omega
theorem in_21 (hN : NW S M) (i12 : I12 M) (i14 : I14 M) (i20 : WSh S 16 ∧ WPt M 16) : CN S M (w0 M) := by
  obtain ⟨c1, c2, c3, c4, c5, c6, c7, c8, c9, c10, c11, c12⟩ := i12
  have hm := fin_all (n := 36) (P := fun c => (M 22 c = M 184 c ∧ (M 184 c = 0 ∨ M 184 c = 1)) ∧ M 26 c = -1) i14
  refine ⟨hN, i20.1, i20.2, ⟨c1, c2, c3, c4, c5, fun i a b => by have b' : i < 0 := b; omega, fun c a b => (hm c a b).1.1⟩, fun q a b => by have b' : q < 0 := b; omega, ⟨fun q a b => by have b' : q < 0 := b; omega, fun c a b => by have b' : c < 0 * 0 := b; omega, fun c a b => (hm c (by have a' : 0 * 0 ≤ c := a; omega) b).2, c6, c7, c8⟩, ⟨c9, fun i a b => by have b' : i < 0 := b; omega⟩, ⟨c10, c11, c12⟩, fun i a b => by have b' : i < 0 := b; omega⟩
theorem in_22 (hN : NW S M) (hS : ShW S) (hM : PtW M) (i10 : I10 M) (i11 : I11 M) (i12 : I12 M) (i13 : I13 M) (i14 : I14 M) (i15 : I15 M) (i20 : WSh S 16 ∧ WPt M 16) : In1 S M 0 (fun _ => none) (fun _ => []) (fun _ => none) (w0 M) 0 (fun _ => 0) := by
  obtain ⟨d1, d2, d3, d4, d5⟩ := i13
  obtain ⟨e1, e2, e3, e4, e5, e6, e7, e8, e9⟩ := i10
  have h4 := fin_all (n := 4) (P := fun k => M 132 k = 0 ∧ M 214 k = 0) i15
  refine ⟨⟨w0_ok i11 i14, by decide, fun i a b => by omega⟩, ⟨in_21 hN i12 i14 i20, ⟨fun k a b => Or.inl ⟨rfl, (h4 k a b).1⟩, fun k l a b c d e f => absurd (h4 k a b).1 f⟩, ⟨d1, fun i a b => by omega⟩, ⟨by decide, d3, rfl, fun j a b => by omega⟩, fun j k a b => by omega⟩, ⟨⟨hS, hM⟩, ?_, fun k a b => Or.inl ⟨rfl, (h4 k a b).2⟩, ⟨d2, fun i a b => by omega⟩, ⟨by decide, d4, rfl, fun j a b => by omega⟩, d5⟩⟩
  exact ⟨⟨e1, rfl, e2, e3, fun i _ _ => ⟨rfl, rfl⟩, fun c _ _ => rfl⟩, ⟨fun q _ _ => ⟨rfl, rfl⟩, fun c _ _ => ⟨rfl, rfl⟩, e5, e4, e6⟩, ⟨e7, fun i a b => by have b' : i < 0 := b; omega⟩, ⟨rfl, e8⟩, fun q _ _ => ⟨rfl, rfl⟩, e9, fun i a b => by have b' : i < 0 := b; omega⟩
end
