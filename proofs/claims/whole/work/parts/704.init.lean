/-! ALL CALLS: two new objects -/
theorem fin_all {n : Nat} {P : Int → Prop} (h : ∀ c : Fin n, P (c.1 : Int)) : ∀ c : Int, 0 ≤ c → c < (n : Int) → P c := fun c a b => by
  have := h ⟨c.toNat, by omega⟩
  have e : ((⟨c.toNat, by omega⟩ : Fin n).1 : Int) = c := by show ((c.toNat : Nat) : Int) = c; omega
  rw [e] at this; exact this
noncomputable def w0 : Wd := ((0, Q1.2 177 1, 0, 0, Q1.2 182, Q1.2 183, Q1.2 184), Q1.2 188, Q1.2 189, (Q1.2 178, Q1.2 179, Q1.2 180, Q1.2 181, 0, 0, 0), (0, Q1.2 185, Q1.2 186, Q1.2 187), Q1.2 177 8, -1, 0, fun _ => (Q1.2 178, Q1.2 179, Q1.2 180, Q1.2 181, 0, 0, 0))
theorem in_10 : Q1.2 177 0 = 0 ∧ Q1.2 177 2 = 0 ∧ Q1.2 177 3 = 0 ∧ Q1.2 177 4 = 0 ∧ Q1.2 177 5 = 0 ∧ Q1.2 177 6 = 0 ∧ Q1.2 177 7 = 0 ∧ Q1.2 177 9 = -1 ∧ Q1.2 176 42 = 0 := by decide +kernel
theorem in_11 : (0 ≤ Q1.2 177 1 ∧ Q1.2 177 1 ≤ 60) ∧ (0 ≤ Q1.2 177 8 ∧ Q1.2 177 8 ≤ 2147483647) := by decide +kernel
theorem in_12 : Q1.2 17 0 = 0 ∧ Q1.2 17 1 = 0 ∧ Q1.2 17 2 = Q1.2 177 1 ∧ Q1.2 17 3 = 0 ∧ Q1.2 17 4 = 0 ∧ Q1.2 23 4 = 0 ∧ Q1.2 23 5 = 0 ∧ Q1.2 23 6 = 0 ∧ Q1.2 16 7 = 0 ∧ Q1.2 16 8 = Q1.2 177 8 ∧ Q1.2 16 9 = -1 ∧ Q1.2 16 3 = 0 := by decide +kernel
theorem in_13 : Q1.2 2 1 = 0 ∧ Q1.2 176 20 = 0 ∧ Q1.2 1 4 = 0 ∧ Q1.2 176 24 = 0 ∧ Q1.2 176 29 = 12 := by decide +kernel
theorem in_14 : ∀ c : Fin 36, (Q1.2 22 (c.1 : Int) = Q1.2 184 (c.1 : Int) ∧ (Q1.2 184 (c.1 : Int) = 0 ∨ Q1.2 184 (c.1 : Int) = 1)) ∧ Q1.2 26 (c.1 : Int) = -1 := by decide +kernel
theorem in_15 : ∀ k : Fin 4, Q1.2 132 (k.1 : Int) = 0 ∧ Q1.2 214 (k.1 : Int) = 0 := by decide +kernel
theorem in_16 : ∀ i : Fin 20, Q1.2 28 (i.1 : Int) = 32 + 5 * (i.1 : Int) := by decide +kernel
theorem in_17 : ∀ i : Fin 20, PtC Q1.2 (16 + 16 + 5 * (i.1 : Int)) := by decide +kernel
theorem in_18 : ∀ i : Fin 20, ShC Q1.1 (16 + 16 + 5 * (i.1 : Int)) := by decide +kernel
theorem in_19 : WA Q1.1 16 ∧ WB Q1.2 16 := by
  unfold WA WB
  decide +kernel
theorem w0_ok : WOk 0 w0 := by
  have hm := fin_all (n := 36) (P := fun c => (Q1.2 22 c = Q1.2 184 c ∧ (Q1.2 184 c = 0 ∨ Q1.2 184 c = 1)) ∧ Q1.2 26 c = -1) in_14
  have ht : TdOk (wT w0) := ⟨Or.inl rfl, in_11.1, by show (0 : Int) ≤ 0 ∧ (0 : Int) ≤ 5; decide, by show (0 : Int) ≤ 0 ∧ (0 : Int) ≤ 12; decide, fun i a b => by have b' : i < 0 := b; omega, fun c a b => (hm c a b).1.2⟩
  have hs : SOk (wT w0) (wC w0) := ⟨⟨fun q a b => by have b' : q < 0 := b; omega, fun c a b => by have b' : c < 0 * 0 := b; omega, by show (0 : Int) ≤ 0 ∧ (0 : Int) < 32; decide⟩, fun z => absurd rfl z, fun c a b => by have b' : c < 0 * 0 := b; omega, by show (0 : Int) ≤ 0 ∧ (0 : Int) ≤ 999; decide, by show (0 : Int) ≤ 0 ∧ (0 : Int) ≤ 36 * 0; decide⟩
  exact ⟨ht, fun q a b => by have b' : q < 0 := b; omega, hs, ⟨by show (0 : Int) ≤ 0 ∧ (0 : Int) ≤ 10; decide, fun i a b => by have b' : i < 0 := b; omega⟩, in_11.2, by show (-1 : Int) ≤ -1 ∧ (-1 : Int) < 0; decide, by show (0 : Int) ≤ 0 ∧ (0 : Int) ≤ 20; decide, fun i a b => by have b' : i < 0 := b; omega⟩
theorem in_20 : WSh Q1.1 16 ∧ WPt Q1.2 16 := by
  obtain ⟨⟨a1, a2, a3, a4, a5, a6, a7⟩, b1, b2, b3⟩ := in_19
  have h28 := fin_all (n := 20) (P := fun i => Q1.2 28 i = 32 + 5 * i) in_16
  refine ⟨⟨a1, a2, a3, a4, a5, a6, a7, fin_all (n := 20) (P := fun i => ShC Q1.1 (16 + 16 + 5 * i)) in_18⟩, ⟨b1, b2, b3, fin_all (n := 20) (P := fun i => PtC Q1.2 (16 + 16 + 5 * i)) in_17, fun i a b => ⟨i, ⟨a, b⟩, ?_⟩, fun i j a b c d e => ?_⟩⟩
  · show Q1.2 28 i = 16 + 16 + 5 * i
    rw [h28 i a b]; omega
  · show Q1.2 28 i ≠ Q1.2 28 j
    rw [h28 i a b, h28 j c d]; omega
theorem in_21 : CN Q1.1 Q1.2 w0 := by
  obtain ⟨c1, c2, c3, c4, c5, c6, c7, c8, c9, c10, c11, c12⟩ := in_12
  have hm := fin_all (n := 36) (P := fun c => (Q1.2 22 c = Q1.2 184 c ∧ (Q1.2 184 c = 0 ∨ Q1.2 184 c = 1)) ∧ Q1.2 26 c = -1) in_14
  refine ⟨⟨in_7, in_8⟩, in_20.1, in_20.2, ⟨c1, c2, c3, c4, c5, fun i a b => by have b' : i < 0 := b; omega, fun c a b => (hm c a b).1.1⟩, fun q a b => by have b' : q < 0 := b; omega, ⟨fun q a b => by have b' : q < 0 := b; omega, fun c a b => by have b' : c < 0 * 0 := b; omega, fun c a b => (hm c (by have a' : 0 * 0 ≤ c := a; omega) b).2, c6, c7, c8⟩, ⟨c9, fun i a b => by have b' : i < 0 := b; omega⟩, ⟨c10, c11, c12⟩, fun i a b => by have b' : i < 0 := b; omega⟩
theorem in_22 : In1 Q1.1 Q1.2 0 (fun _ => none) (fun _ => []) (fun _ => none) w0 0 (fun _ => 0) := by
  obtain ⟨d1, d2, d3, d4, d5⟩ := in_13
  obtain ⟨e1, e2, e3, e4, e5, e6, e7, e8, e9⟩ := in_10
  have h4 := fin_all (n := 4) (P := fun k => Q1.2 132 k = 0 ∧ Q1.2 214 k = 0) in_15
  refine ⟨⟨w0_ok, by decide, fun i a b => by omega⟩, ⟨in_21, ⟨fun k a b => Or.inl ⟨rfl, (h4 k a b).1⟩, fun k l a b c d e f => absurd (h4 k a b).1 f⟩, ⟨d1, fun i a b => by omega⟩, ⟨by decide, d3, rfl, fun j a b => by omega⟩, fun j k a b => by omega⟩, ⟨PtR.w in_6 |> fun p => ⟨in_5, p⟩, ?_, fun k a b => Or.inl ⟨rfl, (h4 k a b).2⟩, ⟨d2, fun i a b => by omega⟩, ⟨by decide, d4, rfl, fun j a b => by omega⟩, d5⟩⟩
  exact ⟨⟨e1, rfl, e2, e3, fun i _ _ => ⟨rfl, rfl⟩, fun c _ _ => rfl⟩, ⟨fun q _ _ => ⟨rfl, rfl⟩, fun c _ _ => ⟨rfl, rfl⟩, e5, e4, e6⟩, ⟨e7, fun i a b => by have b' : i < 0 := b; omega⟩, ⟨rfl, e8⟩, fun q _ _ => ⟨rfl, rfl⟩, e9, fun i a b => by have b' : i < 0 := b; omega⟩
