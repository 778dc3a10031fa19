/-! ALL CALLS: every run -/
theorem someD {α : Type} {x : Option α} {d : α} (h : x.isSome = true) : x = some (x.getD d) := by
  cases x with
  | none => cases h
  | some a => rfl
section
variable {S : ZS} {M : ZM} {xs : Int → Int} {i L : Int}
theorem g_all (hxs : ∀ i, in32 (xs i)) (h : Inv S M) (hs : 214 ≤ S.2.2 ∧ S.2.2 < 1999999700) : LGo S (lawT xs S M 1 176 i) := by
  obtain ⟨nR, rl, cl, im, w, T, B, h⟩ := h
  have hz : zand (xs i) 31 = (xs i) % 32 := zand31
  have hb : 0 ≤ (xs i) % 32 ∧ (xs i) % 32 < 32 := by omega
  by_cases z0 : (xs i) % 32 = 0
  · have e : zand (xs i) 31 = 0 := hz.trans z0
    simp only [lawT, e, Int.reduceEq, if_true, if_false]
    exact g_feed h
  by_cases z1 : (xs i) % 32 = 1
  · have e : zand (xs i) 31 = 1 := hz.trans z1
    simp only [lawT, e, Int.reduceEq, if_true, if_false]
    exact g_end h
  by_cases z2 : (xs i) % 32 = 2
  · have e : zand (xs i) 31 = 2 := hz.trans z2
    simp only [lawT, e, Int.reduceEq, if_true, if_false]
    exact g_sky h
  by_cases z3 : (xs i) % 32 = 3
  · have e : zand (xs i) 31 = 3 := hz.trans z3
    simp only [lawT, e, Int.reduceEq, if_true, if_false]
    exact g_rule h hs
  by_cases z4 : (xs i) % 32 = 4
  · have e : zand (xs i) 31 = 4 := hz.trans z4
    simp only [lawT, e, Int.reduceEq, if_true, if_false]
    exact g_force hxs h
  by_cases z5 : (xs i) % 32 = 5
  · have e : zand (xs i) 31 = 5 := hz.trans z5
    simp only [lawT, e, Int.reduceEq, if_true, if_false]
    exact g_pen h
  by_cases z6 : (xs i) % 32 = 6
  · have e : zand (xs i) 31 = 6 := hz.trans z6
    simp only [lawT, e, Int.reduceEq, if_true, if_false]
    exact g_cell h
  by_cases z7 : (xs i) % 32 = 7
  · have e : zand (xs i) 31 = 7 := hz.trans z7
    simp only [lawT, e, Int.reduceEq, if_true, if_false]
    exact g_day h
  by_cases z8 : (xs i) % 32 = 8
  · have e : zand (xs i) 31 = 8 := hz.trans z8
    simp only [lawT, e, Int.reduceEq, if_true, if_false]
    exact g_stay h
  by_cases z9 : (xs i) % 32 = 9
  · have e : zand (xs i) 31 = 9 := hz.trans z9
    simp only [lawT, e, Int.reduceEq, if_true, if_false]
    exact g_set h
  by_cases z10 : (xs i) % 32 = 10
  · have e : zand (xs i) 31 = 10 := hz.trans z10
    simp only [lawT, e, Int.reduceEq, if_true, if_false]
    exact g_bend h
  by_cases z11 : (xs i) % 32 = 11
  · have e : zand (xs i) 31 = 11 := hz.trans z11
    simp only [lawT, e, Int.reduceEq, if_true, if_false]
    exact g_blot h
  by_cases z12 : (xs i) % 32 = 12
  · have e : zand (xs i) 31 = 12 := hz.trans z12
    simp only [lawT, e, Int.reduceEq, if_true, if_false]
    exact g_undo h
  by_cases z13 : (xs i) % 32 = 13
  · have e : zand (xs i) 31 = 13 := hz.trans z13
    simp only [lawT, e, Int.reduceEq, if_true, if_false]
    exact g_ahead h
  by_cases z14 : (xs i) % 32 = 14
  · have e : zand (xs i) 31 = 14 := hz.trans z14
    simp only [lawT, e, Int.reduceEq, if_true, if_false]
    exact g_sign h
  by_cases z15 : (xs i) % 32 = 15
  · have e : zand (xs i) 31 = 15 := hz.trans z15
    simp only [lawT, e, Int.reduceEq, if_true, if_false]
    exact g_clean h
  by_cases z16 : (xs i) % 32 = 16
  · have e : zand (xs i) 31 = 16 := hz.trans z16
    simp only [lawT, e, Int.reduceEq, if_true, if_false]
    exact g_hold h
  by_cases z17 : (xs i) % 32 = 17
  · have e : zand (xs i) 31 = 17 := hz.trans z17
    simp only [lawT, e, Int.reduceEq, if_true, if_false]
    exact g_wrote h
  by_cases z18 : (xs i) % 32 = 18
  · have e : zand (xs i) 31 = 18 := hz.trans z18
    simp only [lawT, e, Int.reduceEq, if_true, if_false]
    exact g_came h
  by_cases z19 : (xs i) % 32 = 19
  · have e : zand (xs i) 31 = 19 := hz.trans z19
    simp only [lawT, e, Int.reduceEq, if_true, if_false]
    exact g_change h
  by_cases z20 : (xs i) % 32 = 20
  · have e : zand (xs i) 31 = 20 := hz.trans z20
    simp only [lawT, e, Int.reduceEq, if_true, if_false]
    exact g_game h
  by_cases z21 : (xs i) % 32 = 21
  · have e : zand (xs i) 31 = 21 := hz.trans z21
    simp only [lawT, e, Int.reduceEq, if_true, if_false]
    exact g_rests h
  by_cases z22 : (xs i) % 32 = 22
  · have e : zand (xs i) 31 = 22 := hz.trans z22
    simp only [lawT, e, Int.reduceEq, if_true, if_false]
    exact g_pence h
  by_cases z23 : (xs i) % 32 = 23
  · have e : zand (xs i) 31 = 23 := hz.trans z23
    simp only [lawT, e, Int.reduceEq, if_true, if_false]
    exact g_read h
  by_cases z24 : (xs i) % 32 = 24
  · have e : zand (xs i) 31 = 24 := hz.trans z24
    simp only [lawT, e, Int.reduceEq, if_true, if_false]
    exact g_note h
  by_cases z25 : (xs i) % 32 = 25
  · have e : zand (xs i) 31 = 25 := hz.trans z25
    simp only [lawT, e, Int.reduceEq, if_true, if_false]
    exact g_ruled h
  by_cases z26 : (xs i) % 32 = 26
  · have e : zand (xs i) 31 = 26 := hz.trans z26
    simp only [lawT, e, Int.reduceEq, if_true, if_false]
    exact g_look h
  by_cases z27 : (xs i) % 32 = 27
  · have e : zand (xs i) 31 = 27 := hz.trans z27
    simp only [lawT, e, Int.reduceEq, if_true, if_false]
    exact g_seed hxs h
  by_cases z28 : (xs i) % 32 = 28
  · have e : zand (xs i) 31 = 28 := hz.trans z28
    simp only [lawT, e, Int.reduceEq, if_true, if_false]
    exact g_rains h
  by_cases z29 : (xs i) % 32 = 29
  · have e : zand (xs i) 31 = 29 := hz.trans z29
    simp only [lawT, e, Int.reduceEq, if_true, if_false]
    exact g_count h
  by_cases z30 : (xs i) % 32 = 30
  · have e : zand (xs i) 31 = 30 := hz.trans z30
    simp only [lawT, e, Int.reduceEq, if_true, if_false]
    exact g_image h hs
  by_cases z31 : (xs i) % 32 = 31
  · have e : zand (xs i) 31 = 31 := hz.trans z31
    simp only [lawT, e, Int.reduceEq, if_true, if_false]
    exact g_back h
  omega
theorem goes_all (hxs : ∀ i, in32 (xs i)) : ∀ (n : Nat) (S : ZS) (M : ZM) (i : Int), Inv S M → 214 ≤ S.2.2 → S.2.2 + 120 * n < 1999999700 → i ≤ L → L < i + 6 * n → lawGoes xs L 1 176 n S M i := by
  intro n
  induction n with
  | zero => intro S M i _ _ _ h1 h2; omega
  | succ n ih =>
    intro S M i h hs1 hs2 h1 h2
    by_cases z : L < i + 6
    · exact Or.inl z
    · obtain ⟨q, a1, a2, a3, a4⟩ := g_all (i := i) hxs h (by omega)
      exact Or.inr ⟨q, a1, ih q.1 q.2 (i + 6) a2 (by omega) (by omega) (by omega) (by omega)⟩
end
theorem pure_law (xs : Int → Int) (hxs : ∀ i, in32 (xs i)) (L : Int) (hL : 0 ≤ L ∧ L ≤ 3072) : lawAll xs L := by
  have h0 : pX11_init (zNewS S0 11 0) (zNewM S0 M0) 1 = some Q0 := someD in_1
  have h1 : pX12_init (zNewS Q0.1 12 0) (zNewM Q0.1 Q0.2) (Q0.1.2.2 + 1) = some Q1 := someD in_3
  have hg : lawGoes xs L 1 176 514 Q1.1 Q1.2 0 := goes_all hxs 514 Q1.1 Q1.2 0 ⟨_, _, _, _, _, _, _, in_23⟩ (by rw [in_4]; decide) (by rw [in_4]; decide) hL.1 (by omega)
  refine ⟨Q0, Q1, h0, by rw [in_2]; decide, h1, ?_⟩
  rw [in_2]; exact hg
