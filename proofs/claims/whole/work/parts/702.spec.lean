/-! ALL CALLS: those that change the tape or what images show -/
section
variable {S S' : ZS} {M M' : ZM} {nR : Int} {rl : Int → Ru} {cl : Int → List Cl} {im im' : Int → Option Wd} {w w' : Wd} {T T' : Int} {B B' : Int → Int} {xs : Int → Int} {i : Int}
/-- a call that changes the tape alone -/
theorem op_tp (h : In1 S M nR rl cl im w T B) (hT' : TOk T' B') {v : Int} {x : Option (Int × ZM)} {y : ZM → Option (Int × ZM)} (hx : ∃ M', x = some (v, M') ∧ CTp M' T' B' ∧ FT M M') (hy : ∀ M', PtW M' → RTp M' T B → ∃ M'', y M' = some (v, M'') ∧ RTp M'' T' B' ∧ FU M' M'') : LGo S (x.bind fun q0 => (y q0.2).bind fun q1 => if q0.1 = q1.1 then some (S, q1.2) else none) := by
  obtain ⟨⟨hw, hT⟩, hC, hR⟩ := h
  obtain ⟨M1, a1, a2, a3⟩ := hx
  have e : ∀ x, 5 < x → M1 x = M x := fun x y => a3.1 x (by omega) (by omega) (by omega) (by omega)
  have hR1 : RA S M1 nR rl cl im w T B := hR.fb hR.1.1 (fun x a b => e x (by omega))
  obtain ⟨M2, b1, b2, b3⟩ := hy M1 hR1.1.2 hR1.2.2.2.1
  have hC1 : CA S M1 nR rl cl im w T' B' := hC.mv (hC.1.ft hw a3) a2 (SE.refl _ _) (Int.le_refl _) (by rw [a3.1 1 (by decide) (by decide) (by decide) (by decide)]) (e 15 (by decide)) (e 132 (by decide)) (fun x y _ => e x (by omega))
  have f : ∀ x, x ≠ 176 → x ≠ 196 → M2 x = M1 x := b3.1
  have hC2 := hC1.fb hw (M' := M2) (fun x y => f x (by omega) (by omega))
  have hR2 : RA S M2 nR rl cl im w T' B' := hR1.mv (hR1.1.2.fu b3) (by rw [b3.2 42 (by decide)]; exact hR1.2.1.mv (fun x a => f x (by omega) (by omega))) (hR1.2.2.1.mv (f 213 (by decide) (by decide)) (f 214 (by decide) (by decide))) b2 (b3.2 24 (by decide)) (b3.2 29 (by decide)) (fun x a b => f x (by omega) (by omega))
  refine ⟨(S, M2), ?_, ⟨nR, rl, cl, im, w, T', B', ⟨hw, hT'⟩, hC2, hR2⟩, Int.le_refl _, by show S.2.2 ≤ S.2.2 + 120; omega⟩
  rw [a1, Option.bind_some, b1, Option.bind_some, if_pos rfl]
theorem g_feed (h : In1 S M nR rl cl im w T B) : LGo S (lawC0 xs S M 1 176 i) := by
  simp only [lawC0, h.s1, h.s2, if_true]
  exact op_tp h (y := fun M' => pX12_feed S M' 176 (xs (i + 1)) (xs (i + 2)) (xs (i + 3)) (xs (i + 4)) (xs (i + 5))) (opFeed_ok h.1.2) (k_feed h.2.1.1.1 h.1.2 h.2.1.2.2.1) (fun M' hM ht => e_feed h.2.2.1.1 hM h.1.2 ht)
theorem g_end (h : In1 S M nR rl cl im w T B) : LGo S (lawC1 xs S M 1 176 i) := by
  simp only [lawC1, h.s1, h.s2, if_true]
  exact op_tp h (y := fun M' => pX12_end S M' 176 (xs (i + 1))) (opEnd_ok h.1.2) (k_end h.2.1.1.1 h.2.1.2.2.1) (fun M' hM ht => e_end h.2.2.1.1 ht)
theorem TOk.z (h : TOk T B) : TOk 0 B := ⟨by decide, fun i a b => by omega⟩
theorem g_sky (h : In1 S M nR rl cl im w T B) : LGo S (lawC2 xs S M 1 176 i) := by
  simp only [lawC2, h.s1, h.s2, if_true]
  have hcg := h.cg
  obtain ⟨⟨hw, hT⟩, hC, hR⟩ := h
  obtain ⟨M1, a1, a2, a3, a4⟩ := k_sky (s := sk0 M) hcg hT hC.2.2.1 ⟨rfl, rfl, rfl, rfl, fun _ _ _ => rfl⟩ sk0_ok
  have hR1 : RA S M1 nR rl cl im w T B := hR.fb hR.1.1 (fun x a b => a4 x (by omega))
  obtain ⟨M2, b1, b2, b3, b4⟩ := e_sky (hR1.rg hw) hT hR1.2.2.2.1
  have es : sk0 M1 = sk0 M := by unfold sk0; rw [a4 191 (by omega), a4 192 (by omega), a4 193 (by omega), a4 194 (by omega)]
  rw [es] at b1 b2
  generalize opSky T B (sk0 M) w = o at *
  have hw' : WOk nR o.2 := a2.2.2
  have hC1 : CA S M1 nR rl cl im o.2 0 B := hC.mv a2.1 a3 (SE.refl _ _) (Int.le_refl _) (by rw [a4 1 (by omega)]) (a4 15 (by omega)) (a4 132 (by omega)) (fun x y _ => a4 x (by omega))
  have hC2 := hC1.fb hw' (M' := M2) (fun x y => b4.1 x (by omega))
  have hR2 : RA S M2 nR rl cl im o.2 0 B := hR1.mv b2.2.1 b2.2.2.2.1 (hR1.2.2.1.mv (b4.1 213 (by omega)) (b4.1 214 (by omega))) b3 (b4.2 24 (by omega) (by decide)) (b4.2 29 (by omega) (by decide)) (fun x a b => b4.1 x (by omega))
  refine ⟨(S, M2), ?_, ⟨nR, rl, cl, im, o.2, 0, B, ⟨hw', hT.z⟩, hC2, hR2⟩, Int.le_refl _, by show S.2.2 ≤ S.2.2 + 120; omega⟩
  rw [a1, Option.bind_some, b1, Option.bind_some, if_pos rfl]
theorem g_back (h : In1 S M nR rl cl im w T B) : LGo S (lawC31 xs S M 1 176 i) := by
  simp only [lawC31, h.s1, h.s2, if_true]
  obtain ⟨⟨hw, hT⟩, hC, hR⟩ := h
  obtain ⟨M1, a1, a2, a3, a4, a5⟩ := k_back (k := xs (i + 1)) hC.1 hw hC.2.1
  have hR1 : RA S M1 nR rl cl im w T B := hR.fb hR.1.1 (fun x a b => a4 x (by omega))
  obtain ⟨M2, b1, b2, b3, b4⟩ := e_back (k := xs (i + 1)) (hR1.rg hw) hR1.2.2.1
  generalize opBack w im (xs (i + 1)) = o at *
  have hC1 : CA S M1 nR rl cl im o.2 T B := hC.mv a2 (hC.2.2.1.mv (a4 2 (by omega)) (a4 3 (by omega))) (SE.refl _ _) (Int.le_refl _) (by rw [a4 1 (by omega)]) (a4 15 (by omega)) (a4 132 (by omega)) (fun x y _ => a4 x (by omega))
  have hC2 := hC1.fb a5 (M' := M2) (fun x y => b4.1 x (by omega))
  have hR2 : RA S M2 nR rl cl im o.2 T B := hR1.mv b2.2.1 b2.2.2.2.1 b3 ⟨by rw [b4.2.1]; exact hR1.2.2.2.1.1, by rw [b4.1 196 (by omega)]; exact hR1.2.2.2.1.2⟩ b4.2.2.1 b4.2.2.2 (fun x a b => b4.1 x (by omega))
  refine ⟨(S, M2), ?_, ⟨nR, rl, cl, im, o.2, T, B, ⟨a5, hT⟩, hC2, hR2⟩, Int.le_refl _, by show S.2.2 ≤ S.2.2 + 120; omega⟩
  rw [a1, Option.bind_some, b1, Option.bind_some, if_pos rfl]
theorem g_image (h : In1 S M nR rl cl im w T B) (hs : 214 ≤ S.2.2 ∧ S.2.2 < 1999999700) : LGo S (lawC30 xs S M 1 176 i) := by
  have s1 := h.s1
  obtain ⟨⟨hw, hT⟩, hC, hR⟩ := h
  obtain ⟨S1, M1, a1, a2, a3, a4, a5, a6, a7⟩ := k_image (k := xs (i + 1)) hC.1 hw hC.2.1 hs
  have hS1 : ShW S1 := hR.1.1.se a2 hs.1
  have lo : ∀ x, x ≤ 214 → x ≠ 132 → M1 x = M x := fun x y z => a6 x (by omega) z (fun l l1 l2 l3 => by
    rcases hC.2.1.1 l l1 l2 with u | ⟨v, -, u⟩
    · exact absurd u.2 l3
    · have := u.1.1; omega)
  have hR1 : RA S1 M1 nR rl cl im w T B := hR.fb hS1 (fun x a b => lo x b (by omega))
  obtain ⟨M2, b1, b2, b3, b4⟩ := e_image (k := xs (i + 1)) (hR1.rg hw) hR1.2.2.1
  generalize opImage w im (xs (i + 1)) = o at *
  have e15 := lo 15 (by decide) (by decide)
  have hC1 : CA S1 M1 nR rl cl o.2 w T B := by
    refine ⟨a4, a5, hC.2.2.1.mv (lo 2 (by decide) (by decide)) (lo 3 (by decide) (by decide)), hC.2.2.2.1.mv a2 a3.1 (by rw [lo 1 (by decide) (by decide)]) e15 (fun j c d => ?_), fun j k c d e f g => ?_⟩
    · have hh := hC.2.2.2.1.hi c d
      exact ⟨a6 _ hh.1.2 (by omega) (fun l l1 l2 l3 => (hC.2.2.2.2 j l c d l1 l2 l3).1), a6 _ hh.2.2 (by omega) (fun l l1 l2 l3 => (hC.2.2.2.2 j l c d l1 l2 l3).2)⟩
    · have hh := hC.2.2.2.1.hi c d
      have er : M1 (M 15 j) = M (M 15 j) := a6 _ hh.1.2 (by omega) (fun l l1 l2 l3 => (hC.2.2.2.2 j l c d l1 l2 l3).1)
      rw [e15, er]
      rcases a7 k e f with u | u
      · rw [u] at g ⊢
        exact hC.2.2.2.2 j k c d e f g
      · rw [u]; exact ⟨Or.inl (by omega), Or.inl (by omega)⟩
  have hC2 := hC1.fb hw (M' := M2) (fun x y => b4.1 x (by omega))
  have hR2 : RA S1 M2 nR rl cl o.2 w T B := hR1.mv b2.2.1 b2.2.2.2.1 b3 ⟨by rw [b4.2.1]; exact hR1.2.2.2.1.1, by rw [b4.1 196 (by omega)]; exact hR1.2.2.2.1.2⟩ b4.2.2.1 b4.2.2.2 (fun x a b => b4.1 x (by omega))
  have s2 : S1.1 176 = 12 := by simp [hS1.o]
  refine ⟨(S1, M2), ?_, ⟨nR, rl, cl, o.2, w, T, B, ⟨hw, hT⟩, hC2, hR2⟩, a3.1, by show S1.2.2 ≤ S.2.2 + 120; omega⟩
  simp only [lawC30, s1, if_true, a1, Option.bind_some, s2, b1]
end
