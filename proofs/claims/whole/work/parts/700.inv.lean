/-! ALL CALLS: what holds between them -/
def CA (S : ZS) (M : ZM) (nR : Int) (rl : Int → Ru) (cl : Int → List Cl) (im : Int → Option Wd) (w : Wd) (T : Int) (B : Int → Int) : Prop := CN S M w ∧ CIm S M nR im ∧ CTp M T B ∧ CLs S M nR rl cl ∧ ∀ j k, 0 ≤ j → j < nR → 0 ≤ k → k < 4 → M 132 k ≠ 0 → (M 15 j < M 132 k ∨ M 132 k + 115 < M 15 j) ∧ (M (M 15 j) 0 < M 132 k ∨ M 132 k + 115 < M (M 15 j) 0)
def RA (S : ZS) (M : ZM) (nR : Int) (rl : Int → Ru) (cl : Int → List Cl) (im : Int → Option Wd) (w : Wd) (T : Int) (B : Int → Int) : Prop := (ShW S ∧ PtW M) ∧ RW M (M 176 42) w ∧ RIm M nR im ∧ RTp M T B ∧ RLs M nR rl cl ∧ M 176 29 = 12
def In1 (S : ZS) (M : ZM) (nR : Int) (rl : Int → Ru) (cl : Int → List Cl) (im : Int → Option Wd) (w : Wd) (T : Int) (B : Int → Int) : Prop := (WOk nR w ∧ TOk T B) ∧ CA S M nR rl cl im w T B ∧ RA S M nR rl cl im w T B
def Inv (S : ZS) (M : ZM) : Prop := ∃ nR rl cl im w T B, In1 S M nR rl cl im w T B
/-- a turn of the law goes on -/
def LGo (S : ZS) (x : Option (ZS × ZM)) : Prop := ∃ q : ZS × ZM, x = some q ∧ Inv q.1 q.2 ∧ S.2.2 ≤ q.1.2.2 ∧ q.1.2.2 ≤ S.2.2 + 120
section
variable {S S' : ZS} {M M' : ZM} {nR : Int} {rl : Int → Ru} {cl : Int → List Cl} {im im' : Int → Option Wd} {w w' : Wd} {T T' : Int} {B B' : Int → Int}
theorem SE.refl (S : ZS) (N : Int) : SE S S N := fun _ _ => ⟨rfl, rfl⟩
theorem CIm.mv (h : CIm S M nR im) (e : SE S S' S.2.2) (hs : S.2.2 ≤ S'.2.2) (e132 : M' 132 = M 132) (eh : ∀ x, 214 < x → x ≤ S.2.2 → M' x = M x) : CIm S' M' nR im := by
  refine ⟨fun k a b => ?_, by rw [e132]; exact h.2⟩
  rw [e132]
  rcases h.1 k a b with z | ⟨v, z1, z2⟩
  · exact Or.inl z
  · exact Or.inr ⟨v, z1, z2.eq e hs (fun x x1 x2 => eh x (by have := z2.1; omega) (by have := z2.1; omega))⟩
theorem CLs.mv (h : CLs S M nR rl cl) (e : SE S S' S.2.2) (hs : S.2.2 ≤ S'.2.2) (e1 : M' 1 4 = M 1 4) (e15 : M' 15 = M 15) (eh : ∀ j, 0 ≤ j → j < nR → M' (M 15 j) = M (M 15 j) ∧ M' (M (M 15 j) 0) = M (M (M 15 j) 0)) : CLs S' M' nR rl cl := by
  obtain ⟨h1, h2, h3, h4⟩ := h
  refine ⟨h1, e1.trans h2, h3, fun j a b => ?_⟩
  obtain ⟨a1, a2⟩ := h4 j a b
  rw [e15]
  exact ⟨a1, a2.eq hs e (eh j a b).1 (eh j a b).2⟩
theorem CLs.hi (h : CLs S M nR rl cl) {j : Int} (a : 0 ≤ j) (b : j < nR) : (214 < M 15 j ∧ M 15 j ≤ S.2.2) ∧ (214 < M (M 15 j) 0 ∧ M (M 15 j) 0 ≤ S.2.2) := (h.2.2.2 j a b).2.1
theorem CA.mv (h : CA S M nR rl cl im w T B) (hN : CN S' M' w') (ht : CTp M' T' B') (e : SE S S' S.2.2) (hs : S.2.2 ≤ S'.2.2) (e1 : M' 1 4 = M 1 4) (e15 : M' 15 = M 15) (e132 : M' 132 = M 132) (eh : ∀ x, 214 < x → x ≤ S.2.2 → M' x = M x) : CA S' M' nR rl cl im w' T' B' := by
  obtain ⟨h1, h2, h3, h4, h5⟩ := h
  refine ⟨hN, h2.mv e hs e132 eh, ht, h4.mv e hs e1 e15 (fun j a b => ?_), fun j k a b c d f => ?_⟩
  · have := h4.hi a b
    exact ⟨eh _ this.1.1 this.1.2, eh _ this.2.1 this.2.2⟩
  · have := h4.hi a b
    rw [e132] at f ⊢
    rw [e15, eh _ this.1.1 this.1.2]
    exact h5 j k a b c d f
theorem NW.lo (h : NW S M) (e : ∀ x, x < 176 → M' x = M x) : NW S M' := h.q (fun x j y => by rw [e x (by unfold pkN at y; omega)])
theorem CTp.mv (h : CTp M T B) (e2 : M' 2 = M 2) (e3 : M' 3 = M 3) : CTp M' T B := ⟨by rw [e2]; exact h.1, by rw [e3]; exact h.2⟩
/-- the reference's call changes nothing of the class -/
theorem CA.fb (h : CA S M nR rl cl im w T B) (hw : WOk nR w) (e : ∀ x, (x < 176 ∨ 214 < x) → M' x = M x) : CA S M' nR rl cl im w T B :=
  h.mv (h.1.eqs hw (h.1.1.lo (fun x y => e x (Or.inl y))) (fun x a b => e x (by omega))) (h.2.2.1.mv (e 2 (by omega)) (e 3 (by omega))) (SE.refl _ _) (Int.le_refl _) (by rw [e 1 (by omega)]) (e 15 (by omega)) (e 132 (by omega)) (fun x y _ => e x (by omega))
theorem RIm.mv (h : RIm M nR im) (e213 : M' 213 = M 213) (e214 : M' 214 = M 214) : RIm M' nR im := by
  intro k a b
  have ev : vw M' k = vw M k := by unfold vw; rw [e213]
  rw [e214, ev]; exact h k a b
theorem RW.mv {p : Int} (h : RW M p w) (e : ∀ x, ((177 ≤ x ∧ x ≤ 189) ∨ x = 206) → M' x = M x) : RW M' p w := by
  unfold RW RTd RSc RNt PR at *
  rw [e 177 (by omega), e 178 (by omega), e 179 (by omega), e 180 (by omega), e 181 (by omega), e 182 (by omega), e 183 (by omega), e 184 (by omega), e 185 (by omega), e 186 (by omega), e 187 (by omega), e 188 (by omega), e 189 (by omega), e 206 (by omega)]
  exact h
theorem RLs.mv (h : RLs M nR rl cl) (e24 : M' 176 24 = M 176 24) (e : ∀ x, 197 ≤ x → x ≤ 202 → M' x = M x) : RLs M' nR rl cl := by
  obtain ⟨h1, h2, h3, h4⟩ := h
  refine ⟨h1, e24.trans h2, h3, fun j a b => ?_⟩
  obtain ⟨a1, a2⟩ := h4 j a b
  exact ⟨a1, a2.eq a (by rw [e 199 (by decide) (by decide)]) (fun i _ _ => by rw [e 200 (by decide) (by decide), e 201 (by decide) (by decide), e 202 (by decide) (by decide)]; exact ⟨rfl, rfl, rfl⟩) (fun i _ _ => by rw [e 197 (by decide) (by decide), e 198 (by decide) (by decide)]; exact ⟨rfl, rfl⟩)⟩
/-- the class's call changes nothing of the reference -/
theorem RA.fb (h : RA S M nR rl cl im w T B) (hS : ShW S') (e : ∀ x, 176 ≤ x → x ≤ 214 → M' x = M x) : RA S' M' nR rl cl im w T B := by
  obtain ⟨⟨h1, h2⟩, h3, h4, h5, h6, h7⟩ := h
  have e176 := e 176 (by decide) (by decide)
  refine ⟨⟨hS, h2.j (fun i _ => by rw [e176])⟩, ?_, h4.mv (e 213 (by decide) (by decide)) (e 214 (by decide) (by decide)), ⟨by rw [e176]; exact h5.1, by rw [e 196 (by decide) (by decide)]; exact h5.2⟩, h6.mv (by rw [e176]) (fun x a b => e x (by omega) (by omega)), by rw [e176]; exact h7⟩
  rw [e176]; exact h3.mv (fun x a => e x (by omega) (by omega))
theorem In1.cg (h : In1 S M nR rl cl im w T B) : CG S M nR rl w := ⟨h.2.1.1, h.2.1.2.2.2.1.rs h.2.1.1.1.1, h.1.1⟩
theorem RA.rg (h : RA S M nR rl cl im w T B) (hw : WOk nR w) : RG S M nR rl w := ⟨h.1.1, h.1.2, h.2.2.2.2.1.rs h.1.1, h.2.1, hw⟩
theorem RA.mv (h : RA S M nR rl cl im w T B) (hp : PtW M') (hw : RW M' (M' 176 42) w') (hi : RIm M' nR im') (ht : RTp M' T' B') (e24 : M' 176 24 = M 176 24) (e29 : M' 176 29 = M 176 29) (e : ∀ x, 197 ≤ x → x ≤ 202 → M' x = M x) : RA S M' nR rl cl im' w' T' B' := ⟨⟨h.1.1, hp⟩, hw, hi, ht, h.2.2.2.2.1.mv e24 e, e29.trans h.2.2.2.2.2⟩
/-- an ordinary call, on both -/
theorem op_ok (h : In1 S M nR rl cl im w T B) {v : Int} {x : Option (Int × ZM)} {y : ZM → Option (Int × ZM)} (hx : CE S M nR rl x v w') (hy : ∀ M', RG S M' nR rl w → M' 176 20 = T → RE S M' nR rl (y M') v w') : LGo S (x.bind fun q0 => (y q0.2).bind fun q1 => if q0.1 = q1.1 then some (S, q1.2) else none) := by
  obtain ⟨⟨hw, hT⟩, hC, hR⟩ := h
  obtain ⟨M1, a1, a2, a3, a4, a5⟩ := hx
  have hR1 : RA S M1 nR rl cl im w T B := hR.fb hR.1.1 (fun x a b => a3 x (by omega))
  obtain ⟨M2, b1, b2, b3⟩ := hy M1 (hR1.rg hw) hR1.2.2.2.1.1
  have hC1 : CA S M1 nR rl cl im w' T B := hC.mv a2.1 (hC.2.2.1.mv a4 a5) (SE.refl _ _) (Int.le_refl _) (by rw [a3 1 (by omega)]) (a3 15 (by omega)) (a3 132 (by omega)) (fun x y _ => a3 x (by omega))
  have hC2 := hC1.fb a2.2.2 (M' := M2) (fun x y => b3.1 x (by omega))
  have hR2 : RA S M2 nR rl cl im w' T B := hR1.mv b2.2.1 b2.2.2.2.1 (hR1.2.2.1.fr b3) ⟨by rw [b3.2.2.1]; exact hR1.2.2.2.1.1, by rw [b3.1 196 (by omega)]; exact hR1.2.2.2.1.2⟩ b3.2.2.2.1 b3.2.2.2.2 (fun x a b => b3.1 x (by omega))
  refine ⟨(S, M2), ?_, ⟨nR, rl, cl, im, w', T, B, ⟨a2.2.2, hT⟩, hC2, hR2⟩, Int.le_refl _, by show S.2.2 ≤ S.2.2 + 120; omega⟩
  rw [a1, Option.bind_some, b1, Option.bind_some, if_pos rfl]
end
