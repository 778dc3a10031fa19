/-! A SKY READ: the spec, and the class -/
abbrev SK : Type := Int × Int × Int × Int × (Int → Int) × (Int → Int) × (Int → Int) × (Int → Int) × (Int → Int)
abbrev kSd (s : SK) : Int := s.1
abbrev kFd (s : SK) : Int := s.2.1
abbrev kPn (s : SK) : Int := s.2.2.1
abbrev kWn (s : SK) : Int := s.2.2.2.1
abbrev kA (s : SK) : Int → Int := s.2.2.2.2.1
abbrev kS (s : SK) : Int → Int := s.2.2.2.2.2.1
abbrev kW (s : SK) : Int → Int := s.2.2.2.2.2.2.1
abbrev kG (s : SK) : Int → Int := s.2.2.2.2.2.2.2.1
abbrev kM (s : SK) : Int → Int := s.2.2.2.2.2.2.2.2
def kup (f : Int → Int) (i v : Int) : Int → Int := fun j => if j = i then v else f j
/-- two numbers, one behind the other: the fault, both values, the place behind -/
noncomputable def rd2 (T : Int) (B : Int → Int) (q lo hi lo' hi' : Int) : Int × Int × Int × Int := if (rdN T B q lo hi).1 ≠ 0 then ((rdN T B q lo hi).1, 0, 0, q) else if (rdN T B (rdN T B q lo hi).2.2 lo' hi').1 ≠ 0 then ((rdN T B (rdN T B q lo hi).2.2 lo' hi').1, 0, 0, q) else (0, (rdN T B q lo hi).2.1, (rdN T B (rdN T B q lo hi).2.2 lo' hi').2.1, (rdN T B (rdN T B q lo hi).2.2 lo' hi').2.2)
abbrev skFull (t n : Int) (s : SK) : Prop := 40 ≤ n ∨ ¬ (n = 0 ↔ t = 268) ∨ (t = 256 ∧ 5 ≤ kPn s) ∨ (t = 269 ∧ 12 ≤ kWn s)
noncomputable def skC (T : Int) (B : Int → Int) (n q : Int) (s : SK) : Int × Int × SK :=
  if ¬ (tk T B q = 268 ∨ tk T B q = 256 ∨ tk T B q = 269 ∨ tk T B q = 265) then (1 + 8 * q + 0, q, s)
  else if skFull (tk T B q) n s then (1 + 8 * q + 4, q, s)
  else if tk T B q = 268 then ((rd2 T B (nx T B q) 2 6 1 60).1, (rd2 T B (nx T B q) 2 6 1 60).2.2.2, ((rd2 T B (nx T B q) 2 6 1 60).2.1, (rd2 T B (nx T B q) 2 6 1 60).2.2.1, s.2.2))
  else if tk T B q = 256 then ((rd2 T B (nx T B q) 0 (kSd s * kSd s - 1) 0 9).1, (rd2 T B (nx T B q) 0 (kSd s * kSd s - 1) 0 9).2.2.2, (kSd s, kFd s, kPn s + 1, kWn s, kup (kA s) (kPn s) (rd2 T B (nx T B q) 0 (kSd s * kSd s - 1) 0 9).2.1, kup (kS s) (kPn s) (rd2 T B (nx T B q) 0 (kSd s * kSd s - 1) 0 9).2.2.1, kW s, kG s, kM s))
  else if tk T B q = 269 then ((rd2 T B (nx T B q) 0 3 0 9).1, (rd2 T B (nx T B q) 0 3 0 9).2.2.2, (kSd s, kFd s, kPn s, kWn s + 1, kA s, kS s, kup (kW s) (kWn s) (rd2 T B (nx T B q) 0 3 0 9).2.1, kup (kG s) (kWn s) (rd2 T B (nx T B q) 0 3 0 9).2.2.1, kM s))
  else ((rdN T B (nx T B q) 0 (kSd s * kSd s - 1)).1, (rdN T B (nx T B q) 0 (kSd s * kSd s - 1)).2.2, (kSd s, kFd s, kPn s, kWn s, kA s, kS s, kW s, kG s, kup (kM s) (rdN T B (nx T B q) 0 (kSd s * kSd s - 1)).2.1 1))
def CK (M : ZM) (s : SK) : Prop := (M 7 0 = kSd s ∧ M 7 1 = kSd s * kSd s ∧ M 7 2 = kFd s ∧ M 7 3 = kPn s ∧ M 7 4 = kWn s) ∧ (∀ i, 0 ≤ i → i < kPn s → M 8 i = kA s i ∧ M 9 i = kS s i) ∧ (∀ i, 0 ≤ i → i < kWn s → M 10 i = kW s i ∧ M 11 i = kG s i) ∧ ∀ c, 0 ≤ c → c < 36 → M 12 c = kM s c
/-- a sky told so far, ahead of clause n -/
def KOk (s : SK) (n : Int) : Prop := ((n = 0 ∧ kSd s = 0 ∧ kPn s = 0 ∧ kWn s = 0) ∨ (0 < n ∧ (2 ≤ kSd s ∧ kSd s ≤ 6) ∧ (1 ≤ kFd s ∧ kFd s ≤ 60))) ∧ ((0 ≤ kPn s ∧ kPn s ≤ 5) ∧ (0 ≤ kWn s ∧ kWn s ≤ 12)) ∧ (∀ i, 0 ≤ i → i < kPn s → (0 ≤ kA s i ∧ kA s i < kSd s * kSd s) ∧ (0 ≤ kS s i ∧ kS s i ≤ 9)) ∧ (∀ i, 0 ≤ i → i < kWn s → (0 ≤ kW s i ∧ kW s i ≤ 3) ∧ (0 ≤ kG s i ∧ kG s i ≤ 9)) ∧ ∀ c, 0 ≤ c → c < 36 → kM s c = 0 ∨ kM s c = 1
/-- only the reader of skies and the place of reading are others -/
def FY (M M' : ZM) : Prop := (∀ x, x ≠ 2 → (x < 7 ∨ 12 < x) → M' x = M x) ∧ (∀ j, j ≠ 4 → j ≠ 5 → M' 2 j = M 2 j) ∧ ∀ j, 5 ≤ j → M' 7 j = M 7 j
section
variable {S : ZS} {M : ZM} {T : Int} {B : Int → Int} {q n : Int} {s : SK}
theorem FY.refl (M : ZM) : FY M M := ⟨fun _ _ _ => rfl, fun _ _ _ => rfl, fun _ _ => rfl⟩
theorem FY.trans {M M' M'' : ZM} (h : FY M M') (h' : FY M' M'') : FY M M'' := ⟨fun x a b => (h'.1 x a b).trans (h.1 x a b), fun j a b => (h'.2.1 j a b).trans (h.2.1 j a b), fun j a => (h'.2.2 j a).trans (h.2.2 j a)⟩
theorem FY.c {M' : ZM} (h : FC M M') : FY M M' := ⟨fun x a _ => h.1 x a, h.2, fun j _ => by rw [h.1 7 (by decide)]⟩
theorem FY.u {x j v : Int} (hx : 7 ≤ x ∧ x ≤ 12) (hj : x = 7 → j < 5) : FY M (upM M x j v) := ⟨fun y a b => upM_r (by omega), fun i a b => by rw [upM_r (by omega)], fun i a => by
  by_cases z : x = 7
  · have := hj z
    subst z; exact upM_i (by omega)
  · rw [upM_r (fun u => z u.symm)]⟩
theorem NW.fy {M' : ZM} (h : NW S M) (f : FY M M') : NW S M' := h.q (fun x j y => by
  unfold pkN at y
  by_cases z : x = 2
  · subst z; exact f.2.1 j (by omega) (by omega)
  by_cases z7 : x = 7
  · subst z7; exact f.2.2 j (by omega)
  · rw [f.1 x z (by omega)])
/-- told rows change, the reading does not -/
theorem CP.u {x j v : Int} (h : CP S M T B q) (hx : 7 ≤ x ∧ x ≤ 12) (hj : x = 7 → j < 5) : CP S (upM M x j v) T B q := by
  obtain ⟨h1, h2, h3, h4, n, i, hc, hi, e4, e5⟩ := h
  have e : ∀ y, y < 6 → upM M x j v y = M y := fun y z => upM_r (by omega)
  refine ⟨h1.fy (FY.u hx hj), ?_, h3, by rw [e 2 (by decide)]; exact h4, n, i, ?_, hi, by rw [e 2 (by decide)]; exact e4, by rw [e 5 (by decide)]; exact e5⟩
  · unfold CTp at *; rw [e 2 (by decide), e 3 (by decide)]; exact h2
  · unfold Cut at *; rw [e 4 (by decide), e 5 (by decide)]; exact hc
theorem CK.fc {M' : ZM} (h : CK M s) (f : FC M M') : CK M' s := by
  unfold CK at *
  rw [f.1 7 (by decide), f.1 8 (by decide), f.1 9 (by decide), f.1 10 (by decide), f.1 11 (by decide), f.1 12 (by decide)]; exact h
theorem c_canStand (h : CP S M T B q) (hk : CK M s) {t : Int} (ht : t = 268 ∨ t = 256 ∨ t = 269 ∨ t = 265) : pX7_canStand S M 6 t n = some (if skFull t n s then 0 else 1, M) := by
  obtain ⟨k0, k1, k2, k3, k4⟩ := hk.1
  by_cases z1 : 40 ≤ n
  · rw [if_pos (Or.inl z1)]
    simp only [pX7_canStand, pX7_canStand_9, pX7_canStand_32, if_pos z1]
  by_cases z2 : (n = 0 ↔ t = 268)
  · by_cases zn : n = 0
    · have ht' := z2.1 zn
      rw [if_neg (by unfold skFull; omega)]
      simp only [pX7_canStand, pX7_canStand_9, pX7_canStand_29, pX7_canStand_77, pX7_canStand_82, if_neg z1, if_pos zn, if_pos ht', if_true, show ¬ t = 256 by omega, show ¬ t = 269 by omega, if_false, or_true]
    · have ht' : ¬ t = 268 := fun u => zn (z2.2 u)
      by_cases z3 : t = 256
      · by_cases z4 : 5 ≤ kPn s
        · rw [if_pos (Or.inr (Or.inr (Or.inl ⟨z3, z4⟩)))]
          simp only [pX7_canStand, pX7_canStand_9, pX7_canStand_29, if_neg z1, if_neg zn, if_neg ht', if_true, if_pos z3, h.1.1.o, h.1.2.o, k3, if_pos z4]
        · rw [if_neg (by unfold skFull; omega)]
          simp only [pX7_canStand, pX7_canStand_9, pX7_canStand_29, if_neg z1, if_neg zn, if_neg ht', if_true, if_pos z3, h.1.1.o, h.1.2.o, k3, if_neg z4]
      · by_cases z5 : t = 269
        · by_cases z4 : 12 ≤ kWn s
          · rw [if_pos (Or.inr (Or.inr (Or.inr ⟨z5, z4⟩)))]
            simp only [pX7_canStand, pX7_canStand_9, pX7_canStand_29, pX7_canStand_82, if_neg z1, if_neg zn, if_neg ht', if_true, if_neg z3, if_pos z5, h.1.1.o, h.1.2.o, k4, if_pos z4, true_or]
          · rw [if_neg (by unfold skFull; omega)]
            simp only [pX7_canStand, pX7_canStand_9, pX7_canStand_29, pX7_canStand_77, pX7_canStand_82, if_neg z1, if_neg zn, if_neg ht', if_true, if_neg z3, if_pos z5, h.1.1.o, h.1.2.o, k4, if_neg z4, or_true]
        · rw [if_neg (by unfold skFull; omega)]
          simp only [pX7_canStand, pX7_canStand_9, pX7_canStand_29, pX7_canStand_77, pX7_canStand_82, if_neg z1, if_neg zn, if_neg ht', if_true, if_neg z3, if_neg z5, or_true]
  · rw [if_pos (Or.inr (Or.inl z2))]
    by_cases zn : n = 0
    · have ht' : ¬ t = 268 := fun u => z2 ⟨fun _ => u, fun _ => zn⟩
      simp only [pX7_canStand, pX7_canStand_9, pX7_canStand_29, pX7_canStand_32, if_neg z1, if_pos zn, if_neg ht', show ¬ (1 : Int) = 0 by decide, if_false]
    · have ht' : t = 268 := by
        by_cases u : t = 268
        · exact u
        · exact absurd ⟨fun v => absurd v zn, fun v => absurd v u⟩ z2
      simp only [pX7_canStand, pX7_canStand_9, pX7_canStand_29, pX7_canStand_32, if_neg z1, if_neg zn, if_pos ht', show ¬ (0 : Int) = 1 by decide, if_false]
end
