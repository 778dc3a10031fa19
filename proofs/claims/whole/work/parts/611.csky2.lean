/-! A SKY READ: the class's clauses -/
section
variable {S : ZS} {M : ZM} {T : Int} {B : Int → Int} {q n : Int} {s : SK}
theorem c_num2 (hT : TOk T B) (h : CP S M T B q) {lo hi lo' hi' : Int} (hl : 0 ≤ lo) (hl' : 0 ≤ lo') : ((rd2 T B q lo hi lo' hi').1 ≠ 0 → (∃ M', pX8_takeNumber S M 2 lo hi = some (-1, M') ∧ M' 2 5 = (rd2 T B q lo hi lo' hi').1 ∧ FC M M') ∨ (∃ v M1 M', pX8_takeNumber S M 2 lo hi = some (v, M1) ∧ v ≠ -1 ∧ pX8_takeNumber S M1 2 lo' hi' = some (-1, M') ∧ M' 2 5 = (rd2 T B q lo hi lo' hi').1 ∧ FC M M')) ∧ ((rd2 T B q lo hi lo' hi').1 = 0 → ((lo ≤ (rd2 T B q lo hi lo' hi').2.1 ∧ (rd2 T B q lo hi lo' hi').2.1 ≤ hi) ∧ (lo' ≤ (rd2 T B q lo hi lo' hi').2.2.1 ∧ (rd2 T B q lo hi lo' hi').2.2.1 ≤ hi')) ∧ ∃ M1 M', pX8_takeNumber S M 2 lo hi = some ((rd2 T B q lo hi lo' hi').2.1, M1) ∧ pX8_takeNumber S M1 2 lo' hi' = some ((rd2 T B q lo hi lo' hi').2.2.1, M') ∧ CP S M' T B (rd2 T B q lo hi lo' hi').2.2.2 ∧ FC M M') := by
  obtain ⟨a1, a2⟩ := c_number hT h (lo := lo) (hi := hi) hl
  unfold rd2
  by_cases z : (rdN T B q lo hi).1 ≠ 0
  · rw [if_pos z]
    exact ⟨fun _ => Or.inl (a1 z), fun u => absurd u z⟩
  · rw [if_neg z]
    obtain ⟨b0, M1, b1, b2, b3⟩ := a2 (by omega)
    obtain ⟨c1, c2⟩ := c_number hT b2 (lo := lo') (hi := hi') hl'
    by_cases y : (rdN T B (rdN T B q lo hi).2.2 lo' hi').1 ≠ 0
    · rw [if_pos y]
      obtain ⟨M', d1, d2, d3⟩ := c1 y
      exact ⟨fun _ => Or.inr ⟨_, M1, M', b1, by omega, d1, d2, b3.trans d3⟩, fun u => absurd u y⟩
    · rw [if_neg y]
      obtain ⟨d0, M', d1, d2, d3⟩ := c2 (by omega)
      exact ⟨fun u => absurd rfl u, fun _ => ⟨⟨b0, d0⟩, M1, M', b1, d1, d2, b3.trans d3⟩⟩
theorem c_sheet (hT : TOk T B) (h : CP S M T B q) (hk : CK M s) : ((rd2 T B q 2 6 1 60).1 ≠ 0 → ∃ M', pX7_takeSheet S M 6 2 = some (0, M') ∧ M' 2 5 = (rd2 T B q 2 6 1 60).1 ∧ FY M M') ∧ ((rd2 T B q 2 6 1 60).1 = 0 → ∃ M', pX7_takeSheet S M 6 2 = some (1, M') ∧ CP S M' T B (rd2 T B q 2 6 1 60).2.2.2 ∧ CK M' ((rd2 T B q 2 6 1 60).2.1, (rd2 T B q 2 6 1 60).2.2.1, s.2.2) ∧ FY M M') := by
  obtain ⟨a1, a2⟩ := c_num2 hT h (lo := 2) (hi := 6) (lo' := 1) (hi' := 60) (by decide) (by decide)
  refine ⟨fun u => ?_, fun u => ?_⟩
  · rcases a1 u with ⟨M', b1, b2, b3⟩ | ⟨v, M1, M', b1, b2, b3, b4, b5⟩
    · exact ⟨M', by simp only [pX7_takeSheet, h.1.1.o, if_true, b1, Option.bind_some], b2, FY.c b3⟩
    · exact ⟨M', by simp only [pX7_takeSheet, h.1.1.o, if_true, b1, Option.bind_some, if_neg b2, b3], b4, FY.c b5⟩
  · obtain ⟨⟨r1, r2⟩, M1, M', b1, b2, b3, b4⟩ := a2 u
    generalize (rd2 T B q 2 6 1 60).2.1 = v at *
    generalize (rd2 T B q 2 6 1 60).2.2.1 = v' at *
    have nv : ¬ v = -1 := by omega
    have nv' : ¬ v' = -1 := by omega
    have sqb : 0 ≤ v * v ∧ v * v ≤ 36 := by
      have : v = 2 ∨ v = 3 ∨ v = 4 ∨ v = 5 ∨ v = 6 := by omega
      rcases this with u | u | u | u | u <;> subst u <;> decide
    have w1 : w32 (v * v) = v * v := w32_i (by omega) (by omega)
    have hk' := hk.fc b4
    generalize hM4 : upM (upM (upM M' 7 0 v) 7 1 (v * v)) 7 2 v' = M4
    have c4 : CP S M4 T B (rd2 T B q 2 6 1 60).2.2.2 := by
      rw [← hM4]
      exact ((b3.u (by decide) (fun _ => by decide)).u (by decide) (fun _ => by decide)).u (by decide) (fun _ => by decide)
    have f4 : FY M' M4 := by
      rw [← hM4]
      exact ((FY.u (by decide) (fun _ => by decide)).trans (FY.u (by decide) (fun _ => by decide))).trans (FY.u (by decide) (fun _ => by decide))
    refine ⟨M4, ?_, c4, ?_, (FY.c b4).trans f4⟩
    · have e1 : (upM M' 7 0 v) 6 0 = 7 := by rw [upM_r (by decide)]; simp only [b3.1.2.o]
      have e2 : (upM (upM M' 7 0 v) 7 1 (v * v)) 6 0 = 7 := by rw [upM_r (by decide)]; exact e1
      simp only [pX7_takeSheet, pX7_takeSheet_56, h.1.1.o, if_true, b1, Option.bind_some, if_neg nv, b2, if_neg nv', b3.1.2.o, zlet, e1, w1, e2, hM4]
    · have e7 : ∀ j, j ≠ 0 → j ≠ 1 → j ≠ 2 → M4 7 j = M' 7 j := fun j x y z => by rw [← hM4, upM_i z, upM_i y, upM_i x]
      have er : ∀ x, x ≠ 7 → M4 x = M' x := fun x y => by rw [← hM4, upM_r y, upM_r y, upM_r y]
      obtain ⟨⟨k0, k1, k2, k3, k4⟩, k5, k6, k7⟩ := hk'
      refine ⟨⟨?_, ?_, ?_, ?_, ?_⟩, ?_, ?_, ?_⟩
      · rw [← hM4, upM_i (by decide), upM_i (by decide), upM_s]
      · rw [← hM4, upM_i (by decide), upM_s]
      · rw [← hM4, upM_s]
      · rw [e7 3 (by decide) (by decide) (by decide)]; exact k3
      · rw [e7 4 (by decide) (by decide) (by decide)]; exact k4
      · rw [er 8 (by decide), er 9 (by decide)]; exact k5
      · rw [er 10 (by decide), er 11 (by decide)]; exact k6
      · rw [er 12 (by decide)]; exact k7
theorem c_pen_ (hT : TOk T B) (h : CP S M T B q) (hk : CK M s) (hs : 2 ≤ kSd s ∧ kSd s ≤ 6) (hp : 0 ≤ kPn s ∧ kPn s < 5) : ((rd2 T B q 0 (kSd s * kSd s - 1) 0 9).1 ≠ 0 → ∃ M', pX7_takePen S M 6 2 = some (0, M') ∧ M' 2 5 = (rd2 T B q 0 (kSd s * kSd s - 1) 0 9).1 ∧ FY M M') ∧ ((rd2 T B q 0 (kSd s * kSd s - 1) 0 9).1 = 0 → ∃ M', pX7_takePen S M 6 2 = some (1, M') ∧ CP S M' T B (rd2 T B q 0 (kSd s * kSd s - 1) 0 9).2.2.2 ∧ CK M' (kSd s, kFd s, kPn s + 1, kWn s, kup (kA s) (kPn s) (rd2 T B q 0 (kSd s * kSd s - 1) 0 9).2.1, kup (kS s) (kPn s) (rd2 T B q 0 (kSd s * kSd s - 1) 0 9).2.2.1, kW s, kG s, kM s) ∧ FY M M') := by
  have sqb : 0 ≤ kSd s * kSd s ∧ kSd s * kSd s ≤ 36 := by
    have : kSd s = 2 ∨ kSd s = 3 ∨ kSd s = 4 ∨ kSd s = 5 ∨ kSd s = 6 := by omega
    rcases this with u | u | u | u | u <;> rw [u] <;> decide
  have w0 : w32 (kSd s * kSd s - 1) = kSd s * kSd s - 1 := w32_i (by omega) (by omega)
  have k1 := hk.1.2.1
  obtain ⟨a1, a2⟩ := c_num2 hT h (lo := 0) (hi := kSd s * kSd s - 1) (lo' := 0) (hi' := 9) (by decide) (by decide)
  refine ⟨fun u => ?_, fun u => ?_⟩
  · rcases a1 u with ⟨M', b1, b2, b3⟩ | ⟨v, M1, M', b1, b2, b3, b4, b5⟩
    · exact ⟨M', by simp only [pX7_takePen, h.1.1.o, h.1.2.o, k1, w0, if_true, b1, Option.bind_some], b2, FY.c b3⟩
    · exact ⟨M', by simp only [pX7_takePen, pX7_takePen_46, h.1.1.o, h.1.2.o, k1, w0, if_true, b1, Option.bind_some, if_neg b2, b3], b4, FY.c b5⟩
  · obtain ⟨⟨r1, r2⟩, M1, M', b1, b2, b3, b4⟩ := a2 u
    generalize (rd2 T B q 0 (kSd s * kSd s - 1) 0 9).2.1 = v at *
    generalize (rd2 T B q 0 (kSd s * kSd s - 1) 0 9).2.2.1 = v' at *
    have nv : ¬ v = -1 := by omega
    have nv' : ¬ v' = -1 := by omega
    have w1 : w32 (kPn s + 1) = kPn s + 1 := w32_i (by omega) (by omega)
    obtain ⟨⟨j0, j1, j2, j3, j4⟩, j5, j6, j7⟩ := hk.fc b4
    generalize hM4 : upM (upM (upM M' 8 (kPn s) v) 9 (kPn s) v') 7 3 (kPn s + 1) = M4
    have c4 : CP S M4 T B (rd2 T B q 0 (kSd s * kSd s - 1) 0 9).2.2.2 := by
      rw [← hM4]
      exact ((b3.u (by decide) (fun u => absurd u (by decide))).u (by decide) (fun u => absurd u (by decide))).u (by decide) (fun _ => by decide)
    have f4 : FY M' M4 := by
      rw [← hM4]
      exact ((FY.u (by decide) (fun u => absurd u (by decide))).trans (FY.u (by decide) (fun u => absurd u (by decide)))).trans (FY.u (by decide) (fun _ => by decide))
    refine ⟨M4, ?_, c4, ?_, (FY.c b4).trans f4⟩
    · have e1 : (upM M' 8 (kPn s) v) 6 = M' 6 := upM_r (by decide)
      have e2 : (upM M' 8 (kPn s) v) 7 = M' 7 := upM_r (by decide)
      have e3 : (upM (upM M' 8 (kPn s) v) 9 (kPn s) v') 6 = M' 6 := by rw [upM_r (by decide), e1]
      have e4 : (upM (upM M' 8 (kPn s) v) 9 (kPn s) v') 7 = M' 7 := by rw [upM_r (by decide), e2]
      simp only [pX7_takePen, pX7_takePen_93, h.1.1.o, h.1.2.o, k1, w0, if_true, b1, Option.bind_some, if_neg nv, b2, if_neg nv', b3.1.2.o, j3, hp.1, hp.2, and_self, zlet, e1, e2, e3, e4, w1, hM4]
    · have e7 : ∀ j, j ≠ 3 → M4 7 j = M' 7 j := fun j x => by rw [← hM4, upM_i x, upM_r (by decide), upM_r (by decide)]
      have er : ∀ x, x ≠ 7 → x ≠ 8 → x ≠ 9 → M4 x = M' x := fun x y z w => by rw [← hM4, upM_r y, upM_r w, upM_r z]
      refine ⟨⟨?_, ?_, ?_, ?_, ?_⟩, fun i x y => ?_, ?_, ?_⟩
      · rw [e7 0 (by decide)]; exact j0
      · rw [e7 1 (by decide)]; exact j1
      · rw [e7 2 (by decide)]; exact j2
      · rw [← hM4, upM_s]
      · rw [e7 4 (by decide)]; exact j4
      · have y' : i < kPn s + 1 := y
        show M4 8 i = (if i = kPn s then v else kA s i) ∧ M4 9 i = (if i = kPn s then v' else kS s i)
        rw [← hM4, upM_r (show (8 : Int) ≠ 7 by decide), upM_r (show (8 : Int) ≠ 9 by decide), upM_r (show (9 : Int) ≠ 7 by decide)]
        by_cases z : i = kPn s
        · rw [if_pos z, if_pos z, z, upM_s, upM_s]; exact ⟨rfl, rfl⟩
        · rw [if_neg z, if_neg z, upM_i z, upM_i z, upM_r (by decide)]; exact j5 i x (by omega)
      · rw [er 10 (by decide) (by decide) (by decide), er 11 (by decide) (by decide) (by decide)]; exact j6
      · rw [er 12 (by decide) (by decide) (by decide)]; exact j7
theorem c_wind_ (hT : TOk T B) (h : CP S M T B q) (hk : CK M s) (hp : 0 ≤ kWn s ∧ kWn s < 12) : ((rd2 T B q 0 3 0 9).1 ≠ 0 → ∃ M', pX7_takeWind S M 6 2 = some (0, M') ∧ M' 2 5 = (rd2 T B q 0 3 0 9).1 ∧ FY M M') ∧ ((rd2 T B q 0 3 0 9).1 = 0 → ∃ M', pX7_takeWind S M 6 2 = some (1, M') ∧ CP S M' T B (rd2 T B q 0 3 0 9).2.2.2 ∧ CK M' (kSd s, kFd s, kPn s, kWn s + 1, kA s, kS s, kup (kW s) (kWn s) (rd2 T B q 0 3 0 9).2.1, kup (kG s) (kWn s) (rd2 T B q 0 3 0 9).2.2.1, kM s) ∧ FY M M') := by
  obtain ⟨a1, a2⟩ := c_num2 hT h (lo := 0) (hi := 3) (lo' := 0) (hi' := 9) (by decide) (by decide)
  refine ⟨fun u => ?_, fun u => ?_⟩
  · rcases a1 u with ⟨M', b1, b2, b3⟩ | ⟨v, M1, M', b1, b2, b3, b4, b5⟩
    · exact ⟨M', by simp only [pX7_takeWind, h.1.1.o, if_true, b1, Option.bind_some], b2, FY.c b3⟩
    · exact ⟨M', by simp only [pX7_takeWind, pX7_takeWind_39, h.1.1.o, if_true, b1, Option.bind_some, if_neg b2, b3], b4, FY.c b5⟩
  · obtain ⟨⟨r1, r2⟩, M1, M', b1, b2, b3, b4⟩ := a2 u
    generalize (rd2 T B q 0 3 0 9).2.1 = v at *
    generalize (rd2 T B q 0 3 0 9).2.2.1 = v' at *
    have nv : ¬ v = -1 := by omega
    have nv' : ¬ v' = -1 := by omega
    have w1 : w32 (kWn s + 1) = kWn s + 1 := w32_i (by omega) (by omega)
    obtain ⟨⟨j0, j1, j2, j3, j4⟩, j5, j6, j7⟩ := hk.fc b4
    generalize hM4 : upM (upM (upM M' 10 (kWn s) v) 11 (kWn s) v') 7 4 (kWn s + 1) = M4
    have c4 : CP S M4 T B (rd2 T B q 0 3 0 9).2.2.2 := by
      rw [← hM4]
      exact ((b3.u (by decide) (fun u => absurd u (by decide))).u (by decide) (fun u => absurd u (by decide))).u (by decide) (fun _ => by decide)
    have f4 : FY M' M4 := by
      rw [← hM4]
      exact ((FY.u (by decide) (fun u => absurd u (by decide))).trans (FY.u (by decide) (fun u => absurd u (by decide)))).trans (FY.u (by decide) (fun _ => by decide))
    refine ⟨M4, ?_, c4, ?_, (FY.c b4).trans f4⟩
    · have e1 : (upM M' 10 (kWn s) v) 6 = M' 6 := upM_r (by decide)
      have e2 : (upM M' 10 (kWn s) v) 7 = M' 7 := upM_r (by decide)
      have e3 : (upM (upM M' 10 (kWn s) v) 11 (kWn s) v') 6 = M' 6 := by rw [upM_r (by decide), e1]
      have e4 : (upM (upM M' 10 (kWn s) v) 11 (kWn s) v') 7 = M' 7 := by rw [upM_r (by decide), e2]
      simp only [pX7_takeWind, pX7_takeWind_86, h.1.1.o, if_true, b1, Option.bind_some, if_neg nv, b2, if_neg nv', b3.1.2.o, j4, hp.1, hp.2, and_self, zlet, e1, e2, e3, e4, w1, hM4]
    · have e7 : ∀ j, j ≠ 4 → M4 7 j = M' 7 j := fun j x => by rw [← hM4, upM_i x, upM_r (by decide), upM_r (by decide)]
      have er : ∀ x, x ≠ 7 → x ≠ 10 → x ≠ 11 → M4 x = M' x := fun x y z w => by rw [← hM4, upM_r y, upM_r w, upM_r z]
      refine ⟨⟨?_, ?_, ?_, ?_, ?_⟩, ?_, fun i x y => ?_, ?_⟩
      · rw [e7 0 (by decide)]; exact j0
      · rw [e7 1 (by decide)]; exact j1
      · rw [e7 2 (by decide)]; exact j2
      · rw [e7 3 (by decide)]; exact j3
      · rw [← hM4, upM_s]
      · rw [er 8 (by decide) (by decide) (by decide), er 9 (by decide) (by decide) (by decide)]; exact j5
      · have y' : i < kWn s + 1 := y
        show M4 10 i = (if i = kWn s then v else kW s i) ∧ M4 11 i = (if i = kWn s then v' else kG s i)
        rw [← hM4, upM_r (show (10 : Int) ≠ 7 by decide), upM_r (show (10 : Int) ≠ 11 by decide), upM_r (show (11 : Int) ≠ 7 by decide)]
        by_cases z : i = kWn s
        · rw [if_pos z, if_pos z, z, upM_s, upM_s]; exact ⟨rfl, rfl⟩
        · rw [if_neg z, if_neg z, upM_i z, upM_i z, upM_r (by decide)]; exact j6 i x (by omega)
      · rw [er 12 (by decide) (by decide) (by decide)]; exact j7
theorem c_mark_ (hT : TOk T B) (h : CP S M T B q) (hk : CK M s) (hs : 2 ≤ kSd s ∧ kSd s ≤ 6) : ((rdN T B q 0 (kSd s * kSd s - 1)).1 ≠ 0 → ∃ M', pX7_takeMark S M 6 2 = some (0, M') ∧ M' 2 5 = (rdN T B q 0 (kSd s * kSd s - 1)).1 ∧ FY M M') ∧ ((rdN T B q 0 (kSd s * kSd s - 1)).1 = 0 → ∃ M', pX7_takeMark S M 6 2 = some (1, M') ∧ CP S M' T B (rdN T B q 0 (kSd s * kSd s - 1)).2.2 ∧ CK M' (kSd s, kFd s, kPn s, kWn s, kA s, kS s, kW s, kG s, kup (kM s) (rdN T B q 0 (kSd s * kSd s - 1)).2.1 1) ∧ FY M M') := by
  have sqb : 0 ≤ kSd s * kSd s ∧ kSd s * kSd s ≤ 36 := by
    have : kSd s = 2 ∨ kSd s = 3 ∨ kSd s = 4 ∨ kSd s = 5 ∨ kSd s = 6 := by omega
    rcases this with u | u | u | u | u <;> rw [u] <;> decide
  have w0 : w32 (kSd s * kSd s - 1) = kSd s * kSd s - 1 := w32_i (by omega) (by omega)
  have k1 := hk.1.2.1
  obtain ⟨a1, a2⟩ := c_number hT h (lo := 0) (hi := kSd s * kSd s - 1) (by decide)
  refine ⟨fun u => ?_, fun u => ?_⟩
  · obtain ⟨M', b1, b2, b3⟩ := a1 u
    exact ⟨M', by simp only [pX7_takeMark, h.1.1.o, h.1.2.o, k1, w0, if_true, b1, Option.bind_some], b2, FY.c b3⟩
  · obtain ⟨r1, M', b1, b3, b4⟩ := a2 u
    generalize (rdN T B q 0 (kSd s * kSd s - 1)).2.1 = v at *
    have nv : ¬ v = -1 := by omega
    obtain ⟨⟨j0, j1, j2, j3, j4⟩, j5, j6, j7⟩ := hk.fc b4
    have er : ∀ x, x ≠ 12 → upM M' 12 v 1 x = M' x := fun x y => upM_r y
    refine ⟨upM M' 12 v 1, ?_, b3.u (by decide) (fun u => absurd u (by decide)), ⟨?_, ?_, ?_, fun c x y => ?_⟩, (FY.c b4).trans (FY.u (by decide) (fun u => absurd u (by decide)))⟩
    · simp only [pX7_takeMark, h.1.1.o, h.1.2.o, k1, w0, if_true, b1, Option.bind_some, if_neg nv, b3.1.2.o, r1.1, show v < 36 by omega, and_self, zlet]
    · rw [er 7 (by decide)]; exact ⟨j0, j1, j2, j3, j4⟩
    · rw [er 8 (by decide), er 9 (by decide)]; exact j5
    · rw [er 10 (by decide), er 11 (by decide)]; exact j6
    · show upM M' 12 v 1 12 c = (if c = v then 1 else kM s c)
      by_cases z : c = v
      · rw [if_pos z, z, upM_s]
      · rw [if_neg z, upM_i z]; exact j7 c x y
end
