/-! THE CLASS: strokes are left -/
def wAtB (w : Int) (p : Int → Int) (c i : Int) : Bool := decide (zand (zshr w i) 1 = 1 ∧ p i = c)
theorem w32k {k : Nat} (h : k < 100) : w32 ((k : Int) + 1) = (k : Int) + 1 := w32_i (by omega) (by omega)
section
variable {S : ZS} {t : Td} {a b d : Int}
theorem c_writersAt_6 {M : ZM} (ho : TdOk t) (hSC : ShC S b) (hT : TT S M a t) (hP : PtC M b) {w c : Int} {p : Int → Int} (hp : ∀ i, 0 ≤ i → i < tPn t → M (b + 1) i = p i) : ∀ (k fuel : Nat) (q acc : Int), q + k = tPn t → 0 ≤ q → in32 acc → k < fuel →
    pX0_writersAt_6 S fuel M a b w c acc q = some (setF (wAtB w p c) k q acc, M) := by
  have hpb := ho.2.2.1
  have hpn := hT.2.2.2.2.2.1
  intro k
  induction k with
  | zero =>
    intro fuel q acc h1 h2 h3 h4
    obtain ⟨f, rfl⟩ : ∃ f, fuel = f + 1 := ⟨fuel - 1, by omega⟩
    simp [pX0_writersAt_6, hT.1, hpn, show tPn t ≤ q by omega, setF]
  | succ k ih =>
    intro fuel q acc h1 h2 h3 h4
    obtain ⟨f, rfl⟩ : ∃ f, fuel = f + 1 := ⟨fuel - 1, by omega⟩
    have ew : w32 (q + 1) = q + 1 := w32_i (by omega) (by omega)
    have g1 : (0 : Int) ≤ q ∧ q < 5 := by omega
    have g2 : ¬ tPn t ≤ q := by omega
    have e1 := hp q h2 (by omega)
    have i0 := ih f (q + 1) acc (by omega) (by omega) h3 (by omega)
    have i1 := ih f (q + 1) (zor acc (zshl 1 q)) (by omega) (by omega) (zor_in _ _) (by omega)
    rw [pX0_writersAt_6]
    by_cases c1 : zand (zshr w q) 1 = 1
    · by_cases c2 : p q = c
      · simp [hT.1, hpn, g2, c1, hSC, hP, g1, e1, c2, pX0_writersAt_45, pX0_writersAt, ew, i1, setF, wAtB]
      · simp [hT.1, hpn, g2, c1, hSC, hP, g1, e1, c2, pX0_writersAt_45, pX0_writersAt, ew, i0, setF, wAtB, zor_0 h3]
    · simp [hT.1, hpn, g2, c1, pX0_writersAt_45, pX0_writersAt, ew, i0, setF, wAtB, zor_0 h3]
theorem c_writersAt {M : ZM} (ho : TdOk t) (hSC : ShC S b) (hT : TT S M a t) (hP : PtC M b) {w c : Int} {p : Int → Int} (hp : ∀ i, 0 ≤ i → i < tPn t → M (b + 1) i = p i) :
    pX0_writersAt S M a b w c = some (setF (wAtB w p c) (tPn t).toNat 0 0, M) := by
  have hpb := ho.2.2.1
  exact c_writersAt_6 ho hSC hT hP hp (tPn t).toNat zFU 0 0 (by omega) (by omega) (by unfold in32; omega) (zFU_gt (by omega))
theorem nAt_dec (w : Int) (p : Int → Int) (c : Int) (k : Nat) (q : Int) : cnt (fun i => wAtB w p c i = true) k q = nAt w p c k q := by
  unfold nAt
  exact cnt_congr k q (fun i _ _ => by simp [wAtB])
theorem c_leave_3 (ho : TdOk t) (hsep : Sep a b d) (hSC : ShC S b) {w dy C : Int} {p W D : Int → Int} {M0 : ZM} (hpb : ∀ i, 0 ≤ i → i < tPn t → 0 ≤ p i ∧ p i < tSd t * tSd t) (hC : 0 ≤ C ∧ C ≤ 1000000000) : ∀ (r fuel k : Nat) (M : ZM), k + r = (tPn t).toNat → r < fuel → TT S M a t → PtC M b → (∀ i, 0 ≤ i → i < tPn t → M (b + 1) i = p i) → M b 5 = dy →
    (∀ c, 0 ≤ c → c < tSd t * tSd t → M (b + 3) c = whoP w p (tPn t).toNat k W c ∧ (whoP w p (tPn t).toNat k W c ≠ -1 → M (b + 4) c = sinP w p k D dy c)) → (∀ c, tSd t * tSd t ≤ c → M (b + 3) c = M0 (b + 3) c) → M b 6 = C + clapP w p (tPn t).toNat k (nCl t) → (∀ x, x ≠ b → x ≠ b + 3 → x ≠ b + 4 → M x = M0 x) → (∀ j, j ≠ 6 → M b j = M0 b j) →
    ∃ M', pX0_leaveStrokes_3 S fuel M a b w k = some M' ∧ (∀ c, 0 ≤ c → c < tSd t * tSd t → M' (b + 3) c = who1 w p (tPn t).toNat W c ∧ (who1 w p (tPn t).toNat W c ≠ -1 → M' (b + 4) c = sin1 w p (tPn t).toNat D dy c)) ∧ (∀ c, tSd t * tSd t ≤ c → M' (b + 3) c = M0 (b + 3) c) ∧ M' b 6 = C + clapN w p (tPn t).toNat (nCl t) 0 ∧ (∀ x, x ≠ b → x ≠ b + 3 → x ≠ b + 4 → M' x = M0 x) ∧ (∀ j, j ≠ 6 → M' b j = M0 b j) := by
  have hpn5 := ho.2.2.1
  have hb := sq_b ho.1
  have hn := nCl_b ho
  unfold Sep at hsep
  intro r
  induction r with
  | zero =>
    intro fuel k M h1 h2 hT hP hp h5 hW hX h6 hF hj
    obtain ⟨f, rfl⟩ : ∃ f, fuel = f + 1 := ⟨fuel - 1, by omega⟩
    have hpn := hT.2.2.2.2.2.1
    have hk : k = (tPn t).toNat := by omega
    subst hk
    refine ⟨M, ?_, fun c x y => ?_, hX, ?_, hF, hj⟩
    · rw [Int.toNat_of_nonneg hpn5.1, pX0_leaveStrokes_3]
      simp [hT.1, hpn]
    · obtain ⟨e1, e2⟩ := hW c x y
      have ew : whoP w p (tPn t).toNat (tPn t).toNat W c = who1 w p (tPn t).toNat W c := rfl
      rw [ew] at e1 e2
      refine ⟨e1, fun z => ?_⟩
      rw [e2 z]
      unfold sinP sin1
      unfold who1 at z
      split
      · rfl
      · rename_i z0
        rw [if_neg z0] at z
        by_cases z1 : nAt w p c (tPn t).toNat 0 = 1
        · rw [if_pos z1]
        · rw [if_neg z1] at z; exact absurd rfl z
    · rw [h6, clapN_cnt]
      unfold clapP
      rw [cnt_congr (nCl t) 0 (fun i _ _ => ⟨fun z => z.1, fun z => ⟨z, by omega⟩⟩)]
  | succ r ih =>
    intro fuel k M h1 h2 hT hP hp h5 hW hX h6 hF hj
    obtain ⟨f, rfl⟩ : ∃ f, fuel = f + 1 := ⟨fuel - 1, by omega⟩
    have hpn := hT.2.2.2.2.2.1
    have hk5 : k < 100 := by omega
    have g1 : (0 : Int) ≤ k ∧ (k : Int) < 5 := by omega
    have g2 : ¬ tPn t ≤ (k : Int) := by omega
    by_cases c1 : zand (zshr w k) 1 = 1
    · have hx := hpb k (by omega) (by omega)
      have ep := hp k (by omega) (by omega)
      generalize hxe : p k = x at hx ep
      have hx36 : 0 ≤ x ∧ x < 36 := by omega
      have hPk : wAtB w p x (k : Int) = true := by simp [wAtB, c1, hxe]
      have hs2 := set_2 (wAtB w p x) (n := (tPn t).toNat) (by omega) (q := k) (by omega) (by omega) hPk
      have hs3 := set_3 (wAtB w p x) (n := (tPn t).toNat) (by omega) (q := k) (by omega) (by omega) hPk
      rw [nAt_dec] at hs2 hs3
      rw [show ((k : Int)).toNat = k by omega] at hs3
      have hwa := c_writersAt ho hSC hT hP (w := w) (c := x) hp
      have hsx : nAt w p x (k + 1) 0 = nAt w p x k 0 + 1 := by rw [nAt_snoc, if_pos ⟨c1, hxe⟩]
      have hsn : ∀ c, c ≠ x → nAt w p c (k + 1) 0 = nAt w p c k 0 := fun c z => by rw [nAt_snoc, if_neg (fun y => z (y.2.symm.trans hxe))]; omega
      have hln : ∀ c, c ≠ x → lastAt w p c (k + 1) 0 (-1) = lastAt w p c k 0 (-1) := fun c z => by rw [lastAt_snoc, Int.zero_add, if_neg (fun y => z (y.2.symm.trans hxe))]
      have hlx : lastAt w p x (k + 1) 0 (-1) = k := by rw [lastAt_snoc, Int.zero_add, if_pos ⟨c1, hxe⟩]
      have hle := nAt_le w p x (k + 1) r
      rw [show k + 1 + r = (tPn t).toNat by omega] at hle
      have hb0 := nAt_b w p x k 0
      have hwn : ∀ c, c ≠ x → whoP w p (tPn t).toNat (k + 1) W c = whoP w p (tPn t).toNat k W c := fun c z => by unfold whoP; rw [hsn c z, hln c z]
      have hdn : ∀ c, c ≠ x → sinP w p (k + 1) D dy c = sinP w p k D dy c := fun c z => by unfold sinP; rw [hsn c z]
      by_cases c2 : nAt w p x (tPn t).toNat 0 = 1
      · -- alone
        have hwx : whoP w p (tPn t).toNat (k + 1) W x = k := by unfold whoP; rw [if_neg (by omega), if_pos c2, hlx]
        have hdx : sinP w p (k + 1) D dy x = dy := by unfold sinP; rw [if_neg (by omega)]
        have e0 : pX0_leaveStrokes_3 S (f + 1) M a b w k = pX0_leaveStrokes_3 S f (upM (upM M (b + 3) x k) (b + 4) x dy) a b w ((k + 1 : Nat) : Int) := by
          rw [pX0_leaveStrokes_3]
          simp [hT.1, hpn, g2, c1, hSC, hP, g1, ep, hwa, hs2.mpr c2, hx36, zlet, upM_r (show b ≠ b + 3 by omega), h5, pX0_leaveStrokes_103, pX0_leaveStrokes, w32k hk5]
        rw [e0]
        refine ih f (k + 1) _ (by omega) (by omega) (hT.eq (fun y _ _ => by rw [upM_r (by omega), upM_r (by omega)])) (by unfold PtC; rw [upM_r (by omega), upM_r (by omega)]; exact hP) (fun i u v => by rw [upM_r (by omega), upM_r (by omega)]; exact hp i u v) (by rw [upM_r (by omega), upM_r (by omega)]; exact h5) (fun c u v => ?_) (fun c u => by rw [upM_r (by omega), upM_i (by omega)]; exact hX c u) ?_ (fun y u v z => by rw [upM_r z, upM_r v]; exact hF y u v z) (fun j u => by rw [upM_r (by omega), upM_r (by omega)]; exact hj j u)
        · by_cases z : c = x
          · subst z
            rw [hwx, hdx, upM_r (by omega), upM_s, upM_s]; exact ⟨rfl, fun _ => rfl⟩
          · rw [hwn c z, hdn c z, upM_r (by omega), upM_i z, upM_i z, upM_r (by omega)]
            exact hW c u v
        · rw [upM_r (by omega), upM_r (by omega), h6]
          unfold clapP
          congr 1
          refine cnt_congr (nCl t) 0 (fun i _ _ => ?_)
          by_cases z : i = x
          · subst z; constructor <;> (intro z; omega)
          · rw [hsn i z]
      · -- a clap
        have hn1 : ¬ setF (wAtB w p x) (tPn t).toNat 0 0 = zshl 1 k := fun z => c2 (hs2.mp z)
        have hwx : whoP w p (tPn t).toNat (k + 1) W x = -1 := by unfold whoP; rw [if_neg (by omega), if_neg c2]
        by_cases c3 : nAt w p x k 0 = 0
        · have hcl : clapP w p (tPn t).toNat (k + 1) (nCl t) = clapP w p (tPn t).toNat k (nCl t) + 1 := by
            unfold clapP
            rw [cnt_flip (x := x) (f := fun c => 1 < nAt w p c (tPn t).toNat 0 ∧ 0 < nAt w p c k 0) (g := fun c => 1 < nAt w p c (tPn t).toNat 0 ∧ 0 < nAt w p c (k + 1) 0) (by omega) (by omega) (fun i z => by rw [hsn i z]), if_pos (by omega)]
          have hcb := cnt_b (fun c => 1 < nAt w p c (tPn t).toNat 0 ∧ 0 < nAt w p c k 0) (nCl t) 0
          have hw6 : w32 (M b 6 + 1) = M b 6 + 1 := by
            have : M b 6 = C + cnt (fun c => 1 < nAt w p c (tPn t).toNat 0 ∧ 0 < nAt w p c k 0) (nCl t) 0 := h6
            exact w32_i (by omega) (by omega)
          have e0 : pX0_leaveStrokes_3 S (f + 1) M a b w k = pX0_leaveStrokes_3 S f (upM (upM M (b + 3) x (-1)) b 6 (M b 6 + 1)) a b w ((k + 1 : Nat) : Int) := by
            rw [pX0_leaveStrokes_3]
            simp [hT.1, hpn, g2, c1, hSC, hP, g1, ep, hwa, hn1, hs3.mpr c3, hx36, zlet, upM_r (show b ≠ b + 3 by omega), hw6, pX0_leaveStrokes_103, pX0_leaveStrokes, w32k hk5]
          rw [e0]
          refine ih f (k + 1) _ (by omega) (by omega) ?_ ?_ (fun i u v => by rw [upM_r (by omega), upM_r (by omega)]; exact hp i u v) (by rw [upM_i (by omega), upM_r (by omega)]; exact h5) (fun c u v => ?_) (fun c u => by rw [upM_r (by omega), upM_i (by omega)]; exact hX c u) ?_ (fun y u v z => by rw [upM_r u, upM_r v]; exact hF y u v z) (fun j u => by rw [upM_i u, upM_r (by omega)]; exact hj j u)
          · exact hT.eq (fun y _ _ => by rw [upM_r (by omega), upM_r (by omega)])
          · unfold PtC; rw [upM_i (by omega), upM_i (by omega), upM_i (by omega), upM_i (by omega), upM_r (by omega)]; exact hP
          · by_cases z : c = x
            · subst z
              rw [hwx, upM_r (by omega), upM_s]; exact ⟨rfl, fun z => absurd rfl z⟩
            · rw [hwn c z, hdn c z, upM_r (by omega), upM_i z, upM_r (by omega), upM_r (by omega)]
              exact hW c u v
          · rw [upM_s, h6, hcl]; omega
        · have hcl : clapP w p (tPn t).toNat (k + 1) (nCl t) = clapP w p (tPn t).toNat k (nCl t) := by
            unfold clapP
            exact cnt_congr (nCl t) 0 (fun i _ _ => by
              by_cases z : i = x
              · subst z; constructor <;> (intro z; omega)
              · rw [hsn i z])
          have e0 : pX0_leaveStrokes_3 S (f + 1) M a b w k = pX0_leaveStrokes_3 S f (upM M (b + 3) x (-1)) a b w ((k + 1 : Nat) : Int) := by
            rw [pX0_leaveStrokes_3]
            have hs3' : ¬ zand (setF (wAtB w p x) (tPn t).toNat 0 0) (w32 (zshl 1 k - 1)) = 0 := fun z => c3 (hs3.mp z)
            simp [hT.1, hpn, g2, c1, hSC, hP, g1, ep, hwa, hn1, hs3', hx36, zlet, pX0_leaveStrokes_103, pX0_leaveStrokes, w32k hk5]
          rw [e0]
          refine ih f (k + 1) _ (by omega) (by omega) (hT.eq (fun y _ _ => by rw [upM_r (by omega)])) (by unfold PtC; rw [upM_r (by omega)]; exact hP) (fun i u v => by rw [upM_r (by omega)]; exact hp i u v) (by rw [upM_r (by omega)]; exact h5) (fun c u v => ?_) (fun c u => by rw [upM_i (by omega)]; exact hX c u) (by rw [upM_r (by omega), h6, hcl]) (fun y u v z => by rw [upM_r v]; exact hF y u v z) (fun j u => by rw [upM_r (by omega)]; exact hj j u)
          by_cases z : c = x
          · subst z
            rw [hwx, upM_s]; exact ⟨rfl, fun z => absurd rfl z⟩
          · rw [hwn c z, hdn c z, upM_i z, upM_r (by omega)]
            exact hW c u v
    · have hsn : ∀ c, nAt w p c (k + 1) 0 = nAt w p c k 0 := fun c => by rw [nAt_snoc, if_neg (fun y => c1 y.1)]; omega
      have hln : ∀ c, lastAt w p c (k + 1) 0 (-1) = lastAt w p c k 0 (-1) := fun c => by rw [lastAt_snoc, Int.zero_add, if_neg (fun y => c1 y.1)]
      have e0 : pX0_leaveStrokes_3 S (f + 1) M a b w k = pX0_leaveStrokes_3 S f M a b w ((k + 1 : Nat) : Int) := by
        rw [pX0_leaveStrokes_3]
        simp [hT.1, hpn, g2, c1, pX0_leaveStrokes_103, pX0_leaveStrokes, w32k hk5]
      rw [e0]
      refine ih f (k + 1) M (by omega) (by omega) hT hP hp h5 (fun c u v => ?_) hX ?_ hF hj
      · unfold whoP sinP; rw [hsn c, hln c]; exact hW c u v
      · rw [h6]
        unfold clapP
        congr 1
        exact cnt_congr (nCl t) 0 (fun i _ _ => by rw [hsn i])
end
