/-! THE LAW'S LOOP AND ITS START -/
def lawGoes (xs : Int → Int) (L x1 x2 : Int) : Nat → ZS → ZM → Int → Prop
  | 0, _, _, _ => False
  | n + 1, S, M, i => L < i + 6 ∨ ∃ q : ZS × ZM, lawT xs S M x1 x2 i = some q ∧ lawGoes xs L x1 x2 n q.1 q.2 (i + 6)
def S0 : ZS := (fun _ => -1, fun _ => 0, 0)
def M0 : ZM := fun _ _ => 0
/-- the two objects are made, and every turn of the law goes on -/
def lawAll (xs : Int → Int) (L : Int) : Prop := ∃ q0 q1 : ZS × ZM, pX11_init (zNewS S0 11 0) (zNewM S0 M0) 1 = some q0 ∧ (0 ≤ q0.1.2.2 ∧ q0.1.2.2 < 2000000000) ∧ pX12_init (zNewS q0.1 12 0) (zNewM q0.1 q0.2) (q0.1.2.2 + 1) = some q1 ∧ lawGoes xs L 1 (q0.1.2.2 + 1) 514 q1.1 q1.2 0
theorem si_13_9 : zSI 13 9 yX11_init cX11_init 1 0 := ⟨⟨gt_at 128 (by decide +kernel) rfl, gt_at 129 (by decide +kernel) rfl, gt_at 105 (by decide +kernel) rfl, gt_at 130 (by decide +kernel) rfl, rfl⟩, by decide +kernel, by decide +kernel, by decide +kernel⟩
theorem si_13_12 : zSI 13 12 yX12_init cX12_init 1 0 := ⟨⟨gt_at 1124 (by decide +kernel) rfl, gt_at 1125 (by decide +kernel) rfl, gt_at 117 (by decide +kernel) rfl, gt_at 1126 (by decide +kernel) rfl, rfl⟩, by decide +kernel, by decide +kernel, by decide +kernel⟩
theorem sc_13_7 : zSC 13 7 11 := ⟨by decide, gt_at 126 (by decide +kernel) rfl, gt_at 127 (by decide +kernel) rfl, gt_at 105 (by decide +kernel) rfl⟩
theorem sc_13_10 : zSC 13 10 12 := ⟨by decide, gt_at 1122 (by decide +kernel) rfl, gt_at 1123 (by decide +kernel) rfl, gt_at 117 (by decide +kernel) rfl⟩
section
variable {C : ZC} {E : ZE} {b x1 x2 L : Int} {xs : Int → Int} {Q : State → Prop}
theorem law_loop (hX : zCx C E 13 code 4 ret false) (hRm : czR C = room_1) (hsc : zScr C E b L xs) (hL : 0 ≤ L ∧ L ≤ 3072) (hend : ∀ (S : ZS) (M : ZM) (i : Int) (ce sl : Nat), ce ≤ 600000 → sl ≤ 7302249 → zG C E 4 S ce sl Q 1159 [some (5, b), some (2, x1), some (2, x2), some (0, i)] [(0, 1)] M) :
    ∀ (n : Nat) (S : ZS) (M : ZM) (i : Int) (ce sl : Nat), 0 ≤ i ∧ i ≤ 4000 → ce + 120 * n ≤ 599000 ∧ sl + 2100 * n ≤ 7300000 → lawGoes xs L x1 x2 n S M i → zG C E 4 S ce sl Q 18 [some (5, b), some (2, x1), some (2, x2), some (0, i)] [] M := by
  intro n
  induction n with
  | zero => intro S M i ce sl _ _ h; exact h.elim
  | succ n ih =>
    intro S M i ce sl hi hce h
    refine zG.blk (pc' := 20) (l' := [some (5, b), some (2, x1), some (2, x2), some (0, i)]) (st' := [(5, b), (0, i)]) (M' := M) hX [(.iload_n 3, 0, 0, 0), (.aload_n 0, 0, 0, 0)] (by decide +kernel) rfl trivial ?_
    refine zG.sll hX hsc hL.2 (by decide +kernel) ?_
    refine zG.blk (pc' := 24) (l' := [some (5, b), some (2, x1), some (2, x2), some (0, i)]) (st' := [(0, w32 (L - 6)), (0, i)]) (M' := M) hX [(.bipush 6, 0, 0, 0), (.isub, 0, 0, 0)] (by decide +kernel) rfl trivial ?_
    rw [w32_id (x := L - 6) (by unfold in32; omega)]
    refine zG.icmp_gt (tgt := 1158) (off := 1134) hX (by decide +kernel) (by decide) (fun c => ?_) (fun c => ?_)
    · refine zG.blk (pc' := 1159) (l' := [some (5, b), some (2, x1), some (2, x2), some (0, i)]) (st' := [(0, 1)]) (M' := M) hX [(.iconst 1, 0, 0, 0)] (by decide +kernel) rfl trivial ?_
      exact hend S M i ce sl (by omega) (by omega)
    · rcases h with h | ⟨q, hq, h⟩
      · omega
      refine lawT_ok hX hRm hsc (by omega) hL.2 ⟨by omega, by omega⟩ hq ?_
      refine zG.blk (pc' := 1155) (l' := [some (5, b), some (2, x1), some (2, x2), some (0, w32 (i + 6))]) (st' := []) (M' := q.2) hX [(.iinc 3 6, 0, 0, 0)] (by decide +kernel) rfl trivial ?_
      refine zG.goto (tgt := 18) (off := (-1137)) hX (by decide +kernel) (by decide) ?_
      rw [w32_id (x := i + 6) (by unfold in32; omega)]
      exact ih q.1 q.2 (i + 6) _ _ (by omega) ⟨by omega, by omega⟩ h
theorem law_start (hX : zCx C E 13 code 4 ret false) (hRm : czR C = room_1) (hsc : zScr C E b L xs) (hL : 0 ≤ L ∧ L ≤ 3072) (hend : ∀ (x1 x2 : Int) (S : ZS) (M : ZM) (i : Int) (ce sl : Nat), ce ≤ 600000 → sl ≤ 7302249 → zG C E 4 S ce sl Q 1159 [some (5, b), some (2, x1), some (2, x2), some (0, i)] [(0, 1)] M) (h : lawAll xs L) : zG C E 4 S0 0 0 Q 0 [some (5, b), none, none, none] [] M0 := by
  obtain ⟨q0, q1, h0, hs, h1, h2⟩ := h
  refine zG.new (ci := 11) hX sc_13_7 (by decide +kernel) (by decide) (by rw [hRm]; exact ⟨Nat.le_of_ble_eq_true rfl, Nat.le_of_ble_eq_true rfl⟩) ?_
  show zG C E 4 (zNewS S0 11 0) 1 11 Q 3 [some (5, b), none, none, none] [(2, 1)] (zNewM S0 M0)
  refine zG.blk (pc' := 4) (l' := [some (5, b), none, none, none]) (st' := [(2, 1), (2, 1)]) (M' := zNewM S0 M0) hX [(.dup, 0, 0, 0)] (by decide +kernel) rfl trivial ?_
  refine zG.callI (b := 1) (av := []) (st := [(2, 1)]) hX (pX11_init_ok h0) si_13_9 rfl (by decide) (by decide +kernel) (by rw [hRm]; exact ⟨Nat.le_of_ble_eq_true rfl, Nat.le_of_ble_eq_true rfl⟩) (by rw [hRm]; exact ⟨Nat.le_of_ble_eq_true rfl, Nat.le_of_ble_eq_true rfl⟩) (Nat.le_of_ble_eq_true rfl) ?_
  show zG C E 4 q0.1 175 4541 Q 7 [some (5, b), none, none, none] [(2, 1)] q0.2
  refine zG.blk (pc' := 8) (l' := [some (5, b), some (2, 1), none, none]) (st' := []) (M' := q0.2) hX [(.astore_n 1, 0, 0, 0)] (by decide +kernel) rfl trivial ?_
  refine zG.new (ci := 12) hX sc_13_10 (by decide +kernel) hs.2 (by rw [hRm]; exact ⟨Nat.le_of_ble_eq_true rfl, Nat.le_of_ble_eq_true rfl⟩) ?_
  show zG C E 4 (zNewS q0.1 12 0) 176 4595 Q 11 [some (5, b), some (2, 1), none, none] [(2, q0.1.2.2 + 1)] (zNewM q0.1 q0.2)
  refine zG.blk (pc' := 12) (l' := [some (5, b), some (2, 1), none, none]) (st' := [(2, q0.1.2.2 + 1), (2, q0.1.2.2 + 1)]) (M' := zNewM q0.1 q0.2) hX [(.dup, 0, 0, 0)] (by decide +kernel) rfl trivial ?_
  refine zG.callI (b := q0.1.2.2 + 1) (av := []) (st := [(2, q0.1.2.2 + 1)]) hX (pX12_init_ok h1) si_13_12 rfl (by have := hs.1; omega) (by decide +kernel) (by rw [hRm]; exact ⟨Nat.le_of_ble_eq_true rfl, Nat.le_of_ble_eq_true rfl⟩) (by rw [hRm]; exact ⟨Nat.le_of_ble_eq_true rfl, Nat.le_of_ble_eq_true rfl⟩) (Nat.le_of_ble_eq_true rfl) ?_
  show zG C E 4 q1.1 214 24607 Q 15 [some (5, b), some (2, 1), none, none] [(2, q0.1.2.2 + 1)] q1.2
  refine zG.blk (pc' := 18) (l' := [some (5, b), some (2, 1), some (2, q0.1.2.2 + 1), some (0, 0)]) (st' := []) (M' := q1.2) hX [(.astore_n 2, 0, 0, 0), (.iconst 0, 0, 0, 0), (.istore_n 3, 0, 0, 0)] (by decide +kernel) rfl trivial ?_
  exact law_loop hX hRm hsc hL (hend _ _) 514 q1.1 q1.2 0 _ _ (by omega) ⟨by decide, by decide⟩ h2
end
