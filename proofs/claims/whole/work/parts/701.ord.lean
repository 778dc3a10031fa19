/-! ALL CALLS: the ordinary ones -/
section
variable {S : ZS} {M : ZM} {nR : Int} {rl : Int → Ru} {cl : Int → List Cl} {im : Int → Option Wd} {w : Wd} {T : Int} {B : Int → Int} {xs : Int → Int} {i : Int}
theorem In1.s1 (h : In1 S M nR rl cl im w T B) : S.1 1 = 11 := by
  simp [h.2.1.1.1.1.o]
theorem In1.s2 (h : In1 S M nR rl cl im w T B) : S.1 176 = 12 := by
  simp [h.2.2.1.1.o]
theorem g_force (hxs : ∀ i, in32 (xs i)) (h : In1 S M nR rl cl im w T B) : LGo S (lawC4 xs S M 1 176 i) := by
  simp only [lawC4, h.s1, h.s2, if_true]
  exact op_ok h (y := fun M' => pX12_force S M' 176 (xs (i + 1))) (k_force h.cg) (fun M' hM hT => e_force hM (hxs _))
theorem g_pen (h : In1 S M nR rl cl im w T B) : LGo S (lawC5 xs S M 1 176 i) := by
  simp only [lawC5, h.s1, h.s2, if_true]
  exact op_ok h (y := fun M' => pX12_pen S M' 176 (xs (i + 1)) (xs (i + 2))) (k_pen h.cg) (fun M' hM hT => e_pen hM)
theorem g_cell (h : In1 S M nR rl cl im w T B) : LGo S (lawC6 xs S M 1 176 i) := by
  simp only [lawC6, h.s1, h.s2, if_true]
  exact op_ok h (y := fun M' => pX12_cell S M' 176 (xs (i + 1)) (xs (i + 2))) (k_cell h.cg) (fun M' hM hT => e_cell hM)
theorem g_day (h : In1 S M nR rl cl im w T B) : LGo S (lawC7 xs S M 1 176 i) := by
  simp only [lawC7, h.s1, h.s2, if_true]
  exact op_ok h (y := fun M' => pX12_day S M' 176) (k_day h.cg) (fun M' hM hT => e_day hM)
theorem g_stay (h : In1 S M nR rl cl im w T B) : LGo S (lawC8 xs S M 1 176 i) := by
  simp only [lawC8, h.s1, h.s2, if_true]
  exact op_ok h (y := fun M' => pX12_stay S M' 176 (xs (i + 1))) (k_stay h.cg) (fun M' hM hT => e_stay hM)
theorem g_set (h : In1 S M nR rl cl im w T B) : LGo S (lawC9 xs S M 1 176 i) := by
  simp only [lawC9, h.s1, h.s2, if_true]
  exact op_ok h (y := fun M' => pX12_set S M' 176 (xs (i + 1)) (xs (i + 2))) (k_set h.cg) (fun M' hM hT => e_set hM)
theorem g_bend (h : In1 S M nR rl cl im w T B) : LGo S (lawC10 xs S M 1 176 i) := by
  simp only [lawC10, h.s1, h.s2, if_true]
  exact op_ok h (y := fun M' => pX12_bend S M' 176 (xs (i + 1)) (xs (i + 2))) (k_bend h.cg) (fun M' hM hT => e_bend hM)
theorem g_blot (h : In1 S M nR rl cl im w T B) : LGo S (lawC11 xs S M 1 176 i) := by
  simp only [lawC11, h.s1, h.s2, if_true]
  exact op_ok h (y := fun M' => pX12_blot S M' 176 (xs (i + 1))) (k_blot h.cg) (fun M' hM hT => e_blot hM)
theorem g_undo (h : In1 S M nR rl cl im w T B) : LGo S (lawC12 xs S M 1 176 i) := by
  simp only [lawC12, h.s1, h.s2, if_true]
  exact op_ok h (y := fun M' => pX12_undo S M' 176) (k_undo h.cg) (fun M' hM hT => e_undo hM)
theorem g_ahead (h : In1 S M nR rl cl im w T B) : LGo S (lawC13 xs S M 1 176 i) := by
  simp only [lawC13, h.s1, h.s2, if_true]
  exact op_ok h (y := fun M' => pX12_ahead S M' 176 (xs (i + 1)) (xs (i + 2)) (xs (i + 3))) (h.cg.ask (c_ahead h.cg.cq)) (fun M' hM hT => hM.ask (r_ahead hM.qg))
theorem g_sign (h : In1 S M nR rl cl im w T B) : LGo S (lawC14 xs S M 1 176 i) := by
  simp only [lawC14, h.s1, h.s2, if_true]
  exact op_ok h (y := fun M' => pX12_sign S M' 176) (h.cg.ask (c_sign h.cg.cq)) (fun M' hM hT => hM.ask (r_sign hM.qg))
theorem g_clean (h : In1 S M nR rl cl im w T B) : LGo S (lawC15 xs S M 1 176 i) := by
  simp only [lawC15, h.s1, h.s2, if_true]
  exact op_ok h (y := fun M' => pX12_clean S M' 176) (h.cg.ask (c_clean h.cg.cq)) (fun M' hM hT => hM.ask (r_clean hM.qg))
theorem g_hold (h : In1 S M nR rl cl im w T B) : LGo S (lawC16 xs S M 1 176 i) := by
  simp only [lawC16, h.s1, h.s2, if_true]
  exact op_ok h (y := fun M' => pX12_hold S M' 176 (xs (i + 1)) (xs (i + 2))) (h.cg.ask (c_hold h.cg.cq)) (fun M' hM hT => hM.ask (r_hold hM.qg))
theorem g_wrote (h : In1 S M nR rl cl im w T B) : LGo S (lawC17 xs S M 1 176 i) := by
  simp only [lawC17, h.s1, h.s2, if_true]
  exact op_ok h (y := fun M' => pX12_wrote S M' 176 (xs (i + 1)) (xs (i + 2))) (h.cg.ask (c_wrote h.cg.cq h.1.1.2.2.1.2.2.1)) (fun M' hM hT => hM.ask (r_wrote hM.qg))
theorem g_came (h : In1 S M nR rl cl im w T B) : LGo S (lawC18 xs S M 1 176 i) := by
  simp only [lawC18, h.s1, h.s2, if_true]
  exact op_ok h (y := fun M' => pX12_came S M' 176 (xs (i + 1)) (xs (i + 2)) (xs (i + 3)) (xs (i + 4))) (h.cg.ask (c_came h.cg.cq)) (fun M' hM hT => hM.ask (r_came hM.qg))
theorem g_change (h : In1 S M nR rl cl im w T B) : LGo S (lawC19 xs S M 1 176 i) := by
  simp only [lawC19, h.s1, h.s2, if_true]
  exact op_ok h (y := fun M' => pX12_change S M' 176 (xs (i + 1)) (xs (i + 2))) (h.cg.ask (c_change h.cg.cq)) (fun M' hM hT => hM.ask (r_change hM.qg))
theorem g_game (h : In1 S M nR rl cl im w T B) : LGo S (lawC20 xs S M 1 176 i) := by
  simp only [lawC20, h.s1, h.s2, if_true]
  exact op_ok h (y := fun M' => pX12_game S M' 176 (xs (i + 1)) (xs (i + 2)) (xs (i + 3)) (xs (i + 4))) (h.cg.ask (c_game h.cg.cq h.1.1.2.2.1.2.1)) (fun M' hM hT => hM.ask (r_game hM.1 hM.rs hM.2.2.2.2.1 hM.2.2.2.2.2.2.1.go))
theorem g_rests (h : In1 S M nR rl cl im w T B) : LGo S (lawC21 xs S M 1 176 i) := by
  simp only [lawC21, h.s1, h.s2, if_true]
  exact op_ok h (y := fun M' => pX12_rests S M' 176 (xs (i + 1)) (xs (i + 2)) (xs (i + 3)) (xs (i + 4))) (h.cg.ask (c_rests h.cg.cq)) (fun M' hM hT => hM.ask (r_rests hM.qg))
theorem g_pence (h : In1 S M nR rl cl im w T B) : LGo S (lawC22 xs S M 1 176 i) := by
  simp only [lawC22, h.s1, h.s2, if_true]
  exact op_ok h (y := fun M' => pX12_pence S M' 176 (xs (i + 1)) (xs (i + 2))) (⟨M, c_pence h.cg.cq, h.cg, FS.refl M, rfl, rfl⟩) (fun M' hM hT => hM.ask (r_pence hM.qg))
theorem g_read (h : In1 S M nR rl cl im w T B) : LGo S (lawC23 xs S M 1 176 i) := by
  simp only [lawC23, h.s1, h.s2, if_true]
  exact op_ok h (y := fun M' => pX12_read S M' 176 (xs (i + 1)) (xs (i + 2))) (h.cg.ask (c_read h.cg.cq h.cg.2.1)) (fun M' hM hT => hM.ask (r_read hM.1 hM.rs hM.2.2.2.2.1 hM.2.2.2.2.2.2.1.go hM.2.2.1))
theorem g_note (h : In1 S M nR rl cl im w T B) : LGo S (lawC24 xs S M 1 176 i) := by
  simp only [lawC24, h.s1, h.s2, if_true]
  exact op_ok h (y := fun M' => pX12_note S M' 176 (xs (i + 1)) (xs (i + 2)) (xs (i + 3))) (k_note h.cg) (fun M' hM hT => e_note hM)
theorem g_ruled (h : In1 S M nR rl cl im w T B) : LGo S (lawC25 xs S M 1 176 i) := by
  simp only [lawC25, h.s1, h.s2, if_true]
  exact op_ok h (y := fun M' => pX12_ruled S M' 176 (xs (i + 1))) (h.cg.ask (c_ruled h.cg.cq h.cg.2.1 h.2.1.1.2.2.2.2.2.2.1 h.1.1.2.2.2.1 h.2.1.1.2.2.2.2.1 h.1.1.2.1)) (fun M' hM hT => hM.ask (r_ruled hM.1 hM.rs hM.2.2.2.2.1 hM.2.2.1 hM.2.2.2.1.2.2.1 hM.2.2.2.2.2.2.2.1 hM.2.2.2.1.2.2.2.2.1 hM.2.2.2.2.2.1))
theorem g_look (h : In1 S M nR rl cl im w T B) : LGo S (lawC26 xs S M 1 176 i) := by
  simp only [lawC26, h.s1, h.s2, if_true]
  exact op_ok h (y := fun M' => pX12_look S M' 176 (xs (i + 1)) (xs (i + 2))) (h.cg.ask (c_look h.cg.cq h.cg.2.1 h.2.1.1.2.2.2.2.2.2.1 h.1.1.2.2.2.1 h.2.1.1.2.2.2.2.1 h.1.1.2.1)) (fun M' hM hT => hM.ask (r_look hM.1 hM.rs hM.2.2.2.2.1 hM.2.2.1 hM.2.2.2.1.2.2.1 hM.2.2.2.2.2.2.2.1 hM.2.2.2.1.2.2.2.2.1 hM.2.2.2.2.2.1))
theorem g_seed (hxs : ∀ i, in32 (xs i)) (h : In1 S M nR rl cl im w T B) : LGo S (lawC27 xs S M 1 176 i) := by
  simp only [lawC27, h.s1, h.s2, if_true]
  exact op_ok h (y := fun M' => pX12_seed S M' 176 (xs (i + 1))) (k_seed h.cg (hxs _)) (fun M' hM hT => e_seed hM (hxs _))
theorem g_rains (h : In1 S M nR rl cl im w T B) : LGo S (lawC28 xs S M 1 176 i) := by
  simp only [lawC28, h.s1, h.s2, if_true]
  exact op_ok h (y := fun M' => pX12_rains S M' 176 (xs (i + 1)) (xs (i + 2)) (xs (i + 3)) (xs (i + 4))) (h.cg.ask (c_rains h.cg.cq h.2.1.1.2.2.2.2.2.2.2.1.1 h.1.1.2.2.2.2.1)) (fun M' hM hT => hM.ask (r_rains hM.qg hM.2.2.2.1.2.2.2.1.1 hM.2.2.2.2.2.2.2.2.1))
theorem g_count (h : In1 S M nR rl cl im w T B) : LGo S (lawC29 xs S M 1 176 i) := by
  simp only [lawC29, h.s1, h.s2, if_true]
  exact op_ok h (y := fun M' => pX12_count S M' 176 (xs (i + 1))) (k_count h.cg h.2.1.2.2.1.1) (fun M' hM hT => e_count hM hT)
end
