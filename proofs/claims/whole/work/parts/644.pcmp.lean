/-! A RULE READ: two sums compared, in both -/
def cmpK (T : Int) (B : Int → Int) (q : Int) : Int := if bt T B q = 61 then 6 else if bt T B q = 60 then (if bt T B (q + 1) = 61 then 5 else 4) else if bt T B q = 62 then (if bt T B (q + 1) = 61 then 7 else 8) else 0
/-- behind the first sum: the class, the reference -/
noncomputable def cCmp (S : ZS) (M : ZM) : Option (Int × ZM) := (pX8_token S M 2).bind fun q40 => (pX5_comparingOrder S q40.2 q40.1).bind fun q42 => if q42.1 = (-1) then ((pX8_fail S q42.2 2 0).bind fun q57 => if q57.1 = 0 ∨ q57.1 = 1 then some (q57.1, q57.2) else none) else (zlet (upM q42.2 13 2 (w32 ((q42.2 13 2) + 1))) fun M45 => if M45 13 2 ≤ 60 then ((pX8_advance S M45 2).bind fun q47 => (pX5_takeSum S q47 13 2).bind fun q49 => (pX5_addOrder S q49.2 13 q42.1 0).bind fun q51 => if q49.1 = 0 ∨ q49.1 = 1 then some (q49.1, q51) else none) else ((pX8_fail S M45 2 3).bind fun q54 => if q54.1 = 0 ∨ q54.1 = 1 then some (q54.1, q54.2) else none))
noncomputable def cCpd (S : ZS) (M : ZM) : Option (Int × ZM) := (pX5_takeSum S M 13 2).bind fun q36 => if q36.1 = 0 then some (0, q36.2) else cCmp S q36.2
noncomputable def rCmp (S : ZS) (R : ZM) : Option ZM := (pX12_byteHere S R 176).bind fun q4 => if q4.1 = 60 then (pX12_compared_37 S q4.2 176 q4.1) else (if q4.1 = 61 then (pX12_compared_37 S q4.2 176 q4.1) else (if q4.1 = 62 then (pX12_compared_37 S q4.2 176 q4.1) else ((pX12_fails S q4.2 176 0 (q4.2 176 21)).bind fun q33 => some q33)))
def GoodC (S Z : ZS) (T : Int) (B : Int → Int) (M : ZM) (x : Option (Int × ZM)) (j : Int) (R : ZM) (y : Option ZM) (LC LR : List (Int × Int)) (q P : Int) : Prop := ∃ M' R' q' c v P', (x = some (1, M') ∧ CJ S M' T B q' (LC ++ c) P' ∧ FD M M') ∧ (y = some R' ∧ RJ Z R' T B q' (LR ++ c) P' j ∧ FG j R R') ∧ (Ex c v 4 ∧ ∀ w, v w = 0 ∨ v w = 1) ∧ (q < q' ∧ sk T B q' = q') ∧ (P + 3 ≤ P' ∧ P' ≤ 60) ∧ ln c + 3 ≤ 2 * (P' - P)
section
variable {S Z : ZS} {R M : ZM} {T : Int} {B : Int → Int} {p q P j : Int} {L : List (Int × Int)}
theorem bnd_id {α : Type} (x : Option α) : (x.bind fun a => some a) = x := by cases x <;> rfl
theorem r_cmpd (hS : ShW Z) : pX12_compared Z R 176 = (pX12_sum Z R 176).bind fun R1 => rCmp Z R1 := by
  simp only [pX12_compared, rCmp, hS.o, if_true]
theorem cmpK_v : cmpK T B q = 0 ∨ (4 ≤ cmpK T B q ∧ cmpK T B q ≤ 8) := by
  unfold cmpK
  by_cases z : bt T B q = 61
  · rw [if_pos z]; omega
  rw [if_neg z]
  by_cases y : bt T B q = 60
  · rw [if_pos y]
    by_cases x : bt T B (q + 1) = 61
    · rw [if_pos x]; omega
    · rw [if_neg x]; omega
  rw [if_neg y]
  by_cases y : bt T B q = 62
  · rw [if_pos y]
    by_cases x : bt T B (q + 1) = 61
    · rw [if_pos x]; omega
    · rw [if_neg x]; omega
  · rw [if_neg y]; omega
theorem eot_c2 (h : bt T B q = 60 ∨ bt T B q = 62) : eot T B q = if bt T B (q + 1) = 61 then q + 1 + 1 else q + 1 := by unfold eot; rw [if_pos h]
/-- the class's sign of comparing -/
theorem c_cmpO (hT : TOk T B) (hq : 0 ≤ q) : pX5_comparingOrder S M (tk T B q) = some (kx (cmpK T B q), M) := by
  have e1 := tk_sg1 hT hq (c := 61) (by decide)
  unfold cmpK
  by_cases z : bt T B q = 61
  · rw [e1.2 z, if_pos z]; rfl
  rw [if_neg z]
  by_cases y : bt T B q = 60 ∨ bt T B q = 62
  · have hl := bt_lt (T := T) (B := B) (p := q) (by omega)
    have et := tk_sg (B := B) hl (by unfold isDg; omega) (by unfold isLt; omega)
    have ee := eot_c2 y
    by_cases x : bt T B (q + 1) = 61
    · rw [if_pos x] at ee
      rw [if_pos (by omega)] at et
      by_cases u : bt T B q = 60
      · rw [if_pos u] at et
        rw [et, if_pos u, if_pos x]; rfl
      · rw [if_neg u] at et
        rw [et, if_neg u, if_pos (by omega), if_pos x]; rfl
    · rw [if_neg x] at ee
      rw [if_neg (by omega)] at et
      by_cases u : bt T B q = 60
      · rw [u] at et
        rw [et, if_pos u, if_neg x]; rfl
      · have u' : bt T B q = 62 := by omega
        rw [u'] at et
        rw [et, if_neg u, if_pos u', if_neg x]; rfl
  · have n60 : ¬ bt T B q = 60 := by omega
    have n62 : ¬ bt T B q = 62 := by omega
    rw [if_neg n60, if_neg n62]
    have t : ¬ (tk T B q = 60 ∨ tk T B q = 61 ∨ tk T B q = 62 ∨ tk T B q = 301 ∨ tk T B q = 302) := by
      intro t
      by_cases x : T ≤ q
      · rw [tk_end x] at t; omega
      by_cases z1 : isDg (bt T B q)
      · rw [tk_dg z1] at t; have := num_b z1; omega
      by_cases z2 : isLt (bt T B q)
      · rw [tk_lt z2] at t; have := wdF_b (T := T) (B := B) (q := q) (e := rn T B 97 122 q) 19 0 (by decide); unfold wd at t; omega
      · have he : eot T B q = q + 1 := by unfold eot; rw [if_neg (by omega), if_neg z1, if_neg z2]
        rw [tk_sg ⟨hq, by omega⟩ z1 z2, if_neg (by omega)] at t
        have hb := bt_b (p := q) hT
        omega
    unfold pX5_comparingOrder
    rw [if_neg (by omega), if_neg (by omega), if_neg (by omega), if_neg (by omega), if_neg (by omega)]; rfl
theorem CJ.cnt (h : CJ S M T B q L P) : CJ S (upM M 13 2 (P + 1)) T B q L (P + 1) ∧ FD M (upM M 13 2 (P + 1)) := by
  refine ⟨⟨h.1.d (fun x a _ => upM_r a) (fun j _ b => upM_i b), ⟨by rw [upM_i (by decide)]; exact h.2.1.1, by rw [upM_r (by decide)]; exact h.2.1.2⟩, upM_s _ _ _ _⟩, ⟨fun x _ a _ => upM_r a, fun j _ _ => by rw [upM_r (by decide)], fun j _ b => upM_i b⟩⟩
theorem RJ.cnt (h : RJ Z R T B p L P j) : RJ Z (upM R 176 27 (P + 1)) T B p L (P + 1) j := by
  have g : FZ R (upM R 176 27 (P + 1)) := FZ.c
  obtain ⟨⟨k1, k2, k3, k4, k5, k6⟩, k7, k8, k9⟩ := h
  exact ⟨⟨k1, k2.fz g, k3.fz g, k4, by rw [upM_i (by decide)]; exact k5, by rw [upM_i (by decide)]; exact k6⟩, by rw [upM_i (by decide), upM_i (by decide)]; exact k7, by rw [upM_i (by decide), upM_r (by decide), upM_r (by decide)]; exact k8, upM_s _ _ _ _⟩
/-- the reference behind the first sum: a sign of comparing -/
theorem r_cmpY (hT : TOk T B) (h : RJ Z R T B q L P j) (hP : 0 ≤ P ∧ P ≤ 60) (hk : cmpK T B q ≠ 0) : (0 ≤ q ∧ q < T) ∧ rCmp Z R = (pX12_sum Z (upM (upM (if P = 60 then upM R 176 22 (1 + 8 * q + 3) else R) 176 27 (P + 1)) 176 21 (eot T B q)) 176).bind fun R2 => pX12_entry Z R2 176 (cmpK T B q) 0 := by
  have hb := hT.1
  have bh := h.byte hT
  obtain ⟨h1, h2, h3, h4, h5, h6⟩ := h.1
  have h27 := h.2.2.2
  have wP : w32 (P + 1) = P + 1 := w32_i (by omega) (by omega)
  have w1 : w32 (q + 1) = q + 1 := w32_i (by omega) (by omega)
  have w2 : w32 (q + 1 + 1) = q + 1 + 1 := w32_i (by omega) (by omega)
  have w0 : w32 (q + 1 + 0) = q + 1 := by rw [Int.add_zero]; exact w1
  have cn : pX12_isCounted Z R 176 q = some (upM (if P = 60 then upM R 176 22 (1 + 8 * q + 3) else R) 176 27 (P + 1)) := by
    rw [r_count h1 (by omega), h27, h5, wP]
    by_cases u : P = 60
    · rw [if_pos ⟨u, rfl⟩, if_pos u]
    · rw [if_neg (fun v => u v.1), if_neg u]
  have e21 : (upM (if P = 60 then upM R 176 22 (1 + 8 * q + 3) else R) 176 27 (P + 1)) 176 21 = q := by
    rw [upM_i (by decide)]
    by_cases u : P = 60
    · rw [if_pos u, upM_i (by decide)]; exact h6
    · rw [if_neg u]; exact h6
  have gg : FG j R (upM (if P = 60 then upM R 176 22 (1 + 8 * q + 3) else R) 176 27 (P + 1)) := by
    by_cases u : P = 60
    · rw [if_pos u]; exact (FG.fp FP.f).trans (FG.z FZ.c)
    · rw [if_neg u]; exact FG.z FZ.c
  generalize upM (if P = 60 then upM R 176 22 (1 + 8 * q + 3) else R) 176 27 (P + 1) = Rc at *
  have gq : FG j R (upM Rc 176 21 (q + 1)) := gg.trans (FG.fp FP.p)
  have f21 : (upM Rc 176 21 (q + 1)) 176 21 = q + 1 := upM_s _ _ _ _
  have bq := r_byteHere h1 (h2.fg gq) hT (h3.fg gq) (by rw [f21]; omega)
  rw [f21] at bq
  have p2 : ∀ v, upM (upM Rc 176 21 (q + 1)) 176 21 v = upM Rc 176 21 v := fun v => upM_two
  unfold cmpK at *
  by_cases z : bt T B q = 61
  · obtain ⟨s1, s2⟩ := eot_sg1 (T := T) (B := B) (q := q) (c := 61) (by decide) z
    refine ⟨s2, ?_⟩
    rw [if_pos z, s1]
    simp only [rCmp, bh, Option.bind_some, z, show ¬ (61 : Int) = 60 by decide, if_false, if_true, pX12_compared_37, pX12_compared_74, pX12_compared_75, pX12_compared_90, pX12_compared_139, h.1.1.o, h6, cn, e21, w1, zlet, f21, w0, p2, Option.bind_assoc, bnd_id]
  rw [if_neg z] at hk ⊢
  by_cases y : bt T B q = 60
  · have ee := eot_c2 (T := T) (B := B) (q := q) (Or.inl y)
    have hl := bt_lt (T := T) (B := B) (p := q) (by omega)
    refine ⟨hl, ?_⟩
    rw [if_pos y] at hk ⊢
    by_cases x : bt T B (q + 1) = 61
    · rw [if_pos x] at ee
      rw [if_pos x, ee]
      simp only [rCmp, bh, Option.bind_some, y, show ¬ (60 : Int) = 61 by decide, if_false, if_true, pX12_compared_37, pX12_compared_74, pX12_compared_75, pX12_compared_90, pX12_compared_139, h.1.1.o, h6, cn, e21, w1, zlet, f21, bq, if_pos x, show ¬ (1 : Int) = 0 by decide, w2, p2, Option.bind_assoc, bnd_id]
    · rw [if_neg x] at ee
      rw [if_neg x, ee]
      simp only [rCmp, bh, Option.bind_some, y, show ¬ (60 : Int) = 61 by decide, if_false, if_true, pX12_compared_37, pX12_compared_74, pX12_compared_75, pX12_compared_90, pX12_compared_139, h.1.1.o, h6, cn, e21, w1, zlet, f21, bq, if_neg x, w0, p2, Option.bind_assoc, bnd_id]
  rw [if_neg y] at hk ⊢
  by_cases y2 : bt T B q = 62
  · have ee := eot_c2 (T := T) (B := B) (q := q) (Or.inr y2)
    have hl := bt_lt (T := T) (B := B) (p := q) (by omega)
    refine ⟨hl, ?_⟩
    rw [if_pos y2] at hk ⊢
    by_cases x : bt T B (q + 1) = 61
    · rw [if_pos x] at ee
      rw [if_pos x, ee]
      simp only [rCmp, bh, Option.bind_some, y2, show ¬ (62 : Int) = 61 by decide, show ¬ (62 : Int) = 60 by decide, if_false, if_true, pX12_compared_37, pX12_compared_74, pX12_compared_75, pX12_compared_90, pX12_compared_139, h.1.1.o, h6, cn, e21, w1, zlet, f21, bq, if_pos x, show ¬ (1 : Int) = 0 by decide, w2, p2, Option.bind_assoc, bnd_id]
    · rw [if_neg x] at ee
      rw [if_neg x, ee]
      simp only [rCmp, bh, Option.bind_some, y2, show ¬ (62 : Int) = 61 by decide, show ¬ (62 : Int) = 60 by decide, if_false, if_true, pX12_compared_37, pX12_compared_74, pX12_compared_75, pX12_compared_90, pX12_compared_139, h.1.1.o, h6, cn, e21, w1, zlet, f21, bq, if_neg x, w0, p2, Option.bind_assoc, bnd_id]
  · rw [if_neg y2] at hk; exact absurd rfl hk
theorem r_cmpN (hT : TOk T B) (h : RJ Z R T B q L P j) (hk : cmpK T B q = 0) : rCmp Z R = some (upM R 176 22 (1 + 8 * q + 0)) := by
  have hb := hT.1
  have bh := h.byte hT
  obtain ⟨h1, h2, h3, h4, h5, h6⟩ := h.1
  unfold cmpK at hk
  have n1 : ¬ bt T B q = 61 := fun u => by rw [if_pos u] at hk; omega
  rw [if_neg n1] at hk
  have n2 : ¬ bt T B q = 60 := fun u => by
    rw [if_pos u] at hk
    by_cases x : bt T B (q + 1) = 61
    · rw [if_pos x] at hk; omega
    · rw [if_neg x] at hk; omega
  rw [if_neg n2] at hk
  have n3 : ¬ bt T B q = 62 := fun u => by
    rw [if_pos u] at hk
    by_cases x : bt T B (q + 1) = 61
    · rw [if_pos x] at hk; omega
    · rw [if_neg x] at hk; omega
  simp only [rCmp, bh, Option.bind_some, if_neg n1, if_neg n2, if_neg n3, h6, r_fails (M := R) (k := 0) h1 (show 0 ≤ q ∧ q ≤ 1000 by omega) (by decide), if_pos h5]
theorem p_cmp (hT : TOk T B) {LC LR : List (Int × Int)} (hc : CJ S M T B q LC P) (hr : RJ Z R T B p LR P j) (hq : q = sk T B p) (hP : 0 ≤ P ∧ P ≤ 60) (hL : ln LR + 2 * (60 - P) ≤ 290) (hLC : ln LC ≤ ln LR + 12) (h1 : 1 ≤ q) : Bad T M (cCpd S M) j R (pX12_compared Z R 176) ∨ GoodC S Z T B M (cCpd S M) j R (pX12_compared Z R 176) LC LR q P := by
  have hb := hT.1
  have hS := hr.1.1
  rw [r_cmpd hS]
  rcases p_sum hT hc hr hq hP hL hLC h1 with u | u
  · -- the first sum is at fault
    obtain ⟨f, M', R', h0, ⟨u1, u2, u3, u4⟩, ⟨u5, u6, u7, u8⟩⟩ := u
    have hM' := hr.1.2.1.fg u7
    have hf : ¬ R' 176 22 = 0 := by rw [u6]; omega
    have xc : cCpd S M = some (0, M') := by simp only [cCpd, u1, Option.bind_some, if_true]
    have ht' := hr.1.2.2.1.fg u7
    have bh := r_byteHere hS hM' hT ht' u8.1
    rw [u5, Option.bind_some]
    by_cases z : bt T B (R' 176 21) = 60 ∨ bt T B (R' 176 21) = 61 ∨ bt T B (R' 176 21) = 62
    · have cn := r_count (R := R') hS (g := R' 176 21) (by omega)
      rw [if_neg (fun v => hf v.2)] at cn
      have xr : rCmp Z R' = pX12_compared_37 Z R' 176 (bt T B (R' 176 21)) := by
        simp only [rCmp, bh, Option.bind_some]
        by_cases z1 : bt T B (R' 176 21) = 60
        · rw [if_pos z1]
        · rw [if_neg z1]
          by_cases z2 : bt T B (R' 176 21) = 61
          · rw [if_pos z2]
          · rw [if_neg z2, if_pos (by omega)]
      have hl := bt_lt (T := T) (B := B) (p := R' 176 21) (by omega)
      have w1 : w32 (R' 176 21 + 1) = R' 176 21 + 1 := w32_i (by omega) (by omega)
      have w2 : w32 (R' 176 21 + 1 + 1) = R' 176 21 + 1 + 1 := w32_i (by omega) (by omega)
      have w0 : w32 (R' 176 21 + 1 + 0) = R' 176 21 + 1 := by rw [Int.add_zero]; exact w1
      generalize hRc : upM R' 176 27 (w32 (R' 176 27 + 1)) = Rc at cn
      have zc : FZ R' Rc := by rw [← hRc]; exact FZ.c
      have e21 : Rc 176 21 = R' 176 21 := by rw [← hRc, upM_i (by decide)]
      have zp : ∀ v, FZ R' (upM Rc 176 21 v) := fun v => zc.trans FZ.at
      have f21 : (upM Rc 176 21 (R' 176 21 + 1)) 176 21 = R' 176 21 + 1 := upM_s _ _ _ _
      have bq := r_byteHere hS (hM'.fz (zp (R' 176 21 + 1))) hT (ht'.fz (zp (R' 176 21 + 1))) (by rw [f21]; omega)
      rw [f21] at bq
      have p2 : ∀ v, upM (upM Rc 176 21 (R' 176 21 + 1)) 176 21 v = upM Rc 176 21 v := fun v => upM_two
      have key : ∃ v k, (0 ≤ v ∧ v ≤ T) ∧ rCmp Z R' = (pX12_sum Z (upM Rc 176 21 v) 176).bind fun R2 => pX12_entry Z R2 176 k 0 := by
        rw [xr]
        by_cases z2 : bt T B (R' 176 21) = 61
        · exact ⟨R' 176 21 + 1, 6, by omega, by simp only [z2, if_true, pX12_compared_37, pX12_compared_74, pX12_compared_75, pX12_compared_90, pX12_compared_139, hS.o, cn, Option.bind_some, e21, w1, zlet, f21, w0, p2, Option.bind_assoc, bnd_id]⟩
        · by_cases x : bt T B (R' 176 21 + 1) = 61
          · have hl2 := bt_lt (T := T) (B := B) (p := R' 176 21 + 1) (by omega)
            exact ⟨R' 176 21 + 1 + 1, (if bt T B (R' 176 21) = 60 then (5 : Int) else 7), by omega, by simp only [if_neg z2, if_true, pX12_compared_37, pX12_compared_74, pX12_compared_75, pX12_compared_90, pX12_compared_139, hS.o, cn, Option.bind_some, e21, w1, zlet, f21, bq, if_pos x, show ¬ (1 : Int) = 0 by decide, if_false, w2, p2, Option.bind_assoc, bnd_id]⟩
          · exact ⟨R' 176 21 + 1, (if bt T B (R' 176 21) = 60 then (4 : Int) else 8), by omega, by simp only [if_neg z2, if_true, pX12_compared_37, pX12_compared_74, pX12_compared_75, pX12_compared_90, pX12_compared_139, hS.o, cn, Option.bind_some, e21, w1, zlet, f21, bq, if_neg x, w0, p2, Option.bind_assoc, bnd_id]⟩
      obtain ⟨v, k, hv, xk⟩ := key
      have zv := zp v
      have e29 : (upM Rc 176 21 v) 176 29 = 12 := by rw [zv.2 29 (by decide) (by decide), u7.2.1 29 (by decide) (by decide) (by decide) (by decide)]; exact hr.2.1.1.2
      have e22 : (upM Rc 176 21 v) 176 22 ≠ 0 := by rw [zv.2 22 (by decide) (by decide)]; exact hf
      obtain ⟨R2, s1, s2, s3⟩ := r_sumF hS (hM'.fz zv) hT (ht'.fz zv) e29 (by rw [upM_s]; exact hv) e22
      have e22' : R2 176 22 = f := by rw [s2.2 22 (by decide) (by decide), zv.2 22 (by decide) (by decide)]; exact u6
      refine Or.inl ⟨f, M', R2, h0, ⟨xc, u2, u3, u4⟩, ⟨?_, e22', (u7.trans (FG.z zv)).trans (FG.z s2), s3⟩⟩
      rw [xk, s1, Option.bind_some, r_entryF hS (by rw [e22']; omega)]
    · have n1 : ¬ bt T B (R' 176 21) = 60 := by omega
      have n2 : ¬ bt T B (R' 176 21) = 61 := by omega
      have n3 : ¬ bt T B (R' 176 21) = 62 := by omega
      refine Or.inl ⟨f, M', R', h0, ⟨xc, u2, u3, u4⟩, ⟨?_, u6, u7, u8⟩⟩
      simp only [rCmp, bh, Option.bind_some, if_neg n1, if_neg n2, if_neg n3, r_fails (M := R') (k := 0) hS (show 0 ≤ R' 176 21 ∧ R' 176 21 ≤ 1000 by omega) (by decide), if_neg hf]
  · obtain ⟨M1, R1, q', c, v, P1, ⟨u1, u2, u3⟩, ⟨u4, u5, u6⟩, u7, ⟨u8, u9⟩, ⟨u10, u11⟩, u12⟩ := u
    have xc : cCpd S M = cCmp S M1 := by simp only [cCpd, u1, Option.bind_some, show ¬ (1 : Int) = 0 by decide, if_false]
    rw [xc, u4, Option.bind_some]
    have hq' := u2.1.2.2.1
    have hM1 := ln_nn LC
    have hn1 : 0 ≤ M1 13 1 ∧ M1 13 1 ≤ 400 := by
      have e := u2.2.1.1
      have l1 := ln_app LC c
      have l2 := ln_nn (LC ++ c)
      unfold ln at l1 l2 hLC hL u12 hM1
      omega
    by_cases z : cmpK T B q' = 0
    · have n0 : kx (cmpK T B q') = -1 := by rw [z]; rfl
      refine Or.inl ⟨1 + 8 * q' + 0, upM M1 2 5 (1 + 8 * q' + 0), upM R1 176 22 (1 + 8 * q' + 0), by omega, ⟨?_, upM_s _ _ _ _, u3.trans (FD.c FC.u5), by rw [upM_r (by decide)]; exact hn1⟩, ⟨r_cmpN hT u5 z, upM_s _ _ _ _, u6.trans (FG.fp FP.f), by rw [upM_i (by decide), u5.1.2.2.2.2.2]; exact hq'⟩⟩
      simp only [cCmp, c_token u2.1, Option.bind_some, c_cmpO hT hq'.1, n0, if_true, c_fail hT u2.1 (k := 0) (by decide), true_or]
    · have hv := cmpK_v (T := T) (B := B) (q := q')
      have n0 : ¬ kx (cmpK T B q') = -1 := by
        unfold kx
        rw [if_neg z]
        have : cmpK T B q' = 4 ∨ cmpK T B q' = 5 ∨ cmpK T B q' = 6 ∨ cmpK T B q' = 7 ∨ cmpK T B q' = 8 := by omega
        rcases this with e | e | e | e | e <;> rw [e] <;> decide
      have n2 : kx (cmpK T B q') = kc (cmpK T B q') := if_neg z
      obtain ⟨hl, yr⟩ := r_cmpY hT u5 ⟨by omega, u11⟩ z
      have he := eot_b (B := B) (p := q') hl
      have wP : w32 (P1 + 1) = P1 + 1 := w32_i (by omega) (by omega)
      obtain ⟨j2, d2⟩ := u2.cnt
      have e13 : M1 13 2 = P1 := u2.2.2
      have e13' : (upM M1 13 2 (P1 + 1)) 13 2 = P1 + 1 := upM_s _ _ _ _
      have xc2 : cCmp S M1 = if P1 + 1 ≤ 60 then ((pX8_advance S (upM M1 13 2 (P1 + 1)) 2).bind fun q47 => (pX5_takeSum S q47 13 2).bind fun q49 => (pX5_addOrder S q49.2 13 (kc (cmpK T B q')) 0).bind fun q51 => if q49.1 = 0 ∨ q49.1 = 1 then some (q49.1, q51) else none) else ((pX8_fail S (upM M1 13 2 (P1 + 1)) 2 3).bind fun q54 => if q54.1 = 0 ∨ q54.1 = 1 then some (q54.1, q54.2) else none) := by
        rw [← n2]
        simp only [cCmp, c_token u2.1, Option.bind_some, c_cmpO hT hq'.1, if_neg n0, zlet, e13, wP, e13']
      rw [xc2, yr]
      have e131 : (upM M1 13 2 (P1 + 1)) 13 1 = M1 13 1 := upM_i (by decide)
      generalize upM M1 13 2 (P1 + 1) = M2 at *
      by_cases x : P1 = 60
      · rw [if_neg (by omega), if_pos x]
        have zv : FG j R1 (upM (upM (upM R1 176 22 (1 + 8 * q' + 3)) 176 27 (P1 + 1)) 176 21 (eot T B q')) := ((FG.fp FP.f).trans (FG.z FZ.c)).trans (FG.fp FP.p)
        have e22 : (upM (upM (upM R1 176 22 (1 + 8 * q' + 3)) 176 27 (P1 + 1)) 176 21 (eot T B q')) 176 22 = 1 + 8 * q' + 3 := by rw [upM_i (by decide), upM_i (by decide), upM_s]
        have e21 : (upM (upM (upM R1 176 22 (1 + 8 * q' + 3)) 176 27 (P1 + 1)) 176 21 (eot T B q')) 176 21 = eot T B q' := upM_s _ _ _ _
        generalize upM (upM (upM R1 176 22 (1 + 8 * q' + 3)) 176 27 (P1 + 1)) 176 21 (eot T B q') = R2 at *
        have e29 : R2 176 29 = 12 := by rw [zv.2.1 29 (by decide) (by decide) (by decide) (by decide)]; exact u5.2.1.1.2
        obtain ⟨R3, s1, s2, s3⟩ := r_sumF hS (u5.1.2.1.fg zv) hT (u5.1.2.2.1.fg zv) e29 (by omega) (by omega)
        have e22' : R3 176 22 = 1 + 8 * q' + 3 := by rw [s2.2 22 (by decide) (by decide)]; exact e22
        refine Or.inl ⟨1 + 8 * q' + 3, upM M2 2 5 (1 + 8 * q' + 3), R3, by omega, ⟨?_, upM_s _ _ _ _, (u3.trans d2).trans (FD.c FC.u5), by rw [upM_r (by decide), e131]; exact hn1⟩, ⟨?_, e22', (u6.trans zv).trans (FG.z s2), s3⟩⟩
        · simp only [c_fail hT j2.1 (k := 3) (by decide), Option.bind_some, true_or, if_true]
        · rw [s1, Option.bind_some, r_entryF hS (by omega)]
      · rw [if_pos (by omega), if_neg x]
        obtain ⟨M3, a1, a2, a3⟩ := c_advance hT j2.1 hl.2
        have j3 := j2.fc a2 a3
        have r2 := (u5.cnt).at (v := eot T B q') (by omega)
        have g2 : FG j R1 (upM (upM R1 176 27 (P1 + 1)) 176 21 (eot T B q')) := (FG.z FZ.c).trans (FG.fp FP.p)
        generalize upM (upM R1 176 27 (P1 + 1)) 176 21 (eot T B q') = R2 at *
        have hs := sk_b (B := B) he.2
        have l1 := ln_app LR c
        have l2 := ln_app LC c
        have l3 := ln_nn LR
        have enx : nx T B q' = sk T B (eot T B q') := rfl
        rw [a1, Option.bind_some]
        rcases p_sum hT j3 r2 enx (by omega) (by omega) (by omega) (by omega) with w | w
        · obtain ⟨f, M', R', h0, ⟨v1, v2, v3, v4⟩, ⟨v5, v6, v7, v8⟩⟩ := w
          obtain ⟨M4, b1, b2, b3, b4⟩ := c_addF (k := kc (cmpK T B q')) (v := 0) (j3.1.1.fd v3) v4
          refine Or.inl ⟨f, M4, R', h0, ⟨?_, by rw [b2]; exact v2, (((u3.trans d2).trans (FD.c a3)).trans v3).trans b3, b4⟩, ⟨?_, v6, (u6.trans g2).trans v7, v8⟩⟩
          · simp only [v1, Option.bind_some, b1, true_or, if_true]
          · rw [v5, Option.bind_some, r_entryF hS (by rw [v6]; omega)]
        · obtain ⟨M4, R4, q4, c4, v4, P4, ⟨w1, w2, w3⟩, ⟨w4, w5, w6⟩, w7, ⟨w8, w9⟩, ⟨w10, w11⟩, w12⟩ := w
          have m1 := ln_app (LR ++ c) c4
          have m2 := ln_app (LC ++ c) c4
          have m3 := ln_nn c4
          obtain ⟨M5, b1, b2, b3⟩ := c_add w2 (by show ln (LC ++ c ++ c4) < 400; omega) (cmpK T B q', 0)
          obtain ⟨R5, d1, d3, d4⟩ := r_entry w5 (by show ln (LR ++ c ++ c4) < 300; omega) (a := cmpK T B q') (b := 0)
          have ea : ∀ X : List (Int × Int), X ++ c ++ c4 ++ [(cmpK T B q', 0)] = X ++ (c ++ c4 ++ [(cmpK T B q', 0)]) := fun X => by simp only [List.append_assoc]
          rw [ea] at b2 d3
          have m4 : ln (c ++ c4 ++ [(cmpK T B q', 0)]) = ln c + ln c4 + 1 := by rw [ln_app, ln_app, ln_one]
          refine Or.inr ⟨M5, R5, q4, c ++ c4 ++ [(cmpK T B q', 0)], _, P4, ⟨?_, b2, (((u3.trans d2).trans (FD.c a3)).trans w3).trans b3⟩, ⟨?_, d3, ((u6.trans g2).trans w6).trans d4⟩, ⟨Ex.join (u7.mono (by decide : (3 : Int) ≤ 4)) w7 (by unfold isJn; omega) (by decide), fun w => jn01 (by omega)⟩, ⟨by omega, w9⟩, ⟨by omega, w11⟩, by omega⟩
          · simp only [w1, Option.bind_some, b1, or_true, if_true]
          · rw [w4, Option.bind_some, d1]
end
