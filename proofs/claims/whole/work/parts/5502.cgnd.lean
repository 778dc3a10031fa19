/-! what a question rests on in the class -/
section
variable {S : ZS} {M : ZM}
variable {t : Td} {s : Sc}
/-- a scene's rows, told anew from others -/
theorem CS.rows {M M' : ZM} {a b : Int} (h : CS M t a s) (ho : TdOk t) (e0 : M' b 4 = M a 4 ∧ M' b 5 = M a 5 ∧ M' b 6 = M a 6) (e1 : ∀ j, 0 ≤ j → j < 5 → M' (b + 1) j = M (a + 1) j ∧ M' (b + 2) j = M (a + 2) j) (e2 : ∀ j, 0 ≤ j → j < 36 → M' (b + 3) j = M (a + 3) j ∧ M' (b + 4) j = M (a + 4) j) : CS M' t b s := by
  obtain ⟨h1, h2, h3, h4, h5, h6⟩ := h
  have hp := ho.2.2.1
  have hb := sq_b ho.1
  refine ⟨fun q x y => ?_, fun c x y => ?_, fun c x y => ?_, by rw [e0.1]; exact h4, by rw [e0.2.1]; exact h5, by rw [e0.2.2]; exact h6⟩
  · rw [(e1 q x (by omega)).1, (e1 q x (by omega)).2]; exact h1 q x y
  · rw [(e2 c x (by omega)).1, (e2 c x (by omega)).2]; exact h2 c x y
  · rw [(e2 c (by omega) y).1]; exact h3 c x y
/-- all that a question rests on in the class -/
def CQ (S : ZS) (M : ZM) (t : Td) (s : Sc) (e : Int) (r : Ru) : Prop := NW S M ∧ CT M 17 t ∧ CS M t 23 s ∧ (CRu S M e 133 r ∧ CRu S M e 138 r ∧ CRu S M e 156 r) ∧ ((M 16 9 = -1 ∧ e = 0) ∨ ((0 ≤ M 16 9 ∧ M 16 9 ≤ 5) ∧ e = M 15 (M 16 9))) ∧ TdOk t ∧ ScGo t s 200
theorem CQ.fq {M M' : ZM} {e : Int} {r : Ru} (h : CQ S M t s e r) (hn : NW S M') (f : FQ M M') : CQ S M' t s e r := by
  obtain ⟨h1, h2, h3, ⟨h4, h5, h6⟩, h7, h8⟩ := h
  refine ⟨hn, h2.eq (fun b _ _ => f b (by omega)), h3.eq (fun b _ _ => f b (by omega)), ⟨h4.eq (fun x y => f x (by omega)), h5.eq (fun x y => f x (by omega)), h6.eq (fun x y => f x (by omega))⟩, ?_, h8⟩
  rw [f 16 (by omega), f 15 (by omega)]; exact h7
theorem NW.fr {M M' : ZM} {b d : Int} (h : NW S M) (f : FrC b d M M') (hb : (b = 142 ∧ d = 138) ∨ (b = 160 ∧ d = 156) ∨ (b = 23 ∧ d = 133)) : NW S M' := by
  refine ⟨h.1, h.2.j (fun x j k => ?_)⟩
  unfold pkN at k
  by_cases z : x = b
  · subst z
    exact f.2 j (by omega) (by omega)
  · rw [f.1 x z (by omega) (by omega) (by omega) (by omega) (by omega) (by omega)]
theorem FQ.fr {M M' : ZM} {b d : Int} (f : FrC b d M M') (hb : (b = 142 ∧ d = 138) ∨ (b = 160 ∧ d = 156)) : FQ M M' := fun x y => f.1 x (by omega) (by omega) (by omega) (by omega) (by omega) (by omega) (by omega)
theorem shC_of (h : ShN S) : ShC S 23 ∧ ShC S 142 ∧ ShC S 160 := by
  have h := h.o
  refine ⟨?_, ?_, ?_⟩ <;> simp [ShC, h]
theorem shT_of (h : ShN S) : ShT S 7 ∧ ShT S 17 ∧ ShT S 147 ∧ ShT S 167 := by
  have h := h.o
  refine ⟨?_, ?_, ?_, ?_⟩ <;> simp [ShT, h]
theorem shD_of (h : ShN S) : ShD S 133 ∧ ShD S 138 ∧ ShD S 156 := by
  have h := h.o
  refine ⟨?_, ?_, ?_⟩ <;> simp [ShD, h]
theorem ptC_of (h : PtN M) : PtC M 23 ∧ PtC M 142 ∧ PtC M 160 := by
  have h := h.o
  refine ⟨?_, ?_, ?_⟩ <;> simp [PtC, h]
theorem ptT_of (h : PtN M) : PtT M 7 ∧ PtT M 17 ∧ PtT M 147 ∧ PtT M 167 := by
  have h := h.o
  refine ⟨?_, ?_, ?_, ?_⟩ <;> simp [PtT, h]
theorem ptD_of (h : PtN M) : PtD M 133 ∧ PtD M 138 ∧ PtD M 156 := by
  have h := h.o
  refine ⟨?_, ?_, ?_⟩ <;> simp [PtD, h]
theorem sep_1 : Sep 17 142 138 := by unfold Sep; omega
theorem sep_2 : Sep 17 160 156 := by unfold Sep; omega
theorem sep_3 : Sep 17 23 133 := by unfold Sep; omega
theorem sep_4 : Sep 147 142 138 := by unfold Sep; omega
theorem CQ.cd1 {e : Int} {r : Ru} (h : CQ S M t s e r) {s' : Sc} (hc : CS M t 142 s') : CD S M 17 142 138 t s' := ⟨sep_1, ⟨(shT_of h.1.1).2.1, (ptT_of h.1.2).2.1, h.2.1⟩, ⟨(shC_of h.1.1).2.1, (ptC_of h.1.2).2.1⟩, ⟨(shD_of h.1.1).2.1, (ptD_of h.1.2).2.1⟩, hc⟩
theorem CQ.cd2 {e : Int} {r : Ru} (h : CQ S M t s e r) {s' : Sc} (hc : CS M t 160 s') : CD S M 17 160 156 t s' := ⟨sep_2, ⟨(shT_of h.1.1).2.1, (ptT_of h.1.2).2.1, h.2.1⟩, ⟨(shC_of h.1.1).2.2, (ptC_of h.1.2).2.2⟩, ⟨(shD_of h.1.1).2.2, (ptD_of h.1.2).2.2⟩, hc⟩
theorem CQ.trial {e : Int} {r : Ru} (h : CQ S M t s e r) : ∃ M', pX6_copyFrom S M 142 23 = some M' ∧ CQ S M' t s e r ∧ CS M' t 142 s ∧ FQ M M' := by
  obtain ⟨M', a1, a2, a3, a4, a5, a6⟩ := c_copyScene (S := S) (M := M) (a := 23) (b := 142) (shC_of h.1.1).1 (shC_of h.1.1).2.1 (ptC_of h.1.2).1 (ptC_of h.1.2).2.1 (by omega)
  have f : FQ M M' := fun x y => a2 x (by omega)
  have hn : NW S M' := ⟨h.1.1, h.1.2.j (fun x j k => by
    unfold pkN at k
    by_cases z : x = 142
    · subst z; exact a3 j (by omega) (by omega) (by omega)
    · rw [a2 x (by omega)])⟩
  exact ⟨M', a1, h.fq hn f, h.2.2.1.rows h.2.2.2.2.2.1 a4 a5 a6, f⟩
theorem CQ.trialJ {e : Int} {r : Ru} (h : CQ S M t s e r) : ∃ M', pX6_copyFrom S M 160 23 = some M' ∧ CQ S M' t s e r ∧ CS M' t 160 s ∧ FQ M M' ∧ ∀ x, (x < 160 ∨ 164 < x) → M' x = M x := by
  obtain ⟨M', a1, a2, a3, a4, a5, a6⟩ := c_copyScene (S := S) (M := M) (a := 23) (b := 160) (shC_of h.1.1).1 (shC_of h.1.1).2.2 (ptC_of h.1.2).1 (ptC_of h.1.2).2.2 (by omega)
  have f : FQ M M' := fun x y => a2 x (by omega)
  have hn : NW S M' := ⟨h.1.1, h.1.2.j (fun x j k => by
    unfold pkN at k
    by_cases z : x = 160
    · subst z; exact a3 j (by omega) (by omega) (by omega)
    · rw [a2 x (by omega)])⟩
  exact ⟨M', a1, h.fq hn f, h.2.2.1.rows h.2.2.2.2.2.1 a4 a5 a6, f, fun x y => a2 x (by omega)⟩
end
