/-! FEED AND END: both -/
def app1 (B : Int → Int) (T b : Int) : Int → Int := fun i => if i = T then b else B i
def app4 (B : Int → Int) (T x : Int) : Int → Int := app1 (app1 (app1 (app1 B T (byt x 24)) (T + 1) (byt x 16)) (T + 1 + 1) (byt x 8)) (T + 1 + 1 + 1) (byt x 0)
def TOk (T : Int) (B : Int → Int) : Prop := (0 ≤ T ∧ T ≤ 400) ∧ ∀ i, 0 ≤ i → i < T → 0 ≤ B i ∧ B i < 256
def CTp (M : ZM) (T : Int) (B : Int → Int) : Prop := M 2 1 = T ∧ ∀ i, 0 ≤ i → i < T → M 3 i = B i
def RTp (M : ZM) (T : Int) (B : Int → Int) : Prop := M 176 20 = T ∧ ∀ i, 0 ≤ i → i < T → M 196 i % 256 = B i ∧ -128 ≤ M 196 i ∧ M 196 i ≤ 127
def opFeed (T : Int) (B : Int → Int) (x1 x2 x3 x4 x5 : Int) : Int × Int × (Int → Int) := if T + 20 ≤ 400 then (T + 20, T + 20, app4 (app4 (app4 (app4 (app4 B T x1) (T + 4) x2) (T + 8) x3) (T + 12) x4) (T + 16) x5) else (-1, T, B)
def opEnd (T n : Int) : Int × Int := if 0 ≤ n ∧ n ≤ T then (n, n) else (-1, T)
theorem app1_ok {T b : Int} {B : Int → Int} (h : TOk T B) (hT : T < 400) (hb : 0 ≤ b ∧ b < 256) : TOk (T + 1) (app1 B T b) := by
  refine ⟨by have := h.1; omega, fun i x y => ?_⟩
  unfold app1
  by_cases z : i = T
  · rw [if_pos z]; exact hb
  · rw [if_neg z]; exact h.2 i x (by omega)
theorem app4_ok {T x : Int} {B : Int → Int} (h : TOk T B) (hT : T + 4 ≤ 400) : TOk (T + 4) (app4 B T x) := by
  have := app1_ok (app1_ok (app1_ok (app1_ok h (by omega) (byt_b x 24)) (by omega) (byt_b x 16)) (by omega) (byt_b x 8)) (by omega) (byt_b x 0)
  rw [show T + 1 + 1 + 1 + 1 = T + 4 by omega] at this
  exact this
theorem opFeed_ok {T x1 x2 x3 x4 x5 : Int} {B : Int → Int} (h : TOk T B) : TOk (opFeed T B x1 x2 x3 x4 x5).2.1 (opFeed T B x1 x2 x3 x4 x5).2.2 := by
  unfold opFeed
  by_cases z : T + 20 ≤ 400
  · rw [if_pos z]
    have h1 := app4_ok (x := x1) h (by omega)
    have h2 := app4_ok (x := x2) h1 (by omega)
    rw [show T + 4 + 4 = T + 8 by omega] at h2
    have h3 := app4_ok (x := x3) h2 (by omega)
    rw [show T + 8 + 4 = T + 12 by omega] at h3
    have h4 := app4_ok (x := x4) h3 (by omega)
    rw [show T + 12 + 4 = T + 16 by omega] at h4
    have h5 := app4_ok (x := x5) h4 (by omega)
    rw [show T + 16 + 4 = T + 20 by omega] at h5
    exact h5
  · rw [if_neg z]; exact h
theorem opEnd_ok {T n : Int} {B : Int → Int} (h : TOk T B) : TOk (opEnd T n).2 B := by
  unfold opEnd
  by_cases z : 0 ≤ n ∧ n ≤ T
  · rw [if_pos z]; exact ⟨⟨z.1, by have := h.1; show n ≤ 400; omega⟩, fun i x y => h.2 i x (by have y' : i < n := y; omega)⟩
  · rw [if_neg z]; exact h
section
variable {S : ZS} {M : ZM}
/-- only the tape is another -/
def FT (M M' : ZM) : Prop := (∀ x, x ≠ 2 → x ≠ 3 → x ≠ 4 → x ≠ 5 → M' x = M x) ∧ ∀ j, j ≠ 1 → j < 4 → M' 2 j = M 2 j
theorem FT.refl (M : ZM) : FT M M := ⟨fun _ _ _ _ _ => rfl, fun _ _ _ => rfl⟩
theorem FT.trans {M M' M'' : ZM} (h : FT M M') (h' : FT M' M'') : FT M M'' := ⟨fun x a b c d => (h'.1 x a b c d).trans (h.1 x a b c d), fun j a b => (h'.2 j a b).trans (h.2 j a b)⟩
theorem NW.ft {M' : ZM} (h : NW S M) (f : FT M M') : NW S M' := h.q (fun x j y => by
  unfold pkN at y
  by_cases z : x = 2
  · subst z; exact f.2 j (by omega) (by omega)
  · rw [f.1 x (by omega) (by omega) (by omega) (by omega)])
theorem CN.ft {M' : ZM} {w : Wd} {nR : Int} (h : CN S M w) (hw : WOk nR w) (f : FT M M') : CN S M' w :=
  ⟨h.1.ft f, h.2.1, h.2.2.1.eq (fun x a b => f.1 x (by omega) (by omega) (by omega) (by omega)), h.2.2.2.eq h.2.2.1.2.2.2.2 hw.2.2.2.2.2.2.1.2 (fun x a b => f.1 x (by omega) (by omega) (by omega) (by omega))⟩
theorem c_app1 {T x s : Int} {B : Int → Int} (h : NW S M) (ht : CTp M T B) (hT : 0 ≤ T ∧ T < 400) (hs : s = 24 ∨ s = 16 ∨ s = 8 ∨ s = 0) (n : Nat) : ∃ M', pX8_append_3 S (n + 1) M 2 x s = pX8_append_3 S n M' 2 x (s - 8) ∧ CTp M' (T + 1) (app1 B T (byt x s)) ∧ FT M M' := by
  have w1 : w32 (T + 1) = T + 1 := w32_i (by omega) (by omega)
  have w2 : w32 (s + (-8)) = s - 8 := by rw [w32_i (by omega) (by omega)]; omega
  have e : zand (zush x s) 255 = byt x s := sh_eq x s hs
  have s0 : ¬ s < 0 := by omega
  have t0 : ¬ 400 ≤ T := by omega
  have e1 : M 2 1 = T := ht.1
  refine ⟨upM (upM M 3 T (byt x s)) 2 1 (T + 1), ?_, ⟨upM_s _ _ _ _, fun i y z => ?_⟩, ⟨fun x a b c d => by rw [upM_r a, upM_r b], fun j a b => by rw [upM_i a, upM_r (by decide)]⟩⟩
  · have e2 : (upM M 3 T (byt x s)) 2 1 = T := by rw [upM_r (by decide)]; exact e1
    simp only [pX8_append_3, if_neg s0, h.1.o, h.2.o, e1, if_neg t0, hT, zlet, e, e2, w1, w2, and_self, if_true]
  · rw [upM_r (by decide), upM_ap]
    unfold app1
    by_cases u : i = T
    · rw [if_pos ⟨rfl, u⟩, if_pos u]
    · rw [if_neg (fun v => u v.2), if_neg u]; exact ht.2 i y (by omega)
theorem c_append {T x : Int} {B : Int → Int} (h : NW S M) (ht : CTp M T B) (hT : 0 ≤ T ∧ T + 4 ≤ 400) : ∃ M', pX8_append S M 2 x = some M' ∧ CTp M' (T + 4) (app4 B T x) ∧ FT M M' := by
  obtain ⟨f, hf⟩ : ∃ f, zFU = f + 1 + 1 + 1 + 1 + 1 := ⟨zFU - 5, by have := zFU_gt (n := 5) (by decide); omega⟩
  obtain ⟨M1, a1, a2, a3⟩ := c_app1 (x := x) (s := 24) h ht (by omega) (by decide) (f + 1 + 1 + 1 + 1)
  obtain ⟨M2, b1, b2, b3⟩ := c_app1 (x := x) (s := 16) (h.ft a3) a2 (by omega) (by decide) (f + 1 + 1 + 1)
  obtain ⟨M3, c1, c2, c3⟩ := c_app1 (x := x) (s := 8) ((h.ft a3).ft b3) b2 (by omega) (by decide) (f + 1 + 1)
  obtain ⟨M4, d1, d2, d3⟩ := c_app1 (x := x) (s := 0) (((h.ft a3).ft b3).ft c3) c2 (by omega) (by decide) (f + 1)
  refine ⟨M4, ?_, ?_, ((a3.trans b3).trans c3).trans d3⟩
  · unfold pX8_append
    rw [hf, a1]
    refine b1.trans (c1.trans (d1.trans ?_))
    simp only [pX8_append_3, show ((0 : Int) - 8 < 0) by decide, if_true, pX8_append_49]
  · rw [show T + 4 = T + 1 + 1 + 1 + 1 by omega]; exact d2
theorem k_feed {T x1 x2 x3 x4 x5 : Int} {B : Int → Int} (h : NW S M) (hT : TOk T B) (ht : CTp M T B) : ∃ M', pX11_feed S M 1 x1 x2 x3 x4 x5 = some ((opFeed T B x1 x2 x3 x4 x5).1, M') ∧ CTp M' (opFeed T B x1 x2 x3 x4 x5).2.1 (opFeed T B x1 x2 x3 x4 x5).2.2 ∧ FT M M' := by
  have hb := hT.1
  have w1 : w32 (T + 20) = T + 20 := w32_i (by omega) (by omega)
  have e1 : M 2 1 = T := ht.1
  unfold opFeed
  by_cases z : T + 20 ≤ 400
  · rw [if_pos z]
    obtain ⟨M1, a1, a2, a3⟩ := c_append (x := x1) h ht (by omega)
    obtain ⟨M2, b1, b2, b3⟩ := c_append (x := x2) (h.ft a3) a2 (by omega)
    rw [show T + 4 + 4 = T + 8 by omega] at b2
    obtain ⟨M3, c1, c2, c3⟩ := c_append (x := x3) ((h.ft a3).ft b3) b2 (by omega)
    rw [show T + 8 + 4 = T + 12 by omega] at c2
    obtain ⟨M4, d1, d2, d3⟩ := c_append (x := x4) (((h.ft a3).ft b3).ft c3) c2 (by omega)
    rw [show T + 12 + 4 = T + 16 by omega] at d2
    obtain ⟨M5, f1, f2, f3⟩ := c_append (x := x5) ((((h.ft a3).ft b3).ft c3).ft d3) d2 (by omega)
    rw [show T + 16 + 4 = T + 20 by omega] at f2
    have p1 := (h.ft a3).2.o
    have p2 := ((h.ft a3).ft b3).2.o
    have p3 := (((h.ft a3).ft b3).ft c3).2.o
    have p4 := ((((h.ft a3).ft b3).ft c3).ft d3).2.o
    have p5 := (((((h.ft a3).ft b3).ft c3).ft d3).ft f3).2.o
    have e5 : M5 2 1 = T + 20 := f2.1
    refine ⟨M5, ?_, f2, (((a3.trans b3).trans c3).trans d3).trans f3⟩
    simp only [pX11_feed, pX11_feed_51, h.1.o, h.2.o, e1, w1, if_pos z, a1, b1, c1, d1, f1, p1, p2, p3, p4, p5, e5, Option.bind_some, if_true]
  · rw [if_neg z]
    refine ⟨M, ?_, ht, FT.refl M⟩
    simp only [pX11_feed, h.1.o, h.2.o, e1, w1, if_neg z, if_true]
theorem k_end {T n : Int} {B : Int → Int} (h : NW S M) (ht : CTp M T B) : ∃ M', pX11_end S M 1 n = some ((opEnd T n).1, M') ∧ CTp M' (opEnd T n).2 B ∧ FT M M' := by
  have e1 : M 2 1 = T := ht.1
  unfold opEnd
  by_cases z : 0 ≤ n ∧ n ≤ T
  · rw [if_pos z]
    refine ⟨upM M 2 1 n, ?_, ⟨upM_s _ _ _ _, fun i x y => by rw [upM_r (by decide)]; exact ht.2 i x (by have y' : i < n := y; omega)⟩, ⟨fun x a b c d => upM_r a, fun j a b => upM_i a⟩⟩
    simp only [pX11_end, show ¬ n < 0 by omega, h.1.o, h.2.o, e1, z.2, zlet, if_true, if_false]
  · rw [if_neg z]
    refine ⟨M, ?_, ht, FT.refl M⟩
    by_cases y : n < 0
    · simp only [pX11_end, pX11_end_15, if_pos y]
    · simp only [pX11_end, pX11_end_15, if_neg y, h.1.o, h.2.o, e1, show ¬ n ≤ T by omega, if_true, if_false]
/-! the reference -/
def FU (M M' : ZM) : Prop := (∀ x, x ≠ 176 → x ≠ 196 → M' x = M x) ∧ ∀ j, j ≠ 20 → M' 176 j = M 176 j
theorem FU.refl (M : ZM) : FU M M := ⟨fun _ _ _ => rfl, fun _ _ => rfl⟩
theorem FU.trans {M M' M'' : ZM} (h : FU M M') (h' : FU M' M'') : FU M M'' := ⟨fun x a b => (h'.1 x a b).trans (h.1 x a b), fun j a => (h'.2 j a).trans (h.2 j a)⟩
theorem PtW.fu {M' : ZM} (h : PtW M) (f : FU M M') : PtW M' := h.j (fun j x => f.2 j (by omega))
theorem RG.eq' {M' : ZM} {nR : Int} {rl : Int → Ru} {w : Wd} (h : RG S M nR rl w) (hp : PtW M') (e1 : ∀ a, ((177 ≤ a ∧ a ≤ 189) ∨ (197 ≤ a ∧ a ≤ 202) ∨ a = 206) → M' a = M a) (e2 : M' 176 24 = M 176 24) (e3 : M' 176 42 = M 176 42) : RG S M' nR rl w := by
  obtain ⟨h1, -, ⟨r1, r2, r3⟩, h4, h5⟩ := h
  refine ⟨h1, hp, ⟨r1, e2.trans r2, fun j a b => (r3 j a b).eq (fun a x y => by rw [upM_r (by omega), upM_r (by omega)]; exact e1 a (by omega)) (by rw [upM_s, upM_s])⟩, ?_, h5⟩
  rw [e3]
  refine h4.ve h5 ⟨fun j _ _ => by rw [e1 177 (by omega)], fun j _ _ => ⟨by rw [e1 178 (by omega)], by rw [e1 179 (by omega)], by rw [e1 188 (by omega)], by rw [e1 189 (by omega)]⟩, fun j _ _ => ⟨by rw [e1 180 (by omega)], by rw [e1 181 (by omega)], by rw [e1 184 (by omega)]⟩, fun j _ _ => ⟨by rw [e1 182 (by omega)], by rw [e1 183 (by omega)]⟩, fun j _ _ => ⟨by rw [e1 185 (by omega)], by rw [e1 186 (by omega)], by rw [e1 187 (by omega)]⟩, fun j _ _ => by rw [e1 206 (by omega)]⟩
theorem RG.fu {M' : ZM} {nR : Int} {rl : Int → Ru} {w : Wd} (h : RG S M nR rl w) (f : FU M M') : RG S M' nR rl w :=
  h.eq' (h.2.1.fu f) (fun a x => f.1 a (by omega) (by omega)) (f.2 24 (by decide)) (f.2 42 (by decide))
theorem r_app1 {T x s : Int} {B : Int → Int} (hS : ShW S) (hM : PtW M) (ht : RTp M T B) (hT : 0 ≤ T ∧ T < 400) (hs : s = 24 ∨ s = 16 ∨ s = 8 ∨ s = 0) (n : Nat) : ∃ M', pX12_put_3 S (n + 1) M 176 x s = pX12_put_3 S n M' 176 x (s - 8) ∧ RTp M' (T + 1) (app1 B T (byt x s)) ∧ FU M M' := by
  have w1 : w32 (T + 1) = T + 1 := w32_i (by omega) (by omega)
  have w2 : w32 (s + (-8)) = s - 8 := by rw [w32_i (by omega) (by omega)]; omega
  have e : w8 (w8 (zshr x s)) % 256 = byt x s := w8_mod _
  have s0 : ¬ s < 0 := by omega
  have e1 : M 176 20 = T := ht.1
  have e' := w8_in (w8 (zshr x s))
  generalize hv : w8 (w8 (zshr x s)) = v at e e'
  refine ⟨upM (upM M 196 T v) 176 20 (T + 1), ?_, ⟨upM_s _ _ _ _, fun i y z => ?_⟩, ⟨fun x a b => by rw [upM_r a, upM_r b], fun j a => by rw [upM_i a, upM_r (by decide)]⟩⟩
  · have e2 : (upM M 196 T v) 176 20 = T := by rw [upM_r (by decide)]; exact e1
    simp only [pX12_put_3, if_neg s0, hS.o, hM.o, e1, hT, zlet, hv, e2, w1, w2, and_self, if_true]
  · rw [upM_r (by decide), upM_ap]
    unfold app1
    by_cases u : i = T
    · rw [if_pos ⟨rfl, u⟩, if_pos u]; exact ⟨e, e'⟩
    · rw [if_neg (fun v => u v.2), if_neg u]; exact ht.2 i y (by omega)
theorem r_put {T x : Int} {B : Int → Int} (hS : ShW S) (hM : PtW M) (ht : RTp M T B) (hT : 0 ≤ T ∧ T + 4 ≤ 400) : ∃ M', pX12_put S M 176 x = some M' ∧ RTp M' (T + 4) (app4 B T x) ∧ FU M M' := by
  obtain ⟨f, hf⟩ : ∃ f, zFU = f + 1 + 1 + 1 + 1 + 1 := ⟨zFU - 5, by have := zFU_gt (n := 5) (by decide); omega⟩
  obtain ⟨M1, a1, a2, a3⟩ := r_app1 (x := x) (s := 24) hS hM ht (by omega) (by decide) (f + 1 + 1 + 1 + 1)
  obtain ⟨M2, b1, b2, b3⟩ := r_app1 (x := x) (s := 16) hS (hM.fu a3) a2 (by omega) (by decide) (f + 1 + 1 + 1)
  obtain ⟨M3, c1, c2, c3⟩ := r_app1 (x := x) (s := 8) hS ((hM.fu a3).fu b3) b2 (by omega) (by decide) (f + 1 + 1)
  obtain ⟨M4, d1, d2, d3⟩ := r_app1 (x := x) (s := 0) hS (((hM.fu a3).fu b3).fu c3) c2 (by omega) (by decide) (f + 1)
  refine ⟨M4, ?_, ?_, ((a3.trans b3).trans c3).trans d3⟩
  · unfold pX12_put
    rw [hf, a1]
    refine b1.trans (c1.trans (d1.trans ?_))
    simp only [pX12_put_3, show ((0 : Int) - 8 < 0) by decide, if_true]
  · rw [show T + 4 = T + 1 + 1 + 1 + 1 by omega]; exact d2
theorem e_feed {T x1 x2 x3 x4 x5 : Int} {B : Int → Int} (hS : ShW S) (hM : PtW M) (hT : TOk T B) (ht : RTp M T B) : ∃ M', pX12_feed S M 176 x1 x2 x3 x4 x5 = some ((opFeed T B x1 x2 x3 x4 x5).1, M') ∧ RTp M' (opFeed T B x1 x2 x3 x4 x5).2.1 (opFeed T B x1 x2 x3 x4 x5).2.2 ∧ FU M M' := by
  have hb := hT.1
  have w1 : w32 (T + 20) = T + 20 := w32_i (by omega) (by omega)
  have e1 : M 176 20 = T := ht.1
  unfold opFeed
  by_cases z : T + 20 ≤ 400
  · rw [if_pos z]
    obtain ⟨M1, a1, a2, a3⟩ := r_put (x := x1) hS hM ht (by omega)
    obtain ⟨M2, b1, b2, b3⟩ := r_put (x := x2) hS (hM.fu a3) a2 (by omega)
    rw [show T + 4 + 4 = T + 8 by omega] at b2
    obtain ⟨M3, c1, c2, c3⟩ := r_put (x := x3) hS ((hM.fu a3).fu b3) b2 (by omega)
    rw [show T + 8 + 4 = T + 12 by omega] at c2
    obtain ⟨M4, d1, d2, d3⟩ := r_put (x := x4) hS (((hM.fu a3).fu b3).fu c3) c2 (by omega)
    rw [show T + 12 + 4 = T + 16 by omega] at d2
    obtain ⟨M5, f1, f2, f3⟩ := r_put (x := x5) hS ((((hM.fu a3).fu b3).fu c3).fu d3) d2 (by omega)
    rw [show T + 16 + 4 = T + 20 by omega] at f2
    have e5 : M5 176 20 = T + 20 := f2.1
    refine ⟨M5, ?_, f2, (((a3.trans b3).trans c3).trans d3).trans f3⟩
    simp only [pX12_feed, hS.o, e1, w1, if_pos z, a1, b1, c1, d1, f1, e5, Option.bind_some, if_true]
  · rw [if_neg z]
    refine ⟨M, ?_, ht, FU.refl M⟩
    simp only [pX12_feed, hS.o, e1, w1, if_neg z, if_true]
theorem e_end {T n : Int} {B : Int → Int} (hS : ShW S) (ht : RTp M T B) : ∃ M', pX12_end S M 176 n = some ((opEnd T n).1, M') ∧ RTp M' (opEnd T n).2 B ∧ FU M M' := by
  have e1 : M 176 20 = T := ht.1
  unfold opEnd
  by_cases z : 0 ≤ n ∧ n ≤ T
  · rw [if_pos z]
    refine ⟨upM M 176 20 n, ?_, ⟨upM_s _ _ _ _, fun i x y => by rw [upM_r (by decide)]; exact ht.2 i x (by have y' : i < n := y; omega)⟩, ⟨fun x a b => upM_r a, fun j a => upM_i a⟩⟩
    simp only [pX12_end, show ¬ n < 0 by omega, hS.o, e1, z.2, zlet, if_true, if_false]
  · rw [if_neg z]
    refine ⟨M, ?_, ht, FU.refl M⟩
    by_cases y : n < 0
    · simp only [pX12_end, pX12_end_12, if_pos y]
    · simp only [pX12_end, pX12_end_12, if_neg y, hS.o, e1, show ¬ n ≤ T by omega, if_true, if_false]
end
