/-! WORDS AND THE CUT: the class -/
theorem w256 {x : Int} (h1 : 0 ≤ x) (h2 : x < 19) : w32 (256 + x) = 256 + x := w32_i (by omega) (by omega)
section
variable {S : ZS} {M : ZM} {T : Int} {B : Int → Int}
theorem c_isWord3 (h : NW S M) (hT : TOk T B) (ht : CTp M T B) {q fr to : Int} (hq : 0 ≤ q ∧ q ≤ 400) (hf : 0 ≤ fr ∧ to < 88) : ∀ (k fuel : Nat) (i : Int), i + k = to → fr ≤ i → k < fuel → ∃ v, pX8_isWord_3 S fuel M 2 q fr to i = some (v, M) ∧ (v = 0 ∨ v = 1) ∧ (v = 1 ↔ ∀ j, i ≤ j → j < to → bt T B (q + (j - fr)) = zSc 0 j) := by
  intro k
  induction k with
  | zero =>
    intro fuel i h1 h2 h3
    obtain ⟨f, rfl⟩ : ∃ f, fuel = f + 1 := ⟨fuel - 1, by omega⟩
    refine ⟨1, ?_, Or.inr rfl, ⟨fun _ j a b => by omega, fun _ => rfl⟩⟩
    simp only [pX8_isWord_3, pX8_isWord_47, show to ≤ i by omega, if_true]
  | succ k ih =>
    intro fuel i h1 h2 h3
    obtain ⟨f, rfl⟩ : ∃ f, fuel = f + 1 := ⟨fuel - 1, by omega⟩
    have w1 : w32 (q + i) = q + i := w32_i (by omega) (by omega)
    have w2 : w32 (q + i - fr) = q + (i - fr) := by rw [w32_i (by omega) (by omega)]; omega
    have w3 : w32 (i + 1) = i + 1 := w32_i (by omega) (by omega)
    by_cases z : bt T B (q + (i - fr)) = zSc 0 i
    · obtain ⟨v, a1, a2, a3⟩ := ih f (i + 1) (by omega) (by omega) (by omega)
      refine ⟨v, ?_, a2, a3.trans ⟨fun u j x y => ?_, fun u j x y => u j (by omega) y⟩⟩
      · rw [← a1]
        simp only [pX8_isWord_3, show ¬ to ≤ i by omega, w_len, show ¬ (88 : Int) ≤ i by omega, if_false, h.1.o, if_true, w1, w2, c_byteAt h hT ht, Option.bind_some, show ((0 : Int) ≤ 0 ∧ (0 : Int) < 20) by decide, show 0 ≤ i by omega, show i < 88 by omega, and_self, if_pos z, w3]
      · by_cases y' : j = i
        · rw [y']; exact z
        · exact u j (by omega) y
    · refine ⟨0, ?_, Or.inl rfl, ⟨fun u => absurd u (by decide), fun u => absurd (u i (Int.le_refl _) (by omega)) z⟩⟩
      simp only [pX8_isWord_3, show ¬ to ≤ i by omega, w_len, show ¬ (88 : Int) ≤ i by omega, if_false, h.1.o, if_true, w1, w2, c_byteAt h hT ht, Option.bind_some, show ((0 : Int) ≤ 0 ∧ (0 : Int) < 20) by decide, show 0 ≤ i by omega, show i < 88 by omega, and_self, if_neg z]
theorem c_isWord (h : NW S M) (hT : TOk T B) (ht : CTp M T B) {q : Int} (hq : 0 ≤ q ∧ q ≤ 400) {k : Nat} (hk : k < 19) : ∃ v, pX8_isWord S M 2 q (wst k) (wst k + wln k) = some (v, M) ∧ (v = 0 ∨ v = 1) ∧ (v = 1 ↔ ∀ j, 0 ≤ j → j < wln k → bt T B (q + j) = zSc 0 (wst k + j)) := by
  have hl := wt_len hk
  obtain ⟨v, a1, a2, a3⟩ := c_isWord3 (fr := wst k) (to := wst k + wln k) h hT ht hq (by omega) (wln k).toNat zFU (wst k) (by omega) (Int.le_refl _) (zFU_gt (by omega))
  refine ⟨v, a1, a2, a3.trans ⟨fun u j x y => ?_, fun u j x y => ?_⟩⟩
  · have := u (wst k + j) (by omega) (by omega)
    rw [show wst k + j - wst k = j by omega] at this; exact this
  · have := u (j - wst k) (by omega) (by omega)
    rw [show wst k + (j - wst k) = j by omega] at this; exact this
theorem c_wt_mid {q e : Int} {k : Nat} (hk : k < 19) : ∀ (n fuel : Nat) (i : Int), i + n = wln k → 0 ≤ i → pX8_wordToken_8 S (fuel + n) M 2 q e k (wst k) (wst k + i) = pX8_wordToken_8 S fuel M 2 q e k (wst k) (wst k + wln k) := by
  have hl := wt_len hk
  intro n
  induction n with
  | zero => intro fuel i h1 h2; rw [show i = wln k by omega]; rfl
  | succ n ih =>
    intro fuel i h1 h2
    have hc := wt_ch hk (i := i) (by omega)
    have w1 : w32 (wst k + i + 1) = wst k + (i + 1) := by rw [w32_i (by omega) (by omega)]; omega
    rw [← ih fuel (i + 1) (by omega) (by omega), show fuel + (n + 1) = (fuel + n) + 1 by omega, pX8_wordToken_8]
    simp only [w_len, show ¬ (88 : Int) ≤ wst k + i by omega, if_false, show ((0 : Int) ≤ 0 ∧ (0 : Int) < 20) by decide, show 0 ≤ wst k + i by omega, show wst k + i < 88 by omega, and_self, if_true, if_neg hc, pX8_wordToken_68, w1]
theorem c_wt (h : NW S M) (hT : TOk T B) (ht : CTp M T B) {q e : Int} (hq : 0 ≤ q ∧ q ≤ 400) (he : q ≤ e ∧ e ≤ 400) : ∀ (n k fuel : Nat), k + n = 19 → (88 - wst k : Int) < fuel → pX8_wordToken_8 S fuel M 2 q e k (wst k) (wst k) = some (wdF T B q e n k, M) := by
  intro n
  induction n with
  | zero =>
    intro k fuel h1 h2
    rw [show k = 19 by omega, wst19] at *
    obtain ⟨f, rfl⟩ : ∃ f, fuel = f + 1 := ⟨fuel - 1, by omega⟩
    simp only [pX8_wordToken_8, w_len, Int.le_refl, if_true, wdF]
  | succ n ih =>
    intro k fuel h1 h2
    have hk : k < 19 := by omega
    have hk' : (k : Int) < 19 := Int.ofNat_lt.2 hk
    have hl := wt_len hk
    have hm := c_wt_mid (S := S) (M := M) (q := q) (e := e) hk (wln k).toNat (fuel - (wln k).toNat) 0 (by omega) (by decide)
    rw [Int.add_zero, show fuel - (wln k).toNat + (wln k).toNat = fuel by omega] at hm
    obtain ⟨f, hf⟩ : ∃ f, fuel - (wln k).toNat = f + 1 := ⟨fuel - (wln k).toNat - 1, by omega⟩
    rw [hm, hf]
    have ih' := ih (k + 1) f (by omega) (by omega)
    have sp := wt_sp hk
    have w1 : w32 (wst k + wln k - wst k) = wln k := by rw [w32_i (by omega) (by omega)]; omega
    have w2 : w32 (e - q) = e - q := w32_i (by omega) (by omega)
    have w3 : w32 ((k : Int) + 1) = ((k + 1 : Nat) : Int) := by rw [w32_i (by omega) (by omega)]; omega
    have w4 : w32 (wst k + wln k + 1) = wst (k + 1) := by rw [hl.2.2]; exact w32_i (by omega) (by omega)
    have w5 : w32 (256 + (k : Int)) = 256 + (k : Int) := w256 (Int.natCast_nonneg k) hk'
    have g : ∀ M', M' = M → pX8_wordToken_59 S (pX8_wordToken_8 S f) M' 2 q e k (wst k + wln k) = some (wdF T B q e n (k + 1), M) := fun M' r => by
      rw [r, ← ih']
      simp only [pX8_wordToken_59, pX8_wordToken_68, w3, w4]
    have pre : pX8_wordToken_8 S (f + 1) M 2 q e k (wst k) (wst k + wln k) = (if wln k = e - q then (pX8_isWord S M 2 q (wst k) (wst k + wln k)).bind fun q5 => if q5.1 = 0 then (pX8_wordToken_59 S (pX8_wordToken_8 S f) q5.2 2 q e k (wst k + wln k)) else (some (256 + (k : Int), q5.2)) else (pX8_wordToken_59 S (pX8_wordToken_8 S f) M 2 q e k (wst k + wln k))) := by
      rw [pX8_wordToken_8]
      simp only [w_len, show ¬ (88 : Int) ≤ wst k + wln k by omega, if_false, show ((0 : Int) ≤ 0 ∧ (0 : Int) < 20) by decide, show 0 ≤ wst k + wln k by omega, show wst k + wln k < 88 by omega, and_self, if_true, sp, w1, w2, h.1.o, w5]
    rw [pre, wdF]
    by_cases z : wln k = e - q
    · rw [if_pos z]
      obtain ⟨v, a1, a2, a3⟩ := c_isWord (k := k) h hT ht hq hk
      rw [a1, Option.bind_some]
      rcases a2 with a2 | a2
      · rw [if_pos a2, if_neg (fun u => absurd (a3.2 u.2) (by rw [a2]; decide))]
        exact g M rfl
      · rw [if_neg (show ¬ v = 0 by rw [a2]; decide), if_pos ⟨z.symm, a3.1 a2⟩]
    · rw [if_neg z, if_neg (fun u => z u.1.symm)]
      exact g M rfl
theorem c_word (h : NW S M) (hT : TOk T B) (ht : CTp M T B) {q e : Int} (hq : 0 ≤ q ∧ q ≤ 400) (he : q ≤ e ∧ e ≤ 400) : pX8_wordToken S M 2 q e = some (wd T B q e, M) := by
  have := c_wt h hT ht hq he 19 0 zFU (by decide) (by have := zFU_gt (n := 100) (by decide); rw [wst0]; omega)
  rw [wst0] at this
  exact this
theorem c_tokenOf (h : NW S M) (hT : TOk T B) (ht : CTp M T B) {q : Int} (hq : 0 ≤ q ∧ q < T) : pX8_tokenOf S M 2 q (eot T B q) = some (tk T B q, M) := by
  have hb := hT.1
  have he := eot_b (B := B) hq
  have w1 : w32 (eot T B q - q) = eot T B q - q := w32_i (by omega) (by omega)
  unfold tk
  rw [if_neg (by omega)]
  by_cases z3 : isDg (bt T B q)
  · rw [if_pos z3]
    have hd : ∀ j, q ≤ j → j < eot T B q → isDg (bt T B j) := fun j a b => by
      have e : eot T B q = rn T B 48 57 q := by
        unfold eot
        rw [if_neg (by omega), if_pos z3, rn_y (by decide) z3]
      rw [e] at b
      exact rn_in a b
    simp only [pX8_tokenOf, h.1.o, if_true, c_byteAt h hT ht, Option.bind_some, c_isDg, if_pos z3, show ¬ (1 : Int) = 0 by decide, if_false, c_num h hT ht (p := q) (e := eot T B q) (by omega) hd]
  rw [if_neg z3]
  by_cases z4 : isLt (bt T B q)
  · rw [if_pos z4]
    simp only [pX8_tokenOf, h.1.o, if_true, c_byteAt h hT ht, Option.bind_some, c_isDg, if_neg z3, c_isLt, if_pos z4, show ¬ (1 : Int) = 0 by decide, if_false, c_word h hT ht (q := q) (e := eot T B q) (by omega) (by omega)]
  rw [if_neg z4]
  by_cases z : eot T B q - q = 2
  · simp only [pX8_tokenOf, h.1.o, if_true, c_byteAt h hT ht, Option.bind_some, c_isDg, if_neg z3, c_isLt, if_neg z4, w1, if_pos z]
  · simp only [pX8_tokenOf, h.1.o, if_true, c_byteAt h hT ht, Option.bind_some, c_isDg, if_neg z3, c_isLt, if_neg z4, w1, if_neg z]
/-- the tokens of the tape, one after another -/
def Cut (T : Int) (B : Int → Int) (M : ZM) (n : Int) : Prop := (0 ≤ n ∧ n ≤ 400) ∧ M 5 0 = sk T B 0 ∧ (∀ i, 0 ≤ i → i < n → (0 ≤ M 5 i ∧ M 5 i < T) ∧ M 4 i = tk T B (M 5 i) ∧ M 5 (i + 1) = nx T B (M 5 i)) ∧ M 4 n = 303 ∧ M 5 n = T
/-- while it is cut: n tokens so far, the next begins past the blanks at p -/
def Cu (T : Int) (B : Int → Int) (M : ZM) (n p : Int) : Prop := (∀ i, 0 ≤ i → i < n → (0 ≤ M 5 i ∧ M 5 i < T) ∧ M 4 i = tk T B (M 5 i)) ∧ (∀ i, 0 ≤ i → i + 1 < n → M 5 (i + 1) = nx T B (M 5 i)) ∧ (0 < n → M 5 0 = sk T B 0 ∧ nx T B (M 5 (n - 1)) = sk T B p) ∧ (n = 0 → sk T B p = sk T B 0)
theorem sk_b {p : Int} (h : p ≤ T) : p ≤ sk T B p ∧ sk T B p ≤ T := by
  have := rn_b (T := T) (B := B) (lo := 32) (hi := 32) (p := p)
  unfold sk; omega
theorem c_cut77 (h : NW S M) (hT : TOk T B) (ht : CTp M T B) {n p : Int} (hn : 0 ≤ n ∧ n ≤ 400) (hc : Cu T B M n p) (hp : T ≤ p) (hp2 : sk T B p = T) : ∃ M', pX8_cut_77 S M 2 n = some M' ∧ Cut T B M' n ∧ CTp M' T B ∧ FT M M' ∧ M' 2 4 = 0 ∧ M' 2 5 = 0 := by
  have e1 := ht.1
  obtain ⟨c1, c2, c3, c4⟩ := hc
  refine ⟨upM (upM (upM (upM M 4 n 303) 5 n T) 2 4 0) 2 5 0, ?_, ⟨hn, ?_, fun i a b => ?_, ?_, ?_⟩, ⟨?_, fun i a b => ?_⟩, ⟨fun x a b c d => by rw [upM_r a, upM_r a, upM_r d, upM_r c], fun j a b => by rw [upM_i (by omega), upM_i (by omega), upM_r (by decide), upM_r (by decide)]⟩, ?_, ?_⟩
  · have e2 : (upM M 4 n 303) 2 = M 2 := upM_r (by decide)
    simp only [pX8_cut_77, pX8_cut_101, h.1.o, h.2.o, hn.1, show n < 401 by omega, and_self, if_true, zlet, e2, e1]
  · rw [upM_r (by decide), upM_r (by decide)]
    by_cases z : n = 0
    · rw [z, upM_s, ← c4 z, hp2]
    · rw [upM_i (by omega), upM_r (by decide)]; exact (c3 (by omega)).1
  · have f5 : ∀ j, j ≠ n → upM (upM (upM (upM M 4 n 303) 5 n T) 2 4 0) 2 5 0 5 j = M 5 j := fun j y => by rw [upM_r (by decide), upM_r (by decide), upM_i y, upM_r (by decide)]
    have f4 : ∀ j, j ≠ n → upM (upM (upM (upM M 4 n 303) 5 n T) 2 4 0) 2 5 0 4 j = M 4 j := fun j y => by rw [upM_r (by decide), upM_r (by decide), upM_r (by decide), upM_i y]
    rw [f5 i (by omega), f4 i (by omega)]
    refine ⟨(c1 i a b).1, (c1 i a b).2, ?_⟩
    by_cases z : i + 1 = n
    · rw [z, upM_r (by decide), upM_r (by decide), upM_s, show i = n - 1 by omega, (c3 (by omega)).2, hp2]
    · rw [f5 (i + 1) z]; exact c2 i a (by omega)
  · rw [upM_r (by decide), upM_r (by decide), upM_r (by decide), upM_s]
  · rw [upM_r (by decide), upM_r (by decide), upM_s]
  · rw [upM_i (by decide), upM_i (by decide), upM_r (by decide), upM_r (by decide)]; exact e1
  · rw [upM_r (by decide), upM_r (by decide), upM_r (by decide), upM_r (by decide)]; exact ht.2 i a b
  · rw [upM_i (by decide), upM_s]
  · rw [upM_s]
theorem c_cut6 (hT : TOk T B) : ∀ (k fuel : Nat) (M : ZM) (n p i : Int), NW S M → CTp M T B → Cu T B M n p → (0 ≤ n ∧ n ≤ i ∧ i ≤ p ∧ p ≤ T) → T - p ≤ k → k < fuel → ∃ M' n', pX8_cut_6 S fuel M 2 n p i = some M' ∧ Cut T B M' n' ∧ CTp M' T B ∧ FT M M' ∧ M' 2 4 = 0 ∧ M' 2 5 = 0 := by
  have hb := hT.1
  intro k
  induction k with
  | zero =>
    intro fuel M n p i h ht hc hn h1 h2
    obtain ⟨f, rfl⟩ : ∃ f, fuel = f + 1 := ⟨fuel - 1, by omega⟩
    have e1 := ht.1
    have hp : p = T := by omega
    obtain ⟨M', a1, a2⟩ := c_cut77 h hT ht (by omega) hc (by omega) (by unfold sk; rw [rn_ge (by omega)]; exact hp)
    refine ⟨M', n, ?_, a2⟩
    by_cases z : 400 ≤ i
    · simp only [pX8_cut_6, if_pos z, a1]
    · simp only [pX8_cut_6, if_neg z, h.1.o, e1, show T ≤ p by omega, if_true, a1]
  | succ k ih =>
    intro fuel M n p i h ht hc hn h1 h2
    obtain ⟨f, rfl⟩ : ∃ f, fuel = f + 1 := ⟨fuel - 1, by omega⟩
    have e1 := ht.1
    by_cases hp : p = T
    · obtain ⟨M', a1, a2⟩ := c_cut77 h hT ht (by omega) hc (by omega) (by unfold sk; rw [rn_ge (by omega)]; exact hp)
      refine ⟨M', n, ?_, a2⟩
      by_cases z : 400 ≤ i
      · simp only [pX8_cut_6, if_pos z, a1]
      · simp only [pX8_cut_6, if_neg z, h.1.o, e1, show T ≤ p by omega, if_true, a1]
    · have hp' : 0 ≤ p ∧ p < T := by omega
      have he := eot_b (B := B) hp'
      have z : ¬ 400 ≤ i := by omega
      have w1 : w32 (i + 1) = i + 1 := w32_i (by omega) (by omega)
      by_cases s : bt T B p = 32
      · have ee : eot T B p = p + 1 := by
          unfold eot
          rw [if_neg (by omega), if_neg (by unfold isDg; omega), if_neg (by unfold isLt; omega)]
        have es : sk T B p = sk T B (p + 1) := rn_y (by decide) (by omega)
        obtain ⟨c1, c2, c3, c4⟩ := hc
        obtain ⟨M', n', a1, a2⟩ := ih f M n (p + 1) (i + 1) h ht ⟨c1, c2, fun u => ⟨(c3 u).1, by rw [← es]; exact (c3 u).2⟩, fun u => by rw [← es]; exact c4 u⟩ (by omega) (by omega) (by omega)
        refine ⟨M', n', ?_, a2⟩
        rw [← a1]
        simp only [pX8_cut_6, if_neg z, h.1.o, e1, show ¬ T ≤ p by omega, if_true, if_false, c_eot h hT ht hp', c_byteAt h hT ht, Option.bind_some, if_pos s, pX8_cut_68, w1, ee]
      · have es : sk T B p = p := rn_n (by decide) (by omega)
        obtain ⟨c1, c2, c3, c4⟩ := hc
        have n4 : ¬ 400 ≤ n := by omega
        have w2 : w32 (n + 1) = n + 1 := w32_i (by omega) (by omega)
        generalize hM2 : upM (upM M 4 n (tk T B p)) 5 n p = M2
        have f5 : ∀ j, j ≠ n → M2 5 j = M 5 j := fun j y => by rw [← hM2, upM_i y, upM_r (by decide)]
        have f4 : ∀ j, j ≠ n → M2 4 j = M 4 j := fun j y => by rw [← hM2, upM_r (by decide), upM_i y]
        have g5 : M2 5 n = p := by rw [← hM2, upM_s]
        have g4 : M2 4 n = tk T B p := by rw [← hM2, upM_r (by decide), upM_s]
        have fr : FT M M2 := ⟨fun x a b c d => by rw [← hM2, upM_r d, upM_r c], fun j a b => by rw [← hM2, upM_r (by decide), upM_r (by decide)]⟩
        have ht2 : CTp M2 T B := ⟨by rw [← hM2, upM_r (by decide), upM_r (by decide)]; exact e1, fun j a b => by rw [← hM2, upM_r (by decide), upM_r (by decide)]; exact ht.2 j a b⟩
        have hcu : Cu T B M2 (n + 1) (eot T B p) := by
          refine ⟨fun j a b => ?_, fun j a b => ?_, fun _ => ⟨?_, ?_⟩, fun u => by omega⟩
          · by_cases u : j = n
            · rw [u, g5, g4]; exact ⟨hp', rfl⟩
            · rw [f5 j u, f4 j u]; exact c1 j a (by omega)
          · by_cases u : j + 1 = n
            · rw [u, g5, f5 j (by omega), show j = n - 1 by omega, (c3 (by omega)).2, es]
            · rw [f5 (j + 1) u, f5 j (by omega)]; exact c2 j a (by omega)
          · by_cases u : n = 0
            · have := c4 u
              rw [u] at g5
              rw [g5, ← this, es]
            · rw [f5 0 (by omega)]; exact (c3 (by omega)).1
          · rw [show n + 1 - 1 = n by omega, g5]; rfl
        obtain ⟨M', n', a1, a2, a3, a4, a5⟩ := ih f M2 (n + 1) (eot T B p) (i + 1) (h.ft fr) ht2 hcu (by omega) (by omega) (by omega)
        refine ⟨M', n', ?_, a2, a3, fr.trans a4, a5⟩
        rw [← a1]
        have e2 : (upM M 4 n (tk T B p)) 2 = M 2 := upM_r (by decide)
        simp only [pX8_cut_6, if_neg z, h.1.o, h.2.o, e1, show ¬ T ≤ p by omega, if_true, if_false, c_eot h hT ht hp', c_byteAt h hT ht, Option.bind_some, if_neg s, if_neg n4, c_tokenOf h hT ht hp', show 0 ≤ n by omega, show n < 401 by omega, and_self, zlet, e2, hM2, pX8_cut_68, w1, w2]
theorem c_cut (h : NW S M) (hT : TOk T B) (ht : CTp M T B) : ∃ M' n, pX8_cut S M 2 = some M' ∧ Cut T B M' n ∧ CTp M' T B ∧ FT M M' ∧ M' 2 4 = 0 ∧ M' 2 5 = 0 :=
  c_cut6 hT T.toNat zFU M 0 0 0 h ht ⟨fun i a b => by omega, fun i a b => by omega, fun u => by omega, fun _ => rfl⟩ (by have := hT.1; omega) (by have := hT.1; omega) (zFU_gt (by have := hT.1; omega))
end
