theorem pure_law (xs : Int → Int) (hxs : ∀ i, in32 (xs i)) (L : Int) (hL : 0 ≤ L ∧ L ≤ 3072) : lawAll xs L := by
  sorry
