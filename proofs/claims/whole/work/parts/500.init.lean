/-! THE REFERENCE'S CELLS: 176 is the object, 177 .. 214 its rows -/
abbrev ShR (S : ZS) : Prop := S.1 176 = 12 ∧ (S.1 177 = 100 ∧ S.2.1 177 = 10) ∧ (S.1 178 = 100 ∧ S.2.1 178 = 5) ∧ (S.1 179 = 100 ∧ S.2.1 179 = 5) ∧ (S.1 180 = 100 ∧ S.2.1 180 = 36) ∧ (S.1 181 = 100 ∧ S.2.1 181 = 36) ∧ (S.1 182 = 100 ∧ S.2.1 182 = 12) ∧ (S.1 183 = 100 ∧ S.2.1 183 = 12) ∧ (S.1 184 = 100 ∧ S.2.1 184 = 36) ∧ (S.1 185 = 100 ∧ S.2.1 185 = 10) ∧ (S.1 186 = 100 ∧ S.2.1 186 = 10) ∧ (S.1 187 = 100 ∧ S.2.1 187 = 10) ∧ (S.1 188 = 100 ∧ S.2.1 188 = 5) ∧ (S.1 189 = 100 ∧ S.2.1 189 = 5) ∧ (S.1 190 = 100 ∧ S.2.1 190 = 4) ∧ (S.1 191 = 100 ∧ S.2.1 191 = 5) ∧ (S.1 192 = 100 ∧ S.2.1 192 = 5) ∧ (S.1 193 = 100 ∧ S.2.1 193 = 12) ∧ (S.1 194 = 100 ∧ S.2.1 194 = 12) ∧ (S.1 195 = 100 ∧ S.2.1 195 = 36) ∧ (S.1 196 = 102 ∧ S.2.1 196 = 400) ∧ (S.1 197 = 100 ∧ S.2.1 197 = 1800) ∧ (S.1 198 = 100 ∧ S.2.1 198 = 1800) ∧ (S.1 199 = 100 ∧ S.2.1 199 = 6) ∧ (S.1 200 = 100 ∧ S.2.1 200 = 72) ∧ (S.1 201 = 100 ∧ S.2.1 201 = 72) ∧ (S.1 202 = 100 ∧ S.2.1 202 = 72) ∧ (S.1 203 = 100 ∧ S.2.1 203 = 402) ∧ (S.1 204 = 101 ∧ S.2.1 204 = 12) ∧ (S.1 205 = 101 ∧ S.2.1 205 = 300) ∧ (S.1 206 = 100 ∧ S.2.1 206 = 1700) ∧ (S.1 207 = 100 ∧ S.2.1 207 = 1) ∧ (S.1 208 = 100 ∧ S.2.1 208 = 625) ∧ (S.1 209 = 100 ∧ S.2.1 209 = 16) ∧ (S.1 210 = 100 ∧ S.2.1 210 = 16) ∧ (S.1 211 = 100 ∧ S.2.1 211 = 252) ∧ (S.1 212 = 100 ∧ S.2.1 212 = 2196) ∧ (S.1 213 = 100 ∧ S.2.1 213 = 10000) ∧ (S.1 214 = 103 ∧ S.2.1 214 = 4)
abbrev PtR (M : ZM) : Prop := (M 176 1 = 177 ∧ M 176 2 = 178 ∧ M 176 3 = 179 ∧ M 176 4 = 180 ∧ M 176 5 = 181 ∧ M 176 6 = 182 ∧ M 176 7 = 183 ∧ M 176 8 = 184 ∧ M 176 9 = 185 ∧ M 176 10 = 186 ∧ M 176 11 = 187 ∧ M 176 12 = 188 ∧ M 176 13 = 189 ∧ M 176 14 = 190 ∧ M 176 15 = 191 ∧ M 176 16 = 192 ∧ M 176 17 = 193 ∧ M 176 18 = 194 ∧ M 176 19 = 195) ∧ (M 176 30 = 196 ∧ M 176 31 = 197 ∧ M 176 32 = 198 ∧ M 176 33 = 199 ∧ M 176 34 = 200 ∧ M 176 35 = 201 ∧ M 176 36 = 202 ∧ M 176 37 = 203 ∧ M 176 38 = 204 ∧ M 176 39 = 205 ∧ M 176 40 = 206 ∧ M 176 41 = 207) ∧ (M 176 45 = 208 ∧ M 176 46 = 209 ∧ M 176 47 = 210 ∧ M 176 48 = 211 ∧ M 176 49 = 212 ∧ M 176 50 = 213 ∧ M 176 51 = 214)
theorem in_1 : (pX11_init (zNewS S0 11 0) (zNewM S0 M0) 1).isSome = true := by decide +kernel
noncomputable def Q0 : ZS × ZM := (pX11_init (zNewS S0 11 0) (zNewM S0 M0) 1).getD (S0, M0)
theorem in_2 : Q0.1.2.2 = 175 := by decide +kernel
theorem in_3 : (pX12_init (zNewS Q0.1 12 0) (zNewM Q0.1 Q0.2) (Q0.1.2.2 + 1)).isSome = true := by decide +kernel
noncomputable def Q1 : ZS × ZM := (pX12_init (zNewS Q0.1 12 0) (zNewM Q0.1 Q0.2) (Q0.1.2.2 + 1)).getD (S0, M0)
theorem in_4 : Q1.1.2.2 = 214 := by decide +kernel
theorem in_5 : ShR Q1.1 := by
  repeat' apply And.intro
  all_goals decide +kernel
theorem in_6 : PtR Q1.2 := by
  repeat' apply And.intro
  all_goals decide +kernel
theorem upM_ap (M : ZM) (a i v b j : Int) : upM M a i v b j = if b = a ∧ j = i then v else M b j := rfl
theorem w32_i {x : Int} (h1 : -2147483648 ≤ x) (h2 : x ≤ 2147483647) : w32 x = x := w32_id ⟨h1, h2⟩
/-- counting upwards -/
def cnt (f : Int → Prop) [DecidablePred f] : Nat → Int → Int
  | 0, _ => 0
  | k + 1, c => (if f c then 1 else 0) + cnt f k (c + 1)
theorem cnt_b (f : Int → Prop) [DecidablePred f] : ∀ (k : Nat) (c : Int), 0 ≤ cnt f k c ∧ cnt f k c ≤ k := by
  intro k
  induction k with
  | zero => intro c; exact ⟨Int.le_refl 0, Int.le_refl 0⟩
  | succ k ih =>
    intro c
    have := ih (c + 1)
    simp only [cnt]
    split <;> omega
