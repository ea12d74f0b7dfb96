/-! operations of two operands -/
def acc2 (a b c : Nat) : Bool := if 27 ≤ a ∧ a ≤ 29 then decide (b < 2 ∧ c = 0) else decide (b = c) && (if 30 ≤ a ∧ a ≤ 32 then decide (b < 2) else if 33 ≤ a then decide (b ≠ 0) else true)
theorem tk2 : ∀ a, a < 15 → ∀ b, b < 4 → ∀ c, c < 4 → (decide (f_X3_takes (nI (20 + a)) (nI b) (nI c) = 0) = !acc2 (20 + a) b c) := by decide +kernel
theorem two_ref {τ : sm_S} {x2 x3 x4 : Int32} (a b c : Nat) (ha : 20 ≤ a) (ha2 : a ≤ 34) (hb : b < 4) (hc : c < 4) (c2 : inR x2 8) (c3 : inR x3 8) (c4 : inR x4 8) (hk : τ.1 1 x3.toNatClampNeg = nI b) (hk2 : τ.1 1 x4.toNatClampNeg = nI c) : f_X6_two τ (nI a) x2 x3 x4 = if acc2 a b c = true then f_X6_two_159 (nI a) x2 x3 x4 (nI b) (if a ≤ 32 then 0 else 1) τ else (-1, τ) := by
  unfold f_X6_two f_X6_two_69 f_X6_two_70 f_X6_two_88 f_X6_two_89 f_X6_two_102 f_X6_two_136 f_X6_two_147
  rw [if_pos (pM8 c2), if_pos (pM8 c3), if_pos (pM8 c4), hk, hk2]
  simp only [sm_le]
  rcases (by omega : b = 0 ∨ b = 1 ∨ b = 2 ∨ b = 3) with rfl | rfl | rfl | rfl
  · rcases (by omega : c = 0 ∨ c = 1 ∨ c = 2 ∨ c = 3) with rfl | rfl | rfl | rfl
    all_goals rcases (by omega : a = 20 ∨ a = 21 ∨ a = 22 ∨ a = 23 ∨ a = 24 ∨ a = 25 ∨ a = 26 ∨ a = 27 ∨ a = 28 ∨ a = 29 ∨ a = 30 ∨ a = 31 ∨ a = 32 ∨ a = 33 ∨ a = 34) with rfl | rfl | rfl | rfl | rfl | rfl | rfl | rfl | rfl | rfl | rfl | rfl | rfl | rfl | rfl <;> simp (decide := true) only [if_true, if_false]
  · rcases (by omega : c = 0 ∨ c = 1 ∨ c = 2 ∨ c = 3) with rfl | rfl | rfl | rfl
    all_goals rcases (by omega : a = 20 ∨ a = 21 ∨ a = 22 ∨ a = 23 ∨ a = 24 ∨ a = 25 ∨ a = 26 ∨ a = 27 ∨ a = 28 ∨ a = 29 ∨ a = 30 ∨ a = 31 ∨ a = 32 ∨ a = 33 ∨ a = 34) with rfl | rfl | rfl | rfl | rfl | rfl | rfl | rfl | rfl | rfl | rfl | rfl | rfl | rfl | rfl <;> simp (decide := true) only [if_true, if_false]
  · rcases (by omega : c = 0 ∨ c = 1 ∨ c = 2 ∨ c = 3) with rfl | rfl | rfl | rfl
    all_goals rcases (by omega : a = 20 ∨ a = 21 ∨ a = 22 ∨ a = 23 ∨ a = 24 ∨ a = 25 ∨ a = 26 ∨ a = 27 ∨ a = 28 ∨ a = 29 ∨ a = 30 ∨ a = 31 ∨ a = 32 ∨ a = 33 ∨ a = 34) with rfl | rfl | rfl | rfl | rfl | rfl | rfl | rfl | rfl | rfl | rfl | rfl | rfl | rfl | rfl <;> simp (decide := true) only [if_true, if_false]
  · rcases (by omega : c = 0 ∨ c = 1 ∨ c = 2 ∨ c = 3) with rfl | rfl | rfl | rfl
    all_goals rcases (by omega : a = 20 ∨ a = 21 ∨ a = 22 ∨ a = 23 ∨ a = 24 ∨ a = 25 ∨ a = 26 ∨ a = 27 ∨ a = 28 ∨ a = 29 ∨ a = 30 ∨ a = 31 ∨ a = 32 ∨ a = 33 ∨ a = 34) with rfl | rfl | rfl | rfl | rfl | rfl | rfl | rfl | rfl | rfl | rfl | rfl | rfl | rfl | rfl <;> simp (decide := true) only [if_true, if_false]
