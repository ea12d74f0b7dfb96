def pW (ea eb sa sb : Int32) (m : Prop) [Decidable m] : Int32 := if ea = 0 then 0 else if eb = 0 then 0 else if m then 1 else if sa = 0 then 1 else if sb = 0 then 1 else 0
theorem two352 {τ : sm_S} {r a b : Nat} (hr : r < 8) (ha : a < 8) (hb : b < 8) (k t t2 : Int32) (v : Int64) : f_X6_two_352 (nI r) (nI a) (nI b) k t t2 τ v = (0, uI (uI (uL (uI τ 1 r (if t = 0 then k else 0)) 3 r v) 2 r (τ.1 2 a ||| τ.1 2 b)) 4 r (pE (τ.1 2 a ||| τ.1 2 b) (pW (τ.1 4 a) (τ.1 4 b) (τ.1 2 a) (τ.1 2 b) (2 ≤ k ∨ t2 = 0)))) := by
  unfold f_X6_two_352 f_X6_two_407 f_X6_two_403
  have h408 : ∀ e, f_X6_two_408 v (nI r) (nI a) (nI b) k t τ e = (0, uI (uI (uL (uI τ 1 r (if t = 0 then k else 0)) 3 r v) 2 r (τ.1 2 a ||| τ.1 2 b)) 4 r (pE (τ.1 2 a ||| τ.1 2 b) e)) := by
    intro e
    unfold f_X6_two_408 f_X6_two_442
    simp only [sm_le]
    rw [nI_cl (show a < 2 ^ 31 by omega), nI_cl (show b < 2 ^ 31 by omega), put_eq, put_eq, nI_cl (show r < 2 ^ 31 by omega)]
    by_cases c : t = 0
    · rw [if_pos c, if_pos c]
    · rw [if_neg c, if_neg c]
  rw [h408, h408, nI_cl (show a < 2 ^ 31 by omega), nI_cl (show b < 2 ^ 31 by omega)]
  unfold pW
  by_cases c1 : τ.1 4 a = 0
  · rw [if_pos c1, if_pos c1]
  · rw [if_neg c1, if_neg c1]
    by_cases c2 : τ.1 4 b = 0
    · rw [if_pos c2, if_pos c2]
    · rw [if_neg c2, if_neg c2]
      by_cases c3 : 2 ≤ k
      · rw [if_pos c3, if_pos (Or.inl c3)]
      · rw [if_neg c3]
        by_cases c4 : t2 = 0
        · rw [if_pos c4, if_pos (Or.inr c4)]
        · rw [if_neg c4, if_neg (show ¬ (2 ≤ k ∨ t2 = 0) from fun q => q.elim c3 c4)]
          by_cases c5 : τ.1 2 a = 0
          · rw [if_pos c5, if_pos c5]
          · rw [if_neg c5, if_neg c5]
            by_cases c6 : τ.1 2 b = 0
            · rw [if_pos c6, if_pos c6]
            · rw [if_neg c6, if_neg c6]
theorem x_sh34 {σ τ : sm_S} {a b : Nat} (h : Rel σ τ) (ha : a < 8) (hb : b < 8) (o : Int32) (m : Prop) [Decidable m] (hm : m ↔ f_X3_mixes o = 0) : ∃ sh, f_X5_shadowOfTwo_34 o (nI a) (nI b) σ = (sh, σ) ∧ SR sh (τ.1 2 a ||| τ.1 2 b) (pE (τ.1 2 a ||| τ.1 2 b) (pW (τ.1 4 a) (τ.1 4 b) (τ.1 2 a) (τ.1 2 b) m)) := by
  have ga := (h.rg a ha).2.2.2
  have gb := (h.rg b hb).2.2.2
  have hj := ga.join gb
  have hk := hj.keep
  have hi := hj.inex
  unfold f_X5_shadowOfTwo_34 f_X5_shadowOfTwo_79 f_X5_shadowOfTwo_80
  simp only [sm_le]
  rw [nI_cl (show a < 2 ^ 31 by omega), nI_cl (show b < 2 ^ 31 by omega), ga.a63, gb.a63]
  generalize f_X5_joined (σ.1 3 a) (σ.1 3 b) = J at hj hk hi ⊢
  generalize τ.1 2 a ||| τ.1 2 b = S at hj hk hi ⊢
  unfold pW
  have e0 : ∀ z : Int32, (if τ.1 4 a = 0 then (0 : Int32) else if τ.1 4 b = 0 then 0 else z) = if z = 0 then 0 else (if τ.1 4 a = 0 then (0 : Int32) else if τ.1 4 b = 0 then 0 else z) := by
    intro z
    by_cases q : z = 0
    · rw [if_pos q, q]
      repeat' split
      all_goals rfl
    · rw [if_neg q]
  by_cases c1 : τ.1 2 a = 0
  · rw [if_pos c1]
    refine ⟨J, rfl, ?_⟩
    have e1 : (if m then (1 : Int32) else if τ.1 2 a = 0 then 1 else if τ.1 2 b = 0 then 1 else 0) = 1 := by
      rw [if_pos c1]
      split <;> rfl
    rw [e1]
    exact hk
  · rw [if_neg c1]
    by_cases c2 : τ.1 2 b = 0
    · rw [if_pos c2]
      refine ⟨J, rfl, ?_⟩
      have e1 : (if m then (1 : Int32) else if τ.1 2 a = 0 then 1 else if τ.1 2 b = 0 then 1 else 0) = 1 := by
        rw [if_neg c1, if_pos c2]
        split <;> rfl
      rw [e1]
      exact hk
    · rw [if_neg c2, if_neg (show ¬ (1 : Int32) = 0 by decide)]
      by_cases c3 : f_X3_mixes o = 0
      · rw [if_pos c3]
        refine ⟨J, rfl, ?_⟩
        rw [if_pos (hm.mpr c3)]
        exact hk
      · rw [if_neg c3]
        refine ⟨_, rfl, ?_⟩
        rw [if_neg (fun q => c3 (hm.mp q)), if_neg c1, if_neg c2, e0 0, if_pos rfl]
        exact hi
def hrd (a : Nat) : Int32 := if 22 ≤ a ∧ a ≤ 24 then 1 else 0
theorem hrd_m : ∀ a, a < 15 → ((hrd (20 + a) = 0) ↔ f_X3_mixes (nI (20 + a)) = 0) := by decide +kernel
theorem two_A {τ : sm_S} {x2 x3 x4 : Int32} (a b : Nat) (ha : 20 ≤ a) (ha2 : a ≤ 32) (hb : b < 2) : f_X6_two_159 (nI a) x2 x3 x4 (nI b) 0 τ = if (a = 23 ∨ a = 24) ∧ τ.2.1 3 x4.toNatClampNeg = 0 then (-2, uI τ 0 2 (τ.1 0 2 + 1)) else f_X6_two_352 x2 x3 x4 (nI b) 0 (hrd a) τ (f_X6_whole (nI a) (nI b) (τ.2.1 3 x3.toNatClampNeg) (τ.2.1 3 x4.toNatClampNeg)) := by
  unfold f_X6_two_159 f_X6_two_175 f_X6_two_176 f_X6_two_196 f_X6_two_221 f_X6_two_246 f_X6_two_304 hrd
  rcases (by omega : b = 0 ∨ b = 1) with rfl | rfl
  all_goals rcases (by omega : a = 20 ∨ a = 21 ∨ a = 22 ∨ a = 23 ∨ a = 24 ∨ a = 25 ∨ a = 26 ∨ a = 27 ∨ a = 28 ∨ a = 29 ∨ a = 30 ∨ a = 31 ∨ a = 32) with rfl | rfl | rfl | rfl | rfl | rfl | rfl | rfl | rfl | rfl | rfl | rfl | rfl <;> simp (decide := true) only [if_true, if_false, true_and, false_and, sm_le] <;> rfl
theorem two_B {τ : sm_S} {x2 x3 x4 : Int32} (a b : Nat) (ha : a = 33 ∨ a = 34) (hb : b < 4) (hb0 : b ≠ 0) : f_X6_two_159 (nI a) x2 x3 x4 (nI b) 1 τ = f_X6_two_352 x2 x3 x4 (nI b) 1 0 (f_X6_compared τ (nI b) (τ.2.1 3 x3.toNatClampNeg) (τ.2.1 3 x4.toNatClampNeg) (if a = 33 then -1 else 1)).2 (f_X6_compared τ (nI b) (τ.2.1 3 x3.toNatClampNeg) (τ.2.1 3 x4.toNatClampNeg) (if a = 33 then -1 else 1)).1.toInt64 := by
  unfold f_X6_two_159 f_X6_two_175 f_X6_two_176 f_X6_two_196 f_X6_two_221 f_X6_two_246 f_X6_two_278
  rcases (by omega : b = 1 ∨ b = 2 ∨ b = 3) with rfl | rfl | rfl
  all_goals rcases ha with rfl | rfl <;> simp (decide := true) only [if_true, if_false, sm_le]
theorem two_C {τ : sm_S} {x2 x3 x4 : Int32} (a i : Nat) (ha : 20 ≤ a) (ha2 : a ≤ 24) (hi : i = 0 ∨ i = 1) : f_X6_two_159 (nI a) x2 x3 x4 (kI i) 0 τ = f_X6_two_336 x2 x3 x4 (kI i) 0 (hrd a) (nI a) (f_X6_fix (f_X6_fix τ x3 (nI a)) x4 (nI a)) (wI i) := by
  unfold f_X6_two_159 f_X6_two_175 f_X6_two_176 f_X6_two_196 f_X6_two_221 f_X6_two_246 hrd
  rcases hi with rfl | rfl
  all_goals rcases (by omega : a = 20 ∨ a = 21 ∨ a = 22 ∨ a = 23 ∨ a = 24) with rfl | rfl | rfl | rfl | rfl <;> simp (decide := true) only [if_true, if_false, sm_le] <;> rfl
theorem two_D {τ : sm_S} {x2 x3 x4 : Int32} (a i : Nat) (ha : a = 25 ∨ a = 26) (hi : i = 0 ∨ i = 1) : f_X6_two_159 (nI a) x2 x3 x4 (kI i) 0 τ = f_X6_two_336 x2 x3 x4 (kI i) 0 0 (nI a) τ (wI i) := by
  unfold f_X6_two_159 f_X6_two_175 f_X6_two_176 f_X6_two_196 f_X6_two_221 f_X6_two_246
  rcases hi with rfl | rfl
  all_goals rcases ha with rfl | rfl <;> simp (decide := true) only [if_true, if_false, sm_le] <;> rfl
