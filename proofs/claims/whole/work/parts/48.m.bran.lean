/-! branches and counts -/
theorem in6 {x : Int32} (h : inR x 6) : x = 0 ∨ x = 1 ∨ x = 2 ∨ x = 3 ∨ x = 4 ∨ x = 5 := by
  obtain ⟨r, hr, rfl⟩ := h
  rcases (by omega : r = 0 ∨ r = 1 ∨ r = 2 ∨ r = 3 ∨ r = 4 ∨ r = 5) with rfl | rfl | rfl | rfl | rfl | rfl <;> decide
theorem br_so (x1 x2 x3 : Int32) (τ : sm_S) (v w : Int64) (h : inR x1 6) : (if 2 ≤ x1 then (if 4 ≤ x1 then (if v ≤ w then f_X6_branch_121 x1 x2 x3 τ 0 else f_X6_branch_121 x1 x2 x3 τ 1) else (if w ≤ v then f_X6_branch_121 x1 x2 x3 τ 0 else f_X6_branch_121 x1 x2 x3 τ 1)) else (if v = w then f_X6_branch_121 x1 x2 x3 τ 1 else f_X6_branch_121 x1 x2 x3 τ 0)) = f_X6_branch_144 x2 x3 τ (f_X5_isSo x1 v w) := by
  have e1 : ∀ t, (if (0 : Int32) - 0 / 2 * 2 = 0 then f_X6_branch_136 x2 x3 t τ 1 else f_X6_branch_136 x2 x3 t τ 0) = f_X6_branch_136 x2 x3 t τ 1 := fun t => if_pos (by decide)
  have e2 : ∀ t, (if (2 : Int32) - 2 / 2 * 2 = 0 then f_X6_branch_136 x2 x3 t τ 1 else f_X6_branch_136 x2 x3 t τ 0) = f_X6_branch_136 x2 x3 t τ 1 := fun t => if_pos (by decide)
  have e4 : ∀ t, (if (4 : Int32) - 4 / 2 * 2 = 0 then f_X6_branch_136 x2 x3 t τ 1 else f_X6_branch_136 x2 x3 t τ 0) = f_X6_branch_136 x2 x3 t τ 1 := fun t => if_pos (by decide)
  have o1 : ∀ t, (if (1 : Int32) - 1 / 2 * 2 = 0 then f_X6_branch_136 x2 x3 t τ 1 else f_X6_branch_136 x2 x3 t τ 0) = f_X6_branch_136 x2 x3 t τ 0 := fun t => if_neg (by decide)
  have o3 : ∀ t, (if (3 : Int32) - 3 / 2 * 2 = 0 then f_X6_branch_136 x2 x3 t τ 1 else f_X6_branch_136 x2 x3 t τ 0) = f_X6_branch_136 x2 x3 t τ 0 := fun t => if_neg (by decide)
  have o5 : ∀ t, (if (5 : Int32) - 5 / 2 * 2 = 0 then f_X6_branch_136 x2 x3 t τ 1 else f_X6_branch_136 x2 x3 t τ 0) = f_X6_branch_136 x2 x3 t τ 0 := fun t => if_neg (by decide)
  have p11 : f_X6_branch_136 x2 x3 1 τ 1 = f_X6_branch_144 x2 x3 τ 1 := by unfold f_X6_branch_136; rw [if_pos rfl]
  have p00 : f_X6_branch_136 x2 x3 0 τ 0 = f_X6_branch_144 x2 x3 τ 1 := by unfold f_X6_branch_136; rw [if_pos rfl]
  have p10 : f_X6_branch_136 x2 x3 1 τ 0 = f_X6_branch_144 x2 x3 τ 0 := by unfold f_X6_branch_136; rw [if_neg (by decide)]
  have p01 : f_X6_branch_136 x2 x3 0 τ 1 = f_X6_branch_144 x2 x3 τ 0 := by unfold f_X6_branch_136; rw [if_neg (by decide)]
  unfold f_X6_branch_121 f_X5_isSo
  rcases in6 h with rfl | rfl | rfl | rfl | rfl | rfl
  · rw [if_neg (show ¬ (2 : Int32) ≤ 0 by decide), if_pos rfl, e1, e1, p11, p01]
    split <;> rfl
  · rw [if_neg (show ¬ (2 : Int32) ≤ 1 by decide), if_neg (show ¬ (1 : Int32) = 0 by decide), if_pos rfl, o1, o1, p10, p00]
    split <;> rfl
  · rw [if_pos (show (2 : Int32) ≤ 2 by decide), if_neg (show ¬ (4 : Int32) ≤ 2 by decide), if_neg (show ¬ (2 : Int32) = 0 by decide), if_neg (show ¬ (2 : Int32) = 1 by decide), if_pos rfl, e2, e2, p11, p01]
    split <;> rfl
  · rw [if_pos (show (2 : Int32) ≤ 3 by decide), if_neg (show ¬ (4 : Int32) ≤ 3 by decide), if_neg (show ¬ (3 : Int32) = 0 by decide), if_neg (show ¬ (3 : Int32) = 1 by decide), if_neg (show ¬ (3 : Int32) = 2 by decide), if_pos rfl, o3, o3, p10, p00]
    by_cases c : v < w
    · rw [if_neg (Int64.not_le.mpr c), if_pos c]
    · rw [if_pos (Int64.not_lt.mp c), if_neg c]
  · rw [if_pos (show (2 : Int32) ≤ 4 by decide), if_pos (show (4 : Int32) ≤ 4 by decide), if_neg (show ¬ (4 : Int32) = 0 by decide), if_neg (show ¬ (4 : Int32) = 1 by decide), if_neg (show ¬ (4 : Int32) = 2 by decide), if_neg (show ¬ (4 : Int32) = 3 by decide), if_pos rfl, e4, e4, p11, p01]
    split <;> rfl
  · rw [if_pos (show (2 : Int32) ≤ 5 by decide), if_pos (show (4 : Int32) ≤ 5 by decide), if_neg (show ¬ (5 : Int32) = 0 by decide), if_neg (show ¬ (5 : Int32) = 1 by decide), if_neg (show ¬ (5 : Int32) = 2 by decide), if_neg (show ¬ (5 : Int32) = 3 by decide), if_neg (show ¬ (5 : Int32) = 4 by decide), o5, o5, p10, p00]
    by_cases c : w < v
    · rw [if_neg (Int64.not_le.mpr c), if_pos c]
    · rw [if_pos (Int64.not_lt.mp c), if_neg c]
/-- a way is noted -/
theorem Rel.way {σ τ : sm_S} {a b : Nat} (h : Rel σ τ) (ha : a < 8) (hb : b < 8) (t : Int32) : (f_X5_branch_52 (nI a) (nI b) σ t).1 = (f_X6_branch_144 (nI a) (nI b) τ t).1 ∧ Rel (f_X5_branch_52 (nI a) (nI b) σ t).2 (f_X6_branch_144 (nI a) (nI b) τ t).2 := by
  have j := (h.rg a ha).2.2.2.join (h.rg b hb).2.2.2
  unfold f_X5_branch_52 f_X6_branch_144 f_X5_branch_103
  simp only [sm_le]
  rw [nI_cl (show a < 2 ^ 31 by omega), nI_cl (show b < 2 ^ 31 by omega), j.a63]
  by_cases c : τ.1 2 a ||| τ.1 2 b = 0
  · rw [if_pos c, if_pos c]
    exact ⟨rfl, h⟩
  · rw [if_neg c, if_neg c, show ((Int32.toInt 15 - (0 : Int32).toInt).toNat + 1) = 16 from rfl, show (15 : Int32) = nI 15 from rfl]
    obtain ⟨ρ, f0, f1, f2⟩ := br_169 (nI a) (nI b) t 15 16 τ (by decide) (by decide)
    rw [f0]
    rw [nI_cl (show a < 2 ^ 31 by omega), nI_cl (show b < 2 ^ 31 by omega)] at f2
    have hx : (if f_X5_joined (σ.1 3 a) (σ.1 3 b) &&& 64 = 0 then ((t, f_X2_add 8 σ t (τ.1 2 a ||| τ.1 2 b) 0) : Int32 × sm_S) else (t, f_X2_add 8 σ t (τ.1 2 a ||| τ.1 2 b) 1)) = (t, f_X2_add 8 σ t (τ.1 2 a ||| τ.1 2 b) (if τ.1 4 a = 0 then 0 else if τ.1 4 b = 0 then 0 else 1)) := by
      have h64 := j.a64
      by_cases e : f_X5_joined (σ.1 3 a) (σ.1 3 b) &&& 64 = 0
      · rw [if_pos e]
        rw [h64] at e
        rw [e]
      · rw [if_neg e]
        rw [h64] at e
        by_cases q1 : τ.1 4 a = 0
        · rw [if_pos q1] at e
          exact absurd rfl e
        · rw [if_neg q1] at e ⊢
          by_cases q2 : τ.1 4 b = 0
          · rw [if_pos q2] at e
            exact absurd rfl e
          · rw [if_neg q2]
    rw [hx]
    refine ⟨rfl, ?_⟩
    generalize (if τ.1 4 a = 0 then (0 : Int32) else if τ.1 4 b = 0 then 0 else 1) = w at f2 ⊢
    generalize τ.1 2 a ||| τ.1 2 b = z at f2 ⊢
    obtain ⟨a1, a2⟩ := add_eq 8 σ t z w
    generalize f_X2_add 8 σ t z w = π at a1 a2 ⊢
    dsimp only
    have fo : ∀ x, x ≠ 0 → x ≠ 10 → x ≠ 11 → x ≠ 12 → ρ.1 x = τ.1 x := fun x h0 h2 h4 h8 => by
      funext j
      rw [f2]
      simp [h0, h2, h4, h8]
    have f0r : ∀ j, ρ.1 0 j = if j = 1 then τ.1 0 1 + 1 else τ.1 0 j := fun j => by rw [f2]; simp
    have ao : ∀ x, x ≠ 8 → x ≠ 9 → π.1 x = σ.1 x := fun x h6 h7 => by
      funext j
      rw [a2]
      simp [h6, h7]
    have l1 : π.2.1 = σ.2.1 := by rw [a1]
    have l2 : π.2.2 = σ.2.2 := by rw [a1]
    have m1 : ρ.2.1 = τ.2.1 := by rw [f1]
    refine ⟨?_, ?_, ?_, ?_, ?_, ?_, ?_, ?_, ?_, ?_⟩
    · exact ⟨by rw [l2]; exact h.ix.1, fun i hi => by rw [ao _ (by omega) (by omega)]; exact h.ix.2 i hi⟩
    · unfold invM
      rw [fo 5 (by decide) (by decide) (by decide) (by decide), fo 7 (by decide) (by decide) (by decide) (by decide)]
      exact h.im
    · intro p hp
      rw [ao 1 (by decide) (by decide), ao 3 (by decide) (by decide), fo 1 (by decide) (by decide) (by decide) (by decide), fo 2 (by decide) (by decide) (by decide) (by decide), fo 4 (by decide) (by decide) (by decide) (by decide), l1, m1]
      exact h.rg p hp
    · intro y hy
      rcases h.ar y hy with ⟨q1, q2⟩ | ⟨p, s, q1, q2, q3, q4, q5⟩
      · exact Or.inl ⟨by rw [l2]; exact q1, by rw [fo 5 (by decide) (by decide) (by decide) (by decide)]; exact q2⟩
      · exact Or.inr ⟨p, s, q1, q2, by rw [l2]; exact q3, by rw [fo 5 (by decide) (by decide) (by decide) (by decide)]; exact q4, q5.cg (fun j => by rw [ao _ (by omega) (by omega)]) (fun k _ => ⟨by rw [l1], by rw [ao _ (by omega) (by omega)]⟩) (by rw [fo 6 (by decide) (by decide) (by decide) (by decide)]) (by rw [fo 7 (by decide) (by decide) (by decide) (by decide)]) (fun k _ => ⟨by rw [m1], by rw [fo 2 (by decide) (by decide) (by decide) (by decide)], by rw [fo 4 (by decide) (by decide) (by decide) (by decide)]⟩)⟩
    · intro x y hx hy
      rw [l2, fo 5 (by decide) (by decide) (by decide) (by decide)]
      exact h.aj x y hx hy
    · rw [ao 0 (by decide) (by decide), f0r]
      exact h.ex
    · rw [ao 6 (by decide) (by decide), f0r]
      exact h.pc
    · rw [a2, f0r]
      simp [h.wc]
    · intro k hk
      rw [ao 6 (by decide) (by decide), ao 7 (by decide) (by decide), fo 8 (by decide) (by decide) (by decide) (by decide), fo 9 (by decide) (by decide) (by decide) (by decide)]
      exact h.pn k hk
    · intro k hk
      have e6 : π.1 8 0 = σ.1 8 0 + 1 := by rw [a2]; simp
      have e7 : ∀ j, π.1 9 j = if j = rS (σ.1 8 0) then t else if j = rS (σ.1 8 0) + 1 then z else if j = rS (σ.1 8 0) + 2 then w else σ.1 9 j := fun j => by rw [a2]; simp
      have f10 : ρ.1 10 k = shf (τ.1 10) 15 t k := by rw [f2]; simp
      have f11 : ρ.1 11 k = shf (τ.1 11) 15 z k := by rw [f2]; simp
      have f12 : ρ.1 12 k = shf (τ.1 12) 15 w k := by rw [f2]; simp
      rw [e6, e7, e7, e7, f10, f11, f12]
      unfold shf
      by_cases k0 : k = 0
      · subst k0
        rw [rI_0]
        simp
      · obtain ⟨r1, r2⟩ := rI_s (σ.1 8 0) (show 1 ≤ k by omega) hk
        rw [r1, if_neg k0, if_neg k0, if_neg k0, if_pos (show k ≤ 15 by omega), if_pos (show k ≤ 15 by omega), if_pos (show k ≤ 15 by omega)]
        rw [if_neg (by omega), if_neg (by omega), if_neg (by omega), if_neg (by omega), if_neg (by omega), if_neg (by omega), if_neg (by omega), if_neg (by omega), if_neg (by omega)]
        exact h.wn (k - 1) (by omega)
theorem so_01 (x : Int32) (v w : Int64) : f_X5_isSo x v w = 0 ∨ f_X5_isSo x v w = 1 := by
  unfold f_X5_isSo
  repeat' split
  all_goals first | exact Or.inl rfl | exact Or.inr rfl
theorem st_branch {σ τ : sm_S} (h : Rel σ τ) (x1 : Int32) (x2 : Int32) (x3 : Int32) : (f_X5_branch σ x1 x2 x3).1 = (f_X6_branch τ x1 x2 x3).1 ∧ Rel (f_X5_branch σ x1 x2 x3).2 (f_X6_branch τ x1 x2 x3).2 := by
  unfold f_X5_branch f_X6_branch
  simp only [sm_le]
  by_cases c1 : inR x1 6
  · by_cases c2 : inR x2 8
    · by_cases c3 : inR x3 8
      · rw [if_neg (pX6 c1), if_pos (pM6 c1), if_pos (pM8 c2), if_pos (pM8 c3)]
        by_cases c4 : σ.1 1 x2.toNatClampNeg = 0
        · rw [if_neg (pI c2 c4)]
          by_cases c5 : σ.1 1 x3.toNatClampNeg = 0
          · rw [if_neg (pI c3 c5), br_so x1 x2 x3 τ _ _ c1]
            obtain ⟨a, ha, rfl⟩ := c2
            obtain ⟨b, hb, rfl⟩ := c3
            rw [nI_cl (show a < 2 ^ 31 by omega)] at c4
            rw [nI_cl (show b < 2 ^ 31 by omega)] at c5
            rw [nI_cl (show a < 2 ^ 31 by omega), nI_cl (show b < 2 ^ 31 by omega), if_pos (show τ.1 1 a = 0 by rw [← (h.rg a ha).1]; exact c4), if_pos (show τ.1 1 b = 0 by rw [← (h.rg b hb).1]; exact c5), (h.rg a ha).2.1, (h.rg b hb).2.1]
            rcases so_01 x1 (τ.2.1 3 a) (τ.2.1 3 b) with e | e
            · rw [if_pos e, e]
              exact h.way ha hb 0
            · rw [if_neg (by rw [e]; decide), e]
              exact h.way ha hb 1
          · rw [if_pos (nI2 c3 c5)]
            obtain ⟨a, ha, rfl⟩ := c2
            obtain ⟨b, hb, rfl⟩ := c3
            rw [nI_cl (show a < 2 ^ 31 by omega), (h.rg a ha).1] at c4
            rw [nI_cl (show b < 2 ^ 31 by omega), (h.rg b hb).1] at c5
            rw [nI_cl (show a < 2 ^ 31 by omega), nI_cl (show b < 2 ^ 31 by omega), if_pos c4, if_neg c5]
            exact ⟨rfl, h⟩
        · rw [if_pos (nI2 c2 c4)]
          obtain ⟨a, ha, rfl⟩ := c2
          rw [nI_cl (show a < 2 ^ 31 by omega), (h.rg a ha).1] at c4
          rw [nI_cl (show a < 2 ^ 31 by omega), if_neg c4]
          exact ⟨rfl, h⟩
      · rw [if_neg (pX6 c1), if_pos (pM6 c1), if_pos (pM8 c2), if_neg (nM8 c3)]
        by_cases c4 : σ.1 1 x2.toNatClampNeg = 0
        · rw [if_neg (pI c2 c4), if_pos (nI1 c3)]
          exact ⟨rfl, h⟩
        · rw [if_pos (nI2 c2 c4)]
          exact ⟨rfl, h⟩
    · rw [if_neg (pX6 c1), if_pos (nI1 c2), if_pos (pM6 c1), if_neg (nM8 c2)]
      exact ⟨rfl, h⟩
  · rw [if_pos (nX6 c1), if_neg (nM6 c1)]
    exact ⟨rfl, h⟩
/-! counting -/
theorem cnt_loop {σ τ : sm_S} (h : Rel σ τ) (x : Int32) : ∀ (n k : Nat) (acc : Int32), k + n = 9 → k ≤ 8 → f_X6_count_4 n x τ acc (nI k) = if x = 0 then τ.1 0 0 else if x = 1 then τ.1 0 1 else if x = 2 then τ.1 0 2 else if x = 3 then f_X5_dependentRegisters_4 n σ acc (nI k) else -1 := by
  intro n
  induction n with
  | zero => intro k acc h1 h2; omega
  | succ n ih =>
    intro k acc h1 h2
    rw [f_X6_count_4, f_X5_dependentRegisters_4]
    unfold f_X6_count_22 f_X5_dependentRegisters_25
    simp only [sm_le]
    by_cases c : k = 8
    · subst c
      rw [if_pos (show (8 : Int32) ≤ nI 8 by decide), if_pos (show (8 : Int32) ≤ nI 8 by decide)]
    · have g := (h.rg k (by omega)).2.2.2.a63
      rw [if_neg (show ¬ (8 : Int32) ≤ nI k from fun q => by have := (nI_leI (a := 8) (by decide) (by omega)).mp q; omega), if_neg (show ¬ (8 : Int32) ≤ nI k from fun q => by have := (nI_leI (a := 8) (by decide) (by omega)).mp q; omega), nI_cl (show k < 2 ^ 31 by omega), g, nI_1]
      by_cases d : τ.1 2 k = 0
      · rw [if_pos d, if_pos d]
        exact ih (k + 1) acc (by omega) (by omega)
      · rw [if_neg d, if_neg d]
        exact ih (k + 1) (acc + 1) (by omega) (by omega)
theorem st_count {σ τ : sm_S} (h : Rel σ τ) (x1 : Int32) : f_X5_count σ x1 = f_X6_count τ x1 := by
  unfold f_X5_count f_X6_count f_X5_dependentRegisters
  rw [show (((8 : Int32).toInt - Int32.toInt 0).toNat + 1) = 9 from rfl]
  have e := cnt_loop h x1 9 0 0 (by decide) (by decide)
  rw [show nI 0 = 0 from rfl] at e
  rw [e, h.pc, h.wc, h.ex]
