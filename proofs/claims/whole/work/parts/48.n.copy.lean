/-! copying -/
theorem at2_eq {s p k : Nat} (hs : s < 4) (hk : p + k < 12) : ((((8 : Int32) + nI s * 12) + nI p) + nI k).toNatClampNeg = 8 + 12 * s + p + k := by
  have e : ∀ a b : Nat, nI a * nI b = nI (a * b) := fun a b => (Int32.ofNat_mul a b).symm
  rw [show (12 : Int32) = nI 12 from rfl, show (8 : Int32) = nI 8 from rfl, e, nI_add, nI_add, nI_add, nI_cl (by omega)]
  omega
theorem cp_1 {s t p q n : Nat} (hs : s < 4) (hp : p + n ≤ 12) : ∀ (m k : Nat) (τ : sm_S), k + m = n + 1 → k ≤ n → ∃ τ', f_X6_copy_138 m (nI p) (nI q) (nI n) (nI s) (nI t) τ (nI k) = f_X6_copy_225 (n + 1) (nI q) (nI n) (nI t) τ' 0 ∧ (∀ x, x ≠ 13 → τ'.1 x = τ.1 x) ∧ (∀ x, x ≠ 14 → τ'.2.1 x = τ.2.1 x) ∧ τ'.2.2 = τ.2.2 ∧ (∀ j, j < k → τ'.2.1 14 j = τ.2.1 14 j ∧ τ'.1 13 (2 * j) = τ.1 13 (2 * j) ∧ τ'.1 13 (2 * j + 1) = τ.1 13 (2 * j + 1)) ∧ ∀ j, k ≤ j → j < n → τ'.2.1 14 j = τ.2.1 3 (8 + 12 * s + p + j) ∧ τ'.1 13 (2 * j) = τ.1 2 (8 + 12 * s + p + j) ∧ τ'.1 13 (2 * j + 1) = if τ.1 4 (8 + 12 * s + p + j) = 0 then 0 else 1 := by
  intro m
  induction m with
  | zero => intro k τ h1 h2; omega
  | succ m ih =>
    intro k τ h1 h2
    rw [f_X6_copy_138]
    by_cases c : k = n
    · subst c
      rw [if_pos (show nI k ≤ nI k from (nI_leI (by omega) (by omega)).mpr (Nat.le_refl _))]
      have ef : ((Int32.toInt (nI k) - Int32.toInt 0).toNat + 1) = k + 1 := by
        rw [nI_tI (by omega)]
        show ((k : Int) - 0).toNat + 1 = k + 1
        omega
      rw [ef]
      exact ⟨τ, rfl, fun _ _ => rfl, fun _ _ => rfl, rfl, fun _ _ => ⟨rfl, rfl, rfl⟩, fun j h3 h4 => by omega⟩
    · rw [if_neg (show ¬ nI n ≤ nI k from fun q => by have := (nI_leI (by omega) (by omega)).mp q; omega)]
      unfold f_X6_copy_215
      simp only [sm_le]
      have e : ∀ a b : Nat, nI a * nI b = nI (a * b) := fun a b => (Int32.ofNat_mul a b).symm
      have e2 : ((2 : Int32) * nI k).toNatClampNeg = 2 * k := by rw [show (2 : Int32) = nI 2 from rfl, e, nI_cl (by omega)]
      have e3 : ((2 : Int32) * nI k + 1).toNatClampNeg = 2 * k + 1 := by rw [show (2 : Int32) = nI 2 from rfl, e, nI_1, nI_cl (by omega)]
      rw [at2_eq hs (by omega), nI_cl (show k < 2 ^ 31 by omega), e2, e3, nI_1]
      have r4 : ∀ z y, (uI (uL τ 14 k z) 13 (2 * k) y).1 4 (8 + 12 * s + p + k) = τ.1 4 (8 + 12 * s + p + k) := fun z y => by rw [uI_1, if_neg (by omega), uL_1]
      rw [r4]
      have step : ∀ w, ∃ τ', f_X6_copy_138 m (nI p) (nI q) (nI n) (nI s) (nI t) (uI (uI (uL τ 14 k (τ.2.1 3 (8 + 12 * s + p + k))) 13 (2 * k) ((uL τ 14 k (τ.2.1 3 (8 + 12 * s + p + k))).1 2 (8 + 12 * s + p + k))) 13 (2 * k + 1) w) (nI (k + 1)) = f_X6_copy_225 (n + 1) (nI q) (nI n) (nI t) τ' 0 ∧ (∀ x, x ≠ 13 → τ'.1 x = τ.1 x) ∧ (∀ x, x ≠ 14 → τ'.2.1 x = τ.2.1 x) ∧ τ'.2.2 = τ.2.2 ∧ (∀ j, j < k → τ'.2.1 14 j = τ.2.1 14 j ∧ τ'.1 13 (2 * j) = τ.1 13 (2 * j) ∧ τ'.1 13 (2 * j + 1) = τ.1 13 (2 * j + 1)) ∧ τ'.1 13 (2 * k + 1) = w ∧ τ'.2.1 14 k = τ.2.1 3 (8 + 12 * s + p + k) ∧ τ'.1 13 (2 * k) = τ.1 2 (8 + 12 * s + p + k) ∧ ∀ j, k + 1 ≤ j → j < n → τ'.2.1 14 j = τ.2.1 3 (8 + 12 * s + p + j) ∧ τ'.1 13 (2 * j) = τ.1 2 (8 + 12 * s + p + j) ∧ τ'.1 13 (2 * j + 1) = if τ.1 4 (8 + 12 * s + p + j) = 0 then 0 else 1 := by
        intro w
        obtain ⟨τ', i1, i2, i3, i4, i5, i6⟩ := ih (k + 1) (uI (uI (uL τ 14 k (τ.2.1 3 (8 + 12 * s + p + k))) 13 (2 * k) ((uL τ 14 k (τ.2.1 3 (8 + 12 * s + p + k))).1 2 (8 + 12 * s + p + k))) 13 (2 * k + 1) w) (by omega) (by omega)
        have hk := i5 k (by omega)
        refine ⟨τ', i1, ?_, ?_, i4, ?_, ?_, ?_, ?_, ?_⟩
        · intro x hx
          rw [i2 x hx]
          funext j
          rw [uI_1, if_neg (by omega), uI_1, if_neg (by omega), uL_1]
        · intro x hx
          rw [i3 x hx]
          funext j
          rw [uI_2, uI_2, uL_2, if_neg (by omega)]
        · intro j hj
          have := i5 j (by omega)
          rw [this.1, this.2.1, this.2.2]
          refine ⟨?_, ?_, ?_⟩
          · rw [uI_2, uI_2, uL_2, if_neg (by omega)]
          · rw [uI_1, if_neg (by omega), uI_1, if_neg (by omega), uL_1]
          · rw [uI_1, if_neg (by omega), uI_1, if_neg (by omega), uL_1]
        · rw [hk.2.2, uI_1]
          simp
        · rw [hk.1, uI_2, uI_2, uL_2]
          simp
        · rw [hk.2.1, uI_1, if_neg (by omega), uI_1, uL_1]
          simp
        · intro j h3 h4
          obtain ⟨j1, j2, j3⟩ := i6 j h3 h4
          refine ⟨?_, ?_, ?_⟩
          · rw [j1, uI_2, uI_2, uL_2, if_neg (by omega)]
          · rw [j2, uI_1, if_neg (by omega), uI_1, if_neg (by omega), uL_1]
          · have r : (uI (uI (uL τ 14 k (τ.2.1 3 (8 + 12 * s + p + k))) 13 (2 * k) ((uL τ 14 k (τ.2.1 3 (8 + 12 * s + p + k))).1 2 (8 + 12 * s + p + k))) 13 (2 * k + 1) w).1 4 (8 + 12 * s + p + j) = τ.1 4 (8 + 12 * s + p + j) := by rw [uI_1, if_neg (by omega), uI_1, if_neg (by omega), uL_1]
            rw [r] at j3
            exact j3
      by_cases d : τ.1 4 (8 + 12 * s + p + k) = 0
      · rw [if_pos d]
        obtain ⟨τ', i1, i2, i3, i4, i5, i6, i7, i8, i9⟩ := step 0
        refine ⟨τ', i1, i2, i3, i4, i5, fun j h3 h4 => ?_⟩
        by_cases jk : j = k
        · subst jk
          rw [if_pos d]
          exact ⟨i7, i8, i6⟩
        · exact i9 j (by omega) h4
      · rw [if_neg d]
        obtain ⟨τ', i1, i2, i3, i4, i5, i6, i7, i8, i9⟩ := step 1
        refine ⟨τ', i1, i2, i3, i4, i5, fun j h3 h4 => ?_⟩
        by_cases jk : j = k
        · subst jk
          rw [if_neg d]
          exact ⟨i7, i8, i6⟩
        · exact i9 j (by omega) h4
theorem cp_2 {t q n : Nat} (ht : t < 4) (hq : q + n ≤ 12) : ∀ (m k : Nat) (τ : sm_S), k + m = n + 1 → k ≤ n → ∃ τ', f_X6_copy_225 m (nI q) (nI n) (nI t) τ (nI k) = (0, τ') ∧ (∀ x, x ≠ 2 → x ≠ 4 → τ'.1 x = τ.1 x) ∧ (∀ x, x ≠ 3 → τ'.2.1 x = τ.2.1 x) ∧ τ'.2.2 = τ.2.2 ∧ (∀ i, (i < 8 + 12 * t + q + k ∨ 8 + 12 * t + q + n ≤ i) → τ'.2.1 3 i = τ.2.1 3 i ∧ τ'.1 2 i = τ.1 2 i ∧ τ'.1 4 i = τ.1 4 i) ∧ ∀ j, k ≤ j → j < n → τ'.2.1 3 (8 + 12 * t + q + j) = τ.2.1 14 j ∧ τ'.1 2 (8 + 12 * t + q + j) = τ.1 13 (2 * j) ∧ τ'.1 4 (8 + 12 * t + q + j) = pE (τ.1 13 (2 * j)) (if τ.1 13 (2 * j + 1) = 1 then 1 else 0) := by
  intro m
  induction m with
  | zero => intro k τ h1 h2; omega
  | succ m ih =>
    intro k τ h1 h2
    rw [f_X6_copy_225]
    by_cases c : k = n
    · subst c
      rw [if_pos (show nI k ≤ nI k from (nI_leI (by omega) (by omega)).mpr (Nat.le_refl _))]
      exact ⟨τ, rfl, fun _ _ _ => rfl, fun _ _ => rfl, rfl, fun _ _ => ⟨rfl, rfl, rfl⟩, fun j h3 h4 => by omega⟩
    · rw [if_neg (show ¬ nI n ≤ nI k from fun q => by have := (nI_leI (by omega) (by omega)).mp q; omega)]
      unfold f_X6_copy_283
      simp only [sm_le]
      have e : ∀ a b : Nat, nI a * nI b = nI (a * b) := fun a b => (Int32.ofNat_mul a b).symm
      have e2 : ((2 : Int32) * nI k).toNatClampNeg = 2 * k := by rw [show (2 : Int32) = nI 2 from rfl, e, nI_cl (by omega)]
      have e3 : ((2 : Int32) * nI k + 1).toNatClampNeg = 2 * k + 1 := by rw [show (2 : Int32) = nI 2 from rfl, e, nI_1, nI_cl (by omega)]
      rw [put_eq, put_eq, at2_eq ht (by omega), nI_cl (show k < 2 ^ 31 by omega), e2, e3, nI_1]
      have step : ∀ w, ∃ τ', f_X6_copy_225 m (nI q) (nI n) (nI t) (uI (uI (uL τ 3 (8 + 12 * t + q + k) (τ.2.1 14 k)) 2 (8 + 12 * t + q + k) (τ.1 13 (2 * k))) 4 (8 + 12 * t + q + k) w) (nI (k + 1)) = (0, τ') ∧ (∀ x, x ≠ 2 → x ≠ 4 → τ'.1 x = τ.1 x) ∧ (∀ x, x ≠ 3 → τ'.2.1 x = τ.2.1 x) ∧ τ'.2.2 = τ.2.2 ∧ (∀ i, (i < 8 + 12 * t + q + k ∨ 8 + 12 * t + q + n ≤ i) → τ'.2.1 3 i = τ.2.1 3 i ∧ τ'.1 2 i = τ.1 2 i ∧ τ'.1 4 i = τ.1 4 i) ∧ (τ'.2.1 3 (8 + 12 * t + q + k) = τ.2.1 14 k ∧ τ'.1 2 (8 + 12 * t + q + k) = τ.1 13 (2 * k) ∧ τ'.1 4 (8 + 12 * t + q + k) = w) ∧ ∀ j, k + 1 ≤ j → j < n → τ'.2.1 3 (8 + 12 * t + q + j) = τ.2.1 14 j ∧ τ'.1 2 (8 + 12 * t + q + j) = τ.1 13 (2 * j) ∧ τ'.1 4 (8 + 12 * t + q + j) = pE (τ.1 13 (2 * j)) (if τ.1 13 (2 * j + 1) = 1 then 1 else 0) := by
        intro w
        obtain ⟨τ', i1, i2, i3, i4, i5, i6⟩ := ih (k + 1) (uI (uI (uL τ 3 (8 + 12 * t + q + k) (τ.2.1 14 k)) 2 (8 + 12 * t + q + k) (τ.1 13 (2 * k))) 4 (8 + 12 * t + q + k) w) (by omega) (by omega)
        refine ⟨τ', i1, ?_, ?_, i4, ?_, ?_, ?_⟩
        · intro x h3 h4
          rw [i2 x h3 h4]
          funext j
          rw [uI_1, if_neg (by omega), uI_1, if_neg (by omega), uL_1]
        · intro x hx
          rw [i3 x hx]
          funext j
          rw [uI_2, uI_2, uL_2, if_neg (by omega)]
        · intro i hi
          have := i5 i (by omega)
          rw [this.1, this.2.1, this.2.2]
          refine ⟨?_, ?_, ?_⟩
          · rw [uI_2, uI_2, uL_2, if_neg (by omega)]
          · rw [uI_1, if_neg (by omega), uI_1, if_neg (by omega), uL_1]
          · rw [uI_1, if_neg (by omega), uI_1, if_neg (by omega), uL_1]
        · have := i5 (8 + 12 * t + q + k) (by omega)
          rw [this.1, this.2.1, this.2.2]
          refine ⟨?_, ?_, ?_⟩
          · rw [uI_2, uI_2, uL_2]; simp
          · rw [uI_1, if_neg (by omega), uI_1]; simp
          · rw [uI_1]; simp
        · intro j h3 h4
          obtain ⟨j1, j2, j3⟩ := i6 j h3 h4
          have r13 : ∀ z, (uI (uI (uL τ 3 (8 + 12 * t + q + k) (τ.2.1 14 k)) 2 (8 + 12 * t + q + k) (τ.1 13 (2 * k))) 4 (8 + 12 * t + q + k) w).1 13 z = τ.1 13 z := fun z => by rw [uI_1, if_neg (by omega), uI_1, if_neg (by omega), uL_1]
          rw [r13] at j2
          rw [r13, r13] at j3
          refine ⟨?_, j2, j3⟩
          rw [j1, uI_2, uI_2, uL_2, if_neg (by omega)]
      have fin : ∀ w, w = pE (τ.1 13 (2 * k)) (if τ.1 13 (2 * k + 1) = 1 then 1 else 0) → ∃ τ', f_X6_copy_225 m (nI q) (nI n) (nI t) (uI (uI (uL τ 3 (8 + 12 * t + q + k) (τ.2.1 14 k)) 2 (8 + 12 * t + q + k) (τ.1 13 (2 * k))) 4 (8 + 12 * t + q + k) w) (nI (k + 1)) = (0, τ') ∧ (∀ x, x ≠ 2 → x ≠ 4 → τ'.1 x = τ.1 x) ∧ (∀ x, x ≠ 3 → τ'.2.1 x = τ.2.1 x) ∧ τ'.2.2 = τ.2.2 ∧ (∀ i, (i < 8 + 12 * t + q + k ∨ 8 + 12 * t + q + n ≤ i) → τ'.2.1 3 i = τ.2.1 3 i ∧ τ'.1 2 i = τ.1 2 i ∧ τ'.1 4 i = τ.1 4 i) ∧ ∀ j, k ≤ j → j < n → τ'.2.1 3 (8 + 12 * t + q + j) = τ.2.1 14 j ∧ τ'.1 2 (8 + 12 * t + q + j) = τ.1 13 (2 * j) ∧ τ'.1 4 (8 + 12 * t + q + j) = pE (τ.1 13 (2 * j)) (if τ.1 13 (2 * j + 1) = 1 then 1 else 0) := by
        intro w hw
        obtain ⟨τ', i1, i2, i3, i4, i5, i6, i7⟩ := step w
        refine ⟨τ', i1, i2, i3, i4, i5, fun j h3 h4 => ?_⟩
        by_cases jk : j = k
        · subst jk
          rw [← hw]
          exact i6
        · exact i7 j (by omega) h4
      by_cases d : τ.1 13 (2 * k + 1) = 1
      · rw [if_pos d]
        exact fin _ (by rw [if_pos d])
      · rw [if_neg d]
        exact fin _ (by rw [if_neg d])
/-- a run of cells lies in an array, or not -/
theorem run_ok {i : Nat} {σ : sm_S} {x n z : Int32} (hz : σ.1 (10 + 3 * i) 1 = z) (hz2 : 0 ≤ z.toInt ∧ z.toInt ≤ 12) : (∃ p m : Nat, x = nI p ∧ n = nI m ∧ p + m ≤ 12 ∧ ((p + m : Nat) : Int) ≤ z.toInt ∧ ¬ f_X0_hasRun i σ x n = 0 ∧ ¬ n < 0 ∧ ¬ x < 0 ∧ ¬ z.toInt64 < x.toInt64 + n.toInt64 ∧ x.toInt64 + n.toInt64 ≤ z.toInt64) ∨ (f_X0_hasRun i σ x n = 0 ∧ (n < 0 ∨ x < 0 ∨ (z.toInt64 < x.toInt64 + n.toInt64 ∧ ¬ x.toInt64 + n.toInt64 ≤ z.toInt64))) := by
  have e := add64 x n
  have ez : z.toInt64.toInt = z.toInt := Int32.toInt_toInt64 z
  have z0 : (0 : Int32).toInt = 0 := rfl
  unfold f_X0_hasRun
  rw [hz]
  by_cases a : x < 0
  · rw [if_pos a]
    exact Or.inr ⟨rfl, Or.inr (Or.inl a)⟩
  · rw [if_neg a]
    by_cases b : n < 0
    · rw [if_pos b]
      exact Or.inr ⟨rfl, Or.inl b⟩
    · rw [if_neg b]
      by_cases c : z.toInt64 < x.toInt64 + n.toInt64
      · rw [if_pos c]
        refine Or.inr ⟨rfl, Or.inr (Or.inr ⟨c, ?_⟩)⟩
        rw [Int64.lt_iff_toInt_lt] at c
        rw [Int64.le_iff_toInt_le]
        omega
      · rw [if_neg c]
        have a' := a
        have b' := b
        have c' := c
        rw [Int32.lt_iff_toInt_lt, z0] at a' b'
        rw [Int64.lt_iff_toInt_lt, e, ez] at c'
        refine Or.inl ⟨x.toInt.toNat, n.toInt.toNat, ?_, ?_, by omega, by omega, by decide, b, a, c, ?_⟩
        · rw [iZ_nI]
          conv => lhs; rw [iZ_of x]
          congr 1
          omega
        · rw [iZ_nI]
          conv => lhs; rw [iZ_of n]
          congr 1
          omega
        · rw [Int64.le_iff_toInt_le, e, ez]
          omega
theorem st_copy {σ τ : sm_S} (h : Rel σ τ) (x1 : Int32) (x2 : Int32) (x3 : Int32) (x4 : Int32) (x5 : Int32) : (f_X5_copy σ x1 x2 x3 x4 x5).1 = (f_X6_copy τ x1 x2 x3 x4 x5).1 ∧ Rel (f_X5_copy σ x1 x2 x3 x4 x5).2 (f_X6_copy τ x1 x2 x3 x4 x5).2 := by
  unfold f_X5_copy f_X6_copy f_X5_copy_46 f_X5_copy_46a f_X5_copy_46b f_X5_copy_96 f_X6_copy_46 f_X6_copy_128
  simp only [sm_le]
  by_cases c1 : inR x1 4
  · by_cases c2 : inR x3 4
    · rw [if_neg (pX4 c1), if_neg (pX4 c2), if_pos (pM4 c1), if_pos (pM4 c2)]
      obtain ⟨g, hg, rfl⟩ := c1
      obtain ⟨d, hd, rfl⟩ := c2
      rw [nI_cl (show g < 2 ^ 31 by omega), nI_cl (show d < 2 ^ 31 by omega)]
      rcases (h.ar g hg).neg with ⟨c, s, q1, q2, q3, q4, q5, q6⟩ | ⟨q1, q2, q3⟩
      · rw [oc_s q3, if_neg (show ¬ τ.1 5 g < 0 from fun z => absurd q6 (Int32.not_le.mpr z))]
        rcases (h.ar d hd).neg with ⟨c', t, p1, p2, p3, p4, p5, p6⟩ | ⟨p1, p2, p3⟩
        · rw [oc_s p3, if_pos p6, q4, p4, nI_cl (show s < 2 ^ 31 by omega), nI_cl (show t < 2 ^ 31 by omega), q5.1, p5.1]
          by_cases so : τ.1 6 s = τ.1 6 t
          · rw [if_pos so, if_pos so]
            rcases run_ok (i := c) (σ := σ) (x := x2) (n := x5) q5.2.1 (h.im.2 s q2) with ⟨p, n, e1, e2, l1, l2, r1, r2, r3, r4, r5⟩ | ⟨r1, r2⟩
            · rw [if_neg r1, if_neg r2, if_neg r3, if_neg r4]
              rcases run_ok (i := c') (σ := σ) (x := x4) (n := x5) p5.2.1 (h.im.2 t p2) with ⟨q, n', f1, f2, m1, m2, s1, s2, s3, s4, s5⟩ | ⟨s1, s2⟩
              · rw [if_neg s1, if_neg s3, if_pos s5]
                subst e1 f1 e2
                have en : n' = n := ((nI_eq (by omega) (by omega)).mp f2).symm
                subst en
                have ef : ((Int32.toInt (nI n') - Int32.toInt 0).toNat + 1) = n' + 1 := by
                  rw [nI_tI (by omega)]
                  show ((n' : Int) - 0).toNat + 1 = n' + 1
                  omega
                obtain ⟨τ1, i1, i2, i3, i4, i5, i6⟩ := cp_1 (t := t) (q := q) q2 l1 (n' + 1) 0 τ (by omega) (by omega)
                obtain ⟨τ2, j1, j2, j3, j4, j5, j6⟩ := cp_2 p2 m1 (n' + 1) 0 τ1 (by omega) (by omega)
                rw [show nI 0 = 0 from rfl] at i1 j1
                rw [ef, i1, j1, nI_cl (show p < 2 ^ 31 by omega), nI_cl (show q < 2 ^ 31 by omega), nI_cl (show n' < 2 ^ 31 by omega)]
                refine ⟨rfl, ?_⟩
                have o1 : ∀ x, x ≠ 2 → x ≠ 4 → x ≠ 13 → τ2.1 x = τ.1 x := fun x a b e => by rw [j2 x a b, i2 x e]
                have o3 : ∀ i, (i < 8 + 12 * t + q ∨ 8 + 12 * t + q + n' ≤ i) → τ2.2.1 3 i = τ.2.1 3 i ∧ τ2.1 2 i = τ.1 2 i ∧ τ2.1 4 i = τ.1 4 i := fun i hi => by
                  obtain ⟨k1, k2, k3⟩ := j5 i (by omega)
                  rw [k1, k2, k3, i3 3 (by decide), i2 2 (by decide), i2 4 (by decide)]
                  exact ⟨rfl, rfl, rfl⟩
                refine h.arr (h0 := d) (c := c') (s := t) p1 p2 ?_ ?_ ?_ ?_ ?_ ?_ ?_ ?_ ?_ ?_
                · intro x n1 n2
                  show (if x = 12 + 3 * c' then _ else σ.1 x) = σ.1 x
                  rw [if_neg n2]
                · intro x n1
                  show (if x = 11 + 3 * c' then _ else σ.2.1 x) = σ.2.1 x
                  rw [if_neg n1]
                · intro x n1 n2 _ _ _ n6
                  exact o1 x n1 n2 (by omega)
                · intro j hj
                  exact o3 j (by omega)
                · intro j _
                  rw [o1 6 (by decide) (by decide) (by decide), o1 7 (by decide) (by decide) (by decide)]
                  exact ⟨rfl, rfl⟩
                · intro j
                  show σ.2.2 j = _
                  split
                  · rename_i z; rw [z]; exact p3
                  · rfl
                · intro j
                  rw [o1 5 (by decide) (by decide) (by decide)]
                  split
                  · rename_i z; rw [z]; exact p4
                  · rfl
                · intro y hy _
                  have := h.aj y d hy hd
                  rw [p3, p4] at this
                  exact this
                · show 0 ≤ ((if 10 + 3 * c' = 12 + 3 * c' then _ else σ.1 (10 + 3 * c')) 1).toInt ∧ ((if 10 + 3 * c' = 12 + 3 * c' then _ else σ.1 (10 + 3 * c')) 1).toInt ≤ 12
                  rw [if_neg (by omega)]
                  exact h.ix.2 c' p1
                · refine ⟨?_, ?_, ?_, ?_⟩
                  · show (if 10 + 3 * c' = 12 + 3 * c' then _ else σ.1 (10 + 3 * c')) 0 = _
                    rw [if_neg (by omega), o1 6 (by decide) (by decide) (by decide)]
                    exact p5.1
                  · show (if 10 + 3 * c' = 12 + 3 * c' then _ else σ.1 (10 + 3 * c')) 1 = _
                    rw [if_neg (by omega), o1 7 (by decide) (by decide) (by decide)]
                    exact p5.2.1
                  · rw [o1 6 (by decide) (by decide) (by decide)]
                    exact p5.2.2.1
                  · intro k hk
                    rw [o1 6 (by decide) (by decide) (by decide)]
                    show (if 11 + 3 * c' = 11 + 3 * c' then va_cpy (σ.2.1 (11 + 3 * c)) (σ.2.1 (11 + 3 * c')) p q n' else σ.2.1 (11 + 3 * c')) k = _ ∧ _ ∧ SR ((if 12 + 3 * c' = 12 + 3 * c' then va_cpy (σ.1 (12 + 3 * c)) (σ.1 (12 + 3 * c')) p q n' else σ.1 (12 + 3 * c')) k) _ _
                    rw [if_pos rfl, if_pos rfl]
                    unfold va_cpy
                    by_cases kin : q ≤ k ∧ k < q + n'
                    · obtain ⟨v1, v2, v3⟩ := q5.2.2.2 (p + (k - q)) (by omega)
                      obtain ⟨w1, w2, w3⟩ := j6 (k - q) (by omega) (by omega)
                      obtain ⟨y1, y2, y3⟩ := i6 (k - q) (by omega) (by omega)
                      rw [show 8 + 12 * t + q + (k - q) = 8 + 12 * t + k by omega] at w1 w2 w3
                      rw [show 8 + 12 * s + p + (k - q) = 8 + 12 * s + (p + (k - q)) by omega] at y1 y2 y3
                      rw [w1, w2, w3, y1, y2, y3, if_pos kin, if_pos kin, ← so]
                      refine ⟨v1, v2, ?_⟩
                      have hkeep := v3.keep
                      have ee : (if (if τ.1 4 (8 + 12 * s + (p + (k - q))) = 0 then (0 : Int32) else 1) = 1 then (1 : Int32) else 0) = τ.1 4 (8 + 12 * s + (p + (k - q))) := by
                        rcases v3.e01 with z | z <;> rw [z] <;> decide
                      rw [ee]
                      exact hkeep
                    · obtain ⟨v1, v2, v3⟩ := p5.2.2.2 k hk
                      obtain ⟨w1, w2, w3⟩ := o3 (8 + 12 * t + k) (by omega)
                      rw [w1, w2, w3, if_neg kin, if_neg kin]
                      exact ⟨v1, v2, v3⟩
              · rw [if_pos s1]
                rcases s2 with s2 | s2 | ⟨s2, s3⟩
                · exact absurd s2 r2
                · rw [if_pos s2]
                  exact h.fail _
                · by_cases x4n : x4 < 0
                  · rw [if_pos x4n]
                    exact h.fail _
                  · rw [if_neg x4n, if_neg s3]
                    exact h.fail _
            · rw [if_pos r1]
              have e : ∀ A B C : Int32 × sm_S, (x5 < 0 ∨ x2 < 0 ∨ (τ.1 7 s).toInt64 < x2.toInt64 + x5.toInt64) → (if x5 < 0 then A else if x2 < 0 then A else if x4 < 0 then A else if (τ.1 7 s).toInt64 < x2.toInt64 + x5.toInt64 then A else B) = A := by
                intro A B C hh
                by_cases z1 : x5 < 0
                · rw [if_pos z1]
                · rw [if_neg z1]
                  by_cases z2 : x2 < 0
                  · rw [if_pos z2]
                  · rw [if_neg z2]
                    by_cases z3 : x4 < 0
                    · rw [if_pos z3]
                    · rw [if_neg z3]
                      rcases hh with w | w | w
                      · exact absurd w z1
                      · exact absurd w z2
                      · rw [if_pos w]
              rw [e _ _ (0, σ) (by
                rcases r2 with w | w | ⟨w, _⟩
                · exact Or.inl w
                · exact Or.inr (Or.inl w)
                · exact Or.inr (Or.inr w))]
              exact h.fail _
          · rw [if_neg so, if_neg so]
            exact h.fail _
        · rw [oc_n p1, if_neg p3]
          exact h.fail _
      · rw [oc_n q1, if_pos (show τ.1 5 g < 0 by rw [q2]; decide)]
        rcases (h.ar d hd).neg with ⟨c', t, p1, p2, p3, p4, p5, p6⟩ | ⟨p1, p2, p3⟩
        · rw [oc_s p3]
          exact h.fail _
        · rw [oc_n p1]
          exact h.fail _
    · rw [if_neg (pX4 c1), if_pos (nX4 c2), if_pos (pM4 c1), if_neg (nM4 c2)]
      exact ⟨rfl, h⟩
  · rw [if_pos (nX4 c1), if_neg (nM4 c1)]
    exact ⟨rfl, h⟩
