/-! shadows -/
def bI (b : Bool) : Int32 := if b = true then 1 else 0
def SR (sh s e : Int32) : Prop := ∃ (n : Nat) (b : Bool), n < 64 ∧ (n = 0 → b = true) ∧ s = nI n ∧ e = bI b ∧ sh = nI (n + if b = true then 64 else 0)
theorem nI_or (a b : Nat) : nI a ||| nI b = nI (a ||| b) := by
  apply Int32.toBitVec_inj.mp
  rw [Int32.toBitVec_or]
  show BitVec.ofNat 32 a ||| BitVec.ofNat 32 b = BitVec.ofNat 32 (a ||| b)
  apply BitVec.eq_of_getLsbD_eq
  intro i hi
  simp [BitVec.getLsbD_ofNat, Nat.testBit_or, hi]
theorem nI_and (a b : Nat) : nI a &&& nI b = nI (a &&& b) := by
  apply Int32.toBitVec_inj.mp
  rw [Int32.toBitVec_and]
  show BitVec.ofNat 32 a &&& BitVec.ofNat 32 b = BitVec.ofNat 32 (a &&& b)
  apply BitVec.eq_of_getLsbD_eq
  intro i hi
  simp [BitVec.getLsbD_ofNat, Nat.testBit_and, hi]
theorem nI_z {n : Nat} (h : n < 2 ^ 31) : (nI n = 0) = (n = 0) := propext (nI_eq (b := 0) h (by decide))
theorem bI_z (b : Bool) : (bI b = 0) = (b = false) := by cases b <;> decide
theorem SR.mk {n : Nat} (b : Bool) (h : n < 64) (h0 : n = 0 → b = true) : SR (nI (n + if b = true then 64 else 0)) (nI n) (bI b) := ⟨n, b, h, h0, rfl, rfl, rfl⟩
theorem SR.z : SR 64 0 1 := ⟨0, true, by decide, fun _ => rfl, rfl, rfl, rfl⟩
theorem s_63 : ∀ n, n < 64 → ∀ b : Bool, nI (n + if b = true then 64 else 0) &&& 63 = nI n := by decide +kernel
theorem s_64 : ∀ n, n < 64 → ∀ b : Bool, nI (n + if b = true then 64 else 0) &&& 64 = if b = true then 64 else 0 := by decide +kernel
theorem SR.a63 {sh s e : Int32} (h : SR sh s e) : sh &&& 63 = s := by
  obtain ⟨n, b, h1, -, rfl, rfl, rfl⟩ := h
  exact s_63 n h1 b
theorem SR.a64 {sh s e : Int32} (h : SR sh s e) : (sh &&& 64 = 0) = (e = 0) := by
  obtain ⟨n, b, h1, -, rfl, rfl, rfl⟩ := h
  rw [s_64 n h1 b]
  cases b <;> decide
theorem SR.e01 {sh s e : Int32} (h : SR sh s e) : e = 0 ∨ e = 1 := by
  obtain ⟨n, b, h1, -, rfl, rfl, rfl⟩ := h
  cases b
  · exact Or.inl rfl
  · exact Or.inr rfl
theorem SR.told {sh s e : Int32} (h : SR sh s e) : sh = if e = 0 then s + 0 else s + 64 := by
  obtain ⟨n, b, h1, -, rfl, rfl, rfl⟩ := h
  cases b
  · show nI (n + 0) = nI n + nI 0
    rw [nI_add]
  · show nI (n + 64) = nI n + nI 64
    rw [nI_add]
/-- what the reference's put makes of a set and a wish -/
def pE (s e : Int32) : Int32 := if s = 0 then 1 else if e = 0 then 0 else 1
theorem SR.keep {sh s e : Int32} (h : SR sh s e) : SR sh s (pE s e) := by
  obtain ⟨n, b, h1, h2, rfl, rfl, rfl⟩ := h
  have : pE (nI n) (bI b) = bI b := by
    unfold pE
    simp only [nI_z (show n < 2 ^ 31 by omega), bI_z]
    by_cases c : n = 0
    · rw [if_pos c, h2 c]
      rfl
    · rw [if_neg c]
      cases b <;> rfl
  rw [this]
  exact SR.mk b h1 h2
theorem SR.inex {sh s e : Int32} (h : SR sh s e) : SR (f_X5_inexact sh) s (pE s 0) := by
  have h63 := h.a63
  obtain ⟨n, b, h1, h2, rfl, rfl, rfl⟩ := h
  unfold f_X5_inexact pE
  rw [h63]
  simp only [sm_le, nI_z (show n < 2 ^ 31 by omega)]
  by_cases c : n = 0
  · rw [if_pos c, if_pos c, c]
    exact SR.z
  · rw [if_neg c, if_neg c, if_pos trivial]
    exact SR.mk false h1 (fun q => absurd q c)
theorem tb6 : ∀ n, n < 64 → ∀ b : Bool, (n + if b = true then 64 else 0).testBit 6 = b := by decide +kernel
theorem and64 : ∀ x, x < 128 → x &&& 64 = (x.testBit 6).toNat * 64 := by decide +kernel
theorem or64 : ∀ n, n < 64 → n ||| 64 = n + 64 := by decide +kernel
theorem SR.join {sh s e sh2 s2 e2 : Int32} (h : SR sh s e) (h2 : SR sh2 s2 e2) : SR (f_X5_joined sh sh2) (s ||| s2) (if e = 0 then 0 else if e2 = 0 then 0 else 1) := by
  obtain ⟨n, b, h1, h1b, rfl, rfl, rfl⟩ := h
  obtain ⟨m, c, h2, h2b, rfl, rfl, rfl⟩ := h2
  have hm : n ||| m < 64 := Nat.or_lt_two_pow (n := 6) h1 h2
  have e1 : ((n + if b = true then 64 else 0) ||| (m + if c = true then 64 else 0)) &&& 63 = n ||| m := by
    have h := Nat.and_two_pow_sub_one_eq_mod ((n + if b = true then 64 else 0) ||| (m + if c = true then 64 else 0)) 6
    rw [show (2 : Nat) ^ 6 - 1 = 63 from rfl] at h
    rw [h, Nat.or_mod_two_pow]
    congr 1
    · cases b <;> simp <;> omega
    · cases c <;> simp <;> omega
  have e2 : ((n + if b = true then 64 else 0) &&& (m + if c = true then 64 else 0)) &&& 64 = (b && c).toNat * 64 := by
    rw [and64 _ (Nat.and_lt_two_pow (n := 7) _ (by cases c <;> simp <;> omega)), Nat.testBit_and, tb6 n h1 b, tb6 m h2 c]
  refine ⟨n ||| m, b && c, hm, ?_, nI_or n m, ?_, ?_⟩
  · intro z
    have z1 : n = 0 := by
      have : n ≤ n ||| m := Nat.left_le_or
      omega
    have z2 : m = 0 := by
      have : m ≤ n ||| m := Nat.right_le_or
      omega
    rw [h1b z1, h2b z2]
    rfl
  · cases b <;> cases c <;> rfl
  · unfold f_X5_joined
    rw [nI_or, nI_and, show (63 : Int32) = nI 63 from rfl, show (64 : Int32) = nI 64 from rfl, nI_and, nI_and, nI_or, e1, e2]
    congr 1
    cases b <;> cases c
    · exact Nat.or_zero _
    · exact Nat.or_zero _
    · exact Nat.or_zero _
    · exact or64 _ hm
theorem SR.sz {sh s e : Int32} (h : SR sh s e) : s = 0 → e = 1 := by
  obtain ⟨n, b, h1, h2, rfl, rfl, rfl⟩ := h
  intro q
  rw [nI_z (by omega)] at q
  rw [h2 q]
  rfl
/-! the reference's put, and its notes -/
theorem nar0 : vp_nar .boolean 0 = 0 := by decide
theorem nar1 : vp_nar .boolean 1 = 1 := by decide
theorem put_eq (τ : sm_S) (x : Int32) (v : Int64) (s e : Int32) : f_X6_put τ x v s e = uI (uI (uL τ 3 x.toNatClampNeg v) 2 x.toNatClampNeg s) 4 x.toNatClampNeg (pE s e) := by
  unfold f_X6_put pE
  rw [nar0, nar1]
  by_cases c : s = 0
  · rw [if_pos c, if_pos c]
  · rw [if_neg c, if_neg c]
    by_cases d : e = 0
    · rw [if_pos d, if_pos d]
    · rw [if_neg d, if_neg d]
theorem nI_cl {k : Nat} (h : k < 2 ^ 31) : (nI k).toNatClampNeg = k := by
  show (nI k).toInt.toNat = k
  rw [nI_toInt h]
  rfl
def shf (f : Nat → Int32) (k : Nat) (x : Int32) (j : Nat) : Int32 := if j = 0 then x else if j ≤ k then f (j - 1) else f j
theorem fix_13 (x op : Int32) : ∀ (k n : Nat) (τ : sm_S), k < n → k < 16 →
    (f_X6_fix_13 n x op τ (nI k)).2 = τ.2 ∧ ∀ a j, (f_X6_fix_13 n x op τ (nI k)).1 a j = if a = 8 then shf (τ.1 8) k op j else if a = 9 then shf (τ.1 9) k (τ.1 2 x.toNatClampNeg) j else if a = 0 ∧ j = 0 then τ.1 0 0 + 1 else if a = 2 ∧ j = x.toNatClampNeg then 0 else if a = 4 ∧ j = x.toNatClampNeg then 1 else τ.1 a j := by
  intro k
  induction k with
  | zero =>
    intro n τ hn h16
    obtain ⟨n, rfl⟩ : ∃ z, n = z + 1 := ⟨n - 1, by omega⟩
    rw [f_X6_fix_13, if_pos (show nI 0 ≤ (0 : Int32) by decide), tz0, nar1]
    refine ⟨rfl, fun a j => ?_⟩
    simp only [uI_1]
    unfold shf
    by_cases c8 : a = 8
    · subst c8
      by_cases j0 : j = 0
      · simp [j0]
      · simp [j0]
    · by_cases c9 : a = 9
      · subst c9
        by_cases j0 : j = 0
        · simp [j0]
        · simp [j0]
      · by_cases c0 : a = 0 ∧ j = 0
        · obtain ⟨rfl, rfl⟩ := c0
          simp
        · by_cases c2 : a = 2 ∧ j = x.toNatClampNeg
          · obtain ⟨rfl, rfl⟩ := c2
            simp
          · by_cases c4 : a = 4 ∧ j = x.toNatClampNeg
            · obtain ⟨rfl, rfl⟩ := c4
              simp
            · simp [c8, c9, c0, c2, c4]
  | succ k ih =>
    intro n τ hn h16
    obtain ⟨n, rfl⟩ : ∃ z, n = z + 1 := ⟨n - 1, by omega⟩
    have e1 : nI (k + 1) + -1 = nI k := by
      rw [← nI_1]
      show nI k + 1 + -1 = nI k
      rw [Int32.add_assoc, show (1 : Int32) + -1 = 0 from rfl, Int32.add_zero]
    have e2 : nI (k + 1) - 1 = nI k := by
      rw [← nI_1, Int32.add_sub_cancel]
    rw [f_X6_fix_13, if_neg (show ¬ nI (k + 1) ≤ (0 : Int32) from fun q => by have := (nI_leI (b := 0) (by omega) (by decide)).mp q; omega)]
    simp only [sm_le]
    rw [e1, e2, nI_cl (show k + 1 < 2 ^ 31 by omega), nI_cl (show k < 2 ^ 31 by omega)]
    obtain ⟨i1, i2⟩ := ih n (uI (uI τ 8 (k + 1) (τ.1 8 k)) 9 (k + 1) ((uI τ 8 (k + 1) (τ.1 8 k)).1 9 k)) (by omega) (by omega)
    refine ⟨i1, fun a j => ?_⟩
    rw [i2]
    simp only [uI_1]
    unfold shf
    by_cases c8 : a = 8
    · subst c8
      by_cases j0 : j = 0
      · simp [j0]
      · by_cases jk : j ≤ k
        · simp [j0, jk, show j ≤ k + 1 by omega, show ¬ j - 1 = k + 1 by omega, uI_1]
        · by_cases jk1 : j = k + 1
          · subst jk1
            simp [uI_1]
          · simp [j0, jk, jk1, show ¬ j ≤ k + 1 by omega, uI_1]
    · by_cases c9 : a = 9
      · subst c9
        by_cases j0 : j = 0
        · simp [j0, uI_1]
        · by_cases jk : j ≤ k
          · simp [j0, jk, show j ≤ k + 1 by omega, show ¬ j - 1 = k + 1 by omega, uI_1]
          · by_cases jk1 : j = k + 1
            · subst jk1
              simp [uI_1]
            · simp [j0, jk, jk1, show ¬ j ≤ k + 1 by omega, uI_1]
      · simp [c8, c9, uI_1]
theorem br_169 (x y t : Int32) : ∀ (k n : Nat) (τ : sm_S), k < n → k < 16 →
    ∃ ρ, f_X6_branch_169 n x y t τ (nI k) = (t, ρ) ∧ ρ.2 = τ.2 ∧ ∀ a j, ρ.1 a j = if a = 10 then shf (τ.1 10) k t j else if a = 11 then shf (τ.1 11) k (τ.1 2 x.toNatClampNeg ||| τ.1 2 y.toNatClampNeg) j else if a = 12 then shf (τ.1 12) k (if τ.1 4 x.toNatClampNeg = 0 then 0 else if τ.1 4 y.toNatClampNeg = 0 then 0 else 1) j else if a = 0 ∧ j = 1 then τ.1 0 1 + 1 else τ.1 a j := by
  intro k
  induction k with
  | zero =>
    intro n τ hn h16
    obtain ⟨n, rfl⟩ : ∃ z, n = z + 1 := ⟨n - 1, by omega⟩
    have hfin : ∀ e, ∀ a j, (uI (uI (uI (uI τ 10 0 t) 11 0 (τ.1 2 x.toNatClampNeg ||| τ.1 2 y.toNatClampNeg)) 12 0 e) 0 1 (τ.1 0 1 + 1)).1 a j = if a = 10 then shf (τ.1 10) 0 t j else if a = 11 then shf (τ.1 11) 0 (τ.1 2 x.toNatClampNeg ||| τ.1 2 y.toNatClampNeg) j else if a = 12 then shf (τ.1 12) 0 e j else if a = 0 ∧ j = 1 then τ.1 0 1 + 1 else τ.1 a j := by
      intro e a j
      simp only [uI_1]
      unfold shf
      by_cases c8 : a = 10
      · subst c8
        by_cases j0 : j = 0 <;> simp [j0]
      · by_cases c9 : a = 11
        · subst c9
          by_cases j0 : j = 0 <;> simp [j0]
        · by_cases c10 : a = 12
          · subst c10
            by_cases j0 : j = 0 <;> simp [j0]
          · simp [c8, c9, c10]
    rw [f_X6_branch_169, if_pos (show nI 0 ≤ (0 : Int32) by decide), tz0]
    unfold f_X6_branch_282 f_X6_branch_283
    simp only [tz0]
    have r2 : ∀ z, (uI (uI τ 10 0 t) 11 0 z).1 4 x.toNatClampNeg = τ.1 4 x.toNatClampNeg := fun z => by simp [uI_1]
    have r3 : ∀ z, (uI (uI τ 10 0 t) 11 0 z).1 4 y.toNatClampNeg = τ.1 4 y.toNatClampNeg := fun z => by simp [uI_1]
    have r4 : (uI τ 10 0 t).1 2 x.toNatClampNeg = τ.1 2 x.toNatClampNeg := by simp [uI_1]
    have r5 : (uI τ 10 0 t).1 2 y.toNatClampNeg = τ.1 2 y.toNatClampNeg := by simp [uI_1]
    have r6 : ∀ z e, (uI (uI (uI τ 10 0 t) 11 0 z) 12 0 e).1 0 1 = τ.1 0 1 := fun z e => by simp [uI_1]
    rw [r4, r5, r2, r3, r6, r6]
    by_cases c1 : τ.1 4 x.toNatClampNeg = 0
    · simp only [if_pos c1]
      exact ⟨_, rfl, rfl, hfin 0⟩
    · simp only [if_neg c1]
      by_cases c2 : τ.1 4 y.toNatClampNeg = 0
      · simp only [if_pos c2]
        exact ⟨_, rfl, rfl, hfin 0⟩
      · simp only [if_neg c2]
        exact ⟨_, rfl, rfl, hfin 1⟩
  | succ k ih =>
    intro n τ hn h16
    obtain ⟨n, rfl⟩ : ∃ z, n = z + 1 := ⟨n - 1, by omega⟩
    have e1 : nI (k + 1) + -1 = nI k := by
      rw [← nI_1]
      show nI k + 1 + -1 = nI k
      rw [Int32.add_assoc, show (1 : Int32) + -1 = 0 from rfl, Int32.add_zero]
    have e2 : nI (k + 1) - 1 = nI k := by
      rw [← nI_1, Int32.add_sub_cancel]
    rw [f_X6_branch_169, if_neg (show ¬ nI (k + 1) ≤ (0 : Int32) from fun q => by have := (nI_leI (b := 0) (by omega) (by decide)).mp q; omega)]
    simp only [sm_le]
    rw [e1, e2, nI_cl (show k + 1 < 2 ^ 31 by omega), nI_cl (show k < 2 ^ 31 by omega)]
    have r1 : (uI τ 10 (k + 1) (τ.1 10 k)).1 11 k = τ.1 11 k := by simp [uI_1]
    have r2 : ∀ z, (uI (uI τ 10 (k + 1) (τ.1 10 k)) 11 (k + 1) z).1 12 k = τ.1 12 k := fun z => by simp [uI_1]
    rw [r1, r2]
    obtain ⟨ρ, i0, i1, i2⟩ := ih n (uI (uI (uI τ 10 (k + 1) (τ.1 10 k)) 11 (k + 1) (τ.1 11 k)) 12 (k + 1) (τ.1 12 k)) (by omega) (by omega)
    refine ⟨ρ, i0, i1, fun a j => ?_⟩
    rw [i2]
    simp only [uI_1]
    unfold shf
    by_cases c8 : a = 10
    · subst c8
      by_cases j0 : j = 0
      · simp [j0]
      · by_cases jk : j ≤ k
        · simp [j0, jk, show j ≤ k + 1 by omega, show ¬ j - 1 = k + 1 by omega, uI_1]
        · by_cases jk1 : j = k + 1
          · subst jk1
            simp [uI_1]
          · simp [j0, jk, jk1, show ¬ j ≤ k + 1 by omega, uI_1]
    · by_cases c9 : a = 11
      · subst c9
        by_cases j0 : j = 0
        · simp [j0, uI_1]
        · by_cases jk : j ≤ k
          · simp [j0, jk, show j ≤ k + 1 by omega, show ¬ j - 1 = k + 1 by omega, uI_1]
          · by_cases jk1 : j = k + 1
            · subst jk1
              simp [uI_1]
            · simp [j0, jk, jk1, show ¬ j ≤ k + 1 by omega, uI_1]
      · by_cases c10 : a = 12
        · subst c10
          by_cases j0 : j = 0
          · simp [j0, uI_1]
          · by_cases jk : j ≤ k
            · simp [j0, jk, show j ≤ k + 1 by omega, show ¬ j - 1 = k + 1 by omega, uI_1]
            · by_cases jk1 : j = k + 1
              · subst jk1
                simp [uI_1]
              · simp [j0, jk, jk1, show ¬ j ≤ k + 1 by omega, uI_1]
        · simp [c8, c9, c10, uI_1]
/-! the class's notes, a ring -/
def cN (c : Int32) : Nat := c.toBitVec.toNat
theorem cN_lt (c : Int32) : cN c < 2 ^ 32 := c.toBitVec.isLt
theorem cN_eq (c : Int32) : c = nI (cN c) := by
  apply Int32.toBitVec_inj.mp
  show _ = BitVec.ofNat 32 (cN c)
  unfold cN
  simp
theorem cN_n {n : Nat} (h : n < 2 ^ 32) : cN (nI n) = n := by
  show (BitVec.ofNat 32 n).toNat = n
  rw [BitVec.toNat_ofNat, Nat.mod_eq_of_lt h]
def rS (c : Int32) : Nat := 3 * (cN c % 16)
def rI (c : Int32) (k : Nat) : Nat := 3 * ((cN c + 15 - k) % 16)
theorem start_z (c : Int32) : f_X2_startOf c = nI (rS c) := by
  unfold f_X2_startOf rS
  have : c &&& 15 = nI (cN c % 16) := by
    rw [cN_eq c, show (15 : Int32) = nI (2 ^ 4 - 1) from rfl, nI_and, Nat.and_two_pow_sub_one_eq_mod, ← cN_eq c]
  rw [this]
  show nI (cN c % 16) * nI 3 = _
  have e : ∀ a b : Nat, nI a * nI b = nI (a * b) := fun a b => (Int32.ofNat_mul a b).symm
  rw [e, Nat.mul_comm]
theorem cN_sub (c : Int32) {k : Nat} (hk : k < 16) : cN (c - 1 - nI k) % 16 = (cN c + 15 - k) % 16 := by
  have h : (c - 1 - nI k) = nI (cN c + (2 ^ 32 - 1 - k)) := by
    have e : c - 1 - nI k = c - nI (1 + k) := by
      rw [← nI_add, Int32.sub_sub]
      rfl
    rw [e]
    have e2 : nI (cN c + (2 ^ 32 - 1 - k)) + nI (1 + k) = nI (cN c) := by
      rw [nI_add, show cN c + (2 ^ 32 - 1 - k) + (1 + k) = cN c + 2 ^ 32 by omega]
      apply Int32.toBitVec_inj.mp
      show BitVec.ofNat 32 _ = BitVec.ofNat 32 _
      apply BitVec.eq_of_toNat_eq
      rw [BitVec.toNat_ofNat, BitVec.toNat_ofNat]
      omega
    rw [← cN_eq c] at e2
    rw [← e2, Int32.add_sub_cancel, e2]
  rw [h]
  have : cN (nI (cN c + (2 ^ 32 - 1 - k))) = (cN c + (2 ^ 32 - 1 - k)) % 2 ^ 32 := by
    show (BitVec.ofNat 32 _).toNat = _
    rw [BitVec.toNat_ofNat]
  rw [this]
  omega
theorem cN_1 (c : Int32) : cN (c + 1) = (cN c + 1) % 2 ^ 32 := by
  have : c + 1 = nI (cN c + 1) := by
    rw [← nI_1, ← cN_eq]
  rw [this]
  show (BitVec.ofNat 32 _).toNat = _
  rw [BitVec.toNat_ofNat]
theorem rI_0 (c : Int32) : rI (c + 1) 0 = rS c := by
  unfold rI rS
  rw [cN_1]
  omega
theorem rI_s (c : Int32) {k : Nat} (h : 1 ≤ k) (h2 : k < 16) : rI (c + 1) k = rI c (k - 1) ∧ (rI c (k - 1) + 2 < rS c ∨ rS c + 2 < rI c (k - 1)) := by
  unfold rI rS
  rw [cN_1]
  have := cN_lt c
  omega
theorem add_eq (k : Nat) (σ : sm_S) (a b d : Int32) : (f_X2_add k σ a b d).2 = σ.2 ∧ ∀ x j, (f_X2_add k σ a b d).1 x j = if x = k ∧ j = 0 then σ.1 k 0 + 1 else if x = k + 1 ∧ j = rS (σ.1 k 0) then a else if x = k + 1 ∧ j = rS (σ.1 k 0) + 1 then b else if x = k + 1 ∧ j = rS (σ.1 k 0) + 2 then d else σ.1 x j := by
  have hr : rS (σ.1 k 0) < 48 := by
    unfold rS
    omega
  unfold f_X2_add
  rw [start_z]
  simp only [sm_le]
  have e1 : (nI (rS (σ.1 k 0)) + 1).toNatClampNeg = rS (σ.1 k 0) + 1 := by rw [nI_1, nI_cl (by omega)]
  have e2 : (nI (rS (σ.1 k 0)) + 2).toNatClampNeg = rS (σ.1 k 0) + 2 := by rw [show (2 : Int32) = nI 2 from rfl, nI_add, nI_cl (by omega)]
  rw [nI_cl (by omega), e1, e2]
  refine ⟨rfl, fun x j => ?_⟩
  simp only [uI_1]
  by_cases c1 : x = k ∧ j = 0
  · rw [if_pos c1, if_pos c1]
    simp
  · rw [if_neg c1, if_neg c1]
    by_cases c2 : x = k + 1
    · subst c2
      by_cases j0 : j = rS (σ.1 k 0)
      · simp [j0]
      · by_cases j1 : j = rS (σ.1 k 0) + 1
        · simp [j1]
        · by_cases j2 : j = rS (σ.1 k 0) + 2
          · simp [j2]
          · simp [j0, j1, j2]
    · simp [c2]
