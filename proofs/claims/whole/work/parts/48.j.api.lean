/-! what is refused -/
def inR (x : Int32) (N : Nat) : Prop := ∃ r : Nat, r < N ∧ x = nI r
theorem inR_t {x : Int32} {N : Nat} (hN : N < 2 ^ 31) : inR x N ↔ 0 ≤ x.toInt ∧ x.toInt < N := by
  constructor
  · rintro ⟨r, hr, rfl⟩
    rw [nI_toInt (by omega)]
    omega
  · rintro ⟨h1, h2⟩
    refine ⟨x.toInt.toNat, by omega, ?_⟩
    rw [iZ_nI]
    have := iZ_of x
    rw [this]
    congr 1
    rw [← this]
    omega
theorem nI_tI {N : Nat} (hN : N < 2 ^ 31) : (nI N).toInt = N := nI_toInt hN
theorem gX (x : Int32) {N : Nat} (hN : N < 2 ^ 31) : (f_X5_isBelow x.toInt64 (nI N) = 0) = ¬ inR x N := by
  rw [inR_t hN]
  unfold f_X5_isBelow
  have a : (x.toInt64 < 0) = (x.toInt < 0) := by rw [Int64.lt_iff_toInt_lt, Int32.toInt_toInt64]; rfl
  have b : ((nI N).toInt64 ≤ x.toInt64) = ((N : Int) ≤ x.toInt) := by rw [Int64.le_iff_toInt_le, Int32.toInt_toInt64, Int32.toInt_toInt64, nI_tI hN]
  simp only [a, b]
  apply propext
  by_cases c : x.toInt < 0
  · rw [if_pos c]
    simp
    omega
  · rw [if_neg c]
    by_cases d : (N : Int) ≤ x.toInt
    · rw [if_pos d]
      simp
      omega
    · rw [if_neg d]
      simp
      omega
theorem gM (x : Int32) {N : Nat} (hN : N < 2 ^ 31) : (f_X6_out x (nI N) = 0) = inR x N := by
  apply propext
  rw [inR_t hN]
  unfold f_X6_out
  have a : (x < 0) = (x.toInt < 0) := by rw [Int32.lt_iff_toInt_lt]; rfl
  have b : (x < nI N) = (x.toInt < N) := by rw [Int32.lt_iff_toInt_lt, nI_tI hN]
  simp only [a, b]
  by_cases c : x.toInt < 0
  · rw [if_pos c]
    simp
    omega
  · rw [if_neg c]
    by_cases d : x.toInt < N
    · rw [if_pos d]
      simp
      omega
    · rw [if_neg d]
      simp
      omega
theorem gX8 (x : Int32) : (f_X5_isBelow x.toInt64 8 = 0) = ¬ inR x 8 := gX x (N := 8) (by decide)
theorem gX4 (x : Int32) : (f_X5_isBelow x.toInt64 4 = 0) = ¬ inR x 4 := gX x (N := 4) (by decide)
theorem gX6 (x : Int32) : (f_X5_isBelow x.toInt64 6 = 0) = ¬ inR x 6 := gX x (N := 6) (by decide)
theorem gX2 (x : Int32) : (f_X5_isBelow x.toInt64 2 = 0) = ¬ inR x 2 := gX x (N := 2) (by decide)
theorem gX3 (x : Int32) : (f_X5_isBelow x.toInt64 3 = 0) = ¬ inR x 3 := gX x (N := 3) (by decide)
theorem gM8 (x : Int32) : (f_X6_out x 8 = 0) = inR x 8 := gM x (N := 8) (by decide)
theorem gM4 (x : Int32) : (f_X6_out x 4 = 0) = inR x 4 := gM x (N := 4) (by decide)
theorem gM6 (x : Int32) : (f_X6_out x 6 = 0) = inR x 6 := gM x (N := 6) (by decide)
theorem gM2 (x : Int32) : (f_X6_out x 2 = 0) = inR x 2 := gM x (N := 2) (by decide)
theorem gM3 (x : Int32) : (f_X6_out x 3 = 0) = inR x 3 := gM x (N := 3) (by decide)
theorem gM19 (x : Int32) : (f_X6_out x 19 = 0) = inR x 19 := gM x (N := 19) (by decide)
theorem pX8 {x : Int32} (c : inR x 8) : ¬ f_X5_isBelow x.toInt64 8 = 0 := by rw [gX8]; exact fun q => q c
theorem nX8 {x : Int32} (c : ¬ inR x 8) : f_X5_isBelow x.toInt64 8 = 0 := by rw [gX8]; exact c
theorem pX4 {x : Int32} (c : inR x 4) : ¬ f_X5_isBelow x.toInt64 4 = 0 := by rw [gX4]; exact fun q => q c
theorem nX4 {x : Int32} (c : ¬ inR x 4) : f_X5_isBelow x.toInt64 4 = 0 := by rw [gX4]; exact c
theorem pX6 {x : Int32} (c : inR x 6) : ¬ f_X5_isBelow x.toInt64 6 = 0 := by rw [gX6]; exact fun q => q c
theorem nX6 {x : Int32} (c : ¬ inR x 6) : f_X5_isBelow x.toInt64 6 = 0 := by rw [gX6]; exact c
theorem pX2 {x : Int32} (c : inR x 2) : ¬ f_X5_isBelow x.toInt64 2 = 0 := by rw [gX2]; exact fun q => q c
theorem nX2 {x : Int32} (c : ¬ inR x 2) : f_X5_isBelow x.toInt64 2 = 0 := by rw [gX2]; exact c
theorem pX3 {x : Int32} (c : inR x 3) : ¬ f_X5_isBelow x.toInt64 3 = 0 := by rw [gX3]; exact fun q => q c
theorem nX3 {x : Int32} (c : ¬ inR x 3) : f_X5_isBelow x.toInt64 3 = 0 := by rw [gX3]; exact c
theorem pM8 {x : Int32} (c : inR x 8) : f_X6_out x 8 = 0 := by rw [gM8]; exact c
theorem nM8 {x : Int32} (c : ¬ inR x 8) : ¬ f_X6_out x 8 = 0 := by rw [gM8]; exact c
theorem pM4 {x : Int32} (c : inR x 4) : f_X6_out x 4 = 0 := by rw [gM4]; exact c
theorem nM4 {x : Int32} (c : ¬ inR x 4) : ¬ f_X6_out x 4 = 0 := by rw [gM4]; exact c
theorem pM6 {x : Int32} (c : inR x 6) : f_X6_out x 6 = 0 := by rw [gM6]; exact c
theorem nM6 {x : Int32} (c : ¬ inR x 6) : ¬ f_X6_out x 6 = 0 := by rw [gM6]; exact c
theorem pM2 {x : Int32} (c : inR x 2) : f_X6_out x 2 = 0 := by rw [gM2]; exact c
theorem nM2 {x : Int32} (c : ¬ inR x 2) : ¬ f_X6_out x 2 = 0 := by rw [gM2]; exact c
theorem pM3 {x : Int32} (c : inR x 3) : f_X6_out x 3 = 0 := by rw [gM3]; exact c
theorem nM3 {x : Int32} (c : ¬ inR x 3) : ¬ f_X6_out x 3 = 0 := by rw [gM3]; exact c
theorem pM19 {x : Int32} (c : inR x 19) : f_X6_out x 19 = 0 := by rw [gM19]; exact c
theorem nM19 {x : Int32} (c : ¬ inR x 19) : ¬ f_X6_out x 19 = 0 := by rw [gM19]; exact c
theorem pI {σ : sm_S} {x : Int32} (c : inR x 8) (d : σ.1 1 x.toNatClampNeg = 0) : ¬ f_X5_isInt σ x = 0 := by
  unfold f_X5_isInt
  rw [if_neg (pX8 c), if_pos d]
  decide
theorem nI1 {σ : sm_S} {x : Int32} (c : ¬ inR x 8) : f_X5_isInt σ x = 0 := by
  unfold f_X5_isInt
  rw [if_pos (nX8 c)]
theorem nI2 {σ : sm_S} {x : Int32} (c : inR x 8) (d : ¬ σ.1 1 x.toNatClampNeg = 0) : f_X5_isInt σ x = 0 := by
  unfold f_X5_isInt
  rw [if_neg (pX8 c), if_neg d]
theorem in4 {x : Int32} (h : inR x 4) : x = 0 ∨ x = 1 ∨ x = 2 ∨ x = 3 := by
  obtain ⟨r, hr, rfl⟩ := h
  rcases (by omega : r = 0 ∨ r = 1 ∨ r = 2 ∨ r = 3) with rfl | rfl | rfl | rfl
  · exact Or.inl rfl
  · exact Or.inr (Or.inl rfl)
  · exact Or.inr (Or.inr (Or.inl rfl))
  · exact Or.inr (Or.inr (Or.inr rfl))
theorem kv_held {k : Int32} (x : Int64) (hk : k = 0 ∨ k = 1 ∨ k = 2 ∨ k = 3) : KV k (f_X5_held k x) := by
  refine ⟨hk, ?_, ?_⟩
  · rintro rfl
    exact wf_held2 x
  · rintro rfl
    exact wf_held3 x
theorem kv_01 {k : Int32} {x : Int64} (hk : k = 0 ∨ k = 1) : KV k x := by
  rcases hk with rfl | rfl
  · exact ⟨Or.inl rfl, fun q => absurd q (by decide), fun q => absurd q (by decide)⟩
  · exact ⟨Or.inr (Or.inl rfl), fun q => absurd q (by decide), fun q => absurd q (by decide)⟩
theorem st_constant {σ τ : sm_S} (h : Rel σ τ) (x1 : Int32) (x2 : Int32) (x3 : Int64) : (f_X5_constant σ x1 x2 x3).1 = (f_X6_constant τ x1 x2 x3).1 ∧ Rel (f_X5_constant σ x1 x2 x3).2 (f_X6_constant τ x1 x2 x3).2 := by
  unfold f_X5_constant f_X6_constant
  simp only [sm_le]
  by_cases c1 : inR x1 8
  · by_cases c2 : inR x2 4
    · rw [if_neg (pX8 c1), if_neg (pX4 c2), if_pos (pM8 c1), if_pos (pM4 c2)]
      obtain ⟨r, hr, rfl⟩ := c1
      have hk := in4 c2
      obtain ⟨τ1, k1, k2⟩ := xm_clean (uI τ 1 (nI r).toNatClampNeg x2) x2 x3 hk
      rw [k1]
      dsimp only
      rw [put_eq, nI_cl (show r < 2 ^ 31 by omega)]
      rw [nI_cl (show r < 2 ^ 31 by omega)] at k2
      exact ⟨rfl, h.put hr (kv_held x3 hk) SR.z k2⟩
    · rw [if_neg (pX8 c1), if_pos (nX4 c2), if_pos (pM8 c1), if_neg (nM4 c2)]
      exact ⟨rfl, h⟩
  · rw [if_pos (nX8 c1), if_neg (nM8 c1)]
    exact ⟨rfl, h⟩
theorem inp_s : ∀ k, k < 6 → SR ((64 : Int32) + ((1 : Int32) <<< (nI k &&& 31))) ((1 : Int32) <<< (nI k &&& 31)) (pE ((1 : Int32) <<< (nI k &&& 31)) 1) := by
  intro k hk
  have h : ∀ k, k < 6 → (64 : Int32) + ((1 : Int32) <<< (nI k &&& 31)) = nI (2 ^ k + 64) ∧ (1 : Int32) <<< (nI k &&& 31) = nI (2 ^ k) ∧ pE ((1 : Int32) <<< (nI k &&& 31)) 1 = 1 ∧ 2 ^ k < 64 ∧ 2 ^ k ≠ 0 := by decide +kernel
  obtain ⟨h1, h2, h3, h4, h5⟩ := h k hk
  exact ⟨2 ^ k, true, h4, fun _ => rfl, h2, h3, h1⟩
theorem st_input {σ τ : sm_S} (h : Rel σ τ) (x1 : Int32) (x2 : Int32) (x3 : Int64) (x5 : Int32) : (f_X5_input σ x1 x2 x3 x5).1 = (f_X6_input τ x1 x2 x3 x5).1 ∧ Rel (f_X5_input σ x1 x2 x3 x5).2 (f_X6_input τ x1 x2 x3 x5).2 := by
  unfold f_X5_input f_X6_input
  simp only [sm_le]
  by_cases c1 : inR x1 8
  · by_cases c2 : inR x2 4
    · by_cases c3 : inR x5 6
      · rw [if_neg (pX8 c1), if_neg (pX4 c2), if_neg (pX6 c3), if_pos (pM8 c1), if_pos (pM4 c2), if_pos (pM6 c3)]
        obtain ⟨r, hr, rfl⟩ := c1
        obtain ⟨k, hk6, rfl⟩ := c3
        have hk := in4 c2
        obtain ⟨τ1, k1, k2⟩ := xm_clean (uI τ 1 (nI r).toNatClampNeg x2) x2 x3 hk
        rw [k1]
        dsimp only
        rw [put_eq, nI_cl (show r < 2 ^ 31 by omega)]
        rw [nI_cl (show r < 2 ^ 31 by omega)] at k2
        exact ⟨rfl, h.put hr (kv_held x3 hk) (inp_s k hk6) k2⟩
      · rw [if_neg (pX8 c1), if_neg (pX4 c2), if_pos (nX6 c3), if_pos (pM8 c1), if_pos (pM4 c2), if_neg (nM6 c3)]
        exact ⟨rfl, h⟩
    · rw [if_neg (pX8 c1), if_pos (nX4 c2), if_pos (pM8 c1), if_neg (nM4 c2)]
      exact ⟨rfl, h⟩
  · rw [if_pos (nX8 c1), if_neg (nM8 c1)]
    exact ⟨rfl, h⟩
theorem st_move {σ τ : sm_S} (h : Rel σ τ) (x1 : Int32) (x2 : Int32) : (f_X5_move σ x1 x2).1 = (f_X6_move τ x1 x2).1 ∧ Rel (f_X5_move σ x1 x2).2 (f_X6_move τ x1 x2).2 := by
  unfold f_X5_move f_X6_move
  simp only [sm_le]
  by_cases c1 : inR x1 8
  · by_cases c2 : inR x2 8
    · rw [if_neg (pX8 c1), if_neg (pX8 c2), if_pos (pM8 c1), if_pos (pM8 c2)]
      obtain ⟨r, hr, rfl⟩ := c1
      obtain ⟨p, hp, rfl⟩ := c2
      obtain ⟨g1, g2, g3, g4⟩ := h.rg p hp
      rw [put_eq, nI_cl (show r < 2 ^ 31 by omega), nI_cl (show p < 2 ^ 31 by omega), g1, g2]
      have e1 : (uI τ 1 r (τ.1 1 p)).2.1 3 p = τ.2.1 3 p := rfl
      have e2 : (uI τ 1 r (τ.1 1 p)).1 2 p = τ.1 2 p := by rw [uI_1, if_neg (by omega)]
      have e4 : (uI τ 1 r (τ.1 1 p)).1 4 p = τ.1 4 p := by rw [uI_1, if_neg (by omega)]
      rw [e1, e2, e4]
      exact ⟨rfl, h.put hr g3 g4.keep (sq.rf _)⟩
    · rw [if_neg (pX8 c1), if_pos (nX8 c2), if_pos (pM8 c1), if_neg (nM8 c2)]
      exact ⟨rfl, h⟩
  · rw [if_pos (nX8 c1), if_neg (nM8 c1)]
    exact ⟨rfl, h⟩
theorem AH.neg {σ τ : sm_S} {x : Nat} (h : AH σ τ x) : (∃ c s, c < 4 ∧ s < 4 ∧ σ.2.2 x = some c ∧ τ.1 5 x = nI s ∧ CR σ τ c s ∧ 0 ≤ τ.1 5 x) ∨ (σ.2.2 x = none ∧ τ.1 5 x = -1 ∧ ¬ 0 ≤ τ.1 5 x) := by
  rcases h with ⟨a, b⟩ | ⟨c, s, h1, h2, h3, h4, h5⟩
  · exact Or.inr ⟨a, b, by rw [b]; decide⟩
  · exact Or.inl ⟨c, s, h1, h2, h3, h4, h5, by rw [h4]; exact (nI_leI (a := 0) (by decide) (by omega)).mpr (by omega)⟩
theorem oc_n {α : Type} {q : Option Nat} {a : α} {b : Nat → α} (h : q = none) : sm_oc q a b = a := by rw [h]; rfl
theorem oc_s {α : Type} {q : Option Nat} {a : α} {b : Nat → α} {i : Nat} (h : q = some i) : sm_oc q a b = b i := by rw [h]; rfl
theorem st_length {σ τ : sm_S} (h : Rel σ τ) (x1 : Int32) (x2 : Int32) : (f_X5_length σ x1 x2).1 = (f_X6_length τ x1 x2).1 ∧ Rel (f_X5_length σ x1 x2).2 (f_X6_length τ x1 x2).2 := by
  unfold f_X5_length f_X6_length
  simp only [sm_le]
  by_cases c1 : inR x1 8
  · by_cases c2 : inR x2 4
    · rw [if_neg (pX8 c1), if_neg (pX4 c2), if_pos (pM8 c1), if_pos (pM4 c2)]
      obtain ⟨r, hr, rfl⟩ := c1
      obtain ⟨p, hp, rfl⟩ := c2
      rw [nI_cl (show p < 2 ^ 31 by omega)]
      rcases (h.ar p hp).neg with ⟨c, s, q1, q2, q3, q4, q5, q6⟩ | ⟨q1, q2, q3⟩
      · rw [oc_s q3, if_pos q6, put_eq, nI_cl (show r < 2 ^ 31 by omega)]
        have e5 : (uI τ 1 r 0).1 5 p = nI s := by rw [uI_1, if_neg (by omega), q4]
        rw [e5, nI_cl (show s < 2 ^ 31 by omega)]
        have e7 : (uI τ 1 r 0).1 7 s = σ.1 (10 + 3 * c) 1 := by rw [uI_1, if_neg (by omega), q5.2.1]
        rw [e7]
        exact ⟨rfl, h.put hr (kv_01 (Or.inl rfl)) SR.z (sq.rf _)⟩
      · rw [oc_n q1, if_neg q3]
        exact h.fail _
    · rw [if_neg (pX8 c1), if_pos (nX4 c2), if_pos (pM8 c1), if_neg (nM4 c2)]
      exact ⟨rfl, h⟩
  · rw [if_pos (nX8 c1), if_neg (nM8 c1)]
    exact ⟨rfl, h⟩
/-! asking -/
theorem st_kind {σ τ : sm_S} (h : Rel σ τ) (x1 : Int32) : f_X5_kind σ x1 = f_X6_kind τ x1 := by
  unfold f_X5_kind f_X6_kind
  by_cases c1 : inR x1 8
  · rw [if_neg (pX8 c1), if_pos (pM8 c1)]
    obtain ⟨r, hr, rfl⟩ := c1
    rw [nI_cl (by omega), (h.rg r hr).1]
  · rw [if_pos (nX8 c1), if_neg (nM8 c1)]
theorem st_bits {σ τ : sm_S} (h : Rel σ τ) (x1 : Int32) : f_X5_bits σ x1 = f_X6_bits τ x1 := by
  unfold f_X5_bits f_X6_bits
  by_cases c1 : inR x1 8
  · rw [if_neg (pX8 c1), if_pos (pM8 c1)]
    obtain ⟨r, hr, rfl⟩ := c1
    rw [nI_cl (by omega), (h.rg r hr).2.1]
  · rw [if_pos (nX8 c1), if_neg (nM8 c1)]
theorem st_shadow {σ τ : sm_S} (h : Rel σ τ) (x1 : Int32) : f_X5_shadow σ x1 = f_X6_shadow τ x1 := by
  unfold f_X5_shadow f_X6_shadow
  by_cases c1 : inR x1 8
  · rw [if_neg (pX8 c1), if_pos (pM8 c1)]
    obtain ⟨r, hr, rfl⟩ := c1
    rw [nI_cl (by omega)]
    exact (h.rg r hr).2.2.2.told
  · rw [if_pos (nX8 c1), if_neg (nM8 c1)]
theorem in_neg {x : Int32} {N : Nat} (hN : N < 2 ^ 31) (h : ¬ inR x N) : x.toInt < 0 ∨ (N : Int) ≤ x.toInt := by
  rw [inR_t hN] at h
  omega
theorem told_eq {σ : sm_S} {c k w : Nat} (hk : k < 16) (hw : w < 3) : (f_X2_startOf (σ.1 c 0 - 1 - nI k) + nI w).toNatClampNeg = rI (σ.1 c 0) k + w := by
  rw [start_z, nI_add]
  have : rS (σ.1 c 0 - 1 - nI k) = rI (σ.1 c 0) k := by
    unfold rS rI
    rw [cN_sub _ hk]
  rw [this, nI_cl]
  unfold rI
  omega
theorem told_no {σ : sm_S} {c : Nat} {x1 x2 : Int32} (h : ¬ inR x1 16 ∨ σ.1 c 0 ≤ x1 ∨ ¬ inR x2 3) : f_X2_told c σ x1 x2 = 1234567890123456789 := by
  unfold f_X2_told
  repeat' split
  all_goals first | rfl | skip
  rename_i h1 h2 h3 h4
  rcases h with q | q | q
  · rcases in_neg (by decide) q with q | q
    · exact absurd (Int32.lt_iff_toInt_lt.mpr q) h1
    · exact absurd (show (16 : Int32) ≤ x1 from Int32.le_iff_toInt_le.mpr (by have e : (16 : Int32).toInt = 16 := rfl; omega)) h2
  · exact absurd q h3
  · exact absurd (nX3 q) h4
theorem told_yes {σ : sm_S} {c k w : Nat} (hk : k < 16) (hw : w < 3) (h : ¬ σ.1 c 0 ≤ nI k) : f_X2_told c σ (nI k) (nI w) = (σ.1 (c + 1) (rI (σ.1 c 0) k + w)).toInt64 := by
  unfold f_X2_told
  have a : ¬ nI k < 0 := by rw [Int32.lt_iff_toInt_lt, nI_tI (by omega)]; show ¬ (k : Int) < 0; omega
  have b : ¬ 16 ≤ nI k := by rw [Int32.le_iff_toInt_le, nI_tI (by omega)]; show ¬ (16 : Int) ≤ k; omega
  rw [if_neg a, if_neg b, if_neg h, if_neg (pX3 ⟨w, hw, rfl⟩), told_eq hk hw]
theorem st_pin {σ τ : sm_S} (h : Rel σ τ) (x1 : Int32) (x2 : Int32) : f_X5_pin σ x1 x2 = f_X6_pin τ x1 x2 := by
  unfold f_X5_pin f_X6_pin
  by_cases c1 : inR x1 16
  · have c1t := (inR_t (by decide)).mp c1
    rw [if_neg (show ¬ x1 < 0 from fun q => by have := Int32.lt_iff_toInt_lt.mp q; have e : (0 : Int32).toInt = 0 := rfl; omega), if_neg (show ¬ 15 < x1 from fun q => by have := Int32.lt_iff_toInt_lt.mp q; have e : (15 : Int32).toInt = 15 := rfl; omega), ← h.pc]
    by_cases c3 : σ.1 6 0 ≤ x1
    · rw [if_pos c3, told_no (Or.inr (Or.inl c3))]
      split <;> rfl
    · rw [if_neg c3]
      by_cases c2 : inR x2 2
      · rw [if_neg (pX2 c2), if_pos (pM2 c2)]
        obtain ⟨k, hk, rfl⟩ := c1
        obtain ⟨w, hw, rfl⟩ := c2
        rw [told_yes hk (by omega) c3, nI_cl (show k < 2 ^ 31 by omega)]
        have hp := h.pn k hk
        rcases (by omega : w = 0 ∨ w = 1) with rfl | rfl
        · rw [if_pos (show nI 0 = 0 from rfl), ← hp.1]
          rfl
        · rw [if_neg (show ¬ nI 1 = 0 by decide), ← hp.2]
      · rw [if_pos (nX2 c2), if_neg (nM2 c2)]
  · have c1t := in_neg (by decide) c1
    rw [told_no (Or.inl c1)]
    have e : ∀ z : Int64, (if x1 < 0 then 1234567890123456789 else if 15 < x1 then 1234567890123456789 else z) = 1234567890123456789 := by
      intro z
      by_cases q : x1 < 0
      · rw [if_pos q]
      · rw [if_neg q, if_pos]
        rw [Int32.lt_iff_toInt_lt] at q ⊢
        have e : (15 : Int32).toInt = 15 := rfl
        have e0 : (0 : Int32).toInt = 0 := rfl
        omega
    rw [e]
    split <;> rfl
theorem st_way {σ τ : sm_S} (h : Rel σ τ) (x1 : Int32) (x2 : Int32) : f_X5_way σ x1 x2 = f_X6_way τ x1 x2 := by
  unfold f_X5_way f_X6_way
  by_cases c1 : inR x1 16
  · have c1t := (inR_t (by decide)).mp c1
    rw [if_neg (show ¬ x1 < 0 from fun q => by have := Int32.lt_iff_toInt_lt.mp q; have e : (0 : Int32).toInt = 0 := rfl; omega), if_neg (show ¬ 15 < x1 from fun q => by have := Int32.lt_iff_toInt_lt.mp q; have e : (15 : Int32).toInt = 15 := rfl; omega), ← h.wc]
    by_cases c3 : σ.1 8 0 ≤ x1
    · rw [if_pos c3, told_no (Or.inr (Or.inl c3))]
      split <;> rfl
    · rw [if_neg c3]
      by_cases c2 : inR x2 3
      · rw [if_neg (pX3 c2), if_pos (pM3 c2)]
        obtain ⟨k, hk, rfl⟩ := c1
        obtain ⟨w, hw, rfl⟩ := c2
        rw [told_yes hk (by omega) c3, nI_cl (show k < 2 ^ 31 by omega)]
        have hp := h.wn k hk
        rcases (by omega : w = 0 ∨ w = 1 ∨ w = 2) with rfl | rfl | rfl
        · rw [if_pos (show nI 0 = 0 from rfl), ← hp.1]
          rfl
        · rw [if_neg (show ¬ nI 1 = 0 by decide), if_pos (show nI 1 = 1 from rfl), ← hp.2.1]
        · rw [if_neg (show ¬ nI 2 = 0 by decide), if_neg (show ¬ nI 2 = 1 by decide), ← hp.2.2]
      · rw [if_pos (nX3 c2), if_neg (nM3 c2)]
  · have c1t := in_neg (by decide) c1
    rw [told_no (Or.inl c1)]
    have e : ∀ z : Int64, (if x1 < 0 then 1234567890123456789 else if 15 < x1 then 1234567890123456789 else z) = 1234567890123456789 := by
      intro z
      by_cases q : x1 < 0
      · rw [if_pos q]
      · rw [if_neg q, if_pos]
        rw [Int32.lt_iff_toInt_lt] at q ⊢
        have e : (15 : Int32).toInt = 15 := rfl
        have e0 : (0 : Int32).toInt = 0 := rfl
        omega
    rw [e]
    split <;> rfl
