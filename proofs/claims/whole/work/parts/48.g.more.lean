/-! the rest of what is done with numbers -/
theorem mk_1 (x : Int64) : ∃ g n, n < 2 ^ fB 1 ∧ x = mkf 1 g n := by
  obtain ⟨N, hN, rfl⟩ := n_of x
  by_cases c : N < 2 ^ 63
  · exact ⟨false, N, c, rfl⟩
  · refine ⟨true, N - 2 ^ 63, by show _ < 2 ^ 63; omega, ?_⟩
    show lN N = lN (2 ^ 63 * 1 + (N - 2 ^ 63))
    rw [show 2 ^ 63 * 1 + (N - 2 ^ 63) = N by omega]
theorem mk_0 (y : Int32) : ∃ g n, n < 2 ^ fB 0 ∧ y.toInt64 = mkf 0 g n := by
  have h1 := Int32.le_toInt y
  have h2 := Int32.toInt_lt y
  by_cases c : 0 ≤ y.toInt
  · refine ⟨false, y.toInt.toNat, by show _ < 2 ^ 31; omega, Int64.toInt_inj.mp ?_⟩
    rw [mkf_t (by show _ < 2 ^ 31; omega), Int32.toInt_toInt64, if_neg (by decide)]
    omega
  · refine ⟨true, (y.toInt + 2 ^ 31).toNat, by show _ < 2 ^ 31; omega, Int64.toInt_inj.mp ?_⟩
    rw [mkf_t (by show _ < 2 ^ 31; omega), Int32.toInt_toInt64, if_pos rfl]
    show _ = _ - (2 : Int) ^ 31
    omega
theorem mk_0i {g : Bool} {n : Nat} (hn : n < 2 ^ fB 0) : (mkf 0 g n).toInt32.toInt64 = mkf 0 g n := by
  have t := mkf_t (i := 0) (g := g) hn
  have hn : n < 2 ^ 31 := hn
  have e : ((2 : Int) ^ fB 0) = 2 ^ 31 := rfl
  rw [e] at t
  apply Int64.toInt_inj.mp
  rw [Int32.toInt_toInt64, Int64.toInt_toInt32, t]
  apply Int.bmod_eq_of_le
  · cases g <;> simp <;> omega
  · cases g <;> simp <;> omega
theorem m_none {i n : Nat} {g : Bool} (σ : sm_S) (hn : n < 2 ^ fB i) : ∃ τ, f_X6_isNone σ (wI i) (mkf i g n) = (if pIn i < n then 1 else 0, τ) ∧ sq τ σ := by
  obtain ⟨hT, hs⟩ := take1 (g := g) σ hn
  unfold f_X6_isNone
  rw [sm_le]
  generalize f_X6_take σ 0 (mkf i g n) (wI i) = u at hT hs ⊢
  rw [tz0, hT.1]
  simp only [fS3]
  by_cases c : pIn i < n
  · rw [if_pos c, if_pos c]
    exact ⟨u, rfl, hs⟩
  · rw [if_neg c, if_neg c]
    exact ⟨u, rfl, hs⟩
theorem clean34 {i n : Nat} {g : Bool} (k : Int32) (σ : sm_S) (hk : (if k = 3 then (1 : Int32) else 0) = wI i) (hn : n < 2 ^ fB i) : ∃ τ, f_X6_clean_34 k (mkf i g n) σ (wI i) = (f_X1_withOneNan i (mkf i g n), τ) ∧ sq τ σ := by
  obtain ⟨τ, h1, h2⟩ := m_none (g := g) σ hn
  unfold f_X6_clean_34 f_X1_withOneNan f_X6_clean_53
  rw [h1]
  simp only [sm_le, x_nan0 hn]
  have hw : (if k = 3 then ((f_X6_none 1, τ) : Int64 × sm_S) else (f_X6_none 0, τ)) = (f_X6_none (wI i), τ) := by
    rw [← hk]
    split <;> rfl
  rw [hw, no_n]
  by_cases c : pIn i < n
  · rw [if_pos c, if_neg (by decide), if_neg (by omega)]
    exact ⟨τ, rfl, h2⟩
  · rw [if_neg c, if_pos rfl, if_pos (by omega)]
    exact ⟨τ, rfl, h2⟩
theorem xm_clean (σ : sm_S) (k : Int32) (x : Int64) (hk : k = 0 ∨ k = 1 ∨ k = 2 ∨ k = 3) : ∃ τ, f_X6_clean σ k x = (f_X5_held k x, τ) ∧ sq τ σ := by
  rcases hk with rfl | rfl | rfl | rfl
  · exact ⟨σ, rfl, sq.rf σ⟩
  · exact ⟨σ, rfl, sq.rf σ⟩
  · obtain ⟨g, n, hn, e⟩ := mk_0 x.toInt32
    have h := clean34 (g := g) 2 σ (i := 0) (by decide) hn
    rw [show wI 0 = 0 from rfl, ← e] at h
    exact h
  · obtain ⟨g, n, hn, e⟩ := mk_1 x
    have h := clean34 (g := g) 3 σ (i := 1) (by decide) hn
    rw [show wI 1 = 1 from rfl, ← e] at h
    exact h
theorem wf_held2 (x : Int64) : wf 0 (f_X5_held 2 x) := by
  obtain ⟨g, n, hn, e⟩ := mk_0 x.toInt32
  have := wf_one (g := g) hn
  rw [← e] at this
  exact this
theorem wf_held3 (x : Int64) : wf 1 (f_X5_held 3 x) := by
  obtain ⟨g, n, hn, e⟩ := mk_1 x
  have := wf_one (g := g) hn
  rw [← e] at this
  exact this
def kI (i : Nat) : Int32 := if i = 0 then 2 else 3
def mI (i : Nat) : Int64 := if i = 0 then 2147483647 else 9223372036854775807
theorem m_mask {i n : Nat} {g : Bool} (hn : n < 2 ^ fB i) : mkf i g n &&& mI i = lN n := by
  have h := x_mag (g := g) hn
  unfold f_X1_magnitude at h
  have : kSi i ^^^ (-1) = mI i := by unfold kSi mI; split <;> decide
  rw [this] at h
  exact h
theorem mkf_ltz {i n : Nat} {g : Bool} (hn : n < 2 ^ fB i) : (mkf i g n < 0) = (g = true) := by
  have := mkf_pos (g := g) hn
  apply propext
  rw [← Int64.not_le, this]
  cases g <;> simp
theorem kI_3 (i : Nat) : (kI i = 3) = ¬ i = 0 := by unfold kI; by_cases c : i = 0 <;> simp [c]
theorem xm_turned {i : Nat} {x : Int64} (σ : sm_S) (o : Int32) (hx : wf i x) (ho : o = 15 ∨ o = 16) : ∃ τ, f_X6_turned σ o (kI i) x = (if o = 15 then f_X1_negated i x else f_X1_magnitude i x, τ) ∧ sq τ σ := by
  have hX := hx
  obtain ⟨g, n, hn, rfl, hc⟩ := hx
  obtain ⟨τ, h1, h2⟩ := m_none (g := g) σ hn
  have hk : (2 : Int32) ≤ kI i := by unfold kI; split <;> decide
  have h50 : f_X6_turned σ o (kI i) (mkf i g n) = f_X6_turned_50 o (kI i) (mkf i g n) σ (wI i) := by
    unfold f_X6_turned
    rw [if_pos hk]
    simp only [kI_3]
    unfold wI
    by_cases c : i = 0
    · rw [if_neg (fun q => q c), if_pos c]
    · rw [if_pos c, if_neg c]
  have h76 : ∀ t, f_X6_turned_76 (kI i) (mkf i g n) τ t = (mkf i (decide (t ≠ 0)) n, τ) := by
    intro t
    unfold f_X6_turned_76 f_X6_turned_89 f_X6_turned_109
    rw [← m_sig hn]
    have hm := m_mask (g := g) hn
    simp only [kI_3]
    unfold wI
    by_cases c : i = 0
    · rw [if_neg (fun q => q c), if_neg (fun q => q c), if_pos c, ← hm]
      unfold mI
      rw [if_pos c]
    · rw [if_pos c, if_pos c, if_neg c, ← hm]
      unfold mI
      rw [if_neg c]
  rw [h50]
  unfold f_X6_turned_50 f_X6_turned_75
  rw [h1]
  simp only [sm_le]
  rw [h76, h76]
  simp only [mkf_ltz hn]
  by_cases c : pIn i < n
  · rw [if_pos c, if_neg (by decide)]
    have e := hc c
    refine ⟨τ, ?_, h2⟩
    congr 1
    rcases ho with rfl | rfl
    · rw [if_pos rfl]
      unfold f_X1_negated
      simp only [x_nan0 hn]
      rw [if_neg (by omega), e]
    · rw [if_neg (by decide), e]
      rw [kNa_m, x_mag (pNa_lt i).2]
      rfl
  · rw [if_neg c, if_pos rfl]
    rcases ho with rfl | rfl
    · rw [if_pos rfl, if_pos rfl]
      unfold f_X1_negated
      simp only [x_nan0 hn]
      rw [if_pos (show n ≤ pIn i by omega), x_xor hn]
      cases g
      · exact ⟨τ, rfl, h2⟩
      · exact ⟨τ, rfl, h2⟩
    · rw [if_neg (by decide), if_neg (by decide), x_mag hn]
      exact ⟨τ, rfl, h2⟩
/-! order -/
theorem x_ord {i n : Nat} {g : Bool} (hn : n < 2 ^ fB i) : (f_X1_order i (mkf i g n)).toInt = if g = true then -(n : Int) else n := by
  have hb := fB_lt i
  unfold f_X1_order
  rw [x_neg hn, x_mag hn]
  cases g
  · show (mkf i false n).toInt = _
    exact mkf_t hn
  · show (-lN n).toInt = _
    exact Int64.toInt_neg_ofNat_of_le (by omega)
theorem m_rank {i n : Nat} {g : Bool} (hn : n < 2 ^ fB i) : (f_X6_rank (wI i) (mkf i g n)).toInt = if g = true then -1 - (n : Int) else n := by
  have hb := fB_lt i
  have hm := m_mask (g := g) hn
  have h17 : f_X6_rank (wI i) (mkf i g n) = f_X6_rank_17 (mkf i g n) (lN n) := by
    unfold f_X6_rank wI
    rw [← hm]
    unfold mI
    by_cases c : i = 0
    · simp [c]
    · simp [c]
  rw [h17]
  unfold f_X6_rank_17
  have hp := mkf_pos (g := g) hn
  cases g
  · rw [if_pos (hp.mpr rfl)]
    exact n_t (by omega)
  · rw [if_neg (fun q => absurd (hp.mp q) (by decide)), if_pos rfl, Int64.toInt_sub, n_t (by omega), show (-1 : Int64).toInt = -1 from rfl]
    apply Int.bmod_eq_of_le <;> omega
theorem mkf_or {i : Nat} (g h : Bool) : mkf i g 0 ||| mkf i h 0 = mkf i (g || h) 0 := by
  unfold mkf
  cases g <;> cases h
  · exact Int64.or_self
  · exact Int64.zero_or
  · exact Int64.or_zero
  · exact Int64.or_self
theorem mkf_and2 {i : Nat} (g h : Bool) : mkf i g 0 &&& mkf i h 0 = mkf i (g && h) 0 := by
  rw [mkf_and]
  cases g <;> cases h <;> rfl
/-- both zeros, or the same number -/
theorem ord_eq {n m : Nat} {g h : Bool} (e : (if g = true then -(n : Int) else n) = if h = true then -(m : Int) else m) : (n = 0 ∧ m = 0) ∨ (g = h ∧ n = m) := by
  cases g <;> cases h <;> simp at e ⊢ <;> omega
theorem xm_ends {i n m : Nat} {g h : Bool} (hn : n < 2 ^ fB i) (hm : m < 2 ^ fB i) (a : n ≤ pIn i) (b : m ≤ pIn i) : f_X1_least i (mkf i g n) (mkf i h m) = (if f_X6_rank (wI i) (mkf i h m) ≤ f_X6_rank (wI i) (mkf i g n) then mkf i h m else mkf i g n) ∧ f_X1_greatest i (mkf i g n) (mkf i h m) = (if f_X6_rank (wI i) (mkf i h m) ≤ f_X6_rank (wI i) (mkf i g n) then mkf i g n else mkf i h m) := by
  have o1 := x_ord (g := g) hn
  have o2 := x_ord (g := h) hm
  have r1 := m_rank (g := g) hn
  have r2 := m_rank (g := h) hm
  have hE : (f_X1_order i (mkf i g n) = f_X1_order i (mkf i h m)) = ((if g = true then -(n : Int) else n) = if h = true then -(m : Int) else m) := by
    rw [← o1, ← o2]
    exact propext Int64.toInt_inj.symm
  unfold f_X1_least f_X1_greatest
  simp only [x_nan0 hn, x_nan0 hm, a, b, if_true]
  simp only [hE, Int64.le_iff_toInt_le, o1, o2, r1, r2]
  clear hE o1 o2 r1 r2
  by_cases e : (if g = true then -(n : Int) else n) = if h = true then -(m : Int) else m
  · rw [if_pos e, if_pos e]
    rcases ord_eq e with ⟨e1, e2⟩ | ⟨e1, e2⟩
    · subst e1 e2
      rw [mkf_or, mkf_and2]
      cases g <;> cases h <;> simp
    · subst e1 e2
      rw [Int64.or_self, Int64.and_self]
      simp
  · rw [if_neg e, if_neg e]
    cases g <;> cases h <;> simp only [Bool.false_eq_true, ↓reduceIte] at e ⊢
    all_goals refine ⟨?_, ?_⟩ <;> (repeat' split) <;> first | rfl | trivial | omega
/-- the operations of two numbers with a point -/
theorem sum_nan {i n m m2 : Nat} {g h h2 : Bool} (hn : n < 2 ^ fB i) (hm : m < 2 ^ fB i) (hm2 : m2 < 2 ^ fB i) (a : pIn i < m) (b : pIn i < m2) : f_X1_sum i (mkf i g n) (mkf i h m) = f_X1_sum i (mkf i g n) (mkf i h2 m2) := by
  unfold f_X1_sum
  simp only [x_nan0 hn, x_nan0 hm, x_nan0 hm2]
  have c1 : (m ≤ pIn i) = False := eq_false (by omega)
  have c2 : (m2 ≤ pIn i) = False := eq_false (by omega)
  simp only [c1, c2, if_false]
theorem ho_20 {o : Int32} (h : 20 ≤ o) (h2 : o ≤ 26) : o = 20 ∨ o = 21 ∨ o = 22 ∨ o = 23 ∨ o = 24 ∨ o = 25 ∨ o = 26 := by
  rw [Int32.le_iff_toInt_le] at h h2
  have a : (20 : Int32).toInt = 20 := rfl
  have b : (26 : Int32).toInt = 26 := rfl
  have h3 : o.toInt = 20 ∨ o.toInt = 21 ∨ o.toInt = 22 ∨ o.toInt = 23 ∨ o.toInt = 24 ∨ o.toInt = 25 ∨ o.toInt = 26 := by omega
  rcases h3 with q | q | q | q | q | q | q
  · exact Or.inl (Int32.toInt_inj.mp q)
  · exact Or.inr (Or.inl (Int32.toInt_inj.mp q))
  · exact Or.inr (Or.inr (Or.inl (Int32.toInt_inj.mp q)))
  · exact Or.inr (Or.inr (Or.inr (Or.inl (Int32.toInt_inj.mp q))))
  · exact Or.inr (Or.inr (Or.inr (Or.inr (Or.inl (Int32.toInt_inj.mp q)))))
  · exact Or.inr (Or.inr (Or.inr (Or.inr (Or.inr (Or.inl (Int32.toInt_inj.mp q))))))
  · exact Or.inr (Or.inr (Or.inr (Or.inr (Or.inr (Or.inr (Int32.toInt_inj.mp q))))))
theorem xm_p21 {i n m : Nat} {g h : Bool} (σ : sm_S) (hn : n < 2 ^ fB i) (hm : m < 2 ^ fB i) : ∃ τ, f_X6_pointed σ 21 (wI i) (mkf i g n) (mkf i h m) = (f_X1_sum i (mkf i g n) (f_X1_negated i (mkf i h m)), τ) ∧ sq τ σ := by
  obtain ⟨τ, h1, h2⟩ := m_none (g := h) σ hm
  unfold f_X6_pointed
  rw [if_neg (by decide), if_pos rfl, h1]
  simp only [sm_le]
  unfold f_X1_negated
  simp only [x_nan0 hm]
  have h53 : ∀ t, f_X6_pointed_53 (wI i) (mkf i h m) (mkf i g n) τ t = f_X6_sum τ (wI i) (mkf i g n) (mkf i (decide (t ≠ 0)) m) := by
    intro t
    rw [← m_sig hm]
    unfold f_X6_pointed_53 f_X6_pointed_72 f_X6_pointed_75
    simp only [sm_le]
    have hk := m_mask (g := h) hm
    unfold mI at hk
    unfold wI
    by_cases c : i = 0
    · rw [if_pos c] at hk
      simp only [if_pos c, if_true]
      rw [hk]
    · rw [if_neg c] at hk
      simp only [if_neg c]
      rw [if_neg (by decide), hk]
  by_cases c : pIn i < m
  · rw [if_pos c, if_neg (show ¬ (1 : Int32) = 0 by decide), if_neg (show ¬ m ≤ pIn i by omega)]
    unfold f_X6_pointed_75
    simp only [sm_le]
    obtain ⟨υ, k1, k2⟩ := xm_sum (g := g) (h := h) τ hn hm
    rw [k1, kNa_m, sum_nan hn hm (pNa_lt i).2 c (pNa_lt i).1]
    exact ⟨υ, rfl, k2.tr h2⟩
  · rw [if_neg c, if_pos rfl, if_pos (show m ≤ pIn i by omega), h53, h53, x_xor hm]
    simp only [mkf_ltz hm]
    cases h
    · obtain ⟨υ, k1, k2⟩ := xm_sum (g := g) (h := true) τ hn hm
      exact ⟨υ, k1, k2.tr h2⟩
    · obtain ⟨υ, k1, k2⟩ := xm_sum (g := g) (h := false) τ hn hm
      exact ⟨υ, k1, k2.tr h2⟩
theorem xm_pEnds {i n m : Nat} {g h : Bool} (σ : sm_S) (o : Int32) (ho : o = 25 ∨ o = 26) (hn : n < 2 ^ fB i) (hm : m < 2 ^ fB i) : ∃ τ, f_X6_pointed σ o (wI i) (mkf i g n) (mkf i h m) = (if o = 25 then f_X1_least i (mkf i g n) (mkf i h m) else f_X1_greatest i (mkf i g n) (mkf i h m), τ) ∧ sq τ σ := by
  obtain ⟨τ, h1, h2⟩ := m_none (g := g) σ hn
  obtain ⟨υ, h3, h4⟩ := m_none (g := h) τ hm
  have d : ¬ o = 20 ∧ ¬ o = 21 ∧ ¬ o = 22 ∧ ¬ o = 23 ∧ ¬ o = 24 := by rcases ho with rfl | rfl <;> decide
  unfold f_X6_pointed
  rw [if_neg d.1, if_neg d.2.1, if_neg d.2.2.1, if_neg d.2.2.2.1, if_neg d.2.2.2.2, h1]
  simp only [sm_le]
  rw [h3]
  dsimp only
  unfold f_X6_pointed_143 f_X6_pointed_171 f_X6_pointed_182
  rw [no_n]
  by_cases a : n ≤ pIn i
  · by_cases b : m ≤ pIn i
    · obtain ⟨e1, e2⟩ := xm_ends (g := g) (h := h) hn hm a b
      rw [if_neg (show ¬ pIn i < n by omega), if_pos rfl, if_neg (show ¬ pIn i < m by omega), if_pos rfl, e1, e2]
      rcases ho with rfl | rfl
      · by_cases q : f_X6_rank (wI i) (mkf i h m) ≤ f_X6_rank (wI i) (mkf i g n)
        · simp only [if_pos q]
          exact ⟨υ, rfl, h4.tr h2⟩
        · simp only [if_neg q]
          exact ⟨υ, rfl, h4.tr h2⟩
      · by_cases q : f_X6_rank (wI i) (mkf i h m) ≤ f_X6_rank (wI i) (mkf i g n)
        · simp only [if_pos q]
          exact ⟨υ, rfl, h4.tr h2⟩
        · simp only [if_neg q]
          exact ⟨υ, rfl, h4.tr h2⟩
    · rw [if_neg (show ¬ pIn i < n by omega), if_pos rfl, if_pos (show pIn i < m by omega), if_neg (by decide)]
      refine ⟨υ, ?_, h4.tr h2⟩
      unfold f_X1_least f_X1_greatest
      simp only [x_nan0 hn, x_nan0 hm, a, b, if_true, if_false]
      split <;> rfl
  · rw [if_pos (show pIn i < n by omega), if_neg (by decide)]
    refine ⟨τ, ?_, h2⟩
    unfold f_X1_least f_X1_greatest
    simp only [x_nan0 hn, a, if_false]
    split <;> rfl
theorem fr_20 (i : Nat) (x y : Int64) : f_X3_floatingResult i 20 x y = f_X1_sum i x y := by unfold f_X3_floatingResult; rw [if_pos rfl]
theorem fr_21 (i : Nat) (x y : Int64) : f_X3_floatingResult i 21 x y = f_X1_sum i x (f_X1_negated i y) := by unfold f_X3_floatingResult; rw [if_neg (by decide), if_pos rfl]
theorem fr_22 (i : Nat) (x y : Int64) : f_X3_floatingResult i 22 x y = f_X1_product i x y := by unfold f_X3_floatingResult; rw [if_neg (by decide), if_neg (by decide), if_pos rfl]
theorem fr_23 (i : Nat) (x y : Int64) : f_X3_floatingResult i 23 x y = f_X1_quotient i x y := by unfold f_X3_floatingResult; rw [if_neg (by decide), if_neg (by decide), if_neg (by decide), if_pos rfl]
theorem fr_24 (i : Nat) (x y : Int64) : f_X3_floatingResult i 24 x y = f_X1_remainder i x y := by unfold f_X3_floatingResult; rw [if_neg (by decide), if_neg (by decide), if_neg (by decide), if_neg (by decide), if_pos rfl]
theorem fr_25 (i : Nat) (x y : Int64) : f_X3_floatingResult i 25 x y = f_X1_least i x y := by unfold f_X3_floatingResult; rw [if_neg (by decide), if_neg (by decide), if_neg (by decide), if_neg (by decide), if_neg (by decide), if_pos rfl]
theorem fr_26 (i : Nat) (x y : Int64) : f_X3_floatingResult i 26 x y = f_X1_greatest i x y := by unfold f_X3_floatingResult; rw [if_neg (by decide), if_neg (by decide), if_neg (by decide), if_neg (by decide), if_neg (by decide), if_neg (by decide), if_pos rfl]
theorem xm_pointed {i : Nat} {x y : Int64} (σ : sm_S) (o : Int32) (h1 : 20 ≤ o) (h2 : o ≤ 26) (hx : wf i x) (hy : wf i y) : ∃ τ, f_X6_pointed σ o (wI i) x y = (f_X3_floatingResult i o x y, τ) ∧ sq τ σ := by
  obtain ⟨g, n, hn, rfl, hc⟩ := hx
  obtain ⟨h, m, hm, rfl, hc2⟩ := hy
  rcases ho_20 h1 h2 with rfl | rfl | rfl | rfl | rfl | rfl | rfl
  · obtain ⟨τ, k1, k2⟩ := xm_sum (g := g) (h := h) σ hn hm
    refine ⟨τ, ?_, k2⟩
    unfold f_X6_pointed
    rw [if_pos rfl, sm_le, k1, fr_20]
  · rw [fr_21]
    exact xm_p21 σ hn hm
  · obtain ⟨τ, k1, k2⟩ := xm_prod (g := g) (h := h) σ hn hm
    refine ⟨τ, ?_, k2⟩
    unfold f_X6_pointed
    rw [if_neg (by decide), if_neg (by decide), if_pos rfl, sm_le, k1, fr_22]
  · obtain ⟨τ, k1, k2⟩ := xm_quot (g := g) (h := h) σ hn hm
    refine ⟨τ, ?_, k2⟩
    unfold f_X6_pointed
    rw [if_neg (by decide), if_neg (by decide), if_neg (by decide), if_pos rfl, sm_le, k1, fr_23]
  · obtain ⟨τ, k1, k2⟩ := xm_rem (g := g) (h := h) σ hn hm
    refine ⟨τ, ?_, k2⟩
    unfold f_X6_pointed
    rw [if_neg (by decide), if_neg (by decide), if_neg (by decide), if_neg (by decide), if_pos rfl, sm_le, k1, fr_24]
  · have k := xm_pEnds (g := g) (h := h) σ 25 (Or.inl rfl) hn hm
    rw [if_pos rfl] at k
    rw [fr_25]
    exact k
  · have k := xm_pEnds (g := g) (h := h) σ 26 (Or.inr rfl) hn hm
    rw [if_neg (by decide)] at k
    rw [fr_26]
    exact k
theorem wf_float {i : Nat} {x y : Int64} (o : Int32) (h1 : 20 ≤ o) (h2 : o ≤ 26) (hx : wf i x) (hy : wf i y) : wf i (f_X3_floatingResult i o x y) := by
  rcases ho_20 h1 h2 with rfl | rfl | rfl | rfl | rfl | rfl | rfl
  · rw [fr_20]
    exact wf_sum hx hy
  · rw [fr_21]
    exact wf_sum hx (wf_neg hy)
  · rw [fr_22]
    exact wf_prod hx hy
  · rw [fr_23]
    exact wf_quot hx hy
  · rw [fr_24]
    exact wf_rem hx hy
  · rw [fr_25]
    have hX := hx
    have hY := hy
    obtain ⟨g, n, hn, rfl, hc⟩ := hx
    obtain ⟨h, m, hm, rfl, hc2⟩ := hy
    by_cases a : n ≤ pIn i
    · by_cases b : m ≤ pIn i
      · rw [(xm_ends hn hm a b).1]
        split <;> assumption
      · unfold f_X1_least
        simp only [x_nan0 hn, x_nan0 hm, a, b, if_true, if_false]
        exact wf_na i
    · unfold f_X1_least
      simp only [x_nan0 hn, a, if_false]
      exact wf_na i
  · rw [fr_26]
    have hX := hx
    have hY := hy
    obtain ⟨g, n, hn, rfl, hc⟩ := hx
    obtain ⟨h, m, hm, rfl, hc2⟩ := hy
    by_cases a : n ≤ pIn i
    · by_cases b : m ≤ pIn i
      · rw [(xm_ends hn hm a b).2]
        split <;> assumption
      · unfold f_X1_greatest
        simp only [x_nan0 hn, x_nan0 hm, a, b, if_true, if_false]
        exact wf_na i
    · unfold f_X1_greatest
      simp only [x_nan0 hn, a, if_false]
      exact wf_na i
/-! comparing -/
theorem xm_cmp {i : Nat} {x y : Int64} (σ : sm_S) (w : Int32) (hx : wf i x) (hy : wf i y) : ∃ τ, f_X6_compared σ (kI i) x y w = (f_X1_compared i x y w, τ) ∧ sq τ σ := by
  obtain ⟨g, n, hn, rfl, hc⟩ := hx
  obtain ⟨h, m, hm, rfl, hc2⟩ := hy
  obtain ⟨τ, h1, h2⟩ := m_none (g := g) σ hn
  obtain ⟨υ, h3, h4⟩ := m_none (g := h) τ hm
  have h39 : f_X6_compared σ (kI i) (mkf i g n) (mkf i h m) w = f_X6_compared_39 (mkf i g n) (mkf i h m) w σ (wI i) := by
    unfold f_X6_compared
    rw [if_neg (show ¬ kI i = 1 by unfold kI; split <;> decide)]
    simp only [kI_3]
    unfold wI
    by_cases c : i = 0
    · rw [if_neg (fun q => q c), if_pos c]
    · rw [if_pos c, if_neg c]
  rw [h39]
  unfold f_X6_compared_39
  rw [h1]
  simp only [sm_le]
  rw [h3]
  dsimp only
  unfold f_X1_compared
  simp only [x_nan0 hn, x_nan0 hm]
  by_cases a : n ≤ pIn i
  · rw [if_neg (show ¬ pIn i < n by omega), if_pos rfl, if_pos a]
    by_cases b : m ≤ pIn i
    · rw [if_neg (show ¬ pIn i < m by omega), if_pos rfl, if_pos b]
      have o1 := x_ord (g := g) hn
      have o2 := x_ord (g := h) hm
      have r1 := m_rank (g := g) hn
      have r2 := m_rank (g := h) hm
      unfold f_X6_compared_96 f_X6_compared_108 f_J13_compare_74951
      generalize f_X1_order i (mkf i g n) = O1 at o1 ⊢
      generalize f_X1_order i (mkf i h m) = O2 at o2 ⊢
      generalize f_X6_rank (wI i) (mkf i g n) = R1 at r1 ⊢
      generalize f_X6_rank (wI i) (mkf i h m) = R2 at r2 ⊢
      refine ⟨υ, ?_, h4.tr h2⟩
      have z0 : (0 : Int64).toInt = 0 := rfl
      have z1 : (-1 : Int64).toInt = -1 := rfl
      have hE : (O1 = O2) = (O1.toInt = O2.toInt) := propext Int64.toInt_inj.symm
      have hR1 : (R1 = -1) = (R1.toInt = -1) := propext Int64.toInt_inj.symm
      have hR2 : (R2 = -1) = (R2.toInt = -1) := propext Int64.toInt_inj.symm
      simp only [hE, hR1, hR2, Int64.le_iff_toInt_le, z0, o1, o2, r1, r2]
      clear hE hR1 hR2 o1 o2 r1 r2
      cases g <;> cases h <;> simp only [Bool.false_eq_true, ↓reduceIte]
      all_goals (repeat' split) <;> first | rfl | omega
    · rw [if_pos (show pIn i < m by omega), if_neg (show ¬ (1 : Int32) = 0 by decide), if_neg b]
      exact ⟨υ, rfl, h4.tr h2⟩
  · rw [if_pos (show pIn i < n by omega), if_neg (show ¬ (1 : Int32) = 0 by decide), if_neg a]
    exact ⟨τ, rfl, h2⟩
theorem xm_cmpL (σ : sm_S) (x y : Int64) (w : Int32) : f_X6_compared σ 1 x y w = (f_J13_compare_74951 x y, σ) := by
  unfold f_X6_compared f_J13_compare_74951
  rw [if_pos rfl]
  have hE : (x = y) = (x.toInt = y.toInt) := propext Int64.toInt_inj.symm
  simp only [hE, Int64.le_iff_toInt_le]
  repeat' split
  all_goals first | rfl | omega
/-! whole numbers -/
theorem ho_w {o : Int32} (h : 20 ≤ o) (h2 : o ≤ 32) : o = 20 ∨ o = 21 ∨ o = 22 ∨ o = 23 ∨ o = 24 ∨ o = 25 ∨ o = 26 ∨ o = 27 ∨ o = 28 ∨ o = 29 ∨ o = 30 ∨ o = 31 ∨ o = 32 := by
  rw [Int32.le_iff_toInt_le] at h h2
  have a : (20 : Int32).toInt = 20 := rfl
  have b : (32 : Int32).toInt = 32 := rfl
  have h3 : o.toInt = 20 ∨ o.toInt = 21 ∨ o.toInt = 22 ∨ o.toInt = 23 ∨ o.toInt = 24 ∨ o.toInt = 25 ∨ o.toInt = 26 ∨ o.toInt = 27 ∨ o.toInt = 28 ∨ o.toInt = 29 ∨ o.toInt = 30 ∨ o.toInt = 31 ∨ o.toInt = 32 := by omega
  rcases h3 with q | q | q | q | q | q | q | q | q | q | q | q | q <;> (rw [iZ_of o, q]; decide)
theorem div_m1 (x : Int64) : x / (-1) = -x := by
  apply Int64.toInt_inj.mp
  rw [Int64.toInt_div, show (-1 : Int64).toInt = -1 from rfl, Int.tdiv_neg, Int.tdiv_one, Int64.toInt_neg]
theorem min_w (x y : Int64) : sm_minL x y = if y ≤ x then y else x := by
  unfold sm_minL
  by_cases c : y < x
  · rw [if_pos c, if_pos (Int64.le_of_lt c)]
  · rw [if_neg c]
    split
    · exact Int64.le_antisymm (Int64.not_lt.mp c) (by assumption)
    · rfl
theorem max_w (x y : Int64) : sm_maxL x y = if x ≤ y then y else x := by
  unfold sm_maxL
  by_cases c : y < x
  · rw [if_pos c, if_neg (Int64.not_le.mpr c)]
  · rw [if_neg c, if_pos (Int64.not_lt.mp c)]
theorem xm_whole (o k : Int32) (x y : Int64) (h : 20 ≤ o) (h2 : o ≤ 32) (hk : k = 0 ∨ k = 1) : f_X3_wholeResult o k x y = f_X6_whole o k x y := by
  unfold f_X3_wholeResult f_X3_wholeResult_24 f_X6_whole f_X3_combined f_X3_calculated f_X3_combined_14 f_X6_whole_14 f_X6_whole_73 f_X6_whole_127 f_X6_whole_148 f_X6_whole_150 f_X6_whole_169 f_X6_whole_171 f_X6_whole_183 f_X6_whole_195 f_X6_whole_214 f_X6_whole_219 f_X6_whole_231 f_X6_whole_243 f_X6_whole_255
  simp only [sm_le, min_w, max_w]
  have hd : ∀ (A : Int64 → Int64), (if y = 0 then A 0 else if y = -1 then A (-x) else A (x / y)) = if y = 0 then A 0 else A (x / y) := by
    intro A
    by_cases c : y = 0
    · rw [if_pos c, if_pos c]
    · rw [if_neg c, if_neg c]
      by_cases e : y = -1
      · rw [if_pos e, e, div_m1]
      · rw [if_neg e]
  have hm : ∀ (A : Int64 → Int64), (if y = 0 then A 0 else if y = -1 then A 0 else A (x - x / y * y)) = if y = 0 then A 0 else A (x - x / y * y) := by
    intro A
    by_cases c : y = 0
    · rw [if_pos c, if_pos c]
    · rw [if_neg c, if_neg c]
      by_cases e : y = -1
      · rw [if_pos e, e, div_m1]
        congr 1
        rw [Int64.mul_neg, Int64.mul_one, Int64.neg_neg, Int64.sub_self]
      · rw [if_neg e]
  have hi : ∀ (c : Prop) [Decidable c] (a b : Int64), (if c then a else b).toInt32.toInt64 = if c then a.toInt32.toInt64 else b.toInt32.toInt64 := by
    intro c _ a b
    split <;> rfl
  rcases hk with rfl | rfl <;> rcases ho_w h h2 with rfl | rfl | rfl | rfl | rfl | rfl | rfl | rfl | rfl | rfl | rfl | rfl | rfl <;> simp (decide := true) only [if_true, if_false, hi, ite_self]
  · rw [hd (fun z => z.toInt32.toInt64)]
  · rw [hm (fun z => z.toInt32.toInt64)]
  · rw [hd (fun z => z)]
  · rw [hm (fun z => z)]
