/-! the whole sum -/
theorem tz0 : (0 : Int32).toNatClampNeg = 0 := id rfl
theorem tz1 : (1 : Int32).toNatClampNeg = 1 := id rfl
def pNa (i : Nat) : Nat := pIn i + 2 ^ (pF i - 1)
theorem kNa_n (i : Nat) : kNa i = lN (pNa i) := by
  unfold kNa pNa pIn pM pF
  split <;> rfl
theorem no_n (i : Nat) : f_X6_none (wI i) = kNa i := by
  unfold f_X6_none wI kNa
  by_cases c : i = 0
  · simp [c]
  · simp [c]
theorem kNa_m (i : Nat) : kNa i = mkf i false (pNa i) := by rw [kNa_n]; rfl
theorem pNa_lt (i : Nat) : pIn i < pNa i ∧ pNa i < 2 ^ fB i := by
  unfold pNa
  rcases fB_b i with ⟨_, h1, h2, h3, h4, h5, h6⟩ | ⟨_, h1, h2, h3, h4, h5, h6⟩ <;> rw [h1, h3, h6] <;> decide
theorem pIn_pos (i : Nat) : 0 < pIn i := by
  rcases fB_b i with ⟨_, h1, h2, h3, h4, h5, h6⟩ | ⟨_, h1, h2, h3, h4, h5, h6⟩ <;> rw [h6] <;> decide
theorem x_nan0 {i n : Nat} {g : Bool} (hn : n < 2 ^ fB i) : (f_X1_isNan i (mkf i g n) = 0) = (n ≤ pIn i) := by
  rw [x_nan hn]
  by_cases c : n ≤ pIn i
  · simp [c]
  · simp [c]
theorem x_inf0 {i n : Nat} {g : Bool} (hn : n < 2 ^ fB i) : (f_X1_isInfinite i (mkf i g n) = 0) = (¬ n = pIn i) := by
  rw [x_inf hn]
  by_cases c : n = pIn i
  · simp [c]
  · simp [c]
theorem x_zero0 {i n : Nat} {g : Bool} (hn : n < 2 ^ fB i) : (f_X1_isZero i (mkf i g n) = 0) = (¬ n = 0) := by
  rw [x_zero hn]
  by_cases c : n = 0
  · simp [c]
  · simp [c]
theorem fS_c (i n : Nat) : (pIn i < n ∧ fS i n = 3) ∨ (n = pIn i ∧ fS i n = 2) ∨ (n = 0 ∧ n < pIn i ∧ fS i n = 0) ∨ (0 < n ∧ n < pIn i ∧ fS i n = 1) := by
  have := pIn_pos i
  unfold fS
  by_cases c : pIn i < n
  · exact Or.inl ⟨c, if_pos c⟩
  · rw [if_neg c]
    by_cases d : n = pIn i
    · exact Or.inr (Or.inl ⟨d, if_pos d⟩)
    · rw [if_neg d]
      by_cases e : n = 0
      · exact Or.inr (Or.inr (Or.inl ⟨e, by omega, if_pos e⟩))
      · exact Or.inr (Or.inr (Or.inr ⟨by omega, by omega, if_neg e⟩))
theorem fS3 (i n : Nat) : (fS i n = 3) = (pIn i < n) := by
  apply propext
  rcases fS_c i n with ⟨a, b⟩ | ⟨a, b⟩ | ⟨a, a2, b⟩ | ⟨a, a2, b⟩ <;> rw [b] <;> constructor <;> intro q <;> first | rfl | omega | exact absurd q (by decide)
theorem fS2 (i n : Nat) : (fS i n = 2) = (n = pIn i) := by
  apply propext
  rcases fS_c i n with ⟨a, b⟩ | ⟨a, b⟩ | ⟨a, a2, b⟩ | ⟨a, a2, b⟩ <;> rw [b] <;> constructor <;> intro q <;> first | rfl | omega | exact absurd q (by decide)
theorem fS0 (i n : Nat) : (fS i n = 0) = (n = 0) := by
  have := pIn_pos i
  apply propext
  rcases fS_c i n with ⟨a, b⟩ | ⟨a, b⟩ | ⟨a, a2, b⟩ | ⟨a, a2, b⟩ <;> rw [b] <;> constructor <;> intro q <;> first | rfl | omega | exact absurd q (by decide)
theorem fS1 (i n : Nat) : (fS i n = 1) = (¬ n = 0 ∧ n < pIn i) := by
  have := pIn_pos i
  apply propext
  rcases fS_c i n with ⟨a, b⟩ | ⟨a, b⟩ | ⟨a, a2, b⟩ | ⟨a, a2, b⟩ <;> rw [b] <;> constructor <;> intro q <;> first | rfl | omega | exact absurd q (by decide)
theorem sgI_eq' (g h : Bool) : (sgI g = sgI h) = (g = h) := propext (sgI_eq g h)
theorem sgI_0 (g : Bool) : (sgI g = 0) = (g = false) := by cases g <;> decide
theorem mkf_and {i : Nat} (g h : Bool) : mkf i g 0 &&& mkf i h 0 = if g = true ∧ h = true then mkf i g 0 else 0 := by
  unfold mkf
  cases g <;> cases h
  · exact Int64.and_self
  · exact Int64.zero_and
  · exact Int64.and_zero
  · exact Int64.and_self
theorem sum_fin {i n m : Nat} {g h : Bool} {u : sm_S} (h0 : 0 < n) (hn : n < pIn i) (h1 : 0 < m) (hm : m < pIn i) (hT : T1 u 0 i n g) (hU : T1 u 1 i m h) : (if (f_X6_spread (f_X6_spread u 0) 1).1 16 1 < (f_X6_spread (f_X6_spread u 0) 1).1 16 0 then f_X6_sum_235 (wI i) (f_X6_spread (f_X6_spread u 0) 1) else if (f_X6_spread (f_X6_spread u 0) 1).1 16 0 = (f_X6_spread (f_X6_spread u 0) 1).1 16 1 then (if (f_X6_spread (f_X6_spread u 0) 1).2.1 18 0 < (f_X6_spread (f_X6_spread u 0) 1).2.1 18 1 then f_X6_sum_239 (wI i) (f_X6_spread (f_X6_spread u 0) 1) else f_X6_sum_235 (wI i) (f_X6_spread (f_X6_spread u 0) 1)) else f_X6_sum_239 (wI i) (f_X6_spread (f_X6_spread u 0) 1)) = ((if f_X1_exponent i (mkf i g n) < f_X1_exponent i (mkf i h m) then f_X1_sumInOrder i (mkf i h m) (mkf i g n) else f_X1_sumInOrder i (mkf i g n) (mkf i h m)), f_X6_spread (f_X6_spread u 0) 1) := by
  obtain ⟨hA, hB, -⟩ := spr2 h0 hn h1 hm hT hU
  generalize f_X6_spread (f_X6_spread u 0) 1 = v at hA hB ⊢
  obtain ⟨a1, a2, a3, a4, a5⟩ := sG_b h0 hn
  obtain ⟨b1, b2, b3, b4, b5⟩ := sG_b h1 hm
  have hq : v.1 17 0 = v.1 17 1 ↔ g = h := by rw [hA.1, hB.1]; exact sgI_eq g h
  have hl : ∀ x y : Int, -2000 ≤ x → x ≤ 2000 → -2000 ≤ y → y ≤ 2000 → (iZ x < iZ y ↔ x < y) := fun x y _ _ _ _ => iZ_lt (by omega) (by omega) (by omega) (by omega)
  have M0 : eP i m ≤ eP i n → (¬ g = h → sG i m ≤ sG i n * 2 ^ (eP i n - eP i m).toNat) → f_X6_sum_235 (wI i) v = (sumA i n m g h, v) := fun q1 q2 => m_sum240 h0 hn h1 hm q1 q2 (t0 := 0) hA hB hq (fun _ => hA.1)
  have M1 : eP i n ≤ eP i m → (¬ h = g → sG i n ≤ sG i m * 2 ^ (eP i m - eP i n).toNat) → f_X6_sum_239 (wI i) v = (sumA i m n h g, v) := fun q1 q2 => m_sum240 h1 hm h0 hn q1 q2 (t0 := 1) hB hA (hq.trans ⟨Eq.symm, Eq.symm⟩) (fun q => by rw [hA.1, q])
  rw [x_exp h0 hn, x_exp h1 hm, hA.2.2, hB.2.2, hA.2.1, hB.2.1]
  rcases Int.lt_trichotomy (eP i m) (eP i n) with c | c | c
  · have hp : sG i m ≤ sG i n * 2 ^ (eP i n - eP i m).toNat := Nat.le_of_lt (sub_pos a1 b2 (by omega))
    rw [if_pos ((hl _ _ (by omega) (by omega) (by omega) (by omega)).mpr (by omega)), if_neg (fun q => by have := (hl _ _ (by omega) (by omega) (by omega) (by omega)).mp q; omega), M0 (by omega) (fun _ => hp), x_sumO h0 hn h1 hm (by omega) (fun _ => hp)]
  · rw [if_neg (fun q => by have := (hl _ _ (by omega) (by omega) (by omega) (by omega)).mp q; omega), if_pos (by rw [c]), if_neg (show ¬ iZ (eP i n) < iZ (eP i m) from fun q => by have := (hl _ _ (by omega) (by omega) (by omega) (by omega)).mp q; omega)]
    by_cases d : sG i n < sG i m
    · rw [if_pos ((n_lt (by omega) (by omega)).mpr (by omega)), M1 (by omega) (fun _ => by rw [show (eP i m - eP i n).toNat = 0 by omega]; omega), x_sumS h0 hn h1 hm c d]
    · have hp : sG i m ≤ sG i n * 2 ^ (eP i n - eP i m).toNat := by rw [show (eP i n - eP i m).toNat = 0 by omega]; omega
      rw [if_neg (fun q => by have := (n_lt (by omega) (by omega)).mp q; omega), M0 (by omega) (fun _ => hp), x_sumO h0 hn h1 hm (by omega) (fun _ => hp)]
  · have hp : sG i n ≤ sG i m * 2 ^ (eP i m - eP i n).toNat := Nat.le_of_lt (sub_pos b1 a2 (by omega))
    rw [if_neg (fun q => by have := (hl _ _ (by omega) (by omega) (by omega) (by omega)).mp q; omega), if_neg (fun q => by have := (iZ_eq (by omega) (by omega) (by omega) (by omega)).mp q; omega), if_pos (show iZ (eP i n) < iZ (eP i m) from (hl _ _ (by omega) (by omega) (by omega) (by omega)).mpr (by omega)), M1 (by omega) (fun _ => hp), x_sumO h1 hm h0 hn (by omega) (fun _ => hp)]
theorem xm_sum {i n m : Nat} {g h : Bool} (σ : sm_S) (hn : n < 2 ^ fB i) (hm : m < 2 ^ fB i) : ∃ τ, f_X6_sum σ (wI i) (mkf i g n) (mkf i h m) = (f_X1_sum i (mkf i g n) (mkf i h m), τ) ∧ sq τ σ := by
  obtain ⟨hT, hU, hs⟩ := take2 (g := g) (h := h) σ hn hm
  have hin := pIn_pos i
  unfold f_X6_sum f_X1_sum
  simp only [sm_le]
  generalize f_X6_take (f_X6_take σ 0 (mkf i g n) (wI i)) 1 (mkf i h m) (wI i) = u at hT hU hs ⊢
  simp only [f_X6_sum_35, f_X6_sum_61, f_X6_sum_104, tz0, tz1, hT.1, hU.1, hT.2.1, hU.2.1, fS3, fS2, fS0, x_nan0 hn, x_nan0 hm, x_inf0 hn, x_inf0 hm, x_zero0 hn, x_zero0 hm, no_n, sgI_eq', sgI_0]
  by_cases a : n ≤ pIn i
  · by_cases b : m ≤ pIn i
    · rw [if_neg (show ¬ pIn i < n by omega), if_neg (show ¬ pIn i < m by omega), if_pos a, if_pos b]
      by_cases c : n = pIn i
      · rw [if_pos c, if_neg (show ¬ ¬ n = pIn i from fun q => q c)]
        by_cases d : m = pIn i
        · simp only [c, d, if_true, not_true_eq_false, if_false]
          have : (mkf i g (pIn i) = mkf i h (pIn i)) = (g = h) := by
            have hx := fB_lt i
            exact propext ((mkf_eq (by omega) (by omega)).trans ⟨fun q => q.1, fun q => ⟨q, rfl⟩⟩)
          simp only [this]
          by_cases e : g = h
          · simp only [if_pos e]
            exact ⟨u, rfl, hs⟩
          · simp only [if_neg e]
            exact ⟨u, rfl, hs⟩
        · simp only [c, d, if_true, not_false_eq_true, if_false]
          exact ⟨u, rfl, hs⟩
      · rw [if_neg c, if_pos c]
        by_cases d : m = pIn i
        · rw [if_pos d, if_neg (show ¬ ¬ m = pIn i from fun q => q d), if_neg c, if_neg c]
          exact ⟨u, rfl, hs⟩
        · rw [if_neg d, if_pos d]
          by_cases e : n = 0
          · rw [if_pos e, if_neg (show ¬ ¬ n = 0 from fun q => q e)]
            by_cases f : m = 0
            · rw [if_pos f, if_neg (show ¬ ¬ m = 0 from fun q => q f)]
              subst e f
              rw [mkf_and]
              cases g <;> cases h <;> exact ⟨u, rfl, hs⟩
            · rw [if_neg f, if_pos f]
              exact ⟨u, rfl, hs⟩
          · rw [if_neg e, if_pos e]
            by_cases f : m = 0
            · rw [if_pos f, if_neg (show ¬ ¬ m = 0 from fun q => q f)]
              exact ⟨u, rfl, hs⟩
            · rw [if_neg f, if_pos f, sum_fin (by omega) (by omega) (by omega) (by omega) hT hU]
              exact ⟨_, rfl, (spr2 (by omega) (by omega) (by omega) (by omega) hT hU).2.2.tr hs⟩
    · rw [if_neg (show ¬ pIn i < n by omega), if_pos (show pIn i < m by omega), if_pos a, if_neg b]
      exact ⟨u, rfl, hs⟩
  · rw [if_pos (show pIn i < n by omega), if_neg a]
    exact ⟨u, rfl, hs⟩
