/-! remainders -/
theorem mod_mm (l K b M : Nat) : l * K % b * M % b = l * K * M % b := by
  rw [Nat.mul_mod, Nat.mod_mod, ← Nat.mul_mod]
theorem x_lr17 {b : Nat} (hb0 : 2 ^ 52 ≤ b) (hb : b < 2 ^ 53) : ∀ (n : Nat) (o : Int) (l : Nat), 1 ≤ n → o < n → -20 ≤ o → o < 5000 → l < b → f_X1_longRemainder_17 n (lN b) (lN l) (iZ o) = lN (l * 2 ^ o.toNat % b) := by
  intro n
  induction n with
  | zero =>
    intro o l h0 h1 h2 h3 h4
    omega
  | succ n ih =>
    intro o l h0 h1 h2 h3 h4
    rw [f_X1_longRemainder_17]
    simp only [sm_le]
    by_cases c : o ≤ 0
    · rw [if_pos (show iZ o ≤ (0 : Int32) from (iZ_le (b := 0) (by omega) (by omega) (by decide) (by decide)).mpr c), show o.toNat = 0 by omega, Nat.pow_zero, Nat.mul_one, Nat.mod_eq_of_lt h4]
    · rw [if_neg (show ¬ iZ o ≤ (0 : Int32) from fun q => c ((iZ_le (b := 0) (by omega) (by omega) (by decide) (by decide)).mp q)), show (-10 : Int32) = iZ (-10) from rfl, show (10 : Int32) = iZ 10 from rfl, sm_min_z (by decide) (by decide) (by omega) (by omega), iZ_add]
      obtain ⟨k, hk⟩ : ∃ k : Nat, min 10 o = k := ⟨(min 10 o).toNat, by omega⟩
      have hk1 : k ≤ 10 := by omega
      have hp : 2 ^ k ≤ 2 ^ 10 := Nat.pow_le_pow_right (by decide) hk1
      have hX : l * 2 ^ k ≤ l * 2 ^ 10 := Nat.mul_le_mul_left _ hp
      rw [hk, n_shl _ (by omega), lN_rem (by omega) (by omega), ih _ _ (by omega) (by omega) (by omega) (by omega) (Nat.mod_lt _ (by omega)), mod_mm, Nat.mul_assoc, ← Nat.pow_add, show k + (o + -10).toNat = o.toNat by omega]
theorem x_lr {a b d : Nat} (ha : a < 2 ^ 53) (hb0 : 2 ^ 52 ≤ b) (hb : b < 2 ^ 53) (hd : d < 5000) : f_X1_longRemainder (lN a) (lN b) (iZ (d : Int)) = lN (a * 2 ^ d % b) := by
  unfold f_X1_longRemainder
  rw [if_neg (show ¬ lN b = 0 from fun q => by have := (n_eq (b := 0) (by omega) (by decide)).mp q; omega)]
  simp only [sm_le]
  rw [lN_rem (by omega) (by omega), iZ_t (by omega) (by omega), x_lr17 hb0 hb _ _ _ (by omega) (by omega) (by omega) (by omega) (Nat.mod_lt _ (by omega)), Int.toNat_natCast]
  congr 1
  rw [Nat.mul_mod, Nat.mod_mod, ← Nat.mul_mod]
theorem m_r156 {w : Int32} {v : sm_S} {b : Nat} {p : Int} (hb0 : 0 < b) (hb : b < 2 ^ 61) (hp1 : -5000 ≤ p) (h18 : v.2.1 18 1 = lN b) (h16 : v.1 16 1 = iZ p) : ∀ (n : Nat) (z : Int) (r : Nat), p ≤ z → z - p < n → z ≤ 5000 → r < b → f_X6_remainder_156 n w v (lN r) (iZ z) = if r * 2 ^ (z - p).toNat % b = 0 then (f_X6_signed w (v.1 17 0) 0, v) else (f_X6_round w (v.1 17 0) (lN (r * 2 ^ (z - p).toNat % b)) (iZ p) 0, v) := by
  intro n
  induction n with
  | zero => intro z r h1 h2 h3 h4; omega
  | succ n ih =>
    intro z r h1 h2 h3 h4
    rw [f_X6_remainder_156]
    simp only [sm_le]
    rw [tz0, tz1, h16, h18]
    by_cases c : z = p
    · subst c
      rw [if_pos (show iZ z ≤ iZ z from (iZ_le (by omega) (by omega) (by omega) (by omega)).mpr (by omega)), show (z - z).toNat = 0 by omega, Nat.pow_zero, Nat.mul_one, Nat.mod_eq_of_lt h4]
      by_cases q : r = 0
      · rw [if_pos q, if_pos (show lN r = 0 by rw [q]; rfl)]
      · rw [if_neg q, if_neg (show ¬ lN r = 0 from fun y => q ((n_eq (b := 0) (by omega) (by decide)).mp y))]
    · rw [if_neg (fun y => by have := (iZ_le (by omega) (by omega) (by omega) (by omega)).mp y; omega)]
      have l1 : ∀ z, lN z <<< ((1 : Int32).toInt64 &&& 63) = lN (z * 2 ^ 1) := fun z => n_shl z (k := 1) (by decide)
      unfold f_X6_remainder_196
      simp only [sm_le]
      rw [show (-1 : Int32) = iZ (-1) from rfl, iZ_add, l1]
      have hmod : r * 2 ^ 1 % b = if r * 2 ^ 1 < b then r * 2 ^ 1 else r * 2 ^ 1 - b := by
        by_cases d : r * 2 ^ 1 < b
        · rw [if_pos d, Nat.mod_eq_of_lt d]
        · rw [if_neg d, Nat.mod_eq_sub_mod (by omega), Nat.mod_eq_of_lt (by omega)]
      have hfin : ∀ s, s = r * 2 ^ 1 % b → f_X6_remainder_156 n w v (lN s) (iZ (z + -1)) = if r * 2 ^ (z - p).toNat % b = 0 then (f_X6_signed w (v.1 17 0) 0, v) else (f_X6_round w (v.1 17 0) (lN (r * 2 ^ (z - p).toNat % b)) (iZ p) 0, v) := by
        intro s hs
        rw [ih _ _ (by omega) (by omega) (by omega) (by rw [hs]; exact Nat.mod_lt _ hb0), hs, mod_mm, Nat.mul_assoc, ← Nat.pow_add, show 1 + (z + -1 - p).toNat = (z - p).toNat by omega]
      by_cases d : r * 2 ^ 1 < b
      · rw [if_pos ((n_lt (by omega) (by omega)).mpr d)]
        exact hfin _ (by rw [hmod, if_pos d])
      · rw [if_neg (fun y => d ((n_lt (by omega) (by omega)).mp y)), lN_sub (by omega)]
        exact hfin _ (by rw [hmod, if_neg d])
theorem rem_fin {i n m : Nat} {g h : Bool} {u : sm_S} (h0 : 0 < n) (hn : n < pIn i) (h1 : 0 < m) (hm : m < pIn i) (hT : T1 u 0 i n g) (hU : T1 u 1 i m h) : sm_let (f_X6_spread u 0) (fun u83_3 => sm_let (f_X6_spread u83_3 1) (fun u88_4 => if (u88_4.1 16 (Int32.toNatClampNeg 1)) ≤ (u88_4.1 16 (Int32.toNatClampNeg 0)) then (if (u88_4.2.1 18 (Int32.toNatClampNeg 0)) < (u88_4.2.1 18 (Int32.toNatClampNeg 1)) then (f_X6_remainder_146 (wI i) u88_4 (u88_4.2.1 18 (Int32.toNatClampNeg 0))) else (f_X6_remainder_146 (wI i) u88_4 ((u88_4.2.1 18 (Int32.toNatClampNeg 0)) - (u88_4.2.1 18 (Int32.toNatClampNeg 1))))) else ((mkf i g n, u88_4)))) = ((if f_X1_exponent i (mkf i h m) ≤ f_X1_exponent i (mkf i g n) then sm_let (f_X1_longRemainder (f_X1_significand i (mkf i g n)) (f_X1_significand i (mkf i h m)) (f_X1_exponent i (mkf i g n) - f_X1_exponent i (mkf i h m))) (fun y92_1 => if y92_1 = 0 then f_X1_signed i (f_X1_isNegative i (mkf i g n)) 0 else f_X1_rounded i (f_X1_isNegative i (mkf i g n)) (f_X1_exponent i (mkf i h m)) y92_1) else mkf i g n), f_X6_spread (f_X6_spread u 0) 1) := by
  have hb := fB_lt i
  obtain ⟨hA, hB, -⟩ := spr2 h0 hn h1 hm hT hU
  obtain ⟨a1, a2, a3, a4, a5⟩ := sG_b h0 hn
  obtain ⟨b1, b2, b3, b4, b5⟩ := sG_b h1 hm
  simp only [sm_le]
  generalize f_X6_spread (f_X6_spread u 0) 1 = v at hA hB ⊢
  rw [tz0, tz1, hA.2.1, hB.2.1, hA.2.2, hB.2.2, x_exp h0 hn, x_exp h1 hm, x_sgn h0 hn, x_sgn h1 hm, x_neg (by omega)]
  by_cases c : eP i m ≤ eP i n
  · rw [if_pos ((iZ_le (by omega) (by omega) (by omega) (by omega)).mpr (by omega)), if_pos (show iZ (eP i m) ≤ iZ (eP i n) from (iZ_le (by omega) (by omega) (by omega) (by omega)).mpr (by omega))]
    have h146 : ∀ A B : Nat, A < 2 ^ 63 → B < 2 ^ 63 → 0 < B → A < 2 * B → (if lN A < lN B then f_X6_remainder_146 (wI i) v (lN A) else f_X6_remainder_146 (wI i) v (lN A - lN B)) = f_X6_remainder_146 (wI i) v (lN (A % B)) := by
      intro A B q1 q2 q3 q4
      by_cases d : A < B
      · rw [if_pos ((n_lt q1 q2).mpr d), Nat.mod_eq_of_lt d]
      · rw [if_neg (fun y => d ((n_lt q1 q2).mp y)), lN_sub (by omega), Nat.mod_eq_sub_mod (by omega), Nat.mod_eq_of_lt (by omega)]
    rw [h146 _ _ (by omega) (by omega) (by omega) (by omega)]
    unfold f_X6_remainder_146
    simp only [sm_le]
    rw [tz0, tz1, hA.2.2, hB.2.2, iZ_t (by omega) (by omega), iZ_t (by omega) (by omega)]
    rw [m_r156 (by omega) (by omega) (by omega) hB.2.1 hB.2.2 _ _ _ (by omega) (by omega) (by omega) (Nat.mod_lt _ (by omega)), hA.1]
    have hd : iZ (eP i n) - iZ (eP i m) = iZ (((eP i n - eP i m).toNat : Nat) : Int) := by
      rw [iZ_sub]
      congr 1
      omega
    rw [hd, x_lr a2 b1 b2 (by omega), show (eP i n - 8 - (eP i m - 8)).toNat = (eP i n - eP i m).toNat by omega]
    generalize (eP i n - eP i m).toNat = d
    have e1 : sG i n * 2 ^ 8 % (sG i m * 2 ^ 8) * 2 ^ d % (sG i m * 2 ^ 8) = sG i n * 2 ^ d % sG i m * 2 ^ 8 := by
      rw [Nat.mul_mod, Nat.mod_mod, ← Nat.mul_mod, Nat.mul_right_comm, Nat.mul_mod_mul_right]
    rw [e1]
    have hr : sG i n * 2 ^ d % sG i m < sG i m := Nat.mod_lt _ (by omega)
    generalize sG i n * 2 ^ d % sG i m = r at hr ⊢
    by_cases z : r = 0
    · rw [if_pos (show lN r = 0 by rw [z]; rfl), if_pos (by omega), sZe]
    · rw [if_neg (show ¬ lN r = 0 from fun y => z ((n_eq (b := 0) (by omega) (by decide)).mp y)), if_neg (by omega)]
      congr 1
      symm
      refine xm_round _ 0 (by omega) (by omega) (by omega) (by omega) (by omega) (by omega) (by omega) (by omega) ?_
      have h2 := rR_T (i := i) (N := r * 2 ^ 8) (k := 8) (e := eP i m - 8) (b := false) (by omega) (fun q => by
        rcases q with q | q
        · omega
        · exact absurd q (by decide))
      rw [Nat.mul_mod_left, Nat.mul_div_cancel _ (by decide), show eP i m - 8 + ((8 : Nat) : Int) = eP i m by omega] at h2
      exact h2.symm
  · rw [if_neg (fun y => by have := (iZ_le (by omega) (by omega) (by omega) (by omega)).mp y; omega), if_neg (show ¬ iZ (eP i m) ≤ iZ (eP i n) from fun y => by have := (iZ_le (by omega) (by omega) (by omega) (by omega)).mp y; omega)]
theorem xm_rem {i n m : Nat} {g h : Bool} (σ : sm_S) (hn : n < 2 ^ fB i) (hm : m < 2 ^ fB i) : ∃ τ, f_X6_remainder σ (wI i) (mkf i g n) (mkf i h m) = (f_X1_remainder i (mkf i g n) (mkf i h m), τ) ∧ sq τ σ := by
  obtain ⟨hT, hU, hs⟩ := take2 (g := g) (h := h) σ hn hm
  have hx := fun (q : 0 < n) (q2 : n < pIn i) (q3 : 0 < m) (q4 : m < pIn i) => (spr2 q q2 q3 q4 hT hU).2.2.tr hs
  have hy := fun (q : 0 < n) (q2 : n < pIn i) (q3 : 0 < m) (q4 : m < pIn i) => rem_fin q q2 q3 q4 hT hU
  unfold f_X6_remainder f_X1_remainder f_X6_remainder_54
  rw [sm_le, sm_le]
  generalize f_X6_take (f_X6_take σ 0 (mkf i g n) (wI i)) 1 (mkf i h m) (wI i) = u at hT hU hs hx hy ⊢
  rcases cls2 i n with ⟨A1, A2, A3, A4, A5⟩ | ⟨A1, A2, A3, A4, A5⟩ | ⟨A1, A2, A3, A4, A5⟩ | ⟨A1, A2, A3, A4, A5⟩ <;> rcases cls2 i m with ⟨B1, B2, B3, B4, B5⟩ | ⟨B1, B2, B3, B4, B5⟩ | ⟨B1, B2, B3, B4, B5⟩ | ⟨B1, B2, B3, B4, B5⟩
  case inr.inr.inr.inr.inr.inr =>
    rw [hy A1.1 A1.2 B1.1 B1.2]
    simp (decide := true) only [tz0, tz1, hT.1, hU.1, A2, A3, A4, A5, B2, B3, B4, B5, x_nan0 hn, x_nan0 hm, x_inf0 hn, x_inf0 hm, x_zero0 hn, x_zero0 hm, if_true, if_false, not_true_eq_false, not_false_eq_true]
    exact ⟨_, rfl, hx A1.1 A1.2 B1.1 B1.2⟩
  all_goals simp (decide := true) only [tz0, tz1, hT.1, hU.1, A2, A3, A4, A5, B2, B3, B4, B5, x_nan0 hn, x_nan0 hm, x_inf0 hn, x_inf0 hm, x_zero0 hn, x_zero0 hm, if_true, if_false, not_true_eq_false, not_false_eq_true, no_n]
  all_goals exact ⟨u, rfl, hs⟩
