/-! products -/
theorem split_mul (K x y z w : Nat) : (K * x + y) * (K * z + w) = K * K * (x * z) + K * (x * w) + K * (y * z) + y * w := by
  rw [Nat.add_mul, Nat.mul_add, Nat.mul_add, Nat.mul_mul_mul_comm, Nat.mul_assoc K x w, Nat.mul_left_comm y K z]
  omega
theorem sd_even {A low d : Nat} (hA : A % 2 = 0) : A + sd low d = if decide (low % 2 ^ d ≠ 0) = true then (A + low / 2 ^ d) ||| 1 else A + low / 2 ^ d := by
  unfold sd
  by_cases c : low % 2 ^ d = 0
  · rw [if_pos c, if_neg (by simp [c])]
  · rw [if_neg c, if_pos (by simp [c]), or_one, or_one]
    generalize low / 2 ^ d = q
    split <;> split <;> omega
theorem x_high {a b : Nat} (ha0 : 2 ^ 52 ≤ a) (ha : a < 2 ^ 53) (hb0 : 2 ^ 52 ≤ b) (hb : b < 2 ^ 53) : f_X1_highProduct (lN a) (lN b) = lN (if decide (a * b % 2 ^ 44 ≠ 0) = true then a * b / 2 ^ 44 ||| 1 else a * b / 2 ^ 44) := by
  have s27 : ∀ z, z < 2 ^ 64 → ((lN z).toUInt64 >>> ((27 : Int32).toInt64.toUInt64 &&& Int64.toUInt64 63)).toInt64 = lN (z / 2 ^ 27) := fun z hz => n_ushr (n := z) (k := 27) hz (by decide)
  have l27 : ∀ z, lN z <<< ((27 : Int32).toInt64 &&& 63) = lN (z * 2 ^ 27) := fun z => n_shl z (k := 27) (by decide)
  have l10 : ∀ z, lN z <<< ((10 : Int32).toInt64 &&& 63) = lN (z * 2 ^ 10) := fun z => n_shl z (k := 10) (by decide)
  have m27 : ∀ z, z < 2 ^ 64 → lN z &&& 134217727 = lN (z % 2 ^ 27) := fun z hz => n_mask (k := 27) hz (by decide)
  have hsp := split_mul (2 ^ 27) (a / 2 ^ 27) (a % 2 ^ 27) (b / 2 ^ 27) (b % 2 ^ 27)
  rw [Nat.div_add_mod, Nat.div_add_mod] at hsp
  have q1 : a / 2 ^ 27 * (b % 2 ^ 27) < 2 ^ 26 * 2 ^ 27 := Nat.mul_lt_mul'' (by omega) (by omega)
  have q2 : a % 2 ^ 27 * (b / 2 ^ 27) < 2 ^ 27 * 2 ^ 26 := Nat.mul_lt_mul'' (by omega) (by omega)
  have q3 : a % 2 ^ 27 * (b % 2 ^ 27) < 2 ^ 27 * 2 ^ 27 := Nat.mul_lt_mul'' (by omega) (by omega)
  have q4 : a / 2 ^ 27 * (b / 2 ^ 27) < 2 ^ 26 * 2 ^ 26 := Nat.mul_lt_mul'' (by omega) (by omega)
  unfold f_X1_highProduct
  rw [s27 a (by omega), m27 a (by omega), s27 b (by omega), m27 b (by omega)]
  simp only [sm_le, lN_mul, lN_add]
  generalize a / 2 ^ 27 * (b % 2 ^ 27) = w1 at hsp q1 ⊢
  generalize a % 2 ^ 27 * (b / 2 ^ 27) = w2 at hsp q2 ⊢
  generalize a % 2 ^ 27 * (b % 2 ^ 27) = w3 at hsp q3 ⊢
  generalize a / 2 ^ 27 * (b / 2 ^ 27) = w4 at hsp q4 ⊢
  have hab0 : 2 ^ 52 * 2 ^ 52 ≤ a * b := Nat.mul_le_mul ha0 hb0
  have hab1 : a * b < 2 ^ 53 * 2 ^ 53 := Nat.mul_lt_mul'' ha hb
  generalize a * b = P at hsp hab0 hab1 ⊢
  rw [s27 _ (by omega), m27 _ (by omega), l27]
  simp only [lN_add]
  have hd := x_down (N := w3 + (w1 + w2) % 2 ^ 27 * 2 ^ 27) (d := 44)
  by_cases z : w3 + (w1 + w2) % 2 ^ 27 * 2 ^ 27 = 0
  · rw [z, l10, show f_X1_shiftedDown (lN 0) 44 = lN 0 by decide, lN_add]
    have e1 : P % 2 ^ 44 = 0 := by omega
    rw [e1, if_neg (by decide)]
    congr 1
    omega
  · rw [show (44 : Int32) = iZ ((44 : Nat) : Int) from rfl, hd (by omega) (by omega) (by decide), l10, lN_add, sd_even (by omega)]
    have e1 : (w3 + (w1 + w2) % 2 ^ 27 * 2 ^ 27) % 2 ^ 44 = P % 2 ^ 44 := by omega
    have e2 : (w4 + (w1 + w2) / 2 ^ 27) * 2 ^ 10 + (w3 + (w1 + w2) % 2 ^ 27 * 2 ^ 27) / 2 ^ 44 = P / 2 ^ 44 := by omega
    rw [e1, e2]
/-- what is lost of a product doesn't matter -/
theorem prod_r {i a b : Nat} {e : Int} (ha0 : 2 ^ 52 ≤ a) (ha : a < 2 ^ 53) (hb0 : 2 ^ 52 ≤ b) (hb : b < 2 ^ 53) : rR i (if decide (a * b % 2 ^ 44 ≠ 0) = true then a * b / 2 ^ 44 ||| 1 else a * b / 2 ^ 44) (e + 44) false = rR i (a * b) e false := by
  have hf := pF_b i
  have hab0 : 2 ^ 52 * 2 ^ 52 ≤ a * b := Nat.mul_le_mul ha0 hb0
  have hab1 : a * b < 2 ^ 53 * 2 ^ 53 := Nat.mul_lt_mul'' ha hb
  generalize a * b = P at hab0 hab1 ⊢
  have hl : 60 ≤ (P / 2 ^ 44).log2 := (Nat.le_log2 (by omega)).mpr (by omega)
  have h := rR_T (i := i) (N := P) (k := 44) (e := e) (b := false) (by omega) (fun _ => by omega)
  rw [Bool.or_false] at h
  rw [rR_SX _ (fun _ => by omega), h]
  rfl
theorem prod_m {i a b : Nat} {e : Int} (ha0 : 2 ^ 52 ≤ a) (ha : a < 2 ^ 53) (hb0 : 2 ^ 52 ≤ b) (hb : b < 2 ^ 53) : rR i (a * 2 ^ 8 * (b * 2 ^ 8) / 2 ^ 62) (e - 16 + 62) (decide (a * 2 ^ 8 * (b * 2 ^ 8) % 2 ^ 62 ≠ 0)) = rR i (a * b) e false := by
  have hf := pF_b i
  have hab0 : 2 ^ 52 * 2 ^ 52 ≤ a * b := Nat.mul_le_mul ha0 hb0
  have hab1 : a * b < 2 ^ 53 * 2 ^ 53 := Nat.mul_lt_mul'' ha hb
  have e1 : a * 2 ^ 8 * (b * 2 ^ 8) = a * b * 2 ^ 16 := by rw [Nat.mul_mul_mul_comm]
  rw [e1]
  generalize a * b = P at hab0 hab1 ⊢
  have hl : 58 ≤ (P * 2 ^ 16 / 2 ^ 62).log2 := (Nat.le_log2 (by omega)).mpr (by omega)
  have h := rR_T (i := i) (N := P * 2 ^ 16) (k := 62) (e := e - 16) (b := false) (by omega) (fun _ => by omega)
  have h2 := rR_T (i := i) (N := P * 2 ^ 16) (k := 16) (e := e - 16) (b := false) (by omega) (fun q => by
    rcases q with q | q
    · omega
    · exact absurd q (by decide))
  rw [Bool.or_false] at h
  rw [Nat.mul_mod_left, Nat.mul_div_cancel _ (by decide), show e - 16 + ((16 : Nat) : Int) = e by omega] at h2
  rw [show ((62 : Nat) : Int) = 62 from rfl] at h
  rw [← h, h2]
  rfl
theorem m_high {A B : Nat} (ha : A < 2 ^ 61) (hb : B < 2 ^ 61) : A / 2 ^ 31 * (B / 2 ^ 31) + (A / 2 ^ 31 * (B % 2 ^ 31) + A % 2 ^ 31 * (B / 2 ^ 31) + A % 2 ^ 31 * (B % 2 ^ 31) / 2 ^ 31) / 2 ^ 31 = A * B / 2 ^ 62 ∧ (A * B % 2 ^ 62 = 0 ↔ A % 2 ^ 31 * (B % 2 ^ 31) % 2 ^ 31 = 0 ∧ (A / 2 ^ 31 * (B % 2 ^ 31) + A % 2 ^ 31 * (B / 2 ^ 31) + A % 2 ^ 31 * (B % 2 ^ 31) / 2 ^ 31) % 2 ^ 31 = 0) ∧ A % 2 ^ 31 * (B % 2 ^ 31) < 2 ^ 62 ∧ A / 2 ^ 31 * (B % 2 ^ 31) + A % 2 ^ 31 * (B / 2 ^ 31) + A % 2 ^ 31 * (B % 2 ^ 31) / 2 ^ 31 < 2 ^ 63 := by
  have hsp := split_mul (2 ^ 31) (A / 2 ^ 31) (A % 2 ^ 31) (B / 2 ^ 31) (B % 2 ^ 31)
  rw [Nat.div_add_mod, Nat.div_add_mod] at hsp
  have q1 : A / 2 ^ 31 * (B % 2 ^ 31) < 2 ^ 30 * 2 ^ 31 := Nat.mul_lt_mul'' (by omega) (by omega)
  have q2 : A % 2 ^ 31 * (B / 2 ^ 31) < 2 ^ 31 * 2 ^ 30 := Nat.mul_lt_mul'' (by omega) (by omega)
  have q3 : A % 2 ^ 31 * (B % 2 ^ 31) < 2 ^ 31 * 2 ^ 31 := Nat.mul_lt_mul'' (by omega) (by omega)
  generalize A / 2 ^ 31 * (B % 2 ^ 31) = w1 at hsp q1 ⊢
  generalize A % 2 ^ 31 * (B / 2 ^ 31) = w2 at hsp q2 ⊢
  generalize A % 2 ^ 31 * (B % 2 ^ 31) = w3 at hsp q3 ⊢
  generalize A / 2 ^ 31 * (B / 2 ^ 31) = w4 at hsp ⊢
  generalize A * B = P at hsp ⊢
  omega
/-- classes of numbers -/
theorem cls (i n : Nat) : ((pIn i < n) = True ∧ (n ≤ pIn i) = False ∧ (n = pIn i) = False ∧ (n = 0) = False) ∨ ((pIn i < n) = False ∧ (n ≤ pIn i) = True ∧ (n = pIn i) = True ∧ (n = 0) = False) ∨ ((pIn i < n) = False ∧ (n ≤ pIn i) = True ∧ (n = pIn i) = False ∧ (n = 0) = True) ∨ ((pIn i < n) = False ∧ (n ≤ pIn i) = True ∧ (n = pIn i) = False ∧ (n = 0) = False) := by
  have := pIn_pos i
  simp only [eq_iff_iff, iff_true, iff_false]
  omega
theorem sIn (i : Nat) (t : Int32) : f_X1_signed i t (kIn i) = f_X6_signed (wI i) t (f_X6_infinite (wI i)) := by
  rw [kIn_n, in_z, sg_eq t (Nat.le_refl _)]
theorem sZe (i : Nat) (t : Int32) : f_X1_signed i t 0 = f_X6_signed (wI i) t 0 := sg_eq (n := 0) t (Nat.zero_le _)
theorem prod_fin {i n m : Nat} {g h : Bool} {u : sm_S} (t : Int32) (h0 : 0 < n) (hn : n < pIn i) (h1 : 0 < m) (hm : m < pIn i) (hT : T1 u 0 i n g) (hU : T1 u 1 i m h) : f_X6_product_125 (wI i) t 0 0 u = (f_X1_rounded i t (f_X1_exponent i (mkf i g n) + f_X1_exponent i (mkf i h m) + 44) (f_X1_highProduct (f_X1_significand i (mkf i g n)) (f_X1_significand i (mkf i h m))), f_X6_spread (f_X6_spread u 0) 1) := by
  obtain ⟨hA, hB, -⟩ := spr2 h0 hn h1 hm hT hU
  obtain ⟨a1, a2, a3, a4, a5⟩ := sG_b h0 hn
  obtain ⟨b1, b2, b3, b4, b5⟩ := sG_b h1 hm
  unfold f_X6_product_125
  rw [if_pos rfl, if_pos rfl]
  simp only [sm_le]
  generalize f_X6_spread (f_X6_spread u 0) 1 = v at hA hB ⊢
  unfold f_X6_product_261 f_X6_product_266
  rw [tz0, tz1, hA.2.1, hB.2.1, hA.2.2, hB.2.2, x_exp h0 hn, x_exp h1 hm, x_sgn h0 hn, x_sgn h1 hm, x_high a1 a2 b1 b2]
  have s31 : ∀ z, z < 2 ^ 63 → lN z >>> ((31 : Int32).toInt64 &&& 63) = lN (z / 2 ^ 31) := fun z hz => n_shr (n := z) (k := 31) hz (by decide)
  have m31 : ∀ z, z < 2 ^ 64 → lN z &&& 2147483647 = lN (z % 2 ^ 31) := fun z hz => n_mask (k := 31) hz (by decide)
  rw [s31 _ (by omega), s31 _ (by omega), m31 _ (by omega), m31 _ (by omega)]
  simp only [lN_mul, lN_add]
  obtain ⟨k1, k2, k3, k4⟩ := m_high (A := sG i n * 2 ^ 8) (B := sG i m * 2 ^ 8) (by omega) (by omega)
  have hr := prod_r (i := i) (e := eP i n + eP i m) a1 a2 b1 b2
  have hr2 := prod_m (i := i) (e := eP i n + eP i m) a1 a2 b1 b2
  have hab0 : 2 ^ 52 * 2 ^ 52 ≤ sG i n * sG i m := Nat.mul_le_mul a1 b1
  have hab1 : sG i n * sG i m < 2 ^ 53 * 2 ^ 53 := Nat.mul_lt_mul'' a2 b2
  have hPP : sG i n * 2 ^ 8 * (sG i m * 2 ^ 8) = sG i n * sG i m * 2 ^ 16 := by rw [Nat.mul_mul_mul_comm]
  rw [s31 _ (by omega), m31 _ (by omega), lN_add]
  generalize sG i n * 2 ^ 8 % 2 ^ 31 * (sG i m * 2 ^ 8 % 2 ^ 31) = w3 at k1 k2 k3 k4 ⊢
  generalize sG i n * 2 ^ 8 / 2 ^ 31 * (sG i m * 2 ^ 8 % 2 ^ 31) + sG i n * 2 ^ 8 % 2 ^ 31 * (sG i m * 2 ^ 8 / 2 ^ 31) + w3 / 2 ^ 31 = w5 at k1 k2 k4 ⊢
  generalize sG i n * 2 ^ 8 / 2 ^ 31 * (sG i m * 2 ^ 8 / 2 ^ 31) = w4 at k1 ⊢
  rw [s31 _ (by omega), m31 _ (by omega), lN_add, k1]
  rw [hPP] at k2 hr2 ⊢
  have hx : iZ (eP i n) + iZ (eP i m) + 44 = iZ (eP i n + eP i m + 44) := by rw [iZ_add, show (44 : Int32) = iZ 44 from rfl, iZ_add]
  have hy : iZ (eP i n - 8) + iZ (eP i m - 8) + 62 = iZ (eP i n + eP i m - 16 + 62) := by
    rw [iZ_add, show (62 : Int32) = iZ 62 from rfl, iZ_add]
    congr 1
    omega
  rw [hx, hy]
  generalize sG i n * sG i m = P at hab0 hab1 k2 hr hr2 ⊢
  have hodd := or_one (P / 2 ^ 44)
  have fin : ∀ bb : Int32, decide (bb ≠ 0) = decide (P * 2 ^ 16 % 2 ^ 62 ≠ 0) → f_X1_rounded i t (iZ (eP i n + eP i m + 44)) (lN (if decide (P % 2 ^ 44 ≠ 0) = true then P / 2 ^ 44 ||| 1 else P / 2 ^ 44)) = f_X6_round (wI i) t (lN (P * 2 ^ 16 / 2 ^ 62)) (iZ (eP i n + eP i m - 16 + 62)) bb := by
    intro bb hbb
    refine xm_round t bb ?_ ?_ (by omega) (by omega) (by omega) (by omega) (by omega) (by omega) ?_
    · split <;> (try rw [hodd]) <;> (try split) <;> omega
    · split <;> (try rw [hodd]) <;> (try split) <;> omega
    · rw [hr, hbb, hr2]
  have hz : ∀ z, z < 2 ^ 64 → (lN z = 0 ↔ z = 0) := fun z h => n_eq (b := 0) h (by decide)
  by_cases c1 : w3 % 2 ^ 31 = 0
  · rw [if_pos ((hz _ (by omega)).mpr c1)]
    by_cases c2 : w5 % 2 ^ 31 = 0
    · rw [if_pos ((hz _ (by omega)).mpr c2), fin 0 (by simp [k2.mpr ⟨c1, c2⟩])]
    · rw [if_neg (fun q => c2 ((hz _ (by omega)).mp q)), fin 1 (by simp [k2, c2])]
  · rw [if_neg (fun q => c1 ((hz _ (by omega)).mp q)), fin 1 (by simp [k2, c1])]
theorem xm_prod {i n m : Nat} {g h : Bool} (σ : sm_S) (hn : n < 2 ^ fB i) (hm : m < 2 ^ fB i) : ∃ τ, f_X6_product σ (wI i) (mkf i g n) (mkf i h m) = (f_X1_product i (mkf i g n) (mkf i h m), τ) ∧ sq τ σ := by
  obtain ⟨hT, hU, hs⟩ := take2 (g := g) (h := h) σ hn hm
  have hx := fun (q : 0 < n) (q2 : n < pIn i) (q3 : 0 < m) (q4 : m < pIn i) => (spr2 q q2 q3 q4 hT hU).2.2.tr hs
  have hy := fun (t : Int32) (q : 0 < n) (q2 : n < pIn i) (q3 : 0 < m) (q4 : m < pIn i) => prod_fin t q q2 q3 q4 hT hU
  unfold f_X6_product f_X1_product
  simp only [sm_le]
  generalize f_X6_take (f_X6_take σ 0 (mkf i g n) (wI i)) 1 (mkf i h m) (wI i) = u at hT hU hs hx hy ⊢
  simp only [tz0, tz1, hT.2.1, hU.2.1, x_nan0 hn, x_nan0 hm, x_neg hn, x_neg hm, sgI_eq']
  have key : ∀ t, ∃ τ, f_X6_product_35 (wI i) u t = (if n ≤ pIn i then (if m ≤ pIn i then f_X1_product_39 i (mkf i g n) (mkf i h m) t else kNa i) else kNa i, τ) ∧ sq τ σ := by
    intro t
    unfold f_X6_product_35 f_X6_product_55 f_X6_product_60 f_X6_product_82 f_X6_product_87 f_X1_product_39 f_X1_product_57 f_X1_product_62 f_X1_product_80 f_X6_product_119
    simp only [tz0, tz1, hT.1, hU.1, fS3, fS2, fS0, x_inf0 hn, x_inf0 hm, x_zero0 hn, x_zero0 hm, no_n, sIn, sZe, sm_le]
    have e01 : ((1 : Int32) = 0) = False := by decide
    have e00 : ((0 : Int32) = 0) = True := by decide
    have h125 : ∀ a b, f_X6_product_125 (wI i) t a b u = if a = 0 then (if b = 0 then f_X6_product_125 (wI i) t 0 0 u else f_X6_product_135 (wI i) t a u) else f_X6_product_135 (wI i) t a u := by
      intro a b
      by_cases ca : a = 0
      · subst ca
        by_cases cb : b = 0
        · subst cb
          rw [if_pos rfl, if_pos rfl]
        · rw [if_pos rfl, if_neg cb]
          unfold f_X6_product_125
          rw [if_pos rfl, if_neg cb]
      · rw [if_neg ca]
        unfold f_X6_product_125
        rw [if_neg ca]
    rcases cls i n with ⟨A1, A2, A3, A4⟩ | ⟨A1, A2, A3, A4⟩ | ⟨A1, A2, A3, A4⟩ | ⟨A1, A2, A3, A4⟩ <;> rcases cls i m with ⟨B1, B2, B3, B4⟩ | ⟨B1, B2, B3, B4⟩ | ⟨B1, B2, B3, B4⟩ | ⟨B1, B2, B3, B4⟩ <;> simp only [A1, A2, A3, A4, B1, B2, B3, B4, if_true, if_false, not_true_eq_false, not_false_eq_true, e01, e00]
    all_goals first
      | exact ⟨u, rfl, hs⟩
      | (rw [h125]; simp only [e01, e00, if_true, if_false, f_X6_product_135, f_X6_product_153]; exact ⟨u, rfl, hs⟩)
      | (simp only [eq_iff_iff, iff_true, iff_false] at A1 A2 A3 A4 B1 B2 B3 B4
         rw [hy t (by omega) (by omega) (by omega) (by omega)]
         exact ⟨_, rfl, hx (by omega) (by omega) (by omega) (by omega)⟩)
  by_cases gh : g = h
  · simp only [if_pos gh]
    exact key 0
  · simp only [if_neg gh]
    exact key 1
