/-! whole numbers and numbers with a point -/
theorem of_core {i m : Nat} (t : Int32) (h0 : 0 < m) (hm : m < 2 ^ 63) : f_X1_rounded i t (iZ 0) (lN m) = if 4611686018427387904 ≤ lN m then f_X6_round (wI i) t ((lN m >>> (Int32.toInt64 1 &&& 63)) ||| (lN m &&& 1)) (iZ 1) 0 else f_X6_round (wI i) t (lN m) (iZ 0) 0 := by
  have hf := pF_b i
  by_cases c : 2 ^ 62 ≤ m
  · rw [if_pos (show (4611686018427387904 : Int64) ≤ lN m from (n_le (a := 4611686018427387904) (by decide) hm).mpr (by omega))]
    have s1 : lN m >>> ((1 : Int32).toInt64 &&& 63) = lN (m / 2 ^ 1) := n_shr (n := m) (k := 1) hm (by decide)
    rw [s1, n_one (by omega), n_or (by omega) (by omega)]
    have e1 : m / 2 ^ 1 ||| m % 2 = if decide (m % 2 ^ 1 ≠ 0) = true then m / 2 ^ 1 ||| 1 else m / 2 ^ 1 := by
      by_cases d : m % 2 = 0
      · rw [d, Nat.or_zero, if_neg (by simp [d])]
      · rw [show m % 2 = 1 by omega, if_pos (by simp [d])]
    rw [e1]
    have hodd := or_one (m / 2 ^ 1)
    have hl : 60 ≤ (m / 2 ^ 1).log2 := (Nat.le_log2 (by omega)).mpr (by omega)
    refine xm_round t 0 h0 hm ?_ ?_ (by omega) (by omega) (by omega) (by omega) ?_
    · split <;> (try rw [hodd]) <;> (try split) <;> omega
    · split <;> (try rw [hodd]) <;> (try split) <;> omega
    · have h := rR_T (i := i) (N := m) (k := 1) (e := 0) (b := false) (by omega) (fun _ => by omega)
      rw [Bool.or_false] at h
      rw [show decide ((0 : Int32) ≠ 0) = false from rfl, rR_SX _ (fun _ => by omega), h]
      rfl
  · rw [if_neg (show ¬ (4611686018427387904 : Int64) ≤ lN m from fun q => c (by have := (n_le (a := 4611686018427387904) (by decide) hm).mp q; omega))]
    exact xm_round t 0 h0 hm h0 (by omega) (by omega) (by omega) (by omega) (by omega) rfl
theorem l_sign (v : Int64) : v = 0 ∨ (∃ m, 0 < m ∧ m < 2 ^ 63 ∧ v = lN m) ∨ (∃ m, 0 < m ∧ m < 2 ^ 63 ∧ v = -lN m) ∨ v = -9223372036854775808 := by
  have h1 := Int64.le_toInt v
  have h2 := Int64.toInt_lt v
  by_cases a : v.toInt = 0
  · exact Or.inl (Int64.toInt_inj.mp a)
  · by_cases b : 0 < v.toInt
    · refine Or.inr (Or.inl ⟨v.toInt.toNat, by omega, by omega, Int64.toInt_inj.mp ?_⟩)
      rw [n_t (by omega)]
      omega
    · by_cases c : v.toInt = -2 ^ 63
      · exact Or.inr (Or.inr (Or.inr (Int64.toInt_inj.mp c)))
      · refine Or.inr (Or.inr (Or.inl ⟨(-v.toInt).toNat, by omega, by omega, Int64.toInt_inj.mp ?_⟩))
        rw [show (-lN (-v.toInt).toNat).toInt = -(((-v.toInt).toNat : Nat) : Int) from Int64.toInt_neg_ofNat_of_le (by omega)]
        omega
theorem xm_ofWhole {i : Nat} (v : Int64) : f_X1_ofWhole i v = f_X6_fromWhole (wI i) v := by
  have hf := pF_b i
  unfold f_X1_ofWhole f_X6_fromWhole f_X1_ofWhole_38 f_X6_fromWhole_40 f_X6_fromWhole_87 f_X6_fromWhole_64
  have z0 : (0 : Int64).toInt = 0 := rfl
  rcases l_sign v with h | ⟨m, h0, hm, h⟩ | ⟨m, h0, hm, h⟩ | h
  · rw [if_pos h, if_pos h]
  · have t := n_t hm
    subst h
    have a : ¬ lN m = 0 := by rw [← Int64.toInt_inj, t, z0]; omega
    have b : ¬ lN m = -9223372036854775808 := by
      rw [← Int64.toInt_inj, t, show (-9223372036854775808 : Int64).toInt = -9223372036854775808 from rfl]; omega
    have c : (0 : Int64) ≤ lN m := by rw [Int64.le_iff_toInt_le, t, z0]; omega
    rw [if_neg a, if_neg a, if_neg b, if_neg b, if_pos c, if_pos c, if_pos c, if_pos c, (lN_neg_abs h0 hm).1]
    exact of_core 0 h0 hm
  · have t : (-lN m).toInt = -(m : Int) := Int64.toInt_neg_ofNat_of_le (by omega)
    subst h
    have a : ¬ -lN m = 0 := by rw [← Int64.toInt_inj, t, z0]; omega
    have b : ¬ -lN m = -9223372036854775808 := by
      rw [← Int64.toInt_inj, t, show (-9223372036854775808 : Int64).toInt = -9223372036854775808 from rfl]; omega
    have c : ¬ (0 : Int64) ≤ -lN m := by rw [Int64.le_iff_toInt_le, t, z0]; omega
    rw [if_neg a, if_neg a, if_neg b, if_neg b, if_neg c, if_neg c, if_neg c, if_neg c, (lN_neg_abs h0 hm).2, Int64.neg_neg]
    exact of_core 1 h0 hm
  · subst h
    have n0 : ¬ (-9223372036854775808 : Int64) = 0 := by decide
    rw [if_neg n0, if_neg n0, if_pos rfl, if_pos rfl]
    have h := rR_T (i := i) (N := 2 ^ 62) (k := 1) (e := 1) (b := false) (by decide) (fun q => by
      rcases q with q | q
      · exact absurd (by decide) q
      · exact absurd q (by decide))
    rw [show (2 : Nat) ^ 62 / 2 ^ 1 = 2 ^ 61 by decide, show (1 : Int) + ((1 : Nat) : Int) = 2 by decide, show (decide ((2 : Nat) ^ 62 % 2 ^ 1 ≠ 0) || false) = decide ((0 : Int32) ≠ 0) by decide] at h
    have k := xm_round (i := i) (mx := 2 ^ 62) (mm := 2 ^ 61) (ex := 1) (em := 2) 1 0 (by decide) (by decide) (by decide) (by decide) (by decide) (by decide) (by decide) (by decide) h
    rw [show (4611686018427387904 : Int64) = lN (2 ^ 62) by decide, show (2305843009213693952 : Int64) = lN (2 ^ 61) by decide]
    exact k
/-! between the formats -/
theorem xm_other {i j n : Nat} {g : Bool} (σ : sm_S) (hij : (j = 0 ∧ i = 1) ∨ (j = 1 ∧ i = 0)) (hn : n < 2 ^ fB j) : ∃ τ, f_X6_otherFormat σ (wI j) (mkf j g n) = (f_X1_ofOther i j (mkf j g n), τ) ∧ sq τ σ := by
  obtain ⟨hT, hs⟩ := take1 (g := g) σ hn
  unfold f_X6_otherFormat f_X1_ofOther
  rw [sm_le]
  generalize f_X6_take σ 0 (mkf j g n) (wI j) = u at hT hs ⊢
  unfold f_X6_otherFormat_27 f_X6_otherFormat_97 f_X6_otherFormat_51 f_X6_otherFormat_80 f_X6_otherFormat_83
  have hw : ∀ (α : Type) (f : Int32 → α), (if wI j = 0 then f 1 else f 0) = f (wI i) := by
    intro α f
    rcases hij with ⟨a, b⟩ | ⟨a, b⟩
    · subst a b; rfl
    · subst a b; rfl
  have c1 := hw _ (fun w => (f_X6_none w, u))
  have c2 := hw _ (fun w => (f_X6_round w (u.1 17 (Int32.toNatClampNeg 0)) (u.2.1 18 (Int32.toNatClampNeg 0)) (u.1 16 (Int32.toNatClampNeg 0)) 0, u))
  rw [c1, c2]
  have c3 : ∀ w, (if wI j = 0 then ((f_X6_signed w (u.1 17 (Int32.toNatClampNeg 0)) (f_X6_infinite 1), u) : Int64 × sm_S) else (f_X6_signed w (u.1 17 (Int32.toNatClampNeg 0)) (f_X6_infinite 0), u)) = (f_X6_signed w (u.1 17 (Int32.toNatClampNeg 0)) (f_X6_infinite (wI i)), u) := fun w => hw _ (fun v => (f_X6_signed w (u.1 17 (Int32.toNatClampNeg 0)) (f_X6_infinite v), u))
  rw [c3, c3]
  have c4 := hw _ (fun w => if u.1 15 (Int32.toNatClampNeg 0) = 0 then ((f_X6_signed w (u.1 17 (Int32.toNatClampNeg 0)) 0, u) : Int64 × sm_S) else (f_X6_signed w (u.1 17 (Int32.toNatClampNeg 0)) (f_X6_infinite (wI i)), u))
  rw [c4, tz0, hT.1, hT.2.1, hT.2.2.1, hT.2.2.2]
  rcases cls2 j n with ⟨A1, A2, A3, A4, A5⟩ | ⟨A1, A2, A3, A4, A5⟩ | ⟨A1, A2, A3, A4, A5⟩ | ⟨A1, A2, A3, A4, A5⟩
  · simp (decide := true) only [A2, A3, A4, A5, x_nan0 hn, x_inf0 hn, x_zero0 hn, x_neg hn, if_true, if_false, not_true_eq_false, not_false_eq_true, no_n]
    exact ⟨u, rfl, hs⟩
  · simp (decide := true) only [A2, A3, A4, A5, x_nan0 hn, x_inf0 hn, x_zero0 hn, x_neg hn, if_true, if_false, not_true_eq_false, not_false_eq_true, sIn]
    exact ⟨u, rfl, hs⟩
  · simp (decide := true) only [A2, A3, A4, A5, x_nan0 hn, x_inf0 hn, x_zero0 hn, x_neg hn, if_true, if_false, not_true_eq_false, not_false_eq_true, sZe]
    exact ⟨u, rfl, hs⟩
  · simp (decide := true) only [A2, A3, A4, A5, x_nan0 hn, x_inf0 hn, x_zero0 hn, x_neg hn, if_true, if_false, not_true_eq_false, not_false_eq_true, x_exp A1.1 A1.2, x_sgn A1.1 A1.2]
    refine ⟨u, ?_, hs⟩
    congr 1
    symm
    have hu := uM_b A1.1 A1.2
    obtain ⟨a1, a2, a3, a4, a5⟩ := sG_b A1.1 A1.2
    have hu2 : uM j n < 2 ^ 53 := Nat.lt_of_lt_of_le hu.2.1 (Nat.pow_le_pow_right (by decide) (by omega))
    have hE : eP j n = uE j n - (52 - (uM j n).log2 : Nat) := rfl
    refine xm_round _ 0 (by omega) (by omega) hu.1 (by omega) (by omega) (by omega) (by omega) (by omega) ?_
    have h2 := rR_T (i := i) (N := sG j n) (k := 52 - (uM j n).log2) (e := eP j n) (b := false) (by unfold sG; rw [Nat.mul_div_cancel _ (Nat.two_pow_pos _)]; exact hu.1) (fun q => by
        rcases q with q | q
        · exact absurd (Nat.mul_mod_left _ _) q
        · exact absurd q (by decide))
    rw [show sG j n % 2 ^ (52 - (uM j n).log2) = 0 from Nat.mul_mod_left _ _, show sG j n / 2 ^ (52 - (uM j n).log2) = uM j n from Nat.mul_div_cancel _ (Nat.two_pow_pos _), show eP j n + ((52 - (uM j n).log2 : Nat) : Int) = uE j n by omega] at h2
    exact h2
/-! towards whole numbers -/
def Wn (i n : Nat) : Nat := if 0 ≤ uE i n then uM i n * 2 ^ (uE i n).toNat else uM i n / 2 ^ (-uE i n).toNat
theorem Wn_x {i n : Nat} (h0 : 0 < n) (hn : n < pIn i) : Wn i n = if 0 ≤ eP i n then sG i n * 2 ^ (eP i n).toNat else sG i n / 2 ^ (-eP i n).toNat := by
  have hE : eP i n = uE i n - (52 - (uM i n).log2 : Nat) := rfl
  have hS : sG i n = uM i n * 2 ^ (52 - (uM i n).log2) := rfl
  unfold Wn
  rw [hS]
  generalize 52 - (uM i n).log2 = k at hE ⊢
  by_cases c : 0 ≤ eP i n
  · rw [if_pos c, if_pos (by omega), Nat.mul_assoc, ← Nat.pow_add, show k + (eP i n).toNat = (uE i n).toNat by omega]
  · rw [if_neg c]
    by_cases d : 0 ≤ uE i n
    · rw [if_pos d]
      have e1 : 2 ^ k = 2 ^ (uE i n).toNat * 2 ^ (-eP i n).toNat := by rw [← Nat.pow_add]; congr 1; omega
      rw [e1, ← Nat.mul_assoc, Nat.mul_div_cancel _ (Nat.two_pow_pos _)]
    · rw [if_neg d]
      have e1 : 2 ^ (-eP i n).toNat = 2 ^ k * 2 ^ (-uE i n).toNat := by rw [← Nat.pow_add]; congr 1; omega
      rw [e1, Nat.mul_comm (uM i n), Nat.mul_div_mul_left _ _ (Nat.two_pow_pos k)]
theorem Wn_b {i n : Nat} (h0 : 0 < n) (hn : n < pIn i) (he : eP i n ≤ 10) : Wn i n < 2 ^ 63 := by
  obtain ⟨a1, a2, a3, a4, a5⟩ := sG_b h0 hn
  rw [Wn_x h0 hn]
  by_cases c : 0 ≤ eP i n
  · rw [if_pos c]
    have : 2 ^ (eP i n).toNat ≤ 2 ^ 10 := Nat.pow_le_pow_right (by decide) (by omega)
    have := Nat.mul_le_mul (Nat.le_of_lt_succ (show sG i n < (2 ^ 53 - 1).succ by omega)) this
    omega
  · rw [if_neg c]
    have : sG i n / 2 ^ (-eP i n).toNat ≤ sG i n := Nat.div_le_self _ _
    omega
def trX (i n : Nat) (g : Bool) : Int64 := if pIn i < n then 0 else if n = 0 then 0 else if n = pIn i ∨ 10 < eP i n then (if g = true then -9223372036854775808 else 9223372036854775807) else (if g = true then -lN (Wn i n) else lN (Wn i n))
theorem x_trunc {i n : Nat} {g : Bool} (hn : n < 2 ^ fB i) : f_X1_truncated i (mkf i g n) = trX i n g := by
  have hin := pIn_pos i
  unfold f_X1_truncated trX f_X1_truncated_38 f_X1_truncated_86
  simp only [x_nan0 hn, x_zero0 hn, x_inf0 hn, x_neg hn, sgI_0, sm_le]
  have hg : ∀ a b : Int64, (if g = false then a else b) = if g = true then b else a := by intro a b; cases g <;> rfl
  simp only [hg]
  by_cases c1 : pIn i < n
  · rw [if_pos c1, if_neg (by omega)]
  · rw [if_neg c1, if_pos (by omega)]
    by_cases c2 : n = 0
    · rw [if_pos c2, if_neg (fun q => q c2)]
    · rw [if_neg c2, if_pos c2]
      by_cases c3 : n = pIn i
      · rw [if_neg (show ¬ ¬ n = pIn i from fun q => q c3), if_pos (Or.inl c3)]
      · rw [if_pos (show ¬ n = pIn i from c3)]
        have hlt : n < pIn i := by omega
        have h0 : 0 < n := by omega
        obtain ⟨a1, a2, a3, a4, a5⟩ := sG_b h0 hlt
        have hle : ∀ x y : Int, -2000 ≤ x → x ≤ 2000 → -2000 ≤ y → y ≤ 2000 → (iZ x ≤ iZ y ↔ x ≤ y) := fun x y _ _ _ _ => iZ_le (by omega) (by omega) (by omega) (by omega)
        have hl : ∀ x y : Int, -2000 ≤ x → x ≤ 2000 → -2000 ≤ y → y ≤ 2000 → (iZ x < iZ y ↔ x < y) := fun x y _ _ _ _ => iZ_lt (by omega) (by omega) (by omega) (by omega)
        rw [x_exp h0 hlt, x_sgn h0 hlt]
        by_cases c4 : 10 < eP i n
        · rw [if_neg (show ¬ iZ (eP i n) ≤ (10 : Int32) from fun q => by have := (hle _ 10 (by omega) (by omega) (by decide) (by decide)).mp q; omega), if_pos (Or.inr c4)]
        · rw [if_pos (show iZ (eP i n) ≤ (10 : Int32) from (hle _ 10 (by omega) (by omega) (by decide) (by decide)).mpr (by omega)), if_neg (show ¬ (n = pIn i ∨ 10 < eP i n) by omega), Wn_x h0 hlt]
          by_cases c5 : -53 < eP i n
          · rw [if_pos (show (-53 : Int32) < iZ (eP i n) from (hl (-53) _ (by decide) (by decide) (by omega) (by omega)).mpr c5)]
            by_cases c6 : 0 ≤ eP i n
            · rw [if_pos (show (0 : Int32) ≤ iZ (eP i n) from (hle 0 _ (by decide) (by decide) (by omega) (by omega)).mpr c6), if_pos c6]
              have : iZ (eP i n) = iZ ((eP i n).toNat : Int) := by congr 1; omega
              rw [this, n_shl _ (by omega)]
            · rw [if_neg (show ¬ (0 : Int32) ≤ iZ (eP i n) from fun q => c6 ((hle 0 _ (by decide) (by decide) (by omega) (by omega)).mp q)), if_neg c6]
              have : -iZ (eP i n) = iZ ((-eP i n).toNat : Int) := by rw [iZ_neg]; congr 1; omega
              rw [this, n_ushr (by omega) (by omega)]
          · rw [if_neg (show ¬ (-53 : Int32) < iZ (eP i n) from fun q => c5 ((hl (-53) _ (by decide) (by decide) (by omega) (by omega)).mp q)), if_neg (show ¬ 0 ≤ eP i n by omega)]
            have hp : 2 ^ 53 ≤ 2 ^ (-eP i n).toNat := Nat.pow_le_pow_right (by decide) (by omega)
            rw [Nat.div_eq_of_lt (by omega)]
            cases g <;> rfl
theorem m_whole {i n : Nat} {g : Bool} {u : sm_S} (top : Int64) (hT : T1 u 0 i n g) : f_X6_toWhole_21 u top = ((if pIn i < n then 0 else if n = 0 then 0 else if n = pIn i ∨ 10 < eP i n then (if g = true then -top - 1 else top) else (if lN (Wn i n) ≤ top then (if g = true then -lN (Wn i n) else lN (Wn i n)) else (if g = true then -top - 1 else top))), u) := by
  have hin := pIn_pos i
  unfold f_X6_toWhole_21 f_X6_toWhole_76 f_X6_toWhole_81 f_X6_toWhole_147 f_X6_toWhole_162
  rw [tz0, hT.1, hT.2.1, hT.2.2.1, hT.2.2.2]
  have hg : ∀ a b : Int64 × sm_S, (if sgI g = 0 then a else b) = if g = true then b else a := by intro a b; cases g <;> rfl
  simp only [hg]
  have e01 : ((1 : Int32) = 0) = False := by decide
  rcases cls2 i n with ⟨A1, A2, A3, A4, A5⟩ | ⟨A1, A2, A3, A4, A5⟩ | ⟨A1, A2, A3, A4, A5⟩ | ⟨A1, A2, A3, A4, A5⟩
  · rw [A5, if_neg (by decide), if_pos rfl, if_pos A1]
  · simp (decide := true) only [A1, A3, A4, A5, if_true, if_false, true_or]
    cases g <;> rfl
  · simp (decide := true) only [A1, A4, A5, if_true, if_false]
  · have h0 := A1.1
    have hlt := A1.2
    have hu := uM_b h0 hlt
    have hf := pF_b i
    have hu2 : uM i n < 2 ^ 53 := Nat.lt_of_lt_of_le hu.2.1 (Nat.pow_le_pow_right (by decide) (by omega))
    obtain ⟨a1, a2, a3, a4, a5⟩ := sG_b h0 hlt
    have hE : eP i n = uE i n - (52 - (uM i n).log2 : Nat) := rfl
    rw [A5, if_neg (by decide), if_neg (by decide), if_neg (by decide), len_z hu.1 (by omega), iZ_add, if_neg (show ¬ pIn i < n by omega), if_neg (show ¬ n = 0 by omega)]
    by_cases c4 : 10 < eP i n
    · rw [if_neg (show ¬ iZ (((uM i n).log2 : Int) + 1 + uE i n) ≤ (63 : Int32) from fun q => by have := (iZ_le (b := 63) (by omega) (by omega) (by decide) (by decide)).mp q; omega), if_neg (by decide), if_neg (by decide), if_pos (Or.inr c4)]
      cases g <;> rfl
    · have hb := Wn_b h0 hlt (by omega)
      rw [if_pos (show iZ (((uM i n).log2 : Int) + 1 + uE i n) ≤ (63 : Int32) from (iZ_le (b := 63) (by omega) (by omega) (by decide) (by decide)).mpr (by omega)), if_neg (show ¬ (n = pIn i ∨ 10 < eP i n) by omega), if_pos trivial]
      have hm : ∀ f : Int64 → Int64 × sm_S, (if iZ (uE i n) < 0 then (if -63 ≤ iZ (uE i n) then f (lN (uM i n) >>> ((-iZ (uE i n)).toInt64 &&& 63)) else f 0) else f (lN (uM i n) <<< ((iZ (uE i n)).toInt64 &&& 63))) = f (lN (Wn i n)) := by
        intro f
        unfold Wn
        by_cases c6 : 0 ≤ uE i n
        · rw [if_neg (show ¬ iZ (uE i n) < (0 : Int32) from fun q => by have := (iZ_lt (b := 0) (by omega) (by omega) (by decide) (by decide)).mp q; omega), if_pos c6]
          have : iZ (uE i n) = iZ ((uE i n).toNat : Int) := by congr 1; omega
          rw [this, n_shl _ (by omega)]
        · rw [if_pos (show iZ (uE i n) < (0 : Int32) from (iZ_lt (b := 0) (by omega) (by omega) (by decide) (by decide)).mpr (by omega)), if_neg c6]
          by_cases c7 : -63 ≤ uE i n
          · rw [if_pos (show (-63 : Int32) ≤ iZ (uE i n) from (iZ_le (a := -63) (by decide) (by decide) (by omega) (by omega)).mpr c7)]
            have : -iZ (uE i n) = iZ ((-uE i n).toNat : Int) := by rw [iZ_neg]; congr 1; omega
            rw [this, n_shr (by omega) (by omega)]
          · rw [if_neg (show ¬ (-63 : Int32) ≤ iZ (uE i n) from fun q => c7 ((iZ_le (a := -63) (by decide) (by decide) (by omega) (by omega)).mp q))]
            have hp : 2 ^ 53 ≤ 2 ^ (-uE i n).toNat := Nat.pow_le_pow_right (by decide) (by omega)
            rw [Nat.div_eq_of_lt (by omega)]
            rfl
      have hm2 := hm (fun z => if z ≤ top then (if g = true then (-z, u) else (z, u)) else (if g = true then (-top - 1, u) else (top, u)))
      simp only [if_true] at hm2 ⊢
      rw [hm2]
      by_cases d : lN (Wn i n) ≤ top
      · rw [if_pos d, if_pos d]
        cases g <;> rfl
      · rw [if_neg d, if_neg d]
        cases g <;> rfl
theorem xm_toLong {i n : Nat} {g : Bool} (σ : sm_S) (hn : n < 2 ^ fB i) : ∃ τ, f_X6_toWhole σ (wI i) (mkf i g n) 1 = (f_X1_truncated i (mkf i g n), τ) ∧ sq τ σ := by
  obtain ⟨hT, hs⟩ := take1 (g := g) σ hn
  unfold f_X6_toWhole
  rw [sm_le]
  generalize f_X6_take σ 0 (mkf i g n) (wI i) = u at hT hs ⊢
  rw [if_neg (by decide), m_whole _ hT, x_trunc hn]
  refine ⟨u, ?_, hs⟩
  congr 1
  unfold trX
  by_cases c1 : pIn i < n
  · rw [if_pos c1, if_pos c1]
  · rw [if_neg c1, if_neg c1]
    by_cases c2 : n = 0
    · rw [if_pos c2, if_pos c2]
    · rw [if_neg c2, if_neg c2]
      by_cases c3 : n = pIn i ∨ 10 < eP i n
      · rw [if_pos c3, if_pos c3]
        cases g <;> decide
      · have hb := Wn_b (i := i) (n := n) (by omega) (by omega) (by omega)
        rw [if_neg c3, if_neg c3, if_pos (show lN (Wn i n) ≤ (9223372036854775807 : Int64) from (n_le (b := 9223372036854775807) hb (by decide)).mpr (by omega))]
theorem xm_toInt {i n : Nat} {g : Bool} (σ : sm_S) (hn : n < 2 ^ fB i) : ∃ τ, f_X6_toWhole σ (wI i) (mkf i g n) 0 = (f_X4_nearestInt (f_X1_truncated i (mkf i g n)), τ) ∧ sq τ σ := by
  obtain ⟨hT, hs⟩ := take1 (g := g) σ hn
  unfold f_X6_toWhole
  rw [sm_le]
  generalize f_X6_take σ 0 (mkf i g n) (wI i) = u at hT hs ⊢
  rw [if_pos rfl, m_whole _ hT, x_trunc hn]
  refine ⟨u, ?_, hs⟩
  congr 1
  unfold trX
  by_cases c1 : pIn i < n
  · rw [if_pos c1, if_pos c1]
    decide
  · rw [if_neg c1, if_neg c1]
    by_cases c2 : n = 0
    · rw [if_pos c2, if_pos c2]
      decide
    · rw [if_neg c2, if_neg c2]
      by_cases c3 : n = pIn i ∨ 10 < eP i n
      · rw [if_pos c3, if_pos c3]
        cases g <;> decide
      · have hb := Wn_b (i := i) (n := n) (by omega) (by omega) (by omega)
        rw [if_neg c3, if_neg c3]
        generalize Wn i n = W at hb ⊢
        have t := n_t hb
        have t2 : (-lN W).toInt = -(W : Int) := Int64.toInt_neg_ofNat_of_le (by omega)
        have z1 : (2147483647 : Int64).toInt = 2147483647 := rfl
        have z2 : (-2147483648 : Int64).toInt = -2147483648 := rfl
        unfold f_X4_nearestInt sm_maxL sm_minL
        apply Int64.toInt_inj.mp
        by_cases d : W ≤ 2147483647
        · rw [if_pos (show lN W ≤ (2147483647 : Int64) by rw [Int64.le_iff_toInt_le, t, z1]; omega)]
          cases g
          · rw [if_neg (show ¬ false = true by decide)]
            by_cases f : W = 2147483647
            · rw [if_neg (show ¬ lN W < (2147483647 : Int64) by rw [Int64.lt_iff_toInt_lt, t, z1]; omega), if_neg (show ¬ (2147483647 : Int64) < -2147483648 by decide), t, z1]
              omega
            · rw [if_pos (show lN W < (2147483647 : Int64) by rw [Int64.lt_iff_toInt_lt, t, z1]; omega), if_neg (by rw [Int64.lt_iff_toInt_lt, t, z2]; omega)]
          · rw [if_pos rfl, if_pos (show -lN W < (2147483647 : Int64) by rw [Int64.lt_iff_toInt_lt, t2, z1]; omega), if_neg (by rw [Int64.lt_iff_toInt_lt, t2, z2]; omega)]
        · rw [if_neg (show ¬ lN W ≤ (2147483647 : Int64) by rw [Int64.le_iff_toInt_le, t, z1]; omega)]
          cases g
          · rw [if_neg (show ¬ false = true by decide), if_neg (show ¬ false = true by decide), if_neg (show ¬ lN W < (2147483647 : Int64) by rw [Int64.lt_iff_toInt_lt, t, z1]; omega), if_neg (show ¬ (2147483647 : Int64) < -2147483648 by decide)]
          · rw [if_pos rfl, if_pos rfl, if_pos (show -lN W < (2147483647 : Int64) by rw [Int64.lt_iff_toInt_lt, t2, z1]; omega)]
            by_cases f : W = 2147483648
            · rw [if_neg (by rw [Int64.lt_iff_toInt_lt, t2, z2]; omega), t2, show (-(2147483647 : Int64) - 1).toInt = -2147483648 from rfl]
              omega
            · rw [if_pos (by rw [Int64.lt_iff_toInt_lt, t2, z2]; omega)]
              rfl
