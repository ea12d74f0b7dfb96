/-! longs and ints as whole numbers -/
def iZ (z : Int) : Int32 := Int32.ofInt z
theorem iZ_add (a b : Int) : iZ a + iZ b = iZ (a + b) := (Int32.ofInt_add a b).symm
theorem iZ_sub (a b : Int) : iZ a - iZ b = iZ (a - b) := (Int32.ofInt_sub a b).symm
theorem iZ_neg (a : Int) : -iZ a = iZ (-a) := (Int32.ofInt_neg a).symm
theorem iZ_t {z : Int} (h1 : -2147483648 ≤ z) (h2 : z < 2147483648) : (iZ z).toInt = z := Int32.toInt_ofInt_of_le h1 h2
theorem iZ_nI (n : Nat) : nI n = iZ (n : Int) := Int32.ofInt_eq_ofNat.symm
theorem iZ_of (x : Int32) : x = iZ x.toInt := (Int32.ofInt_toInt x).symm
theorem iZ_lt {a b : Int} (h1 : -2147483648 ≤ a) (h2 : a < 2147483648) (h3 : -2147483648 ≤ b) (h4 : b < 2147483648) : iZ a < iZ b ↔ a < b := by
  rw [Int32.lt_iff_toInt_lt, iZ_t h1 h2, iZ_t h3 h4]
theorem iZ_le {a b : Int} (h1 : -2147483648 ≤ a) (h2 : a < 2147483648) (h3 : -2147483648 ≤ b) (h4 : b < 2147483648) : iZ a ≤ iZ b ↔ a ≤ b := by
  rw [Int32.le_iff_toInt_le, iZ_t h1 h2, iZ_t h3 h4]
theorem iZ_eq {a b : Int} (h1 : -2147483648 ≤ a) (h2 : a < 2147483648) (h3 : -2147483648 ≤ b) (h4 : b < 2147483648) : iZ a = iZ b ↔ a = b := by
  rw [← Int32.toInt_inj, iZ_t h1 h2, iZ_t h3 h4]
theorem sm_max_z {a b : Int} (h1 : -2147483648 ≤ a) (h2 : a < 2147483648) (h3 : -2147483648 ≤ b) (h4 : b < 2147483648) : sm_max (iZ a) (iZ b) = iZ (max a b) := by
  unfold sm_max
  by_cases h : a < b
  · rw [if_pos ((iZ_lt h1 h2 h3 h4).mpr h), Int.max_eq_right (by omega)]
  · rw [if_neg (fun q => h ((iZ_lt h1 h2 h3 h4).mp q)), Int.max_eq_left (by omega)]
theorem sm_min_z {a b : Int} (h1 : -2147483648 ≤ a) (h2 : a < 2147483648) (h3 : -2147483648 ≤ b) (h4 : b < 2147483648) : sm_min (iZ a) (iZ b) = iZ (min a b) := by
  unfold sm_min
  by_cases h : b < a
  · rw [if_pos ((iZ_lt h3 h4 h1 h2).mpr h), Int.min_eq_right (by omega)]
  · rw [if_neg (fun q => h ((iZ_lt h3 h4 h1 h2).mp q)), Int.min_eq_left (by omega)]
theorem n_tb (n : Nat) : (lN n).toBitVec = BitVec.ofNat 64 n := rfl
theorem n_inj {a b : Int64} (h : a.toBitVec = b.toBitVec) : a = b := Int64.toBitVec_inj.mp h
theorem n_tn {n : Nat} (h : n < 2 ^ 64) : (lN n).toBitVec.toNat = n := by rw [n_tb, BitVec.toNat_ofNat, Nat.mod_eq_of_lt h]
theorem n_of (x : Int64) : ∃ n, n < 2 ^ 64 ∧ x = lN n := ⟨x.toBitVec.toNat, x.toBitVec.isLt, n_inj (by rw [n_tb]; simp)⟩
theorem n_cs : ∀ k, k < 64 → ((nI k).toInt64 &&& 63) = lN k := by decide +kernel
theorem n_cu : ∀ k, k < 64 → ((nI k).toInt64.toUInt64 &&& Int64.toUInt64 63) = UInt64.ofNat k := by decide +kernel
theorem n_sm : ∀ k, k < 64 → (BitVec.ofNat 64 k).smod 64 = BitVec.ofNat 64 k := by decide +kernel
theorem n_t {n : Nat} (h : n < 2 ^ 63) : (lN n).toInt = (n : Int) := Int64.toInt_ofNat_of_lt h
theorem n_le {a b : Nat} (ha : a < 2 ^ 63) (hb : b < 2 ^ 63) : lN a ≤ lN b ↔ a ≤ b := by rw [Int64.le_iff_toInt_le, n_t ha, n_t hb]; omega
theorem n_lt {a b : Nat} (ha : a < 2 ^ 63) (hb : b < 2 ^ 63) : lN a < lN b ↔ a < b := by rw [Int64.lt_iff_toInt_lt, n_t ha, n_t hb]; omega
theorem n_eq {a b : Nat} (ha : a < 2 ^ 64) (hb : b < 2 ^ 64) : lN a = lN b ↔ a = b := by
  constructor
  · intro h
    have := congrArg (fun x : Int64 => x.toBitVec.toNat) h
    simpa only [n_tn ha, n_tn hb] using this
  · intro h; rw [h]
theorem n_div {a b : Nat} (ha : a < 2 ^ 63) (hb : b < 2 ^ 63) : lN a / lN b = lN (a / b) := (Int64.ofNat_div ha hb).symm
theorem n_ushr {n k : Nat} (hn : n < 2 ^ 64) (hk : k < 64) : ((lN n).toUInt64 >>> ((iZ (k : Int)).toInt64.toUInt64 &&& Int64.toUInt64 63)).toInt64 = lN (n / 2 ^ k) := by
  rw [← iZ_nI, n_cu k hk]
  apply n_inj
  apply BitVec.eq_of_toNat_eq
  show ((lN n).toUInt64 >>> UInt64.ofNat k).toNat = (BitVec.ofNat 64 _).toNat
  have h1 : (UInt64.ofNat k).toNat = k := by
    show (BitVec.ofNat 64 k).toNat = k
    rw [BitVec.toNat_ofNat, Nat.mod_eq_of_lt (by omega)]
  have h2 : (lN n).toUInt64.toNat = n := n_tn hn
  rw [UInt64.toNat_shiftRight, h1, h2, Nat.mod_eq_of_lt hk, Nat.shiftRight_eq_div_pow, BitVec.toNat_ofNat, Nat.mod_eq_of_lt (Nat.lt_of_le_of_lt (Nat.div_le_self _ _) hn)]
theorem n_shl (n : Nat) {k : Nat} (hk : k < 64) : lN n <<< ((iZ (k : Int)).toInt64 &&& 63) = lN (n * 2 ^ k) := by
  rw [← iZ_nI, n_cs k hk]
  apply n_inj
  rw [Int64.toBitVec_shiftLeft, n_tb, n_tb, n_tb, n_sm k hk]
  apply BitVec.eq_of_toNat_eq
  rw [BitVec.shiftLeft_eq', BitVec.toNat_shiftLeft, BitVec.toNat_ofNat, BitVec.toNat_ofNat, BitVec.toNat_ofNat, Nat.mod_eq_of_lt (show k < 2 ^ 64 by omega), Nat.shiftLeft_eq, Nat.mul_mod, Nat.mod_mod, ← Nat.mul_mod]
theorem n_shr {n k : Nat} (hn : n < 2 ^ 63) (hk : k < 64) : lN n >>> ((iZ (k : Int)).toInt64 &&& 63) = lN (n / 2 ^ k) := by
  rw [← iZ_nI, n_cs k hk]
  have hd : n / 2 ^ k ≤ n := Nat.div_le_self _ _
  apply Int64.toInt_inj.mp
  have e : (lN n >>> lN k).toInt = (lN n).toInt >>> k := by
    have := BitVec.toInt_sshiftRight (x := (lN n).toBitVec) (n := ((lN k).toBitVec.smod 64).toNat)
    rw [n_tb k, n_sm k hk, BitVec.toNat_ofNat, Nat.mod_eq_of_lt (show k < 2 ^ 64 by omega)] at this
    rw [← Int64.toInt_toBitVec, Int64.toBitVec_shiftRight, n_tb k, n_sm k hk]
    rw [BitVec.sshiftRight_eq', BitVec.toNat_ofNat, Nat.mod_eq_of_lt (show k < 2 ^ 64 by omega)]
    exact this
  rw [e, Int.shiftRight_eq_div_pow, n_t hn, n_t (by omega)]
  rfl
theorem n_and {a b : Nat} (ha : a < 2 ^ 64) (hb : b < 2 ^ 64) : lN a &&& lN b = lN (a &&& b) := by
  apply n_inj
  rw [Int64.toBitVec_and, n_tb, n_tb, n_tb]
  apply BitVec.eq_of_toNat_eq
  rw [BitVec.toNat_and, BitVec.toNat_ofNat, BitVec.toNat_ofNat, BitVec.toNat_ofNat, Nat.mod_eq_of_lt ha, Nat.mod_eq_of_lt hb, Nat.mod_eq_of_lt (Nat.and_lt_two_pow _ hb)]
theorem n_or {a b : Nat} (ha : a < 2 ^ 64) (hb : b < 2 ^ 64) : lN a ||| lN b = lN (a ||| b) := by
  apply n_inj
  rw [Int64.toBitVec_or, n_tb, n_tb, n_tb]
  apply BitVec.eq_of_toNat_eq
  rw [BitVec.toNat_or, BitVec.toNat_ofNat, BitVec.toNat_ofNat, BitVec.toNat_ofNat, Nat.mod_eq_of_lt ha, Nat.mod_eq_of_lt hb, Nat.mod_eq_of_lt (Nat.or_lt_two_pow ha hb)]
theorem n_mask {n k : Nat} (hn : n < 2 ^ 64) (hk : k < 64) : lN n &&& lN (2 ^ k - 1) = lN (n % 2 ^ k) := by
  have : 2 ^ k < 2 ^ 64 := Nat.pow_lt_pow_right (by decide) hk
  rw [n_and hn (by omega), Nat.and_two_pow_sub_one_eq_mod]
theorem n_one {n : Nat} (hn : n < 2 ^ 64) : lN n &&& 1 = lN (n % 2) := n_mask (k := 1) hn (by decide)
theorem n_orp {n k : Nat} (h : n < 2 ^ k) (hk : k < 64) : lN n ||| lN (2 ^ k) = lN (n + 2 ^ k) := by
  have : 2 ^ k < 2 ^ 64 := Nat.pow_lt_pow_right (by decide) hk
  rw [n_or (by omega) (by omega), Nat.or_comm, ← Nat.add_comm (2 ^ k) n]
  have := Nat.two_pow_add_eq_or_of_lt h 1
  rw [Nat.mul_one] at this
  rw [this]
theorem or_one (n : Nat) : n ||| 1 = if n % 2 = 0 then n + 1 else n := by
  have h := Nat.two_pow_add_eq_or_of_lt (i := 1) (b := n % 2) (by omega) (n / 2)
  have h2 := Nat.two_pow_add_eq_or_of_lt (i := 1) (b := 1) (by omega) (n / 2)
  rw [show (2 : Nat) ^ 1 = 2 from rfl] at h h2
  have e : 2 * (n / 2) + n % 2 = n := Nat.div_add_mod n 2
  rcases Nat.mod_two_eq_zero_or_one n with q | q
  · rw [if_pos q]
    rw [q, Nat.add_zero] at e
    rw [e] at h2
    exact h2.symm
  · rw [if_neg (by omega)]
    rw [q] at h e
    rw [e] at h
    have : n ||| 1 = (2 * (n / 2) ||| 1) ||| 1 := by rw [← h]
    rw [this, Nat.or_assoc, Nat.or_self, ← h]
theorem n_or1 {n : Nat} (hn : n < 2 ^ 63) : lN n ||| 1 = lN (n ||| 1) := n_or (b := 1) (by omega) (by decide)
theorem lg_mul {m : Nat} (hm : m ≠ 0) (k : Nat) : (m * 2 ^ k).log2 = m.log2 + k := by
  have h0 := Nat.two_pow_pos k
  have hn : m * 2 ^ k ≠ 0 := Nat.mul_ne_zero hm (by omega)
  rw [Nat.log2_eq_iff hn]
  have h1 := Nat.log2_self_le hm
  have h2 := @Nat.lt_log2_self m
  constructor
  · rw [Nat.pow_add]; exact Nat.mul_le_mul_right _ h1
  · rw [show m.log2 + k + 1 = (m.log2 + 1) + k by omega, Nat.pow_add]; exact Nat.mul_lt_mul_of_pos_right h2 h0
theorem lg_div {m k : Nat} (h : 2 ^ k ≤ m) : (m / 2 ^ k).log2 + k = m.log2 := by
  have h0 := Nat.two_pow_pos k
  have hm : m ≠ 0 := by omega
  have hd : m / 2 ^ k ≠ 0 := by
    have := Nat.div_pos h h0
    omega
  have h1 := Nat.log2_self_le hd
  have h2 := @Nat.lt_log2_self (m / 2 ^ k)
  symm
  rw [Nat.log2_eq_iff hm, Nat.pow_add]
  constructor
  · exact Nat.le_trans (Nat.mul_le_mul_right _ h1) (Nat.div_mul_le_self m _)
  · rw [show (m / 2 ^ k).log2 + k + 1 = ((m / 2 ^ k).log2 + 1) + k by omega, Nat.pow_add]
    exact (Nat.div_lt_iff_lt_mul h0).mp h2
theorem lg_b {m k : Nat} (h1 : 2 ^ k ≤ m) (h2 : m < 2 ^ (k + 1)) : m.log2 = k := by
  have : 0 < 2 ^ k := Nat.two_pow_pos k
  exact (Nat.log2_eq_iff (by omega)).mpr ⟨h1, h2⟩
/-! leading zeros -/
theorem u32_shr : ∀ k, k < 32 → ∀ n, n < 2 ^ 31 → ((nI n).toUInt32 >>> (Int32.toUInt32 (nI k) &&& Int32.toUInt32 31)).toInt32 = nI (n / 2 ^ k) := by
  intro k hk n hn
  have hc : ∀ k, k < 32 → (Int32.toUInt32 (nI k) &&& Int32.toUInt32 31) = UInt32.ofNat k := by decide +kernel
  rw [hc k hk]
  apply Int32.toBitVec_inj.mp
  apply BitVec.eq_of_toNat_eq
  show ((nI n).toUInt32 >>> UInt32.ofNat k).toNat = (BitVec.ofNat 32 _).toNat
  have h1 : (UInt32.ofNat k).toNat = k := by
    show (BitVec.ofNat 32 k).toNat = k
    rw [BitVec.toNat_ofNat, Nat.mod_eq_of_lt (by omega)]
  have h2 : (nI n).toUInt32.toNat = n := by
    show (BitVec.ofNat 32 n).toNat = n
    rw [BitVec.toNat_ofNat, Nat.mod_eq_of_lt (by omega)]
  have h3 : n / 2 ^ k ≤ n := Nat.div_le_self _ _
  rw [UInt32.toNat_shiftRight, h1, h2, Nat.mod_eq_of_lt hk, Nat.shiftRight_eq_div_pow, BitVec.toNat_ofNat, Nat.mod_eq_of_lt (by omega)]
theorem nI_ltz {a b : Nat} (ha : a < 2 ^ 31) (hb : b < 2 ^ 31) : nI a < nI b ↔ a < b := nI_ltI ha hb
theorem clz_73 {v : Nat} (h0 : 0 < v) (h : v < 4) (c : Int) : f_J6_numberOfLeadingZeros_0f7a4_73 (nI v) (iZ c) = iZ (c - v.log2) := by
  unfold f_J6_numberOfLeadingZeros_0f7a4_73
  rw [show (1 : Int32) = nI 1 from rfl, u32_shr 1 (by decide) v (by omega), iZ_nI, iZ_sub]
  have : v / 2 ^ 1 = v.log2 := by
    have : v = 1 ∨ v = 2 ∨ v = 3 := by omega
    rcases this with rfl | rfl | rfl <;> decide
  rw [this]
theorem clz_61 {v : Nat} (h0 : 0 < v) (h : v < 16) (c : Int) : f_J6_numberOfLeadingZeros_0f7a4_61 (nI v) (iZ c) = iZ (c - v.log2) := by
  dsimp only [f_J6_numberOfLeadingZeros_0f7a4_61, sm_let]
  by_cases q : v < 4
  · rw [if_pos (show nI v < (4 : Int32) from (nI_ltz (b := 4) (by omega) (by decide)).mpr q), clz_73 h0 q]
  · rw [if_neg (show ¬ nI v < (4 : Int32) from fun k => q ((nI_ltz (b := 4) (by omega) (by decide)).mp k)), show (-2 : Int32) = iZ (-2) from rfl, show (2 : Int32) = nI 2 from rfl, u32_shr 2 (by decide) v (by omega), iZ_add]
    have e := lg_div (m := v) (k := 2) (by omega)
    rw [clz_73 (by omega) (by omega), ← e]
    congr 1
    omega
theorem clz_48 {v : Nat} (h0 : 0 < v) (h : v < 256) (c : Int) : f_J6_numberOfLeadingZeros_0f7a4_48 (nI v) (iZ c) = iZ (c - v.log2) := by
  dsimp only [f_J6_numberOfLeadingZeros_0f7a4_48, sm_let]
  by_cases q : v < 16
  · rw [if_pos (show nI v < (16 : Int32) from (nI_ltz (b := 16) (by omega) (by decide)).mpr q), clz_61 h0 q]
  · rw [if_neg (show ¬ nI v < (16 : Int32) from fun k => q ((nI_ltz (b := 16) (by omega) (by decide)).mp k)), show (-4 : Int32) = iZ (-4) from rfl, show (4 : Int32) = nI 4 from rfl, u32_shr 4 (by decide) v (by omega), iZ_add]
    have e := lg_div (m := v) (k := 4) (by omega)
    rw [clz_61 (by omega) (by omega), ← e]
    congr 1
    omega
theorem clz_33 {v : Nat} (h0 : 0 < v) (h : v < 65536) (c : Int) : f_J6_numberOfLeadingZeros_0f7a4_33 (nI v) (iZ c) = iZ (c - v.log2) := by
  dsimp only [f_J6_numberOfLeadingZeros_0f7a4_33, sm_let]
  by_cases q : v < 256
  · rw [if_pos (show nI v < (256 : Int32) from (nI_ltz (b := 256) (by omega) (by decide)).mpr q), clz_48 h0 q]
  · rw [if_neg (show ¬ nI v < (256 : Int32) from fun k => q ((nI_ltz (b := 256) (by omega) (by decide)).mp k)), show (-8 : Int32) = iZ (-8) from rfl, show (8 : Int32) = nI 8 from rfl, u32_shr 8 (by decide) v (by omega), iZ_add]
    have e := lg_div (m := v) (k := 8) (by omega)
    rw [clz_48 (by omega) (by omega), ← e]
    congr 1
    omega
theorem clz_32 {v : Nat} (h0 : 0 < v) (h : v < 2 ^ 32) : f_J6_numberOfLeadingZeros_0f7a4 (nI v) = iZ (31 - v.log2) := by
  dsimp only [f_J6_numberOfLeadingZeros_0f7a4, sm_let]
  by_cases g : v < 2 ^ 31
  · rw [if_pos (show (0 : Int32) < nI v from (nI_ltz (a := 0) (by decide) g).mpr h0)]
    by_cases q : v < 65536
    · rw [if_pos (show nI v < (65536 : Int32) from (nI_ltz (b := 65536) (by omega) (by decide)).mpr q), show (31 : Int32) = iZ 31 from rfl, clz_33 h0 q]
    · rw [if_neg (show ¬ nI v < (65536 : Int32) from fun k => q ((nI_ltz (b := 65536) (by omega) (by decide)).mp k)), show (31 + -16 : Int32) = iZ 15 from rfl, show (16 : Int32) = nI 16 from rfl, u32_shr 16 (by decide) v (by omega)]
      have e := lg_div (m := v) (k := 16) (by omega)
      rw [clz_33 (by omega) (by omega), ← e]
      congr 1
      omega
  · have e : v.log2 = 31 := lg_b (by omega) (by omega)
    have t : (nI v).toInt = (v : Int) - 2 ^ 32 := by
      have c := BitVec.toInt_eq_toNat_cond (nI v).toBitVec
      have d : (nI v).toBitVec.toNat = v := by
        show (BitVec.ofNat 32 v).toNat = v
        rw [BitVec.toNat_ofNat, Nat.mod_eq_of_lt h]
      rw [d] at c
      show (nI v).toBitVec.toInt = _
      rw [c]
      split <;> omega
    have t0 : (0 : Int32).toInt = 0 := rfl
    rw [if_neg (by rw [Int32.lt_iff_toInt_lt, t, t0]; omega), if_neg (by rw [← Int32.toInt_inj, t, t0]; omega), e]
    rfl
theorem clz_64 {m : Nat} (h0 : 0 < m) (h : m < 2 ^ 64) : f_J13_numberOfLeadingZeros_95d88 (lN m) = iZ (63 - m.log2) := by
  dsimp only [f_J13_numberOfLeadingZeros_95d88, sm_let]
  have e1 := n_ushr (n := m) (k := 32) h (by decide)
  rw [show ((32 : Nat) : Int) = 32 from rfl, show iZ 32 = (32 : Int32) from rfl] at e1
  rw [e1, lN_i]
  have hz : ∀ n, n < 2 ^ 32 → (nI n = 0 ↔ n = 0) := by
    intro n hn
    constructor
    · intro q
      have := congrArg (fun x : Int32 => x.toBitVec.toNat) q
      have d : (nI n).toBitVec.toNat = n := by
        show (BitVec.ofNat 32 n).toNat = n
        rw [BitVec.toNat_ofNat, Nat.mod_eq_of_lt hn]
      simp only [d] at this
      exact this
    · rintro rfl; rfl
  by_cases q : m / 2 ^ 32 = 0
  · rw [if_pos ((hz _ (by omega)).mpr q), lN_i, clz_32 h0 (by omega), show (32 : Int32) = iZ 32 from rfl, iZ_add]
    congr 1
    omega
  · rw [if_neg (fun k => q ((hz _ (by omega)).mp k)), clz_32 (by omega) (by omega)]
    have e := lg_div (m := m) (k := 32) (by omega)
    rw [← e]
    congr 1
    omega
/-! the reference's length -/
theorem len_5 : ∀ (n : Nat) (c : Int) (m : Nat), m < 2 ^ 63 → m < n → f_X6_lengthOf_5 n (iZ c) (lN m) = iZ (c + if m = 0 then 0 else m.log2 + 1) := by
  intro n
  induction n with
  | zero => intro c m _ h; omega
  | succ n ih =>
    intro c m hm h
    rw [f_X6_lengthOf_5]
    dsimp only [sm_let]
    by_cases q : m = 0
    · subst q
      rw [if_pos (show lN 0 ≤ 0 by decide), if_pos rfl]
      congr 1
      omega
    · rw [if_neg (fun k => by have := (n_le (b := 0) hm (by decide)).mp k; omega)]
      have e1 := n_shr (n := m) (k := 1) hm (by decide)
      rw [show ((1 : Nat) : Int) = 1 from rfl, show iZ 1 = (1 : Int32) from rfl] at e1
      rw [e1, show (1 : Int32) = iZ 1 from rfl, iZ_add, ih _ _ (by omega) (by omega), if_neg q]
      congr 1
      by_cases r : m / 2 ^ 1 = 0
      · have : m = 1 := by omega
        subst this
        rw [if_pos r]
        have : Nat.log2 1 = 0 := by decide
        omega
      · rw [if_neg r]
        have e := lg_div (m := m) (k := 1) (by omega)
        omega
theorem len_z {m : Nat} (h0 : 0 < m) (hm : m < 2 ^ 63) : f_X6_lengthOf (lN m) = iZ (m.log2 + 1) := by
  unfold f_X6_lengthOf
  rw [n_t hm, Int.toNat_natCast, show (0 : Int32) = iZ 0 from rfl, len_5 _ _ _ hm (by omega), if_neg (by omega), Int.zero_add]
  congr 1
