/-! a number with a point, by its sign and its other bits -/
def fB (i : Nat) : Nat := if i = 0 then 31 else 63
def pS (i : Nat) : Nat := if i = 0 then 2 ^ 33 - 1 else 1
def mkf (i : Nat) (g : Bool) (n : Nat) : Int64 := if g = true then lN (2 ^ fB i * pS i + n) else lN n
def sgI (g : Bool) : Int32 := if g = true then 1 else 0
def pIn (i : Nat) : Nat := pM i * 2 ^ pF i
theorem fB_b (i : Nat) : (i = 0 ∧ fB i = 31 ∧ pS i = 2 ^ 33 - 1 ∧ pF i = 23 ∧ pL i = -149 ∧ pM i = 255 ∧ pIn i = 2139095040) ∨ (¬ i = 0 ∧ fB i = 63 ∧ pS i = 1 ∧ pF i = 52 ∧ pL i = -1074 ∧ pM i = 2047 ∧ pIn i = 9218868437227405312) := by
  by_cases c : i = 0
  · exact Or.inl ⟨c, if_pos c, if_pos c, if_pos c, if_pos c, if_pos c, by unfold pIn pM pF; rw [if_pos c, if_pos c]⟩
  · exact Or.inr ⟨c, if_neg c, if_neg c, if_neg c, if_neg c, if_neg c, by unfold pIn pM pF; rw [if_neg c, if_neg c]⟩
theorem kSi_n (i : Nat) : kSi i = lN (2 ^ fB i * pS i) := by unfold kSi fB pS; split <;> decide
theorem kNsi_n (i : Nat) : kSi i ^^^ (-1) = lN (2 ^ fB i - 1) := by unfold kSi fB; split <;> decide
theorem kIn_p (i : Nat) : kIn i = lN (pIn i) := kIn_n i
theorem fB_lt (i : Nat) : 2 ^ fB i = (pM i + 1) * 2 ^ pF i ∧ 2 ^ fB i ≤ 2 ^ 63 ∧ 2 ^ fB i * pS i + 2 ^ fB i = 2 ^ 64 ∧ pIn i < 2 ^ fB i ∧ 2 ^ 31 ≤ 2 ^ fB i := by
  rcases fB_b i with ⟨_, h1, h2, h3, h4, h5, h6⟩ | ⟨_, h1, h2, h3, h4, h5, h6⟩ <;> rw [h1, h2, h3, h5, h6] <;> decide
theorem and_lo {n k m : Nat} (h : n < 2 ^ k) : n &&& (2 ^ k * m) = 0 := by
  apply Nat.eq_of_testBit_eq
  intro j
  rw [Nat.testBit_and, Nat.testBit_two_pow_mul, Nat.zero_testBit]
  by_cases c : j < k
  · simp [show ¬ k ≤ j by omega]
  · rw [Nat.testBit_lt_two_pow (Nat.lt_of_lt_of_le h (Nat.pow_le_pow_right (by decide) (by omega)))]
    simp
theorem and_hi {n k m : Nat} (h : n < 2 ^ k) : (2 ^ k * m + n) &&& (2 ^ k * m) = 2 ^ k * m := by
  apply Nat.eq_of_testBit_eq
  intro j
  rw [Nat.testBit_and, Nat.testBit_two_pow_mul, Nat.testBit_two_pow_mul_add m h]
  by_cases c : j < k
  · simp [show ¬ k ≤ j by omega]
  · rw [if_neg c]
    simp
theorem xor_lo {n k m : Nat} (h : n < 2 ^ k) : n ^^^ (2 ^ k * m) = 2 ^ k * m + n := by
  apply Nat.eq_of_testBit_eq
  intro j
  rw [Nat.testBit_xor, Nat.testBit_two_pow_mul, Nat.testBit_two_pow_mul_add m h]
  by_cases c : j < k
  · simp [c, show ¬ k ≤ j by omega]
  · rw [if_neg c, Nat.testBit_lt_two_pow (Nat.lt_of_lt_of_le h (Nat.pow_le_pow_right (by decide) (by omega)))]
    simp [show k ≤ j by omega]
theorem xor_hi {n k m : Nat} (h : n < 2 ^ k) : (2 ^ k * m + n) ^^^ (2 ^ k * m) = n := by
  rw [← xor_lo h, Nat.xor_assoc, Nat.xor_self, Nat.xor_zero]
theorem n_xor {a b : Nat} (ha : a < 2 ^ 64) (hb : b < 2 ^ 64) : lN a ^^^ lN b = lN (a ^^^ b) := by
  apply n_inj
  rw [Int64.toBitVec_xor, n_tb, n_tb, n_tb]
  apply BitVec.eq_of_toNat_eq
  rw [BitVec.toNat_xor, BitVec.toNat_ofNat, BitVec.toNat_ofNat, BitVec.toNat_ofNat, Nat.mod_eq_of_lt ha, Nat.mod_eq_of_lt hb, Nat.mod_eq_of_lt (Nat.xor_lt_two_pow ha hb)]
theorem mkf_t {i n : Nat} {g : Bool} (hn : n < 2 ^ fB i) : (mkf i g n).toInt = if g = true then (n : Int) - 2 ^ fB i else n := by
  have hb := fB_lt i
  unfold mkf
  cases g
  · exact n_t (by omega)
  · rw [if_pos rfl, if_pos rfl]
    have c := BitVec.toInt_eq_toNat_cond (lN (2 ^ fB i * pS i + n)).toBitVec
    rw [n_tn (by omega)] at c
    show (lN (2 ^ fB i * pS i + n)).toBitVec.toInt = _
    rw [c, if_neg (by rcases fB_b i with ⟨_, h1, h2, _⟩ | ⟨_, h1, h2, _⟩ <;> rw [h1, h2] <;> omega)]
    have : ((2 ^ fB i : Nat) : Int) = (2 : Int) ^ fB i := by simp
    rw [← this]
    omega
theorem mkf_pos {i n : Nat} {g : Bool} (hn : n < 2 ^ fB i) : (0 : Int64) ≤ mkf i g n ↔ g = false := by
  rw [Int64.le_iff_toInt_le, mkf_t hn, show (0 : Int64).toInt = 0 from rfl]
  have : ((2 ^ fB i : Nat) : Int) = (2 : Int) ^ fB i := by simp
  cases g
  · simp
  · rw [if_pos rfl, ← this]
    simp
    omega
theorem x_mag {i n : Nat} {g : Bool} (hn : n < 2 ^ fB i) : f_X1_magnitude i (mkf i g n) = lN n := by
  have hb := fB_lt i
  have hf := fB_b i
  unfold f_X1_magnitude mkf
  rw [kNsi_n]
  cases g
  · rw [if_neg (by decide), n_mask (by omega) (by omega), Nat.mod_eq_of_lt hn]
  · rw [if_pos rfl, n_mask (by omega) (by omega), Nat.mul_add_mod, Nat.mod_eq_of_lt hn]
theorem x_neg {i n : Nat} {g : Bool} (hn : n < 2 ^ fB i) : f_X1_isNegative i (mkf i g n) = sgI g := by
  have hb := fB_lt i
  have hf := fB_b i
  unfold f_X1_isNegative mkf sgI
  rw [kSi_n]
  cases g
  · rw [if_neg (show ¬ false = true by decide), n_and (by omega) (by omega), and_lo hn, if_pos (show lN 0 = 0 from rfl), if_neg (show ¬ false = true by decide)]
  · rw [if_pos rfl, n_and (by omega) (by omega), and_hi hn, if_pos rfl, if_neg]
    intro k
    have := (n_eq (b := 0) (by omega) (by decide)).mp k
    rcases hf with ⟨_, h1, h2, _⟩ | ⟨_, h1, h2, _⟩ <;> rw [h1, h2] at this <;> omega
theorem x_xor {i n : Nat} {g : Bool} (hn : n < 2 ^ fB i) : mkf i g n ^^^ kSi i = mkf i (!g) n := by
  have hb := fB_lt i
  unfold mkf
  rw [kSi_n]
  cases g
  · rw [if_neg (by decide), n_xor (by omega) (by omega), xor_lo hn, if_pos (by decide)]
  · rw [if_pos rfl, n_xor (by omega) (by omega), xor_hi hn, if_neg (by decide)]
theorem x_sig {i n : Nat} {neg : Int32} (hn : n < 2 ^ fB i) : f_X1_signed i neg (lN n) = mkf i (decide (neg ≠ 0)) n := by
  have hb := fB_lt i
  unfold f_X1_signed mkf
  by_cases c : neg = 0
  · rw [if_pos c, if_neg (by simp [c])]
  · rw [if_neg c, if_pos (by simp [c]), kSi_n, n_or (by omega) (by omega), Nat.or_comm, ← Nat.two_pow_add_eq_or_of_lt hn]
theorem m_sig {i n : Nat} {neg : Int32} (hn : n < 2 ^ fB i) : f_X6_signed (wI i) neg (lN n) = mkf i (decide (neg ≠ 0)) n := by
  rw [← x_sig hn]
  unfold f_X1_signed f_X6_signed wI kSi
  by_cases c : i = 0
  · simp only [if_pos c, if_true]
    by_cases d : neg = 0
    · rw [if_pos d, if_pos d]
    · rw [if_neg d, if_neg d]
      have hn : n < 2 ^ 31 := by
        unfold fB at hn
        rw [if_pos c] at hn
        exact hn
      rw [show (-2147483648 : Int64) = lN (2 ^ 31 * (2 ^ 33 - 1)) from by decide, show (2147483648 : Int64) = lN (2 ^ 31 * 1) from by decide, n_or (by omega) (by decide), n_or (by omega) (by decide), Nat.or_comm, ← Nat.two_pow_add_eq_or_of_lt hn, Nat.or_comm, ← Nat.two_pow_add_eq_or_of_lt hn, lN_i]
      apply Int64.toInt_inj.mp
      rw [Int32.toInt_toInt64]
      have a : (lN (2 ^ 31 * (2 ^ 33 - 1) + n)).toInt = (n : Int) - 2 ^ 31 := by
        have c := BitVec.toInt_eq_toNat_cond (lN (2 ^ 31 * (2 ^ 33 - 1) + n)).toBitVec
        rw [n_tn (by omega)] at c
        show (lN (2 ^ 31 * (2 ^ 33 - 1) + n)).toBitVec.toInt = _
        rw [c]
        split <;> omega
      have b : (nI (2 ^ 31 * 1 + n)).toInt = (n : Int) - 2 ^ 31 := by
        have c := BitVec.toInt_eq_toNat_cond (nI (2 ^ 31 * 1 + n)).toBitVec
        have d : (nI (2 ^ 31 * 1 + n)).toBitVec.toNat = 2 ^ 31 * 1 + n := by
          show (BitVec.ofNat 32 (2 ^ 31 * 1 + n)).toNat = _
          rw [BitVec.toNat_ofNat, Nat.mod_eq_of_lt (by omega)]
        rw [d] at c
        show (nI (2 ^ 31 * 1 + n)).toBitVec.toInt = _
        rw [c]
        split <;> omega
      rw [a, b]
  · simp only [if_neg c]
    rw [if_neg (show ¬ (1 : Int32) = 0 by decide)]
theorem x_nan {i n : Nat} {g : Bool} (hn : n < 2 ^ fB i) : f_X1_isNan i (mkf i g n) = if n ≤ pIn i then 0 else 1 := by
  have hb := fB_lt i
  unfold f_X1_isNan
  rw [x_mag hn, kIn_p]
  by_cases c : n ≤ pIn i
  · rw [if_pos c, if_pos ((n_le (by omega) (by omega)).mpr c)]
  · rw [if_neg c, if_neg (fun k => c ((n_le (by omega) (by omega)).mp k))]
theorem x_inf {i n : Nat} {g : Bool} (hn : n < 2 ^ fB i) : f_X1_isInfinite i (mkf i g n) = if n = pIn i then 1 else 0 := by
  have hb := fB_lt i
  unfold f_X1_isInfinite
  rw [x_mag hn, kIn_p]
  by_cases c : n = pIn i
  · rw [if_pos c, if_pos (by rw [c])]
  · rw [if_neg c, if_neg (fun k => c ((n_eq (by omega) (by omega)).mp k))]
theorem x_zero {i n : Nat} {g : Bool} (hn : n < 2 ^ fB i) : f_X1_isZero i (mkf i g n) = if n = 0 then 1 else 0 := by
  have hb := fB_lt i
  unfold f_X1_isZero
  rw [x_mag hn]
  by_cases c : n = 0
  · rw [if_pos c, if_pos (by rw [c]; rfl)]
  · rw [if_neg c, if_neg (show ¬ lN n = 0 from fun k => c ((n_eq (b := 0) (by omega) (by decide)).mp k))]
theorem mkf_eq {i n m : Nat} {g h : Bool} (hn : n < 2 ^ fB i) (hm : m < 2 ^ fB i) : mkf i g n = mkf i h m ↔ g = h ∧ n = m := by
  constructor
  · intro k
    have p1 := mkf_pos (g := g) hn
    have p2 := mkf_pos (g := h) hm
    have q := congrArg Int64.toInt k
    rw [mkf_t hn, mkf_t hm] at q
    rw [k] at p1
    have gh : g = h := by
      cases g <;> cases h <;> simp_all
    refine ⟨gh, ?_⟩
    subst gh
    cases g
    · simp at q
      omega
    · simp at q
      omega
  · rintro ⟨rfl, rfl⟩; rfl
/-- what is told of a finite number -/
def uM (i n : Nat) : Nat := if n / 2 ^ pF i = 0 then n else n % 2 ^ pF i + 2 ^ pF i
def uE (i n : Nat) : Int := if n / 2 ^ pF i = 0 then pL i else pL i + ((n / 2 ^ pF i : Nat) - 1)
def sG (i n : Nat) : Nat := uM i n * 2 ^ (52 - (uM i n).log2)
def eP (i n : Nat) : Int := uE i n - (52 - (uM i n).log2 : Nat)
theorem uM_b {i n : Nat} (h0 : 0 < n) (hn : n < pIn i) : 0 < uM i n ∧ uM i n < 2 ^ (pF i + 1) ∧ (uM i n).log2 ≤ pF i ∧ pF i ≤ 52 ∧ n / 2 ^ pF i < pM i := by
  have hp := Nat.two_pow_pos (pF i)
  have hm := Nat.mod_lt n hp
  have h1 : 0 < uM i n ∧ uM i n < 2 ^ (pF i + 1) := by
    unfold uM
    rw [Nat.pow_succ]
    by_cases c : n / 2 ^ pF i = 0
    · rw [if_pos c]
      have := Nat.lt_of_div_eq_zero hp c
      omega
    · rw [if_neg c]
      omega
  have h2 : (uM i n).log2 < pF i + 1 := (Nat.log2_lt (by omega)).mpr h1.2
  have h3 : n / 2 ^ pF i < pM i := (Nat.div_lt_iff_lt_mul hp).mpr hn
  have hf := pF_b i
  omega
theorem sG_b {i n : Nat} (h0 : 0 < n) (hn : n < pIn i) : 2 ^ 52 ≤ sG i n ∧ sG i n < 2 ^ 53 ∧ (sG i n).log2 = 52 ∧ -1200 ≤ eP i n ∧ eP i n ≤ 1000 := by
  have hu := uM_b h0 hn
  have hl := lg_mul (m := uM i n) (by omega) (52 - (uM i n).log2)
  have hz : sG i n ≠ 0 := Nat.mul_ne_zero (by omega) (by have := Nat.two_pow_pos (52 - (uM i n).log2); omega)
  have hl2 : (sG i n).log2 = 52 := by
    show (uM i n * 2 ^ (52 - (uM i n).log2)).log2 = 52
    omega
  have h1 := (Nat.log2_eq_iff hz).mp hl2
  have he : eP i n = uE i n - (52 - (uM i n).log2 : Nat) := rfl
  have hE : uE i n = if n / 2 ^ pF i = 0 then pL i else pL i + ((n / 2 ^ pF i : Nat) - 1) := rfl
  have hf := pF_b i
  refine ⟨h1.1, h1.2, hl2, ?_⟩
  have hu4 := hu.2.2.2.2
  have hu3 := hu.2.2.1
  clear hl hu
  generalize n / 2 ^ pF i = F at hE hu4
  split at hE <;> omega
theorem x_uns {i n : Nat} {g : Bool} (hn : n < 2 ^ fB i) : f_X1_unscaled i (mkf i g n) = lN (uM i n) := by
  have hb := fB_lt i
  have hf := fB_b i
  have hp := Nat.two_pow_pos (pF i)
  have hp2 : 2 ^ pF i ≤ 2 ^ 52 := Nat.pow_le_pow_right (by decide) (by omega)
  unfold f_X1_unscaled
  simp only [sm_le]
  have h1 : (1 : Int64) <<< ((kFr i).toInt64 &&& 63) = lN (2 ^ pF i) := by
    rw [kFr_z]
    have := n_shl 1 (k := pF i) (by omega)
    rw [Nat.one_mul] at this
    exact this
  have h2 : lN (2 ^ pF i) - 1 = lN (2 ^ pF i - 1) := lN_sub (b := 1) (by omega)
  have h3 : mkf i g n &&& lN (2 ^ pF i - 1) = lN (n % 2 ^ pF i) := by
    unfold mkf
    cases g
    · rw [if_neg (by decide), n_mask (by omega) (by omega)]
    · rw [if_pos rfl, n_mask (by omega) (by omega)]
      congr 1
      have : 2 ^ fB i = 2 ^ pF i * 2 ^ (fB i - pF i) := by rw [← Nat.pow_add]; congr 1; omega
      rw [this, Nat.mul_assoc, Nat.mul_add_mod]
  rw [h1, h2, h3, x_mag hn]
  have hm := Nat.mod_lt n hp
  unfold uM
  by_cases c : n / 2 ^ pF i = 0
  · have := Nat.lt_of_div_eq_zero hp c
    rw [if_pos c, if_neg (fun k => by have := (n_le (by omega) (by omega)).mp k; omega), Nat.mod_eq_of_lt this]
  · have : 2 ^ pF i ≤ n := by
      apply Nat.le_of_not_lt
      intro q
      exact c (Nat.div_eq_of_lt q)
    rw [if_neg c, if_pos ((n_le (by omega) (by omega)).mpr this), n_orp hm (by omega)]
theorem x_pup {u : Nat} (h0 : 0 < u) (h : u.log2 ≤ 52) : f_X1_placesUp (lN u) = iZ ((52 - u.log2 : Nat) : Int) := by
  have hu : u < 2 ^ 53 := (Nat.log2_lt (by omega)).mp (by omega)
  unfold f_X1_placesUp
  rw [clz_64 h0 (by omega), show (11 : Int32) = iZ 11 from rfl, iZ_sub, show (0 : Int32) = iZ 0 from rfl, sm_max_z (by omega) (by omega) (by omega) (by omega)]
  congr 1
  omega
theorem x_exp {i n : Nat} {g : Bool} (h0 : 0 < n) (hn : n < pIn i) : f_X1_exponent i (mkf i g n) = iZ (eP i n) := by
  have hb := fB_lt i
  have hu := uM_b h0 hn
  have hf := pF_b i
  have hp := Nat.two_pow_pos (pF i)
  unfold f_X1_exponent
  rw [x_mag (by omega), x_uns (by omega), kFr_z, n_ushr (by omega) (by omega), lN_i, iZ_nI, x_pup hu.1 (by omega), kLe_z]
  simp only [sm_le]
  unfold eP uE
  have hu4 := hu.2.2.2.2
  have hu3 := hu.2.2.1
  clear hu
  generalize n / 2 ^ pF i = F at hu4 ⊢
  rw [show (1 : Int32) = iZ 1 from rfl, iZ_sub, show (0 : Int32) = iZ 0 from rfl, sm_max_z (by omega) (by omega) (by omega) (by omega), iZ_add, iZ_sub]
  congr 1
  split <;> omega
theorem x_sgn {i n : Nat} {g : Bool} (h0 : 0 < n) (hn : n < pIn i) : f_X1_significand i (mkf i g n) = lN (sG i n) := by
  have hb := fB_lt i
  have hu := uM_b h0 hn
  unfold f_X1_significand
  rw [x_uns (by omega)]
  simp only [sm_le]
  rw [x_pup hu.1 (by omega), n_shl _ (by omega)]
  rfl
/-! the reference's parts -/
def fS (i n : Nat) : Int32 := if pIn i < n then 3 else if n = pIn i then 2 else if n = 0 then 0 else 1
def tk (σ : sm_S) (k : Nat) (s g : Int32) (p : Int64) (q : Int32) : sm_S := uI (uL (uI (uI σ 17 k g) 15 k s) 18 k p) 16 k q
theorem take_eq {i n : Nat} {g : Bool} (σ : sm_S) (k : Int32) (hn : n < 2 ^ fB i) : f_X6_take σ k (mkf i g n) (wI i) = tk σ k.toNatClampNeg (fS i n) (sgI g) (lN (uM i n)) (iZ (uE i n)) := by
  have hb := fB_lt i
  have hf := fB_b i
  have hp := Nat.two_pow_pos (pF i)
  have hp2 : 2 ^ pF i ≤ 2 ^ 52 := Nat.pow_le_pow_right (by decide) (by omega)
  have hpm : iZ (pF i + 1) - 1 = iZ (pF i : Int) := by
    rw [show (1 : Int32) = iZ 1 from rfl, iZ_sub]
    congr 1
    omega
  have hmod : ∀ g, (if g = true then lN (2 ^ fB i * pS i + n) else lN n) &&& lN (2 ^ fB i - 1) = lN n := by
    intro g
    cases g
    · rw [if_neg (by decide), n_mask (by omega) (by omega), Nat.mod_eq_of_lt hn]
    · rw [if_pos rfl, n_mask (by omega) (by omega), Nat.mul_add_mod, Nat.mod_eq_of_lt hn]
  have h28 : f_X6_take σ k (mkf i g n) (wI i) = f_X6_take_28 k (mkf i g n) (wI i) (iZ (pF i : Int)) σ (lN n) := by
    unfold f_X6_take
    rw [pl_z, hpm]
    simp only [sm_le]
    have hw : wI i = 0 ↔ i = 0 := by
      unfold wI
      by_cases c : i = 0
      · simp [c]
      · simp [c]
    by_cases c : i = 0
    · rw [if_pos (hw.mpr c)]
      congr 1
      have := hmod g
      rw [show fB i = 31 from if_pos c] at this
      unfold mkf
      rw [show fB i = 31 from if_pos c]
      exact this
    · rw [if_neg (fun q => c (hw.mp q))]
      congr 1
      have := hmod g
      rw [show fB i = 63 from if_neg c] at this
      unfold mkf
      rw [show fB i = 63 from if_neg c]
      exact this
  rw [h28]
  have h1 : (1 : Int64) <<< ((iZ (pF i : Int)).toInt64 &&& 63) = lN (2 ^ pF i) := by
    have := n_shl 1 (k := pF i) (by omega)
    rw [Nat.one_mul] at this
    exact this
  have h2 : lN (2 ^ pF i) - 1 = lN (2 ^ pF i - 1) := lN_sub (b := 1) (by omega)
  have hm := Nat.mod_lt n hp
  unfold f_X6_take_28
  rw [h1, h2, n_mask (by omega) (by omega), n_shr (by omega) (by omega), lN_i]
  simp only [sm_le]
  have h65 : ∀ t, f_X6_take_65 k (nI (n / 2 ^ pF i)) (wI i) (iZ (pF i : Int)) (lN n) (lN (n % 2 ^ pF i)) σ t = tk σ k.toNatClampNeg (fS i n) (vp_nar .boolean t) (lN (uM i n)) (iZ (uE i n)) := by
    intro t
    have hdm := Nat.div_add_mod n (2 ^ pF i)
    have hfd : n / 2 ^ pF i ≤ pM i := by
      have : n / 2 ^ pF i < pM i + 1 := (Nat.div_lt_iff_lt_mul hp).mpr (by omega)
      omega
    have h87 : f_X6_take_65 k (nI (n / 2 ^ pF i)) (wI i) (iZ (pF i : Int)) (lN n) (lN (n % 2 ^ pF i)) σ t = f_X6_take_87 k (nI (n / 2 ^ pF i)) (wI i) (iZ (pF i : Int)) (lN n) (lN (n % 2 ^ pF i)) (uI σ 17 k.toNatClampNeg (vp_nar .boolean t)) (nI (pM i)) := by
      unfold f_X6_take_65
      by_cases c : i = 0
      · rw [show wI i = 0 from if_pos c, if_pos rfl, show pM i = 255 from if_pos c]
        rfl
      · rw [show wI i = 1 from if_neg c, if_neg (by decide), show pM i = 2047 from if_neg c]
        rfl
    have h117 : ∀ (τ : sm_S) s, f_X6_take_117 k (nI (n / 2 ^ pF i)) (wI i) (iZ (pF i : Int)) (lN (n % 2 ^ pF i)) τ s = uI (uL (uI τ 15 k.toNatClampNeg s) 18 k.toNatClampNeg (lN (uM i n))) 16 k.toNatClampNeg (iZ (uE i n)) := by
      intro τ s
      unfold f_X6_take_117 f_X6_take_140 uM uE
      rw [h1, le_z]
      by_cases c : n / 2 ^ pF i = 0
      · have := Nat.lt_of_div_eq_zero hp c
        rw [if_pos c, if_pos c, c, if_pos (show nI 0 = 0 from rfl), if_pos (show nI 0 = 0 from rfl), show (0 : Int32) = iZ 0 from rfl, iZ_add, Int.add_zero, Nat.mod_eq_of_lt this]
      · have hz : ¬ nI (n / 2 ^ pF i) = 0 := fun q => c ((nI_eq (b := 0) (by omega) (by decide)).mp q)
        rw [if_neg c, if_neg c, if_neg hz, if_neg hz, n_orp hm (by omega), iZ_nI, show (1 : Int32) = iZ 1 from rfl, iZ_sub, iZ_add]
    rw [h87]
    unfold f_X6_take_87 fS tk
    rw [h117, h117, h117, h117]
    have hin : pIn i = 2 ^ pF i * pM i := Nat.mul_comm _ _
    by_cases c : n / 2 ^ pF i = pM i
    · rw [if_pos (by rw [c])]
      rw [c] at hdm
      by_cases d : n % 2 ^ pF i = 0
      · rw [if_pos (show lN (n % 2 ^ pF i) = 0 by rw [d]; rfl), if_neg (by omega), if_pos (by omega)]
      · rw [if_neg (show ¬ lN (n % 2 ^ pF i) = 0 from fun q => d ((n_eq (b := 0) (by omega) (by decide)).mp q)), if_pos (by omega)]
    · have hlt : n < pIn i := (Nat.div_lt_iff_lt_mul hp).mp (by omega : n / 2 ^ pF i < pM i)
      rw [if_neg (fun q => c ((nI_eq (by omega) (by omega)).mp q)), if_neg (show ¬ pIn i < n by omega), if_neg (show ¬ n = pIn i by omega)]
      by_cases d : n = 0
      · rw [if_pos (show lN n = 0 by rw [d]; rfl), if_pos d]
      · rw [if_neg (show ¬ lN n = 0 from fun q => d ((n_eq (b := 0) (by omega) (by decide)).mp q)), if_neg d]
  rw [h65, h65]
  by_cases c : g = false
  · rw [if_pos ((mkf_pos hn).mpr c), c]
    rfl
  · rw [if_neg (fun q => c ((mkf_pos hn).mp q))]
    cases g
    · exact absurd rfl c
    · rfl
/-! what the reference keeps while it works -/
def sq (σ τ : sm_S) : Prop := (∀ k, k ≠ 15 → k ≠ 16 → k ≠ 17 → σ.1 k = τ.1 k) ∧ (∀ k, k ≠ 18 → σ.2.1 k = τ.2.1 k) ∧ σ.2.2 = τ.2.2
theorem sq.rf (σ : sm_S) : sq σ σ := ⟨fun _ _ _ _ => rfl, fun _ _ => rfl, rfl⟩
theorem sq.tr {σ τ υ : sm_S} (h : sq σ τ) (g : sq τ υ) : sq σ υ := ⟨fun k a b c => (h.1 k a b c).trans (g.1 k a b c), fun k a => (h.2.1 k a).trans (g.2.1 k a), h.2.2.trans g.2.2⟩
theorem uI_1 (σ : sm_S) (k i : Nat) (x : Int32) (a j : Nat) : (uI σ k i x).1 a j = if a = k ∧ j = i then x else σ.1 a j := by
  unfold uI
  by_cases c : a = k
  · by_cases d : j = i
    · simp [c, d, upd]
    · simp [c, d, upd]
  · simp [c]
theorem uI_2 (σ : sm_S) (k i : Nat) (x : Int32) : (uI σ k i x).2 = σ.2 := rfl
theorem uL_1 (σ : sm_S) (k i : Nat) (x : Int64) : (uL σ k i x).1 = σ.1 := rfl
theorem uL_2 (σ : sm_S) (k i : Nat) (x : Int64) (a j : Nat) : (uL σ k i x).2.1 a j = if a = k ∧ j = i then x else σ.2.1 a j := by
  unfold uL
  by_cases c : a = k
  · by_cases d : j = i
    · simp [c, d, vp_updL]
    · simp [c, d, vp_updL]
  · simp [c]
theorem uL_3 (σ : sm_S) (k i : Nat) (x : Int64) : (uL σ k i x).2.2 = σ.2.2 := rfl
theorem sq_I {σ : sm_S} {k i : Nat} {x : Int32} (h : k = 15 ∨ k = 16 ∨ k = 17) : sq (uI σ k i x) σ := by
  refine ⟨fun a h1 h2 h3 => funext fun j => ?_, fun _ _ => rfl, rfl⟩
  rw [uI_1, if_neg (by omega)]
theorem sq_L {σ : sm_S} {i : Nat} {x : Int64} : sq (uL σ 18 i x) σ := by
  refine ⟨fun _ _ _ _ => rfl, fun a h1 => funext fun j => ?_, rfl⟩
  rw [uL_2, if_neg (by omega)]
theorem sq_tk (σ : sm_S) (k : Nat) (s g : Int32) (p : Int64) (q : Int32) : sq (tk σ k s g p q) σ := by
  unfold tk
  exact (sq_I (by omega)).tr (sq_L.tr ((sq_I (by omega)).tr (sq_I (by omega))))
theorem tk_15 (σ : sm_S) (k : Nat) (s g : Int32) (p : Int64) (q : Int32) (j : Nat) : (tk σ k s g p q).1 15 j = if j = k then s else σ.1 15 j := by
  unfold tk
  rw [uI_1, uL_1, uI_1, uI_1]
  simp
theorem tk_16 (σ : sm_S) (k : Nat) (s g : Int32) (p : Int64) (q : Int32) (j : Nat) : (tk σ k s g p q).1 16 j = if j = k then q else σ.1 16 j := by
  unfold tk
  rw [uI_1, uL_1, uI_1, uI_1]
  simp
theorem tk_17 (σ : sm_S) (k : Nat) (s g : Int32) (p : Int64) (q : Int32) (j : Nat) : (tk σ k s g p q).1 17 j = if j = k then g else σ.1 17 j := by
  unfold tk
  rw [uI_1, uL_1, uI_1, uI_1]
  simp
theorem tk_18 (σ : sm_S) (k : Nat) (s g : Int32) (p : Int64) (q : Int32) (j : Nat) : (tk σ k s g p q).2.1 18 j = if j = k then p else σ.2.1 18 j := by
  unfold tk
  rw [uI_2, uL_2]
  simp [uI_2]
/-- one number taken -/
def T1 (u : sm_S) (j i n : Nat) (g : Bool) : Prop := u.1 15 j = fS i n ∧ u.1 17 j = sgI g ∧ u.2.1 18 j = lN (uM i n) ∧ u.1 16 j = iZ (uE i n)
theorem take1 {i n : Nat} {g : Bool} (σ : sm_S) (hn : n < 2 ^ fB i) : T1 (f_X6_take σ 0 (mkf i g n) (wI i)) 0 i n g ∧ sq (f_X6_take σ 0 (mkf i g n) (wI i)) σ := by
  rw [take_eq σ 0 hn, show (0 : Int32).toNatClampNeg = 0 from rfl]
  exact ⟨⟨by rw [tk_15]; rfl, by rw [tk_17]; rfl, by rw [tk_18]; rfl, by rw [tk_16]; rfl⟩, sq_tk ..⟩
theorem take2 {i n m : Nat} {g h : Bool} (σ : sm_S) (hn : n < 2 ^ fB i) (hm : m < 2 ^ fB i) : T1 (f_X6_take (f_X6_take σ 0 (mkf i g n) (wI i)) 1 (mkf i h m) (wI i)) 0 i n g ∧ T1 (f_X6_take (f_X6_take σ 0 (mkf i g n) (wI i)) 1 (mkf i h m) (wI i)) 1 i m h ∧ sq (f_X6_take (f_X6_take σ 0 (mkf i g n) (wI i)) 1 (mkf i h m) (wI i)) σ := by
  rw [take_eq _ 1 hm, take_eq σ 0 hn, show (0 : Int32).toNatClampNeg = 0 from rfl, show (1 : Int32).toNatClampNeg = 1 from rfl]
  exact ⟨⟨by rw [tk_15, tk_15]; rfl, by rw [tk_17, tk_17]; rfl, by rw [tk_18, tk_18]; rfl, by rw [tk_16, tk_16]; rfl⟩, ⟨by rw [tk_15]; rfl, by rw [tk_17]; rfl, by rw [tk_18]; rfl, by rw [tk_16]; rfl⟩, (sq_tk ..).tr (sq_tk ..)⟩
/-- spread -/
def T2 (u : sm_S) (j i n : Nat) (g : Bool) : Prop := u.1 17 j = sgI g ∧ u.2.1 18 j = lN (sG i n * 2 ^ 8) ∧ u.1 16 j = iZ (eP i n - 8)
theorem spr_eq {u : sm_S} {k : Int32} {i n : Nat} {g : Bool} (h0 : 0 < n) (hn : n < pIn i) (h : T1 u k.toNatClampNeg i n g) : f_X6_spread u k = uI (uL u 18 k.toNatClampNeg (lN (sG i n * 2 ^ 8))) 16 k.toNatClampNeg (iZ (eP i n - 8)) := by
  obtain ⟨-, -, h3, h4⟩ := h
  have hu := uM_b h0 hn
  have hf := pF_b i
  have hu2 : uM i n < 2 ^ 53 := Nat.lt_of_lt_of_le hu.2.1 (Nat.pow_le_pow_right (by decide) (by omega))
  unfold f_X6_spread
  rw [h3, len_z hu.1 (by omega)]
  simp only [sm_le]
  have e1 : (61 : Int32) - iZ ((uM i n).log2 + 1) = iZ ((60 - (uM i n).log2 : Nat) : Int) := by
    rw [show (61 : Int32) = iZ 61 from rfl, iZ_sub]
    congr 1
    omega
  rw [e1, n_shl _ (by omega), uL_1, h4, iZ_sub]
  have e2 : uM i n * 2 ^ (60 - (uM i n).log2) = sG i n * 2 ^ 8 := by
    unfold sG
    rw [Nat.mul_assoc, ← Nat.pow_add]
    congr 2
    omega
  have e3 : uE i n - ((60 - (uM i n).log2 : Nat) : Int) = eP i n - 8 := by
    unfold eP
    omega
  rw [e2, e3]
theorem spr2 {u : sm_S} {i n m : Nat} {g h : Bool} (h0 : 0 < n) (hn : n < pIn i) (h1 : 0 < m) (hm : m < pIn i) (hT : T1 u 0 i n g) (hT2 : T1 u 1 i m h) : T2 (f_X6_spread (f_X6_spread u 0) 1) 0 i n g ∧ T2 (f_X6_spread (f_X6_spread u 0) 1) 1 i m h ∧ sq (f_X6_spread (f_X6_spread u 0) 1) u := by
  have hs := spr_eq (k := 0) h0 hn hT
  rw [show (0 : Int32).toNatClampNeg = 0 from rfl] at hs
  have hT3 : T1 (f_X6_spread u 0) 1 i m h := by
    rw [hs]
    obtain ⟨a, b, c, d⟩ := hT2
    exact ⟨by rw [uI_1, uL_1]; simpa using a, by rw [uI_1, uL_1]; simpa using b, by rw [uI_2, uL_2]; simpa using c, by rw [uI_1, uL_1]; simpa using d⟩
  have hs2 := spr_eq (k := 1) h1 hm hT3
  rw [show (1 : Int32).toNatClampNeg = 1 from rfl, hs] at hs2
  rw [hs, hs2]
  refine ⟨⟨?_, ?_, ?_⟩, ⟨?_, ?_, ?_⟩, ?_⟩
  · rw [uI_1, uL_1, uI_1, uL_1]; simpa using hT.2.1
  · rw [uI_2, uL_2, uI_2, uL_2]; simp
  · rw [uI_1, uL_1, uI_1, uL_1]; simp
  · rw [uI_1, uL_1, uI_1, uL_1]; simpa using hT2.2.1
  · rw [uI_2, uL_2]; simp
  · rw [uI_1]; simp
  · exact (sq_I (by omega)).tr (sq_L.tr ((sq_I (by omega)).tr sq_L))
