/-! sums -/
theorem rR_G {i C d k : Nat} {e : Int} (h0 : 0 < C) (h1 : 0 < C * 2 ^ k / 2 ^ d) (h : C * 2 ^ k % 2 ^ d ≠ 0 → pF i + 1 ≤ (C * 2 ^ k / 2 ^ d).log2) : rR i (C * 2 ^ k / 2 ^ d) (e + d - k) (decide (C * 2 ^ k % 2 ^ d ≠ 0)) = rR i C e false := by
  have hk := Nat.two_pow_pos k
  have a := rR_T (i := i) (N := C * 2 ^ k) (k := d) (e := e - k) (b := false) h1 (fun q => by
    rcases q with q | q
    · exact h q
    · exact absurd q (by decide))
  have b := rR_T (i := i) (N := C * 2 ^ k) (k := k) (e := e - k) (b := false) (by rw [Nat.mul_div_cancel _ hk]; exact h0) (fun q => by
    rcases q with q | q
    · exact absurd (Nat.mul_mod_left _ _) q
    · exact absurd q (by decide))
  rw [Nat.mul_div_cancel _ hk, Nat.mul_mod_left] at b
  rw [b] at a
  simp only [Bool.or_false] at a
  have e1 : e - k + k = e := by omega
  have e2 : e - k + d = e + d - k := by omega
  rw [e1, e2] at a
  rw [← a]
  rfl
def sd (N d : Nat) : Nat := if N % 2 ^ d = 0 then N / 2 ^ d else N / 2 ^ d ||| 1
theorem x_down {N d : Nat} (h0 : 0 < N) (hN : N < 2 ^ 63) (hd : d < 10000) : f_X1_shiftedDown (lN N) (iZ (d : Int)) = lN (sd N d) := by
  have hle : N / 2 ^ d ≤ N := Nat.div_le_self _ _
  unfold f_X1_shiftedDown sd
  by_cases c : d ≤ 62
  · rw [if_pos (show iZ (d : Int) ≤ (62 : Int32) from (iZ_le (b := 62) (by omega) (by omega) (by decide) (by decide)).mpr (by omega)), n_ushr (by omega) (by omega)]
    simp only [sm_le]
    rw [n_shl _ (by omega), n_or1 (by omega)]
    have hm := Nat.div_add_mod N (2 ^ d)
    rw [Nat.mul_comm] at hm
    by_cases q : N % 2 ^ d = 0
    · rw [if_pos q, if_pos (by congr 1; omega)]
    · rw [if_neg q, if_neg (fun k => q (by have := (n_eq (by omega) (by omega)).mp k; omega))]
  · have hp : 2 ^ 63 ≤ 2 ^ d := Nat.pow_le_pow_right (by decide) (by omega)
    rw [if_neg (show ¬ iZ (d : Int) ≤ (62 : Int32) from fun k => c (by have := (iZ_le (b := 62) (by omega) (by omega) (by decide) (by decide)).mp k; omega)), Nat.mod_eq_of_lt (by omega), if_neg (by omega), Nat.div_eq_of_lt (by omega)]
    rfl
theorem sub_div {A B P : Nat} (hP : 0 < P) (h : B ≤ A * P) : (A * P - B) / P + B / P + (if B % P = 0 then 0 else 1) = A ∧ ((A * P - B) % P = 0 ↔ B % P = 0) := by
  have hB := Nat.div_add_mod B P
  have hC := Nat.div_add_mod (A * P - B) P
  have m1 := Nat.mod_lt B hP
  have m2 := Nat.mod_lt (A * P - B) hP
  generalize B / P = q at hB ⊢
  generalize B % P = r at hB m1 ⊢
  generalize (A * P - B) / P = Q at hC ⊢
  generalize (A * P - B) % P = R at hC m2 ⊢
  have hs : P * Q + R + (P * q + r) = P * A := by rw [Nat.mul_comm P A]; omega
  rcases Nat.lt_trichotomy (Q + q + 1) A with k | k | k
  · exfalso
    obtain ⟨z, rfl⟩ : ∃ z, A = Q + q + 2 + z := ⟨A - (Q + q + 2), by omega⟩
    have : P * (Q + q + 2 + z) = P * Q + P * q + P * 2 + P * z := by rw [Nat.mul_add, Nat.mul_add, Nat.mul_add]
    omega
  · have : P * A = P * Q + P * q + P := by rw [← k, Nat.mul_add, Nat.mul_add, Nat.mul_one]
    have hr : ¬ r = 0 := by omega
    rw [if_neg hr]
    exact ⟨by omega, by omega⟩
  · rcases Nat.lt_or_ge A (Q + q) with k2 | k2
    · exfalso
      obtain ⟨z, hz⟩ : ∃ z, Q + q = A + 1 + z := ⟨Q + q - A - 1, by omega⟩
      have : P * (Q + q) = P * A + P + P * z := by rw [hz, Nat.mul_add, Nat.mul_add, Nat.mul_one]
      rw [Nat.mul_add] at this
      omega
    · have k3 : A = Q + q := by omega
      have : P * A = P * Q + P * q := by rw [k3, Nat.mul_add]
      have hr : r = 0 := by omega
      rw [if_pos hr]
      exact ⟨by omega, by omega⟩
/-- the sum's and the difference's parts, of k more bits -/
theorem add_k {a b d k : Nat} : (a * 2 ^ d + b) * 2 ^ k / 2 ^ d = a * 2 ^ k + b * 2 ^ k / 2 ^ d ∧ (a * 2 ^ d + b) * 2 ^ k % 2 ^ d = b * 2 ^ k % 2 ^ d := by
  have e : (a * 2 ^ d + b) * 2 ^ k = 2 ^ d * (a * 2 ^ k) + b * 2 ^ k := by
    rw [Nat.add_mul, Nat.mul_comm a, Nat.mul_assoc]
  rw [e]
  exact ⟨Nat.mul_add_div (Nat.two_pow_pos d) _ _, Nat.mul_add_mod _ _ _⟩
theorem sub_k {a b d k : Nat} (h : b ≤ a * 2 ^ d) : (a * 2 ^ d - b) * 2 ^ k / 2 ^ d + b * 2 ^ k / 2 ^ d + (if b * 2 ^ k % 2 ^ d = 0 then 0 else 1) = a * 2 ^ k ∧ ((a * 2 ^ d - b) * 2 ^ k % 2 ^ d = 0 ↔ b * 2 ^ k % 2 ^ d = 0) := by
  have e : (a * 2 ^ d - b) * 2 ^ k = a * 2 ^ k * 2 ^ d - b * 2 ^ k := by
    rw [Nat.sub_mul, Nat.mul_right_comm]
  rw [e]
  refine sub_div (Nat.two_pow_pos d) ?_
  rw [Nat.mul_right_comm]
  exact Nat.mul_le_mul_right _ h
/-- if something is lost, the shift was long -/
theorem lost {b d k : Nat} (h : b * 2 ^ k % 2 ^ d ≠ 0) : k < d := by
  apply Nat.lt_of_not_le
  intro q
  apply h
  have : 2 ^ k = 2 ^ (k - d) * 2 ^ d := by rw [← Nat.pow_add]; congr 1; omega
  rw [this, ← Nat.mul_assoc, Nat.mul_mod_left]
theorem sd_add {a b d k : Nat} (hk : 1 ≤ k) : a * 2 ^ k + sd (b * 2 ^ k) d = if decide ((a * 2 ^ d + b) * 2 ^ k % 2 ^ d ≠ 0) = true then (a * 2 ^ d + b) * 2 ^ k / 2 ^ d ||| 1 else (a * 2 ^ d + b) * 2 ^ k / 2 ^ d := by
  rw [add_k.1, add_k.2]
  unfold sd
  have hev : 2 ^ k = 2 * 2 ^ (k - 1) := by rw [← Nat.pow_succ', show (k - 1).succ = k by omega]
  have hA : a * 2 ^ k = 2 * (a * 2 ^ (k - 1)) := by rw [hev, Nat.mul_left_comm]
  by_cases c : b * 2 ^ k % 2 ^ d = 0
  · rw [if_pos c, if_neg (by simp [c])]
  · rw [if_neg c, if_pos (by simp [c]), or_one, or_one]
    generalize b * 2 ^ k / 2 ^ d = q
    rw [hA]
    generalize a * 2 ^ (k - 1) = z
    split <;> split <;> omega
theorem sd_sub {a b d k : Nat} (hk : 1 ≤ k) (h : b ≤ a * 2 ^ d) : a * 2 ^ k = sd (b * 2 ^ k) d + (if decide ((a * 2 ^ d - b) * 2 ^ k % 2 ^ d ≠ 0) = true then (a * 2 ^ d - b) * 2 ^ k / 2 ^ d ||| 1 else (a * 2 ^ d - b) * 2 ^ k / 2 ^ d) := by
  obtain ⟨h1, h2⟩ := sub_k (k := k) h
  unfold sd
  have hev : 2 ^ k = 2 * 2 ^ (k - 1) := by rw [← Nat.pow_succ', show (k - 1).succ = k by omega]
  have hA : a * 2 ^ k = 2 * (a * 2 ^ (k - 1)) := by rw [hev, Nat.mul_left_comm]
  by_cases c : b * 2 ^ k % 2 ^ d = 0
  · rw [if_pos c] at h1
    rw [if_pos c, if_neg (by simp [h2.mpr c])]
    omega
  · rw [if_neg c] at h1
    rw [if_neg c, if_pos (by simp [h2, c]), or_one, or_one]
    generalize b * 2 ^ k / 2 ^ d = q at h1 ⊢
    generalize (a * 2 ^ d - b) * 2 ^ k / 2 ^ d = F at h1 ⊢
    rw [hA] at h1 ⊢
    generalize a * 2 ^ (k - 1) = z at h1 ⊢
    split <;> split <;> omega
/-- enough bits are there -/
theorem add_bits {a b d k : Nat} (ha : 2 ^ 52 ≤ a) (ha2 : a < 2 ^ 53) (hb2 : b < 2 ^ 53) (hk : 8 ≤ k) (hk2 : k ≤ 9) : 60 ≤ ((a * 2 ^ d + b) * 2 ^ k / 2 ^ d).log2 ∧ 0 < (a * 2 ^ d + b) * 2 ^ k / 2 ^ d ∧ (a * 2 ^ d + b) * 2 ^ k / 2 ^ d < 2 ^ (54 + k) := by
  rw [add_k.1]
  have h1 : b * 2 ^ k / 2 ^ d ≤ b * 2 ^ k := Nat.div_le_self _ _
  have h2 : 2 ^ 60 ≤ a * 2 ^ k ∧ a * 2 ^ k + b * 2 ^ k < 2 ^ (54 + k) := by
    rcases (by omega : k = 8 ∨ k = 9) with rfl | rfl <;> omega
  generalize b * 2 ^ k / 2 ^ d = q at h1 ⊢
  have h3 : 60 ≤ (a * 2 ^ k + q).log2 := (Nat.le_log2 (by omega)).mpr (by omega)
  omega
theorem sub_bits {a b d k : Nat} (ha : 2 ^ 52 ≤ a) (hb2 : b < 2 ^ 53) (hk : 8 ≤ k) (hk2 : k ≤ 9) (h : b ≤ a * 2 ^ d) (hl : (a * 2 ^ d - b) * 2 ^ k % 2 ^ d ≠ 0) : 59 ≤ ((a * 2 ^ d - b) * 2 ^ k / 2 ^ d).log2 := by
  obtain ⟨h1, h2⟩ := sub_k (k := k) h
  have hl2 : b * 2 ^ k % 2 ^ d ≠ 0 := fun q => hl (h2.mpr q)
  rw [if_neg hl2] at h1
  have hd := lost hl2
  have h3 : b * 2 ^ k / 2 ^ d < 2 ^ 53 := by
    rw [Nat.div_lt_iff_lt_mul (Nat.two_pow_pos d)]
    have q1 : b * 2 ^ k < 2 ^ 53 * 2 ^ k := Nat.mul_lt_mul_of_pos_right hb2 (Nat.two_pow_pos k)
    have q2 : 2 ^ 53 * 2 ^ k ≤ 2 ^ 53 * 2 ^ d := Nat.mul_le_mul_left _ (Nat.pow_le_pow_right (by decide) (by omega))
    omega
  have h4 : 2 ^ 60 ≤ a * 2 ^ k := by
    rcases (by omega : k = 8 ∨ k = 9) with rfl | rfl <;> omega
  exact (Nat.le_log2 (by omega)).mpr (by omega)
theorem sub_pos {a b d : Nat} (ha : 2 ^ 52 ≤ a) (hb2 : b < 2 ^ 53) (hd : 1 ≤ d) : b < a * 2 ^ d := by
  have : 2 ^ 1 ≤ 2 ^ d := Nat.pow_le_pow_right (by decide) hd
  have := Nat.mul_le_mul ha this
  omega
/-- the quotient of a difference that isn't nothing isn't nothing -/
theorem sub_q {a b d k : Nat} (ha : 2 ^ 52 ≤ a) (hb2 : b < 2 ^ 53) (hk : 8 ≤ k) (hk2 : k ≤ 9) (h : b < a * 2 ^ d) : 0 < (a * 2 ^ d - b) * 2 ^ k / 2 ^ d := by
  by_cases q : (a * 2 ^ d - b) * 2 ^ k % 2 ^ d = 0
  · apply Nat.pos_of_ne_zero
    intro z
    have := Nat.div_add_mod ((a * 2 ^ d - b) * 2 ^ k) (2 ^ d)
    rw [q, z] at this
    have hp : 0 < (a * 2 ^ d - b) * 2 ^ k := Nat.mul_pos (by omega) (Nat.two_pow_pos k)
    omega
  · have := sub_bits ha hb2 hk hk2 (Nat.le_of_lt h) q
    apply Nat.pos_of_ne_zero
    intro z
    rw [z, Nat.log2_zero] at this
    omega
theorem sgI_eq (g h : Bool) : sgI g = sgI h ↔ g = h := by cases g <;> cases h <;> decide
theorem sgI_d (g : Bool) : decide (sgI g ≠ 0) = g := by cases g <;> decide
theorem lN_neg_abs {n : Nat} (h0 : 0 < n) (hn : n < 2 ^ 63) : sm_absL (lN n) = lN n ∧ sm_absL (-lN n) = lN n := by
  unfold sm_absL
  have t := n_t hn
  have t2 : (-lN n).toInt = -(n : Int) := Int64.toInt_neg_ofNat_of_le (by omega)
  constructor
  · rw [if_pos (by rw [Int64.lt_iff_toInt_lt, t]; show (0 : Int) < _; omega)]
  · rw [if_neg (by rw [Int64.lt_iff_toInt_lt, t2]; show ¬ (0 : Int) < _; omega), Int64.neg_neg]
theorem lN_sub_neg {a b : Nat} (h : a ≤ b) : lN a - lN b = -lN (b - a) := by
  rw [← lN_sub h, Int64.neg_sub]
/-- the answer of a sum of two finite numbers, the first the larger -/
def sumA (i n m : Nat) (g h : Bool) : Int64 :=
  if g = h then f_X1_signed i (sgI g) (lN (rR i (sG i n * 2 ^ (eP i n - eP i m).toNat + sG i m) (eP i m) false))
  else if sG i n * 2 ^ (eP i n - eP i m).toNat = sG i m then 0
  else f_X1_signed i (sgI g) (lN (rR i (sG i n * 2 ^ (eP i n - eP i m).toNat - sG i m) (eP i m) false))
theorem x_sumO {i n m : Nat} {g h : Bool} (h0 : 0 < n) (hn : n < pIn i) (h1 : 0 < m) (hm : m < pIn i) (he : eP i m ≤ eP i n) (hp : ¬ g = h → sG i m ≤ sG i n * 2 ^ (eP i n - eP i m).toNat) : f_X1_sumInOrder i (mkf i g n) (mkf i h m) = sumA i n m g h := by
  have hb := fB_lt i
  have hf := pF_b i
  obtain ⟨a1, a2, a3, a4, a5⟩ := sG_b h0 hn
  obtain ⟨b1, b2, b3, b4, b5⟩ := sG_b h1 hm
  unfold f_X1_sumInOrder sumA
  rw [x_exp h0 hn, x_sgn h0 hn, x_exp h1 hm, x_sgn h1 hm, x_neg (by omega), x_neg (by omega)]
  simp only [sm_le]
  have hd : iZ (eP i n) - iZ (eP i m) = iZ (((eP i n - eP i m).toNat : Nat) : Int) := by
    rw [iZ_sub]
    congr 1
    omega
  have hde : eP i n = eP i m + ((eP i n - eP i m).toNat : Nat) := by omega
  have hdr : (eP i n - eP i m).toNat < 3000 := by omega
  rw [hd]
  generalize (eP i n - eP i m).toNat = d at hp hde hdr ⊢
  have e9 : iZ (eP i n) - 9 = iZ (eP i m + d - 9) := by
    rw [show (9 : Int32) = iZ 9 from rfl, iZ_sub, hde]
  have s9 : ∀ z, lN z <<< ((9 : Int32).toInt64 &&& 63) = lN (z * 2 ^ 9) := fun z => n_shl z (k := 9) (by decide)
  rw [e9, s9, s9, x_down (by omega) (by omega) (by omega)]
  simp only [sgI_eq]
  generalize hA : sG i n = a at a1 a2 a3 hp ⊢
  generalize hB : sG i m = b at b1 b2 b3 hp ⊢
  have ab := add_bits (a := a) (b := b) (d := d) (k := 9) a1 a2 b2 (by decide) (by decide)
  by_cases c : g = h
  · rw [if_pos c, if_pos c, lN_add, sd_add (by decide)]
    have hodd := or_one ((a * 2 ^ d + b) * 2 ^ 9 / 2 ^ d)
    rw [x_rounded _ (by split <;> (try rw [hodd]) <;> (try split) <;> omega) (by split <;> (try rw [hodd]) <;> (try split) <;> omega) (by omega) (by omega), rR_SX _ (fun _ => by omega)]
    have hG := rR_G (i := i) (C := a * 2 ^ d + b) (d := d) (k := 9) (e := eP i m) (by omega) ab.2.1 (fun _ => by omega)
    rw [show ((9 : Nat) : Int) = 9 from rfl] at hG
    rw [hG]
  · have hp := hp c
    rw [if_neg c, if_neg c]
    have hs := sd_sub (a := a) (b := b) (d := d) (k := 9) (by decide) hp
    by_cases z : a * 2 ^ d = b
    · rw [if_pos z]
      have z2 : a * 2 ^ d - b = 0 := by omega
      rw [z2, Nat.zero_mul, Nat.zero_mod, Nat.zero_div, if_neg (by decide)] at hs
      rw [if_pos (by rw [hs]; exact Int64.sub_self _)]
    · rw [if_neg z]
      have hq := sub_q (k := 9) a1 b2 (by decide) (by decide) (show b < a * 2 ^ d by omega)
      have hodd := or_one ((a * 2 ^ d - b) * 2 ^ 9 / 2 ^ d)
      have hbt := fun q => sub_bits (k := 9) a1 b2 (by decide) (by decide) hp q
      have hsx := rR_SX (i := i) (n := (a * 2 ^ d - b) * 2 ^ 9 / 2 ^ d) (e := eP i m + d - 9) (decide ((a * 2 ^ d - b) * 2 ^ 9 % 2 ^ d ≠ 0)) (fun q => by have := hbt (of_decide_eq_true q); omega)
      have hG := rR_G (i := i) (C := a * 2 ^ d - b) (d := d) (k := 9) (e := eP i m) (by omega) hq (fun q => by have := hbt q; omega)
      rw [show ((9 : Nat) : Int) = 9 from rfl] at hG
      rw [hG] at hsx
      generalize hX : (if decide ((a * 2 ^ d - b) * 2 ^ 9 % 2 ^ d ≠ 0) = true then (a * 2 ^ d - b) * 2 ^ 9 / 2 ^ d ||| 1 else (a * 2 ^ d - b) * 2 ^ 9 / 2 ^ d) = X at hs hsx
      have hX0 : 0 < X := by rw [← hX]; split <;> (try rw [hodd]) <;> (try split) <;> omega
      rw [hs, lN_sub (by omega), Nat.add_sub_cancel_left]
      have hXb : X < 2 ^ 63 := by omega
      rw [if_neg (show ¬ lN X = 0 from fun q => by have := (n_eq (b := 0) (by omega) (by decide)).mp q; omega), if_neg (show ¬ lN X ≤ 0 from fun q => by have := (n_le (b := 0) (by omega) (by decide)).mp q; omega)]
      unfold f_X1_sumInOrder_107
      rw [(lN_neg_abs hX0 hXb).1, e9, x_rounded _ hX0 hXb (by omega) (by omega), hsx]
theorem x_sumS {i n m : Nat} {g h : Bool} (h0 : 0 < n) (hn : n < pIn i) (h1 : 0 < m) (hm : m < pIn i) (he : eP i m = eP i n) (hp : sG i n < sG i m) : f_X1_sumInOrder i (mkf i g n) (mkf i h m) = sumA i m n h g := by
  have hb := fB_lt i
  have hf := pF_b i
  obtain ⟨a1, a2, a3, a4, a5⟩ := sG_b h0 hn
  obtain ⟨b1, b2, b3, b4, b5⟩ := sG_b h1 hm
  by_cases c : g = h
  · subst c
    rw [x_sumO h0 hn h1 hm (by omega) (fun q => absurd rfl q)]
    unfold sumA
    rw [if_pos rfl, if_pos rfl, show (eP i n - eP i m).toNat = 0 by omega, show (eP i m - eP i n).toNat = 0 by omega, Nat.pow_zero, Nat.mul_one, Nat.mul_one, Nat.add_comm, he]
  · unfold f_X1_sumInOrder sumA
    rw [x_exp h0 hn, x_sgn h0 hn, x_exp h1 hm, x_sgn h1 hm, x_neg (by omega), x_neg (by omega)]
    simp only [sm_le]
    have hd : iZ (eP i n) - iZ (eP i m) = iZ (((0 : Nat) : Int)) := by
      rw [iZ_sub, he]
      congr 1
      omega
    have s9 : ∀ z, lN z <<< ((9 : Int32).toInt64 &&& 63) = lN (z * 2 ^ 9) := fun z => n_shl z (k := 9) (by decide)
    have e9 : iZ (eP i n) - 9 = iZ (eP i n - 9) := by
      rw [show (9 : Int32) = iZ 9 from rfl, iZ_sub]
    rw [hd, s9, s9, x_down (by omega) (by omega) (by omega)]
    simp only [sgI_eq]
    rw [if_neg c, if_neg (show ¬ h = g from fun q => c q.symm), show (eP i m - eP i n).toNat = 0 by omega, Nat.pow_zero, Nat.mul_one, if_neg (show ¬ sG i m = sG i n by omega)]
    have hsd : sd (sG i m * 2 ^ 9) 0 = sG i m * 2 ^ 9 := by
      unfold sd
      rw [Nat.pow_zero, Nat.mod_one, if_pos rfl, Nat.div_one]
    rw [hsd, lN_sub_neg (by omega), ← Nat.sub_mul]
    have hg := rR_G (i := i) (C := sG i m - sG i n) (d := 0) (k := 9) (e := eP i n) (by omega) (by rw [Nat.pow_zero, Nat.div_one]; omega) (fun q => absurd (Nat.mod_one _) q)
    rw [Nat.pow_zero, Nat.div_one, Nat.mod_one] at hg
    generalize hX : (sG i m - sG i n) * 2 ^ 9 = X at hg ⊢
    have hX0 : 0 < X := by omega
    have hXb : X < 2 ^ 63 := by omega
    have t : (-lN X).toInt = -(X : Int) := Int64.toInt_neg_ofNat_of_le (by omega)
    rw [if_neg (show ¬ -lN X = 0 by rw [← Int64.toInt_inj, t]; show ¬ _ = (0 : Int); omega), if_pos (show -lN X ≤ 0 by rw [Int64.le_iff_toInt_le, t]; show _ ≤ (0 : Int); omega)]
    unfold f_X1_sumInOrder_107
    rw [(lN_neg_abs hX0 hXb).2, e9, x_rounded _ hX0 hXb (by omega) (by omega), ← hg, show eP i n + ((0 : Nat) : Int) - ((9 : Nat) : Int) = eP i n - 9 by omega]
    rfl
theorem mF {A q F : Nat} (s : Prop) [Decidable s] (h : F + q + (if s then 0 else 1) = A) : (if s then lN A - lN q - (0 : Int32).toInt64 else lN A - lN q - (1 : Int32).toInt64) = lN F := by
  by_cases c : s
  · rw [if_pos c] at h ⊢
    rw [lN_sub (by omega), show (0 : Int32).toInt64 = lN 0 by decide, lN_sub (by omega)]
    congr 1
    omega
  · rw [if_neg c] at h ⊢
    rw [lN_sub (by omega), show (1 : Int32).toInt64 = lN 1 by decide, lN_sub (by omega)]
    congr 1
    omega
theorem mF2 {A q F c : Nat} (h : F + q + c = A) : F ≤ A := by omega
/-- the reference's sum of finite numbers, the one at t0 the larger -/
theorem m_sum240 {v : sm_S} {t0 : Int32} {i n m : Nat} {g h : Bool} (h0 : 0 < n) (hn : n < pIn i) (h1 : 0 < m) (hm : m < pIn i) (he : eP i m ≤ eP i n) (hp : ¬ g = h → sG i m ≤ sG i n * 2 ^ (eP i n - eP i m).toNat) (hT : T2 v t0.toNatClampNeg i n g) (hU : T2 v ((1 : Int32) - t0).toNatClampNeg i m h) (hq : v.1 17 0 = v.1 17 1 ↔ g = h) (hq2 : g = h → v.1 17 0 = sgI g) : f_X6_sum_240 (wI i) v t0 = (sumA i n m g h, v) := by
  have hb := fB_lt i
  have hf := pF_b i
  obtain ⟨a1, a2, a3, a4, a5⟩ := sG_b h0 hn
  obtain ⟨b1, b2, b3, b4, b5⟩ := sG_b h1 hm
  obtain ⟨t17, t18, t16⟩ := hT
  obtain ⟨u17, u18, u16⟩ := hU
  unfold f_X6_sum_240 sumA
  simp only [sm_le]
  rw [t16, u16, u18]
  have hd : iZ (eP i n - 8) - iZ (eP i m - 8) = iZ (((eP i n - eP i m).toNat : Nat) : Int) := by
    rw [iZ_sub]
    congr 1
    omega
  have hde : eP i n = eP i m + ((eP i n - eP i m).toNat : Nat) := by omega
  have hdr : (eP i n - eP i m).toNat < 3000 := by omega
  rw [hd]
  generalize (eP i n - eP i m).toNat = d at hp hde hdr ⊢
  have e8 : iZ (eP i n - 8) = iZ (eP i m + d - 8) := by rw [hde]
  rw [e8] at t16
  generalize hA : sG i n = a at a1 a2 a3 hp t18 ⊢
  generalize hB : sG i m = b at b1 b2 b3 hp u18 ⊢
  have hP := Nat.two_pow_pos d
  have hmd := Nat.div_add_mod (b * 2 ^ 8) (2 ^ d)
  rw [Nat.mul_comm (2 ^ d)] at hmd
  have hle : b * 2 ^ 8 / 2 ^ d ≤ b * 2 ^ 8 := Nat.div_le_self _ _
  -- what is shifted, and what is lost
  have h316 : (if iZ (d : Int) ≤ 62 then f_X6_sum_286 (wI i) t0 ((1 : Int32) - t0) (iZ (d : Int)) v (lN (b * 2 ^ 8) >>> ((iZ (d : Int)).toInt64 &&& 63)) else f_X6_sum_286 (wI i) t0 ((1 : Int32) - t0) (iZ (d : Int)) v 0) = f_X6_sum_316 (wI i) t0 (lN (b * 2 ^ 8 / 2 ^ d)) v (if b * 2 ^ 8 % 2 ^ d = 0 then 0 else 1) := by
    unfold f_X6_sum_286 f_X6_sum_311
    rw [u18]
    by_cases c : d ≤ 62
    · have c1 : iZ (d : Int) ≤ (62 : Int32) := (iZ_le (b := 62) (by omega) (by omega) (by decide) (by decide)).mpr (by omega)
      have c2 : ¬ (62 : Int32) < iZ (d : Int) := fun k => by have := (iZ_lt (a := 62) (by decide) (by decide) (by omega) (by omega)).mp k; omega
      rw [if_pos c1, if_neg c2, n_shr (by omega) (by omega), n_shl _ (by omega)]
      by_cases q : b * 2 ^ 8 % 2 ^ d = 0
      · rw [if_pos q, if_pos (by congr 1; omega)]
      · rw [if_neg q, if_neg (fun k => q (by have := (n_eq (by omega) (by omega)).mp k; omega))]
    · have c1 : ¬ iZ (d : Int) ≤ (62 : Int32) := fun k => by have := (iZ_le (b := 62) (by omega) (by omega) (by decide) (by decide)).mp k; omega
      have c2 : (62 : Int32) < iZ (d : Int) := (iZ_lt (a := 62) (by decide) (by decide) (by omega) (by omega)).mpr (by omega)
      have hp63 : 2 ^ 63 ≤ 2 ^ d := Nat.pow_le_pow_right (by decide) (by omega)
      rw [if_neg c1, if_pos c2, Nat.mod_eq_of_lt (by omega), if_neg (by omega), Nat.div_eq_of_lt (by omega)]
      rfl
  rw [h316]
  unfold f_X6_sum_316 f_X6_sum_384
  simp only [sm_le]
  rw [show (0 : Int32).toNatClampNeg = 0 from rfl, show (1 : Int32).toNatClampNeg = 1 from rfl, t18, t17, t16]
  have hmo : decide ((if b * 2 ^ 8 % 2 ^ d = 0 then (0 : Int32) else 1) ≠ 0) = decide (b * 2 ^ 8 % 2 ^ d ≠ 0) := by
    by_cases q : b * 2 ^ 8 % 2 ^ d = 0
    · simp [q]
    · simp [q]
  by_cases c : g = h
  · have ab := add_bits (a := a) (b := b) (d := d) (k := 8) a1 a2 b2 (by decide) (by decide)
    have hG := rR_G (i := i) (C := a * 2 ^ d + b) (d := d) (k := 8) (e := eP i m) (by omega) ab.2.1 (fun _ => by omega)
    rw [show ((8 : Nat) : Int) = 8 from rfl] at hG
    rw [if_pos (hq.mpr c), if_pos c, hq2 c, lN_add]
    rw [add_k.1, add_k.2] at hG
    rw [add_k.1] at ab
    rw [m_round _ _ ab.2.1 (by omega) (by omega) (by omega), hmo, hG, sg_eq _ (rR_le _ _ (by omega))]
  · have hp := hp c
    obtain ⟨k1, k2⟩ := sub_k (k := 8) hp
    rw [if_neg (fun q => c (hq.mp q)), if_neg c]
    have hred : ∀ (A B : Int64 × sm_S), (if (if b * 2 ^ 8 % 2 ^ d = 0 then (0 : Int32) else 1) = 0 then A else B) = if b * 2 ^ 8 % 2 ^ d = 0 then A else B := by
      intro A B
      by_cases q : b * 2 ^ 8 % 2 ^ d = 0
      · simp [q]
      · simp [q]
    rw [hred]
    have hF : (if b * 2 ^ 8 % 2 ^ d = 0 then lN (a * 2 ^ 8) - lN (b * 2 ^ 8 / 2 ^ d) - (0 : Int32).toInt64 else lN (a * 2 ^ 8) - lN (b * 2 ^ 8 / 2 ^ d) - (1 : Int32).toInt64) = lN ((a * 2 ^ d - b) * 2 ^ 8 / 2 ^ d)  := mF _ k1
    have hFb : (a * 2 ^ d - b) * 2 ^ 8 / 2 ^ d ≤ a * 2 ^ 8 := mF2 k1
    have hpair : ∀ (x y : Int64) (f : Int64 → Int64 × sm_S), (if b * 2 ^ 8 % 2 ^ d = 0 then f x else f y) = f (if b * 2 ^ 8 % 2 ^ d = 0 then x else y) := by
      intro x y f
      by_cases q : b * 2 ^ 8 % 2 ^ d = 0
      · rw [if_pos q, if_pos q]
      · rw [if_neg q, if_neg q]
    rw [hpair (lN (a * 2 ^ 8) - lN (b * 2 ^ 8 / 2 ^ d) - (0 : Int32).toInt64) (lN (a * 2 ^ 8) - lN (b * 2 ^ 8 / 2 ^ d) - (1 : Int32).toInt64) (fun y => if y = 0 then ((0 : Int64), v) else (f_X6_round (wI i) (sgI g) y (iZ (eP i m + d - 8)) (if b * 2 ^ 8 % 2 ^ d = 0 then (0 : Int32) else 1), v)), hF]
    by_cases z : a * 2 ^ d = b
    · rw [if_pos z, show a * 2 ^ d - b = 0 by omega, Nat.zero_mul, Nat.zero_div, if_pos (show lN 0 = 0 from rfl)]
    · rw [if_neg z]
      have hq := sub_q (k := 8) a1 b2 (by decide) (by decide) (show b < a * 2 ^ d by omega)
      have hbt := fun q => sub_bits (k := 8) a1 b2 (by decide) (by decide) hp q
      have hG := rR_G (i := i) (C := a * 2 ^ d - b) (d := d) (k := 8) (e := eP i m) (by omega) hq (fun q => by have := hbt q; omega)
      rw [show ((8 : Nat) : Int) = 8 from rfl] at hG
      have hmo2 : decide ((a * 2 ^ d - b) * 2 ^ 8 % 2 ^ d ≠ 0) = decide (b * 2 ^ 8 % 2 ^ d ≠ 0) := by
        simp only [ne_eq, k2]
      rw [hmo2] at hG
      rw [if_neg (show ¬ lN ((a * 2 ^ d - b) * 2 ^ 8 / 2 ^ d) = 0 from fun q => by have := (n_eq (b := 0) (by omega) (by decide)).mp q; omega)]
      rw [m_round _ _ hq (by omega) (by omega) (by omega), hmo, hG, sg_eq _ (rR_le _ _ (by omega))]
