/-! the formats, and what rounding is -/
theorem sm_le {α β : Type} (x : α) (g : α → β) : sm_let x g = g x := id rfl
def pF (i : Nat) : Nat := if i = 0 then 23 else 52
def pL (i : Nat) : Int := if i = 0 then -149 else -1074
def pM (i : Nat) : Nat := if i = 0 then 255 else 2047
def wI (i : Nat) : Int32 := if i = 0 then 0 else 1
theorem kFr_z (i : Nat) : kFr i = iZ (pF i) := by unfold kFr pF; split <;> rfl
theorem kLe_z (i : Nat) : kLe i = iZ (pL i) := by unfold kLe pL; split <;> rfl
theorem kMo_z (i : Nat) : kMo i = iZ (pM i) := by unfold kMo pM; split <;> rfl
theorem kIn_n (i : Nat) : kIn i = lN (pM i * 2 ^ pF i) := by unfold kIn pM pF; split <;> rfl
theorem pF_b (i : Nat) : pF i = 23 ∧ pL i = -149 ∧ pM i = 255 ∨ pF i = 52 ∧ pL i = -1074 ∧ pM i = 2047 := by
  unfold pF pL pM
  split
  · exact Or.inl ⟨rfl, rfl, rfl⟩
  · exact Or.inr ⟨rfl, rfl, rfl⟩
theorem pl_z (i : Nat) : f_X6_places (wI i) = iZ (pF i + 1) := by unfold f_X6_places wI pF; split <;> rfl
theorem le_z (i : Nat) : f_X6_least (wI i) = iZ (pL i) := by unfold f_X6_least wI pL; split <;> rfl
theorem in_z (i : Nat) : f_X6_infinite (wI i) = lN (pM i * 2 ^ pF i) := by unfold f_X6_infinite wI pM pF; split <;> rfl
def rE (m x : Nat) (b : Bool) : Nat := if 2 ^ x < 2 * (m % 2 ^ x) ∨ (2 * (m % 2 ^ x) = 2 ^ x ∧ (b = true ∨ m / 2 ^ x % 2 = 1)) then m / 2 ^ x + 1 else m / 2 ^ x
def rK (m : Nat) (x : Int) (b : Bool) : Nat := if x ≤ 0 then m * 2 ^ (-x).toNat else rE m x.toNat b
def rX (i m : Nat) (e : Int) : Int := max ((m.log2 : Int) - pF i) (pL i - e)
def rA (i m : Nat) (e : Int) : Int := e + rX i m e - pL i
def rR (i m : Nat) (e : Int) (b : Bool) : Nat := if (pM i : Int) - 1 ≤ rA i m e then pM i * 2 ^ pF i else (rA i m e).toNat * 2 ^ pF i + rK m (rX i m e) b
theorem rX_d (i m : Nat) (e : Int) : rX i m e = max ((m.log2 : Int) - pF i) (pL i - e) := rfl
theorem rA_d (i m : Nat) (e : Int) : rA i m e = e + rX i m e - pL i := rfl
theorem iZ_l {n : Nat} (h : n < 2 ^ 31) : (iZ (n : Int)).toInt64 = lN n := by rw [← iZ_nI, nI_l h]
/-! the class's rounding -/
theorem rE_big {m x : Nat} (h : 2 * m < 2 ^ x) (b : Bool) : rE m x b = 0 := by
  unfold rE
  rw [Nat.mod_eq_of_lt (by omega), Nat.div_eq_of_lt (by omega), if_neg (by omega)]
theorem x_even {m x : Nat} (hm : m < 2 ^ 63) (h0 : 0 < x) (hx : x < 10000) : f_X1_shiftedToEven (lN m) (iZ (x : Int)) = lN (rE m x false) := by
  dsimp only [f_X1_shiftedToEven, sm_let, f_X1_shiftedToEven_50, f_X1_shiftedToEven_54, f_X1_shiftedToEven_55]
  by_cases q : x ≤ 63
  · have hd : m / 2 ^ x * 2 ^ x ≤ m := Nat.div_mul_le_self m _
    have hr : m - m / 2 ^ x * 2 ^ x = m % 2 ^ x := by
      have := Nat.div_add_mod m (2 ^ x)
      rw [Nat.mul_comm] at this
      omega
    have hp : 2 ^ x = 2 * 2 ^ (x - 1) := by
      rw [← Nat.pow_succ', show (x - 1).succ = x by omega]
    have hp1 : 2 ^ (x - 1) ≤ 2 ^ 62 := Nat.pow_le_pow_right (by decide) (by omega)
    have hml : m % 2 ^ x ≤ m := Nat.mod_le _ _
    have hdl : m / 2 ^ x ≤ m := Nat.div_le_self _ _
    have hh : iZ (x : Int) - 1 = iZ ((x - 1 : Nat) : Int) := by
      rw [show (1 : Int32) = iZ 1 from rfl, iZ_sub]
      congr 1
      omega
    rw [if_pos (show iZ (x : Int) ≤ (63 : Int32) from (iZ_le (b := 63) (by omega) (by omega) (by decide) (by decide)).mpr (by omega)), n_ushr (by omega) (by omega), n_shl _ (by omega), lN_sub hd, hr, hh, show (1 : Int64) <<< ((iZ ((x - 1 : Nat) : Int)).toInt64 &&& 63) = lN (1 * 2 ^ (x - 1)) from n_shl 1 (by omega), Nat.one_mul, n_one (by omega)]
    unfold rE
    rw [hp] at hml hdl ⊢
    rw [← hp] at hml hdl ⊢
    by_cases c1 : 2 ^ (x - 1) < m % 2 ^ x
    · rw [if_pos ((n_lt (by omega) (by omega)).mpr c1), if_neg (by decide), if_pos (Or.inl (by omega)), lN_1]
    · rw [if_neg (fun k => c1 ((n_lt (by omega) (by omega)).mp k))]
      by_cases c2 : m % 2 ^ x = 2 ^ (x - 1)
      · rw [if_pos (show lN (m % 2 ^ x) = lN (2 ^ (x - 1)) from (n_eq (by omega) (by omega)).mpr c2)]
        by_cases c3 : m / 2 ^ x % 2 = 1
        · rw [if_pos (show lN (m / 2 ^ x % 2) = 1 by rw [c3]; rfl), if_neg (by decide), if_pos (Or.inr ⟨by omega, Or.inr c3⟩), lN_1]
        · rw [if_neg (show ¬ lN (m / 2 ^ x % 2) = 1 from fun k => c3 ((n_eq (b := 1) (by omega) (by decide)).mp k)), if_pos (by decide), if_neg]
          rintro (k | ⟨_, k | k⟩)
          · omega
          · exact absurd k (by decide)
          · exact c3 k
      · rw [if_neg (show ¬ lN (m % 2 ^ x) = lN (2 ^ (x - 1)) from fun k => c2 ((n_eq (by omega) (by omega)).mp k)), if_pos (by decide), if_neg (by omega)]
  · rw [if_neg (show ¬ iZ (x : Int) ≤ (63 : Int32) from fun k => q (by have := (iZ_le (b := 63) (by omega) (by omega) (by decide) (by decide)).mp k; omega)), rE_big]
    · rfl
    · have : 2 ^ 64 ≤ 2 ^ x := Nat.pow_le_pow_right (by decide) (by omega)
      omega
theorem rX_r {i m : Nat} {e : Int} (hl : m.log2 < 63) (he : -5000 ≤ e) (he2 : e ≤ 5000) : -60 ≤ rX i m e ∧ rX i m e < 7000 ∧ 0 ≤ rA i m e ∧ rA i m e < 12000 := by
  have hp := pF_b i
  have := rX_d i m e
  have := rA_d i m e
  omega
theorem x_rounded {i m : Nat} {e : Int} (neg : Int32) (h0 : 0 < m) (hm : m < 2 ^ 63) (he : -5000 ≤ e) (he2 : e ≤ 5000) : f_X1_rounded i neg (iZ e) (lN m) = f_X1_signed i neg (lN (rR i m e false)) := by
  have hl : m.log2 < 63 := (Nat.log2_lt (by omega)).mpr hm
  have hp := pF_b i
  have hr := rX_r (i := i) hl he he2
  have e1 : (63 : Int32) - kFr i - f_J13_numberOfLeadingZeros_95d88 (lN m) = iZ (m.log2 - pF i) := by
    rw [clz_64 h0 (by omega), kFr_z, show (63 : Int32) = iZ 63 from rfl, iZ_sub, iZ_sub]
    congr 1
    omega
  have e2 : sm_max (iZ (m.log2 - pF i)) (kLe i - iZ e) = iZ (rX i m e) := by
    rw [kLe_z, iZ_sub, sm_max_z (by omega) (by omega) (by omega) (by omega)]
    rfl
  have e3 : iZ e + iZ (rX i m e) - kLe i = iZ (rA i m e) := by
    rw [kLe_z, iZ_add, iZ_sub]
    rfl
  have e4 : kMo i - 1 = iZ (pM i - 1) := by
    rw [kMo_z, show (1 : Int32) = iZ 1 from rfl, iZ_sub]
  dsimp only [f_X1_rounded, sm_let]
  rw [e1, e2, e3, e4]
  by_cases q : (pM i : Int) - 1 ≤ rA i m e
  · rw [if_neg (fun k => by have := (iZ_lt (by omega) (by omega) (by omega) (by omega)).mp k; omega), kIn_n]
    unfold rR
    rw [if_pos q]
  · rw [if_pos ((iZ_lt (by omega) (by omega) (by omega) (by omega)).mpr (by omega))]
    unfold rR
    rw [if_neg q]
    dsimp only [f_X1_rounded_78]
    have ha : iZ (rA i m e) = iZ ((rA i m e).toNat : Int) := by congr 1; omega
    rw [ha, iZ_l (by omega), kFr_z, n_shl _ (by omega)]
    unfold rK
    by_cases x0 : rX i m e ≤ 0
    · have hx : -iZ (rX i m e) = iZ ((-rX i m e).toNat : Int) := by rw [iZ_neg]; congr 1; omega
      rw [if_pos (show iZ (rX i m e) ≤ (0 : Int32) from (iZ_le (b := 0) (by omega) (by omega) (by decide) (by decide)).mpr x0), hx, n_shl _ (by omega), lN_add, if_pos x0]
    · have hx : iZ (rX i m e) = iZ ((rX i m e).toNat : Int) := by congr 1; omega
      rw [if_neg (show ¬ iZ (rX i m e) ≤ (0 : Int32) from fun k => x0 ((iZ_le (b := 0) (by omega) (by omega) (by decide) (by decide)).mp k)), hx, x_even hm (by omega) (by omega), lN_add, if_neg x0]
/-! bounds -/
theorem rE_le (m x : Nat) (b : Bool) : m / 2 ^ x ≤ rE m x b ∧ rE m x b ≤ m / 2 ^ x + 1 := by
  unfold rE
  split <;> omega
theorem rK_b {i m : Nat} {e : Int} (b : Bool) (h0 : 0 < m) : rK m (rX i m e) b ≤ 2 ^ (pF i + 1) ∧ (rA i m e = 0 ∨ 2 ^ pF i ≤ rK m (rX i m e) b) := by
  have hX := rX_d i m e
  have hA := rA_d i m e
  have l1 := Nat.log2_self_le (n := m) (by omega)
  have l2 := @Nat.lt_log2_self m
  unfold rK
  by_cases x0 : rX i m e ≤ 0
  · rw [if_pos x0]
    obtain ⟨k, hk⟩ : ∃ k : Nat, -rX i m e = k := ⟨(-rX i m e).toNat, by omega⟩
    rw [hk, Int.toNat_natCast]
    have hm : m * 2 ^ k ≠ 0 := Nat.mul_ne_zero (by omega) (by have := Nat.two_pow_pos k; omega)
    have hlg := lg_mul (m := m) (by omega) k
    constructor
    · exact Nat.le_of_lt ((Nat.log2_lt hm).mp (by omega))
    · by_cases a : rA i m e = 0
      · exact Or.inl a
      · exact Or.inr ((Nat.le_log2 hm).mp (by omega))
  · rw [if_neg x0]
    obtain ⟨k, hk⟩ : ∃ k : Nat, rX i m e = k := ⟨(rX i m e).toNat, by omega⟩
    rw [hk, Int.toNat_natCast]
    have hb := rE_le m k b
    constructor
    · have : m / 2 ^ k < 2 ^ (pF i + 1) := by
        rw [Nat.div_lt_iff_lt_mul (Nat.two_pow_pos k), ← Nat.pow_add]
        exact Nat.lt_of_lt_of_le l2 (Nat.pow_le_pow_right (by decide) (by omega))
      omega
    · by_cases a : rA i m e = 0
      · exact Or.inl a
      · refine Or.inr (Nat.le_trans ?_ hb.1)
        rw [Nat.le_div_iff_mul_le (Nat.two_pow_pos k), ← Nat.pow_add]
        exact Nat.le_trans (Nat.pow_le_pow_right (by decide) (by omega)) l1
theorem rR_le {i m : Nat} (e : Int) (b : Bool) (h0 : 0 < m) : rR i m e b ≤ pM i * 2 ^ pF i := by
  unfold rR
  have hk := (rK_b (i := i) (e := e) b h0).1
  have hp := pF_b i
  split
  · omega
  · rename_i q
    have h1 : (rA i m e).toNat + 2 ≤ pM i := by omega
    have h2 := Nat.mul_le_mul_right (2 ^ pF i) h1
    rw [Nat.add_mul] at h2
    rw [Nat.pow_succ] at hk
    omega
/-! the reference's rounding -/
theorem m_176 {i k : Nat} {q : Int} (neg : Int32) : f_X6_round_158 (wI i) neg (iZ (pF i + 1)) (iZ q) (lN k) = f_X6_round_176 (wI i) (lN k) neg (iZ (pF i + 1)) (iZ q) (iZ (pM i + pL i + pF i - 1)) (iZ q + iZ (pF i + 1)) := by
  unfold f_X6_round_158
  by_cases c : i = 0
  · have h1 : wI i = 0 := if_pos c
    have h2 : iZ (pM i + pL i + pF i - 1) = 128 := by unfold pM pL pF; rw [if_pos c, if_pos c, if_pos c]; rfl
    rw [h1, h2, if_pos rfl]
  · have h1 : wI i = 1 := if_neg c
    have h2 : iZ (pM i + pL i + pF i - 1) = 1024 := by unfold pM pL pF; rw [if_neg c, if_neg c, if_neg c]; rfl
    rw [h1, h2, if_neg (by decide)]
theorem m_139 {i m : Nat} {e : Int} (neg : Int32) (b : Bool) (h0 : 0 < m) (hl : m.log2 < 63) (he : -5000 ≤ e) (he2 : e ≤ 5000) : f_X6_round_139 (wI i) neg (iZ (pF i + 1)) (iZ (e + rX i m e)) (lN (rK m (rX i m e) b)) = f_X6_signed (wI i) neg (lN (rR i m e b)) := by
  have hp := pF_b i
  have hr := rX_r (i := i) hl he he2
  have hA := rA_d i m e
  obtain ⟨kb, kb2⟩ := rK_b (i := i) (e := e) b h0
  generalize hK : rK m (rX i m e) b = K at kb kb2 ⊢
  have hR : rR i m e b = if (pM i : Int) - 1 ≤ rA i m e then pM i * 2 ^ pF i else (rA i m e).toNat * 2 ^ pF i + K := by rw [← hK]; rfl
  have hp2 : 2 ^ (pF i + 1) = 2 * 2 ^ pF i := Nat.pow_succ'
  have hpb : 2 ^ pF i ≤ 2 ^ 52 := Nat.pow_le_pow_right (by decide) (by omega)
  have hpp := Nat.two_pow_pos (pF i)
  have hpl : (1 : Int64) <<< ((iZ (pF i + 1)).toInt64 &&& 63) = lN (2 ^ (pF i + 1)) := by
    have := n_shl 1 (k := pF i + 1) (by omega)
    rw [Nat.one_mul] at this
    exact this
  have hpm : iZ (pF i + 1) - 1 = iZ (pF i : Int) := by
    rw [show (1 : Int32) = iZ 1 from rfl, iZ_sub]
    congr 1
    omega
  have hpl2 : (1 : Int64) <<< ((iZ (pF i : Int)).toInt64 &&& 63) = lN (2 ^ pF i) := by
    have := n_shl 1 (k := pF i) (by omega)
    rw [Nat.one_mul] at this
    exact this
  have h158 : ∀ (q : Int) (k : Nat), k < 2 ^ (pF i + 1) → pL i ≤ q → q ≤ 20000 → f_X6_round_158 (wI i) neg (iZ (pF i + 1)) (iZ q) (lN k) = f_X6_signed (wI i) neg (lN (if (pM i : Int) - 1 ≤ q - pL i then pM i * 2 ^ pF i else if k < 2 ^ pF i then k else (q - pL i).toNat * 2 ^ pF i + k)) := by
    intro q k hk hq hq2
    have h176 := m_176 (i := i) (k := k) (q := q) neg
    rw [h176]
    dsimp only [f_X6_round_176, f_X6_round_218, f_X6_round_252]
    rw [iZ_add, hpm, hpl2, le_z, in_z]
    by_cases c : (pM i : Int) - 1 ≤ q - pL i
    · rw [if_neg (fun z => by have := (iZ_le (by omega) (by omega) (by omega) (by omega)).mp z; omega), if_pos c]
    · rw [if_pos ((iZ_le (by omega) (by omega) (by omega) (by omega)).mpr (by omega)), if_neg c]
      by_cases d : k < 2 ^ pF i
      · rw [if_neg (fun z => by have := (n_le (by omega) (by omega)).mp z; omega), if_pos rfl, if_pos d]
      · rw [if_pos ((n_le (by omega) (by omega)).mpr (by omega)), show (1 : Int32) = iZ 1 from rfl, iZ_sub, iZ_add]
        have hz : (iZ (q - pL i + 1)).toInt64 = 0 ↔ q - pL i + 1 = 0 := by
          rw [← Int64.toInt_inj, Int32.toInt_toInt64, iZ_t (by omega) (by omega)]
          exact Iff.rfl
        rw [if_neg (fun y => by have := hz.mp y; omega), if_neg d]
        have hq3 : iZ (q - pL i + 1) = iZ (((q - pL i).toNat + 1 : Nat) : Int) := by congr 1; omega
        rw [hq3, iZ_l (by omega), n_shl _ (by omega), lN_sub (by omega), lN_add, Nat.add_mul]
        congr 2
        omega
  dsimp only [f_X6_round_139, sm_let]
  rw [hpl, hR]
  by_cases c : K = 2 ^ (pF i + 1)
  · rw [if_pos (show lN K = lN (2 ^ (pF i + 1)) by rw [c])]
    have e1 := n_shr (n := K) (k := 1) (by omega) (by decide)
    rw [show ((1 : Nat) : Int) = 1 from rfl, show iZ 1 = (1 : Int32) from rfl] at e1
    rw [e1, show (1 : Int32) = iZ 1 from rfl, iZ_add, h158 _ _ (by omega) (by omega) (by omega)]
    congr 2
    have ek : K / 2 ^ 1 = 2 ^ pF i := by omega
    rw [ek, if_neg (show ¬ 2 ^ pF i < 2 ^ pF i by omega)]
    by_cases d : (pM i : Int) - 1 ≤ rA i m e
    · rw [if_pos d, if_pos (by omega)]
    · rw [if_neg d]
      by_cases f : (pM i : Int) - 1 ≤ e + rX i m e + 1 - pL i
      · rw [if_pos f]
        have : pM i = (rA i m e).toNat + 2 := by omega
        rw [this, Nat.add_mul]
        omega
      · rw [if_neg f]
        have : (e + rX i m e + 1 - pL i).toNat = (rA i m e).toNat + 1 := by omega
        rw [this, Nat.add_mul]
        omega
  · rw [if_neg (fun z => c ((n_eq (by omega) (by omega)).mp z)), h158 _ _ (by omega) (by omega) (by omega)]
    congr 2
    rw [← hA]
    by_cases d : (pM i : Int) - 1 ≤ rA i m e
    · rw [if_pos d, if_pos d]
    · rw [if_neg d, if_neg d]
      by_cases f : K < 2 ^ pF i
      · rw [if_pos f]
        have : (rA i m e).toNat = 0 := by omega
        rw [this]
        omega
      · rw [if_neg f]
theorem m_72 {m x : Nat} (w neg bb P V : Int32) (hm : m < 2 ^ 62) (h0 : 0 < x) (c62 : x ≤ 62) : f_X6_round_72 w neg (lN m) bb P V (iZ (x : Int)) (lN (m / 2 ^ x)) = f_X6_round_139 w neg P V (lN (rE m x (decide (bb ≠ 0)))) := by
  have hdm : m / 2 ^ x * 2 ^ x ≤ m := Nat.div_mul_le_self m _
  have hr2 : m - m / 2 ^ x * 2 ^ x = m % 2 ^ x := by
    have := Nat.div_add_mod m (2 ^ x)
    rw [Nat.mul_comm] at this
    omega
  have hp2 : 2 ^ x = 2 * 2 ^ (x - 1) := by
    rw [← Nat.pow_succ', show (x - 1).succ = x by omega]
  have hp1 : 2 ^ (x - 1) ≤ 2 ^ 61 := Nat.pow_le_pow_right (by decide) (by omega)
  have hml : m % 2 ^ x ≤ m := Nat.mod_le _ _
  have hdl : m / 2 ^ x ≤ m := Nat.div_le_self _ _
  have hh : iZ (x : Int) - 1 = iZ ((x - 1 : Nat) : Int) := by
    rw [show (1 : Int32) = iZ 1 from rfl, iZ_sub]
    congr 1
    omega
  have hn0 : ¬ iZ (x : Int) ≤ (0 : Int32) := fun z => by have := (iZ_le (b := 0) (by omega) (by omega) (by decide) (by decide)).mp z; omega
  have hn63 : ¬ (63 : Int32) ≤ iZ (x : Int) := fun z => by have := (iZ_le (a := 63) (by decide) (by decide) (by omega) (by omega)).mp z; omega
  have hone : (1 : Int64) <<< ((iZ ((x - 1 : Nat) : Int)).toInt64 &&& 63) = lN (2 ^ (x - 1)) := by
    have := n_shl 1 (k := x - 1) (by omega)
    rw [Nat.one_mul] at this
    exact this
  dsimp only [f_X6_round_72, f_X6_round_133, sm_let]
  rw [if_neg hn0, if_neg hn63, n_shl _ (by omega), lN_sub hdm, hr2, hh, hone, n_one (by omega), lN_1]
  unfold rE
  by_cases c1 : 2 ^ (x - 1) < m % 2 ^ x
  · rw [if_pos (show 2 ^ x < 2 * (m % 2 ^ x) ∨ _ from Or.inl (by omega)), if_pos ((n_lt (by omega) (by omega)).mpr c1)]
  · rw [if_neg (fun k => c1 ((n_lt (by omega) (by omega)).mp k))]
    by_cases c2 : m % 2 ^ x = 2 ^ (x - 1)
    · rw [if_pos (show lN (m % 2 ^ x) = lN (2 ^ (x - 1)) from (n_eq (by omega) (by omega)).mpr c2)]
      by_cases c4 : bb = 0
      · rw [if_pos c4]
        by_cases c3 : m / 2 ^ x % 2 = 1
        · rw [if_pos (show lN (m / 2 ^ x % 2) = 1 by rw [c3]; rfl), if_pos (Or.inr ⟨by omega, Or.inr c3⟩)]
        · rw [if_neg (show ¬ lN (m / 2 ^ x % 2) = 1 from fun k => c3 ((n_eq (b := 1) (by omega) (by decide)).mp k)), if_neg]
          rintro (k | ⟨_, k | k⟩)
          · omega
          · exact absurd c4 (of_decide_eq_true k)
          · exact c3 k
      · rw [if_neg c4, if_pos (Or.inr ⟨by omega, Or.inl (decide_eq_true c4)⟩)]
    · rw [if_neg (show ¬ lN (m % 2 ^ x) = lN (2 ^ (x - 1)) from fun k => c2 ((n_eq (by omega) (by omega)).mp k)), if_neg (by omega)]
theorem m_37 {m : Nat} {e X : Int} (w neg bb P : Int32) (hm : m < 2 ^ 62) (h1 : -60 ≤ X) (h2 : X < 7000) : f_X6_round_37 w neg (lN m) (iZ e) bb P (iZ (e + X)) = f_X6_round_139 w neg P (iZ (e + X)) (lN (rK m X (decide (bb ≠ 0)))) := by
  have hd : iZ (e + X) - iZ e = iZ X := by
    rw [iZ_sub]
    congr 1
    omega
  dsimp only [f_X6_round_37, sm_let, rK]
  rw [hd]
  by_cases x0 : X ≤ 0
  · have hx : -iZ X = iZ ((-X).toNat : Int) := by rw [iZ_neg]; congr 1; omega
    rw [if_neg (show ¬ (0 : Int32) < iZ X from fun z => by have := (iZ_lt (a := 0) (by decide) (by decide) (by omega) (by omega)).mp z; omega), hx, n_shl _ (by omega), if_pos x0]
    unfold f_X6_round_72
    rw [if_pos (show iZ X ≤ (0 : Int32) from (iZ_le (b := 0) (by omega) (by omega) (by decide) (by decide)).mpr x0)]
  · obtain ⟨x, rfl⟩ : ∃ x : Nat, X = x := ⟨X.toNat, by omega⟩
    rw [if_neg x0, Int.toNat_natCast, if_pos (show (0 : Int32) < iZ (x : Int) from (iZ_lt (a := 0) (by decide) (by decide) (by omega) (by omega)).mpr (by omega))]
    by_cases c62 : x ≤ 62
    · rw [if_pos (show iZ (x : Int) ≤ (62 : Int32) from (iZ_le (b := 62) (by omega) (by omega) (by decide) (by decide)).mpr (by omega)), n_shr (by omega) (by omega), m_72 w neg bb P _ hm (by omega) c62]
    · rw [if_neg (show ¬ iZ (x : Int) ≤ (62 : Int32) from fun z => by have := (iZ_le (b := 62) (by omega) (by omega) (by decide) (by decide)).mp z; omega), rE_big]
      · unfold f_X6_round_72
        rw [if_neg (show ¬ iZ (x : Int) ≤ (0 : Int32) from fun z => by have := (iZ_le (b := 0) (by omega) (by omega) (by decide) (by decide)).mp z; omega), if_pos (show (63 : Int32) ≤ iZ (x : Int) from (iZ_le (a := 63) (by decide) (by decide) (by omega) (by omega)).mpr (by omega))]
        exact congrArg _ (show (0 : Int64) = lN 0 from rfl)
      · have : 2 ^ 63 ≤ 2 ^ x := Nat.pow_le_pow_right (by decide) (by omega)
        omega
theorem m_round {i m : Nat} {e : Int} (neg bb : Int32) (h0 : 0 < m) (hm : m < 2 ^ 62) (he : -5000 ≤ e) (he2 : e ≤ 5000) : f_X6_round (wI i) neg (lN m) (iZ e) bb = f_X6_signed (wI i) neg (lN (rR i m e (decide (bb ≠ 0)))) := by
  have hl : m.log2 < 62 := (Nat.log2_lt (by omega)).mpr hm
  have hp := pF_b i
  have hr := rX_r (i := i) (m := m) (by omega) he he2
  have hA := rA_d i m e
  have hX := rX_d i m e
  rw [← m_139 neg (decide (bb ≠ 0)) h0 (by omega) he he2, ← m_37 _ _ _ _ hm hr.1 hr.2.1]
  have hq : iZ ((m.log2 : Int) + 1) + iZ e - iZ (pF i + 1) = iZ (m.log2 - pF i + e) := by
    rw [iZ_add, iZ_sub]
    congr 1
    omega
  unfold f_X6_round
  rw [pl_z, le_z, len_z h0 (by omega)]
  simp only [sm_le]
  rw [hq]
  by_cases c : pL i ≤ m.log2 - pF i + e
  · rw [if_pos ((iZ_le (by omega) (by omega) (by omega) (by omega)).mpr c), show (m.log2 : Int) - pF i + e = e + rX i m e by omega]
  · rw [if_neg (fun z => c ((iZ_le (by omega) (by omega) (by omega) (by omega)).mp z)), show e + rX i m e = pL i by omega]
/-! what rounding doesn't see -/
theorem rE_T {N k x : Nat} (hx : 1 ≤ x) (b : Bool) : rE N (x + k) b = rE (N / 2 ^ k) x (decide (N % 2 ^ k ≠ 0) || b) := by
  have e1 : 2 ^ (x + k) = 2 ^ k * 2 ^ x := by rw [Nat.add_comm, Nat.pow_add]
  have e2 : N / 2 ^ (x + k) = N / 2 ^ k / 2 ^ x := by rw [e1, Nat.div_div_eq_div_mul]
  have e3 : N % 2 ^ (x + k) = N % 2 ^ k + 2 ^ k * (N / 2 ^ k % 2 ^ x) := by rw [e1, Nat.mod_mul]
  have hp2 : 2 ^ x = 2 * 2 ^ (x - 1) := by
    rw [← Nat.pow_succ', show (x - 1).succ = x by omega]
  have ht : N % 2 ^ k < 2 ^ k := Nat.mod_lt _ (Nat.two_pow_pos k)
  unfold rE
  rw [e2, e3, e1]
  generalize N / 2 ^ k / 2 ^ x = K
  generalize N / 2 ^ k % 2 ^ x = r
  generalize N % 2 ^ k = t at ht ⊢
  rw [hp2]
  generalize 2 ^ (x - 1) = p
  generalize 2 ^ k = c at ht ⊢
  have hh : 2 ^ x = 2 ^ x := rfl
  have hcp : c * (2 * p) = 2 * (c * p) := by rw [Nat.mul_left_comm]
  rw [hcp]
  have hiff : (2 * (c * p) < 2 * (t + c * r) ∨ 2 * (t + c * r) = 2 * (c * p) ∧ (b = true ∨ K % 2 = 1)) ↔ (2 * p < 2 * r ∨ 2 * r = 2 * p ∧ ((decide (t ≠ 0) || b) = true ∨ K % 2 = 1)) := by
    rcases Nat.lt_trichotomy r p with h | h | h
    · obtain ⟨d, rfl⟩ : ∃ d, p = r + 1 + d := ⟨p - r - 1, by omega⟩
      have hmu : c * (r + 1 + d) = c * r + c + c * d := by rw [Nat.mul_add, Nat.mul_add, Nat.mul_one]
      rw [hmu]
      constructor
      · rintro (q | ⟨q, _⟩) <;> omega
      · rintro (q | ⟨q, _⟩) <;> omega
    · subst h
      rw [Bool.or_eq_true, decide_eq_true_eq]
      by_cases t0 : t = 0
      · subst t0
        constructor
        · rintro (q | ⟨_, q | q⟩)
          · omega
          · exact Or.inr ⟨rfl, Or.inl (Or.inr q)⟩
          · exact Or.inr ⟨rfl, Or.inr q⟩
        · rintro (q | ⟨_, (q | q) | q⟩)
          · omega
          · exact absurd rfl q
          · exact Or.inr ⟨by omega, Or.inl q⟩
          · exact Or.inr ⟨by omega, Or.inr q⟩
      · exact ⟨fun _ => Or.inr ⟨rfl, Or.inl (Or.inl t0)⟩, fun _ => Or.inl (by omega)⟩
    · obtain ⟨d, rfl⟩ : ∃ d, r = p + 1 + d := ⟨r - p - 1, by omega⟩
      have hmu : c * (p + 1 + d) = c * p + c + c * d := by rw [Nat.mul_add, Nat.mul_add, Nat.mul_one]
      rw [hmu]
      exact ⟨fun _ => Or.inl (by omega), fun _ => Or.inl (by omega)⟩
  by_cases q : (2 * p < 2 * r ∨ 2 * r = 2 * p ∧ ((decide (t ≠ 0) || b) = true ∨ K % 2 = 1))
  · rw [if_pos q, if_pos (hiff.mpr q)]
  · rw [if_neg q, if_neg (fun z => q (hiff.mp z))]
theorem rR_T {i N k : Nat} {e : Int} {b : Bool} (h0 : 0 < N / 2 ^ k) (h : (N % 2 ^ k ≠ 0 ∨ b = true) → pF i + 1 ≤ (N / 2 ^ k).log2) : rR i N e b = rR i (N / 2 ^ k) (e + k) (decide (N % 2 ^ k ≠ 0) || b) := by
  have hk := Nat.two_pow_pos k
  have hN : 2 ^ k ≤ N := by
    have := (Nat.le_div_iff_mul_le (k := 2 ^ k) (x := 1) (y := N) hk).mp h0
    omega
  have hl := lg_div hN
  have hX : rX i N e = rX i (N / 2 ^ k) (e + k) + k := by
    rw [rX_d, rX_d]
    omega
  have hA : rA i N e = rA i (N / 2 ^ k) (e + k) := by
    rw [rA_d, rA_d, hX]
    omega
  have hX2 := rX_d i (N / 2 ^ k) (e + k)
  have hK : rK N (rX i N e) b = rK (N / 2 ^ k) (rX i (N / 2 ^ k) (e + k)) (decide (N % 2 ^ k ≠ 0) || b) := by
    rw [hX]
    unfold rK
    by_cases c : 1 ≤ rX i (N / 2 ^ k) (e + k)
    · obtain ⟨x, hx⟩ : ∃ x : Nat, rX i (N / 2 ^ k) (e + k) = x := ⟨(rX i (N / 2 ^ k) (e + k)).toNat, by omega⟩
      rw [hx] at c ⊢
      rw [if_neg (by omega), if_neg (by omega), Int.toNat_natCast, show ((x : Int) + (k : Int)).toNat = x + k by omega, rE_T (by omega)]
    · have ex : N % 2 ^ k = 0 ∧ b = false := by
        constructor
        · apply Decidable.byContradiction
          intro q
          have := h (Or.inl q)
          omega
        · cases b
          · rfl
          · have := h (Or.inr rfl)
            omega
      obtain ⟨ex1, ex2⟩ := ex
      subst ex2
      obtain ⟨y, hy⟩ : ∃ y : Nat, rX i (N / 2 ^ k) (e + k) = -(y : Int) := ⟨(-rX i (N / 2 ^ k) (e + k)).toNat, by omega⟩
      rw [hy, if_pos (c := -(y : Int) ≤ 0) (by omega), show (- -(y : Int)).toNat = y by omega]
      have hn : N = N / 2 ^ k * 2 ^ k := by
        have := Nat.div_add_mod N (2 ^ k)
        rw [ex1, Nat.mul_comm] at this
        omega
      by_cases d : -(y : Int) + k ≤ 0
      · rw [if_pos d]
        have e1 : y = k + (-(-(y : Int) + k)).toNat := by omega
        generalize (-(-(y : Int) + k)).toNat = z at e1
        rw [e1, Nat.pow_add, ← Nat.mul_assoc, ← hn]
      · rw [if_neg d]
        generalize hz : (-(y : Int) + k).toNat = z
        have e1 : k = y + z := by omega
        have e2 : N / 2 ^ k * 2 ^ y * 2 ^ z = N := by rw [Nat.mul_assoc, ← Nat.pow_add, ← e1, ← hn]
        generalize N / 2 ^ k * 2 ^ y = M at e2
        unfold rE
        rw [← e2, Nat.mul_mod_left, Nat.mul_div_cancel _ (Nat.two_pow_pos z), if_neg]
        have := Nat.two_pow_pos z
        omega
  unfold rR
  rw [hA, hK]
theorem rE_S {n x : Nat} (hx : 2 ≤ x) : rE (n ||| 1) x false = rE n x true := by
  have hp2 : 2 ^ x = 4 * 2 ^ (x - 2) := by
    have := Nat.pow_add 2 2 (x - 2)
    rw [show 2 + (x - 2) = x by omega] at this
    exact this
  have hpp := Nat.two_pow_pos (x - 2)
  have hm : n % 2 ^ x % 2 = n % 2 := Nat.mod_mod_of_dvd n (by rw [hp2]; exact ⟨2 * 2 ^ (x - 2), by omega⟩)
  have hlt : n % 2 ^ x < 2 ^ x := Nat.mod_lt _ (by omega)
  rw [or_one]
  by_cases q : n % 2 = 0
  · rw [if_pos q]
    have hn := Nat.div_add_mod n (2 ^ x)
    have h1 : (n + 1) / 2 ^ x = n / 2 ^ x := by
      rw [show n + 1 = 2 ^ x * (n / 2 ^ x) + (n % 2 ^ x + 1) by omega, Nat.mul_add_div (by omega), Nat.div_eq_of_lt (a := n % 2 ^ x + 1) (by omega)]
      omega
    have h2 : (n + 1) % 2 ^ x = n % 2 ^ x + 1 := by
      have := Nat.mul_add_mod (2 ^ x) (n / 2 ^ x) (n % 2 ^ x + 1)
      rw [show 2 ^ x * (n / 2 ^ x) + (n % 2 ^ x + 1) = n + 1 by omega] at this
      rw [this, Nat.mod_eq_of_lt (by omega)]
    unfold rE
    rw [h1, h2]
    generalize n / 2 ^ x = K
    generalize n % 2 ^ x = r at hm hlt ⊢
    generalize 2 ^ x = P at hp2 hlt ⊢
    by_cases c : P ≤ 2 * r
    · rw [if_pos (Or.inl (by omega)), if_pos]
      by_cases d : P = 2 * r
      · exact Or.inr ⟨d.symm, Or.inl rfl⟩
      · exact Or.inl (by omega)
    · rw [if_neg (by omega), if_neg (by omega)]
  · rw [if_neg q]
    unfold rE
    generalize n / 2 ^ x = K
    generalize n % 2 ^ x = r at hm hlt ⊢
    generalize 2 ^ x = P at hp2 hlt ⊢
    by_cases c : P < 2 * r
    · rw [if_pos (Or.inl c), if_pos (Or.inl c)]
    · rw [if_neg (by omega), if_neg (by omega)]
theorem rR_S {i n : Nat} {e : Int} (h : pF i + 2 ≤ n.log2) : rR i (n ||| 1) e false = rR i n e true := by
  have hn : 2 ≤ n := by
    have : n ≠ 0 := by
      intro z
      rw [z, Nat.log2_zero] at h
      omega
    have := Nat.log2_self_le this
    have : 2 ^ 1 ≤ 2 ^ n.log2 := Nat.pow_le_pow_right (by decide) (by omega)
    omega
  have hor := or_one n
  have hl : (n ||| 1).log2 = n.log2 := by
    have a := lg_div (m := n) (k := 1) (by omega)
    have b := lg_div (m := n ||| 1) (k := 1) (by rw [hor]; split <;> omega)
    have c : (n ||| 1) / 2 ^ 1 = n / 2 ^ 1 := by rw [hor]; split <;> omega
    rw [c] at b
    omega
  have hX : rX i (n ||| 1) e = rX i n e := by rw [rX_d, rX_d, hl]
  have hX2 := rX_d i n e
  have hA : rA i (n ||| 1) e = rA i n e := by rw [rA_d, rA_d, hX]
  have hK : rK (n ||| 1) (rX i n e) false = rK n (rX i n e) true := by
    unfold rK
    rw [if_neg (by omega), if_neg (by omega), rE_S (by omega)]
  unfold rR
  rw [hX, hA, hK]
theorem rR_SX {i n : Nat} {e : Int} (s : Bool) (h : s = true → pF i + 2 ≤ n.log2) : rR i (if s = true then n ||| 1 else n) e false = rR i n e s := by
  cases s
  · rfl
  · exact rR_S (h rfl)
/-! signs -/
theorem sg_eq {i n : Nat} (neg : Int32) (h : n ≤ pM i * 2 ^ pF i) : f_X1_signed i neg (lN n) = f_X6_signed (wI i) neg (lN n) := by
  unfold f_X1_signed f_X6_signed wI kSi
  by_cases c : i = 0
  · simp only [if_pos c, if_true]
    by_cases d : neg = 0
    · rw [if_pos d, if_pos d]
    · rw [if_neg d, if_neg d]
      have hn : n < 2 ^ 31 := by
        unfold pM pF at h
        rw [if_pos c, if_pos c] at h
        omega
      rw [show (-2147483648 : Int64) = lN (2 ^ 31 * (2 ^ 33 - 1)) from by decide, show (2147483648 : Int64) = lN (2 ^ 31 * 1) from by decide, n_or (by omega) (by decide), n_or (by omega) (by decide), Nat.or_comm, ← Nat.two_pow_add_eq_or_of_lt hn, Nat.or_comm, ← Nat.two_pow_add_eq_or_of_lt hn, lN_i]
      apply Int64.toInt_inj.mp
      rw [Int32.toInt_toInt64]
      have a : (lN (2 ^ 31 * (2 ^ 33 - 1) + n)).toInt = (n : Int) - 2 ^ 31 := by
        have c := BitVec.toInt_eq_toNat_cond (lN (2 ^ 31 * (2 ^ 33 - 1) + n)).toBitVec
        rw [n_tn (by omega)] at c
        show (lN (2 ^ 31 * (2 ^ 33 - 1) + n)).toBitVec.toInt = _
        rw [c]
        split <;> omega
      have b : (nI (2 ^ 31 * 1 + n)).toInt = (n : Int) - 2 ^ 31 := by
        have c := BitVec.toInt_eq_toNat_cond (nI (2 ^ 31 * 1 + n)).toBitVec
        have d : (nI (2 ^ 31 * 1 + n)).toBitVec.toNat = 2 ^ 31 * 1 + n := by
          show (BitVec.ofNat 32 (2 ^ 31 * 1 + n)).toNat = _
          rw [BitVec.toNat_ofNat, Nat.mod_eq_of_lt (by omega)]
        rw [d] at c
        show (nI (2 ^ 31 * 1 + n)).toBitVec.toInt = _
        rw [c]
        split <;> omega
      rw [a, b]
  · simp only [if_neg c]
    rw [if_neg (show ¬ (1 : Int32) = 0 by decide)]
/-- both round to one answer -/
theorem xm_round {i mx mm : Nat} {ex em : Int} (neg bb : Int32) (h0 : 0 < mx) (hx : mx < 2 ^ 63) (hm0 : 0 < mm) (hm : mm < 2 ^ 62) (e1 : -5000 ≤ ex) (e2 : ex ≤ 5000) (e3 : -5000 ≤ em) (e4 : em ≤ 5000) (h : rR i mx ex false = rR i mm em (decide (bb ≠ 0))) : f_X1_rounded i neg (iZ ex) (lN mx) = f_X6_round (wI i) neg (lN mm) (iZ em) bb := by
  rw [x_rounded neg h0 hx e1 e2, m_round neg bb hm0 hm e3 e4, h, sg_eq neg (rR_le _ _ hm0)]
