/-! quotients -/
theorem lN_rem {X b : Nat} (hX : X < 2 ^ 63) (hb : b < 2 ^ 63) : lN X - lN X / lN b * lN b = lN (X % b) := by
  rw [n_div hX hb, lN_mul, lN_sub (Nat.div_mul_le_self _ _)]
  congr 1
  have := Nat.div_add_mod X b
  rw [Nat.mul_comm] at this
  omega
theorem dm_step {N b K : Nat} (hb : 0 < b) : N * K / b = N / b * K + N % b * K / b ∧ N * K % b = N % b * K % b := by
  have e : N * K = b * (N / b * K) + N % b * K := by
    rw [← Nat.mul_assoc, ← Nat.add_mul, Nat.div_add_mod]
  constructor
  · conv => lhs; rw [e]
    rw [Nat.mul_add_div hb]
  · conv => lhs; rw [e]
    rw [Nat.mul_add_mod]
theorem x_lq21 {a b : Nat} (hb0 : 2 ^ 52 ≤ b) (hb : b < 2 ^ 53) : ∀ (n k : Nat), k + n = 7 → k ≤ 6 → f_X1_longQuotient_21 n (lN b) (lN (a * 2 ^ (10 * k) / b)) (lN (a * 2 ^ (10 * k) % b)) (iZ (k : Int)) = if a * 2 ^ 60 % b = 0 then lN (a * 2 ^ 60 / b) else lN (a * 2 ^ 60 / b) ||| 1 := by
  intro n
  induction n with
  | zero => intro k h1 h2; omega
  | succ n ih =>
    intro k h1 h2
    have hr : a * 2 ^ (10 * k) % b < b := Nat.mod_lt _ (by omega)
    rw [f_X1_longQuotient_21]
    simp only [sm_le]
    by_cases c : k = 6
    · subst c
      rw [if_pos (show (6 : Int32) ≤ iZ ((6 : Nat) : Int) by decide), show 10 * 6 = 60 from rfl]
      rw [show 10 * 6 = 60 from rfl] at hr
      by_cases z : a * 2 ^ 60 % b = 0
      · rw [if_pos z, if_pos (show lN (a * 2 ^ 60 % b) = 0 by rw [z]; rfl)]
      · rw [if_neg z, if_neg (show ¬ lN (a * 2 ^ 60 % b) = 0 from fun q => z ((n_eq (b := 0) (by omega) (by decide)).mp q))]
    · rw [if_neg (show ¬ (6 : Int32) ≤ iZ (k : Int) from fun q => by have := (iZ_le (a := 6) (by decide) (by decide) (by omega) (by omega)).mp q; omega)]
      have l10 : ∀ z, lN z <<< ((10 : Int32).toInt64 &&& 63) = lN (z * 2 ^ 10) := fun z => n_shl z (k := 10) (by decide)
      rw [l10, l10, lN_rem (by omega) (by omega), n_div (by omega) (by omega), lN_add, show (1 : Int32) = iZ 1 from rfl, iZ_add]
      have e1 : a * 2 ^ (10 * (k + 1)) = a * 2 ^ (10 * k) * 2 ^ 10 := by
        rw [Nat.mul_assoc, ← Nat.pow_add]
        congr 2
      have hs := dm_step (N := a * 2 ^ (10 * k)) (b := b) (K := 2 ^ 10) (by omega)
      rw [← e1] at hs
      rw [← hs.1, ← hs.2, show ((k : Int) + 1) = ((k + 1 : Nat) : Int) by omega]
      exact ih (k + 1) (by omega) (by omega)
theorem x_lq {a b : Nat} (ha0 : 2 ^ 52 ≤ a) (ha : a < 2 ^ 53) (hb0 : 2 ^ 52 ≤ b) (hb : b < 2 ^ 53) : f_X1_longQuotient (lN a) (lN b) = lN (if decide (a * 2 ^ 60 % b ≠ 0) = true then a * 2 ^ 60 / b ||| 1 else a * 2 ^ 60 / b) := by
  unfold f_X1_longQuotient
  rw [if_neg (show ¬ lN b = 0 from fun q => by have := (n_eq (b := 0) (by omega) (by decide)).mp q; omega)]
  simp only [sm_le]
  have h := x_lq21 (a := a) hb0 hb 7 0 (by decide) (by decide)
  rw [Nat.mul_zero, Nat.pow_zero, Nat.mul_one] at h
  rw [n_div (by omega) (by omega), lN_mul, lN_sub (Nat.div_mul_le_self _ _), show a - a / b * b = a % b by have := Nat.div_add_mod a b; rw [Nat.mul_comm] at this; omega, show (((6 : Int32).toInt - Int32.toInt 0).toNat + 1) = 7 from rfl, show (0 : Int32) = iZ ((0 : Nat) : Int) from rfl, h]
  have hq : a * 2 ^ 60 / b < 2 ^ 62 := by
    rw [Nat.div_lt_iff_lt_mul (by omega)]
    omega
  by_cases z : a * 2 ^ 60 % b = 0
  · rw [if_pos z, if_neg (by simp [z])]
  · rw [if_neg z, if_pos (by simp [z]), n_or1 (by omega)]
theorem m_q172 {w t : Int32} {v : sm_S} {a b : Nat} {E : Int32} (hb0 : 2 ^ 60 ≤ b) (hb : b < 2 ^ 61) (h18 : v.2.1 18 1 = lN b) (hE : v.1 16 0 - v.1 16 1 - 59 = E) : ∀ (n k q r : Nat), k + n = 61 → k ≤ 60 → a * 2 ^ k = 2 * (q * b) + r → r < 2 * b → f_X6_quotient_172 n w t v (lN q) (lN r) (iZ (k : Int)) = (f_X6_round w t (lN (a * 2 ^ 59 / b)) E (if a * 2 ^ 59 % b = 0 then 0 else 1), v) := by
  intro n
  induction n with
  | zero => intro k q r h1 h2; omega
  | succ n ih =>
    intro k q r h1 h2 h3 h4
    rw [f_X6_quotient_172]
    simp only [sm_le]
    rw [tz0, tz1, hE, h18]
    by_cases c : k = 60
    · subst c
      have e0 : a * 2 ^ 60 = 2 * (a * 2 ^ 59) := by
        rw [show (60 : Nat) = 59 + 1 from rfl, Nat.pow_succ, ← Nat.mul_assoc, Nat.mul_comm]
      have e1 : a * 2 ^ 59 = b * q + r / 2 := by
        rw [e0] at h3
        rw [Nat.mul_comm b q]
        generalize a * 2 ^ 59 = A at h3 ⊢
        omega
      have e2 : a * 2 ^ 59 / b = q := by rw [e1, Nat.mul_add_div (by omega), Nat.div_eq_of_lt (by omega)]; rfl
      have e3 : a * 2 ^ 59 % b = r / 2 := by rw [e1, Nat.mul_add_mod, Nat.mod_eq_of_lt (by omega)]
      rw [if_pos (show (60 : Int32) ≤ iZ ((60 : Nat) : Int) by decide), e2, e3]
      unfold f_X6_quotient_260
      by_cases z : r = 0
      · rw [if_pos (show lN r = 0 by rw [z]; rfl), if_pos (by omega)]
      · rw [if_neg (show ¬ lN r = 0 from fun y => z ((n_eq (b := 0) (by omega) (by decide)).mp y)), if_neg (by omega)]
    · rw [if_neg (show ¬ (60 : Int32) ≤ iZ (k : Int) from fun y => by have := (iZ_le (a := 60) (by decide) (by decide) (by omega) (by omega)).mp y; omega)]
      have l1 : ∀ z, lN z <<< ((1 : Int32).toInt64 &&& 63) = lN (z * 2 ^ 1) := fun z => n_shl z (k := 1) (by decide)
      have ek : a * 2 ^ (k + 1) = 2 * (a * 2 ^ k) := by rw [Nat.pow_succ, ← Nat.mul_assoc, Nat.mul_comm]
      have ek2 : iZ (k : Int) + 1 = iZ ((k + 1 : Nat) : Int) := by
        rw [show (1 : Int32) = iZ 1 from rfl, iZ_add]
        rfl
      unfold f_X6_quotient_214
      simp only [sm_le]
      rw [ek2]
      by_cases d : r < b
      · rw [if_pos ((n_lt (by omega) (by omega)).mpr d), l1, l1]
        refine ih (k + 1) _ _ (by omega) (by omega) ?_ (by omega)
        rw [ek, h3, show q * 2 ^ 1 * b = 2 * (q * b) by rw [Nat.pow_one, Nat.mul_comm q 2, Nat.mul_assoc]]
        omega
      · rw [if_neg (fun y => d ((n_lt (by omega) (by omega)).mp y)), lN_sub (by omega), l1, l1, lN_1]
        refine ih (k + 1) _ _ (by omega) (by omega) ?_ (by omega)
        rw [ek, h3, Nat.add_mul, show q * 2 ^ 1 * b = 2 * (q * b) by rw [Nat.pow_one, Nat.mul_comm q 2, Nat.mul_assoc]]
        omega
def quoX (a b : Nat) : Nat := if decide (a * 2 ^ 60 % b ≠ 0) = true then a * 2 ^ 60 / b ||| 1 else a * 2 ^ 60 / b
theorem quoX_d {a b : Nat} : quoX a b = if decide (a * 2 ^ 59 * 2 % b ≠ 0) = true then a * 2 ^ 59 * 2 / b ||| 1 else a * 2 ^ 59 * 2 / b := by
  have e0 : a * 2 ^ 60 = a * 2 ^ 59 * 2 := by
    rw [show (60 : Nat) = 59 + 1 from rfl, Nat.pow_succ, ← Nat.mul_assoc]
  unfold quoX
  rw [e0]
theorem quo_core {i N b : Nat} {e : Int} (hb : 0 < b) (hN : 2 ^ 58 * b ≤ N) : rR i (if decide (N * 2 % b ≠ 0) = true then N * 2 / b ||| 1 else N * 2 / b) (e - 60) false = rR i (N / b) (e - 59) (decide (N % b ≠ 0)) := by
  have hf := pF_b i
  obtain ⟨s1, s2⟩ := dm_step (N := N) (b := b) (K := 2) hb
  have hr : N % b < b := Nat.mod_lt _ hb
  have hq : 2 ^ 58 ≤ N / b := by
    rw [Nat.le_div_iff_mul_le hb]
    exact hN
  generalize N / b = q at s1 hq ⊢
  generalize N % b = r at s1 s2 hr ⊢
  have k1 : r * 2 / b = (if r * 2 < b then 0 else 1) ∧ r * 2 % b = (if r * 2 < b then r * 2 else r * 2 - b) := by
    by_cases c : r * 2 < b
    · rw [if_pos c, if_pos c]
      exact ⟨Nat.div_eq_of_lt c, Nat.mod_eq_of_lt c⟩
    · rw [if_neg c, if_neg c]
      have e1 : r * 2 = b * 1 + (r * 2 - b) := by omega
      constructor
      · conv => lhs; rw [e1]
        rw [Nat.mul_add_div (by omega), Nat.div_eq_of_lt (by omega)]
      · conv => lhs; rw [e1]
        rw [Nat.mul_add_mod, Nat.mod_eq_of_lt (by omega)]
  rw [k1.1] at s1
  rw [k1.2] at s2
  generalize N * 2 / b = Q at s1 ⊢
  generalize N * 2 % b = R at s2 ⊢
  have hQ2 : Q / 2 ^ 1 = q := by rw [s1]; split <;> omega
  have hl : 59 ≤ Q.log2 := (Nat.le_log2 (by omega)).mpr (by omega)
  have hl2 : 58 ≤ (Q / 2 ^ 1).log2 := (Nat.le_log2 (by omega)).mpr (by omega)
  rw [rR_SX _ (fun _ => by omega), rR_T (k := 1) (by omega) (fun _ => by omega), hQ2]
  have hd : (decide (Q % 2 ^ 1 ≠ 0) || decide (R ≠ 0)) = decide (r ≠ 0) := by
    rw [← Bool.decide_or]
    apply decide_eq_decide.mpr
    rw [s1, s2]
    by_cases c : r * 2 < b
    · rw [if_pos c, if_pos c]
      omega
    · rw [if_neg c, if_neg c]
      omega
  rw [hd, show e - 60 + ((1 : Nat) : Int) = e - 59 by omega]
theorem quot_r {i a b : Nat} {e : Int} (ha0 : 2 ^ 52 ≤ a) (hb0 : 2 ^ 52 ≤ b) (hb : b < 2 ^ 53) : rR i (quoX a b) (e - 60) false = rR i (a * 2 ^ 59 / b) (e - 59) (decide (a * 2 ^ 59 % b ≠ 0)) := by
  rw [quoX_d]
  have hN : 2 ^ 58 * b ≤ a * 2 ^ 59 := by omega
  generalize a * 2 ^ 59 = N at hN ⊢
  exact quo_core (by omega) hN
theorem quoX_b {a b : Nat} (ha0 : 2 ^ 52 ≤ a) (ha : a < 2 ^ 53) (hb0 : 2 ^ 52 ≤ b) (hb : b < 2 ^ 53) : 0 < quoX a b ∧ quoX a b < 2 ^ 63 := by
  have hq3 : 2 ^ 58 ≤ a * 2 ^ 60 / b := by
    rw [Nat.le_div_iff_mul_le (by omega)]
    omega
  have hq4 : a * 2 ^ 60 / b < 2 ^ 62 := by
    rw [Nat.div_lt_iff_lt_mul (by omega)]
    omega
  have hodd := or_one (a * 2 ^ 60 / b)
  unfold quoX
  generalize a * 2 ^ 60 / b = Q at hodd hq3 hq4 ⊢
  split
  · rw [hodd]
    split <;> omega
  · omega
theorem quot_fin {i n m : Nat} {g h : Bool} {u : sm_S} (t : Int32) (h0 : 0 < n) (hn : n < pIn i) (h1 : 0 < m) (hm : m < pIn i) (hT : T1 u 0 i n g) (hU : T1 u 1 i m h) : sm_let (f_X6_spread u 0) (fun u150_3 => sm_let (f_X6_spread u150_3 1) (fun u155_4 => sm_let (u155_4.2.1 18 (Int32.toNatClampNeg 0)) (fun y167_5 => f_X6_quotient_172 (((60 : Int32).toInt - Int32.toInt 0).toNat + 1) (wI i) t u155_4 0 y167_5 0))) = (f_X1_rounded i t (f_X1_exponent i (mkf i g n) - f_X1_exponent i (mkf i h m) - 60) (f_X1_longQuotient (f_X1_significand i (mkf i g n)) (f_X1_significand i (mkf i h m))), f_X6_spread (f_X6_spread u 0) 1) := by
  obtain ⟨hA, hB, -⟩ := spr2 h0 hn h1 hm hT hU
  obtain ⟨a1, a2, a3, a4, a5⟩ := sG_b h0 hn
  obtain ⟨b1, b2, b3, b4, b5⟩ := sG_b h1 hm
  rw [show (((60 : Int32).toInt - Int32.toInt 0).toNat + 1) = 61 from rfl]
  simp only [sm_le]
  generalize f_X6_spread (f_X6_spread u 0) 1 = v at hA hB ⊢
  rw [tz0, hA.2.1, x_exp h0 hn, x_exp h1 hm, x_sgn h0 hn, x_sgn h1 hm, x_lq a1 a2 b1 b2]
  rw [show (if decide (sG i n * 2 ^ 60 % sG i m ≠ 0) = true then sG i n * 2 ^ 60 / sG i m ||| 1 else sG i n * 2 ^ 60 / sG i m) = quoX (sG i n) (sG i m) from rfl]
  have hE : v.1 16 0 - v.1 16 1 - 59 = iZ (eP i n - eP i m - 59) := by
    rw [hA.2.2, hB.2.2, iZ_sub, show (59 : Int32) = iZ 59 from rfl, iZ_sub]
    congr 1
    omega
  have hl := m_q172 (w := wI i) (t := t) (v := v) (a := sG i n * 2 ^ 8) (b := sG i m * 2 ^ 8) (by omega) (by omega) hB.2.1 hE 61 0 0 (sG i n * 2 ^ 8) (by decide) (by decide) (by omega) (by omega)
  rw [show (0 : Int64) = lN 0 from rfl, show (0 : Int32) = iZ ((0 : Nat) : Int) from rfl, hl]
  rw [show sG i n * 2 ^ 8 * 2 ^ 59 = sG i n * 2 ^ 59 * 2 ^ 8 by omega, Nat.mul_div_mul_right _ _ (by decide), Nat.mul_mod_mul_right]
  have hx : iZ (eP i n) - iZ (eP i m) - 60 = iZ (eP i n - eP i m - 60) := by rw [iZ_sub, show (60 : Int32) = iZ 60 from rfl, iZ_sub]
  have hr := quot_r (i := i) (e := eP i n - eP i m) a1 b1 b2
  have hb := quoX_b a1 a2 b1 b2
  have hq : 2 ^ 58 ≤ sG i n * 2 ^ 59 / sG i m := by
    rw [Nat.le_div_iff_mul_le (by omega)]
    omega
  have hq2 : sG i n * 2 ^ 59 / sG i m < 2 ^ 61 := by
    rw [Nat.div_lt_iff_lt_mul (by omega)]
    omega
  rw [hx]
  congr 1
  symm
  refine xm_round t _ hb.1 hb.2 (by omega) (by omega) (by omega) (by omega) (by omega) (by omega) ?_
  rw [hr]
  congr 1
  by_cases z : sG i n * 2 ^ 59 % sG i m = 0
  · simp [z]
  · rw [if_neg (show ¬ sG i n * 2 ^ 59 % sG i m * 2 ^ 8 = 0 by omega)]
    simp [z]
theorem cls2 (i n : Nat) : ((pIn i < n) ∧ (n ≤ pIn i) = False ∧ (n = pIn i) = False ∧ (n = 0) = False ∧ fS i n = 3) ∨ ((pIn i < n) = False ∧ (n ≤ pIn i) = True ∧ (n = pIn i) = True ∧ (n = 0) = False ∧ fS i n = 2) ∨ ((pIn i < n) = False ∧ (n ≤ pIn i) = True ∧ (n = pIn i) = False ∧ (n = 0) = True ∧ fS i n = 0) ∨ ((0 < n ∧ n < pIn i) ∧ (n ≤ pIn i) = True ∧ (n = pIn i) = False ∧ (n = 0) = False ∧ fS i n = 1) := by
  have := pIn_pos i
  simp only [eq_iff_iff, iff_true, iff_false]
  rcases fS_c i n with ⟨a, b⟩ | ⟨a, b⟩ | ⟨a, a2, b⟩ | ⟨a, a2, b⟩
  · exact Or.inl ⟨by omega, by omega, by omega, by omega, b⟩
  · exact Or.inr (Or.inl ⟨by omega, by omega, by omega, by omega, b⟩)
  · exact Or.inr (Or.inr (Or.inl ⟨by omega, by omega, by omega, by omega, b⟩))
  · exact Or.inr (Or.inr (Or.inr ⟨by omega, by omega, by omega, by omega, b⟩))
theorem xm_quot {i n m : Nat} {g h : Bool} (σ : sm_S) (hn : n < 2 ^ fB i) (hm : m < 2 ^ fB i) : ∃ τ, f_X6_quotient σ (wI i) (mkf i g n) (mkf i h m) = (f_X1_quotient i (mkf i g n) (mkf i h m), τ) ∧ sq τ σ := by
  obtain ⟨hT, hU, hs⟩ := take2 (g := g) (h := h) σ hn hm
  have hx := fun (q : 0 < n) (q2 : n < pIn i) (q3 : 0 < m) (q4 : m < pIn i) => (spr2 q q2 q3 q4 hT hU).2.2.tr hs
  have hy := fun (t : Int32) (q : 0 < n) (q2 : n < pIn i) (q3 : 0 < m) (q4 : m < pIn i) => quot_fin t q q2 q3 q4 hT hU
  unfold f_X6_quotient f_X1_quotient f_X1_quotient_32 f_X1_quotient_53
  rw [sm_le, sm_le]
  generalize f_X6_take (f_X6_take σ 0 (mkf i g n) (wI i)) 1 (mkf i h m) (wI i) = u at hT hU hs hx hy ⊢
  simp only [tz0, tz1, hT.2.1, hU.2.1, x_nan0 hn, x_nan0 hm, x_neg hn, x_neg hm, sgI_eq', x_inf0 hn, x_inf0 hm, x_zero0 hn, x_zero0 hm]
  have key : ∀ t, ∃ τ, f_X6_quotient_35 (wI i) u t = (if n ≤ pIn i then (if m ≤ pIn i then (if ¬ n = pIn i then (if ¬ n = 0 then f_X1_quotient_71 i (mkf i g n) (mkf i h m) t else if ¬ m = 0 then f_X1_quotient_71 i (mkf i g n) (mkf i h m) t else kNa i) else if ¬ m = pIn i then (if ¬ n = 0 then f_X1_quotient_71 i (mkf i g n) (mkf i h m) t else if ¬ m = 0 then f_X1_quotient_71 i (mkf i g n) (mkf i h m) t else kNa i) else kNa i) else kNa i) else kNa i, τ) ∧ sq τ σ := by
    intro t
    unfold f_X6_quotient_35 f_X6_quotient_88 f_X1_quotient_71 f_X1_quotient_89 f_X1_quotient_116 f_X6_quotient_82 f_X6_quotient_107 f_X6_quotient_139
    rcases cls2 i n with ⟨A1, A2, A3, A4, A5⟩ | ⟨A1, A2, A3, A4, A5⟩ | ⟨A1, A2, A3, A4, A5⟩ | ⟨A1, A2, A3, A4, A5⟩ <;> rcases cls2 i m with ⟨B1, B2, B3, B4, B5⟩ | ⟨B1, B2, B3, B4, B5⟩ | ⟨B1, B2, B3, B4, B5⟩ | ⟨B1, B2, B3, B4, B5⟩
    case inr.inr.inr.inr.inr.inr =>
      rw [hy t A1.1 A1.2 B1.1 B1.2]
      simp (decide := true) only [tz0, tz1, hT.1, hU.1, A2, A3, A4, A5, B2, B3, B4, B5, x_inf0 hn, x_inf0 hm, x_zero0 hn, x_zero0 hm, if_true, if_false, not_true_eq_false, not_false_eq_true, sm_le]
      exact ⟨_, rfl, hx A1.1 A1.2 B1.1 B1.2⟩
    all_goals simp (decide := true) only [tz0, tz1, hT.1, hU.1, A2, A3, A4, A5, B2, B3, B4, B5, x_inf0 hn, x_inf0 hm, x_zero0 hn, x_zero0 hm, if_true, if_false, not_true_eq_false, not_false_eq_true, no_n, sIn, sZe]
    all_goals exact ⟨u, rfl, hs⟩
  by_cases gh : g = h
  · simp only [if_pos gh]
    exact key 0
  · simp only [if_neg gh]
    exact key 1
