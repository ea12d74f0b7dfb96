/-! well formed numbers with a point: their sign and bits, and one NaN for all -/
def wf (i : Nat) (x : Int64) : Prop := ∃ g n, n < 2 ^ fB i ∧ x = mkf i g n ∧ (pIn i < n → x = kNa i)
theorem wf_na (i : Nat) : wf i (kNa i) := ⟨false, pNa i, (pNa_lt i).2, kNa_m i, fun _ => rfl⟩
theorem wf_mk {i n : Nat} {g : Bool} (h : n ≤ pIn i) : wf i (mkf i g n) := ⟨g, n, by have := fB_lt i; omega, rfl, fun q => by omega⟩
theorem wf_0 (i : Nat) : wf i 0 := wf_mk (g := false) (n := 0) (Nat.zero_le _)
theorem wf_sg {i n : Nat} {t : Int32} (h : n ≤ pIn i) : wf i (f_X1_signed i t (lN n)) := by
  rw [x_sig (by have := fB_lt i; omega)]
  exact wf_mk h
theorem wf_sg0 {i : Nat} {t : Int32} : wf i (f_X1_signed i t 0) := wf_sg (n := 0) (Nat.zero_le _)
theorem wf_sgi {i : Nat} {t : Int32} : wf i (f_X1_signed i t (kIn i)) := by
  rw [kIn_p]
  exact wf_sg (Nat.le_refl _)
theorem wf_rd {i m : Nat} {e : Int} {t : Int32} (h0 : 0 < m) (hm : m < 2 ^ 63) (he : -5000 ≤ e) (he2 : e ≤ 5000) : wf i (f_X1_rounded i t (iZ e) (lN m)) := by
  rw [x_rounded t h0 hm he he2]
  exact wf_sg (rR_le _ _ h0)
theorem wf_sumA {i n m : Nat} {g h : Bool} (h0 : 0 < n) (hn : n < pIn i) (h1 : 0 < m) (hm : m < pIn i) (he : eP i m ≤ eP i n) (hp : ¬ g = h → sG i m ≤ sG i n * 2 ^ (eP i n - eP i m).toNat) : wf i (sumA i n m g h) := by
  obtain ⟨a1, a2, a3, a4, a5⟩ := sG_b h0 hn
  obtain ⟨b1, b2, b3, b4, b5⟩ := sG_b h1 hm
  unfold sumA
  by_cases c : g = h
  · rw [if_pos c]
    exact wf_sg (rR_le _ _ (by omega))
  · rw [if_neg c]
    by_cases d : sG i n * 2 ^ (eP i n - eP i m).toNat = sG i m
    · rw [if_pos d]
      exact wf_0 i
    · rw [if_neg d]
      have := hp c
      exact wf_sg (rR_le _ _ (by omega))
theorem wf_sum {i : Nat} {x y : Int64} (hx : wf i x) (hy : wf i y) : wf i (f_X1_sum i x y) := by
  have hX := hx
  have hY := hy
  obtain ⟨g, n, hn, rfl, hc⟩ := hx
  obtain ⟨h, m, hm, rfl, hc2⟩ := hy
  unfold f_X1_sum
  rcases cls2 i n with ⟨A1, A2, A3, A4, A5⟩ | ⟨A1, A2, A3, A4, A5⟩ | ⟨A1, A2, A3, A4, A5⟩ | ⟨A1, A2, A3, A4, A5⟩ <;> rcases cls2 i m with ⟨B1, B2, B3, B4, B5⟩ | ⟨B1, B2, B3, B4, B5⟩ | ⟨B1, B2, B3, B4, B5⟩ | ⟨B1, B2, B3, B4, B5⟩
  case inr.inr.inr.inr.inr.inr =>
    simp only [A2, A3, A4, B2, B3, B4, x_nan0 hn, x_nan0 hm, x_inf0 hn, x_inf0 hm, x_zero0 hn, x_zero0 hm, if_true, if_false, not_true_eq_false, not_false_eq_true]
    obtain ⟨a1, a2, a3, a4, a5⟩ := sG_b A1.1 A1.2
    obtain ⟨b1, b2, b3, b4, b5⟩ := sG_b B1.1 B1.2
    have hl : ∀ x y : Int, -2000 ≤ x → x ≤ 2000 → -2000 ≤ y → y ≤ 2000 → (iZ x < iZ y ↔ x < y) := fun x y _ _ _ _ => iZ_lt (by omega) (by omega) (by omega) (by omega)
    rw [x_exp A1.1 A1.2, x_exp B1.1 B1.2]
    rcases Int.lt_trichotomy (eP i m) (eP i n) with c | c | c
    · have hp : sG i m ≤ sG i n * 2 ^ (eP i n - eP i m).toNat := Nat.le_of_lt (sub_pos a1 b2 (by omega))
      rw [if_neg (fun q => by have := (hl _ _ (by omega) (by omega) (by omega) (by omega)).mp q; omega), x_sumO A1.1 A1.2 B1.1 B1.2 (by omega) (fun _ => hp)]
      exact wf_sumA A1.1 A1.2 B1.1 B1.2 (by omega) (fun _ => hp)
    · rw [if_neg (show ¬ iZ (eP i n) < iZ (eP i m) from fun q => by have := (hl _ _ (by omega) (by omega) (by omega) (by omega)).mp q; omega)]
      by_cases d : sG i n < sG i m
      · rw [x_sumS A1.1 A1.2 B1.1 B1.2 c d]
        exact wf_sumA B1.1 B1.2 A1.1 A1.2 (by omega) (fun _ => by rw [show (eP i m - eP i n).toNat = 0 by omega]; omega)
      · have hp : sG i m ≤ sG i n * 2 ^ (eP i n - eP i m).toNat := by rw [show (eP i n - eP i m).toNat = 0 by omega]; omega
        rw [x_sumO A1.1 A1.2 B1.1 B1.2 (by omega) (fun _ => hp)]
        exact wf_sumA A1.1 A1.2 B1.1 B1.2 (by omega) (fun _ => hp)
    · have hp : sG i n ≤ sG i m * 2 ^ (eP i m - eP i n).toNat := Nat.le_of_lt (sub_pos b1 a2 (by omega))
      rw [if_pos (show iZ (eP i n) < iZ (eP i m) from (hl _ _ (by omega) (by omega) (by omega) (by omega)).mpr (by omega)), x_sumO B1.1 B1.2 A1.1 A1.2 (by omega) (fun _ => hp)]
      exact wf_sumA B1.1 B1.2 A1.1 A1.2 (by omega) (fun _ => hp)
  case inr.inr.inl.inr.inr.inl =>
    simp only [A2, A3, A4, B2, B3, B4, x_nan0 hn, x_nan0 hm, x_inf0 hn, x_inf0 hm, x_zero0 hn, x_zero0 hm, if_true, if_false, not_true_eq_false, not_false_eq_true]
    have e1 := of_eq_true A4
    have e2 := of_eq_true B4
    rw [e1, e2, mkf_and]
    split
    · exact wf_mk (Nat.zero_le _)
    · exact wf_0 i
  all_goals simp only [A2, A3, A4, B2, B3, B4, x_nan0 hn, x_nan0 hm, x_inf0 hn, x_inf0 hm, x_zero0 hn, x_zero0 hm, if_true, if_false, not_true_eq_false, not_false_eq_true]
  all_goals first | exact wf_na i | exact hX | exact hY | (split <;> first | exact wf_na i | exact hX)
theorem wf_prod {i : Nat} {x y : Int64} (hx : wf i x) (hy : wf i y) : wf i (f_X1_product i x y) := by
  obtain ⟨g, n, hn, rfl, hc⟩ := hx
  obtain ⟨h, m, hm, rfl, hc2⟩ := hy
  unfold f_X1_product
  have key : ∀ t, n ≤ pIn i → m ≤ pIn i → wf i (f_X1_product_39 i (mkf i g n) (mkf i h m) t) := by
    intro t hn2 hm2
    have e01 : ((1 : Int32) = 0) = False := by decide
    have e00 : ((0 : Int32) = 0) = True := by decide
    unfold f_X1_product_39 f_X1_product_57 f_X1_product_62 f_X1_product_80
    simp only [x_inf0 hn, x_inf0 hm, x_zero0 hn, x_zero0 hm, sm_le]
    rcases cls2 i n with ⟨A1, A2, A3, A4, A5⟩ | ⟨A1, A2, A3, A4, A5⟩ | ⟨A1, A2, A3, A4, A5⟩ | ⟨A1, A2, A3, A4, A5⟩ <;> rcases cls2 i m with ⟨B1, B2, B3, B4, B5⟩ | ⟨B1, B2, B3, B4, B5⟩ | ⟨B1, B2, B3, B4, B5⟩ | ⟨B1, B2, B3, B4, B5⟩ <;> simp only [A2, A3, A4, B2, B3, B4, if_true, if_false, not_true_eq_false, not_false_eq_true, e01, e00]
    all_goals first
      | exact wf_na i
      | exact wf_sg0
      | exact wf_sgi
      | omega
      | (obtain ⟨a1, a2, a3, a4, a5⟩ := sG_b A1.1 A1.2
         obtain ⟨b1, b2, b3, b4, b5⟩ := sG_b B1.1 B1.2
         rw [x_exp A1.1 A1.2, x_exp B1.1 B1.2, x_sgn A1.1 A1.2, x_sgn B1.1 B1.2, x_high a1 a2 b1 b2, iZ_add, show (44 : Int32) = iZ 44 from rfl, iZ_add]
         have hab0 : 2 ^ 52 * 2 ^ 52 ≤ sG i n * sG i m := Nat.mul_le_mul a1 b1
         have hab1 : sG i n * sG i m < 2 ^ 53 * 2 ^ 53 := Nat.mul_lt_mul'' a2 b2
         generalize sG i n * sG i m = P at hab0 hab1 ⊢
         have hodd := or_one (P / 2 ^ 44)
         refine wf_rd ?_ ?_ (by omega) (by omega)
         · split <;> (try rw [hodd]) <;> (try split) <;> omega
         · split <;> (try rw [hodd]) <;> (try split) <;> omega)
  simp only [x_nan0 hn, x_nan0 hm]
  by_cases a : n ≤ pIn i
  · rw [if_pos a]
    by_cases b : m ≤ pIn i
    · rw [if_pos b]
      split <;> exact key _ a b
    · rw [if_neg b]
      exact wf_na i
  · rw [if_neg a]
    exact wf_na i
theorem wf_quot {i : Nat} {x y : Int64} (hx : wf i x) (hy : wf i y) : wf i (f_X1_quotient i x y) := by
  obtain ⟨g, n, hn, rfl, hc⟩ := hx
  obtain ⟨h, m, hm, rfl, hc2⟩ := hy
  have key : ∀ t, (n ≤ pIn i ∧ m ≤ pIn i) → wf i (f_X1_quotient_71 i (mkf i g n) (mkf i h m) t) := by
    intro t hnm
    unfold f_X1_quotient_71 f_X1_quotient_89 f_X1_quotient_116
    simp only [x_inf0 hn, x_inf0 hm, x_zero0 hn, x_zero0 hm, sm_le]
    rcases cls2 i n with ⟨A1, A2, A3, A4, A5⟩ | ⟨A1, A2, A3, A4, A5⟩ | ⟨A1, A2, A3, A4, A5⟩ | ⟨A1, A2, A3, A4, A5⟩ <;> rcases cls2 i m with ⟨B1, B2, B3, B4, B5⟩ | ⟨B1, B2, B3, B4, B5⟩ | ⟨B1, B2, B3, B4, B5⟩ | ⟨B1, B2, B3, B4, B5⟩ <;> simp only [A2, A3, A4, B2, B3, B4, if_true, if_false, not_true_eq_false, not_false_eq_true]
    all_goals first
      | exact wf_sg0
      | exact wf_sgi
      | omega
      | (obtain ⟨a1, a2, a3, a4, a5⟩ := sG_b A1.1 A1.2
         obtain ⟨b1, b2, b3, b4, b5⟩ := sG_b B1.1 B1.2
         rw [x_exp A1.1 A1.2, x_exp B1.1 B1.2, x_sgn A1.1 A1.2, x_sgn B1.1 B1.2, x_lq a1 a2 b1 b2, iZ_sub, show (60 : Int32) = iZ 60 from rfl, iZ_sub]
         have hq := quoX_b a1 a2 b1 b2
         exact wf_rd hq.1 hq.2 (by omega) (by omega))
  unfold f_X1_quotient f_X1_quotient_32 f_X1_quotient_53
  simp only [x_nan0 hn, x_nan0 hm]
  by_cases a : n ≤ pIn i
  · rw [if_pos a]
    by_cases b : m ≤ pIn i
    · rw [if_pos b]
      have := fun t => key t ⟨a, b⟩
      repeat' split
      all_goals first | exact wf_na i | exact this _
    · rw [if_neg b]
      exact wf_na i
  · rw [if_neg a]
    exact wf_na i
theorem wf_rem {i : Nat} {x y : Int64} (hx : wf i x) (hy : wf i y) : wf i (f_X1_remainder i x y) := by
  have hX := hx
  obtain ⟨g, n, hn, rfl, hc⟩ := hx
  obtain ⟨h, m, hm, rfl, hc2⟩ := hy
  have hb := fB_lt i
  unfold f_X1_remainder
  rcases cls2 i n with ⟨A1, A2, A3, A4, A5⟩ | ⟨A1, A2, A3, A4, A5⟩ | ⟨A1, A2, A3, A4, A5⟩ | ⟨A1, A2, A3, A4, A5⟩ <;> rcases cls2 i m with ⟨B1, B2, B3, B4, B5⟩ | ⟨B1, B2, B3, B4, B5⟩ | ⟨B1, B2, B3, B4, B5⟩ | ⟨B1, B2, B3, B4, B5⟩ <;> simp only [A2, A3, A4, B2, B3, B4, x_nan0 hn, x_nan0 hm, x_inf0 hn, x_inf0 hm, x_zero0 hn, x_zero0 hm, if_true, if_false, not_true_eq_false, not_false_eq_true]
  all_goals first | exact wf_na i | exact hX | skip
  obtain ⟨a1, a2, a3, a4, a5⟩ := sG_b A1.1 A1.2
  obtain ⟨b1, b2, b3, b4, b5⟩ := sG_b B1.1 B1.2
  rw [x_exp A1.1 A1.2, x_exp B1.1 B1.2, x_sgn A1.1 A1.2, x_sgn B1.1 B1.2]
  by_cases c : eP i m ≤ eP i n
  · rw [if_pos (show iZ (eP i m) ≤ iZ (eP i n) from (iZ_le (by omega) (by omega) (by omega) (by omega)).mpr (by omega))]
    have hd : iZ (eP i n) - iZ (eP i m) = iZ (((eP i n - eP i m).toNat : Nat) : Int) := by
      rw [iZ_sub]
      congr 1
      omega
    rw [hd, x_lr a2 b1 b2 (by omega)]
    simp only [sm_le]
    have hr : sG i n * 2 ^ (eP i n - eP i m).toNat % sG i m < sG i m := Nat.mod_lt _ (by omega)
    generalize sG i n * 2 ^ (eP i n - eP i m).toNat % sG i m = r at hr ⊢
    by_cases z : r = 0
    · rw [if_pos (show lN r = 0 by rw [z]; rfl)]
      exact wf_sg0
    · rw [if_neg (show ¬ lN r = 0 from fun y => z ((n_eq (b := 0) (by omega) (by decide)).mp y))]
      exact wf_rd (by omega) (by omega) (by omega) (by omega)
  · rw [if_neg (show ¬ iZ (eP i m) ≤ iZ (eP i n) from fun y => by have := (iZ_le (by omega) (by omega) (by omega) (by omega)).mp y; omega)]
    exact hX
theorem wf_neg {i : Nat} {x : Int64} (hx : wf i x) : wf i (f_X1_negated i x) := by
  obtain ⟨g, n, hn, rfl, hc⟩ := hx
  unfold f_X1_negated
  simp only [x_nan0 hn]
  split
  · rw [x_xor hn]
    exact wf_mk (by assumption)
  · exact wf_na i
theorem wf_mag {i : Nat} {x : Int64} (hx : wf i x) : wf i (f_X1_magnitude i x) := by
  obtain ⟨g, n, hn, rfl, hc⟩ := hx
  by_cases a : n ≤ pIn i
  · rw [x_mag hn]
    exact wf_mk (g := false) a
  · rw [hc (by omega), kNa_m, x_mag (pNa_lt i).2]
    exact (kNa_n i) ▸ wf_na i
theorem wfA {i : Nat} {t : Int32} : wf i (f_X1_rounded i t 1 4611686018427387904) := by
  have h := wf_rd (i := i) (t := t) (m := 2 ^ 62) (e := 1) (by decide) (by decide) (by decide) (by decide)
  rw [show lN (2 ^ 62) = (4611686018427387904 : Int64) by decide, show iZ 1 = (1 : Int32) from rfl] at h
  exact h
theorem wfB {i m : Nat} {t : Int32} (h0 : 0 < m) (hm : m < 2 ^ 63) : wf i (f_X1_rounded i t 0 (lN m)) := by
  have h := wf_rd (i := i) (t := t) (m := m) (e := 0) h0 hm (by decide) (by decide)
  rw [show iZ 0 = (0 : Int32) from rfl] at h
  exact h
theorem wf_ofWhole {i : Nat} (v : Int64) : wf i (f_X1_ofWhole i v) := by
  unfold f_X1_ofWhole f_X1_ofWhole_38
  rcases l_sign v with h | ⟨m, h0, hm, h⟩ | ⟨m, h0, hm, h⟩ | h
  · rw [if_pos h]
    exact wf_0 i
  · have : sm_absL v = lN m := by rw [h]; exact (lN_neg_abs h0 hm).1
    rw [this]
    repeat' split
    · exact wf_0 i
    · exact wfA
    · exact wfB h0 hm
    · exact wfB h0 hm
  · have : sm_absL v = lN m := by rw [h]; exact (lN_neg_abs h0 hm).2
    rw [this]
    repeat' split
    · exact wf_0 i
    · exact wfA
    · exact wfB h0 hm
    · exact wfB h0 hm
  · rw [if_neg (show ¬ v = 0 by rw [h]; decide), if_pos h]
    exact wfA
theorem wf_ofOther {i j : Nat} {x : Int64} (hx : wf j x) : wf i (f_X1_ofOther i j x) := by
  obtain ⟨g, n, hn, rfl, hc⟩ := hx
  unfold f_X1_ofOther
  rcases cls2 j n with ⟨A1, A2, A3, A4, A5⟩ | ⟨A1, A2, A3, A4, A5⟩ | ⟨A1, A2, A3, A4, A5⟩ | ⟨A1, A2, A3, A4, A5⟩ <;> simp only [A2, A3, A4, x_nan0 hn, x_inf0 hn, x_zero0 hn, if_true, if_false, not_true_eq_false, not_false_eq_true]
  · exact wf_na i
  · exact wf_sgi
  · exact wf_sg0
  · obtain ⟨a1, a2, a3, a4, a5⟩ := sG_b A1.1 A1.2
    rw [x_exp A1.1 A1.2, x_sgn A1.1 A1.2]
    exact wf_rd (by omega) (by omega) (by omega) (by omega)
theorem wf_one {i n : Nat} {g : Bool} (hn : n < 2 ^ fB i) : wf i (f_X1_withOneNan i (mkf i g n)) := by
  unfold f_X1_withOneNan
  simp only [x_nan0 hn]
  split
  · exact wf_mk (by assumption)
  · exact wf_na i
