/-! operations of one operand -/
theorem gX15 (x : Int32) : (f_X5_isBelow x.toInt64 15 = 0) = ¬ inR x 15 := gX x (N := 15) (by decide)
theorem sq_uI {τ' τ : sm_S} {k i : Nat} {x : Int32} (h : sq τ' τ) : sq (uI τ' k i x) (uI τ k i x) := by
  refine ⟨fun a h1 h2 h3 => funext fun j => ?_, h.2.1, h.2.2⟩
  rw [uI_1, uI_1, h.1 a h1 h2 h3]
def acc1 (a b : Nat) : Bool := if a < 15 then decide (b = [0, 0, 0, 1, 1, 1, 2, 2, 2, 3, 3, 3, 0, 0, 0].getD a 9) else if a = 17 then decide (2 ≤ b) else if a = 18 then decide (b < 2) else true
theorem tk1 : ∀ a, a < 19 → ∀ b, b < 4 → (decide (f_X4_takes (nI a) (nI b) = 0) = !acc1 a b) := by decide +kernel
theorem abs_eq (v : Int64) : sm_absL v = if 0 ≤ v then v else -v := by
  unfold sm_absL
  have z0 : (0 : Int64).toInt = 0 := rfl
  by_cases c : 0 < v
  · rw [if_pos c, if_pos (Int64.le_of_lt c)]
  · rw [if_neg c]
    by_cases d : 0 ≤ v
    · rw [if_pos d]
      have : v = 0 := by
        apply Int64.toInt_inj.mp
        rw [Int64.lt_iff_toInt_lt] at c
        rw [Int64.le_iff_toInt_le] at d
        omega
      rw [this]
      rfl
    · rw [if_neg d]
theorem one208 {τ : sm_S} {r a : Nat} (hr : r < 8) (ha : a < 8) (to : Int32) (v : Int64) (t : Int32) : f_X6_one_208 (nI r) (nI a) to v τ t = (0, uI (uI (uL (uI τ 1 r to) 3 r v) 2 r (τ.1 2 a)) 4 r (pE (τ.1 2 a) (if τ.1 4 a = 0 then 0 else if t = 0 then 1 else 0))) := by
  unfold f_X6_one_208 f_X6_one_246 f_X6_one_247
  simp only [sm_le]
  rw [nI_cl (show r < 2 ^ 31 by omega), nI_cl (show a < 2 ^ 31 by omega)]
  have e2 : (uI τ 1 r to).1 2 a = τ.1 2 a := by rw [uI_1, if_neg (by omega)]
  have e4 : (uI τ 1 r to).1 4 a = τ.1 4 a := by rw [uI_1, if_neg (by omega)]
  rw [e2, e4, put_eq, put_eq, nI_cl (show r < 2 ^ 31 by omega)]
  by_cases c : τ.1 4 a = 0
  · rw [if_pos c, if_pos c]
  · rw [if_neg c, if_neg c]
    by_cases d : t = 0
    · rw [if_pos d, if_pos d]
    · rw [if_neg d, if_neg d]
def val1 (τ : sm_S) (o k to : Int32) (v : Int64) : Int64 × sm_S := if 15 ≤ o then (if 17 ≤ o then f_X6_clean τ to v else f_X6_turned τ o k v) else f_X6_converted τ o v
theorem KV.w2 {v : Int64} (h : KV 2 v) : wf 0 v := h.2.1 rfl
theorem KV.w3 {v : Int64} (h : KV 3 v) : wf 1 v := h.2.2 rfl
theorem kv2 {v : Int64} (h : wf 0 v) : KV 2 v := ⟨Or.inr (Or.inr (Or.inl rfl)), fun _ => h, fun q => absurd q (by decide)⟩
theorem kv3 {v : Int64} (h : wf 1 v) : KV 3 v := ⟨Or.inr (Or.inr (Or.inr rfl)), fun q => absurd q (by decide), fun _ => h⟩
theorem ov_0_0 (τ : sm_S) (v : Int64) (hk : KV 0 v) : ∃ τ', val1 τ 0 0 1 v = (f_X4_result 0 0 v, τ') ∧ sq τ' τ ∧ KV 1 (f_X4_result 0 0 v) := by
  unfold val1 f_X4_result f_X6_converted
  simp (decide := true) only [if_true, if_false, sm_le]
  exact ⟨τ, rfl, sq.rf τ, kv_01 (Or.inr rfl)⟩
theorem ov_1_0 (τ : sm_S) (v : Int64) (hk : KV 0 v) : ∃ τ', val1 τ 1 0 2 v = (f_X4_result 1 0 v, τ') ∧ sq τ' τ ∧ KV 2 (f_X4_result 1 0 v) := by
  unfold val1 f_X4_result f_X6_converted
  simp (decide := true) only [if_true, if_false, sm_le]
  have e := xm_ofWhole (i := 0) v
  rw [show wI 0 = 0 from rfl] at e
  rw [e]
  refine ⟨τ, rfl, sq.rf τ, kv2 ?_⟩
  rw [← e]
  exact wf_ofWhole v
theorem ov_2_0 (τ : sm_S) (v : Int64) (hk : KV 0 v) : ∃ τ', val1 τ 2 0 3 v = (f_X4_result 2 0 v, τ') ∧ sq τ' τ ∧ KV 3 (f_X4_result 2 0 v) := by
  unfold val1 f_X4_result f_X6_converted
  simp (decide := true) only [if_true, if_false, sm_le]
  have e := xm_ofWhole (i := 1) v
  rw [show wI 1 = 1 from rfl] at e
  rw [e]
  refine ⟨τ, rfl, sq.rf τ, kv3 ?_⟩
  rw [← e]
  exact wf_ofWhole v
theorem ov_3_1 (τ : sm_S) (v : Int64) (hk : KV 1 v) : ∃ τ', val1 τ 3 1 0 v = (f_X4_result 3 1 v, τ') ∧ sq τ' τ ∧ KV 0 (f_X4_result 3 1 v) := by
  unfold val1 f_X4_result f_X6_converted
  simp (decide := true) only [if_true, if_false, sm_le]
  exact ⟨τ, rfl, sq.rf τ, kv_01 (Or.inl rfl)⟩
theorem ov_4_1 (τ : sm_S) (v : Int64) (hk : KV 1 v) : ∃ τ', val1 τ 4 1 2 v = (f_X4_result 4 1 v, τ') ∧ sq τ' τ ∧ KV 2 (f_X4_result 4 1 v) := by
  unfold val1 f_X4_result f_X6_converted
  simp (decide := true) only [if_true, if_false, sm_le]
  have e := xm_ofWhole (i := 0) v
  rw [show wI 0 = 0 from rfl] at e
  rw [e]
  refine ⟨τ, rfl, sq.rf τ, kv2 ?_⟩
  rw [← e]
  exact wf_ofWhole v
theorem ov_5_1 (τ : sm_S) (v : Int64) (hk : KV 1 v) : ∃ τ', val1 τ 5 1 3 v = (f_X4_result 5 1 v, τ') ∧ sq τ' τ ∧ KV 3 (f_X4_result 5 1 v) := by
  unfold val1 f_X4_result f_X6_converted
  simp (decide := true) only [if_true, if_false, sm_le]
  have e := xm_ofWhole (i := 1) v
  rw [show wI 1 = 1 from rfl] at e
  rw [e]
  refine ⟨τ, rfl, sq.rf τ, kv3 ?_⟩
  rw [← e]
  exact wf_ofWhole v
theorem ov_6_2 (τ : sm_S) (v : Int64) (hk : KV 2 v) : ∃ τ', val1 τ 6 2 0 v = (f_X4_result 6 2 v, τ') ∧ sq τ' τ ∧ KV 0 (f_X4_result 6 2 v) := by
  unfold val1 f_X4_result f_X6_converted
  simp (decide := true) only [if_true, if_false, sm_le]
  obtain ⟨g, n, hn, rfl, hc⟩ := KV.w2 hk
  obtain ⟨τ', k1, k2⟩ := xm_toInt (i := 0) (g := g) τ hn
  rw [show wI 0 = 0 from rfl] at k1
  rw [k1]
  exact ⟨τ', rfl, k2, kv_01 (Or.inl rfl)⟩
theorem ov_7_2 (τ : sm_S) (v : Int64) (hk : KV 2 v) : ∃ τ', val1 τ 7 2 1 v = (f_X4_result 7 2 v, τ') ∧ sq τ' τ ∧ KV 1 (f_X4_result 7 2 v) := by
  unfold val1 f_X4_result f_X6_converted
  simp (decide := true) only [if_true, if_false, sm_le]
  obtain ⟨g, n, hn, rfl, hc⟩ := KV.w2 hk
  obtain ⟨τ', k1, k2⟩ := xm_toLong (i := 0) (g := g) τ hn
  rw [show wI 0 = 0 from rfl] at k1
  rw [k1]
  exact ⟨τ', rfl, k2, kv_01 (Or.inr rfl)⟩
theorem ov_8_2 (τ : sm_S) (v : Int64) (hk : KV 2 v) : ∃ τ', val1 τ 8 2 3 v = (f_X4_result 8 2 v, τ') ∧ sq τ' τ ∧ KV 3 (f_X4_result 8 2 v) := by
  unfold val1 f_X4_result f_X6_converted
  simp (decide := true) only [if_true, if_false, sm_le]
  have hw := KV.w2 hk
  obtain ⟨g, n, hn, rfl, hc⟩ := KV.w2 hk
  obtain ⟨τ', k1, k2⟩ := xm_other (i := 1) (j := 0) (g := g) τ (Or.inl ⟨rfl, rfl⟩) hn
  rw [show wI 0 = 0 from rfl] at k1
  rw [k1]
  exact ⟨τ', rfl, k2, kv3 (wf_ofOther hw)⟩
theorem ov_9_3 (τ : sm_S) (v : Int64) (hk : KV 3 v) : ∃ τ', val1 τ 9 3 0 v = (f_X4_result 9 3 v, τ') ∧ sq τ' τ ∧ KV 0 (f_X4_result 9 3 v) := by
  unfold val1 f_X4_result f_X6_converted
  simp (decide := true) only [if_true, if_false, sm_le]
  obtain ⟨g, n, hn, rfl, hc⟩ := KV.w3 hk
  obtain ⟨τ', k1, k2⟩ := xm_toInt (i := 1) (g := g) τ hn
  rw [show wI 1 = 1 from rfl] at k1
  rw [k1]
  exact ⟨τ', rfl, k2, kv_01 (Or.inl rfl)⟩
theorem ov_10_3 (τ : sm_S) (v : Int64) (hk : KV 3 v) : ∃ τ', val1 τ 10 3 1 v = (f_X4_result 10 3 v, τ') ∧ sq τ' τ ∧ KV 1 (f_X4_result 10 3 v) := by
  unfold val1 f_X4_result f_X6_converted
  simp (decide := true) only [if_true, if_false, sm_le]
  obtain ⟨g, n, hn, rfl, hc⟩ := KV.w3 hk
  obtain ⟨τ', k1, k2⟩ := xm_toLong (i := 1) (g := g) τ hn
  rw [show wI 1 = 1 from rfl] at k1
  rw [k1]
  exact ⟨τ', rfl, k2, kv_01 (Or.inr rfl)⟩
theorem ov_11_3 (τ : sm_S) (v : Int64) (hk : KV 3 v) : ∃ τ', val1 τ 11 3 2 v = (f_X4_result 11 3 v, τ') ∧ sq τ' τ ∧ KV 2 (f_X4_result 11 3 v) := by
  unfold val1 f_X4_result f_X6_converted
  simp (decide := true) only [if_true, if_false, sm_le]
  have hw := KV.w3 hk
  obtain ⟨g, n, hn, rfl, hc⟩ := KV.w3 hk
  obtain ⟨τ', k1, k2⟩ := xm_other (i := 0) (j := 1) (g := g) τ (Or.inr ⟨rfl, rfl⟩) hn
  rw [show wI 1 = 1 from rfl] at k1
  rw [k1]
  exact ⟨τ', rfl, k2, kv2 (wf_ofOther hw)⟩
theorem ov_12_0 (τ : sm_S) (v : Int64) (hk : KV 0 v) : ∃ τ', val1 τ 12 0 0 v = (f_X4_result 12 0 v, τ') ∧ sq τ' τ ∧ KV 0 (f_X4_result 12 0 v) := by
  unfold val1 f_X4_result f_X6_converted
  simp (decide := true) only [if_true, if_false, sm_le]
  exact ⟨τ, rfl, sq.rf τ, kv_01 (Or.inl rfl)⟩
theorem ov_13_0 (τ : sm_S) (v : Int64) (hk : KV 0 v) : ∃ τ', val1 τ 13 0 0 v = (f_X4_result 13 0 v, τ') ∧ sq τ' τ ∧ KV 0 (f_X4_result 13 0 v) := by
  unfold val1 f_X4_result f_X6_converted
  simp (decide := true) only [if_true, if_false, sm_le]
  exact ⟨τ, rfl, sq.rf τ, kv_01 (Or.inl rfl)⟩
theorem ov_14_0 (τ : sm_S) (v : Int64) (hk : KV 0 v) : ∃ τ', val1 τ 14 0 0 v = (f_X4_result 14 0 v, τ') ∧ sq τ' τ ∧ KV 0 (f_X4_result 14 0 v) := by
  unfold val1 f_X4_result f_X6_converted
  simp (decide := true) only [if_true, if_false, sm_le]
  exact ⟨τ, rfl, sq.rf τ, kv_01 (Or.inl rfl)⟩
theorem ov_15_0 (τ : sm_S) (v : Int64) (hk : KV 0 v) : ∃ τ', val1 τ 15 0 0 v = (f_X4_result 15 0 v, τ') ∧ sq τ' τ ∧ KV 0 (f_X4_result 15 0 v) := by
  unfold val1 f_X4_result
  simp (decide := true) only [if_true, if_false, sm_le]
  unfold f_X6_turned f_X6_turned_17 f_X6_turned_23 f_X5_held
  simp (decide := true) only [if_true, if_false]
  exact ⟨τ, rfl, sq.rf τ, kv_01 (Or.inl rfl)⟩
theorem ov_15_1 (τ : sm_S) (v : Int64) (hk : KV 1 v) : ∃ τ', val1 τ 15 1 1 v = (f_X4_result 15 1 v, τ') ∧ sq τ' τ ∧ KV 1 (f_X4_result 15 1 v) := by
  unfold val1 f_X4_result
  simp (decide := true) only [if_true, if_false, sm_le]
  unfold f_X6_turned f_X6_turned_17 f_X6_turned_23 f_X5_held
  simp (decide := true) only [if_true, if_false]
  exact ⟨τ, rfl, sq.rf τ, kv_01 (Or.inr rfl)⟩
theorem ov_15_2 (τ : sm_S) (v : Int64) (hk : KV 2 v) : ∃ τ', val1 τ 15 2 2 v = (f_X4_result 15 2 v, τ') ∧ sq τ' τ ∧ KV 2 (f_X4_result 15 2 v) := by
  unfold val1 f_X4_result
  simp (decide := true) only [if_true, if_false, sm_le]
  rw [show f_X5_formatOf 2 = 0 by decide]
  have hw := KV.w2 hk
  obtain ⟨τ', k1, k2⟩ := xm_turned (i := 0) τ 15 hw (Or.inl rfl)
  rw [if_pos rfl, show kI 0 = 2 from rfl] at k1
  rw [k1]
  exact ⟨τ', rfl, k2, kv2 (wf_neg hw)⟩
theorem ov_15_3 (τ : sm_S) (v : Int64) (hk : KV 3 v) : ∃ τ', val1 τ 15 3 3 v = (f_X4_result 15 3 v, τ') ∧ sq τ' τ ∧ KV 3 (f_X4_result 15 3 v) := by
  unfold val1 f_X4_result
  simp (decide := true) only [if_true, if_false, sm_le]
  rw [show f_X5_formatOf 3 = 1 by decide]
  have hw := KV.w3 hk
  obtain ⟨τ', k1, k2⟩ := xm_turned (i := 1) τ 15 hw (Or.inl rfl)
  rw [if_pos rfl, show kI 1 = 3 from rfl] at k1
  rw [k1]
  exact ⟨τ', rfl, k2, kv3 (wf_neg hw)⟩
theorem ov_16_0 (τ : sm_S) (v : Int64) (hk : KV 0 v) : ∃ τ', val1 τ 16 0 0 v = (f_X4_result 16 0 v, τ') ∧ sq τ' τ ∧ KV 0 (f_X4_result 16 0 v) := by
  unfold val1 f_X4_result
  simp (decide := true) only [if_true, if_false, sm_le]
  unfold f_X6_turned f_X6_turned_17 f_X6_turned_23 f_X5_held
  simp (decide := true) only [if_true, if_false]
  rw [abs_eq]
  by_cases c : 0 ≤ v
  · rw [if_pos c, if_pos c]
    exact ⟨τ, rfl, sq.rf τ, kv_01 (Or.inl rfl)⟩
  · rw [if_neg c, if_neg c]
    exact ⟨τ, rfl, sq.rf τ, kv_01 (Or.inl rfl)⟩
theorem ov_16_1 (τ : sm_S) (v : Int64) (hk : KV 1 v) : ∃ τ', val1 τ 16 1 1 v = (f_X4_result 16 1 v, τ') ∧ sq τ' τ ∧ KV 1 (f_X4_result 16 1 v) := by
  unfold val1 f_X4_result
  simp (decide := true) only [if_true, if_false, sm_le]
  unfold f_X6_turned f_X6_turned_17 f_X6_turned_23 f_X5_held
  simp (decide := true) only [if_true, if_false]
  rw [abs_eq]
  by_cases c : 0 ≤ v
  · rw [if_pos c, if_pos c]
    exact ⟨τ, rfl, sq.rf τ, kv_01 (Or.inr rfl)⟩
  · rw [if_neg c, if_neg c]
    exact ⟨τ, rfl, sq.rf τ, kv_01 (Or.inr rfl)⟩
theorem ov_16_2 (τ : sm_S) (v : Int64) (hk : KV 2 v) : ∃ τ', val1 τ 16 2 2 v = (f_X4_result 16 2 v, τ') ∧ sq τ' τ ∧ KV 2 (f_X4_result 16 2 v) := by
  unfold val1 f_X4_result
  simp (decide := true) only [if_true, if_false, sm_le]
  rw [show f_X5_formatOf 2 = 0 by decide]
  have hw := KV.w2 hk
  obtain ⟨τ', k1, k2⟩ := xm_turned (i := 0) τ 16 hw (Or.inr rfl)
  rw [if_neg (by decide), show kI 0 = 2 from rfl] at k1
  rw [k1]
  exact ⟨τ', rfl, k2, kv2 (wf_mag hw)⟩
theorem ov_16_3 (τ : sm_S) (v : Int64) (hk : KV 3 v) : ∃ τ', val1 τ 16 3 3 v = (f_X4_result 16 3 v, τ') ∧ sq τ' τ ∧ KV 3 (f_X4_result 16 3 v) := by
  unfold val1 f_X4_result
  simp (decide := true) only [if_true, if_false, sm_le]
  rw [show f_X5_formatOf 3 = 1 by decide]
  have hw := KV.w3 hk
  obtain ⟨τ', k1, k2⟩ := xm_turned (i := 1) τ 16 hw (Or.inr rfl)
  rw [if_neg (by decide), show kI 1 = 3 from rfl] at k1
  rw [k1]
  exact ⟨τ', rfl, k2, kv3 (wf_mag hw)⟩
theorem ov_17_2 (τ : sm_S) (v : Int64) (hk : KV 2 v) : ∃ τ', val1 τ 17 2 0 v = (f_X4_result 17 2 v, τ') ∧ sq τ' τ ∧ KV 0 (f_X4_result 17 2 v) := by
  unfold val1 f_X4_result
  simp (decide := true) only [if_true, if_false, sm_le]
  obtain ⟨g, n, hn, rfl, hc⟩ := KV.w2 hk
  unfold f_X6_clean f_X6_clean_9 f_X6_clean_16
  simp (decide := true) only [if_true, if_false]
  rw [mk_0i hn]
  exact ⟨τ, rfl, sq.rf τ, kv_01 (Or.inl rfl)⟩
theorem ov_17_3 (τ : sm_S) (v : Int64) (hk : KV 3 v) : ∃ τ', val1 τ 17 3 1 v = (f_X4_result 17 3 v, τ') ∧ sq τ' τ ∧ KV 1 (f_X4_result 17 3 v) := by
  unfold val1 f_X4_result
  simp (decide := true) only [if_true, if_false, sm_le]
  unfold f_X6_clean f_X6_clean_9 f_X6_clean_16
  simp (decide := true) only [if_true, if_false]
  exact ⟨τ, rfl, sq.rf τ, kv_01 (Or.inr rfl)⟩
theorem ov_18_0 (τ : sm_S) (v : Int64) (hk : KV 0 v) : ∃ τ', val1 τ 18 0 2 v = (f_X4_result 18 0 v, τ') ∧ sq τ' τ ∧ KV 2 (f_X4_result 18 0 v) := by
  unfold val1 f_X4_result
  simp (decide := true) only [if_true, if_false, sm_le]
  rw [show f_X4_resultKind 18 0 = 2 by decide]
  obtain ⟨τ', k1, k2⟩ := xm_clean τ 2 v (by decide)
  rw [k1]
  exact ⟨τ', rfl, k2, kv2 (wf_held2 v)⟩
theorem ov_18_1 (τ : sm_S) (v : Int64) (hk : KV 1 v) : ∃ τ', val1 τ 18 1 3 v = (f_X4_result 18 1 v, τ') ∧ sq τ' τ ∧ KV 3 (f_X4_result 18 1 v) := by
  unfold val1 f_X4_result
  simp (decide := true) only [if_true, if_false, sm_le]
  rw [show f_X4_resultKind 18 1 = 3 by decide]
  obtain ⟨τ', k1, k2⟩ := xm_clean τ 3 v (by decide)
  rw [k1]
  exact ⟨τ', rfl, k2, kv3 (wf_held3 v)⟩
theorem one_val (τ : sm_S) (a b : Nat) (v : Int64) (ha : a < 19) (hb : b < 4) (hac : acc1 a b = true) (hk : KV (nI b) v) : ∃ τ', val1 τ (nI a) (nI b) (f_X4_resultKind (nI a) (nI b)) v = (f_X4_result (nI a) (nI b) v, τ') ∧ sq τ' τ ∧ KV (f_X4_resultKind (nI a) (nI b)) (f_X4_result (nI a) (nI b) v) := by
  rcases (by omega : b = 0 ∨ b = 1 ∨ b = 2 ∨ b = 3) with rfl | rfl | rfl | rfl
  · rcases (by omega : a = 0 ∨ a = 1 ∨ a = 2 ∨ a = 3 ∨ a = 4 ∨ a = 5 ∨ a = 6 ∨ a = 7 ∨ a = 8 ∨ a = 9 ∨ a = 10 ∨ a = 11 ∨ a = 12 ∨ a = 13 ∨ a = 14 ∨ a = 15 ∨ a = 16 ∨ a = 17 ∨ a = 18) with rfl | rfl | rfl | rfl | rfl | rfl | rfl | rfl | rfl | rfl | rfl | rfl | rfl | rfl | rfl | rfl | rfl | rfl | rfl
    all_goals first | exact absurd hac (by decide) | skip
    · rw [show nI 0 = 0 from rfl] at *
      rw [show f_X4_resultKind 0 0 = 1 by decide]
      exact ov_0_0 τ v hk
    · rw [show nI 1 = 1 from rfl, show nI 0 = 0 from rfl] at *
      rw [show f_X4_resultKind 1 0 = 2 by decide]
      exact ov_1_0 τ v hk
    · rw [show nI 2 = 2 from rfl, show nI 0 = 0 from rfl] at *
      rw [show f_X4_resultKind 2 0 = 3 by decide]
      exact ov_2_0 τ v hk
    · rw [show nI 12 = 12 from rfl, show nI 0 = 0 from rfl] at *
      rw [show f_X4_resultKind 12 0 = 0 by decide]
      exact ov_12_0 τ v hk
    · rw [show nI 13 = 13 from rfl, show nI 0 = 0 from rfl] at *
      rw [show f_X4_resultKind 13 0 = 0 by decide]
      exact ov_13_0 τ v hk
    · rw [show nI 14 = 14 from rfl, show nI 0 = 0 from rfl] at *
      rw [show f_X4_resultKind 14 0 = 0 by decide]
      exact ov_14_0 τ v hk
    · rw [show nI 15 = 15 from rfl, show nI 0 = 0 from rfl] at *
      rw [show f_X4_resultKind 15 0 = 0 by decide]
      exact ov_15_0 τ v hk
    · rw [show nI 16 = 16 from rfl, show nI 0 = 0 from rfl] at *
      rw [show f_X4_resultKind 16 0 = 0 by decide]
      exact ov_16_0 τ v hk
    · rw [show nI 18 = 18 from rfl, show nI 0 = 0 from rfl] at *
      rw [show f_X4_resultKind 18 0 = 2 by decide]
      exact ov_18_0 τ v hk
  · rcases (by omega : a = 0 ∨ a = 1 ∨ a = 2 ∨ a = 3 ∨ a = 4 ∨ a = 5 ∨ a = 6 ∨ a = 7 ∨ a = 8 ∨ a = 9 ∨ a = 10 ∨ a = 11 ∨ a = 12 ∨ a = 13 ∨ a = 14 ∨ a = 15 ∨ a = 16 ∨ a = 17 ∨ a = 18) with rfl | rfl | rfl | rfl | rfl | rfl | rfl | rfl | rfl | rfl | rfl | rfl | rfl | rfl | rfl | rfl | rfl | rfl | rfl
    all_goals first | exact absurd hac (by decide) | skip
    · rw [show nI 3 = 3 from rfl, show nI 1 = 1 from rfl] at *
      rw [show f_X4_resultKind 3 1 = 0 by decide]
      exact ov_3_1 τ v hk
    · rw [show nI 4 = 4 from rfl, show nI 1 = 1 from rfl] at *
      rw [show f_X4_resultKind 4 1 = 2 by decide]
      exact ov_4_1 τ v hk
    · rw [show nI 5 = 5 from rfl, show nI 1 = 1 from rfl] at *
      rw [show f_X4_resultKind 5 1 = 3 by decide]
      exact ov_5_1 τ v hk
    · rw [show nI 15 = 15 from rfl, show nI 1 = 1 from rfl] at *
      rw [show f_X4_resultKind 15 1 = 1 by decide]
      exact ov_15_1 τ v hk
    · rw [show nI 16 = 16 from rfl, show nI 1 = 1 from rfl] at *
      rw [show f_X4_resultKind 16 1 = 1 by decide]
      exact ov_16_1 τ v hk
    · rw [show nI 18 = 18 from rfl, show nI 1 = 1 from rfl] at *
      rw [show f_X4_resultKind 18 1 = 3 by decide]
      exact ov_18_1 τ v hk
  · rcases (by omega : a = 0 ∨ a = 1 ∨ a = 2 ∨ a = 3 ∨ a = 4 ∨ a = 5 ∨ a = 6 ∨ a = 7 ∨ a = 8 ∨ a = 9 ∨ a = 10 ∨ a = 11 ∨ a = 12 ∨ a = 13 ∨ a = 14 ∨ a = 15 ∨ a = 16 ∨ a = 17 ∨ a = 18) with rfl | rfl | rfl | rfl | rfl | rfl | rfl | rfl | rfl | rfl | rfl | rfl | rfl | rfl | rfl | rfl | rfl | rfl | rfl
    all_goals first | exact absurd hac (by decide) | skip
    · rw [show nI 6 = 6 from rfl, show nI 2 = 2 from rfl] at *
      rw [show f_X4_resultKind 6 2 = 0 by decide]
      exact ov_6_2 τ v hk
    · rw [show nI 7 = 7 from rfl, show nI 2 = 2 from rfl] at *
      rw [show f_X4_resultKind 7 2 = 1 by decide]
      exact ov_7_2 τ v hk
    · rw [show nI 8 = 8 from rfl, show nI 2 = 2 from rfl] at *
      rw [show f_X4_resultKind 8 2 = 3 by decide]
      exact ov_8_2 τ v hk
    · rw [show nI 15 = 15 from rfl, show nI 2 = 2 from rfl] at *
      rw [show f_X4_resultKind 15 2 = 2 by decide]
      exact ov_15_2 τ v hk
    · rw [show nI 16 = 16 from rfl, show nI 2 = 2 from rfl] at *
      rw [show f_X4_resultKind 16 2 = 2 by decide]
      exact ov_16_2 τ v hk
    · rw [show nI 17 = 17 from rfl, show nI 2 = 2 from rfl] at *
      rw [show f_X4_resultKind 17 2 = 0 by decide]
      exact ov_17_2 τ v hk
  · rcases (by omega : a = 0 ∨ a = 1 ∨ a = 2 ∨ a = 3 ∨ a = 4 ∨ a = 5 ∨ a = 6 ∨ a = 7 ∨ a = 8 ∨ a = 9 ∨ a = 10 ∨ a = 11 ∨ a = 12 ∨ a = 13 ∨ a = 14 ∨ a = 15 ∨ a = 16 ∨ a = 17 ∨ a = 18) with rfl | rfl | rfl | rfl | rfl | rfl | rfl | rfl | rfl | rfl | rfl | rfl | rfl | rfl | rfl | rfl | rfl | rfl | rfl
    all_goals first | exact absurd hac (by decide) | skip
    · rw [show nI 9 = 9 from rfl, show nI 3 = 3 from rfl] at *
      rw [show f_X4_resultKind 9 3 = 0 by decide]
      exact ov_9_3 τ v hk
    · rw [show nI 10 = 10 from rfl, show nI 3 = 3 from rfl] at *
      rw [show f_X4_resultKind 10 3 = 1 by decide]
      exact ov_10_3 τ v hk
    · rw [show nI 11 = 11 from rfl, show nI 3 = 3 from rfl] at *
      rw [show f_X4_resultKind 11 3 = 2 by decide]
      exact ov_11_3 τ v hk
    · rw [show nI 15 = 15 from rfl, show nI 3 = 3 from rfl] at *
      rw [show f_X4_resultKind 15 3 = 3 by decide]
      exact ov_15_3 τ v hk
    · rw [show nI 16 = 16 from rfl, show nI 3 = 3 from rfl] at *
      rw [show f_X4_resultKind 16 3 = 3 by decide]
      exact ov_16_3 τ v hk
    · rw [show nI 17 = 17 from rfl, show nI 3 = 3 from rfl] at *
      rw [show f_X4_resultKind 17 3 = 1 by decide]
      exact ov_17_3 τ v hk
theorem one_acc {τ : sm_S} {x2 x3 : Int32} (a b : Nat) (ha : a < 19) (hb : b < 4) (c2 : inR x2 8) (c3 : inR x3 8) (hk : τ.1 1 x3.toNatClampNeg = nI b) : f_X6_one τ (nI a) x2 x3 = if acc1 a b = true then f_X6_one_126 (nI a) x2 x3 (nI b) (f_X4_resultKind (nI a) (nI b)) τ else (-1, τ) := by
  unfold f_X6_one f_X6_one_82 f_X6_one_100 f_X6_one_112
  rw [if_pos (pM19 ⟨a, ha, rfl⟩), if_pos (pM8 c2), if_pos (pM8 c3), hk]
  simp only [sm_le]
  rcases (by omega : b = 0 ∨ b = 1 ∨ b = 2 ∨ b = 3) with rfl | rfl | rfl | rfl
  · rcases (by omega : a = 0 ∨ a = 1 ∨ a = 2 ∨ a = 3 ∨ a = 4 ∨ a = 5 ∨ a = 6 ∨ a = 7 ∨ a = 8 ∨ a = 9 ∨ a = 10 ∨ a = 11 ∨ a = 12 ∨ a = 13 ∨ a = 14 ∨ a = 15 ∨ a = 16 ∨ a = 17 ∨ a = 18) with rfl | rfl | rfl | rfl | rfl | rfl | rfl | rfl | rfl | rfl | rfl | rfl | rfl | rfl | rfl | rfl | rfl | rfl | rfl <;> simp (decide := true) only [if_true, if_false]
    all_goals exact congrArg (fun z => f_X6_one_126 _ x2 x3 _ z τ) (by decide)
  · rcases (by omega : a = 0 ∨ a = 1 ∨ a = 2 ∨ a = 3 ∨ a = 4 ∨ a = 5 ∨ a = 6 ∨ a = 7 ∨ a = 8 ∨ a = 9 ∨ a = 10 ∨ a = 11 ∨ a = 12 ∨ a = 13 ∨ a = 14 ∨ a = 15 ∨ a = 16 ∨ a = 17 ∨ a = 18) with rfl | rfl | rfl | rfl | rfl | rfl | rfl | rfl | rfl | rfl | rfl | rfl | rfl | rfl | rfl | rfl | rfl | rfl | rfl <;> simp (decide := true) only [if_true, if_false]
    all_goals exact congrArg (fun z => f_X6_one_126 _ x2 x3 _ z τ) (by decide)
  · rcases (by omega : a = 0 ∨ a = 1 ∨ a = 2 ∨ a = 3 ∨ a = 4 ∨ a = 5 ∨ a = 6 ∨ a = 7 ∨ a = 8 ∨ a = 9 ∨ a = 10 ∨ a = 11 ∨ a = 12 ∨ a = 13 ∨ a = 14 ∨ a = 15 ∨ a = 16 ∨ a = 17 ∨ a = 18) with rfl | rfl | rfl | rfl | rfl | rfl | rfl | rfl | rfl | rfl | rfl | rfl | rfl | rfl | rfl | rfl | rfl | rfl | rfl <;> simp (decide := true) only [if_true, if_false]
    all_goals exact congrArg (fun z => f_X6_one_126 _ x2 x3 _ z τ) (by decide)
  · rcases (by omega : a = 0 ∨ a = 1 ∨ a = 2 ∨ a = 3 ∨ a = 4 ∨ a = 5 ∨ a = 6 ∨ a = 7 ∨ a = 8 ∨ a = 9 ∨ a = 10 ∨ a = 11 ∨ a = 12 ∨ a = 13 ∨ a = 14 ∨ a = 15 ∨ a = 16 ∨ a = 17 ∨ a = 18) with rfl | rfl | rfl | rfl | rfl | rfl | rfl | rfl | rfl | rfl | rfl | rfl | rfl | rfl | rfl | rfl | rfl | rfl | rfl <;> simp (decide := true) only [if_true, if_false]
    all_goals exact congrArg (fun z => f_X6_one_126 _ x2 x3 _ z τ) (by decide)
theorem one180 {τ : sm_S} {r c : Nat} (hr : r < 8) (hc : c < 8) (x to : Int32) (v : Int64) : f_X6_one_180 x (nI r) (nI c) to τ v = (0, uI (uI (uL (uI τ 1 r to) 3 r v) 2 r (τ.1 2 c)) 4 r (pE (τ.1 2 c) (if τ.1 4 c = 0 then 0 else if f_X4_rounds x = 0 then 1 else 0))) := by
  unfold f_X6_one_180 f_X6_one_203 f_X4_rounds
  rw [one208 hr hc, one208 hr hc]
  by_cases c1 : x = 1
  · rw [if_pos c1, if_pos c1]
  · rw [if_neg c1, if_neg c1]
    by_cases c4 : x = 4
    · rw [if_pos c4, if_pos c4]
    · rw [if_neg c4, if_neg c4]
      by_cases c5 : x = 5
      · rw [if_pos c5, if_pos c5]
      · rw [if_neg c5, if_neg c5]
        by_cases c11 : x = 11
        · rw [if_pos c11, if_pos c11]
        · rw [if_neg c11, if_neg c11]
theorem takes_no {x k : Int32} (h : ¬ inR x 19) : f_X4_takes x k = 0 := by
  have h15 : ¬ inR x 15 := fun ⟨r, hr, e⟩ => h ⟨r, by omega, e⟩
  unfold f_X4_takes
  rw [if_pos (show f_X5_isBelow x.toInt64 15 = 0 by rw [gX15]; exact h15), if_neg (show ¬ x = 15 from fun e => h ⟨15, by decide, e⟩), if_neg (show ¬ x = 16 from fun e => h ⟨16, by decide, e⟩), if_neg (show ¬ x = 17 from fun e => h ⟨17, by decide, e⟩), if_neg (show ¬ x = 18 from fun e => h ⟨18, by decide, e⟩)]
theorem kind_n {σ τ : sm_S} {r : Nat} (h : Rel σ τ) (hr : r < 8) : ∃ b, b < 4 ∧ τ.1 1 r = nI b := by
  rcases (h.rg r hr).2.2.1.1 with e | e | e | e
  · exact ⟨0, by decide, e⟩
  · exact ⟨1, by decide, e⟩
  · exact ⟨2, by decide, e⟩
  · exact ⟨3, by decide, e⟩
theorem st_one {σ τ : sm_S} (h : Rel σ τ) (x1 : Int32) (x2 : Int32) (x3 : Int32) : (f_X5_one σ x1 x2 x3).1 = (f_X6_one τ x1 x2 x3).1 ∧ Rel (f_X5_one σ x1 x2 x3).2 (f_X6_one τ x1 x2 x3).2 := by
  unfold f_X5_one
  by_cases c2 : inR x2 8
  · by_cases c3 : inR x3 8
    · rw [if_neg (pX8 c2), if_neg (pX8 c3)]
      by_cases c1 : inR x1 19
      · have c2' := c2
        have c3' := c3
        obtain ⟨a, ha, rfl⟩ := c1
        obtain ⟨r, hr, rfl⟩ := c2
        obtain ⟨c, hc, rfl⟩ := c3
        obtain ⟨b, hb, eb⟩ := kind_n h hc
        obtain ⟨g1, g2, g3, g4⟩ := h.rg c hc
        rw [one_acc a b ha hb c2' c3' (by rw [nI_cl (show c < 2 ^ 31 by omega)]; exact eb), nI_cl (show c < 2 ^ 31 by omega), g1, eb]
        have ht := tk1 a ha b hb
        by_cases ac : acc1 a b = true
        · rw [ac] at ht
          rw [if_pos ac, if_neg (of_decide_eq_false ht)]
          rw [eb] at g3
          obtain ⟨τ', k1, k2, k3⟩ := one_val τ a b (τ.2.1 3 c) ha hb ac g3
          have hM : f_X6_one_126 (nI a) (nI r) (nI c) (nI b) (f_X4_resultKind (nI a) (nI b)) τ = f_X6_one_180 (nI a) (nI r) (nI c) (f_X4_resultKind (nI a) (nI b)) τ' (f_X4_result (nI a) (nI b) (τ.2.1 3 c)) := by
            unfold val1 at k1
            unfold f_X6_one_126
            simp only [sm_le]
            rw [nI_cl (show c < 2 ^ 31 by omega)]
            by_cases d1 : 15 ≤ nI a
            · rw [if_pos d1] at k1 ⊢
              by_cases d2 : 17 ≤ nI a
              · rw [if_pos d2] at k1 ⊢
                rw [k1]
              · rw [if_neg d2] at k1 ⊢
                rw [k1]
            · rw [if_neg d1] at k1 ⊢
              rw [k1]
          rw [hM, one180 hr hc]
          have e2 : τ'.1 2 = τ.1 2 := k2.1 2 (by decide) (by decide) (by decide)
          have e4 : τ'.1 4 = τ.1 4 := k2.1 4 (by decide) (by decide) (by decide)
          rw [e2, e4]
          unfold f_X5_one_60
          simp only [sm_le]
          rw [nI_cl (show c < 2 ^ 31 by omega), g1, g2, eb]
          by_cases rd : f_X4_rounds (nI a) = 0
          · rw [if_pos rd]
            refine ⟨rfl, h.put hr k3 ?_ (sq_uI k2)⟩
            have := g4.keep
            rcases g4.e01 with z | z
            · rw [z] at this ⊢
              rw [if_pos rfl]
              exact this
            · rw [z] at this ⊢
              rw [if_neg (by decide), if_pos rd]
              exact this
          · rw [if_neg rd]
            refine ⟨rfl, h.put hr k3 ?_ (sq_uI k2)⟩
            have e0 : (if τ.1 4 c = 0 then (0 : Int32) else if f_X4_rounds (nI a) = 0 then 1 else 0) = 0 := by
              rw [if_neg rd]
              split <;> rfl
            rw [e0]
            exact g4.inex
        · have ac2 : acc1 a b = false := by
            cases hq : acc1 a b
            · rfl
            · exact absurd hq ac
          rw [ac2] at ht
          rw [if_neg ac, if_pos (of_decide_eq_true ht)]
          exact ⟨rfl, h⟩
      · rw [if_pos (takes_no c1)]
        unfold f_X6_one
        rw [if_neg (nM19 c1)]
        exact ⟨rfl, h⟩
    · rw [if_neg (pX8 c2), if_pos (nX8 c3)]
      unfold f_X6_one
      rw [if_pos (pM8 c2), if_neg (nM8 c3)]
      by_cases c1 : inR x1 19
      · rw [if_pos (pM19 c1)]
        exact ⟨rfl, h⟩
      · rw [if_neg (nM19 c1)]
        exact ⟨rfl, h⟩
  · rw [if_pos (nX8 c2)]
    unfold f_X6_one
    rw [if_neg (nM8 c2)]
    by_cases c1 : inR x1 19
    · rw [if_pos (pM19 c1)]
      exact ⟨rfl, h⟩
    · rw [if_neg (nM19 c1)]
      exact ⟨rfl, h⟩
