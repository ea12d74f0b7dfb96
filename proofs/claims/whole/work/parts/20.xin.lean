def f_X0_kindTaken (i : Nat) (σ : sm_S) : Int32 := if 4 ≤ (σ.1 (10 + 3 * i) 0) then ((σ.1 (10 + 3 * i) 0) - 4) else 0
set_option maxRecDepth 100000 in
set_option maxHeartbeats 4000000 in
theorem c_X0_kindTaken (l : Launch) (g : sm_G) (ad : Nat → Nat) (hj : sm_inj 22 ad) (sz : Nat) (i : Nat) (σ : sm_S) (hi : i < 4)  : Met l yX0_kindTaken (sm_ws yX0_kindTaken cX0_kindTaken 1 (some .int)) (rmd 0) (va_Pc [.ref (ad (10 + 3 * i))] (sm_Pre g 22 ad (eX g ad) σ sz)) (vp_Si (fun r => r = f_X0_kindTaken i σ)) 0 0 (fun _ => False) := by
  generalize hv : f_X0_kindTaken i σ = F
  replace hv := hv.symm
  refine sm_mR (by decide) (Nat.le_of_ble_eq_true rfl) hj (eX_lay g ad) (fun p e s m args below meth c C hW hB ls hl => ?_)
  obtain ⟨hC, hr, hlocks⟩ := C
  have hx := hC.1
  have hb := hC.2.1
  have hts := hC.2.2.2.2
  have hown : s.vm.findClass RX0 = some m.cls := hC.2.2.2.1
  have hl : lv_has ls 1 [(0, .ref (ad (10 + 3 * i)))] := hl
  refine lv_aload_n hx hb dX0_kindTaken_0 rfl (lv_at hl 0 rfl) ?_
  refine fg_RX0_19 hx hb hts hown hW hB hi dX0_kindTaken_1 ?_
  refine lv_iconst (v := 4) hx hb dX0_kindTaken_4 (by decide) ?_
  refine lv_icmp_ge (tgt := 12) hx hb dX0_kindTaken_5 (by decide) (fun c5 => ?_) (fun c5 => ?_)
  · have hv := hv.trans (if_pos c5)
    refine lv_aload_n hx hb dX0_kindTaken_12 rfl (lv_at hl 0 rfl) ?_
    refine fg_RX0_19 hx hb hts hown hW hB hi dX0_kindTaken_13 ?_
    refine lv_iconst (v := 4) hx hb dX0_kindTaken_16 (by decide) ?_
    refine lv_isub hx hb dX0_kindTaken_17 ?_
    exact sm_ri hx hb hr hlocks hv dX0_kindTaken_18
  · have hv := hv.trans (if_neg c5)
    refine lv_iconst (v := 0) hx hb dX0_kindTaken_8 (by decide) ?_
    refine lv_goto (tgt := 18) hx hb dX0_kindTaken_9 (by decide) ?_
    exact sm_ri hx hb hr hlocks hv dX0_kindTaken_18
def f_X0_hasRun (i : Nat) (σ : sm_S) (x1 : Int32) (x2 : Int32) : Int32 := if x1 < 0 then 0 else (if x2 < 0 then 0 else (if (Int32.toInt64 (σ.1 (10 + 3 * i) 1)) < ((Int32.toInt64 x1) + (Int32.toInt64 x2)) then 0 else 1))
theorem hasRun_ok {i : Nat} {σ : sm_S} {p n : Int32} (h : ¬ f_X0_hasRun i σ p n = 0) (hI : (σ.1 (10 + 3 * i) 1).toInt ≤ 12) : (¬ p < 0 ∧ ¬ n < 0) ∧ p.toNatClampNeg + n.toNatClampNeg ≤ 12 := by
  unfold f_X0_hasRun at h
  by_cases a : p < 0
  · simp [a] at h
  · by_cases b : n < 0
    · simp [a, b] at h
    · refine ⟨⟨a, b⟩, ?_⟩
      by_cases d : Int32.toInt64 (σ.1 (10 + 3 * i) 1) < Int32.toInt64 p + Int32.toInt64 n
      · simp [a, b, d] at h
      · have e : (Int32.toInt64 p + Int32.toInt64 n).toInt = p.toInt + n.toInt := by
          have h1 := Int32.toInt_lt p
          have h2 := Int32.le_toInt p
          have h3 := Int32.toInt_lt n
          have h4 := Int32.le_toInt n
          rw [Int64.toInt_add, Int32.toInt_toInt64, Int32.toInt_toInt64]
          apply Int.bmod_eq_of_le <;> omega
        rw [Int64.lt_iff_toInt_lt, e, Int32.toInt_toInt64] at d
        rw [Int32.lt_iff_toInt_lt] at a b
        have z : (0 : Int32).toInt = 0 := rfl
        show p.toInt.toNat + n.toInt.toNat ≤ 12
        omega
set_option maxRecDepth 100000 in
set_option maxHeartbeats 4000000 in
theorem c_X0_hasRun (l : Launch) (g : sm_G) (ad : Nat → Nat) (hj : sm_inj 22 ad) (sz : Nat) (i : Nat) (σ : sm_S) (x1 : Int32) (x2 : Int32) (hi : i < 4)  : Met l yX0_hasRun (sm_ws yX0_hasRun cX0_hasRun 3 (some .boolean)) (rmd 0) (va_Pc [.ref (ad (10 + 3 * i)), .int x1, .int x2] (sm_Pre g 22 ad (eX g ad) σ sz)) (vp_Si (fun r => r = f_X0_hasRun i σ x1 x2)) 0 0 (fun _ => False) := by
  generalize hv : f_X0_hasRun i σ x1 x2 = F
  replace hv := hv.symm
  refine sm_mR (by decide) (Nat.le_of_ble_eq_true rfl) hj (eX_lay g ad) (fun p e s m args below meth c C hW hB ls hl => ?_)
  obtain ⟨hC, hr, hlocks⟩ := C
  have hx := hC.1
  have hb := hC.2.1
  have hts := hC.2.2.2.2
  have hown : s.vm.findClass RX0 = some m.cls := hC.2.2.2.1
  have hl : lv_has ls 3 [(0, .ref (ad (10 + 3 * i))), (1, .int x1), (2, .int x2)] := hl
  refine lv_iload_n hx hb dX0_hasRun_0 rfl (lv_at hl 1 rfl) ?_
  refine lv_if_lt (tgt := 26) hx hb dX0_hasRun_1 (by decide) (fun c1 => ?_) (fun c1 => ?_)
  · have hv := hv.trans (if_pos c1)
    refine lv_iconst (v := 0) hx hb dX0_hasRun_26 (by decide) ?_
    exact sm_rz hx hb hr hlocks rfl hv dX0_hasRun_27
  · have hv := hv.trans (if_neg c1)
    refine lv_iload_n hx hb dX0_hasRun_4 rfl (lv_at hl 2 rfl) ?_
    refine lv_if_lt (tgt := 26) hx hb dX0_hasRun_5 (by decide) (fun c5 => ?_) (fun c5 => ?_)
    · have hv := hv.trans (if_pos c5)
      refine lv_iconst (v := 0) hx hb dX0_hasRun_26 (by decide) ?_
      exact sm_rz hx hb hr hlocks rfl hv dX0_hasRun_27
    · have hv := hv.trans (if_neg c5)
      refine lv_iload_n hx hb dX0_hasRun_8 rfl (lv_at hl 1 rfl) ?_
      refine lv_i2l hx hb dX0_hasRun_9 rfl ?_
      refine lv_iload_n hx hb dX0_hasRun_10 rfl (lv_at hl 2 rfl) ?_
      refine lv_i2l hx hb dX0_hasRun_11 rfl ?_
      refine lv_ladd hx hb dX0_hasRun_12 ?_
      refine lv_aload_n hx hb dX0_hasRun_13 rfl (lv_at hl 0 rfl) ?_
      refine fg_RX0_23 hx hb hts hown hW hB hi dX0_hasRun_14 ?_
      refine lv_i2l hx hb dX0_hasRun_17 rfl ?_
      refine lc_gt (tgt := 26) hx hb dX0_hasRun_18 dX0_hasRun_19 (by decide) (fun c18 => ?_) (fun c18 => ?_)
      · have hv := hv.trans (if_pos c18)
        refine lv_iconst (v := 0) hx hb dX0_hasRun_26 (by decide) ?_
        exact sm_rz hx hb hr hlocks rfl hv dX0_hasRun_27
      · have hv := hv.trans (if_neg c18)
        refine lv_iconst (v := 1) hx hb dX0_hasRun_22 (by decide) ?_
        refine lv_goto (tgt := 27) hx hb dX0_hasRun_23 (by decide) ?_
        exact sm_rz hx hb hr hlocks rfl hv dX0_hasRun_27
def f_X0_narrowed (i : Nat) (σ : sm_S) (x1 : Int64) : Int64 := if (σ.1 (10 + 3 * i) 0) = 0 then (x1 &&& 1) else if (σ.1 (10 + 3 * i) 0) = 1 then (Int32.toInt64 (Int8.toInt32 (Int32.toInt8 (Int64.toInt32 x1)))) else if (σ.1 (10 + 3 * i) 0) = 2 then (Int32.toInt64 (UInt32.toInt32 (Int32.toUInt32 (Int64.toInt32 x1) % 65536))) else if (σ.1 (10 + 3 * i) 0) = 3 then (Int32.toInt64 (Int16.toInt32 (Int32.toInt16 (Int64.toInt32 x1)))) else x1
set_option maxRecDepth 100000 in
set_option maxHeartbeats 4000000 in
theorem c_X0_narrowed (l : Launch) (g : sm_G) (ad : Nat → Nat) (hj : sm_inj 22 ad) (sz : Nat) (i : Nat) (σ : sm_S) (x1 : Int64) (hi : i < 4)  : Met l yX0_narrowed (sm_ws yX0_narrowed cX0_narrowed 3 (some .long)) (rmd 0) (va_Pc [.ref (ad (10 + 3 * i)), .long x1] (sm_Pre g 22 ad (eX g ad) σ sz)) (vp_Sl (fun r => r = f_X0_narrowed i σ x1)) 0 0 (fun _ => False) := by
  generalize hv : f_X0_narrowed i σ x1 = F
  replace hv := hv.symm
  refine sm_mR (by decide) (Nat.le_of_ble_eq_true rfl) hj (eX_lay g ad) (fun p e s m args below meth c C hW hB ls hl => ?_)
  obtain ⟨hC, hr, hlocks⟩ := C
  have hx := hC.1
  have hb := hC.2.1
  have hts := hC.2.2.2.2
  have hown : s.vm.findClass RX0 = some m.cls := hC.2.2.2.1
  have hl : lv_has ls 3 [(0, .ref (ad (10 + 3 * i))), (1, .long x1)] := hl
  refine lv_aload_n hx hb dX0_narrowed_0 rfl (lv_at hl 0 rfl) ?_
  refine fg_RX0_19 hx hb hts hown hW hB hi dX0_narrowed_1 ?_
  by_cases c4_0 : (σ.1 (10 + 3 * i) 0) = 0
  · have hv := hv.trans (if_pos c4_0)
    refine lv_tableIn (tgt := 36) hx hb dX0_narrowed_4 (by rw [c4_0]; decide) (by rw [c4_0]; decide) (by rw [c4_0]; rfl) (by decide) ?_
    refine lv_lload_n hx hb dX0_narrowed_36 rfl (lv_at hl 1 rfl) ?_
    refine lv_lconst (v := 1) hx hb dX0_narrowed_37 (by decide) ?_
    refine lv_land hx hb dX0_narrowed_38 ?_
    exact sm_rl hx hb hr hlocks hv dX0_narrowed_39
  · have hv := hv.trans (if_neg c4_0)
    by_cases c4_1 : (σ.1 (10 + 3 * i) 0) = 1
    · have hv := hv.trans (if_pos c4_1)
      refine lv_tableIn (tgt := 40) hx hb dX0_narrowed_4 (by rw [c4_1]; decide) (by rw [c4_1]; decide) (by rw [c4_1]; rfl) (by decide) ?_
      refine lv_lload_n hx hb dX0_narrowed_40 rfl (lv_at hl 1 rfl) ?_
      refine lv_l2i hx hb dX0_narrowed_41 rfl ?_
      refine lv_i2b hx hb dX0_narrowed_42 rfl ?_
      refine lv_i2l hx hb dX0_narrowed_43 rfl ?_
      exact sm_rl hx hb hr hlocks hv dX0_narrowed_44
    · have hv := hv.trans (if_neg c4_1)
      by_cases c4_2 : (σ.1 (10 + 3 * i) 0) = 2
      · have hv := hv.trans (if_pos c4_2)
        refine lv_tableIn (tgt := 45) hx hb dX0_narrowed_4 (by rw [c4_2]; decide) (by rw [c4_2]; decide) (by rw [c4_2]; rfl) (by decide) ?_
        refine lv_lload_n hx hb dX0_narrowed_45 rfl (lv_at hl 1 rfl) ?_
        refine lv_l2i hx hb dX0_narrowed_46 rfl ?_
        refine lv_i2c hx hb dX0_narrowed_47 rfl ?_
        refine lv_i2l hx hb dX0_narrowed_48 rfl ?_
        exact sm_rl hx hb hr hlocks hv dX0_narrowed_49
      · have hv := hv.trans (if_neg c4_2)
        by_cases c4_3 : (σ.1 (10 + 3 * i) 0) = 3
        · have hv := hv.trans (if_pos c4_3)
          refine lv_tableIn (tgt := 50) hx hb dX0_narrowed_4 (by rw [c4_3]; decide) (by rw [c4_3]; decide) (by rw [c4_3]; rfl) (by decide) ?_
          refine lv_lload_n hx hb dX0_narrowed_50 rfl (lv_at hl 1 rfl) ?_
          refine lv_l2i hx hb dX0_narrowed_51 rfl ?_
          refine lv_i2s hx hb dX0_narrowed_52 rfl ?_
          refine lv_i2l hx hb dX0_narrowed_53 rfl ?_
          exact sm_rl hx hb hr hlocks hv dX0_narrowed_54
        · have hv := hv.trans (if_neg c4_3)
          refine lv_tableOut (tgt := 55) hx hb dX0_narrowed_4 (by have := lv_neT c4_0 (show (0 : Int32).toInt = 0 from rfl); have := lv_neT c4_1 (show (1 : Int32).toInt = 1 from rfl); have := lv_neT c4_2 (show (2 : Int32).toInt = 2 from rfl); have := lv_neT c4_3 (show (3 : Int32).toInt = 3 from rfl); omega) (by decide) ?_
          refine lv_lload_n hx hb dX0_narrowed_55 rfl (lv_at hl 1 rfl) ?_
          exact sm_rl hx hb hr hlocks hv dX0_narrowed_56
def f_X0_keep (i : Nat) (σ : sm_S) (x1 : Int32) (x2 : Int64) (x4 : Int32) : sm_S := if 4 ≤ ((uL σ (11 + 3 * i) (Int32.toNatClampNeg x1) (f_X0_narrowed i σ x2)).1 (10 + 3 * i) 0) then (uI (uL σ (11 + 3 * i) (Int32.toNatClampNeg x1) (f_X0_narrowed i σ x2)) (12 + 3 * i) (Int32.toNatClampNeg x1) x4) else (uI (uL σ (11 + 3 * i) (Int32.toNatClampNeg x1) (f_X0_narrowed i σ x2)) (12 + 3 * i) (Int32.toNatClampNeg x1) (f_X5_inexact x4))
set_option maxRecDepth 100000 in
set_option maxHeartbeats 4000000 in
theorem c_X0_keep (l : Launch) (g : sm_G) (ad : Nat → Nat) (hj : sm_inj 22 ad) (sz : Nat) (i : Nat) (σ : sm_S) (x1 : Int32) (x2 : Int64) (x4 : Int32) (hi : i < 4) (h1 : vp_in x1 12) : Met l yX0_keep (sm_ws yX0_keep cX0_keep 5 (none)) (rmd 1) (va_Pc [.ref (ad (10 + 3 * i)), .int x1, .long x2, .int x4] (sm_Pre g 22 ad (eX g ad) σ sz)) (sm_Qv g 22 ad (eX g ad) sz (f_X0_keep i σ x1 x2 x4)) 0 0 (sm_AX 22 ad sz) := by
  generalize hv : f_X0_keep i σ x1 x2 x4 = F
  replace hv := hv.symm
  refine sm_mWv (by decide) (Nat.le_of_ble_eq_true rfl) hj (eX_lay g ad) (fun p e s m args below meth c C hW hB ls hl => ?_)
  obtain ⟨hC, hr, hlocks⟩ := C
  have hx := hC.1
  have hb := hC.2.1
  have hts := hC.2.2.2.2
  have hown : s.vm.findClass RX0 = some m.cls := hC.2.2.2.1
  have hl : lv_has ls 5 [(0, .ref (ad (10 + 3 * i))), (1, .int x1), (2, .long x2), (4, .int x4)] := hl
  refine lv_aload_n hx hb dX0_keep_0 rfl (lv_at hl 0 rfl) ?_
  refine fg_RX0_9 hx hb hts hown hW hB hi dX0_keep_1 ?_
  refine lv_iload_n hx hb dX0_keep_4 rfl (lv_at hl 1 rfl) ?_
  refine lv_aload_n hx hb dX0_keep_5 rfl (lv_at hl 0 rfl) ?_
  refine lv_lload_n hx hb dX0_keep_6 rfl (lv_at hl 2 rfl) ?_
  refine sm_cl (sm_runV (rest := [.int x1, .ref (ad (11 + 3 * i))]) hC (c_X0_narrowed l g ad hW.2.1 _ i σ x2 hi) k_X0_narrowed w_457 (by decide) (sm_pv hW hB (c0_lt hi) (eX_c0 hi g ad _) rfl) rfl hl.1 rfl (Nat.le_of_ble_eq_true rfl) dX0_keep_7) ?_
  refine sw_ls hx hb hW hB (11 + 3 * i) (c1_lt hi) (eX_c1 hi g ad) h1 dX0_keep_10 (fun H locs hB => ?_)
  refine lv_aload_n hx hb dX0_keep_11 rfl (lv_at hl 0 rfl) ?_
  refine fg_RX0_15 hx hb hts hown hW hB hi dX0_keep_12 ?_
  refine lv_iload_n hx hb dX0_keep_15 rfl (lv_at hl 1 rfl) ?_
  refine lv_aload_n hx hb dX0_keep_16 rfl (lv_at hl 0 rfl) ?_
  refine fg_RX0_19 hx hb hts hown hW hB hi dX0_keep_17 ?_
  refine lv_iconst (v := 4) hx hb dX0_keep_20 (by decide) ?_
  refine lv_icmp_ge (tgt := 32) hx hb dX0_keep_21 (by decide) (fun c21 => ?_) (fun c21 => ?_)
  · have hv := hv.trans (if_pos c21)
    refine lv_iload hx hb dX0_keep_32 (lv_at hl 3 rfl) ?_
    refine sw_is hx hb hW hB (12 + 3 * i) (c2_lt hi) (eX_c2 hi g ad) h1 dX0_keep_34 (fun H locs hB => ?_)
    exact sw_rv hx hb hr hlocks hB hv dX0_keep_35
  · have hv := hv.trans (if_neg c21)
    refine lv_iload hx hb dX0_keep_24 (lv_at hl 3 rfl) ?_
    refine sm_ci (sm_runSN (rest := [.int x1, .ref (ad (12 + 3 * i))]) hC (c_X5_inexact l g x4) k_X5_inexact (hW.1.2.1 _ (List.mem_of_getElem? (i := 7) rfl)) (by decide) (sm_ps hW.1 hB.2) rfl hl.1 rfl (Nat.le_of_ble_eq_true rfl) dX0_keep_26) ?_
    refine lv_goto (tgt := 34) hx hb dX0_keep_29 (by decide) ?_
    refine sw_is hx hb hW hB (12 + 3 * i) (c2_lt hi) (eX_c2 hi g ad) h1 dX0_keep_34 (fun H locs hB => ?_)
    exact sw_rv hx hb hr hlocks hB hv dX0_keep_35
def f_X0_renew_12 : Nat → Nat → sm_S → Int32 → sm_S
  | 0, _, _, _ => default
  | n + 1, i, σ, v3_12 => if 12 ≤ v3_12 then σ else (sm_let (v3_12 + 1) (fun y33_1 => f_X0_renew_12 n i (uI (uL σ (11 + 3 * i) (Int32.toNatClampNeg v3_12) 0) (12 + 3 * i) (Int32.toNatClampNeg v3_12) 64) y33_1))
def f_X0_renew (i : Nat) (σ : sm_S) (x1 : Int32) (x2 : Int32) : sm_S := f_X0_renew_12 (((12 : Int32).toInt - Int32.toInt 0).toNat + 1) i (uI (uI σ (10 + 3 * i) 0 x1) (10 + 3 * i) 1 x2) 0
set_option maxRecDepth 100000 in
set_option maxHeartbeats 4000000 in
theorem c_X0_renew (l : Launch) (g : sm_G) (ad : Nat → Nat) (hj : sm_inj 22 ad) (sz : Nat) (i : Nat) (σ : sm_S) (x1 : Int32) (x2 : Int32) (hi : i < 4)  : Met l yX0_renew (sm_ws yX0_renew cX0_renew 4 (none)) (rmd 0) (va_Pc [.ref (ad (10 + 3 * i)), .int x1, .int x2] (sm_Pre g 22 ad (eX g ad) σ sz)) (sm_Qv g 22 ad (eX g ad) sz (f_X0_renew i σ x1 x2)) 0 0 (sm_AX 22 ad sz) := by
  generalize hv : f_X0_renew i σ x1 x2 = F
  replace hv := hv.symm
  refine sm_mWv (by decide) (Nat.le_of_ble_eq_true rfl) hj (eX_lay g ad) (fun p e s m args below meth c C hW hB ls hl => ?_)
  obtain ⟨hC, hr, hlocks⟩ := C
  have hx := hC.1
  have hb := hC.2.1
  have hts := hC.2.2.2.2
  have hown : s.vm.findClass RX0 = some m.cls := hC.2.2.2.1
  have hl : lv_has ls 4 [(0, .ref (ad (10 + 3 * i))), (1, .int x1), (2, .int x2)] := hl
  refine lv_aload_n hx hb dX0_renew_0 rfl (lv_at hl 0 rfl) ?_
  refine lv_iload_n hx hb dX0_renew_1 rfl (lv_at hl 1 rfl) ?_
  refine fp_RX0_19 hx hb hts hown hW hB hi dX0_renew_2 (fun H locs hB => ?_)
  refine lv_aload_n hx hb dX0_renew_5 rfl (lv_at hl 0 rfl) ?_
  refine lv_iload_n hx hb dX0_renew_6 rfl (lv_at hl 2 rfl) ?_
  refine fp_RX0_23 hx hb hts hown hW hB hi dX0_renew_7 (fun H locs hB => ?_)
  refine lv_iconst (v := 0) hx hb dX0_renew_10 (by decide) ?_
  have k_12 : ∀ (n : Nat) (v3_12 : Int32) (σ : sm_S) (ls : Array Slot) (H : Heap) (locs : List Loc), ¬ v3_12 < 0 → ((12 : Int32).toInt - Int32.toInt v3_12).toNat < n → lv_has ls 4 [(0, .ref (ad (10 + 3 * i))), (3, .int v3_12)] → sm_B g 22 ad (eX g ad) s H locs σ → F = f_X0_renew_12 n i σ v3_12 → W p l e (rmd 0) s m args below meth c H locs 0 0 (MQ below (sm_Qv g 22 ad (eX g ad) s.heap.size F) args s 0 0 (sm_AX 22 ad s.heap.size)) (F0 m 12 ls []) := by
    intro n
    induction n with
    | zero =>
      intro v3_12 σ ls H locs i0 hme hl hB hv
      exact absurd hme (Nat.not_lt_zero _)
    | succ n ih =>
      intro v3_12 σ ls H locs i0 hme hl hB hv
      refine lv_iload_n hx hb dX0_renew_12 rfl (lv_at hl 1 rfl) ?_
      refine lv_bipush (v := 12) hx hb dX0_renew_13 (by decide) ?_
      refine lv_icmp_ge (tgt := 39) hx hb dX0_renew_15 (by decide) (fun c15 => ?_) (fun c15 => ?_)
      · have hv := hv.trans (if_pos c15)
        exact sw_rv hx hb hr hlocks hB hv dX0_renew_39
      · have hv := hv.trans (if_neg c15)
        refine lv_aload_n hx hb dX0_renew_18 rfl (lv_at hl 0 rfl) ?_
        refine fg_RX0_9 hx hb hts hown hW hB hi dX0_renew_19 ?_
        refine lv_iload_n hx hb dX0_renew_22 rfl (lv_at hl 1 rfl) ?_
        refine lv_lconst (v := 0) hx hb dX0_renew_23 (by decide) ?_
        refine sw_ls hx hb hW hB (11 + 3 * i) (c1_lt hi) (eX_c1 hi g ad) (in_ge i0 c15 (by decide)) dX0_renew_24 (fun H locs hB => ?_)
        refine lv_aload_n hx hb dX0_renew_25 rfl (lv_at hl 0 rfl) ?_
        refine fg_RX0_15 hx hb hts hown hW hB hi dX0_renew_26 ?_
        refine lv_iload_n hx hb dX0_renew_29 rfl (lv_at hl 1 rfl) ?_
        refine lv_bipush (v := 64) hx hb dX0_renew_30 (by decide) ?_
        refine sw_is hx hb hW hB (12 + 3 * i) (c2_lt hi) (eX_c2 hi g ad) (in_ge i0 c15 (by decide)) dX0_renew_32 (fun H locs hB => ?_)
        obtain ⟨y33_1, ey33_1, hv⟩ := sm_lt hv
        refine lv_iinc (v := y33_1) (lv' := [(3, .int y33_1), (0, .ref (ad (10 + 3 * i)))]) hx hb dX0_renew_33 hl (k := 1) rfl (by rw [ey33_1]; rfl) (by decide) rfl (fun ls hl => ?_)
        refine lv_goto (tgt := 12) hx hb dX0_renew_36 (by decide) ?_
        exact ih y33_1 (uI (uL σ (11 + 3 * i) (Int32.toNatClampNeg v3_12) 0) (12 + 3 * i) (Int32.toNatClampNeg v3_12) 64) _ _ _ (by rw [ey33_1]; exact nn_inc i0 c15) (by rw [ey33_1]; exact Nat.lt_of_lt_of_le (me_inc c15) (Nat.le_of_lt_succ hme)) (lv_sub hl [1, 0] rfl) hB hv
  refine lv_istore_n (lv' := [(3, .int 0), (0, .ref (ad (10 + 3 * i))), (1, .int x1), (2, .int x2)]) hx hb dX0_renew_11 rfl hl (by decide) rfl (fun ls hl => ?_)
  exact k_12 (((12 : Int32).toInt - Int32.toInt 0).toNat + 1) 0 (uI (uI σ (10 + 3 * i) 0 x1) (10 + 3 * i) 1 x2) _ _ _ (by decide) (Nat.lt_succ_self _) (lv_sub hl [1, 0] rfl) hB hv
def f_X2_add (k : Nat) (σ : sm_S) (x1 : Int32) (x2 : Int32) (x3 : Int32) : sm_S := sm_let (f_X2_startOf (σ.1 k 0)) (fun y7_1 => uI (uI (uI (uI σ (k + 1) (Int32.toNatClampNeg y7_1) x1) (k + 1) (Int32.toNatClampNeg (y7_1 + 1)) x2) (k + 1) (Int32.toNatClampNeg (y7_1 + 2)) x3) k 0 (((uI (uI (uI σ (k + 1) (Int32.toNatClampNeg y7_1) x1) (k + 1) (Int32.toNatClampNeg (y7_1 + 1)) x2) (k + 1) (Int32.toNatClampNeg (y7_1 + 2)) x3).1 k 0) + 1))
set_option maxRecDepth 100000 in
set_option maxHeartbeats 4000000 in
theorem c_X2_add (l : Launch) (g : sm_G) (ad : Nat → Nat) (hj : sm_inj 22 ad) (sz : Nat) (k : Nat) (σ : sm_S) (x1 : Int32) (x2 : Int32) (x3 : Int32) (hk : k = 6 ∨ k = 8)  : Met l yX2_add (sm_ws yX2_add cX2_add 5 (none)) (rmd 1) (va_Pc [.ref (ad k), .int x1, .int x2, .int x3] (sm_Pre g 22 ad (eX g ad) σ sz)) (sm_Qv g 22 ad (eX g ad) sz (f_X2_add k σ x1 x2 x3)) 0 0 (sm_AX 22 ad sz) := by
  generalize hv : f_X2_add k σ x1 x2 x3 = F
  replace hv := hv.symm
  refine sm_mWv (by decide) (Nat.le_of_ble_eq_true rfl) hj (eX_lay g ad) (fun p e s m args below meth c C hW hB ls hl => ?_)
  obtain ⟨hC, hr, hlocks⟩ := C
  have hx := hC.1
  have hb := hC.2.1
  have hts := hC.2.2.2.2
  have hown : s.vm.findClass RX2 = some m.cls := hC.2.2.2.1
  have hl : lv_has ls 5 [(0, .ref (ad k)), (1, .int x1), (2, .int x2), (3, .int x3)] := hl
  refine lv_aload_n hx hb dX2_add_0 rfl (lv_at hl 0 rfl) ?_
  refine fg_RX2_15 hx hb hts hown hW hB hk dX2_add_1 ?_
  refine sm_ci (sm_runS (rest := []) hC (c_X2_startOf l g (σ.1 k 0)) k_X2_startOf w_398 (by decide) (sm_ps hW.1 hB.2) rfl hl.1 rfl (Nat.le_of_ble_eq_true rfl) dX2_add_4) ?_
  refine sm_nmi hv (fun y7_1 ey7_1 hv => ?_)
  refine lv_istore (lv' := [(4, .int y7_1), (0, .ref (ad k)), (1, .int x1), (2, .int x2), (3, .int x3)]) hx hb dX2_add_7 hl (by decide) rfl (fun ls hl => ?_)
  refine lv_aload_n hx hb dX2_add_9 rfl (lv_at hl 1 rfl) ?_
  refine fg_RX2_11 hx hb hts hown hW hB hk dX2_add_10 ?_
  refine lv_iload hx hb dX2_add_13 (lv_at hl 0 rfl) ?_
  refine lv_iload_n hx hb dX2_add_15 rfl (lv_at hl 2 rfl) ?_
  refine sw_is hx hb hW hB (k + 1) (nn_lt hk) (eX_nn hk g ad) (by rw [ey7_1]; exact startOf_in0 _) dX2_add_16 (fun H locs hB => ?_)
  refine lv_aload_n hx hb dX2_add_17 rfl (lv_at hl 1 rfl) ?_
  refine fg_RX2_11 hx hb hts hown hW hB hk dX2_add_18 ?_
  refine lv_iload hx hb dX2_add_21 (lv_at hl 0 rfl) ?_
  refine lv_iconst (v := 1) hx hb dX2_add_23 (by decide) ?_
  refine lv_iadd hx hb dX2_add_24 ?_
  refine lv_iload_n hx hb dX2_add_25 rfl (lv_at hl 3 rfl) ?_
  refine sw_is hx hb hW hB (k + 1) (nn_lt hk) (eX_nn hk g ad) (by rw [ey7_1]; exact startOf_in1 _) dX2_add_26 (fun H locs hB => ?_)
  refine lv_aload_n hx hb dX2_add_27 rfl (lv_at hl 1 rfl) ?_
  refine fg_RX2_11 hx hb hts hown hW hB hk dX2_add_28 ?_
  refine lv_iload hx hb dX2_add_31 (lv_at hl 0 rfl) ?_
  refine lv_iconst (v := 2) hx hb dX2_add_33 (by decide) ?_
  refine lv_iadd hx hb dX2_add_34 ?_
  refine lv_iload_n hx hb dX2_add_35 rfl (lv_at hl 4 rfl) ?_
  refine sw_is hx hb hW hB (k + 1) (nn_lt hk) (eX_nn hk g ad) (by rw [ey7_1]; exact startOf_in2 _) dX2_add_36 (fun H locs hB => ?_)
  refine lv_aload_n hx hb dX2_add_37 rfl (lv_at hl 1 rfl) ?_
  refine lv_dup hx hb dX2_add_38 rfl ?_
  refine fg_RX2_15 hx hb hts hown hW hB hk dX2_add_39 ?_
  refine lv_iconst (v := 1) hx hb dX2_add_42 (by decide) ?_
  refine lv_iadd hx hb dX2_add_43 ?_
  refine fp_RX2_15 hx hb hts hown hW hB hk dX2_add_44 (fun H locs hB => ?_)
  exact sw_rv hx hb hr hlocks hB hv dX2_add_47
def f_X2_told (k : Nat) (σ : sm_S) (x1 : Int32) (x2 : Int32) : Int64 := if x1 < 0 then 1234567890123456789 else (if 16 ≤ x1 then 1234567890123456789 else (if (σ.1 k 0) ≤ x1 then 1234567890123456789 else (if (f_X5_isBelow (Int32.toInt64 x2) 3) = 0 then 1234567890123456789 else (Int32.toInt64 (σ.1 (k + 1) (Int32.toNatClampNeg ((f_X2_startOf (((σ.1 k 0) - 1) - x1)) + x2)))))))
set_option maxRecDepth 100000 in
set_option maxHeartbeats 4000000 in
theorem c_X2_told (l : Launch) (g : sm_G) (ad : Nat → Nat) (hj : sm_inj 22 ad) (sz : Nat) (k : Nat) (σ : sm_S) (x1 : Int32) (x2 : Int32) (hk : k = 6 ∨ k = 8)  : Met l yX2_told (sm_ws yX2_told cX2_told 3 (some .long)) (rmd 1) (va_Pc [.ref (ad k), .int x1, .int x2] (sm_Pre g 22 ad (eX g ad) σ sz)) (vp_Sl (fun r => r = f_X2_told k σ x1 x2)) 0 0 (fun _ => False) := by
  generalize hv : f_X2_told k σ x1 x2 = F
  replace hv := hv.symm
  refine sm_mR (by decide) (Nat.le_of_ble_eq_true rfl) hj (eX_lay g ad) (fun p e s m args below meth c C hW hB ls hl => ?_)
  obtain ⟨hC, hr, hlocks⟩ := C
  have hx := hC.1
  have hb := hC.2.1
  have hts := hC.2.2.2.2
  have hown : s.vm.findClass RX2 = some m.cls := hC.2.2.2.1
  have hl : lv_has ls 3 [(0, .ref (ad k)), (1, .int x1), (2, .int x2)] := hl
  refine lv_iload_n hx hb dX2_told_0 rfl (lv_at hl 1 rfl) ?_
  refine lv_if_lt (tgt := 27) hx hb dX2_told_1 (by decide) (fun c1 => ?_) (fun c1 => ?_)
  · have hv := hv.trans (if_pos c1)
    refine lv_ldc2 hx hb hown (hts _ w_510) dX2_told_27 ?_
    exact sm_rl hx hb hr hlocks hv dX2_told_30
  · have hv := hv.trans (if_neg c1)
    refine lv_iload_n hx hb dX2_told_4 rfl (lv_at hl 1 rfl) ?_
    refine lv_bipush (v := 16) hx hb dX2_told_5 (by decide) ?_
    refine lv_icmp_ge (tgt := 27) hx hb dX2_told_7 (by decide) (fun c7 => ?_) (fun c7 => ?_)
    · have hv := hv.trans (if_pos c7)
      refine lv_ldc2 hx hb hown (hts _ w_510) dX2_told_27 ?_
      exact sm_rl hx hb hr hlocks hv dX2_told_30
    · have hv := hv.trans (if_neg c7)
      refine lv_iload_n hx hb dX2_told_10 rfl (lv_at hl 1 rfl) ?_
      refine lv_aload_n hx hb dX2_told_11 rfl (lv_at hl 0 rfl) ?_
      refine fg_RX2_15 hx hb hts hown hW hB hk dX2_told_12 ?_
      refine lv_icmp_ge (tgt := 27) hx hb dX2_told_15 (by decide) (fun c15 => ?_) (fun c15 => ?_)
      · have hv := hv.trans (if_pos c15)
        refine lv_ldc2 hx hb hown (hts _ w_510) dX2_told_27 ?_
        exact sm_rl hx hb hr hlocks hv dX2_told_30
      · have hv := hv.trans (if_neg c15)
        refine lv_iload_n hx hb dX2_told_18 rfl (lv_at hl 2 rfl) ?_
        refine lv_i2l hx hb dX2_told_19 rfl ?_
        refine lv_iconst (v := 3) hx hb dX2_told_20 (by decide) ?_
        refine sm_ci (sm_runSN (rest := []) hC (c_X5_isBelow l g (Int32.toInt64 x2) 3) k_X5_isBelow (hW.1.2.1 _ (List.mem_of_getElem? (i := 8) rfl)) (by decide) (sm_ps hW.1 hB.2) rfl hl.1 rfl (Nat.le_of_ble_eq_true rfl) dX2_told_21) ?_
        refine lv_if_ne (tgt := 31) hx hb dX2_told_24 (by decide) (fun c24 => ?_) (fun c24 => ?_)
        · have hv := hv.trans (if_neg c24)
          refine lv_aload_n hx hb dX2_told_31 rfl (lv_at hl 0 rfl) ?_
          refine fg_RX2_11 hx hb hts hown hW hB hk dX2_told_32 ?_
          refine lv_aload_n hx hb dX2_told_35 rfl (lv_at hl 0 rfl) ?_
          refine fg_RX2_15 hx hb hts hown hW hB hk dX2_told_36 ?_
          refine lv_iconst (v := 1) hx hb dX2_told_39 (by decide) ?_
          refine lv_isub hx hb dX2_told_40 ?_
          refine lv_iload_n hx hb dX2_told_41 rfl (lv_at hl 1 rfl) ?_
          refine lv_isub hx hb dX2_told_42 ?_
          refine sm_ci (sm_runS (rest := [.ref (ad (k + 1))]) hC (c_X2_startOf l g (((σ.1 k 0) - 1) - x1)) k_X2_startOf w_398 (by decide) (sm_ps hW.1 hB.2) rfl hl.1 rfl (Nat.le_of_ble_eq_true rfl) dX2_told_43) ?_
          refine lv_iload_n hx hb dX2_told_46 rfl (lv_at hl 2 rfl) ?_
          refine lv_iadd hx hb dX2_told_47 ?_
          refine sw_ia hx hb hW hB (k + 1) (nn_lt hk) (eX_nn hk g ad) (startOf_inW _ (bel_in c24 (by decide))) dX2_told_48 ?_
          refine lv_i2l hx hb dX2_told_49 rfl ?_
          exact sm_rl hx hb hr hlocks hv dX2_told_50
        · have hv := hv.trans (if_pos c24)
          refine lv_ldc2 hx hb hown (hts _ w_510) dX2_told_27 ?_
          exact sm_rl hx hb hr hlocks hv dX2_told_30
def f_X5_isInt (σ : sm_S) (x1 : Int32) : Int32 := if (f_X5_isBelow (Int32.toInt64 x1) 8) = 0 then 0 else (if (σ.1 1 (Int32.toNatClampNeg x1)) = 0 then 1 else 0)
theorem isInt_in {σ : sm_S} {x : Int32} (h : ¬ f_X5_isInt σ x = 0) : vp_in x 8 := by
  unfold f_X5_isInt at h
  by_cases a : f_X5_isBelow (Int32.toInt64 x) 8 = 0
  · simp [a] at h
  · exact bel_in a (by decide)
set_option maxRecDepth 100000 in
set_option maxHeartbeats 4000000 in
theorem c_X5_isInt (l : Launch) (g : sm_G) (ad : Nat → Nat) (hj : sm_inj 22 ad) (sz : Nat) (σ : sm_S) (x1 : Int32)   : Met l yX5_isInt (sm_ws yX5_isInt cX5_isInt 2 (some .boolean)) (rmd 1) (va_Pc [.ref (ad 0), .int x1] (sm_Pre g 22 ad (eX g ad) σ sz)) (vp_Si (fun r => r = f_X5_isInt σ x1)) 0 0 (fun _ => False) := by
  generalize hv : f_X5_isInt σ x1 = F
  replace hv := hv.symm
  refine sm_mR (by decide) (Nat.le_of_ble_eq_true rfl) hj (eX_lay g ad) (fun p e s m args below meth c C hW hB ls hl => ?_)
  obtain ⟨hC, hr, hlocks⟩ := C
  have hx := hC.1
  have hb := hC.2.1
  have hts := hC.2.2.2.2
  have hown : s.vm.findClass RX5 = some m.cls := hC.2.2.2.1
  have hl : lv_has ls 2 [(0, .ref (ad 0)), (1, .int x1)] := hl
  refine lv_iload_n hx hb dX5_isInt_0 rfl (lv_at hl 1 rfl) ?_
  refine lv_i2l hx hb dX5_isInt_1 rfl ?_
  refine lv_bipush (v := 8) hx hb dX5_isInt_2 (by decide) ?_
  refine sm_ci (sm_runS (rest := []) hC (c_X5_isBelow l g (Int32.toInt64 x1) 8) k_X5_isBelow w_142 (by decide) (sm_ps hW.1 hB.2) rfl hl.1 rfl (Nat.le_of_ble_eq_true rfl) dX5_isInt_4) ?_
  refine lv_if_eq (tgt := 23) hx hb dX5_isInt_7 (by decide) (fun c7 => ?_) (fun c7 => ?_)
  · have hv := hv.trans (if_pos c7)
    refine lv_iconst (v := 0) hx hb dX5_isInt_23 (by decide) ?_
    exact sm_rz hx hb hr hlocks rfl hv dX5_isInt_24
  · have hv := hv.trans (if_neg c7)
    refine lv_aload_n hx hb dX5_isInt_10 rfl (lv_at hl 0 rfl) ?_
    refine fg_RX5_9 hx hb hts hown hW hB dX5_isInt_11 ?_
    refine lv_iload_n hx hb dX5_isInt_14 rfl (lv_at hl 1 rfl) ?_
    refine sw_ia hx hb hW hB (1) (by decide) (eX_1 g ad) (bel_in c7 (by decide)) dX5_isInt_15 ?_
    refine lv_if_ne (tgt := 23) hx hb dX5_isInt_16 (by decide) (fun c16 => ?_) (fun c16 => ?_)
    · have hv := hv.trans (if_neg c16)
      refine lv_iconst (v := 0) hx hb dX5_isInt_23 (by decide) ?_
      exact sm_rz hx hb hr hlocks rfl hv dX5_isInt_24
    · have hv := hv.trans (if_pos c16)
      refine lv_iconst (v := 1) hx hb dX5_isInt_19 (by decide) ?_
      refine lv_goto (tgt := 24) hx hb dX5_isInt_20 (by decide) ?_
      exact sm_rz hx hb hr hlocks rfl hv dX5_isInt_24
def f_X5_put (σ : sm_S) (x1 : Int32) (x2 : Int32) (x3 : Int64) (x5 : Int32) : sm_S := uI (uL (uI σ 1 (Int32.toNatClampNeg x1) x2) 2 (Int32.toNatClampNeg x1) x3) 3 (Int32.toNatClampNeg x1) x5
set_option maxRecDepth 100000 in
set_option maxHeartbeats 4000000 in
theorem c_X5_put (l : Launch) (g : sm_G) (ad : Nat → Nat) (hj : sm_inj 22 ad) (sz : Nat) (σ : sm_S) (x1 : Int32) (x2 : Int32) (x3 : Int64) (x5 : Int32)  (h1 : vp_in x1 8) : Met l yX5_put (sm_ws yX5_put cX5_put 6 (none)) (rmd 0) (va_Pc [.ref (ad 0), .int x1, .int x2, .long x3, .int x5] (sm_Pre g 22 ad (eX g ad) σ sz)) (sm_Qv g 22 ad (eX g ad) sz (f_X5_put σ x1 x2 x3 x5)) 0 0 (sm_AX 22 ad sz) := by
  generalize hv : f_X5_put σ x1 x2 x3 x5 = F
  replace hv := hv.symm
  refine sm_mWv (by decide) (Nat.le_of_ble_eq_true rfl) hj (eX_lay g ad) (fun p e s m args below meth c C hW hB ls hl => ?_)
  obtain ⟨hC, hr, hlocks⟩ := C
  have hx := hC.1
  have hb := hC.2.1
  have hts := hC.2.2.2.2
  have hown : s.vm.findClass RX5 = some m.cls := hC.2.2.2.1
  have hl : lv_has ls 6 [(0, .ref (ad 0)), (1, .int x1), (2, .int x2), (3, .long x3), (5, .int x5)] := hl
  refine lv_aload_n hx hb dX5_put_0 rfl (lv_at hl 0 rfl) ?_
  refine fg_RX5_9 hx hb hts hown hW hB dX5_put_1 ?_
  refine lv_iload_n hx hb dX5_put_4 rfl (lv_at hl 1 rfl) ?_
  refine lv_iload_n hx hb dX5_put_5 rfl (lv_at hl 2 rfl) ?_
  refine sw_is hx hb hW hB (1) (by decide) (eX_1 g ad) h1 dX5_put_6 (fun H locs hB => ?_)
  refine lv_aload_n hx hb dX5_put_7 rfl (lv_at hl 0 rfl) ?_
  refine fg_RX5_13 hx hb hts hown hW hB dX5_put_8 ?_
  refine lv_iload_n hx hb dX5_put_11 rfl (lv_at hl 1 rfl) ?_
  refine lv_lload_n hx hb dX5_put_12 rfl (lv_at hl 3 rfl) ?_
  refine sw_ls hx hb hW hB (2) (by decide) (eX_2 g ad) h1 dX5_put_13 (fun H locs hB => ?_)
  refine lv_aload_n hx hb dX5_put_14 rfl (lv_at hl 0 rfl) ?_
  refine fg_RX5_17 hx hb hts hown hW hB dX5_put_15 ?_
  refine lv_iload_n hx hb dX5_put_18 rfl (lv_at hl 1 rfl) ?_
  refine lv_iload hx hb dX5_put_19 (lv_at hl 4 rfl) ?_
  refine sw_is hx hb hW hB (3) (by decide) (eX_3 g ad) h1 dX5_put_21 (fun H locs hB => ?_)
  exact sw_rv hx hb hr hlocks hB hv dX5_put_22
def f_X5_failed (σ : sm_S) (x1 : Int32) : Int32 × sm_S := (x1, uI σ 0 0 ((σ.1 0 0) + 1))
set_option maxRecDepth 100000 in
set_option maxHeartbeats 4000000 in
theorem c_X5_failed (l : Launch) (g : sm_G) (ad : Nat → Nat) (hj : sm_inj 22 ad) (sz : Nat) (σ : sm_S) (x1 : Int32)   : Met l yX5_failed (sm_ws yX5_failed cX5_failed 2 (some .int)) (rmd 0) (va_Pc [.ref (ad 0), .int x1] (sm_Pre g 22 ad (eX g ad) σ sz)) (sm_Qi g 22 ad (eX g ad) sz (f_X5_failed σ x1)) 0 0 (sm_AX 22 ad sz) := by
  generalize hv : f_X5_failed σ x1 = F
  replace hv := hv.symm
  refine sm_mWi (by decide) (Nat.le_of_ble_eq_true rfl) hj (eX_lay g ad) (fun p e s m args below meth c C hW hB ls hl => ?_)
  obtain ⟨hC, hr, hlocks⟩ := C
  have hx := hC.1
  have hb := hC.2.1
  have hts := hC.2.2.2.2
  have hown : s.vm.findClass RX5 = some m.cls := hC.2.2.2.1
  have hl : lv_has ls 2 [(0, .ref (ad 0)), (1, .int x1)] := hl
  refine lv_aload_n hx hb dX5_failed_0 rfl (lv_at hl 0 rfl) ?_
  refine lv_dup hx hb dX5_failed_1 rfl ?_
  refine fg_RX5_167 hx hb hts hown hW hB dX5_failed_2 ?_
  refine lv_iconst (v := 1) hx hb dX5_failed_5 (by decide) ?_
  refine lv_iadd hx hb dX5_failed_6 ?_
  refine fp_RX5_167 hx hb hts hown hW hB dX5_failed_7 (fun H locs hB => ?_)
  refine lv_iload_n hx hb dX5_failed_10 rfl (lv_at hl 1 rfl) ?_
  exact sw_ri hx hb hr hlocks hB hv dX5_failed_11
def f_X5_giveUp (σ : sm_S) (x1 : Int32) (x2 : Int32) : sm_S := sm_let ((σ.1 3 (Int32.toNatClampNeg x1)) &&& 63) (fun y9_1 => if y9_1 = 0 then σ else (sm_let (f_X2_add 6 σ x2 y9_1 0) (fun u21_2 => uI u21_2 3 (Int32.toNatClampNeg x1) 64)))
theorem add_R (k : Nat) (σ : sm_S) (a b c : Int32) : (f_X2_add k σ a b c).2.2 = σ.2.2 := rfl
theorem giveUp_R (σ : sm_S) (x y : Int32) : (f_X5_giveUp σ x y).2.2 = σ.2.2 := by
  unfold f_X5_giveUp sm_let
  dsimp only
  split
  · rfl
  · rfl
theorem array_I {σ : sm_S} (hI : invX σ) (x y : Int32) (h : Nat) : invX0 (uR (f_X5_giveUp σ x y) h none) := by
  intro k i e
  simp only [uR, giveUp_R, va_up] at e
  split at e
  · cases e
  · exact hI.1 k i e
set_option maxRecDepth 100000 in
set_option maxHeartbeats 4000000 in
theorem c_X5_giveUp (l : Launch) (g : sm_G) (ad : Nat → Nat) (hj : sm_inj 22 ad) (sz : Nat) (σ : sm_S) (x1 : Int32) (x2 : Int32)  (h1 : vp_in x1 8) : Met l yX5_giveUp (sm_ws yX5_giveUp cX5_giveUp 4 (none)) (rmd 2) (va_Pc [.ref (ad 0), .int x1, .int x2] (sm_Pre g 22 ad (eX g ad) σ sz)) (sm_Qv g 22 ad (eX g ad) sz (f_X5_giveUp σ x1 x2)) 0 0 (sm_AX 22 ad sz) := by
  generalize hv : f_X5_giveUp σ x1 x2 = F
  replace hv := hv.symm
  refine sm_mWv (by decide) (Nat.le_of_ble_eq_true rfl) hj (eX_lay g ad) (fun p e s m args below meth c C hW hB ls hl => ?_)
  obtain ⟨hC, hr, hlocks⟩ := C
  have hx := hC.1
  have hb := hC.2.1
  have hts := hC.2.2.2.2
  have hown : s.vm.findClass RX5 = some m.cls := hC.2.2.2.1
  have hl : lv_has ls 4 [(0, .ref (ad 0)), (1, .int x1), (2, .int x2)] := hl
  refine lv_aload_n hx hb dX5_giveUp_0 rfl (lv_at hl 0 rfl) ?_
  refine fg_RX5_17 hx hb hts hown hW hB dX5_giveUp_1 ?_
  refine lv_iload_n hx hb dX5_giveUp_4 rfl (lv_at hl 1 rfl) ?_
  refine sw_ia hx hb hW hB (3) (by decide) (eX_3 g ad) h1 dX5_giveUp_5 ?_
  refine lv_bipush (v := 63) hx hb dX5_giveUp_6 (by decide) ?_
  refine lv_iand hx hb dX5_giveUp_8 ?_
  refine sm_nmi hv (fun y9_1 ey9_1 hv => ?_)
  refine lv_istore_n (lv' := [(3, .int y9_1), (0, .ref (ad 0)), (1, .int x1), (2, .int x2)]) hx hb dX5_giveUp_9 rfl hl (by decide) rfl (fun ls hl => ?_)
  refine lv_iload_n hx hb dX5_giveUp_10 rfl (lv_at hl 0 rfl) ?_
  refine lv_if_eq (tgt := 32) hx hb dX5_giveUp_11 (by decide) (fun c11 => ?_) (fun c11 => ?_)
  · have hv := hv.trans (if_pos c11)
    exact sw_rv hx hb hr hlocks hB hv dX5_giveUp_32
  · have hv := hv.trans (if_neg c11)
    refine lv_aload_n hx hb dX5_giveUp_14 rfl (lv_at hl 1 rfl) ?_
    refine fg_RX5_32 hx hb hts hown hW hB dX5_giveUp_15 ?_
    refine lv_iload_n hx hb dX5_giveUp_18 rfl (lv_at hl 3 rfl) ?_
    refine lv_iload_n hx hb dX5_giveUp_19 rfl (lv_at hl 0 rfl) ?_
    refine lv_iconst (v := 0) hx hb dX5_giveUp_20 (by decide) ?_
    refine sw_cvn hv hB (sm_runV (rest := []) hC (c_X2_add l g ad hW.2.1 _ 6 σ x2 y9_1 0 (Or.inl rfl)) k_X2_add w_394 (by decide) (sm_pv hW hB (nt_lt (Or.inl rfl)) (eX_nt (Or.inl rfl) g ad _) rfl) rfl hl.1 rfl (Nat.le_of_ble_eq_true rfl) dX5_giveUp_21) (fun u21_2 eu21_2 hv H locs hB => ?_)
    refine lv_aload_n hx hb dX5_giveUp_24 rfl (lv_at hl 1 rfl) ?_
    refine fg_RX5_17 hx hb hts hown hW hB dX5_giveUp_25 ?_
    refine lv_iload_n hx hb dX5_giveUp_28 rfl (lv_at hl 2 rfl) ?_
    refine lv_bipush (v := 64) hx hb dX5_giveUp_29 (by decide) ?_
    refine sw_is hx hb hW hB (3) (by decide) (eX_3 g ad) h1 dX5_giveUp_31 (fun H locs hB => ?_)
    exact sw_rv hx hb hr hlocks hB hv dX5_giveUp_32
def f_X5_shadowOfTwo_80 (x1 : Int32) (y49_1 : Int32) (σ : sm_S) (t0_80 : Int32) : Int32 × sm_S := if t0_80 = 0 then ((y49_1, σ)) else (if (f_X3_mixes x1) = 0 then ((y49_1, σ)) else ((f_X5_inexact y49_1, σ)))
def f_X5_shadowOfTwo_79 (x1 : Int32) (y49_1 : Int32) (σ : sm_S) : Int32 × sm_S := f_X5_shadowOfTwo_80 x1 y49_1 σ 0
def f_X5_shadowOfTwo_34 (x1 : Int32) (x2 : Int32) (x3 : Int32) (σ : sm_S) : Int32 × sm_S := sm_let (f_X5_joined (σ.1 3 (Int32.toNatClampNeg x2)) (σ.1 3 (Int32.toNatClampNeg x3))) (fun y49_1 => if ((σ.1 3 (Int32.toNatClampNeg x2)) &&& 63) = 0 then (f_X5_shadowOfTwo_79 x1 y49_1 σ) else (if ((σ.1 3 (Int32.toNatClampNeg x3)) &&& 63) = 0 then (f_X5_shadowOfTwo_79 x1 y49_1 σ) else (f_X5_shadowOfTwo_80 x1 y49_1 σ 1)))
def f_X5_shadowOfTwo (σ : sm_S) (x1 : Int32) (x2 : Int32) (x3 : Int32) : Int32 × sm_S := if (f_X5_isFloating (σ.1 1 (Int32.toNatClampNeg x2))) = 0 then (f_X5_shadowOfTwo_34 x1 x2 x3 σ) else (if (f_X3_calculates x1) = 0 then (f_X5_shadowOfTwo_34 x1 x2 x3 σ) else (sm_let (f_X5_giveUp σ x2 x1) (fun u22_2 => sm_let (f_X5_giveUp u22_2 x3 x1) (fun u28_3 => (64, u28_3)))))
set_option maxRecDepth 100000 in
set_option maxHeartbeats 4000000 in
theorem c_X5_shadowOfTwo (l : Launch) (g : sm_G) (ad : Nat → Nat) (hj : sm_inj 22 ad) (sz : Nat) (σ : sm_S) (x1 : Int32) (x2 : Int32) (x3 : Int32)  (h2 : vp_in x2 8) (h3 : vp_in x3 8) : Met l yX5_shadowOfTwo (sm_ws yX5_shadowOfTwo cX5_shadowOfTwo 6 (some .int)) (rmd 3) (va_Pc [.ref (ad 0), .int x1, .int x2, .int x3] (sm_Pre g 22 ad (eX g ad) σ sz)) (sm_Qi g 22 ad (eX g ad) sz (f_X5_shadowOfTwo σ x1 x2 x3)) 0 0 (sm_AX 22 ad sz) := by
  generalize hv : f_X5_shadowOfTwo σ x1 x2 x3 = F
  replace hv := hv.symm
  refine sm_mWi (by decide) (Nat.le_of_ble_eq_true rfl) hj (eX_lay g ad) (fun p e s m args below meth c C hW hB ls hl => ?_)
  obtain ⟨hC, hr, hlocks⟩ := C
  have hx := hC.1
  have hb := hC.2.1
  have hts := hC.2.2.2.2
  have hown : s.vm.findClass RX5 = some m.cls := hC.2.2.2.1
  have hl : lv_has ls 6 [(0, .ref (ad 0)), (1, .int x1), (2, .int x2), (3, .int x3)] := hl
  refine lv_aload_n hx hb dX5_shadowOfTwo_0 rfl (lv_at hl 0 rfl) ?_
  refine fg_RX5_9 hx hb hts hown hW hB dX5_shadowOfTwo_1 ?_
  refine lv_iload_n hx hb dX5_shadowOfTwo_4 rfl (lv_at hl 2 rfl) ?_
  refine sw_ia hx hb hW hB (1) (by decide) (eX_1 g ad) h2 dX5_shadowOfTwo_5 ?_
  refine sm_ci (sm_runS (rest := []) hC (c_X5_isFloating l g (σ.1 1 (Int32.toNatClampNeg x2))) k_X5_isFloating w_302 (by decide) (sm_ps hW.1 hB.2) rfl hl.1 rfl (Nat.le_of_ble_eq_true rfl) dX5_shadowOfTwo_6) ?_
  have k_34 : ∀  (σ : sm_S) (ls : Array Slot) (H : Heap) (locs : List Loc), lv_has ls 6 [(0, .ref (ad 0)), (1, .int x1), (2, .int x2), (3, .int x3)] → sm_B g 22 ad (eX g ad) s H locs σ → F = f_X5_shadowOfTwo_34 x1 x2 x3 σ → W p l e (rmd 3) s m args below meth c H locs 0 0 (MQ below (sm_Qi g 22 ad (eX g ad) s.heap.size F) args s 0 0 (sm_AX 22 ad s.heap.size)) (F0 m 34 ls []) := by
    intro σ ls H locs hl hB hv
    refine lv_aload_n hx hb dX5_shadowOfTwo_34 rfl (lv_at hl 0 rfl) ?_
    refine fg_RX5_17 hx hb hts hown hW hB dX5_shadowOfTwo_35 ?_
    refine lv_iload_n hx hb dX5_shadowOfTwo_38 rfl (lv_at hl 2 rfl) ?_
    refine sw_ia hx hb hW hB (3) (by decide) (eX_3 g ad) h2 dX5_shadowOfTwo_39 ?_
    refine lv_aload_n hx hb dX5_shadowOfTwo_40 rfl (lv_at hl 0 rfl) ?_
    refine fg_RX5_17 hx hb hts hown hW hB dX5_shadowOfTwo_41 ?_
    refine lv_iload_n hx hb dX5_shadowOfTwo_44 rfl (lv_at hl 3 rfl) ?_
    refine sw_ia hx hb hW hB (3) (by decide) (eX_3 g ad) h3 dX5_shadowOfTwo_45 ?_
    refine sm_ci (sm_runS (rest := []) hC (c_X5_joined l g (σ.1 3 (Int32.toNatClampNeg x2)) (σ.1 3 (Int32.toNatClampNeg x3))) k_X5_joined w_401 (by decide) (sm_ps hW.1 hB.2) rfl hl.1 rfl (Nat.le_of_ble_eq_true rfl) dX5_shadowOfTwo_46) ?_
    refine sm_nmi hv (fun y49_1 ey49_1 hv => ?_)
    refine lv_istore (lv' := [(4, .int y49_1), (0, .ref (ad 0)), (1, .int x1), (2, .int x2), (3, .int x3)]) hx hb dX5_shadowOfTwo_49 hl (by decide) rfl (fun ls hl => ?_)
    refine lv_aload_n hx hb dX5_shadowOfTwo_51 rfl (lv_at hl 1 rfl) ?_
    refine fg_RX5_17 hx hb hts hown hW hB dX5_shadowOfTwo_52 ?_
    refine lv_iload_n hx hb dX5_shadowOfTwo_55 rfl (lv_at hl 3 rfl) ?_
    refine sw_ia hx hb hW hB (3) (by decide) (eX_3 g ad) h2 dX5_shadowOfTwo_56 ?_
    refine lv_bipush (v := 63) hx hb dX5_shadowOfTwo_57 (by decide) ?_
    refine lv_iand hx hb dX5_shadowOfTwo_59 ?_
    have k_80 : ∀ (t0_80 : Int32) (σ : sm_S) (ls : Array Slot) (H : Heap) (locs : List Loc), lv_has ls 6 [(1, .int x1), (4, .int y49_1)] → sm_B g 22 ad (eX g ad) s H locs σ → F = f_X5_shadowOfTwo_80 x1 y49_1 σ t0_80 → W p l e (rmd 3) s m args below meth c H locs 0 0 (MQ below (sm_Qi g 22 ad (eX g ad) s.heap.size F) args s 0 0 (sm_AX 22 ad s.heap.size)) (F0 m 80 ls [.int t0_80]) := by
      intro t0_80 σ ls H locs hl hB hv
      refine lv_istore (lv' := [(5, .int t0_80), (1, .int x1), (4, .int y49_1)]) hx hb dX5_shadowOfTwo_80 hl (by decide) rfl (fun ls hl => ?_)
      refine lv_iload hx hb dX5_shadowOfTwo_82 (lv_at hl 0 rfl) ?_
      refine lv_if_eq (tgt := 102) hx hb dX5_shadowOfTwo_84 (by decide) (fun c84 => ?_) (fun c84 => ?_)
      · have hv := hv.trans (if_pos c84)
        refine lv_iload hx hb dX5_shadowOfTwo_102 (lv_at hl 2 rfl) ?_
        exact sw_ri hx hb hr hlocks hB hv dX5_shadowOfTwo_104
      · have hv := hv.trans (if_neg c84)
        refine lv_iload_n hx hb dX5_shadowOfTwo_87 rfl (lv_at hl 1 rfl) ?_
        refine sm_ci (sm_runS (rest := []) hC (c_X3_mixes l g x1) k_X3_mixes w_404 (by decide) (sm_ps hW.1 hB.2) rfl hl.1 rfl (Nat.le_of_ble_eq_true rfl) dX5_shadowOfTwo_88) ?_
        refine lv_if_eq (tgt := 102) hx hb dX5_shadowOfTwo_91 (by decide) (fun c91 => ?_) (fun c91 => ?_)
        · have hv := hv.trans (if_pos c91)
          refine lv_iload hx hb dX5_shadowOfTwo_102 (lv_at hl 2 rfl) ?_
          exact sw_ri hx hb hr hlocks hB hv dX5_shadowOfTwo_104
        · have hv := hv.trans (if_neg c91)
          refine lv_iload hx hb dX5_shadowOfTwo_94 (lv_at hl 2 rfl) ?_
          refine sm_ci (sm_runS (rest := []) hC (c_X5_inexact l g y49_1) k_X5_inexact w_190 (by decide) (sm_ps hW.1 hB.2) rfl hl.1 rfl (Nat.le_of_ble_eq_true rfl) dX5_shadowOfTwo_96) ?_
          refine lv_goto (tgt := 104) hx hb dX5_shadowOfTwo_99 (by decide) ?_
          exact sw_ri hx hb hr hlocks hB hv dX5_shadowOfTwo_104
    have k_79 : ∀  (σ : sm_S) (ls : Array Slot) (H : Heap) (locs : List Loc), lv_has ls 6 [(1, .int x1), (4, .int y49_1)] → sm_B g 22 ad (eX g ad) s H locs σ → F = f_X5_shadowOfTwo_79 x1 y49_1 σ → W p l e (rmd 3) s m args below meth c H locs 0 0 (MQ below (sm_Qi g 22 ad (eX g ad) s.heap.size F) args s 0 0 (sm_AX 22 ad s.heap.size)) (F0 m 79 ls []) := by
      intro σ ls H locs hl hB hv
      refine lv_iconst (v := 0) hx hb dX5_shadowOfTwo_79 (by decide) ?_
      exact k_80 0 σ _ _ _ (lv_sub hl [0, 1] rfl) hB hv
    refine lv_if_eq (tgt := 79) hx hb dX5_shadowOfTwo_60 (by decide) (fun c60 => ?_) (fun c60 => ?_)
    · have hv := hv.trans (if_pos c60)
      exact k_79 σ _ _ _ (lv_sub hl [2, 0] rfl) hB hv
    · have hv := hv.trans (if_neg c60)
      refine lv_aload_n hx hb dX5_shadowOfTwo_63 rfl (lv_at hl 1 rfl) ?_
      refine fg_RX5_17 hx hb hts hown hW hB dX5_shadowOfTwo_64 ?_
      refine lv_iload_n hx hb dX5_shadowOfTwo_67 rfl (lv_at hl 4 rfl) ?_
      refine sw_ia hx hb hW hB (3) (by decide) (eX_3 g ad) h3 dX5_shadowOfTwo_68 ?_
      refine lv_bipush (v := 63) hx hb dX5_shadowOfTwo_69 (by decide) ?_
      refine lv_iand hx hb dX5_shadowOfTwo_71 ?_
      refine lv_if_eq (tgt := 79) hx hb dX5_shadowOfTwo_72 (by decide) (fun c72 => ?_) (fun c72 => ?_)
      · have hv := hv.trans (if_pos c72)
        exact k_79 σ _ _ _ (lv_sub hl [2, 0] rfl) hB hv
      · have hv := hv.trans (if_neg c72)
        refine lv_iconst (v := 1) hx hb dX5_shadowOfTwo_75 (by decide) ?_
        refine lv_goto (tgt := 80) hx hb dX5_shadowOfTwo_76 (by decide) ?_
        exact k_80 1 σ _ _ _ (lv_sub hl [2, 0] rfl) hB hv
  refine lv_if_eq (tgt := 34) hx hb dX5_shadowOfTwo_9 (by decide) (fun c9 => ?_) (fun c9 => ?_)
  · have hv := hv.trans (if_pos c9)
    exact k_34 σ _ _ _ (lv_sub hl [0, 1, 2, 3] rfl) hB hv
  · have hv := hv.trans (if_neg c9)
    refine lv_iload_n hx hb dX5_shadowOfTwo_12 rfl (lv_at hl 1 rfl) ?_
    refine sm_ci (sm_runS (rest := []) hC (c_X3_calculates l g x1) k_X3_calculates w_387 (by decide) (sm_ps hW.1 hB.2) rfl hl.1 rfl (Nat.le_of_ble_eq_true rfl) dX5_shadowOfTwo_13) ?_
    refine lv_if_eq (tgt := 34) hx hb dX5_shadowOfTwo_16 (by decide) (fun c16 => ?_) (fun c16 => ?_)
    · have hv := hv.trans (if_pos c16)
      exact k_34 σ _ _ _ (lv_sub hl [0, 1, 2, 3] rfl) hB hv
    · have hv := hv.trans (if_neg c16)
      refine lv_aload_n hx hb dX5_shadowOfTwo_19 rfl (lv_at hl 0 rfl) ?_
      refine lv_iload_n hx hb dX5_shadowOfTwo_20 rfl (lv_at hl 2 rfl) ?_
      refine lv_iload_n hx hb dX5_shadowOfTwo_21 rfl (lv_at hl 1 rfl) ?_
      refine sw_cvn hv hB (sm_runV (rest := []) hC (c_X5_giveUp l g ad hW.2.1 _ σ x2 x1 h2) k_X5_giveUp w_390 (by decide) (sm_pv hW hB (by decide) (eX_0 g ad _) rfl) rfl hl.1 rfl (Nat.le_of_ble_eq_true rfl) dX5_shadowOfTwo_22) (fun u22_2 eu22_2 hv H locs hB => ?_)
      refine lv_aload_n hx hb dX5_shadowOfTwo_25 rfl (lv_at hl 0 rfl) ?_
      refine lv_iload_n hx hb dX5_shadowOfTwo_26 rfl (lv_at hl 3 rfl) ?_
      refine lv_iload_n hx hb dX5_shadowOfTwo_27 rfl (lv_at hl 1 rfl) ?_
      refine sw_cvn hv hB (sm_runV (rest := []) hC (c_X5_giveUp l g ad hW.2.1 _ u22_2 x3 x1 h3) k_X5_giveUp w_390 (by decide) (sm_pv hW hB (by decide) (eX_0 g ad _) rfl) rfl hl.1 rfl (Nat.le_of_ble_eq_true rfl) dX5_shadowOfTwo_28) (fun u28_3 eu28_3 hv H locs hB => ?_)
      refine lv_bipush (v := 64) hx hb dX5_shadowOfTwo_31 (by decide) ?_
      exact sw_ri hx hb hr hlocks hB hv dX5_shadowOfTwo_33
def f_X5_dependentRegisters_25 (K_4 : Int32 → Int32 → Int32) (v2_4 : Int32) (σ : sm_S) (v1_25 : Int32) : Int32 := sm_let (v2_4 + 1) (fun y25_1 => K_4 v1_25 y25_1)
def f_X5_dependentRegisters_4 : Nat → sm_S → Int32 → Int32 → Int32
  | 0, _, _, _ => default
  | n + 1, σ, v1_4, v2_4 => if 8 ≤ v2_4 then v1_4 else (if ((σ.1 3 (Int32.toNatClampNeg v2_4)) &&& 63) = 0 then (f_X5_dependentRegisters_25 (fun v1_4 v2_4 => f_X5_dependentRegisters_4 n σ v1_4 v2_4) v2_4 σ v1_4) else (sm_let (v1_4 + 1) (fun y22_2 => f_X5_dependentRegisters_25 (fun v1_4 v2_4 => f_X5_dependentRegisters_4 n σ v1_4 v2_4) v2_4 σ y22_2)))
def f_X5_dependentRegisters (σ : sm_S) : Int32 := f_X5_dependentRegisters_4 (((8 : Int32).toInt - Int32.toInt 0).toNat + 1) σ 0 0
set_option maxRecDepth 100000 in
set_option maxHeartbeats 4000000 in
theorem c_X5_dependentRegisters (l : Launch) (g : sm_G) (ad : Nat → Nat) (hj : sm_inj 22 ad) (sz : Nat) (σ : sm_S)   : Met l yX5_dependentRegisters (sm_ws yX5_dependentRegisters cX5_dependentRegisters 3 (some .int)) (rmd 0) (va_Pc [.ref (ad 0)] (sm_Pre g 22 ad (eX g ad) σ sz)) (vp_Si (fun r => r = f_X5_dependentRegisters σ)) 0 0 (fun _ => False) := by
  generalize hv : f_X5_dependentRegisters σ = F
  replace hv := hv.symm
  refine sm_mR (by decide) (Nat.le_of_ble_eq_true rfl) hj (eX_lay g ad) (fun p e s m args below meth c C hW hB ls hl => ?_)
  obtain ⟨hC, hr, hlocks⟩ := C
  have hx := hC.1
  have hb := hC.2.1
  have hts := hC.2.2.2.2
  have hown : s.vm.findClass RX5 = some m.cls := hC.2.2.2.1
  have hl : lv_has ls 3 [(0, .ref (ad 0))] := hl
  refine lv_iconst (v := 0) hx hb dX5_dependentRegisters_0 (by decide) ?_
  refine lv_istore_n (lv' := [(1, .int 0), (0, .ref (ad 0))]) hx hb dX5_dependentRegisters_1 rfl hl (by decide) rfl (fun ls hl => ?_)
  refine lv_iconst (v := 0) hx hb dX5_dependentRegisters_2 (by decide) ?_
  have k_4 : ∀ (n : Nat) (v1_4 : Int32) (v2_4 : Int32) (ls : Array Slot), ¬ v2_4 < 0 → ((8 : Int32).toInt - Int32.toInt v2_4).toNat < n → lv_has ls 3 [(0, .ref (ad 0)), (1, .int v1_4), (2, .int v2_4)] → F = f_X5_dependentRegisters_4 n σ v1_4 v2_4 → W p l e (rmd 0) s m args below meth c s.heap [] 0 0 (MQ below (vp_Si (fun r => r = F)) args s 0 0 (fun _ => False)) (F0 m 4 ls []) := by
    intro n
    induction n with
    | zero =>
      intro v1_4 v2_4 ls i0 hme hl hv
      exact absurd hme (Nat.not_lt_zero _)
    | succ n ih =>
      intro v1_4 v2_4 ls i0 hme hl hv
      refine lv_iload_n hx hb dX5_dependentRegisters_4 rfl (lv_at hl 2 rfl) ?_
      refine lv_bipush (v := 8) hx hb dX5_dependentRegisters_5 (by decide) ?_
      refine lv_icmp_ge (tgt := 31) hx hb dX5_dependentRegisters_7 (by decide) (fun c7 => ?_) (fun c7 => ?_)
      · have hv := hv.trans (if_pos c7)
        refine lv_iload_n hx hb dX5_dependentRegisters_31 rfl (lv_at hl 1 rfl) ?_
        exact sm_ri hx hb hr hlocks hv dX5_dependentRegisters_32
      · have hv := hv.trans (if_neg c7)
        refine lv_aload_n hx hb dX5_dependentRegisters_10 rfl (lv_at hl 0 rfl) ?_
        refine fg_RX5_17 hx hb hts hown hW hB dX5_dependentRegisters_11 ?_
        refine lv_iload_n hx hb dX5_dependentRegisters_14 rfl (lv_at hl 2 rfl) ?_
        refine sw_ia hx hb hW hB (3) (by decide) (eX_3 g ad) (in_ge i0 c7 (by decide)) dX5_dependentRegisters_15 ?_
        refine lv_bipush (v := 63) hx hb dX5_dependentRegisters_16 (by decide) ?_
        refine lv_iand hx hb dX5_dependentRegisters_18 ?_
        have k_25 : ∀ (v1_25 : Int32) (ls : Array Slot), lv_has ls 3 [(0, .ref (ad 0)), (1, .int v1_25), (2, .int v2_4)] → F = f_X5_dependentRegisters_25 (fun v1_4 v2_4 => f_X5_dependentRegisters_4 n σ v1_4 v2_4) v2_4 σ v1_25 → W p l e (rmd 0) s m args below meth c s.heap [] 0 0 (MQ below (vp_Si (fun r => r = F)) args s 0 0 (fun _ => False)) (F0 m 25 ls []) := by
          intro v1_25 ls hl hv
          obtain ⟨y25_1, ey25_1, hv⟩ := sm_lt hv
          refine lv_iinc (v := y25_1) (lv' := [(2, .int y25_1), (0, .ref (ad 0)), (1, .int v1_25)]) hx hb dX5_dependentRegisters_25 hl (k := 2) rfl (by rw [ey25_1]; rfl) (by decide) rfl (fun ls hl => ?_)
          refine lv_goto (tgt := 4) hx hb dX5_dependentRegisters_28 (by decide) ?_
          exact ih v1_25 y25_1 _ (by rw [ey25_1]; exact nn_inc i0 c7) (by rw [ey25_1]; exact Nat.lt_of_lt_of_le (me_inc c7) (Nat.le_of_lt_succ hme)) (lv_sub hl [1, 2, 0] rfl) hv
        refine lv_if_eq (tgt := 25) hx hb dX5_dependentRegisters_19 (by decide) (fun c19 => ?_) (fun c19 => ?_)
        · have hv := hv.trans (if_pos c19)
          exact k_25 v1_4 _ (lv_sub hl [0, 1, 2] rfl) hv
        · have hv := hv.trans (if_neg c19)
          obtain ⟨y22_2, ey22_2, hv⟩ := sm_lt hv
          refine lv_iinc (v := y22_2) (lv' := [(1, .int y22_2), (0, .ref (ad 0)), (2, .int v2_4)]) hx hb dX5_dependentRegisters_22 hl (k := 1) rfl (by rw [ey22_2]; rfl) (by decide) rfl (fun ls hl => ?_)
          exact k_25 y22_2 _ (lv_sub hl [1, 0, 2] rfl) hv
  refine lv_istore_n (lv' := [(2, .int 0), (1, .int 0), (0, .ref (ad 0))]) hx hb dX5_dependentRegisters_3 rfl hl (by decide) rfl (fun ls hl => ?_)
  exact k_4 (((8 : Int32).toInt - Int32.toInt 0).toNat + 1) 0 0 _ (by decide) (Nat.lt_succ_self _) (lv_sub hl [2, 1, 0] rfl) hv
def f_X5_isHeld_2 : Nat → Nat → sm_S → Int32 → Int32
  | 0, _, _, _ => default
  | n + 1, j, σ, v2_2 => if 4 ≤ v2_2 then 0 else (if σ.2.2 (Int32.toNatClampNeg v2_2) = some j then 1 else (sm_let (v2_2 + 1) (fun y19_1 => f_X5_isHeld_2 n j σ y19_1)))
def f_X5_isHeld (j : Nat) (σ : sm_S) : Int32 := f_X5_isHeld_2 (((4 : Int32).toInt - Int32.toInt 0).toNat + 1) j σ 0
set_option maxRecDepth 100000 in
set_option maxHeartbeats 4000000 in
theorem c_X5_isHeld (l : Launch) (g : sm_G) (ad : Nat → Nat) (hj : sm_inj 22 ad) (sz : Nat) (j : Nat) (σ : sm_S) (hj2 : j < 4) (hI : invX0 σ) : Met l yX5_isHeld (sm_ws yX5_isHeld cX5_isHeld 3 (some .boolean)) (rmd 0) (va_Pc [.ref (ad 0), .ref (ad (10 + 3 * j))] (sm_Pre g 22 ad (eX g ad) σ sz)) (vp_Si (fun r => r = f_X5_isHeld j σ)) 0 0 (fun _ => False) := by
  generalize hv : f_X5_isHeld j σ = F
  replace hv := hv.symm
  refine sm_mR (by decide) (Nat.le_of_ble_eq_true rfl) hj (eX_lay g ad) (fun p e s m args below meth c C hW hB ls hl => ?_)
  obtain ⟨hC, hr, hlocks⟩ := C
  have hx := hC.1
  have hb := hC.2.1
  have hts := hC.2.2.2.2
  have hown : s.vm.findClass RX5 = some m.cls := hC.2.2.2.1
  have hl : lv_has ls 3 [(0, .ref (ad 0)), (1, .ref (ad (10 + 3 * j)))] := hl
  refine lv_iconst (v := 0) hx hb dX5_isHeld_0 (by decide) ?_
  have k_2 : ∀ (n : Nat) (v2_2 : Int32) (ls : Array Slot), ¬ v2_2 < 0 → ((4 : Int32).toInt - Int32.toInt v2_2).toNat < n → lv_has ls 3 [(0, .ref (ad 0)), (1, .ref (ad (10 + 3 * j))), (2, .int v2_2)] → F = f_X5_isHeld_2 n j σ v2_2 → W p l e (rmd 0) s m args below meth c s.heap [] 0 0 (MQ below (vp_Si (fun r => r = F)) args s 0 0 (fun _ => False)) (F0 m 2 ls []) := by
    intro n
    induction n with
    | zero =>
      intro v2_2 ls i0 hme hl hv
      exact absurd hme (Nat.not_lt_zero _)
    | succ n ih =>
      intro v2_2 ls i0 hme hl hv
      refine lv_iload_n hx hb dX5_isHeld_2 rfl (lv_at hl 2 rfl) ?_
      refine lv_iconst (v := 4) hx hb dX5_isHeld_3 (by decide) ?_
      refine lv_icmp_ge (tgt := 25) hx hb dX5_isHeld_4 (by decide) (fun c4 => ?_) (fun c4 => ?_)
      · have hv := hv.trans (if_pos c4)
        refine lv_iconst (v := 0) hx hb dX5_isHeld_25 (by decide) ?_
        exact sm_rz hx hb hr hlocks rfl hv dX5_isHeld_26
      · have hv := hv.trans (if_neg c4)
        refine lv_aload_n hx hb dX5_isHeld_7 rfl (lv_at hl 0 rfl) ?_
        refine fg_RX5_22 hx hb hts hown hW hB dX5_isHeld_8 ?_
        refine lv_iload_n hx hb dX5_isHeld_11 rfl (lv_at hl 2 rfl) ?_
        refine xr_ldQ hx hb hW hB (in_ge i0 c4 (by decide)) dX5_isHeld_12 ?_
        refine lv_aload_n hx hb dX5_isHeld_13 rfl (lv_at hl 1 rfl) ?_
        refine xr_acmp (tgt := 19) hx hb hW.2.1 (fun i h => hI _ i h) hj2 dX5_isHeld_14 (by decide) (fun c14 => ?_) (fun c14 => ?_)
        · have hv := hv.trans (if_neg c14)
          obtain ⟨y19_1, ey19_1, hv⟩ := sm_lt hv
          refine lv_iinc (v := y19_1) (lv' := [(2, .int y19_1), (0, .ref (ad 0)), (1, .ref (ad (10 + 3 * j)))]) hx hb dX5_isHeld_19 hl (k := 2) rfl (by rw [ey19_1]; rfl) (by decide) rfl (fun ls hl => ?_)
          refine lv_goto (tgt := 2) hx hb dX5_isHeld_22 (by decide) ?_
          exact ih y19_1 _ (by rw [ey19_1]; exact nn_inc i0 c4) (by rw [ey19_1]; exact Nat.lt_of_lt_of_le (me_inc c4) (Nat.le_of_lt_succ hme)) (lv_sub hl [1, 2, 0] rfl) hv
        · have hv := hv.trans (if_pos c14)
          refine lv_iconst (v := 1) hx hb dX5_isHeld_17 (by decide) ?_
          exact sm_rz hx hb hr hlocks rfl hv dX5_isHeld_18
  refine lv_istore_n (lv' := [(2, .int 0), (0, .ref (ad 0)), (1, .ref (ad (10 + 3 * j)))]) hx hb dX5_isHeld_1 rfl hl (by decide) rfl (fun ls hl => ?_)
  exact k_2 (((4 : Int32).toInt - Int32.toInt 0).toNat + 1) 0 _ (by decide) (Nat.lt_succ_self _) (lv_sub hl [1, 2, 0] rfl) hv
def f_X5_unheld_34 (K_9 : Nat → Int32 → Nat) (v2_9 : Int32) (σ : sm_S) (r1_34 : Nat) : Nat := sm_let (v2_9 + 1) (fun y34_3 => K_9 r1_34 y34_3)
def f_X5_unheld_9 : Nat → sm_S → Nat → Int32 → Nat
  | 0, _, _, _ => default
  | n + 1, σ, r1_9, v2_9 => if 4 ≤ v2_9 then r1_9 else (sm_let (Int32.toNatClampNeg v2_9) (fun i20_2 => if (f_X5_isHeld i20_2 σ) = 0 then (sm_let (Int32.toNatClampNeg v2_9) (fun i32_4 => f_X5_unheld_34 (fun r1_9 v2_9 => f_X5_unheld_9 n σ r1_9 v2_9) v2_9 σ i32_4)) else (f_X5_unheld_34 (fun r1_9 v2_9 => f_X5_unheld_9 n σ r1_9 v2_9) v2_9 σ r1_9)))
def f_X5_unheld (σ : sm_S) : Nat := sm_let (Int32.toNatClampNeg 0) (fun i5_1 => f_X5_unheld_9 (((4 : Int32).toInt - Int32.toInt 1).toNat + 1) σ i5_1 1)
theorem unheld9_lt : ∀ (n : Nat) (σ : sm_S) (r : Nat) (v : Int32), ¬ v < 0 → r < 4 → f_X5_unheld_9 n σ r v < 4
  | 0, _, _, _, _, _ => by show (default : Nat) < 4; decide
  | n + 1, σ, r, v, i0, hr => by
    by_cases c : 4 ≤ v
    · simp only [f_X5_unheld_9, if_pos c]; exact hr
    · have hn : v.toNatClampNeg < 4 := in_nat (in_ge i0 c (by decide))
      simp only [f_X5_unheld_9, if_neg c, sm_let, f_X5_unheld_34]
      split
      · exact unheld9_lt n σ _ _ (nn_inc i0 c) hn
      · exact unheld9_lt n σ _ _ (nn_inc i0 c) hr
theorem unheld_lt (σ : sm_S) : f_X5_unheld σ < 4 := by
  unfold f_X5_unheld sm_let
  exact unheld9_lt _ σ _ _ (by decide) (by decide)
set_option maxRecDepth 100000 in
set_option maxHeartbeats 4000000 in
theorem c_X5_unheld (l : Launch) (g : sm_G) (ad : Nat → Nat) (hj : sm_inj 22 ad) (sz : Nat) (σ : sm_S)  (hI : invX0 σ) : Met l yX5_unheld (sm_ws yX5_unheld cX5_unheld 3 (some (.object "ShadowMachine$Cells"))) (rmd 1) (va_Pc [.ref (ad 0)] (sm_Pre g 22 ad (eX g ad) σ sz)) (va_Sr (fun r => r = f_X5_unheld σ) (fun k => .ref (ad (10 + 3 * k)))) 0 0 (fun _ => False) := by
  generalize hv : f_X5_unheld σ = F
  replace hv := hv.symm
  refine sm_mR (by decide) (Nat.le_of_ble_eq_true rfl) hj (eX_lay g ad) (fun p e s m args below meth c C hW hB ls hl => ?_)
  obtain ⟨hC, hr, hlocks⟩ := C
  have hx := hC.1
  have hb := hC.2.1
  have hts := hC.2.2.2.2
  have hown : s.vm.findClass RX5 = some m.cls := hC.2.2.2.1
  have hl : lv_has ls 3 [(0, .ref (ad 0))] := hl
  refine lv_aload_n hx hb dX5_unheld_0 rfl (lv_at hl 0 rfl) ?_
  refine fg_RX5_26 hx hb hts hown hW hB dX5_unheld_1 ?_
  refine lv_iconst (v := 0) hx hb dX5_unheld_4 (by decide) ?_
  obtain ⟨i5_1, ei5_1, hv⟩ := sm_lt hv
  have hi5_1 : i5_1 < 4 := by rw [ei5_1]; exact in_nat (in_lit (by decide +kernel))
  refine xr_ldP hx hb hW hB (in_lit (by decide +kernel)) ei5_1 dX5_unheld_5 ?_
  refine lv_astore_n (lv' := [(1, .ref (ad (10 + 3 * i5_1))), (0, .ref (ad 0))]) hx hb dX5_unheld_6 rfl hl (by decide) rfl (fun ls hl => ?_)
  refine lv_iconst (v := 1) hx hb dX5_unheld_7 (by decide) ?_
  have k_9 : ∀ (n : Nat) (r1_9 : Nat) (v2_9 : Int32) (ls : Array Slot), r1_9 < 4 → ¬ v2_9 < 0 → ((4 : Int32).toInt - Int32.toInt v2_9).toNat < n → lv_has ls 3 [(0, .ref (ad 0)), (1, .ref (ad (10 + 3 * r1_9))), (2, .int v2_9)] → F = f_X5_unheld_9 n σ r1_9 v2_9 → W p l e (rmd 1) s m args below meth c s.heap [] 0 0 (MQ below (va_Sr (fun r => r = F) (fun k => .ref (ad (10 + 3 * k)))) args s 0 0 (fun _ => False)) (F0 m 9 ls []) := by
    intro n
    induction n with
    | zero =>
      intro r1_9 v2_9 ls hr1_9 i0 hme hl hv
      exact absurd hme (Nat.not_lt_zero _)
    | succ n ih =>
      intro r1_9 v2_9 ls hr1_9 i0 hme hl hv
      refine lv_iload_n hx hb dX5_unheld_9 rfl (lv_at hl 2 rfl) ?_
      refine lv_iconst (v := 4) hx hb dX5_unheld_10 (by decide) ?_
      refine lv_icmp_ge (tgt := 40) hx hb dX5_unheld_11 (by decide) (fun c11 => ?_) (fun c11 => ?_)
      · have hv := hv.trans (if_pos c11)
        refine lv_aload_n hx hb dX5_unheld_40 rfl (lv_at hl 1 rfl) ?_
        exact sm_rr (ad := fun k => ad (10 + 3 * k)) hx hb hr hlocks hv dX5_unheld_41
      · have hv := hv.trans (if_neg c11)
        refine lv_aload_n hx hb dX5_unheld_14 rfl (lv_at hl 0 rfl) ?_
        refine lv_aload_n hx hb dX5_unheld_15 rfl (lv_at hl 0 rfl) ?_
        refine fg_RX5_26 hx hb hts hown hW hB dX5_unheld_16 ?_
        refine lv_iload_n hx hb dX5_unheld_19 rfl (lv_at hl 2 rfl) ?_
        obtain ⟨i20_2, ei20_2, hv⟩ := sm_lt hv
        have hi20_2 : i20_2 < 4 := by rw [ei20_2]; exact in_nat (in_ge i0 c11 (by decide))
        refine xr_ldP hx hb hW hB (in_ge i0 c11 (by decide)) ei20_2 dX5_unheld_20 ?_
        refine sm_ci (sm_runV (rest := []) hC (c_X5_isHeld l g ad hW.2.1 _ i20_2 σ hi20_2 hI) k_X5_isHeld w_425 (by decide) (sm_pv hW hB (by decide) (eX_0 g ad _) rfl) rfl hl.1 rfl (Nat.le_of_ble_eq_true rfl) dX5_unheld_21) ?_
        have k_34 : ∀ (r1_34 : Nat) (ls : Array Slot), r1_34 < 4 → lv_has ls 3 [(0, .ref (ad 0)), (1, .ref (ad (10 + 3 * r1_34))), (2, .int v2_9)] → F = f_X5_unheld_34 (fun r1_9 v2_9 => f_X5_unheld_9 n σ r1_9 v2_9) v2_9 σ r1_34 → W p l e (rmd 1) s m args below meth c s.heap [] 0 0 (MQ below (va_Sr (fun r => r = F) (fun k => .ref (ad (10 + 3 * k)))) args s 0 0 (fun _ => False)) (F0 m 34 ls []) := by
          intro r1_34 ls hr1_34 hl hv
          obtain ⟨y34_3, ey34_3, hv⟩ := sm_lt hv
          refine lv_iinc (v := y34_3) (lv' := [(2, .int y34_3), (0, .ref (ad 0)), (1, .ref (ad (10 + 3 * r1_34)))]) hx hb dX5_unheld_34 hl (k := 2) rfl (by rw [ey34_3]; rfl) (by decide) rfl (fun ls hl => ?_)
          refine lv_goto (tgt := 9) hx hb dX5_unheld_37 (by decide) ?_
          exact ih r1_34 y34_3 _ hr1_34 (by rw [ey34_3]; exact nn_inc i0 c11) (by rw [ey34_3]; exact Nat.lt_of_lt_of_le (me_inc c11) (Nat.le_of_lt_succ hme)) (lv_sub hl [1, 2, 0] rfl) hv
        refine lv_if_ne (tgt := 34) hx hb dX5_unheld_24 (by decide) (fun c24 => ?_) (fun c24 => ?_)
        · have hv := hv.trans (if_neg c24)
          exact k_34 r1_9 _ hr1_9 (lv_sub hl [0, 1, 2] rfl) hv
        · have hv := hv.trans (if_pos c24)
          refine lv_aload_n hx hb dX5_unheld_27 rfl (lv_at hl 0 rfl) ?_
          refine fg_RX5_26 hx hb hts hown hW hB dX5_unheld_28 ?_
          refine lv_iload_n hx hb dX5_unheld_31 rfl (lv_at hl 2 rfl) ?_
          obtain ⟨i32_4, ei32_4, hv⟩ := sm_lt hv
          have hi32_4 : i32_4 < 4 := by rw [ei32_4]; exact in_nat (in_ge i0 c11 (by decide))
          refine xr_ldP hx hb hW hB (in_ge i0 c11 (by decide)) ei32_4 dX5_unheld_32 ?_
          refine lv_astore_n (lv' := [(1, .ref (ad (10 + 3 * i32_4))), (0, .ref (ad 0)), (2, .int v2_9)]) hx hb dX5_unheld_33 rfl hl (by decide) rfl (fun ls hl => ?_)
          exact k_34 i32_4 _ hi32_4 (lv_sub hl [1, 0, 2] rfl) hv
  refine lv_istore_n (lv' := [(2, .int 1), (1, .ref (ad (10 + 3 * i5_1))), (0, .ref (ad 0))]) hx hb dX5_unheld_8 rfl hl (by decide) rfl (fun ls hl => ?_)
  exact k_9 (((4 : Int32).toInt - Int32.toInt 1).toNat + 1) i5_1 1 _ hi5_1 (by decide) (Nat.lt_succ_self _) (lv_sub hl [2, 1, 0] rfl) hv
