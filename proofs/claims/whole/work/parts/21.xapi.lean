def f_X5_constant (σ : sm_S) (x1 : Int32) (x2 : Int32) (x3 : Int64) : Int32 × sm_S := if (f_X5_isBelow (Int32.toInt64 x1) 8) = 0 then (((-1), σ)) else (if (f_X5_isBelow (Int32.toInt64 x2) 4) = 0 then (((-1), σ)) else (sm_let (f_X5_put σ x1 x2 (f_X5_held x2 x3) 64) (fun u31_1 => (0, u31_1))))
set_option maxRecDepth 100000 in
set_option maxHeartbeats 4000000 in
theorem c_X5_constant (l : Launch) (g : sm_G) (ad : Nat → Nat) (hj : sm_inj 22 ad) (sz : Nat) (σ : sm_S) (x1 : Int32) (x2 : Int32) (x3 : Int64)   : Met l yX5_constant (sm_ws yX5_constant cX5_constant 5 (some .int)) (rmd 4) (va_Pc [.ref (ad 0), .int x1, .int x2, .long x3] (sm_Pre g 22 ad (eX g ad) σ sz)) (sm_Qi g 22 ad (eX g ad) sz (f_X5_constant σ x1 x2 x3)) 0 0 (sm_AX 22 ad sz) := by
  generalize hv : f_X5_constant σ x1 x2 x3 = F
  replace hv := hv.symm
  refine sm_mWi (by decide) (Nat.le_of_ble_eq_true rfl) hj (eX_lay g ad) (fun p e s m args below meth c C hW hB ls hl => ?_)
  obtain ⟨hC, hr, hlocks⟩ := C
  have hx := hC.1
  have hb := hC.2.1
  have hts := hC.2.2.2.2
  have hown : s.vm.findClass RX5 = some m.cls := hC.2.2.2.1
  have hl : lv_has ls 5 [(0, .ref (ad 0)), (1, .int x1), (2, .int x2), (3, .long x3)] := hl
  refine lv_iload_n hx hb dX5_constant_0 rfl (lv_at hl 1 rfl) ?_
  refine lv_i2l hx hb dX5_constant_1 rfl ?_
  refine lv_bipush (v := 8) hx hb dX5_constant_2 (by decide) ?_
  refine sm_ci (sm_runS (rest := []) hC (c_X5_isBelow l g (Int32.toInt64 x1) 8) k_X5_isBelow w_142 (by decide) (sm_ps hW.1 hB.2) rfl hl.1 rfl (Nat.le_of_ble_eq_true rfl) dX5_constant_4) ?_
  refine lv_if_eq (tgt := 19) hx hb dX5_constant_7 (by decide) (fun c7 => ?_) (fun c7 => ?_)
  · have hv := hv.trans (if_pos c7)
    refine lv_iconst (v := -1) hx hb dX5_constant_19 (by decide) ?_
    exact sw_ri hx hb hr hlocks hB hv dX5_constant_20
  · have hv := hv.trans (if_neg c7)
    refine lv_iload_n hx hb dX5_constant_10 rfl (lv_at hl 2 rfl) ?_
    refine lv_i2l hx hb dX5_constant_11 rfl ?_
    refine lv_iconst (v := 4) hx hb dX5_constant_12 (by decide) ?_
    refine sm_ci (sm_runS (rest := []) hC (c_X5_isBelow l g (Int32.toInt64 x2) 4) k_X5_isBelow w_142 (by decide) (sm_ps hW.1 hB.2) rfl hl.1 rfl (Nat.le_of_ble_eq_true rfl) dX5_constant_13) ?_
    refine lv_if_ne (tgt := 21) hx hb dX5_constant_16 (by decide) (fun c16 => ?_) (fun c16 => ?_)
    · have hv := hv.trans (if_neg c16)
      refine lv_aload_n hx hb dX5_constant_21 rfl (lv_at hl 0 rfl) ?_
      refine lv_iload_n hx hb dX5_constant_22 rfl (lv_at hl 1 rfl) ?_
      refine lv_iload_n hx hb dX5_constant_23 rfl (lv_at hl 2 rfl) ?_
      refine lv_iload_n hx hb dX5_constant_24 rfl (lv_at hl 2 rfl) ?_
      refine lv_lload_n hx hb dX5_constant_25 rfl (lv_at hl 3 rfl) ?_
      refine sm_cl (sm_runS (rest := [.int x2, .int x1, .ref (ad 0)]) hC (c_X5_held l g x2 x3) k_X5_held w_145 (by decide) (sm_ps hW.1 hB.2) rfl hl.1 rfl (Nat.le_of_ble_eq_true rfl) dX5_constant_26) ?_
      refine lv_bipush (v := 64) hx hb dX5_constant_29 (by decide) ?_
      refine sw_cvn hv hB (sm_runV (rest := []) hC (c_X5_put l g ad hW.2.1 _ σ x1 x2 (f_X5_held x2 x3) 64 (bel_in c7 (by decide))) k_X5_put w_166 (by decide) (sm_pv hW hB (by decide) (eX_0 g ad _) rfl) rfl hl.1 rfl (Nat.le_of_ble_eq_true rfl) dX5_constant_31) (fun u31_1 eu31_1 hv H locs hB => ?_)
      refine lv_iconst (v := 0) hx hb dX5_constant_34 (by decide) ?_
      exact sw_ri hx hb hr hlocks hB hv dX5_constant_35
    · have hv := hv.trans (if_pos c16)
      refine lv_iconst (v := -1) hx hb dX5_constant_19 (by decide) ?_
      exact sw_ri hx hb hr hlocks hB hv dX5_constant_20
def f_X5_input (σ : sm_S) (x1 : Int32) (x2 : Int32) (x3 : Int64) (x5 : Int32) : Int32 × sm_S := if (f_X5_isBelow (Int32.toInt64 x1) 8) = 0 then (((-1), σ)) else (if (f_X5_isBelow (Int32.toInt64 x2) 4) = 0 then (((-1), σ)) else (if (f_X5_isBelow (Int32.toInt64 x5) 6) = 0 then (((-1), σ)) else (sm_let (f_X5_put σ x1 x2 (f_X5_held x2 x3) ((64 : Int32) + ((1 : Int32) <<< (x5 &&& 31)))) (fun u47_1 => (0, u47_1)))))
set_option maxRecDepth 100000 in
set_option maxHeartbeats 4000000 in
theorem c_X5_input (l : Launch) (g : sm_G) (ad : Nat → Nat) (hj : sm_inj 22 ad) (sz : Nat) (σ : sm_S) (x1 : Int32) (x2 : Int32) (x3 : Int64) (x5 : Int32)   : Met l yX5_input (sm_ws yX5_input cX5_input 6 (some .int)) (rmd 4) (va_Pc [.ref (ad 0), .int x1, .int x2, .long x3, .int x5] (sm_Pre g 22 ad (eX g ad) σ sz)) (sm_Qi g 22 ad (eX g ad) sz (f_X5_input σ x1 x2 x3 x5)) 0 0 (sm_AX 22 ad sz) := by
  generalize hv : f_X5_input σ x1 x2 x3 x5 = F
  replace hv := hv.symm
  refine sm_mWi (by decide) (Nat.le_of_ble_eq_true rfl) hj (eX_lay g ad) (fun p e s m args below meth c C hW hB ls hl => ?_)
  obtain ⟨hC, hr, hlocks⟩ := C
  have hx := hC.1
  have hb := hC.2.1
  have hts := hC.2.2.2.2
  have hown : s.vm.findClass RX5 = some m.cls := hC.2.2.2.1
  have hl : lv_has ls 6 [(0, .ref (ad 0)), (1, .int x1), (2, .int x2), (3, .long x3), (5, .int x5)] := hl
  refine lv_iload_n hx hb dX5_input_0 rfl (lv_at hl 1 rfl) ?_
  refine lv_i2l hx hb dX5_input_1 rfl ?_
  refine lv_bipush (v := 8) hx hb dX5_input_2 (by decide) ?_
  refine sm_ci (sm_runS (rest := []) hC (c_X5_isBelow l g (Int32.toInt64 x1) 8) k_X5_isBelow w_142 (by decide) (sm_ps hW.1 hB.2) rfl hl.1 rfl (Nat.le_of_ble_eq_true rfl) dX5_input_4) ?_
  refine lv_if_eq (tgt := 30) hx hb dX5_input_7 (by decide) (fun c7 => ?_) (fun c7 => ?_)
  · have hv := hv.trans (if_pos c7)
    refine lv_iconst (v := -1) hx hb dX5_input_30 (by decide) ?_
    exact sw_ri hx hb hr hlocks hB hv dX5_input_31
  · have hv := hv.trans (if_neg c7)
    refine lv_iload_n hx hb dX5_input_10 rfl (lv_at hl 2 rfl) ?_
    refine lv_i2l hx hb dX5_input_11 rfl ?_
    refine lv_iconst (v := 4) hx hb dX5_input_12 (by decide) ?_
    refine sm_ci (sm_runS (rest := []) hC (c_X5_isBelow l g (Int32.toInt64 x2) 4) k_X5_isBelow w_142 (by decide) (sm_ps hW.1 hB.2) rfl hl.1 rfl (Nat.le_of_ble_eq_true rfl) dX5_input_13) ?_
    refine lv_if_eq (tgt := 30) hx hb dX5_input_16 (by decide) (fun c16 => ?_) (fun c16 => ?_)
    · have hv := hv.trans (if_pos c16)
      refine lv_iconst (v := -1) hx hb dX5_input_30 (by decide) ?_
      exact sw_ri hx hb hr hlocks hB hv dX5_input_31
    · have hv := hv.trans (if_neg c16)
      refine lv_iload hx hb dX5_input_19 (lv_at hl 4 rfl) ?_
      refine lv_i2l hx hb dX5_input_21 rfl ?_
      refine lv_bipush (v := 6) hx hb dX5_input_22 (by decide) ?_
      refine sm_ci (sm_runS (rest := []) hC (c_X5_isBelow l g (Int32.toInt64 x5) 6) k_X5_isBelow w_142 (by decide) (sm_ps hW.1 hB.2) rfl hl.1 rfl (Nat.le_of_ble_eq_true rfl) dX5_input_24) ?_
      refine lv_if_ne (tgt := 32) hx hb dX5_input_27 (by decide) (fun c27 => ?_) (fun c27 => ?_)
      · have hv := hv.trans (if_neg c27)
        refine lv_aload_n hx hb dX5_input_32 rfl (lv_at hl 0 rfl) ?_
        refine lv_iload_n hx hb dX5_input_33 rfl (lv_at hl 1 rfl) ?_
        refine lv_iload_n hx hb dX5_input_34 rfl (lv_at hl 2 rfl) ?_
        refine lv_iload_n hx hb dX5_input_35 rfl (lv_at hl 2 rfl) ?_
        refine lv_lload_n hx hb dX5_input_36 rfl (lv_at hl 3 rfl) ?_
        refine sm_cl (sm_runS (rest := [.int x2, .int x1, .ref (ad 0)]) hC (c_X5_held l g x2 x3) k_X5_held w_145 (by decide) (sm_ps hW.1 hB.2) rfl hl.1 rfl (Nat.le_of_ble_eq_true rfl) dX5_input_37) ?_
        refine lv_bipush (v := 64) hx hb dX5_input_40 (by decide) ?_
        refine lv_iconst (v := 1) hx hb dX5_input_42 (by decide) ?_
        refine lv_iload hx hb dX5_input_43 (lv_at hl 4 rfl) ?_
        refine lv_ishl hx hb dX5_input_45 ?_
        refine lv_iadd hx hb dX5_input_46 ?_
        refine sw_cvn hv hB (sm_runV (rest := []) hC (c_X5_put l g ad hW.2.1 _ σ x1 x2 (f_X5_held x2 x3) ((64 : Int32) + ((1 : Int32) <<< (x5 &&& 31))) (bel_in c7 (by decide))) k_X5_put w_166 (by decide) (sm_pv hW hB (by decide) (eX_0 g ad _) rfl) rfl hl.1 rfl (Nat.le_of_ble_eq_true rfl) dX5_input_47) (fun u47_1 eu47_1 hv H locs hB => ?_)
        refine lv_iconst (v := 0) hx hb dX5_input_50 (by decide) ?_
        exact sw_ri hx hb hr hlocks hB hv dX5_input_51
      · have hv := hv.trans (if_pos c27)
        refine lv_iconst (v := -1) hx hb dX5_input_30 (by decide) ?_
        exact sw_ri hx hb hr hlocks hB hv dX5_input_31
def f_X5_one_60 (x1 : Int32) (x2 : Int32) (x3 : Int32) (σ : sm_S) (t0_60 : Int32) : Int32 × sm_S := sm_let (f_X5_put σ x2 (f_X4_resultKind x1 (σ.1 1 (Int32.toNatClampNeg x3))) (f_X4_result x1 (σ.1 1 (Int32.toNatClampNeg x3)) (σ.2.1 2 (Int32.toNatClampNeg x3))) t0_60) (fun u92_1 => (0, u92_1))
def f_X5_one (σ : sm_S) (x1 : Int32) (x2 : Int32) (x3 : Int32) : Int32 × sm_S := if (f_X5_isBelow (Int32.toInt64 x2) 8) = 0 then (((-1), σ)) else (if (f_X5_isBelow (Int32.toInt64 x3) 8) = 0 then (((-1), σ)) else (if (f_X4_takes x1 (σ.1 1 (Int32.toNatClampNeg x3))) = 0 then (((-1), σ)) else (if (f_X4_rounds x1) = 0 then (f_X5_one_60 x1 x2 x3 σ (σ.1 3 (Int32.toNatClampNeg x3))) else (f_X5_one_60 x1 x2 x3 σ (f_X5_inexact (σ.1 3 (Int32.toNatClampNeg x3)))))))
set_option maxRecDepth 100000 in
set_option maxHeartbeats 4000000 in
theorem c_X5_one (l : Launch) (g : sm_G) (ad : Nat → Nat) (hj : sm_inj 22 ad) (sz : Nat) (σ : sm_S) (x1 : Int32) (x2 : Int32) (x3 : Int32)   : Met l yX5_one (sm_ws yX5_one cX5_one 5 (some .int)) (rmd 6) (va_Pc [.ref (ad 0), .int x1, .int x2, .int x3] (sm_Pre g 22 ad (eX g ad) σ sz)) (sm_Qi g 22 ad (eX g ad) sz (f_X5_one σ x1 x2 x3)) 0 0 (sm_AX 22 ad sz) := by
  generalize hv : f_X5_one σ x1 x2 x3 = F
  replace hv := hv.symm
  refine sm_mWi (by decide) (Nat.le_of_ble_eq_true rfl) hj (eX_lay g ad) (fun p e s m args below meth c C hW hB ls hl => ?_)
  obtain ⟨hC, hr, hlocks⟩ := C
  have hx := hC.1
  have hb := hC.2.1
  have hts := hC.2.2.2.2
  have hown : s.vm.findClass RX5 = some m.cls := hC.2.2.2.1
  have hl : lv_has ls 5 [(0, .ref (ad 0)), (1, .int x1), (2, .int x2), (3, .int x3)] := hl
  refine lv_iload_n hx hb dX5_one_0 rfl (lv_at hl 2 rfl) ?_
  refine lv_i2l hx hb dX5_one_1 rfl ?_
  refine lv_bipush (v := 8) hx hb dX5_one_2 (by decide) ?_
  refine sm_ci (sm_runS (rest := []) hC (c_X5_isBelow l g (Int32.toInt64 x2) 8) k_X5_isBelow w_142 (by decide) (sm_ps hW.1 hB.2) rfl hl.1 rfl (Nat.le_of_ble_eq_true rfl) dX5_one_4) ?_
  refine lv_if_eq (tgt := 33) hx hb dX5_one_7 (by decide) (fun c7 => ?_) (fun c7 => ?_)
  · have hv := hv.trans (if_pos c7)
    refine lv_iconst (v := -1) hx hb dX5_one_33 (by decide) ?_
    exact sw_ri hx hb hr hlocks hB hv dX5_one_34
  · have hv := hv.trans (if_neg c7)
    refine lv_iload_n hx hb dX5_one_10 rfl (lv_at hl 3 rfl) ?_
    refine lv_i2l hx hb dX5_one_11 rfl ?_
    refine lv_bipush (v := 8) hx hb dX5_one_12 (by decide) ?_
    refine sm_ci (sm_runS (rest := []) hC (c_X5_isBelow l g (Int32.toInt64 x3) 8) k_X5_isBelow w_142 (by decide) (sm_ps hW.1 hB.2) rfl hl.1 rfl (Nat.le_of_ble_eq_true rfl) dX5_one_14) ?_
    refine lv_if_eq (tgt := 33) hx hb dX5_one_17 (by decide) (fun c17 => ?_) (fun c17 => ?_)
    · have hv := hv.trans (if_pos c17)
      refine lv_iconst (v := -1) hx hb dX5_one_33 (by decide) ?_
      exact sw_ri hx hb hr hlocks hB hv dX5_one_34
    · have hv := hv.trans (if_neg c17)
      refine lv_iload_n hx hb dX5_one_20 rfl (lv_at hl 1 rfl) ?_
      refine lv_aload_n hx hb dX5_one_21 rfl (lv_at hl 0 rfl) ?_
      refine fg_RX5_9 hx hb hts hown hW hB dX5_one_22 ?_
      refine lv_iload_n hx hb dX5_one_25 rfl (lv_at hl 3 rfl) ?_
      refine sw_ia hx hb hW hB (1) (by decide) (eX_1 g ad) (bel_in c17 (by decide)) dX5_one_26 ?_
      refine sm_ci (sm_runS (rest := []) hC (c_X4_takes l g x1 (σ.1 1 (Int32.toNatClampNeg x3))) k_X4_takes w_178 (by decide) (sm_ps hW.1 hB.2) rfl hl.1 rfl (Nat.le_of_ble_eq_true rfl) dX5_one_27) ?_
      refine lv_if_ne (tgt := 35) hx hb dX5_one_30 (by decide) (fun c30 => ?_) (fun c30 => ?_)
      · have hv := hv.trans (if_neg c30)
        refine lv_iload_n hx hb dX5_one_35 rfl (lv_at hl 1 rfl) ?_
        refine sm_ci (sm_runS (rest := []) hC (c_X4_rounds l g x1) k_X4_rounds w_187 (by decide) (sm_ps hW.1 hB.2) rfl hl.1 rfl (Nat.le_of_ble_eq_true rfl) dX5_one_36) ?_
        have k_60 : ∀ (t0_60 : Int32) (σ : sm_S) (ls : Array Slot) (H : Heap) (locs : List Loc), lv_has ls 5 [(0, .ref (ad 0)), (1, .int x1), (2, .int x2), (3, .int x3)] → sm_B g 22 ad (eX g ad) s H locs σ → F = f_X5_one_60 x1 x2 x3 σ t0_60 → W p l e (rmd 6) s m args below meth c H locs 0 0 (MQ below (sm_Qi g 22 ad (eX g ad) s.heap.size F) args s 0 0 (sm_AX 22 ad s.heap.size)) (F0 m 60 ls [.int t0_60]) := by
          intro t0_60 σ ls H locs hl hB hv
          refine lv_istore (lv' := [(4, .int t0_60), (0, .ref (ad 0)), (1, .int x1), (2, .int x2), (3, .int x3)]) hx hb dX5_one_60 hl (by decide) rfl (fun ls hl => ?_)
          refine lv_aload_n hx hb dX5_one_62 rfl (lv_at hl 1 rfl) ?_
          refine lv_iload_n hx hb dX5_one_63 rfl (lv_at hl 3 rfl) ?_
          refine lv_iload_n hx hb dX5_one_64 rfl (lv_at hl 2 rfl) ?_
          refine lv_aload_n hx hb dX5_one_65 rfl (lv_at hl 1 rfl) ?_
          refine fg_RX5_9 hx hb hts hown hW hB dX5_one_66 ?_
          refine lv_iload_n hx hb dX5_one_69 rfl (lv_at hl 4 rfl) ?_
          refine sw_ia hx hb hW hB (1) (by decide) (eX_1 g ad) (bel_in c17 (by decide)) dX5_one_70 ?_
          refine sm_ci (sm_runS (rest := [.int x2, .ref (ad 0)]) hC (c_X4_resultKind l g x1 (σ.1 1 (Int32.toNatClampNeg x3))) k_X4_resultKind w_193 (by decide) (sm_ps hW.1 hB.2) rfl hl.1 rfl (Nat.le_of_ble_eq_true rfl) dX5_one_71) ?_
          refine lv_iload_n hx hb dX5_one_74 rfl (lv_at hl 2 rfl) ?_
          refine lv_aload_n hx hb dX5_one_75 rfl (lv_at hl 1 rfl) ?_
          refine fg_RX5_9 hx hb hts hown hW hB dX5_one_76 ?_
          refine lv_iload_n hx hb dX5_one_79 rfl (lv_at hl 4 rfl) ?_
          refine sw_ia hx hb hW hB (1) (by decide) (eX_1 g ad) (bel_in c17 (by decide)) dX5_one_80 ?_
          refine lv_aload_n hx hb dX5_one_81 rfl (lv_at hl 1 rfl) ?_
          refine fg_RX5_13 hx hb hts hown hW hB dX5_one_82 ?_
          refine lv_iload_n hx hb dX5_one_85 rfl (lv_at hl 4 rfl) ?_
          refine sw_la hx hb hW hB (2) (by decide) (eX_2 g ad) (bel_in c17 (by decide)) dX5_one_86 ?_
          refine sm_cl (sm_runS (rest := [.int (f_X4_resultKind x1 (σ.1 1 (Int32.toNatClampNeg x3))), .int x2, .ref (ad 0)]) hC (c_X4_result l g x1 (σ.1 1 (Int32.toNatClampNeg x3)) (σ.2.1 2 (Int32.toNatClampNeg x3))) k_X4_result w_198 (by decide) (sm_ps hW.1 hB.2) rfl hl.1 rfl (Nat.le_of_ble_eq_true rfl) dX5_one_87) ?_
          refine lv_iload hx hb dX5_one_90 (lv_at hl 0 rfl) ?_
          refine sw_cvn hv hB (sm_runV (rest := []) hC (c_X5_put l g ad hW.2.1 _ σ x2 (f_X4_resultKind x1 (σ.1 1 (Int32.toNatClampNeg x3))) (f_X4_result x1 (σ.1 1 (Int32.toNatClampNeg x3)) (σ.2.1 2 (Int32.toNatClampNeg x3))) t0_60 (bel_in c7 (by decide))) k_X5_put w_166 (by decide) (sm_pv hW hB (by decide) (eX_0 g ad _) rfl) rfl hl.1 rfl (Nat.le_of_ble_eq_true rfl) dX5_one_92) (fun u92_1 eu92_1 hv H locs hB => ?_)
          refine lv_iconst (v := 0) hx hb dX5_one_95 (by decide) ?_
          exact sw_ri hx hb hr hlocks hB hv dX5_one_96
        refine lv_if_eq (tgt := 54) hx hb dX5_one_39 (by decide) (fun c39 => ?_) (fun c39 => ?_)
        · have hv := hv.trans (if_pos c39)
          refine lv_aload_n hx hb dX5_one_54 rfl (lv_at hl 0 rfl) ?_
          refine fg_RX5_17 hx hb hts hown hW hB dX5_one_55 ?_
          refine lv_iload_n hx hb dX5_one_58 rfl (lv_at hl 3 rfl) ?_
          refine sw_ia hx hb hW hB (3) (by decide) (eX_3 g ad) (bel_in c17 (by decide)) dX5_one_59 ?_
          exact k_60 (σ.1 3 (Int32.toNatClampNeg x3)) σ _ _ _ (lv_sub hl [0, 1, 2, 3] rfl) hB hv
        · have hv := hv.trans (if_neg c39)
          refine lv_aload_n hx hb dX5_one_42 rfl (lv_at hl 0 rfl) ?_
          refine fg_RX5_17 hx hb hts hown hW hB dX5_one_43 ?_
          refine lv_iload_n hx hb dX5_one_46 rfl (lv_at hl 3 rfl) ?_
          refine sw_ia hx hb hW hB (3) (by decide) (eX_3 g ad) (bel_in c17 (by decide)) dX5_one_47 ?_
          refine sm_ci (sm_runS (rest := []) hC (c_X5_inexact l g (σ.1 3 (Int32.toNatClampNeg x3))) k_X5_inexact w_190 (by decide) (sm_ps hW.1 hB.2) rfl hl.1 rfl (Nat.le_of_ble_eq_true rfl) dX5_one_48) ?_
          refine lv_goto (tgt := 60) hx hb dX5_one_51 (by decide) ?_
          exact k_60 (f_X5_inexact (σ.1 3 (Int32.toNatClampNeg x3))) σ _ _ _ (lv_sub hl [0, 1, 2, 3] rfl) hB hv
      · have hv := hv.trans (if_pos c30)
        refine lv_iconst (v := -1) hx hb dX5_one_33 (by decide) ?_
        exact sw_ri hx hb hr hlocks hB hv dX5_one_34
def f_X5_two_145 (x1 : Int32) (x2 : Int32) (x3 : Int32) (x4 : Int32) (y39_1 : Int32) (σ : sm_S) (t0_145 : Int64) : Int32 × sm_S := sm_let (f_X5_shadowOfTwo σ x1 x3 x4) (fun u162_2 => sm_let (f_X5_put u162_2.2 x2 (f_X3_resultKind x1 y39_1) t0_145 u162_2.1) (fun u165_3 => (0, u165_3)))
def f_X5_two_93 (x1 : Int32) (x2 : Int32) (x3 : Int32) (x4 : Int32) (y39_1 : Int32) (σ : sm_S) : Int32 × sm_S := if (f_X5_isFloating y39_1) = 0 then (f_X5_two_145 x1 x2 x3 x4 y39_1 σ (f_X3_wholeResult x1 y39_1 (σ.2.1 2 (Int32.toNatClampNeg x3)) (σ.2.1 2 (Int32.toNatClampNeg x4)))) else (f_X5_two_145 x1 x2 x3 x4 y39_1 σ (f_X3_floatingResult (f_X5_formatOf y39_1) x1 (σ.2.1 2 (Int32.toNatClampNeg x3)) (σ.2.1 2 (Int32.toNatClampNeg x4))))
def f_X5_two (σ : sm_S) (x1 : Int32) (x2 : Int32) (x3 : Int32) (x4 : Int32) : Int32 × sm_S := if (f_X5_isBelow (Int32.toInt64 x2) 8) = 0 then (((-1), σ)) else (if (f_X5_isBelow (Int32.toInt64 x3) 8) = 0 then (((-1), σ)) else (if (f_X5_isBelow (Int32.toInt64 x4) 8) = 0 then (((-1), σ)) else (sm_let (σ.1 1 (Int32.toNatClampNeg x3)) (fun y39_1 => if (f_X3_takes x1 y39_1 (σ.1 1 (Int32.toNatClampNeg x4))) = 0 then (((-1), σ)) else (if (f_X3_divides x1) = 0 then (f_X5_two_93 x1 x2 x3 x4 y39_1 σ) else (if (f_X5_isFloating y39_1) = 0 then (if (σ.2.1 2 (Int32.toNatClampNeg x4)) = 0 then (sm_let (f_X5_failed σ ((-2))) (fun u89_4 => (u89_4.1, u89_4.2))) else (f_X5_two_93 x1 x2 x3 x4 y39_1 σ)) else (f_X5_two_93 x1 x2 x3 x4 y39_1 σ)))))))
set_option maxRecDepth 100000 in
set_option maxHeartbeats 4000000 in
theorem c_X5_two (l : Launch) (g : sm_G) (ad : Nat → Nat) (hj : sm_inj 22 ad) (sz : Nat) (σ : sm_S) (x1 : Int32) (x2 : Int32) (x3 : Int32) (x4 : Int32)   : Met l yX5_two (sm_ws yX5_two cX5_two 8 (some .int)) (rmd 7) (va_Pc [.ref (ad 0), .int x1, .int x2, .int x3, .int x4] (sm_Pre g 22 ad (eX g ad) σ sz)) (sm_Qi g 22 ad (eX g ad) sz (f_X5_two σ x1 x2 x3 x4)) 0 0 (sm_AX 22 ad sz) := by
  generalize hv : f_X5_two σ x1 x2 x3 x4 = F
  replace hv := hv.symm
  refine sm_mWi (by decide) (Nat.le_of_ble_eq_true rfl) hj (eX_lay g ad) (fun p e s m args below meth c C hW hB ls hl => ?_)
  obtain ⟨hC, hr, hlocks⟩ := C
  have hx := hC.1
  have hb := hC.2.1
  have hts := hC.2.2.2.2
  have hown : s.vm.findClass RX5 = some m.cls := hC.2.2.2.1
  have hl : lv_has ls 8 [(0, .ref (ad 0)), (1, .int x1), (2, .int x2), (3, .int x3), (4, .int x4)] := hl
  refine lv_iload_n hx hb dX5_two_0 rfl (lv_at hl 2 rfl) ?_
  refine lv_i2l hx hb dX5_two_1 rfl ?_
  refine lv_bipush (v := 8) hx hb dX5_two_2 (by decide) ?_
  refine sm_ci (sm_runS (rest := []) hC (c_X5_isBelow l g (Int32.toInt64 x2) 8) k_X5_isBelow w_142 (by decide) (sm_ps hW.1 hB.2) rfl hl.1 rfl (Nat.le_of_ble_eq_true rfl) dX5_two_4) ?_
  refine lv_if_eq (tgt := 31) hx hb dX5_two_7 (by decide) (fun c7 => ?_) (fun c7 => ?_)
  · have hv := hv.trans (if_pos c7)
    refine lv_iconst (v := -1) hx hb dX5_two_31 (by decide) ?_
    exact sw_ri hx hb hr hlocks hB hv dX5_two_32
  · have hv := hv.trans (if_neg c7)
    refine lv_iload_n hx hb dX5_two_10 rfl (lv_at hl 3 rfl) ?_
    refine lv_i2l hx hb dX5_two_11 rfl ?_
    refine lv_bipush (v := 8) hx hb dX5_two_12 (by decide) ?_
    refine sm_ci (sm_runS (rest := []) hC (c_X5_isBelow l g (Int32.toInt64 x3) 8) k_X5_isBelow w_142 (by decide) (sm_ps hW.1 hB.2) rfl hl.1 rfl (Nat.le_of_ble_eq_true rfl) dX5_two_14) ?_
    refine lv_if_eq (tgt := 31) hx hb dX5_two_17 (by decide) (fun c17 => ?_) (fun c17 => ?_)
    · have hv := hv.trans (if_pos c17)
      refine lv_iconst (v := -1) hx hb dX5_two_31 (by decide) ?_
      exact sw_ri hx hb hr hlocks hB hv dX5_two_32
    · have hv := hv.trans (if_neg c17)
      refine lv_iload hx hb dX5_two_20 (lv_at hl 4 rfl) ?_
      refine lv_i2l hx hb dX5_two_22 rfl ?_
      refine lv_bipush (v := 8) hx hb dX5_two_23 (by decide) ?_
      refine sm_ci (sm_runS (rest := []) hC (c_X5_isBelow l g (Int32.toInt64 x4) 8) k_X5_isBelow w_142 (by decide) (sm_ps hW.1 hB.2) rfl hl.1 rfl (Nat.le_of_ble_eq_true rfl) dX5_two_25) ?_
      refine lv_if_ne (tgt := 33) hx hb dX5_two_28 (by decide) (fun c28 => ?_) (fun c28 => ?_)
      · have hv := hv.trans (if_neg c28)
        refine lv_aload_n hx hb dX5_two_33 rfl (lv_at hl 0 rfl) ?_
        refine fg_RX5_9 hx hb hts hown hW hB dX5_two_34 ?_
        refine lv_iload_n hx hb dX5_two_37 rfl (lv_at hl 3 rfl) ?_
        refine sw_ia hx hb hW hB (1) (by decide) (eX_1 g ad) (bel_in c17 (by decide)) dX5_two_38 ?_
        refine sm_nmi hv (fun y39_1 ey39_1 hv => ?_)
        refine lv_istore (lv' := [(5, .int y39_1), (0, .ref (ad 0)), (1, .int x1), (2, .int x2), (3, .int x3), (4, .int x4)]) hx hb dX5_two_39 hl (by decide) rfl (fun ls hl => ?_)
        refine lv_iload_n hx hb dX5_two_41 rfl (lv_at hl 2 rfl) ?_
        refine lv_iload hx hb dX5_two_42 (lv_at hl 0 rfl) ?_
        refine lv_aload_n hx hb dX5_two_44 rfl (lv_at hl 1 rfl) ?_
        refine fg_RX5_9 hx hb hts hown hW hB dX5_two_45 ?_
        refine lv_iload hx hb dX5_two_48 (lv_at hl 5 rfl) ?_
        refine sw_ia hx hb hW hB (1) (by decide) (eX_1 g ad) (bel_in c28 (by decide)) dX5_two_50 ?_
        refine sm_ci (sm_runS (rest := []) hC (c_X3_takes l g x1 y39_1 (σ.1 1 (Int32.toNatClampNeg x4))) k_X3_takes w_295 (by decide) (sm_ps hW.1 hB.2) rfl hl.1 rfl (Nat.le_of_ble_eq_true rfl) dX5_two_51) ?_
        refine lv_if_ne (tgt := 59) hx hb dX5_two_54 (by decide) (fun c54 => ?_) (fun c54 => ?_)
        · have hv := hv.trans (if_neg c54)
          refine lv_iload_n hx hb dX5_two_59 rfl (lv_at hl 2 rfl) ?_
          refine sm_ci (sm_runS (rest := []) hC (c_X3_divides l g x1) k_X3_divides w_299 (by decide) (sm_ps hW.1 hB.2) rfl hl.1 rfl (Nat.le_of_ble_eq_true rfl) dX5_two_60) ?_
          have k_93 : ∀  (σ : sm_S) (ls : Array Slot) (H : Heap) (locs : List Loc), lv_has ls 8 [(0, .ref (ad 0)), (1, .int x1), (2, .int x2), (3, .int x3), (4, .int x4), (5, .int y39_1)] → sm_B g 22 ad (eX g ad) s H locs σ → F = f_X5_two_93 x1 x2 x3 x4 y39_1 σ → W p l e (rmd 7) s m args below meth c H locs 0 0 (MQ below (sm_Qi g 22 ad (eX g ad) s.heap.size F) args s 0 0 (sm_AX 22 ad s.heap.size)) (F0 m 93 ls []) := by
            intro σ ls H locs hl hB hv
            refine lv_iload hx hb dX5_two_93 (lv_at hl 5 rfl) ?_
            refine sm_ci (sm_runS (rest := []) hC (c_X5_isFloating l g y39_1) k_X5_isFloating w_302 (by decide) (sm_ps hW.1 hB.2) rfl hl.1 rfl (Nat.le_of_ble_eq_true rfl) dX5_two_95) ?_
            have k_145 : ∀ (t0_145 : Int64) (σ : sm_S) (ls : Array Slot) (H : Heap) (locs : List Loc), lv_has ls 8 [(0, .ref (ad 0)), (1, .int x1), (2, .int x2), (3, .int x3), (4, .int x4), (5, .int y39_1)] → sm_B g 22 ad (eX g ad) s H locs σ → F = f_X5_two_145 x1 x2 x3 x4 y39_1 σ t0_145 → W p l e (rmd 7) s m args below meth c H locs 0 0 (MQ below (sm_Qi g 22 ad (eX g ad) s.heap.size F) args s 0 0 (sm_AX 22 ad s.heap.size)) (F0 m 145 ls [.long t0_145]) := by
              intro t0_145 σ ls H locs hl hB hv
              refine lv_lstore (lv' := [(6, .long t0_145), (0, .ref (ad 0)), (1, .int x1), (2, .int x2), (3, .int x3), (4, .int x4), (5, .int y39_1)]) hx hb dX5_two_145 hl (by decide) rfl (fun ls hl => ?_)
              refine lv_aload_n hx hb dX5_two_147 rfl (lv_at hl 1 rfl) ?_
              refine lv_iload_n hx hb dX5_two_148 rfl (lv_at hl 3 rfl) ?_
              refine lv_iload_n hx hb dX5_two_149 rfl (lv_at hl 2 rfl) ?_
              refine lv_iload hx hb dX5_two_150 (lv_at hl 6 rfl) ?_
              refine sm_ci (sm_runS (rest := [.int x2, .ref (ad 0)]) hC (c_X3_resultKind l g x1 y39_1) k_X3_resultKind w_380 (by decide) (sm_ps hW.1 hB.2) rfl hl.1 rfl (Nat.le_of_ble_eq_true rfl) dX5_two_152) ?_
              refine lv_lload hx hb dX5_two_155 (lv_at hl 0 rfl) ?_
              refine lv_aload_n hx hb dX5_two_157 rfl (lv_at hl 1 rfl) ?_
              refine lv_iload_n hx hb dX5_two_158 rfl (lv_at hl 2 rfl) ?_
              refine lv_iload_n hx hb dX5_two_159 rfl (lv_at hl 4 rfl) ?_
              refine lv_iload hx hb dX5_two_160 (lv_at hl 5 rfl) ?_
              refine sw_cin hv hB (sm_runV (rest := [.long t0_145, .int (f_X3_resultKind x1 y39_1), .int x2, .ref (ad 0)]) hC (c_X5_shadowOfTwo l g ad hW.2.1 _ σ x1 x3 x4 (bel_in c17 (by decide)) (bel_in c28 (by decide))) k_X5_shadowOfTwo w_383 (by decide) (sm_pv hW hB (by decide) (eX_0 g ad _) rfl) rfl hl.1 rfl (Nat.le_of_ble_eq_true rfl) dX5_two_162) (fun u162_2 eu162_2 hv H locs hB => ?_)
              refine sw_cvn hv hB (sm_runV (rest := []) hC (c_X5_put l g ad hW.2.1 _ u162_2.2 x2 (f_X3_resultKind x1 y39_1) t0_145 u162_2.1 (bel_in c7 (by decide))) k_X5_put w_166 (by decide) (sm_pv hW hB (by decide) (eX_0 g ad _) rfl) rfl hl.1 rfl (Nat.le_of_ble_eq_true rfl) dX5_two_165) (fun u165_3 eu165_3 hv H locs hB => ?_)
              refine lv_iconst (v := 0) hx hb dX5_two_168 (by decide) ?_
              exact sw_ri hx hb hr hlocks hB hv dX5_two_169
            refine lv_if_eq (tgt := 126) hx hb dX5_two_98 (by decide) (fun c98 => ?_) (fun c98 => ?_)
            · have hv := hv.trans (if_pos c98)
              refine lv_iload_n hx hb dX5_two_126 rfl (lv_at hl 1 rfl) ?_
              refine lv_iload hx hb dX5_two_127 (lv_at hl 5 rfl) ?_
              refine lv_aload_n hx hb dX5_two_129 rfl (lv_at hl 0 rfl) ?_
              refine fg_RX5_13 hx hb hts hown hW hB dX5_two_130 ?_
              refine lv_iload_n hx hb dX5_two_133 rfl (lv_at hl 3 rfl) ?_
              refine sw_la hx hb hW hB (2) (by decide) (eX_2 g ad) (bel_in c17 (by decide)) dX5_two_134 ?_
              refine lv_aload_n hx hb dX5_two_135 rfl (lv_at hl 0 rfl) ?_
              refine fg_RX5_13 hx hb hts hown hW hB dX5_two_136 ?_
              refine lv_iload hx hb dX5_two_139 (lv_at hl 4 rfl) ?_
              refine sw_la hx hb hW hB (2) (by decide) (eX_2 g ad) (bel_in c28 (by decide)) dX5_two_141 ?_
              refine sm_cl (sm_runS (rest := []) hC (c_X3_wholeResult l g x1 y39_1 (σ.2.1 2 (Int32.toNatClampNeg x3)) (σ.2.1 2 (Int32.toNatClampNeg x4))) k_X3_wholeResult w_367 (by decide) (sm_ps hW.1 hB.2) rfl hl.1 rfl (Nat.le_of_ble_eq_true rfl) dX5_two_142) ?_
              exact k_145 (f_X3_wholeResult x1 y39_1 (σ.2.1 2 (Int32.toNatClampNeg x3)) (σ.2.1 2 (Int32.toNatClampNeg x4))) σ _ _ _ (lv_sub hl [0, 1, 2, 3, 4, 5] rfl) hB hv
            · have hv := hv.trans (if_neg c98)
              refine lv_iload_n hx hb dX5_two_101 rfl (lv_at hl 1 rfl) ?_
              refine lv_iload hx hb dX5_two_102 (lv_at hl 5 rfl) ?_
              refine sm_cr (sm_runS (rest := [.int x1]) hC (c_X5_formatOf l g y39_1) k_X5_formatOf w_307 (by decide) (sm_ps hW.1 hB.2) rfl hl.1 rfl (Nat.le_of_ble_eq_true rfl) dX5_two_104) ?_
              refine lv_aload_n hx hb dX5_two_107 rfl (lv_at hl 0 rfl) ?_
              refine fg_RX5_13 hx hb hts hown hW hB dX5_two_108 ?_
              refine lv_iload_n hx hb dX5_two_111 rfl (lv_at hl 3 rfl) ?_
              refine sw_la hx hb hW hB (2) (by decide) (eX_2 g ad) (bel_in c17 (by decide)) dX5_two_112 ?_
              refine lv_aload_n hx hb dX5_two_113 rfl (lv_at hl 0 rfl) ?_
              refine fg_RX5_13 hx hb hts hown hW hB dX5_two_114 ?_
              refine lv_iload hx hb dX5_two_117 (lv_at hl 4 rfl) ?_
              refine sw_la hx hb hW hB (2) (by decide) (eX_2 g ad) (bel_in c28 (by decide)) dX5_two_119 ?_
              refine sm_cl (sm_runS (rest := []) hC (c_X3_floatingResult l g (f_X5_formatOf y39_1) x1 (σ.2.1 2 (Int32.toNatClampNeg x3)) (σ.2.1 2 (Int32.toNatClampNeg x4)) (formatOf_lt _)) k_X3_floatingResult w_308 (by decide) (sm_ps hW.1 hB.2) rfl hl.1 rfl (Nat.le_of_ble_eq_true rfl) dX5_two_120) ?_
              refine lv_goto (tgt := 145) hx hb dX5_two_123 (by decide) ?_
              exact k_145 (f_X3_floatingResult (f_X5_formatOf y39_1) x1 (σ.2.1 2 (Int32.toNatClampNeg x3)) (σ.2.1 2 (Int32.toNatClampNeg x4))) σ _ _ _ (lv_sub hl [0, 1, 2, 3, 4, 5] rfl) hB hv
          refine lv_if_eq (tgt := 93) hx hb dX5_two_63 (by decide) (fun c63 => ?_) (fun c63 => ?_)
          · have hv := hv.trans (if_pos c63)
            exact k_93 σ _ _ _ (lv_sub hl [1, 2, 3, 4, 5, 0] rfl) hB hv
          · have hv := hv.trans (if_neg c63)
            refine lv_iload hx hb dX5_two_66 (lv_at hl 0 rfl) ?_
            refine sm_ci (sm_runS (rest := []) hC (c_X5_isFloating l g y39_1) k_X5_isFloating w_302 (by decide) (sm_ps hW.1 hB.2) rfl hl.1 rfl (Nat.le_of_ble_eq_true rfl) dX5_two_68) ?_
            refine lv_if_ne (tgt := 93) hx hb dX5_two_71 (by decide) (fun c71 => ?_) (fun c71 => ?_)
            · have hv := hv.trans (if_neg c71)
              exact k_93 σ _ _ _ (lv_sub hl [1, 2, 3, 4, 5, 0] rfl) hB hv
            · have hv := hv.trans (if_pos c71)
              refine lv_aload_n hx hb dX5_two_74 rfl (lv_at hl 1 rfl) ?_
              refine fg_RX5_13 hx hb hts hown hW hB dX5_two_75 ?_
              refine lv_iload hx hb dX5_two_78 (lv_at hl 5 rfl) ?_
              refine sw_la hx hb hW hB (2) (by decide) (eX_2 g ad) (bel_in c28 (by decide)) dX5_two_80 ?_
              refine lv_lconst (v := 0) hx hb dX5_two_81 (by decide) ?_
              refine lc_ne (tgt := 93) hx hb dX5_two_82 dX5_two_83 (by decide) (fun c82 => ?_) (fun c82 => ?_)
              · have hv := hv.trans (if_neg c82)
                exact k_93 σ _ _ _ (lv_sub hl [1, 2, 3, 4, 5, 0] rfl) hB hv
              · have hv := hv.trans (if_pos c82)
                refine lv_aload_n hx hb dX5_two_86 rfl (lv_at hl 1 rfl) ?_
                refine lv_bipush (v := -2) hx hb dX5_two_87 (by decide) ?_
                refine sw_cin hv hB (sm_runV (rest := []) hC (c_X5_failed l g ad hW.2.1 _ σ ((-2))) k_X5_failed w_303 (by decide) (sm_pv hW hB (by decide) (eX_0 g ad _) rfl) rfl hl.1 rfl (Nat.le_of_ble_eq_true rfl) dX5_two_89) (fun u89_4 eu89_4 hv H locs hB => ?_)
                exact sw_ri hx hb hr hlocks hB hv dX5_two_92
        · have hv := hv.trans (if_pos c54)
          refine lv_iconst (v := -1) hx hb dX5_two_57 (by decide) ?_
          exact sw_ri hx hb hr hlocks hB hv dX5_two_58
      · have hv := hv.trans (if_pos c28)
        refine lv_iconst (v := -1) hx hb dX5_two_31 (by decide) ?_
        exact sw_ri hx hb hr hlocks hB hv dX5_two_32
def f_X5_move (σ : sm_S) (x1 : Int32) (x2 : Int32) : Int32 × sm_S := if (f_X5_isBelow (Int32.toInt64 x1) 8) = 0 then (((-1), σ)) else (if (f_X5_isBelow (Int32.toInt64 x2) 8) = 0 then (((-1), σ)) else (sm_let (f_X5_put σ x1 (σ.1 1 (Int32.toNatClampNeg x2)) (σ.2.1 2 (Int32.toNatClampNeg x2)) (σ.1 3 (Int32.toNatClampNeg x2))) (fun u42_1 => (0, u42_1))))
set_option maxRecDepth 100000 in
set_option maxHeartbeats 4000000 in
theorem c_X5_move (l : Launch) (g : sm_G) (ad : Nat → Nat) (hj : sm_inj 22 ad) (sz : Nat) (σ : sm_S) (x1 : Int32) (x2 : Int32)   : Met l yX5_move (sm_ws yX5_move cX5_move 3 (some .int)) (rmd 1) (va_Pc [.ref (ad 0), .int x1, .int x2] (sm_Pre g 22 ad (eX g ad) σ sz)) (sm_Qi g 22 ad (eX g ad) sz (f_X5_move σ x1 x2)) 0 0 (sm_AX 22 ad sz) := by
  generalize hv : f_X5_move σ x1 x2 = F
  replace hv := hv.symm
  refine sm_mWi (by decide) (Nat.le_of_ble_eq_true rfl) hj (eX_lay g ad) (fun p e s m args below meth c C hW hB ls hl => ?_)
  obtain ⟨hC, hr, hlocks⟩ := C
  have hx := hC.1
  have hb := hC.2.1
  have hts := hC.2.2.2.2
  have hown : s.vm.findClass RX5 = some m.cls := hC.2.2.2.1
  have hl : lv_has ls 3 [(0, .ref (ad 0)), (1, .int x1), (2, .int x2)] := hl
  refine lv_iload_n hx hb dX5_move_0 rfl (lv_at hl 1 rfl) ?_
  refine lv_i2l hx hb dX5_move_1 rfl ?_
  refine lv_bipush (v := 8) hx hb dX5_move_2 (by decide) ?_
  refine sm_ci (sm_runS (rest := []) hC (c_X5_isBelow l g (Int32.toInt64 x1) 8) k_X5_isBelow w_142 (by decide) (sm_ps hW.1 hB.2) rfl hl.1 rfl (Nat.le_of_ble_eq_true rfl) dX5_move_4) ?_
  refine lv_if_eq (tgt := 20) hx hb dX5_move_7 (by decide) (fun c7 => ?_) (fun c7 => ?_)
  · have hv := hv.trans (if_pos c7)
    refine lv_iconst (v := -1) hx hb dX5_move_20 (by decide) ?_
    exact sw_ri hx hb hr hlocks hB hv dX5_move_21
  · have hv := hv.trans (if_neg c7)
    refine lv_iload_n hx hb dX5_move_10 rfl (lv_at hl 2 rfl) ?_
    refine lv_i2l hx hb dX5_move_11 rfl ?_
    refine lv_bipush (v := 8) hx hb dX5_move_12 (by decide) ?_
    refine sm_ci (sm_runS (rest := []) hC (c_X5_isBelow l g (Int32.toInt64 x2) 8) k_X5_isBelow w_142 (by decide) (sm_ps hW.1 hB.2) rfl hl.1 rfl (Nat.le_of_ble_eq_true rfl) dX5_move_14) ?_
    refine lv_if_ne (tgt := 22) hx hb dX5_move_17 (by decide) (fun c17 => ?_) (fun c17 => ?_)
    · have hv := hv.trans (if_neg c17)
      refine lv_aload_n hx hb dX5_move_22 rfl (lv_at hl 0 rfl) ?_
      refine lv_iload_n hx hb dX5_move_23 rfl (lv_at hl 1 rfl) ?_
      refine lv_aload_n hx hb dX5_move_24 rfl (lv_at hl 0 rfl) ?_
      refine fg_RX5_9 hx hb hts hown hW hB dX5_move_25 ?_
      refine lv_iload_n hx hb dX5_move_28 rfl (lv_at hl 2 rfl) ?_
      refine sw_ia hx hb hW hB (1) (by decide) (eX_1 g ad) (bel_in c17 (by decide)) dX5_move_29 ?_
      refine lv_aload_n hx hb dX5_move_30 rfl (lv_at hl 0 rfl) ?_
      refine fg_RX5_13 hx hb hts hown hW hB dX5_move_31 ?_
      refine lv_iload_n hx hb dX5_move_34 rfl (lv_at hl 2 rfl) ?_
      refine sw_la hx hb hW hB (2) (by decide) (eX_2 g ad) (bel_in c17 (by decide)) dX5_move_35 ?_
      refine lv_aload_n hx hb dX5_move_36 rfl (lv_at hl 0 rfl) ?_
      refine fg_RX5_17 hx hb hts hown hW hB dX5_move_37 ?_
      refine lv_iload_n hx hb dX5_move_40 rfl (lv_at hl 2 rfl) ?_
      refine sw_ia hx hb hW hB (3) (by decide) (eX_3 g ad) (bel_in c17 (by decide)) dX5_move_41 ?_
      refine sw_cvn hv hB (sm_runV (rest := []) hC (c_X5_put l g ad hW.2.1 _ σ x1 (σ.1 1 (Int32.toNatClampNeg x2)) (σ.2.1 2 (Int32.toNatClampNeg x2)) (σ.1 3 (Int32.toNatClampNeg x2)) (bel_in c7 (by decide))) k_X5_put w_166 (by decide) (sm_pv hW hB (by decide) (eX_0 g ad _) rfl) rfl hl.1 rfl (Nat.le_of_ble_eq_true rfl) dX5_move_42) (fun u42_1 eu42_1 hv H locs hB => ?_)
      refine lv_iconst (v := 0) hx hb dX5_move_45 (by decide) ?_
      exact sw_ri hx hb hr hlocks hB hv dX5_move_46
    · have hv := hv.trans (if_pos c17)
      refine lv_iconst (v := -1) hx hb dX5_move_20 (by decide) ?_
      exact sw_ri hx hb hr hlocks hB hv dX5_move_21
def f_X5_array (σ : sm_S) (x1 : Int32) (x2 : Int32) (x3 : Int32) : Int32 × sm_S := if (f_X5_isBelow (Int32.toInt64 x1) 4) = 0 then (((-1), σ)) else (if (f_X5_isBelow (Int32.toInt64 x2) 8) = 0 then (((-1), σ)) else (if (f_X5_isInt σ x3) = 0 then (((-1), σ)) else (if (σ.2.1 2 (Int32.toNatClampNeg x3)) ≤ 12 then (if 0 ≤ (σ.2.1 2 (Int32.toNatClampNeg x3)) then (sm_let (f_X5_giveUp σ x3 40) (fun u64_1 => sm_let (f_X5_unheld (uR u64_1 (Int32.toNatClampNeg x1) none)) (fun i75_2 => sm_let (f_X0_renew i75_2 (uR u64_1 (Int32.toNatClampNeg x1) none) x2 (Int64.toInt32 ((uR u64_1 (Int32.toNatClampNeg x1) none).2.1 2 (Int32.toNatClampNeg x3)))) (fun u90_3 => (0, uR u90_3 (Int32.toNatClampNeg x1) (some i75_2)))))) else (sm_let (f_X5_failed σ ((-5))) (fun u56_4 => (u56_4.1, u56_4.2)))) else (((-1), σ)))))
set_option maxRecDepth 100000 in
set_option maxHeartbeats 4000000 in
theorem c_X5_array (l : Launch) (g : sm_G) (ad : Nat → Nat) (hj : sm_inj 22 ad) (sz : Nat) (σ : sm_S) (x1 : Int32) (x2 : Int32) (x3 : Int32)  (hI : invX σ) : Met l yX5_array (sm_ws yX5_array cX5_array 5 (some .int)) (rmd 3) (va_Pc [.ref (ad 0), .int x1, .int x2, .int x3] (sm_Pre g 22 ad (eX g ad) σ sz)) (sm_Qi g 22 ad (eX g ad) sz (f_X5_array σ x1 x2 x3)) 0 0 (sm_AX 22 ad sz) := by
  generalize hv : f_X5_array σ x1 x2 x3 = F
  replace hv := hv.symm
  refine sm_mWi (by decide) (Nat.le_of_ble_eq_true rfl) hj (eX_lay g ad) (fun p e s m args below meth c C hW hB ls hl => ?_)
  obtain ⟨hC, hr, hlocks⟩ := C
  have hx := hC.1
  have hb := hC.2.1
  have hts := hC.2.2.2.2
  have hown : s.vm.findClass RX5 = some m.cls := hC.2.2.2.1
  have hl : lv_has ls 5 [(0, .ref (ad 0)), (1, .int x1), (2, .int x2), (3, .int x3)] := hl
  refine lv_iload_n hx hb dX5_array_0 rfl (lv_at hl 1 rfl) ?_
  refine lv_i2l hx hb dX5_array_1 rfl ?_
  refine lv_iconst (v := 4) hx hb dX5_array_2 (by decide) ?_
  refine sm_ci (sm_runS (rest := []) hC (c_X5_isBelow l g (Int32.toInt64 x1) 4) k_X5_isBelow w_142 (by decide) (sm_ps hW.1 hB.2) rfl hl.1 rfl (Nat.le_of_ble_eq_true rfl) dX5_array_3) ?_
  refine lv_if_eq (tgt := 40) hx hb dX5_array_6 (by decide) (fun c6 => ?_) (fun c6 => ?_)
  · have hv := hv.trans (if_pos c6)
    refine lv_iconst (v := -1) hx hb dX5_array_40 (by decide) ?_
    exact sw_ri hx hb hr hlocks hB hv dX5_array_41
  · have hv := hv.trans (if_neg c6)
    refine lv_iload_n hx hb dX5_array_9 rfl (lv_at hl 2 rfl) ?_
    refine lv_i2l hx hb dX5_array_10 rfl ?_
    refine lv_bipush (v := 8) hx hb dX5_array_11 (by decide) ?_
    refine sm_ci (sm_runS (rest := []) hC (c_X5_isBelow l g (Int32.toInt64 x2) 8) k_X5_isBelow w_142 (by decide) (sm_ps hW.1 hB.2) rfl hl.1 rfl (Nat.le_of_ble_eq_true rfl) dX5_array_13) ?_
    refine lv_if_eq (tgt := 40) hx hb dX5_array_16 (by decide) (fun c16 => ?_) (fun c16 => ?_)
    · have hv := hv.trans (if_pos c16)
      refine lv_iconst (v := -1) hx hb dX5_array_40 (by decide) ?_
      exact sw_ri hx hb hr hlocks hB hv dX5_array_41
    · have hv := hv.trans (if_neg c16)
      refine lv_aload_n hx hb dX5_array_19 rfl (lv_at hl 0 rfl) ?_
      refine lv_iload_n hx hb dX5_array_20 rfl (lv_at hl 3 rfl) ?_
      refine sm_ci (sm_runV (rest := []) hC (c_X5_isInt l g ad hW.2.1 _ σ x3) k_X5_isInt w_416 (by decide) (sm_pv hW hB (by decide) (eX_0 g ad _) rfl) rfl hl.1 rfl (Nat.le_of_ble_eq_true rfl) dX5_array_21) ?_
      refine lv_if_eq (tgt := 40) hx hb dX5_array_24 (by decide) (fun c24 => ?_) (fun c24 => ?_)
      · have hv := hv.trans (if_pos c24)
        refine lv_iconst (v := -1) hx hb dX5_array_40 (by decide) ?_
        exact sw_ri hx hb hr hlocks hB hv dX5_array_41
      · have hv := hv.trans (if_neg c24)
        refine lv_aload_n hx hb dX5_array_27 rfl (lv_at hl 0 rfl) ?_
        refine fg_RX5_13 hx hb hts hown hW hB dX5_array_28 ?_
        refine lv_iload_n hx hb dX5_array_31 rfl (lv_at hl 3 rfl) ?_
        refine sw_la hx hb hW hB (2) (by decide) (eX_2 g ad) (isInt_in c24) dX5_array_32 ?_
        refine lv_ldc2 hx hb hown (hts _ w_420) dX5_array_33 ?_
        refine lc_le (tgt := 42) hx hb dX5_array_36 dX5_array_37 (by decide) (fun c36 => ?_) (fun c36 => ?_)
        · have hv := hv.trans (if_pos c36)
          refine lv_aload_n hx hb dX5_array_42 rfl (lv_at hl 0 rfl) ?_
          refine fg_RX5_13 hx hb hts hown hW hB dX5_array_43 ?_
          refine lv_iload_n hx hb dX5_array_46 rfl (lv_at hl 3 rfl) ?_
          refine sw_la hx hb hW hB (2) (by decide) (eX_2 g ad) (isInt_in c24) dX5_array_47 ?_
          refine lv_lconst (v := 0) hx hb dX5_array_48 (by decide) ?_
          refine lc_ge (tgt := 60) hx hb dX5_array_49 dX5_array_50 (by decide) (fun c49 => ?_) (fun c49 => ?_)
          · have hv := hv.trans (if_pos c49)
            refine lv_aload_n hx hb dX5_array_60 rfl (lv_at hl 0 rfl) ?_
            refine lv_iload_n hx hb dX5_array_61 rfl (lv_at hl 3 rfl) ?_
            refine lv_bipush (v := 40) hx hb dX5_array_62 (by decide) ?_
            refine sw_cvn hv hB (sm_runV (rest := []) hC (c_X5_giveUp l g ad hW.2.1 _ σ x3 40 (isInt_in c24)) k_X5_giveUp w_390 (by decide) (sm_pv hW hB (by decide) (eX_0 g ad _) rfl) rfl hl.1 rfl (Nat.le_of_ble_eq_true rfl) dX5_array_64) (fun u64_1 eu64_1 hv H locs hB => ?_)
            refine lv_aload_n hx hb dX5_array_67 rfl (lv_at hl 0 rfl) ?_
            refine fg_RX5_22 hx hb hts hown hW hB dX5_array_68 ?_
            refine lv_iload_n hx hb dX5_array_71 rfl (lv_at hl 1 rfl) ?_
            refine lv_null hx hb dX5_array_72 ?_
            refine xr_stN hx hb hW hB (bel_in c6 (by decide)) dX5_array_73 (fun H locs hB => ?_)
            refine lv_aload_n hx hb dX5_array_74 rfl (lv_at hl 0 rfl) ?_
            refine sm_crn hv (sm_runV (rest := []) hC (c_X5_unheld l g ad hW.2.1 _ (uR u64_1 (Int32.toNatClampNeg x1) none) (by rw [eu64_1]; exact array_I hI _ _ _)) k_X5_unheld w_421 (by decide) (sm_pv hW hB (by decide) (eX_0 g ad _) rfl) rfl hl.1 rfl (Nat.le_of_ble_eq_true rfl) dX5_array_75) (fun i75_2 ei75_2 hv => ?_)
            have hi75_2 : i75_2 < 4 := by rw [ei75_2]; exact unheld_lt _
            refine lv_astore (lv' := [(4, .ref (ad (10 + 3 * i75_2))), (0, .ref (ad 0)), (1, .int x1), (2, .int x2), (3, .int x3)]) hx hb dX5_array_78 hl (by decide) rfl (fun ls hl => ?_)
            refine lv_aload hx hb dX5_array_80 (lv_at hl 0 rfl) ?_
            refine lv_iload_n hx hb dX5_array_82 rfl (lv_at hl 3 rfl) ?_
            refine lv_aload_n hx hb dX5_array_83 rfl (lv_at hl 1 rfl) ?_
            refine fg_RX5_13 hx hb hts hown hW hB dX5_array_84 ?_
            refine lv_iload_n hx hb dX5_array_87 rfl (lv_at hl 4 rfl) ?_
            refine sw_la hx hb hW hB (2) (by decide) (eX_2 g ad) (isInt_in c24) dX5_array_88 ?_
            refine lv_l2i hx hb dX5_array_89 rfl ?_
            refine sw_cvn hv hB (sm_runV (rest := []) hC (c_X0_renew l g ad hW.2.1 _ i75_2 (uR u64_1 (Int32.toNatClampNeg x1) none) x2 (Int64.toInt32 ((uR u64_1 (Int32.toNatClampNeg x1) none).2.1 2 (Int32.toNatClampNeg x3))) hi75_2) k_X0_renew w_429 (by decide) (sm_pv hW hB (c0_lt hi75_2) (eX_c0 hi75_2 g ad _) rfl) rfl hl.1 rfl (Nat.le_of_ble_eq_true rfl) dX5_array_90) (fun u90_3 eu90_3 hv H locs hB => ?_)
            refine lv_aload_n hx hb dX5_array_93 rfl (lv_at hl 1 rfl) ?_
            refine fg_RX5_22 hx hb hts hown hW hB dX5_array_94 ?_
            refine lv_iload_n hx hb dX5_array_97 rfl (lv_at hl 2 rfl) ?_
            refine lv_aload hx hb dX5_array_98 (lv_at hl 0 rfl) ?_
            refine xr_st hx hb hW hB hi75_2 (bel_in c6 (by decide)) dX5_array_100 (fun H locs hB => ?_)
            refine lv_iconst (v := 0) hx hb dX5_array_101 (by decide) ?_
            exact sw_ri hx hb hr hlocks hB hv dX5_array_102
          · have hv := hv.trans (if_neg c49)
            refine lv_aload_n hx hb dX5_array_53 rfl (lv_at hl 0 rfl) ?_
            refine lv_bipush (v := -5) hx hb dX5_array_54 (by decide) ?_
            refine sw_cin hv hB (sm_runV (rest := []) hC (c_X5_failed l g ad hW.2.1 _ σ ((-5))) k_X5_failed w_303 (by decide) (sm_pv hW hB (by decide) (eX_0 g ad _) rfl) rfl hl.1 rfl (Nat.le_of_ble_eq_true rfl) dX5_array_56) (fun u56_4 eu56_4 hv H locs hB => ?_)
            exact sw_ri hx hb hr hlocks hB hv dX5_array_59
        · have hv := hv.trans (if_neg c36)
          refine lv_iconst (v := -1) hx hb dX5_array_40 (by decide) ?_
          exact sw_ri hx hb hr hlocks hB hv dX5_array_41
def f_X5_drop (σ : sm_S) (x1 : Int32) : Int32 × sm_S := if (f_X5_isBelow (Int32.toInt64 x1) 4) = 0 then (((-1), σ)) else ((0, uR σ (Int32.toNatClampNeg x1) none))
set_option maxRecDepth 100000 in
set_option maxHeartbeats 4000000 in
theorem c_X5_drop (l : Launch) (g : sm_G) (ad : Nat → Nat) (hj : sm_inj 22 ad) (sz : Nat) (σ : sm_S) (x1 : Int32)   : Met l yX5_drop (sm_ws yX5_drop cX5_drop 2 (some .int)) (rmd 1) (va_Pc [.ref (ad 0), .int x1] (sm_Pre g 22 ad (eX g ad) σ sz)) (sm_Qi g 22 ad (eX g ad) sz (f_X5_drop σ x1)) 0 0 (sm_AX 22 ad sz) := by
  generalize hv : f_X5_drop σ x1 = F
  replace hv := hv.symm
  refine sm_mWi (by decide) (Nat.le_of_ble_eq_true rfl) hj (eX_lay g ad) (fun p e s m args below meth c C hW hB ls hl => ?_)
  obtain ⟨hC, hr, hlocks⟩ := C
  have hx := hC.1
  have hb := hC.2.1
  have hts := hC.2.2.2.2
  have hown : s.vm.findClass RX5 = some m.cls := hC.2.2.2.1
  have hl : lv_has ls 2 [(0, .ref (ad 0)), (1, .int x1)] := hl
  refine lv_iload_n hx hb dX5_drop_0 rfl (lv_at hl 1 rfl) ?_
  refine lv_i2l hx hb dX5_drop_1 rfl ?_
  refine lv_iconst (v := 4) hx hb dX5_drop_2 (by decide) ?_
  refine sm_ci (sm_runS (rest := []) hC (c_X5_isBelow l g (Int32.toInt64 x1) 4) k_X5_isBelow w_142 (by decide) (sm_ps hW.1 hB.2) rfl hl.1 rfl (Nat.le_of_ble_eq_true rfl) dX5_drop_3) ?_
  refine lv_if_ne (tgt := 11) hx hb dX5_drop_6 (by decide) (fun c6 => ?_) (fun c6 => ?_)
  · have hv := hv.trans (if_neg c6)
    refine lv_aload_n hx hb dX5_drop_11 rfl (lv_at hl 0 rfl) ?_
    refine fg_RX5_22 hx hb hts hown hW hB dX5_drop_12 ?_
    refine lv_iload_n hx hb dX5_drop_15 rfl (lv_at hl 1 rfl) ?_
    refine lv_null hx hb dX5_drop_16 ?_
    refine xr_stN hx hb hW hB (bel_in c6 (by decide)) dX5_drop_17 (fun H locs hB => ?_)
    refine lv_iconst (v := 0) hx hb dX5_drop_18 (by decide) ?_
    exact sw_ri hx hb hr hlocks hB hv dX5_drop_19
  · have hv := hv.trans (if_pos c6)
    refine lv_iconst (v := -1) hx hb dX5_drop_9 (by decide) ?_
    exact sw_ri hx hb hr hlocks hB hv dX5_drop_10
def f_X5_share (σ : sm_S) (x1 : Int32) (x2 : Int32) : Int32 × sm_S := if (f_X5_isBelow (Int32.toInt64 x1) 4) = 0 then (((-1), σ)) else (if (f_X5_isBelow (Int32.toInt64 x2) 4) = 0 then (((-1), σ)) else (sm_oc (σ.2.2 (Int32.toNatClampNeg x2)) ((0, uR σ (Int32.toNatClampNeg x1) none)) (fun i30_1 => (0, uR σ (Int32.toNatClampNeg x1) (some i30_1)))))
set_option maxRecDepth 100000 in
set_option maxHeartbeats 4000000 in
theorem c_X5_share (l : Launch) (g : sm_G) (ad : Nat → Nat) (hj : sm_inj 22 ad) (sz : Nat) (σ : sm_S) (x1 : Int32) (x2 : Int32)  (hI : invX σ) : Met l yX5_share (sm_ws yX5_share cX5_share 3 (some .int)) (rmd 1) (va_Pc [.ref (ad 0), .int x1, .int x2] (sm_Pre g 22 ad (eX g ad) σ sz)) (sm_Qi g 22 ad (eX g ad) sz (f_X5_share σ x1 x2)) 0 0 (sm_AX 22 ad sz) := by
  generalize hv : f_X5_share σ x1 x2 = F
  replace hv := hv.symm
  refine sm_mWi (by decide) (Nat.le_of_ble_eq_true rfl) hj (eX_lay g ad) (fun p e s m args below meth c C hW hB ls hl => ?_)
  obtain ⟨hC, hr, hlocks⟩ := C
  have hx := hC.1
  have hb := hC.2.1
  have hts := hC.2.2.2.2
  have hown : s.vm.findClass RX5 = some m.cls := hC.2.2.2.1
  have hl : lv_has ls 3 [(0, .ref (ad 0)), (1, .int x1), (2, .int x2)] := hl
  refine lv_iload_n hx hb dX5_share_0 rfl (lv_at hl 1 rfl) ?_
  refine lv_i2l hx hb dX5_share_1 rfl ?_
  refine lv_iconst (v := 4) hx hb dX5_share_2 (by decide) ?_
  refine sm_ci (sm_runS (rest := []) hC (c_X5_isBelow l g (Int32.toInt64 x1) 4) k_X5_isBelow w_142 (by decide) (sm_ps hW.1 hB.2) rfl hl.1 rfl (Nat.le_of_ble_eq_true rfl) dX5_share_3) ?_
  refine lv_if_eq (tgt := 18) hx hb dX5_share_6 (by decide) (fun c6 => ?_) (fun c6 => ?_)
  · have hv := hv.trans (if_pos c6)
    refine lv_iconst (v := -1) hx hb dX5_share_18 (by decide) ?_
    exact sw_ri hx hb hr hlocks hB hv dX5_share_19
  · have hv := hv.trans (if_neg c6)
    refine lv_iload_n hx hb dX5_share_9 rfl (lv_at hl 2 rfl) ?_
    refine lv_i2l hx hb dX5_share_10 rfl ?_
    refine lv_iconst (v := 4) hx hb dX5_share_11 (by decide) ?_
    refine sm_ci (sm_runS (rest := []) hC (c_X5_isBelow l g (Int32.toInt64 x2) 4) k_X5_isBelow w_142 (by decide) (sm_ps hW.1 hB.2) rfl hl.1 rfl (Nat.le_of_ble_eq_true rfl) dX5_share_12) ?_
    refine lv_if_ne (tgt := 20) hx hb dX5_share_15 (by decide) (fun c15 => ?_) (fun c15 => ?_)
    · have hv := hv.trans (if_neg c15)
      refine lv_aload_n hx hb dX5_share_20 rfl (lv_at hl 0 rfl) ?_
      refine fg_RX5_22 hx hb hts hown hW hB dX5_share_21 ?_
      refine lv_iload_n hx hb dX5_share_24 rfl (lv_at hl 1 rfl) ?_
      refine lv_aload_n hx hb dX5_share_25 rfl (lv_at hl 0 rfl) ?_
      refine fg_RX5_22 hx hb hts hown hW hB dX5_share_26 ?_
      refine lv_iload_n hx hb dX5_share_29 rfl (lv_at hl 2 rfl) ?_
      refine xr_ld hx hb hW hB (bel_in c15 (by decide)) dX5_share_30 (fun hq => ?_) (fun i30_1 hqi30_1 => ?_)
      · have hv := hv.trans (sm_oc_n hq)
        refine xr_stN hx hb hW hB (bel_in c6 (by decide)) dX5_share_31 (fun H locs hB => ?_)
        refine lv_iconst (v := 0) hx hb dX5_share_32 (by decide) ?_
        exact sw_ri hx hb hr hlocks hB hv dX5_share_33
      · have hv := hv.trans (sm_oc_s hqi30_1)
        have hi30_1 : i30_1 < 4 := hI.1 _ _ hqi30_1
        refine xr_st hx hb hW hB hi30_1 (bel_in c6 (by decide)) dX5_share_31 (fun H locs hB => ?_)
        refine lv_iconst (v := 0) hx hb dX5_share_32 (by decide) ?_
        exact sw_ri hx hb hr hlocks hB hv dX5_share_33
    · have hv := hv.trans (if_pos c15)
      refine lv_iconst (v := -1) hx hb dX5_share_18 (by decide) ?_
      exact sw_ri hx hb hr hlocks hB hv dX5_share_19
def f_X5_load (σ : sm_S) (x1 : Int32) (x2 : Int32) (x3 : Int32) : Int32 × sm_S := if (f_X5_isBelow (Int32.toInt64 x1) 8) = 0 then (((-1), σ)) else (if (f_X5_isBelow (Int32.toInt64 x2) 4) = 0 then (((-1), σ)) else (if (f_X5_isInt σ x3) = 0 then (((-1), σ)) else (sm_oc (σ.2.2 (Int32.toNatClampNeg x2)) (sm_let (f_X5_failed σ ((-3))) (fun u45_2 => (u45_2.1, u45_2.2))) (fun i34_1 => if (f_X5_isBelow (σ.2.1 2 (Int32.toNatClampNeg x3)) (σ.1 (10 + 3 * i34_1) 1)) = 0 then (sm_let (f_X5_failed σ ((-4))) (fun u69_6 => (u69_6.1, u69_6.2))) else (sm_let (Int64.toInt32 (σ.2.1 2 (Int32.toNatClampNeg x3))) (fun y80_3 => sm_let (f_X5_giveUp σ x3 41) (fun u86_4 => sm_let (f_X5_put u86_4 x1 (f_X0_kindTaken i34_1 u86_4) (u86_4.2.1 (11 + 3 * i34_1) (Int32.toNatClampNeg y80_3)) (u86_4.1 (12 + 3 * i34_1) (Int32.toNatClampNeg y80_3))) (fun u112_5 => (0, u112_5)))))))))
set_option maxRecDepth 100000 in
set_option maxHeartbeats 4000000 in
theorem c_X5_load (l : Launch) (g : sm_G) (ad : Nat → Nat) (hj : sm_inj 22 ad) (sz : Nat) (σ : sm_S) (x1 : Int32) (x2 : Int32) (x3 : Int32)  (hI : invX σ) : Met l yX5_load (sm_ws yX5_load cX5_load 6 (some .int)) (rmd 3) (va_Pc [.ref (ad 0), .int x1, .int x2, .int x3] (sm_Pre g 22 ad (eX g ad) σ sz)) (sm_Qi g 22 ad (eX g ad) sz (f_X5_load σ x1 x2 x3)) 0 0 (sm_AX 22 ad sz) := by
  generalize hv : f_X5_load σ x1 x2 x3 = F
  replace hv := hv.symm
  refine sm_mWi (by decide) (Nat.le_of_ble_eq_true rfl) hj (eX_lay g ad) (fun p e s m args below meth c C hW hB ls hl => ?_)
  obtain ⟨hC, hr, hlocks⟩ := C
  have hx := hC.1
  have hb := hC.2.1
  have hts := hC.2.2.2.2
  have hown : s.vm.findClass RX5 = some m.cls := hC.2.2.2.1
  have hl : lv_has ls 6 [(0, .ref (ad 0)), (1, .int x1), (2, .int x2), (3, .int x3)] := hl
  refine lv_iload_n hx hb dX5_load_0 rfl (lv_at hl 1 rfl) ?_
  refine lv_i2l hx hb dX5_load_1 rfl ?_
  refine lv_bipush (v := 8) hx hb dX5_load_2 (by decide) ?_
  refine sm_ci (sm_runS (rest := []) hC (c_X5_isBelow l g (Int32.toInt64 x1) 8) k_X5_isBelow w_142 (by decide) (sm_ps hW.1 hB.2) rfl hl.1 rfl (Nat.le_of_ble_eq_true rfl) dX5_load_4) ?_
  refine lv_if_eq (tgt := 27) hx hb dX5_load_7 (by decide) (fun c7 => ?_) (fun c7 => ?_)
  · have hv := hv.trans (if_pos c7)
    refine lv_iconst (v := -1) hx hb dX5_load_27 (by decide) ?_
    exact sw_ri hx hb hr hlocks hB hv dX5_load_28
  · have hv := hv.trans (if_neg c7)
    refine lv_iload_n hx hb dX5_load_10 rfl (lv_at hl 2 rfl) ?_
    refine lv_i2l hx hb dX5_load_11 rfl ?_
    refine lv_iconst (v := 4) hx hb dX5_load_12 (by decide) ?_
    refine sm_ci (sm_runS (rest := []) hC (c_X5_isBelow l g (Int32.toInt64 x2) 4) k_X5_isBelow w_142 (by decide) (sm_ps hW.1 hB.2) rfl hl.1 rfl (Nat.le_of_ble_eq_true rfl) dX5_load_13) ?_
    refine lv_if_eq (tgt := 27) hx hb dX5_load_16 (by decide) (fun c16 => ?_) (fun c16 => ?_)
    · have hv := hv.trans (if_pos c16)
      refine lv_iconst (v := -1) hx hb dX5_load_27 (by decide) ?_
      exact sw_ri hx hb hr hlocks hB hv dX5_load_28
    · have hv := hv.trans (if_neg c16)
      refine lv_aload_n hx hb dX5_load_19 rfl (lv_at hl 0 rfl) ?_
      refine lv_iload_n hx hb dX5_load_20 rfl (lv_at hl 3 rfl) ?_
      refine sm_ci (sm_runV (rest := []) hC (c_X5_isInt l g ad hW.2.1 _ σ x3) k_X5_isInt w_416 (by decide) (sm_pv hW hB (by decide) (eX_0 g ad _) rfl) rfl hl.1 rfl (Nat.le_of_ble_eq_true rfl) dX5_load_21) ?_
      refine lv_if_ne (tgt := 29) hx hb dX5_load_24 (by decide) (fun c24 => ?_) (fun c24 => ?_)
      · have hv := hv.trans (if_neg c24)
        refine lv_aload_n hx hb dX5_load_29 rfl (lv_at hl 0 rfl) ?_
        refine fg_RX5_22 hx hb hts hown hW hB dX5_load_30 ?_
        refine lv_iload_n hx hb dX5_load_33 rfl (lv_at hl 2 rfl) ?_
        refine xr_ld hx hb hW hB (bel_in c16 (by decide)) dX5_load_34 (fun hq => ?_) (fun i34_1 hqi34_1 => ?_)
        · have hv := hv.trans (sm_oc_n hq)
          refine lv_astoreN (lv' := [(4, .null), (0, .ref (ad 0)), (1, .int x1), (2, .int x2), (3, .int x3)]) hx hb dX5_load_35 hl (by decide) rfl (fun ls hl => ?_)
          refine lv_aloadN hx hb dX5_load_37 (lv_at hl 0 rfl) ?_
          refine lv_ifnonnullN hx hb dX5_load_39 ?_
          refine lv_aload_n hx hb dX5_load_42 rfl (lv_at hl 1 rfl) ?_
          refine lv_bipush (v := -3) hx hb dX5_load_43 (by decide) ?_
          refine sw_cin hv hB (sm_runV (rest := []) hC (c_X5_failed l g ad hW.2.1 _ σ ((-3))) k_X5_failed w_303 (by decide) (sm_pv hW hB (by decide) (eX_0 g ad _) rfl) rfl hl.1 rfl (Nat.le_of_ble_eq_true rfl) dX5_load_45) (fun u45_2 eu45_2 hv H locs hB => ?_)
          exact sw_ri hx hb hr hlocks hB hv dX5_load_48
        · have hv := hv.trans (sm_oc_s hqi34_1)
          have hi34_1 : i34_1 < 4 := hI.1 _ _ hqi34_1
          refine lv_astore (lv' := [(4, .ref (ad (10 + 3 * i34_1))), (0, .ref (ad 0)), (1, .int x1), (2, .int x2), (3, .int x3)]) hx hb dX5_load_35 hl (by decide) rfl (fun ls hl => ?_)
          refine lv_aload hx hb dX5_load_37 (lv_at hl 0 rfl) ?_
          refine lv_ifnonnull (tgt := 49) hx hb dX5_load_39 (by decide) ?_
          refine lv_aload_n hx hb dX5_load_49 rfl (lv_at hl 1 rfl) ?_
          refine fg_RX5_13 hx hb hts hown hW hB dX5_load_50 ?_
          refine lv_iload_n hx hb dX5_load_53 rfl (lv_at hl 4 rfl) ?_
          refine sw_la hx hb hW hB (2) (by decide) (eX_2 g ad) (isInt_in c24) dX5_load_54 ?_
          refine lv_aload hx hb dX5_load_55 (lv_at hl 0 rfl) ?_
          refine fg_RX5_121 hx hb hts hown hW hB hi34_1 dX5_load_57 ?_
          refine sm_ci (sm_runS (rest := []) hC (c_X5_isBelow l g (σ.2.1 2 (Int32.toNatClampNeg x3)) (σ.1 (10 + 3 * i34_1) 1)) k_X5_isBelow w_142 (by decide) (sm_ps hW.1 hB.2) rfl hl.1 rfl (Nat.le_of_ble_eq_true rfl) dX5_load_60) ?_
          refine lv_if_ne (tgt := 73) hx hb dX5_load_63 (by decide) (fun c63 => ?_) (fun c63 => ?_)
          · have hv := hv.trans (if_neg c63)
            refine lv_aload_n hx hb dX5_load_73 rfl (lv_at hl 1 rfl) ?_
            refine fg_RX5_13 hx hb hts hown hW hB dX5_load_74 ?_
            refine lv_iload_n hx hb dX5_load_77 rfl (lv_at hl 4 rfl) ?_
            refine sw_la hx hb hW hB (2) (by decide) (eX_2 g ad) (isInt_in c24) dX5_load_78 ?_
            refine lv_l2i hx hb dX5_load_79 rfl ?_
            refine sm_nmi hv (fun y80_3 ey80_3 hv => ?_)
            refine lv_istore (lv' := [(5, .int y80_3), (4, .ref (ad (10 + 3 * i34_1))), (0, .ref (ad 0)), (1, .int x1), (2, .int x2), (3, .int x3)]) hx hb dX5_load_80 hl (by decide) rfl (fun ls hl => ?_)
            refine lv_aload_n hx hb dX5_load_82 rfl (lv_at hl 2 rfl) ?_
            refine lv_iload_n hx hb dX5_load_83 rfl (lv_at hl 5 rfl) ?_
            refine lv_bipush (v := 41) hx hb dX5_load_84 (by decide) ?_
            refine sw_cvn hv hB (sm_runV (rest := []) hC (c_X5_giveUp l g ad hW.2.1 _ σ x3 41 (isInt_in c24)) k_X5_giveUp w_390 (by decide) (sm_pv hW hB (by decide) (eX_0 g ad _) rfl) rfl hl.1 rfl (Nat.le_of_ble_eq_true rfl) dX5_load_86) (fun u86_4 eu86_4 hv H locs hB => ?_)
            refine lv_aload_n hx hb dX5_load_89 rfl (lv_at hl 2 rfl) ?_
            refine lv_iload_n hx hb dX5_load_90 rfl (lv_at hl 3 rfl) ?_
            refine lv_aload hx hb dX5_load_91 (lv_at hl 1 rfl) ?_
            refine sm_ci (sm_runV (rest := [.int x1, .ref (ad 0)]) hC (c_X0_kindTaken l g ad hW.2.1 _ i34_1 u86_4 hi34_1) k_X0_kindTaken w_445 (by decide) (sm_pv hW hB (c0_lt hi34_1) (eX_c0 hi34_1 g ad _) rfl) rfl hl.1 rfl (Nat.le_of_ble_eq_true rfl) dX5_load_93) ?_
            refine lv_aload hx hb dX5_load_96 (lv_at hl 1 rfl) ?_
            refine fg_RX5_129 hx hb hts hown hW hB hi34_1 dX5_load_98 ?_
            refine lv_iload hx hb dX5_load_101 (lv_at hl 0 rfl) ?_
            refine sw_la hx hb hW hB (11 + 3 * i34_1) (c1_lt hi34_1) (eX_c1 hi34_1 g ad) (by rw [ey80_3]; exact bel_inL c63 (hI.2 _ hi34_1).2) dX5_load_103 ?_
            refine lv_aload hx hb dX5_load_104 (lv_at hl 1 rfl) ?_
            refine fg_RX5_130 hx hb hts hown hW hB hi34_1 dX5_load_106 ?_
            refine lv_iload hx hb dX5_load_109 (lv_at hl 0 rfl) ?_
            refine sw_ia hx hb hW hB (12 + 3 * i34_1) (c2_lt hi34_1) (eX_c2 hi34_1 g ad) (by rw [ey80_3]; exact bel_inL c63 (hI.2 _ hi34_1).2) dX5_load_111 ?_
            refine sw_cvn hv hB (sm_runV (rest := []) hC (c_X5_put l g ad hW.2.1 _ u86_4 x1 (f_X0_kindTaken i34_1 u86_4) (u86_4.2.1 (11 + 3 * i34_1) (Int32.toNatClampNeg y80_3)) (u86_4.1 (12 + 3 * i34_1) (Int32.toNatClampNeg y80_3)) (bel_in c7 (by decide))) k_X5_put w_166 (by decide) (sm_pv hW hB (by decide) (eX_0 g ad _) rfl) rfl hl.1 rfl (Nat.le_of_ble_eq_true rfl) dX5_load_112) (fun u112_5 eu112_5 hv H locs hB => ?_)
            refine lv_iconst (v := 0) hx hb dX5_load_115 (by decide) ?_
            exact sw_ri hx hb hr hlocks hB hv dX5_load_116
          · have hv := hv.trans (if_pos c63)
            refine lv_aload_n hx hb dX5_load_66 rfl (lv_at hl 1 rfl) ?_
            refine lv_bipush (v := -4) hx hb dX5_load_67 (by decide) ?_
            refine sw_cin hv hB (sm_runV (rest := []) hC (c_X5_failed l g ad hW.2.1 _ σ ((-4))) k_X5_failed w_303 (by decide) (sm_pv hW hB (by decide) (eX_0 g ad _) rfl) rfl hl.1 rfl (Nat.le_of_ble_eq_true rfl) dX5_load_69) (fun u69_6 eu69_6 hv H locs hB => ?_)
            exact sw_ri hx hb hr hlocks hB hv dX5_load_72
      · have hv := hv.trans (if_pos c24)
        refine lv_iconst (v := -1) hx hb dX5_load_27 (by decide) ?_
        exact sw_ri hx hb hr hlocks hB hv dX5_load_28
def f_X5_store (σ : sm_S) (x1 : Int32) (x2 : Int32) (x3 : Int32) : Int32 × sm_S := if (f_X5_isBelow (Int32.toInt64 x1) 4) = 0 then (((-1), σ)) else (if (f_X5_isInt σ x2) = 0 then (((-1), σ)) else (if (f_X5_isBelow (Int32.toInt64 x3) 8) = 0 then (((-1), σ)) else (sm_oc (σ.2.2 (Int32.toNatClampNeg x1)) (sm_let (f_X5_failed σ ((-3))) (fun u45_2 => (u45_2.1, u45_2.2))) (fun i34_1 => if (f_X0_kindTaken i34_1 σ) = (σ.1 1 (Int32.toNatClampNeg x3)) then (if (f_X5_isBelow (σ.2.1 2 (Int32.toNatClampNeg x2)) (σ.1 (10 + 3 * i34_1) 1)) = 0 then (sm_let (f_X5_failed σ ((-4))) (fun u90_5 => (u90_5.1, u90_5.2))) else (sm_let (f_X0_keep i34_1 σ (Int64.toInt32 (σ.2.1 2 (Int32.toNatClampNeg x2))) (σ.2.1 2 (Int32.toNatClampNeg x3)) (σ.1 3 (Int32.toNatClampNeg x3))) (fun u115_3 => sm_let (f_X5_giveUp u115_3 x2 42) (fun u122_4 => (0, u122_4))))) else (sm_let (f_X5_failed σ ((-6))) (fun u66_6 => (u66_6.1, u66_6.2)))))))
set_option maxRecDepth 100000 in
set_option maxHeartbeats 4000000 in
theorem c_X5_store (l : Launch) (g : sm_G) (ad : Nat → Nat) (hj : sm_inj 22 ad) (sz : Nat) (σ : sm_S) (x1 : Int32) (x2 : Int32) (x3 : Int32)  (hI : invX σ) : Met l yX5_store (sm_ws yX5_store cX5_store 5 (some .int)) (rmd 3) (va_Pc [.ref (ad 0), .int x1, .int x2, .int x3] (sm_Pre g 22 ad (eX g ad) σ sz)) (sm_Qi g 22 ad (eX g ad) sz (f_X5_store σ x1 x2 x3)) 0 0 (sm_AX 22 ad sz) := by
  generalize hv : f_X5_store σ x1 x2 x3 = F
  replace hv := hv.symm
  refine sm_mWi (by decide) (Nat.le_of_ble_eq_true rfl) hj (eX_lay g ad) (fun p e s m args below meth c C hW hB ls hl => ?_)
  obtain ⟨hC, hr, hlocks⟩ := C
  have hx := hC.1
  have hb := hC.2.1
  have hts := hC.2.2.2.2
  have hown : s.vm.findClass RX5 = some m.cls := hC.2.2.2.1
  have hl : lv_has ls 5 [(0, .ref (ad 0)), (1, .int x1), (2, .int x2), (3, .int x3)] := hl
  refine lv_iload_n hx hb dX5_store_0 rfl (lv_at hl 1 rfl) ?_
  refine lv_i2l hx hb dX5_store_1 rfl ?_
  refine lv_iconst (v := 4) hx hb dX5_store_2 (by decide) ?_
  refine sm_ci (sm_runS (rest := []) hC (c_X5_isBelow l g (Int32.toInt64 x1) 4) k_X5_isBelow w_142 (by decide) (sm_ps hW.1 hB.2) rfl hl.1 rfl (Nat.le_of_ble_eq_true rfl) dX5_store_3) ?_
  refine lv_if_eq (tgt := 27) hx hb dX5_store_6 (by decide) (fun c6 => ?_) (fun c6 => ?_)
  · have hv := hv.trans (if_pos c6)
    refine lv_iconst (v := -1) hx hb dX5_store_27 (by decide) ?_
    exact sw_ri hx hb hr hlocks hB hv dX5_store_28
  · have hv := hv.trans (if_neg c6)
    refine lv_aload_n hx hb dX5_store_9 rfl (lv_at hl 0 rfl) ?_
    refine lv_iload_n hx hb dX5_store_10 rfl (lv_at hl 2 rfl) ?_
    refine sm_ci (sm_runV (rest := []) hC (c_X5_isInt l g ad hW.2.1 _ σ x2) k_X5_isInt w_416 (by decide) (sm_pv hW hB (by decide) (eX_0 g ad _) rfl) rfl hl.1 rfl (Nat.le_of_ble_eq_true rfl) dX5_store_11) ?_
    refine lv_if_eq (tgt := 27) hx hb dX5_store_14 (by decide) (fun c14 => ?_) (fun c14 => ?_)
    · have hv := hv.trans (if_pos c14)
      refine lv_iconst (v := -1) hx hb dX5_store_27 (by decide) ?_
      exact sw_ri hx hb hr hlocks hB hv dX5_store_28
    · have hv := hv.trans (if_neg c14)
      refine lv_iload_n hx hb dX5_store_17 rfl (lv_at hl 3 rfl) ?_
      refine lv_i2l hx hb dX5_store_18 rfl ?_
      refine lv_bipush (v := 8) hx hb dX5_store_19 (by decide) ?_
      refine sm_ci (sm_runS (rest := []) hC (c_X5_isBelow l g (Int32.toInt64 x3) 8) k_X5_isBelow w_142 (by decide) (sm_ps hW.1 hB.2) rfl hl.1 rfl (Nat.le_of_ble_eq_true rfl) dX5_store_21) ?_
      refine lv_if_ne (tgt := 29) hx hb dX5_store_24 (by decide) (fun c24 => ?_) (fun c24 => ?_)
      · have hv := hv.trans (if_neg c24)
        refine lv_aload_n hx hb dX5_store_29 rfl (lv_at hl 0 rfl) ?_
        refine fg_RX5_22 hx hb hts hown hW hB dX5_store_30 ?_
        refine lv_iload_n hx hb dX5_store_33 rfl (lv_at hl 1 rfl) ?_
        refine xr_ld hx hb hW hB (bel_in c6 (by decide)) dX5_store_34 (fun hq => ?_) (fun i34_1 hqi34_1 => ?_)
        · have hv := hv.trans (sm_oc_n hq)
          refine lv_astoreN (lv' := [(4, .null), (0, .ref (ad 0)), (1, .int x1), (2, .int x2), (3, .int x3)]) hx hb dX5_store_35 hl (by decide) rfl (fun ls hl => ?_)
          refine lv_aloadN hx hb dX5_store_37 (lv_at hl 0 rfl) ?_
          refine lv_ifnonnullN hx hb dX5_store_39 ?_
          refine lv_aload_n hx hb dX5_store_42 rfl (lv_at hl 1 rfl) ?_
          refine lv_bipush (v := -3) hx hb dX5_store_43 (by decide) ?_
          refine sw_cin hv hB (sm_runV (rest := []) hC (c_X5_failed l g ad hW.2.1 _ σ ((-3))) k_X5_failed w_303 (by decide) (sm_pv hW hB (by decide) (eX_0 g ad _) rfl) rfl hl.1 rfl (Nat.le_of_ble_eq_true rfl) dX5_store_45) (fun u45_2 eu45_2 hv H locs hB => ?_)
          exact sw_ri hx hb hr hlocks hB hv dX5_store_48
        · have hv := hv.trans (sm_oc_s hqi34_1)
          have hi34_1 : i34_1 < 4 := hI.1 _ _ hqi34_1
          refine lv_astore (lv' := [(4, .ref (ad (10 + 3 * i34_1))), (0, .ref (ad 0)), (1, .int x1), (2, .int x2), (3, .int x3)]) hx hb dX5_store_35 hl (by decide) rfl (fun ls hl => ?_)
          refine lv_aload hx hb dX5_store_37 (lv_at hl 0 rfl) ?_
          refine lv_ifnonnull (tgt := 49) hx hb dX5_store_39 (by decide) ?_
          refine lv_aload hx hb dX5_store_49 (lv_at hl 0 rfl) ?_
          refine sm_ci (sm_runV (rest := []) hC (c_X0_kindTaken l g ad hW.2.1 _ i34_1 σ hi34_1) k_X0_kindTaken w_445 (by decide) (sm_pv hW hB (c0_lt hi34_1) (eX_c0 hi34_1 g ad _) rfl) rfl hl.1 rfl (Nat.le_of_ble_eq_true rfl) dX5_store_51) ?_
          refine lv_aload_n hx hb dX5_store_54 rfl (lv_at hl 1 rfl) ?_
          refine fg_RX5_9 hx hb hts hown hW hB dX5_store_55 ?_
          refine lv_iload_n hx hb dX5_store_58 rfl (lv_at hl 4 rfl) ?_
          refine sw_ia hx hb hW hB (1) (by decide) (eX_1 g ad) (bel_in c24 (by decide)) dX5_store_59 ?_
          refine lv_icmp_eq (tgt := 70) hx hb dX5_store_60 (by decide) (fun c60 => ?_) (fun c60 => ?_)
          · have hv := hv.trans (if_pos c60)
            refine lv_aload_n hx hb dX5_store_70 rfl (lv_at hl 1 rfl) ?_
            refine fg_RX5_13 hx hb hts hown hW hB dX5_store_71 ?_
            refine lv_iload_n hx hb dX5_store_74 rfl (lv_at hl 3 rfl) ?_
            refine sw_la hx hb hW hB (2) (by decide) (eX_2 g ad) (isInt_in c14) dX5_store_75 ?_
            refine lv_aload hx hb dX5_store_76 (lv_at hl 0 rfl) ?_
            refine fg_RX5_121 hx hb hts hown hW hB hi34_1 dX5_store_78 ?_
            refine sm_ci (sm_runS (rest := []) hC (c_X5_isBelow l g (σ.2.1 2 (Int32.toNatClampNeg x2)) (σ.1 (10 + 3 * i34_1) 1)) k_X5_isBelow w_142 (by decide) (sm_ps hW.1 hB.2) rfl hl.1 rfl (Nat.le_of_ble_eq_true rfl) dX5_store_81) ?_
            refine lv_if_ne (tgt := 94) hx hb dX5_store_84 (by decide) (fun c84 => ?_) (fun c84 => ?_)
            · have hv := hv.trans (if_neg c84)
              refine lv_aload hx hb dX5_store_94 (lv_at hl 0 rfl) ?_
              refine lv_aload_n hx hb dX5_store_96 rfl (lv_at hl 1 rfl) ?_
              refine fg_RX5_13 hx hb hts hown hW hB dX5_store_97 ?_
              refine lv_iload_n hx hb dX5_store_100 rfl (lv_at hl 3 rfl) ?_
              refine sw_la hx hb hW hB (2) (by decide) (eX_2 g ad) (isInt_in c14) dX5_store_101 ?_
              refine lv_l2i hx hb dX5_store_102 rfl ?_
              refine lv_aload_n hx hb dX5_store_103 rfl (lv_at hl 1 rfl) ?_
              refine fg_RX5_13 hx hb hts hown hW hB dX5_store_104 ?_
              refine lv_iload_n hx hb dX5_store_107 rfl (lv_at hl 4 rfl) ?_
              refine sw_la hx hb hW hB (2) (by decide) (eX_2 g ad) (bel_in c24 (by decide)) dX5_store_108 ?_
              refine lv_aload_n hx hb dX5_store_109 rfl (lv_at hl 1 rfl) ?_
              refine fg_RX5_17 hx hb hts hown hW hB dX5_store_110 ?_
              refine lv_iload_n hx hb dX5_store_113 rfl (lv_at hl 4 rfl) ?_
              refine sw_ia hx hb hW hB (3) (by decide) (eX_3 g ad) (bel_in c24 (by decide)) dX5_store_114 ?_
              refine sw_cvn hv hB (sm_runV (rest := []) hC (c_X0_keep l g ad hW.2.1 _ i34_1 σ (Int64.toInt32 (σ.2.1 2 (Int32.toNatClampNeg x2))) (σ.2.1 2 (Int32.toNatClampNeg x3)) (σ.1 3 (Int32.toNatClampNeg x3)) hi34_1 (bel_inL c84 (hI.2 _ hi34_1).2)) k_X0_keep w_453 (by decide) (sm_pv hW hB (c0_lt hi34_1) (eX_c0 hi34_1 g ad _) rfl) rfl hl.1 rfl (Nat.le_of_ble_eq_true rfl) dX5_store_115) (fun u115_3 eu115_3 hv H locs hB => ?_)
              refine lv_aload_n hx hb dX5_store_118 rfl (lv_at hl 1 rfl) ?_
              refine lv_iload_n hx hb dX5_store_119 rfl (lv_at hl 3 rfl) ?_
              refine lv_bipush (v := 42) hx hb dX5_store_120 (by decide) ?_
              refine sw_cvn hv hB (sm_runV (rest := []) hC (c_X5_giveUp l g ad hW.2.1 _ u115_3 x2 42 (isInt_in c14)) k_X5_giveUp w_390 (by decide) (sm_pv hW hB (by decide) (eX_0 g ad _) rfl) rfl hl.1 rfl (Nat.le_of_ble_eq_true rfl) dX5_store_122) (fun u122_4 eu122_4 hv H locs hB => ?_)
              refine lv_iconst (v := 0) hx hb dX5_store_125 (by decide) ?_
              exact sw_ri hx hb hr hlocks hB hv dX5_store_126
            · have hv := hv.trans (if_pos c84)
              refine lv_aload_n hx hb dX5_store_87 rfl (lv_at hl 1 rfl) ?_
              refine lv_bipush (v := -4) hx hb dX5_store_88 (by decide) ?_
              refine sw_cin hv hB (sm_runV (rest := []) hC (c_X5_failed l g ad hW.2.1 _ σ ((-4))) k_X5_failed w_303 (by decide) (sm_pv hW hB (by decide) (eX_0 g ad _) rfl) rfl hl.1 rfl (Nat.le_of_ble_eq_true rfl) dX5_store_90) (fun u90_5 eu90_5 hv H locs hB => ?_)
              exact sw_ri hx hb hr hlocks hB hv dX5_store_93
          · have hv := hv.trans (if_neg c60)
            refine lv_aload_n hx hb dX5_store_63 rfl (lv_at hl 1 rfl) ?_
            refine lv_bipush (v := -6) hx hb dX5_store_64 (by decide) ?_
            refine sw_cin hv hB (sm_runV (rest := []) hC (c_X5_failed l g ad hW.2.1 _ σ ((-6))) k_X5_failed w_303 (by decide) (sm_pv hW hB (by decide) (eX_0 g ad _) rfl) rfl hl.1 rfl (Nat.le_of_ble_eq_true rfl) dX5_store_66) (fun u66_6 eu66_6 hv H locs hB => ?_)
            exact sw_ri hx hb hr hlocks hB hv dX5_store_69
      · have hv := hv.trans (if_pos c24)
        refine lv_iconst (v := -1) hx hb dX5_store_27 (by decide) ?_
        exact sw_ri hx hb hr hlocks hB hv dX5_store_28
def f_X5_length (σ : sm_S) (x1 : Int32) (x2 : Int32) : Int32 × sm_S := if (f_X5_isBelow (Int32.toInt64 x1) 8) = 0 then (((-1), σ)) else (if (f_X5_isBelow (Int32.toInt64 x2) 4) = 0 then (((-1), σ)) else (sm_oc (σ.2.2 (Int32.toNatClampNeg x2)) (sm_let (f_X5_failed σ ((-3))) (fun u35_2 => (u35_2.1, u35_2.2))) (fun i26_1 => sm_let (f_X5_put σ x1 0 (Int32.toInt64 (σ.1 (10 + 3 * i26_1) 1)) 64) (fun u49_3 => (0, u49_3)))))
set_option maxRecDepth 100000 in
set_option maxHeartbeats 4000000 in
theorem c_X5_length (l : Launch) (g : sm_G) (ad : Nat → Nat) (hj : sm_inj 22 ad) (sz : Nat) (σ : sm_S) (x1 : Int32) (x2 : Int32)  (hI : invX σ) : Met l yX5_length (sm_ws yX5_length cX5_length 4 (some .int)) (rmd 1) (va_Pc [.ref (ad 0), .int x1, .int x2] (sm_Pre g 22 ad (eX g ad) σ sz)) (sm_Qi g 22 ad (eX g ad) sz (f_X5_length σ x1 x2)) 0 0 (sm_AX 22 ad sz) := by
  generalize hv : f_X5_length σ x1 x2 = F
  replace hv := hv.symm
  refine sm_mWi (by decide) (Nat.le_of_ble_eq_true rfl) hj (eX_lay g ad) (fun p e s m args below meth c C hW hB ls hl => ?_)
  obtain ⟨hC, hr, hlocks⟩ := C
  have hx := hC.1
  have hb := hC.2.1
  have hts := hC.2.2.2.2
  have hown : s.vm.findClass RX5 = some m.cls := hC.2.2.2.1
  have hl : lv_has ls 4 [(0, .ref (ad 0)), (1, .int x1), (2, .int x2)] := hl
  refine lv_iload_n hx hb dX5_length_0 rfl (lv_at hl 1 rfl) ?_
  refine lv_i2l hx hb dX5_length_1 rfl ?_
  refine lv_bipush (v := 8) hx hb dX5_length_2 (by decide) ?_
  refine sm_ci (sm_runS (rest := []) hC (c_X5_isBelow l g (Int32.toInt64 x1) 8) k_X5_isBelow w_142 (by decide) (sm_ps hW.1 hB.2) rfl hl.1 rfl (Nat.le_of_ble_eq_true rfl) dX5_length_4) ?_
  refine lv_if_eq (tgt := 19) hx hb dX5_length_7 (by decide) (fun c7 => ?_) (fun c7 => ?_)
  · have hv := hv.trans (if_pos c7)
    refine lv_iconst (v := -1) hx hb dX5_length_19 (by decide) ?_
    exact sw_ri hx hb hr hlocks hB hv dX5_length_20
  · have hv := hv.trans (if_neg c7)
    refine lv_iload_n hx hb dX5_length_10 rfl (lv_at hl 2 rfl) ?_
    refine lv_i2l hx hb dX5_length_11 rfl ?_
    refine lv_iconst (v := 4) hx hb dX5_length_12 (by decide) ?_
    refine sm_ci (sm_runS (rest := []) hC (c_X5_isBelow l g (Int32.toInt64 x2) 4) k_X5_isBelow w_142 (by decide) (sm_ps hW.1 hB.2) rfl hl.1 rfl (Nat.le_of_ble_eq_true rfl) dX5_length_13) ?_
    refine lv_if_ne (tgt := 21) hx hb dX5_length_16 (by decide) (fun c16 => ?_) (fun c16 => ?_)
    · have hv := hv.trans (if_neg c16)
      refine lv_aload_n hx hb dX5_length_21 rfl (lv_at hl 0 rfl) ?_
      refine fg_RX5_22 hx hb hts hown hW hB dX5_length_22 ?_
      refine lv_iload_n hx hb dX5_length_25 rfl (lv_at hl 2 rfl) ?_
      refine xr_ld hx hb hW hB (bel_in c16 (by decide)) dX5_length_26 (fun hq => ?_) (fun i26_1 hqi26_1 => ?_)
      · have hv := hv.trans (sm_oc_n hq)
        refine lv_astore_nN (lv' := [(3, .null), (0, .ref (ad 0)), (1, .int x1), (2, .int x2)]) hx hb dX5_length_27 rfl hl (by decide) rfl (fun ls hl => ?_)
        refine lv_aload_nN hx hb dX5_length_28 rfl (lv_at hl 0 rfl) ?_
        refine lv_ifnonnullN hx hb dX5_length_29 ?_
        refine lv_aload_n hx hb dX5_length_32 rfl (lv_at hl 1 rfl) ?_
        refine lv_bipush (v := -3) hx hb dX5_length_33 (by decide) ?_
        refine sw_cin hv hB (sm_runV (rest := []) hC (c_X5_failed l g ad hW.2.1 _ σ ((-3))) k_X5_failed w_303 (by decide) (sm_pv hW hB (by decide) (eX_0 g ad _) rfl) rfl hl.1 rfl (Nat.le_of_ble_eq_true rfl) dX5_length_35) (fun u35_2 eu35_2 hv H locs hB => ?_)
        exact sw_ri hx hb hr hlocks hB hv dX5_length_38
      · have hv := hv.trans (sm_oc_s hqi26_1)
        have hi26_1 : i26_1 < 4 := hI.1 _ _ hqi26_1
        refine lv_astore_n (lv' := [(3, .ref (ad (10 + 3 * i26_1))), (0, .ref (ad 0)), (1, .int x1), (2, .int x2)]) hx hb dX5_length_27 rfl hl (by decide) rfl (fun ls hl => ?_)
        refine lv_aload_n hx hb dX5_length_28 rfl (lv_at hl 0 rfl) ?_
        refine lv_ifnonnull (tgt := 39) hx hb dX5_length_29 (by decide) ?_
        refine lv_aload_n hx hb dX5_length_39 rfl (lv_at hl 1 rfl) ?_
        refine lv_iload_n hx hb dX5_length_40 rfl (lv_at hl 2 rfl) ?_
        refine lv_iconst (v := 0) hx hb dX5_length_41 (by decide) ?_
        refine lv_aload_n hx hb dX5_length_42 rfl (lv_at hl 0 rfl) ?_
        refine fg_RX5_121 hx hb hts hown hW hB hi26_1 dX5_length_43 ?_
        refine lv_i2l hx hb dX5_length_46 rfl ?_
        refine lv_bipush (v := 64) hx hb dX5_length_47 (by decide) ?_
        refine sw_cvn hv hB (sm_runV (rest := []) hC (c_X5_put l g ad hW.2.1 _ σ x1 0 (Int32.toInt64 (σ.1 (10 + 3 * i26_1) 1)) 64 (bel_in c7 (by decide))) k_X5_put w_166 (by decide) (sm_pv hW hB (by decide) (eX_0 g ad _) rfl) rfl hl.1 rfl (Nat.le_of_ble_eq_true rfl) dX5_length_49) (fun u49_3 eu49_3 hv H locs hB => ?_)
        refine lv_iconst (v := 0) hx hb dX5_length_52 (by decide) ?_
        exact sw_ri hx hb hr hlocks hB hv dX5_length_53
    · have hv := hv.trans (if_pos c16)
      refine lv_iconst (v := -1) hx hb dX5_length_19 (by decide) ?_
      exact sw_ri hx hb hr hlocks hB hv dX5_length_20
def f_X5_copy_46 (σ : sm_S) : Int32 × sm_S := sm_let (f_X5_failed σ ((-3))) (fun u49_3 => (u49_3.1, u49_3.2))
def f_X5_copy_46a (σ : sm_S) : Int32 × sm_S := sm_let (f_X5_failed σ ((-3))) (fun u49_4 => (u49_4.1, u49_4.2))
def f_X5_copy_46b (σ : sm_S) : Int32 × sm_S := sm_let (f_X5_failed σ ((-3))) (fun u49_6 => (u49_6.1, u49_6.2))
def f_X5_copy_46c (σ : sm_S) : Int32 × sm_S := sm_let (f_X5_failed σ ((-3))) (fun u49_7 => (u49_7.1, u49_7.2))
def f_X5_copy_96 (σ : sm_S) : Int32 × sm_S := sm_let (f_X5_failed σ ((-4))) (fun u99_8 => (u99_8.1, u99_8.2))
def f_X5_copy (σ : sm_S) (x1 : Int32) (x2 : Int32) (x3 : Int32) (x4 : Int32) (x5 : Int32) : Int32 × sm_S := if (f_X5_isBelow (Int32.toInt64 x1) 4) = 0 then (((-1), σ)) else (if (f_X5_isBelow (Int32.toInt64 x3) 4) = 0 then (((-1), σ)) else (sm_oc (σ.2.2 (Int32.toNatClampNeg x1)) (sm_oc (σ.2.2 (Int32.toNatClampNeg x3)) (f_X5_copy_46 σ) (fun i33_2 => f_X5_copy_46a σ)) (fun i25_1 => sm_oc (σ.2.2 (Int32.toNatClampNeg x3)) (f_X5_copy_46b σ) (fun i33_5 => if (σ.1 (10 + 3 * i25_1) 0) = (σ.1 (10 + 3 * i33_5) 0) then (if (f_X0_hasRun i25_1 σ x2 x5) = 0 then (f_X5_copy_96 σ) else (if (f_X0_hasRun i33_5 σ x4 x5) = 0 then (f_X5_copy_96 σ) else ((0, uCI (uCL σ (11 + 3 * i25_1) (11 + 3 * i33_5) (Int32.toNatClampNeg x2) (Int32.toNatClampNeg x4) (Int32.toNatClampNeg x5)) (12 + 3 * i25_1) (12 + 3 * i33_5) (Int32.toNatClampNeg x2) (Int32.toNatClampNeg x4) (Int32.toNatClampNeg x5))))) else (sm_let (f_X5_failed σ ((-6))) (fun u69_9 => (u69_9.1, u69_9.2)))))))
set_option maxRecDepth 100000 in
set_option maxHeartbeats 4000000 in
theorem c_X5_copy (l : Launch) (g : sm_G) (ad : Nat → Nat) (hj : sm_inj 22 ad) (sz : Nat) (σ : sm_S) (x1 : Int32) (x2 : Int32) (x3 : Int32) (x4 : Int32) (x5 : Int32)  (hI : invX σ) : Met l yX5_copy (sm_ws yX5_copy cX5_copy 8 (some .int)) (rmd 1) (va_Pc [.ref (ad 0), .int x1, .int x2, .int x3, .int x4, .int x5] (sm_Pre g 22 ad (eX g ad) σ sz)) (sm_Qi g 22 ad (eX g ad) sz (f_X5_copy σ x1 x2 x3 x4 x5)) 0 0 (sm_AX 22 ad sz) := by
  generalize hv : f_X5_copy σ x1 x2 x3 x4 x5 = F
  replace hv := hv.symm
  refine sm_mWi (by decide) (Nat.le_of_ble_eq_true rfl) hj (eX_lay g ad) (fun p e s m args below meth c C hW hB ls hl => ?_)
  obtain ⟨hC, hr, hlocks⟩ := C
  have hx := hC.1
  have hb := hC.2.1
  have hts := hC.2.2.2.2
  have hown : s.vm.findClass RX5 = some m.cls := hC.2.2.2.1
  have hl : lv_has ls 8 [(0, .ref (ad 0)), (1, .int x1), (2, .int x2), (3, .int x3), (4, .int x4), (5, .int x5)] := hl
  refine lv_iload_n hx hb dX5_copy_0 rfl (lv_at hl 1 rfl) ?_
  refine lv_i2l hx hb dX5_copy_1 rfl ?_
  refine lv_iconst (v := 4) hx hb dX5_copy_2 (by decide) ?_
  refine sm_ci (sm_runS (rest := []) hC (c_X5_isBelow l g (Int32.toInt64 x1) 4) k_X5_isBelow w_142 (by decide) (sm_ps hW.1 hB.2) rfl hl.1 rfl (Nat.le_of_ble_eq_true rfl) dX5_copy_3) ?_
  refine lv_if_eq (tgt := 18) hx hb dX5_copy_6 (by decide) (fun c6 => ?_) (fun c6 => ?_)
  · have hv := hv.trans (if_pos c6)
    refine lv_iconst (v := -1) hx hb dX5_copy_18 (by decide) ?_
    exact sw_ri hx hb hr hlocks hB hv dX5_copy_19
  · have hv := hv.trans (if_neg c6)
    refine lv_iload_n hx hb dX5_copy_9 rfl (lv_at hl 3 rfl) ?_
    refine lv_i2l hx hb dX5_copy_10 rfl ?_
    refine lv_iconst (v := 4) hx hb dX5_copy_11 (by decide) ?_
    refine sm_ci (sm_runS (rest := []) hC (c_X5_isBelow l g (Int32.toInt64 x3) 4) k_X5_isBelow w_142 (by decide) (sm_ps hW.1 hB.2) rfl hl.1 rfl (Nat.le_of_ble_eq_true rfl) dX5_copy_12) ?_
    refine lv_if_ne (tgt := 20) hx hb dX5_copy_15 (by decide) (fun c15 => ?_) (fun c15 => ?_)
    · have hv := hv.trans (if_neg c15)
      refine lv_aload_n hx hb dX5_copy_20 rfl (lv_at hl 0 rfl) ?_
      refine fg_RX5_22 hx hb hts hown hW hB dX5_copy_21 ?_
      refine lv_iload_n hx hb dX5_copy_24 rfl (lv_at hl 1 rfl) ?_
      refine xr_ld hx hb hW hB (bel_in c6 (by decide)) dX5_copy_25 (fun hq => ?_) (fun i25_1 hqi25_1 => ?_)
      · have hv := hv.trans (sm_oc_n hq)
        refine lv_astoreN (lv' := [(6, .null), (0, .ref (ad 0)), (1, .int x1), (2, .int x2), (3, .int x3), (4, .int x4), (5, .int x5)]) hx hb dX5_copy_26 hl (by decide) rfl (fun ls hl => ?_)
        refine lv_aload_n hx hb dX5_copy_28 rfl (lv_at hl 1 rfl) ?_
        refine fg_RX5_22 hx hb hts hown hW hB dX5_copy_29 ?_
        refine lv_iload_n hx hb dX5_copy_32 rfl (lv_at hl 4 rfl) ?_
        refine xr_ld hx hb hW hB (bel_in c15 (by decide)) dX5_copy_33 (fun hq => ?_) (fun i33_2 hqi33_2 => ?_)
        · have hv := hv.trans (sm_oc_n hq)
          refine lv_astoreN (lv' := [(7, .null), (6, .null), (0, .ref (ad 0)), (1, .int x1), (2, .int x2), (3, .int x3), (4, .int x4), (5, .int x5)]) hx hb dX5_copy_34 hl (by decide) rfl (fun ls hl => ?_)
          refine lv_aloadN hx hb dX5_copy_36 (lv_at hl 1 rfl) ?_
          have k_46 : ∀  (σ : sm_S) (ls : Array Slot) (H : Heap) (locs : List Loc), lv_has ls 8 [(0, .ref (ad 0))] → sm_B g 22 ad (eX g ad) s H locs σ → F = f_X5_copy_46 σ → W p l e (rmd 1) s m args below meth c H locs 0 0 (MQ below (sm_Qi g 22 ad (eX g ad) s.heap.size F) args s 0 0 (sm_AX 22 ad s.heap.size)) (F0 m 46 ls []) := by
            intro σ ls H locs hl hB hv
            refine lv_aload_n hx hb dX5_copy_46 rfl (lv_at hl 0 rfl) ?_
            refine lv_bipush (v := -3) hx hb dX5_copy_47 (by decide) ?_
            refine sw_cin hv hB (sm_runV (rest := []) hC (c_X5_failed l g ad hW.2.1 _ σ ((-3))) k_X5_failed w_303 (by decide) (sm_pv hW hB (by decide) (eX_0 g ad _) rfl) rfl hl.1 rfl (Nat.le_of_ble_eq_true rfl) dX5_copy_49) (fun u49_3 eu49_3 hv H locs hB => ?_)
            exact sw_ri hx hb hr hlocks hB hv dX5_copy_52
          refine lv_ifnullN (tgt := 46) hx hb dX5_copy_38 (by decide) ?_
          exact k_46 σ _ _ _ (lv_sub hl [2] rfl) hB hv
        · have hv := hv.trans (sm_oc_s hqi33_2)
          have hi33_2 : i33_2 < 4 := hI.1 _ _ hqi33_2
          refine lv_astore (lv' := [(7, .ref (ad (10 + 3 * i33_2))), (6, .null), (0, .ref (ad 0)), (1, .int x1), (2, .int x2), (3, .int x3), (4, .int x4), (5, .int x5)]) hx hb dX5_copy_34 hl (by decide) rfl (fun ls hl => ?_)
          refine lv_aloadN hx hb dX5_copy_36 (lv_at hl 1 rfl) ?_
          have k_46 : ∀  (σ : sm_S) (ls : Array Slot) (H : Heap) (locs : List Loc), lv_has ls 8 [(0, .ref (ad 0))] → sm_B g 22 ad (eX g ad) s H locs σ → F = f_X5_copy_46a σ → W p l e (rmd 1) s m args below meth c H locs 0 0 (MQ below (sm_Qi g 22 ad (eX g ad) s.heap.size F) args s 0 0 (sm_AX 22 ad s.heap.size)) (F0 m 46 ls []) := by
            intro σ ls H locs hl hB hv
            refine lv_aload_n hx hb dX5_copy_46 rfl (lv_at hl 0 rfl) ?_
            refine lv_bipush (v := -3) hx hb dX5_copy_47 (by decide) ?_
            refine sw_cin hv hB (sm_runV (rest := []) hC (c_X5_failed l g ad hW.2.1 _ σ ((-3))) k_X5_failed w_303 (by decide) (sm_pv hW hB (by decide) (eX_0 g ad _) rfl) rfl hl.1 rfl (Nat.le_of_ble_eq_true rfl) dX5_copy_49) (fun u49_4 eu49_4 hv H locs hB => ?_)
            exact sw_ri hx hb hr hlocks hB hv dX5_copy_52
          refine lv_ifnullN (tgt := 46) hx hb dX5_copy_38 (by decide) ?_
          exact k_46 σ _ _ _ (lv_sub hl [2] rfl) hB hv
      · have hv := hv.trans (sm_oc_s hqi25_1)
        have hi25_1 : i25_1 < 4 := hI.1 _ _ hqi25_1
        refine lv_astore (lv' := [(6, .ref (ad (10 + 3 * i25_1))), (0, .ref (ad 0)), (1, .int x1), (2, .int x2), (3, .int x3), (4, .int x4), (5, .int x5)]) hx hb dX5_copy_26 hl (by decide) rfl (fun ls hl => ?_)
        refine lv_aload_n hx hb dX5_copy_28 rfl (lv_at hl 1 rfl) ?_
        refine fg_RX5_22 hx hb hts hown hW hB dX5_copy_29 ?_
        refine lv_iload_n hx hb dX5_copy_32 rfl (lv_at hl 4 rfl) ?_
        refine xr_ld hx hb hW hB (bel_in c15 (by decide)) dX5_copy_33 (fun hq => ?_) (fun i33_5 hqi33_5 => ?_)
        · have hv := hv.trans (sm_oc_n hq)
          refine lv_astoreN (lv' := [(7, .null), (6, .ref (ad (10 + 3 * i25_1))), (0, .ref (ad 0)), (1, .int x1), (2, .int x2), (3, .int x3), (4, .int x4), (5, .int x5)]) hx hb dX5_copy_34 hl (by decide) rfl (fun ls hl => ?_)
          refine lv_aload hx hb dX5_copy_36 (lv_at hl 1 rfl) ?_
          have k_46 : ∀  (σ : sm_S) (ls : Array Slot) (H : Heap) (locs : List Loc), lv_has ls 8 [(0, .ref (ad 0))] → sm_B g 22 ad (eX g ad) s H locs σ → F = f_X5_copy_46b σ → W p l e (rmd 1) s m args below meth c H locs 0 0 (MQ below (sm_Qi g 22 ad (eX g ad) s.heap.size F) args s 0 0 (sm_AX 22 ad s.heap.size)) (F0 m 46 ls []) := by
            intro σ ls H locs hl hB hv
            refine lv_aload_n hx hb dX5_copy_46 rfl (lv_at hl 0 rfl) ?_
            refine lv_bipush (v := -3) hx hb dX5_copy_47 (by decide) ?_
            refine sw_cin hv hB (sm_runV (rest := []) hC (c_X5_failed l g ad hW.2.1 _ σ ((-3))) k_X5_failed w_303 (by decide) (sm_pv hW hB (by decide) (eX_0 g ad _) rfl) rfl hl.1 rfl (Nat.le_of_ble_eq_true rfl) dX5_copy_49) (fun u49_6 eu49_6 hv H locs hB => ?_)
            exact sw_ri hx hb hr hlocks hB hv dX5_copy_52
          refine lv_ifnull hx hb dX5_copy_38 ?_
          refine lv_aloadN hx hb dX5_copy_41 (lv_at hl 0 rfl) ?_
          refine lv_ifnonnullN hx hb dX5_copy_43 ?_
          exact k_46 σ _ _ _ (lv_sub hl [2] rfl) hB hv
        · have hv := hv.trans (sm_oc_s hqi33_5)
          have hi33_5 : i33_5 < 4 := hI.1 _ _ hqi33_5
          refine lv_astore (lv' := [(7, .ref (ad (10 + 3 * i33_5))), (6, .ref (ad (10 + 3 * i25_1))), (0, .ref (ad 0)), (1, .int x1), (2, .int x2), (3, .int x3), (4, .int x4), (5, .int x5)]) hx hb dX5_copy_34 hl (by decide) rfl (fun ls hl => ?_)
          refine lv_aload hx hb dX5_copy_36 (lv_at hl 1 rfl) ?_
          have k_46 : ∀  (σ : sm_S) (ls : Array Slot) (H : Heap) (locs : List Loc), lv_has ls 8 [(0, .ref (ad 0))] → sm_B g 22 ad (eX g ad) s H locs σ → F = f_X5_copy_46c σ → W p l e (rmd 1) s m args below meth c H locs 0 0 (MQ below (sm_Qi g 22 ad (eX g ad) s.heap.size F) args s 0 0 (sm_AX 22 ad s.heap.size)) (F0 m 46 ls []) := by
            intro σ ls H locs hl hB hv
            refine lv_aload_n hx hb dX5_copy_46 rfl (lv_at hl 0 rfl) ?_
            refine lv_bipush (v := -3) hx hb dX5_copy_47 (by decide) ?_
            refine sw_cin hv hB (sm_runV (rest := []) hC (c_X5_failed l g ad hW.2.1 _ σ ((-3))) k_X5_failed w_303 (by decide) (sm_pv hW hB (by decide) (eX_0 g ad _) rfl) rfl hl.1 rfl (Nat.le_of_ble_eq_true rfl) dX5_copy_49) (fun u49_7 eu49_7 hv H locs hB => ?_)
            exact sw_ri hx hb hr hlocks hB hv dX5_copy_52
          refine lv_ifnull hx hb dX5_copy_38 ?_
          refine lv_aload hx hb dX5_copy_41 (lv_at hl 0 rfl) ?_
          refine lv_ifnonnull (tgt := 53) hx hb dX5_copy_43 (by decide) ?_
          refine lv_aload hx hb dX5_copy_53 (lv_at hl 1 rfl) ?_
          refine fg_RX5_135 hx hb hts hown hW hB hi25_1 dX5_copy_55 ?_
          refine lv_aload hx hb dX5_copy_58 (lv_at hl 0 rfl) ?_
          refine fg_RX5_135 hx hb hts hown hW hB hi33_5 dX5_copy_60 ?_
          refine lv_icmp_eq (tgt := 73) hx hb dX5_copy_63 (by decide) (fun c63 => ?_) (fun c63 => ?_)
          · have hv := hv.trans (if_pos c63)
            refine lv_aload hx hb dX5_copy_73 (lv_at hl 1 rfl) ?_
            refine lv_iload_n hx hb dX5_copy_75 rfl (lv_at hl 4 rfl) ?_
            refine lv_iload hx hb dX5_copy_76 (lv_at hl 7 rfl) ?_
            refine sm_ci (sm_runV (rest := []) hC (c_X0_hasRun l g ad hW.2.1 _ i25_1 σ x2 x5 hi25_1) k_X0_hasRun w_470 (by decide) (sm_pv hW hB (c0_lt hi25_1) (eX_c0 hi25_1 g ad _) rfl) rfl hl.1 rfl (Nat.le_of_ble_eq_true rfl) dX5_copy_78) ?_
            have k_96 : ∀  (σ : sm_S) (ls : Array Slot) (H : Heap) (locs : List Loc), lv_has ls 8 [(0, .ref (ad 0))] → sm_B g 22 ad (eX g ad) s H locs σ → F = f_X5_copy_96 σ → W p l e (rmd 1) s m args below meth c H locs 0 0 (MQ below (sm_Qi g 22 ad (eX g ad) s.heap.size F) args s 0 0 (sm_AX 22 ad s.heap.size)) (F0 m 96 ls []) := by
              intro σ ls H locs hl hB hv
              refine lv_aload_n hx hb dX5_copy_96 rfl (lv_at hl 0 rfl) ?_
              refine lv_bipush (v := -4) hx hb dX5_copy_97 (by decide) ?_
              refine sw_cin hv hB (sm_runV (rest := []) hC (c_X5_failed l g ad hW.2.1 _ σ ((-4))) k_X5_failed w_303 (by decide) (sm_pv hW hB (by decide) (eX_0 g ad _) rfl) rfl hl.1 rfl (Nat.le_of_ble_eq_true rfl) dX5_copy_99) (fun u99_8 eu99_8 hv H locs hB => ?_)
              exact sw_ri hx hb hr hlocks hB hv dX5_copy_102
            refine lv_if_eq (tgt := 96) hx hb dX5_copy_81 (by decide) (fun c81 => ?_) (fun c81 => ?_)
            · have hv := hv.trans (if_pos c81)
              exact k_96 σ _ _ _ (lv_sub hl [2] rfl) hB hv
            · have hv := hv.trans (if_neg c81)
              refine lv_aload hx hb dX5_copy_84 (lv_at hl 0 rfl) ?_
              refine lv_iload hx hb dX5_copy_86 (lv_at hl 6 rfl) ?_
              refine lv_iload hx hb dX5_copy_88 (lv_at hl 7 rfl) ?_
              refine sm_ci (sm_runV (rest := []) hC (c_X0_hasRun l g ad hW.2.1 _ i33_5 σ x4 x5 hi33_5) k_X0_hasRun w_470 (by decide) (sm_pv hW hB (c0_lt hi33_5) (eX_c0 hi33_5 g ad _) rfl) rfl hl.1 rfl (Nat.le_of_ble_eq_true rfl) dX5_copy_90) ?_
              refine lv_if_ne (tgt := 103) hx hb dX5_copy_93 (by decide) (fun c93 => ?_) (fun c93 => ?_)
              · have hv := hv.trans (if_neg c93)
                refine lv_aload hx hb dX5_copy_103 (lv_at hl 1 rfl) ?_
                refine fg_RX5_129 hx hb hts hown hW hB hi25_1 dX5_copy_105 ?_
                refine lv_iload_n hx hb dX5_copy_108 rfl (lv_at hl 4 rfl) ?_
                refine lv_aload hx hb dX5_copy_109 (lv_at hl 0 rfl) ?_
                refine fg_RX5_129 hx hb hts hown hW hB hi33_5 dX5_copy_111 ?_
                refine lv_iload hx hb dX5_copy_114 (lv_at hl 6 rfl) ?_
                refine lv_iload hx hb dX5_copy_116 (lv_at hl 7 rfl) ?_
                refine xc_l hC hl.1 hW hB hi25_1 hi33_5 (hasRun_ok c81 (hI.2 _ hi25_1).2) (hasRun_ok c93 (hI.2 _ hi33_5).2) (Nat.le_of_ble_eq_true rfl) (Nat.le_of_ble_eq_true rfl) dX5_copy_118 (fun H locs hB => ?_)
                refine lv_aload hx hb dX5_copy_121 (lv_at hl 1 rfl) ?_
                refine fg_RX5_130 hx hb hts hown hW hB hi25_1 dX5_copy_123 ?_
                refine lv_iload_n hx hb dX5_copy_126 rfl (lv_at hl 4 rfl) ?_
                refine lv_aload hx hb dX5_copy_127 (lv_at hl 0 rfl) ?_
                refine fg_RX5_130 hx hb hts hown hW hB hi33_5 dX5_copy_129 ?_
                refine lv_iload hx hb dX5_copy_132 (lv_at hl 6 rfl) ?_
                refine lv_iload hx hb dX5_copy_134 (lv_at hl 7 rfl) ?_
                refine xc_i hC hl.1 hW hB hi25_1 hi33_5 (hasRun_ok c81 (hI.2 _ hi25_1).2) (hasRun_ok c93 (hI.2 _ hi33_5).2) (Nat.le_of_ble_eq_true rfl) (Nat.le_of_ble_eq_true rfl) dX5_copy_136 (fun H locs hB => ?_)
                refine lv_iconst (v := 0) hx hb dX5_copy_139 (by decide) ?_
                exact sw_ri hx hb hr hlocks hB hv dX5_copy_140
              · have hv := hv.trans (if_pos c93)
                exact k_96 σ _ _ _ (lv_sub hl [2] rfl) hB hv
          · have hv := hv.trans (if_neg c63)
            refine lv_aload_n hx hb dX5_copy_66 rfl (lv_at hl 2 rfl) ?_
            refine lv_bipush (v := -6) hx hb dX5_copy_67 (by decide) ?_
            refine sw_cin hv hB (sm_runV (rest := []) hC (c_X5_failed l g ad hW.2.1 _ σ ((-6))) k_X5_failed w_303 (by decide) (sm_pv hW hB (by decide) (eX_0 g ad _) rfl) rfl hl.1 rfl (Nat.le_of_ble_eq_true rfl) dX5_copy_69) (fun u69_9 eu69_9 hv H locs hB => ?_)
            exact sw_ri hx hb hr hlocks hB hv dX5_copy_72
    · have hv := hv.trans (if_pos c15)
      refine lv_iconst (v := -1) hx hb dX5_copy_18 (by decide) ?_
      exact sw_ri hx hb hr hlocks hB hv dX5_copy_19
def f_X5_branch_103 (t0_52 : Int32) (σ : sm_S) (t0_103 : Int32) (t1_103 : Int32) (t2_103 : Int32) : Int32 × sm_S := sm_let (f_X2_add 8 σ t2_103 t1_103 t0_103) (fun u103_2 => (t0_52, u103_2))
def f_X5_branch_52 (x2 : Int32) (x3 : Int32) (σ : sm_S) (t0_52 : Int32) : Int32 × sm_S := sm_let (f_X5_joined (σ.1 3 (Int32.toNatClampNeg x2)) (σ.1 3 (Int32.toNatClampNeg x3))) (fun y69_1 => if (y69_1 &&& 63) = 0 then ((t0_52, σ)) else (if (y69_1 &&& 64) = 0 then (f_X5_branch_103 t0_52 σ 0 (y69_1 &&& 63) t0_52) else (f_X5_branch_103 t0_52 σ 1 (y69_1 &&& 63) t0_52)))
def f_X5_branch (σ : sm_S) (x1 : Int32) (x2 : Int32) (x3 : Int32) : Int32 × sm_S := if (f_X5_isBelow (Int32.toInt64 x1) 6) = 0 then (((-1), σ)) else (if (f_X5_isInt σ x2) = 0 then (((-1), σ)) else (if (f_X5_isInt σ x3) = 0 then (((-1), σ)) else (if (f_X5_isSo x1 (σ.2.1 2 (Int32.toNatClampNeg x2)) (σ.2.1 2 (Int32.toNatClampNeg x3))) = 0 then (f_X5_branch_52 x2 x3 σ 0) else (f_X5_branch_52 x2 x3 σ 1))))
set_option maxRecDepth 100000 in
set_option maxHeartbeats 4000000 in
theorem c_X5_branch (l : Launch) (g : sm_G) (ad : Nat → Nat) (hj : sm_inj 22 ad) (sz : Nat) (σ : sm_S) (x1 : Int32) (x2 : Int32) (x3 : Int32)   : Met l yX5_branch (sm_ws yX5_branch cX5_branch 6 (some .int)) (rmd 2) (va_Pc [.ref (ad 0), .int x1, .int x2, .int x3] (sm_Pre g 22 ad (eX g ad) σ sz)) (sm_Qi g 22 ad (eX g ad) sz (f_X5_branch σ x1 x2 x3)) 0 0 (sm_AX 22 ad sz) := by
  generalize hv : f_X5_branch σ x1 x2 x3 = F
  replace hv := hv.symm
  refine sm_mWi (by decide) (Nat.le_of_ble_eq_true rfl) hj (eX_lay g ad) (fun p e s m args below meth c C hW hB ls hl => ?_)
  obtain ⟨hC, hr, hlocks⟩ := C
  have hx := hC.1
  have hb := hC.2.1
  have hts := hC.2.2.2.2
  have hown : s.vm.findClass RX5 = some m.cls := hC.2.2.2.1
  have hl : lv_has ls 6 [(0, .ref (ad 0)), (1, .int x1), (2, .int x2), (3, .int x3)] := hl
  refine lv_iload_n hx hb dX5_branch_0 rfl (lv_at hl 1 rfl) ?_
  refine lv_i2l hx hb dX5_branch_1 rfl ?_
  refine lv_bipush (v := 6) hx hb dX5_branch_2 (by decide) ?_
  refine sm_ci (sm_runS (rest := []) hC (c_X5_isBelow l g (Int32.toInt64 x1) 6) k_X5_isBelow w_142 (by decide) (sm_ps hW.1 hB.2) rfl hl.1 rfl (Nat.le_of_ble_eq_true rfl) dX5_branch_4) ?_
  refine lv_if_eq (tgt := 26) hx hb dX5_branch_7 (by decide) (fun c7 => ?_) (fun c7 => ?_)
  · have hv := hv.trans (if_pos c7)
    refine lv_iconst (v := -1) hx hb dX5_branch_26 (by decide) ?_
    exact sw_ri hx hb hr hlocks hB hv dX5_branch_27
  · have hv := hv.trans (if_neg c7)
    refine lv_aload_n hx hb dX5_branch_10 rfl (lv_at hl 0 rfl) ?_
    refine lv_iload_n hx hb dX5_branch_11 rfl (lv_at hl 2 rfl) ?_
    refine sm_ci (sm_runV (rest := []) hC (c_X5_isInt l g ad hW.2.1 _ σ x2) k_X5_isInt w_416 (by decide) (sm_pv hW hB (by decide) (eX_0 g ad _) rfl) rfl hl.1 rfl (Nat.le_of_ble_eq_true rfl) dX5_branch_12) ?_
    refine lv_if_eq (tgt := 26) hx hb dX5_branch_15 (by decide) (fun c15 => ?_) (fun c15 => ?_)
    · have hv := hv.trans (if_pos c15)
      refine lv_iconst (v := -1) hx hb dX5_branch_26 (by decide) ?_
      exact sw_ri hx hb hr hlocks hB hv dX5_branch_27
    · have hv := hv.trans (if_neg c15)
      refine lv_aload_n hx hb dX5_branch_18 rfl (lv_at hl 0 rfl) ?_
      refine lv_iload_n hx hb dX5_branch_19 rfl (lv_at hl 3 rfl) ?_
      refine sm_ci (sm_runV (rest := []) hC (c_X5_isInt l g ad hW.2.1 _ σ x3) k_X5_isInt w_416 (by decide) (sm_pv hW hB (by decide) (eX_0 g ad _) rfl) rfl hl.1 rfl (Nat.le_of_ble_eq_true rfl) dX5_branch_20) ?_
      refine lv_if_ne (tgt := 28) hx hb dX5_branch_23 (by decide) (fun c23 => ?_) (fun c23 => ?_)
      · have hv := hv.trans (if_neg c23)
        refine lv_iload_n hx hb dX5_branch_28 rfl (lv_at hl 1 rfl) ?_
        refine lv_aload_n hx hb dX5_branch_29 rfl (lv_at hl 0 rfl) ?_
        refine fg_RX5_13 hx hb hts hown hW hB dX5_branch_30 ?_
        refine lv_iload_n hx hb dX5_branch_33 rfl (lv_at hl 2 rfl) ?_
        refine sw_la hx hb hW hB (2) (by decide) (eX_2 g ad) (isInt_in c15) dX5_branch_34 ?_
        refine lv_aload_n hx hb dX5_branch_35 rfl (lv_at hl 0 rfl) ?_
        refine fg_RX5_13 hx hb hts hown hW hB dX5_branch_36 ?_
        refine lv_iload_n hx hb dX5_branch_39 rfl (lv_at hl 3 rfl) ?_
        refine sw_la hx hb hW hB (2) (by decide) (eX_2 g ad) (isInt_in c23) dX5_branch_40 ?_
        refine sm_ci (sm_runS (rest := []) hC (c_X5_isSo l g x1 (σ.2.1 2 (Int32.toNatClampNeg x2)) (σ.2.1 2 (Int32.toNatClampNeg x3))) k_X5_isSo w_481 (by decide) (sm_ps hW.1 hB.2) rfl hl.1 rfl (Nat.le_of_ble_eq_true rfl) dX5_branch_41) ?_
        have k_52 : ∀ (t0_52 : Int32) (σ : sm_S) (ls : Array Slot) (H : Heap) (locs : List Loc), lv_has ls 6 [(0, .ref (ad 0)), (2, .int x2), (3, .int x3)] → sm_B g 22 ad (eX g ad) s H locs σ → F = f_X5_branch_52 x2 x3 σ t0_52 → W p l e (rmd 2) s m args below meth c H locs 0 0 (MQ below (sm_Qi g 22 ad (eX g ad) s.heap.size F) args s 0 0 (sm_AX 22 ad s.heap.size)) (F0 m 52 ls [.int t0_52]) := by
          intro t0_52 σ ls H locs hl hB hv
          refine lv_istore (lv' := [(4, .int t0_52), (0, .ref (ad 0)), (2, .int x2), (3, .int x3)]) hx hb dX5_branch_52 hl (by decide) rfl (fun ls hl => ?_)
          refine lv_aload_n hx hb dX5_branch_54 rfl (lv_at hl 1 rfl) ?_
          refine fg_RX5_17 hx hb hts hown hW hB dX5_branch_55 ?_
          refine lv_iload_n hx hb dX5_branch_58 rfl (lv_at hl 2 rfl) ?_
          refine sw_ia hx hb hW hB (3) (by decide) (eX_3 g ad) (isInt_in c15) dX5_branch_59 ?_
          refine lv_aload_n hx hb dX5_branch_60 rfl (lv_at hl 1 rfl) ?_
          refine fg_RX5_17 hx hb hts hown hW hB dX5_branch_61 ?_
          refine lv_iload_n hx hb dX5_branch_64 rfl (lv_at hl 3 rfl) ?_
          refine sw_ia hx hb hW hB (3) (by decide) (eX_3 g ad) (isInt_in c23) dX5_branch_65 ?_
          refine sm_ci (sm_runS (rest := []) hC (c_X5_joined l g (σ.1 3 (Int32.toNatClampNeg x2)) (σ.1 3 (Int32.toNatClampNeg x3))) k_X5_joined w_401 (by decide) (sm_ps hW.1 hB.2) rfl hl.1 rfl (Nat.le_of_ble_eq_true rfl) dX5_branch_66) ?_
          refine sm_nmi hv (fun y69_1 ey69_1 hv => ?_)
          refine lv_istore (lv' := [(5, .int y69_1), (4, .int t0_52), (0, .ref (ad 0)), (2, .int x2), (3, .int x3)]) hx hb dX5_branch_69 hl (by decide) rfl (fun ls hl => ?_)
          refine lv_iload hx hb dX5_branch_71 (lv_at hl 0 rfl) ?_
          refine lv_bipush (v := 63) hx hb dX5_branch_73 (by decide) ?_
          refine lv_iand hx hb dX5_branch_75 ?_
          refine lv_if_eq (tgt := 106) hx hb dX5_branch_76 (by decide) (fun c76 => ?_) (fun c76 => ?_)
          · have hv := hv.trans (if_pos c76)
            refine lv_iload hx hb dX5_branch_106 (lv_at hl 1 rfl) ?_
            exact sw_ri hx hb hr hlocks hB hv dX5_branch_108
          · have hv := hv.trans (if_neg c76)
            refine lv_aload_n hx hb dX5_branch_79 rfl (lv_at hl 2 rfl) ?_
            refine fg_RX5_36 hx hb hts hown hW hB dX5_branch_80 ?_
            refine lv_iload hx hb dX5_branch_83 (lv_at hl 1 rfl) ?_
            refine lv_iload hx hb dX5_branch_85 (lv_at hl 0 rfl) ?_
            refine lv_bipush (v := 63) hx hb dX5_branch_87 (by decide) ?_
            refine lv_iand hx hb dX5_branch_89 ?_
            refine lv_iload hx hb dX5_branch_90 (lv_at hl 0 rfl) ?_
            refine lv_bipush (v := 64) hx hb dX5_branch_92 (by decide) ?_
            refine lv_iand hx hb dX5_branch_94 ?_
            have k_103 : ∀ (t0_103 : Int32) (t1_103 : Int32) (t2_103 : Int32) (σ : sm_S) (ls : Array Slot) (H : Heap) (locs : List Loc), lv_has ls 6 [(4, .int t0_52)] → sm_B g 22 ad (eX g ad) s H locs σ → F = f_X5_branch_103 t0_52 σ t0_103 t1_103 t2_103 → W p l e (rmd 2) s m args below meth c H locs 0 0 (MQ below (sm_Qi g 22 ad (eX g ad) s.heap.size F) args s 0 0 (sm_AX 22 ad s.heap.size)) (F0 m 103 ls [.int t0_103, .int t1_103, .int t2_103, .ref (ad 8)]) := by
              intro t0_103 t1_103 t2_103 σ ls H locs hl hB hv
              refine sw_cvn hv hB (sm_runV (rest := []) hC (c_X2_add l g ad hW.2.1 _ 8 σ t2_103 t1_103 t0_103 (Or.inr rfl)) k_X2_add w_394 (by decide) (sm_pv hW hB (nt_lt (Or.inr rfl)) (eX_nt (Or.inr rfl) g ad _) rfl) rfl hl.1 rfl (Nat.le_of_ble_eq_true rfl) dX5_branch_103) (fun u103_2 eu103_2 hv H locs hB => ?_)
              refine lv_iload hx hb dX5_branch_106 (lv_at hl 0 rfl) ?_
              exact sw_ri hx hb hr hlocks hB hv dX5_branch_108
            refine lv_if_eq (tgt := 102) hx hb dX5_branch_95 (by decide) (fun c95 => ?_) (fun c95 => ?_)
            · have hv := hv.trans (if_pos c95)
              refine lv_iconst (v := 0) hx hb dX5_branch_102 (by decide) ?_
              exact k_103 0 (y69_1 &&& 63) t0_52 σ _ _ _ (lv_sub hl [1] rfl) hB hv
            · have hv := hv.trans (if_neg c95)
              refine lv_iconst (v := 1) hx hb dX5_branch_98 (by decide) ?_
              refine lv_goto (tgt := 103) hx hb dX5_branch_99 (by decide) ?_
              exact k_103 1 (y69_1 &&& 63) t0_52 σ _ _ _ (lv_sub hl [1] rfl) hB hv
        refine lv_if_eq (tgt := 51) hx hb dX5_branch_44 (by decide) (fun c44 => ?_) (fun c44 => ?_)
        · have hv := hv.trans (if_pos c44)
          refine lv_iconst (v := 0) hx hb dX5_branch_51 (by decide) ?_
          exact k_52 0 σ _ _ _ (lv_sub hl [0, 2, 3] rfl) hB hv
        · have hv := hv.trans (if_neg c44)
          refine lv_iconst (v := 1) hx hb dX5_branch_47 (by decide) ?_
          refine lv_goto (tgt := 52) hx hb dX5_branch_48 (by decide) ?_
          exact k_52 1 σ _ _ _ (lv_sub hl [0, 2, 3] rfl) hB hv
      · have hv := hv.trans (if_pos c23)
        refine lv_iconst (v := -1) hx hb dX5_branch_26 (by decide) ?_
        exact sw_ri hx hb hr hlocks hB hv dX5_branch_27
def f_X5_kind (σ : sm_S) (x1 : Int32) : Int32 := if (f_X5_isBelow (Int32.toInt64 x1) 8) = 0 then ((-1)) else (σ.1 1 (Int32.toNatClampNeg x1))
set_option maxRecDepth 100000 in
set_option maxHeartbeats 4000000 in
theorem c_X5_kind (l : Launch) (g : sm_G) (ad : Nat → Nat) (hj : sm_inj 22 ad) (sz : Nat) (σ : sm_S) (x1 : Int32)   : Met l yX5_kind (sm_ws yX5_kind cX5_kind 2 (some .int)) (rmd 1) (va_Pc [.ref (ad 0), .int x1] (sm_Pre g 22 ad (eX g ad) σ sz)) (vp_Si (fun r => r = f_X5_kind σ x1)) 0 0 (fun _ => False) := by
  generalize hv : f_X5_kind σ x1 = F
  replace hv := hv.symm
  refine sm_mR (by decide) (Nat.le_of_ble_eq_true rfl) hj (eX_lay g ad) (fun p e s m args below meth c C hW hB ls hl => ?_)
  obtain ⟨hC, hr, hlocks⟩ := C
  have hx := hC.1
  have hb := hC.2.1
  have hts := hC.2.2.2.2
  have hown : s.vm.findClass RX5 = some m.cls := hC.2.2.2.1
  have hl : lv_has ls 2 [(0, .ref (ad 0)), (1, .int x1)] := hl
  refine lv_iload_n hx hb dX5_kind_0 rfl (lv_at hl 1 rfl) ?_
  refine lv_i2l hx hb dX5_kind_1 rfl ?_
  refine lv_bipush (v := 8) hx hb dX5_kind_2 (by decide) ?_
  refine sm_ci (sm_runS (rest := []) hC (c_X5_isBelow l g (Int32.toInt64 x1) 8) k_X5_isBelow w_142 (by decide) (sm_ps hW.1 hB.2) rfl hl.1 rfl (Nat.le_of_ble_eq_true rfl) dX5_kind_4) ?_
  refine lv_if_eq (tgt := 19) hx hb dX5_kind_7 (by decide) (fun c7 => ?_) (fun c7 => ?_)
  · have hv := hv.trans (if_pos c7)
    refine lv_iconst (v := -1) hx hb dX5_kind_19 (by decide) ?_
    exact sm_ri hx hb hr hlocks hv dX5_kind_20
  · have hv := hv.trans (if_neg c7)
    refine lv_aload_n hx hb dX5_kind_10 rfl (lv_at hl 0 rfl) ?_
    refine fg_RX5_9 hx hb hts hown hW hB dX5_kind_11 ?_
    refine lv_iload_n hx hb dX5_kind_14 rfl (lv_at hl 1 rfl) ?_
    refine sw_ia hx hb hW hB (1) (by decide) (eX_1 g ad) (bel_in c7 (by decide)) dX5_kind_15 ?_
    refine lv_goto (tgt := 20) hx hb dX5_kind_16 (by decide) ?_
    exact sm_ri hx hb hr hlocks hv dX5_kind_20
def f_X5_bits (σ : sm_S) (x1 : Int32) : Int64 := if (f_X5_isBelow (Int32.toInt64 x1) 8) = 0 then 1234567890123456789 else (σ.2.1 2 (Int32.toNatClampNeg x1))
set_option maxRecDepth 100000 in
set_option maxHeartbeats 4000000 in
theorem c_X5_bits (l : Launch) (g : sm_G) (ad : Nat → Nat) (hj : sm_inj 22 ad) (sz : Nat) (σ : sm_S) (x1 : Int32)   : Met l yX5_bits (sm_ws yX5_bits cX5_bits 2 (some .long)) (rmd 1) (va_Pc [.ref (ad 0), .int x1] (sm_Pre g 22 ad (eX g ad) σ sz)) (vp_Sl (fun r => r = f_X5_bits σ x1)) 0 0 (fun _ => False) := by
  generalize hv : f_X5_bits σ x1 = F
  replace hv := hv.symm
  refine sm_mR (by decide) (Nat.le_of_ble_eq_true rfl) hj (eX_lay g ad) (fun p e s m args below meth c C hW hB ls hl => ?_)
  obtain ⟨hC, hr, hlocks⟩ := C
  have hx := hC.1
  have hb := hC.2.1
  have hts := hC.2.2.2.2
  have hown : s.vm.findClass RX5 = some m.cls := hC.2.2.2.1
  have hl : lv_has ls 2 [(0, .ref (ad 0)), (1, .int x1)] := hl
  refine lv_iload_n hx hb dX5_bits_0 rfl (lv_at hl 1 rfl) ?_
  refine lv_i2l hx hb dX5_bits_1 rfl ?_
  refine lv_bipush (v := 8) hx hb dX5_bits_2 (by decide) ?_
  refine sm_ci (sm_runS (rest := []) hC (c_X5_isBelow l g (Int32.toInt64 x1) 8) k_X5_isBelow w_142 (by decide) (sm_ps hW.1 hB.2) rfl hl.1 rfl (Nat.le_of_ble_eq_true rfl) dX5_bits_4) ?_
  refine lv_if_eq (tgt := 19) hx hb dX5_bits_7 (by decide) (fun c7 => ?_) (fun c7 => ?_)
  · have hv := hv.trans (if_pos c7)
    refine lv_ldc2 hx hb hown (hts _ w_492) dX5_bits_19 ?_
    exact sm_rl hx hb hr hlocks hv dX5_bits_22
  · have hv := hv.trans (if_neg c7)
    refine lv_aload_n hx hb dX5_bits_10 rfl (lv_at hl 0 rfl) ?_
    refine fg_RX5_13 hx hb hts hown hW hB dX5_bits_11 ?_
    refine lv_iload_n hx hb dX5_bits_14 rfl (lv_at hl 1 rfl) ?_
    refine sw_la hx hb hW hB (2) (by decide) (eX_2 g ad) (bel_in c7 (by decide)) dX5_bits_15 ?_
    refine lv_goto (tgt := 22) hx hb dX5_bits_16 (by decide) ?_
    exact sm_rl hx hb hr hlocks hv dX5_bits_22
def f_X5_shadow (σ : sm_S) (x1 : Int32) : Int32 := if (f_X5_isBelow (Int32.toInt64 x1) 8) = 0 then ((-1)) else (σ.1 3 (Int32.toNatClampNeg x1))
set_option maxRecDepth 100000 in
set_option maxHeartbeats 4000000 in
theorem c_X5_shadow (l : Launch) (g : sm_G) (ad : Nat → Nat) (hj : sm_inj 22 ad) (sz : Nat) (σ : sm_S) (x1 : Int32)   : Met l yX5_shadow (sm_ws yX5_shadow cX5_shadow 2 (some .int)) (rmd 1) (va_Pc [.ref (ad 0), .int x1] (sm_Pre g 22 ad (eX g ad) σ sz)) (vp_Si (fun r => r = f_X5_shadow σ x1)) 0 0 (fun _ => False) := by
  generalize hv : f_X5_shadow σ x1 = F
  replace hv := hv.symm
  refine sm_mR (by decide) (Nat.le_of_ble_eq_true rfl) hj (eX_lay g ad) (fun p e s m args below meth c C hW hB ls hl => ?_)
  obtain ⟨hC, hr, hlocks⟩ := C
  have hx := hC.1
  have hb := hC.2.1
  have hts := hC.2.2.2.2
  have hown : s.vm.findClass RX5 = some m.cls := hC.2.2.2.1
  have hl : lv_has ls 2 [(0, .ref (ad 0)), (1, .int x1)] := hl
  refine lv_iload_n hx hb dX5_shadow_0 rfl (lv_at hl 1 rfl) ?_
  refine lv_i2l hx hb dX5_shadow_1 rfl ?_
  refine lv_bipush (v := 8) hx hb dX5_shadow_2 (by decide) ?_
  refine sm_ci (sm_runS (rest := []) hC (c_X5_isBelow l g (Int32.toInt64 x1) 8) k_X5_isBelow w_142 (by decide) (sm_ps hW.1 hB.2) rfl hl.1 rfl (Nat.le_of_ble_eq_true rfl) dX5_shadow_4) ?_
  refine lv_if_eq (tgt := 19) hx hb dX5_shadow_7 (by decide) (fun c7 => ?_) (fun c7 => ?_)
  · have hv := hv.trans (if_pos c7)
    refine lv_iconst (v := -1) hx hb dX5_shadow_19 (by decide) ?_
    exact sm_ri hx hb hr hlocks hv dX5_shadow_20
  · have hv := hv.trans (if_neg c7)
    refine lv_aload_n hx hb dX5_shadow_10 rfl (lv_at hl 0 rfl) ?_
    refine fg_RX5_17 hx hb hts hown hW hB dX5_shadow_11 ?_
    refine lv_iload_n hx hb dX5_shadow_14 rfl (lv_at hl 1 rfl) ?_
    refine sw_ia hx hb hW hB (3) (by decide) (eX_3 g ad) (bel_in c7 (by decide)) dX5_shadow_15 ?_
    refine lv_goto (tgt := 20) hx hb dX5_shadow_16 (by decide) ?_
    exact sm_ri hx hb hr hlocks hv dX5_shadow_20
def f_X5_cell (σ : sm_S) (x1 : Int32) (x2 : Int32) (x3 : Int32) : Int64 := if (f_X5_isBelow (Int32.toInt64 x1) 4) = 0 then 1234567890123456789 else (sm_oc (σ.2.2 (Int32.toNatClampNeg x1)) (1234567890123456789) (fun i14_1 => if x3 = 2 then (Int32.toInt64 (σ.1 (10 + 3 * i14_1) 0)) else (if (f_X5_isBelow (Int32.toInt64 x2) (σ.1 (10 + 3 * i14_1) 1)) = 0 then 1234567890123456789 else (if (f_X5_isBelow (Int32.toInt64 x3) 2) = 0 then 1234567890123456789 else (if x3 = 0 then (σ.2.1 (11 + 3 * i14_1) (Int32.toNatClampNeg x2)) else (Int32.toInt64 (σ.1 (12 + 3 * i14_1) (Int32.toNatClampNeg x2))))))))
set_option maxRecDepth 100000 in
set_option maxHeartbeats 4000000 in
theorem c_X5_cell (l : Launch) (g : sm_G) (ad : Nat → Nat) (hj : sm_inj 22 ad) (sz : Nat) (σ : sm_S) (x1 : Int32) (x2 : Int32) (x3 : Int32)  (hI : invX σ) : Met l yX5_cell (sm_ws yX5_cell cX5_cell 5 (some .long)) (rmd 1) (va_Pc [.ref (ad 0), .int x1, .int x2, .int x3] (sm_Pre g 22 ad (eX g ad) σ sz)) (vp_Sl (fun r => r = f_X5_cell σ x1 x2 x3)) 0 0 (fun _ => False) := by
  generalize hv : f_X5_cell σ x1 x2 x3 = F
  replace hv := hv.symm
  refine sm_mR (by decide) (Nat.le_of_ble_eq_true rfl) hj (eX_lay g ad) (fun p e s m args below meth c C hW hB ls hl => ?_)
  obtain ⟨hC, hr, hlocks⟩ := C
  have hx := hC.1
  have hb := hC.2.1
  have hts := hC.2.2.2.2
  have hown : s.vm.findClass RX5 = some m.cls := hC.2.2.2.1
  have hl : lv_has ls 5 [(0, .ref (ad 0)), (1, .int x1), (2, .int x2), (3, .int x3)] := hl
  refine lv_iload_n hx hb dX5_cell_0 rfl (lv_at hl 1 rfl) ?_
  refine lv_i2l hx hb dX5_cell_1 rfl ?_
  refine lv_iconst (v := 4) hx hb dX5_cell_2 (by decide) ?_
  refine sm_ci (sm_runS (rest := []) hC (c_X5_isBelow l g (Int32.toInt64 x1) 4) k_X5_isBelow w_142 (by decide) (sm_ps hW.1 hB.2) rfl hl.1 rfl (Nat.le_of_ble_eq_true rfl) dX5_cell_3) ?_
  refine lv_if_eq (tgt := 18) hx hb dX5_cell_6 (by decide) (fun c6 => ?_) (fun c6 => ?_)
  · have hv := hv.trans (if_pos c6)
    refine lv_ldc2 hx hb hown (hts _ w_492) dX5_cell_18 ?_
    exact sm_rl hx hb hr hlocks hv dX5_cell_21
  · have hv := hv.trans (if_neg c6)
    refine lv_aload_n hx hb dX5_cell_9 rfl (lv_at hl 0 rfl) ?_
    refine fg_RX5_22 hx hb hts hown hW hB dX5_cell_10 ?_
    refine lv_iload_n hx hb dX5_cell_13 rfl (lv_at hl 1 rfl) ?_
    refine xr_ld hx hb hW hB (bel_in c6 (by decide)) dX5_cell_14 (fun hq => ?_) (fun i14_1 hqi14_1 => ?_)
    · have hv := hv.trans (sm_oc_n hq)
      refine lv_ifnonnullN hx hb dX5_cell_15 ?_
      refine lv_ldc2 hx hb hown (hts _ w_492) dX5_cell_18 ?_
      exact sm_rl hx hb hr hlocks hv dX5_cell_21
    · have hv := hv.trans (sm_oc_s hqi14_1)
      have hi14_1 : i14_1 < 4 := hI.1 _ _ hqi14_1
      refine lv_ifnonnull (tgt := 22) hx hb dX5_cell_15 (by decide) ?_
      refine lv_aload_n hx hb dX5_cell_22 rfl (lv_at hl 0 rfl) ?_
      refine fg_RX5_22 hx hb hts hown hW hB dX5_cell_23 ?_
      refine lv_iload_n hx hb dX5_cell_26 rfl (lv_at hl 1 rfl) ?_
      refine xr_ldS hx hb hW hB (bel_in c6 (by decide)) hqi14_1 dX5_cell_27 ?_
      refine lv_astore (lv' := [(4, .ref (ad (10 + 3 * i14_1))), (0, .ref (ad 0)), (1, .int x1), (2, .int x2), (3, .int x3)]) hx hb dX5_cell_28 hl (by decide) rfl (fun ls hl => ?_)
      refine lv_iload_n hx hb dX5_cell_30 rfl (lv_at hl 4 rfl) ?_
      refine lv_iconst (v := 2) hx hb dX5_cell_31 (by decide) ?_
      refine lv_icmp_ne (tgt := 42) hx hb dX5_cell_32 (by decide) (fun c32 => ?_) (fun c32 => ?_)
      · have hv := hv.trans (if_neg c32)
        refine lv_iload_n hx hb dX5_cell_42 rfl (lv_at hl 3 rfl) ?_
        refine lv_i2l hx hb dX5_cell_43 rfl ?_
        refine lv_aload hx hb dX5_cell_44 (lv_at hl 0 rfl) ?_
        refine fg_RX5_121 hx hb hts hown hW hB hi14_1 dX5_cell_46 ?_
        refine sm_ci (sm_runS (rest := []) hC (c_X5_isBelow l g (Int32.toInt64 x2) (σ.1 (10 + 3 * i14_1) 1)) k_X5_isBelow w_142 (by decide) (sm_ps hW.1 hB.2) rfl hl.1 rfl (Nat.le_of_ble_eq_true rfl) dX5_cell_49) ?_
        refine lv_if_eq (tgt := 64) hx hb dX5_cell_52 (by decide) (fun c52 => ?_) (fun c52 => ?_)
        · have hv := hv.trans (if_pos c52)
          refine lv_ldc2 hx hb hown (hts _ w_492) dX5_cell_64 ?_
          exact sm_rl hx hb hr hlocks hv dX5_cell_67
        · have hv := hv.trans (if_neg c52)
          refine lv_iload_n hx hb dX5_cell_55 rfl (lv_at hl 4 rfl) ?_
          refine lv_i2l hx hb dX5_cell_56 rfl ?_
          refine lv_iconst (v := 2) hx hb dX5_cell_57 (by decide) ?_
          refine sm_ci (sm_runS (rest := []) hC (c_X5_isBelow l g (Int32.toInt64 x3) 2) k_X5_isBelow w_142 (by decide) (sm_ps hW.1 hB.2) rfl hl.1 rfl (Nat.le_of_ble_eq_true rfl) dX5_cell_58) ?_
          refine lv_if_ne (tgt := 68) hx hb dX5_cell_61 (by decide) (fun c61 => ?_) (fun c61 => ?_)
          · have hv := hv.trans (if_neg c61)
            refine lv_iload_n hx hb dX5_cell_68 rfl (lv_at hl 4 rfl) ?_
            refine lv_if_ne (tgt := 82) hx hb dX5_cell_69 (by decide) (fun c69 => ?_) (fun c69 => ?_)
            · have hv := hv.trans (if_neg c69)
              refine lv_aload hx hb dX5_cell_82 (lv_at hl 0 rfl) ?_
              refine fg_RX5_130 hx hb hts hown hW hB hi14_1 dX5_cell_84 ?_
              refine lv_iload_n hx hb dX5_cell_87 rfl (lv_at hl 3 rfl) ?_
              refine sw_ia hx hb hW hB (12 + 3 * i14_1) (c2_lt hi14_1) (eX_c2 hi14_1 g ad) (bel_inI c52 (hI.2 _ hi14_1).2) dX5_cell_88 ?_
              refine lv_i2l hx hb dX5_cell_89 rfl ?_
              exact sm_rl hx hb hr hlocks hv dX5_cell_90
            · have hv := hv.trans (if_pos c69)
              refine lv_aload hx hb dX5_cell_72 (lv_at hl 0 rfl) ?_
              refine fg_RX5_129 hx hb hts hown hW hB hi14_1 dX5_cell_74 ?_
              refine lv_iload_n hx hb dX5_cell_77 rfl (lv_at hl 3 rfl) ?_
              refine sw_la hx hb hW hB (11 + 3 * i14_1) (c1_lt hi14_1) (eX_c1 hi14_1 g ad) (bel_inI c52 (hI.2 _ hi14_1).2) dX5_cell_78 ?_
              refine lv_goto (tgt := 90) hx hb dX5_cell_79 (by decide) ?_
              exact sm_rl hx hb hr hlocks hv dX5_cell_90
          · have hv := hv.trans (if_pos c61)
            refine lv_ldc2 hx hb hown (hts _ w_492) dX5_cell_64 ?_
            exact sm_rl hx hb hr hlocks hv dX5_cell_67
      · have hv := hv.trans (if_pos c32)
        refine lv_aload hx hb dX5_cell_35 (lv_at hl 0 rfl) ?_
        refine fg_RX5_135 hx hb hts hown hW hB hi14_1 dX5_cell_37 ?_
        refine lv_i2l hx hb dX5_cell_40 rfl ?_
        exact sm_rl hx hb hr hlocks hv dX5_cell_41
def f_X5_pin (σ : sm_S) (x1 : Int32) (x2 : Int32) : Int64 := if (f_X5_isBelow (Int32.toInt64 x2) 2) = 0 then 1234567890123456789 else (f_X2_told 6 σ x1 x2)
set_option maxRecDepth 100000 in
set_option maxHeartbeats 4000000 in
theorem c_X5_pin (l : Launch) (g : sm_G) (ad : Nat → Nat) (hj : sm_inj 22 ad) (sz : Nat) (σ : sm_S) (x1 : Int32) (x2 : Int32)   : Met l yX5_pin (sm_ws yX5_pin cX5_pin 3 (some .long)) (rmd 2) (va_Pc [.ref (ad 0), .int x1, .int x2] (sm_Pre g 22 ad (eX g ad) σ sz)) (vp_Sl (fun r => r = f_X5_pin σ x1 x2)) 0 0 (fun _ => False) := by
  generalize hv : f_X5_pin σ x1 x2 = F
  replace hv := hv.symm
  refine sm_mR (by decide) (Nat.le_of_ble_eq_true rfl) hj (eX_lay g ad) (fun p e s m args below meth c C hW hB ls hl => ?_)
  obtain ⟨hC, hr, hlocks⟩ := C
  have hx := hC.1
  have hb := hC.2.1
  have hts := hC.2.2.2.2
  have hown : s.vm.findClass RX5 = some m.cls := hC.2.2.2.1
  have hl : lv_has ls 3 [(0, .ref (ad 0)), (1, .int x1), (2, .int x2)] := hl
  refine lv_iload_n hx hb dX5_pin_0 rfl (lv_at hl 2 rfl) ?_
  refine lv_i2l hx hb dX5_pin_1 rfl ?_
  refine lv_iconst (v := 2) hx hb dX5_pin_2 (by decide) ?_
  refine sm_ci (sm_runS (rest := []) hC (c_X5_isBelow l g (Int32.toInt64 x2) 2) k_X5_isBelow w_142 (by decide) (sm_ps hW.1 hB.2) rfl hl.1 rfl (Nat.le_of_ble_eq_true rfl) dX5_pin_3) ?_
  refine lv_if_eq (tgt := 21) hx hb dX5_pin_6 (by decide) (fun c6 => ?_) (fun c6 => ?_)
  · have hv := hv.trans (if_pos c6)
    refine lv_ldc2 hx hb hown (hts _ w_492) dX5_pin_21 ?_
    exact sm_rl hx hb hr hlocks hv dX5_pin_24
  · have hv := hv.trans (if_neg c6)
    refine lv_aload_n hx hb dX5_pin_9 rfl (lv_at hl 0 rfl) ?_
    refine fg_RX5_32 hx hb hts hown hW hB dX5_pin_10 ?_
    refine lv_iload_n hx hb dX5_pin_13 rfl (lv_at hl 1 rfl) ?_
    refine lv_iload_n hx hb dX5_pin_14 rfl (lv_at hl 2 rfl) ?_
    refine sm_cl (sm_runV (rest := []) hC (c_X2_told l g ad hW.2.1 _ 6 σ x1 x2 (Or.inl rfl)) k_X2_told w_505 (by decide) (sm_pv hW hB (nt_lt (Or.inl rfl)) (eX_nt (Or.inl rfl) g ad _) rfl) rfl hl.1 rfl (Nat.le_of_ble_eq_true rfl) dX5_pin_15) ?_
    refine lv_goto (tgt := 24) hx hb dX5_pin_18 (by decide) ?_
    exact sm_rl hx hb hr hlocks hv dX5_pin_24
def f_X5_way (σ : sm_S) (x1 : Int32) (x2 : Int32) : Int64 := if (f_X5_isBelow (Int32.toInt64 x2) 3) = 0 then 1234567890123456789 else (f_X2_told 8 σ x1 x2)
set_option maxRecDepth 100000 in
set_option maxHeartbeats 4000000 in
theorem c_X5_way (l : Launch) (g : sm_G) (ad : Nat → Nat) (hj : sm_inj 22 ad) (sz : Nat) (σ : sm_S) (x1 : Int32) (x2 : Int32)   : Met l yX5_way (sm_ws yX5_way cX5_way 3 (some .long)) (rmd 2) (va_Pc [.ref (ad 0), .int x1, .int x2] (sm_Pre g 22 ad (eX g ad) σ sz)) (vp_Sl (fun r => r = f_X5_way σ x1 x2)) 0 0 (fun _ => False) := by
  generalize hv : f_X5_way σ x1 x2 = F
  replace hv := hv.symm
  refine sm_mR (by decide) (Nat.le_of_ble_eq_true rfl) hj (eX_lay g ad) (fun p e s m args below meth c C hW hB ls hl => ?_)
  obtain ⟨hC, hr, hlocks⟩ := C
  have hx := hC.1
  have hb := hC.2.1
  have hts := hC.2.2.2.2
  have hown : s.vm.findClass RX5 = some m.cls := hC.2.2.2.1
  have hl : lv_has ls 3 [(0, .ref (ad 0)), (1, .int x1), (2, .int x2)] := hl
  refine lv_iload_n hx hb dX5_way_0 rfl (lv_at hl 2 rfl) ?_
  refine lv_i2l hx hb dX5_way_1 rfl ?_
  refine lv_iconst (v := 3) hx hb dX5_way_2 (by decide) ?_
  refine sm_ci (sm_runS (rest := []) hC (c_X5_isBelow l g (Int32.toInt64 x2) 3) k_X5_isBelow w_142 (by decide) (sm_ps hW.1 hB.2) rfl hl.1 rfl (Nat.le_of_ble_eq_true rfl) dX5_way_3) ?_
  refine lv_if_eq (tgt := 21) hx hb dX5_way_6 (by decide) (fun c6 => ?_) (fun c6 => ?_)
  · have hv := hv.trans (if_pos c6)
    refine lv_ldc2 hx hb hown (hts _ w_492) dX5_way_21 ?_
    exact sm_rl hx hb hr hlocks hv dX5_way_24
  · have hv := hv.trans (if_neg c6)
    refine lv_aload_n hx hb dX5_way_9 rfl (lv_at hl 0 rfl) ?_
    refine fg_RX5_36 hx hb hts hown hW hB dX5_way_10 ?_
    refine lv_iload_n hx hb dX5_way_13 rfl (lv_at hl 1 rfl) ?_
    refine lv_iload_n hx hb dX5_way_14 rfl (lv_at hl 2 rfl) ?_
    refine sm_cl (sm_runV (rest := []) hC (c_X2_told l g ad hW.2.1 _ 8 σ x1 x2 (Or.inr rfl)) k_X2_told w_505 (by decide) (sm_pv hW hB (nt_lt (Or.inr rfl)) (eX_nt (Or.inr rfl) g ad _) rfl) rfl hl.1 rfl (Nat.le_of_ble_eq_true rfl) dX5_way_15) ?_
    refine lv_goto (tgt := 24) hx hb dX5_way_18 (by decide) ?_
    exact sm_rl hx hb hr hlocks hv dX5_way_24
def f_X5_count (σ : sm_S) (x1 : Int32) : Int32 := if x1 = 0 then (σ.1 6 0) else if x1 = 1 then (σ.1 8 0) else if x1 = 2 then (σ.1 0 0) else if x1 = 3 then (f_X5_dependentRegisters σ) else ((-1))
set_option maxRecDepth 100000 in
set_option maxHeartbeats 4000000 in
theorem c_X5_count (l : Launch) (g : sm_G) (ad : Nat → Nat) (hj : sm_inj 22 ad) (sz : Nat) (σ : sm_S) (x1 : Int32)   : Met l yX5_count (sm_ws yX5_count cX5_count 2 (some .int)) (rmd 1) (va_Pc [.ref (ad 0), .int x1] (sm_Pre g 22 ad (eX g ad) σ sz)) (vp_Si (fun r => r = f_X5_count σ x1)) 0 0 (fun _ => False) := by
  generalize hv : f_X5_count σ x1 = F
  replace hv := hv.symm
  refine sm_mR (by decide) (Nat.le_of_ble_eq_true rfl) hj (eX_lay g ad) (fun p e s m args below meth c C hW hB ls hl => ?_)
  obtain ⟨hC, hr, hlocks⟩ := C
  have hx := hC.1
  have hb := hC.2.1
  have hts := hC.2.2.2.2
  have hown : s.vm.findClass RX5 = some m.cls := hC.2.2.2.1
  have hl : lv_has ls 2 [(0, .ref (ad 0)), (1, .int x1)] := hl
  refine lv_iload_n hx hb dX5_count_0 rfl (lv_at hl 1 rfl) ?_
  by_cases c1_0 : x1 = 0
  · have hv := hv.trans (if_pos c1_0)
    refine lv_tableIn (tgt := 32) hx hb dX5_count_1 (by rw [c1_0]; decide) (by rw [c1_0]; decide) (by rw [c1_0]; rfl) (by decide) ?_
    refine lv_aload_n hx hb dX5_count_32 rfl (lv_at hl 0 rfl) ?_
    refine fg_RX5_32 hx hb hts hown hW hB dX5_count_33 ?_
    refine fg_RX5_164 hx hb hts hown hW hB (Or.inl rfl) dX5_count_36 ?_
    exact sm_ri hx hb hr hlocks hv dX5_count_39
  · have hv := hv.trans (if_neg c1_0)
    by_cases c1_1 : x1 = 1
    · have hv := hv.trans (if_pos c1_1)
      refine lv_tableIn (tgt := 40) hx hb dX5_count_1 (by rw [c1_1]; decide) (by rw [c1_1]; decide) (by rw [c1_1]; rfl) (by decide) ?_
      refine lv_aload_n hx hb dX5_count_40 rfl (lv_at hl 0 rfl) ?_
      refine fg_RX5_36 hx hb hts hown hW hB dX5_count_41 ?_
      refine fg_RX5_164 hx hb hts hown hW hB (Or.inr rfl) dX5_count_44 ?_
      exact sm_ri hx hb hr hlocks hv dX5_count_47
    · have hv := hv.trans (if_neg c1_1)
      by_cases c1_2 : x1 = 2
      · have hv := hv.trans (if_pos c1_2)
        refine lv_tableIn (tgt := 48) hx hb dX5_count_1 (by rw [c1_2]; decide) (by rw [c1_2]; decide) (by rw [c1_2]; rfl) (by decide) ?_
        refine lv_aload_n hx hb dX5_count_48 rfl (lv_at hl 0 rfl) ?_
        refine fg_RX5_167 hx hb hts hown hW hB dX5_count_49 ?_
        exact sm_ri hx hb hr hlocks hv dX5_count_52
      · have hv := hv.trans (if_neg c1_2)
        by_cases c1_3 : x1 = 3
        · have hv := hv.trans (if_pos c1_3)
          refine lv_tableIn (tgt := 53) hx hb dX5_count_1 (by rw [c1_3]; decide) (by rw [c1_3]; decide) (by rw [c1_3]; rfl) (by decide) ?_
          refine lv_aload_n hx hb dX5_count_53 rfl (lv_at hl 0 rfl) ?_
          refine sm_ci (sm_runV (rest := []) hC (c_X5_dependentRegisters l g ad hW.2.1 _ σ) k_X5_dependentRegisters w_519 (by decide) (sm_pv hW hB (by decide) (eX_0 g ad _) rfl) rfl hl.1 rfl (Nat.le_of_ble_eq_true rfl) dX5_count_54) ?_
          exact sm_ri hx hb hr hlocks hv dX5_count_57
        · have hv := hv.trans (if_neg c1_3)
          refine lv_tableOut (tgt := 58) hx hb dX5_count_1 (by have := lv_neT c1_0 (show (0 : Int32).toInt = 0 from rfl); have := lv_neT c1_1 (show (1 : Int32).toInt = 1 from rfl); have := lv_neT c1_2 (show (2 : Int32).toInt = 2 from rfl); have := lv_neT c1_3 (show (3 : Int32).toInt = 3 from rfl); omega) (by decide) ?_
          refine lv_iconst (v := -1) hx hb dX5_count_58 (by decide) ?_
          exact sm_ri hx hb hr hlocks hv dX5_count_59
