def f_X1_magnitude (i : Nat) (x1 : Int64) : Int64 := x1 &&& ((kSi i) ^^^ ((-1)))
set_option maxRecDepth 100000 in
set_option maxHeartbeats 4000000 in
theorem c_X1_magnitude (l : Launch) (g : sm_G) (i : Nat) (x1 : Int64) (hi : i < 2)  : Met l yX1_magnitude (sm_ws yX1_magnitude cX1_magnitude 3 (some .long)) (rmd 0) (va_Pc [.ref (gF g i), .long x1] (sm_P0 g)) (vp_Sl (fun r => r = f_X1_magnitude i x1)) 0 0 (fun _ => False) := by
  generalize hv : f_X1_magnitude i x1 = F
  replace hv := hv.symm
  refine sm_mP (by decide) (Nat.le_of_ble_eq_true rfl) (fun p e s m args below meth c C hA ls hl => ?_)
  obtain ⟨hC, hr, hlocks⟩ := C
  have hx := hC.1
  have hb := hC.2.1
  have hts := hC.2.2.2.2
  have hown : s.vm.findClass RX1 = some m.cls := hC.2.2.2.1
  have hS : va_S (fun _ => False) s.heap s.heap [] := va_S.rf
  have hl : lv_has ls 3 [(0, .ref (gF g i)), (1, .long x1)] := hl
  refine lv_lload_n hx hb dX1_magnitude_0 rfl (lv_at hl 1 rfl) ?_
  refine lv_aload_n hx hb dX1_magnitude_1 rfl (lv_at hl 0 rfl) ?_
  refine fg_RX1_36 hx hb hts hown hA hS hi dX1_magnitude_2 ?_
  refine lv_ldc2 hx hb hown (hts _ w_163) dX1_magnitude_5 ?_
  refine lv_lxor hx hb dX1_magnitude_8 ?_
  refine lv_land hx hb dX1_magnitude_9 ?_
  exact sm_rl hx hb hr hlocks hv dX1_magnitude_10
def f_X1_isNan (i : Nat) (x1 : Int64) : Int32 := if (f_X1_magnitude i x1) ≤ (kIn i) then 0 else 1
set_option maxRecDepth 100000 in
set_option maxHeartbeats 4000000 in
theorem c_X1_isNan (l : Launch) (g : sm_G) (i : Nat) (x1 : Int64) (hi : i < 2)  : Met l yX1_isNan (sm_ws yX1_isNan cX1_isNan 3 (some .boolean)) (rmd 1) (va_Pc [.ref (gF g i), .long x1] (sm_P0 g)) (vp_Si (fun r => r = f_X1_isNan i x1)) 0 0 (fun _ => False) := by
  generalize hv : f_X1_isNan i x1 = F
  replace hv := hv.symm
  refine sm_mP (by decide) (Nat.le_of_ble_eq_true rfl) (fun p e s m args below meth c C hA ls hl => ?_)
  obtain ⟨hC, hr, hlocks⟩ := C
  have hx := hC.1
  have hb := hC.2.1
  have hts := hC.2.2.2.2
  have hown : s.vm.findClass RX1 = some m.cls := hC.2.2.2.1
  have hS : va_S (fun _ => False) s.heap s.heap [] := va_S.rf
  have hl : lv_has ls 3 [(0, .ref (gF g i)), (1, .long x1)] := hl
  refine lv_aload_n hx hb dX1_isNan_0 rfl (lv_at hl 0 rfl) ?_
  refine lv_lload_n hx hb dX1_isNan_1 rfl (lv_at hl 1 rfl) ?_
  refine sm_cl (sm_runV (rest := []) hC (c_X1_magnitude l g i x1 hi) k_X1_magnitude w_159 (by decide) (sm_pf hA hS hi) rfl hl.1 rfl (Nat.le_of_ble_eq_true rfl) dX1_isNan_2) ?_
  refine lv_aload_n hx hb dX1_isNan_5 rfl (lv_at hl 0 rfl) ?_
  refine fg_RX1_45 hx hb hts hown hA hS hi dX1_isNan_6 ?_
  refine lc_le (tgt := 17) hx hb dX1_isNan_9 dX1_isNan_10 (by decide) (fun c9 => ?_) (fun c9 => ?_)
  · have hv := hv.trans (if_pos c9)
    refine lv_iconst (v := 0) hx hb dX1_isNan_17 (by decide) ?_
    exact sm_rz hx hb hr hlocks rfl hv dX1_isNan_18
  · have hv := hv.trans (if_neg c9)
    refine lv_iconst (v := 1) hx hb dX1_isNan_13 (by decide) ?_
    refine lv_goto (tgt := 18) hx hb dX1_isNan_14 (by decide) ?_
    exact sm_rz hx hb hr hlocks rfl hv dX1_isNan_18
def f_X1_isInfinite (i : Nat) (x1 : Int64) : Int32 := if (f_X1_magnitude i x1) = (kIn i) then 1 else 0
set_option maxRecDepth 100000 in
set_option maxHeartbeats 4000000 in
theorem c_X1_isInfinite (l : Launch) (g : sm_G) (i : Nat) (x1 : Int64) (hi : i < 2)  : Met l yX1_isInfinite (sm_ws yX1_isInfinite cX1_isInfinite 3 (some .boolean)) (rmd 1) (va_Pc [.ref (gF g i), .long x1] (sm_P0 g)) (vp_Si (fun r => r = f_X1_isInfinite i x1)) 0 0 (fun _ => False) := by
  generalize hv : f_X1_isInfinite i x1 = F
  replace hv := hv.symm
  refine sm_mP (by decide) (Nat.le_of_ble_eq_true rfl) (fun p e s m args below meth c C hA ls hl => ?_)
  obtain ⟨hC, hr, hlocks⟩ := C
  have hx := hC.1
  have hb := hC.2.1
  have hts := hC.2.2.2.2
  have hown : s.vm.findClass RX1 = some m.cls := hC.2.2.2.1
  have hS : va_S (fun _ => False) s.heap s.heap [] := va_S.rf
  have hl : lv_has ls 3 [(0, .ref (gF g i)), (1, .long x1)] := hl
  refine lv_aload_n hx hb dX1_isInfinite_0 rfl (lv_at hl 0 rfl) ?_
  refine lv_lload_n hx hb dX1_isInfinite_1 rfl (lv_at hl 1 rfl) ?_
  refine sm_cl (sm_runV (rest := []) hC (c_X1_magnitude l g i x1 hi) k_X1_magnitude w_159 (by decide) (sm_pf hA hS hi) rfl hl.1 rfl (Nat.le_of_ble_eq_true rfl) dX1_isInfinite_2) ?_
  refine lv_aload_n hx hb dX1_isInfinite_5 rfl (lv_at hl 0 rfl) ?_
  refine fg_RX1_45 hx hb hts hown hA hS hi dX1_isInfinite_6 ?_
  refine lc_ne (tgt := 17) hx hb dX1_isInfinite_9 dX1_isInfinite_10 (by decide) (fun c9 => ?_) (fun c9 => ?_)
  · have hv := hv.trans (if_neg c9)
    refine lv_iconst (v := 0) hx hb dX1_isInfinite_17 (by decide) ?_
    exact sm_rz hx hb hr hlocks rfl hv dX1_isInfinite_18
  · have hv := hv.trans (if_pos c9)
    refine lv_iconst (v := 1) hx hb dX1_isInfinite_13 (by decide) ?_
    refine lv_goto (tgt := 18) hx hb dX1_isInfinite_14 (by decide) ?_
    exact sm_rz hx hb hr hlocks rfl hv dX1_isInfinite_18
def f_X1_isZero (i : Nat) (x1 : Int64) : Int32 := if (f_X1_magnitude i x1) = 0 then 1 else 0
set_option maxRecDepth 100000 in
set_option maxHeartbeats 4000000 in
theorem c_X1_isZero (l : Launch) (g : sm_G) (i : Nat) (x1 : Int64) (hi : i < 2)  : Met l yX1_isZero (sm_ws yX1_isZero cX1_isZero 3 (some .boolean)) (rmd 1) (va_Pc [.ref (gF g i), .long x1] (sm_P0 g)) (vp_Si (fun r => r = f_X1_isZero i x1)) 0 0 (fun _ => False) := by
  generalize hv : f_X1_isZero i x1 = F
  replace hv := hv.symm
  refine sm_mP (by decide) (Nat.le_of_ble_eq_true rfl) (fun p e s m args below meth c C hA ls hl => ?_)
  obtain ⟨hC, hr, hlocks⟩ := C
  have hx := hC.1
  have hb := hC.2.1
  have hts := hC.2.2.2.2
  have hown : s.vm.findClass RX1 = some m.cls := hC.2.2.2.1
  have hS : va_S (fun _ => False) s.heap s.heap [] := va_S.rf
  have hl : lv_has ls 3 [(0, .ref (gF g i)), (1, .long x1)] := hl
  refine lv_aload_n hx hb dX1_isZero_0 rfl (lv_at hl 0 rfl) ?_
  refine lv_lload_n hx hb dX1_isZero_1 rfl (lv_at hl 1 rfl) ?_
  refine sm_cl (sm_runV (rest := []) hC (c_X1_magnitude l g i x1 hi) k_X1_magnitude w_159 (by decide) (sm_pf hA hS hi) rfl hl.1 rfl (Nat.le_of_ble_eq_true rfl) dX1_isZero_2) ?_
  refine lv_lconst (v := 0) hx hb dX1_isZero_5 (by decide) ?_
  refine lc_ne (tgt := 14) hx hb dX1_isZero_6 dX1_isZero_7 (by decide) (fun c6 => ?_) (fun c6 => ?_)
  · have hv := hv.trans (if_neg c6)
    refine lv_iconst (v := 0) hx hb dX1_isZero_14 (by decide) ?_
    exact sm_rz hx hb hr hlocks rfl hv dX1_isZero_15
  · have hv := hv.trans (if_pos c6)
    refine lv_iconst (v := 1) hx hb dX1_isZero_10 (by decide) ?_
    refine lv_goto (tgt := 15) hx hb dX1_isZero_11 (by decide) ?_
    exact sm_rz hx hb hr hlocks rfl hv dX1_isZero_15
def f_X1_isNegative (i : Nat) (x1 : Int64) : Int32 := if (x1 &&& (kSi i)) = 0 then 0 else 1
set_option maxRecDepth 100000 in
set_option maxHeartbeats 4000000 in
theorem c_X1_isNegative (l : Launch) (g : sm_G) (i : Nat) (x1 : Int64) (hi : i < 2)  : Met l yX1_isNegative (sm_ws yX1_isNegative cX1_isNegative 3 (some .boolean)) (rmd 0) (va_Pc [.ref (gF g i), .long x1] (sm_P0 g)) (vp_Si (fun r => r = f_X1_isNegative i x1)) 0 0 (fun _ => False) := by
  generalize hv : f_X1_isNegative i x1 = F
  replace hv := hv.symm
  refine sm_mP (by decide) (Nat.le_of_ble_eq_true rfl) (fun p e s m args below meth c C hA ls hl => ?_)
  obtain ⟨hC, hr, hlocks⟩ := C
  have hx := hC.1
  have hb := hC.2.1
  have hts := hC.2.2.2.2
  have hown : s.vm.findClass RX1 = some m.cls := hC.2.2.2.1
  have hS : va_S (fun _ => False) s.heap s.heap [] := va_S.rf
  have hl : lv_has ls 3 [(0, .ref (gF g i)), (1, .long x1)] := hl
  refine lv_lload_n hx hb dX1_isNegative_0 rfl (lv_at hl 1 rfl) ?_
  refine lv_aload_n hx hb dX1_isNegative_1 rfl (lv_at hl 0 rfl) ?_
  refine fg_RX1_36 hx hb hts hown hA hS hi dX1_isNegative_2 ?_
  refine lv_land hx hb dX1_isNegative_5 ?_
  refine lv_lconst (v := 0) hx hb dX1_isNegative_6 (by decide) ?_
  refine lc_eq (tgt := 15) hx hb dX1_isNegative_7 dX1_isNegative_8 (by decide) (fun c7 => ?_) (fun c7 => ?_)
  · have hv := hv.trans (if_pos c7)
    refine lv_iconst (v := 0) hx hb dX1_isNegative_15 (by decide) ?_
    exact sm_rz hx hb hr hlocks rfl hv dX1_isNegative_16
  · have hv := hv.trans (if_neg c7)
    refine lv_iconst (v := 1) hx hb dX1_isNegative_11 (by decide) ?_
    refine lv_goto (tgt := 16) hx hb dX1_isNegative_12 (by decide) ?_
    exact sm_rz hx hb hr hlocks rfl hv dX1_isNegative_16
def f_X1_signed (i : Nat) (x1 : Int32) (x2 : Int64) : Int64 := if x1 = 0 then x2 else (x2 ||| (kSi i))
set_option maxRecDepth 100000 in
set_option maxHeartbeats 4000000 in
theorem c_X1_signed (l : Launch) (g : sm_G) (i : Nat) (x1 : Int32) (x2 : Int64) (hi : i < 2)  : Met l yX1_signed (sm_ws yX1_signed cX1_signed 4 (some .long)) (rmd 0) (va_Pc [.ref (gF g i), .int x1, .long x2] (sm_P0 g)) (vp_Sl (fun r => r = f_X1_signed i x1 x2)) 0 0 (fun _ => False) := by
  generalize hv : f_X1_signed i x1 x2 = F
  replace hv := hv.symm
  refine sm_mP (by decide) (Nat.le_of_ble_eq_true rfl) (fun p e s m args below meth c C hA ls hl => ?_)
  obtain ⟨hC, hr, hlocks⟩ := C
  have hx := hC.1
  have hb := hC.2.1
  have hts := hC.2.2.2.2
  have hown : s.vm.findClass RX1 = some m.cls := hC.2.2.2.1
  have hS : va_S (fun _ => False) s.heap s.heap [] := va_S.rf
  have hl : lv_has ls 4 [(0, .ref (gF g i)), (1, .int x1), (2, .long x2)] := hl
  refine lv_iload_n hx hb dX1_signed_0 rfl (lv_at hl 1 rfl) ?_
  refine lv_if_eq (tgt := 13) hx hb dX1_signed_1 (by decide) (fun c1 => ?_) (fun c1 => ?_)
  · have hv := hv.trans (if_pos c1)
    refine lv_lload_n hx hb dX1_signed_13 rfl (lv_at hl 2 rfl) ?_
    exact sm_rl hx hb hr hlocks hv dX1_signed_14
  · have hv := hv.trans (if_neg c1)
    refine lv_lload_n hx hb dX1_signed_4 rfl (lv_at hl 2 rfl) ?_
    refine lv_aload_n hx hb dX1_signed_5 rfl (lv_at hl 0 rfl) ?_
    refine fg_RX1_36 hx hb hts hown hA hS hi dX1_signed_6 ?_
    refine lv_lor hx hb dX1_signed_9 ?_
    refine lv_goto (tgt := 14) hx hb dX1_signed_10 (by decide) ?_
    exact sm_rl hx hb hr hlocks hv dX1_signed_14
def f_X1_withOneNan (i : Nat) (x1 : Int64) : Int64 := if (f_X1_isNan i x1) = 0 then x1 else (kNa i)
set_option maxRecDepth 100000 in
set_option maxHeartbeats 4000000 in
theorem c_X1_withOneNan (l : Launch) (g : sm_G) (i : Nat) (x1 : Int64) (hi : i < 2)  : Met l yX1_withOneNan (sm_ws yX1_withOneNan cX1_withOneNan 3 (some .long)) (rmd 2) (va_Pc [.ref (gF g i), .long x1] (sm_P0 g)) (vp_Sl (fun r => r = f_X1_withOneNan i x1)) 0 0 (fun _ => False) := by
  generalize hv : f_X1_withOneNan i x1 = F
  replace hv := hv.symm
  refine sm_mP (by decide) (Nat.le_of_ble_eq_true rfl) (fun p e s m args below meth c C hA ls hl => ?_)
  obtain ⟨hC, hr, hlocks⟩ := C
  have hx := hC.1
  have hb := hC.2.1
  have hts := hC.2.2.2.2
  have hown : s.vm.findClass RX1 = some m.cls := hC.2.2.2.1
  have hS : va_S (fun _ => False) s.heap s.heap [] := va_S.rf
  have hl : lv_has ls 3 [(0, .ref (gF g i)), (1, .long x1)] := hl
  refine lv_aload_n hx hb dX1_withOneNan_0 rfl (lv_at hl 0 rfl) ?_
  refine lv_lload_n hx hb dX1_withOneNan_1 rfl (lv_at hl 1 rfl) ?_
  refine sm_ci (sm_runV (rest := []) hC (c_X1_isNan l g i x1 hi) k_X1_isNan w_154 (by decide) (sm_pf hA hS hi) rfl hl.1 rfl (Nat.le_of_ble_eq_true rfl) dX1_withOneNan_2) ?_
  refine lv_if_eq (tgt := 15) hx hb dX1_withOneNan_5 (by decide) (fun c5 => ?_) (fun c5 => ?_)
  · have hv := hv.trans (if_pos c5)
    refine lv_lload_n hx hb dX1_withOneNan_15 rfl (lv_at hl 1 rfl) ?_
    exact sm_rl hx hb hr hlocks hv dX1_withOneNan_16
  · have hv := hv.trans (if_neg c5)
    refine lv_aload_n hx hb dX1_withOneNan_8 rfl (lv_at hl 0 rfl) ?_
    refine fg_RX1_48 hx hb hts hown hA hS hi dX1_withOneNan_9 ?_
    refine lv_goto (tgt := 16) hx hb dX1_withOneNan_12 (by decide) ?_
    exact sm_rl hx hb hr hlocks hv dX1_withOneNan_16
def f_X1_negated (i : Nat) (x1 : Int64) : Int64 := if (f_X1_isNan i x1) = 0 then (x1 ^^^ (kSi i)) else (kNa i)
set_option maxRecDepth 100000 in
set_option maxHeartbeats 4000000 in
theorem c_X1_negated (l : Launch) (g : sm_G) (i : Nat) (x1 : Int64) (hi : i < 2)  : Met l yX1_negated (sm_ws yX1_negated cX1_negated 3 (some .long)) (rmd 2) (va_Pc [.ref (gF g i), .long x1] (sm_P0 g)) (vp_Sl (fun r => r = f_X1_negated i x1)) 0 0 (fun _ => False) := by
  generalize hv : f_X1_negated i x1 = F
  replace hv := hv.symm
  refine sm_mP (by decide) (Nat.le_of_ble_eq_true rfl) (fun p e s m args below meth c C hA ls hl => ?_)
  obtain ⟨hC, hr, hlocks⟩ := C
  have hx := hC.1
  have hb := hC.2.1
  have hts := hC.2.2.2.2
  have hown : s.vm.findClass RX1 = some m.cls := hC.2.2.2.1
  have hS : va_S (fun _ => False) s.heap s.heap [] := va_S.rf
  have hl : lv_has ls 3 [(0, .ref (gF g i)), (1, .long x1)] := hl
  refine lv_aload_n hx hb dX1_negated_0 rfl (lv_at hl 0 rfl) ?_
  refine lv_lload_n hx hb dX1_negated_1 rfl (lv_at hl 1 rfl) ?_
  refine sm_ci (sm_runV (rest := []) hC (c_X1_isNan l g i x1 hi) k_X1_isNan w_154 (by decide) (sm_pf hA hS hi) rfl hl.1 rfl (Nat.le_of_ble_eq_true rfl) dX1_negated_2) ?_
  refine lv_if_eq (tgt := 15) hx hb dX1_negated_5 (by decide) (fun c5 => ?_) (fun c5 => ?_)
  · have hv := hv.trans (if_pos c5)
    refine lv_lload_n hx hb dX1_negated_15 rfl (lv_at hl 1 rfl) ?_
    refine lv_aload_n hx hb dX1_negated_16 rfl (lv_at hl 0 rfl) ?_
    refine fg_RX1_36 hx hb hts hown hA hS hi dX1_negated_17 ?_
    refine lv_lxor hx hb dX1_negated_20 ?_
    exact sm_rl hx hb hr hlocks hv dX1_negated_21
  · have hv := hv.trans (if_neg c5)
    refine lv_aload_n hx hb dX1_negated_8 rfl (lv_at hl 0 rfl) ?_
    refine fg_RX1_48 hx hb hts hown hA hS hi dX1_negated_9 ?_
    refine lv_goto (tgt := 21) hx hb dX1_negated_12 (by decide) ?_
    exact sm_rl hx hb hr hlocks hv dX1_negated_21
def f_X1_order (i : Nat) (x1 : Int64) : Int64 := if (f_X1_isNegative i x1) = 0 then x1 else (-(f_X1_magnitude i x1))
set_option maxRecDepth 100000 in
set_option maxHeartbeats 4000000 in
theorem c_X1_order (l : Launch) (g : sm_G) (i : Nat) (x1 : Int64) (hi : i < 2)  : Met l yX1_order (sm_ws yX1_order cX1_order 3 (some .long)) (rmd 1) (va_Pc [.ref (gF g i), .long x1] (sm_P0 g)) (vp_Sl (fun r => r = f_X1_order i x1)) 0 0 (fun _ => False) := by
  generalize hv : f_X1_order i x1 = F
  replace hv := hv.symm
  refine sm_mP (by decide) (Nat.le_of_ble_eq_true rfl) (fun p e s m args below meth c C hA ls hl => ?_)
  obtain ⟨hC, hr, hlocks⟩ := C
  have hx := hC.1
  have hb := hC.2.1
  have hts := hC.2.2.2.2
  have hown : s.vm.findClass RX1 = some m.cls := hC.2.2.2.1
  have hS : va_S (fun _ => False) s.heap s.heap [] := va_S.rf
  have hl : lv_has ls 3 [(0, .ref (gF g i)), (1, .long x1)] := hl
  refine lv_aload_n hx hb dX1_order_0 rfl (lv_at hl 0 rfl) ?_
  refine lv_lload_n hx hb dX1_order_1 rfl (lv_at hl 1 rfl) ?_
  refine sm_ci (sm_runV (rest := []) hC (c_X1_isNegative l g i x1 hi) k_X1_isNegative w_256 (by decide) (sm_pf hA hS hi) rfl hl.1 rfl (Nat.le_of_ble_eq_true rfl) dX1_order_2) ?_
  refine lv_if_eq (tgt := 17) hx hb dX1_order_5 (by decide) (fun c5 => ?_) (fun c5 => ?_)
  · have hv := hv.trans (if_pos c5)
    refine lv_lload_n hx hb dX1_order_17 rfl (lv_at hl 1 rfl) ?_
    exact sm_rl hx hb hr hlocks hv dX1_order_18
  · have hv := hv.trans (if_neg c5)
    refine lv_aload_n hx hb dX1_order_8 rfl (lv_at hl 0 rfl) ?_
    refine lv_lload_n hx hb dX1_order_9 rfl (lv_at hl 1 rfl) ?_
    refine sm_cl (sm_runV (rest := []) hC (c_X1_magnitude l g i x1 hi) k_X1_magnitude w_159 (by decide) (sm_pf hA hS hi) rfl hl.1 rfl (Nat.le_of_ble_eq_true rfl) dX1_order_10) ?_
    refine lv_lneg hx hb dX1_order_13 ?_
    refine lv_goto (tgt := 18) hx hb dX1_order_14 (by decide) ?_
    exact sm_rl hx hb hr hlocks hv dX1_order_18
def f_X1_placesUp (x0 : Int64) : Int32 := sm_max ((f_J13_numberOfLeadingZeros_95d88 x0) - 11) 0
set_option maxRecDepth 100000 in
set_option maxHeartbeats 4000000 in
theorem c_X1_placesUp (l : Launch) (g : sm_G) (x0 : Int64)   : Met l yX1_placesUp (sm_ws yX1_placesUp cX1_placesUp 2 (some .int)) (rmd 2) (va_Pc [.long x0] (sm_P0 g)) (vp_Si (fun r => r = f_X1_placesUp x0)) 0 0 (fun _ => False) := by
  generalize hv : f_X1_placesUp x0 = F
  replace hv := hv.symm
  refine sm_mP (by decide) (Nat.le_of_ble_eq_true rfl) (fun p e s m args below meth c C hA ls hl => ?_)
  obtain ⟨hC, hr, hlocks⟩ := C
  have hx := hC.1
  have hb := hC.2.1
  have hts := hC.2.2.2.2
  have hown : s.vm.findClass RX1 = some m.cls := hC.2.2.2.1
  have hS : va_S (fun _ => False) s.heap s.heap [] := va_S.rf
  have hl : lv_has ls 2 [(0, .long x0)] := hl
  refine lv_lload_n hx hb dX1_placesUp_0 rfl (lv_at hl 0 rfl) ?_
  refine sm_ci (sm_runS (rest := []) hC (c_J13_numberOfLeadingZeros_95d88 l g x0) k_J13_numberOfLeadingZeros_95d88 w_212 (by decide) (sm_ps hA hS) rfl hl.1 rfl (Nat.le_of_ble_eq_true rfl) dX1_placesUp_1) ?_
  refine lv_bipush (v := 11) hx hb dX1_placesUp_4 (by decide) ?_
  refine lv_isub hx hb dX1_placesUp_6 ?_
  refine lv_iconst (v := 0) hx hb dX1_placesUp_7 (by decide) ?_
  refine va_mmax hx hb (hC.2.2.1.trans hl.1.symm) hown (hts _ w_219) (hts _ w_220) (hts _ w_62) (hts _ w_221) (Nat.le_of_ble_eq_true rfl) (Nat.le_of_ble_eq_true rfl) (Nat.le_refl _) (Nat.le_refl _) dX1_placesUp_8 ?_
  exact sm_ri hx hb hr hlocks hv dX1_placesUp_11
def f_X1_unscaled (i : Nat) (x1 : Int64) : Int64 := sm_let ((1 : Int64) <<< (Int32.toInt64 (kFr i) &&& 63)) (fun y6_1 => sm_let (x1 &&& (y6_1 - 1)) (fun y12_2 => if y6_1 ≤ (f_X1_magnitude i x1) then (y12_2 ||| y6_1) else y12_2))
set_option maxRecDepth 100000 in
set_option maxHeartbeats 4000000 in
theorem c_X1_unscaled (l : Launch) (g : sm_G) (i : Nat) (x1 : Int64) (hi : i < 2)  : Met l yX1_unscaled (sm_ws yX1_unscaled cX1_unscaled 7 (some .long)) (rmd 1) (va_Pc [.ref (gF g i), .long x1] (sm_P0 g)) (vp_Sl (fun r => r = f_X1_unscaled i x1)) 0 0 (fun _ => False) := by
  generalize hv : f_X1_unscaled i x1 = F
  replace hv := hv.symm
  refine sm_mP (by decide) (Nat.le_of_ble_eq_true rfl) (fun p e s m args below meth c C hA ls hl => ?_)
  obtain ⟨hC, hr, hlocks⟩ := C
  have hx := hC.1
  have hb := hC.2.1
  have hts := hC.2.2.2.2
  have hown : s.vm.findClass RX1 = some m.cls := hC.2.2.2.1
  have hS : va_S (fun _ => False) s.heap s.heap [] := va_S.rf
  have hl : lv_has ls 7 [(0, .ref (gF g i)), (1, .long x1)] := hl
  refine lv_lconst (v := 1) hx hb dX1_unscaled_0 (by decide) ?_
  refine lv_aload_n hx hb dX1_unscaled_1 rfl (lv_at hl 0 rfl) ?_
  refine fg_RX1_29 hx hb hts hown hA hS hi dX1_unscaled_2 ?_
  refine lv_lshl hx hb dX1_unscaled_5 rfl ?_
  refine sm_nml hv (fun y6_1 ey6_1 hv => ?_)
  refine lv_lstore_n (lv' := [(3, .long y6_1), (0, .ref (gF g i)), (1, .long x1)]) hx hb dX1_unscaled_6 rfl hl (by decide) rfl (fun ls hl => ?_)
  refine lv_lload_n hx hb dX1_unscaled_7 rfl (lv_at hl 2 rfl) ?_
  refine lv_lload_n hx hb dX1_unscaled_8 rfl (lv_at hl 0 rfl) ?_
  refine lv_lconst (v := 1) hx hb dX1_unscaled_9 (by decide) ?_
  refine lv_lsub hx hb dX1_unscaled_10 ?_
  refine lv_land hx hb dX1_unscaled_11 ?_
  refine sm_nml hv (fun y12_2 ey12_2 hv => ?_)
  refine lv_lstore (lv' := [(5, .long y12_2), (3, .long y6_1), (0, .ref (gF g i)), (1, .long x1)]) hx hb dX1_unscaled_12 hl (by decide) rfl (fun ls hl => ?_)
  refine lv_aload_n hx hb dX1_unscaled_14 rfl (lv_at hl 2 rfl) ?_
  refine lv_lload_n hx hb dX1_unscaled_15 rfl (lv_at hl 3 rfl) ?_
  refine sm_cl (sm_runV (rest := []) hC (c_X1_magnitude l g i x1 hi) k_X1_magnitude w_159 (by decide) (sm_pf hA hS hi) rfl hl.1 rfl (Nat.le_of_ble_eq_true rfl) dX1_unscaled_16) ?_
  refine lv_lload_n hx hb dX1_unscaled_19 rfl (lv_at hl 1 rfl) ?_
  refine lc_ge (tgt := 29) hx hb dX1_unscaled_20 dX1_unscaled_21 (by decide) (fun c20 => ?_) (fun c20 => ?_)
  · have hv := hv.trans (if_pos c20)
    refine lv_lload hx hb dX1_unscaled_29 (lv_at hl 0 rfl) ?_
    refine lv_lload_n hx hb dX1_unscaled_31 rfl (lv_at hl 1 rfl) ?_
    refine lv_lor hx hb dX1_unscaled_32 ?_
    exact sm_rl hx hb hr hlocks hv dX1_unscaled_33
  · have hv := hv.trans (if_neg c20)
    refine lv_lload hx hb dX1_unscaled_24 (lv_at hl 0 rfl) ?_
    refine lv_goto (tgt := 33) hx hb dX1_unscaled_26 (by decide) ?_
    exact sm_rl hx hb hr hlocks hv dX1_unscaled_33
def f_X1_exponent (i : Nat) (x1 : Int64) : Int32 := sm_let (Int64.toInt32 (UInt64.toInt64 (Int64.toUInt64 (f_X1_magnitude i x1) >>> (Int64.toUInt64 (Int32.toInt64 (kFr i)) &&& Int64.toUInt64 63)))) (fun y11_1 => ((kLe i) + (sm_max (y11_1 - 1) 0)) - (f_X1_placesUp (f_X1_unscaled i x1)))
set_option maxRecDepth 100000 in
set_option maxHeartbeats 4000000 in
theorem c_X1_exponent (l : Launch) (g : sm_G) (i : Nat) (x1 : Int64) (hi : i < 2)  : Met l yX1_exponent (sm_ws yX1_exponent cX1_exponent 4 (some .int)) (rmd 3) (va_Pc [.ref (gF g i), .long x1] (sm_P0 g)) (vp_Si (fun r => r = f_X1_exponent i x1)) 0 0 (fun _ => False) := by
  generalize hv : f_X1_exponent i x1 = F
  replace hv := hv.symm
  refine sm_mP (by decide) (Nat.le_of_ble_eq_true rfl) (fun p e s m args below meth c C hA ls hl => ?_)
  obtain ⟨hC, hr, hlocks⟩ := C
  have hx := hC.1
  have hb := hC.2.1
  have hts := hC.2.2.2.2
  have hown : s.vm.findClass RX1 = some m.cls := hC.2.2.2.1
  have hS : va_S (fun _ => False) s.heap s.heap [] := va_S.rf
  have hl : lv_has ls 4 [(0, .ref (gF g i)), (1, .long x1)] := hl
  refine lv_aload_n hx hb dX1_exponent_0 rfl (lv_at hl 0 rfl) ?_
  refine lv_lload_n hx hb dX1_exponent_1 rfl (lv_at hl 1 rfl) ?_
  refine sm_cl (sm_runV (rest := []) hC (c_X1_magnitude l g i x1 hi) k_X1_magnitude w_159 (by decide) (sm_pf hA hS hi) rfl hl.1 rfl (Nat.le_of_ble_eq_true rfl) dX1_exponent_2) ?_
  refine lv_aload_n hx hb dX1_exponent_5 rfl (lv_at hl 0 rfl) ?_
  refine fg_RX1_29 hx hb hts hown hA hS hi dX1_exponent_6 ?_
  refine lv_lushr hx hb dX1_exponent_9 rfl ?_
  refine lv_l2i hx hb dX1_exponent_10 rfl ?_
  refine sm_nmi hv (fun y11_1 ey11_1 hv => ?_)
  refine lv_istore_n (lv' := [(3, .int y11_1), (0, .ref (gF g i)), (1, .long x1)]) hx hb dX1_exponent_11 rfl hl (by decide) rfl (fun ls hl => ?_)
  refine lv_aload_n hx hb dX1_exponent_12 rfl (lv_at hl 1 rfl) ?_
  refine fg_RX1_33 hx hb hts hown hA hS hi dX1_exponent_13 ?_
  refine lv_iload_n hx hb dX1_exponent_16 rfl (lv_at hl 0 rfl) ?_
  refine lv_iconst (v := 1) hx hb dX1_exponent_17 (by decide) ?_
  refine lv_isub hx hb dX1_exponent_18 ?_
  refine lv_iconst (v := 0) hx hb dX1_exponent_19 (by decide) ?_
  refine va_mmax hx hb (hC.2.2.1.trans hl.1.symm) hown (hts _ w_219) (hts _ w_220) (hts _ w_62) (hts _ w_221) (Nat.le_of_ble_eq_true rfl) (Nat.le_of_ble_eq_true rfl) (Nat.le_refl _) (Nat.le_refl _) dX1_exponent_20 ?_
  refine lv_iadd hx hb dX1_exponent_23 ?_
  refine lv_aload_n hx hb dX1_exponent_24 rfl (lv_at hl 1 rfl) ?_
  refine lv_lload_n hx hb dX1_exponent_25 rfl (lv_at hl 2 rfl) ?_
  refine sm_cl (sm_runV (rest := [.int ((kLe i) + (sm_max (y11_1 - 1) 0))]) hC (c_X1_unscaled l g i x1 hi) k_X1_unscaled w_245 (by decide) (sm_pf hA hS hi) rfl hl.1 rfl (Nat.le_of_ble_eq_true rfl) dX1_exponent_26) ?_
  refine sm_ci (sm_runS (rest := [.int ((kLe i) + (sm_max (y11_1 - 1) 0))]) hC (c_X1_placesUp l g (f_X1_unscaled i x1)) k_X1_placesUp w_249 (by decide) (sm_ps hA hS) rfl hl.1 rfl (Nat.le_of_ble_eq_true rfl) dX1_exponent_29) ?_
  refine lv_isub hx hb dX1_exponent_32 ?_
  exact sm_ri hx hb hr hlocks hv dX1_exponent_33
def f_X1_significand (i : Nat) (x1 : Int64) : Int64 := sm_let (f_X1_unscaled i x1) (fun y5_1 => y5_1 <<< (Int32.toInt64 (f_X1_placesUp y5_1) &&& 63))
set_option maxRecDepth 100000 in
set_option maxHeartbeats 4000000 in
theorem c_X1_significand (l : Launch) (g : sm_G) (i : Nat) (x1 : Int64) (hi : i < 2)  : Met l yX1_significand (sm_ws yX1_significand cX1_significand 5 (some .long)) (rmd 3) (va_Pc [.ref (gF g i), .long x1] (sm_P0 g)) (vp_Sl (fun r => r = f_X1_significand i x1)) 0 0 (fun _ => False) := by
  generalize hv : f_X1_significand i x1 = F
  replace hv := hv.symm
  refine sm_mP (by decide) (Nat.le_of_ble_eq_true rfl) (fun p e s m args below meth c C hA ls hl => ?_)
  obtain ⟨hC, hr, hlocks⟩ := C
  have hx := hC.1
  have hb := hC.2.1
  have hts := hC.2.2.2.2
  have hown : s.vm.findClass RX1 = some m.cls := hC.2.2.2.1
  have hS : va_S (fun _ => False) s.heap s.heap [] := va_S.rf
  have hl : lv_has ls 5 [(0, .ref (gF g i)), (1, .long x1)] := hl
  refine lv_aload_n hx hb dX1_significand_0 rfl (lv_at hl 0 rfl) ?_
  refine lv_lload_n hx hb dX1_significand_1 rfl (lv_at hl 1 rfl) ?_
  refine sm_cl (sm_runV (rest := []) hC (c_X1_unscaled l g i x1 hi) k_X1_unscaled w_245 (by decide) (sm_pf hA hS hi) rfl hl.1 rfl (Nat.le_of_ble_eq_true rfl) dX1_significand_2) ?_
  refine sm_nml hv (fun y5_1 ey5_1 hv => ?_)
  refine lv_lstore_n (lv' := [(3, .long y5_1), (0, .ref (gF g i)), (1, .long x1)]) hx hb dX1_significand_5 rfl hl (by decide) rfl (fun ls hl => ?_)
  refine lv_lload_n hx hb dX1_significand_6 rfl (lv_at hl 0 rfl) ?_
  refine lv_lload_n hx hb dX1_significand_7 rfl (lv_at hl 0 rfl) ?_
  refine sm_ci (sm_runS (rest := [.long y5_1]) hC (c_X1_placesUp l g y5_1) k_X1_placesUp w_249 (by decide) (sm_ps hA hS) rfl hl.1 rfl (Nat.le_of_ble_eq_true rfl) dX1_significand_8) ?_
  refine lv_lshl hx hb dX1_significand_11 rfl ?_
  exact sm_rl hx hb hr hlocks hv dX1_significand_12
def f_X1_shiftedToEven_55 (y11_1 : Int64) (t0_55 : Int32) : Int64 := if t0_55 = 0 then y11_1 else (y11_1 + 1)
def f_X1_shiftedToEven_50 (y11_1 : Int64) : Int64 := f_X1_shiftedToEven_55 y11_1 1
def f_X1_shiftedToEven_54 (y11_1 : Int64) : Int64 := f_X1_shiftedToEven_55 y11_1 0
def f_X1_shiftedToEven (x0 : Int64) (x2 : Int32) : Int64 := if x2 ≤ 63 then (sm_let (UInt64.toInt64 (Int64.toUInt64 x0 >>> (Int64.toUInt64 (Int32.toInt64 x2) &&& Int64.toUInt64 63))) (fun y11_1 => sm_let (x0 - (y11_1 <<< (Int32.toInt64 x2 &&& 63))) (fun y17_2 => sm_let ((1 : Int64) <<< (Int32.toInt64 (x2 - 1) &&& 63)) (fun y24_3 => if y24_3 < y17_2 then (f_X1_shiftedToEven_50 y11_1) else (if y17_2 = y24_3 then (if (y11_1 &&& 1) = 1 then (f_X1_shiftedToEven_50 y11_1) else (f_X1_shiftedToEven_54 y11_1)) else (f_X1_shiftedToEven_54 y11_1)))))) else 0
set_option maxRecDepth 100000 in
set_option maxHeartbeats 4000000 in
theorem c_X1_shiftedToEven (l : Launch) (g : sm_G) (x0 : Int64) (x2 : Int32)   : Met l yX1_shiftedToEven (sm_ws yX1_shiftedToEven cX1_shiftedToEven 10 (some .long)) (rmd 0) (va_Pc [.long x0, .int x2] (sm_P0 g)) (vp_Sl (fun r => r = f_X1_shiftedToEven x0 x2)) 0 0 (fun _ => False) := by
  generalize hv : f_X1_shiftedToEven x0 x2 = F
  replace hv := hv.symm
  refine sm_mP (by decide) (Nat.le_of_ble_eq_true rfl) (fun p e s m args below meth c C hA ls hl => ?_)
  obtain ⟨hC, hr, hlocks⟩ := C
  have hx := hC.1
  have hb := hC.2.1
  have hts := hC.2.2.2.2
  have hown : s.vm.findClass RX1 = some m.cls := hC.2.2.2.1
  have hS : va_S (fun _ => False) s.heap s.heap [] := va_S.rf
  have hl : lv_has ls 10 [(0, .long x0), (2, .int x2)] := hl
  refine lv_iload_n hx hb dX1_shiftedToEven_0 rfl (lv_at hl 1 rfl) ?_
  refine lv_bipush (v := 63) hx hb dX1_shiftedToEven_1 (by decide) ?_
  refine lv_icmp_le (tgt := 8) hx hb dX1_shiftedToEven_3 (by decide) (fun c3 => ?_) (fun c3 => ?_)
  · have hv := hv.trans (if_pos c3)
    refine lv_lload_n hx hb dX1_shiftedToEven_8 rfl (lv_at hl 0 rfl) ?_
    refine lv_iload_n hx hb dX1_shiftedToEven_9 rfl (lv_at hl 1 rfl) ?_
    refine lv_lushr hx hb dX1_shiftedToEven_10 rfl ?_
    refine sm_nml hv (fun y11_1 ey11_1 hv => ?_)
    refine lv_lstore_n (lv' := [(3, .long y11_1), (0, .long x0), (2, .int x2)]) hx hb dX1_shiftedToEven_11 rfl hl (by decide) rfl (fun ls hl => ?_)
    refine lv_lload_n hx hb dX1_shiftedToEven_12 rfl (lv_at hl 1 rfl) ?_
    refine lv_lload_n hx hb dX1_shiftedToEven_13 rfl (lv_at hl 0 rfl) ?_
    refine lv_iload_n hx hb dX1_shiftedToEven_14 rfl (lv_at hl 2 rfl) ?_
    refine lv_lshl hx hb dX1_shiftedToEven_15 rfl ?_
    refine lv_lsub hx hb dX1_shiftedToEven_16 ?_
    refine sm_nml hv (fun y17_2 ey17_2 hv => ?_)
    refine lv_lstore (lv' := [(5, .long y17_2), (3, .long y11_1), (0, .long x0), (2, .int x2)]) hx hb dX1_shiftedToEven_17 hl (by decide) rfl (fun ls hl => ?_)
    refine lv_lconst (v := 1) hx hb dX1_shiftedToEven_19 (by decide) ?_
    refine lv_iload_n hx hb dX1_shiftedToEven_20 rfl (lv_at hl 3 rfl) ?_
    refine lv_iconst (v := 1) hx hb dX1_shiftedToEven_21 (by decide) ?_
    refine lv_isub hx hb dX1_shiftedToEven_22 ?_
    refine lv_lshl hx hb dX1_shiftedToEven_23 rfl ?_
    refine sm_nml hv (fun y24_3 ey24_3 hv => ?_)
    refine lv_lstore (lv' := [(7, .long y24_3), (5, .long y17_2), (3, .long y11_1), (0, .long x0), (2, .int x2)]) hx hb dX1_shiftedToEven_24 hl (by decide) rfl (fun ls hl => ?_)
    refine lv_lload hx hb dX1_shiftedToEven_26 (lv_at hl 1 rfl) ?_
    refine lv_lload hx hb dX1_shiftedToEven_28 (lv_at hl 0 rfl) ?_
    have k_55 : ∀ (t0_55 : Int32) (ls : Array Slot), lv_has ls 10 [(3, .long y11_1)] → F = f_X1_shiftedToEven_55 y11_1 t0_55 → W p l e (rmd 0) s m args below meth c s.heap [] 0 0 (MQ below (vp_Sl (fun r => r = F)) args s 0 0 (fun _ => False)) (F0 m 55 ls [.int t0_55]) := by
      intro t0_55 ls hl hv
      refine lv_istore (lv' := [(9, .int t0_55), (3, .long y11_1)]) hx hb dX1_shiftedToEven_55 hl (by decide) rfl (fun ls hl => ?_)
      refine lv_iload hx hb dX1_shiftedToEven_57 (lv_at hl 0 rfl) ?_
      refine lv_if_eq (tgt := 68) hx hb dX1_shiftedToEven_59 (by decide) (fun c59 => ?_) (fun c59 => ?_)
      · have hv := hv.trans (if_pos c59)
        refine lv_lload_n hx hb dX1_shiftedToEven_68 rfl (lv_at hl 1 rfl) ?_
        exact sm_rl hx hb hr hlocks hv dX1_shiftedToEven_69
      · have hv := hv.trans (if_neg c59)
        refine lv_lload_n hx hb dX1_shiftedToEven_62 rfl (lv_at hl 1 rfl) ?_
        refine lv_lconst (v := 1) hx hb dX1_shiftedToEven_63 (by decide) ?_
        refine lv_ladd hx hb dX1_shiftedToEven_64 ?_
        refine lv_goto (tgt := 69) hx hb dX1_shiftedToEven_65 (by decide) ?_
        exact sm_rl hx hb hr hlocks hv dX1_shiftedToEven_69
    have k_50 : ∀  (ls : Array Slot), lv_has ls 10 [(3, .long y11_1)] → F = f_X1_shiftedToEven_50 y11_1 → W p l e (rmd 0) s m args below meth c s.heap [] 0 0 (MQ below (vp_Sl (fun r => r = F)) args s 0 0 (fun _ => False)) (F0 m 50 ls []) := by
      intro ls hl hv
      refine lv_iconst (v := 1) hx hb dX1_shiftedToEven_50 (by decide) ?_
      refine lv_goto (tgt := 55) hx hb dX1_shiftedToEven_51 (by decide) ?_
      exact k_55 1 _ (lv_sub hl [0] rfl) hv
    refine lc_gt (tgt := 50) hx hb dX1_shiftedToEven_30 dX1_shiftedToEven_31 (by decide) (fun c30 => ?_) (fun c30 => ?_)
    · have hv := hv.trans (if_pos c30)
      exact k_50 _ (lv_sub hl [2] rfl) hv
    · have hv := hv.trans (if_neg c30)
      refine lv_lload hx hb dX1_shiftedToEven_34 (lv_at hl 1 rfl) ?_
      refine lv_lload hx hb dX1_shiftedToEven_36 (lv_at hl 0 rfl) ?_
      have k_54 : ∀  (ls : Array Slot), lv_has ls 10 [(3, .long y11_1)] → F = f_X1_shiftedToEven_54 y11_1 → W p l e (rmd 0) s m args below meth c s.heap [] 0 0 (MQ below (vp_Sl (fun r => r = F)) args s 0 0 (fun _ => False)) (F0 m 54 ls []) := by
        intro ls hl hv
        refine lv_iconst (v := 0) hx hb dX1_shiftedToEven_54 (by decide) ?_
        exact k_55 0 _ (lv_sub hl [0] rfl) hv
      refine lc_ne (tgt := 54) hx hb dX1_shiftedToEven_38 dX1_shiftedToEven_39 (by decide) (fun c38 => ?_) (fun c38 => ?_)
      · have hv := hv.trans (if_neg c38)
        exact k_54 _ (lv_sub hl [2] rfl) hv
      · have hv := hv.trans (if_pos c38)
        refine lv_lload_n hx hb dX1_shiftedToEven_42 rfl (lv_at hl 2 rfl) ?_
        refine lv_lconst (v := 1) hx hb dX1_shiftedToEven_43 (by decide) ?_
        refine lv_land hx hb dX1_shiftedToEven_44 ?_
        refine lv_lconst (v := 1) hx hb dX1_shiftedToEven_45 (by decide) ?_
        refine lc_ne (tgt := 54) hx hb dX1_shiftedToEven_46 dX1_shiftedToEven_47 (by decide) (fun c46 => ?_) (fun c46 => ?_)
        · have hv := hv.trans (if_neg c46)
          exact k_54 _ (lv_sub hl [2] rfl) hv
        · have hv := hv.trans (if_pos c46)
          exact k_50 _ (lv_sub hl [2] rfl) hv
  · have hv := hv.trans (if_neg c3)
    refine lv_lconst (v := 0) hx hb dX1_shiftedToEven_6 (by decide) ?_
    exact sm_rl hx hb hr hlocks hv dX1_shiftedToEven_7
def f_X1_shiftedDown (x0 : Int64) (x2 : Int32) : Int64 := if x2 ≤ 62 then (sm_let (UInt64.toInt64 (Int64.toUInt64 x0 >>> (Int64.toUInt64 (Int32.toInt64 x2) &&& Int64.toUInt64 63))) (fun y11_1 => if (y11_1 <<< (Int32.toInt64 x2 &&& 63)) = x0 then y11_1 else (y11_1 ||| 1))) else 1
set_option maxRecDepth 100000 in
set_option maxHeartbeats 4000000 in
theorem c_X1_shiftedDown (l : Launch) (g : sm_G) (x0 : Int64) (x2 : Int32)   : Met l yX1_shiftedDown (sm_ws yX1_shiftedDown cX1_shiftedDown 5 (some .long)) (rmd 0) (va_Pc [.long x0, .int x2] (sm_P0 g)) (vp_Sl (fun r => r = f_X1_shiftedDown x0 x2)) 0 0 (fun _ => False) := by
  generalize hv : f_X1_shiftedDown x0 x2 = F
  replace hv := hv.symm
  refine sm_mP (by decide) (Nat.le_of_ble_eq_true rfl) (fun p e s m args below meth c C hA ls hl => ?_)
  obtain ⟨hC, hr, hlocks⟩ := C
  have hx := hC.1
  have hb := hC.2.1
  have hts := hC.2.2.2.2
  have hown : s.vm.findClass RX1 = some m.cls := hC.2.2.2.1
  have hS : va_S (fun _ => False) s.heap s.heap [] := va_S.rf
  have hl : lv_has ls 5 [(0, .long x0), (2, .int x2)] := hl
  refine lv_iload_n hx hb dX1_shiftedDown_0 rfl (lv_at hl 1 rfl) ?_
  refine lv_bipush (v := 62) hx hb dX1_shiftedDown_1 (by decide) ?_
  refine lv_icmp_le (tgt := 8) hx hb dX1_shiftedDown_3 (by decide) (fun c3 => ?_) (fun c3 => ?_)
  · have hv := hv.trans (if_pos c3)
    refine lv_lload_n hx hb dX1_shiftedDown_8 rfl (lv_at hl 0 rfl) ?_
    refine lv_iload_n hx hb dX1_shiftedDown_9 rfl (lv_at hl 1 rfl) ?_
    refine lv_lushr hx hb dX1_shiftedDown_10 rfl ?_
    refine sm_nml hv (fun y11_1 ey11_1 hv => ?_)
    refine lv_lstore_n (lv' := [(3, .long y11_1), (0, .long x0), (2, .int x2)]) hx hb dX1_shiftedDown_11 rfl hl (by decide) rfl (fun ls hl => ?_)
    refine lv_lload_n hx hb dX1_shiftedDown_12 rfl (lv_at hl 0 rfl) ?_
    refine lv_iload_n hx hb dX1_shiftedDown_13 rfl (lv_at hl 2 rfl) ?_
    refine lv_lshl hx hb dX1_shiftedDown_14 rfl ?_
    refine lv_lload_n hx hb dX1_shiftedDown_15 rfl (lv_at hl 1 rfl) ?_
    refine lc_ne (tgt := 24) hx hb dX1_shiftedDown_16 dX1_shiftedDown_17 (by decide) (fun c16 => ?_) (fun c16 => ?_)
    · have hv := hv.trans (if_neg c16)
      refine lv_lload_n hx hb dX1_shiftedDown_24 rfl (lv_at hl 0 rfl) ?_
      refine lv_lconst (v := 1) hx hb dX1_shiftedDown_25 (by decide) ?_
      refine lv_lor hx hb dX1_shiftedDown_26 ?_
      exact sm_rl hx hb hr hlocks hv dX1_shiftedDown_27
    · have hv := hv.trans (if_pos c16)
      refine lv_lload_n hx hb dX1_shiftedDown_20 rfl (lv_at hl 0 rfl) ?_
      refine lv_goto (tgt := 27) hx hb dX1_shiftedDown_21 (by decide) ?_
      exact sm_rl hx hb hr hlocks hv dX1_shiftedDown_27
  · have hv := hv.trans (if_neg c3)
    refine lv_lconst (v := 1) hx hb dX1_shiftedDown_6 (by decide) ?_
    exact sm_rl hx hb hr hlocks hv dX1_shiftedDown_7
def f_X1_rounded_78 (i : Nat) (x1 : Int32) (y36_3 : Int32) (t0_78 : Int64) : Int64 := f_X1_signed i x1 (((Int32.toInt64 y36_3) <<< (Int32.toInt64 (kFr i) &&& 63)) + t0_78)
def f_X1_rounded (i : Nat) (x1 : Int32) (x2 : Int32) (x3 : Int64) : Int64 := sm_let (((63 : Int32) - (kFr i)) - (f_J13_numberOfLeadingZeros_95d88 x3)) (fun y12_1 => sm_let (sm_max y12_1 ((kLe i) - x2)) (fun y25_2 => sm_let ((x2 + y25_2) - (kLe i)) (fun y36_3 => if y36_3 < ((kMo i) - 1) then (if y25_2 ≤ 0 then (f_X1_rounded_78 i x1 y36_3 (x3 <<< (Int32.toInt64 (-y25_2) &&& 63))) else (f_X1_rounded_78 i x1 y36_3 (f_X1_shiftedToEven x3 y25_2))) else (f_X1_signed i x1 (kIn i)))))
set_option maxRecDepth 100000 in
set_option maxHeartbeats 4000000 in
theorem c_X1_rounded (l : Launch) (g : sm_G) (i : Nat) (x1 : Int32) (x2 : Int32) (x3 : Int64) (hi : i < 2)  : Met l yX1_rounded (sm_ws yX1_rounded cX1_rounded 10 (some .long)) (rmd 2) (va_Pc [.ref (gF g i), .int x1, .int x2, .long x3] (sm_P0 g)) (vp_Sl (fun r => r = f_X1_rounded i x1 x2 x3)) 0 0 (fun _ => False) := by
  generalize hv : f_X1_rounded i x1 x2 x3 = F
  replace hv := hv.symm
  refine sm_mP (by decide) (Nat.le_of_ble_eq_true rfl) (fun p e s m args below meth c C hA ls hl => ?_)
  obtain ⟨hC, hr, hlocks⟩ := C
  have hx := hC.1
  have hb := hC.2.1
  have hts := hC.2.2.2.2
  have hown : s.vm.findClass RX1 = some m.cls := hC.2.2.2.1
  have hS : va_S (fun _ => False) s.heap s.heap [] := va_S.rf
  have hl : lv_has ls 10 [(0, .ref (gF g i)), (1, .int x1), (2, .int x2), (3, .long x3)] := hl
  refine lv_bipush (v := 63) hx hb dX1_rounded_0 (by decide) ?_
  refine lv_aload_n hx hb dX1_rounded_2 rfl (lv_at hl 0 rfl) ?_
  refine fg_RX1_29 hx hb hts hown hA hS hi dX1_rounded_3 ?_
  refine lv_isub hx hb dX1_rounded_6 ?_
  refine lv_lload_n hx hb dX1_rounded_7 rfl (lv_at hl 3 rfl) ?_
  refine sm_ci (sm_runS (rest := [.int ((63 : Int32) - (kFr i))]) hC (c_J13_numberOfLeadingZeros_95d88 l g x3) k_J13_numberOfLeadingZeros_95d88 w_212 (by decide) (sm_ps hA hS) rfl hl.1 rfl (Nat.le_of_ble_eq_true rfl) dX1_rounded_8) ?_
  refine lv_isub hx hb dX1_rounded_11 ?_
  refine sm_nmi hv (fun y12_1 ey12_1 hv => ?_)
  refine lv_istore (lv' := [(5, .int y12_1), (0, .ref (gF g i)), (1, .int x1), (2, .int x2), (3, .long x3)]) hx hb dX1_rounded_12 hl (by decide) rfl (fun ls hl => ?_)
  refine lv_iload hx hb dX1_rounded_14 (lv_at hl 0 rfl) ?_
  refine lv_aload_n hx hb dX1_rounded_16 rfl (lv_at hl 1 rfl) ?_
  refine fg_RX1_33 hx hb hts hown hA hS hi dX1_rounded_17 ?_
  refine lv_iload_n hx hb dX1_rounded_20 rfl (lv_at hl 3 rfl) ?_
  refine lv_isub hx hb dX1_rounded_21 ?_
  refine va_mmax hx hb (hC.2.2.1.trans hl.1.symm) hown (hts _ w_219) (hts _ w_220) (hts _ w_62) (hts _ w_221) (Nat.le_of_ble_eq_true rfl) (Nat.le_of_ble_eq_true rfl) (Nat.le_refl _) (Nat.le_refl _) dX1_rounded_22 ?_
  refine sm_nmi hv (fun y25_2 ey25_2 hv => ?_)
  refine lv_istore (lv' := [(6, .int y25_2), (5, .int y12_1), (0, .ref (gF g i)), (1, .int x1), (2, .int x2), (3, .long x3)]) hx hb dX1_rounded_25 hl (by decide) rfl (fun ls hl => ?_)
  refine lv_iload_n hx hb dX1_rounded_27 rfl (lv_at hl 4 rfl) ?_
  refine lv_iload hx hb dX1_rounded_28 (lv_at hl 0 rfl) ?_
  refine lv_iadd hx hb dX1_rounded_30 ?_
  refine lv_aload_n hx hb dX1_rounded_31 rfl (lv_at hl 2 rfl) ?_
  refine fg_RX1_33 hx hb hts hown hA hS hi dX1_rounded_32 ?_
  refine lv_isub hx hb dX1_rounded_35 ?_
  refine sm_nmi hv (fun y36_3 ey36_3 hv => ?_)
  refine lv_istore (lv' := [(7, .int y36_3), (6, .int y25_2), (5, .int y12_1), (0, .ref (gF g i)), (1, .int x1), (2, .int x2), (3, .long x3)]) hx hb dX1_rounded_36 hl (by decide) rfl (fun ls hl => ?_)
  refine lv_iload hx hb dX1_rounded_38 (lv_at hl 0 rfl) ?_
  refine lv_aload_n hx hb dX1_rounded_40 rfl (lv_at hl 3 rfl) ?_
  refine fg_RX1_42 hx hb hts hown hA hS hi dX1_rounded_41 ?_
  refine lv_iconst (v := 1) hx hb dX1_rounded_44 (by decide) ?_
  refine lv_isub hx hb dX1_rounded_45 ?_
  refine lv_icmp_lt (tgt := 59) hx hb dX1_rounded_46 (by decide) (fun c46 => ?_) (fun c46 => ?_)
  · have hv := hv.trans (if_pos c46)
    refine lv_iload hx hb dX1_rounded_59 (lv_at hl 1 rfl) ?_
    have k_78 : ∀ (t0_78 : Int64) (ls : Array Slot), lv_has ls 10 [(0, .ref (gF g i)), (1, .int x1), (7, .int y36_3)] → F = f_X1_rounded_78 i x1 y36_3 t0_78 → W p l e (rmd 2) s m args below meth c s.heap [] 0 0 (MQ below (vp_Sl (fun r => r = F)) args s 0 0 (fun _ => False)) (F0 m 78 ls [.long t0_78]) := by
      intro t0_78 ls hl hv
      refine lv_lstore (lv' := [(8, .long t0_78), (0, .ref (gF g i)), (1, .int x1), (7, .int y36_3)]) hx hb dX1_rounded_78 hl (by decide) rfl (fun ls hl => ?_)
      refine lv_aload_n hx hb dX1_rounded_80 rfl (lv_at hl 1 rfl) ?_
      refine lv_iload_n hx hb dX1_rounded_81 rfl (lv_at hl 2 rfl) ?_
      refine lv_iload hx hb dX1_rounded_82 (lv_at hl 3 rfl) ?_
      refine lv_i2l hx hb dX1_rounded_84 rfl ?_
      refine lv_aload_n hx hb dX1_rounded_85 rfl (lv_at hl 1 rfl) ?_
      refine fg_RX1_29 hx hb hts hown hA hS hi dX1_rounded_86 ?_
      refine lv_lshl hx hb dX1_rounded_89 rfl ?_
      refine lv_lload hx hb dX1_rounded_90 (lv_at hl 0 rfl) ?_
      refine lv_ladd hx hb dX1_rounded_92 ?_
      refine sm_cl (sm_runV (rest := []) hC (c_X1_signed l g i x1 (((Int32.toInt64 y36_3) <<< (Int32.toInt64 (kFr i) &&& 63)) + t0_78) hi) k_X1_signed w_222 (by decide) (sm_pf hA hS hi) rfl hl.1 rfl (Nat.le_of_ble_eq_true rfl) dX1_rounded_93) ?_
      exact sm_rl hx hb hr hlocks hv dX1_rounded_96
    refine lv_if_le (tgt := 73) hx hb dX1_rounded_61 (by decide) (fun c61 => ?_) (fun c61 => ?_)
    · have hv := hv.trans (if_pos c61)
      refine lv_lload_n hx hb dX1_rounded_73 rfl (lv_at hl 6 rfl) ?_
      refine lv_iload hx hb dX1_rounded_74 (lv_at hl 1 rfl) ?_
      refine lv_ineg hx hb dX1_rounded_76 ?_
      refine lv_lshl hx hb dX1_rounded_77 rfl ?_
      exact k_78 (x3 <<< (Int32.toInt64 (-y25_2) &&& 63)) _ (lv_sub hl [3, 4, 0] rfl) hv
    · have hv := hv.trans (if_neg c61)
      refine lv_lload_n hx hb dX1_rounded_64 rfl (lv_at hl 6 rfl) ?_
      refine lv_iload hx hb dX1_rounded_65 (lv_at hl 1 rfl) ?_
      refine sm_cl (sm_runS (rest := []) hC (c_X1_shiftedToEven l g x3 y25_2) k_X1_shiftedToEven w_226 (by decide) (sm_ps hA hS) rfl hl.1 rfl (Nat.le_of_ble_eq_true rfl) dX1_rounded_67) ?_
      refine lv_goto (tgt := 78) hx hb dX1_rounded_70 (by decide) ?_
      exact k_78 (f_X1_shiftedToEven x3 y25_2) _ (lv_sub hl [3, 4, 0] rfl) hv
  · have hv := hv.trans (if_neg c46)
    refine lv_aload_n hx hb dX1_rounded_49 rfl (lv_at hl 3 rfl) ?_
    refine lv_iload_n hx hb dX1_rounded_50 rfl (lv_at hl 4 rfl) ?_
    refine lv_aload_n hx hb dX1_rounded_51 rfl (lv_at hl 3 rfl) ?_
    refine fg_RX1_45 hx hb hts hown hA hS hi dX1_rounded_52 ?_
    refine sm_cl (sm_runV (rest := []) hC (c_X1_signed l g i x1 (kIn i) hi) k_X1_signed w_222 (by decide) (sm_pf hA hS hi) rfl hl.1 rfl (Nat.le_of_ble_eq_true rfl) dX1_rounded_55) ?_
    exact sm_rl hx hb hr hlocks hv dX1_rounded_58
def f_X1_least (i : Nat) (x1 : Int64) (x3 : Int64) : Int64 := if (f_X1_isNan i x1) = 0 then (if (f_X1_isNan i x3) = 0 then (if (f_X1_order i x1) = (f_X1_order i x3) then (x1 ||| x3) else (if (f_X1_order i x3) ≤ (f_X1_order i x1) then x3 else x1)) else (kNa i)) else (kNa i)
set_option maxRecDepth 100000 in
set_option maxHeartbeats 4000000 in
theorem c_X1_least (l : Launch) (g : sm_G) (i : Nat) (x1 : Int64) (x3 : Int64) (hi : i < 2)  : Met l yX1_least (sm_ws yX1_least cX1_least 5 (some .long)) (rmd 2) (va_Pc [.ref (gF g i), .long x1, .long x3] (sm_P0 g)) (vp_Sl (fun r => r = f_X1_least i x1 x3)) 0 0 (fun _ => False) := by
  generalize hv : f_X1_least i x1 x3 = F
  replace hv := hv.symm
  refine sm_mP (by decide) (Nat.le_of_ble_eq_true rfl) (fun p e s m args below meth c C hA ls hl => ?_)
  obtain ⟨hC, hr, hlocks⟩ := C
  have hx := hC.1
  have hb := hC.2.1
  have hts := hC.2.2.2.2
  have hown : s.vm.findClass RX1 = some m.cls := hC.2.2.2.1
  have hS : va_S (fun _ => False) s.heap s.heap [] := va_S.rf
  have hl : lv_has ls 5 [(0, .ref (gF g i)), (1, .long x1), (3, .long x3)] := hl
  refine lv_aload_n hx hb dX1_least_0 rfl (lv_at hl 0 rfl) ?_
  refine lv_lload_n hx hb dX1_least_1 rfl (lv_at hl 1 rfl) ?_
  refine sm_ci (sm_runV (rest := []) hC (c_X1_isNan l g i x1 hi) k_X1_isNan w_154 (by decide) (sm_pf hA hS hi) rfl hl.1 rfl (Nat.le_of_ble_eq_true rfl) dX1_least_2) ?_
  refine lv_if_ne (tgt := 16) hx hb dX1_least_5 (by decide) (fun c5 => ?_) (fun c5 => ?_)
  · have hv := hv.trans (if_neg c5)
    refine lv_aload_n hx hb dX1_least_16 rfl (lv_at hl 0 rfl) ?_
    refine fg_RX1_48 hx hb hts hown hA hS hi dX1_least_17 ?_
    exact sm_rl hx hb hr hlocks hv dX1_least_20
  · have hv := hv.trans (if_pos c5)
    refine lv_aload_n hx hb dX1_least_8 rfl (lv_at hl 0 rfl) ?_
    refine lv_lload_n hx hb dX1_least_9 rfl (lv_at hl 2 rfl) ?_
    refine sm_ci (sm_runV (rest := []) hC (c_X1_isNan l g i x3 hi) k_X1_isNan w_154 (by decide) (sm_pf hA hS hi) rfl hl.1 rfl (Nat.le_of_ble_eq_true rfl) dX1_least_10) ?_
    refine lv_if_eq (tgt := 21) hx hb dX1_least_13 (by decide) (fun c13 => ?_) (fun c13 => ?_)
    · have hv := hv.trans (if_pos c13)
      refine lv_aload_n hx hb dX1_least_21 rfl (lv_at hl 0 rfl) ?_
      refine lv_lload_n hx hb dX1_least_22 rfl (lv_at hl 1 rfl) ?_
      refine sm_cl (sm_runV (rest := []) hC (c_X1_order l g i x1 hi) k_X1_order w_352 (by decide) (sm_pf hA hS hi) rfl hl.1 rfl (Nat.le_of_ble_eq_true rfl) dX1_least_23) ?_
      refine lv_aload_n hx hb dX1_least_26 rfl (lv_at hl 0 rfl) ?_
      refine lv_lload_n hx hb dX1_least_27 rfl (lv_at hl 2 rfl) ?_
      refine sm_cl (sm_runV (rest := [.long (f_X1_order i x1)]) hC (c_X1_order l g i x3 hi) k_X1_order w_352 (by decide) (sm_pf hA hS hi) rfl hl.1 rfl (Nat.le_of_ble_eq_true rfl) dX1_least_28) ?_
      refine lc_ne (tgt := 41) hx hb dX1_least_31 dX1_least_32 (by decide) (fun c31 => ?_) (fun c31 => ?_)
      · have hv := hv.trans (if_neg c31)
        refine lv_aload_n hx hb dX1_least_41 rfl (lv_at hl 0 rfl) ?_
        refine lv_lload_n hx hb dX1_least_42 rfl (lv_at hl 1 rfl) ?_
        refine sm_cl (sm_runV (rest := []) hC (c_X1_order l g i x1 hi) k_X1_order w_352 (by decide) (sm_pf hA hS hi) rfl hl.1 rfl (Nat.le_of_ble_eq_true rfl) dX1_least_43) ?_
        refine lv_aload_n hx hb dX1_least_46 rfl (lv_at hl 0 rfl) ?_
        refine lv_lload_n hx hb dX1_least_47 rfl (lv_at hl 2 rfl) ?_
        refine sm_cl (sm_runV (rest := [.long (f_X1_order i x1)]) hC (c_X1_order l g i x3 hi) k_X1_order w_352 (by decide) (sm_pf hA hS hi) rfl hl.1 rfl (Nat.le_of_ble_eq_true rfl) dX1_least_48) ?_
        refine lc_ge (tgt := 59) hx hb dX1_least_51 dX1_least_52 (by decide) (fun c51 => ?_) (fun c51 => ?_)
        · have hv := hv.trans (if_pos c51)
          refine lv_lload_n hx hb dX1_least_59 rfl (lv_at hl 2 rfl) ?_
          exact sm_rl hx hb hr hlocks hv dX1_least_60
        · have hv := hv.trans (if_neg c51)
          refine lv_lload_n hx hb dX1_least_55 rfl (lv_at hl 1 rfl) ?_
          refine lv_goto (tgt := 60) hx hb dX1_least_56 (by decide) ?_
          exact sm_rl hx hb hr hlocks hv dX1_least_60
      · have hv := hv.trans (if_pos c31)
        refine lv_lload_n hx hb dX1_least_35 rfl (lv_at hl 1 rfl) ?_
        refine lv_lload_n hx hb dX1_least_36 rfl (lv_at hl 2 rfl) ?_
        refine lv_lor hx hb dX1_least_37 ?_
        refine lv_goto (tgt := 60) hx hb dX1_least_38 (by decide) ?_
        exact sm_rl hx hb hr hlocks hv dX1_least_60
    · have hv := hv.trans (if_neg c13)
      refine lv_aload_n hx hb dX1_least_16 rfl (lv_at hl 0 rfl) ?_
      refine fg_RX1_48 hx hb hts hown hA hS hi dX1_least_17 ?_
      exact sm_rl hx hb hr hlocks hv dX1_least_20
def f_X1_greatest (i : Nat) (x1 : Int64) (x3 : Int64) : Int64 := if (f_X1_isNan i x1) = 0 then (if (f_X1_isNan i x3) = 0 then (if (f_X1_order i x1) = (f_X1_order i x3) then (x1 &&& x3) else (if (f_X1_order i x1) ≤ (f_X1_order i x3) then x3 else x1)) else (kNa i)) else (kNa i)
set_option maxRecDepth 100000 in
set_option maxHeartbeats 4000000 in
theorem c_X1_greatest (l : Launch) (g : sm_G) (i : Nat) (x1 : Int64) (x3 : Int64) (hi : i < 2)  : Met l yX1_greatest (sm_ws yX1_greatest cX1_greatest 5 (some .long)) (rmd 2) (va_Pc [.ref (gF g i), .long x1, .long x3] (sm_P0 g)) (vp_Sl (fun r => r = f_X1_greatest i x1 x3)) 0 0 (fun _ => False) := by
  generalize hv : f_X1_greatest i x1 x3 = F
  replace hv := hv.symm
  refine sm_mP (by decide) (Nat.le_of_ble_eq_true rfl) (fun p e s m args below meth c C hA ls hl => ?_)
  obtain ⟨hC, hr, hlocks⟩ := C
  have hx := hC.1
  have hb := hC.2.1
  have hts := hC.2.2.2.2
  have hown : s.vm.findClass RX1 = some m.cls := hC.2.2.2.1
  have hS : va_S (fun _ => False) s.heap s.heap [] := va_S.rf
  have hl : lv_has ls 5 [(0, .ref (gF g i)), (1, .long x1), (3, .long x3)] := hl
  refine lv_aload_n hx hb dX1_greatest_0 rfl (lv_at hl 0 rfl) ?_
  refine lv_lload_n hx hb dX1_greatest_1 rfl (lv_at hl 1 rfl) ?_
  refine sm_ci (sm_runV (rest := []) hC (c_X1_isNan l g i x1 hi) k_X1_isNan w_154 (by decide) (sm_pf hA hS hi) rfl hl.1 rfl (Nat.le_of_ble_eq_true rfl) dX1_greatest_2) ?_
  refine lv_if_ne (tgt := 16) hx hb dX1_greatest_5 (by decide) (fun c5 => ?_) (fun c5 => ?_)
  · have hv := hv.trans (if_neg c5)
    refine lv_aload_n hx hb dX1_greatest_16 rfl (lv_at hl 0 rfl) ?_
    refine fg_RX1_48 hx hb hts hown hA hS hi dX1_greatest_17 ?_
    exact sm_rl hx hb hr hlocks hv dX1_greatest_20
  · have hv := hv.trans (if_pos c5)
    refine lv_aload_n hx hb dX1_greatest_8 rfl (lv_at hl 0 rfl) ?_
    refine lv_lload_n hx hb dX1_greatest_9 rfl (lv_at hl 2 rfl) ?_
    refine sm_ci (sm_runV (rest := []) hC (c_X1_isNan l g i x3 hi) k_X1_isNan w_154 (by decide) (sm_pf hA hS hi) rfl hl.1 rfl (Nat.le_of_ble_eq_true rfl) dX1_greatest_10) ?_
    refine lv_if_eq (tgt := 21) hx hb dX1_greatest_13 (by decide) (fun c13 => ?_) (fun c13 => ?_)
    · have hv := hv.trans (if_pos c13)
      refine lv_aload_n hx hb dX1_greatest_21 rfl (lv_at hl 0 rfl) ?_
      refine lv_lload_n hx hb dX1_greatest_22 rfl (lv_at hl 1 rfl) ?_
      refine sm_cl (sm_runV (rest := []) hC (c_X1_order l g i x1 hi) k_X1_order w_352 (by decide) (sm_pf hA hS hi) rfl hl.1 rfl (Nat.le_of_ble_eq_true rfl) dX1_greatest_23) ?_
      refine lv_aload_n hx hb dX1_greatest_26 rfl (lv_at hl 0 rfl) ?_
      refine lv_lload_n hx hb dX1_greatest_27 rfl (lv_at hl 2 rfl) ?_
      refine sm_cl (sm_runV (rest := [.long (f_X1_order i x1)]) hC (c_X1_order l g i x3 hi) k_X1_order w_352 (by decide) (sm_pf hA hS hi) rfl hl.1 rfl (Nat.le_of_ble_eq_true rfl) dX1_greatest_28) ?_
      refine lc_ne (tgt := 41) hx hb dX1_greatest_31 dX1_greatest_32 (by decide) (fun c31 => ?_) (fun c31 => ?_)
      · have hv := hv.trans (if_neg c31)
        refine lv_aload_n hx hb dX1_greatest_41 rfl (lv_at hl 0 rfl) ?_
        refine lv_lload_n hx hb dX1_greatest_42 rfl (lv_at hl 1 rfl) ?_
        refine sm_cl (sm_runV (rest := []) hC (c_X1_order l g i x1 hi) k_X1_order w_352 (by decide) (sm_pf hA hS hi) rfl hl.1 rfl (Nat.le_of_ble_eq_true rfl) dX1_greatest_43) ?_
        refine lv_aload_n hx hb dX1_greatest_46 rfl (lv_at hl 0 rfl) ?_
        refine lv_lload_n hx hb dX1_greatest_47 rfl (lv_at hl 2 rfl) ?_
        refine sm_cl (sm_runV (rest := [.long (f_X1_order i x1)]) hC (c_X1_order l g i x3 hi) k_X1_order w_352 (by decide) (sm_pf hA hS hi) rfl hl.1 rfl (Nat.le_of_ble_eq_true rfl) dX1_greatest_48) ?_
        refine lc_le (tgt := 59) hx hb dX1_greatest_51 dX1_greatest_52 (by decide) (fun c51 => ?_) (fun c51 => ?_)
        · have hv := hv.trans (if_pos c51)
          refine lv_lload_n hx hb dX1_greatest_59 rfl (lv_at hl 2 rfl) ?_
          exact sm_rl hx hb hr hlocks hv dX1_greatest_60
        · have hv := hv.trans (if_neg c51)
          refine lv_lload_n hx hb dX1_greatest_55 rfl (lv_at hl 1 rfl) ?_
          refine lv_goto (tgt := 60) hx hb dX1_greatest_56 (by decide) ?_
          exact sm_rl hx hb hr hlocks hv dX1_greatest_60
      · have hv := hv.trans (if_pos c31)
        refine lv_lload_n hx hb dX1_greatest_35 rfl (lv_at hl 1 rfl) ?_
        refine lv_lload_n hx hb dX1_greatest_36 rfl (lv_at hl 2 rfl) ?_
        refine lv_land hx hb dX1_greatest_37 ?_
        refine lv_goto (tgt := 60) hx hb dX1_greatest_38 (by decide) ?_
        exact sm_rl hx hb hr hlocks hv dX1_greatest_60
    · have hv := hv.trans (if_neg c13)
      refine lv_aload_n hx hb dX1_greatest_16 rfl (lv_at hl 0 rfl) ?_
      refine fg_RX1_48 hx hb hts hown hA hS hi dX1_greatest_17 ?_
      exact sm_rl hx hb hr hlocks hv dX1_greatest_20
def f_X1_compared (i : Nat) (x1 : Int64) (x3 : Int64) (x5 : Int32) : Int32 := if (f_X1_isNan i x1) = 0 then (if (f_X1_isNan i x3) = 0 then (f_J13_compare_74951 (f_X1_order i x1) (f_X1_order i x3)) else x5) else x5
set_option maxRecDepth 100000 in
set_option maxHeartbeats 4000000 in
theorem c_X1_compared (l : Launch) (g : sm_G) (i : Nat) (x1 : Int64) (x3 : Int64) (x5 : Int32) (hi : i < 2)  : Met l yX1_compared (sm_ws yX1_compared cX1_compared 6 (some .int)) (rmd 2) (va_Pc [.ref (gF g i), .long x1, .long x3, .int x5] (sm_P0 g)) (vp_Si (fun r => r = f_X1_compared i x1 x3 x5)) 0 0 (fun _ => False) := by
  generalize hv : f_X1_compared i x1 x3 x5 = F
  replace hv := hv.symm
  refine sm_mP (by decide) (Nat.le_of_ble_eq_true rfl) (fun p e s m args below meth c C hA ls hl => ?_)
  obtain ⟨hC, hr, hlocks⟩ := C
  have hx := hC.1
  have hb := hC.2.1
  have hts := hC.2.2.2.2
  have hown : s.vm.findClass RX1 = some m.cls := hC.2.2.2.1
  have hS : va_S (fun _ => False) s.heap s.heap [] := va_S.rf
  have hl : lv_has ls 6 [(0, .ref (gF g i)), (1, .long x1), (3, .long x3), (5, .int x5)] := hl
  refine lv_aload_n hx hb dX1_compared_0 rfl (lv_at hl 0 rfl) ?_
  refine lv_lload_n hx hb dX1_compared_1 rfl (lv_at hl 1 rfl) ?_
  refine sm_ci (sm_runV (rest := []) hC (c_X1_isNan l g i x1 hi) k_X1_isNan w_154 (by decide) (sm_pf hA hS hi) rfl hl.1 rfl (Nat.le_of_ble_eq_true rfl) dX1_compared_2) ?_
  refine lv_if_ne (tgt := 16) hx hb dX1_compared_5 (by decide) (fun c5 => ?_) (fun c5 => ?_)
  · have hv := hv.trans (if_neg c5)
    refine lv_iload hx hb dX1_compared_16 (lv_at hl 3 rfl) ?_
    refine lv_goto (tgt := 34) hx hb dX1_compared_18 (by decide) ?_
    exact sm_ri hx hb hr hlocks hv dX1_compared_34
  · have hv := hv.trans (if_pos c5)
    refine lv_aload_n hx hb dX1_compared_8 rfl (lv_at hl 0 rfl) ?_
    refine lv_lload_n hx hb dX1_compared_9 rfl (lv_at hl 2 rfl) ?_
    refine sm_ci (sm_runV (rest := []) hC (c_X1_isNan l g i x3 hi) k_X1_isNan w_154 (by decide) (sm_pf hA hS hi) rfl hl.1 rfl (Nat.le_of_ble_eq_true rfl) dX1_compared_10) ?_
    refine lv_if_eq (tgt := 21) hx hb dX1_compared_13 (by decide) (fun c13 => ?_) (fun c13 => ?_)
    · have hv := hv.trans (if_pos c13)
      refine lv_aload_n hx hb dX1_compared_21 rfl (lv_at hl 0 rfl) ?_
      refine lv_lload_n hx hb dX1_compared_22 rfl (lv_at hl 1 rfl) ?_
      refine sm_cl (sm_runV (rest := []) hC (c_X1_order l g i x1 hi) k_X1_order w_352 (by decide) (sm_pf hA hS hi) rfl hl.1 rfl (Nat.le_of_ble_eq_true rfl) dX1_compared_23) ?_
      refine lv_aload_n hx hb dX1_compared_26 rfl (lv_at hl 0 rfl) ?_
      refine lv_lload_n hx hb dX1_compared_27 rfl (lv_at hl 2 rfl) ?_
      refine sm_cl (sm_runV (rest := [.long (f_X1_order i x1)]) hC (c_X1_order l g i x3 hi) k_X1_order w_352 (by decide) (sm_pf hA hS hi) rfl hl.1 rfl (Nat.le_of_ble_eq_true rfl) dX1_compared_28) ?_
      refine sm_ci (sm_runS (rest := []) hC (c_J13_compare_74951 l g (f_X1_order i x1) (f_X1_order i x3)) k_J13_compare_74951 w_364 (by decide) (sm_ps hA hS) rfl hl.1 rfl (Nat.le_of_ble_eq_true rfl) dX1_compared_31) ?_
      exact sm_ri hx hb hr hlocks hv dX1_compared_34
    · have hv := hv.trans (if_neg c13)
      refine lv_iload hx hb dX1_compared_16 (lv_at hl 3 rfl) ?_
      refine lv_goto (tgt := 34) hx hb dX1_compared_18 (by decide) ?_
      exact sm_ri hx hb hr hlocks hv dX1_compared_34
def f_X1_ofWhole_38 (i : Nat) (x1 : Int64) (t0_38 : Int32) : Int64 := f_X1_rounded i t0_38 0 (sm_absL x1)
def f_X1_ofWhole (i : Nat) (x1 : Int64) : Int64 := if x1 = 0 then 0 else (if x1 = ((-9223372036854775808)) then (f_X1_rounded i 1 1 4611686018427387904) else (if 0 ≤ x1 then (f_X1_ofWhole_38 i x1 0) else (f_X1_ofWhole_38 i x1 1)))
set_option maxRecDepth 100000 in
set_option maxHeartbeats 4000000 in
theorem c_X1_ofWhole (l : Launch) (g : sm_G) (i : Nat) (x1 : Int64) (hi : i < 2)  : Met l yX1_ofWhole (sm_ws yX1_ofWhole cX1_ofWhole 3 (some .long)) (rmd 3) (va_Pc [.ref (gF g i), .long x1] (sm_P0 g)) (vp_Sl (fun r => r = f_X1_ofWhole i x1)) 0 0 (fun _ => False) := by
  generalize hv : f_X1_ofWhole i x1 = F
  replace hv := hv.symm
  refine sm_mP (by decide) (Nat.le_of_ble_eq_true rfl) (fun p e s m args below meth c C hA ls hl => ?_)
  obtain ⟨hC, hr, hlocks⟩ := C
  have hx := hC.1
  have hb := hC.2.1
  have hts := hC.2.2.2.2
  have hown : s.vm.findClass RX1 = some m.cls := hC.2.2.2.1
  have hS : va_S (fun _ => False) s.heap s.heap [] := va_S.rf
  have hl : lv_has ls 3 [(0, .ref (gF g i)), (1, .long x1)] := hl
  refine lv_lload_n hx hb dX1_ofWhole_0 rfl (lv_at hl 1 rfl) ?_
  refine lv_lconst (v := 0) hx hb dX1_ofWhole_1 (by decide) ?_
  refine lc_ne (tgt := 8) hx hb dX1_ofWhole_2 dX1_ofWhole_3 (by decide) (fun c2 => ?_) (fun c2 => ?_)
  · have hv := hv.trans (if_neg c2)
    refine lv_lload_n hx hb dX1_ofWhole_8 rfl (lv_at hl 1 rfl) ?_
    refine lv_ldc2 hx hb hown (hts _ w_206) dX1_ofWhole_9 ?_
    refine lc_ne (tgt := 26) hx hb dX1_ofWhole_12 dX1_ofWhole_13 (by decide) (fun c12 => ?_) (fun c12 => ?_)
    · have hv := hv.trans (if_neg c12)
      refine lv_aload_n hx hb dX1_ofWhole_26 rfl (lv_at hl 0 rfl) ?_
      refine lv_lload_n hx hb dX1_ofWhole_27 rfl (lv_at hl 1 rfl) ?_
      refine lv_lconst (v := 0) hx hb dX1_ofWhole_28 (by decide) ?_
      have k_38 : ∀ (t0_38 : Int32) (ls : Array Slot), lv_has ls 3 [(1, .long x1)] → F = f_X1_ofWhole_38 i x1 t0_38 → W p l e (rmd 3) s m args below meth c s.heap [] 0 0 (MQ below (vp_Sl (fun r => r = F)) args s 0 0 (fun _ => False)) (F0 m 38 ls [.int t0_38, .ref (gF g i)]) := by
        intro t0_38 ls hl hv
        refine lv_iconst (v := 0) hx hb dX1_ofWhole_38 (by decide) ?_
        refine lv_lload_n hx hb dX1_ofWhole_39 rfl (lv_at hl 0 rfl) ?_
        refine va_mabs_long hx hb (hC.2.2.1.trans hl.1.symm) hown (hts _ w_229) (hts _ w_230) (hts _ w_62) (hts _ w_231) (Nat.le_of_ble_eq_true rfl) (Nat.le_of_ble_eq_true rfl) (Nat.le_refl _) (Nat.le_refl _) dX1_ofWhole_40 ?_
        refine sm_cl (sm_runV (rest := []) hC (c_X1_rounded l g i t0_38 0 (sm_absL x1) hi) k_X1_rounded w_208 (by decide) (sm_pf hA hS hi) rfl hl.1 rfl (Nat.le_of_ble_eq_true rfl) dX1_ofWhole_43) ?_
        exact sm_rl hx hb hr hlocks hv dX1_ofWhole_46
      refine lc_ge (tgt := 37) hx hb dX1_ofWhole_29 dX1_ofWhole_30 (by decide) (fun c29 => ?_) (fun c29 => ?_)
      · have hv := hv.trans (if_pos c29)
        refine lv_iconst (v := 0) hx hb dX1_ofWhole_37 (by decide) ?_
        exact k_38 0 _ (lv_sub hl [1] rfl) hv
      · have hv := hv.trans (if_neg c29)
        refine lv_iconst (v := 1) hx hb dX1_ofWhole_33 (by decide) ?_
        refine lv_goto (tgt := 38) hx hb dX1_ofWhole_34 (by decide) ?_
        exact k_38 1 _ (lv_sub hl [1] rfl) hv
    · have hv := hv.trans (if_pos c12)
      refine lv_aload_n hx hb dX1_ofWhole_16 rfl (lv_at hl 0 rfl) ?_
      refine lv_iconst (v := 1) hx hb dX1_ofWhole_17 (by decide) ?_
      refine lv_iconst (v := 1) hx hb dX1_ofWhole_18 (by decide) ?_
      refine lv_ldc2 hx hb hown (hts _ w_207) dX1_ofWhole_19 ?_
      refine sm_cl (sm_runV (rest := []) hC (c_X1_rounded l g i 1 1 4611686018427387904 hi) k_X1_rounded w_208 (by decide) (sm_pf hA hS hi) rfl hl.1 rfl (Nat.le_of_ble_eq_true rfl) dX1_ofWhole_22) ?_
      exact sm_rl hx hb hr hlocks hv dX1_ofWhole_25
  · have hv := hv.trans (if_pos c2)
    refine lv_lconst (v := 0) hx hb dX1_ofWhole_6 (by decide) ?_
    exact sm_rl hx hb hr hlocks hv dX1_ofWhole_7
def f_X1_ofOther (i : Nat) (j : Nat) (x2 : Int64) : Int64 := if (f_X1_isNan j x2) = 0 then (if (f_X1_isInfinite j x2) = 0 then (if (f_X1_isZero j x2) = 0 then (f_X1_rounded i (f_X1_isNegative j x2) (f_X1_exponent j x2) (f_X1_significand j x2)) else (f_X1_signed i (f_X1_isNegative j x2) 0)) else (f_X1_signed i (f_X1_isNegative j x2) (kIn i))) else (kNa i)
set_option maxRecDepth 100000 in
set_option maxHeartbeats 4000000 in
theorem c_X1_ofOther (l : Launch) (g : sm_G) (i : Nat) (j : Nat) (x2 : Int64) (hi : i < 2) (hj2 : j < 2)  : Met l yX1_ofOther (sm_ws yX1_ofOther cX1_ofOther 4 (some .long)) (rmd 4) (va_Pc [.ref (gF g i), .ref (gF g j), .long x2] (sm_P0 g)) (vp_Sl (fun r => r = f_X1_ofOther i j x2)) 0 0 (fun _ => False) := by
  generalize hv : f_X1_ofOther i j x2 = F
  replace hv := hv.symm
  refine sm_mP (by decide) (Nat.le_of_ble_eq_true rfl) (fun p e s m args below meth c C hA ls hl => ?_)
  obtain ⟨hC, hr, hlocks⟩ := C
  have hx := hC.1
  have hb := hC.2.1
  have hts := hC.2.2.2.2
  have hown : s.vm.findClass RX1 = some m.cls := hC.2.2.2.1
  have hS : va_S (fun _ => False) s.heap s.heap [] := va_S.rf
  have hl : lv_has ls 4 [(0, .ref (gF g i)), (1, .ref (gF g j)), (2, .long x2)] := hl
  refine lv_aload_n hx hb dX1_ofOther_0 rfl (lv_at hl 1 rfl) ?_
  refine lv_lload_n hx hb dX1_ofOther_1 rfl (lv_at hl 2 rfl) ?_
  refine sm_ci (sm_runV (rest := []) hC (c_X1_isNan l g j x2 hj2) k_X1_isNan w_154 (by decide) (sm_pf hA hS hj2) rfl hl.1 rfl (Nat.le_of_ble_eq_true rfl) dX1_ofOther_2) ?_
  refine lv_if_eq (tgt := 13) hx hb dX1_ofOther_5 (by decide) (fun c5 => ?_) (fun c5 => ?_)
  · have hv := hv.trans (if_pos c5)
    refine lv_aload_n hx hb dX1_ofOther_13 rfl (lv_at hl 1 rfl) ?_
    refine lv_lload_n hx hb dX1_ofOther_14 rfl (lv_at hl 2 rfl) ?_
    refine sm_ci (sm_runV (rest := []) hC (c_X1_isInfinite l g j x2 hj2) k_X1_isInfinite w_252 (by decide) (sm_pf hA hS hj2) rfl hl.1 rfl (Nat.le_of_ble_eq_true rfl) dX1_ofOther_15) ?_
    refine lv_if_eq (tgt := 35) hx hb dX1_ofOther_18 (by decide) (fun c18 => ?_) (fun c18 => ?_)
    · have hv := hv.trans (if_pos c18)
      refine lv_aload_n hx hb dX1_ofOther_35 rfl (lv_at hl 1 rfl) ?_
      refine lv_lload_n hx hb dX1_ofOther_36 rfl (lv_at hl 2 rfl) ?_
      refine sm_ci (sm_runV (rest := []) hC (c_X1_isZero l g j x2 hj2) k_X1_isZero w_237 (by decide) (sm_pf hA hS hj2) rfl hl.1 rfl (Nat.le_of_ble_eq_true rfl) dX1_ofOther_37) ?_
      refine lv_if_eq (tgt := 54) hx hb dX1_ofOther_40 (by decide) (fun c40 => ?_) (fun c40 => ?_)
      · have hv := hv.trans (if_pos c40)
        refine lv_aload_n hx hb dX1_ofOther_54 rfl (lv_at hl 0 rfl) ?_
        refine lv_aload_n hx hb dX1_ofOther_55 rfl (lv_at hl 1 rfl) ?_
        refine lv_lload_n hx hb dX1_ofOther_56 rfl (lv_at hl 2 rfl) ?_
        refine sm_ci (sm_runV (rest := [.ref (gF g i)]) hC (c_X1_isNegative l g j x2 hj2) k_X1_isNegative w_256 (by decide) (sm_pf hA hS hj2) rfl hl.1 rfl (Nat.le_of_ble_eq_true rfl) dX1_ofOther_57) ?_
        refine lv_aload_n hx hb dX1_ofOther_60 rfl (lv_at hl 1 rfl) ?_
        refine lv_lload_n hx hb dX1_ofOther_61 rfl (lv_at hl 2 rfl) ?_
        refine sm_ci (sm_runV (rest := [.int (f_X1_isNegative j x2), .ref (gF g i)]) hC (c_X1_exponent l g j x2 hj2) k_X1_exponent w_241 (by decide) (sm_pf hA hS hj2) rfl hl.1 rfl (Nat.le_of_ble_eq_true rfl) dX1_ofOther_62) ?_
        refine lv_aload_n hx hb dX1_ofOther_65 rfl (lv_at hl 1 rfl) ?_
        refine lv_lload_n hx hb dX1_ofOther_66 rfl (lv_at hl 2 rfl) ?_
        refine sm_cl (sm_runV (rest := [.int (f_X1_exponent j x2), .int (f_X1_isNegative j x2), .ref (gF g i)]) hC (c_X1_significand l g j x2 hj2) k_X1_significand w_261 (by decide) (sm_pf hA hS hj2) rfl hl.1 rfl (Nat.le_of_ble_eq_true rfl) dX1_ofOther_67) ?_
        refine sm_cl (sm_runV (rest := []) hC (c_X1_rounded l g i (f_X1_isNegative j x2) (f_X1_exponent j x2) (f_X1_significand j x2) hi) k_X1_rounded w_208 (by decide) (sm_pf hA hS hi) rfl hl.1 rfl (Nat.le_of_ble_eq_true rfl) dX1_ofOther_70) ?_
        exact sm_rl hx hb hr hlocks hv dX1_ofOther_73
      · have hv := hv.trans (if_neg c40)
        refine lv_aload_n hx hb dX1_ofOther_43 rfl (lv_at hl 0 rfl) ?_
        refine lv_aload_n hx hb dX1_ofOther_44 rfl (lv_at hl 1 rfl) ?_
        refine lv_lload_n hx hb dX1_ofOther_45 rfl (lv_at hl 2 rfl) ?_
        refine sm_ci (sm_runV (rest := [.ref (gF g i)]) hC (c_X1_isNegative l g j x2 hj2) k_X1_isNegative w_256 (by decide) (sm_pf hA hS hj2) rfl hl.1 rfl (Nat.le_of_ble_eq_true rfl) dX1_ofOther_46) ?_
        refine lv_lconst (v := 0) hx hb dX1_ofOther_49 (by decide) ?_
        refine sm_cl (sm_runV (rest := []) hC (c_X1_signed l g i (f_X1_isNegative j x2) 0 hi) k_X1_signed w_222 (by decide) (sm_pf hA hS hi) rfl hl.1 rfl (Nat.le_of_ble_eq_true rfl) dX1_ofOther_50) ?_
        exact sm_rl hx hb hr hlocks hv dX1_ofOther_53
    · have hv := hv.trans (if_neg c18)
      refine lv_aload_n hx hb dX1_ofOther_21 rfl (lv_at hl 0 rfl) ?_
      refine lv_aload_n hx hb dX1_ofOther_22 rfl (lv_at hl 1 rfl) ?_
      refine lv_lload_n hx hb dX1_ofOther_23 rfl (lv_at hl 2 rfl) ?_
      refine sm_ci (sm_runV (rest := [.ref (gF g i)]) hC (c_X1_isNegative l g j x2 hj2) k_X1_isNegative w_256 (by decide) (sm_pf hA hS hj2) rfl hl.1 rfl (Nat.le_of_ble_eq_true rfl) dX1_ofOther_24) ?_
      refine lv_aload_n hx hb dX1_ofOther_27 rfl (lv_at hl 0 rfl) ?_
      refine fg_RX1_45 hx hb hts hown hA hS hi dX1_ofOther_28 ?_
      refine sm_cl (sm_runV (rest := []) hC (c_X1_signed l g i (f_X1_isNegative j x2) (kIn i) hi) k_X1_signed w_222 (by decide) (sm_pf hA hS hi) rfl hl.1 rfl (Nat.le_of_ble_eq_true rfl) dX1_ofOther_31) ?_
      exact sm_rl hx hb hr hlocks hv dX1_ofOther_34
  · have hv := hv.trans (if_neg c5)
    refine lv_aload_n hx hb dX1_ofOther_8 rfl (lv_at hl 0 rfl) ?_
    refine fg_RX1_48 hx hb hts hown hA hS hi dX1_ofOther_9 ?_
    exact sm_rl hx hb hr hlocks hv dX1_ofOther_12
def f_X1_truncated_38 (i : Nat) (x1 : Int64) : Int64 := if (f_X1_isNegative i x1) = 0 then 9223372036854775807 else ((-9223372036854775808))
def f_X1_truncated_86 (i : Nat) (x1 : Int64) (t0_86 : Int64) : Int64 := if (f_X1_isNegative i x1) = 0 then t0_86 else (-t0_86)
def f_X1_truncated (i : Nat) (x1 : Int64) : Int64 := if (f_X1_isNan i x1) = 0 then (if (f_X1_isZero i x1) = 0 then (sm_let (f_X1_exponent i x1) (fun y23_1 => if (f_X1_isInfinite i x1) = 0 then (if y23_1 ≤ 10 then (if ((-53)) < y23_1 then (if 0 ≤ y23_1 then (f_X1_truncated_86 i x1 ((f_X1_significand i x1) <<< (Int32.toInt64 y23_1 &&& 63))) else (f_X1_truncated_86 i x1 (UInt64.toInt64 (Int64.toUInt64 (f_X1_significand i x1) >>> (Int64.toUInt64 (Int32.toInt64 (-y23_1)) &&& Int64.toUInt64 63))))) else 0) else (f_X1_truncated_38 i x1)) else (f_X1_truncated_38 i x1))) else 0) else 0
set_option maxRecDepth 100000 in
set_option maxHeartbeats 4000000 in
theorem c_X1_truncated (l : Launch) (g : sm_G) (i : Nat) (x1 : Int64) (hi : i < 2)  : Met l yX1_truncated (sm_ws yX1_truncated cX1_truncated 6 (some .long)) (rmd 4) (va_Pc [.ref (gF g i), .long x1] (sm_P0 g)) (vp_Sl (fun r => r = f_X1_truncated i x1)) 0 0 (fun _ => False) := by
  generalize hv : f_X1_truncated i x1 = F
  replace hv := hv.symm
  refine sm_mP (by decide) (Nat.le_of_ble_eq_true rfl) (fun p e s m args below meth c C hA ls hl => ?_)
  obtain ⟨hC, hr, hlocks⟩ := C
  have hx := hC.1
  have hb := hC.2.1
  have hts := hC.2.2.2.2
  have hown : s.vm.findClass RX1 = some m.cls := hC.2.2.2.1
  have hS : va_S (fun _ => False) s.heap s.heap [] := va_S.rf
  have hl : lv_has ls 6 [(0, .ref (gF g i)), (1, .long x1)] := hl
  refine lv_aload_n hx hb dX1_truncated_0 rfl (lv_at hl 0 rfl) ?_
  refine lv_lload_n hx hb dX1_truncated_1 rfl (lv_at hl 1 rfl) ?_
  refine sm_ci (sm_runV (rest := []) hC (c_X1_isNan l g i x1 hi) k_X1_isNan w_154 (by decide) (sm_pf hA hS hi) rfl hl.1 rfl (Nat.le_of_ble_eq_true rfl) dX1_truncated_2) ?_
  refine lv_if_ne (tgt := 16) hx hb dX1_truncated_5 (by decide) (fun c5 => ?_) (fun c5 => ?_)
  · have hv := hv.trans (if_neg c5)
    refine lv_lconst (v := 0) hx hb dX1_truncated_16 (by decide) ?_
    exact sm_rl hx hb hr hlocks hv dX1_truncated_17
  · have hv := hv.trans (if_pos c5)
    refine lv_aload_n hx hb dX1_truncated_8 rfl (lv_at hl 0 rfl) ?_
    refine lv_lload_n hx hb dX1_truncated_9 rfl (lv_at hl 1 rfl) ?_
    refine sm_ci (sm_runV (rest := []) hC (c_X1_isZero l g i x1 hi) k_X1_isZero w_237 (by decide) (sm_pf hA hS hi) rfl hl.1 rfl (Nat.le_of_ble_eq_true rfl) dX1_truncated_10) ?_
    refine lv_if_eq (tgt := 18) hx hb dX1_truncated_13 (by decide) (fun c13 => ?_) (fun c13 => ?_)
    · have hv := hv.trans (if_pos c13)
      refine lv_aload_n hx hb dX1_truncated_18 rfl (lv_at hl 0 rfl) ?_
      refine lv_lload_n hx hb dX1_truncated_19 rfl (lv_at hl 1 rfl) ?_
      refine sm_ci (sm_runV (rest := []) hC (c_X1_exponent l g i x1 hi) k_X1_exponent w_241 (by decide) (sm_pf hA hS hi) rfl hl.1 rfl (Nat.le_of_ble_eq_true rfl) dX1_truncated_20) ?_
      refine sm_nmi hv (fun y23_1 ey23_1 hv => ?_)
      refine lv_istore_n (lv' := [(3, .int y23_1), (0, .ref (gF g i)), (1, .long x1)]) hx hb dX1_truncated_23 rfl hl (by decide) rfl (fun ls hl => ?_)
      refine lv_aload_n hx hb dX1_truncated_24 rfl (lv_at hl 1 rfl) ?_
      refine lv_lload_n hx hb dX1_truncated_25 rfl (lv_at hl 2 rfl) ?_
      refine sm_ci (sm_runV (rest := []) hC (c_X1_isInfinite l g i x1 hi) k_X1_isInfinite w_252 (by decide) (sm_pf hA hS hi) rfl hl.1 rfl (Nat.le_of_ble_eq_true rfl) dX1_truncated_26) ?_
      have k_38 : ∀  (ls : Array Slot), lv_has ls 6 [(0, .ref (gF g i)), (1, .long x1)] → F = f_X1_truncated_38 i x1 → W p l e (rmd 4) s m args below meth c s.heap [] 0 0 (MQ below (vp_Sl (fun r => r = F)) args s 0 0 (fun _ => False)) (F0 m 38 ls []) := by
        intro ls hl hv
        refine lv_aload_n hx hb dX1_truncated_38 rfl (lv_at hl 0 rfl) ?_
        refine lv_lload_n hx hb dX1_truncated_39 rfl (lv_at hl 1 rfl) ?_
        refine sm_ci (sm_runV (rest := []) hC (c_X1_isNegative l g i x1 hi) k_X1_isNegative w_256 (by decide) (sm_pf hA hS hi) rfl hl.1 rfl (Nat.le_of_ble_eq_true rfl) dX1_truncated_40) ?_
        refine lv_if_eq (tgt := 52) hx hb dX1_truncated_43 (by decide) (fun c43 => ?_) (fun c43 => ?_)
        · have hv := hv.trans (if_pos c43)
          refine lv_ldc2 hx hb hown (hts _ w_260) dX1_truncated_52 ?_
          exact sm_rl hx hb hr hlocks hv dX1_truncated_55
        · have hv := hv.trans (if_neg c43)
          refine lv_ldc2 hx hb hown (hts _ w_206) dX1_truncated_46 ?_
          refine lv_goto (tgt := 55) hx hb dX1_truncated_49 (by decide) ?_
          exact sm_rl hx hb hr hlocks hv dX1_truncated_55
      refine lv_if_ne (tgt := 38) hx hb dX1_truncated_29 (by decide) (fun c29 => ?_) (fun c29 => ?_)
      · have hv := hv.trans (if_neg c29)
        exact k_38 _ (lv_sub hl [1, 2] rfl) hv
      · have hv := hv.trans (if_pos c29)
        refine lv_iload_n hx hb dX1_truncated_32 rfl (lv_at hl 0 rfl) ?_
        refine lv_bipush (v := 10) hx hb dX1_truncated_33 (by decide) ?_
        refine lv_icmp_le (tgt := 56) hx hb dX1_truncated_35 (by decide) (fun c35 => ?_) (fun c35 => ?_)
        · have hv := hv.trans (if_pos c35)
          refine lv_iload_n hx hb dX1_truncated_56 rfl (lv_at hl 0 rfl) ?_
          refine lv_bipush (v := -53) hx hb dX1_truncated_57 (by decide) ?_
          refine lv_icmp_gt (tgt := 64) hx hb dX1_truncated_59 (by decide) (fun c59 => ?_) (fun c59 => ?_)
          · have hv := hv.trans (if_pos c59)
            refine lv_iload_n hx hb dX1_truncated_64 rfl (lv_at hl 0 rfl) ?_
            have k_86 : ∀ (t0_86 : Int64) (ls : Array Slot), lv_has ls 6 [(0, .ref (gF g i)), (1, .long x1)] → F = f_X1_truncated_86 i x1 t0_86 → W p l e (rmd 4) s m args below meth c s.heap [] 0 0 (MQ below (vp_Sl (fun r => r = F)) args s 0 0 (fun _ => False)) (F0 m 86 ls [.long t0_86]) := by
              intro t0_86 ls hl hv
              refine lv_lstore (lv' := [(4, .long t0_86), (0, .ref (gF g i)), (1, .long x1)]) hx hb dX1_truncated_86 hl (by decide) rfl (fun ls hl => ?_)
              refine lv_aload_n hx hb dX1_truncated_88 rfl (lv_at hl 1 rfl) ?_
              refine lv_lload_n hx hb dX1_truncated_89 rfl (lv_at hl 2 rfl) ?_
              refine sm_ci (sm_runV (rest := []) hC (c_X1_isNegative l g i x1 hi) k_X1_isNegative w_256 (by decide) (sm_pf hA hS hi) rfl hl.1 rfl (Nat.le_of_ble_eq_true rfl) dX1_truncated_90) ?_
              refine lv_if_eq (tgt := 102) hx hb dX1_truncated_93 (by decide) (fun c93 => ?_) (fun c93 => ?_)
              · have hv := hv.trans (if_pos c93)
                refine lv_lload hx hb dX1_truncated_102 (lv_at hl 0 rfl) ?_
                exact sm_rl hx hb hr hlocks hv dX1_truncated_104
              · have hv := hv.trans (if_neg c93)
                refine lv_lload hx hb dX1_truncated_96 (lv_at hl 0 rfl) ?_
                refine lv_lneg hx hb dX1_truncated_98 ?_
                refine lv_goto (tgt := 104) hx hb dX1_truncated_99 (by decide) ?_
                exact sm_rl hx hb hr hlocks hv dX1_truncated_104
            refine lv_if_ge (tgt := 79) hx hb dX1_truncated_65 (by decide) (fun c65 => ?_) (fun c65 => ?_)
            · have hv := hv.trans (if_pos c65)
              refine lv_aload_n hx hb dX1_truncated_79 rfl (lv_at hl 1 rfl) ?_
              refine lv_lload_n hx hb dX1_truncated_80 rfl (lv_at hl 2 rfl) ?_
              refine sm_cl (sm_runV (rest := []) hC (c_X1_significand l g i x1 hi) k_X1_significand w_261 (by decide) (sm_pf hA hS hi) rfl hl.1 rfl (Nat.le_of_ble_eq_true rfl) dX1_truncated_81) ?_
              refine lv_iload_n hx hb dX1_truncated_84 rfl (lv_at hl 0 rfl) ?_
              refine lv_lshl hx hb dX1_truncated_85 rfl ?_
              exact k_86 ((f_X1_significand i x1) <<< (Int32.toInt64 y23_1 &&& 63)) _ (lv_sub hl [1, 2] rfl) hv
            · have hv := hv.trans (if_neg c65)
              refine lv_aload_n hx hb dX1_truncated_68 rfl (lv_at hl 1 rfl) ?_
              refine lv_lload_n hx hb dX1_truncated_69 rfl (lv_at hl 2 rfl) ?_
              refine sm_cl (sm_runV (rest := []) hC (c_X1_significand l g i x1 hi) k_X1_significand w_261 (by decide) (sm_pf hA hS hi) rfl hl.1 rfl (Nat.le_of_ble_eq_true rfl) dX1_truncated_70) ?_
              refine lv_iload_n hx hb dX1_truncated_73 rfl (lv_at hl 0 rfl) ?_
              refine lv_ineg hx hb dX1_truncated_74 ?_
              refine lv_lushr hx hb dX1_truncated_75 rfl ?_
              refine lv_goto (tgt := 86) hx hb dX1_truncated_76 (by decide) ?_
              exact k_86 (UInt64.toInt64 (Int64.toUInt64 (f_X1_significand i x1) >>> (Int64.toUInt64 (Int32.toInt64 (-y23_1)) &&& Int64.toUInt64 63))) _ (lv_sub hl [1, 2] rfl) hv
          · have hv := hv.trans (if_neg c59)
            refine lv_lconst (v := 0) hx hb dX1_truncated_62 (by decide) ?_
            exact sm_rl hx hb hr hlocks hv dX1_truncated_63
        · have hv := hv.trans (if_neg c35)
          exact k_38 _ (lv_sub hl [1, 2] rfl) hv
    · have hv := hv.trans (if_neg c13)
      refine lv_lconst (v := 0) hx hb dX1_truncated_16 (by decide) ?_
      exact sm_rl hx hb hr hlocks hv dX1_truncated_17
def f_X1_sumInOrder_107 (i : Nat) (y76_4 : Int64) (y5_1 : Int32) (t0_107 : Int32) : Int64 := f_X1_rounded i t0_107 (y5_1 - 9) (sm_absL y76_4)
def f_X1_sumInOrder (i : Nat) (x1 : Int64) (x3 : Int64) : Int64 := sm_let (f_X1_exponent i x1) (fun y5_1 => sm_let ((f_X1_significand i x1) <<< (Int32.toInt64 9 &&& 63)) (fun y15_2 => sm_let (f_X1_shiftedDown ((f_X1_significand i x3) <<< (Int32.toInt64 9 &&& 63)) (y5_1 - (f_X1_exponent i x3))) (fun y36_3 => if (f_X1_isNegative i x1) = (f_X1_isNegative i x3) then (f_X1_rounded i (f_X1_isNegative i x1) (y5_1 - 9) (y15_2 + y36_3)) else (sm_let (y15_2 - y36_3) (fun y76_4 => if y76_4 = 0 then 0 else (if y76_4 ≤ 0 then (f_X1_sumInOrder_107 i y76_4 y5_1 (f_X1_isNegative i x3)) else (f_X1_sumInOrder_107 i y76_4 y5_1 (f_X1_isNegative i x1))))))))
set_option maxRecDepth 100000 in
set_option maxHeartbeats 4000000 in
theorem c_X1_sumInOrder (l : Launch) (g : sm_G) (i : Nat) (x1 : Int64) (x3 : Int64) (hi : i < 2)  : Met l yX1_sumInOrder (sm_ws yX1_sumInOrder cX1_sumInOrder 13 (some .long)) (rmd 4) (va_Pc [.ref (gF g i), .long x1, .long x3] (sm_P0 g)) (vp_Sl (fun r => r = f_X1_sumInOrder i x1 x3)) 0 0 (fun _ => False) := by
  generalize hv : f_X1_sumInOrder i x1 x3 = F
  replace hv := hv.symm
  refine sm_mP (by decide) (Nat.le_of_ble_eq_true rfl) (fun p e s m args below meth c C hA ls hl => ?_)
  obtain ⟨hC, hr, hlocks⟩ := C
  have hx := hC.1
  have hb := hC.2.1
  have hts := hC.2.2.2.2
  have hown : s.vm.findClass RX1 = some m.cls := hC.2.2.2.1
  have hS : va_S (fun _ => False) s.heap s.heap [] := va_S.rf
  have hl : lv_has ls 13 [(0, .ref (gF g i)), (1, .long x1), (3, .long x3)] := hl
  refine lv_aload_n hx hb dX1_sumInOrder_0 rfl (lv_at hl 0 rfl) ?_
  refine lv_lload_n hx hb dX1_sumInOrder_1 rfl (lv_at hl 1 rfl) ?_
  refine sm_ci (sm_runV (rest := []) hC (c_X1_exponent l g i x1 hi) k_X1_exponent w_241 (by decide) (sm_pf hA hS hi) rfl hl.1 rfl (Nat.le_of_ble_eq_true rfl) dX1_sumInOrder_2) ?_
  refine sm_nmi hv (fun y5_1 ey5_1 hv => ?_)
  refine lv_istore (lv' := [(5, .int y5_1), (0, .ref (gF g i)), (1, .long x1), (3, .long x3)]) hx hb dX1_sumInOrder_5 hl (by decide) rfl (fun ls hl => ?_)
  refine lv_aload_n hx hb dX1_sumInOrder_7 rfl (lv_at hl 1 rfl) ?_
  refine lv_lload_n hx hb dX1_sumInOrder_8 rfl (lv_at hl 2 rfl) ?_
  refine sm_cl (sm_runV (rest := []) hC (c_X1_significand l g i x1 hi) k_X1_significand w_261 (by decide) (sm_pf hA hS hi) rfl hl.1 rfl (Nat.le_of_ble_eq_true rfl) dX1_sumInOrder_9) ?_
  refine lv_bipush (v := 9) hx hb dX1_sumInOrder_12 (by decide) ?_
  refine lv_lshl hx hb dX1_sumInOrder_14 rfl ?_
  refine sm_nml hv (fun y15_2 ey15_2 hv => ?_)
  refine lv_lstore (lv' := [(6, .long y15_2), (5, .int y5_1), (0, .ref (gF g i)), (1, .long x1), (3, .long x3)]) hx hb dX1_sumInOrder_15 hl (by decide) rfl (fun ls hl => ?_)
  refine lv_aload_n hx hb dX1_sumInOrder_17 rfl (lv_at hl 2 rfl) ?_
  refine lv_lload_n hx hb dX1_sumInOrder_18 rfl (lv_at hl 4 rfl) ?_
  refine sm_cl (sm_runV (rest := []) hC (c_X1_significand l g i x3 hi) k_X1_significand w_261 (by decide) (sm_pf hA hS hi) rfl hl.1 rfl (Nat.le_of_ble_eq_true rfl) dX1_sumInOrder_19) ?_
  refine lv_bipush (v := 9) hx hb dX1_sumInOrder_22 (by decide) ?_
  refine lv_lshl hx hb dX1_sumInOrder_24 rfl ?_
  refine lv_iload hx hb dX1_sumInOrder_25 (lv_at hl 1 rfl) ?_
  refine lv_aload_n hx hb dX1_sumInOrder_27 rfl (lv_at hl 2 rfl) ?_
  refine lv_lload_n hx hb dX1_sumInOrder_28 rfl (lv_at hl 4 rfl) ?_
  refine sm_ci (sm_runV (rest := [.int y5_1, .long ((f_X1_significand i x3) <<< (Int32.toInt64 9 &&& 63))]) hC (c_X1_exponent l g i x3 hi) k_X1_exponent w_241 (by decide) (sm_pf hA hS hi) rfl hl.1 rfl (Nat.le_of_ble_eq_true rfl) dX1_sumInOrder_29) ?_
  refine lv_isub hx hb dX1_sumInOrder_32 ?_
  refine sm_cl (sm_runS (rest := []) hC (c_X1_shiftedDown l g ((f_X1_significand i x3) <<< (Int32.toInt64 9 &&& 63)) (y5_1 - (f_X1_exponent i x3))) k_X1_shiftedDown w_319 (by decide) (sm_ps hA hS) rfl hl.1 rfl (Nat.le_of_ble_eq_true rfl) dX1_sumInOrder_33) ?_
  refine sm_nml hv (fun y36_3 ey36_3 hv => ?_)
  refine lv_lstore (lv' := [(8, .long y36_3), (6, .long y15_2), (5, .int y5_1), (0, .ref (gF g i)), (1, .long x1), (3, .long x3)]) hx hb dX1_sumInOrder_36 hl (by decide) rfl (fun ls hl => ?_)
  refine lv_aload_n hx hb dX1_sumInOrder_38 rfl (lv_at hl 3 rfl) ?_
  refine lv_lload_n hx hb dX1_sumInOrder_39 rfl (lv_at hl 4 rfl) ?_
  refine sm_ci (sm_runV (rest := []) hC (c_X1_isNegative l g i x1 hi) k_X1_isNegative w_256 (by decide) (sm_pf hA hS hi) rfl hl.1 rfl (Nat.le_of_ble_eq_true rfl) dX1_sumInOrder_40) ?_
  refine lv_aload_n hx hb dX1_sumInOrder_43 rfl (lv_at hl 3 rfl) ?_
  refine lv_lload_n hx hb dX1_sumInOrder_44 rfl (lv_at hl 5 rfl) ?_
  refine sm_ci (sm_runV (rest := [.int (f_X1_isNegative i x1)]) hC (c_X1_isNegative l g i x3 hi) k_X1_isNegative w_256 (by decide) (sm_pf hA hS hi) rfl hl.1 rfl (Nat.le_of_ble_eq_true rfl) dX1_sumInOrder_45) ?_
  refine lv_icmp_ne (tgt := 71) hx hb dX1_sumInOrder_48 (by decide) (fun c48 => ?_) (fun c48 => ?_)
  · have hv := hv.trans (if_neg c48)
    refine lv_lload hx hb dX1_sumInOrder_71 (lv_at hl 1 rfl) ?_
    refine lv_lload hx hb dX1_sumInOrder_73 (lv_at hl 0 rfl) ?_
    refine lv_lsub hx hb dX1_sumInOrder_75 ?_
    refine sm_nml hv (fun y76_4 ey76_4 hv => ?_)
    refine lv_lstore (lv' := [(10, .long y76_4), (8, .long y36_3), (6, .long y15_2), (5, .int y5_1), (0, .ref (gF g i)), (1, .long x1), (3, .long x3)]) hx hb dX1_sumInOrder_76 hl (by decide) rfl (fun ls hl => ?_)
    refine lv_lload hx hb dX1_sumInOrder_78 (lv_at hl 0 rfl) ?_
    refine lv_lconst (v := 0) hx hb dX1_sumInOrder_80 (by decide) ?_
    refine lc_ne (tgt := 87) hx hb dX1_sumInOrder_81 dX1_sumInOrder_82 (by decide) (fun c81 => ?_) (fun c81 => ?_)
    · have hv := hv.trans (if_neg c81)
      refine lv_lload hx hb dX1_sumInOrder_87 (lv_at hl 0 rfl) ?_
      refine lv_lconst (v := 0) hx hb dX1_sumInOrder_89 (by decide) ?_
      have k_107 : ∀ (t0_107 : Int32) (ls : Array Slot), lv_has ls 13 [(0, .ref (gF g i)), (5, .int y5_1), (10, .long y76_4)] → F = f_X1_sumInOrder_107 i y76_4 y5_1 t0_107 → W p l e (rmd 4) s m args below meth c s.heap [] 0 0 (MQ below (vp_Sl (fun r => r = F)) args s 0 0 (fun _ => False)) (F0 m 107 ls [.int t0_107]) := by
        intro t0_107 ls hl hv
        refine lv_istore (lv' := [(12, .int t0_107), (0, .ref (gF g i)), (5, .int y5_1), (10, .long y76_4)]) hx hb dX1_sumInOrder_107 hl (by decide) rfl (fun ls hl => ?_)
        refine lv_aload_n hx hb dX1_sumInOrder_109 rfl (lv_at hl 1 rfl) ?_
        refine lv_iload hx hb dX1_sumInOrder_110 (lv_at hl 0 rfl) ?_
        refine lv_iload hx hb dX1_sumInOrder_112 (lv_at hl 2 rfl) ?_
        refine lv_bipush (v := 9) hx hb dX1_sumInOrder_114 (by decide) ?_
        refine lv_isub hx hb dX1_sumInOrder_116 ?_
        refine lv_lload hx hb dX1_sumInOrder_117 (lv_at hl 3 rfl) ?_
        refine va_mabs_long hx hb (hC.2.2.1.trans hl.1.symm) hown (hts _ w_229) (hts _ w_230) (hts _ w_62) (hts _ w_231) (Nat.le_of_ble_eq_true rfl) (Nat.le_of_ble_eq_true rfl) (Nat.le_refl _) (Nat.le_refl _) dX1_sumInOrder_119 ?_
        refine sm_cl (sm_runV (rest := []) hC (c_X1_rounded l g i t0_107 (y5_1 - 9) (sm_absL y76_4) hi) k_X1_rounded w_208 (by decide) (sm_pf hA hS hi) rfl hl.1 rfl (Nat.le_of_ble_eq_true rfl) dX1_sumInOrder_122) ?_
        exact sm_rl hx hb hr hlocks hv dX1_sumInOrder_125
      refine lc_le (tgt := 102) hx hb dX1_sumInOrder_90 dX1_sumInOrder_91 (by decide) (fun c90 => ?_) (fun c90 => ?_)
      · have hv := hv.trans (if_pos c90)
        refine lv_aload_n hx hb dX1_sumInOrder_102 rfl (lv_at hl 4 rfl) ?_
        refine lv_lload_n hx hb dX1_sumInOrder_103 rfl (lv_at hl 6 rfl) ?_
        refine sm_ci (sm_runV (rest := []) hC (c_X1_isNegative l g i x3 hi) k_X1_isNegative w_256 (by decide) (sm_pf hA hS hi) rfl hl.1 rfl (Nat.le_of_ble_eq_true rfl) dX1_sumInOrder_104) ?_
        exact k_107 (f_X1_isNegative i x3) _ (lv_sub hl [4, 3, 0] rfl) hv
      · have hv := hv.trans (if_neg c90)
        refine lv_aload_n hx hb dX1_sumInOrder_94 rfl (lv_at hl 4 rfl) ?_
        refine lv_lload_n hx hb dX1_sumInOrder_95 rfl (lv_at hl 5 rfl) ?_
        refine sm_ci (sm_runV (rest := []) hC (c_X1_isNegative l g i x1 hi) k_X1_isNegative w_256 (by decide) (sm_pf hA hS hi) rfl hl.1 rfl (Nat.le_of_ble_eq_true rfl) dX1_sumInOrder_96) ?_
        refine lv_goto (tgt := 107) hx hb dX1_sumInOrder_99 (by decide) ?_
        exact k_107 (f_X1_isNegative i x1) _ (lv_sub hl [4, 3, 0] rfl) hv
    · have hv := hv.trans (if_pos c81)
      refine lv_lconst (v := 0) hx hb dX1_sumInOrder_85 (by decide) ?_
      exact sm_rl hx hb hr hlocks hv dX1_sumInOrder_86
  · have hv := hv.trans (if_pos c48)
    refine lv_aload_n hx hb dX1_sumInOrder_51 rfl (lv_at hl 3 rfl) ?_
    refine lv_aload_n hx hb dX1_sumInOrder_52 rfl (lv_at hl 3 rfl) ?_
    refine lv_lload_n hx hb dX1_sumInOrder_53 rfl (lv_at hl 4 rfl) ?_
    refine sm_ci (sm_runV (rest := [.ref (gF g i)]) hC (c_X1_isNegative l g i x1 hi) k_X1_isNegative w_256 (by decide) (sm_pf hA hS hi) rfl hl.1 rfl (Nat.le_of_ble_eq_true rfl) dX1_sumInOrder_54) ?_
    refine lv_iload hx hb dX1_sumInOrder_57 (lv_at hl 2 rfl) ?_
    refine lv_bipush (v := 9) hx hb dX1_sumInOrder_59 (by decide) ?_
    refine lv_isub hx hb dX1_sumInOrder_61 ?_
    refine lv_lload hx hb dX1_sumInOrder_62 (lv_at hl 1 rfl) ?_
    refine lv_lload hx hb dX1_sumInOrder_64 (lv_at hl 0 rfl) ?_
    refine lv_ladd hx hb dX1_sumInOrder_66 ?_
    refine sm_cl (sm_runV (rest := []) hC (c_X1_rounded l g i (f_X1_isNegative i x1) (y5_1 - 9) (y15_2 + y36_3) hi) k_X1_rounded w_208 (by decide) (sm_pf hA hS hi) rfl hl.1 rfl (Nat.le_of_ble_eq_true rfl) dX1_sumInOrder_67) ?_
    exact sm_rl hx hb hr hlocks hv dX1_sumInOrder_70
def f_X1_sum (i : Nat) (x1 : Int64) (x3 : Int64) : Int64 := if (f_X1_isNan i x1) = 0 then (if (f_X1_isNan i x3) = 0 then (if (f_X1_isInfinite i x1) = 0 then (if (f_X1_isInfinite i x3) = 0 then (if (f_X1_isZero i x1) = 0 then (if (f_X1_isZero i x3) = 0 then (if (f_X1_exponent i x1) < (f_X1_exponent i x3) then (f_X1_sumInOrder i x3 x1) else (f_X1_sumInOrder i x1 x3)) else x1) else (if (f_X1_isZero i x3) = 0 then x3 else (x1 &&& x3))) else x3) else (if (f_X1_isInfinite i x3) = 0 then x1 else (if x1 = x3 then x1 else (kNa i)))) else (kNa i)) else (kNa i)
set_option maxRecDepth 100000 in
set_option maxHeartbeats 4000000 in
theorem c_X1_sum (l : Launch) (g : sm_G) (i : Nat) (x1 : Int64) (x3 : Int64) (hi : i < 2)  : Met l yX1_sum (sm_ws yX1_sum cX1_sum 5 (some .long)) (rmd 5) (va_Pc [.ref (gF g i), .long x1, .long x3] (sm_P0 g)) (vp_Sl (fun r => r = f_X1_sum i x1 x3)) 0 0 (fun _ => False) := by
  generalize hv : f_X1_sum i x1 x3 = F
  replace hv := hv.symm
  refine sm_mP (by decide) (Nat.le_of_ble_eq_true rfl) (fun p e s m args below meth c C hA ls hl => ?_)
  obtain ⟨hC, hr, hlocks⟩ := C
  have hx := hC.1
  have hb := hC.2.1
  have hts := hC.2.2.2.2
  have hown : s.vm.findClass RX1 = some m.cls := hC.2.2.2.1
  have hS : va_S (fun _ => False) s.heap s.heap [] := va_S.rf
  have hl : lv_has ls 5 [(0, .ref (gF g i)), (1, .long x1), (3, .long x3)] := hl
  refine lv_aload_n hx hb dX1_sum_0 rfl (lv_at hl 0 rfl) ?_
  refine lv_lload_n hx hb dX1_sum_1 rfl (lv_at hl 1 rfl) ?_
  refine sm_ci (sm_runV (rest := []) hC (c_X1_isNan l g i x1 hi) k_X1_isNan w_154 (by decide) (sm_pf hA hS hi) rfl hl.1 rfl (Nat.le_of_ble_eq_true rfl) dX1_sum_2) ?_
  refine lv_if_ne (tgt := 16) hx hb dX1_sum_5 (by decide) (fun c5 => ?_) (fun c5 => ?_)
  · have hv := hv.trans (if_neg c5)
    refine lv_aload_n hx hb dX1_sum_16 rfl (lv_at hl 0 rfl) ?_
    refine fg_RX1_48 hx hb hts hown hA hS hi dX1_sum_17 ?_
    exact sm_rl hx hb hr hlocks hv dX1_sum_20
  · have hv := hv.trans (if_pos c5)
    refine lv_aload_n hx hb dX1_sum_8 rfl (lv_at hl 0 rfl) ?_
    refine lv_lload_n hx hb dX1_sum_9 rfl (lv_at hl 2 rfl) ?_
    refine sm_ci (sm_runV (rest := []) hC (c_X1_isNan l g i x3 hi) k_X1_isNan w_154 (by decide) (sm_pf hA hS hi) rfl hl.1 rfl (Nat.le_of_ble_eq_true rfl) dX1_sum_10) ?_
    refine lv_if_eq (tgt := 21) hx hb dX1_sum_13 (by decide) (fun c13 => ?_) (fun c13 => ?_)
    · have hv := hv.trans (if_pos c13)
      refine lv_aload_n hx hb dX1_sum_21 rfl (lv_at hl 0 rfl) ?_
      refine lv_lload_n hx hb dX1_sum_22 rfl (lv_at hl 1 rfl) ?_
      refine sm_ci (sm_runV (rest := []) hC (c_X1_isInfinite l g i x1 hi) k_X1_isInfinite w_252 (by decide) (sm_pf hA hS hi) rfl hl.1 rfl (Nat.le_of_ble_eq_true rfl) dX1_sum_23) ?_
      refine lv_if_eq (tgt := 52) hx hb dX1_sum_26 (by decide) (fun c26 => ?_) (fun c26 => ?_)
      · have hv := hv.trans (if_pos c26)
        refine lv_aload_n hx hb dX1_sum_52 rfl (lv_at hl 0 rfl) ?_
        refine lv_lload_n hx hb dX1_sum_53 rfl (lv_at hl 2 rfl) ?_
        refine sm_ci (sm_runV (rest := []) hC (c_X1_isInfinite l g i x3 hi) k_X1_isInfinite w_252 (by decide) (sm_pf hA hS hi) rfl hl.1 rfl (Nat.le_of_ble_eq_true rfl) dX1_sum_54) ?_
        refine lv_if_eq (tgt := 62) hx hb dX1_sum_57 (by decide) (fun c57 => ?_) (fun c57 => ?_)
        · have hv := hv.trans (if_pos c57)
          refine lv_aload_n hx hb dX1_sum_62 rfl (lv_at hl 0 rfl) ?_
          refine lv_lload_n hx hb dX1_sum_63 rfl (lv_at hl 1 rfl) ?_
          refine sm_ci (sm_runV (rest := []) hC (c_X1_isZero l g i x1 hi) k_X1_isZero w_237 (by decide) (sm_pf hA hS hi) rfl hl.1 rfl (Nat.le_of_ble_eq_true rfl) dX1_sum_64) ?_
          refine lv_if_eq (tgt := 86) hx hb dX1_sum_67 (by decide) (fun c67 => ?_) (fun c67 => ?_)
          · have hv := hv.trans (if_pos c67)
            refine lv_aload_n hx hb dX1_sum_86 rfl (lv_at hl 0 rfl) ?_
            refine lv_lload_n hx hb dX1_sum_87 rfl (lv_at hl 2 rfl) ?_
            refine sm_ci (sm_runV (rest := []) hC (c_X1_isZero l g i x3 hi) k_X1_isZero w_237 (by decide) (sm_pf hA hS hi) rfl hl.1 rfl (Nat.le_of_ble_eq_true rfl) dX1_sum_88) ?_
            refine lv_if_eq (tgt := 96) hx hb dX1_sum_91 (by decide) (fun c91 => ?_) (fun c91 => ?_)
            · have hv := hv.trans (if_pos c91)
              refine lv_aload_n hx hb dX1_sum_96 rfl (lv_at hl 0 rfl) ?_
              refine lv_lload_n hx hb dX1_sum_97 rfl (lv_at hl 1 rfl) ?_
              refine sm_ci (sm_runV (rest := []) hC (c_X1_exponent l g i x1 hi) k_X1_exponent w_241 (by decide) (sm_pf hA hS hi) rfl hl.1 rfl (Nat.le_of_ble_eq_true rfl) dX1_sum_98) ?_
              refine lv_aload_n hx hb dX1_sum_101 rfl (lv_at hl 0 rfl) ?_
              refine lv_lload_n hx hb dX1_sum_102 rfl (lv_at hl 2 rfl) ?_
              refine sm_ci (sm_runV (rest := [.int (f_X1_exponent i x1)]) hC (c_X1_exponent l g i x3 hi) k_X1_exponent w_241 (by decide) (sm_pf hA hS hi) rfl hl.1 rfl (Nat.le_of_ble_eq_true rfl) dX1_sum_103) ?_
              refine lv_icmp_lt (tgt := 118) hx hb dX1_sum_106 (by decide) (fun c106 => ?_) (fun c106 => ?_)
              · have hv := hv.trans (if_pos c106)
                refine lv_aload_n hx hb dX1_sum_118 rfl (lv_at hl 0 rfl) ?_
                refine lv_lload_n hx hb dX1_sum_119 rfl (lv_at hl 2 rfl) ?_
                refine lv_lload_n hx hb dX1_sum_120 rfl (lv_at hl 1 rfl) ?_
                refine sm_cl (sm_runV (rest := []) hC (c_X1_sumInOrder l g i x3 x1 hi) k_X1_sumInOrder w_315 (by decide) (sm_pf hA hS hi) rfl hl.1 rfl (Nat.le_of_ble_eq_true rfl) dX1_sum_121) ?_
                exact sm_rl hx hb hr hlocks hv dX1_sum_124
              · have hv := hv.trans (if_neg c106)
                refine lv_aload_n hx hb dX1_sum_109 rfl (lv_at hl 0 rfl) ?_
                refine lv_lload_n hx hb dX1_sum_110 rfl (lv_at hl 1 rfl) ?_
                refine lv_lload_n hx hb dX1_sum_111 rfl (lv_at hl 2 rfl) ?_
                refine sm_cl (sm_runV (rest := []) hC (c_X1_sumInOrder l g i x1 x3 hi) k_X1_sumInOrder w_315 (by decide) (sm_pf hA hS hi) rfl hl.1 rfl (Nat.le_of_ble_eq_true rfl) dX1_sum_112) ?_
                refine lv_goto (tgt := 124) hx hb dX1_sum_115 (by decide) ?_
                exact sm_rl hx hb hr hlocks hv dX1_sum_124
            · have hv := hv.trans (if_neg c91)
              refine lv_lload_n hx hb dX1_sum_94 rfl (lv_at hl 1 rfl) ?_
              exact sm_rl hx hb hr hlocks hv dX1_sum_95
          · have hv := hv.trans (if_neg c67)
            refine lv_aload_n hx hb dX1_sum_70 rfl (lv_at hl 0 rfl) ?_
            refine lv_lload_n hx hb dX1_sum_71 rfl (lv_at hl 2 rfl) ?_
            refine sm_ci (sm_runV (rest := []) hC (c_X1_isZero l g i x3 hi) k_X1_isZero w_237 (by decide) (sm_pf hA hS hi) rfl hl.1 rfl (Nat.le_of_ble_eq_true rfl) dX1_sum_72) ?_
            refine lv_if_eq (tgt := 84) hx hb dX1_sum_75 (by decide) (fun c75 => ?_) (fun c75 => ?_)
            · have hv := hv.trans (if_pos c75)
              refine lv_lload_n hx hb dX1_sum_84 rfl (lv_at hl 2 rfl) ?_
              exact sm_rl hx hb hr hlocks hv dX1_sum_85
            · have hv := hv.trans (if_neg c75)
              refine lv_lload_n hx hb dX1_sum_78 rfl (lv_at hl 1 rfl) ?_
              refine lv_lload_n hx hb dX1_sum_79 rfl (lv_at hl 2 rfl) ?_
              refine lv_land hx hb dX1_sum_80 ?_
              refine lv_goto (tgt := 85) hx hb dX1_sum_81 (by decide) ?_
              exact sm_rl hx hb hr hlocks hv dX1_sum_85
        · have hv := hv.trans (if_neg c57)
          refine lv_lload_n hx hb dX1_sum_60 rfl (lv_at hl 2 rfl) ?_
          exact sm_rl hx hb hr hlocks hv dX1_sum_61
      · have hv := hv.trans (if_neg c26)
        refine lv_aload_n hx hb dX1_sum_29 rfl (lv_at hl 0 rfl) ?_
        refine lv_lload_n hx hb dX1_sum_30 rfl (lv_at hl 2 rfl) ?_
        refine sm_ci (sm_runV (rest := []) hC (c_X1_isInfinite l g i x3 hi) k_X1_isInfinite w_252 (by decide) (sm_pf hA hS hi) rfl hl.1 rfl (Nat.le_of_ble_eq_true rfl) dX1_sum_31) ?_
        refine lv_if_eq (tgt := 50) hx hb dX1_sum_34 (by decide) (fun c34 => ?_) (fun c34 => ?_)
        · have hv := hv.trans (if_pos c34)
          refine lv_lload_n hx hb dX1_sum_50 rfl (lv_at hl 1 rfl) ?_
          exact sm_rl hx hb hr hlocks hv dX1_sum_51
        · have hv := hv.trans (if_neg c34)
          refine lv_lload_n hx hb dX1_sum_37 rfl (lv_at hl 1 rfl) ?_
          refine lv_lload_n hx hb dX1_sum_38 rfl (lv_at hl 2 rfl) ?_
          refine lc_eq (tgt := 50) hx hb dX1_sum_39 dX1_sum_40 (by decide) (fun c39 => ?_) (fun c39 => ?_)
          · have hv := hv.trans (if_pos c39)
            refine lv_lload_n hx hb dX1_sum_50 rfl (lv_at hl 1 rfl) ?_
            exact sm_rl hx hb hr hlocks hv dX1_sum_51
          · have hv := hv.trans (if_neg c39)
            refine lv_aload_n hx hb dX1_sum_43 rfl (lv_at hl 0 rfl) ?_
            refine fg_RX1_48 hx hb hts hown hA hS hi dX1_sum_44 ?_
            refine lv_goto (tgt := 51) hx hb dX1_sum_47 (by decide) ?_
            exact sm_rl hx hb hr hlocks hv dX1_sum_51
    · have hv := hv.trans (if_neg c13)
      refine lv_aload_n hx hb dX1_sum_16 rfl (lv_at hl 0 rfl) ?_
      refine fg_RX1_48 hx hb hts hown hA hS hi dX1_sum_17 ?_
      exact sm_rl hx hb hr hlocks hv dX1_sum_20
def f_X1_highProduct (x0 : Int64) (x2 : Int64) : Int64 := sm_let (UInt64.toInt64 (Int64.toUInt64 x0 >>> (Int64.toUInt64 (Int32.toInt64 27) &&& Int64.toUInt64 63))) (fun y4_1 => sm_let (x0 &&& 134217727) (fun y11_2 => sm_let (UInt64.toInt64 (Int64.toUInt64 x2 >>> (Int64.toUInt64 (Int32.toInt64 27) &&& Int64.toUInt64 63))) (fun y17_3 => sm_let (x2 &&& 134217727) (fun y24_4 => sm_let ((y4_1 * y24_4) + (y11_2 * y17_3)) (fun y37_5 => sm_let ((y11_2 * y24_4) + ((y37_5 &&& 134217727) <<< (Int32.toInt64 27 &&& 63))) (fun y54_6 => sm_let ((y4_1 * y17_3) + (UInt64.toInt64 (Int64.toUInt64 y37_5 >>> (Int64.toUInt64 (Int32.toInt64 27) &&& Int64.toUInt64 63)))) (fun y67_7 => (y67_7 <<< (Int32.toInt64 10 &&& 63)) + (f_X1_shiftedDown y54_6 44))))))))
set_option maxRecDepth 100000 in
set_option maxHeartbeats 4000000 in
theorem c_X1_highProduct (l : Launch) (g : sm_G) (x0 : Int64) (x2 : Int64)   : Met l yX1_highProduct (sm_ws yX1_highProduct cX1_highProduct 18 (some .long)) (rmd 1) (va_Pc [.long x0, .long x2] (sm_P0 g)) (vp_Sl (fun r => r = f_X1_highProduct x0 x2)) 0 0 (fun _ => False) := by
  generalize hv : f_X1_highProduct x0 x2 = F
  replace hv := hv.symm
  refine sm_mP (by decide) (Nat.le_of_ble_eq_true rfl) (fun p e s m args below meth c C hA ls hl => ?_)
  obtain ⟨hC, hr, hlocks⟩ := C
  have hx := hC.1
  have hb := hC.2.1
  have hts := hC.2.2.2.2
  have hown : s.vm.findClass RX1 = some m.cls := hC.2.2.2.1
  have hS : va_S (fun _ => False) s.heap s.heap [] := va_S.rf
  have hl : lv_has ls 18 [(0, .long x0), (2, .long x2)] := hl
  refine lv_lload_n hx hb dX1_highProduct_0 rfl (lv_at hl 0 rfl) ?_
  refine lv_bipush (v := 27) hx hb dX1_highProduct_1 (by decide) ?_
  refine lv_lushr hx hb dX1_highProduct_3 rfl ?_
  refine sm_nml hv (fun y4_1 ey4_1 hv => ?_)
  refine lv_lstore (lv' := [(4, .long y4_1), (0, .long x0), (2, .long x2)]) hx hb dX1_highProduct_4 hl (by decide) rfl (fun ls hl => ?_)
  refine lv_lload_n hx hb dX1_highProduct_6 rfl (lv_at hl 1 rfl) ?_
  refine lv_ldc2 hx hb hown (hts _ w_330) dX1_highProduct_7 ?_
  refine lv_land hx hb dX1_highProduct_10 ?_
  refine sm_nml hv (fun y11_2 ey11_2 hv => ?_)
  refine lv_lstore (lv' := [(6, .long y11_2), (4, .long y4_1), (0, .long x0), (2, .long x2)]) hx hb dX1_highProduct_11 hl (by decide) rfl (fun ls hl => ?_)
  refine lv_lload_n hx hb dX1_highProduct_13 rfl (lv_at hl 3 rfl) ?_
  refine lv_bipush (v := 27) hx hb dX1_highProduct_14 (by decide) ?_
  refine lv_lushr hx hb dX1_highProduct_16 rfl ?_
  refine sm_nml hv (fun y17_3 ey17_3 hv => ?_)
  refine lv_lstore (lv' := [(8, .long y17_3), (6, .long y11_2), (4, .long y4_1), (0, .long x0), (2, .long x2)]) hx hb dX1_highProduct_17 hl (by decide) rfl (fun ls hl => ?_)
  refine lv_lload_n hx hb dX1_highProduct_19 rfl (lv_at hl 4 rfl) ?_
  refine lv_ldc2 hx hb hown (hts _ w_330) dX1_highProduct_20 ?_
  refine lv_land hx hb dX1_highProduct_23 ?_
  refine sm_nml hv (fun y24_4 ey24_4 hv => ?_)
  refine lv_lstore (lv' := [(10, .long y24_4), (8, .long y17_3), (6, .long y11_2), (4, .long y4_1), (0, .long x0), (2, .long x2)]) hx hb dX1_highProduct_24 hl (by decide) rfl (fun ls hl => ?_)
  refine lv_lload hx hb dX1_highProduct_26 (lv_at hl 3 rfl) ?_
  refine lv_lload hx hb dX1_highProduct_28 (lv_at hl 0 rfl) ?_
  refine lv_lmul hx hb dX1_highProduct_30 ?_
  refine lv_lload hx hb dX1_highProduct_31 (lv_at hl 2 rfl) ?_
  refine lv_lload hx hb dX1_highProduct_33 (lv_at hl 1 rfl) ?_
  refine lv_lmul hx hb dX1_highProduct_35 ?_
  refine lv_ladd hx hb dX1_highProduct_36 ?_
  refine sm_nml hv (fun y37_5 ey37_5 hv => ?_)
  refine lv_lstore (lv' := [(12, .long y37_5), (10, .long y24_4), (8, .long y17_3), (6, .long y11_2), (4, .long y4_1), (0, .long x0), (2, .long x2)]) hx hb dX1_highProduct_37 hl (by decide) rfl (fun ls hl => ?_)
  refine lv_lload hx hb dX1_highProduct_39 (lv_at hl 3 rfl) ?_
  refine lv_lload hx hb dX1_highProduct_41 (lv_at hl 1 rfl) ?_
  refine lv_lmul hx hb dX1_highProduct_43 ?_
  refine lv_lload hx hb dX1_highProduct_44 (lv_at hl 0 rfl) ?_
  refine lv_ldc2 hx hb hown (hts _ w_330) dX1_highProduct_46 ?_
  refine lv_land hx hb dX1_highProduct_49 ?_
  refine lv_bipush (v := 27) hx hb dX1_highProduct_50 (by decide) ?_
  refine lv_lshl hx hb dX1_highProduct_52 rfl ?_
  refine lv_ladd hx hb dX1_highProduct_53 ?_
  refine sm_nml hv (fun y54_6 ey54_6 hv => ?_)
  refine lv_lstore (lv' := [(14, .long y54_6), (12, .long y37_5), (10, .long y24_4), (8, .long y17_3), (6, .long y11_2), (4, .long y4_1), (0, .long x0), (2, .long x2)]) hx hb dX1_highProduct_54 hl (by decide) rfl (fun ls hl => ?_)
  refine lv_lload hx hb dX1_highProduct_56 (lv_at hl 5 rfl) ?_
  refine lv_lload hx hb dX1_highProduct_58 (lv_at hl 3 rfl) ?_
  refine lv_lmul hx hb dX1_highProduct_60 ?_
  refine lv_lload hx hb dX1_highProduct_61 (lv_at hl 1 rfl) ?_
  refine lv_bipush (v := 27) hx hb dX1_highProduct_63 (by decide) ?_
  refine lv_lushr hx hb dX1_highProduct_65 rfl ?_
  refine lv_ladd hx hb dX1_highProduct_66 ?_
  refine sm_nml hv (fun y67_7 ey67_7 hv => ?_)
  refine lv_lstore (lv' := [(16, .long y67_7), (14, .long y54_6), (12, .long y37_5), (10, .long y24_4), (8, .long y17_3), (6, .long y11_2), (4, .long y4_1), (0, .long x0), (2, .long x2)]) hx hb dX1_highProduct_67 hl (by decide) rfl (fun ls hl => ?_)
  refine lv_lload hx hb dX1_highProduct_69 (lv_at hl 0 rfl) ?_
  refine lv_bipush (v := 10) hx hb dX1_highProduct_71 (by decide) ?_
  refine lv_lshl hx hb dX1_highProduct_73 rfl ?_
  refine lv_lload hx hb dX1_highProduct_74 (lv_at hl 1 rfl) ?_
  refine lv_bipush (v := 44) hx hb dX1_highProduct_76 (by decide) ?_
  refine sm_cl (sm_runS (rest := [.long (y67_7 <<< (Int32.toInt64 10 &&& 63))]) hC (c_X1_shiftedDown l g y54_6 44) k_X1_shiftedDown w_319 (by decide) (sm_ps hA hS) rfl hl.1 rfl (Nat.le_of_ble_eq_true rfl) dX1_highProduct_78) ?_
  refine lv_ladd hx hb dX1_highProduct_81 ?_
  exact sm_rl hx hb hr hlocks hv dX1_highProduct_82
def f_X1_product_80 (i : Nat) (t0_39 : Int32) (t0_62 : Int32) : Int64 := if t0_62 = 0 then (f_X1_signed i t0_39 (kIn i)) else (kNa i)
def f_X1_product_62 (i : Nat) (x1 : Int64) (x3 : Int64) (t0_39 : Int32) (t0_62 : Int32) : Int64 := if (f_X1_isInfinite i x1) = 0 then (if (f_X1_isInfinite i x3) = 0 then (if t0_62 = 0 then (sm_let (((f_X1_exponent i x1) + (f_X1_exponent i x3)) + 44) (fun y130_1 => f_X1_rounded i t0_39 y130_1 (f_X1_highProduct (f_X1_significand i x1) (f_X1_significand i x3)))) else (f_X1_signed i t0_39 0)) else (f_X1_product_80 i t0_39 t0_62)) else (f_X1_product_80 i t0_39 t0_62)
def f_X1_product_57 (i : Nat) (x1 : Int64) (x3 : Int64) (t0_39 : Int32) : Int64 := f_X1_product_62 i x1 x3 t0_39 1
def f_X1_product_39 (i : Nat) (x1 : Int64) (x3 : Int64) (t0_39 : Int32) : Int64 := if (f_X1_isZero i x1) = 0 then (if (f_X1_isZero i x3) = 0 then (f_X1_product_62 i x1 x3 t0_39 0) else (f_X1_product_57 i x1 x3 t0_39)) else (f_X1_product_57 i x1 x3 t0_39)
def f_X1_product (i : Nat) (x1 : Int64) (x3 : Int64) : Int64 := if (f_X1_isNan i x1) = 0 then (if (f_X1_isNan i x3) = 0 then (if (f_X1_isNegative i x1) = (f_X1_isNegative i x3) then (f_X1_product_39 i x1 x3 0) else (f_X1_product_39 i x1 x3 1)) else (kNa i)) else (kNa i)
set_option maxRecDepth 100000 in
set_option maxHeartbeats 4000000 in
theorem c_X1_product (l : Launch) (g : sm_G) (i : Nat) (x1 : Int64) (x3 : Int64) (hi : i < 2)  : Met l yX1_product (sm_ws yX1_product cX1_product 8 (some .long)) (rmd 4) (va_Pc [.ref (gF g i), .long x1, .long x3] (sm_P0 g)) (vp_Sl (fun r => r = f_X1_product i x1 x3)) 0 0 (fun _ => False) := by
  generalize hv : f_X1_product i x1 x3 = F
  replace hv := hv.symm
  refine sm_mP (by decide) (Nat.le_of_ble_eq_true rfl) (fun p e s m args below meth c C hA ls hl => ?_)
  obtain ⟨hC, hr, hlocks⟩ := C
  have hx := hC.1
  have hb := hC.2.1
  have hts := hC.2.2.2.2
  have hown : s.vm.findClass RX1 = some m.cls := hC.2.2.2.1
  have hS : va_S (fun _ => False) s.heap s.heap [] := va_S.rf
  have hl : lv_has ls 8 [(0, .ref (gF g i)), (1, .long x1), (3, .long x3)] := hl
  refine lv_aload_n hx hb dX1_product_0 rfl (lv_at hl 0 rfl) ?_
  refine lv_lload_n hx hb dX1_product_1 rfl (lv_at hl 1 rfl) ?_
  refine sm_ci (sm_runV (rest := []) hC (c_X1_isNan l g i x1 hi) k_X1_isNan w_154 (by decide) (sm_pf hA hS hi) rfl hl.1 rfl (Nat.le_of_ble_eq_true rfl) dX1_product_2) ?_
  refine lv_if_ne (tgt := 16) hx hb dX1_product_5 (by decide) (fun c5 => ?_) (fun c5 => ?_)
  · have hv := hv.trans (if_neg c5)
    refine lv_aload_n hx hb dX1_product_16 rfl (lv_at hl 0 rfl) ?_
    refine fg_RX1_48 hx hb hts hown hA hS hi dX1_product_17 ?_
    exact sm_rl hx hb hr hlocks hv dX1_product_20
  · have hv := hv.trans (if_pos c5)
    refine lv_aload_n hx hb dX1_product_8 rfl (lv_at hl 0 rfl) ?_
    refine lv_lload_n hx hb dX1_product_9 rfl (lv_at hl 2 rfl) ?_
    refine sm_ci (sm_runV (rest := []) hC (c_X1_isNan l g i x3 hi) k_X1_isNan w_154 (by decide) (sm_pf hA hS hi) rfl hl.1 rfl (Nat.le_of_ble_eq_true rfl) dX1_product_10) ?_
    refine lv_if_eq (tgt := 21) hx hb dX1_product_13 (by decide) (fun c13 => ?_) (fun c13 => ?_)
    · have hv := hv.trans (if_pos c13)
      refine lv_aload_n hx hb dX1_product_21 rfl (lv_at hl 0 rfl) ?_
      refine lv_lload_n hx hb dX1_product_22 rfl (lv_at hl 1 rfl) ?_
      refine sm_ci (sm_runV (rest := []) hC (c_X1_isNegative l g i x1 hi) k_X1_isNegative w_256 (by decide) (sm_pf hA hS hi) rfl hl.1 rfl (Nat.le_of_ble_eq_true rfl) dX1_product_23) ?_
      refine lv_aload_n hx hb dX1_product_26 rfl (lv_at hl 0 rfl) ?_
      refine lv_lload_n hx hb dX1_product_27 rfl (lv_at hl 2 rfl) ?_
      refine sm_ci (sm_runV (rest := [.int (f_X1_isNegative i x1)]) hC (c_X1_isNegative l g i x3 hi) k_X1_isNegative w_256 (by decide) (sm_pf hA hS hi) rfl hl.1 rfl (Nat.le_of_ble_eq_true rfl) dX1_product_28) ?_
      have k_39 : ∀ (t0_39 : Int32) (ls : Array Slot), lv_has ls 8 [(0, .ref (gF g i)), (1, .long x1), (3, .long x3)] → F = f_X1_product_39 i x1 x3 t0_39 → W p l e (rmd 4) s m args below meth c s.heap [] 0 0 (MQ below (vp_Sl (fun r => r = F)) args s 0 0 (fun _ => False)) (F0 m 39 ls [.int t0_39]) := by
        intro t0_39 ls hl hv
        refine lv_istore (lv' := [(5, .int t0_39), (0, .ref (gF g i)), (1, .long x1), (3, .long x3)]) hx hb dX1_product_39 hl (by decide) rfl (fun ls hl => ?_)
        refine lv_aload_n hx hb dX1_product_41 rfl (lv_at hl 1 rfl) ?_
        refine lv_lload_n hx hb dX1_product_42 rfl (lv_at hl 2 rfl) ?_
        refine sm_ci (sm_runV (rest := []) hC (c_X1_isZero l g i x1 hi) k_X1_isZero w_237 (by decide) (sm_pf hA hS hi) rfl hl.1 rfl (Nat.le_of_ble_eq_true rfl) dX1_product_43) ?_
        have k_62 : ∀ (t0_62 : Int32) (ls : Array Slot), lv_has ls 8 [(0, .ref (gF g i)), (1, .long x1), (3, .long x3), (5, .int t0_39)] → F = f_X1_product_62 i x1 x3 t0_39 t0_62 → W p l e (rmd 4) s m args below meth c s.heap [] 0 0 (MQ below (vp_Sl (fun r => r = F)) args s 0 0 (fun _ => False)) (F0 m 62 ls [.int t0_62]) := by
          intro t0_62 ls hl hv
          refine lv_istore (lv' := [(6, .int t0_62), (0, .ref (gF g i)), (1, .long x1), (3, .long x3), (5, .int t0_39)]) hx hb dX1_product_62 hl (by decide) rfl (fun ls hl => ?_)
          refine lv_aload_n hx hb dX1_product_64 rfl (lv_at hl 1 rfl) ?_
          refine lv_lload_n hx hb dX1_product_65 rfl (lv_at hl 2 rfl) ?_
          refine sm_ci (sm_runV (rest := []) hC (c_X1_isInfinite l g i x1 hi) k_X1_isInfinite w_252 (by decide) (sm_pf hA hS hi) rfl hl.1 rfl (Nat.le_of_ble_eq_true rfl) dX1_product_66) ?_
          have k_80 : ∀  (ls : Array Slot), lv_has ls 8 [(0, .ref (gF g i)), (5, .int t0_39), (6, .int t0_62)] → F = f_X1_product_80 i t0_39 t0_62 → W p l e (rmd 4) s m args below meth c s.heap [] 0 0 (MQ below (vp_Sl (fun r => r = F)) args s 0 0 (fun _ => False)) (F0 m 80 ls []) := by
            intro ls hl hv
            refine lv_iload hx hb dX1_product_80 (lv_at hl 2 rfl) ?_
            refine lv_if_eq (tgt := 92) hx hb dX1_product_82 (by decide) (fun c82 => ?_) (fun c82 => ?_)
            · have hv := hv.trans (if_pos c82)
              refine lv_aload_n hx hb dX1_product_92 rfl (lv_at hl 0 rfl) ?_
              refine lv_iload hx hb dX1_product_93 (lv_at hl 1 rfl) ?_
              refine lv_aload_n hx hb dX1_product_95 rfl (lv_at hl 0 rfl) ?_
              refine fg_RX1_45 hx hb hts hown hA hS hi dX1_product_96 ?_
              refine sm_cl (sm_runV (rest := []) hC (c_X1_signed l g i t0_39 (kIn i) hi) k_X1_signed w_222 (by decide) (sm_pf hA hS hi) rfl hl.1 rfl (Nat.le_of_ble_eq_true rfl) dX1_product_99) ?_
              exact sm_rl hx hb hr hlocks hv dX1_product_102
            · have hv := hv.trans (if_neg c82)
              refine lv_aload_n hx hb dX1_product_85 rfl (lv_at hl 0 rfl) ?_
              refine fg_RX1_48 hx hb hts hown hA hS hi dX1_product_86 ?_
              refine lv_goto (tgt := 102) hx hb dX1_product_89 (by decide) ?_
              exact sm_rl hx hb hr hlocks hv dX1_product_102
          refine lv_if_ne (tgt := 80) hx hb dX1_product_69 (by decide) (fun c69 => ?_) (fun c69 => ?_)
          · have hv := hv.trans (if_neg c69)
            exact k_80 _ (lv_sub hl [1, 4, 0] rfl) hv
          · have hv := hv.trans (if_pos c69)
            refine lv_aload_n hx hb dX1_product_72 rfl (lv_at hl 1 rfl) ?_
            refine lv_lload_n hx hb dX1_product_73 rfl (lv_at hl 3 rfl) ?_
            refine sm_ci (sm_runV (rest := []) hC (c_X1_isInfinite l g i x3 hi) k_X1_isInfinite w_252 (by decide) (sm_pf hA hS hi) rfl hl.1 rfl (Nat.le_of_ble_eq_true rfl) dX1_product_74) ?_
            refine lv_if_eq (tgt := 103) hx hb dX1_product_77 (by decide) (fun c77 => ?_) (fun c77 => ?_)
            · have hv := hv.trans (if_pos c77)
              refine lv_iload hx hb dX1_product_103 (lv_at hl 0 rfl) ?_
              refine lv_if_eq (tgt := 116) hx hb dX1_product_105 (by decide) (fun c105 => ?_) (fun c105 => ?_)
              · have hv := hv.trans (if_pos c105)
                refine lv_aload_n hx hb dX1_product_116 rfl (lv_at hl 1 rfl) ?_
                refine lv_lload_n hx hb dX1_product_117 rfl (lv_at hl 2 rfl) ?_
                refine sm_ci (sm_runV (rest := []) hC (c_X1_exponent l g i x1 hi) k_X1_exponent w_241 (by decide) (sm_pf hA hS hi) rfl hl.1 rfl (Nat.le_of_ble_eq_true rfl) dX1_product_118) ?_
                refine lv_aload_n hx hb dX1_product_121 rfl (lv_at hl 1 rfl) ?_
                refine lv_lload_n hx hb dX1_product_122 rfl (lv_at hl 3 rfl) ?_
                refine sm_ci (sm_runV (rest := [.int (f_X1_exponent i x1)]) hC (c_X1_exponent l g i x3 hi) k_X1_exponent w_241 (by decide) (sm_pf hA hS hi) rfl hl.1 rfl (Nat.le_of_ble_eq_true rfl) dX1_product_123) ?_
                refine lv_iadd hx hb dX1_product_126 ?_
                refine lv_bipush (v := 44) hx hb dX1_product_127 (by decide) ?_
                refine lv_iadd hx hb dX1_product_129 ?_
                refine sm_nmi hv (fun y130_1 ey130_1 hv => ?_)
                refine lv_istore (lv' := [(7, .int y130_1), (6, .int t0_62), (0, .ref (gF g i)), (1, .long x1), (3, .long x3), (5, .int t0_39)]) hx hb dX1_product_130 hl (by decide) rfl (fun ls hl => ?_)
                refine lv_aload_n hx hb dX1_product_132 rfl (lv_at hl 2 rfl) ?_
                refine lv_iload hx hb dX1_product_133 (lv_at hl 5 rfl) ?_
                refine lv_iload hx hb dX1_product_135 (lv_at hl 0 rfl) ?_
                refine lv_aload_n hx hb dX1_product_137 rfl (lv_at hl 2 rfl) ?_
                refine lv_lload_n hx hb dX1_product_138 rfl (lv_at hl 3 rfl) ?_
                refine sm_cl (sm_runV (rest := [.int y130_1, .int t0_39, .ref (gF g i)]) hC (c_X1_significand l g i x1 hi) k_X1_significand w_261 (by decide) (sm_pf hA hS hi) rfl hl.1 rfl (Nat.le_of_ble_eq_true rfl) dX1_product_139) ?_
                refine lv_aload_n hx hb dX1_product_142 rfl (lv_at hl 2 rfl) ?_
                refine lv_lload_n hx hb dX1_product_143 rfl (lv_at hl 4 rfl) ?_
                refine sm_cl (sm_runV (rest := [.long (f_X1_significand i x1), .int y130_1, .int t0_39, .ref (gF g i)]) hC (c_X1_significand l g i x3 hi) k_X1_significand w_261 (by decide) (sm_pf hA hS hi) rfl hl.1 rfl (Nat.le_of_ble_eq_true rfl) dX1_product_144) ?_
                refine sm_cl (sm_runS (rest := [.int y130_1, .int t0_39, .ref (gF g i)]) hC (c_X1_highProduct l g (f_X1_significand i x1) (f_X1_significand i x3)) k_X1_highProduct w_327 (by decide) (sm_ps hA hS) rfl hl.1 rfl (Nat.le_of_ble_eq_true rfl) dX1_product_147) ?_
                refine sm_cl (sm_runV (rest := []) hC (c_X1_rounded l g i t0_39 y130_1 (f_X1_highProduct (f_X1_significand i x1) (f_X1_significand i x3)) hi) k_X1_rounded w_208 (by decide) (sm_pf hA hS hi) rfl hl.1 rfl (Nat.le_of_ble_eq_true rfl) dX1_product_150) ?_
                exact sm_rl hx hb hr hlocks hv dX1_product_153
              · have hv := hv.trans (if_neg c105)
                refine lv_aload_n hx hb dX1_product_108 rfl (lv_at hl 1 rfl) ?_
                refine lv_iload hx hb dX1_product_109 (lv_at hl 4 rfl) ?_
                refine lv_lconst (v := 0) hx hb dX1_product_111 (by decide) ?_
                refine sm_cl (sm_runV (rest := []) hC (c_X1_signed l g i t0_39 0 hi) k_X1_signed w_222 (by decide) (sm_pf hA hS hi) rfl hl.1 rfl (Nat.le_of_ble_eq_true rfl) dX1_product_112) ?_
                exact sm_rl hx hb hr hlocks hv dX1_product_115
            · have hv := hv.trans (if_neg c77)
              exact k_80 _ (lv_sub hl [1, 4, 0] rfl) hv
        have k_57 : ∀  (ls : Array Slot), lv_has ls 8 [(0, .ref (gF g i)), (1, .long x1), (3, .long x3), (5, .int t0_39)] → F = f_X1_product_57 i x1 x3 t0_39 → W p l e (rmd 4) s m args below meth c s.heap [] 0 0 (MQ below (vp_Sl (fun r => r = F)) args s 0 0 (fun _ => False)) (F0 m 57 ls []) := by
          intro ls hl hv
          refine lv_iconst (v := 1) hx hb dX1_product_57 (by decide) ?_
          refine lv_goto (tgt := 62) hx hb dX1_product_58 (by decide) ?_
          exact k_62 1 _ (lv_sub hl [0, 1, 2, 3] rfl) hv
        refine lv_if_ne (tgt := 57) hx hb dX1_product_46 (by decide) (fun c46 => ?_) (fun c46 => ?_)
        · have hv := hv.trans (if_neg c46)
          exact k_57 _ (lv_sub hl [1, 2, 3, 0] rfl) hv
        · have hv := hv.trans (if_pos c46)
          refine lv_aload_n hx hb dX1_product_49 rfl (lv_at hl 1 rfl) ?_
          refine lv_lload_n hx hb dX1_product_50 rfl (lv_at hl 3 rfl) ?_
          refine sm_ci (sm_runV (rest := []) hC (c_X1_isZero l g i x3 hi) k_X1_isZero w_237 (by decide) (sm_pf hA hS hi) rfl hl.1 rfl (Nat.le_of_ble_eq_true rfl) dX1_product_51) ?_
          refine lv_if_eq (tgt := 61) hx hb dX1_product_54 (by decide) (fun c54 => ?_) (fun c54 => ?_)
          · have hv := hv.trans (if_pos c54)
            refine lv_iconst (v := 0) hx hb dX1_product_61 (by decide) ?_
            exact k_62 0 _ (lv_sub hl [1, 2, 3, 0] rfl) hv
          · have hv := hv.trans (if_neg c54)
            exact k_57 _ (lv_sub hl [1, 2, 3, 0] rfl) hv
      refine lv_icmp_eq (tgt := 38) hx hb dX1_product_31 (by decide) (fun c31 => ?_) (fun c31 => ?_)
      · have hv := hv.trans (if_pos c31)
        refine lv_iconst (v := 0) hx hb dX1_product_38 (by decide) ?_
        exact k_39 0 _ (lv_sub hl [0, 1, 2] rfl) hv
      · have hv := hv.trans (if_neg c31)
        refine lv_iconst (v := 1) hx hb dX1_product_34 (by decide) ?_
        refine lv_goto (tgt := 39) hx hb dX1_product_35 (by decide) ?_
        exact k_39 1 _ (lv_sub hl [0, 1, 2] rfl) hv
    · have hv := hv.trans (if_neg c13)
      refine lv_aload_n hx hb dX1_product_16 rfl (lv_at hl 0 rfl) ?_
      refine fg_RX1_48 hx hb hts hown hA hS hi dX1_product_17 ?_
      exact sm_rl hx hb hr hlocks hv dX1_product_20
def f_X1_longQuotient_21 : Nat → Int64 → Int64 → Int64 → Int32 → Int64
  | 0, _, _, _, _ => default
  | n + 1, x2, v4_21, v6_21, v8_21 => if 6 ≤ v8_21 then (if v6_21 = 0 then v4_21 else (v4_21 ||| 1)) else (sm_let (v6_21 <<< (Int32.toInt64 10 &&& 63)) (fun y33_3 => sm_let ((v4_21 <<< (Int32.toInt64 10 &&& 63)) + (y33_3 / x2)) (fun y45_4 => sm_let (y33_3 - y33_3 / x2 * x2) (fun y51_5 => sm_let (v8_21 + 1) (fun y53_6 => f_X1_longQuotient_21 n x2 y45_4 y51_5 y53_6)))))
def f_X1_longQuotient (x0 : Int64) (x2 : Int64) : Int64 := if x2 = 0 then 0 else (sm_let (x0 / x2) (fun y11_1 => sm_let (x0 - x0 / x2 * x2) (fun y16_2 => f_X1_longQuotient_21 (((6 : Int32).toInt - Int32.toInt 0).toNat + 1) x2 y11_1 y16_2 0)))
set_option maxRecDepth 100000 in
set_option maxHeartbeats 4000000 in
theorem c_X1_longQuotient (l : Launch) (g : sm_G) (x0 : Int64) (x2 : Int64)   : Met l yX1_longQuotient (sm_ws yX1_longQuotient cX1_longQuotient 9 (some .long)) (rmd 0) (va_Pc [.long x0, .long x2] (sm_P0 g)) (vp_Sl (fun r => r = f_X1_longQuotient x0 x2)) 0 0 (fun _ => False) := by
  generalize hv : f_X1_longQuotient x0 x2 = F
  replace hv := hv.symm
  refine sm_mP (by decide) (Nat.le_of_ble_eq_true rfl) (fun p e s m args below meth c C hA ls hl => ?_)
  obtain ⟨hC, hr, hlocks⟩ := C
  have hx := hC.1
  have hb := hC.2.1
  have hts := hC.2.2.2.2
  have hown : s.vm.findClass RX1 = some m.cls := hC.2.2.2.1
  have hS : va_S (fun _ => False) s.heap s.heap [] := va_S.rf
  have hl : lv_has ls 9 [(0, .long x0), (2, .long x2)] := hl
  refine lv_lload_n hx hb dX1_longQuotient_0 rfl (lv_at hl 1 rfl) ?_
  refine lv_lconst (v := 0) hx hb dX1_longQuotient_1 (by decide) ?_
  refine lc_ne (tgt := 8) hx hb dX1_longQuotient_2 dX1_longQuotient_3 (by decide) (fun c2 => ?_) (fun c2 => ?_)
  · have hv := hv.trans (if_neg c2)
    refine lv_lload_n hx hb dX1_longQuotient_8 rfl (lv_at hl 0 rfl) ?_
    refine lv_lload_n hx hb dX1_longQuotient_9 rfl (lv_at hl 1 rfl) ?_
    refine lv_ldiv hx hb dX1_longQuotient_10 c2 ?_
    refine sm_nml hv (fun y11_1 ey11_1 hv => ?_)
    refine lv_lstore (lv' := [(4, .long y11_1), (0, .long x0), (2, .long x2)]) hx hb dX1_longQuotient_11 hl (by decide) rfl (fun ls hl => ?_)
    refine lv_lload_n hx hb dX1_longQuotient_13 rfl (lv_at hl 1 rfl) ?_
    refine lv_lload_n hx hb dX1_longQuotient_14 rfl (lv_at hl 2 rfl) ?_
    refine lv_lrem hx hb dX1_longQuotient_15 c2 ?_
    refine sm_nml hv (fun y16_2 ey16_2 hv => ?_)
    refine lv_lstore (lv' := [(6, .long y16_2), (4, .long y11_1), (0, .long x0), (2, .long x2)]) hx hb dX1_longQuotient_16 hl (by decide) rfl (fun ls hl => ?_)
    refine lv_iconst (v := 0) hx hb dX1_longQuotient_18 (by decide) ?_
    have k_21 : ∀ (n : Nat) (v4_21 : Int64) (v6_21 : Int64) (v8_21 : Int32) (ls : Array Slot), ¬ v8_21 < 0 → ((6 : Int32).toInt - Int32.toInt v8_21).toNat < n → lv_has ls 9 [(2, .long x2), (4, .long v4_21), (6, .long v6_21), (8, .int v8_21)] → F = f_X1_longQuotient_21 n x2 v4_21 v6_21 v8_21 → W p l e (rmd 0) s m args below meth c s.heap [] 0 0 (MQ below (vp_Sl (fun r => r = F)) args s 0 0 (fun _ => False)) (F0 m 21 ls []) := by
      intro n
      induction n with
      | zero =>
        intro v4_21 v6_21 v8_21 ls i0 hme hl hv
        exact absurd hme (Nat.not_lt_zero _)
      | succ n ih =>
        intro v4_21 v6_21 v8_21 ls i0 hme hl hv
        refine lv_iload hx hb dX1_longQuotient_21 (lv_at hl 3 rfl) ?_
        refine lv_bipush (v := 6) hx hb dX1_longQuotient_23 (by decide) ?_
        refine lv_icmp_ge (tgt := 59) hx hb dX1_longQuotient_25 (by decide) (fun c25 => ?_) (fun c25 => ?_)
        · have hv := hv.trans (if_pos c25)
          refine lv_lload hx hb dX1_longQuotient_59 (lv_at hl 2 rfl) ?_
          refine lv_lconst (v := 0) hx hb dX1_longQuotient_61 (by decide) ?_
          refine lc_ne (tgt := 71) hx hb dX1_longQuotient_62 dX1_longQuotient_63 (by decide) (fun c62 => ?_) (fun c62 => ?_)
          · have hv := hv.trans (if_neg c62)
            refine lv_lload hx hb dX1_longQuotient_71 (lv_at hl 1 rfl) ?_
            refine lv_lconst (v := 1) hx hb dX1_longQuotient_73 (by decide) ?_
            refine lv_lor hx hb dX1_longQuotient_74 ?_
            exact sm_rl hx hb hr hlocks hv dX1_longQuotient_75
          · have hv := hv.trans (if_pos c62)
            refine lv_lload hx hb dX1_longQuotient_66 (lv_at hl 1 rfl) ?_
            refine lv_goto (tgt := 75) hx hb dX1_longQuotient_68 (by decide) ?_
            exact sm_rl hx hb hr hlocks hv dX1_longQuotient_75
        · have hv := hv.trans (if_neg c25)
          refine lv_lload hx hb dX1_longQuotient_28 (lv_at hl 2 rfl) ?_
          refine lv_bipush (v := 10) hx hb dX1_longQuotient_30 (by decide) ?_
          refine lv_lshl hx hb dX1_longQuotient_32 rfl ?_
          refine sm_nml hv (fun y33_3 ey33_3 hv => ?_)
          refine lv_lstore (lv' := [(6, .long y33_3), (2, .long x2), (4, .long v4_21), (8, .int v8_21)]) hx hb dX1_longQuotient_33 hl (by decide) rfl (fun ls hl => ?_)
          refine lv_lload hx hb dX1_longQuotient_35 (lv_at hl 2 rfl) ?_
          refine lv_bipush (v := 10) hx hb dX1_longQuotient_37 (by decide) ?_
          refine lv_lshl hx hb dX1_longQuotient_39 rfl ?_
          refine lv_lload hx hb dX1_longQuotient_40 (lv_at hl 0 rfl) ?_
          refine lv_lload_n hx hb dX1_longQuotient_42 rfl (lv_at hl 1 rfl) ?_
          refine lv_ldiv hx hb dX1_longQuotient_43 c2 ?_
          refine lv_ladd hx hb dX1_longQuotient_44 ?_
          refine sm_nml hv (fun y45_4 ey45_4 hv => ?_)
          refine lv_lstore (lv' := [(4, .long y45_4), (6, .long y33_3), (2, .long x2), (8, .int v8_21)]) hx hb dX1_longQuotient_45 hl (by decide) rfl (fun ls hl => ?_)
          refine lv_lload hx hb dX1_longQuotient_47 (lv_at hl 1 rfl) ?_
          refine lv_lload_n hx hb dX1_longQuotient_49 rfl (lv_at hl 2 rfl) ?_
          refine lv_lrem hx hb dX1_longQuotient_50 c2 ?_
          refine sm_nml hv (fun y51_5 ey51_5 hv => ?_)
          refine lv_lstore (lv' := [(6, .long y51_5), (4, .long y45_4), (2, .long x2), (8, .int v8_21)]) hx hb dX1_longQuotient_51 hl (by decide) rfl (fun ls hl => ?_)
          obtain ⟨y53_6, ey53_6, hv⟩ := sm_lt hv
          refine lv_iinc (v := y53_6) (lv' := [(8, .int y53_6), (6, .long y51_5), (4, .long y45_4), (2, .long x2)]) hx hb dX1_longQuotient_53 hl (k := 3) rfl (by rw [ey53_6]; rfl) (by decide) rfl (fun ls hl => ?_)
          refine lv_goto (tgt := 21) hx hb dX1_longQuotient_56 (by decide) ?_
          exact ih y45_4 y51_5 y53_6 _ (by rw [ey53_6]; exact nn_inc i0 c25) (by rw [ey53_6]; exact Nat.lt_of_lt_of_le (me_inc c25) (Nat.le_of_lt_succ hme)) (lv_sub hl [3, 2, 1, 0] rfl) hv
    refine lv_istore (lv' := [(8, .int 0), (6, .long y16_2), (4, .long y11_1), (0, .long x0), (2, .long x2)]) hx hb dX1_longQuotient_19 hl (by decide) rfl (fun ls hl => ?_)
    exact k_21 (((6 : Int32).toInt - Int32.toInt 0).toNat + 1) y11_1 y16_2 0 _ (by decide) (Nat.lt_succ_self _) (lv_sub hl [4, 2, 1, 0] rfl) hv
  · have hv := hv.trans (if_pos c2)
    refine lv_lconst (v := 0) hx hb dX1_longQuotient_6 (by decide) ?_
    exact sm_rl hx hb hr hlocks hv dX1_longQuotient_7
def f_X1_quotient_89 (i : Nat) (t0_71 : Int32) : Int64 := f_X1_signed i t0_71 (kIn i)
def f_X1_quotient_116 (i : Nat) (t0_71 : Int32) : Int64 := f_X1_signed i t0_71 0
def f_X1_quotient_71 (i : Nat) (x1 : Int64) (x3 : Int64) (t0_71 : Int32) : Int64 := if (f_X1_isInfinite i x1) = 0 then (if (f_X1_isZero i x3) = 0 then (if (f_X1_isZero i x1) = 0 then (if (f_X1_isInfinite i x3) = 0 then (sm_let (((f_X1_exponent i x1) - (f_X1_exponent i x3)) - 60) (fun y138_1 => f_X1_rounded i t0_71 y138_1 (f_X1_longQuotient (f_X1_significand i x1) (f_X1_significand i x3)))) else (f_X1_quotient_116 i t0_71)) else (f_X1_quotient_116 i t0_71)) else (f_X1_quotient_89 i t0_71)) else (f_X1_quotient_89 i t0_71)
def f_X1_quotient_53 (i : Nat) (x1 : Int64) (x3 : Int64) : Int64 := if (f_X1_isNegative i x1) = (f_X1_isNegative i x3) then (f_X1_quotient_71 i x1 x3 0) else (f_X1_quotient_71 i x1 x3 1)
def f_X1_quotient_32 (i : Nat) (x1 : Int64) (x3 : Int64) : Int64 := if (f_X1_isZero i x1) = 0 then (f_X1_quotient_53 i x1 x3) else (if (f_X1_isZero i x3) = 0 then (f_X1_quotient_53 i x1 x3) else (kNa i))
def f_X1_quotient (i : Nat) (x1 : Int64) (x3 : Int64) : Int64 := if (f_X1_isNan i x1) = 0 then (if (f_X1_isNan i x3) = 0 then (if (f_X1_isInfinite i x1) = 0 then (f_X1_quotient_32 i x1 x3) else (if (f_X1_isInfinite i x3) = 0 then (f_X1_quotient_32 i x1 x3) else (kNa i))) else (kNa i)) else (kNa i)
set_option maxRecDepth 100000 in
set_option maxHeartbeats 4000000 in
theorem c_X1_quotient (l : Launch) (g : sm_G) (i : Nat) (x1 : Int64) (x3 : Int64) (hi : i < 2)  : Met l yX1_quotient (sm_ws yX1_quotient cX1_quotient 7 (some .long)) (rmd 4) (va_Pc [.ref (gF g i), .long x1, .long x3] (sm_P0 g)) (vp_Sl (fun r => r = f_X1_quotient i x1 x3)) 0 0 (fun _ => False) := by
  generalize hv : f_X1_quotient i x1 x3 = F
  replace hv := hv.symm
  refine sm_mP (by decide) (Nat.le_of_ble_eq_true rfl) (fun p e s m args below meth c C hA ls hl => ?_)
  obtain ⟨hC, hr, hlocks⟩ := C
  have hx := hC.1
  have hb := hC.2.1
  have hts := hC.2.2.2.2
  have hown : s.vm.findClass RX1 = some m.cls := hC.2.2.2.1
  have hS : va_S (fun _ => False) s.heap s.heap [] := va_S.rf
  have hl : lv_has ls 7 [(0, .ref (gF g i)), (1, .long x1), (3, .long x3)] := hl
  refine lv_aload_n hx hb dX1_quotient_0 rfl (lv_at hl 0 rfl) ?_
  refine lv_lload_n hx hb dX1_quotient_1 rfl (lv_at hl 1 rfl) ?_
  refine sm_ci (sm_runV (rest := []) hC (c_X1_isNan l g i x1 hi) k_X1_isNan w_154 (by decide) (sm_pf hA hS hi) rfl hl.1 rfl (Nat.le_of_ble_eq_true rfl) dX1_quotient_2) ?_
  refine lv_if_ne (tgt := 48) hx hb dX1_quotient_5 (by decide) (fun c5 => ?_) (fun c5 => ?_)
  · have hv := hv.trans (if_neg c5)
    refine lv_aload_n hx hb dX1_quotient_48 rfl (lv_at hl 0 rfl) ?_
    refine fg_RX1_48 hx hb hts hown hA hS hi dX1_quotient_49 ?_
    exact sm_rl hx hb hr hlocks hv dX1_quotient_52
  · have hv := hv.trans (if_pos c5)
    refine lv_aload_n hx hb dX1_quotient_8 rfl (lv_at hl 0 rfl) ?_
    refine lv_lload_n hx hb dX1_quotient_9 rfl (lv_at hl 2 rfl) ?_
    refine sm_ci (sm_runV (rest := []) hC (c_X1_isNan l g i x3 hi) k_X1_isNan w_154 (by decide) (sm_pf hA hS hi) rfl hl.1 rfl (Nat.le_of_ble_eq_true rfl) dX1_quotient_10) ?_
    refine lv_if_ne (tgt := 48) hx hb dX1_quotient_13 (by decide) (fun c13 => ?_) (fun c13 => ?_)
    · have hv := hv.trans (if_neg c13)
      refine lv_aload_n hx hb dX1_quotient_48 rfl (lv_at hl 0 rfl) ?_
      refine fg_RX1_48 hx hb hts hown hA hS hi dX1_quotient_49 ?_
      exact sm_rl hx hb hr hlocks hv dX1_quotient_52
    · have hv := hv.trans (if_pos c13)
      refine lv_aload_n hx hb dX1_quotient_16 rfl (lv_at hl 0 rfl) ?_
      refine lv_lload_n hx hb dX1_quotient_17 rfl (lv_at hl 1 rfl) ?_
      refine sm_ci (sm_runV (rest := []) hC (c_X1_isInfinite l g i x1 hi) k_X1_isInfinite w_252 (by decide) (sm_pf hA hS hi) rfl hl.1 rfl (Nat.le_of_ble_eq_true rfl) dX1_quotient_18) ?_
      have k_32 : ∀  (ls : Array Slot), lv_has ls 7 [(0, .ref (gF g i)), (1, .long x1), (3, .long x3)] → F = f_X1_quotient_32 i x1 x3 → W p l e (rmd 4) s m args below meth c s.heap [] 0 0 (MQ below (vp_Sl (fun r => r = F)) args s 0 0 (fun _ => False)) (F0 m 32 ls []) := by
        intro ls hl hv
        refine lv_aload_n hx hb dX1_quotient_32 rfl (lv_at hl 0 rfl) ?_
        refine lv_lload_n hx hb dX1_quotient_33 rfl (lv_at hl 1 rfl) ?_
        refine sm_ci (sm_runV (rest := []) hC (c_X1_isZero l g i x1 hi) k_X1_isZero w_237 (by decide) (sm_pf hA hS hi) rfl hl.1 rfl (Nat.le_of_ble_eq_true rfl) dX1_quotient_34) ?_
        have k_53 : ∀  (ls : Array Slot), lv_has ls 7 [(0, .ref (gF g i)), (1, .long x1), (3, .long x3)] → F = f_X1_quotient_53 i x1 x3 → W p l e (rmd 4) s m args below meth c s.heap [] 0 0 (MQ below (vp_Sl (fun r => r = F)) args s 0 0 (fun _ => False)) (F0 m 53 ls []) := by
          intro ls hl hv
          refine lv_aload_n hx hb dX1_quotient_53 rfl (lv_at hl 0 rfl) ?_
          refine lv_lload_n hx hb dX1_quotient_54 rfl (lv_at hl 1 rfl) ?_
          refine sm_ci (sm_runV (rest := []) hC (c_X1_isNegative l g i x1 hi) k_X1_isNegative w_256 (by decide) (sm_pf hA hS hi) rfl hl.1 rfl (Nat.le_of_ble_eq_true rfl) dX1_quotient_55) ?_
          refine lv_aload_n hx hb dX1_quotient_58 rfl (lv_at hl 0 rfl) ?_
          refine lv_lload_n hx hb dX1_quotient_59 rfl (lv_at hl 2 rfl) ?_
          refine sm_ci (sm_runV (rest := [.int (f_X1_isNegative i x1)]) hC (c_X1_isNegative l g i x3 hi) k_X1_isNegative w_256 (by decide) (sm_pf hA hS hi) rfl hl.1 rfl (Nat.le_of_ble_eq_true rfl) dX1_quotient_60) ?_
          have k_71 : ∀ (t0_71 : Int32) (ls : Array Slot), lv_has ls 7 [(0, .ref (gF g i)), (1, .long x1), (3, .long x3)] → F = f_X1_quotient_71 i x1 x3 t0_71 → W p l e (rmd 4) s m args below meth c s.heap [] 0 0 (MQ below (vp_Sl (fun r => r = F)) args s 0 0 (fun _ => False)) (F0 m 71 ls [.int t0_71]) := by
            intro t0_71 ls hl hv
            refine lv_istore (lv' := [(5, .int t0_71), (0, .ref (gF g i)), (1, .long x1), (3, .long x3)]) hx hb dX1_quotient_71 hl (by decide) rfl (fun ls hl => ?_)
            refine lv_aload_n hx hb dX1_quotient_73 rfl (lv_at hl 1 rfl) ?_
            refine lv_lload_n hx hb dX1_quotient_74 rfl (lv_at hl 2 rfl) ?_
            refine sm_ci (sm_runV (rest := []) hC (c_X1_isInfinite l g i x1 hi) k_X1_isInfinite w_252 (by decide) (sm_pf hA hS hi) rfl hl.1 rfl (Nat.le_of_ble_eq_true rfl) dX1_quotient_75) ?_
            have k_89 : ∀  (ls : Array Slot), lv_has ls 7 [(0, .ref (gF g i)), (5, .int t0_71)] → F = f_X1_quotient_89 i t0_71 → W p l e (rmd 4) s m args below meth c s.heap [] 0 0 (MQ below (vp_Sl (fun r => r = F)) args s 0 0 (fun _ => False)) (F0 m 89 ls []) := by
              intro ls hl hv
              refine lv_aload_n hx hb dX1_quotient_89 rfl (lv_at hl 0 rfl) ?_
              refine lv_iload hx hb dX1_quotient_90 (lv_at hl 1 rfl) ?_
              refine lv_aload_n hx hb dX1_quotient_92 rfl (lv_at hl 0 rfl) ?_
              refine fg_RX1_45 hx hb hts hown hA hS hi dX1_quotient_93 ?_
              refine sm_cl (sm_runV (rest := []) hC (c_X1_signed l g i t0_71 (kIn i) hi) k_X1_signed w_222 (by decide) (sm_pf hA hS hi) rfl hl.1 rfl (Nat.le_of_ble_eq_true rfl) dX1_quotient_96) ?_
              exact sm_rl hx hb hr hlocks hv dX1_quotient_99
            refine lv_if_ne (tgt := 89) hx hb dX1_quotient_78 (by decide) (fun c78 => ?_) (fun c78 => ?_)
            · have hv := hv.trans (if_neg c78)
              exact k_89 _ (lv_sub hl [1, 0] rfl) hv
            · have hv := hv.trans (if_pos c78)
              refine lv_aload_n hx hb dX1_quotient_81 rfl (lv_at hl 1 rfl) ?_
              refine lv_lload_n hx hb dX1_quotient_82 rfl (lv_at hl 3 rfl) ?_
              refine sm_ci (sm_runV (rest := []) hC (c_X1_isZero l g i x3 hi) k_X1_isZero w_237 (by decide) (sm_pf hA hS hi) rfl hl.1 rfl (Nat.le_of_ble_eq_true rfl) dX1_quotient_83) ?_
              refine lv_if_eq (tgt := 100) hx hb dX1_quotient_86 (by decide) (fun c86 => ?_) (fun c86 => ?_)
              · have hv := hv.trans (if_pos c86)
                refine lv_aload_n hx hb dX1_quotient_100 rfl (lv_at hl 1 rfl) ?_
                refine lv_lload_n hx hb dX1_quotient_101 rfl (lv_at hl 2 rfl) ?_
                refine sm_ci (sm_runV (rest := []) hC (c_X1_isZero l g i x1 hi) k_X1_isZero w_237 (by decide) (sm_pf hA hS hi) rfl hl.1 rfl (Nat.le_of_ble_eq_true rfl) dX1_quotient_102) ?_
                have k_116 : ∀  (ls : Array Slot), lv_has ls 7 [(0, .ref (gF g i)), (5, .int t0_71)] → F = f_X1_quotient_116 i t0_71 → W p l e (rmd 4) s m args below meth c s.heap [] 0 0 (MQ below (vp_Sl (fun r => r = F)) args s 0 0 (fun _ => False)) (F0 m 116 ls []) := by
                  intro ls hl hv
                  refine lv_aload_n hx hb dX1_quotient_116 rfl (lv_at hl 0 rfl) ?_
                  refine lv_iload hx hb dX1_quotient_117 (lv_at hl 1 rfl) ?_
                  refine lv_lconst (v := 0) hx hb dX1_quotient_119 (by decide) ?_
                  refine sm_cl (sm_runV (rest := []) hC (c_X1_signed l g i t0_71 0 hi) k_X1_signed w_222 (by decide) (sm_pf hA hS hi) rfl hl.1 rfl (Nat.le_of_ble_eq_true rfl) dX1_quotient_120) ?_
                  exact sm_rl hx hb hr hlocks hv dX1_quotient_123
                refine lv_if_ne (tgt := 116) hx hb dX1_quotient_105 (by decide) (fun c105 => ?_) (fun c105 => ?_)
                · have hv := hv.trans (if_neg c105)
                  exact k_116 _ (lv_sub hl [1, 0] rfl) hv
                · have hv := hv.trans (if_pos c105)
                  refine lv_aload_n hx hb dX1_quotient_108 rfl (lv_at hl 1 rfl) ?_
                  refine lv_lload_n hx hb dX1_quotient_109 rfl (lv_at hl 3 rfl) ?_
                  refine sm_ci (sm_runV (rest := []) hC (c_X1_isInfinite l g i x3 hi) k_X1_isInfinite w_252 (by decide) (sm_pf hA hS hi) rfl hl.1 rfl (Nat.le_of_ble_eq_true rfl) dX1_quotient_110) ?_
                  refine lv_if_eq (tgt := 124) hx hb dX1_quotient_113 (by decide) (fun c113 => ?_) (fun c113 => ?_)
                  · have hv := hv.trans (if_pos c113)
                    refine lv_aload_n hx hb dX1_quotient_124 rfl (lv_at hl 1 rfl) ?_
                    refine lv_lload_n hx hb dX1_quotient_125 rfl (lv_at hl 2 rfl) ?_
                    refine sm_ci (sm_runV (rest := []) hC (c_X1_exponent l g i x1 hi) k_X1_exponent w_241 (by decide) (sm_pf hA hS hi) rfl hl.1 rfl (Nat.le_of_ble_eq_true rfl) dX1_quotient_126) ?_
                    refine lv_aload_n hx hb dX1_quotient_129 rfl (lv_at hl 1 rfl) ?_
                    refine lv_lload_n hx hb dX1_quotient_130 rfl (lv_at hl 3 rfl) ?_
                    refine sm_ci (sm_runV (rest := [.int (f_X1_exponent i x1)]) hC (c_X1_exponent l g i x3 hi) k_X1_exponent w_241 (by decide) (sm_pf hA hS hi) rfl hl.1 rfl (Nat.le_of_ble_eq_true rfl) dX1_quotient_131) ?_
                    refine lv_isub hx hb dX1_quotient_134 ?_
                    refine lv_bipush (v := 60) hx hb dX1_quotient_135 (by decide) ?_
                    refine lv_isub hx hb dX1_quotient_137 ?_
                    refine sm_nmi hv (fun y138_1 ey138_1 hv => ?_)
                    refine lv_istore (lv' := [(6, .int y138_1), (5, .int t0_71), (0, .ref (gF g i)), (1, .long x1), (3, .long x3)]) hx hb dX1_quotient_138 hl (by decide) rfl (fun ls hl => ?_)
                    refine lv_aload_n hx hb dX1_quotient_140 rfl (lv_at hl 2 rfl) ?_
                    refine lv_iload hx hb dX1_quotient_141 (lv_at hl 1 rfl) ?_
                    refine lv_iload hx hb dX1_quotient_143 (lv_at hl 0 rfl) ?_
                    refine lv_aload_n hx hb dX1_quotient_145 rfl (lv_at hl 2 rfl) ?_
                    refine lv_lload_n hx hb dX1_quotient_146 rfl (lv_at hl 3 rfl) ?_
                    refine sm_cl (sm_runV (rest := [.int y138_1, .int t0_71, .ref (gF g i)]) hC (c_X1_significand l g i x1 hi) k_X1_significand w_261 (by decide) (sm_pf hA hS hi) rfl hl.1 rfl (Nat.le_of_ble_eq_true rfl) dX1_quotient_147) ?_
                    refine lv_aload_n hx hb dX1_quotient_150 rfl (lv_at hl 2 rfl) ?_
                    refine lv_lload_n hx hb dX1_quotient_151 rfl (lv_at hl 4 rfl) ?_
                    refine sm_cl (sm_runV (rest := [.long (f_X1_significand i x1), .int y138_1, .int t0_71, .ref (gF g i)]) hC (c_X1_significand l g i x3 hi) k_X1_significand w_261 (by decide) (sm_pf hA hS hi) rfl hl.1 rfl (Nat.le_of_ble_eq_true rfl) dX1_quotient_152) ?_
                    refine sm_cl (sm_runS (rest := [.int y138_1, .int t0_71, .ref (gF g i)]) hC (c_X1_longQuotient l g (f_X1_significand i x1) (f_X1_significand i x3)) k_X1_longQuotient w_335 (by decide) (sm_ps hA hS) rfl hl.1 rfl (Nat.le_of_ble_eq_true rfl) dX1_quotient_155) ?_
                    refine sm_cl (sm_runV (rest := []) hC (c_X1_rounded l g i t0_71 y138_1 (f_X1_longQuotient (f_X1_significand i x1) (f_X1_significand i x3)) hi) k_X1_rounded w_208 (by decide) (sm_pf hA hS hi) rfl hl.1 rfl (Nat.le_of_ble_eq_true rfl) dX1_quotient_158) ?_
                    exact sm_rl hx hb hr hlocks hv dX1_quotient_161
                  · have hv := hv.trans (if_neg c113)
                    exact k_116 _ (lv_sub hl [1, 0] rfl) hv
              · have hv := hv.trans (if_neg c86)
                exact k_89 _ (lv_sub hl [1, 0] rfl) hv
          refine lv_icmp_eq (tgt := 70) hx hb dX1_quotient_63 (by decide) (fun c63 => ?_) (fun c63 => ?_)
          · have hv := hv.trans (if_pos c63)
            refine lv_iconst (v := 0) hx hb dX1_quotient_70 (by decide) ?_
            exact k_71 0 _ (lv_sub hl [0, 1, 2] rfl) hv
          · have hv := hv.trans (if_neg c63)
            refine lv_iconst (v := 1) hx hb dX1_quotient_66 (by decide) ?_
            refine lv_goto (tgt := 71) hx hb dX1_quotient_67 (by decide) ?_
            exact k_71 1 _ (lv_sub hl [0, 1, 2] rfl) hv
        refine lv_if_eq (tgt := 53) hx hb dX1_quotient_37 (by decide) (fun c37 => ?_) (fun c37 => ?_)
        · have hv := hv.trans (if_pos c37)
          exact k_53 _ (lv_sub hl [0, 1, 2] rfl) hv
        · have hv := hv.trans (if_neg c37)
          refine lv_aload_n hx hb dX1_quotient_40 rfl (lv_at hl 0 rfl) ?_
          refine lv_lload_n hx hb dX1_quotient_41 rfl (lv_at hl 2 rfl) ?_
          refine sm_ci (sm_runV (rest := []) hC (c_X1_isZero l g i x3 hi) k_X1_isZero w_237 (by decide) (sm_pf hA hS hi) rfl hl.1 rfl (Nat.le_of_ble_eq_true rfl) dX1_quotient_42) ?_
          refine lv_if_eq (tgt := 53) hx hb dX1_quotient_45 (by decide) (fun c45 => ?_) (fun c45 => ?_)
          · have hv := hv.trans (if_pos c45)
            exact k_53 _ (lv_sub hl [0, 1, 2] rfl) hv
          · have hv := hv.trans (if_neg c45)
            refine lv_aload_n hx hb dX1_quotient_48 rfl (lv_at hl 0 rfl) ?_
            refine fg_RX1_48 hx hb hts hown hA hS hi dX1_quotient_49 ?_
            exact sm_rl hx hb hr hlocks hv dX1_quotient_52
      refine lv_if_eq (tgt := 32) hx hb dX1_quotient_21 (by decide) (fun c21 => ?_) (fun c21 => ?_)
      · have hv := hv.trans (if_pos c21)
        exact k_32 _ (lv_sub hl [0, 1, 2] rfl) hv
      · have hv := hv.trans (if_neg c21)
        refine lv_aload_n hx hb dX1_quotient_24 rfl (lv_at hl 0 rfl) ?_
        refine lv_lload_n hx hb dX1_quotient_25 rfl (lv_at hl 2 rfl) ?_
        refine sm_ci (sm_runV (rest := []) hC (c_X1_isInfinite l g i x3 hi) k_X1_isInfinite w_252 (by decide) (sm_pf hA hS hi) rfl hl.1 rfl (Nat.le_of_ble_eq_true rfl) dX1_quotient_26) ?_
        refine lv_if_ne (tgt := 48) hx hb dX1_quotient_29 (by decide) (fun c29 => ?_) (fun c29 => ?_)
        · have hv := hv.trans (if_neg c29)
          refine lv_aload_n hx hb dX1_quotient_48 rfl (lv_at hl 0 rfl) ?_
          refine fg_RX1_48 hx hb hts hown hA hS hi dX1_quotient_49 ?_
          exact sm_rl hx hb hr hlocks hv dX1_quotient_52
        · have hv := hv.trans (if_pos c29)
          exact k_32 _ (lv_sub hl [0, 1, 2] rfl) hv
def f_X1_longRemainder_17 : Nat → Int64 → Int64 → Int32 → Int64
  | 0, _, _, _ => default
  | n + 1, x2, v5_17, v7_17 => if v7_17 ≤ 0 then v5_17 else (sm_let ((v5_17 <<< (Int32.toInt64 (sm_min 10 v7_17) &&& 63)) - (v5_17 <<< (Int32.toInt64 (sm_min 10 v7_17) &&& 63)) / x2 * x2) (fun y34_2 => sm_let (v7_17 + -10) (fun y36_3 => f_X1_longRemainder_17 n x2 y34_2 y36_3)))
def f_X1_longRemainder (x0 : Int64) (x2 : Int64) (x4 : Int32) : Int64 := if x2 = 0 then 0 else (sm_let (x0 - x0 / x2 * x2) (fun y11_1 => f_X1_longRemainder_17 ((Int32.toInt x4).toNat + 1) x2 y11_1 x4))
set_option maxRecDepth 100000 in
set_option maxHeartbeats 4000000 in
theorem c_X1_longRemainder (l : Launch) (g : sm_G) (x0 : Int64) (x2 : Int64) (x4 : Int32)   : Met l yX1_longRemainder (sm_ws yX1_longRemainder cX1_longRemainder 8 (some .long)) (rmd 1) (va_Pc [.long x0, .long x2, .int x4] (sm_P0 g)) (vp_Sl (fun r => r = f_X1_longRemainder x0 x2 x4)) 0 0 (fun _ => False) := by
  generalize hv : f_X1_longRemainder x0 x2 x4 = F
  replace hv := hv.symm
  refine sm_mP (by decide) (Nat.le_of_ble_eq_true rfl) (fun p e s m args below meth c C hA ls hl => ?_)
  obtain ⟨hC, hr, hlocks⟩ := C
  have hx := hC.1
  have hb := hC.2.1
  have hts := hC.2.2.2.2
  have hown : s.vm.findClass RX1 = some m.cls := hC.2.2.2.1
  have hS : va_S (fun _ => False) s.heap s.heap [] := va_S.rf
  have hl : lv_has ls 8 [(0, .long x0), (2, .long x2), (4, .int x4)] := hl
  refine lv_lload_n hx hb dX1_longRemainder_0 rfl (lv_at hl 1 rfl) ?_
  refine lv_lconst (v := 0) hx hb dX1_longRemainder_1 (by decide) ?_
  refine lc_ne (tgt := 8) hx hb dX1_longRemainder_2 dX1_longRemainder_3 (by decide) (fun c2 => ?_) (fun c2 => ?_)
  · have hv := hv.trans (if_neg c2)
    refine lv_lload_n hx hb dX1_longRemainder_8 rfl (lv_at hl 0 rfl) ?_
    refine lv_lload_n hx hb dX1_longRemainder_9 rfl (lv_at hl 1 rfl) ?_
    refine lv_lrem hx hb dX1_longRemainder_10 c2 ?_
    refine sm_nml hv (fun y11_1 ey11_1 hv => ?_)
    refine lv_lstore (lv' := [(5, .long y11_1), (0, .long x0), (2, .long x2), (4, .int x4)]) hx hb dX1_longRemainder_11 hl (by decide) rfl (fun ls hl => ?_)
    refine lv_iload hx hb dX1_longRemainder_13 (lv_at hl 3 rfl) ?_
    have k_17 : ∀ (n : Nat) (v5_17 : Int64) (v7_17 : Int32) (ls : Array Slot), (Int32.toInt v7_17).toNat < n → lv_has ls 8 [(2, .long x2), (5, .long v5_17), (7, .int v7_17)] → F = f_X1_longRemainder_17 n x2 v5_17 v7_17 → W p l e (rmd 1) s m args below meth c s.heap [] 0 0 (MQ below (vp_Sl (fun r => r = F)) args s 0 0 (fun _ => False)) (F0 m 17 ls []) := by
      intro n
      induction n with
      | zero =>
        intro v5_17 v7_17 ls hme hl hv
        exact absurd hme (Nat.not_lt_zero _)
      | succ n ih =>
        intro v5_17 v7_17 ls hme hl hv
        refine lv_iload hx hb dX1_longRemainder_17 (lv_at hl 2 rfl) ?_
        refine lv_if_le (tgt := 42) hx hb dX1_longRemainder_19 (by decide) (fun c19 => ?_) (fun c19 => ?_)
        · have hv := hv.trans (if_pos c19)
          refine lv_lload hx hb dX1_longRemainder_42 (lv_at hl 1 rfl) ?_
          exact sm_rl hx hb hr hlocks hv dX1_longRemainder_44
        · have hv := hv.trans (if_neg c19)
          refine lv_lload hx hb dX1_longRemainder_22 (lv_at hl 1 rfl) ?_
          refine lv_bipush (v := 10) hx hb dX1_longRemainder_24 (by decide) ?_
          refine lv_iload hx hb dX1_longRemainder_26 (lv_at hl 2 rfl) ?_
          refine va_mmin hx hb (hC.2.2.1.trans hl.1.symm) hown (hts _ w_345) (hts _ w_346) (hts _ w_62) (hts _ w_347) (Nat.le_of_ble_eq_true rfl) (Nat.le_of_ble_eq_true rfl) (Nat.le_refl _) (Nat.le_refl _) dX1_longRemainder_28 ?_
          refine lv_lshl hx hb dX1_longRemainder_31 rfl ?_
          refine lv_lload_n hx hb dX1_longRemainder_32 rfl (lv_at hl 0 rfl) ?_
          refine lv_lrem hx hb dX1_longRemainder_33 c2 ?_
          refine sm_nml hv (fun y34_2 ey34_2 hv => ?_)
          refine lv_lstore (lv' := [(5, .long y34_2), (2, .long x2), (7, .int v7_17)]) hx hb dX1_longRemainder_34 hl (by decide) rfl (fun ls hl => ?_)
          obtain ⟨y36_3, ey36_3, hv⟩ := sm_lt hv
          refine lv_iinc (v := y36_3) (lv' := [(7, .int y36_3), (5, .long y34_2), (2, .long x2)]) hx hb dX1_longRemainder_36 hl (k := 2) rfl (by rw [ey36_3]; rfl) (by decide) rfl (fun ls hl => ?_)
          refine lv_goto (tgt := 17) hx hb dX1_longRemainder_39 (by decide) ?_
          exact ih y34_2 y36_3 _ (by rw [ey36_3]; exact Nat.lt_of_lt_of_le (me_dec10 c19) (Nat.le_of_lt_succ hme)) (lv_sub hl [2, 1, 0] rfl) hv
    refine lv_istore (lv' := [(7, .int x4), (5, .long y11_1), (0, .long x0), (2, .long x2), (4, .int x4)]) hx hb dX1_longRemainder_15 hl (by decide) rfl (fun ls hl => ?_)
    exact k_17 ((Int32.toInt x4).toNat + 1) y11_1 x4 _ (Nat.lt_succ_self _) (lv_sub hl [3, 1, 0] rfl) hv
  · have hv := hv.trans (if_pos c2)
    refine lv_lconst (v := 0) hx hb dX1_longRemainder_6 (by decide) ?_
    exact sm_rl hx hb hr hlocks hv dX1_longRemainder_7
def f_X1_remainder (i : Nat) (x1 : Int64) (x3 : Int64) : Int64 := if (f_X1_isNan i x1) = 0 then (if (f_X1_isNan i x3) = 0 then (if (f_X1_isInfinite i x1) = 0 then (if (f_X1_isZero i x3) = 0 then (if (f_X1_isZero i x1) = 0 then (if (f_X1_isInfinite i x3) = 0 then (if (f_X1_exponent i x3) ≤ (f_X1_exponent i x1) then (sm_let (f_X1_longRemainder (f_X1_significand i x1) (f_X1_significand i x3) ((f_X1_exponent i x1) - (f_X1_exponent i x3))) (fun y92_1 => if y92_1 = 0 then (f_X1_signed i (f_X1_isNegative i x1) 0) else (f_X1_rounded i (f_X1_isNegative i x1) (f_X1_exponent i x3) y92_1))) else x1) else x1) else x1) else (kNa i)) else (kNa i)) else (kNa i)) else (kNa i)
set_option maxRecDepth 100000 in
set_option maxHeartbeats 4000000 in
theorem c_X1_remainder (l : Launch) (g : sm_G) (i : Nat) (x1 : Int64) (x3 : Int64) (hi : i < 2)  : Met l yX1_remainder (sm_ws yX1_remainder cX1_remainder 7 (some .long)) (rmd 4) (va_Pc [.ref (gF g i), .long x1, .long x3] (sm_P0 g)) (vp_Sl (fun r => r = f_X1_remainder i x1 x3)) 0 0 (fun _ => False) := by
  generalize hv : f_X1_remainder i x1 x3 = F
  replace hv := hv.symm
  refine sm_mP (by decide) (Nat.le_of_ble_eq_true rfl) (fun p e s m args below meth c C hA ls hl => ?_)
  obtain ⟨hC, hr, hlocks⟩ := C
  have hx := hC.1
  have hb := hC.2.1
  have hts := hC.2.2.2.2
  have hown : s.vm.findClass RX1 = some m.cls := hC.2.2.2.1
  have hS : va_S (fun _ => False) s.heap s.heap [] := va_S.rf
  have hl : lv_has ls 7 [(0, .ref (gF g i)), (1, .long x1), (3, .long x3)] := hl
  refine lv_aload_n hx hb dX1_remainder_0 rfl (lv_at hl 0 rfl) ?_
  refine lv_lload_n hx hb dX1_remainder_1 rfl (lv_at hl 1 rfl) ?_
  refine sm_ci (sm_runV (rest := []) hC (c_X1_isNan l g i x1 hi) k_X1_isNan w_154 (by decide) (sm_pf hA hS hi) rfl hl.1 rfl (Nat.le_of_ble_eq_true rfl) dX1_remainder_2) ?_
  refine lv_if_ne (tgt := 32) hx hb dX1_remainder_5 (by decide) (fun c5 => ?_) (fun c5 => ?_)
  · have hv := hv.trans (if_neg c5)
    refine lv_aload_n hx hb dX1_remainder_32 rfl (lv_at hl 0 rfl) ?_
    refine fg_RX1_48 hx hb hts hown hA hS hi dX1_remainder_33 ?_
    exact sm_rl hx hb hr hlocks hv dX1_remainder_36
  · have hv := hv.trans (if_pos c5)
    refine lv_aload_n hx hb dX1_remainder_8 rfl (lv_at hl 0 rfl) ?_
    refine lv_lload_n hx hb dX1_remainder_9 rfl (lv_at hl 2 rfl) ?_
    refine sm_ci (sm_runV (rest := []) hC (c_X1_isNan l g i x3 hi) k_X1_isNan w_154 (by decide) (sm_pf hA hS hi) rfl hl.1 rfl (Nat.le_of_ble_eq_true rfl) dX1_remainder_10) ?_
    refine lv_if_ne (tgt := 32) hx hb dX1_remainder_13 (by decide) (fun c13 => ?_) (fun c13 => ?_)
    · have hv := hv.trans (if_neg c13)
      refine lv_aload_n hx hb dX1_remainder_32 rfl (lv_at hl 0 rfl) ?_
      refine fg_RX1_48 hx hb hts hown hA hS hi dX1_remainder_33 ?_
      exact sm_rl hx hb hr hlocks hv dX1_remainder_36
    · have hv := hv.trans (if_pos c13)
      refine lv_aload_n hx hb dX1_remainder_16 rfl (lv_at hl 0 rfl) ?_
      refine lv_lload_n hx hb dX1_remainder_17 rfl (lv_at hl 1 rfl) ?_
      refine sm_ci (sm_runV (rest := []) hC (c_X1_isInfinite l g i x1 hi) k_X1_isInfinite w_252 (by decide) (sm_pf hA hS hi) rfl hl.1 rfl (Nat.le_of_ble_eq_true rfl) dX1_remainder_18) ?_
      refine lv_if_ne (tgt := 32) hx hb dX1_remainder_21 (by decide) (fun c21 => ?_) (fun c21 => ?_)
      · have hv := hv.trans (if_neg c21)
        refine lv_aload_n hx hb dX1_remainder_32 rfl (lv_at hl 0 rfl) ?_
        refine fg_RX1_48 hx hb hts hown hA hS hi dX1_remainder_33 ?_
        exact sm_rl hx hb hr hlocks hv dX1_remainder_36
      · have hv := hv.trans (if_pos c21)
        refine lv_aload_n hx hb dX1_remainder_24 rfl (lv_at hl 0 rfl) ?_
        refine lv_lload_n hx hb dX1_remainder_25 rfl (lv_at hl 2 rfl) ?_
        refine sm_ci (sm_runV (rest := []) hC (c_X1_isZero l g i x3 hi) k_X1_isZero w_237 (by decide) (sm_pf hA hS hi) rfl hl.1 rfl (Nat.le_of_ble_eq_true rfl) dX1_remainder_26) ?_
        refine lv_if_eq (tgt := 37) hx hb dX1_remainder_29 (by decide) (fun c29 => ?_) (fun c29 => ?_)
        · have hv := hv.trans (if_pos c29)
          refine lv_aload_n hx hb dX1_remainder_37 rfl (lv_at hl 0 rfl) ?_
          refine lv_lload_n hx hb dX1_remainder_38 rfl (lv_at hl 1 rfl) ?_
          refine sm_ci (sm_runV (rest := []) hC (c_X1_isZero l g i x1 hi) k_X1_isZero w_237 (by decide) (sm_pf hA hS hi) rfl hl.1 rfl (Nat.le_of_ble_eq_true rfl) dX1_remainder_39) ?_
          refine lv_if_ne (tgt := 66) hx hb dX1_remainder_42 (by decide) (fun c42 => ?_) (fun c42 => ?_)
          · have hv := hv.trans (if_neg c42)
            refine lv_lload_n hx hb dX1_remainder_66 rfl (lv_at hl 1 rfl) ?_
            exact sm_rl hx hb hr hlocks hv dX1_remainder_67
          · have hv := hv.trans (if_pos c42)
            refine lv_aload_n hx hb dX1_remainder_45 rfl (lv_at hl 0 rfl) ?_
            refine lv_lload_n hx hb dX1_remainder_46 rfl (lv_at hl 2 rfl) ?_
            refine sm_ci (sm_runV (rest := []) hC (c_X1_isInfinite l g i x3 hi) k_X1_isInfinite w_252 (by decide) (sm_pf hA hS hi) rfl hl.1 rfl (Nat.le_of_ble_eq_true rfl) dX1_remainder_47) ?_
            refine lv_if_ne (tgt := 66) hx hb dX1_remainder_50 (by decide) (fun c50 => ?_) (fun c50 => ?_)
            · have hv := hv.trans (if_neg c50)
              refine lv_lload_n hx hb dX1_remainder_66 rfl (lv_at hl 1 rfl) ?_
              exact sm_rl hx hb hr hlocks hv dX1_remainder_67
            · have hv := hv.trans (if_pos c50)
              refine lv_aload_n hx hb dX1_remainder_53 rfl (lv_at hl 0 rfl) ?_
              refine lv_lload_n hx hb dX1_remainder_54 rfl (lv_at hl 1 rfl) ?_
              refine sm_ci (sm_runV (rest := []) hC (c_X1_exponent l g i x1 hi) k_X1_exponent w_241 (by decide) (sm_pf hA hS hi) rfl hl.1 rfl (Nat.le_of_ble_eq_true rfl) dX1_remainder_55) ?_
              refine lv_aload_n hx hb dX1_remainder_58 rfl (lv_at hl 0 rfl) ?_
              refine lv_lload_n hx hb dX1_remainder_59 rfl (lv_at hl 2 rfl) ?_
              refine sm_ci (sm_runV (rest := [.int (f_X1_exponent i x1)]) hC (c_X1_exponent l g i x3 hi) k_X1_exponent w_241 (by decide) (sm_pf hA hS hi) rfl hl.1 rfl (Nat.le_of_ble_eq_true rfl) dX1_remainder_60) ?_
              refine lv_icmp_ge (tgt := 68) hx hb dX1_remainder_63 (by decide) (fun c63 => ?_) (fun c63 => ?_)
              · have hv := hv.trans (if_pos c63)
                refine lv_aload_n hx hb dX1_remainder_68 rfl (lv_at hl 0 rfl) ?_
                refine lv_lload_n hx hb dX1_remainder_69 rfl (lv_at hl 1 rfl) ?_
                refine sm_cl (sm_runV (rest := []) hC (c_X1_significand l g i x1 hi) k_X1_significand w_261 (by decide) (sm_pf hA hS hi) rfl hl.1 rfl (Nat.le_of_ble_eq_true rfl) dX1_remainder_70) ?_
                refine lv_aload_n hx hb dX1_remainder_73 rfl (lv_at hl 0 rfl) ?_
                refine lv_lload_n hx hb dX1_remainder_74 rfl (lv_at hl 2 rfl) ?_
                refine sm_cl (sm_runV (rest := [.long (f_X1_significand i x1)]) hC (c_X1_significand l g i x3 hi) k_X1_significand w_261 (by decide) (sm_pf hA hS hi) rfl hl.1 rfl (Nat.le_of_ble_eq_true rfl) dX1_remainder_75) ?_
                refine lv_aload_n hx hb dX1_remainder_78 rfl (lv_at hl 0 rfl) ?_
                refine lv_lload_n hx hb dX1_remainder_79 rfl (lv_at hl 1 rfl) ?_
                refine sm_ci (sm_runV (rest := [.long (f_X1_significand i x3), .long (f_X1_significand i x1)]) hC (c_X1_exponent l g i x1 hi) k_X1_exponent w_241 (by decide) (sm_pf hA hS hi) rfl hl.1 rfl (Nat.le_of_ble_eq_true rfl) dX1_remainder_80) ?_
                refine lv_aload_n hx hb dX1_remainder_83 rfl (lv_at hl 0 rfl) ?_
                refine lv_lload_n hx hb dX1_remainder_84 rfl (lv_at hl 2 rfl) ?_
                refine sm_ci (sm_runV (rest := [.int (f_X1_exponent i x1), .long (f_X1_significand i x3), .long (f_X1_significand i x1)]) hC (c_X1_exponent l g i x3 hi) k_X1_exponent w_241 (by decide) (sm_pf hA hS hi) rfl hl.1 rfl (Nat.le_of_ble_eq_true rfl) dX1_remainder_85) ?_
                refine lv_isub hx hb dX1_remainder_88 ?_
                refine sm_cl (sm_runS (rest := []) hC (c_X1_longRemainder l g (f_X1_significand i x1) (f_X1_significand i x3) ((f_X1_exponent i x1) - (f_X1_exponent i x3))) k_X1_longRemainder w_342 (by decide) (sm_ps hA hS) rfl hl.1 rfl (Nat.le_of_ble_eq_true rfl) dX1_remainder_89) ?_
                refine sm_nml hv (fun y92_1 ey92_1 hv => ?_)
                refine lv_lstore (lv' := [(5, .long y92_1), (0, .ref (gF g i)), (1, .long x1), (3, .long x3)]) hx hb dX1_remainder_92 hl (by decide) rfl (fun ls hl => ?_)
                refine lv_lload hx hb dX1_remainder_94 (lv_at hl 0 rfl) ?_
                refine lv_lconst (v := 0) hx hb dX1_remainder_96 (by decide) ?_
                refine lc_ne (tgt := 114) hx hb dX1_remainder_97 dX1_remainder_98 (by decide) (fun c97 => ?_) (fun c97 => ?_)
                · have hv := hv.trans (if_neg c97)
                  refine lv_aload_n hx hb dX1_remainder_114 rfl (lv_at hl 1 rfl) ?_
                  refine lv_aload_n hx hb dX1_remainder_115 rfl (lv_at hl 1 rfl) ?_
                  refine lv_lload_n hx hb dX1_remainder_116 rfl (lv_at hl 2 rfl) ?_
                  refine sm_ci (sm_runV (rest := [.ref (gF g i)]) hC (c_X1_isNegative l g i x1 hi) k_X1_isNegative w_256 (by decide) (sm_pf hA hS hi) rfl hl.1 rfl (Nat.le_of_ble_eq_true rfl) dX1_remainder_117) ?_
                  refine lv_aload_n hx hb dX1_remainder_120 rfl (lv_at hl 1 rfl) ?_
                  refine lv_lload_n hx hb dX1_remainder_121 rfl (lv_at hl 3 rfl) ?_
                  refine sm_ci (sm_runV (rest := [.int (f_X1_isNegative i x1), .ref (gF g i)]) hC (c_X1_exponent l g i x3 hi) k_X1_exponent w_241 (by decide) (sm_pf hA hS hi) rfl hl.1 rfl (Nat.le_of_ble_eq_true rfl) dX1_remainder_122) ?_
                  refine lv_lload hx hb dX1_remainder_125 (lv_at hl 0 rfl) ?_
                  refine sm_cl (sm_runV (rest := []) hC (c_X1_rounded l g i (f_X1_isNegative i x1) (f_X1_exponent i x3) y92_1 hi) k_X1_rounded w_208 (by decide) (sm_pf hA hS hi) rfl hl.1 rfl (Nat.le_of_ble_eq_true rfl) dX1_remainder_127) ?_
                  exact sm_rl hx hb hr hlocks hv dX1_remainder_130
                · have hv := hv.trans (if_pos c97)
                  refine lv_aload_n hx hb dX1_remainder_101 rfl (lv_at hl 1 rfl) ?_
                  refine lv_aload_n hx hb dX1_remainder_102 rfl (lv_at hl 1 rfl) ?_
                  refine lv_lload_n hx hb dX1_remainder_103 rfl (lv_at hl 2 rfl) ?_
                  refine sm_ci (sm_runV (rest := [.ref (gF g i)]) hC (c_X1_isNegative l g i x1 hi) k_X1_isNegative w_256 (by decide) (sm_pf hA hS hi) rfl hl.1 rfl (Nat.le_of_ble_eq_true rfl) dX1_remainder_104) ?_
                  refine lv_lconst (v := 0) hx hb dX1_remainder_107 (by decide) ?_
                  refine sm_cl (sm_runV (rest := []) hC (c_X1_signed l g i (f_X1_isNegative i x1) 0 hi) k_X1_signed w_222 (by decide) (sm_pf hA hS hi) rfl hl.1 rfl (Nat.le_of_ble_eq_true rfl) dX1_remainder_108) ?_
                  refine lv_goto (tgt := 130) hx hb dX1_remainder_111 (by decide) ?_
                  exact sm_rl hx hb hr hlocks hv dX1_remainder_130
              · have hv := hv.trans (if_neg c63)
                refine lv_lload_n hx hb dX1_remainder_66 rfl (lv_at hl 1 rfl) ?_
                exact sm_rl hx hb hr hlocks hv dX1_remainder_67
        · have hv := hv.trans (if_neg c29)
          refine lv_aload_n hx hb dX1_remainder_32 rfl (lv_at hl 0 rfl) ?_
          refine fg_RX1_48 hx hb hts hown hA hS hi dX1_remainder_33 ?_
          exact sm_rl hx hb hr hlocks hv dX1_remainder_36
