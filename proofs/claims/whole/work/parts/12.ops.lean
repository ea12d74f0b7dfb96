def f_X5_held (x0 : Int32) (x1 : Int64) : Int64 := if x0 = 0 then (Int32.toInt64 (Int64.toInt32 x1)) else (if x0 = 2 then (f_X1_withOneNan 0 (Int32.toInt64 (Int64.toInt32 x1))) else (if x0 = 3 then (f_X1_withOneNan 1 x1) else x1))
set_option maxRecDepth 100000 in
set_option maxHeartbeats 4000000 in
theorem c_X5_held (l : Launch) (g : sm_G) (x0 : Int32) (x1 : Int64)   : Met l yX5_held (sm_ws yX5_held cX5_held 3 (some .long)) (rmd 3) (va_Pc [.int x0, .long x1] (sm_P0 g)) (vp_Sl (fun r => r = f_X5_held x0 x1)) 0 0 (fun _ => False) := by
  generalize hv : f_X5_held x0 x1 = F
  replace hv := hv.symm
  refine sm_mP (by decide) (Nat.le_of_ble_eq_true rfl) (fun p e s m args below meth c C hA ls hl => ?_)
  obtain ⟨hC, hr, hlocks⟩ := C
  have hx := hC.1
  have hb := hC.2.1
  have hts := hC.2.2.2.2
  have hown : s.vm.findClass RX5 = some m.cls := hC.2.2.2.1
  have hS : va_S (fun _ => False) s.heap s.heap [] := va_S.rf
  have hl : lv_has ls 3 [(0, .int x0), (1, .long x1)] := hl
  refine lv_iload_n hx hb dX5_held_0 rfl (lv_at hl 0 rfl) ?_
  refine lv_if_ne (tgt := 8) hx hb dX5_held_1 (by decide) (fun c1 => ?_) (fun c1 => ?_)
  · have hv := hv.trans (if_neg c1)
    refine lv_iload_n hx hb dX5_held_8 rfl (lv_at hl 0 rfl) ?_
    refine lv_iconst (v := 2) hx hb dX5_held_9 (by decide) ?_
    refine lv_icmp_ne (tgt := 23) hx hb dX5_held_10 (by decide) (fun c10 => ?_) (fun c10 => ?_)
    · have hv := hv.trans (if_neg c10)
      refine lv_iload_n hx hb dX5_held_23 rfl (lv_at hl 0 rfl) ?_
      refine lv_iconst (v := 3) hx hb dX5_held_24 (by decide) ?_
      refine lv_icmp_ne (tgt := 38) hx hb dX5_held_25 (by decide) (fun c25 => ?_) (fun c25 => ?_)
      · have hv := hv.trans (if_neg c25)
        refine lv_lload_n hx hb dX5_held_38 rfl (lv_at hl 1 rfl) ?_
        exact sm_rl hx hb hr hlocks hv dX5_held_39
      · have hv := hv.trans (if_pos c25)
        refine va_gets hx hb (hA.1.1.2) hS hown (hts _ w_164) (fun _ h => h) dX5_held_28 ?_
        refine lv_lload_n hx hb dX5_held_31 rfl (lv_at hl 1 rfl) ?_
        refine sm_cl (sm_runV (rest := []) hC (c_X1_withOneNan l g 1 x1 (by decide)) k_X1_withOneNan w_150 (by decide) (sm_pf hA hS (by decide)) rfl hl.1 rfl (Nat.le_of_ble_eq_true rfl) dX5_held_32) ?_
        refine lv_goto (tgt := 39) hx hb dX5_held_35 (by decide) ?_
        exact sm_rl hx hb hr hlocks hv dX5_held_39
    · have hv := hv.trans (if_pos c10)
      refine va_gets hx hb (hA.1.1.1) hS hown (hts _ w_148) (fun _ h => h) dX5_held_13 ?_
      refine lv_lload_n hx hb dX5_held_16 rfl (lv_at hl 1 rfl) ?_
      refine lv_l2i hx hb dX5_held_17 rfl ?_
      refine lv_i2l hx hb dX5_held_18 rfl ?_
      refine sm_cl (sm_runV (rest := []) hC (c_X1_withOneNan l g 0 (Int32.toInt64 (Int64.toInt32 x1)) (by decide)) k_X1_withOneNan w_150 (by decide) (sm_pf hA hS (by decide)) rfl hl.1 rfl (Nat.le_of_ble_eq_true rfl) dX5_held_19) ?_
      exact sm_rl hx hb hr hlocks hv dX5_held_22
  · have hv := hv.trans (if_pos c1)
    refine lv_lload_n hx hb dX5_held_4 rfl (lv_at hl 1 rfl) ?_
    refine lv_l2i hx hb dX5_held_5 rfl ?_
    refine lv_i2l hx hb dX5_held_6 rfl ?_
    exact sm_rl hx hb hr hlocks hv dX5_held_7
def f_X3_divides (x0 : Int32) : Int32 := if x0 = 23 then 1 else (if x0 = 24 then 1 else 0)
set_option maxRecDepth 100000 in
set_option maxHeartbeats 4000000 in
theorem c_X3_divides (l : Launch) (g : sm_G) (x0 : Int32)   : Met l yX3_divides (sm_ws yX3_divides cX3_divides 1 (some .boolean)) (rmd 0) (va_Pc [.int x0] (sm_P0 g)) (vp_Si (fun r => r = f_X3_divides x0)) 0 0 (fun _ => False) := by
  generalize hv : f_X3_divides x0 = F
  replace hv := hv.symm
  refine sm_mP (by decide) (Nat.le_of_ble_eq_true rfl) (fun p e s m args below meth c C hA ls hl => ?_)
  obtain ⟨hC, hr, hlocks⟩ := C
  have hx := hC.1
  have hb := hC.2.1
  have hts := hC.2.2.2.2
  have hown : s.vm.findClass RX3 = some m.cls := hC.2.2.2.1
  have hS : va_S (fun _ => False) s.heap s.heap [] := va_S.rf
  have hl : lv_has ls 1 [(0, .int x0)] := hl
  refine lv_iload_n hx hb dX3_divides_0 rfl (lv_at hl 0 rfl) ?_
  refine lv_bipush (v := 23) hx hb dX3_divides_1 (by decide) ?_
  refine lv_icmp_eq (tgt := 12) hx hb dX3_divides_3 (by decide) (fun c3 => ?_) (fun c3 => ?_)
  · have hv := hv.trans (if_pos c3)
    refine lv_iconst (v := 1) hx hb dX3_divides_12 (by decide) ?_
    refine lv_goto (tgt := 17) hx hb dX3_divides_13 (by decide) ?_
    exact sm_rz hx hb hr hlocks rfl hv dX3_divides_17
  · have hv := hv.trans (if_neg c3)
    refine lv_iload_n hx hb dX3_divides_6 rfl (lv_at hl 0 rfl) ?_
    refine lv_bipush (v := 24) hx hb dX3_divides_7 (by decide) ?_
    refine lv_icmp_ne (tgt := 16) hx hb dX3_divides_9 (by decide) (fun c9 => ?_) (fun c9 => ?_)
    · have hv := hv.trans (if_neg c9)
      refine lv_iconst (v := 0) hx hb dX3_divides_16 (by decide) ?_
      exact sm_rz hx hb hr hlocks rfl hv dX3_divides_17
    · have hv := hv.trans (if_pos c9)
      refine lv_iconst (v := 1) hx hb dX3_divides_12 (by decide) ?_
      refine lv_goto (tgt := 17) hx hb dX3_divides_13 (by decide) ?_
      exact sm_rz hx hb hr hlocks rfl hv dX3_divides_17
def f_X3_calculates (x0 : Int32) : Int32 := if x0 < 20 then 0 else (if 24 < x0 then 0 else 1)
set_option maxRecDepth 100000 in
set_option maxHeartbeats 4000000 in
theorem c_X3_calculates (l : Launch) (g : sm_G) (x0 : Int32)   : Met l yX3_calculates (sm_ws yX3_calculates cX3_calculates 1 (some .boolean)) (rmd 0) (va_Pc [.int x0] (sm_P0 g)) (vp_Si (fun r => r = f_X3_calculates x0)) 0 0 (fun _ => False) := by
  generalize hv : f_X3_calculates x0 = F
  replace hv := hv.symm
  refine sm_mP (by decide) (Nat.le_of_ble_eq_true rfl) (fun p e s m args below meth c C hA ls hl => ?_)
  obtain ⟨hC, hr, hlocks⟩ := C
  have hx := hC.1
  have hb := hC.2.1
  have hts := hC.2.2.2.2
  have hown : s.vm.findClass RX3 = some m.cls := hC.2.2.2.1
  have hS : va_S (fun _ => False) s.heap s.heap [] := va_S.rf
  have hl : lv_has ls 1 [(0, .int x0)] := hl
  refine lv_iload_n hx hb dX3_calculates_0 rfl (lv_at hl 0 rfl) ?_
  refine lv_bipush (v := 20) hx hb dX3_calculates_1 (by decide) ?_
  refine lv_icmp_lt (tgt := 16) hx hb dX3_calculates_3 (by decide) (fun c3 => ?_) (fun c3 => ?_)
  · have hv := hv.trans (if_pos c3)
    refine lv_iconst (v := 0) hx hb dX3_calculates_16 (by decide) ?_
    exact sm_rz hx hb hr hlocks rfl hv dX3_calculates_17
  · have hv := hv.trans (if_neg c3)
    refine lv_iload_n hx hb dX3_calculates_6 rfl (lv_at hl 0 rfl) ?_
    refine lv_bipush (v := 24) hx hb dX3_calculates_7 (by decide) ?_
    refine lv_icmp_gt (tgt := 16) hx hb dX3_calculates_9 (by decide) (fun c9 => ?_) (fun c9 => ?_)
    · have hv := hv.trans (if_pos c9)
      refine lv_iconst (v := 0) hx hb dX3_calculates_16 (by decide) ?_
      exact sm_rz hx hb hr hlocks rfl hv dX3_calculates_17
    · have hv := hv.trans (if_neg c9)
      refine lv_iconst (v := 1) hx hb dX3_calculates_12 (by decide) ?_
      refine lv_goto (tgt := 17) hx hb dX3_calculates_13 (by decide) ?_
      exact sm_rz hx hb hr hlocks rfl hv dX3_calculates_17
def f_X3_mixes (x0 : Int32) : Int32 := if x0 = 22 then 1 else (if (f_X3_divides x0) = 0 then 0 else 1)
set_option maxRecDepth 100000 in
set_option maxHeartbeats 4000000 in
theorem c_X3_mixes (l : Launch) (g : sm_G) (x0 : Int32)   : Met l yX3_mixes (sm_ws yX3_mixes cX3_mixes 1 (some .boolean)) (rmd 1) (va_Pc [.int x0] (sm_P0 g)) (vp_Si (fun r => r = f_X3_mixes x0)) 0 0 (fun _ => False) := by
  generalize hv : f_X3_mixes x0 = F
  replace hv := hv.symm
  refine sm_mP (by decide) (Nat.le_of_ble_eq_true rfl) (fun p e s m args below meth c C hA ls hl => ?_)
  obtain ⟨hC, hr, hlocks⟩ := C
  have hx := hC.1
  have hb := hC.2.1
  have hts := hC.2.2.2.2
  have hown : s.vm.findClass RX3 = some m.cls := hC.2.2.2.1
  have hS : va_S (fun _ => False) s.heap s.heap [] := va_S.rf
  have hl : lv_has ls 1 [(0, .int x0)] := hl
  refine lv_iload_n hx hb dX3_mixes_0 rfl (lv_at hl 0 rfl) ?_
  refine lv_bipush (v := 22) hx hb dX3_mixes_1 (by decide) ?_
  refine lv_icmp_eq (tgt := 13) hx hb dX3_mixes_3 (by decide) (fun c3 => ?_) (fun c3 => ?_)
  · have hv := hv.trans (if_pos c3)
    refine lv_iconst (v := 1) hx hb dX3_mixes_13 (by decide) ?_
    refine lv_goto (tgt := 18) hx hb dX3_mixes_14 (by decide) ?_
    exact sm_rz hx hb hr hlocks rfl hv dX3_mixes_18
  · have hv := hv.trans (if_neg c3)
    refine lv_iload_n hx hb dX3_mixes_6 rfl (lv_at hl 0 rfl) ?_
    refine sm_ci (sm_runS (rest := []) hC (c_X3_divides l g x0) k_X3_divides w_407 (by decide) (sm_ps hA hS) rfl hl.1 rfl (Nat.le_of_ble_eq_true rfl) dX3_mixes_7) ?_
    refine lv_if_eq (tgt := 17) hx hb dX3_mixes_10 (by decide) (fun c10 => ?_) (fun c10 => ?_)
    · have hv := hv.trans (if_pos c10)
      refine lv_iconst (v := 0) hx hb dX3_mixes_17 (by decide) ?_
      exact sm_rz hx hb hr hlocks rfl hv dX3_mixes_18
    · have hv := hv.trans (if_neg c10)
      refine lv_iconst (v := 1) hx hb dX3_mixes_13 (by decide) ?_
      refine lv_goto (tgt := 18) hx hb dX3_mixes_14 (by decide) ?_
      exact sm_rz hx hb hr hlocks rfl hv dX3_mixes_18
def f_X3_resultKind (x0 : Int32) (x1 : Int32) : Int32 := if x0 < 33 then x1 else 0
set_option maxRecDepth 100000 in
set_option maxHeartbeats 4000000 in
theorem c_X3_resultKind (l : Launch) (g : sm_G) (x0 : Int32) (x1 : Int32)   : Met l yX3_resultKind (sm_ws yX3_resultKind cX3_resultKind 2 (some .int)) (rmd 0) (va_Pc [.int x0, .int x1] (sm_P0 g)) (vp_Si (fun r => r = f_X3_resultKind x0 x1)) 0 0 (fun _ => False) := by
  generalize hv : f_X3_resultKind x0 x1 = F
  replace hv := hv.symm
  refine sm_mP (by decide) (Nat.le_of_ble_eq_true rfl) (fun p e s m args below meth c C hA ls hl => ?_)
  obtain ⟨hC, hr, hlocks⟩ := C
  have hx := hC.1
  have hb := hC.2.1
  have hts := hC.2.2.2.2
  have hown : s.vm.findClass RX3 = some m.cls := hC.2.2.2.1
  have hS : va_S (fun _ => False) s.heap s.heap [] := va_S.rf
  have hl : lv_has ls 2 [(0, .int x0), (1, .int x1)] := hl
  refine lv_iload_n hx hb dX3_resultKind_0 rfl (lv_at hl 0 rfl) ?_
  refine lv_bipush (v := 33) hx hb dX3_resultKind_1 (by decide) ?_
  refine lv_icmp_lt (tgt := 10) hx hb dX3_resultKind_3 (by decide) (fun c3 => ?_) (fun c3 => ?_)
  · have hv := hv.trans (if_pos c3)
    refine lv_iload_n hx hb dX3_resultKind_10 rfl (lv_at hl 1 rfl) ?_
    exact sm_ri hx hb hr hlocks hv dX3_resultKind_11
  · have hv := hv.trans (if_neg c3)
    refine lv_iconst (v := 0) hx hb dX3_resultKind_6 (by decide) ?_
    refine lv_goto (tgt := 11) hx hb dX3_resultKind_7 (by decide) ?_
    exact sm_ri hx hb hr hlocks hv dX3_resultKind_11
def f_X3_takes_75 (x0 : Int32) (x1 : Int32) : Int32 := if x0 < 33 then 1 else (if x1 = 0 then 0 else 1)
def f_X3_takes_43 (x0 : Int32) (x1 : Int32) (x2 : Int32) : Int32 := if x1 = x2 then (if x0 < 30 then (f_X3_takes_75 x0 x1) else (if 32 < x0 then (f_X3_takes_75 x0 x1) else (if (f_X5_isFloating x1) = 0 then 1 else 0))) else 0
def f_X3_takes (x0 : Int32) (x1 : Int32) (x2 : Int32) : Int32 := if x0 < 20 then 0 else (if x0 ≤ 34 then (if x0 < 27 then (f_X3_takes_43 x0 x1 x2) else (if 29 < x0 then (f_X3_takes_43 x0 x1 x2) else (if (f_X5_isFloating x1) = 0 then (if x2 = 0 then 1 else 0) else 0))) else 0)
set_option maxRecDepth 100000 in
set_option maxHeartbeats 4000000 in
theorem c_X3_takes (l : Launch) (g : sm_G) (x0 : Int32) (x1 : Int32) (x2 : Int32)   : Met l yX3_takes (sm_ws yX3_takes cX3_takes 3 (some .boolean)) (rmd 1) (va_Pc [.int x0, .int x1, .int x2] (sm_P0 g)) (vp_Si (fun r => r = f_X3_takes x0 x1 x2)) 0 0 (fun _ => False) := by
  generalize hv : f_X3_takes x0 x1 x2 = F
  replace hv := hv.symm
  refine sm_mP (by decide) (Nat.le_of_ble_eq_true rfl) (fun p e s m args below meth c C hA ls hl => ?_)
  obtain ⟨hC, hr, hlocks⟩ := C
  have hx := hC.1
  have hb := hC.2.1
  have hts := hC.2.2.2.2
  have hown : s.vm.findClass RX3 = some m.cls := hC.2.2.2.1
  have hS : va_S (fun _ => False) s.heap s.heap [] := va_S.rf
  have hl : lv_has ls 3 [(0, .int x0), (1, .int x1), (2, .int x2)] := hl
  refine lv_iload_n hx hb dX3_takes_0 rfl (lv_at hl 0 rfl) ?_
  refine lv_bipush (v := 20) hx hb dX3_takes_1 (by decide) ?_
  refine lv_icmp_lt (tgt := 12) hx hb dX3_takes_3 (by decide) (fun c3 => ?_) (fun c3 => ?_)
  · have hv := hv.trans (if_pos c3)
    refine lv_iconst (v := 0) hx hb dX3_takes_12 (by decide) ?_
    exact sm_rz hx hb hr hlocks rfl hv dX3_takes_13
  · have hv := hv.trans (if_neg c3)
    refine lv_iload_n hx hb dX3_takes_6 rfl (lv_at hl 0 rfl) ?_
    refine lv_bipush (v := 34) hx hb dX3_takes_7 (by decide) ?_
    refine lv_icmp_le (tgt := 14) hx hb dX3_takes_9 (by decide) (fun c9 => ?_) (fun c9 => ?_)
    · have hv := hv.trans (if_pos c9)
      refine lv_iload_n hx hb dX3_takes_14 rfl (lv_at hl 0 rfl) ?_
      refine lv_bipush (v := 27) hx hb dX3_takes_15 (by decide) ?_
      have k_43 : ∀  (ls : Array Slot), lv_has ls 3 [(0, .int x0), (1, .int x1), (2, .int x2)] → F = f_X3_takes_43 x0 x1 x2 → W p l e (rmd 1) s m args below meth c s.heap [] 0 0 (MQ below (vp_Si (fun r => r = F)) args s 0 0 (fun _ => False)) (F0 m 43 ls []) := by
        intro ls hl hv
        refine lv_iload_n hx hb dX3_takes_43 rfl (lv_at hl 1 rfl) ?_
        refine lv_iload_n hx hb dX3_takes_44 rfl (lv_at hl 2 rfl) ?_
        refine lv_icmp_eq (tgt := 50) hx hb dX3_takes_45 (by decide) (fun c45 => ?_) (fun c45 => ?_)
        · have hv := hv.trans (if_pos c45)
          refine lv_iload_n hx hb dX3_takes_50 rfl (lv_at hl 0 rfl) ?_
          refine lv_bipush (v := 30) hx hb dX3_takes_51 (by decide) ?_
          have k_75 : ∀  (ls : Array Slot), lv_has ls 3 [(0, .int x0), (1, .int x1)] → F = f_X3_takes_75 x0 x1 → W p l e (rmd 1) s m args below meth c s.heap [] 0 0 (MQ below (vp_Si (fun r => r = F)) args s 0 0 (fun _ => False)) (F0 m 75 ls []) := by
            intro ls hl hv
            refine lv_iload_n hx hb dX3_takes_75 rfl (lv_at hl 0 rfl) ?_
            refine lv_bipush (v := 33) hx hb dX3_takes_76 (by decide) ?_
            refine lv_icmp_lt (tgt := 85) hx hb dX3_takes_78 (by decide) (fun c78 => ?_) (fun c78 => ?_)
            · have hv := hv.trans (if_pos c78)
              refine lv_iconst (v := 1) hx hb dX3_takes_85 (by decide) ?_
              refine lv_goto (tgt := 90) hx hb dX3_takes_86 (by decide) ?_
              exact sm_rz hx hb hr hlocks rfl hv dX3_takes_90
            · have hv := hv.trans (if_neg c78)
              refine lv_iload_n hx hb dX3_takes_81 rfl (lv_at hl 1 rfl) ?_
              refine lv_if_eq (tgt := 89) hx hb dX3_takes_82 (by decide) (fun c82 => ?_) (fun c82 => ?_)
              · have hv := hv.trans (if_pos c82)
                refine lv_iconst (v := 0) hx hb dX3_takes_89 (by decide) ?_
                exact sm_rz hx hb hr hlocks rfl hv dX3_takes_90
              · have hv := hv.trans (if_neg c82)
                refine lv_iconst (v := 1) hx hb dX3_takes_85 (by decide) ?_
                refine lv_goto (tgt := 90) hx hb dX3_takes_86 (by decide) ?_
                exact sm_rz hx hb hr hlocks rfl hv dX3_takes_90
          refine lv_icmp_lt (tgt := 75) hx hb dX3_takes_53 (by decide) (fun c53 => ?_) (fun c53 => ?_)
          · have hv := hv.trans (if_pos c53)
            exact k_75 _ (lv_sub hl [0, 1] rfl) hv
          · have hv := hv.trans (if_neg c53)
            refine lv_iload_n hx hb dX3_takes_56 rfl (lv_at hl 0 rfl) ?_
            refine lv_bipush (v := 32) hx hb dX3_takes_57 (by decide) ?_
            refine lv_icmp_gt (tgt := 75) hx hb dX3_takes_59 (by decide) (fun c59 => ?_) (fun c59 => ?_)
            · have hv := hv.trans (if_pos c59)
              exact k_75 _ (lv_sub hl [0, 1] rfl) hv
            · have hv := hv.trans (if_neg c59)
              refine lv_iload_n hx hb dX3_takes_62 rfl (lv_at hl 1 rfl) ?_
              refine sm_ci (sm_runSN (rest := []) hC (c_X5_isFloating l g x1) k_X5_isFloating (hA.2.1 _ (List.mem_of_getElem? (i := 6) rfl)) (by decide) (sm_ps hA hS) rfl hl.1 rfl (Nat.le_of_ble_eq_true rfl) dX3_takes_63) ?_
              refine lv_if_ne (tgt := 73) hx hb dX3_takes_66 (by decide) (fun c66 => ?_) (fun c66 => ?_)
              · have hv := hv.trans (if_neg c66)
                refine lv_iconst (v := 0) hx hb dX3_takes_73 (by decide) ?_
                exact sm_rz hx hb hr hlocks rfl hv dX3_takes_74
              · have hv := hv.trans (if_pos c66)
                refine lv_iconst (v := 1) hx hb dX3_takes_69 (by decide) ?_
                refine lv_goto (tgt := 74) hx hb dX3_takes_70 (by decide) ?_
                exact sm_rz hx hb hr hlocks rfl hv dX3_takes_74
        · have hv := hv.trans (if_neg c45)
          refine lv_iconst (v := 0) hx hb dX3_takes_48 (by decide) ?_
          exact sm_rz hx hb hr hlocks rfl hv dX3_takes_49
      refine lv_icmp_lt (tgt := 43) hx hb dX3_takes_17 (by decide) (fun c17 => ?_) (fun c17 => ?_)
      · have hv := hv.trans (if_pos c17)
        exact k_43 _ (lv_sub hl [0, 1, 2] rfl) hv
      · have hv := hv.trans (if_neg c17)
        refine lv_iload_n hx hb dX3_takes_20 rfl (lv_at hl 0 rfl) ?_
        refine lv_bipush (v := 29) hx hb dX3_takes_21 (by decide) ?_
        refine lv_icmp_gt (tgt := 43) hx hb dX3_takes_23 (by decide) (fun c23 => ?_) (fun c23 => ?_)
        · have hv := hv.trans (if_pos c23)
          exact k_43 _ (lv_sub hl [0, 1, 2] rfl) hv
        · have hv := hv.trans (if_neg c23)
          refine lv_iload_n hx hb dX3_takes_26 rfl (lv_at hl 1 rfl) ?_
          refine sm_ci (sm_runSN (rest := []) hC (c_X5_isFloating l g x1) k_X5_isFloating (hA.2.1 _ (List.mem_of_getElem? (i := 6) rfl)) (by decide) (sm_ps hA hS) rfl hl.1 rfl (Nat.le_of_ble_eq_true rfl) dX3_takes_27) ?_
          refine lv_if_ne (tgt := 41) hx hb dX3_takes_30 (by decide) (fun c30 => ?_) (fun c30 => ?_)
          · have hv := hv.trans (if_neg c30)
            refine lv_iconst (v := 0) hx hb dX3_takes_41 (by decide) ?_
            exact sm_rz hx hb hr hlocks rfl hv dX3_takes_42
          · have hv := hv.trans (if_pos c30)
            refine lv_iload_n hx hb dX3_takes_33 rfl (lv_at hl 2 rfl) ?_
            refine lv_if_ne (tgt := 41) hx hb dX3_takes_34 (by decide) (fun c34 => ?_) (fun c34 => ?_)
            · have hv := hv.trans (if_neg c34)
              refine lv_iconst (v := 0) hx hb dX3_takes_41 (by decide) ?_
              exact sm_rz hx hb hr hlocks rfl hv dX3_takes_42
            · have hv := hv.trans (if_pos c34)
              refine lv_iconst (v := 1) hx hb dX3_takes_37 (by decide) ?_
              refine lv_goto (tgt := 42) hx hb dX3_takes_38 (by decide) ?_
              exact sm_rz hx hb hr hlocks rfl hv dX3_takes_42
    · have hv := hv.trans (if_neg c9)
      refine lv_iconst (v := 0) hx hb dX3_takes_12 (by decide) ?_
      exact sm_rz hx hb hr hlocks rfl hv dX3_takes_13
def f_X3_calculated (x0 : Int32) (x1 : Int64) (x3 : Int64) : Int64 := if x0 = 20 then (x1 + x3) else if x0 = 21 then (x1 - x3) else if x0 = 22 then (x1 * x3) else if x0 = 23 then (if x3 = 0 then 0 else (x1 / x3)) else if x0 = 24 then (if x3 = 0 then 0 else (x1 - x1 / x3 * x3)) else if x0 = 25 then (sm_minL x1 x3) else (sm_maxL x1 x3)
set_option maxRecDepth 100000 in
set_option maxHeartbeats 4000000 in
theorem c_X3_calculated (l : Launch) (g : sm_G) (x0 : Int32) (x1 : Int64) (x3 : Int64)   : Met l yX3_calculated (sm_ws yX3_calculated cX3_calculated 5 (some .long)) (rmd 1) (va_Pc [.int x0, .long x1, .long x3] (sm_P0 g)) (vp_Sl (fun r => r = f_X3_calculated x0 x1 x3)) 0 0 (fun _ => False) := by
  generalize hv : f_X3_calculated x0 x1 x3 = F
  replace hv := hv.symm
  refine sm_mP (by decide) (Nat.le_of_ble_eq_true rfl) (fun p e s m args below meth c C hA ls hl => ?_)
  obtain ⟨hC, hr, hlocks⟩ := C
  have hx := hC.1
  have hb := hC.2.1
  have hts := hC.2.2.2.2
  have hown : s.vm.findClass RX3 = some m.cls := hC.2.2.2.1
  have hS : va_S (fun _ => False) s.heap s.heap [] := va_S.rf
  have hl : lv_has ls 5 [(0, .int x0), (1, .long x1), (3, .long x3)] := hl
  refine lv_iload_n hx hb dX3_calculated_0 rfl (lv_at hl 0 rfl) ?_
  by_cases c1_20 : x0 = 20
  · have hv := hv.trans (if_pos c1_20)
    refine lv_tableIn (tgt := 40) hx hb dX3_calculated_1 (by rw [c1_20]; decide) (by rw [c1_20]; decide) (by rw [c1_20]; rfl) (by decide) ?_
    refine lv_lload_n hx hb dX3_calculated_40 rfl (lv_at hl 1 rfl) ?_
    refine lv_lload_n hx hb dX3_calculated_41 rfl (lv_at hl 2 rfl) ?_
    refine lv_ladd hx hb dX3_calculated_42 ?_
    exact sm_rl hx hb hr hlocks hv dX3_calculated_43
  · have hv := hv.trans (if_neg c1_20)
    by_cases c1_21 : x0 = 21
    · have hv := hv.trans (if_pos c1_21)
      refine lv_tableIn (tgt := 44) hx hb dX3_calculated_1 (by rw [c1_21]; decide) (by rw [c1_21]; decide) (by rw [c1_21]; rfl) (by decide) ?_
      refine lv_lload_n hx hb dX3_calculated_44 rfl (lv_at hl 1 rfl) ?_
      refine lv_lload_n hx hb dX3_calculated_45 rfl (lv_at hl 2 rfl) ?_
      refine lv_lsub hx hb dX3_calculated_46 ?_
      exact sm_rl hx hb hr hlocks hv dX3_calculated_47
    · have hv := hv.trans (if_neg c1_21)
      by_cases c1_22 : x0 = 22
      · have hv := hv.trans (if_pos c1_22)
        refine lv_tableIn (tgt := 48) hx hb dX3_calculated_1 (by rw [c1_22]; decide) (by rw [c1_22]; decide) (by rw [c1_22]; rfl) (by decide) ?_
        refine lv_lload_n hx hb dX3_calculated_48 rfl (lv_at hl 1 rfl) ?_
        refine lv_lload_n hx hb dX3_calculated_49 rfl (lv_at hl 2 rfl) ?_
        refine lv_lmul hx hb dX3_calculated_50 ?_
        exact sm_rl hx hb hr hlocks hv dX3_calculated_51
      · have hv := hv.trans (if_neg c1_22)
        by_cases c1_23 : x0 = 23
        · have hv := hv.trans (if_pos c1_23)
          refine lv_tableIn (tgt := 52) hx hb dX3_calculated_1 (by rw [c1_23]; decide) (by rw [c1_23]; decide) (by rw [c1_23]; rfl) (by decide) ?_
          refine lv_lload_n hx hb dX3_calculated_52 rfl (lv_at hl 2 rfl) ?_
          refine lv_lconst (v := 0) hx hb dX3_calculated_53 (by decide) ?_
          refine lc_ne (tgt := 62) hx hb dX3_calculated_54 dX3_calculated_55 (by decide) (fun c54 => ?_) (fun c54 => ?_)
          · have hv := hv.trans (if_neg c54)
            refine lv_lload_n hx hb dX3_calculated_62 rfl (lv_at hl 1 rfl) ?_
            refine lv_lload_n hx hb dX3_calculated_63 rfl (lv_at hl 2 rfl) ?_
            refine lv_ldiv hx hb dX3_calculated_64 c54 ?_
            exact sm_rl hx hb hr hlocks hv dX3_calculated_65
          · have hv := hv.trans (if_pos c54)
            refine lv_lconst (v := 0) hx hb dX3_calculated_58 (by decide) ?_
            refine lv_goto (tgt := 65) hx hb dX3_calculated_59 (by decide) ?_
            exact sm_rl hx hb hr hlocks hv dX3_calculated_65
        · have hv := hv.trans (if_neg c1_23)
          by_cases c1_24 : x0 = 24
          · have hv := hv.trans (if_pos c1_24)
            refine lv_tableIn (tgt := 66) hx hb dX3_calculated_1 (by rw [c1_24]; decide) (by rw [c1_24]; decide) (by rw [c1_24]; rfl) (by decide) ?_
            refine lv_lload_n hx hb dX3_calculated_66 rfl (lv_at hl 2 rfl) ?_
            refine lv_lconst (v := 0) hx hb dX3_calculated_67 (by decide) ?_
            refine lc_ne (tgt := 76) hx hb dX3_calculated_68 dX3_calculated_69 (by decide) (fun c68 => ?_) (fun c68 => ?_)
            · have hv := hv.trans (if_neg c68)
              refine lv_lload_n hx hb dX3_calculated_76 rfl (lv_at hl 1 rfl) ?_
              refine lv_lload_n hx hb dX3_calculated_77 rfl (lv_at hl 2 rfl) ?_
              refine lv_lrem hx hb dX3_calculated_78 c68 ?_
              exact sm_rl hx hb hr hlocks hv dX3_calculated_79
            · have hv := hv.trans (if_pos c68)
              refine lv_lconst (v := 0) hx hb dX3_calculated_72 (by decide) ?_
              refine lv_goto (tgt := 79) hx hb dX3_calculated_73 (by decide) ?_
              exact sm_rl hx hb hr hlocks hv dX3_calculated_79
          · have hv := hv.trans (if_neg c1_24)
            by_cases c1_25 : x0 = 25
            · have hv := hv.trans (if_pos c1_25)
              refine lv_tableIn (tgt := 80) hx hb dX3_calculated_1 (by rw [c1_25]; decide) (by rw [c1_25]; decide) (by rw [c1_25]; rfl) (by decide) ?_
              refine lv_lload_n hx hb dX3_calculated_80 rfl (lv_at hl 1 rfl) ?_
              refine lv_lload_n hx hb dX3_calculated_81 rfl (lv_at hl 2 rfl) ?_
              refine va_mmin_long hx hb (hC.2.2.1.trans hl.1.symm) hown (hts _ w_373) (hts _ w_271) (hts _ w_62) (hts _ w_272) (Nat.le_of_ble_eq_true rfl) (Nat.le_of_ble_eq_true rfl) (Nat.le_refl _) (Nat.le_refl _) dX3_calculated_82 ?_
              exact sm_rl hx hb hr hlocks hv dX3_calculated_85
            · have hv := hv.trans (if_neg c1_25)
              refine lv_tableOut (tgt := 86) hx hb dX3_calculated_1 (by have := lv_neT c1_20 (show (20 : Int32).toInt = 20 from rfl); have := lv_neT c1_21 (show (21 : Int32).toInt = 21 from rfl); have := lv_neT c1_22 (show (22 : Int32).toInt = 22 from rfl); have := lv_neT c1_23 (show (23 : Int32).toInt = 23 from rfl); have := lv_neT c1_24 (show (24 : Int32).toInt = 24 from rfl); have := lv_neT c1_25 (show (25 : Int32).toInt = 25 from rfl); omega) (by decide) ?_
              refine lv_lload_n hx hb dX3_calculated_86 rfl (lv_at hl 1 rfl) ?_
              refine lv_lload_n hx hb dX3_calculated_87 rfl (lv_at hl 2 rfl) ?_
              refine va_mmax_long hx hb (hC.2.2.1.trans hl.1.symm) hown (hts _ w_374) (hts _ w_274) (hts _ w_62) (hts _ w_275) (Nat.le_of_ble_eq_true rfl) (Nat.le_of_ble_eq_true rfl) (Nat.le_refl _) (Nat.le_refl _) dX3_calculated_88 ?_
              exact sm_rl hx hb hr hlocks hv dX3_calculated_91
def f_X3_combined_14 (x0 : Int32) (x1 : Int32) (x2 : Int64) (x4 : Int64) (t0_14 : Int32) (t1_14 : Int32) : Int64 := sm_let (t1_14 &&& t0_14) (fun y15_1 => if x0 = 27 then (x2 <<< (Int32.toInt64 y15_1 &&& 63)) else if x0 = 28 then (x2 >>> (Int32.toInt64 y15_1 &&& 63)) else if x0 = 29 then (if x1 = 0 then (UInt64.toInt64 (Int64.toUInt64 (x2 &&& 4294967295) >>> (Int64.toUInt64 (Int32.toInt64 y15_1) &&& Int64.toUInt64 63))) else (UInt64.toInt64 (Int64.toUInt64 x2 >>> (Int64.toUInt64 (Int32.toInt64 y15_1) &&& Int64.toUInt64 63)))) else if x0 = 30 then (x2 &&& x4) else if x0 = 31 then (x2 ||| x4) else if x0 = 32 then (x2 ^^^ x4) else (Int32.toInt64 (f_J13_compare_74951 x2 x4)))
def f_X3_combined (x0 : Int32) (x1 : Int32) (x2 : Int64) (x4 : Int64) : Int64 := if x1 = 0 then (f_X3_combined_14 x0 x1 x2 x4 31 (Int64.toInt32 x4)) else (f_X3_combined_14 x0 x1 x2 x4 63 (Int64.toInt32 x4))
set_option maxRecDepth 100000 in
set_option maxHeartbeats 4000000 in
theorem c_X3_combined (l : Launch) (g : sm_G) (x0 : Int32) (x1 : Int32) (x2 : Int64) (x4 : Int64)   : Met l yX3_combined (sm_ws yX3_combined cX3_combined 7 (some .long)) (rmd 1) (va_Pc [.int x0, .int x1, .long x2, .long x4] (sm_P0 g)) (vp_Sl (fun r => r = f_X3_combined x0 x1 x2 x4)) 0 0 (fun _ => False) := by
  generalize hv : f_X3_combined x0 x1 x2 x4 = F
  replace hv := hv.symm
  refine sm_mP (by decide) (Nat.le_of_ble_eq_true rfl) (fun p e s m args below meth c C hA ls hl => ?_)
  obtain ⟨hC, hr, hlocks⟩ := C
  have hx := hC.1
  have hb := hC.2.1
  have hts := hC.2.2.2.2
  have hown : s.vm.findClass RX3 = some m.cls := hC.2.2.2.1
  have hS : va_S (fun _ => False) s.heap s.heap [] := va_S.rf
  have hl : lv_has ls 7 [(0, .int x0), (1, .int x1), (2, .long x2), (4, .long x4)] := hl
  refine lv_lload hx hb dX3_combined_0 (lv_at hl 3 rfl) ?_
  refine lv_l2i hx hb dX3_combined_2 rfl ?_
  refine lv_iload_n hx hb dX3_combined_3 rfl (lv_at hl 1 rfl) ?_
  have k_14 : ∀ (t0_14 : Int32) (t1_14 : Int32) (ls : Array Slot), lv_has ls 7 [(0, .int x0), (1, .int x1), (2, .long x2), (4, .long x4)] → F = f_X3_combined_14 x0 x1 x2 x4 t0_14 t1_14 → W p l e (rmd 1) s m args below meth c s.heap [] 0 0 (MQ below (vp_Sl (fun r => r = F)) args s 0 0 (fun _ => False)) (F0 m 14 ls [.int t0_14, .int t1_14]) := by
    intro t0_14 t1_14 ls hl hv
    refine lv_iand hx hb dX3_combined_14 ?_
    refine sm_nmi hv (fun y15_1 ey15_1 hv => ?_)
    refine lv_istore (lv' := [(6, .int y15_1), (0, .int x0), (1, .int x1), (2, .long x2), (4, .long x4)]) hx hb dX3_combined_15 hl (by decide) rfl (fun ls hl => ?_)
    refine lv_iload_n hx hb dX3_combined_17 rfl (lv_at hl 1 rfl) ?_
    by_cases c18_27 : x0 = 27
    · have hv := hv.trans (if_pos c18_27)
      refine lv_tableIn (tgt := 56) hx hb dX3_combined_18 (by rw [c18_27]; decide) (by rw [c18_27]; decide) (by rw [c18_27]; rfl) (by decide) ?_
      refine lv_lload_n hx hb dX3_combined_56 rfl (lv_at hl 3 rfl) ?_
      refine lv_iload hx hb dX3_combined_57 (lv_at hl 0 rfl) ?_
      refine lv_lshl hx hb dX3_combined_59 rfl ?_
      exact sm_rl hx hb hr hlocks hv dX3_combined_60
    · have hv := hv.trans (if_neg c18_27)
      by_cases c18_28 : x0 = 28
      · have hv := hv.trans (if_pos c18_28)
        refine lv_tableIn (tgt := 61) hx hb dX3_combined_18 (by rw [c18_28]; decide) (by rw [c18_28]; decide) (by rw [c18_28]; rfl) (by decide) ?_
        refine lv_lload_n hx hb dX3_combined_61 rfl (lv_at hl 3 rfl) ?_
        refine lv_iload hx hb dX3_combined_62 (lv_at hl 0 rfl) ?_
        refine lv_lshr hx hb dX3_combined_64 rfl ?_
        exact sm_rl hx hb hr hlocks hv dX3_combined_65
      · have hv := hv.trans (if_neg c18_28)
        by_cases c18_29 : x0 = 29
        · have hv := hv.trans (if_pos c18_29)
          refine lv_tableIn (tgt := 66) hx hb dX3_combined_18 (by rw [c18_29]; decide) (by rw [c18_29]; decide) (by rw [c18_29]; rfl) (by decide) ?_
          refine lv_iload_n hx hb dX3_combined_66 rfl (lv_at hl 2 rfl) ?_
          refine lv_if_ne (tgt := 78) hx hb dX3_combined_67 (by decide) (fun c67 => ?_) (fun c67 => ?_)
          · have hv := hv.trans (if_neg c67)
            refine lv_lload_n hx hb dX3_combined_78 rfl (lv_at hl 3 rfl) ?_
            refine lv_iload hx hb dX3_combined_79 (lv_at hl 0 rfl) ?_
            refine lv_lushr hx hb dX3_combined_81 rfl ?_
            exact sm_rl hx hb hr hlocks hv dX3_combined_82
          · have hv := hv.trans (if_pos c67)
            refine lv_lload_n hx hb dX3_combined_70 rfl (lv_at hl 3 rfl) ?_
            refine lv_ldc2 hx hb hown (hts _ w_378) dX3_combined_71 ?_
            refine lv_land hx hb dX3_combined_74 ?_
            refine lv_goto (tgt := 79) hx hb dX3_combined_75 (by decide) ?_
            refine lv_iload hx hb dX3_combined_79 (lv_at hl 0 rfl) ?_
            refine lv_lushr hx hb dX3_combined_81 rfl ?_
            exact sm_rl hx hb hr hlocks hv dX3_combined_82
        · have hv := hv.trans (if_neg c18_29)
          by_cases c18_30 : x0 = 30
          · have hv := hv.trans (if_pos c18_30)
            refine lv_tableIn (tgt := 83) hx hb dX3_combined_18 (by rw [c18_30]; decide) (by rw [c18_30]; decide) (by rw [c18_30]; rfl) (by decide) ?_
            refine lv_lload_n hx hb dX3_combined_83 rfl (lv_at hl 3 rfl) ?_
            refine lv_lload hx hb dX3_combined_84 (lv_at hl 4 rfl) ?_
            refine lv_land hx hb dX3_combined_86 ?_
            exact sm_rl hx hb hr hlocks hv dX3_combined_87
          · have hv := hv.trans (if_neg c18_30)
            by_cases c18_31 : x0 = 31
            · have hv := hv.trans (if_pos c18_31)
              refine lv_tableIn (tgt := 88) hx hb dX3_combined_18 (by rw [c18_31]; decide) (by rw [c18_31]; decide) (by rw [c18_31]; rfl) (by decide) ?_
              refine lv_lload_n hx hb dX3_combined_88 rfl (lv_at hl 3 rfl) ?_
              refine lv_lload hx hb dX3_combined_89 (lv_at hl 4 rfl) ?_
              refine lv_lor hx hb dX3_combined_91 ?_
              exact sm_rl hx hb hr hlocks hv dX3_combined_92
            · have hv := hv.trans (if_neg c18_31)
              by_cases c18_32 : x0 = 32
              · have hv := hv.trans (if_pos c18_32)
                refine lv_tableIn (tgt := 93) hx hb dX3_combined_18 (by rw [c18_32]; decide) (by rw [c18_32]; decide) (by rw [c18_32]; rfl) (by decide) ?_
                refine lv_lload_n hx hb dX3_combined_93 rfl (lv_at hl 3 rfl) ?_
                refine lv_lload hx hb dX3_combined_94 (lv_at hl 4 rfl) ?_
                refine lv_lxor hx hb dX3_combined_96 ?_
                exact sm_rl hx hb hr hlocks hv dX3_combined_97
              · have hv := hv.trans (if_neg c18_32)
                refine lv_tableOut (tgt := 98) hx hb dX3_combined_18 (by have := lv_neT c18_27 (show (27 : Int32).toInt = 27 from rfl); have := lv_neT c18_28 (show (28 : Int32).toInt = 28 from rfl); have := lv_neT c18_29 (show (29 : Int32).toInt = 29 from rfl); have := lv_neT c18_30 (show (30 : Int32).toInt = 30 from rfl); have := lv_neT c18_31 (show (31 : Int32).toInt = 31 from rfl); have := lv_neT c18_32 (show (32 : Int32).toInt = 32 from rfl); omega) (by decide) ?_
                refine lv_lload_n hx hb dX3_combined_98 rfl (lv_at hl 3 rfl) ?_
                refine lv_lload hx hb dX3_combined_99 (lv_at hl 4 rfl) ?_
                refine sm_ci (sm_runS (rest := []) hC (c_J13_compare_74951 l g x2 x4) k_J13_compare_74951 w_379 (by decide) (sm_ps hA hS) rfl hl.1 rfl (Nat.le_of_ble_eq_true rfl) dX3_combined_101) ?_
                refine lv_i2l hx hb dX3_combined_104 rfl ?_
                exact sm_rl hx hb hr hlocks hv dX3_combined_105
  refine lv_if_ne (tgt := 12) hx hb dX3_combined_4 (by decide) (fun c4 => ?_) (fun c4 => ?_)
  · have hv := hv.trans (if_neg c4)
    refine lv_bipush (v := 63) hx hb dX3_combined_12 (by decide) ?_
    exact k_14 63 (Int64.toInt32 x4) _ (lv_sub hl [0, 1, 2, 3] rfl) hv
  · have hv := hv.trans (if_pos c4)
    refine lv_bipush (v := 31) hx hb dX3_combined_7 (by decide) ?_
    refine lv_goto (tgt := 14) hx hb dX3_combined_9 (by decide) ?_
    exact k_14 31 (Int64.toInt32 x4) _ (lv_sub hl [0, 1, 2, 3] rfl) hv
def f_X3_wholeResult_24 (x1 : Int32) (t0_24 : Int64) : Int64 := if x1 = 0 then (Int32.toInt64 (Int64.toInt32 t0_24)) else t0_24
def f_X3_wholeResult (x0 : Int32) (x1 : Int32) (x2 : Int64) (x4 : Int64) : Int64 := if 27 ≤ x0 then (f_X3_wholeResult_24 x1 (f_X3_combined x0 x1 x2 x4)) else (f_X3_wholeResult_24 x1 (f_X3_calculated x0 x2 x4))
set_option maxRecDepth 100000 in
set_option maxHeartbeats 4000000 in
theorem c_X3_wholeResult (l : Launch) (g : sm_G) (x0 : Int32) (x1 : Int32) (x2 : Int64) (x4 : Int64)   : Met l yX3_wholeResult (sm_ws yX3_wholeResult cX3_wholeResult 8 (some .long)) (rmd 2) (va_Pc [.int x0, .int x1, .long x2, .long x4] (sm_P0 g)) (vp_Sl (fun r => r = f_X3_wholeResult x0 x1 x2 x4)) 0 0 (fun _ => False) := by
  generalize hv : f_X3_wholeResult x0 x1 x2 x4 = F
  replace hv := hv.symm
  refine sm_mP (by decide) (Nat.le_of_ble_eq_true rfl) (fun p e s m args below meth c C hA ls hl => ?_)
  obtain ⟨hC, hr, hlocks⟩ := C
  have hx := hC.1
  have hb := hC.2.1
  have hts := hC.2.2.2.2
  have hown : s.vm.findClass RX3 = some m.cls := hC.2.2.2.1
  have hS : va_S (fun _ => False) s.heap s.heap [] := va_S.rf
  have hl : lv_has ls 8 [(0, .int x0), (1, .int x1), (2, .long x2), (4, .long x4)] := hl
  refine lv_iload_n hx hb dX3_wholeResult_0 rfl (lv_at hl 0 rfl) ?_
  refine lv_bipush (v := 27) hx hb dX3_wholeResult_1 (by decide) ?_
  have k_24 : ∀ (t0_24 : Int64) (ls : Array Slot), lv_has ls 8 [(1, .int x1)] → F = f_X3_wholeResult_24 x1 t0_24 → W p l e (rmd 2) s m args below meth c s.heap [] 0 0 (MQ below (vp_Sl (fun r => r = F)) args s 0 0 (fun _ => False)) (F0 m 24 ls [.long t0_24]) := by
    intro t0_24 ls hl hv
    refine lv_lstore (lv' := [(6, .long t0_24), (1, .int x1)]) hx hb dX3_wholeResult_24 hl (by decide) rfl (fun ls hl => ?_)
    refine lv_iload_n hx hb dX3_wholeResult_26 rfl (lv_at hl 1 rfl) ?_
    refine lv_if_ne (tgt := 37) hx hb dX3_wholeResult_27 (by decide) (fun c27 => ?_) (fun c27 => ?_)
    · have hv := hv.trans (if_neg c27)
      refine lv_lload hx hb dX3_wholeResult_37 (lv_at hl 0 rfl) ?_
      exact sm_rl hx hb hr hlocks hv dX3_wholeResult_39
    · have hv := hv.trans (if_pos c27)
      refine lv_lload hx hb dX3_wholeResult_30 (lv_at hl 0 rfl) ?_
      refine lv_l2i hx hb dX3_wholeResult_32 rfl ?_
      refine lv_i2l hx hb dX3_wholeResult_33 rfl ?_
      refine lv_goto (tgt := 39) hx hb dX3_wholeResult_34 (by decide) ?_
      exact sm_rl hx hb hr hlocks hv dX3_wholeResult_39
  refine lv_icmp_ge (tgt := 16) hx hb dX3_wholeResult_3 (by decide) (fun c3 => ?_) (fun c3 => ?_)
  · have hv := hv.trans (if_pos c3)
    refine lv_iload_n hx hb dX3_wholeResult_16 rfl (lv_at hl 0 rfl) ?_
    refine lv_iload_n hx hb dX3_wholeResult_17 rfl (lv_at hl 1 rfl) ?_
    refine lv_lload_n hx hb dX3_wholeResult_18 rfl (lv_at hl 2 rfl) ?_
    refine lv_lload hx hb dX3_wholeResult_19 (lv_at hl 3 rfl) ?_
    refine sm_cl (sm_runS (rest := []) hC (c_X3_combined l g x0 x1 x2 x4) k_X3_combined w_375 (by decide) (sm_ps hA hS) rfl hl.1 rfl (Nat.le_of_ble_eq_true rfl) dX3_wholeResult_21) ?_
    exact k_24 (f_X3_combined x0 x1 x2 x4) _ (lv_sub hl [1] rfl) hv
  · have hv := hv.trans (if_neg c3)
    refine lv_iload_n hx hb dX3_wholeResult_6 rfl (lv_at hl 0 rfl) ?_
    refine lv_lload_n hx hb dX3_wholeResult_7 rfl (lv_at hl 2 rfl) ?_
    refine lv_lload hx hb dX3_wholeResult_8 (lv_at hl 3 rfl) ?_
    refine sm_cl (sm_runS (rest := []) hC (c_X3_calculated l g x0 x2 x4) k_X3_calculated w_370 (by decide) (sm_ps hA hS) rfl hl.1 rfl (Nat.le_of_ble_eq_true rfl) dX3_wholeResult_10) ?_
    refine lv_goto (tgt := 24) hx hb dX3_wholeResult_13 (by decide) ?_
    exact k_24 (f_X3_calculated x0 x2 x4) _ (lv_sub hl [1] rfl) hv
def f_X3_floatingResult (j : Nat) (x0 : Int32) (x2 : Int64) (x4 : Int64) : Int64 := if x0 = 20 then (f_X1_sum j x2 x4) else if x0 = 21 then (f_X1_sum j x2 (f_X1_negated j x4)) else if x0 = 22 then (f_X1_product j x2 x4) else if x0 = 23 then (f_X1_quotient j x2 x4) else if x0 = 24 then (f_X1_remainder j x2 x4) else if x0 = 25 then (f_X1_least j x2 x4) else if x0 = 26 then (f_X1_greatest j x2 x4) else if x0 = 27 then (Int32.toInt64 (f_X1_compared j x2 x4 1)) else if x0 = 28 then (Int32.toInt64 (f_X1_compared j x2 x4 1)) else if x0 = 29 then (Int32.toInt64 (f_X1_compared j x2 x4 1)) else if x0 = 30 then (Int32.toInt64 (f_X1_compared j x2 x4 1)) else if x0 = 31 then (Int32.toInt64 (f_X1_compared j x2 x4 1)) else if x0 = 32 then (Int32.toInt64 (f_X1_compared j x2 x4 1)) else if x0 = 33 then (Int32.toInt64 (f_X1_compared j x2 x4 ((-1)))) else (Int32.toInt64 (f_X1_compared j x2 x4 1))
set_option maxRecDepth 100000 in
set_option maxHeartbeats 4000000 in
theorem c_X3_floatingResult (l : Launch) (g : sm_G) (j : Nat) (x0 : Int32) (x2 : Int64) (x4 : Int64) (hj2 : j < 2)  : Met l yX3_floatingResult (sm_ws yX3_floatingResult cX3_floatingResult 6 (some .long)) (rmd 6) (va_Pc [.int x0, .ref (gF g j), .long x2, .long x4] (sm_P0 g)) (vp_Sl (fun r => r = f_X3_floatingResult j x0 x2 x4)) 0 0 (fun _ => False) := by
  generalize hv : f_X3_floatingResult j x0 x2 x4 = F
  replace hv := hv.symm
  refine sm_mP (by decide) (Nat.le_of_ble_eq_true rfl) (fun p e s m args below meth c C hA ls hl => ?_)
  obtain ⟨hC, hr, hlocks⟩ := C
  have hx := hC.1
  have hb := hC.2.1
  have hts := hC.2.2.2.2
  have hown : s.vm.findClass RX3 = some m.cls := hC.2.2.2.1
  have hS : va_S (fun _ => False) s.heap s.heap [] := va_S.rf
  have hl : lv_has ls 6 [(0, .int x0), (1, .ref (gF g j)), (2, .long x2), (4, .long x4)] := hl
  refine lv_iload_n hx hb dX3_floatingResult_0 rfl (lv_at hl 0 rfl) ?_
  by_cases c1_20 : x0 = 20
  · have hv := hv.trans (if_pos c1_20)
    refine lv_tableIn (tgt := 72) hx hb dX3_floatingResult_1 (by rw [c1_20]; decide) (by rw [c1_20]; decide) (by rw [c1_20]; rfl) (by decide) ?_
    refine lv_aload_n hx hb dX3_floatingResult_72 rfl (lv_at hl 1 rfl) ?_
    refine lv_lload_n hx hb dX3_floatingResult_73 rfl (lv_at hl 2 rfl) ?_
    refine lv_lload hx hb dX3_floatingResult_74 (lv_at hl 3 rfl) ?_
    refine sm_cl (sm_runV (rest := []) hC (c_X1_sum l g j x2 x4 hj2) k_X1_sum w_311 (by decide) (sm_pf hA hS hj2) rfl hl.1 rfl (Nat.le_of_ble_eq_true rfl) dX3_floatingResult_76) ?_
    exact sm_rl hx hb hr hlocks hv dX3_floatingResult_79
  · have hv := hv.trans (if_neg c1_20)
    by_cases c1_21 : x0 = 21
    · have hv := hv.trans (if_pos c1_21)
      refine lv_tableIn (tgt := 80) hx hb dX3_floatingResult_1 (by rw [c1_21]; decide) (by rw [c1_21]; decide) (by rw [c1_21]; rfl) (by decide) ?_
      refine lv_aload_n hx hb dX3_floatingResult_80 rfl (lv_at hl 1 rfl) ?_
      refine lv_lload_n hx hb dX3_floatingResult_81 rfl (lv_at hl 2 rfl) ?_
      refine lv_aload_n hx hb dX3_floatingResult_82 rfl (lv_at hl 1 rfl) ?_
      refine lv_lload hx hb dX3_floatingResult_83 (lv_at hl 3 rfl) ?_
      refine sm_cl (sm_runV (rest := [.long x2, .ref (gF g j)]) hC (c_X1_negated l g j x4 hj2) k_X1_negated w_322 (by decide) (sm_pf hA hS hj2) rfl hl.1 rfl (Nat.le_of_ble_eq_true rfl) dX3_floatingResult_85) ?_
      refine sm_cl (sm_runV (rest := []) hC (c_X1_sum l g j x2 (f_X1_negated j x4) hj2) k_X1_sum w_311 (by decide) (sm_pf hA hS hj2) rfl hl.1 rfl (Nat.le_of_ble_eq_true rfl) dX3_floatingResult_88) ?_
      exact sm_rl hx hb hr hlocks hv dX3_floatingResult_91
    · have hv := hv.trans (if_neg c1_21)
      by_cases c1_22 : x0 = 22
      · have hv := hv.trans (if_pos c1_22)
        refine lv_tableIn (tgt := 92) hx hb dX3_floatingResult_1 (by rw [c1_22]; decide) (by rw [c1_22]; decide) (by rw [c1_22]; rfl) (by decide) ?_
        refine lv_aload_n hx hb dX3_floatingResult_92 rfl (lv_at hl 1 rfl) ?_
        refine lv_lload_n hx hb dX3_floatingResult_93 rfl (lv_at hl 2 rfl) ?_
        refine lv_lload hx hb dX3_floatingResult_94 (lv_at hl 3 rfl) ?_
        refine sm_cl (sm_runV (rest := []) hC (c_X1_product l g j x2 x4 hj2) k_X1_product w_323 (by decide) (sm_pf hA hS hj2) rfl hl.1 rfl (Nat.le_of_ble_eq_true rfl) dX3_floatingResult_96) ?_
        exact sm_rl hx hb hr hlocks hv dX3_floatingResult_99
      · have hv := hv.trans (if_neg c1_22)
        by_cases c1_23 : x0 = 23
        · have hv := hv.trans (if_pos c1_23)
          refine lv_tableIn (tgt := 100) hx hb dX3_floatingResult_1 (by rw [c1_23]; decide) (by rw [c1_23]; decide) (by rw [c1_23]; rfl) (by decide) ?_
          refine lv_aload_n hx hb dX3_floatingResult_100 rfl (lv_at hl 1 rfl) ?_
          refine lv_lload_n hx hb dX3_floatingResult_101 rfl (lv_at hl 2 rfl) ?_
          refine lv_lload hx hb dX3_floatingResult_102 (lv_at hl 3 rfl) ?_
          refine sm_cl (sm_runV (rest := []) hC (c_X1_quotient l g j x2 x4 hj2) k_X1_quotient w_331 (by decide) (sm_pf hA hS hj2) rfl hl.1 rfl (Nat.le_of_ble_eq_true rfl) dX3_floatingResult_104) ?_
          exact sm_rl hx hb hr hlocks hv dX3_floatingResult_107
        · have hv := hv.trans (if_neg c1_23)
          by_cases c1_24 : x0 = 24
          · have hv := hv.trans (if_pos c1_24)
            refine lv_tableIn (tgt := 108) hx hb dX3_floatingResult_1 (by rw [c1_24]; decide) (by rw [c1_24]; decide) (by rw [c1_24]; rfl) (by decide) ?_
            refine lv_aload_n hx hb dX3_floatingResult_108 rfl (lv_at hl 1 rfl) ?_
            refine lv_lload_n hx hb dX3_floatingResult_109 rfl (lv_at hl 2 rfl) ?_
            refine lv_lload hx hb dX3_floatingResult_110 (lv_at hl 3 rfl) ?_
            refine sm_cl (sm_runV (rest := []) hC (c_X1_remainder l g j x2 x4 hj2) k_X1_remainder w_338 (by decide) (sm_pf hA hS hj2) rfl hl.1 rfl (Nat.le_of_ble_eq_true rfl) dX3_floatingResult_112) ?_
            exact sm_rl hx hb hr hlocks hv dX3_floatingResult_115
          · have hv := hv.trans (if_neg c1_24)
            by_cases c1_25 : x0 = 25
            · have hv := hv.trans (if_pos c1_25)
              refine lv_tableIn (tgt := 116) hx hb dX3_floatingResult_1 (by rw [c1_25]; decide) (by rw [c1_25]; decide) (by rw [c1_25]; rfl) (by decide) ?_
              refine lv_aload_n hx hb dX3_floatingResult_116 rfl (lv_at hl 1 rfl) ?_
              refine lv_lload_n hx hb dX3_floatingResult_117 rfl (lv_at hl 2 rfl) ?_
              refine lv_lload hx hb dX3_floatingResult_118 (lv_at hl 3 rfl) ?_
              refine sm_cl (sm_runV (rest := []) hC (c_X1_least l g j x2 x4 hj2) k_X1_least w_348 (by decide) (sm_pf hA hS hj2) rfl hl.1 rfl (Nat.le_of_ble_eq_true rfl) dX3_floatingResult_120) ?_
              exact sm_rl hx hb hr hlocks hv dX3_floatingResult_123
            · have hv := hv.trans (if_neg c1_25)
              by_cases c1_26 : x0 = 26
              · have hv := hv.trans (if_pos c1_26)
                refine lv_tableIn (tgt := 124) hx hb dX3_floatingResult_1 (by rw [c1_26]; decide) (by rw [c1_26]; decide) (by rw [c1_26]; rfl) (by decide) ?_
                refine lv_aload_n hx hb dX3_floatingResult_124 rfl (lv_at hl 1 rfl) ?_
                refine lv_lload_n hx hb dX3_floatingResult_125 rfl (lv_at hl 2 rfl) ?_
                refine lv_lload hx hb dX3_floatingResult_126 (lv_at hl 3 rfl) ?_
                refine sm_cl (sm_runV (rest := []) hC (c_X1_greatest l g j x2 x4 hj2) k_X1_greatest w_356 (by decide) (sm_pf hA hS hj2) rfl hl.1 rfl (Nat.le_of_ble_eq_true rfl) dX3_floatingResult_128) ?_
                exact sm_rl hx hb hr hlocks hv dX3_floatingResult_131
              · have hv := hv.trans (if_neg c1_26)
                by_cases c1_27 : x0 = 27
                · have hv := hv.trans (if_pos c1_27)
                  refine lv_tableIn (tgt := 142) hx hb dX3_floatingResult_1 (by rw [c1_27]; decide) (by rw [c1_27]; decide) (by rw [c1_27]; rfl) (by decide) ?_
                  refine lv_aload_n hx hb dX3_floatingResult_142 rfl (lv_at hl 1 rfl) ?_
                  refine lv_lload_n hx hb dX3_floatingResult_143 rfl (lv_at hl 2 rfl) ?_
                  refine lv_lload hx hb dX3_floatingResult_144 (lv_at hl 3 rfl) ?_
                  refine lv_iconst (v := 1) hx hb dX3_floatingResult_146 (by decide) ?_
                  refine sm_ci (sm_runV (rest := []) hC (c_X1_compared l g j x2 x4 1 hj2) k_X1_compared w_360 (by decide) (sm_pf hA hS hj2) rfl hl.1 rfl (Nat.le_of_ble_eq_true rfl) dX3_floatingResult_147) ?_
                  refine lv_i2l hx hb dX3_floatingResult_150 rfl ?_
                  exact sm_rl hx hb hr hlocks hv dX3_floatingResult_151
                · have hv := hv.trans (if_neg c1_27)
                  by_cases c1_28 : x0 = 28
                  · have hv := hv.trans (if_pos c1_28)
                    refine lv_tableIn (tgt := 142) hx hb dX3_floatingResult_1 (by rw [c1_28]; decide) (by rw [c1_28]; decide) (by rw [c1_28]; rfl) (by decide) ?_
                    refine lv_aload_n hx hb dX3_floatingResult_142 rfl (lv_at hl 1 rfl) ?_
                    refine lv_lload_n hx hb dX3_floatingResult_143 rfl (lv_at hl 2 rfl) ?_
                    refine lv_lload hx hb dX3_floatingResult_144 (lv_at hl 3 rfl) ?_
                    refine lv_iconst (v := 1) hx hb dX3_floatingResult_146 (by decide) ?_
                    refine sm_ci (sm_runV (rest := []) hC (c_X1_compared l g j x2 x4 1 hj2) k_X1_compared w_360 (by decide) (sm_pf hA hS hj2) rfl hl.1 rfl (Nat.le_of_ble_eq_true rfl) dX3_floatingResult_147) ?_
                    refine lv_i2l hx hb dX3_floatingResult_150 rfl ?_
                    exact sm_rl hx hb hr hlocks hv dX3_floatingResult_151
                  · have hv := hv.trans (if_neg c1_28)
                    by_cases c1_29 : x0 = 29
                    · have hv := hv.trans (if_pos c1_29)
                      refine lv_tableIn (tgt := 142) hx hb dX3_floatingResult_1 (by rw [c1_29]; decide) (by rw [c1_29]; decide) (by rw [c1_29]; rfl) (by decide) ?_
                      refine lv_aload_n hx hb dX3_floatingResult_142 rfl (lv_at hl 1 rfl) ?_
                      refine lv_lload_n hx hb dX3_floatingResult_143 rfl (lv_at hl 2 rfl) ?_
                      refine lv_lload hx hb dX3_floatingResult_144 (lv_at hl 3 rfl) ?_
                      refine lv_iconst (v := 1) hx hb dX3_floatingResult_146 (by decide) ?_
                      refine sm_ci (sm_runV (rest := []) hC (c_X1_compared l g j x2 x4 1 hj2) k_X1_compared w_360 (by decide) (sm_pf hA hS hj2) rfl hl.1 rfl (Nat.le_of_ble_eq_true rfl) dX3_floatingResult_147) ?_
                      refine lv_i2l hx hb dX3_floatingResult_150 rfl ?_
                      exact sm_rl hx hb hr hlocks hv dX3_floatingResult_151
                    · have hv := hv.trans (if_neg c1_29)
                      by_cases c1_30 : x0 = 30
                      · have hv := hv.trans (if_pos c1_30)
                        refine lv_tableIn (tgt := 142) hx hb dX3_floatingResult_1 (by rw [c1_30]; decide) (by rw [c1_30]; decide) (by rw [c1_30]; rfl) (by decide) ?_
                        refine lv_aload_n hx hb dX3_floatingResult_142 rfl (lv_at hl 1 rfl) ?_
                        refine lv_lload_n hx hb dX3_floatingResult_143 rfl (lv_at hl 2 rfl) ?_
                        refine lv_lload hx hb dX3_floatingResult_144 (lv_at hl 3 rfl) ?_
                        refine lv_iconst (v := 1) hx hb dX3_floatingResult_146 (by decide) ?_
                        refine sm_ci (sm_runV (rest := []) hC (c_X1_compared l g j x2 x4 1 hj2) k_X1_compared w_360 (by decide) (sm_pf hA hS hj2) rfl hl.1 rfl (Nat.le_of_ble_eq_true rfl) dX3_floatingResult_147) ?_
                        refine lv_i2l hx hb dX3_floatingResult_150 rfl ?_
                        exact sm_rl hx hb hr hlocks hv dX3_floatingResult_151
                      · have hv := hv.trans (if_neg c1_30)
                        by_cases c1_31 : x0 = 31
                        · have hv := hv.trans (if_pos c1_31)
                          refine lv_tableIn (tgt := 142) hx hb dX3_floatingResult_1 (by rw [c1_31]; decide) (by rw [c1_31]; decide) (by rw [c1_31]; rfl) (by decide) ?_
                          refine lv_aload_n hx hb dX3_floatingResult_142 rfl (lv_at hl 1 rfl) ?_
                          refine lv_lload_n hx hb dX3_floatingResult_143 rfl (lv_at hl 2 rfl) ?_
                          refine lv_lload hx hb dX3_floatingResult_144 (lv_at hl 3 rfl) ?_
                          refine lv_iconst (v := 1) hx hb dX3_floatingResult_146 (by decide) ?_
                          refine sm_ci (sm_runV (rest := []) hC (c_X1_compared l g j x2 x4 1 hj2) k_X1_compared w_360 (by decide) (sm_pf hA hS hj2) rfl hl.1 rfl (Nat.le_of_ble_eq_true rfl) dX3_floatingResult_147) ?_
                          refine lv_i2l hx hb dX3_floatingResult_150 rfl ?_
                          exact sm_rl hx hb hr hlocks hv dX3_floatingResult_151
                        · have hv := hv.trans (if_neg c1_31)
                          by_cases c1_32 : x0 = 32
                          · have hv := hv.trans (if_pos c1_32)
                            refine lv_tableIn (tgt := 142) hx hb dX3_floatingResult_1 (by rw [c1_32]; decide) (by rw [c1_32]; decide) (by rw [c1_32]; rfl) (by decide) ?_
                            refine lv_aload_n hx hb dX3_floatingResult_142 rfl (lv_at hl 1 rfl) ?_
                            refine lv_lload_n hx hb dX3_floatingResult_143 rfl (lv_at hl 2 rfl) ?_
                            refine lv_lload hx hb dX3_floatingResult_144 (lv_at hl 3 rfl) ?_
                            refine lv_iconst (v := 1) hx hb dX3_floatingResult_146 (by decide) ?_
                            refine sm_ci (sm_runV (rest := []) hC (c_X1_compared l g j x2 x4 1 hj2) k_X1_compared w_360 (by decide) (sm_pf hA hS hj2) rfl hl.1 rfl (Nat.le_of_ble_eq_true rfl) dX3_floatingResult_147) ?_
                            refine lv_i2l hx hb dX3_floatingResult_150 rfl ?_
                            exact sm_rl hx hb hr hlocks hv dX3_floatingResult_151
                          · have hv := hv.trans (if_neg c1_32)
                            by_cases c1_33 : x0 = 33
                            · have hv := hv.trans (if_pos c1_33)
                              refine lv_tableIn (tgt := 132) hx hb dX3_floatingResult_1 (by rw [c1_33]; decide) (by rw [c1_33]; decide) (by rw [c1_33]; rfl) (by decide) ?_
                              refine lv_aload_n hx hb dX3_floatingResult_132 rfl (lv_at hl 1 rfl) ?_
                              refine lv_lload_n hx hb dX3_floatingResult_133 rfl (lv_at hl 2 rfl) ?_
                              refine lv_lload hx hb dX3_floatingResult_134 (lv_at hl 3 rfl) ?_
                              refine lv_iconst (v := -1) hx hb dX3_floatingResult_136 (by decide) ?_
                              refine sm_ci (sm_runV (rest := []) hC (c_X1_compared l g j x2 x4 ((-1)) hj2) k_X1_compared w_360 (by decide) (sm_pf hA hS hj2) rfl hl.1 rfl (Nat.le_of_ble_eq_true rfl) dX3_floatingResult_137) ?_
                              refine lv_i2l hx hb dX3_floatingResult_140 rfl ?_
                              exact sm_rl hx hb hr hlocks hv dX3_floatingResult_141
                            · have hv := hv.trans (if_neg c1_33)
                              refine lv_tableOut (tgt := 142) hx hb dX3_floatingResult_1 (by have := lv_neT c1_20 (show (20 : Int32).toInt = 20 from rfl); have := lv_neT c1_21 (show (21 : Int32).toInt = 21 from rfl); have := lv_neT c1_22 (show (22 : Int32).toInt = 22 from rfl); have := lv_neT c1_23 (show (23 : Int32).toInt = 23 from rfl); have := lv_neT c1_24 (show (24 : Int32).toInt = 24 from rfl); have := lv_neT c1_25 (show (25 : Int32).toInt = 25 from rfl); have := lv_neT c1_26 (show (26 : Int32).toInt = 26 from rfl); have := lv_neT c1_27 (show (27 : Int32).toInt = 27 from rfl); have := lv_neT c1_28 (show (28 : Int32).toInt = 28 from rfl); have := lv_neT c1_29 (show (29 : Int32).toInt = 29 from rfl); have := lv_neT c1_30 (show (30 : Int32).toInt = 30 from rfl); have := lv_neT c1_31 (show (31 : Int32).toInt = 31 from rfl); have := lv_neT c1_32 (show (32 : Int32).toInt = 32 from rfl); have := lv_neT c1_33 (show (33 : Int32).toInt = 33 from rfl); omega) (by decide) ?_
                              refine lv_aload_n hx hb dX3_floatingResult_142 rfl (lv_at hl 1 rfl) ?_
                              refine lv_lload_n hx hb dX3_floatingResult_143 rfl (lv_at hl 2 rfl) ?_
                              refine lv_lload hx hb dX3_floatingResult_144 (lv_at hl 3 rfl) ?_
                              refine lv_iconst (v := 1) hx hb dX3_floatingResult_146 (by decide) ?_
                              refine sm_ci (sm_runV (rest := []) hC (c_X1_compared l g j x2 x4 1 hj2) k_X1_compared w_360 (by decide) (sm_pf hA hS hj2) rfl hl.1 rfl (Nat.le_of_ble_eq_true rfl) dX3_floatingResult_147) ?_
                              refine lv_i2l hx hb dX3_floatingResult_150 rfl ?_
                              exact sm_rl hx hb hr hlocks hv dX3_floatingResult_151
def f_X4_takes (x0 : Int32) (x1 : Int32) : Int32 := if (f_X5_isBelow (Int32.toInt64 x0) 15) = 0 then (if x0 = 15 then 1 else if x0 = 16 then 1 else if x0 = 17 then (f_X5_isFloating x1) else if x0 = 18 then (if (f_X5_isFloating x1) = 0 then 1 else 0) else 0) else (if (kCF (Int32.toNatClampNeg x0)) = x1 then 1 else 0)
set_option maxRecDepth 100000 in
set_option maxHeartbeats 4000000 in
theorem c_X4_takes (l : Launch) (g : sm_G) (x0 : Int32) (x1 : Int32)   : Met l yX4_takes (sm_ws yX4_takes cX4_takes 2 (some .boolean)) (rmd 1) (va_Pc [.int x0, .int x1] (sm_P0 g)) (vp_Si (fun r => r = f_X4_takes x0 x1)) 0 0 (fun _ => False) := by
  generalize hv : f_X4_takes x0 x1 = F
  replace hv := hv.symm
  refine sm_mP (by decide) (Nat.le_of_ble_eq_true rfl) (fun p e s m args below meth c C hA ls hl => ?_)
  obtain ⟨hC, hr, hlocks⟩ := C
  have hx := hC.1
  have hb := hC.2.1
  have hts := hC.2.2.2.2
  have hown : s.vm.findClass RX4 = some m.cls := hC.2.2.2.1
  have hS : va_S (fun _ => False) s.heap s.heap [] := va_S.rf
  have hl : lv_has ls 2 [(0, .int x0), (1, .int x1)] := hl
  refine lv_iload_n hx hb dX4_takes_0 rfl (lv_at hl 0 rfl) ?_
  refine lv_i2l hx hb dX4_takes_1 rfl ?_
  refine lv_bipush (v := 15) hx hb dX4_takes_2 (by decide) ?_
  refine sm_ci (sm_runSN (rest := []) hC (c_X5_isBelow l g (Int32.toInt64 x0) 15) k_X5_isBelow (hA.2.1 _ (List.mem_of_getElem? (i := 2) rfl)) (by decide) (sm_ps hA hS) rfl hl.1 rfl (Nat.le_of_ble_eq_true rfl) dX4_takes_4) ?_
  refine lv_if_eq (tgt := 25) hx hb dX4_takes_7 (by decide) (fun c7 => ?_) (fun c7 => ?_)
  · have hv := hv.trans (if_pos c7)
    refine lv_iload_n hx hb dX4_takes_25 rfl (lv_at hl 0 rfl) ?_
    by_cases c26_15 : x0 = 15
    · have hv := hv.trans (if_pos c26_15)
      refine lv_tableIn (tgt := 56) hx hb dX4_takes_26 (by rw [c26_15]; decide) (by rw [c26_15]; decide) (by rw [c26_15]; rfl) (by decide) ?_
      refine lv_iconst (v := 1) hx hb dX4_takes_56 (by decide) ?_
      exact sm_rz hx hb hr hlocks rfl hv dX4_takes_57
    · have hv := hv.trans (if_neg c26_15)
      by_cases c26_16 : x0 = 16
      · have hv := hv.trans (if_pos c26_16)
        refine lv_tableIn (tgt := 56) hx hb dX4_takes_26 (by rw [c26_16]; decide) (by rw [c26_16]; decide) (by rw [c26_16]; rfl) (by decide) ?_
        refine lv_iconst (v := 1) hx hb dX4_takes_56 (by decide) ?_
        exact sm_rz hx hb hr hlocks rfl hv dX4_takes_57
      · have hv := hv.trans (if_neg c26_16)
        by_cases c26_17 : x0 = 17
        · have hv := hv.trans (if_pos c26_17)
          refine lv_tableIn (tgt := 58) hx hb dX4_takes_26 (by rw [c26_17]; decide) (by rw [c26_17]; decide) (by rw [c26_17]; rfl) (by decide) ?_
          refine lv_iload_n hx hb dX4_takes_58 rfl (lv_at hl 1 rfl) ?_
          refine sm_ci (sm_runSN (rest := []) hC (c_X5_isFloating l g x1) k_X5_isFloating (hA.2.1 _ (List.mem_of_getElem? (i := 3) rfl)) (by decide) (sm_ps hA hS) rfl hl.1 rfl (Nat.le_of_ble_eq_true rfl) dX4_takes_59) ?_
          exact sm_rz hx hb hr hlocks (isFloating_b _) hv dX4_takes_62
        · have hv := hv.trans (if_neg c26_17)
          by_cases c26_18 : x0 = 18
          · have hv := hv.trans (if_pos c26_18)
            refine lv_tableIn (tgt := 63) hx hb dX4_takes_26 (by rw [c26_18]; decide) (by rw [c26_18]; decide) (by rw [c26_18]; rfl) (by decide) ?_
            refine lv_iload_n hx hb dX4_takes_63 rfl (lv_at hl 1 rfl) ?_
            refine sm_ci (sm_runSN (rest := []) hC (c_X5_isFloating l g x1) k_X5_isFloating (hA.2.1 _ (List.mem_of_getElem? (i := 3) rfl)) (by decide) (sm_ps hA hS) rfl hl.1 rfl (Nat.le_of_ble_eq_true rfl) dX4_takes_64) ?_
            refine lv_if_ne (tgt := 74) hx hb dX4_takes_67 (by decide) (fun c67 => ?_) (fun c67 => ?_)
            · have hv := hv.trans (if_neg c67)
              refine lv_iconst (v := 0) hx hb dX4_takes_74 (by decide) ?_
              exact sm_rz hx hb hr hlocks rfl hv dX4_takes_75
            · have hv := hv.trans (if_pos c67)
              refine lv_iconst (v := 1) hx hb dX4_takes_70 (by decide) ?_
              refine lv_goto (tgt := 75) hx hb dX4_takes_71 (by decide) ?_
              exact sm_rz hx hb hr hlocks rfl hv dX4_takes_75
          · have hv := hv.trans (if_neg c26_18)
            refine lv_tableOut (tgt := 76) hx hb dX4_takes_26 (by have := lv_neT c26_15 (show (15 : Int32).toInt = 15 from rfl); have := lv_neT c26_16 (show (16 : Int32).toInt = 16 from rfl); have := lv_neT c26_17 (show (17 : Int32).toInt = 17 from rfl); have := lv_neT c26_18 (show (18 : Int32).toInt = 18 from rfl); omega) (by decide) ?_
            refine lv_iconst (v := 0) hx hb dX4_takes_76 (by decide) ?_
            exact sm_rz hx hb hr hlocks rfl hv dX4_takes_77
  · have hv := hv.trans (if_neg c7)
    refine va_gets hx hb (hA.1.2.2.2.1.1) hS hown (hts _ w_182) (fun _ h => h) dX4_takes_10 ?_
    refine lv_iload_n hx hb dX4_takes_13 rfl (lv_at hl 0 rfl) ?_
    refine va_ti hx hb (hA.1.2.2.2.1.2) hS (bel_in c7 (by decide)) rfl dX4_takes_14 ?_
    refine lv_iload_n hx hb dX4_takes_15 rfl (lv_at hl 1 rfl) ?_
    refine lv_icmp_ne (tgt := 23) hx hb dX4_takes_16 (by decide) (fun c16 => ?_) (fun c16 => ?_)
    · have hv := hv.trans (if_neg c16)
      refine lv_iconst (v := 0) hx hb dX4_takes_23 (by decide) ?_
      exact sm_rz hx hb hr hlocks rfl hv dX4_takes_24
    · have hv := hv.trans (if_pos c16)
      refine lv_iconst (v := 1) hx hb dX4_takes_19 (by decide) ?_
      refine lv_goto (tgt := 24) hx hb dX4_takes_20 (by decide) ?_
      exact sm_rz hx hb hr hlocks rfl hv dX4_takes_24
def f_X4_rounds (x0 : Int32) : Int32 := if x0 = 1 then 1 else (if x0 = 4 then 1 else (if x0 = 5 then 1 else (if x0 = 11 then 1 else 0)))
set_option maxRecDepth 100000 in
set_option maxHeartbeats 4000000 in
theorem c_X4_rounds (l : Launch) (g : sm_G) (x0 : Int32)   : Met l yX4_rounds (sm_ws yX4_rounds cX4_rounds 1 (some .boolean)) (rmd 0) (va_Pc [.int x0] (sm_P0 g)) (vp_Si (fun r => r = f_X4_rounds x0)) 0 0 (fun _ => False) := by
  generalize hv : f_X4_rounds x0 = F
  replace hv := hv.symm
  refine sm_mP (by decide) (Nat.le_of_ble_eq_true rfl) (fun p e s m args below meth c C hA ls hl => ?_)
  obtain ⟨hC, hr, hlocks⟩ := C
  have hx := hC.1
  have hb := hC.2.1
  have hts := hC.2.2.2.2
  have hown : s.vm.findClass RX4 = some m.cls := hC.2.2.2.1
  have hS : va_S (fun _ => False) s.heap s.heap [] := va_S.rf
  have hl : lv_has ls 1 [(0, .int x0)] := hl
  refine lv_iload_n hx hb dX4_rounds_0 rfl (lv_at hl 0 rfl) ?_
  refine lv_iconst (v := 1) hx hb dX4_rounds_1 (by decide) ?_
  refine lv_icmp_eq (tgt := 21) hx hb dX4_rounds_2 (by decide) (fun c2 => ?_) (fun c2 => ?_)
  · have hv := hv.trans (if_pos c2)
    refine lv_iconst (v := 1) hx hb dX4_rounds_21 (by decide) ?_
    refine lv_goto (tgt := 26) hx hb dX4_rounds_22 (by decide) ?_
    exact sm_rz hx hb hr hlocks rfl hv dX4_rounds_26
  · have hv := hv.trans (if_neg c2)
    refine lv_iload_n hx hb dX4_rounds_5 rfl (lv_at hl 0 rfl) ?_
    refine lv_iconst (v := 4) hx hb dX4_rounds_6 (by decide) ?_
    refine lv_icmp_eq (tgt := 21) hx hb dX4_rounds_7 (by decide) (fun c7 => ?_) (fun c7 => ?_)
    · have hv := hv.trans (if_pos c7)
      refine lv_iconst (v := 1) hx hb dX4_rounds_21 (by decide) ?_
      refine lv_goto (tgt := 26) hx hb dX4_rounds_22 (by decide) ?_
      exact sm_rz hx hb hr hlocks rfl hv dX4_rounds_26
    · have hv := hv.trans (if_neg c7)
      refine lv_iload_n hx hb dX4_rounds_10 rfl (lv_at hl 0 rfl) ?_
      refine lv_iconst (v := 5) hx hb dX4_rounds_11 (by decide) ?_
      refine lv_icmp_eq (tgt := 21) hx hb dX4_rounds_12 (by decide) (fun c12 => ?_) (fun c12 => ?_)
      · have hv := hv.trans (if_pos c12)
        refine lv_iconst (v := 1) hx hb dX4_rounds_21 (by decide) ?_
        refine lv_goto (tgt := 26) hx hb dX4_rounds_22 (by decide) ?_
        exact sm_rz hx hb hr hlocks rfl hv dX4_rounds_26
      · have hv := hv.trans (if_neg c12)
        refine lv_iload_n hx hb dX4_rounds_15 rfl (lv_at hl 0 rfl) ?_
        refine lv_bipush (v := 11) hx hb dX4_rounds_16 (by decide) ?_
        refine lv_icmp_ne (tgt := 25) hx hb dX4_rounds_18 (by decide) (fun c18 => ?_) (fun c18 => ?_)
        · have hv := hv.trans (if_neg c18)
          refine lv_iconst (v := 0) hx hb dX4_rounds_25 (by decide) ?_
          exact sm_rz hx hb hr hlocks rfl hv dX4_rounds_26
        · have hv := hv.trans (if_pos c18)
          refine lv_iconst (v := 1) hx hb dX4_rounds_21 (by decide) ?_
          refine lv_goto (tgt := 26) hx hb dX4_rounds_22 (by decide) ?_
          exact sm_rz hx hb hr hlocks rfl hv dX4_rounds_26
def f_X4_resultKind (x0 : Int32) (x1 : Int32) : Int32 := if (f_X5_isBelow (Int32.toInt64 x0) 15) = 0 then (if x0 = 17 then (if x1 = 2 then 0 else 1) else (if x0 = 18 then (if x1 = 0 then 2 else 3) else x1)) else (kCT (Int32.toNatClampNeg x0))
set_option maxRecDepth 100000 in
set_option maxHeartbeats 4000000 in
theorem c_X4_resultKind (l : Launch) (g : sm_G) (x0 : Int32) (x1 : Int32)   : Met l yX4_resultKind (sm_ws yX4_resultKind cX4_resultKind 2 (some .int)) (rmd 1) (va_Pc [.int x0, .int x1] (sm_P0 g)) (vp_Si (fun r => r = f_X4_resultKind x0 x1)) 0 0 (fun _ => False) := by
  generalize hv : f_X4_resultKind x0 x1 = F
  replace hv := hv.symm
  refine sm_mP (by decide) (Nat.le_of_ble_eq_true rfl) (fun p e s m args below meth c C hA ls hl => ?_)
  obtain ⟨hC, hr, hlocks⟩ := C
  have hx := hC.1
  have hb := hC.2.1
  have hts := hC.2.2.2.2
  have hown : s.vm.findClass RX4 = some m.cls := hC.2.2.2.1
  have hS : va_S (fun _ => False) s.heap s.heap [] := va_S.rf
  have hl : lv_has ls 2 [(0, .int x0), (1, .int x1)] := hl
  refine lv_iload_n hx hb dX4_resultKind_0 rfl (lv_at hl 0 rfl) ?_
  refine lv_i2l hx hb dX4_resultKind_1 rfl ?_
  refine lv_bipush (v := 15) hx hb dX4_resultKind_2 (by decide) ?_
  refine sm_ci (sm_runSN (rest := []) hC (c_X5_isBelow l g (Int32.toInt64 x0) 15) k_X5_isBelow (hA.2.1 _ (List.mem_of_getElem? (i := 2) rfl)) (by decide) (sm_ps hA hS) rfl hl.1 rfl (Nat.le_of_ble_eq_true rfl) dX4_resultKind_4) ?_
  refine lv_if_eq (tgt := 16) hx hb dX4_resultKind_7 (by decide) (fun c7 => ?_) (fun c7 => ?_)
  · have hv := hv.trans (if_pos c7)
    refine lv_iload_n hx hb dX4_resultKind_16 rfl (lv_at hl 0 rfl) ?_
    refine lv_bipush (v := 17) hx hb dX4_resultKind_17 (by decide) ?_
    refine lv_icmp_ne (tgt := 33) hx hb dX4_resultKind_19 (by decide) (fun c19 => ?_) (fun c19 => ?_)
    · have hv := hv.trans (if_neg c19)
      refine lv_iload_n hx hb dX4_resultKind_33 rfl (lv_at hl 0 rfl) ?_
      refine lv_bipush (v := 18) hx hb dX4_resultKind_34 (by decide) ?_
      refine lv_icmp_ne (tgt := 49) hx hb dX4_resultKind_36 (by decide) (fun c36 => ?_) (fun c36 => ?_)
      · have hv := hv.trans (if_neg c36)
        refine lv_iload_n hx hb dX4_resultKind_49 rfl (lv_at hl 1 rfl) ?_
        exact sm_ri hx hb hr hlocks hv dX4_resultKind_50
      · have hv := hv.trans (if_pos c36)
        refine lv_iload_n hx hb dX4_resultKind_39 rfl (lv_at hl 1 rfl) ?_
        refine lv_if_ne (tgt := 47) hx hb dX4_resultKind_40 (by decide) (fun c40 => ?_) (fun c40 => ?_)
        · have hv := hv.trans (if_neg c40)
          refine lv_iconst (v := 3) hx hb dX4_resultKind_47 (by decide) ?_
          exact sm_ri hx hb hr hlocks hv dX4_resultKind_48
        · have hv := hv.trans (if_pos c40)
          refine lv_iconst (v := 2) hx hb dX4_resultKind_43 (by decide) ?_
          refine lv_goto (tgt := 48) hx hb dX4_resultKind_44 (by decide) ?_
          exact sm_ri hx hb hr hlocks hv dX4_resultKind_48
    · have hv := hv.trans (if_pos c19)
      refine lv_iload_n hx hb dX4_resultKind_22 rfl (lv_at hl 1 rfl) ?_
      refine lv_iconst (v := 2) hx hb dX4_resultKind_23 (by decide) ?_
      refine lv_icmp_ne (tgt := 31) hx hb dX4_resultKind_24 (by decide) (fun c24 => ?_) (fun c24 => ?_)
      · have hv := hv.trans (if_neg c24)
        refine lv_iconst (v := 1) hx hb dX4_resultKind_31 (by decide) ?_
        exact sm_ri hx hb hr hlocks hv dX4_resultKind_32
      · have hv := hv.trans (if_pos c24)
        refine lv_iconst (v := 0) hx hb dX4_resultKind_27 (by decide) ?_
        refine lv_goto (tgt := 32) hx hb dX4_resultKind_28 (by decide) ?_
        exact sm_ri hx hb hr hlocks hv dX4_resultKind_32
  · have hv := hv.trans (if_neg c7)
    refine va_gets hx hb (hA.1.2.2.2.2.1) hS hown (hts _ w_196) (fun _ h => h) dX4_resultKind_10 ?_
    refine lv_iload_n hx hb dX4_resultKind_13 rfl (lv_at hl 0 rfl) ?_
    refine va_ti hx hb (hA.1.2.2.2.2.2) hS (bel_in c7 (by decide)) rfl dX4_resultKind_14 ?_
    exact sm_ri hx hb hr hlocks hv dX4_resultKind_15
def f_X4_nearestInt (x0 : Int64) : Int64 := sm_maxL ((-2147483648)) (sm_minL 2147483647 x0)
set_option maxRecDepth 100000 in
set_option maxHeartbeats 4000000 in
theorem c_X4_nearestInt (l : Launch) (g : sm_G) (x0 : Int64)   : Met l yX4_nearestInt (sm_ws yX4_nearestInt cX4_nearestInt 2 (some .long)) (rmd 1) (va_Pc [.long x0] (sm_P0 g)) (vp_Sl (fun r => r = f_X4_nearestInt x0)) 0 0 (fun _ => False) := by
  generalize hv : f_X4_nearestInt x0 = F
  replace hv := hv.symm
  refine sm_mP (by decide) (Nat.le_of_ble_eq_true rfl) (fun p e s m args below meth c C hA ls hl => ?_)
  obtain ⟨hC, hr, hlocks⟩ := C
  have hx := hC.1
  have hb := hC.2.1
  have hts := hC.2.2.2.2
  have hown : s.vm.findClass RX4 = some m.cls := hC.2.2.2.1
  have hS : va_S (fun _ => False) s.heap s.heap [] := va_S.rf
  have hl : lv_has ls 2 [(0, .long x0)] := hl
  refine lv_ldc2 hx hb hown (hts _ w_268) dX4_nearestInt_0 ?_
  refine lv_ldc2 hx hb hown (hts _ w_269) dX4_nearestInt_3 ?_
  refine lv_lload_n hx hb dX4_nearestInt_6 rfl (lv_at hl 0 rfl) ?_
  refine va_mmin_long hx hb (hC.2.2.1.trans hl.1.symm) hown (hts _ w_270) (hts _ w_271) (hts _ w_62) (hts _ w_272) (Nat.le_of_ble_eq_true rfl) (Nat.le_of_ble_eq_true rfl) (Nat.le_refl _) (Nat.le_refl _) dX4_nearestInt_7 ?_
  refine va_mmax_long hx hb (hC.2.2.1.trans hl.1.symm) hown (hts _ w_273) (hts _ w_274) (hts _ w_62) (hts _ w_275) (Nat.le_of_ble_eq_true rfl) (Nat.le_of_ble_eq_true rfl) (Nat.le_refl _) (Nat.le_refl _) dX4_nearestInt_10 ?_
  exact sm_rl hx hb hr hlocks hv dX4_nearestInt_13
def f_X4_result (x0 : Int32) (x1 : Int32) (x2 : Int64) : Int64 := if x0 = 0 then x2 else if x0 = 1 then (f_X1_ofWhole 0 x2) else if x0 = 2 then (f_X1_ofWhole 1 x2) else if x0 = 3 then (Int32.toInt64 (Int64.toInt32 x2)) else if x0 = 4 then (f_X1_ofWhole 0 x2) else if x0 = 5 then (f_X1_ofWhole 1 x2) else if x0 = 6 then (f_X4_nearestInt (f_X1_truncated 0 x2)) else if x0 = 7 then (f_X1_truncated 0 x2) else if x0 = 8 then (f_X1_ofOther 1 0 x2) else if x0 = 9 then (f_X4_nearestInt (f_X1_truncated 1 x2)) else if x0 = 10 then (f_X1_truncated 1 x2) else if x0 = 11 then (f_X1_ofOther 0 1 x2) else if x0 = 12 then (Int32.toInt64 (Int8.toInt32 (Int32.toInt8 (Int64.toInt32 x2)))) else if x0 = 13 then (Int32.toInt64 (UInt32.toInt32 (Int32.toUInt32 (Int64.toInt32 x2) % 65536))) else if x0 = 14 then (Int32.toInt64 (Int16.toInt32 (Int32.toInt16 (Int64.toInt32 x2)))) else if x0 = 15 then (if (f_X5_isFloating x1) = 0 then (f_X5_held x1 (-x2)) else (f_X1_negated (f_X5_formatOf x1) x2)) else if x0 = 16 then (if (f_X5_isFloating x1) = 0 then (f_X5_held x1 (sm_absL x2)) else (f_X1_magnitude (f_X5_formatOf x1) x2)) else if x0 = 17 then x2 else (f_X5_held (f_X4_resultKind x0 x1) x2)
set_option maxRecDepth 100000 in
set_option maxHeartbeats 4000000 in
theorem c_X4_result (l : Launch) (g : sm_G) (x0 : Int32) (x1 : Int32) (x2 : Int64)   : Met l yX4_result (sm_ws yX4_result cX4_result 4 (some .long)) (rmd 5) (va_Pc [.int x0, .int x1, .long x2] (sm_P0 g)) (vp_Sl (fun r => r = f_X4_result x0 x1 x2)) 0 0 (fun _ => False) := by
  generalize hv : f_X4_result x0 x1 x2 = F
  replace hv := hv.symm
  refine sm_mP (by decide) (Nat.le_of_ble_eq_true rfl) (fun p e s m args below meth c C hA ls hl => ?_)
  obtain ⟨hC, hr, hlocks⟩ := C
  have hx := hC.1
  have hb := hC.2.1
  have hts := hC.2.2.2.2
  have hown : s.vm.findClass RX4 = some m.cls := hC.2.2.2.1
  have hS : va_S (fun _ => False) s.heap s.heap [] := va_S.rf
  have hl : lv_has ls 4 [(0, .int x0), (1, .int x1), (2, .long x2)] := hl
  refine lv_iload_n hx hb dX4_result_0 rfl (lv_at hl 0 rfl) ?_
  by_cases c1_0 : x0 = 0
  · have hv := hv.trans (if_pos c1_0)
    refine lv_tableIn (tgt := 88) hx hb dX4_result_1 (by rw [c1_0]; decide) (by rw [c1_0]; decide) (by rw [c1_0]; rfl) (by decide) ?_
    refine lv_lload_n hx hb dX4_result_88 rfl (lv_at hl 2 rfl) ?_
    exact sm_rl hx hb hr hlocks hv dX4_result_89
  · have hv := hv.trans (if_neg c1_0)
    by_cases c1_1 : x0 = 1
    · have hv := hv.trans (if_pos c1_1)
      refine lv_tableIn (tgt := 94) hx hb dX4_result_1 (by rw [c1_1]; decide) (by rw [c1_1]; decide) (by rw [c1_1]; rfl) (by decide) ?_
      refine va_gets hx hb (hA.1.1.1) hS hown (hts _ w_201) (fun _ h => h) dX4_result_94 ?_
      refine lv_lload_n hx hb dX4_result_97 rfl (lv_at hl 2 rfl) ?_
      refine sm_cl (sm_runV (rest := []) hC (c_X1_ofWhole l g 0 x2 (by decide)) k_X1_ofWhole w_202 (by decide) (sm_pf hA hS (by decide)) rfl hl.1 rfl (Nat.le_of_ble_eq_true rfl) dX4_result_98) ?_
      exact sm_rl hx hb hr hlocks hv dX4_result_101
    · have hv := hv.trans (if_neg c1_1)
      by_cases c1_2 : x0 = 2
      · have hv := hv.trans (if_pos c1_2)
        refine lv_tableIn (tgt := 102) hx hb dX4_result_1 (by rw [c1_2]; decide) (by rw [c1_2]; decide) (by rw [c1_2]; rfl) (by decide) ?_
        refine va_gets hx hb (hA.1.1.2) hS hown (hts _ w_232) (fun _ h => h) dX4_result_102 ?_
        refine lv_lload_n hx hb dX4_result_105 rfl (lv_at hl 2 rfl) ?_
        refine sm_cl (sm_runV (rest := []) hC (c_X1_ofWhole l g 1 x2 (by decide)) k_X1_ofWhole w_202 (by decide) (sm_pf hA hS (by decide)) rfl hl.1 rfl (Nat.le_of_ble_eq_true rfl) dX4_result_106) ?_
        exact sm_rl hx hb hr hlocks hv dX4_result_109
      · have hv := hv.trans (if_neg c1_2)
        by_cases c1_3 : x0 = 3
        · have hv := hv.trans (if_pos c1_3)
          refine lv_tableIn (tgt := 90) hx hb dX4_result_1 (by rw [c1_3]; decide) (by rw [c1_3]; decide) (by rw [c1_3]; rfl) (by decide) ?_
          refine lv_lload_n hx hb dX4_result_90 rfl (lv_at hl 2 rfl) ?_
          refine lv_l2i hx hb dX4_result_91 rfl ?_
          refine lv_i2l hx hb dX4_result_92 rfl ?_
          exact sm_rl hx hb hr hlocks hv dX4_result_93
        · have hv := hv.trans (if_neg c1_3)
          by_cases c1_4 : x0 = 4
          · have hv := hv.trans (if_pos c1_4)
            refine lv_tableIn (tgt := 94) hx hb dX4_result_1 (by rw [c1_4]; decide) (by rw [c1_4]; decide) (by rw [c1_4]; rfl) (by decide) ?_
            refine va_gets hx hb (hA.1.1.1) hS hown (hts _ w_201) (fun _ h => h) dX4_result_94 ?_
            refine lv_lload_n hx hb dX4_result_97 rfl (lv_at hl 2 rfl) ?_
            refine sm_cl (sm_runV (rest := []) hC (c_X1_ofWhole l g 0 x2 (by decide)) k_X1_ofWhole w_202 (by decide) (sm_pf hA hS (by decide)) rfl hl.1 rfl (Nat.le_of_ble_eq_true rfl) dX4_result_98) ?_
            exact sm_rl hx hb hr hlocks hv dX4_result_101
          · have hv := hv.trans (if_neg c1_4)
            by_cases c1_5 : x0 = 5
            · have hv := hv.trans (if_pos c1_5)
              refine lv_tableIn (tgt := 102) hx hb dX4_result_1 (by rw [c1_5]; decide) (by rw [c1_5]; decide) (by rw [c1_5]; rfl) (by decide) ?_
              refine va_gets hx hb (hA.1.1.2) hS hown (hts _ w_232) (fun _ h => h) dX4_result_102 ?_
              refine lv_lload_n hx hb dX4_result_105 rfl (lv_at hl 2 rfl) ?_
              refine sm_cl (sm_runV (rest := []) hC (c_X1_ofWhole l g 1 x2 (by decide)) k_X1_ofWhole w_202 (by decide) (sm_pf hA hS (by decide)) rfl hl.1 rfl (Nat.le_of_ble_eq_true rfl) dX4_result_106) ?_
              exact sm_rl hx hb hr hlocks hv dX4_result_109
            · have hv := hv.trans (if_neg c1_5)
              by_cases c1_6 : x0 = 6
              · have hv := hv.trans (if_pos c1_6)
                refine lv_tableIn (tgt := 110) hx hb dX4_result_1 (by rw [c1_6]; decide) (by rw [c1_6]; decide) (by rw [c1_6]; rfl) (by decide) ?_
                refine va_gets hx hb (hA.1.1.1) hS hown (hts _ w_201) (fun _ h => h) dX4_result_110 ?_
                refine lv_lload_n hx hb dX4_result_113 rfl (lv_at hl 2 rfl) ?_
                refine sm_cl (sm_runV (rest := []) hC (c_X1_truncated l g 0 x2 (by decide)) k_X1_truncated w_233 (by decide) (sm_pf hA hS (by decide)) rfl hl.1 rfl (Nat.le_of_ble_eq_true rfl) dX4_result_114) ?_
                refine sm_cl (sm_runS (rest := []) hC (c_X4_nearestInt l g (f_X1_truncated 0 x2)) k_X4_nearestInt w_265 (by decide) (sm_ps hA hS) rfl hl.1 rfl (Nat.le_of_ble_eq_true rfl) dX4_result_117) ?_
                exact sm_rl hx hb hr hlocks hv dX4_result_120
              · have hv := hv.trans (if_neg c1_6)
                by_cases c1_7 : x0 = 7
                · have hv := hv.trans (if_pos c1_7)
                  refine lv_tableIn (tgt := 121) hx hb dX4_result_1 (by rw [c1_7]; decide) (by rw [c1_7]; decide) (by rw [c1_7]; rfl) (by decide) ?_
                  refine va_gets hx hb (hA.1.1.1) hS hown (hts _ w_201) (fun _ h => h) dX4_result_121 ?_
                  refine lv_lload_n hx hb dX4_result_124 rfl (lv_at hl 2 rfl) ?_
                  refine sm_cl (sm_runV (rest := []) hC (c_X1_truncated l g 0 x2 (by decide)) k_X1_truncated w_233 (by decide) (sm_pf hA hS (by decide)) rfl hl.1 rfl (Nat.le_of_ble_eq_true rfl) dX4_result_125) ?_
                  exact sm_rl hx hb hr hlocks hv dX4_result_128
                · have hv := hv.trans (if_neg c1_7)
                  by_cases c1_8 : x0 = 8
                  · have hv := hv.trans (if_pos c1_8)
                    refine lv_tableIn (tgt := 129) hx hb dX4_result_1 (by rw [c1_8]; decide) (by rw [c1_8]; decide) (by rw [c1_8]; rfl) (by decide) ?_
                    refine va_gets hx hb (hA.1.1.2) hS hown (hts _ w_232) (fun _ h => h) dX4_result_129 ?_
                    refine va_gets hx hb (hA.1.1.1) hS hown (hts _ w_201) (fun _ h => h) dX4_result_132 ?_
                    refine lv_lload_n hx hb dX4_result_135 rfl (lv_at hl 2 rfl) ?_
                    refine sm_cl (sm_runV (rest := []) hC (c_X1_ofOther l g 1 0 x2 (by decide) (by decide)) k_X1_ofOther w_276 (by decide) (sm_pf hA hS (by decide)) rfl hl.1 rfl (Nat.le_of_ble_eq_true rfl) dX4_result_136) ?_
                    exact sm_rl hx hb hr hlocks hv dX4_result_139
                  · have hv := hv.trans (if_neg c1_8)
                    by_cases c1_9 : x0 = 9
                    · have hv := hv.trans (if_pos c1_9)
                      refine lv_tableIn (tgt := 140) hx hb dX4_result_1 (by rw [c1_9]; decide) (by rw [c1_9]; decide) (by rw [c1_9]; rfl) (by decide) ?_
                      refine va_gets hx hb (hA.1.1.2) hS hown (hts _ w_232) (fun _ h => h) dX4_result_140 ?_
                      refine lv_lload_n hx hb dX4_result_143 rfl (lv_at hl 2 rfl) ?_
                      refine sm_cl (sm_runV (rest := []) hC (c_X1_truncated l g 1 x2 (by decide)) k_X1_truncated w_233 (by decide) (sm_pf hA hS (by decide)) rfl hl.1 rfl (Nat.le_of_ble_eq_true rfl) dX4_result_144) ?_
                      refine sm_cl (sm_runS (rest := []) hC (c_X4_nearestInt l g (f_X1_truncated 1 x2)) k_X4_nearestInt w_265 (by decide) (sm_ps hA hS) rfl hl.1 rfl (Nat.le_of_ble_eq_true rfl) dX4_result_147) ?_
                      exact sm_rl hx hb hr hlocks hv dX4_result_150
                    · have hv := hv.trans (if_neg c1_9)
                      by_cases c1_10 : x0 = 10
                      · have hv := hv.trans (if_pos c1_10)
                        refine lv_tableIn (tgt := 151) hx hb dX4_result_1 (by rw [c1_10]; decide) (by rw [c1_10]; decide) (by rw [c1_10]; rfl) (by decide) ?_
                        refine va_gets hx hb (hA.1.1.2) hS hown (hts _ w_232) (fun _ h => h) dX4_result_151 ?_
                        refine lv_lload_n hx hb dX4_result_154 rfl (lv_at hl 2 rfl) ?_
                        refine sm_cl (sm_runV (rest := []) hC (c_X1_truncated l g 1 x2 (by decide)) k_X1_truncated w_233 (by decide) (sm_pf hA hS (by decide)) rfl hl.1 rfl (Nat.le_of_ble_eq_true rfl) dX4_result_155) ?_
                        exact sm_rl hx hb hr hlocks hv dX4_result_158
                      · have hv := hv.trans (if_neg c1_10)
                        by_cases c1_11 : x0 = 11
                        · have hv := hv.trans (if_pos c1_11)
                          refine lv_tableIn (tgt := 159) hx hb dX4_result_1 (by rw [c1_11]; decide) (by rw [c1_11]; decide) (by rw [c1_11]; rfl) (by decide) ?_
                          refine va_gets hx hb (hA.1.1.1) hS hown (hts _ w_201) (fun _ h => h) dX4_result_159 ?_
                          refine va_gets hx hb (hA.1.1.2) hS hown (hts _ w_232) (fun _ h => h) dX4_result_162 ?_
                          refine lv_lload_n hx hb dX4_result_165 rfl (lv_at hl 2 rfl) ?_
                          refine sm_cl (sm_runV (rest := []) hC (c_X1_ofOther l g 0 1 x2 (by decide) (by decide)) k_X1_ofOther w_276 (by decide) (sm_pf hA hS (by decide)) rfl hl.1 rfl (Nat.le_of_ble_eq_true rfl) dX4_result_166) ?_
                          exact sm_rl hx hb hr hlocks hv dX4_result_169
                        · have hv := hv.trans (if_neg c1_11)
                          by_cases c1_12 : x0 = 12
                          · have hv := hv.trans (if_pos c1_12)
                            refine lv_tableIn (tgt := 170) hx hb dX4_result_1 (by rw [c1_12]; decide) (by rw [c1_12]; decide) (by rw [c1_12]; rfl) (by decide) ?_
                            refine lv_lload_n hx hb dX4_result_170 rfl (lv_at hl 2 rfl) ?_
                            refine lv_l2i hx hb dX4_result_171 rfl ?_
                            refine lv_i2b hx hb dX4_result_172 rfl ?_
                            refine lv_i2l hx hb dX4_result_173 rfl ?_
                            exact sm_rl hx hb hr hlocks hv dX4_result_174
                          · have hv := hv.trans (if_neg c1_12)
                            by_cases c1_13 : x0 = 13
                            · have hv := hv.trans (if_pos c1_13)
                              refine lv_tableIn (tgt := 175) hx hb dX4_result_1 (by rw [c1_13]; decide) (by rw [c1_13]; decide) (by rw [c1_13]; rfl) (by decide) ?_
                              refine lv_lload_n hx hb dX4_result_175 rfl (lv_at hl 2 rfl) ?_
                              refine lv_l2i hx hb dX4_result_176 rfl ?_
                              refine lv_i2c hx hb dX4_result_177 rfl ?_
                              refine lv_i2l hx hb dX4_result_178 rfl ?_
                              exact sm_rl hx hb hr hlocks hv dX4_result_179
                            · have hv := hv.trans (if_neg c1_13)
                              by_cases c1_14 : x0 = 14
                              · have hv := hv.trans (if_pos c1_14)
                                refine lv_tableIn (tgt := 180) hx hb dX4_result_1 (by rw [c1_14]; decide) (by rw [c1_14]; decide) (by rw [c1_14]; rfl) (by decide) ?_
                                refine lv_lload_n hx hb dX4_result_180 rfl (lv_at hl 2 rfl) ?_
                                refine lv_l2i hx hb dX4_result_181 rfl ?_
                                refine lv_i2s hx hb dX4_result_182 rfl ?_
                                refine lv_i2l hx hb dX4_result_183 rfl ?_
                                exact sm_rl hx hb hr hlocks hv dX4_result_184
                              · have hv := hv.trans (if_neg c1_14)
                                by_cases c1_15 : x0 = 15
                                · have hv := hv.trans (if_pos c1_15)
                                  refine lv_tableIn (tgt := 185) hx hb dX4_result_1 (by rw [c1_15]; decide) (by rw [c1_15]; decide) (by rw [c1_15]; rfl) (by decide) ?_
                                  refine lv_iload_n hx hb dX4_result_185 rfl (lv_at hl 1 rfl) ?_
                                  refine sm_ci (sm_runSN (rest := []) hC (c_X5_isFloating l g x1) k_X5_isFloating (hA.2.1 _ (List.mem_of_getElem? (i := 3) rfl)) (by decide) (sm_ps hA hS) rfl hl.1 rfl (Nat.le_of_ble_eq_true rfl) dX4_result_186) ?_
                                  refine lv_if_eq (tgt := 203) hx hb dX4_result_189 (by decide) (fun c189 => ?_) (fun c189 => ?_)
                                  · have hv := hv.trans (if_pos c189)
                                    refine lv_iload_n hx hb dX4_result_203 rfl (lv_at hl 1 rfl) ?_
                                    refine lv_lload_n hx hb dX4_result_204 rfl (lv_at hl 2 rfl) ?_
                                    refine lv_lneg hx hb dX4_result_205 ?_
                                    refine sm_cl (sm_runSN (rest := []) hC (c_X5_held l g x1 (-x2)) k_X5_held (hA.2.1 _ (List.mem_of_getElem? (i := 5) rfl)) (by decide) (sm_ps hA hS) rfl hl.1 rfl (Nat.le_of_ble_eq_true rfl) dX4_result_206) ?_
                                    exact sm_rl hx hb hr hlocks hv dX4_result_209
                                  · have hv := hv.trans (if_neg c189)
                                    refine lv_iload_n hx hb dX4_result_192 rfl (lv_at hl 1 rfl) ?_
                                    refine sm_cr (sm_runSN (rest := []) hC (c_X5_formatOf l g x1) k_X5_formatOf (hA.2.1 _ (List.mem_of_getElem? (i := 4) rfl)) (by decide) (sm_ps hA hS) rfl hl.1 rfl (Nat.le_of_ble_eq_true rfl) dX4_result_193) ?_
                                    refine lv_lload_n hx hb dX4_result_196 rfl (lv_at hl 2 rfl) ?_
                                    refine sm_cl (sm_runV (rest := []) hC (c_X1_negated l g (f_X5_formatOf x1) x2 (formatOf_lt _)) k_X1_negated w_283 (by decide) (sm_pf hA hS (formatOf_lt _)) rfl hl.1 rfl (Nat.le_of_ble_eq_true rfl) dX4_result_197) ?_
                                    refine lv_goto (tgt := 209) hx hb dX4_result_200 (by decide) ?_
                                    exact sm_rl hx hb hr hlocks hv dX4_result_209
                                · have hv := hv.trans (if_neg c1_15)
                                  by_cases c1_16 : x0 = 16
                                  · have hv := hv.trans (if_pos c1_16)
                                    refine lv_tableIn (tgt := 210) hx hb dX4_result_1 (by rw [c1_16]; decide) (by rw [c1_16]; decide) (by rw [c1_16]; rfl) (by decide) ?_
                                    refine lv_iload_n hx hb dX4_result_210 rfl (lv_at hl 1 rfl) ?_
                                    refine sm_ci (sm_runSN (rest := []) hC (c_X5_isFloating l g x1) k_X5_isFloating (hA.2.1 _ (List.mem_of_getElem? (i := 3) rfl)) (by decide) (sm_ps hA hS) rfl hl.1 rfl (Nat.le_of_ble_eq_true rfl) dX4_result_211) ?_
                                    refine lv_if_eq (tgt := 228) hx hb dX4_result_214 (by decide) (fun c214 => ?_) (fun c214 => ?_)
                                    · have hv := hv.trans (if_pos c214)
                                      refine lv_iload_n hx hb dX4_result_228 rfl (lv_at hl 1 rfl) ?_
                                      refine lv_lload_n hx hb dX4_result_229 rfl (lv_at hl 2 rfl) ?_
                                      refine va_mabs_long hx hb (hC.2.2.1.trans hl.1.symm) hown (hts _ w_289) (hts _ w_230) (hts _ w_62) (hts _ w_231) (Nat.le_of_ble_eq_true rfl) (Nat.le_of_ble_eq_true rfl) (Nat.le_refl _) (Nat.le_refl _) dX4_result_230 ?_
                                      refine sm_cl (sm_runSN (rest := []) hC (c_X5_held l g x1 (sm_absL x2)) k_X5_held (hA.2.1 _ (List.mem_of_getElem? (i := 5) rfl)) (by decide) (sm_ps hA hS) rfl hl.1 rfl (Nat.le_of_ble_eq_true rfl) dX4_result_233) ?_
                                      exact sm_rl hx hb hr hlocks hv dX4_result_236
                                    · have hv := hv.trans (if_neg c214)
                                      refine lv_iload_n hx hb dX4_result_217 rfl (lv_at hl 1 rfl) ?_
                                      refine sm_cr (sm_runSN (rest := []) hC (c_X5_formatOf l g x1) k_X5_formatOf (hA.2.1 _ (List.mem_of_getElem? (i := 4) rfl)) (by decide) (sm_ps hA hS) rfl hl.1 rfl (Nat.le_of_ble_eq_true rfl) dX4_result_218) ?_
                                      refine lv_lload_n hx hb dX4_result_221 rfl (lv_at hl 2 rfl) ?_
                                      refine sm_cl (sm_runV (rest := []) hC (c_X1_magnitude l g (f_X5_formatOf x1) x2 (formatOf_lt _)) k_X1_magnitude w_288 (by decide) (sm_pf hA hS (formatOf_lt _)) rfl hl.1 rfl (Nat.le_of_ble_eq_true rfl) dX4_result_222) ?_
                                      refine lv_goto (tgt := 236) hx hb dX4_result_225 (by decide) ?_
                                      exact sm_rl hx hb hr hlocks hv dX4_result_236
                                  · have hv := hv.trans (if_neg c1_16)
                                    by_cases c1_17 : x0 = 17
                                    · have hv := hv.trans (if_pos c1_17)
                                      refine lv_tableIn (tgt := 88) hx hb dX4_result_1 (by rw [c1_17]; decide) (by rw [c1_17]; decide) (by rw [c1_17]; rfl) (by decide) ?_
                                      refine lv_lload_n hx hb dX4_result_88 rfl (lv_at hl 2 rfl) ?_
                                      exact sm_rl hx hb hr hlocks hv dX4_result_89
                                    · have hv := hv.trans (if_neg c1_17)
                                      refine lv_tableOut (tgt := 237) hx hb dX4_result_1 (by have := lv_neT c1_0 (show (0 : Int32).toInt = 0 from rfl); have := lv_neT c1_1 (show (1 : Int32).toInt = 1 from rfl); have := lv_neT c1_2 (show (2 : Int32).toInt = 2 from rfl); have := lv_neT c1_3 (show (3 : Int32).toInt = 3 from rfl); have := lv_neT c1_4 (show (4 : Int32).toInt = 4 from rfl); have := lv_neT c1_5 (show (5 : Int32).toInt = 5 from rfl); have := lv_neT c1_6 (show (6 : Int32).toInt = 6 from rfl); have := lv_neT c1_7 (show (7 : Int32).toInt = 7 from rfl); have := lv_neT c1_8 (show (8 : Int32).toInt = 8 from rfl); have := lv_neT c1_9 (show (9 : Int32).toInt = 9 from rfl); have := lv_neT c1_10 (show (10 : Int32).toInt = 10 from rfl); have := lv_neT c1_11 (show (11 : Int32).toInt = 11 from rfl); have := lv_neT c1_12 (show (12 : Int32).toInt = 12 from rfl); have := lv_neT c1_13 (show (13 : Int32).toInt = 13 from rfl); have := lv_neT c1_14 (show (14 : Int32).toInt = 14 from rfl); have := lv_neT c1_15 (show (15 : Int32).toInt = 15 from rfl); have := lv_neT c1_16 (show (16 : Int32).toInt = 16 from rfl); have := lv_neT c1_17 (show (17 : Int32).toInt = 17 from rfl); omega) (by decide) ?_
                                      refine lv_iload_n hx hb dX4_result_237 rfl (lv_at hl 0 rfl) ?_
                                      refine lv_iload_n hx hb dX4_result_238 rfl (lv_at hl 1 rfl) ?_
                                      refine sm_ci (sm_runS (rest := []) hC (c_X4_resultKind l g x0 x1) k_X4_resultKind w_290 (by decide) (sm_ps hA hS) rfl hl.1 rfl (Nat.le_of_ble_eq_true rfl) dX4_result_239) ?_
                                      refine lv_lload_n hx hb dX4_result_242 rfl (lv_at hl 2 rfl) ?_
                                      refine sm_cl (sm_runSN (rest := []) hC (c_X5_held l g (f_X4_resultKind x0 x1) x2) k_X5_held (hA.2.1 _ (List.mem_of_getElem? (i := 5) rfl)) (by decide) (sm_ps hA hS) rfl hl.1 rfl (Nat.le_of_ble_eq_true rfl) dX4_result_243) ?_
                                      exact sm_rl hx hb hr hlocks hv dX4_result_246
def f_X2_startOf (x0 : Int32) : Int32 := (x0 &&& 15) * 3
theorem startOf_in (n : Int32) : 0 ≤ (f_X2_startOf n).toInt ∧ (f_X2_startOf n).toInt ≤ 45 := by
  unfold f_X2_startOf
  obtain ⟨j, hj, e⟩ := pk_andE n (m := 15) 4 (by decide)
  rw [e, show (3 : Int32) = nI 3 from rfl, pk_mul, nI_toInt (by omega)]
  omega
theorem startOf_in0 (n : Int32) : vp_in (f_X2_startOf n) 48 := by
  have := startOf_in n
  rw [vp_in_iff]
  omega
theorem startOf_inK (n k : Int32) (h0 : 0 ≤ k.toInt) (h : k.toInt ≤ 2) : vp_in (f_X2_startOf n + k) 48 := by
  have := startOf_in n
  rw [vp_in_iff, Int32.toInt_add, Int.bmod_eq_of_le (by omega) (by omega)]
  omega
theorem startOf_in1 (n : Int32) : vp_in (f_X2_startOf n + 1) 48 := startOf_inK n 1 (by decide) (by decide)
theorem startOf_in2 (n : Int32) : vp_in (f_X2_startOf n + 2) 48 := startOf_inK n 2 (by decide) (by decide)
theorem startOf_inW (n : Int32) {k : Int32} (h : vp_in k 3) : vp_in (f_X2_startOf n + k) 48 := by
  rw [vp_in_iff] at h
  exact startOf_inK n k (by omega) (by omega)
set_option maxRecDepth 100000 in
set_option maxHeartbeats 4000000 in
theorem c_X2_startOf (l : Launch) (g : sm_G) (x0 : Int32)   : Met l yX2_startOf (sm_ws yX2_startOf cX2_startOf 1 (some .int)) (rmd 0) (va_Pc [.int x0] (sm_P0 g)) (vp_Si (fun r => r = f_X2_startOf x0)) 0 0 (fun _ => False) := by
  generalize hv : f_X2_startOf x0 = F
  replace hv := hv.symm
  refine sm_mP (by decide) (Nat.le_of_ble_eq_true rfl) (fun p e s m args below meth c C hA ls hl => ?_)
  obtain ⟨hC, hr, hlocks⟩ := C
  have hx := hC.1
  have hb := hC.2.1
  have hts := hC.2.2.2.2
  have hown : s.vm.findClass RX2 = some m.cls := hC.2.2.2.1
  have hS : va_S (fun _ => False) s.heap s.heap [] := va_S.rf
  have hl : lv_has ls 1 [(0, .int x0)] := hl
  refine lv_iload_n hx hb dX2_startOf_0 rfl (lv_at hl 0 rfl) ?_
  refine lv_bipush (v := 15) hx hb dX2_startOf_1 (by decide) ?_
  refine lv_iand hx hb dX2_startOf_3 ?_
  refine lv_iconst (v := 3) hx hb dX2_startOf_4 (by decide) ?_
  refine lv_imul hx hb dX2_startOf_5 ?_
  exact sm_ri hx hb hr hlocks hv dX2_startOf_6
