def sm_max (x y : Int32) : Int32 := if x < y then y else x
def sm_min (x y : Int32) : Int32 := if y < x then y else x
def sm_maxL (x y : Int64) : Int64 := if y < x then x else y
def sm_minL (x y : Int64) : Int64 := if y < x then y else x
def sm_absL (x : Int64) : Int64 := if 0 < x then x else -x
def f_J13_compare_74951 (x0 : Int64) (x2 : Int64) : Int32 := if x2 ≤ x0 then (if x0 = x2 then 0 else 1) else ((-1))
set_option maxRecDepth 100000 in
set_option maxHeartbeats 4000000 in
theorem c_J13_compare_74951 (l : Launch) (g : sm_G) (x0 : Int64) (x2 : Int64)   : Met l yJ13_compare_74951 (sm_ws yJ13_compare_74951 cJ13_compare_74951 4 (some .int)) (rmd 0) (va_Pc [.long x0, .long x2] (sm_P0 g)) (vp_Si (fun r => r = f_J13_compare_74951 x0 x2)) 0 0 (fun _ => False) := by
  generalize hv : f_J13_compare_74951 x0 x2 = F
  replace hv := hv.symm
  refine sm_mP (by decide) (Nat.le_of_ble_eq_true rfl) (fun p e s m args below meth c C hA ls hl => ?_)
  obtain ⟨hC, hr, hlocks⟩ := C
  have hx := hC.1
  have hb := hC.2.1
  have hts := hC.2.2.2.2
  have hown : s.vm.findClass RJ13 = some m.cls := hC.2.2.2.1
  have hS : va_S (fun _ => False) s.heap s.heap [] := va_S.rf
  have hl : lv_has ls 4 [(0, .long x0), (2, .long x2)] := hl
  refine lv_lload_n hx hb dJ13_compare_74951_0 rfl (lv_at hl 0 rfl) ?_
  refine lv_lload_n hx hb dJ13_compare_74951_1 rfl (lv_at hl 1 rfl) ?_
  refine lc_ge (tgt := 10) hx hb dJ13_compare_74951_2 dJ13_compare_74951_3 (by decide) (fun c2 => ?_) (fun c2 => ?_)
  · have hv := hv.trans (if_pos c2)
    refine lv_lload_n hx hb dJ13_compare_74951_10 rfl (lv_at hl 0 rfl) ?_
    refine lv_lload_n hx hb dJ13_compare_74951_11 rfl (lv_at hl 1 rfl) ?_
    refine lc_ne (tgt := 20) hx hb dJ13_compare_74951_12 dJ13_compare_74951_13 (by decide) (fun c12 => ?_) (fun c12 => ?_)
    · have hv := hv.trans (if_neg c12)
      refine lv_iconst (v := 1) hx hb dJ13_compare_74951_20 (by decide) ?_
      exact sm_ri hx hb hr hlocks hv dJ13_compare_74951_21
    · have hv := hv.trans (if_pos c12)
      refine lv_iconst (v := 0) hx hb dJ13_compare_74951_16 (by decide) ?_
      refine lv_goto (tgt := 21) hx hb dJ13_compare_74951_17 (by decide) ?_
      exact sm_ri hx hb hr hlocks hv dJ13_compare_74951_21
  · have hv := hv.trans (if_neg c2)
    refine lv_iconst (v := -1) hx hb dJ13_compare_74951_6 (by decide) ?_
    refine lv_goto (tgt := 21) hx hb dJ13_compare_74951_7 (by decide) ?_
    exact sm_ri hx hb hr hlocks hv dJ13_compare_74951_21
def f_J6_numberOfLeadingZeros_0f7a4_73 (v0_73 : Int32) (v1_73 : Int32) : Int32 := v1_73 - (UInt32.toInt32 (Int32.toUInt32 v0_73 >>> (Int32.toUInt32 1 &&& Int32.toUInt32 31)))
def f_J6_numberOfLeadingZeros_0f7a4_61 (v0_61 : Int32) (v1_61 : Int32) : Int32 := if v0_61 < 4 then (f_J6_numberOfLeadingZeros_0f7a4_73 v0_61 v1_61) else (sm_let (v1_61 + -2) (fun y66_1 => sm_let (UInt32.toInt32 (Int32.toUInt32 v0_61 >>> (Int32.toUInt32 2 &&& Int32.toUInt32 31))) (fun y72_2 => f_J6_numberOfLeadingZeros_0f7a4_73 y72_2 y66_1)))
def f_J6_numberOfLeadingZeros_0f7a4_48 (v0_48 : Int32) (v1_48 : Int32) : Int32 := if v0_48 < 16 then (f_J6_numberOfLeadingZeros_0f7a4_61 v0_48 v1_48) else (sm_let (v1_48 + -4) (fun y54_3 => sm_let (UInt32.toInt32 (Int32.toUInt32 v0_48 >>> (Int32.toUInt32 4 &&& Int32.toUInt32 31))) (fun y60_4 => f_J6_numberOfLeadingZeros_0f7a4_61 y60_4 y54_3)))
def f_J6_numberOfLeadingZeros_0f7a4_33 (v0_33 : Int32) (v1_33 : Int32) : Int32 := if v0_33 < 256 then (f_J6_numberOfLeadingZeros_0f7a4_48 v0_33 v1_33) else (sm_let (v1_33 + -8) (fun y40_5 => sm_let (UInt32.toInt32 (Int32.toUInt32 v0_33 >>> (Int32.toUInt32 8 &&& Int32.toUInt32 31))) (fun y47_6 => f_J6_numberOfLeadingZeros_0f7a4_48 y47_6 y40_5)))
def f_J6_numberOfLeadingZeros_0f7a4 (x0 : Int32) : Int32 := if 0 < x0 then (if x0 < 65536 then (f_J6_numberOfLeadingZeros_0f7a4_33 x0 31) else (sm_let (31 + -16) (fun y25_7 => sm_let (UInt32.toInt32 (Int32.toUInt32 x0 >>> (Int32.toUInt32 16 &&& Int32.toUInt32 31))) (fun y32_8 => f_J6_numberOfLeadingZeros_0f7a4_33 y32_8 y25_7)))) else (if x0 = 0 then 32 else 0)
set_option maxRecDepth 100000 in
set_option maxHeartbeats 4000000 in
theorem c_J6_numberOfLeadingZeros_0f7a4 (l : Launch) (g : sm_G) (x0 : Int32)   : Met l yJ6_numberOfLeadingZeros_0f7a4 (sm_ws yJ6_numberOfLeadingZeros_0f7a4 cJ6_numberOfLeadingZeros_0f7a4 2 (some .int)) (rmd 0) (va_Pc [.int x0] (sm_P0 g)) (vp_Si (fun r => r = f_J6_numberOfLeadingZeros_0f7a4 x0)) 0 0 (fun _ => False) := by
  generalize hv : f_J6_numberOfLeadingZeros_0f7a4 x0 = F
  replace hv := hv.symm
  refine sm_mP (by decide) (Nat.le_of_ble_eq_true rfl) (fun p e s m args below meth c C hA ls hl => ?_)
  obtain ⟨hC, hr, hlocks⟩ := C
  have hx := hC.1
  have hb := hC.2.1
  have hts := hC.2.2.2.2
  have hown : s.vm.findClass RJ6 = some m.cls := hC.2.2.2.1
  have hS : va_S (fun _ => False) s.heap s.heap [] := va_S.rf
  have hl : lv_has ls 2 [(0, .int x0)] := hl
  refine lv_iload_n hx hb dJ6_numberOfLeadingZeros_0f7a4_0 rfl (lv_at hl 0 rfl) ?_
  refine lv_if_gt (tgt := 15) hx hb dJ6_numberOfLeadingZeros_0f7a4_1 (by decide) (fun c1 => ?_) (fun c1 => ?_)
  · have hv := hv.trans (if_pos c1)
    refine lv_bipush (v := 31) hx hb dJ6_numberOfLeadingZeros_0f7a4_15 (by decide) ?_
    refine lv_istore_n (lv' := [(1, .int 31), (0, .int x0)]) hx hb dJ6_numberOfLeadingZeros_0f7a4_17 rfl hl (by decide) rfl (fun ls hl => ?_)
    refine lv_iload_n hx hb dJ6_numberOfLeadingZeros_0f7a4_18 rfl (lv_at hl 1 rfl) ?_
    refine lv_ldcw hx hb hown (hts _ w_218) dJ6_numberOfLeadingZeros_0f7a4_19 ?_
    have k_33 : ∀ (v0_33 : Int32) (v1_33 : Int32) (ls : Array Slot), lv_has ls 2 [(0, .int v0_33), (1, .int v1_33)] → F = f_J6_numberOfLeadingZeros_0f7a4_33 v0_33 v1_33 → W p l e (rmd 0) s m args below meth c s.heap [] 0 0 (MQ below (vp_Si (fun r => r = F)) args s 0 0 (fun _ => False)) (F0 m 33 ls []) := by
      intro v0_33 v1_33 ls hl hv
      refine lv_iload_n hx hb dJ6_numberOfLeadingZeros_0f7a4_33 rfl (lv_at hl 0 rfl) ?_
      refine lv_sipush (v := 256) hx hb dJ6_numberOfLeadingZeros_0f7a4_34 (by decide) ?_
      have k_48 : ∀ (v0_48 : Int32) (v1_48 : Int32) (ls : Array Slot), lv_has ls 2 [(0, .int v0_48), (1, .int v1_48)] → F = f_J6_numberOfLeadingZeros_0f7a4_48 v0_48 v1_48 → W p l e (rmd 0) s m args below meth c s.heap [] 0 0 (MQ below (vp_Si (fun r => r = F)) args s 0 0 (fun _ => False)) (F0 m 48 ls []) := by
        intro v0_48 v1_48 ls hl hv
        refine lv_iload_n hx hb dJ6_numberOfLeadingZeros_0f7a4_48 rfl (lv_at hl 0 rfl) ?_
        refine lv_bipush (v := 16) hx hb dJ6_numberOfLeadingZeros_0f7a4_49 (by decide) ?_
        have k_61 : ∀ (v0_61 : Int32) (v1_61 : Int32) (ls : Array Slot), lv_has ls 2 [(0, .int v0_61), (1, .int v1_61)] → F = f_J6_numberOfLeadingZeros_0f7a4_61 v0_61 v1_61 → W p l e (rmd 0) s m args below meth c s.heap [] 0 0 (MQ below (vp_Si (fun r => r = F)) args s 0 0 (fun _ => False)) (F0 m 61 ls []) := by
          intro v0_61 v1_61 ls hl hv
          refine lv_iload_n hx hb dJ6_numberOfLeadingZeros_0f7a4_61 rfl (lv_at hl 0 rfl) ?_
          refine lv_iconst (v := 4) hx hb dJ6_numberOfLeadingZeros_0f7a4_62 (by decide) ?_
          have k_73 : ∀ (v0_73 : Int32) (v1_73 : Int32) (ls : Array Slot), lv_has ls 2 [(0, .int v0_73), (1, .int v1_73)] → F = f_J6_numberOfLeadingZeros_0f7a4_73 v0_73 v1_73 → W p l e (rmd 0) s m args below meth c s.heap [] 0 0 (MQ below (vp_Si (fun r => r = F)) args s 0 0 (fun _ => False)) (F0 m 73 ls []) := by
            intro v0_73 v1_73 ls hl hv
            refine lv_iload_n hx hb dJ6_numberOfLeadingZeros_0f7a4_73 rfl (lv_at hl 1 rfl) ?_
            refine lv_iload_n hx hb dJ6_numberOfLeadingZeros_0f7a4_74 rfl (lv_at hl 0 rfl) ?_
            refine lv_iconst (v := 1) hx hb dJ6_numberOfLeadingZeros_0f7a4_75 (by decide) ?_
            refine lv_iushr hx hb dJ6_numberOfLeadingZeros_0f7a4_76 rfl ?_
            refine lv_isub hx hb dJ6_numberOfLeadingZeros_0f7a4_77 ?_
            exact sm_ri hx hb hr hlocks hv dJ6_numberOfLeadingZeros_0f7a4_78
          refine lv_icmp_lt (tgt := 73) hx hb dJ6_numberOfLeadingZeros_0f7a4_63 (by decide) (fun c63 => ?_) (fun c63 => ?_)
          · have hv := hv.trans (if_pos c63)
            exact k_73 v0_61 v1_61 _ (lv_sub hl [0, 1] rfl) hv
          · have hv := hv.trans (if_neg c63)
            obtain ⟨y66_1, ey66_1, hv⟩ := sm_lt hv
            refine lv_iinc (v := y66_1) (lv' := [(1, .int y66_1), (0, .int v0_61)]) hx hb dJ6_numberOfLeadingZeros_0f7a4_66 hl (k := 1) rfl (by rw [ey66_1]; rfl) (by decide) rfl (fun ls hl => ?_)
            refine lv_iload_n hx hb dJ6_numberOfLeadingZeros_0f7a4_69 rfl (lv_at hl 1 rfl) ?_
            refine lv_iconst (v := 2) hx hb dJ6_numberOfLeadingZeros_0f7a4_70 (by decide) ?_
            refine lv_iushr hx hb dJ6_numberOfLeadingZeros_0f7a4_71 rfl ?_
            refine sm_nmi hv (fun y72_2 ey72_2 hv => ?_)
            refine lv_istore_n (lv' := [(0, .int y72_2), (1, .int y66_1)]) hx hb dJ6_numberOfLeadingZeros_0f7a4_72 rfl hl (by decide) rfl (fun ls hl => ?_)
            exact k_73 y72_2 y66_1 _ (lv_sub hl [0, 1] rfl) hv
        refine lv_icmp_lt (tgt := 61) hx hb dJ6_numberOfLeadingZeros_0f7a4_51 (by decide) (fun c51 => ?_) (fun c51 => ?_)
        · have hv := hv.trans (if_pos c51)
          exact k_61 v0_48 v1_48 _ (lv_sub hl [0, 1] rfl) hv
        · have hv := hv.trans (if_neg c51)
          obtain ⟨y54_3, ey54_3, hv⟩ := sm_lt hv
          refine lv_iinc (v := y54_3) (lv' := [(1, .int y54_3), (0, .int v0_48)]) hx hb dJ6_numberOfLeadingZeros_0f7a4_54 hl (k := 1) rfl (by rw [ey54_3]; rfl) (by decide) rfl (fun ls hl => ?_)
          refine lv_iload_n hx hb dJ6_numberOfLeadingZeros_0f7a4_57 rfl (lv_at hl 1 rfl) ?_
          refine lv_iconst (v := 4) hx hb dJ6_numberOfLeadingZeros_0f7a4_58 (by decide) ?_
          refine lv_iushr hx hb dJ6_numberOfLeadingZeros_0f7a4_59 rfl ?_
          refine sm_nmi hv (fun y60_4 ey60_4 hv => ?_)
          refine lv_istore_n (lv' := [(0, .int y60_4), (1, .int y54_3)]) hx hb dJ6_numberOfLeadingZeros_0f7a4_60 rfl hl (by decide) rfl (fun ls hl => ?_)
          exact k_61 y60_4 y54_3 _ (lv_sub hl [0, 1] rfl) hv
      refine lv_icmp_lt (tgt := 48) hx hb dJ6_numberOfLeadingZeros_0f7a4_37 (by decide) (fun c37 => ?_) (fun c37 => ?_)
      · have hv := hv.trans (if_pos c37)
        exact k_48 v0_33 v1_33 _ (lv_sub hl [0, 1] rfl) hv
      · have hv := hv.trans (if_neg c37)
        obtain ⟨y40_5, ey40_5, hv⟩ := sm_lt hv
        refine lv_iinc (v := y40_5) (lv' := [(1, .int y40_5), (0, .int v0_33)]) hx hb dJ6_numberOfLeadingZeros_0f7a4_40 hl (k := 1) rfl (by rw [ey40_5]; rfl) (by decide) rfl (fun ls hl => ?_)
        refine lv_iload_n hx hb dJ6_numberOfLeadingZeros_0f7a4_43 rfl (lv_at hl 1 rfl) ?_
        refine lv_bipush (v := 8) hx hb dJ6_numberOfLeadingZeros_0f7a4_44 (by decide) ?_
        refine lv_iushr hx hb dJ6_numberOfLeadingZeros_0f7a4_46 rfl ?_
        refine sm_nmi hv (fun y47_6 ey47_6 hv => ?_)
        refine lv_istore_n (lv' := [(0, .int y47_6), (1, .int y40_5)]) hx hb dJ6_numberOfLeadingZeros_0f7a4_47 rfl hl (by decide) rfl (fun ls hl => ?_)
        exact k_48 y47_6 y40_5 _ (lv_sub hl [0, 1] rfl) hv
    refine lv_icmp_lt (tgt := 33) hx hb dJ6_numberOfLeadingZeros_0f7a4_22 (by decide) (fun c22 => ?_) (fun c22 => ?_)
    · have hv := hv.trans (if_pos c22)
      exact k_33 x0 31 _ (lv_sub hl [1, 0] rfl) hv
    · have hv := hv.trans (if_neg c22)
      obtain ⟨y25_7, ey25_7, hv⟩ := sm_lt hv
      refine lv_iinc (v := y25_7) (lv' := [(1, .int y25_7), (0, .int x0)]) hx hb dJ6_numberOfLeadingZeros_0f7a4_25 hl (k := 0) rfl (by rw [ey25_7]; rfl) (by decide) rfl (fun ls hl => ?_)
      refine lv_iload_n hx hb dJ6_numberOfLeadingZeros_0f7a4_28 rfl (lv_at hl 1 rfl) ?_
      refine lv_bipush (v := 16) hx hb dJ6_numberOfLeadingZeros_0f7a4_29 (by decide) ?_
      refine lv_iushr hx hb dJ6_numberOfLeadingZeros_0f7a4_31 rfl ?_
      refine sm_nmi hv (fun y32_8 ey32_8 hv => ?_)
      refine lv_istore_n (lv' := [(0, .int y32_8), (1, .int y25_7)]) hx hb dJ6_numberOfLeadingZeros_0f7a4_32 rfl hl (by decide) rfl (fun ls hl => ?_)
      exact k_33 y32_8 y25_7 _ (lv_sub hl [0, 1] rfl) hv
  · have hv := hv.trans (if_neg c1)
    refine lv_iload_n hx hb dJ6_numberOfLeadingZeros_0f7a4_4 rfl (lv_at hl 0 rfl) ?_
    refine lv_if_ne (tgt := 13) hx hb dJ6_numberOfLeadingZeros_0f7a4_5 (by decide) (fun c5 => ?_) (fun c5 => ?_)
    · have hv := hv.trans (if_neg c5)
      refine lv_iconst (v := 0) hx hb dJ6_numberOfLeadingZeros_0f7a4_13 (by decide) ?_
      exact sm_ri hx hb hr hlocks hv dJ6_numberOfLeadingZeros_0f7a4_14
    · have hv := hv.trans (if_pos c5)
      refine lv_bipush (v := 32) hx hb dJ6_numberOfLeadingZeros_0f7a4_8 (by decide) ?_
      refine lv_goto (tgt := 14) hx hb dJ6_numberOfLeadingZeros_0f7a4_10 (by decide) ?_
      exact sm_ri hx hb hr hlocks hv dJ6_numberOfLeadingZeros_0f7a4_14
def f_J13_numberOfLeadingZeros_95d88 (x0 : Int64) : Int32 := sm_let (Int64.toInt32 (UInt64.toInt64 (Int64.toUInt64 x0 >>> (Int64.toUInt64 (Int32.toInt64 32) &&& Int64.toUInt64 63)))) (fun y5_1 => if y5_1 = 0 then ((32 : Int32) + (f_J6_numberOfLeadingZeros_0f7a4 (Int64.toInt32 x0))) else (f_J6_numberOfLeadingZeros_0f7a4 y5_1))
set_option maxRecDepth 100000 in
set_option maxHeartbeats 4000000 in
theorem c_J13_numberOfLeadingZeros_95d88 (l : Launch) (g : sm_G) (x0 : Int64)   : Met l yJ13_numberOfLeadingZeros_95d88 (sm_ws yJ13_numberOfLeadingZeros_95d88 cJ13_numberOfLeadingZeros_95d88 3 (some .int)) (rmd 1) (va_Pc [.long x0] (sm_P0 g)) (vp_Si (fun r => r = f_J13_numberOfLeadingZeros_95d88 x0)) 0 0 (fun _ => False) := by
  generalize hv : f_J13_numberOfLeadingZeros_95d88 x0 = F
  replace hv := hv.symm
  refine sm_mP (by decide) (Nat.le_of_ble_eq_true rfl) (fun p e s m args below meth c C hA ls hl => ?_)
  obtain ⟨hC, hr, hlocks⟩ := C
  have hx := hC.1
  have hb := hC.2.1
  have hts := hC.2.2.2.2
  have hown : s.vm.findClass RJ13 = some m.cls := hC.2.2.2.1
  have hS : va_S (fun _ => False) s.heap s.heap [] := va_S.rf
  have hl : lv_has ls 3 [(0, .long x0)] := hl
  refine lv_lload_n hx hb dJ13_numberOfLeadingZeros_95d88_0 rfl (lv_at hl 0 rfl) ?_
  refine lv_bipush (v := 32) hx hb dJ13_numberOfLeadingZeros_95d88_1 (by decide) ?_
  refine lv_lushr hx hb dJ13_numberOfLeadingZeros_95d88_3 rfl ?_
  refine lv_l2i hx hb dJ13_numberOfLeadingZeros_95d88_4 rfl ?_
  refine sm_nmi hv (fun y5_1 ey5_1 hv => ?_)
  refine lv_istore_n (lv' := [(2, .int y5_1), (0, .long x0)]) hx hb dJ13_numberOfLeadingZeros_95d88_5 rfl hl (by decide) rfl (fun ls hl => ?_)
  refine lv_iload_n hx hb dJ13_numberOfLeadingZeros_95d88_6 rfl (lv_at hl 0 rfl) ?_
  refine lv_if_ne (tgt := 21) hx hb dJ13_numberOfLeadingZeros_95d88_7 (by decide) (fun c7 => ?_) (fun c7 => ?_)
  · have hv := hv.trans (if_neg c7)
    refine lv_iload_n hx hb dJ13_numberOfLeadingZeros_95d88_21 rfl (lv_at hl 0 rfl) ?_
    refine sm_ci (sm_runS (rest := []) hC (c_J6_numberOfLeadingZeros_0f7a4 l g y5_1) k_J6_numberOfLeadingZeros_0f7a4 w_215 (by decide) (sm_ps hA hS) rfl hl.1 rfl (Nat.le_of_ble_eq_true rfl) dJ13_numberOfLeadingZeros_95d88_22) ?_
    exact sm_ri hx hb hr hlocks hv dJ13_numberOfLeadingZeros_95d88_25
  · have hv := hv.trans (if_pos c7)
    refine lv_bipush (v := 32) hx hb dJ13_numberOfLeadingZeros_95d88_10 (by decide) ?_
    refine lv_lload_n hx hb dJ13_numberOfLeadingZeros_95d88_12 rfl (lv_at hl 1 rfl) ?_
    refine lv_l2i hx hb dJ13_numberOfLeadingZeros_95d88_13 rfl ?_
    refine sm_ci (sm_runS (rest := [.int 32]) hC (c_J6_numberOfLeadingZeros_0f7a4 l g (Int64.toInt32 x0)) k_J6_numberOfLeadingZeros_0f7a4 w_215 (by decide) (sm_ps hA hS) rfl hl.1 rfl (Nat.le_of_ble_eq_true rfl) dJ13_numberOfLeadingZeros_95d88_14) ?_
    refine lv_iadd hx hb dJ13_numberOfLeadingZeros_95d88_17 ?_
    refine lv_goto (tgt := 25) hx hb dJ13_numberOfLeadingZeros_95d88_18 (by decide) ?_
    exact sm_ri hx hb hr hlocks hv dJ13_numberOfLeadingZeros_95d88_25
def f_X5_isBelow (x0 : Int64) (x2 : Int32) : Int32 := if x0 < 0 then 0 else (if (Int32.toInt64 x2) ≤ x0 then 0 else 1)
theorem bel_in {x n : Int32} {N : Nat} (h : ¬ f_X5_isBelow (Int32.toInt64 x) n = 0) (hN : n.toInt = N) : vp_in x N := by
  rw [vp_in_iff]
  unfold f_X5_isBelow at h
  have e1 : (Int32.toInt64 x < 0) ↔ x.toInt < 0 := by rw [Int64.lt_iff_toInt_lt, Int32.toInt_toInt64]; rfl
  have e2 : (Int32.toInt64 n ≤ Int32.toInt64 x) ↔ n.toInt ≤ x.toInt := by rw [Int64.le_iff_toInt_le, Int32.toInt_toInt64, Int32.toInt_toInt64]
  by_cases a : Int32.toInt64 x < 0
  · simp [a] at h
  · by_cases b : Int32.toInt64 n ≤ Int32.toInt64 x
    · simp [a, b] at h
    · rw [e1] at a
      rw [e2] at b
      omega
theorem bel_val {v : Int64} {n : Int32} (h : ¬ f_X5_isBelow v n = 0) : 0 ≤ v.toInt ∧ v.toInt < n.toInt := by
  unfold f_X5_isBelow at h
  by_cases a : v < 0
  · simp [a] at h
  · by_cases b : Int32.toInt64 n ≤ v
    · simp [a, b] at h
    · rw [Int64.lt_iff_toInt_lt] at a
      rw [Int64.le_iff_toInt_le, Int32.toInt_toInt64] at b
      have : (0 : Int64).toInt = 0 := rfl
      omega
theorem bel_inL {v : Int64} {n : Int32} (h : ¬ f_X5_isBelow v n = 0) (hn : n.toInt ≤ 12) : vp_in (Int64.toInt32 v) 12 := by
  obtain ⟨a, b⟩ := bel_val h
  have e : (Int64.toInt32 v).toInt = v.toInt := by
    rw [Int64.toInt_toInt32]
    apply Int.bmod_eq_of_le <;> omega
  rw [vp_in_iff, e]
  omega
theorem bel_inI {x n : Int32} (h : ¬ f_X5_isBelow (Int32.toInt64 x) n = 0) (hn : n.toInt ≤ 12) : vp_in x 12 := by
  obtain ⟨a, b⟩ := bel_val h
  rw [Int32.toInt_toInt64] at a b
  rw [vp_in_iff]
  omega
set_option maxRecDepth 100000 in
set_option maxHeartbeats 4000000 in
theorem c_X5_isBelow (l : Launch) (g : sm_G) (x0 : Int64) (x2 : Int32)   : Met l yX5_isBelow (sm_ws yX5_isBelow cX5_isBelow 3 (some .boolean)) (rmd 0) (va_Pc [.long x0, .int x2] (sm_P0 g)) (vp_Si (fun r => r = f_X5_isBelow x0 x2)) 0 0 (fun _ => False) := by
  generalize hv : f_X5_isBelow x0 x2 = F
  replace hv := hv.symm
  refine sm_mP (by decide) (Nat.le_of_ble_eq_true rfl) (fun p e s m args below meth c C hA ls hl => ?_)
  obtain ⟨hC, hr, hlocks⟩ := C
  have hx := hC.1
  have hb := hC.2.1
  have hts := hC.2.2.2.2
  have hown : s.vm.findClass RX5 = some m.cls := hC.2.2.2.1
  have hS : va_S (fun _ => False) s.heap s.heap [] := va_S.rf
  have hl : lv_has ls 3 [(0, .long x0), (2, .int x2)] := hl
  refine lv_lload_n hx hb dX5_isBelow_0 rfl (lv_at hl 0 rfl) ?_
  refine lv_lconst (v := 0) hx hb dX5_isBelow_1 (by decide) ?_
  refine lc_lt (tgt := 17) hx hb dX5_isBelow_2 dX5_isBelow_3 (by decide) (fun c2 => ?_) (fun c2 => ?_)
  · have hv := hv.trans (if_pos c2)
    refine lv_iconst (v := 0) hx hb dX5_isBelow_17 (by decide) ?_
    exact sm_rz hx hb hr hlocks rfl hv dX5_isBelow_18
  · have hv := hv.trans (if_neg c2)
    refine lv_lload_n hx hb dX5_isBelow_6 rfl (lv_at hl 0 rfl) ?_
    refine lv_iload_n hx hb dX5_isBelow_7 rfl (lv_at hl 1 rfl) ?_
    refine lv_i2l hx hb dX5_isBelow_8 rfl ?_
    refine lc_ge (tgt := 17) hx hb dX5_isBelow_9 dX5_isBelow_10 (by decide) (fun c9 => ?_) (fun c9 => ?_)
    · have hv := hv.trans (if_pos c9)
      refine lv_iconst (v := 0) hx hb dX5_isBelow_17 (by decide) ?_
      exact sm_rz hx hb hr hlocks rfl hv dX5_isBelow_18
    · have hv := hv.trans (if_neg c9)
      refine lv_iconst (v := 1) hx hb dX5_isBelow_13 (by decide) ?_
      refine lv_goto (tgt := 18) hx hb dX5_isBelow_14 (by decide) ?_
      exact sm_rz hx hb hr hlocks rfl hv dX5_isBelow_18
def f_X5_isFloating (x0 : Int32) : Int32 := if x0 = 2 then 1 else (if x0 = 3 then 1 else 0)
theorem isFloating_b (x : Int32) : narrow .boolean (.int (f_X5_isFloating x)) = .int (f_X5_isFloating x) := by
  unfold f_X5_isFloating
  (repeat' split) <;> rfl
set_option maxRecDepth 100000 in
set_option maxHeartbeats 4000000 in
theorem c_X5_isFloating (l : Launch) (g : sm_G) (x0 : Int32)   : Met l yX5_isFloating (sm_ws yX5_isFloating cX5_isFloating 1 (some .boolean)) (rmd 0) (va_Pc [.int x0] (sm_P0 g)) (vp_Si (fun r => r = f_X5_isFloating x0)) 0 0 (fun _ => False) := by
  generalize hv : f_X5_isFloating x0 = F
  replace hv := hv.symm
  refine sm_mP (by decide) (Nat.le_of_ble_eq_true rfl) (fun p e s m args below meth c C hA ls hl => ?_)
  obtain ⟨hC, hr, hlocks⟩ := C
  have hx := hC.1
  have hb := hC.2.1
  have hts := hC.2.2.2.2
  have hown : s.vm.findClass RX5 = some m.cls := hC.2.2.2.1
  have hS : va_S (fun _ => False) s.heap s.heap [] := va_S.rf
  have hl : lv_has ls 1 [(0, .int x0)] := hl
  refine lv_iload_n hx hb dX5_isFloating_0 rfl (lv_at hl 0 rfl) ?_
  refine lv_iconst (v := 2) hx hb dX5_isFloating_1 (by decide) ?_
  refine lv_icmp_eq (tgt := 10) hx hb dX5_isFloating_2 (by decide) (fun c2 => ?_) (fun c2 => ?_)
  · have hv := hv.trans (if_pos c2)
    refine lv_iconst (v := 1) hx hb dX5_isFloating_10 (by decide) ?_
    refine lv_goto (tgt := 15) hx hb dX5_isFloating_11 (by decide) ?_
    exact sm_rz hx hb hr hlocks rfl hv dX5_isFloating_15
  · have hv := hv.trans (if_neg c2)
    refine lv_iload_n hx hb dX5_isFloating_5 rfl (lv_at hl 0 rfl) ?_
    refine lv_iconst (v := 3) hx hb dX5_isFloating_6 (by decide) ?_
    refine lv_icmp_ne (tgt := 14) hx hb dX5_isFloating_7 (by decide) (fun c7 => ?_) (fun c7 => ?_)
    · have hv := hv.trans (if_neg c7)
      refine lv_iconst (v := 0) hx hb dX5_isFloating_14 (by decide) ?_
      exact sm_rz hx hb hr hlocks rfl hv dX5_isFloating_15
    · have hv := hv.trans (if_pos c7)
      refine lv_iconst (v := 1) hx hb dX5_isFloating_10 (by decide) ?_
      refine lv_goto (tgt := 15) hx hb dX5_isFloating_11 (by decide) ?_
      exact sm_rz hx hb hr hlocks rfl hv dX5_isFloating_15
def f_X5_joined (x0 : Int32) (x1 : Int32) : Int32 := ((x0 ||| x1) &&& 63) ||| ((x0 &&& x1) &&& 64)
set_option maxRecDepth 100000 in
set_option maxHeartbeats 4000000 in
theorem c_X5_joined (l : Launch) (g : sm_G) (x0 : Int32) (x1 : Int32)   : Met l yX5_joined (sm_ws yX5_joined cX5_joined 2 (some .int)) (rmd 0) (va_Pc [.int x0, .int x1] (sm_P0 g)) (vp_Si (fun r => r = f_X5_joined x0 x1)) 0 0 (fun _ => False) := by
  generalize hv : f_X5_joined x0 x1 = F
  replace hv := hv.symm
  refine sm_mP (by decide) (Nat.le_of_ble_eq_true rfl) (fun p e s m args below meth c C hA ls hl => ?_)
  obtain ⟨hC, hr, hlocks⟩ := C
  have hx := hC.1
  have hb := hC.2.1
  have hts := hC.2.2.2.2
  have hown : s.vm.findClass RX5 = some m.cls := hC.2.2.2.1
  have hS : va_S (fun _ => False) s.heap s.heap [] := va_S.rf
  have hl : lv_has ls 2 [(0, .int x0), (1, .int x1)] := hl
  refine lv_iload_n hx hb dX5_joined_0 rfl (lv_at hl 0 rfl) ?_
  refine lv_iload_n hx hb dX5_joined_1 rfl (lv_at hl 1 rfl) ?_
  refine lv_ior hx hb dX5_joined_2 ?_
  refine lv_bipush (v := 63) hx hb dX5_joined_3 (by decide) ?_
  refine lv_iand hx hb dX5_joined_5 ?_
  refine lv_iload_n hx hb dX5_joined_6 rfl (lv_at hl 0 rfl) ?_
  refine lv_iload_n hx hb dX5_joined_7 rfl (lv_at hl 1 rfl) ?_
  refine lv_iand hx hb dX5_joined_8 ?_
  refine lv_bipush (v := 64) hx hb dX5_joined_9 (by decide) ?_
  refine lv_iand hx hb dX5_joined_11 ?_
  refine lv_ior hx hb dX5_joined_12 ?_
  exact sm_ri hx hb hr hlocks hv dX5_joined_13
def f_X5_inexact (x0 : Int32) : Int32 := sm_let (x0 &&& 63) (fun y4_1 => if y4_1 = 0 then 64 else y4_1)
set_option maxRecDepth 100000 in
set_option maxHeartbeats 4000000 in
theorem c_X5_inexact (l : Launch) (g : sm_G) (x0 : Int32)   : Met l yX5_inexact (sm_ws yX5_inexact cX5_inexact 2 (some .int)) (rmd 0) (va_Pc [.int x0] (sm_P0 g)) (vp_Si (fun r => r = f_X5_inexact x0)) 0 0 (fun _ => False) := by
  generalize hv : f_X5_inexact x0 = F
  replace hv := hv.symm
  refine sm_mP (by decide) (Nat.le_of_ble_eq_true rfl) (fun p e s m args below meth c C hA ls hl => ?_)
  obtain ⟨hC, hr, hlocks⟩ := C
  have hx := hC.1
  have hb := hC.2.1
  have hts := hC.2.2.2.2
  have hown : s.vm.findClass RX5 = some m.cls := hC.2.2.2.1
  have hS : va_S (fun _ => False) s.heap s.heap [] := va_S.rf
  have hl : lv_has ls 2 [(0, .int x0)] := hl
  refine lv_iload_n hx hb dX5_inexact_0 rfl (lv_at hl 0 rfl) ?_
  refine lv_bipush (v := 63) hx hb dX5_inexact_1 (by decide) ?_
  refine lv_iand hx hb dX5_inexact_3 ?_
  refine sm_nmi hv (fun y4_1 ey4_1 hv => ?_)
  refine lv_istore_n (lv' := [(1, .int y4_1), (0, .int x0)]) hx hb dX5_inexact_4 rfl hl (by decide) rfl (fun ls hl => ?_)
  refine lv_iload_n hx hb dX5_inexact_5 rfl (lv_at hl 0 rfl) ?_
  refine lv_if_ne (tgt := 14) hx hb dX5_inexact_6 (by decide) (fun c6 => ?_) (fun c6 => ?_)
  · have hv := hv.trans (if_neg c6)
    refine lv_iload_n hx hb dX5_inexact_14 rfl (lv_at hl 0 rfl) ?_
    exact sm_ri hx hb hr hlocks hv dX5_inexact_15
  · have hv := hv.trans (if_pos c6)
    refine lv_bipush (v := 64) hx hb dX5_inexact_9 (by decide) ?_
    refine lv_goto (tgt := 15) hx hb dX5_inexact_11 (by decide) ?_
    exact sm_ri hx hb hr hlocks hv dX5_inexact_15
def f_X5_isSo (x0 : Int32) (x1 : Int64) (x3 : Int64) : Int32 := if x0 = 0 then (if x1 = x3 then 1 else 0) else if x0 = 1 then (if x1 = x3 then 0 else 1) else if x0 = 2 then (if x3 ≤ x1 then 0 else 1) else if x0 = 3 then (if x1 < x3 then 0 else 1) else if x0 = 4 then (if x1 ≤ x3 then 0 else 1) else (if x3 < x1 then 0 else 1)
set_option maxRecDepth 100000 in
set_option maxHeartbeats 4000000 in
theorem c_X5_isSo (l : Launch) (g : sm_G) (x0 : Int32) (x1 : Int64) (x3 : Int64)   : Met l yX5_isSo (sm_ws yX5_isSo cX5_isSo 5 (some .boolean)) (rmd 0) (va_Pc [.int x0, .long x1, .long x3] (sm_P0 g)) (vp_Si (fun r => r = f_X5_isSo x0 x1 x3)) 0 0 (fun _ => False) := by
  generalize hv : f_X5_isSo x0 x1 x3 = F
  replace hv := hv.symm
  refine sm_mP (by decide) (Nat.le_of_ble_eq_true rfl) (fun p e s m args below meth c C hA ls hl => ?_)
  obtain ⟨hC, hr, hlocks⟩ := C
  have hx := hC.1
  have hb := hC.2.1
  have hts := hC.2.2.2.2
  have hown : s.vm.findClass RX5 = some m.cls := hC.2.2.2.1
  have hS : va_S (fun _ => False) s.heap s.heap [] := va_S.rf
  have hl : lv_has ls 5 [(0, .int x0), (1, .long x1), (3, .long x3)] := hl
  refine lv_iload_n hx hb dX5_isSo_0 rfl (lv_at hl 0 rfl) ?_
  by_cases c1_0 : x0 = 0
  · have hv := hv.trans (if_pos c1_0)
    refine lv_tableIn (tgt := 36) hx hb dX5_isSo_1 (by rw [c1_0]; decide) (by rw [c1_0]; decide) (by rw [c1_0]; rfl) (by decide) ?_
    refine lv_lload_n hx hb dX5_isSo_36 rfl (lv_at hl 1 rfl) ?_
    refine lv_lload_n hx hb dX5_isSo_37 rfl (lv_at hl 2 rfl) ?_
    refine lc_ne (tgt := 46) hx hb dX5_isSo_38 dX5_isSo_39 (by decide) (fun c38 => ?_) (fun c38 => ?_)
    · have hv := hv.trans (if_neg c38)
      refine lv_iconst (v := 0) hx hb dX5_isSo_46 (by decide) ?_
      exact sm_rz hx hb hr hlocks rfl hv dX5_isSo_47
    · have hv := hv.trans (if_pos c38)
      refine lv_iconst (v := 1) hx hb dX5_isSo_42 (by decide) ?_
      refine lv_goto (tgt := 47) hx hb dX5_isSo_43 (by decide) ?_
      exact sm_rz hx hb hr hlocks rfl hv dX5_isSo_47
  · have hv := hv.trans (if_neg c1_0)
    by_cases c1_1 : x0 = 1
    · have hv := hv.trans (if_pos c1_1)
      refine lv_tableIn (tgt := 48) hx hb dX5_isSo_1 (by rw [c1_1]; decide) (by rw [c1_1]; decide) (by rw [c1_1]; rfl) (by decide) ?_
      refine lv_lload_n hx hb dX5_isSo_48 rfl (lv_at hl 1 rfl) ?_
      refine lv_lload_n hx hb dX5_isSo_49 rfl (lv_at hl 2 rfl) ?_
      refine lc_eq (tgt := 58) hx hb dX5_isSo_50 dX5_isSo_51 (by decide) (fun c50 => ?_) (fun c50 => ?_)
      · have hv := hv.trans (if_pos c50)
        refine lv_iconst (v := 0) hx hb dX5_isSo_58 (by decide) ?_
        exact sm_rz hx hb hr hlocks rfl hv dX5_isSo_59
      · have hv := hv.trans (if_neg c50)
        refine lv_iconst (v := 1) hx hb dX5_isSo_54 (by decide) ?_
        refine lv_goto (tgt := 59) hx hb dX5_isSo_55 (by decide) ?_
        exact sm_rz hx hb hr hlocks rfl hv dX5_isSo_59
    · have hv := hv.trans (if_neg c1_1)
      by_cases c1_2 : x0 = 2
      · have hv := hv.trans (if_pos c1_2)
        refine lv_tableIn (tgt := 60) hx hb dX5_isSo_1 (by rw [c1_2]; decide) (by rw [c1_2]; decide) (by rw [c1_2]; rfl) (by decide) ?_
        refine lv_lload_n hx hb dX5_isSo_60 rfl (lv_at hl 1 rfl) ?_
        refine lv_lload_n hx hb dX5_isSo_61 rfl (lv_at hl 2 rfl) ?_
        refine lc_ge (tgt := 70) hx hb dX5_isSo_62 dX5_isSo_63 (by decide) (fun c62 => ?_) (fun c62 => ?_)
        · have hv := hv.trans (if_pos c62)
          refine lv_iconst (v := 0) hx hb dX5_isSo_70 (by decide) ?_
          exact sm_rz hx hb hr hlocks rfl hv dX5_isSo_71
        · have hv := hv.trans (if_neg c62)
          refine lv_iconst (v := 1) hx hb dX5_isSo_66 (by decide) ?_
          refine lv_goto (tgt := 71) hx hb dX5_isSo_67 (by decide) ?_
          exact sm_rz hx hb hr hlocks rfl hv dX5_isSo_71
      · have hv := hv.trans (if_neg c1_2)
        by_cases c1_3 : x0 = 3
        · have hv := hv.trans (if_pos c1_3)
          refine lv_tableIn (tgt := 72) hx hb dX5_isSo_1 (by rw [c1_3]; decide) (by rw [c1_3]; decide) (by rw [c1_3]; rfl) (by decide) ?_
          refine lv_lload_n hx hb dX5_isSo_72 rfl (lv_at hl 1 rfl) ?_
          refine lv_lload_n hx hb dX5_isSo_73 rfl (lv_at hl 2 rfl) ?_
          refine lc_lt (tgt := 82) hx hb dX5_isSo_74 dX5_isSo_75 (by decide) (fun c74 => ?_) (fun c74 => ?_)
          · have hv := hv.trans (if_pos c74)
            refine lv_iconst (v := 0) hx hb dX5_isSo_82 (by decide) ?_
            exact sm_rz hx hb hr hlocks rfl hv dX5_isSo_83
          · have hv := hv.trans (if_neg c74)
            refine lv_iconst (v := 1) hx hb dX5_isSo_78 (by decide) ?_
            refine lv_goto (tgt := 83) hx hb dX5_isSo_79 (by decide) ?_
            exact sm_rz hx hb hr hlocks rfl hv dX5_isSo_83
        · have hv := hv.trans (if_neg c1_3)
          by_cases c1_4 : x0 = 4
          · have hv := hv.trans (if_pos c1_4)
            refine lv_tableIn (tgt := 84) hx hb dX5_isSo_1 (by rw [c1_4]; decide) (by rw [c1_4]; decide) (by rw [c1_4]; rfl) (by decide) ?_
            refine lv_lload_n hx hb dX5_isSo_84 rfl (lv_at hl 1 rfl) ?_
            refine lv_lload_n hx hb dX5_isSo_85 rfl (lv_at hl 2 rfl) ?_
            refine lc_le (tgt := 94) hx hb dX5_isSo_86 dX5_isSo_87 (by decide) (fun c86 => ?_) (fun c86 => ?_)
            · have hv := hv.trans (if_pos c86)
              refine lv_iconst (v := 0) hx hb dX5_isSo_94 (by decide) ?_
              exact sm_rz hx hb hr hlocks rfl hv dX5_isSo_95
            · have hv := hv.trans (if_neg c86)
              refine lv_iconst (v := 1) hx hb dX5_isSo_90 (by decide) ?_
              refine lv_goto (tgt := 95) hx hb dX5_isSo_91 (by decide) ?_
              exact sm_rz hx hb hr hlocks rfl hv dX5_isSo_95
          · have hv := hv.trans (if_neg c1_4)
            refine lv_tableOut (tgt := 96) hx hb dX5_isSo_1 (by have := lv_neT c1_0 (show (0 : Int32).toInt = 0 from rfl); have := lv_neT c1_1 (show (1 : Int32).toInt = 1 from rfl); have := lv_neT c1_2 (show (2 : Int32).toInt = 2 from rfl); have := lv_neT c1_3 (show (3 : Int32).toInt = 3 from rfl); have := lv_neT c1_4 (show (4 : Int32).toInt = 4 from rfl); omega) (by decide) ?_
            refine lv_lload_n hx hb dX5_isSo_96 rfl (lv_at hl 1 rfl) ?_
            refine lv_lload_n hx hb dX5_isSo_97 rfl (lv_at hl 2 rfl) ?_
            refine lc_gt (tgt := 106) hx hb dX5_isSo_98 dX5_isSo_99 (by decide) (fun c98 => ?_) (fun c98 => ?_)
            · have hv := hv.trans (if_pos c98)
              refine lv_iconst (v := 0) hx hb dX5_isSo_106 (by decide) ?_
              exact sm_rz hx hb hr hlocks rfl hv dX5_isSo_107
            · have hv := hv.trans (if_neg c98)
              refine lv_iconst (v := 1) hx hb dX5_isSo_102 (by decide) ?_
              refine lv_goto (tgt := 107) hx hb dX5_isSo_103 (by decide) ?_
              exact sm_rz hx hb hr hlocks rfl hv dX5_isSo_107
def f_X5_formatOf (x0 : Int32) : Nat := if x0 = 2 then 0 else 1
theorem formatOf_lt (x : Int32) : f_X5_formatOf x < 2 := by
  unfold f_X5_formatOf
  split <;> decide
set_option maxRecDepth 100000 in
set_option maxHeartbeats 4000000 in
theorem c_X5_formatOf (l : Launch) (g : sm_G) (x0 : Int32)   : Met l yX5_formatOf (sm_ws yX5_formatOf cX5_formatOf 1 (some (.object "ShadowMachine$Format"))) (rmd 0) (va_Pc [.int x0] (sm_P0 g)) (va_Sr (fun r => r = f_X5_formatOf x0) (fun k => .ref (gF g k))) 0 0 (fun _ => False) := by
  generalize hv : f_X5_formatOf x0 = F
  replace hv := hv.symm
  refine sm_mP (by decide) (Nat.le_of_ble_eq_true rfl) (fun p e s m args below meth c C hA ls hl => ?_)
  obtain ⟨hC, hr, hlocks⟩ := C
  have hx := hC.1
  have hb := hC.2.1
  have hts := hC.2.2.2.2
  have hown : s.vm.findClass RX5 = some m.cls := hC.2.2.2.1
  have hS : va_S (fun _ => False) s.heap s.heap [] := va_S.rf
  have hl : lv_has ls 1 [(0, .int x0)] := hl
  refine lv_iload_n hx hb dX5_formatOf_0 rfl (lv_at hl 0 rfl) ?_
  refine lv_iconst (v := 2) hx hb dX5_formatOf_1 (by decide) ?_
  refine lv_icmp_ne (tgt := 11) hx hb dX5_formatOf_2 (by decide) (fun c2 => ?_) (fun c2 => ?_)
  · have hv := hv.trans (if_neg c2)
    refine va_gets hx hb (hA.1.1.2) hS hown (hts _ w_164) (fun _ h => h) dX5_formatOf_11 ?_
    exact sm_rr (ad := gF g) hx hb hr hlocks hv dX5_formatOf_14
  · have hv := hv.trans (if_pos c2)
    refine va_gets hx hb (hA.1.1.1) hS hown (hts _ w_148) (fun _ h => h) dX5_formatOf_5 ?_
    refine lv_goto (tgt := 14) hx hb dX5_formatOf_8 (by decide) ?_
    exact sm_rr (ad := gF g) hx hb hr hlocks hv dX5_formatOf_14
