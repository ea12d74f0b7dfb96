def f_X6_fromWhole_87 (t0_40 : Int64) (x1 : Int32) (t0_87 : Int32) : Int64 := f_X6_round x1 t0_87 ((t0_40 >>> (Int32.toInt64 1 &&& 63)) ||| (t0_40 &&& 1)) 1 0
def f_X6_fromWhole_64 (t0_40 : Int64) (x1 : Int32) (t0_64 : Int32) : Int64 := f_X6_round x1 t0_64 t0_40 0 0
def f_X6_fromWhole_40 (x1 : Int32) (x2 : Int64) (t0_40 : Int64) : Int64 := if 4611686018427387904 ≤ t0_40 then (if 0 ≤ x2 then (f_X6_fromWhole_87 t0_40 x1 0) else (f_X6_fromWhole_87 t0_40 x1 1)) else (if 0 ≤ x2 then (f_X6_fromWhole_64 t0_40 x1 0) else (f_X6_fromWhole_64 t0_40 x1 1))
def f_X6_fromWhole (x1 : Int32) (x2 : Int64) : Int64 := if x2 = 0 then 0 else (if x2 = ((-9223372036854775808)) then (f_X6_round x1 1 2305843009213693952 2 0) else (if 0 ≤ x2 then (f_X6_fromWhole_40 x1 x2 x2) else (f_X6_fromWhole_40 x1 x2 (-x2))))
set_option maxRecDepth 100000 in
set_option maxHeartbeats 4000000 in
theorem c_X6_fromWhole (l : Launch) (g : sm_G) (ad : Nat → Nat) (hj : sm_inj 19 ad) (sz : Nat) (x1 : Int32) (x2 : Int64) (σ : sm_S)   : Met l yX6_fromWhole (sm_ws yX6_fromWhole cX6_fromWhole 6 (some .long)) (rmd 2) (va_Pc [.ref (ad 0), .int x1, .long x2] (sm_Pre g 19 ad (eM g ad) σ sz)) (vp_Sl (fun r => r = f_X6_fromWhole x1 x2)) 0 0 (fun _ => False) := by
  generalize hv : f_X6_fromWhole x1 x2 = F
  replace hv := hv.symm
  refine sm_mR (by decide) (Nat.le_of_ble_eq_true rfl) hj (eM_lay g ad) (fun p e s m args below meth c C hW hB ls hl => ?_)
  obtain ⟨hC, hr, hlocks⟩ := C
  have hx := hC.1
  have hb := hC.2.1
  have hts := hC.2.2.2.2
  have hown : s.vm.findClass RX6 = some m.cls := hC.2.2.2.1
  have hl : lv_has ls 6 [(0, .ref (ad 0)), (1, .int x1), (2, .long x2)] := hl
  refine lv_lload_n hx hb dX6_fromWhole_0 rfl (lv_at hl 2 rfl) ?_
  refine lv_lconst (v := 0) hx hb dX6_fromWhole_1 (by decide) ?_
  refine lc_ne (tgt := 8) hx hb dX6_fromWhole_2 dX6_fromWhole_3 (by decide) (fun c2 => ?_) (fun c2 => ?_)
  · have hv := hv.trans (if_neg c2)
    refine lv_lload_n hx hb dX6_fromWhole_8 rfl (lv_at hl 2 rfl) ?_
    refine lv_ldc2 hx hb hown (hts _ w_658) dX6_fromWhole_9 ?_
    refine lc_ne (tgt := 28) hx hb dX6_fromWhole_12 dX6_fromWhole_13 (by decide) (fun c12 => ?_) (fun c12 => ?_)
    · have hv := hv.trans (if_neg c12)
      refine lv_lload_n hx hb dX6_fromWhole_28 rfl (lv_at hl 2 rfl) ?_
      refine lv_lconst (v := 0) hx hb dX6_fromWhole_29 (by decide) ?_
      have k_40 : ∀ (t0_40 : Int64) (ls : Array Slot), lv_has ls 6 [(0, .ref (ad 0)), (1, .int x1), (2, .long x2)] → F = f_X6_fromWhole_40 x1 x2 t0_40 → W p l e (rmd 2) s m args below meth c s.heap [] 0 0 (MQ below (vp_Sl (fun r => r = F)) args s 0 0 (fun _ => False)) (F0 m 40 ls [.long t0_40]) := by
        intro t0_40 ls hl hv
        refine lv_lstore (lv' := [(4, .long t0_40), (0, .ref (ad 0)), (1, .int x1), (2, .long x2)]) hx hb dX6_fromWhole_40 hl (by decide) rfl (fun ls hl => ?_)
        refine lv_lload hx hb dX6_fromWhole_42 (lv_at hl 0 rfl) ?_
        refine lv_ldc2 hx hb hown (hts _ w_679) dX6_fromWhole_44 ?_
        refine lc_ge (tgt := 74) hx hb dX6_fromWhole_47 dX6_fromWhole_48 (by decide) (fun c47 => ?_) (fun c47 => ?_)
        · have hv := hv.trans (if_pos c47)
          refine lv_aload_n hx hb dX6_fromWhole_74 rfl (lv_at hl 1 rfl) ?_
          refine lv_iload_n hx hb dX6_fromWhole_75 rfl (lv_at hl 2 rfl) ?_
          refine lv_lload_n hx hb dX6_fromWhole_76 rfl (lv_at hl 3 rfl) ?_
          refine lv_lconst (v := 0) hx hb dX6_fromWhole_77 (by decide) ?_
          have k_87 : ∀ (t0_87 : Int32) (ls : Array Slot), lv_has ls 6 [(4, .long t0_40)] → F = f_X6_fromWhole_87 t0_40 x1 t0_87 → W p l e (rmd 2) s m args below meth c s.heap [] 0 0 (MQ below (vp_Sl (fun r => r = F)) args s 0 0 (fun _ => False)) (F0 m 87 ls [.int t0_87, .int x1, .ref (ad 0)]) := by
            intro t0_87 ls hl hv
            refine lv_lload hx hb dX6_fromWhole_87 (lv_at hl 0 rfl) ?_
            refine lv_iconst (v := 1) hx hb dX6_fromWhole_89 (by decide) ?_
            refine lv_lshr hx hb dX6_fromWhole_90 rfl ?_
            refine lv_lload hx hb dX6_fromWhole_91 (lv_at hl 0 rfl) ?_
            refine lv_lconst (v := 1) hx hb dX6_fromWhole_93 (by decide) ?_
            refine lv_land hx hb dX6_fromWhole_94 ?_
            refine lv_lor hx hb dX6_fromWhole_95 ?_
            refine lv_iconst (v := 1) hx hb dX6_fromWhole_96 (by decide) ?_
            refine lv_iconst (v := 0) hx hb dX6_fromWhole_97 (by decide) ?_
            refine sm_cl (sm_runV (rest := []) hC (c_X6_round l g ad hW.2.1 _ x1 t0_87 ((t0_40 >>> (Int32.toInt64 1 &&& 63)) ||| (t0_40 &&& 1)) 1 0 σ) k_X6_round w_660 (by decide) (sm_pv hW hB (by decide) (eM_0 g ad _) rfl) rfl hl.1 rfl (Nat.le_of_ble_eq_true rfl) dX6_fromWhole_98) ?_
            exact sm_rl hx hb hr hlocks hv dX6_fromWhole_101
          refine lc_ge (tgt := 86) hx hb dX6_fromWhole_78 dX6_fromWhole_79 (by decide) (fun c78 => ?_) (fun c78 => ?_)
          · have hv := hv.trans (if_pos c78)
            refine lv_iconst (v := 0) hx hb dX6_fromWhole_86 (by decide) ?_
            exact k_87 0 _ (lv_sub hl [0] rfl) hv
          · have hv := hv.trans (if_neg c78)
            refine lv_iconst (v := 1) hx hb dX6_fromWhole_82 (by decide) ?_
            refine lv_goto (tgt := 87) hx hb dX6_fromWhole_83 (by decide) ?_
            exact k_87 1 _ (lv_sub hl [0] rfl) hv
        · have hv := hv.trans (if_neg c47)
          refine lv_aload_n hx hb dX6_fromWhole_51 rfl (lv_at hl 1 rfl) ?_
          refine lv_iload_n hx hb dX6_fromWhole_52 rfl (lv_at hl 2 rfl) ?_
          refine lv_lload_n hx hb dX6_fromWhole_53 rfl (lv_at hl 3 rfl) ?_
          refine lv_lconst (v := 0) hx hb dX6_fromWhole_54 (by decide) ?_
          have k_64 : ∀ (t0_64 : Int32) (ls : Array Slot), lv_has ls 6 [(4, .long t0_40)] → F = f_X6_fromWhole_64 t0_40 x1 t0_64 → W p l e (rmd 2) s m args below meth c s.heap [] 0 0 (MQ below (vp_Sl (fun r => r = F)) args s 0 0 (fun _ => False)) (F0 m 64 ls [.int t0_64, .int x1, .ref (ad 0)]) := by
            intro t0_64 ls hl hv
            refine lv_lload hx hb dX6_fromWhole_64 (lv_at hl 0 rfl) ?_
            refine lv_iconst (v := 0) hx hb dX6_fromWhole_66 (by decide) ?_
            refine lv_iconst (v := 0) hx hb dX6_fromWhole_67 (by decide) ?_
            refine sm_cl (sm_runV (rest := []) hC (c_X6_round l g ad hW.2.1 _ x1 t0_64 t0_40 0 0 σ) k_X6_round w_660 (by decide) (sm_pv hW hB (by decide) (eM_0 g ad _) rfl) rfl hl.1 rfl (Nat.le_of_ble_eq_true rfl) dX6_fromWhole_68) ?_
            refine lv_goto (tgt := 101) hx hb dX6_fromWhole_71 (by decide) ?_
            exact sm_rl hx hb hr hlocks hv dX6_fromWhole_101
          refine lc_ge (tgt := 63) hx hb dX6_fromWhole_55 dX6_fromWhole_56 (by decide) (fun c55 => ?_) (fun c55 => ?_)
          · have hv := hv.trans (if_pos c55)
            refine lv_iconst (v := 0) hx hb dX6_fromWhole_63 (by decide) ?_
            exact k_64 0 _ (lv_sub hl [0] rfl) hv
          · have hv := hv.trans (if_neg c55)
            refine lv_iconst (v := 1) hx hb dX6_fromWhole_59 (by decide) ?_
            refine lv_goto (tgt := 64) hx hb dX6_fromWhole_60 (by decide) ?_
            exact k_64 1 _ (lv_sub hl [0] rfl) hv
      refine lc_ge (tgt := 39) hx hb dX6_fromWhole_30 dX6_fromWhole_31 (by decide) (fun c30 => ?_) (fun c30 => ?_)
      · have hv := hv.trans (if_pos c30)
        refine lv_lload_n hx hb dX6_fromWhole_39 rfl (lv_at hl 2 rfl) ?_
        exact k_40 x2 _ (lv_sub hl [0, 1, 2] rfl) hv
      · have hv := hv.trans (if_neg c30)
        refine lv_lload_n hx hb dX6_fromWhole_34 rfl (lv_at hl 2 rfl) ?_
        refine lv_lneg hx hb dX6_fromWhole_35 ?_
        refine lv_goto (tgt := 40) hx hb dX6_fromWhole_36 (by decide) ?_
        exact k_40 (-x2) _ (lv_sub hl [0, 1, 2] rfl) hv
    · have hv := hv.trans (if_pos c12)
      refine lv_aload_n hx hb dX6_fromWhole_16 rfl (lv_at hl 0 rfl) ?_
      refine lv_iload_n hx hb dX6_fromWhole_17 rfl (lv_at hl 1 rfl) ?_
      refine lv_iconst (v := 1) hx hb dX6_fromWhole_18 (by decide) ?_
      refine lv_ldc2 hx hb hown (hts _ w_659) dX6_fromWhole_19 ?_
      refine lv_iconst (v := 2) hx hb dX6_fromWhole_22 (by decide) ?_
      refine lv_iconst (v := 0) hx hb dX6_fromWhole_23 (by decide) ?_
      refine sm_cl (sm_runV (rest := []) hC (c_X6_round l g ad hW.2.1 _ x1 1 2305843009213693952 2 0 σ) k_X6_round w_660 (by decide) (sm_pv hW hB (by decide) (eM_0 g ad _) rfl) rfl hl.1 rfl (Nat.le_of_ble_eq_true rfl) dX6_fromWhole_24) ?_
      exact sm_rl hx hb hr hlocks hv dX6_fromWhole_27
  · have hv := hv.trans (if_pos c2)
    refine lv_lconst (v := 0) hx hb dX6_fromWhole_6 (by decide) ?_
    exact sm_rl hx hb hr hlocks hv dX6_fromWhole_7
def f_X6_toWhole_162 (t0_21 : Int64) (u4_1 : sm_S) : Int64 × sm_S := if (u4_1.1 17 (Int32.toNatClampNeg 0)) = 0 then ((t0_21, u4_1)) else (((-t0_21) - 1, u4_1))
def f_X6_toWhole_147 (t0_21 : Int64) (t0_81 : Int32) (u4_1 : sm_S) (t0_147 : Int64) : Int64 × sm_S := if t0_81 = 0 then (if t0_147 ≤ t0_21 then (if (u4_1.1 17 (Int32.toNatClampNeg 0)) = 0 then ((t0_147, u4_1)) else ((-t0_147, u4_1))) else (f_X6_toWhole_162 t0_21 u4_1)) else (f_X6_toWhole_162 t0_21 u4_1)
def f_X6_toWhole_81 (t0_21 : Int64) (u4_1 : sm_S) (t0_81 : Int32) : Int64 × sm_S := if t0_81 = 0 then (if (u4_1.1 16 (Int32.toNatClampNeg 0)) < 0 then (if ((-63)) ≤ (u4_1.1 16 (Int32.toNatClampNeg 0)) then (f_X6_toWhole_147 t0_21 t0_81 u4_1 ((u4_1.2.1 18 (Int32.toNatClampNeg 0)) >>> (Int32.toInt64 (-(u4_1.1 16 (Int32.toNatClampNeg 0))) &&& 63))) else (f_X6_toWhole_147 t0_21 t0_81 u4_1 0)) else (f_X6_toWhole_147 t0_21 t0_81 u4_1 ((u4_1.2.1 18 (Int32.toNatClampNeg 0)) <<< (Int32.toInt64 (u4_1.1 16 (Int32.toNatClampNeg 0)) &&& 63)))) else (f_X6_toWhole_147 t0_21 t0_81 u4_1 t0_21)
def f_X6_toWhole_76 (t0_21 : Int64) (u4_1 : sm_S) : Int64 × sm_S := f_X6_toWhole_81 t0_21 u4_1 1
def f_X6_toWhole_21 (u4_1 : sm_S) (t0_21 : Int64) : Int64 × sm_S := if (u4_1.1 15 (Int32.toNatClampNeg 0)) = 0 then ((0, u4_1)) else (if (u4_1.1 15 (Int32.toNatClampNeg 0)) = 3 then ((0, u4_1)) else (if (u4_1.1 15 (Int32.toNatClampNeg 0)) = 2 then (f_X6_toWhole_76 t0_21 u4_1) else (if ((f_X6_lengthOf (u4_1.2.1 18 (Int32.toNatClampNeg 0))) + (u4_1.1 16 (Int32.toNatClampNeg 0))) ≤ 63 then (f_X6_toWhole_81 t0_21 u4_1 0) else (f_X6_toWhole_76 t0_21 u4_1))))
def f_X6_toWhole (σ : sm_S) (x1 : Int32) (x2 : Int64) (x4 : Int32) : Int64 × sm_S := sm_let (f_X6_take σ 0 x2 x1) (fun u4_1 => if x4 = 0 then (f_X6_toWhole_21 u4_1 2147483647) else (f_X6_toWhole_21 u4_1 9223372036854775807))
set_option maxRecDepth 100000 in
set_option maxHeartbeats 4000000 in
theorem c_X6_toWhole (l : Launch) (g : sm_G) (ad : Nat → Nat) (hj : sm_inj 19 ad) (sz : Nat) (σ : sm_S) (x1 : Int32) (x2 : Int64) (x4 : Int32)   : Met l yX6_toWhole (sm_ws yX6_toWhole cX6_toWhole 10 (some .long)) (rmd 2) (va_Pc [.ref (ad 0), .int x1, .long x2, .int x4] (sm_Pre g 19 ad (eM g ad) σ sz)) (sm_Ql g 19 ad (eM g ad) sz (f_X6_toWhole σ x1 x2 x4)) 0 0 (sm_AX 19 ad sz) := by
  generalize hv : f_X6_toWhole σ x1 x2 x4 = F
  replace hv := hv.symm
  refine sm_mWl (by decide) (Nat.le_of_ble_eq_true rfl) hj (eM_lay g ad) (fun p e s m args below meth c C hW hB ls hl => ?_)
  obtain ⟨hC, hr, hlocks⟩ := C
  have hx := hC.1
  have hb := hC.2.1
  have hts := hC.2.2.2.2
  have hown : s.vm.findClass RX6 = some m.cls := hC.2.2.2.1
  have hl : lv_has ls 10 [(0, .ref (ad 0)), (1, .int x1), (2, .long x2), (4, .int x4)] := hl
  refine lv_aload_n hx hb dX6_toWhole_0 rfl (lv_at hl 0 rfl) ?_
  refine lv_iconst (v := 0) hx hb dX6_toWhole_1 (by decide) ?_
  refine lv_lload_n hx hb dX6_toWhole_2 rfl (lv_at hl 2 rfl) ?_
  refine lv_iload_n hx hb dX6_toWhole_3 rfl (lv_at hl 1 rfl) ?_
  refine sw_cvn hv hB (sm_runV (rest := []) hC (c_X6_take l g ad hW.2.1 _ σ 0 x2 x1 (in_lit (by decide +kernel))) k_X6_take w_610 (by decide) (sm_pv hW hB (by decide) (eM_0 g ad _) rfl) rfl hl.1 rfl (Nat.le_of_ble_eq_true rfl) dX6_toWhole_4) (fun u4_1 eu4_1 hv H locs hB => ?_)
  refine lv_iload hx hb dX6_toWhole_7 (lv_at hl 3 rfl) ?_
  have k_21 : ∀ (t0_21 : Int64) (ls : Array Slot), lv_has ls 10 [(0, .ref (ad 0))] → F = f_X6_toWhole_21 u4_1 t0_21 → W p l e (rmd 2) s m args below meth c H locs 0 0 (MQ below (sm_Ql g 19 ad (eM g ad) s.heap.size F) args s 0 0 (sm_AX 19 ad s.heap.size)) (F0 m 21 ls [.long t0_21]) := by
    intro t0_21 ls hl hv
    refine lv_lstore (lv' := [(5, .long t0_21), (0, .ref (ad 0))]) hx hb dX6_toWhole_21 hl (by decide) rfl (fun ls hl => ?_)
    refine lv_aload_n hx hb dX6_toWhole_23 rfl (lv_at hl 1 rfl) ?_
    refine fg_RX6_64 hx hb hts hown hW hB dX6_toWhole_24 ?_
    refine lv_iconst (v := 0) hx hb dX6_toWhole_27 (by decide) ?_
    refine sw_ia hx hb hW hB (15) (by decide) (eM_15 g ad) (in_lit (by decide +kernel)) dX6_toWhole_28 ?_
    refine lv_if_eq (tgt := 42) hx hb dX6_toWhole_29 (by decide) (fun c29 => ?_) (fun c29 => ?_)
    · have hv := hv.trans (if_pos c29)
      refine lv_lconst (v := 0) hx hb dX6_toWhole_42 (by decide) ?_
      exact sw_rl hx hb hr hlocks hB hv dX6_toWhole_43
    · have hv := hv.trans (if_neg c29)
      refine lv_aload_n hx hb dX6_toWhole_32 rfl (lv_at hl 1 rfl) ?_
      refine fg_RX6_64 hx hb hts hown hW hB dX6_toWhole_33 ?_
      refine lv_iconst (v := 0) hx hb dX6_toWhole_36 (by decide) ?_
      refine sw_ia hx hb hW hB (15) (by decide) (eM_15 g ad) (in_lit (by decide +kernel)) dX6_toWhole_37 ?_
      refine lv_iconst (v := 3) hx hb dX6_toWhole_38 (by decide) ?_
      refine lv_icmp_ne (tgt := 44) hx hb dX6_toWhole_39 (by decide) (fun c39 => ?_) (fun c39 => ?_)
      · have hv := hv.trans (if_neg c39)
        refine lv_aload_n hx hb dX6_toWhole_44 rfl (lv_at hl 1 rfl) ?_
        refine fg_RX6_64 hx hb hts hown hW hB dX6_toWhole_45 ?_
        refine lv_iconst (v := 0) hx hb dX6_toWhole_48 (by decide) ?_
        refine sw_ia hx hb hW hB (15) (by decide) (eM_15 g ad) (in_lit (by decide +kernel)) dX6_toWhole_49 ?_
        refine lv_iconst (v := 2) hx hb dX6_toWhole_50 (by decide) ?_
        have k_81 : ∀ (t0_81 : Int32) (ls : Array Slot), lv_has ls 10 [(0, .ref (ad 0)), (5, .long t0_21)] → F = f_X6_toWhole_81 t0_21 u4_1 t0_81 → W p l e (rmd 2) s m args below meth c H locs 0 0 (MQ below (sm_Ql g 19 ad (eM g ad) s.heap.size F) args s 0 0 (sm_AX 19 ad s.heap.size)) (F0 m 81 ls [.int t0_81]) := by
          intro t0_81 ls hl hv
          refine lv_istore (lv' := [(7, .int t0_81), (0, .ref (ad 0)), (5, .long t0_21)]) hx hb dX6_toWhole_81 hl (by decide) rfl (fun ls hl => ?_)
          refine lv_iload hx hb dX6_toWhole_83 (lv_at hl 0 rfl) ?_
          have k_147 : ∀ (t0_147 : Int64) (ls : Array Slot), lv_has ls 10 [(0, .ref (ad 0)), (5, .long t0_21), (7, .int t0_81)] → F = f_X6_toWhole_147 t0_21 t0_81 u4_1 t0_147 → W p l e (rmd 2) s m args below meth c H locs 0 0 (MQ below (sm_Ql g 19 ad (eM g ad) s.heap.size F) args s 0 0 (sm_AX 19 ad s.heap.size)) (F0 m 147 ls [.long t0_147]) := by
            intro t0_147 ls hl hv
            refine lv_lstore (lv' := [(8, .long t0_147), (0, .ref (ad 0)), (5, .long t0_21), (7, .int t0_81)]) hx hb dX6_toWhole_147 hl (by decide) rfl (fun ls hl => ?_)
            refine lv_iload hx hb dX6_toWhole_149 (lv_at hl 3 rfl) ?_
            have k_162 : ∀  (ls : Array Slot), lv_has ls 10 [(0, .ref (ad 0)), (5, .long t0_21)] → F = f_X6_toWhole_162 t0_21 u4_1 → W p l e (rmd 2) s m args below meth c H locs 0 0 (MQ below (sm_Ql g 19 ad (eM g ad) s.heap.size F) args s 0 0 (sm_AX 19 ad s.heap.size)) (F0 m 162 ls []) := by
              intro ls hl hv
              refine lv_aload_n hx hb dX6_toWhole_162 rfl (lv_at hl 0 rfl) ?_
              refine fg_RX6_70 hx hb hts hown hW hB dX6_toWhole_163 ?_
              refine lv_iconst (v := 0) hx hb dX6_toWhole_166 (by decide) ?_
              refine sw_za hx hb hW hB (17) (by decide) (eM_17 g ad) (in_lit (by decide +kernel)) dX6_toWhole_167 ?_
              refine lv_if_eq (tgt := 179) hx hb dX6_toWhole_168 (by decide) (fun c168 => ?_) (fun c168 => ?_)
              · have hv := hv.trans (if_pos c168)
                refine lv_lload hx hb dX6_toWhole_179 (lv_at hl 1 rfl) ?_
                exact sw_rl hx hb hr hlocks hB hv dX6_toWhole_181
              · have hv := hv.trans (if_neg c168)
                refine lv_lload hx hb dX6_toWhole_171 (lv_at hl 1 rfl) ?_
                refine lv_lneg hx hb dX6_toWhole_173 ?_
                refine lv_lconst (v := 1) hx hb dX6_toWhole_174 (by decide) ?_
                refine lv_lsub hx hb dX6_toWhole_175 ?_
                refine lv_goto (tgt := 181) hx hb dX6_toWhole_176 (by decide) ?_
                exact sw_rl hx hb hr hlocks hB hv dX6_toWhole_181
            refine lv_if_ne (tgt := 162) hx hb dX6_toWhole_151 (by decide) (fun c151 => ?_) (fun c151 => ?_)
            · have hv := hv.trans (if_neg c151)
              exact k_162 _ (lv_sub hl [1, 2] rfl) hv
            · have hv := hv.trans (if_pos c151)
              refine lv_lload hx hb dX6_toWhole_154 (lv_at hl 0 rfl) ?_
              refine lv_lload hx hb dX6_toWhole_156 (lv_at hl 2 rfl) ?_
              refine lc_le (tgt := 182) hx hb dX6_toWhole_158 dX6_toWhole_159 (by decide) (fun c158 => ?_) (fun c158 => ?_)
              · have hv := hv.trans (if_pos c158)
                refine lv_aload_n hx hb dX6_toWhole_182 rfl (lv_at hl 1 rfl) ?_
                refine fg_RX6_70 hx hb hts hown hW hB dX6_toWhole_183 ?_
                refine lv_iconst (v := 0) hx hb dX6_toWhole_186 (by decide) ?_
                refine sw_za hx hb hW hB (17) (by decide) (eM_17 g ad) (in_lit (by decide +kernel)) dX6_toWhole_187 ?_
                refine lv_if_eq (tgt := 197) hx hb dX6_toWhole_188 (by decide) (fun c188 => ?_) (fun c188 => ?_)
                · have hv := hv.trans (if_pos c188)
                  refine lv_lload hx hb dX6_toWhole_197 (lv_at hl 0 rfl) ?_
                  exact sw_rl hx hb hr hlocks hB hv dX6_toWhole_199
                · have hv := hv.trans (if_neg c188)
                  refine lv_lload hx hb dX6_toWhole_191 (lv_at hl 0 rfl) ?_
                  refine lv_lneg hx hb dX6_toWhole_193 ?_
                  refine lv_goto (tgt := 199) hx hb dX6_toWhole_194 (by decide) ?_
                  exact sw_rl hx hb hr hlocks hB hv dX6_toWhole_199
              · have hv := hv.trans (if_neg c158)
                exact k_162 _ (lv_sub hl [1, 2] rfl) hv
          refine lv_if_eq (tgt := 93) hx hb dX6_toWhole_85 (by decide) (fun c85 => ?_) (fun c85 => ?_)
          · have hv := hv.trans (if_pos c85)
            refine lv_aload_n hx hb dX6_toWhole_93 rfl (lv_at hl 1 rfl) ?_
            refine fg_RX6_67 hx hb hts hown hW hB dX6_toWhole_94 ?_
            refine lv_iconst (v := 0) hx hb dX6_toWhole_97 (by decide) ?_
            refine sw_ia hx hb hW hB (16) (by decide) (eM_16 g ad) (in_lit (by decide +kernel)) dX6_toWhole_98 ?_
            refine lv_if_lt (tgt := 118) hx hb dX6_toWhole_99 (by decide) (fun c99 => ?_) (fun c99 => ?_)
            · have hv := hv.trans (if_pos c99)
              refine lv_aload_n hx hb dX6_toWhole_118 rfl (lv_at hl 1 rfl) ?_
              refine fg_RX6_67 hx hb hts hown hW hB dX6_toWhole_119 ?_
              refine lv_iconst (v := 0) hx hb dX6_toWhole_122 (by decide) ?_
              refine sw_ia hx hb hW hB (16) (by decide) (eM_16 g ad) (in_lit (by decide +kernel)) dX6_toWhole_123 ?_
              refine lv_bipush (v := -63) hx hb dX6_toWhole_124 (by decide) ?_
              refine lv_icmp_ge (tgt := 133) hx hb dX6_toWhole_126 (by decide) (fun c126 => ?_) (fun c126 => ?_)
              · have hv := hv.trans (if_pos c126)
                refine lv_aload_n hx hb dX6_toWhole_133 rfl (lv_at hl 1 rfl) ?_
                refine fg_RX6_73 hx hb hts hown hW hB dX6_toWhole_134 ?_
                refine lv_iconst (v := 0) hx hb dX6_toWhole_137 (by decide) ?_
                refine sw_la hx hb hW hB (18) (by decide) (eM_18 g ad) (in_lit (by decide +kernel)) dX6_toWhole_138 ?_
                refine lv_aload_n hx hb dX6_toWhole_139 rfl (lv_at hl 1 rfl) ?_
                refine fg_RX6_67 hx hb hts hown hW hB dX6_toWhole_140 ?_
                refine lv_iconst (v := 0) hx hb dX6_toWhole_143 (by decide) ?_
                refine sw_ia hx hb hW hB (16) (by decide) (eM_16 g ad) (in_lit (by decide +kernel)) dX6_toWhole_144 ?_
                refine lv_ineg hx hb dX6_toWhole_145 ?_
                refine lv_lshr hx hb dX6_toWhole_146 rfl ?_
                exact k_147 ((u4_1.2.1 18 (Int32.toNatClampNeg 0)) >>> (Int32.toInt64 (-(u4_1.1 16 (Int32.toNatClampNeg 0))) &&& 63)) _ (lv_sub hl [1, 2, 0] rfl) hv
              · have hv := hv.trans (if_neg c126)
                refine lv_lconst (v := 0) hx hb dX6_toWhole_129 (by decide) ?_
                refine lv_goto (tgt := 147) hx hb dX6_toWhole_130 (by decide) ?_
                exact k_147 0 _ (lv_sub hl [1, 2, 0] rfl) hv
            · have hv := hv.trans (if_neg c99)
              refine lv_aload_n hx hb dX6_toWhole_102 rfl (lv_at hl 1 rfl) ?_
              refine fg_RX6_73 hx hb hts hown hW hB dX6_toWhole_103 ?_
              refine lv_iconst (v := 0) hx hb dX6_toWhole_106 (by decide) ?_
              refine sw_la hx hb hW hB (18) (by decide) (eM_18 g ad) (in_lit (by decide +kernel)) dX6_toWhole_107 ?_
              refine lv_aload_n hx hb dX6_toWhole_108 rfl (lv_at hl 1 rfl) ?_
              refine fg_RX6_67 hx hb hts hown hW hB dX6_toWhole_109 ?_
              refine lv_iconst (v := 0) hx hb dX6_toWhole_112 (by decide) ?_
              refine sw_ia hx hb hW hB (16) (by decide) (eM_16 g ad) (in_lit (by decide +kernel)) dX6_toWhole_113 ?_
              refine lv_lshl hx hb dX6_toWhole_114 rfl ?_
              refine lv_goto (tgt := 147) hx hb dX6_toWhole_115 (by decide) ?_
              exact k_147 ((u4_1.2.1 18 (Int32.toNatClampNeg 0)) <<< (Int32.toInt64 (u4_1.1 16 (Int32.toNatClampNeg 0)) &&& 63)) _ (lv_sub hl [1, 2, 0] rfl) hv
          · have hv := hv.trans (if_neg c85)
            refine lv_lload hx hb dX6_toWhole_88 (lv_at hl 2 rfl) ?_
            refine lv_goto (tgt := 147) hx hb dX6_toWhole_90 (by decide) ?_
            exact k_147 t0_21 _ (lv_sub hl [1, 2, 0] rfl) hv
        have k_76 : ∀  (ls : Array Slot), lv_has ls 10 [(0, .ref (ad 0)), (5, .long t0_21)] → F = f_X6_toWhole_76 t0_21 u4_1 → W p l e (rmd 2) s m args below meth c H locs 0 0 (MQ below (sm_Ql g 19 ad (eM g ad) s.heap.size F) args s 0 0 (sm_AX 19 ad s.heap.size)) (F0 m 76 ls []) := by
          intro ls hl hv
          refine lv_iconst (v := 1) hx hb dX6_toWhole_76 (by decide) ?_
          refine lv_goto (tgt := 81) hx hb dX6_toWhole_77 (by decide) ?_
          exact k_81 1 _ (lv_sub hl [0, 1] rfl) hv
        refine lv_icmp_eq (tgt := 76) hx hb dX6_toWhole_51 (by decide) (fun c51 => ?_) (fun c51 => ?_)
        · have hv := hv.trans (if_pos c51)
          exact k_76 _ (lv_sub hl [1, 0] rfl) hv
        · have hv := hv.trans (if_neg c51)
          refine lv_aload_n hx hb dX6_toWhole_54 rfl (lv_at hl 1 rfl) ?_
          refine lv_aload_n hx hb dX6_toWhole_55 rfl (lv_at hl 1 rfl) ?_
          refine fg_RX6_73 hx hb hts hown hW hB dX6_toWhole_56 ?_
          refine lv_iconst (v := 0) hx hb dX6_toWhole_59 (by decide) ?_
          refine sw_la hx hb hW hB (18) (by decide) (eM_18 g ad) (in_lit (by decide +kernel)) dX6_toWhole_60 ?_
          refine sm_ci (sm_runV (rest := []) hC (c_X6_lengthOf l g ad hW.2.1 _ (u4_1.2.1 18 (Int32.toNatClampNeg 0)) u4_1) k_X6_lengthOf w_664 (by decide) (sm_pv hW hB (by decide) (eM_0 g ad _) rfl) rfl hl.1 rfl (Nat.le_of_ble_eq_true rfl) dX6_toWhole_61) ?_
          refine lv_aload_n hx hb dX6_toWhole_64 rfl (lv_at hl 1 rfl) ?_
          refine fg_RX6_67 hx hb hts hown hW hB dX6_toWhole_65 ?_
          refine lv_iconst (v := 0) hx hb dX6_toWhole_68 (by decide) ?_
          refine sw_ia hx hb hW hB (16) (by decide) (eM_16 g ad) (in_lit (by decide +kernel)) dX6_toWhole_69 ?_
          refine lv_iadd hx hb dX6_toWhole_70 ?_
          refine lv_bipush (v := 63) hx hb dX6_toWhole_71 (by decide) ?_
          refine lv_icmp_le (tgt := 80) hx hb dX6_toWhole_73 (by decide) (fun c73 => ?_) (fun c73 => ?_)
          · have hv := hv.trans (if_pos c73)
            refine lv_iconst (v := 0) hx hb dX6_toWhole_80 (by decide) ?_
            exact k_81 0 _ (lv_sub hl [1, 0] rfl) hv
          · have hv := hv.trans (if_neg c73)
            exact k_76 _ (lv_sub hl [1, 0] rfl) hv
      · have hv := hv.trans (if_pos c39)
        refine lv_lconst (v := 0) hx hb dX6_toWhole_42 (by decide) ?_
        exact sw_rl hx hb hr hlocks hB hv dX6_toWhole_43
  refine lv_if_eq (tgt := 18) hx hb dX6_toWhole_9 (by decide) (fun c9 => ?_) (fun c9 => ?_)
  · have hv := hv.trans (if_pos c9)
    refine lv_ldc2 hx hb hown (hts _ w_619) dX6_toWhole_18 ?_
    exact k_21 2147483647 _ (lv_sub hl [0] rfl) hv
  · have hv := hv.trans (if_neg c9)
    refine lv_ldc2 hx hb hown (hts _ w_618) dX6_toWhole_12 ?_
    refine lv_goto (tgt := 21) hx hb dX6_toWhole_15 (by decide) ?_
    exact k_21 9223372036854775807 _ (lv_sub hl [0] rfl) hv
def f_X6_otherFormat_97 (u4_1 : sm_S) (t0_97 : Int32) : Int64 × sm_S := (f_X6_round t0_97 (u4_1.1 17 (Int32.toNatClampNeg 0)) (u4_1.2.1 18 (Int32.toNatClampNeg 0)) (u4_1.1 16 (Int32.toNatClampNeg 0)) 0, u4_1)
def f_X6_otherFormat_83 (t0_51 : Int32) (u4_1 : sm_S) (t0_83 : Int64) (t1_83 : Int32) : Int64 × sm_S := (f_X6_signed t0_51 t1_83 t0_83, u4_1)
def f_X6_otherFormat_80 (t0_51 : Int32) (u4_1 : sm_S) (t0_80 : Int32) (t2_80 : Int32) : Int64 × sm_S := f_X6_otherFormat_83 t0_51 u4_1 (f_X6_infinite t0_80) t2_80
def f_X6_otherFormat_51 (x1 : Int32) (u4_1 : sm_S) (t0_51 : Int32) : Int64 × sm_S := if (u4_1.1 15 (Int32.toNatClampNeg 0)) = 0 then (f_X6_otherFormat_83 t0_51 u4_1 0 (u4_1.1 17 (Int32.toNatClampNeg 0))) else (if x1 = 0 then (f_X6_otherFormat_80 t0_51 u4_1 1 (u4_1.1 17 (Int32.toNatClampNeg 0))) else (f_X6_otherFormat_80 t0_51 u4_1 0 (u4_1.1 17 (Int32.toNatClampNeg 0))))
def f_X6_otherFormat_27 (u4_1 : sm_S) (t0_27 : Int32) : Int64 × sm_S := (f_X6_none t0_27, u4_1)
def f_X6_otherFormat (σ : sm_S) (x1 : Int32) (x2 : Int64) : Int64 × sm_S := sm_let (f_X6_take σ 0 x2 x1) (fun u4_1 => if (u4_1.1 15 (Int32.toNatClampNeg 0)) = 3 then (if x1 = 0 then (f_X6_otherFormat_27 u4_1 1) else (f_X6_otherFormat_27 u4_1 0)) else (if (u4_1.1 15 (Int32.toNatClampNeg 0)) = 1 then (if x1 = 0 then (f_X6_otherFormat_97 u4_1 1) else (f_X6_otherFormat_97 u4_1 0)) else (if x1 = 0 then (f_X6_otherFormat_51 x1 u4_1 1) else (f_X6_otherFormat_51 x1 u4_1 0))))
set_option maxRecDepth 100000 in
set_option maxHeartbeats 4000000 in
theorem c_X6_otherFormat (l : Launch) (g : sm_G) (ad : Nat → Nat) (hj : sm_inj 19 ad) (sz : Nat) (σ : sm_S) (x1 : Int32) (x2 : Int64)   : Met l yX6_otherFormat (sm_ws yX6_otherFormat cX6_otherFormat 4 (some .long)) (rmd 2) (va_Pc [.ref (ad 0), .int x1, .long x2] (sm_Pre g 19 ad (eM g ad) σ sz)) (sm_Ql g 19 ad (eM g ad) sz (f_X6_otherFormat σ x1 x2)) 0 0 (sm_AX 19 ad sz) := by
  generalize hv : f_X6_otherFormat σ x1 x2 = F
  replace hv := hv.symm
  refine sm_mWl (by decide) (Nat.le_of_ble_eq_true rfl) hj (eM_lay g ad) (fun p e s m args below meth c C hW hB ls hl => ?_)
  obtain ⟨hC, hr, hlocks⟩ := C
  have hx := hC.1
  have hb := hC.2.1
  have hts := hC.2.2.2.2
  have hown : s.vm.findClass RX6 = some m.cls := hC.2.2.2.1
  have hl : lv_has ls 4 [(0, .ref (ad 0)), (1, .int x1), (2, .long x2)] := hl
  refine lv_aload_n hx hb dX6_otherFormat_0 rfl (lv_at hl 0 rfl) ?_
  refine lv_iconst (v := 0) hx hb dX6_otherFormat_1 (by decide) ?_
  refine lv_lload_n hx hb dX6_otherFormat_2 rfl (lv_at hl 2 rfl) ?_
  refine lv_iload_n hx hb dX6_otherFormat_3 rfl (lv_at hl 1 rfl) ?_
  refine sw_cvn hv hB (sm_runV (rest := []) hC (c_X6_take l g ad hW.2.1 _ σ 0 x2 x1 (in_lit (by decide +kernel))) k_X6_take w_610 (by decide) (sm_pv hW hB (by decide) (eM_0 g ad _) rfl) rfl hl.1 rfl (Nat.le_of_ble_eq_true rfl) dX6_otherFormat_4) (fun u4_1 eu4_1 hv H locs hB => ?_)
  refine lv_aload_n hx hb dX6_otherFormat_7 rfl (lv_at hl 0 rfl) ?_
  refine fg_RX6_64 hx hb hts hown hW hB dX6_otherFormat_8 ?_
  refine lv_iconst (v := 0) hx hb dX6_otherFormat_11 (by decide) ?_
  refine sw_ia hx hb hW hB (15) (by decide) (eM_15 g ad) (in_lit (by decide +kernel)) dX6_otherFormat_12 ?_
  refine lv_iconst (v := 3) hx hb dX6_otherFormat_13 (by decide) ?_
  refine lv_icmp_ne (tgt := 31) hx hb dX6_otherFormat_14 (by decide) (fun c14 => ?_) (fun c14 => ?_)
  · have hv := hv.trans (if_neg c14)
    refine lv_aload_n hx hb dX6_otherFormat_31 rfl (lv_at hl 0 rfl) ?_
    refine fg_RX6_64 hx hb hts hown hW hB dX6_otherFormat_32 ?_
    refine lv_iconst (v := 0) hx hb dX6_otherFormat_35 (by decide) ?_
    refine sw_ia hx hb hW hB (15) (by decide) (eM_15 g ad) (in_lit (by decide +kernel)) dX6_otherFormat_36 ?_
    refine lv_iconst (v := 1) hx hb dX6_otherFormat_37 (by decide) ?_
    refine lv_icmp_eq (tgt := 87) hx hb dX6_otherFormat_38 (by decide) (fun c38 => ?_) (fun c38 => ?_)
    · have hv := hv.trans (if_pos c38)
      refine lv_aload_n hx hb dX6_otherFormat_87 rfl (lv_at hl 0 rfl) ?_
      refine lv_iload_n hx hb dX6_otherFormat_88 rfl (lv_at hl 1 rfl) ?_
      have k_97 : ∀ (t0_97 : Int32) (ls : Array Slot), lv_has ls 4 [(0, .ref (ad 0))] → F = f_X6_otherFormat_97 u4_1 t0_97 → W p l e (rmd 2) s m args below meth c H locs 0 0 (MQ below (sm_Ql g 19 ad (eM g ad) s.heap.size F) args s 0 0 (sm_AX 19 ad s.heap.size)) (F0 m 97 ls [.int t0_97, .ref (ad 0)]) := by
        intro t0_97 ls hl hv
        refine lv_aload_n hx hb dX6_otherFormat_97 rfl (lv_at hl 0 rfl) ?_
        refine fg_RX6_70 hx hb hts hown hW hB dX6_otherFormat_98 ?_
        refine lv_iconst (v := 0) hx hb dX6_otherFormat_101 (by decide) ?_
        refine sw_za hx hb hW hB (17) (by decide) (eM_17 g ad) (in_lit (by decide +kernel)) dX6_otherFormat_102 ?_
        refine lv_aload_n hx hb dX6_otherFormat_103 rfl (lv_at hl 0 rfl) ?_
        refine fg_RX6_73 hx hb hts hown hW hB dX6_otherFormat_104 ?_
        refine lv_iconst (v := 0) hx hb dX6_otherFormat_107 (by decide) ?_
        refine sw_la hx hb hW hB (18) (by decide) (eM_18 g ad) (in_lit (by decide +kernel)) dX6_otherFormat_108 ?_
        refine lv_aload_n hx hb dX6_otherFormat_109 rfl (lv_at hl 0 rfl) ?_
        refine fg_RX6_67 hx hb hts hown hW hB dX6_otherFormat_110 ?_
        refine lv_iconst (v := 0) hx hb dX6_otherFormat_113 (by decide) ?_
        refine sw_ia hx hb hW hB (16) (by decide) (eM_16 g ad) (in_lit (by decide +kernel)) dX6_otherFormat_114 ?_
        refine lv_iconst (v := 0) hx hb dX6_otherFormat_115 (by decide) ?_
        refine sm_cl (sm_runV (rest := []) hC (c_X6_round l g ad hW.2.1 _ t0_97 (u4_1.1 17 (Int32.toNatClampNeg 0)) (u4_1.2.1 18 (Int32.toNatClampNeg 0)) (u4_1.1 16 (Int32.toNatClampNeg 0)) 0 u4_1) k_X6_round w_660 (by decide) (sm_pv hW hB (by decide) (eM_0 g ad _) rfl) rfl hl.1 rfl (Nat.le_of_ble_eq_true rfl) dX6_otherFormat_116) ?_
        exact sw_rl hx hb hr hlocks hB hv dX6_otherFormat_119
      refine lv_if_ne (tgt := 96) hx hb dX6_otherFormat_89 (by decide) (fun c89 => ?_) (fun c89 => ?_)
      · have hv := hv.trans (if_neg c89)
        refine lv_iconst (v := 0) hx hb dX6_otherFormat_96 (by decide) ?_
        exact k_97 0 _ (lv_sub hl [0] rfl) hv
      · have hv := hv.trans (if_pos c89)
        refine lv_iconst (v := 1) hx hb dX6_otherFormat_92 (by decide) ?_
        refine lv_goto (tgt := 97) hx hb dX6_otherFormat_93 (by decide) ?_
        exact k_97 1 _ (lv_sub hl [0] rfl) hv
    · have hv := hv.trans (if_neg c38)
      refine lv_aload_n hx hb dX6_otherFormat_41 rfl (lv_at hl 0 rfl) ?_
      refine lv_iload_n hx hb dX6_otherFormat_42 rfl (lv_at hl 1 rfl) ?_
      have k_51 : ∀ (t0_51 : Int32) (ls : Array Slot), lv_has ls 4 [(0, .ref (ad 0)), (1, .int x1)] → F = f_X6_otherFormat_51 x1 u4_1 t0_51 → W p l e (rmd 2) s m args below meth c H locs 0 0 (MQ below (sm_Ql g 19 ad (eM g ad) s.heap.size F) args s 0 0 (sm_AX 19 ad s.heap.size)) (F0 m 51 ls [.int t0_51, .ref (ad 0)]) := by
        intro t0_51 ls hl hv
        refine lv_aload_n hx hb dX6_otherFormat_51 rfl (lv_at hl 0 rfl) ?_
        refine fg_RX6_70 hx hb hts hown hW hB dX6_otherFormat_52 ?_
        refine lv_iconst (v := 0) hx hb dX6_otherFormat_55 (by decide) ?_
        refine sw_za hx hb hW hB (17) (by decide) (eM_17 g ad) (in_lit (by decide +kernel)) dX6_otherFormat_56 ?_
        refine lv_aload_n hx hb dX6_otherFormat_57 rfl (lv_at hl 0 rfl) ?_
        refine fg_RX6_64 hx hb hts hown hW hB dX6_otherFormat_58 ?_
        refine lv_iconst (v := 0) hx hb dX6_otherFormat_61 (by decide) ?_
        refine sw_ia hx hb hW hB (15) (by decide) (eM_15 g ad) (in_lit (by decide +kernel)) dX6_otherFormat_62 ?_
        have k_83 : ∀ (t0_83 : Int64) (t1_83 : Int32) (ls : Array Slot), lv_has ls 4 [] → F = f_X6_otherFormat_83 t0_51 u4_1 t0_83 t1_83 → W p l e (rmd 2) s m args below meth c H locs 0 0 (MQ below (sm_Ql g 19 ad (eM g ad) s.heap.size F) args s 0 0 (sm_AX 19 ad s.heap.size)) (F0 m 83 ls [.long t0_83, .int t1_83, .int t0_51, .ref (ad 0)]) := by
          intro t0_83 t1_83 ls hl hv
          refine sm_cl (sm_runV (rest := []) hC (c_X6_signed l g ad hW.2.1 _ t0_51 t1_83 t0_83 u4_1) k_X6_signed w_674 (by decide) (sm_pv hW hB (by decide) (eM_0 g ad _) rfl) rfl hl.1 rfl (Nat.le_of_ble_eq_true rfl) dX6_otherFormat_83) ?_
          exact sw_rl hx hb hr hlocks hB hv dX6_otherFormat_86
        refine lv_if_ne (tgt := 70) hx hb dX6_otherFormat_63 (by decide) (fun c63 => ?_) (fun c63 => ?_)
        · have hv := hv.trans (if_neg c63)
          refine lv_aload_n hx hb dX6_otherFormat_70 rfl (lv_at hl 0 rfl) ?_
          refine lv_iload_n hx hb dX6_otherFormat_71 rfl (lv_at hl 1 rfl) ?_
          have k_80 : ∀ (t0_80 : Int32) (t2_80 : Int32) (ls : Array Slot), lv_has ls 4 [] → F = f_X6_otherFormat_80 t0_51 u4_1 t0_80 t2_80 → W p l e (rmd 2) s m args below meth c H locs 0 0 (MQ below (sm_Ql g 19 ad (eM g ad) s.heap.size F) args s 0 0 (sm_AX 19 ad s.heap.size)) (F0 m 80 ls [.int t0_80, .ref (ad 0), .int t2_80, .int t0_51, .ref (ad 0)]) := by
            intro t0_80 t2_80 ls hl hv
            refine sm_cl (sm_runV (rest := [.int t2_80, .int t0_51, .ref (ad 0)]) hC (c_X6_infinite l g ad hW.2.1 _ t0_80 u4_1) k_X6_infinite w_668 (by decide) (sm_pv hW hB (by decide) (eM_0 g ad _) rfl) rfl hl.1 rfl (Nat.le_of_ble_eq_true rfl) dX6_otherFormat_80) ?_
            exact k_83 (f_X6_infinite t0_80) t2_80 _ (lv_sub hl [] rfl) hv
          refine lv_if_ne (tgt := 79) hx hb dX6_otherFormat_72 (by decide) (fun c72 => ?_) (fun c72 => ?_)
          · have hv := hv.trans (if_neg c72)
            refine lv_iconst (v := 0) hx hb dX6_otherFormat_79 (by decide) ?_
            exact k_80 0 (u4_1.1 17 (Int32.toNatClampNeg 0)) _ (lv_sub hl [] rfl) hv
          · have hv := hv.trans (if_pos c72)
            refine lv_iconst (v := 1) hx hb dX6_otherFormat_75 (by decide) ?_
            refine lv_goto (tgt := 80) hx hb dX6_otherFormat_76 (by decide) ?_
            exact k_80 1 (u4_1.1 17 (Int32.toNatClampNeg 0)) _ (lv_sub hl [] rfl) hv
        · have hv := hv.trans (if_pos c63)
          refine lv_lconst (v := 0) hx hb dX6_otherFormat_66 (by decide) ?_
          refine lv_goto (tgt := 83) hx hb dX6_otherFormat_67 (by decide) ?_
          exact k_83 0 (u4_1.1 17 (Int32.toNatClampNeg 0)) _ (lv_sub hl [] rfl) hv
      refine lv_if_ne (tgt := 50) hx hb dX6_otherFormat_43 (by decide) (fun c43 => ?_) (fun c43 => ?_)
      · have hv := hv.trans (if_neg c43)
        refine lv_iconst (v := 0) hx hb dX6_otherFormat_50 (by decide) ?_
        exact k_51 0 _ (lv_sub hl [0, 1] rfl) hv
      · have hv := hv.trans (if_pos c43)
        refine lv_iconst (v := 1) hx hb dX6_otherFormat_46 (by decide) ?_
        refine lv_goto (tgt := 51) hx hb dX6_otherFormat_47 (by decide) ?_
        exact k_51 1 _ (lv_sub hl [0, 1] rfl) hv
  · have hv := hv.trans (if_pos c14)
    refine lv_aload_n hx hb dX6_otherFormat_17 rfl (lv_at hl 0 rfl) ?_
    refine lv_iload_n hx hb dX6_otherFormat_18 rfl (lv_at hl 1 rfl) ?_
    have k_27 : ∀ (t0_27 : Int32) (ls : Array Slot), lv_has ls 4 [] → F = f_X6_otherFormat_27 u4_1 t0_27 → W p l e (rmd 2) s m args below meth c H locs 0 0 (MQ below (sm_Ql g 19 ad (eM g ad) s.heap.size F) args s 0 0 (sm_AX 19 ad s.heap.size)) (F0 m 27 ls [.int t0_27, .ref (ad 0)]) := by
      intro t0_27 ls hl hv
      refine sm_cl (sm_runV (rest := []) hC (c_X6_none l g ad hW.2.1 _ t0_27 u4_1) k_X6_none w_624 (by decide) (sm_pv hW hB (by decide) (eM_0 g ad _) rfl) rfl hl.1 rfl (Nat.le_of_ble_eq_true rfl) dX6_otherFormat_27) ?_
      exact sw_rl hx hb hr hlocks hB hv dX6_otherFormat_30
    refine lv_if_ne (tgt := 26) hx hb dX6_otherFormat_19 (by decide) (fun c19 => ?_) (fun c19 => ?_)
    · have hv := hv.trans (if_neg c19)
      refine lv_iconst (v := 0) hx hb dX6_otherFormat_26 (by decide) ?_
      exact k_27 0 _ (lv_sub hl [] rfl) hv
    · have hv := hv.trans (if_pos c19)
      refine lv_iconst (v := 1) hx hb dX6_otherFormat_22 (by decide) ?_
      refine lv_goto (tgt := 27) hx hb dX6_otherFormat_23 (by decide) ?_
      exact k_27 1 _ (lv_sub hl [] rfl) hv
def f_X6_isNone (σ : sm_S) (x1 : Int32) (x2 : Int64) : Int32 × sm_S := sm_let (f_X6_take σ 0 x2 x1) (fun u4_1 => if (u4_1.1 15 (Int32.toNatClampNeg 0)) = 3 then ((1, u4_1)) else ((0, u4_1)))
set_option maxRecDepth 100000 in
set_option maxHeartbeats 4000000 in
theorem c_X6_isNone (l : Launch) (g : sm_G) (ad : Nat → Nat) (hj : sm_inj 19 ad) (sz : Nat) (σ : sm_S) (x1 : Int32) (x2 : Int64)   : Met l yX6_isNone (sm_ws yX6_isNone cX6_isNone 4 (some .boolean)) (rmd 2) (va_Pc [.ref (ad 0), .int x1, .long x2] (sm_Pre g 19 ad (eM g ad) σ sz)) (sm_Qi g 19 ad (eM g ad) sz (f_X6_isNone σ x1 x2)) 0 0 (sm_AX 19 ad sz) := by
  generalize hv : f_X6_isNone σ x1 x2 = F
  replace hv := hv.symm
  refine sm_mWi (by decide) (Nat.le_of_ble_eq_true rfl) hj (eM_lay g ad) (fun p e s m args below meth c C hW hB ls hl => ?_)
  obtain ⟨hC, hr, hlocks⟩ := C
  have hx := hC.1
  have hb := hC.2.1
  have hts := hC.2.2.2.2
  have hown : s.vm.findClass RX6 = some m.cls := hC.2.2.2.1
  have hl : lv_has ls 4 [(0, .ref (ad 0)), (1, .int x1), (2, .long x2)] := hl
  refine lv_aload_n hx hb dX6_isNone_0 rfl (lv_at hl 0 rfl) ?_
  refine lv_iconst (v := 0) hx hb dX6_isNone_1 (by decide) ?_
  refine lv_lload_n hx hb dX6_isNone_2 rfl (lv_at hl 2 rfl) ?_
  refine lv_iload_n hx hb dX6_isNone_3 rfl (lv_at hl 1 rfl) ?_
  refine sw_cvn hv hB (sm_runV (rest := []) hC (c_X6_take l g ad hW.2.1 _ σ 0 x2 x1 (in_lit (by decide +kernel))) k_X6_take w_610 (by decide) (sm_pv hW hB (by decide) (eM_0 g ad _) rfl) rfl hl.1 rfl (Nat.le_of_ble_eq_true rfl) dX6_isNone_4) (fun u4_1 eu4_1 hv H locs hB => ?_)
  refine lv_aload_n hx hb dX6_isNone_7 rfl (lv_at hl 0 rfl) ?_
  refine fg_RX6_64 hx hb hts hown hW hB dX6_isNone_8 ?_
  refine lv_iconst (v := 0) hx hb dX6_isNone_11 (by decide) ?_
  refine sw_ia hx hb hW hB (15) (by decide) (eM_15 g ad) (in_lit (by decide +kernel)) dX6_isNone_12 ?_
  refine lv_iconst (v := 3) hx hb dX6_isNone_13 (by decide) ?_
  refine lv_icmp_ne (tgt := 21) hx hb dX6_isNone_14 (by decide) (fun c14 => ?_) (fun c14 => ?_)
  · have hv := hv.trans (if_neg c14)
    refine lv_iconst (v := 0) hx hb dX6_isNone_21 (by decide) ?_
    exact sw_rz hx hb hr hlocks hB rfl hv dX6_isNone_22
  · have hv := hv.trans (if_pos c14)
    refine lv_iconst (v := 1) hx hb dX6_isNone_17 (by decide) ?_
    refine lv_goto (tgt := 22) hx hb dX6_isNone_18 (by decide) ?_
    exact sw_rz hx hb hr hlocks hB rfl hv dX6_isNone_22
def f_X6_rank_17 (x2 : Int64) (t0_17 : Int64) : Int64 := if 0 ≤ x2 then t0_17 else (((-1)) - t0_17)
def f_X6_rank (x1 : Int32) (x2 : Int64) : Int64 := if x1 = 0 then (f_X6_rank_17 x2 (x2 &&& 2147483647)) else (f_X6_rank_17 x2 (x2 &&& 9223372036854775807))
set_option maxRecDepth 100000 in
set_option maxHeartbeats 4000000 in
theorem c_X6_rank (l : Launch) (g : sm_G) (ad : Nat → Nat) (hj : sm_inj 19 ad) (sz : Nat) (x1 : Int32) (x2 : Int64) (σ : sm_S)   : Met l yX6_rank (sm_ws yX6_rank cX6_rank 6 (some .long)) (rmd 0) (va_Pc [.ref (ad 0), .int x1, .long x2] (sm_Pre g 19 ad (eM g ad) σ sz)) (vp_Sl (fun r => r = f_X6_rank x1 x2)) 0 0 (fun _ => False) := by
  generalize hv : f_X6_rank x1 x2 = F
  replace hv := hv.symm
  refine sm_mR (by decide) (Nat.le_of_ble_eq_true rfl) hj (eM_lay g ad) (fun p e s m args below meth c C hW hB ls hl => ?_)
  obtain ⟨hC, hr, hlocks⟩ := C
  have hx := hC.1
  have hb := hC.2.1
  have hts := hC.2.2.2.2
  have hown : s.vm.findClass RX6 = some m.cls := hC.2.2.2.1
  have hl : lv_has ls 6 [(0, .ref (ad 0)), (1, .int x1), (2, .long x2)] := hl
  refine lv_iload_n hx hb dX6_rank_0 rfl (lv_at hl 1 rfl) ?_
  have k_17 : ∀ (t0_17 : Int64) (ls : Array Slot), lv_has ls 6 [(2, .long x2)] → F = f_X6_rank_17 x2 t0_17 → W p l e (rmd 0) s m args below meth c s.heap [] 0 0 (MQ below (vp_Sl (fun r => r = F)) args s 0 0 (fun _ => False)) (F0 m 17 ls [.long t0_17]) := by
    intro t0_17 ls hl hv
    refine lv_lstore (lv' := [(4, .long t0_17), (2, .long x2)]) hx hb dX6_rank_17 hl (by decide) rfl (fun ls hl => ?_)
    refine lv_lload_n hx hb dX6_rank_19 rfl (lv_at hl 1 rfl) ?_
    refine lv_lconst (v := 0) hx hb dX6_rank_20 (by decide) ?_
    refine lc_ge (tgt := 34) hx hb dX6_rank_21 dX6_rank_22 (by decide) (fun c21 => ?_) (fun c21 => ?_)
    · have hv := hv.trans (if_pos c21)
      refine lv_lload hx hb dX6_rank_34 (lv_at hl 0 rfl) ?_
      exact sm_rl hx hb hr hlocks hv dX6_rank_36
    · have hv := hv.trans (if_neg c21)
      refine lv_ldc2 hx hb hown (hts _ w_708) dX6_rank_25 ?_
      refine lv_lload hx hb dX6_rank_28 (lv_at hl 0 rfl) ?_
      refine lv_lsub hx hb dX6_rank_30 ?_
      refine lv_goto (tgt := 36) hx hb dX6_rank_31 (by decide) ?_
      exact sm_rl hx hb hr hlocks hv dX6_rank_36
  refine lv_if_eq (tgt := 12) hx hb dX6_rank_1 (by decide) (fun c1 => ?_) (fun c1 => ?_)
  · have hv := hv.trans (if_pos c1)
    refine lv_lload_n hx hb dX6_rank_12 rfl (lv_at hl 2 rfl) ?_
    refine lv_ldc2 hx hb hown (hts _ w_619) dX6_rank_13 ?_
    refine lv_land hx hb dX6_rank_16 ?_
    exact k_17 (x2 &&& 2147483647) _ (lv_sub hl [2] rfl) hv
  · have hv := hv.trans (if_neg c1)
    refine lv_lload_n hx hb dX6_rank_4 rfl (lv_at hl 2 rfl) ?_
    refine lv_ldc2 hx hb hown (hts _ w_618) dX6_rank_5 ?_
    refine lv_land hx hb dX6_rank_8 ?_
    refine lv_goto (tgt := 17) hx hb dX6_rank_9 (by decide) ?_
    exact k_17 (x2 &&& 9223372036854775807) _ (lv_sub hl [2] rfl) hv
def f_X6_compared_108 (v8_96 : Int64) (σ : sm_S) (v10_108 : Int64) : Int32 × sm_S := if v10_108 ≤ v8_96 then (if v8_96 ≤ v10_108 then ((0, σ)) else ((1, σ))) else (((-1), σ))
def f_X6_compared_96 (y82_4 : Int64) (σ : sm_S) (v8_96 : Int64) : Int32 × sm_S := if y82_4 = ((-1)) then (f_X6_compared_108 v8_96 σ 0) else (f_X6_compared_108 v8_96 σ y82_4)
def f_X6_compared_39 (x2 : Int64) (x4 : Int64) (x6 : Int32) (σ : sm_S) (t0_39 : Int32) : Int32 × sm_S := sm_let (f_X6_isNone σ t0_39 x2) (fun u45_1 => if u45_1.1 = 0 then (sm_let (f_X6_isNone u45_1.2 t0_39 x4) (fun u56_2 => if u56_2.1 = 0 then (sm_let (f_X6_rank t0_39 x2) (fun y72_3 => sm_let (f_X6_rank t0_39 x4) (fun y82_4 => if y72_3 = ((-1)) then (f_X6_compared_96 y82_4 u56_2.2 0) else (f_X6_compared_96 y82_4 u56_2.2 y72_3)))) else ((x6, u56_2.2)))) else ((x6, u45_1.2)))
def f_X6_compared (σ : sm_S) (x1 : Int32) (x2 : Int64) (x4 : Int64) (x6 : Int32) : Int32 × sm_S := if x1 = 1 then (if x4 ≤ x2 then (if x2 ≤ x4 then ((0, σ)) else ((1, σ))) else (((-1), σ))) else (if x1 = 3 then (f_X6_compared_39 x2 x4 x6 σ 1) else (f_X6_compared_39 x2 x4 x6 σ 0))
set_option maxRecDepth 100000 in
set_option maxHeartbeats 4000000 in
theorem c_X6_compared (l : Launch) (g : sm_G) (ad : Nat → Nat) (hj : sm_inj 19 ad) (sz : Nat) (σ : sm_S) (x1 : Int32) (x2 : Int64) (x4 : Int64) (x6 : Int32)   : Met l yX6_compared (sm_ws yX6_compared cX6_compared 12 (some .int)) (rmd 3) (va_Pc [.ref (ad 0), .int x1, .long x2, .long x4, .int x6] (sm_Pre g 19 ad (eM g ad) σ sz)) (sm_Qi g 19 ad (eM g ad) sz (f_X6_compared σ x1 x2 x4 x6)) 0 0 (sm_AX 19 ad sz) := by
  generalize hv : f_X6_compared σ x1 x2 x4 x6 = F
  replace hv := hv.symm
  refine sm_mWi (by decide) (Nat.le_of_ble_eq_true rfl) hj (eM_lay g ad) (fun p e s m args below meth c C hW hB ls hl => ?_)
  obtain ⟨hC, hr, hlocks⟩ := C
  have hx := hC.1
  have hb := hC.2.1
  have hts := hC.2.2.2.2
  have hown : s.vm.findClass RX6 = some m.cls := hC.2.2.2.1
  have hl : lv_has ls 12 [(0, .ref (ad 0)), (1, .int x1), (2, .long x2), (4, .long x4), (6, .int x6)] := hl
  refine lv_iload_n hx hb dX6_compared_0 rfl (lv_at hl 1 rfl) ?_
  refine lv_iconst (v := 1) hx hb dX6_compared_1 (by decide) ?_
  refine lv_icmp_ne (tgt := 29) hx hb dX6_compared_2 (by decide) (fun c2 => ?_) (fun c2 => ?_)
  · have hv := hv.trans (if_neg c2)
    refine lv_iload_n hx hb dX6_compared_29 rfl (lv_at hl 1 rfl) ?_
    refine lv_iconst (v := 3) hx hb dX6_compared_30 (by decide) ?_
    have k_39 : ∀ (t0_39 : Int32) (ls : Array Slot), lv_has ls 12 [(0, .ref (ad 0)), (2, .long x2), (4, .long x4), (6, .int x6)] → F = f_X6_compared_39 x2 x4 x6 σ t0_39 → W p l e (rmd 3) s m args below meth c s.heap [] 0 0 (MQ below (sm_Qi g 19 ad (eM g ad) s.heap.size F) args s 0 0 (sm_AX 19 ad s.heap.size)) (F0 m 39 ls [.int t0_39]) := by
      intro t0_39 ls hl hv
      refine lv_istore (lv' := [(7, .int t0_39), (0, .ref (ad 0)), (2, .long x2), (4, .long x4), (6, .int x6)]) hx hb dX6_compared_39 hl (by decide) rfl (fun ls hl => ?_)
      refine lv_aload_n hx hb dX6_compared_41 rfl (lv_at hl 1 rfl) ?_
      refine lv_iload hx hb dX6_compared_42 (lv_at hl 0 rfl) ?_
      refine lv_lload_n hx hb dX6_compared_44 rfl (lv_at hl 2 rfl) ?_
      refine sw_cin hv hB (sm_runV (rest := []) hC (c_X6_isNone l g ad hW.2.1 _ σ t0_39 x2) k_X6_isNone w_606 (by decide) (sm_pv hW hB (by decide) (eM_0 g ad _) rfl) rfl hl.1 rfl (Nat.le_of_ble_eq_true rfl) dX6_compared_45) (fun u45_1 eu45_1 hv H locs hB => ?_)
      refine lv_if_ne (tgt := 62) hx hb dX6_compared_48 (by decide) (fun c48 => ?_) (fun c48 => ?_)
      · have hv := hv.trans (if_neg c48)
        refine lv_iload hx hb dX6_compared_62 (lv_at hl 4 rfl) ?_
        exact sw_ri hx hb hr hlocks hB hv dX6_compared_64
      · have hv := hv.trans (if_pos c48)
        refine lv_aload_n hx hb dX6_compared_51 rfl (lv_at hl 1 rfl) ?_
        refine lv_iload hx hb dX6_compared_52 (lv_at hl 0 rfl) ?_
        refine lv_lload hx hb dX6_compared_54 (lv_at hl 3 rfl) ?_
        refine sw_cin hv hB (sm_runV (rest := []) hC (c_X6_isNone l g ad hW.2.1 _ u45_1.2 t0_39 x4) k_X6_isNone w_606 (by decide) (sm_pv hW hB (by decide) (eM_0 g ad _) rfl) rfl hl.1 rfl (Nat.le_of_ble_eq_true rfl) dX6_compared_56) (fun u56_2 eu56_2 hv H locs hB => ?_)
        refine lv_if_eq (tgt := 65) hx hb dX6_compared_59 (by decide) (fun c59 => ?_) (fun c59 => ?_)
        · have hv := hv.trans (if_pos c59)
          refine lv_aload_n hx hb dX6_compared_65 rfl (lv_at hl 1 rfl) ?_
          refine lv_iload hx hb dX6_compared_66 (lv_at hl 0 rfl) ?_
          refine lv_lload_n hx hb dX6_compared_68 rfl (lv_at hl 2 rfl) ?_
          refine sm_cl (sm_runV (rest := []) hC (c_X6_rank l g ad hW.2.1 _ t0_39 x2 u56_2.2) k_X6_rank w_704 (by decide) (sm_pv hW hB (by decide) (eM_0 g ad _) rfl) rfl hl.1 rfl (Nat.le_of_ble_eq_true rfl) dX6_compared_69) ?_
          refine sm_nml hv (fun y72_3 ey72_3 hv => ?_)
          refine lv_lstore (lv' := [(8, .long y72_3), (7, .int t0_39), (0, .ref (ad 0)), (2, .long x2), (4, .long x4), (6, .int x6)]) hx hb dX6_compared_72 hl (by decide) rfl (fun ls hl => ?_)
          refine lv_aload_n hx hb dX6_compared_74 rfl (lv_at hl 2 rfl) ?_
          refine lv_iload hx hb dX6_compared_75 (lv_at hl 1 rfl) ?_
          refine lv_lload hx hb dX6_compared_77 (lv_at hl 4 rfl) ?_
          refine sm_cl (sm_runV (rest := []) hC (c_X6_rank l g ad hW.2.1 _ t0_39 x4 u56_2.2) k_X6_rank w_704 (by decide) (sm_pv hW hB (by decide) (eM_0 g ad _) rfl) rfl hl.1 rfl (Nat.le_of_ble_eq_true rfl) dX6_compared_79) ?_
          refine sm_nml hv (fun y82_4 ey82_4 hv => ?_)
          refine lv_lstore (lv' := [(10, .long y82_4), (8, .long y72_3), (7, .int t0_39), (0, .ref (ad 0)), (2, .long x2), (4, .long x4), (6, .int x6)]) hx hb dX6_compared_82 hl (by decide) rfl (fun ls hl => ?_)
          refine lv_lload hx hb dX6_compared_84 (lv_at hl 1 rfl) ?_
          refine lv_ldc2 hx hb hown (hts _ w_708) dX6_compared_86 ?_
          have k_96 : ∀ (v8_96 : Int64) (σ : sm_S) (ls : Array Slot) (H : Heap) (locs : List Loc), lv_has ls 12 [(8, .long v8_96), (10, .long y82_4)] → sm_B g 19 ad (eM g ad) s H locs σ → F = f_X6_compared_96 y82_4 σ v8_96 → W p l e (rmd 3) s m args below meth c H locs 0 0 (MQ below (sm_Qi g 19 ad (eM g ad) s.heap.size F) args s 0 0 (sm_AX 19 ad s.heap.size)) (F0 m 96 ls []) := by
            intro v8_96 σ ls H locs hl hB hv
            refine lv_lload hx hb dX6_compared_96 (lv_at hl 1 rfl) ?_
            refine lv_ldc2 hx hb hown (hts _ w_708) dX6_compared_98 ?_
            have k_108 : ∀ (v10_108 : Int64) (ls : Array Slot), lv_has ls 12 [(8, .long v8_96), (10, .long v10_108)] → F = f_X6_compared_108 v8_96 σ v10_108 → W p l e (rmd 3) s m args below meth c H locs 0 0 (MQ below (sm_Qi g 19 ad (eM g ad) s.heap.size F) args s 0 0 (sm_AX 19 ad s.heap.size)) (F0 m 108 ls []) := by
              intro v10_108 ls hl hv
              refine lv_lload hx hb dX6_compared_108 (lv_at hl 0 rfl) ?_
              refine lv_lload hx hb dX6_compared_110 (lv_at hl 1 rfl) ?_
              refine lc_ge (tgt := 120) hx hb dX6_compared_112 dX6_compared_113 (by decide) (fun c112 => ?_) (fun c112 => ?_)
              · have hv := hv.trans (if_pos c112)
                refine lv_lload hx hb dX6_compared_120 (lv_at hl 0 rfl) ?_
                refine lv_lload hx hb dX6_compared_122 (lv_at hl 1 rfl) ?_
                refine lc_le (tgt := 132) hx hb dX6_compared_124 dX6_compared_125 (by decide) (fun c124 => ?_) (fun c124 => ?_)
                · have hv := hv.trans (if_pos c124)
                  refine lv_iconst (v := 0) hx hb dX6_compared_132 (by decide) ?_
                  exact sw_ri hx hb hr hlocks hB hv dX6_compared_133
                · have hv := hv.trans (if_neg c124)
                  refine lv_iconst (v := 1) hx hb dX6_compared_128 (by decide) ?_
                  refine lv_goto (tgt := 133) hx hb dX6_compared_129 (by decide) ?_
                  exact sw_ri hx hb hr hlocks hB hv dX6_compared_133
              · have hv := hv.trans (if_neg c112)
                refine lv_iconst (v := -1) hx hb dX6_compared_116 (by decide) ?_
                refine lv_goto (tgt := 133) hx hb dX6_compared_117 (by decide) ?_
                exact sw_ri hx hb hr hlocks hB hv dX6_compared_133
            refine lc_ne (tgt := 108) hx hb dX6_compared_101 dX6_compared_102 (by decide) (fun c101 => ?_) (fun c101 => ?_)
            · have hv := hv.trans (if_neg c101)
              exact k_108 y82_4 _ (lv_sub hl [0, 1] rfl) hv
            · have hv := hv.trans (if_pos c101)
              refine lv_lconst (v := 0) hx hb dX6_compared_105 (by decide) ?_
              refine lv_lstore (lv' := [(10, .long 0), (8, .long v8_96)]) hx hb dX6_compared_106 hl (by decide) rfl (fun ls hl => ?_)
              exact k_108 0 _ (lv_sub hl [1, 0] rfl) hv
          refine lc_ne (tgt := 96) hx hb dX6_compared_89 dX6_compared_90 (by decide) (fun c89 => ?_) (fun c89 => ?_)
          · have hv := hv.trans (if_neg c89)
            exact k_96 y72_3 u56_2.2 _ _ _ (lv_sub hl [1, 0] rfl) hB hv
          · have hv := hv.trans (if_pos c89)
            refine lv_lconst (v := 0) hx hb dX6_compared_93 (by decide) ?_
            refine lv_lstore (lv' := [(8, .long 0), (10, .long y82_4), (7, .int t0_39), (0, .ref (ad 0)), (2, .long x2), (4, .long x4), (6, .int x6)]) hx hb dX6_compared_94 hl (by decide) rfl (fun ls hl => ?_)
            exact k_96 0 u56_2.2 _ _ _ (lv_sub hl [0, 1] rfl) hB hv
        · have hv := hv.trans (if_neg c59)
          refine lv_iload hx hb dX6_compared_62 (lv_at hl 4 rfl) ?_
          exact sw_ri hx hb hr hlocks hB hv dX6_compared_64
    refine lv_icmp_ne (tgt := 38) hx hb dX6_compared_31 (by decide) (fun c31 => ?_) (fun c31 => ?_)
    · have hv := hv.trans (if_neg c31)
      refine lv_iconst (v := 0) hx hb dX6_compared_38 (by decide) ?_
      exact k_39 0 _ (lv_sub hl [0, 2, 3, 4] rfl) hv
    · have hv := hv.trans (if_pos c31)
      refine lv_iconst (v := 1) hx hb dX6_compared_34 (by decide) ?_
      refine lv_goto (tgt := 39) hx hb dX6_compared_35 (by decide) ?_
      exact k_39 1 _ (lv_sub hl [0, 2, 3, 4] rfl) hv
  · have hv := hv.trans (if_pos c2)
    refine lv_lload_n hx hb dX6_compared_5 rfl (lv_at hl 2 rfl) ?_
    refine lv_lload hx hb dX6_compared_6 (lv_at hl 3 rfl) ?_
    refine lc_ge (tgt := 16) hx hb dX6_compared_8 dX6_compared_9 (by decide) (fun c8 => ?_) (fun c8 => ?_)
    · have hv := hv.trans (if_pos c8)
      refine lv_lload_n hx hb dX6_compared_16 rfl (lv_at hl 2 rfl) ?_
      refine lv_lload hx hb dX6_compared_17 (lv_at hl 3 rfl) ?_
      refine lc_le (tgt := 27) hx hb dX6_compared_19 dX6_compared_20 (by decide) (fun c19 => ?_) (fun c19 => ?_)
      · have hv := hv.trans (if_pos c19)
        refine lv_iconst (v := 0) hx hb dX6_compared_27 (by decide) ?_
        exact sw_ri hx hb hr hlocks hB hv dX6_compared_28
      · have hv := hv.trans (if_neg c19)
        refine lv_iconst (v := 1) hx hb dX6_compared_23 (by decide) ?_
        refine lv_goto (tgt := 28) hx hb dX6_compared_24 (by decide) ?_
        exact sw_ri hx hb hr hlocks hB hv dX6_compared_28
    · have hv := hv.trans (if_neg c8)
      refine lv_iconst (v := -1) hx hb dX6_compared_12 (by decide) ?_
      refine lv_goto (tgt := 28) hx hb dX6_compared_13 (by decide) ?_
      exact sw_ri hx hb hr hlocks hB hv dX6_compared_28
def f_X6_clean_53 (σ : sm_S) (t0_53 : Int32) : Int64 × sm_S := (f_X6_none t0_53, σ)
def f_X6_clean_34 (x1 : Int32) (t0_16 : Int64) (σ : sm_S) (t0_34 : Int32) : Int64 × sm_S := sm_let (f_X6_isNone σ t0_34 t0_16) (fun u36_1 => if u36_1.1 = 0 then ((t0_16, u36_1.2)) else (if x1 = 3 then (f_X6_clean_53 u36_1.2 1) else (f_X6_clean_53 u36_1.2 0)))
def f_X6_clean_16 (x1 : Int32) (σ : sm_S) (t0_16 : Int64) : Int64 × sm_S := if x1 ≤ 1 then ((t0_16, σ)) else (if x1 = 3 then (f_X6_clean_34 x1 t0_16 σ 1) else (f_X6_clean_34 x1 t0_16 σ 0))
def f_X6_clean_9 (x1 : Int32) (x2 : Int64) (σ : sm_S) : Int64 × sm_S := f_X6_clean_16 x1 σ (Int32.toInt64 (Int64.toInt32 x2))
def f_X6_clean (σ : sm_S) (x1 : Int32) (x2 : Int64) : Int64 × sm_S := if x1 = 0 then (f_X6_clean_9 x1 x2 σ) else (if x1 = 2 then (f_X6_clean_9 x1 x2 σ) else (f_X6_clean_16 x1 σ x2))
set_option maxRecDepth 100000 in
set_option maxHeartbeats 4000000 in
theorem c_X6_clean (l : Launch) (g : sm_G) (ad : Nat → Nat) (hj : sm_inj 19 ad) (sz : Nat) (σ : sm_S) (x1 : Int32) (x2 : Int64)   : Met l yX6_clean (sm_ws yX6_clean cX6_clean 6 (some .long)) (rmd 3) (va_Pc [.ref (ad 0), .int x1, .long x2] (sm_Pre g 19 ad (eM g ad) σ sz)) (sm_Ql g 19 ad (eM g ad) sz (f_X6_clean σ x1 x2)) 0 0 (sm_AX 19 ad sz) := by
  generalize hv : f_X6_clean σ x1 x2 = F
  replace hv := hv.symm
  refine sm_mWl (by decide) (Nat.le_of_ble_eq_true rfl) hj (eM_lay g ad) (fun p e s m args below meth c C hW hB ls hl => ?_)
  obtain ⟨hC, hr, hlocks⟩ := C
  have hx := hC.1
  have hb := hC.2.1
  have hts := hC.2.2.2.2
  have hown : s.vm.findClass RX6 = some m.cls := hC.2.2.2.1
  have hl : lv_has ls 6 [(0, .ref (ad 0)), (1, .int x1), (2, .long x2)] := hl
  refine lv_iload_n hx hb dX6_clean_0 rfl (lv_at hl 1 rfl) ?_
  have k_16 : ∀ (t0_16 : Int64) (ls : Array Slot), lv_has ls 6 [(0, .ref (ad 0)), (1, .int x1)] → F = f_X6_clean_16 x1 σ t0_16 → W p l e (rmd 3) s m args below meth c s.heap [] 0 0 (MQ below (sm_Ql g 19 ad (eM g ad) s.heap.size F) args s 0 0 (sm_AX 19 ad s.heap.size)) (F0 m 16 ls [.long t0_16]) := by
    intro t0_16 ls hl hv
    refine lv_lstore (lv' := [(4, .long t0_16), (0, .ref (ad 0)), (1, .int x1)]) hx hb dX6_clean_16 hl (by decide) rfl (fun ls hl => ?_)
    refine lv_iload_n hx hb dX6_clean_18 rfl (lv_at hl 2 rfl) ?_
    refine lv_iconst (v := 1) hx hb dX6_clean_19 (by decide) ?_
    refine lv_icmp_le (tgt := 59) hx hb dX6_clean_20 (by decide) (fun c20 => ?_) (fun c20 => ?_)
    · have hv := hv.trans (if_pos c20)
      refine lv_lload hx hb dX6_clean_59 (lv_at hl 0 rfl) ?_
      exact sw_rl hx hb hr hlocks hB hv dX6_clean_61
    · have hv := hv.trans (if_neg c20)
      refine lv_aload_n hx hb dX6_clean_23 rfl (lv_at hl 1 rfl) ?_
      refine lv_iload_n hx hb dX6_clean_24 rfl (lv_at hl 2 rfl) ?_
      refine lv_iconst (v := 3) hx hb dX6_clean_25 (by decide) ?_
      have k_34 : ∀ (t0_34 : Int32) (ls : Array Slot), lv_has ls 6 [(0, .ref (ad 0)), (1, .int x1), (4, .long t0_16)] → F = f_X6_clean_34 x1 t0_16 σ t0_34 → W p l e (rmd 3) s m args below meth c s.heap [] 0 0 (MQ below (sm_Ql g 19 ad (eM g ad) s.heap.size F) args s 0 0 (sm_AX 19 ad s.heap.size)) (F0 m 34 ls [.int t0_34, .ref (ad 0)]) := by
        intro t0_34 ls hl hv
        refine lv_lload hx hb dX6_clean_34 (lv_at hl 2 rfl) ?_
        refine sw_cin hv hB (sm_runV (rest := []) hC (c_X6_isNone l g ad hW.2.1 _ σ t0_34 t0_16) k_X6_isNone w_606 (by decide) (sm_pv hW hB (by decide) (eM_0 g ad _) rfl) rfl hl.1 rfl (Nat.le_of_ble_eq_true rfl) dX6_clean_36) (fun u36_1 eu36_1 hv H locs hB => ?_)
        refine lv_if_eq (tgt := 59) hx hb dX6_clean_39 (by decide) (fun c39 => ?_) (fun c39 => ?_)
        · have hv := hv.trans (if_pos c39)
          refine lv_lload hx hb dX6_clean_59 (lv_at hl 2 rfl) ?_
          exact sw_rl hx hb hr hlocks hB hv dX6_clean_61
        · have hv := hv.trans (if_neg c39)
          refine lv_aload_n hx hb dX6_clean_42 rfl (lv_at hl 0 rfl) ?_
          refine lv_iload_n hx hb dX6_clean_43 rfl (lv_at hl 1 rfl) ?_
          refine lv_iconst (v := 3) hx hb dX6_clean_44 (by decide) ?_
          have k_53 : ∀ (t0_53 : Int32) (σ : sm_S) (ls : Array Slot) (H : Heap) (locs : List Loc), lv_has ls 6 [] → sm_B g 19 ad (eM g ad) s H locs σ → F = f_X6_clean_53 σ t0_53 → W p l e (rmd 3) s m args below meth c H locs 0 0 (MQ below (sm_Ql g 19 ad (eM g ad) s.heap.size F) args s 0 0 (sm_AX 19 ad s.heap.size)) (F0 m 53 ls [.int t0_53, .ref (ad 0)]) := by
            intro t0_53 σ ls H locs hl hB hv
            refine sm_cl (sm_runV (rest := []) hC (c_X6_none l g ad hW.2.1 _ t0_53 σ) k_X6_none w_624 (by decide) (sm_pv hW hB (by decide) (eM_0 g ad _) rfl) rfl hl.1 rfl (Nat.le_of_ble_eq_true rfl) dX6_clean_53) ?_
            refine lv_goto (tgt := 61) hx hb dX6_clean_56 (by decide) ?_
            exact sw_rl hx hb hr hlocks hB hv dX6_clean_61
          refine lv_icmp_ne (tgt := 52) hx hb dX6_clean_45 (by decide) (fun c45 => ?_) (fun c45 => ?_)
          · have hv := hv.trans (if_neg c45)
            refine lv_iconst (v := 0) hx hb dX6_clean_52 (by decide) ?_
            exact k_53 0 u36_1.2 _ _ _ (lv_sub hl [] rfl) hB hv
          · have hv := hv.trans (if_pos c45)
            refine lv_iconst (v := 1) hx hb dX6_clean_48 (by decide) ?_
            refine lv_goto (tgt := 53) hx hb dX6_clean_49 (by decide) ?_
            exact k_53 1 u36_1.2 _ _ _ (lv_sub hl [] rfl) hB hv
      refine lv_icmp_ne (tgt := 33) hx hb dX6_clean_26 (by decide) (fun c26 => ?_) (fun c26 => ?_)
      · have hv := hv.trans (if_neg c26)
        refine lv_iconst (v := 0) hx hb dX6_clean_33 (by decide) ?_
        exact k_34 0 _ (lv_sub hl [1, 2, 0] rfl) hv
      · have hv := hv.trans (if_pos c26)
        refine lv_iconst (v := 1) hx hb dX6_clean_29 (by decide) ?_
        refine lv_goto (tgt := 34) hx hb dX6_clean_30 (by decide) ?_
        exact k_34 1 _ (lv_sub hl [1, 2, 0] rfl) hv
  have k_9 : ∀  (ls : Array Slot), lv_has ls 6 [(0, .ref (ad 0)), (1, .int x1), (2, .long x2)] → F = f_X6_clean_9 x1 x2 σ → W p l e (rmd 3) s m args below meth c s.heap [] 0 0 (MQ below (sm_Ql g 19 ad (eM g ad) s.heap.size F) args s 0 0 (sm_AX 19 ad s.heap.size)) (F0 m 9 ls []) := by
    intro ls hl hv
    refine lv_lload_n hx hb dX6_clean_9 rfl (lv_at hl 2 rfl) ?_
    refine lv_l2i hx hb dX6_clean_10 rfl ?_
    refine lv_i2l hx hb dX6_clean_11 rfl ?_
    refine lv_goto (tgt := 16) hx hb dX6_clean_12 (by decide) ?_
    exact k_16 (Int32.toInt64 (Int64.toInt32 x2)) _ (lv_sub hl [0, 1] rfl) hv
  refine lv_if_eq (tgt := 9) hx hb dX6_clean_1 (by decide) (fun c1 => ?_) (fun c1 => ?_)
  · have hv := hv.trans (if_pos c1)
    exact k_9 _ (lv_sub hl [0, 1, 2] rfl) hv
  · have hv := hv.trans (if_neg c1)
    refine lv_iload_n hx hb dX6_clean_4 rfl (lv_at hl 1 rfl) ?_
    refine lv_iconst (v := 2) hx hb dX6_clean_5 (by decide) ?_
    refine lv_icmp_ne (tgt := 15) hx hb dX6_clean_6 (by decide) (fun c6 => ?_) (fun c6 => ?_)
    · have hv := hv.trans (if_neg c6)
      refine lv_lload_n hx hb dX6_clean_15 rfl (lv_at hl 2 rfl) ?_
      exact k_16 x2 _ (lv_sub hl [0, 1] rfl) hv
    · have hv := hv.trans (if_pos c6)
      exact k_9 _ (lv_sub hl [0, 1, 2] rfl) hv
def f_X6_put (σ : sm_S) (x1 : Int32) (x2 : Int64) (x4 : Int32) (x5 : Int32) : sm_S := if x4 = 0 then (uI (uI (uL σ 3 (Int32.toNatClampNeg x1) x2) 2 (Int32.toNatClampNeg x1) x4) 4 (Int32.toNatClampNeg x1) (vp_nar .boolean 1)) else (if x5 = 0 then (uI (uI (uL σ 3 (Int32.toNatClampNeg x1) x2) 2 (Int32.toNatClampNeg x1) x4) 4 (Int32.toNatClampNeg x1) (vp_nar .boolean 0)) else (uI (uI (uL σ 3 (Int32.toNatClampNeg x1) x2) 2 (Int32.toNatClampNeg x1) x4) 4 (Int32.toNatClampNeg x1) (vp_nar .boolean 1)))
set_option maxRecDepth 100000 in
set_option maxHeartbeats 4000000 in
theorem c_X6_put (l : Launch) (g : sm_G) (ad : Nat → Nat) (hj : sm_inj 19 ad) (sz : Nat) (σ : sm_S) (x1 : Int32) (x2 : Int64) (x4 : Int32) (x5 : Int32)  (h1 : vp_in x1 56) : Met l yX6_put (sm_ws yX6_put cX6_put 6 (none)) (rmd 0) (va_Pc [.ref (ad 0), .int x1, .long x2, .int x4, .int x5] (sm_Pre g 19 ad (eM g ad) σ sz)) (sm_Qv g 19 ad (eM g ad) sz (f_X6_put σ x1 x2 x4 x5)) 0 0 (sm_AX 19 ad sz) := by
  generalize hv : f_X6_put σ x1 x2 x4 x5 = F
  replace hv := hv.symm
  refine sm_mWv (by decide) (Nat.le_of_ble_eq_true rfl) hj (eM_lay g ad) (fun p e s m args below meth c C hW hB ls hl => ?_)
  obtain ⟨hC, hr, hlocks⟩ := C
  have hx := hC.1
  have hb := hC.2.1
  have hts := hC.2.2.2.2
  have hown : s.vm.findClass RX6 = some m.cls := hC.2.2.2.1
  have hl : lv_has ls 6 [(0, .ref (ad 0)), (1, .int x1), (2, .long x2), (4, .int x4), (5, .int x5)] := hl
  refine lv_aload_n hx hb dX6_put_0 rfl (lv_at hl 0 rfl) ?_
  refine fg_RX6_16 hx hb hts hown hW hB dX6_put_1 ?_
  refine lv_iload_n hx hb dX6_put_4 rfl (lv_at hl 1 rfl) ?_
  refine lv_lload_n hx hb dX6_put_5 rfl (lv_at hl 2 rfl) ?_
  refine sw_ls hx hb hW hB (3) (by decide) (eM_3 g ad) h1 dX6_put_6 (fun H locs hB => ?_)
  refine lv_aload_n hx hb dX6_put_7 rfl (lv_at hl 0 rfl) ?_
  refine fg_RX6_13 hx hb hts hown hW hB dX6_put_8 ?_
  refine lv_iload_n hx hb dX6_put_11 rfl (lv_at hl 1 rfl) ?_
  refine lv_iload hx hb dX6_put_12 (lv_at hl 3 rfl) ?_
  refine sw_is hx hb hW hB (2) (by decide) (eM_2 g ad) h1 dX6_put_14 (fun H locs hB => ?_)
  refine lv_aload_n hx hb dX6_put_15 rfl (lv_at hl 0 rfl) ?_
  refine fg_RX6_20 hx hb hts hown hW hB dX6_put_16 ?_
  refine lv_iload_n hx hb dX6_put_19 rfl (lv_at hl 1 rfl) ?_
  refine lv_iload hx hb dX6_put_20 (lv_at hl 3 rfl) ?_
  refine lv_if_eq (tgt := 30) hx hb dX6_put_22 (by decide) (fun c22 => ?_) (fun c22 => ?_)
  · have hv := hv.trans (if_pos c22)
    refine lv_iconst (v := 1) hx hb dX6_put_30 (by decide) ?_
    refine lv_goto (tgt := 35) hx hb dX6_put_31 (by decide) ?_
    refine sw_zs hx hb hW hB (4) (by decide) (eM_4 g ad) h1 dX6_put_35 (fun H locs hB => ?_)
    exact sw_rv hx hb hr hlocks hB hv dX6_put_36
  · have hv := hv.trans (if_neg c22)
    refine lv_iload hx hb dX6_put_25 (lv_at hl 4 rfl) ?_
    refine lv_if_eq (tgt := 34) hx hb dX6_put_27 (by decide) (fun c27 => ?_) (fun c27 => ?_)
    · have hv := hv.trans (if_pos c27)
      refine lv_iconst (v := 0) hx hb dX6_put_34 (by decide) ?_
      refine sw_zs hx hb hW hB (4) (by decide) (eM_4 g ad) h1 dX6_put_35 (fun H locs hB => ?_)
      exact sw_rv hx hb hr hlocks hB hv dX6_put_36
    · have hv := hv.trans (if_neg c27)
      refine lv_iconst (v := 1) hx hb dX6_put_30 (by decide) ?_
      refine lv_goto (tgt := 35) hx hb dX6_put_31 (by decide) ?_
      refine sw_zs hx hb hW hB (4) (by decide) (eM_4 g ad) h1 dX6_put_35 (fun H locs hB => ?_)
      exact sw_rv hx hb hr hlocks hB hv dX6_put_36
def f_X6_fix_13 : Nat → Int32 → Int32 → sm_S → Int32 → sm_S
  | 0, _, _, _, _ => default
  | n + 1, x1, x2, σ, v3_13 => if v3_13 ≤ 0 then (uI (uI (uI (uI (uI σ 8 (Int32.toNatClampNeg 0) x2) 9 (Int32.toNatClampNeg 0) ((uI σ 8 (Int32.toNatClampNeg 0) x2).1 2 (Int32.toNatClampNeg x1))) 0 0 (((uI (uI σ 8 (Int32.toNatClampNeg 0) x2) 9 (Int32.toNatClampNeg 0) ((uI σ 8 (Int32.toNatClampNeg 0) x2).1 2 (Int32.toNatClampNeg x1))).1 0 0) + 1)) 2 (Int32.toNatClampNeg x1) 0) 4 (Int32.toNatClampNeg x1) (vp_nar .boolean 1)) else (sm_let (v3_13 + -1) (fun y45_1 => f_X6_fix_13 n x1 x2 (uI (uI σ 8 (Int32.toNatClampNeg v3_13) (σ.1 8 (Int32.toNatClampNeg (v3_13 - 1)))) 9 (Int32.toNatClampNeg v3_13) ((uI σ 8 (Int32.toNatClampNeg v3_13) (σ.1 8 (Int32.toNatClampNeg (v3_13 - 1)))).1 9 (Int32.toNatClampNeg (v3_13 - 1)))) y45_1))
def f_X6_fix (σ : sm_S) (x1 : Int32) (x2 : Int32) : sm_S := if (σ.1 2 (Int32.toNatClampNeg x1)) = 0 then σ else (f_X6_fix_13 ((Int32.toInt 15 - (0 : Int32).toInt).toNat + 1) x1 x2 σ 15)
set_option maxRecDepth 100000 in
set_option maxHeartbeats 4000000 in
theorem c_X6_fix (l : Launch) (g : sm_G) (ad : Nat → Nat) (hj : sm_inj 19 ad) (sz : Nat) (σ : sm_S) (x1 : Int32) (x2 : Int32)  (h1 : vp_in x1 56) : Met l yX6_fix (sm_ws yX6_fix cX6_fix 4 (none)) (rmd 0) (va_Pc [.ref (ad 0), .int x1, .int x2] (sm_Pre g 19 ad (eM g ad) σ sz)) (sm_Qv g 19 ad (eM g ad) sz (f_X6_fix σ x1 x2)) 0 0 (sm_AX 19 ad sz) := by
  generalize hv : f_X6_fix σ x1 x2 = F
  replace hv := hv.symm
  refine sm_mWv (by decide) (Nat.le_of_ble_eq_true rfl) hj (eM_lay g ad) (fun p e s m args below meth c C hW hB ls hl => ?_)
  obtain ⟨hC, hr, hlocks⟩ := C
  have hx := hC.1
  have hb := hC.2.1
  have hts := hC.2.2.2.2
  have hown : s.vm.findClass RX6 = some m.cls := hC.2.2.2.1
  have hl : lv_has ls 4 [(0, .ref (ad 0)), (1, .int x1), (2, .int x2)] := hl
  refine lv_aload_n hx hb dX6_fix_0 rfl (lv_at hl 0 rfl) ?_
  refine fg_RX6_13 hx hb hts hown hW hB dX6_fix_1 ?_
  refine lv_iload_n hx hb dX6_fix_4 rfl (lv_at hl 1 rfl) ?_
  refine sw_ia hx hb hW hB (2) (by decide) (eM_2 g ad) h1 dX6_fix_5 ?_
  refine lv_if_ne (tgt := 10) hx hb dX6_fix_6 (by decide) (fun c6 => ?_) (fun c6 => ?_)
  · have hv := hv.trans (if_neg c6)
    refine lv_bipush (v := 15) hx hb dX6_fix_10 (by decide) ?_
    have k_13 : ∀ (n : Nat) (v3_13 : Int32) (σ : sm_S) (ls : Array Slot) (H : Heap) (locs : List Loc), v3_13 ≤ 15 → (Int32.toInt v3_13 - (0 : Int32).toInt).toNat < n → lv_has ls 4 [(0, .ref (ad 0)), (1, .int x1), (2, .int x2), (3, .int v3_13)] → sm_B g 19 ad (eM g ad) s H locs σ → F = f_X6_fix_13 n x1 x2 σ v3_13 → W p l e (rmd 0) s m args below meth c H locs 0 0 (MQ below (sm_Qv g 19 ad (eM g ad) s.heap.size F) args s 0 0 (sm_AX 19 ad s.heap.size)) (F0 m 13 ls []) := by
      intro n
      induction n with
      | zero =>
        intro v3_13 σ ls H locs i5 hme hl hB hv
        exact absurd hme (Nat.not_lt_zero _)
      | succ n ih =>
        intro v3_13 σ ls H locs i5 hme hl hB hv
        refine lv_iload_n hx hb dX6_fix_13 rfl (lv_at hl 3 rfl) ?_
        refine lv_if_le (tgt := 51) hx hb dX6_fix_14 (by decide) (fun c14 => ?_) (fun c14 => ?_)
        · have hv := hv.trans (if_pos c14)
          refine lv_aload_n hx hb dX6_fix_51 rfl (lv_at hl 0 rfl) ?_
          refine fg_RX6_33 hx hb hts hown hW hB dX6_fix_52 ?_
          refine lv_iconst (v := 0) hx hb dX6_fix_55 (by decide) ?_
          refine lv_iload_n hx hb dX6_fix_56 rfl (lv_at hl 2 rfl) ?_
          refine sw_is hx hb hW hB (8) (by decide) (eM_8 g ad) (in_lit (by decide +kernel)) dX6_fix_57 (fun H locs hB => ?_)
          refine lv_aload_n hx hb dX6_fix_58 rfl (lv_at hl 0 rfl) ?_
          refine fg_RX6_36 hx hb hts hown hW hB dX6_fix_59 ?_
          refine lv_iconst (v := 0) hx hb dX6_fix_62 (by decide) ?_
          refine lv_aload_n hx hb dX6_fix_63 rfl (lv_at hl 0 rfl) ?_
          refine fg_RX6_13 hx hb hts hown hW hB dX6_fix_64 ?_
          refine lv_iload_n hx hb dX6_fix_67 rfl (lv_at hl 1 rfl) ?_
          refine sw_ia hx hb hW hB (2) (by decide) (eM_2 g ad) h1 dX6_fix_68 ?_
          refine sw_is hx hb hW hB (9) (by decide) (eM_9 g ad) (in_lit (by decide +kernel)) dX6_fix_69 (fun H locs hB => ?_)
          refine lv_aload_n hx hb dX6_fix_70 rfl (lv_at hl 0 rfl) ?_
          refine lv_dup hx hb dX6_fix_71 rfl ?_
          refine fg_RX6_48 hx hb hts hown hW hB dX6_fix_72 ?_
          refine lv_iconst (v := 1) hx hb dX6_fix_75 (by decide) ?_
          refine lv_iadd hx hb dX6_fix_76 ?_
          refine fp_RX6_48 hx hb hts hown hW hB dX6_fix_77 (fun H locs hB => ?_)
          refine lv_aload_n hx hb dX6_fix_80 rfl (lv_at hl 0 rfl) ?_
          refine fg_RX6_13 hx hb hts hown hW hB dX6_fix_81 ?_
          refine lv_iload_n hx hb dX6_fix_84 rfl (lv_at hl 1 rfl) ?_
          refine lv_iconst (v := 0) hx hb dX6_fix_85 (by decide) ?_
          refine sw_is hx hb hW hB (2) (by decide) (eM_2 g ad) h1 dX6_fix_86 (fun H locs hB => ?_)
          refine lv_aload_n hx hb dX6_fix_87 rfl (lv_at hl 0 rfl) ?_
          refine fg_RX6_20 hx hb hts hown hW hB dX6_fix_88 ?_
          refine lv_iload_n hx hb dX6_fix_91 rfl (lv_at hl 1 rfl) ?_
          refine lv_iconst (v := 1) hx hb dX6_fix_92 (by decide) ?_
          refine sw_zs hx hb hW hB (4) (by decide) (eM_4 g ad) h1 dX6_fix_93 (fun H locs hB => ?_)
          exact sw_rv hx hb hr hlocks hB hv dX6_fix_94
        · have hv := hv.trans (if_neg c14)
          refine lv_aload_n hx hb dX6_fix_17 rfl (lv_at hl 0 rfl) ?_
          refine fg_RX6_33 hx hb hts hown hW hB dX6_fix_18 ?_
          refine lv_iload_n hx hb dX6_fix_21 rfl (lv_at hl 3 rfl) ?_
          refine lv_aload_n hx hb dX6_fix_22 rfl (lv_at hl 0 rfl) ?_
          refine fg_RX6_33 hx hb hts hown hW hB dX6_fix_23 ?_
          refine lv_iload_n hx hb dX6_fix_26 rfl (lv_at hl 3 rfl) ?_
          refine lv_iconst (v := 1) hx hb dX6_fix_27 (by decide) ?_
          refine lv_isub hx hb dX6_fix_28 ?_
          refine sw_ia hx hb hW hB (8) (by decide) (eM_8 g ad) (in_dn1 c14 i5) dX6_fix_29 ?_
          refine sw_is hx hb hW hB (8) (by decide) (eM_8 g ad) (in_dn c14 i5) dX6_fix_30 (fun H locs hB => ?_)
          refine lv_aload_n hx hb dX6_fix_31 rfl (lv_at hl 0 rfl) ?_
          refine fg_RX6_36 hx hb hts hown hW hB dX6_fix_32 ?_
          refine lv_iload_n hx hb dX6_fix_35 rfl (lv_at hl 3 rfl) ?_
          refine lv_aload_n hx hb dX6_fix_36 rfl (lv_at hl 0 rfl) ?_
          refine fg_RX6_36 hx hb hts hown hW hB dX6_fix_37 ?_
          refine lv_iload_n hx hb dX6_fix_40 rfl (lv_at hl 3 rfl) ?_
          refine lv_iconst (v := 1) hx hb dX6_fix_41 (by decide) ?_
          refine lv_isub hx hb dX6_fix_42 ?_
          refine sw_ia hx hb hW hB (9) (by decide) (eM_9 g ad) (in_dn1 c14 i5) dX6_fix_43 ?_
          refine sw_is hx hb hW hB (9) (by decide) (eM_9 g ad) (in_dn c14 i5) dX6_fix_44 (fun H locs hB => ?_)
          obtain ⟨y45_1, ey45_1, hv⟩ := sm_lt hv
          refine lv_iinc (v := y45_1) (lv' := [(3, .int y45_1), (0, .ref (ad 0)), (1, .int x1), (2, .int x2)]) hx hb dX6_fix_45 hl (k := 3) rfl (by rw [ey45_1]; rfl) (by decide) rfl (fun ls hl => ?_)
          refine lv_goto (tgt := 13) hx hb dX6_fix_48 (by decide) ?_
          exact ih y45_1 (uI (uI σ 8 (Int32.toNatClampNeg v3_13) (σ.1 8 (Int32.toNatClampNeg (v3_13 - 1)))) 9 (Int32.toNatClampNeg v3_13) ((uI σ 8 (Int32.toNatClampNeg v3_13) (σ.1 8 (Int32.toNatClampNeg (v3_13 - 1)))).1 9 (Int32.toNatClampNeg (v3_13 - 1)))) _ _ _ (by rw [ey45_1]; exact le_dec c14 i5) (by rw [ey45_1]; exact Nat.lt_of_lt_of_le (me_dec c14) (Nat.le_of_lt_succ hme)) (lv_sub hl [1, 2, 3, 0] rfl) hB hv
    refine lv_istore_n (lv' := [(3, .int 15), (0, .ref (ad 0)), (1, .int x1), (2, .int x2)]) hx hb dX6_fix_12 rfl hl (by decide) rfl (fun ls hl => ?_)
    exact k_13 ((Int32.toInt 15 - (0 : Int32).toInt).toNat + 1) 15 σ _ _ _ (by decide) (Nat.lt_succ_self _) (lv_sub hl [1, 2, 3, 0] rfl) hB hv
  · have hv := hv.trans (if_pos c6)
    exact sw_rv hx hb hr hlocks hB hv dX6_fix_9
def f_X6_constant (σ : sm_S) (x1 : Int32) (x2 : Int32) (x3 : Int64) : Int32 × sm_S := if (f_X6_out x1 8) = 0 then (if (f_X6_out x2 4) = 0 then (sm_let (f_X6_clean (uI σ 1 (Int32.toNatClampNeg x1) x2) x2 x3) (fun u33_1 => sm_let (f_X6_put u33_1.2 x1 u33_1.1 0 1) (fun u38_2 => (0, u38_2)))) else (((-1), σ))) else (((-1), σ))
set_option maxRecDepth 100000 in
set_option maxHeartbeats 4000000 in
theorem c_X6_constant (l : Launch) (g : sm_G) (ad : Nat → Nat) (hj : sm_inj 19 ad) (sz : Nat) (σ : sm_S) (x1 : Int32) (x2 : Int32) (x3 : Int64)   : Met l yX6_constant (sm_ws yX6_constant cX6_constant 5 (some .int)) (rmd 4) (va_Pc [.ref (ad 0), .int x1, .int x2, .long x3] (sm_Pre g 19 ad (eM g ad) σ sz)) (sm_Qi g 19 ad (eM g ad) sz (f_X6_constant σ x1 x2 x3)) 0 0 (sm_AX 19 ad sz) := by
  generalize hv : f_X6_constant σ x1 x2 x3 = F
  replace hv := hv.symm
  refine sm_mWi (by decide) (Nat.le_of_ble_eq_true rfl) hj (eM_lay g ad) (fun p e s m args below meth c C hW hB ls hl => ?_)
  obtain ⟨hC, hr, hlocks⟩ := C
  have hx := hC.1
  have hb := hC.2.1
  have hts := hC.2.2.2.2
  have hown : s.vm.findClass RX6 = some m.cls := hC.2.2.2.1
  have hl : lv_has ls 5 [(0, .ref (ad 0)), (1, .int x1), (2, .int x2), (3, .long x3)] := hl
  refine lv_aload_n hx hb dX6_constant_0 rfl (lv_at hl 0 rfl) ?_
  refine lv_iload_n hx hb dX6_constant_1 rfl (lv_at hl 1 rfl) ?_
  refine lv_bipush (v := 8) hx hb dX6_constant_2 (by decide) ?_
  refine sm_ci (sm_runV (rest := []) hC (c_X6_out l g ad hW.2.1 _ x1 8 σ) k_X6_out w_598 (by decide) (sm_pv hW hB (by decide) (eM_0 g ad _) rfl) rfl hl.1 rfl (Nat.le_of_ble_eq_true rfl) dX6_constant_4) ?_
  refine lv_if_ne (tgt := 19) hx hb dX6_constant_7 (by decide) (fun c7 => ?_) (fun c7 => ?_)
  · have hv := hv.trans (if_neg c7)
    refine lv_iconst (v := -1) hx hb dX6_constant_19 (by decide) ?_
    exact sw_ri hx hb hr hlocks hB hv dX6_constant_20
  · have hv := hv.trans (if_pos c7)
    refine lv_aload_n hx hb dX6_constant_10 rfl (lv_at hl 0 rfl) ?_
    refine lv_iload_n hx hb dX6_constant_11 rfl (lv_at hl 2 rfl) ?_
    refine lv_iconst (v := 4) hx hb dX6_constant_12 (by decide) ?_
    refine sm_ci (sm_runV (rest := []) hC (c_X6_out l g ad hW.2.1 _ x2 4 σ) k_X6_out w_598 (by decide) (sm_pv hW hB (by decide) (eM_0 g ad _) rfl) rfl hl.1 rfl (Nat.le_of_ble_eq_true rfl) dX6_constant_13) ?_
    refine lv_if_eq (tgt := 21) hx hb dX6_constant_16 (by decide) (fun c16 => ?_) (fun c16 => ?_)
    · have hv := hv.trans (if_pos c16)
      refine lv_aload_n hx hb dX6_constant_21 rfl (lv_at hl 0 rfl) ?_
      refine fg_RX6_7 hx hb hts hown hW hB dX6_constant_22 ?_
      refine lv_iload_n hx hb dX6_constant_25 rfl (lv_at hl 1 rfl) ?_
      refine lv_iload_n hx hb dX6_constant_26 rfl (lv_at hl 2 rfl) ?_
      refine sw_is hx hb hW hB (1) (by decide) (eM_1 g ad) (out_in c7 (by decide)) dX6_constant_27 (fun H locs hB => ?_)
      refine lv_aload_n hx hb dX6_constant_28 rfl (lv_at hl 0 rfl) ?_
      refine lv_iload_n hx hb dX6_constant_29 rfl (lv_at hl 1 rfl) ?_
      refine lv_aload_n hx hb dX6_constant_30 rfl (lv_at hl 0 rfl) ?_
      refine lv_iload_n hx hb dX6_constant_31 rfl (lv_at hl 2 rfl) ?_
      refine lv_lload_n hx hb dX6_constant_32 rfl (lv_at hl 3 rfl) ?_
      refine sw_cln hv hB (sm_runV (rest := [.int x1, .ref (ad 0)]) hC (c_X6_clean l g ad hW.2.1 _ (uI σ 1 (Int32.toNatClampNeg x1) x2) x2 x3) k_X6_clean w_602 (by decide) (sm_pv hW hB (by decide) (eM_0 g ad _) rfl) rfl hl.1 rfl (Nat.le_of_ble_eq_true rfl) dX6_constant_33) (fun u33_1 eu33_1 hv H locs hB => ?_)
      refine lv_iconst (v := 0) hx hb dX6_constant_36 (by decide) ?_
      refine lv_iconst (v := 1) hx hb dX6_constant_37 (by decide) ?_
      refine sw_cvn hv hB (sm_runV (rest := []) hC (c_X6_put l g ad hW.2.1 _ u33_1.2 x1 u33_1.1 0 1 (in_mono (a := 8) (out_in c7 (by decide)) (by decide))) k_X6_put w_630 (by decide) (sm_pv hW hB (by decide) (eM_0 g ad _) rfl) rfl hl.1 rfl (Nat.le_of_ble_eq_true rfl) dX6_constant_38) (fun u38_2 eu38_2 hv H locs hB => ?_)
      refine lv_iconst (v := 0) hx hb dX6_constant_41 (by decide) ?_
      exact sw_ri hx hb hr hlocks hB hv dX6_constant_42
    · have hv := hv.trans (if_neg c16)
      refine lv_iconst (v := -1) hx hb dX6_constant_19 (by decide) ?_
      exact sw_ri hx hb hr hlocks hB hv dX6_constant_20
def f_X6_input (σ : sm_S) (x1 : Int32) (x2 : Int32) (x3 : Int64) (x5 : Int32) : Int32 × sm_S := if (f_X6_out x1 8) = 0 then (if (f_X6_out x2 4) = 0 then (if (f_X6_out x5 6) = 0 then (sm_let (f_X6_clean (uI σ 1 (Int32.toNatClampNeg x1) x2) x2 x3) (fun u44_1 => sm_let (f_X6_put u44_1.2 x1 u44_1.1 ((1 : Int32) <<< (x5 &&& 31)) 1) (fun u52_2 => (0, u52_2)))) else (((-1), σ))) else (((-1), σ))) else (((-1), σ))
set_option maxRecDepth 100000 in
set_option maxHeartbeats 4000000 in
theorem c_X6_input (l : Launch) (g : sm_G) (ad : Nat → Nat) (hj : sm_inj 19 ad) (sz : Nat) (σ : sm_S) (x1 : Int32) (x2 : Int32) (x3 : Int64) (x5 : Int32)   : Met l yX6_input (sm_ws yX6_input cX6_input 6 (some .int)) (rmd 4) (va_Pc [.ref (ad 0), .int x1, .int x2, .long x3, .int x5] (sm_Pre g 19 ad (eM g ad) σ sz)) (sm_Qi g 19 ad (eM g ad) sz (f_X6_input σ x1 x2 x3 x5)) 0 0 (sm_AX 19 ad sz) := by
  generalize hv : f_X6_input σ x1 x2 x3 x5 = F
  replace hv := hv.symm
  refine sm_mWi (by decide) (Nat.le_of_ble_eq_true rfl) hj (eM_lay g ad) (fun p e s m args below meth c C hW hB ls hl => ?_)
  obtain ⟨hC, hr, hlocks⟩ := C
  have hx := hC.1
  have hb := hC.2.1
  have hts := hC.2.2.2.2
  have hown : s.vm.findClass RX6 = some m.cls := hC.2.2.2.1
  have hl : lv_has ls 6 [(0, .ref (ad 0)), (1, .int x1), (2, .int x2), (3, .long x3), (5, .int x5)] := hl
  refine lv_aload_n hx hb dX6_input_0 rfl (lv_at hl 0 rfl) ?_
  refine lv_iload_n hx hb dX6_input_1 rfl (lv_at hl 1 rfl) ?_
  refine lv_bipush (v := 8) hx hb dX6_input_2 (by decide) ?_
  refine sm_ci (sm_runV (rest := []) hC (c_X6_out l g ad hW.2.1 _ x1 8 σ) k_X6_out w_598 (by decide) (sm_pv hW hB (by decide) (eM_0 g ad _) rfl) rfl hl.1 rfl (Nat.le_of_ble_eq_true rfl) dX6_input_4) ?_
  refine lv_if_ne (tgt := 30) hx hb dX6_input_7 (by decide) (fun c7 => ?_) (fun c7 => ?_)
  · have hv := hv.trans (if_neg c7)
    refine lv_iconst (v := -1) hx hb dX6_input_30 (by decide) ?_
    exact sw_ri hx hb hr hlocks hB hv dX6_input_31
  · have hv := hv.trans (if_pos c7)
    refine lv_aload_n hx hb dX6_input_10 rfl (lv_at hl 0 rfl) ?_
    refine lv_iload_n hx hb dX6_input_11 rfl (lv_at hl 2 rfl) ?_
    refine lv_iconst (v := 4) hx hb dX6_input_12 (by decide) ?_
    refine sm_ci (sm_runV (rest := []) hC (c_X6_out l g ad hW.2.1 _ x2 4 σ) k_X6_out w_598 (by decide) (sm_pv hW hB (by decide) (eM_0 g ad _) rfl) rfl hl.1 rfl (Nat.le_of_ble_eq_true rfl) dX6_input_13) ?_
    refine lv_if_ne (tgt := 30) hx hb dX6_input_16 (by decide) (fun c16 => ?_) (fun c16 => ?_)
    · have hv := hv.trans (if_neg c16)
      refine lv_iconst (v := -1) hx hb dX6_input_30 (by decide) ?_
      exact sw_ri hx hb hr hlocks hB hv dX6_input_31
    · have hv := hv.trans (if_pos c16)
      refine lv_aload_n hx hb dX6_input_19 rfl (lv_at hl 0 rfl) ?_
      refine lv_iload hx hb dX6_input_20 (lv_at hl 4 rfl) ?_
      refine lv_bipush (v := 6) hx hb dX6_input_22 (by decide) ?_
      refine sm_ci (sm_runV (rest := []) hC (c_X6_out l g ad hW.2.1 _ x5 6 σ) k_X6_out w_598 (by decide) (sm_pv hW hB (by decide) (eM_0 g ad _) rfl) rfl hl.1 rfl (Nat.le_of_ble_eq_true rfl) dX6_input_24) ?_
      refine lv_if_eq (tgt := 32) hx hb dX6_input_27 (by decide) (fun c27 => ?_) (fun c27 => ?_)
      · have hv := hv.trans (if_pos c27)
        refine lv_aload_n hx hb dX6_input_32 rfl (lv_at hl 0 rfl) ?_
        refine fg_RX6_7 hx hb hts hown hW hB dX6_input_33 ?_
        refine lv_iload_n hx hb dX6_input_36 rfl (lv_at hl 1 rfl) ?_
        refine lv_iload_n hx hb dX6_input_37 rfl (lv_at hl 2 rfl) ?_
        refine sw_is hx hb hW hB (1) (by decide) (eM_1 g ad) (out_in c7 (by decide)) dX6_input_38 (fun H locs hB => ?_)
        refine lv_aload_n hx hb dX6_input_39 rfl (lv_at hl 0 rfl) ?_
        refine lv_iload_n hx hb dX6_input_40 rfl (lv_at hl 1 rfl) ?_
        refine lv_aload_n hx hb dX6_input_41 rfl (lv_at hl 0 rfl) ?_
        refine lv_iload_n hx hb dX6_input_42 rfl (lv_at hl 2 rfl) ?_
        refine lv_lload_n hx hb dX6_input_43 rfl (lv_at hl 3 rfl) ?_
        refine sw_cln hv hB (sm_runV (rest := [.int x1, .ref (ad 0)]) hC (c_X6_clean l g ad hW.2.1 _ (uI σ 1 (Int32.toNatClampNeg x1) x2) x2 x3) k_X6_clean w_602 (by decide) (sm_pv hW hB (by decide) (eM_0 g ad _) rfl) rfl hl.1 rfl (Nat.le_of_ble_eq_true rfl) dX6_input_44) (fun u44_1 eu44_1 hv H locs hB => ?_)
        refine lv_iconst (v := 1) hx hb dX6_input_47 (by decide) ?_
        refine lv_iload hx hb dX6_input_48 (lv_at hl 4 rfl) ?_
        refine lv_ishl hx hb dX6_input_50 ?_
        refine lv_iconst (v := 1) hx hb dX6_input_51 (by decide) ?_
        refine sw_cvn hv hB (sm_runV (rest := []) hC (c_X6_put l g ad hW.2.1 _ u44_1.2 x1 u44_1.1 ((1 : Int32) <<< (x5 &&& 31)) 1 (in_mono (a := 8) (out_in c7 (by decide)) (by decide))) k_X6_put w_630 (by decide) (sm_pv hW hB (by decide) (eM_0 g ad _) rfl) rfl hl.1 rfl (Nat.le_of_ble_eq_true rfl) dX6_input_52) (fun u52_2 eu52_2 hv H locs hB => ?_)
        refine lv_iconst (v := 0) hx hb dX6_input_55 (by decide) ?_
        exact sw_ri hx hb hr hlocks hB hv dX6_input_56
      · have hv := hv.trans (if_neg c27)
        refine lv_iconst (v := -1) hx hb dX6_input_30 (by decide) ?_
        exact sw_ri hx hb hr hlocks hB hv dX6_input_31
def f_X6_wanted (x1 : Int32) : Int32 := if x1 < 3 then 0 else (if x1 ≤ 11 then (if 6 ≤ x1 then (if 9 ≤ x1 then 3 else 2) else 1) else 0)
set_option maxRecDepth 100000 in
set_option maxHeartbeats 4000000 in
theorem c_X6_wanted (l : Launch) (g : sm_G) (ad : Nat → Nat) (hj : sm_inj 19 ad) (sz : Nat) (x1 : Int32) (σ : sm_S)   : Met l yX6_wanted (sm_ws yX6_wanted cX6_wanted 2 (some .int)) (rmd 0) (va_Pc [.ref (ad 0), .int x1] (sm_Pre g 19 ad (eM g ad) σ sz)) (vp_Si (fun r => r = f_X6_wanted x1)) 0 0 (fun _ => False) := by
  generalize hv : f_X6_wanted x1 = F
  replace hv := hv.symm
  refine sm_mR (by decide) (Nat.le_of_ble_eq_true rfl) hj (eM_lay g ad) (fun p e s m args below meth c C hW hB ls hl => ?_)
  obtain ⟨hC, hr, hlocks⟩ := C
  have hx := hC.1
  have hb := hC.2.1
  have hts := hC.2.2.2.2
  have hown : s.vm.findClass RX6 = some m.cls := hC.2.2.2.1
  have hl : lv_has ls 2 [(0, .ref (ad 0)), (1, .int x1)] := hl
  refine lv_iload_n hx hb dX6_wanted_0 rfl (lv_at hl 1 rfl) ?_
  refine lv_iconst (v := 3) hx hb dX6_wanted_1 (by decide) ?_
  refine lv_icmp_lt (tgt := 11) hx hb dX6_wanted_2 (by decide) (fun c2 => ?_) (fun c2 => ?_)
  · have hv := hv.trans (if_pos c2)
    refine lv_iconst (v := 0) hx hb dX6_wanted_11 (by decide) ?_
    refine lv_goto (tgt := 36) hx hb dX6_wanted_12 (by decide) ?_
    exact sm_ri hx hb hr hlocks hv dX6_wanted_36
  · have hv := hv.trans (if_neg c2)
    refine lv_iload_n hx hb dX6_wanted_5 rfl (lv_at hl 1 rfl) ?_
    refine lv_bipush (v := 11) hx hb dX6_wanted_6 (by decide) ?_
    refine lv_icmp_le (tgt := 15) hx hb dX6_wanted_8 (by decide) (fun c8 => ?_) (fun c8 => ?_)
    · have hv := hv.trans (if_pos c8)
      refine lv_iload_n hx hb dX6_wanted_15 rfl (lv_at hl 1 rfl) ?_
      refine lv_bipush (v := 6) hx hb dX6_wanted_16 (by decide) ?_
      refine lv_icmp_ge (tgt := 25) hx hb dX6_wanted_18 (by decide) (fun c18 => ?_) (fun c18 => ?_)
      · have hv := hv.trans (if_pos c18)
        refine lv_iload_n hx hb dX6_wanted_25 rfl (lv_at hl 1 rfl) ?_
        refine lv_bipush (v := 9) hx hb dX6_wanted_26 (by decide) ?_
        refine lv_icmp_ge (tgt := 35) hx hb dX6_wanted_28 (by decide) (fun c28 => ?_) (fun c28 => ?_)
        · have hv := hv.trans (if_pos c28)
          refine lv_iconst (v := 3) hx hb dX6_wanted_35 (by decide) ?_
          exact sm_ri hx hb hr hlocks hv dX6_wanted_36
        · have hv := hv.trans (if_neg c28)
          refine lv_iconst (v := 2) hx hb dX6_wanted_31 (by decide) ?_
          refine lv_goto (tgt := 36) hx hb dX6_wanted_32 (by decide) ?_
          exact sm_ri hx hb hr hlocks hv dX6_wanted_36
      · have hv := hv.trans (if_neg c18)
        refine lv_iconst (v := 1) hx hb dX6_wanted_21 (by decide) ?_
        refine lv_goto (tgt := 36) hx hb dX6_wanted_22 (by decide) ?_
        exact sm_ri hx hb hr hlocks hv dX6_wanted_36
    · have hv := hv.trans (if_neg c8)
      refine lv_iconst (v := 0) hx hb dX6_wanted_11 (by decide) ?_
      refine lv_goto (tgt := 36) hx hb dX6_wanted_12 (by decide) ?_
      exact sm_ri hx hb hr hlocks hv dX6_wanted_36
def f_X6_converted (σ : sm_S) (x1 : Int32) (x2 : Int64) : Int64 × sm_S := if x1 = 1 then ((f_X6_fromWhole 0 x2, σ)) else if x1 = 2 then ((f_X6_fromWhole 1 x2, σ)) else if x1 = 3 then ((Int32.toInt64 (Int64.toInt32 x2), σ)) else if x1 = 4 then ((f_X6_fromWhole 0 x2, σ)) else if x1 = 5 then ((f_X6_fromWhole 1 x2, σ)) else if x1 = 6 then (sm_let (f_X6_toWhole σ 0 x2 0) (fun u94_1 => (u94_1.1, u94_1.2))) else if x1 = 7 then (sm_let (f_X6_toWhole σ 0 x2 1) (fun u102_2 => (u102_2.1, u102_2.2))) else if x1 = 8 then (sm_let (f_X6_otherFormat σ 0 x2) (fun u109_3 => (u109_3.1, u109_3.2))) else if x1 = 9 then (sm_let (f_X6_toWhole σ 1 x2 0) (fun u117_4 => (u117_4.1, u117_4.2))) else if x1 = 10 then (sm_let (f_X6_toWhole σ 1 x2 1) (fun u125_5 => (u125_5.1, u125_5.2))) else if x1 = 11 then (sm_let (f_X6_otherFormat σ 1 x2) (fun u132_6 => (u132_6.1, u132_6.2))) else if x1 = 12 then ((Int32.toInt64 (Int8.toInt32 (Int32.toInt8 (Int64.toInt32 x2))), σ)) else if x1 = 13 then ((Int32.toInt64 (UInt32.toInt32 (Int32.toUInt32 (Int64.toInt32 x2) % 65536)), σ)) else if x1 = 14 then ((Int32.toInt64 (Int16.toInt32 (Int32.toInt16 (Int64.toInt32 x2))), σ)) else ((x2, σ))
set_option maxRecDepth 100000 in
set_option maxHeartbeats 4000000 in
theorem c_X6_converted (l : Launch) (g : sm_G) (ad : Nat → Nat) (hj : sm_inj 19 ad) (sz : Nat) (σ : sm_S) (x1 : Int32) (x2 : Int64)   : Met l yX6_converted (sm_ws yX6_converted cX6_converted 4 (some .long)) (rmd 3) (va_Pc [.ref (ad 0), .int x1, .long x2] (sm_Pre g 19 ad (eM g ad) σ sz)) (sm_Ql g 19 ad (eM g ad) sz (f_X6_converted σ x1 x2)) 0 0 (sm_AX 19 ad sz) := by
  generalize hv : f_X6_converted σ x1 x2 = F
  replace hv := hv.symm
  refine sm_mWl (by decide) (Nat.le_of_ble_eq_true rfl) hj (eM_lay g ad) (fun p e s m args below meth c C hW hB ls hl => ?_)
  obtain ⟨hC, hr, hlocks⟩ := C
  have hx := hC.1
  have hb := hC.2.1
  have hts := hC.2.2.2.2
  have hown : s.vm.findClass RX6 = some m.cls := hC.2.2.2.1
  have hl : lv_has ls 4 [(0, .ref (ad 0)), (1, .int x1), (2, .long x2)] := hl
  refine lv_iload_n hx hb dX6_converted_0 rfl (lv_at hl 1 rfl) ?_
  by_cases c1_1 : x1 = 1
  · have hv := hv.trans (if_pos c1_1)
    refine lv_tableIn (tgt := 72) hx hb dX6_converted_1 (by rw [c1_1]; decide) (by rw [c1_1]; decide) (by rw [c1_1]; rfl) (by decide) ?_
    refine lv_aload_n hx hb dX6_converted_72 rfl (lv_at hl 0 rfl) ?_
    refine lv_iconst (v := 0) hx hb dX6_converted_73 (by decide) ?_
    refine lv_lload_n hx hb dX6_converted_74 rfl (lv_at hl 2 rfl) ?_
    refine sm_cl (sm_runV (rest := []) hC (c_X6_fromWhole l g ad hW.2.1 _ 0 x2 σ) k_X6_fromWhole w_654 (by decide) (sm_pv hW hB (by decide) (eM_0 g ad _) rfl) rfl hl.1 rfl (Nat.le_of_ble_eq_true rfl) dX6_converted_75) ?_
    exact sw_rl hx hb hr hlocks hB hv dX6_converted_78
  · have hv := hv.trans (if_neg c1_1)
    by_cases c1_2 : x1 = 2
    · have hv := hv.trans (if_pos c1_2)
      refine lv_tableIn (tgt := 79) hx hb dX6_converted_1 (by rw [c1_2]; decide) (by rw [c1_2]; decide) (by rw [c1_2]; rfl) (by decide) ?_
      refine lv_aload_n hx hb dX6_converted_79 rfl (lv_at hl 0 rfl) ?_
      refine lv_iconst (v := 1) hx hb dX6_converted_80 (by decide) ?_
      refine lv_lload_n hx hb dX6_converted_81 rfl (lv_at hl 2 rfl) ?_
      refine sm_cl (sm_runV (rest := []) hC (c_X6_fromWhole l g ad hW.2.1 _ 1 x2 σ) k_X6_fromWhole w_654 (by decide) (sm_pv hW hB (by decide) (eM_0 g ad _) rfl) rfl hl.1 rfl (Nat.le_of_ble_eq_true rfl) dX6_converted_82) ?_
      exact sw_rl hx hb hr hlocks hB hv dX6_converted_85
    · have hv := hv.trans (if_neg c1_2)
      by_cases c1_3 : x1 = 3
      · have hv := hv.trans (if_pos c1_3)
        refine lv_tableIn (tgt := 86) hx hb dX6_converted_1 (by rw [c1_3]; decide) (by rw [c1_3]; decide) (by rw [c1_3]; rfl) (by decide) ?_
        refine lv_lload_n hx hb dX6_converted_86 rfl (lv_at hl 2 rfl) ?_
        refine lv_l2i hx hb dX6_converted_87 rfl ?_
        refine lv_i2l hx hb dX6_converted_88 rfl ?_
        exact sw_rl hx hb hr hlocks hB hv dX6_converted_89
      · have hv := hv.trans (if_neg c1_3)
        by_cases c1_4 : x1 = 4
        · have hv := hv.trans (if_pos c1_4)
          refine lv_tableIn (tgt := 72) hx hb dX6_converted_1 (by rw [c1_4]; decide) (by rw [c1_4]; decide) (by rw [c1_4]; rfl) (by decide) ?_
          refine lv_aload_n hx hb dX6_converted_72 rfl (lv_at hl 0 rfl) ?_
          refine lv_iconst (v := 0) hx hb dX6_converted_73 (by decide) ?_
          refine lv_lload_n hx hb dX6_converted_74 rfl (lv_at hl 2 rfl) ?_
          refine sm_cl (sm_runV (rest := []) hC (c_X6_fromWhole l g ad hW.2.1 _ 0 x2 σ) k_X6_fromWhole w_654 (by decide) (sm_pv hW hB (by decide) (eM_0 g ad _) rfl) rfl hl.1 rfl (Nat.le_of_ble_eq_true rfl) dX6_converted_75) ?_
          exact sw_rl hx hb hr hlocks hB hv dX6_converted_78
        · have hv := hv.trans (if_neg c1_4)
          by_cases c1_5 : x1 = 5
          · have hv := hv.trans (if_pos c1_5)
            refine lv_tableIn (tgt := 79) hx hb dX6_converted_1 (by rw [c1_5]; decide) (by rw [c1_5]; decide) (by rw [c1_5]; rfl) (by decide) ?_
            refine lv_aload_n hx hb dX6_converted_79 rfl (lv_at hl 0 rfl) ?_
            refine lv_iconst (v := 1) hx hb dX6_converted_80 (by decide) ?_
            refine lv_lload_n hx hb dX6_converted_81 rfl (lv_at hl 2 rfl) ?_
            refine sm_cl (sm_runV (rest := []) hC (c_X6_fromWhole l g ad hW.2.1 _ 1 x2 σ) k_X6_fromWhole w_654 (by decide) (sm_pv hW hB (by decide) (eM_0 g ad _) rfl) rfl hl.1 rfl (Nat.le_of_ble_eq_true rfl) dX6_converted_82) ?_
            exact sw_rl hx hb hr hlocks hB hv dX6_converted_85
          · have hv := hv.trans (if_neg c1_5)
            by_cases c1_6 : x1 = 6
            · have hv := hv.trans (if_pos c1_6)
              refine lv_tableIn (tgt := 90) hx hb dX6_converted_1 (by rw [c1_6]; decide) (by rw [c1_6]; decide) (by rw [c1_6]; rfl) (by decide) ?_
              refine lv_aload_n hx hb dX6_converted_90 rfl (lv_at hl 0 rfl) ?_
              refine lv_iconst (v := 0) hx hb dX6_converted_91 (by decide) ?_
              refine lv_lload_n hx hb dX6_converted_92 rfl (lv_at hl 2 rfl) ?_
              refine lv_iconst (v := 0) hx hb dX6_converted_93 (by decide) ?_
              refine sw_cln hv hB (sm_runV (rest := []) hC (c_X6_toWhole l g ad hW.2.1 _ σ 0 x2 0) k_X6_toWhole w_680 (by decide) (sm_pv hW hB (by decide) (eM_0 g ad _) rfl) rfl hl.1 rfl (Nat.le_of_ble_eq_true rfl) dX6_converted_94) (fun u94_1 eu94_1 hv H locs hB => ?_)
              exact sw_rl hx hb hr hlocks hB hv dX6_converted_97
            · have hv := hv.trans (if_neg c1_6)
              by_cases c1_7 : x1 = 7
              · have hv := hv.trans (if_pos c1_7)
                refine lv_tableIn (tgt := 98) hx hb dX6_converted_1 (by rw [c1_7]; decide) (by rw [c1_7]; decide) (by rw [c1_7]; rfl) (by decide) ?_
                refine lv_aload_n hx hb dX6_converted_98 rfl (lv_at hl 0 rfl) ?_
                refine lv_iconst (v := 0) hx hb dX6_converted_99 (by decide) ?_
                refine lv_lload_n hx hb dX6_converted_100 rfl (lv_at hl 2 rfl) ?_
                refine lv_iconst (v := 1) hx hb dX6_converted_101 (by decide) ?_
                refine sw_cln hv hB (sm_runV (rest := []) hC (c_X6_toWhole l g ad hW.2.1 _ σ 0 x2 1) k_X6_toWhole w_680 (by decide) (sm_pv hW hB (by decide) (eM_0 g ad _) rfl) rfl hl.1 rfl (Nat.le_of_ble_eq_true rfl) dX6_converted_102) (fun u102_2 eu102_2 hv H locs hB => ?_)
                exact sw_rl hx hb hr hlocks hB hv dX6_converted_105
              · have hv := hv.trans (if_neg c1_7)
                by_cases c1_8 : x1 = 8
                · have hv := hv.trans (if_pos c1_8)
                  refine lv_tableIn (tgt := 106) hx hb dX6_converted_1 (by rw [c1_8]; decide) (by rw [c1_8]; decide) (by rw [c1_8]; rfl) (by decide) ?_
                  refine lv_aload_n hx hb dX6_converted_106 rfl (lv_at hl 0 rfl) ?_
                  refine lv_iconst (v := 0) hx hb dX6_converted_107 (by decide) ?_
                  refine lv_lload_n hx hb dX6_converted_108 rfl (lv_at hl 2 rfl) ?_
                  refine sw_cln hv hB (sm_runV (rest := []) hC (c_X6_otherFormat l g ad hW.2.1 _ σ 0 x2) k_X6_otherFormat w_684 (by decide) (sm_pv hW hB (by decide) (eM_0 g ad _) rfl) rfl hl.1 rfl (Nat.le_of_ble_eq_true rfl) dX6_converted_109) (fun u109_3 eu109_3 hv H locs hB => ?_)
                  exact sw_rl hx hb hr hlocks hB hv dX6_converted_112
                · have hv := hv.trans (if_neg c1_8)
                  by_cases c1_9 : x1 = 9
                  · have hv := hv.trans (if_pos c1_9)
                    refine lv_tableIn (tgt := 113) hx hb dX6_converted_1 (by rw [c1_9]; decide) (by rw [c1_9]; decide) (by rw [c1_9]; rfl) (by decide) ?_
                    refine lv_aload_n hx hb dX6_converted_113 rfl (lv_at hl 0 rfl) ?_
                    refine lv_iconst (v := 1) hx hb dX6_converted_114 (by decide) ?_
                    refine lv_lload_n hx hb dX6_converted_115 rfl (lv_at hl 2 rfl) ?_
                    refine lv_iconst (v := 0) hx hb dX6_converted_116 (by decide) ?_
                    refine sw_cln hv hB (sm_runV (rest := []) hC (c_X6_toWhole l g ad hW.2.1 _ σ 1 x2 0) k_X6_toWhole w_680 (by decide) (sm_pv hW hB (by decide) (eM_0 g ad _) rfl) rfl hl.1 rfl (Nat.le_of_ble_eq_true rfl) dX6_converted_117) (fun u117_4 eu117_4 hv H locs hB => ?_)
                    exact sw_rl hx hb hr hlocks hB hv dX6_converted_120
                  · have hv := hv.trans (if_neg c1_9)
                    by_cases c1_10 : x1 = 10
                    · have hv := hv.trans (if_pos c1_10)
                      refine lv_tableIn (tgt := 121) hx hb dX6_converted_1 (by rw [c1_10]; decide) (by rw [c1_10]; decide) (by rw [c1_10]; rfl) (by decide) ?_
                      refine lv_aload_n hx hb dX6_converted_121 rfl (lv_at hl 0 rfl) ?_
                      refine lv_iconst (v := 1) hx hb dX6_converted_122 (by decide) ?_
                      refine lv_lload_n hx hb dX6_converted_123 rfl (lv_at hl 2 rfl) ?_
                      refine lv_iconst (v := 1) hx hb dX6_converted_124 (by decide) ?_
                      refine sw_cln hv hB (sm_runV (rest := []) hC (c_X6_toWhole l g ad hW.2.1 _ σ 1 x2 1) k_X6_toWhole w_680 (by decide) (sm_pv hW hB (by decide) (eM_0 g ad _) rfl) rfl hl.1 rfl (Nat.le_of_ble_eq_true rfl) dX6_converted_125) (fun u125_5 eu125_5 hv H locs hB => ?_)
                      exact sw_rl hx hb hr hlocks hB hv dX6_converted_128
                    · have hv := hv.trans (if_neg c1_10)
                      by_cases c1_11 : x1 = 11
                      · have hv := hv.trans (if_pos c1_11)
                        refine lv_tableIn (tgt := 129) hx hb dX6_converted_1 (by rw [c1_11]; decide) (by rw [c1_11]; decide) (by rw [c1_11]; rfl) (by decide) ?_
                        refine lv_aload_n hx hb dX6_converted_129 rfl (lv_at hl 0 rfl) ?_
                        refine lv_iconst (v := 1) hx hb dX6_converted_130 (by decide) ?_
                        refine lv_lload_n hx hb dX6_converted_131 rfl (lv_at hl 2 rfl) ?_
                        refine sw_cln hv hB (sm_runV (rest := []) hC (c_X6_otherFormat l g ad hW.2.1 _ σ 1 x2) k_X6_otherFormat w_684 (by decide) (sm_pv hW hB (by decide) (eM_0 g ad _) rfl) rfl hl.1 rfl (Nat.le_of_ble_eq_true rfl) dX6_converted_132) (fun u132_6 eu132_6 hv H locs hB => ?_)
                        exact sw_rl hx hb hr hlocks hB hv dX6_converted_135
                      · have hv := hv.trans (if_neg c1_11)
                        by_cases c1_12 : x1 = 12
                        · have hv := hv.trans (if_pos c1_12)
                          refine lv_tableIn (tgt := 136) hx hb dX6_converted_1 (by rw [c1_12]; decide) (by rw [c1_12]; decide) (by rw [c1_12]; rfl) (by decide) ?_
                          refine lv_lload_n hx hb dX6_converted_136 rfl (lv_at hl 2 rfl) ?_
                          refine lv_l2i hx hb dX6_converted_137 rfl ?_
                          refine lv_i2b hx hb dX6_converted_138 rfl ?_
                          refine lv_i2l hx hb dX6_converted_139 rfl ?_
                          exact sw_rl hx hb hr hlocks hB hv dX6_converted_140
                        · have hv := hv.trans (if_neg c1_12)
                          by_cases c1_13 : x1 = 13
                          · have hv := hv.trans (if_pos c1_13)
                            refine lv_tableIn (tgt := 141) hx hb dX6_converted_1 (by rw [c1_13]; decide) (by rw [c1_13]; decide) (by rw [c1_13]; rfl) (by decide) ?_
                            refine lv_lload_n hx hb dX6_converted_141 rfl (lv_at hl 2 rfl) ?_
                            refine lv_l2i hx hb dX6_converted_142 rfl ?_
                            refine lv_i2c hx hb dX6_converted_143 rfl ?_
                            refine lv_i2l hx hb dX6_converted_144 rfl ?_
                            exact sw_rl hx hb hr hlocks hB hv dX6_converted_145
                          · have hv := hv.trans (if_neg c1_13)
                            by_cases c1_14 : x1 = 14
                            · have hv := hv.trans (if_pos c1_14)
                              refine lv_tableIn (tgt := 146) hx hb dX6_converted_1 (by rw [c1_14]; decide) (by rw [c1_14]; decide) (by rw [c1_14]; rfl) (by decide) ?_
                              refine lv_lload_n hx hb dX6_converted_146 rfl (lv_at hl 2 rfl) ?_
                              refine lv_l2i hx hb dX6_converted_147 rfl ?_
                              refine lv_i2s hx hb dX6_converted_148 rfl ?_
                              refine lv_i2l hx hb dX6_converted_149 rfl ?_
                              exact sw_rl hx hb hr hlocks hB hv dX6_converted_150
                            · have hv := hv.trans (if_neg c1_14)
                              refine lv_tableOut (tgt := 151) hx hb dX6_converted_1 (by have := lv_neT c1_1 (show (1 : Int32).toInt = 1 from rfl); have := lv_neT c1_2 (show (2 : Int32).toInt = 2 from rfl); have := lv_neT c1_3 (show (3 : Int32).toInt = 3 from rfl); have := lv_neT c1_4 (show (4 : Int32).toInt = 4 from rfl); have := lv_neT c1_5 (show (5 : Int32).toInt = 5 from rfl); have := lv_neT c1_6 (show (6 : Int32).toInt = 6 from rfl); have := lv_neT c1_7 (show (7 : Int32).toInt = 7 from rfl); have := lv_neT c1_8 (show (8 : Int32).toInt = 8 from rfl); have := lv_neT c1_9 (show (9 : Int32).toInt = 9 from rfl); have := lv_neT c1_10 (show (10 : Int32).toInt = 10 from rfl); have := lv_neT c1_11 (show (11 : Int32).toInt = 11 from rfl); have := lv_neT c1_12 (show (12 : Int32).toInt = 12 from rfl); have := lv_neT c1_13 (show (13 : Int32).toInt = 13 from rfl); have := lv_neT c1_14 (show (14 : Int32).toInt = 14 from rfl); omega) (by decide) ?_
                              refine lv_lload_n hx hb dX6_converted_151 rfl (lv_at hl 2 rfl) ?_
                              exact sw_rl hx hb hr hlocks hB hv dX6_converted_152
def f_X6_kindAfter (x1 : Int32) : Int32 := if x1 = 0 then 1 else (if x1 = 7 then 1 else (if x1 = 10 then 1 else (if x1 = 1 then 2 else (if x1 = 4 then 2 else (if x1 = 11 then 2 else (if x1 = 2 then 3 else (if x1 = 5 then 3 else (if x1 = 8 then 3 else 0))))))))
set_option maxRecDepth 100000 in
set_option maxHeartbeats 4000000 in
theorem c_X6_kindAfter (l : Launch) (g : sm_G) (ad : Nat → Nat) (hj : sm_inj 19 ad) (sz : Nat) (x1 : Int32) (σ : sm_S)   : Met l yX6_kindAfter (sm_ws yX6_kindAfter cX6_kindAfter 2 (some .int)) (rmd 0) (va_Pc [.ref (ad 0), .int x1] (sm_Pre g 19 ad (eM g ad) σ sz)) (vp_Si (fun r => r = f_X6_kindAfter x1)) 0 0 (fun _ => False) := by
  generalize hv : f_X6_kindAfter x1 = F
  replace hv := hv.symm
  refine sm_mR (by decide) (Nat.le_of_ble_eq_true rfl) hj (eM_lay g ad) (fun p e s m args below meth c C hW hB ls hl => ?_)
  obtain ⟨hC, hr, hlocks⟩ := C
  have hx := hC.1
  have hb := hC.2.1
  have hts := hC.2.2.2.2
  have hown : s.vm.findClass RX6 = some m.cls := hC.2.2.2.1
  have hl : lv_has ls 2 [(0, .ref (ad 0)), (1, .int x1)] := hl
  refine lv_iload_n hx hb dX6_kindAfter_0 rfl (lv_at hl 1 rfl) ?_
  refine lv_if_eq (tgt := 16) hx hb dX6_kindAfter_1 (by decide) (fun c1 => ?_) (fun c1 => ?_)
  · have hv := hv.trans (if_pos c1)
    refine lv_iconst (v := 1) hx hb dX6_kindAfter_16 (by decide) ?_
    exact sm_ri hx hb hr hlocks hv dX6_kindAfter_17
  · have hv := hv.trans (if_neg c1)
    refine lv_iload_n hx hb dX6_kindAfter_4 rfl (lv_at hl 1 rfl) ?_
    refine lv_bipush (v := 7) hx hb dX6_kindAfter_5 (by decide) ?_
    refine lv_icmp_eq (tgt := 16) hx hb dX6_kindAfter_7 (by decide) (fun c7 => ?_) (fun c7 => ?_)
    · have hv := hv.trans (if_pos c7)
      refine lv_iconst (v := 1) hx hb dX6_kindAfter_16 (by decide) ?_
      exact sm_ri hx hb hr hlocks hv dX6_kindAfter_17
    · have hv := hv.trans (if_neg c7)
      refine lv_iload_n hx hb dX6_kindAfter_10 rfl (lv_at hl 1 rfl) ?_
      refine lv_bipush (v := 10) hx hb dX6_kindAfter_11 (by decide) ?_
      refine lv_icmp_ne (tgt := 18) hx hb dX6_kindAfter_13 (by decide) (fun c13 => ?_) (fun c13 => ?_)
      · have hv := hv.trans (if_neg c13)
        refine lv_iload_n hx hb dX6_kindAfter_18 rfl (lv_at hl 1 rfl) ?_
        refine lv_iconst (v := 1) hx hb dX6_kindAfter_19 (by decide) ?_
        refine lv_icmp_eq (tgt := 34) hx hb dX6_kindAfter_20 (by decide) (fun c20 => ?_) (fun c20 => ?_)
        · have hv := hv.trans (if_pos c20)
          refine lv_iconst (v := 2) hx hb dX6_kindAfter_34 (by decide) ?_
          exact sm_ri hx hb hr hlocks hv dX6_kindAfter_35
        · have hv := hv.trans (if_neg c20)
          refine lv_iload_n hx hb dX6_kindAfter_23 rfl (lv_at hl 1 rfl) ?_
          refine lv_iconst (v := 4) hx hb dX6_kindAfter_24 (by decide) ?_
          refine lv_icmp_eq (tgt := 34) hx hb dX6_kindAfter_25 (by decide) (fun c25 => ?_) (fun c25 => ?_)
          · have hv := hv.trans (if_pos c25)
            refine lv_iconst (v := 2) hx hb dX6_kindAfter_34 (by decide) ?_
            exact sm_ri hx hb hr hlocks hv dX6_kindAfter_35
          · have hv := hv.trans (if_neg c25)
            refine lv_iload_n hx hb dX6_kindAfter_28 rfl (lv_at hl 1 rfl) ?_
            refine lv_bipush (v := 11) hx hb dX6_kindAfter_29 (by decide) ?_
            refine lv_icmp_ne (tgt := 36) hx hb dX6_kindAfter_31 (by decide) (fun c31 => ?_) (fun c31 => ?_)
            · have hv := hv.trans (if_neg c31)
              refine lv_iload_n hx hb dX6_kindAfter_36 rfl (lv_at hl 1 rfl) ?_
              refine lv_iconst (v := 2) hx hb dX6_kindAfter_37 (by decide) ?_
              refine lv_icmp_eq (tgt := 52) hx hb dX6_kindAfter_38 (by decide) (fun c38 => ?_) (fun c38 => ?_)
              · have hv := hv.trans (if_pos c38)
                refine lv_iconst (v := 3) hx hb dX6_kindAfter_52 (by decide) ?_
                refine lv_goto (tgt := 57) hx hb dX6_kindAfter_53 (by decide) ?_
                exact sm_ri hx hb hr hlocks hv dX6_kindAfter_57
              · have hv := hv.trans (if_neg c38)
                refine lv_iload_n hx hb dX6_kindAfter_41 rfl (lv_at hl 1 rfl) ?_
                refine lv_iconst (v := 5) hx hb dX6_kindAfter_42 (by decide) ?_
                refine lv_icmp_eq (tgt := 52) hx hb dX6_kindAfter_43 (by decide) (fun c43 => ?_) (fun c43 => ?_)
                · have hv := hv.trans (if_pos c43)
                  refine lv_iconst (v := 3) hx hb dX6_kindAfter_52 (by decide) ?_
                  refine lv_goto (tgt := 57) hx hb dX6_kindAfter_53 (by decide) ?_
                  exact sm_ri hx hb hr hlocks hv dX6_kindAfter_57
                · have hv := hv.trans (if_neg c43)
                  refine lv_iload_n hx hb dX6_kindAfter_46 rfl (lv_at hl 1 rfl) ?_
                  refine lv_bipush (v := 8) hx hb dX6_kindAfter_47 (by decide) ?_
                  refine lv_icmp_ne (tgt := 56) hx hb dX6_kindAfter_49 (by decide) (fun c49 => ?_) (fun c49 => ?_)
                  · have hv := hv.trans (if_neg c49)
                    refine lv_iconst (v := 0) hx hb dX6_kindAfter_56 (by decide) ?_
                    exact sm_ri hx hb hr hlocks hv dX6_kindAfter_57
                  · have hv := hv.trans (if_pos c49)
                    refine lv_iconst (v := 3) hx hb dX6_kindAfter_52 (by decide) ?_
                    refine lv_goto (tgt := 57) hx hb dX6_kindAfter_53 (by decide) ?_
                    exact sm_ri hx hb hr hlocks hv dX6_kindAfter_57
            · have hv := hv.trans (if_pos c31)
              refine lv_iconst (v := 2) hx hb dX6_kindAfter_34 (by decide) ?_
              exact sm_ri hx hb hr hlocks hv dX6_kindAfter_35
      · have hv := hv.trans (if_pos c13)
        refine lv_iconst (v := 1) hx hb dX6_kindAfter_16 (by decide) ?_
        exact sm_ri hx hb hr hlocks hv dX6_kindAfter_17
def f_X6_turned_109 (t0_76 : Int32) (t0_89 : Int32) (σ : sm_S) (t0_109 : Int64) : Int64 × sm_S := (f_X6_signed t0_89 t0_76 t0_109, σ)
def f_X6_turned_89 (x2 : Int32) (x3 : Int64) (t0_76 : Int32) (σ : sm_S) (t0_89 : Int32) : Int64 × sm_S := if x2 = 3 then (f_X6_turned_109 t0_76 t0_89 σ (x3 &&& 9223372036854775807)) else (f_X6_turned_109 t0_76 t0_89 σ (x3 &&& 2147483647))
def f_X6_turned_76 (x2 : Int32) (x3 : Int64) (σ : sm_S) (t0_76 : Int32) : Int64 × sm_S := if x2 = 3 then (f_X6_turned_89 x2 x3 t0_76 σ 1) else (f_X6_turned_89 x2 x3 t0_76 σ 0)
def f_X6_turned_75 (x2 : Int32) (x3 : Int64) (σ : sm_S) : Int64 × sm_S := f_X6_turned_76 x2 x3 σ 0
def f_X6_turned_50 (x1 : Int32) (x2 : Int32) (x3 : Int64) (σ : sm_S) (t0_50 : Int32) : Int64 × sm_S := sm_let (f_X6_isNone σ t0_50 x3) (fun u51_1 => if u51_1.1 = 0 then (if x1 = 15 then (if x3 < 0 then (f_X6_turned_75 x2 x3 u51_1.2) else (f_X6_turned_76 x2 x3 u51_1.2 1)) else (f_X6_turned_75 x2 x3 u51_1.2)) else ((x3, u51_1.2)))
def f_X6_turned_23 (x2 : Int32) (σ : sm_S) (t0_23 : Int64) : Int64 × sm_S := if x2 = 0 then ((Int32.toInt64 (Int64.toInt32 t0_23), σ)) else ((t0_23, σ))
def f_X6_turned_17 (x2 : Int32) (x3 : Int64) (σ : sm_S) : Int64 × sm_S := f_X6_turned_23 x2 σ (-x3)
def f_X6_turned (σ : sm_S) (x1 : Int32) (x2 : Int32) (x3 : Int64) : Int64 × sm_S := if 2 ≤ x2 then (if x2 = 3 then (f_X6_turned_50 x1 x2 x3 σ 1) else (f_X6_turned_50 x1 x2 x3 σ 0)) else (if x1 = 15 then (f_X6_turned_17 x2 x3 σ) else (if 0 ≤ x3 then (f_X6_turned_23 x2 σ x3) else (f_X6_turned_17 x2 x3 σ)))
set_option maxRecDepth 100000 in
set_option maxHeartbeats 4000000 in
theorem c_X6_turned (l : Launch) (g : sm_G) (ad : Nat → Nat) (hj : sm_inj 19 ad) (sz : Nat) (σ : sm_S) (x1 : Int32) (x2 : Int32) (x3 : Int64)   : Met l yX6_turned (sm_ws yX6_turned cX6_turned 7 (some .long)) (rmd 3) (va_Pc [.ref (ad 0), .int x1, .int x2, .long x3] (sm_Pre g 19 ad (eM g ad) σ sz)) (sm_Ql g 19 ad (eM g ad) sz (f_X6_turned σ x1 x2 x3)) 0 0 (sm_AX 19 ad sz) := by
  generalize hv : f_X6_turned σ x1 x2 x3 = F
  replace hv := hv.symm
  refine sm_mWl (by decide) (Nat.le_of_ble_eq_true rfl) hj (eM_lay g ad) (fun p e s m args below meth c C hW hB ls hl => ?_)
  obtain ⟨hC, hr, hlocks⟩ := C
  have hx := hC.1
  have hb := hC.2.1
  have hts := hC.2.2.2.2
  have hown : s.vm.findClass RX6 = some m.cls := hC.2.2.2.1
  have hl : lv_has ls 7 [(0, .ref (ad 0)), (1, .int x1), (2, .int x2), (3, .long x3)] := hl
  refine lv_iload_n hx hb dX6_turned_0 rfl (lv_at hl 2 rfl) ?_
  refine lv_iconst (v := 2) hx hb dX6_turned_1 (by decide) ?_
  refine lv_icmp_ge (tgt := 39) hx hb dX6_turned_2 (by decide) (fun c2 => ?_) (fun c2 => ?_)
  · have hv := hv.trans (if_pos c2)
    refine lv_aload_n hx hb dX6_turned_39 rfl (lv_at hl 0 rfl) ?_
    refine lv_iload_n hx hb dX6_turned_40 rfl (lv_at hl 2 rfl) ?_
    refine lv_iconst (v := 3) hx hb dX6_turned_41 (by decide) ?_
    have k_50 : ∀ (t0_50 : Int32) (ls : Array Slot), lv_has ls 7 [(0, .ref (ad 0)), (1, .int x1), (2, .int x2), (3, .long x3)] → F = f_X6_turned_50 x1 x2 x3 σ t0_50 → W p l e (rmd 3) s m args below meth c s.heap [] 0 0 (MQ below (sm_Ql g 19 ad (eM g ad) s.heap.size F) args s 0 0 (sm_AX 19 ad s.heap.size)) (F0 m 50 ls [.int t0_50, .ref (ad 0)]) := by
      intro t0_50 ls hl hv
      refine lv_lload_n hx hb dX6_turned_50 rfl (lv_at hl 3 rfl) ?_
      refine sw_cin hv hB (sm_runV (rest := []) hC (c_X6_isNone l g ad hW.2.1 _ σ t0_50 x3) k_X6_isNone w_606 (by decide) (sm_pv hW hB (by decide) (eM_0 g ad _) rfl) rfl hl.1 rfl (Nat.le_of_ble_eq_true rfl) dX6_turned_51) (fun u51_1 eu51_1 hv H locs hB => ?_)
      refine lv_if_eq (tgt := 59) hx hb dX6_turned_54 (by decide) (fun c54 => ?_) (fun c54 => ?_)
      · have hv := hv.trans (if_pos c54)
        refine lv_iload_n hx hb dX6_turned_59 rfl (lv_at hl 1 rfl) ?_
        refine lv_bipush (v := 15) hx hb dX6_turned_60 (by decide) ?_
        have k_76 : ∀ (t0_76 : Int32) (σ : sm_S) (ls : Array Slot) (H : Heap) (locs : List Loc), lv_has ls 7 [(0, .ref (ad 0)), (2, .int x2), (3, .long x3)] → sm_B g 19 ad (eM g ad) s H locs σ → F = f_X6_turned_76 x2 x3 σ t0_76 → W p l e (rmd 3) s m args below meth c H locs 0 0 (MQ below (sm_Ql g 19 ad (eM g ad) s.heap.size F) args s 0 0 (sm_AX 19 ad s.heap.size)) (F0 m 76 ls [.int t0_76]) := by
          intro t0_76 σ ls H locs hl hB hv
          refine lv_istore (lv' := [(5, .int t0_76), (0, .ref (ad 0)), (2, .int x2), (3, .long x3)]) hx hb dX6_turned_76 hl (by decide) rfl (fun ls hl => ?_)
          refine lv_aload_n hx hb dX6_turned_78 rfl (lv_at hl 1 rfl) ?_
          refine lv_iload_n hx hb dX6_turned_79 rfl (lv_at hl 2 rfl) ?_
          refine lv_iconst (v := 3) hx hb dX6_turned_80 (by decide) ?_
          have k_89 : ∀ (t0_89 : Int32) (ls : Array Slot), lv_has ls 7 [(2, .int x2), (3, .long x3), (5, .int t0_76)] → F = f_X6_turned_89 x2 x3 t0_76 σ t0_89 → W p l e (rmd 3) s m args below meth c H locs 0 0 (MQ below (sm_Ql g 19 ad (eM g ad) s.heap.size F) args s 0 0 (sm_AX 19 ad s.heap.size)) (F0 m 89 ls [.int t0_89, .ref (ad 0)]) := by
            intro t0_89 ls hl hv
            refine lv_iload hx hb dX6_turned_89 (lv_at hl 2 rfl) ?_
            refine lv_iload_n hx hb dX6_turned_91 rfl (lv_at hl 0 rfl) ?_
            refine lv_iconst (v := 3) hx hb dX6_turned_92 (by decide) ?_
            have k_109 : ∀ (t0_109 : Int64) (ls : Array Slot), lv_has ls 7 [] → F = f_X6_turned_109 t0_76 t0_89 σ t0_109 → W p l e (rmd 3) s m args below meth c H locs 0 0 (MQ below (sm_Ql g 19 ad (eM g ad) s.heap.size F) args s 0 0 (sm_AX 19 ad s.heap.size)) (F0 m 109 ls [.long t0_109, .int t0_76, .int t0_89, .ref (ad 0)]) := by
              intro t0_109 ls hl hv
              refine sm_cl (sm_runV (rest := []) hC (c_X6_signed l g ad hW.2.1 _ t0_89 t0_76 t0_109 σ) k_X6_signed w_674 (by decide) (sm_pv hW hB (by decide) (eM_0 g ad _) rfl) rfl hl.1 rfl (Nat.le_of_ble_eq_true rfl) dX6_turned_109) ?_
              exact sw_rl hx hb hr hlocks hB hv dX6_turned_112
            refine lv_icmp_ne (tgt := 104) hx hb dX6_turned_93 (by decide) (fun c93 => ?_) (fun c93 => ?_)
            · have hv := hv.trans (if_neg c93)
              refine lv_lload_n hx hb dX6_turned_104 rfl (lv_at hl 1 rfl) ?_
              refine lv_ldc2 hx hb hown (hts _ w_619) dX6_turned_105 ?_
              refine lv_land hx hb dX6_turned_108 ?_
              exact k_109 (x3 &&& 2147483647) _ (lv_sub hl [] rfl) hv
            · have hv := hv.trans (if_pos c93)
              refine lv_lload_n hx hb dX6_turned_96 rfl (lv_at hl 1 rfl) ?_
              refine lv_ldc2 hx hb hown (hts _ w_618) dX6_turned_97 ?_
              refine lv_land hx hb dX6_turned_100 ?_
              refine lv_goto (tgt := 109) hx hb dX6_turned_101 (by decide) ?_
              exact k_109 (x3 &&& 9223372036854775807) _ (lv_sub hl [] rfl) hv
          refine lv_icmp_ne (tgt := 88) hx hb dX6_turned_81 (by decide) (fun c81 => ?_) (fun c81 => ?_)
          · have hv := hv.trans (if_neg c81)
            refine lv_iconst (v := 0) hx hb dX6_turned_88 (by decide) ?_
            exact k_89 0 _ (lv_sub hl [2, 3, 0] rfl) hv
          · have hv := hv.trans (if_pos c81)
            refine lv_iconst (v := 1) hx hb dX6_turned_84 (by decide) ?_
            refine lv_goto (tgt := 89) hx hb dX6_turned_85 (by decide) ?_
            exact k_89 1 _ (lv_sub hl [2, 3, 0] rfl) hv
        have k_75 : ∀  (σ : sm_S) (ls : Array Slot) (H : Heap) (locs : List Loc), lv_has ls 7 [(0, .ref (ad 0)), (2, .int x2), (3, .long x3)] → sm_B g 19 ad (eM g ad) s H locs σ → F = f_X6_turned_75 x2 x3 σ → W p l e (rmd 3) s m args below meth c H locs 0 0 (MQ below (sm_Ql g 19 ad (eM g ad) s.heap.size F) args s 0 0 (sm_AX 19 ad s.heap.size)) (F0 m 75 ls []) := by
          intro σ ls H locs hl hB hv
          refine lv_iconst (v := 0) hx hb dX6_turned_75 (by decide) ?_
          exact k_76 0 σ _ _ _ (lv_sub hl [0, 1, 2] rfl) hB hv
        refine lv_icmp_ne (tgt := 75) hx hb dX6_turned_62 (by decide) (fun c62 => ?_) (fun c62 => ?_)
        · have hv := hv.trans (if_neg c62)
          exact k_75 u51_1.2 _ _ _ (lv_sub hl [0, 2, 3] rfl) hB hv
        · have hv := hv.trans (if_pos c62)
          refine lv_lload_n hx hb dX6_turned_65 rfl (lv_at hl 3 rfl) ?_
          refine lv_lconst (v := 0) hx hb dX6_turned_66 (by decide) ?_
          refine lc_lt (tgt := 75) hx hb dX6_turned_67 dX6_turned_68 (by decide) (fun c67 => ?_) (fun c67 => ?_)
          · have hv := hv.trans (if_pos c67)
            exact k_75 u51_1.2 _ _ _ (lv_sub hl [0, 2, 3] rfl) hB hv
          · have hv := hv.trans (if_neg c67)
            refine lv_iconst (v := 1) hx hb dX6_turned_71 (by decide) ?_
            refine lv_goto (tgt := 76) hx hb dX6_turned_72 (by decide) ?_
            exact k_76 1 u51_1.2 _ _ _ (lv_sub hl [0, 2, 3] rfl) hB hv
      · have hv := hv.trans (if_neg c54)
        refine lv_lload_n hx hb dX6_turned_57 rfl (lv_at hl 3 rfl) ?_
        exact sw_rl hx hb hr hlocks hB hv dX6_turned_58
    refine lv_icmp_ne (tgt := 49) hx hb dX6_turned_42 (by decide) (fun c42 => ?_) (fun c42 => ?_)
    · have hv := hv.trans (if_neg c42)
      refine lv_iconst (v := 0) hx hb dX6_turned_49 (by decide) ?_
      exact k_50 0 _ (lv_sub hl [0, 1, 2, 3] rfl) hv
    · have hv := hv.trans (if_pos c42)
      refine lv_iconst (v := 1) hx hb dX6_turned_45 (by decide) ?_
      refine lv_goto (tgt := 50) hx hb dX6_turned_46 (by decide) ?_
      exact k_50 1 _ (lv_sub hl [0, 1, 2, 3] rfl) hv
  · have hv := hv.trans (if_neg c2)
    refine lv_iload_n hx hb dX6_turned_5 rfl (lv_at hl 1 rfl) ?_
    refine lv_bipush (v := 15) hx hb dX6_turned_6 (by decide) ?_
    have k_23 : ∀ (t0_23 : Int64) (ls : Array Slot), lv_has ls 7 [(2, .int x2)] → F = f_X6_turned_23 x2 σ t0_23 → W p l e (rmd 3) s m args below meth c s.heap [] 0 0 (MQ below (sm_Ql g 19 ad (eM g ad) s.heap.size F) args s 0 0 (sm_AX 19 ad s.heap.size)) (F0 m 23 ls [.long t0_23]) := by
      intro t0_23 ls hl hv
      refine lv_lstore (lv' := [(5, .long t0_23), (2, .int x2)]) hx hb dX6_turned_23 hl (by decide) rfl (fun ls hl => ?_)
      refine lv_iload_n hx hb dX6_turned_25 rfl (lv_at hl 1 rfl) ?_
      refine lv_if_ne (tgt := 36) hx hb dX6_turned_26 (by decide) (fun c26 => ?_) (fun c26 => ?_)
      · have hv := hv.trans (if_neg c26)
        refine lv_lload hx hb dX6_turned_36 (lv_at hl 0 rfl) ?_
        exact sw_rl hx hb hr hlocks hB hv dX6_turned_38
      · have hv := hv.trans (if_pos c26)
        refine lv_lload hx hb dX6_turned_29 (lv_at hl 0 rfl) ?_
        refine lv_l2i hx hb dX6_turned_31 rfl ?_
        refine lv_i2l hx hb dX6_turned_32 rfl ?_
        refine lv_goto (tgt := 38) hx hb dX6_turned_33 (by decide) ?_
        exact sw_rl hx hb hr hlocks hB hv dX6_turned_38
    have k_17 : ∀  (ls : Array Slot), lv_has ls 7 [(2, .int x2), (3, .long x3)] → F = f_X6_turned_17 x2 x3 σ → W p l e (rmd 3) s m args below meth c s.heap [] 0 0 (MQ below (sm_Ql g 19 ad (eM g ad) s.heap.size F) args s 0 0 (sm_AX 19 ad s.heap.size)) (F0 m 17 ls []) := by
      intro ls hl hv
      refine lv_lload_n hx hb dX6_turned_17 rfl (lv_at hl 1 rfl) ?_
      refine lv_lneg hx hb dX6_turned_18 ?_
      refine lv_goto (tgt := 23) hx hb dX6_turned_19 (by decide) ?_
      exact k_23 (-x3) _ (lv_sub hl [0] rfl) hv
    refine lv_icmp_eq (tgt := 17) hx hb dX6_turned_8 (by decide) (fun c8 => ?_) (fun c8 => ?_)
    · have hv := hv.trans (if_pos c8)
      exact k_17 _ (lv_sub hl [2, 3] rfl) hv
    · have hv := hv.trans (if_neg c8)
      refine lv_lload_n hx hb dX6_turned_11 rfl (lv_at hl 3 rfl) ?_
      refine lv_lconst (v := 0) hx hb dX6_turned_12 (by decide) ?_
      refine lc_ge (tgt := 22) hx hb dX6_turned_13 dX6_turned_14 (by decide) (fun c13 => ?_) (fun c13 => ?_)
      · have hv := hv.trans (if_pos c13)
        refine lv_lload_n hx hb dX6_turned_22 rfl (lv_at hl 3 rfl) ?_
        exact k_23 x3 _ (lv_sub hl [2] rfl) hv
      · have hv := hv.trans (if_neg c13)
        exact k_17 _ (lv_sub hl [2, 3] rfl) hv
def f_X6_one_247 (t0_180 : Int64) (x2 : Int32) (σ : sm_S) (t0_247 : Int32) (t1_247 : Int32) : Int32 × sm_S := sm_let (f_X6_put σ x2 t0_180 t1_247 t0_247) (fun u247_2 => (0, u247_2))
def f_X6_one_246 (t0_180 : Int64) (x2 : Int32) (σ : sm_S) (t0_246 : Int32) : Int32 × sm_S := f_X6_one_247 t0_180 x2 σ 0 t0_246
def f_X6_one_208 (x2 : Int32) (x3 : Int32) (t0_82 : Int32) (t0_180 : Int64) (σ : sm_S) (t0_208 : Int32) : Int32 × sm_S := if ((uI σ 1 (Int32.toNatClampNeg x2) t0_82).1 4 (Int32.toNatClampNeg x3)) = 0 then (f_X6_one_246 t0_180 x2 (uI σ 1 (Int32.toNatClampNeg x2) t0_82) ((uI σ 1 (Int32.toNatClampNeg x2) t0_82).1 2 (Int32.toNatClampNeg x3))) else (if t0_208 = 0 then (f_X6_one_247 t0_180 x2 (uI σ 1 (Int32.toNatClampNeg x2) t0_82) 1 ((uI σ 1 (Int32.toNatClampNeg x2) t0_82).1 2 (Int32.toNatClampNeg x3))) else (f_X6_one_246 t0_180 x2 (uI σ 1 (Int32.toNatClampNeg x2) t0_82) ((uI σ 1 (Int32.toNatClampNeg x2) t0_82).1 2 (Int32.toNatClampNeg x3))))
def f_X6_one_203 (x2 : Int32) (x3 : Int32) (t0_82 : Int32) (t0_180 : Int64) (σ : sm_S) : Int32 × sm_S := f_X6_one_208 x2 x3 t0_82 t0_180 σ 1
def f_X6_one_180 (x1 : Int32) (x2 : Int32) (x3 : Int32) (t0_82 : Int32) (σ : sm_S) (t0_180 : Int64) : Int32 × sm_S := if x1 = 1 then (f_X6_one_203 x2 x3 t0_82 t0_180 σ) else (if x1 = 4 then (f_X6_one_203 x2 x3 t0_82 t0_180 σ) else (if x1 = 5 then (f_X6_one_203 x2 x3 t0_82 t0_180 σ) else (if x1 = 11 then (f_X6_one_203 x2 x3 t0_82 t0_180 σ) else (f_X6_one_208 x2 x3 t0_82 t0_180 σ 0))))
def f_X6_one_126 (x1 : Int32) (x2 : Int32) (x3 : Int32) (y38_1 : Int32) (t0_82 : Int32) (σ : sm_S) : Int32 × sm_S := if 15 ≤ x1 then (if 17 ≤ x1 then (sm_let (f_X6_clean σ t0_82 (σ.2.1 3 (Int32.toNatClampNeg x3))) (fun u177_3 => f_X6_one_180 x1 x2 x3 t0_82 u177_3.2 u177_3.1)) else (sm_let (f_X6_turned σ x1 y38_1 (σ.2.1 3 (Int32.toNatClampNeg x3))) (fun u162_4 => f_X6_one_180 x1 x2 x3 t0_82 u162_4.2 u162_4.1))) else (sm_let (f_X6_converted σ x1 (σ.2.1 3 (Int32.toNatClampNeg x3))) (fun u140_5 => f_X6_one_180 x1 x2 x3 t0_82 u140_5.2 u140_5.1))
def f_X6_one_112 (x1 : Int32) (x2 : Int32) (x3 : Int32) (y38_1 : Int32) (t0_82 : Int32) (σ : sm_S) : Int32 × sm_S := if x1 = 18 then (if y38_1 ≤ 1 then (f_X6_one_126 x1 x2 x3 y38_1 t0_82 σ) else (((-1), σ))) else (f_X6_one_126 x1 x2 x3 y38_1 t0_82 σ)
def f_X6_one_100 (x1 : Int32) (x2 : Int32) (x3 : Int32) (y38_1 : Int32) (t0_82 : Int32) (σ : sm_S) : Int32 × sm_S := if x1 = 17 then (if y38_1 < 2 then (((-1), σ)) else (f_X6_one_112 x1 x2 x3 y38_1 t0_82 σ)) else (f_X6_one_112 x1 x2 x3 y38_1 t0_82 σ)
def f_X6_one_82 (x1 : Int32) (x2 : Int32) (x3 : Int32) (y38_1 : Int32) (σ : sm_S) (t0_82 : Int32) : Int32 × sm_S := if 15 ≤ x1 then (f_X6_one_100 x1 x2 x3 y38_1 t0_82 σ) else (if y38_1 = (f_X6_wanted x1) then (f_X6_one_100 x1 x2 x3 y38_1 t0_82 σ) else (((-1), σ)))
def f_X6_one (σ : sm_S) (x1 : Int32) (x2 : Int32) (x3 : Int32) : Int32 × sm_S := if (f_X6_out x1 19) = 0 then (if (f_X6_out x2 8) = 0 then (if (f_X6_out x3 8) = 0 then (sm_let (σ.1 1 (Int32.toNatClampNeg x3)) (fun y38_1 => if 15 ≤ x1 then (if 17 ≤ x1 then (if x1 = 17 then (f_X6_one_82 x1 x2 x3 y38_1 σ (y38_1 - 2)) else (f_X6_one_82 x1 x2 x3 y38_1 σ (y38_1 + 2))) else (f_X6_one_82 x1 x2 x3 y38_1 σ y38_1)) else (f_X6_one_82 x1 x2 x3 y38_1 σ (f_X6_kindAfter x1)))) else (((-1), σ))) else (((-1), σ))) else (((-1), σ))
set_option maxRecDepth 100000 in
set_option maxHeartbeats 4000000 in
theorem c_X6_one (l : Launch) (g : sm_G) (ad : Nat → Nat) (hj : sm_inj 19 ad) (sz : Nat) (σ : sm_S) (x1 : Int32) (x2 : Int32) (x3 : Int32)   : Met l yX6_one (sm_ws yX6_one cX6_one 9 (some .int)) (rmd 4) (va_Pc [.ref (ad 0), .int x1, .int x2, .int x3] (sm_Pre g 19 ad (eM g ad) σ sz)) (sm_Qi g 19 ad (eM g ad) sz (f_X6_one σ x1 x2 x3)) 0 0 (sm_AX 19 ad sz) := by
  generalize hv : f_X6_one σ x1 x2 x3 = F
  replace hv := hv.symm
  refine sm_mWi (by decide) (Nat.le_of_ble_eq_true rfl) hj (eM_lay g ad) (fun p e s m args below meth c C hW hB ls hl => ?_)
  obtain ⟨hC, hr, hlocks⟩ := C
  have hx := hC.1
  have hb := hC.2.1
  have hts := hC.2.2.2.2
  have hown : s.vm.findClass RX6 = some m.cls := hC.2.2.2.1
  have hl : lv_has ls 9 [(0, .ref (ad 0)), (1, .int x1), (2, .int x2), (3, .int x3)] := hl
  refine lv_aload_n hx hb dX6_one_0 rfl (lv_at hl 0 rfl) ?_
  refine lv_iload_n hx hb dX6_one_1 rfl (lv_at hl 1 rfl) ?_
  refine lv_bipush (v := 19) hx hb dX6_one_2 (by decide) ?_
  refine sm_ci (sm_runV (rest := []) hC (c_X6_out l g ad hW.2.1 _ x1 19 σ) k_X6_out w_598 (by decide) (sm_pv hW hB (by decide) (eM_0 g ad _) rfl) rfl hl.1 rfl (Nat.le_of_ble_eq_true rfl) dX6_one_4) ?_
  refine lv_if_ne (tgt := 30) hx hb dX6_one_7 (by decide) (fun c7 => ?_) (fun c7 => ?_)
  · have hv := hv.trans (if_neg c7)
    refine lv_iconst (v := -1) hx hb dX6_one_30 (by decide) ?_
    exact sw_ri hx hb hr hlocks hB hv dX6_one_31
  · have hv := hv.trans (if_pos c7)
    refine lv_aload_n hx hb dX6_one_10 rfl (lv_at hl 0 rfl) ?_
    refine lv_iload_n hx hb dX6_one_11 rfl (lv_at hl 2 rfl) ?_
    refine lv_bipush (v := 8) hx hb dX6_one_12 (by decide) ?_
    refine sm_ci (sm_runV (rest := []) hC (c_X6_out l g ad hW.2.1 _ x2 8 σ) k_X6_out w_598 (by decide) (sm_pv hW hB (by decide) (eM_0 g ad _) rfl) rfl hl.1 rfl (Nat.le_of_ble_eq_true rfl) dX6_one_14) ?_
    refine lv_if_ne (tgt := 30) hx hb dX6_one_17 (by decide) (fun c17 => ?_) (fun c17 => ?_)
    · have hv := hv.trans (if_neg c17)
      refine lv_iconst (v := -1) hx hb dX6_one_30 (by decide) ?_
      exact sw_ri hx hb hr hlocks hB hv dX6_one_31
    · have hv := hv.trans (if_pos c17)
      refine lv_aload_n hx hb dX6_one_20 rfl (lv_at hl 0 rfl) ?_
      refine lv_iload_n hx hb dX6_one_21 rfl (lv_at hl 3 rfl) ?_
      refine lv_bipush (v := 8) hx hb dX6_one_22 (by decide) ?_
      refine sm_ci (sm_runV (rest := []) hC (c_X6_out l g ad hW.2.1 _ x3 8 σ) k_X6_out w_598 (by decide) (sm_pv hW hB (by decide) (eM_0 g ad _) rfl) rfl hl.1 rfl (Nat.le_of_ble_eq_true rfl) dX6_one_24) ?_
      refine lv_if_eq (tgt := 32) hx hb dX6_one_27 (by decide) (fun c27 => ?_) (fun c27 => ?_)
      · have hv := hv.trans (if_pos c27)
        refine lv_aload_n hx hb dX6_one_32 rfl (lv_at hl 0 rfl) ?_
        refine fg_RX6_7 hx hb hts hown hW hB dX6_one_33 ?_
        refine lv_iload_n hx hb dX6_one_36 rfl (lv_at hl 3 rfl) ?_
        refine sw_ia hx hb hW hB (1) (by decide) (eM_1 g ad) (out_in c27 (by decide)) dX6_one_37 ?_
        refine sm_nmi hv (fun y38_1 ey38_1 hv => ?_)
        refine lv_istore (lv' := [(4, .int y38_1), (0, .ref (ad 0)), (1, .int x1), (2, .int x2), (3, .int x3)]) hx hb dX6_one_38 hl (by decide) rfl (fun ls hl => ?_)
        refine lv_iload_n hx hb dX6_one_40 rfl (lv_at hl 2 rfl) ?_
        refine lv_bipush (v := 15) hx hb dX6_one_41 (by decide) ?_
        have k_82 : ∀ (t0_82 : Int32) (ls : Array Slot), lv_has ls 9 [(0, .ref (ad 0)), (1, .int x1), (2, .int x2), (3, .int x3), (4, .int y38_1)] → F = f_X6_one_82 x1 x2 x3 y38_1 σ t0_82 → W p l e (rmd 4) s m args below meth c s.heap [] 0 0 (MQ below (sm_Qi g 19 ad (eM g ad) s.heap.size F) args s 0 0 (sm_AX 19 ad s.heap.size)) (F0 m 82 ls [.int t0_82]) := by
          intro t0_82 ls hl hv
          refine lv_istore (lv' := [(5, .int t0_82), (0, .ref (ad 0)), (1, .int x1), (2, .int x2), (3, .int x3), (4, .int y38_1)]) hx hb dX6_one_82 hl (by decide) rfl (fun ls hl => ?_)
          refine lv_iload_n hx hb dX6_one_84 rfl (lv_at hl 2 rfl) ?_
          refine lv_bipush (v := 15) hx hb dX6_one_85 (by decide) ?_
          have k_100 : ∀  (ls : Array Slot), lv_has ls 9 [(0, .ref (ad 0)), (1, .int x1), (2, .int x2), (3, .int x3), (4, .int y38_1), (5, .int t0_82)] → F = f_X6_one_100 x1 x2 x3 y38_1 t0_82 σ → W p l e (rmd 4) s m args below meth c s.heap [] 0 0 (MQ below (sm_Qi g 19 ad (eM g ad) s.heap.size F) args s 0 0 (sm_AX 19 ad s.heap.size)) (F0 m 100 ls []) := by
            intro ls hl hv
            refine lv_iload_n hx hb dX6_one_100 rfl (lv_at hl 1 rfl) ?_
            refine lv_bipush (v := 17) hx hb dX6_one_101 (by decide) ?_
            have k_112 : ∀  (ls : Array Slot), lv_has ls 9 [(0, .ref (ad 0)), (1, .int x1), (2, .int x2), (3, .int x3), (4, .int y38_1), (5, .int t0_82)] → F = f_X6_one_112 x1 x2 x3 y38_1 t0_82 σ → W p l e (rmd 4) s m args below meth c s.heap [] 0 0 (MQ below (sm_Qi g 19 ad (eM g ad) s.heap.size F) args s 0 0 (sm_AX 19 ad s.heap.size)) (F0 m 112 ls []) := by
              intro ls hl hv
              refine lv_iload_n hx hb dX6_one_112 rfl (lv_at hl 1 rfl) ?_
              refine lv_bipush (v := 18) hx hb dX6_one_113 (by decide) ?_
              have k_126 : ∀  (ls : Array Slot), lv_has ls 9 [(0, .ref (ad 0)), (1, .int x1), (2, .int x2), (3, .int x3), (4, .int y38_1), (5, .int t0_82)] → F = f_X6_one_126 x1 x2 x3 y38_1 t0_82 σ → W p l e (rmd 4) s m args below meth c s.heap [] 0 0 (MQ below (sm_Qi g 19 ad (eM g ad) s.heap.size F) args s 0 0 (sm_AX 19 ad s.heap.size)) (F0 m 126 ls []) := by
                intro ls hl hv
                refine lv_iload_n hx hb dX6_one_126 rfl (lv_at hl 1 rfl) ?_
                refine lv_bipush (v := 15) hx hb dX6_one_127 (by decide) ?_
                have k_180 : ∀ (t0_180 : Int64) (σ : sm_S) (ls : Array Slot) (H : Heap) (locs : List Loc), lv_has ls 9 [(0, .ref (ad 0)), (1, .int x1), (2, .int x2), (3, .int x3), (5, .int t0_82)] → sm_B g 19 ad (eM g ad) s H locs σ → F = f_X6_one_180 x1 x2 x3 t0_82 σ t0_180 → W p l e (rmd 4) s m args below meth c H locs 0 0 (MQ below (sm_Qi g 19 ad (eM g ad) s.heap.size F) args s 0 0 (sm_AX 19 ad s.heap.size)) (F0 m 180 ls [.long t0_180]) := by
                  intro t0_180 σ ls H locs hl hB hv
                  refine lv_lstore (lv' := [(6, .long t0_180), (0, .ref (ad 0)), (1, .int x1), (2, .int x2), (3, .int x3), (5, .int t0_82)]) hx hb dX6_one_180 hl (by decide) rfl (fun ls hl => ?_)
                  refine lv_iload_n hx hb dX6_one_182 rfl (lv_at hl 2 rfl) ?_
                  refine lv_iconst (v := 1) hx hb dX6_one_183 (by decide) ?_
                  have k_208 : ∀ (t0_208 : Int32) (ls : Array Slot), lv_has ls 9 [(0, .ref (ad 0)), (2, .int x2), (3, .int x3), (5, .int t0_82), (6, .long t0_180)] → F = f_X6_one_208 x2 x3 t0_82 t0_180 σ t0_208 → W p l e (rmd 4) s m args below meth c H locs 0 0 (MQ below (sm_Qi g 19 ad (eM g ad) s.heap.size F) args s 0 0 (sm_AX 19 ad s.heap.size)) (F0 m 208 ls [.int t0_208]) := by
                    intro t0_208 ls hl hv
                    refine lv_istore (lv' := [(8, .int t0_208), (0, .ref (ad 0)), (2, .int x2), (3, .int x3), (5, .int t0_82), (6, .long t0_180)]) hx hb dX6_one_208 hl (by decide) rfl (fun ls hl => ?_)
                    refine lv_aload_n hx hb dX6_one_210 rfl (lv_at hl 1 rfl) ?_
                    refine fg_RX6_7 hx hb hts hown hW hB dX6_one_211 ?_
                    refine lv_iload_n hx hb dX6_one_214 rfl (lv_at hl 2 rfl) ?_
                    refine lv_iload hx hb dX6_one_215 (lv_at hl 4 rfl) ?_
                    refine sw_is hx hb hW hB (1) (by decide) (eM_1 g ad) (out_in c17 (by decide)) dX6_one_217 (fun H locs hB => ?_)
                    refine lv_aload_n hx hb dX6_one_218 rfl (lv_at hl 1 rfl) ?_
                    refine lv_iload_n hx hb dX6_one_219 rfl (lv_at hl 2 rfl) ?_
                    refine lv_lload hx hb dX6_one_220 (lv_at hl 5 rfl) ?_
                    refine lv_aload_n hx hb dX6_one_222 rfl (lv_at hl 1 rfl) ?_
                    refine fg_RX6_13 hx hb hts hown hW hB dX6_one_223 ?_
                    refine lv_iload_n hx hb dX6_one_226 rfl (lv_at hl 3 rfl) ?_
                    refine sw_ia hx hb hW hB (2) (by decide) (eM_2 g ad) (in_mono (a := 8) (out_in c27 (by decide)) (by decide)) dX6_one_227 ?_
                    refine lv_aload_n hx hb dX6_one_228 rfl (lv_at hl 1 rfl) ?_
                    refine fg_RX6_20 hx hb hts hown hW hB dX6_one_229 ?_
                    refine lv_iload_n hx hb dX6_one_232 rfl (lv_at hl 3 rfl) ?_
                    refine sw_za hx hb hW hB (4) (by decide) (eM_4 g ad) (in_mono (a := 8) (out_in c27 (by decide)) (by decide)) dX6_one_233 ?_
                    have k_247 : ∀ (t0_247 : Int32) (t1_247 : Int32) (σ : sm_S) (ls : Array Slot) (H : Heap) (locs : List Loc), lv_has ls 9 [] → sm_B g 19 ad (eM g ad) s H locs σ → F = f_X6_one_247 t0_180 x2 σ t0_247 t1_247 → W p l e (rmd 4) s m args below meth c H locs 0 0 (MQ below (sm_Qi g 19 ad (eM g ad) s.heap.size F) args s 0 0 (sm_AX 19 ad s.heap.size)) (F0 m 247 ls [.int t0_247, .int t1_247, .long t0_180, .int x2, .ref (ad 0)]) := by
                      intro t0_247 t1_247 σ ls H locs hl hB hv
                      refine sw_cvn hv hB (sm_runV (rest := []) hC (c_X6_put l g ad hW.2.1 _ σ x2 t0_180 t1_247 t0_247 (in_mono (a := 8) (out_in c17 (by decide)) (by decide))) k_X6_put w_630 (by decide) (sm_pv hW hB (by decide) (eM_0 g ad _) rfl) rfl hl.1 rfl (Nat.le_of_ble_eq_true rfl) dX6_one_247) (fun u247_2 eu247_2 hv H locs hB => ?_)
                      refine lv_iconst (v := 0) hx hb dX6_one_250 (by decide) ?_
                      exact sw_ri hx hb hr hlocks hB hv dX6_one_251
                    have k_246 : ∀ (t0_246 : Int32) (σ : sm_S) (ls : Array Slot) (H : Heap) (locs : List Loc), lv_has ls 9 [] → sm_B g 19 ad (eM g ad) s H locs σ → F = f_X6_one_246 t0_180 x2 σ t0_246 → W p l e (rmd 4) s m args below meth c H locs 0 0 (MQ below (sm_Qi g 19 ad (eM g ad) s.heap.size F) args s 0 0 (sm_AX 19 ad s.heap.size)) (F0 m 246 ls [.int t0_246, .long t0_180, .int x2, .ref (ad 0)]) := by
                      intro t0_246 σ ls H locs hl hB hv
                      refine lv_iconst (v := 0) hx hb dX6_one_246 (by decide) ?_
                      exact k_247 0 t0_246 σ _ _ _ (lv_sub hl [] rfl) hB hv
                    refine lv_if_eq (tgt := 246) hx hb dX6_one_234 (by decide) (fun c234 => ?_) (fun c234 => ?_)
                    · have hv := hv.trans (if_pos c234)
                      exact k_246 ((uI σ 1 (Int32.toNatClampNeg x2) t0_82).1 2 (Int32.toNatClampNeg x3)) (uI σ 1 (Int32.toNatClampNeg x2) t0_82) _ _ _ (lv_sub hl [] rfl) hB hv
                    · have hv := hv.trans (if_neg c234)
                      refine lv_iload hx hb dX6_one_237 (lv_at hl 0 rfl) ?_
                      refine lv_if_ne (tgt := 246) hx hb dX6_one_239 (by decide) (fun c239 => ?_) (fun c239 => ?_)
                      · have hv := hv.trans (if_neg c239)
                        exact k_246 ((uI σ 1 (Int32.toNatClampNeg x2) t0_82).1 2 (Int32.toNatClampNeg x3)) (uI σ 1 (Int32.toNatClampNeg x2) t0_82) _ _ _ (lv_sub hl [] rfl) hB hv
                      · have hv := hv.trans (if_pos c239)
                        refine lv_iconst (v := 1) hx hb dX6_one_242 (by decide) ?_
                        refine lv_goto (tgt := 247) hx hb dX6_one_243 (by decide) ?_
                        exact k_247 1 ((uI σ 1 (Int32.toNatClampNeg x2) t0_82).1 2 (Int32.toNatClampNeg x3)) (uI σ 1 (Int32.toNatClampNeg x2) t0_82) _ _ _ (lv_sub hl [] rfl) hB hv
                  have k_203 : ∀  (ls : Array Slot), lv_has ls 9 [(0, .ref (ad 0)), (2, .int x2), (3, .int x3), (5, .int t0_82), (6, .long t0_180)] → F = f_X6_one_203 x2 x3 t0_82 t0_180 σ → W p l e (rmd 4) s m args below meth c H locs 0 0 (MQ below (sm_Qi g 19 ad (eM g ad) s.heap.size F) args s 0 0 (sm_AX 19 ad s.heap.size)) (F0 m 203 ls []) := by
                    intro ls hl hv
                    refine lv_iconst (v := 1) hx hb dX6_one_203 (by decide) ?_
                    refine lv_goto (tgt := 208) hx hb dX6_one_204 (by decide) ?_
                    exact k_208 1 _ (lv_sub hl [0, 1, 2, 3, 4] rfl) hv
                  refine lv_icmp_eq (tgt := 203) hx hb dX6_one_184 (by decide) (fun c184 => ?_) (fun c184 => ?_)
                  · have hv := hv.trans (if_pos c184)
                    exact k_203 _ (lv_sub hl [1, 3, 4, 5, 0] rfl) hv
                  · have hv := hv.trans (if_neg c184)
                    refine lv_iload_n hx hb dX6_one_187 rfl (lv_at hl 2 rfl) ?_
                    refine lv_iconst (v := 4) hx hb dX6_one_188 (by decide) ?_
                    refine lv_icmp_eq (tgt := 203) hx hb dX6_one_189 (by decide) (fun c189 => ?_) (fun c189 => ?_)
                    · have hv := hv.trans (if_pos c189)
                      exact k_203 _ (lv_sub hl [1, 3, 4, 5, 0] rfl) hv
                    · have hv := hv.trans (if_neg c189)
                      refine lv_iload_n hx hb dX6_one_192 rfl (lv_at hl 2 rfl) ?_
                      refine lv_iconst (v := 5) hx hb dX6_one_193 (by decide) ?_
                      refine lv_icmp_eq (tgt := 203) hx hb dX6_one_194 (by decide) (fun c194 => ?_) (fun c194 => ?_)
                      · have hv := hv.trans (if_pos c194)
                        exact k_203 _ (lv_sub hl [1, 3, 4, 5, 0] rfl) hv
                      · have hv := hv.trans (if_neg c194)
                        refine lv_iload_n hx hb dX6_one_197 rfl (lv_at hl 2 rfl) ?_
                        refine lv_bipush (v := 11) hx hb dX6_one_198 (by decide) ?_
                        refine lv_icmp_ne (tgt := 207) hx hb dX6_one_200 (by decide) (fun c200 => ?_) (fun c200 => ?_)
                        · have hv := hv.trans (if_neg c200)
                          refine lv_iconst (v := 0) hx hb dX6_one_207 (by decide) ?_
                          exact k_208 0 _ (lv_sub hl [1, 3, 4, 5, 0] rfl) hv
                        · have hv := hv.trans (if_pos c200)
                          exact k_203 _ (lv_sub hl [1, 3, 4, 5, 0] rfl) hv
                refine lv_icmp_ge (tgt := 146) hx hb dX6_one_129 (by decide) (fun c129 => ?_) (fun c129 => ?_)
                · have hv := hv.trans (if_pos c129)
                  refine lv_iload_n hx hb dX6_one_146 rfl (lv_at hl 1 rfl) ?_
                  refine lv_bipush (v := 17) hx hb dX6_one_147 (by decide) ?_
                  refine lv_icmp_ge (tgt := 168) hx hb dX6_one_149 (by decide) (fun c149 => ?_) (fun c149 => ?_)
                  · have hv := hv.trans (if_pos c149)
                    refine lv_aload_n hx hb dX6_one_168 rfl (lv_at hl 0 rfl) ?_
                    refine lv_iload hx hb dX6_one_169 (lv_at hl 5 rfl) ?_
                    refine lv_aload_n hx hb dX6_one_171 rfl (lv_at hl 0 rfl) ?_
                    refine fg_RX6_16 hx hb hts hown hW hB dX6_one_172 ?_
                    refine lv_iload_n hx hb dX6_one_175 rfl (lv_at hl 3 rfl) ?_
                    refine sw_la hx hb hW hB (3) (by decide) (eM_3 g ad) (in_mono (a := 8) (out_in c27 (by decide)) (by decide)) dX6_one_176 ?_
                    refine sw_cln hv hB (sm_runV (rest := []) hC (c_X6_clean l g ad hW.2.1 _ σ t0_82 (σ.2.1 3 (Int32.toNatClampNeg x3))) k_X6_clean w_602 (by decide) (sm_pv hW hB (by decide) (eM_0 g ad _) rfl) rfl hl.1 rfl (Nat.le_of_ble_eq_true rfl) dX6_one_177) (fun u177_3 eu177_3 hv H locs hB => ?_)
                    exact k_180 u177_3.1 u177_3.2 _ _ _ (lv_sub hl [0, 1, 2, 3, 5] rfl) hB hv
                  · have hv := hv.trans (if_neg c149)
                    refine lv_aload_n hx hb dX6_one_152 rfl (lv_at hl 0 rfl) ?_
                    refine lv_iload_n hx hb dX6_one_153 rfl (lv_at hl 1 rfl) ?_
                    refine lv_iload hx hb dX6_one_154 (lv_at hl 4 rfl) ?_
                    refine lv_aload_n hx hb dX6_one_156 rfl (lv_at hl 0 rfl) ?_
                    refine fg_RX6_16 hx hb hts hown hW hB dX6_one_157 ?_
                    refine lv_iload_n hx hb dX6_one_160 rfl (lv_at hl 3 rfl) ?_
                    refine sw_la hx hb hW hB (3) (by decide) (eM_3 g ad) (in_mono (a := 8) (out_in c27 (by decide)) (by decide)) dX6_one_161 ?_
                    refine sw_cln hv hB (sm_runV (rest := []) hC (c_X6_turned l g ad hW.2.1 _ σ x1 y38_1 (σ.2.1 3 (Int32.toNatClampNeg x3))) k_X6_turned w_688 (by decide) (sm_pv hW hB (by decide) (eM_0 g ad _) rfl) rfl hl.1 rfl (Nat.le_of_ble_eq_true rfl) dX6_one_162) (fun u162_4 eu162_4 hv H locs hB => ?_)
                    refine lv_goto (tgt := 180) hx hb dX6_one_165 (by decide) ?_
                    exact k_180 u162_4.1 u162_4.2 _ _ _ (lv_sub hl [0, 1, 2, 3, 5] rfl) hB hv
                · have hv := hv.trans (if_neg c129)
                  refine lv_aload_n hx hb dX6_one_132 rfl (lv_at hl 0 rfl) ?_
                  refine lv_iload_n hx hb dX6_one_133 rfl (lv_at hl 1 rfl) ?_
                  refine lv_aload_n hx hb dX6_one_134 rfl (lv_at hl 0 rfl) ?_
                  refine fg_RX6_16 hx hb hts hown hW hB dX6_one_135 ?_
                  refine lv_iload_n hx hb dX6_one_138 rfl (lv_at hl 3 rfl) ?_
                  refine sw_la hx hb hW hB (3) (by decide) (eM_3 g ad) (in_mono (a := 8) (out_in c27 (by decide)) (by decide)) dX6_one_139 ?_
                  refine sw_cln hv hB (sm_runV (rest := []) hC (c_X6_converted l g ad hW.2.1 _ σ x1 (σ.2.1 3 (Int32.toNatClampNeg x3))) k_X6_converted w_650 (by decide) (sm_pv hW hB (by decide) (eM_0 g ad _) rfl) rfl hl.1 rfl (Nat.le_of_ble_eq_true rfl) dX6_one_140) (fun u140_5 eu140_5 hv H locs hB => ?_)
                  refine lv_goto (tgt := 180) hx hb dX6_one_143 (by decide) ?_
                  exact k_180 u140_5.1 u140_5.2 _ _ _ (lv_sub hl [0, 1, 2, 3, 5] rfl) hB hv
              refine lv_icmp_ne (tgt := 126) hx hb dX6_one_115 (by decide) (fun c115 => ?_) (fun c115 => ?_)
              · have hv := hv.trans (if_neg c115)
                exact k_126 _ (lv_sub hl [0, 1, 2, 3, 4, 5] rfl) hv
              · have hv := hv.trans (if_pos c115)
                refine lv_iload hx hb dX6_one_118 (lv_at hl 4 rfl) ?_
                refine lv_iconst (v := 1) hx hb dX6_one_120 (by decide) ?_
                refine lv_icmp_le (tgt := 126) hx hb dX6_one_121 (by decide) (fun c121 => ?_) (fun c121 => ?_)
                · have hv := hv.trans (if_pos c121)
                  exact k_126 _ (lv_sub hl [0, 1, 2, 3, 4, 5] rfl) hv
                · have hv := hv.trans (if_neg c121)
                  refine lv_iconst (v := -1) hx hb dX6_one_124 (by decide) ?_
                  exact sw_ri hx hb hr hlocks hB hv dX6_one_125
            refine lv_icmp_ne (tgt := 112) hx hb dX6_one_103 (by decide) (fun c103 => ?_) (fun c103 => ?_)
            · have hv := hv.trans (if_neg c103)
              exact k_112 _ (lv_sub hl [0, 1, 2, 3, 4, 5] rfl) hv
            · have hv := hv.trans (if_pos c103)
              refine lv_iload hx hb dX6_one_106 (lv_at hl 4 rfl) ?_
              refine lv_iconst (v := 2) hx hb dX6_one_108 (by decide) ?_
              refine lv_icmp_lt (tgt := 124) hx hb dX6_one_109 (by decide) (fun c109 => ?_) (fun c109 => ?_)
              · have hv := hv.trans (if_pos c109)
                refine lv_iconst (v := -1) hx hb dX6_one_124 (by decide) ?_
                exact sw_ri hx hb hr hlocks hB hv dX6_one_125
              · have hv := hv.trans (if_neg c109)
                exact k_112 _ (lv_sub hl [0, 1, 2, 3, 4, 5] rfl) hv
          refine lv_icmp_ge (tgt := 100) hx hb dX6_one_87 (by decide) (fun c87 => ?_) (fun c87 => ?_)
          · have hv := hv.trans (if_pos c87)
            exact k_100 _ (lv_sub hl [1, 2, 3, 4, 5, 0] rfl) hv
          · have hv := hv.trans (if_neg c87)
            refine lv_iload hx hb dX6_one_90 (lv_at hl 5 rfl) ?_
            refine lv_aload_n hx hb dX6_one_92 rfl (lv_at hl 1 rfl) ?_
            refine lv_iload_n hx hb dX6_one_93 rfl (lv_at hl 2 rfl) ?_
            refine sm_ci (sm_runV (rest := [.int y38_1]) hC (c_X6_wanted l g ad hW.2.1 _ x1 σ) k_X6_wanted w_646 (by decide) (sm_pv hW hB (by decide) (eM_0 g ad _) rfl) rfl hl.1 rfl (Nat.le_of_ble_eq_true rfl) dX6_one_94) ?_
            refine lv_icmp_ne (tgt := 124) hx hb dX6_one_97 (by decide) (fun c97 => ?_) (fun c97 => ?_)
            · have hv := hv.trans (if_neg c97)
              refine lv_iconst (v := -1) hx hb dX6_one_124 (by decide) ?_
              exact sw_ri hx hb hr hlocks hB hv dX6_one_125
            · have hv := hv.trans (if_pos c97)
              exact k_100 _ (lv_sub hl [1, 2, 3, 4, 5, 0] rfl) hv
        refine lv_icmp_ge (tgt := 54) hx hb dX6_one_43 (by decide) (fun c43 => ?_) (fun c43 => ?_)
        · have hv := hv.trans (if_pos c43)
          refine lv_iload_n hx hb dX6_one_54 rfl (lv_at hl 2 rfl) ?_
          refine lv_bipush (v := 17) hx hb dX6_one_55 (by decide) ?_
          refine lv_icmp_ge (tgt := 65) hx hb dX6_one_57 (by decide) (fun c57 => ?_) (fun c57 => ?_)
          · have hv := hv.trans (if_pos c57)
            refine lv_iload_n hx hb dX6_one_65 rfl (lv_at hl 2 rfl) ?_
            refine lv_bipush (v := 17) hx hb dX6_one_66 (by decide) ?_
            refine lv_icmp_ne (tgt := 78) hx hb dX6_one_68 (by decide) (fun c68 => ?_) (fun c68 => ?_)
            · have hv := hv.trans (if_neg c68)
              refine lv_iload hx hb dX6_one_78 (lv_at hl 0 rfl) ?_
              refine lv_iconst (v := 2) hx hb dX6_one_80 (by decide) ?_
              refine lv_iadd hx hb dX6_one_81 ?_
              exact k_82 (y38_1 + 2) _ (lv_sub hl [1, 2, 3, 4, 0] rfl) hv
            · have hv := hv.trans (if_pos c68)
              refine lv_iload hx hb dX6_one_71 (lv_at hl 0 rfl) ?_
              refine lv_iconst (v := 2) hx hb dX6_one_73 (by decide) ?_
              refine lv_isub hx hb dX6_one_74 ?_
              refine lv_goto (tgt := 82) hx hb dX6_one_75 (by decide) ?_
              exact k_82 (y38_1 - 2) _ (lv_sub hl [1, 2, 3, 4, 0] rfl) hv
          · have hv := hv.trans (if_neg c57)
            refine lv_iload hx hb dX6_one_60 (lv_at hl 0 rfl) ?_
            refine lv_goto (tgt := 82) hx hb dX6_one_62 (by decide) ?_
            exact k_82 y38_1 _ (lv_sub hl [1, 2, 3, 4, 0] rfl) hv
        · have hv := hv.trans (if_neg c43)
          refine lv_aload_n hx hb dX6_one_46 rfl (lv_at hl 1 rfl) ?_
          refine lv_iload_n hx hb dX6_one_47 rfl (lv_at hl 2 rfl) ?_
          refine sm_ci (sm_runV (rest := []) hC (c_X6_kindAfter l g ad hW.2.1 _ x1 σ) k_X6_kindAfter w_642 (by decide) (sm_pv hW hB (by decide) (eM_0 g ad _) rfl) rfl hl.1 rfl (Nat.le_of_ble_eq_true rfl) dX6_one_48) ?_
          refine lv_goto (tgt := 82) hx hb dX6_one_51 (by decide) ?_
          exact k_82 (f_X6_kindAfter x1) _ (lv_sub hl [1, 2, 3, 4, 0] rfl) hv
      · have hv := hv.trans (if_neg c27)
        refine lv_iconst (v := -1) hx hb dX6_one_30 (by decide) ?_
        exact sw_ri hx hb hr hlocks hB hv dX6_one_31
def f_X6_whole_255 (x2 : Int32) (v8_255 : Int64) : Int64 := if x2 = 0 then (Int32.toInt64 (Int64.toInt32 v8_255)) else v8_255
def f_X6_whole_243 (x1 : Int32) (x2 : Int32) (x3 : Int64) (x5 : Int64) (v8_243 : Int64) : Int64 := if x1 = 32 then (sm_let (x3 ^^^ x5) (fun y253_2 => f_X6_whole_255 x2 y253_2)) else (f_X6_whole_255 x2 v8_243)
def f_X6_whole_231 (x1 : Int32) (x2 : Int32) (x3 : Int64) (x5 : Int64) (v8_231 : Int64) : Int64 := if x1 = 31 then (sm_let (x3 ||| x5) (fun y241_3 => f_X6_whole_243 x1 x2 x3 x5 y241_3)) else (f_X6_whole_243 x1 x2 x3 x5 v8_231)
def f_X6_whole_219 (x1 : Int32) (x2 : Int32) (x3 : Int64) (x5 : Int64) (v8_219 : Int64) : Int64 := if x1 = 30 then (sm_let (x3 &&& x5) (fun y229_4 => f_X6_whole_231 x1 x2 x3 x5 y229_4)) else (f_X6_whole_231 x1 x2 x3 x5 v8_219)
def f_X6_whole_214 (x1 : Int32) (x2 : Int32) (x3 : Int64) (x5 : Int64) (y15_1 : Int32) (t0_214 : Int64) : Int64 := sm_let (UInt64.toInt64 (Int64.toUInt64 t0_214 >>> (Int64.toUInt64 (Int32.toInt64 y15_1) &&& Int64.toUInt64 63))) (fun y217_5 => f_X6_whole_219 x1 x2 x3 x5 y217_5)
def f_X6_whole_195 (x1 : Int32) (x2 : Int32) (x3 : Int64) (x5 : Int64) (y15_1 : Int32) (v8_195 : Int64) : Int64 := if x1 = 29 then (if x2 = 0 then (f_X6_whole_214 x1 x2 x3 x5 y15_1 (x3 &&& 4294967295)) else (f_X6_whole_214 x1 x2 x3 x5 y15_1 x3)) else (f_X6_whole_219 x1 x2 x3 x5 v8_195)
def f_X6_whole_183 (x1 : Int32) (x2 : Int32) (x3 : Int64) (x5 : Int64) (y15_1 : Int32) (v8_183 : Int64) : Int64 := if x1 = 28 then (sm_let (x3 >>> (Int32.toInt64 y15_1 &&& 63)) (fun y193_6 => f_X6_whole_195 x1 x2 x3 x5 y15_1 y193_6)) else (f_X6_whole_195 x1 x2 x3 x5 y15_1 v8_183)
def f_X6_whole_171 (x1 : Int32) (x2 : Int32) (x3 : Int64) (x5 : Int64) (y15_1 : Int32) (v8_171 : Int64) : Int64 := if x1 = 27 then (sm_let (x3 <<< (Int32.toInt64 y15_1 &&& 63)) (fun y181_7 => f_X6_whole_183 x1 x2 x3 x5 y15_1 y181_7)) else (f_X6_whole_183 x1 x2 x3 x5 y15_1 v8_171)
def f_X6_whole_169 (x1 : Int32) (x2 : Int32) (x3 : Int64) (x5 : Int64) (y15_1 : Int32) (t0_169 : Int64) : Int64 := f_X6_whole_171 x1 x2 x3 x5 y15_1 t0_169
def f_X6_whole_150 (x1 : Int32) (x2 : Int32) (x3 : Int64) (x5 : Int64) (y15_1 : Int32) (v8_150 : Int64) : Int64 := if x1 = 26 then (if x3 ≤ x5 then (f_X6_whole_169 x1 x2 x3 x5 y15_1 x5) else (f_X6_whole_169 x1 x2 x3 x5 y15_1 x3)) else (f_X6_whole_171 x1 x2 x3 x5 y15_1 v8_150)
def f_X6_whole_148 (x1 : Int32) (x2 : Int32) (x3 : Int64) (x5 : Int64) (y15_1 : Int32) (t0_148 : Int64) : Int64 := f_X6_whole_150 x1 x2 x3 x5 y15_1 t0_148
def f_X6_whole_127 (x1 : Int32) (x2 : Int32) (x3 : Int64) (x5 : Int64) (y15_1 : Int32) (t0_127 : Int64) : Int64 := if x1 = 25 then (if x5 ≤ x3 then (f_X6_whole_148 x1 x2 x3 x5 y15_1 x5) else (f_X6_whole_148 x1 x2 x3 x5 y15_1 x3)) else (f_X6_whole_150 x1 x2 x3 x5 y15_1 t0_127)
def f_X6_whole_73 (x1 : Int32) (x2 : Int32) (x3 : Int64) (x5 : Int64) (y15_1 : Int32) : Int64 := if x1 = 23 then (if x5 = ((-1)) then (f_X6_whole_127 x1 x2 x3 x5 y15_1 (-x3)) else (f_X6_whole_127 x1 x2 x3 x5 y15_1 (x3 / x5))) else (if x1 = 24 then (if x5 = ((-1)) then (f_X6_whole_127 x1 x2 x3 x5 y15_1 0) else (f_X6_whole_127 x1 x2 x3 x5 y15_1 (x3 - x3 / x5 * x5))) else (f_X6_whole_127 x1 x2 x3 x5 y15_1 x3))
def f_X6_whole_14 (x1 : Int32) (x2 : Int32) (x3 : Int64) (x5 : Int64) (t0_14 : Int32) (t1_14 : Int32) : Int64 := sm_let (t1_14 &&& t0_14) (fun y15_1 => if x1 = 20 then (f_X6_whole_127 x1 x2 x3 x5 y15_1 (x3 + x5)) else (if x1 = 21 then (f_X6_whole_127 x1 x2 x3 x5 y15_1 (x3 - x5)) else (if x1 = 22 then (f_X6_whole_127 x1 x2 x3 x5 y15_1 (x3 * x5)) else (if x5 = 0 then (if 25 ≤ x1 then (f_X6_whole_73 x1 x2 x3 x5 y15_1) else (f_X6_whole_127 x1 x2 x3 x5 y15_1 0)) else (f_X6_whole_73 x1 x2 x3 x5 y15_1)))))
def f_X6_whole (x1 : Int32) (x2 : Int32) (x3 : Int64) (x5 : Int64) : Int64 := if x2 = 0 then (f_X6_whole_14 x1 x2 x3 x5 31 (Int64.toInt32 x5)) else (f_X6_whole_14 x1 x2 x3 x5 63 (Int64.toInt32 x5))
set_option maxRecDepth 100000 in
set_option maxHeartbeats 4000000 in
theorem c_X6_whole (l : Launch) (g : sm_G) (ad : Nat → Nat) (hj : sm_inj 19 ad) (sz : Nat) (x1 : Int32) (x2 : Int32) (x3 : Int64) (x5 : Int64) (σ : sm_S)   : Met l yX6_whole (sm_ws yX6_whole cX6_whole 10 (some .long)) (rmd 0) (va_Pc [.ref (ad 0), .int x1, .int x2, .long x3, .long x5] (sm_Pre g 19 ad (eM g ad) σ sz)) (vp_Sl (fun r => r = f_X6_whole x1 x2 x3 x5)) 0 0 (fun _ => False) := by
  generalize hv : f_X6_whole x1 x2 x3 x5 = F
  replace hv := hv.symm
  refine sm_mR (by decide) (Nat.le_of_ble_eq_true rfl) hj (eM_lay g ad) (fun p e s m args below meth c C hW hB ls hl => ?_)
  obtain ⟨hC, hr, hlocks⟩ := C
  have hx := hC.1
  have hb := hC.2.1
  have hts := hC.2.2.2.2
  have hown : s.vm.findClass RX6 = some m.cls := hC.2.2.2.1
  have hl : lv_has ls 10 [(0, .ref (ad 0)), (1, .int x1), (2, .int x2), (3, .long x3), (5, .long x5)] := hl
  refine lv_lload hx hb dX6_whole_0 (lv_at hl 4 rfl) ?_
  refine lv_l2i hx hb dX6_whole_2 rfl ?_
  refine lv_iload_n hx hb dX6_whole_3 rfl (lv_at hl 2 rfl) ?_
  have k_14 : ∀ (t0_14 : Int32) (t1_14 : Int32) (ls : Array Slot), lv_has ls 10 [(1, .int x1), (2, .int x2), (3, .long x3), (5, .long x5)] → F = f_X6_whole_14 x1 x2 x3 x5 t0_14 t1_14 → W p l e (rmd 0) s m args below meth c s.heap [] 0 0 (MQ below (vp_Sl (fun r => r = F)) args s 0 0 (fun _ => False)) (F0 m 14 ls [.int t0_14, .int t1_14]) := by
    intro t0_14 t1_14 ls hl hv
    refine lv_iand hx hb dX6_whole_14 ?_
    refine sm_nmi hv (fun y15_1 ey15_1 hv => ?_)
    refine lv_istore (lv' := [(7, .int y15_1), (1, .int x1), (2, .int x2), (3, .long x3), (5, .long x5)]) hx hb dX6_whole_15 hl (by decide) rfl (fun ls hl => ?_)
    refine lv_iload_n hx hb dX6_whole_17 rfl (lv_at hl 1 rfl) ?_
    refine lv_bipush (v := 20) hx hb dX6_whole_18 (by decide) ?_
    have k_127 : ∀ (t0_127 : Int64) (ls : Array Slot), lv_has ls 10 [(1, .int x1), (2, .int x2), (3, .long x3), (5, .long x5), (7, .int y15_1)] → F = f_X6_whole_127 x1 x2 x3 x5 y15_1 t0_127 → W p l e (rmd 0) s m args below meth c s.heap [] 0 0 (MQ below (vp_Sl (fun r => r = F)) args s 0 0 (fun _ => False)) (F0 m 127 ls [.long t0_127]) := by
      intro t0_127 ls hl hv
      refine lv_lstore (lv' := [(8, .long t0_127), (1, .int x1), (2, .int x2), (3, .long x3), (5, .long x5), (7, .int y15_1)]) hx hb dX6_whole_127 hl (by decide) rfl (fun ls hl => ?_)
      refine lv_iload_n hx hb dX6_whole_129 rfl (lv_at hl 1 rfl) ?_
      refine lv_bipush (v := 25) hx hb dX6_whole_130 (by decide) ?_
      have k_150 : ∀ (v8_150 : Int64) (ls : Array Slot), lv_has ls 10 [(1, .int x1), (2, .int x2), (3, .long x3), (5, .long x5), (7, .int y15_1), (8, .long v8_150)] → F = f_X6_whole_150 x1 x2 x3 x5 y15_1 v8_150 → W p l e (rmd 0) s m args below meth c s.heap [] 0 0 (MQ below (vp_Sl (fun r => r = F)) args s 0 0 (fun _ => False)) (F0 m 150 ls []) := by
        intro v8_150 ls hl hv
        refine lv_iload_n hx hb dX6_whole_150 rfl (lv_at hl 0 rfl) ?_
        refine lv_bipush (v := 26) hx hb dX6_whole_151 (by decide) ?_
        have k_171 : ∀ (v8_171 : Int64) (ls : Array Slot), lv_has ls 10 [(1, .int x1), (2, .int x2), (3, .long x3), (5, .long x5), (7, .int y15_1), (8, .long v8_171)] → F = f_X6_whole_171 x1 x2 x3 x5 y15_1 v8_171 → W p l e (rmd 0) s m args below meth c s.heap [] 0 0 (MQ below (vp_Sl (fun r => r = F)) args s 0 0 (fun _ => False)) (F0 m 171 ls []) := by
          intro v8_171 ls hl hv
          refine lv_iload_n hx hb dX6_whole_171 rfl (lv_at hl 0 rfl) ?_
          refine lv_bipush (v := 27) hx hb dX6_whole_172 (by decide) ?_
          have k_183 : ∀ (v8_183 : Int64) (ls : Array Slot), lv_has ls 10 [(1, .int x1), (2, .int x2), (3, .long x3), (5, .long x5), (7, .int y15_1), (8, .long v8_183)] → F = f_X6_whole_183 x1 x2 x3 x5 y15_1 v8_183 → W p l e (rmd 0) s m args below meth c s.heap [] 0 0 (MQ below (vp_Sl (fun r => r = F)) args s 0 0 (fun _ => False)) (F0 m 183 ls []) := by
            intro v8_183 ls hl hv
            refine lv_iload_n hx hb dX6_whole_183 rfl (lv_at hl 0 rfl) ?_
            refine lv_bipush (v := 28) hx hb dX6_whole_184 (by decide) ?_
            have k_195 : ∀ (v8_195 : Int64) (ls : Array Slot), lv_has ls 10 [(1, .int x1), (2, .int x2), (3, .long x3), (5, .long x5), (7, .int y15_1), (8, .long v8_195)] → F = f_X6_whole_195 x1 x2 x3 x5 y15_1 v8_195 → W p l e (rmd 0) s m args below meth c s.heap [] 0 0 (MQ below (vp_Sl (fun r => r = F)) args s 0 0 (fun _ => False)) (F0 m 195 ls []) := by
              intro v8_195 ls hl hv
              refine lv_iload_n hx hb dX6_whole_195 rfl (lv_at hl 0 rfl) ?_
              refine lv_bipush (v := 29) hx hb dX6_whole_196 (by decide) ?_
              have k_219 : ∀ (v8_219 : Int64) (ls : Array Slot), lv_has ls 10 [(1, .int x1), (2, .int x2), (3, .long x3), (5, .long x5), (8, .long v8_219)] → F = f_X6_whole_219 x1 x2 x3 x5 v8_219 → W p l e (rmd 0) s m args below meth c s.heap [] 0 0 (MQ below (vp_Sl (fun r => r = F)) args s 0 0 (fun _ => False)) (F0 m 219 ls []) := by
                intro v8_219 ls hl hv
                refine lv_iload_n hx hb dX6_whole_219 rfl (lv_at hl 0 rfl) ?_
                refine lv_bipush (v := 30) hx hb dX6_whole_220 (by decide) ?_
                have k_231 : ∀ (v8_231 : Int64) (ls : Array Slot), lv_has ls 10 [(1, .int x1), (2, .int x2), (3, .long x3), (5, .long x5), (8, .long v8_231)] → F = f_X6_whole_231 x1 x2 x3 x5 v8_231 → W p l e (rmd 0) s m args below meth c s.heap [] 0 0 (MQ below (vp_Sl (fun r => r = F)) args s 0 0 (fun _ => False)) (F0 m 231 ls []) := by
                  intro v8_231 ls hl hv
                  refine lv_iload_n hx hb dX6_whole_231 rfl (lv_at hl 0 rfl) ?_
                  refine lv_bipush (v := 31) hx hb dX6_whole_232 (by decide) ?_
                  have k_243 : ∀ (v8_243 : Int64) (ls : Array Slot), lv_has ls 10 [(1, .int x1), (2, .int x2), (3, .long x3), (5, .long x5), (8, .long v8_243)] → F = f_X6_whole_243 x1 x2 x3 x5 v8_243 → W p l e (rmd 0) s m args below meth c s.heap [] 0 0 (MQ below (vp_Sl (fun r => r = F)) args s 0 0 (fun _ => False)) (F0 m 243 ls []) := by
                    intro v8_243 ls hl hv
                    refine lv_iload_n hx hb dX6_whole_243 rfl (lv_at hl 0 rfl) ?_
                    refine lv_bipush (v := 32) hx hb dX6_whole_244 (by decide) ?_
                    have k_255 : ∀ (v8_255 : Int64) (ls : Array Slot), lv_has ls 10 [(2, .int x2), (8, .long v8_255)] → F = f_X6_whole_255 x2 v8_255 → W p l e (rmd 0) s m args below meth c s.heap [] 0 0 (MQ below (vp_Sl (fun r => r = F)) args s 0 0 (fun _ => False)) (F0 m 255 ls []) := by
                      intro v8_255 ls hl hv
                      refine lv_iload_n hx hb dX6_whole_255 rfl (lv_at hl 0 rfl) ?_
                      refine lv_if_eq (tgt := 264) hx hb dX6_whole_256 (by decide) (fun c256 => ?_) (fun c256 => ?_)
                      · have hv := hv.trans (if_pos c256)
                        refine lv_lload hx hb dX6_whole_264 (lv_at hl 1 rfl) ?_
                        refine lv_l2i hx hb dX6_whole_266 rfl ?_
                        refine lv_i2l hx hb dX6_whole_267 rfl ?_
                        exact sm_rl hx hb hr hlocks hv dX6_whole_268
                      · have hv := hv.trans (if_neg c256)
                        refine lv_lload hx hb dX6_whole_259 (lv_at hl 1 rfl) ?_
                        refine lv_goto (tgt := 268) hx hb dX6_whole_261 (by decide) ?_
                        exact sm_rl hx hb hr hlocks hv dX6_whole_268
                    refine lv_icmp_ne (tgt := 255) hx hb dX6_whole_246 (by decide) (fun c246 => ?_) (fun c246 => ?_)
                    · have hv := hv.trans (if_neg c246)
                      exact k_255 v8_243 _ (lv_sub hl [1, 4] rfl) hv
                    · have hv := hv.trans (if_pos c246)
                      refine lv_lload_n hx hb dX6_whole_249 rfl (lv_at hl 2 rfl) ?_
                      refine lv_lload hx hb dX6_whole_250 (lv_at hl 3 rfl) ?_
                      refine lv_lxor hx hb dX6_whole_252 ?_
                      refine sm_nml hv (fun y253_2 ey253_2 hv => ?_)
                      refine lv_lstore (lv' := [(8, .long y253_2), (1, .int x1), (2, .int x2), (3, .long x3), (5, .long x5)]) hx hb dX6_whole_253 hl (by decide) rfl (fun ls hl => ?_)
                      exact k_255 y253_2 _ (lv_sub hl [2, 0] rfl) hv
                  refine lv_icmp_ne (tgt := 243) hx hb dX6_whole_234 (by decide) (fun c234 => ?_) (fun c234 => ?_)
                  · have hv := hv.trans (if_neg c234)
                    exact k_243 v8_231 _ (lv_sub hl [0, 1, 2, 3, 4] rfl) hv
                  · have hv := hv.trans (if_pos c234)
                    refine lv_lload_n hx hb dX6_whole_237 rfl (lv_at hl 2 rfl) ?_
                    refine lv_lload hx hb dX6_whole_238 (lv_at hl 3 rfl) ?_
                    refine lv_lor hx hb dX6_whole_240 ?_
                    refine sm_nml hv (fun y241_3 ey241_3 hv => ?_)
                    refine lv_lstore (lv' := [(8, .long y241_3), (1, .int x1), (2, .int x2), (3, .long x3), (5, .long x5)]) hx hb dX6_whole_241 hl (by decide) rfl (fun ls hl => ?_)
                    exact k_243 y241_3 _ (lv_sub hl [1, 2, 3, 4, 0] rfl) hv
                refine lv_icmp_ne (tgt := 231) hx hb dX6_whole_222 (by decide) (fun c222 => ?_) (fun c222 => ?_)
                · have hv := hv.trans (if_neg c222)
                  exact k_231 v8_219 _ (lv_sub hl [0, 1, 2, 3, 4] rfl) hv
                · have hv := hv.trans (if_pos c222)
                  refine lv_lload_n hx hb dX6_whole_225 rfl (lv_at hl 2 rfl) ?_
                  refine lv_lload hx hb dX6_whole_226 (lv_at hl 3 rfl) ?_
                  refine lv_land hx hb dX6_whole_228 ?_
                  refine sm_nml hv (fun y229_4 ey229_4 hv => ?_)
                  refine lv_lstore (lv' := [(8, .long y229_4), (1, .int x1), (2, .int x2), (3, .long x3), (5, .long x5)]) hx hb dX6_whole_229 hl (by decide) rfl (fun ls hl => ?_)
                  exact k_231 y229_4 _ (lv_sub hl [1, 2, 3, 4, 0] rfl) hv
              refine lv_icmp_ne (tgt := 219) hx hb dX6_whole_198 (by decide) (fun c198 => ?_) (fun c198 => ?_)
              · have hv := hv.trans (if_neg c198)
                exact k_219 v8_195 _ (lv_sub hl [0, 1, 2, 3, 5] rfl) hv
              · have hv := hv.trans (if_pos c198)
                refine lv_iload_n hx hb dX6_whole_201 rfl (lv_at hl 1 rfl) ?_
                have k_214 : ∀ (t0_214 : Int64) (ls : Array Slot), lv_has ls 10 [(1, .int x1), (2, .int x2), (3, .long x3), (5, .long x5), (7, .int y15_1)] → F = f_X6_whole_214 x1 x2 x3 x5 y15_1 t0_214 → W p l e (rmd 0) s m args below meth c s.heap [] 0 0 (MQ below (vp_Sl (fun r => r = F)) args s 0 0 (fun _ => False)) (F0 m 214 ls [.long t0_214]) := by
                  intro t0_214 ls hl hv
                  refine lv_iload hx hb dX6_whole_214 (lv_at hl 4 rfl) ?_
                  refine lv_lushr hx hb dX6_whole_216 rfl ?_
                  refine sm_nml hv (fun y217_5 ey217_5 hv => ?_)
                  refine lv_lstore (lv' := [(8, .long y217_5), (1, .int x1), (2, .int x2), (3, .long x3), (5, .long x5), (7, .int y15_1)]) hx hb dX6_whole_217 hl (by decide) rfl (fun ls hl => ?_)
                  exact k_219 y217_5 _ (lv_sub hl [1, 2, 3, 4, 0] rfl) hv
                refine lv_if_eq (tgt := 209) hx hb dX6_whole_202 (by decide) (fun c202 => ?_) (fun c202 => ?_)
                · have hv := hv.trans (if_pos c202)
                  refine lv_lload_n hx hb dX6_whole_209 rfl (lv_at hl 2 rfl) ?_
                  refine lv_ldc2 hx hb hown (hts _ w_713) dX6_whole_210 ?_
                  refine lv_land hx hb dX6_whole_213 ?_
                  exact k_214 (x3 &&& 4294967295) _ (lv_sub hl [0, 1, 2, 3, 4] rfl) hv
                · have hv := hv.trans (if_neg c202)
                  refine lv_lload_n hx hb dX6_whole_205 rfl (lv_at hl 2 rfl) ?_
                  refine lv_goto (tgt := 214) hx hb dX6_whole_206 (by decide) ?_
                  exact k_214 x3 _ (lv_sub hl [0, 1, 2, 3, 4] rfl) hv
            refine lv_icmp_ne (tgt := 195) hx hb dX6_whole_186 (by decide) (fun c186 => ?_) (fun c186 => ?_)
            · have hv := hv.trans (if_neg c186)
              exact k_195 v8_183 _ (lv_sub hl [0, 1, 2, 3, 4, 5] rfl) hv
            · have hv := hv.trans (if_pos c186)
              refine lv_lload_n hx hb dX6_whole_189 rfl (lv_at hl 2 rfl) ?_
              refine lv_iload hx hb dX6_whole_190 (lv_at hl 4 rfl) ?_
              refine lv_lshr hx hb dX6_whole_192 rfl ?_
              refine sm_nml hv (fun y193_6 ey193_6 hv => ?_)
              refine lv_lstore (lv' := [(8, .long y193_6), (1, .int x1), (2, .int x2), (3, .long x3), (5, .long x5), (7, .int y15_1)]) hx hb dX6_whole_193 hl (by decide) rfl (fun ls hl => ?_)
              exact k_195 y193_6 _ (lv_sub hl [1, 2, 3, 4, 5, 0] rfl) hv
          refine lv_icmp_ne (tgt := 183) hx hb dX6_whole_174 (by decide) (fun c174 => ?_) (fun c174 => ?_)
          · have hv := hv.trans (if_neg c174)
            exact k_183 v8_171 _ (lv_sub hl [0, 1, 2, 3, 4, 5] rfl) hv
          · have hv := hv.trans (if_pos c174)
            refine lv_lload_n hx hb dX6_whole_177 rfl (lv_at hl 2 rfl) ?_
            refine lv_iload hx hb dX6_whole_178 (lv_at hl 4 rfl) ?_
            refine lv_lshl hx hb dX6_whole_180 rfl ?_
            refine sm_nml hv (fun y181_7 ey181_7 hv => ?_)
            refine lv_lstore (lv' := [(8, .long y181_7), (1, .int x1), (2, .int x2), (3, .long x3), (5, .long x5), (7, .int y15_1)]) hx hb dX6_whole_181 hl (by decide) rfl (fun ls hl => ?_)
            exact k_183 y181_7 _ (lv_sub hl [1, 2, 3, 4, 5, 0] rfl) hv
        refine lv_icmp_ne (tgt := 171) hx hb dX6_whole_153 (by decide) (fun c153 => ?_) (fun c153 => ?_)
        · have hv := hv.trans (if_neg c153)
          exact k_171 v8_150 _ (lv_sub hl [0, 1, 2, 3, 4, 5] rfl) hv
        · have hv := hv.trans (if_pos c153)
          refine lv_lload_n hx hb dX6_whole_156 rfl (lv_at hl 2 rfl) ?_
          refine lv_lload hx hb dX6_whole_157 (lv_at hl 3 rfl) ?_
          have k_169 : ∀ (t0_169 : Int64) (ls : Array Slot), lv_has ls 10 [(1, .int x1), (2, .int x2), (3, .long x3), (5, .long x5), (7, .int y15_1)] → F = f_X6_whole_169 x1 x2 x3 x5 y15_1 t0_169 → W p l e (rmd 0) s m args below meth c s.heap [] 0 0 (MQ below (vp_Sl (fun r => r = F)) args s 0 0 (fun _ => False)) (F0 m 169 ls [.long t0_169]) := by
            intro t0_169 ls hl hv
            refine lv_lstore (lv' := [(8, .long t0_169), (1, .int x1), (2, .int x2), (3, .long x3), (5, .long x5), (7, .int y15_1)]) hx hb dX6_whole_169 hl (by decide) rfl (fun ls hl => ?_)
            exact k_171 t0_169 _ (lv_sub hl [1, 2, 3, 4, 5, 0] rfl) hv
          refine lc_le (tgt := 167) hx hb dX6_whole_159 dX6_whole_160 (by decide) (fun c159 => ?_) (fun c159 => ?_)
          · have hv := hv.trans (if_pos c159)
            refine lv_lload hx hb dX6_whole_167 (lv_at hl 3 rfl) ?_
            exact k_169 x5 _ (lv_sub hl [0, 1, 2, 3, 4] rfl) hv
          · have hv := hv.trans (if_neg c159)
            refine lv_lload_n hx hb dX6_whole_163 rfl (lv_at hl 2 rfl) ?_
            refine lv_goto (tgt := 169) hx hb dX6_whole_164 (by decide) ?_
            exact k_169 x3 _ (lv_sub hl [0, 1, 2, 3, 4] rfl) hv
      refine lv_icmp_ne (tgt := 150) hx hb dX6_whole_132 (by decide) (fun c132 => ?_) (fun c132 => ?_)
      · have hv := hv.trans (if_neg c132)
        exact k_150 t0_127 _ (lv_sub hl [1, 2, 3, 4, 5, 0] rfl) hv
      · have hv := hv.trans (if_pos c132)
        refine lv_lload_n hx hb dX6_whole_135 rfl (lv_at hl 3 rfl) ?_
        refine lv_lload hx hb dX6_whole_136 (lv_at hl 4 rfl) ?_
        have k_148 : ∀ (t0_148 : Int64) (ls : Array Slot), lv_has ls 10 [(1, .int x1), (2, .int x2), (3, .long x3), (5, .long x5), (7, .int y15_1)] → F = f_X6_whole_148 x1 x2 x3 x5 y15_1 t0_148 → W p l e (rmd 0) s m args below meth c s.heap [] 0 0 (MQ below (vp_Sl (fun r => r = F)) args s 0 0 (fun _ => False)) (F0 m 148 ls [.long t0_148]) := by
          intro t0_148 ls hl hv
          refine lv_lstore (lv' := [(8, .long t0_148), (1, .int x1), (2, .int x2), (3, .long x3), (5, .long x5), (7, .int y15_1)]) hx hb dX6_whole_148 hl (by decide) rfl (fun ls hl => ?_)
          exact k_150 t0_148 _ (lv_sub hl [1, 2, 3, 4, 5, 0] rfl) hv
        refine lc_ge (tgt := 146) hx hb dX6_whole_138 dX6_whole_139 (by decide) (fun c138 => ?_) (fun c138 => ?_)
        · have hv := hv.trans (if_pos c138)
          refine lv_lload hx hb dX6_whole_146 (lv_at hl 4 rfl) ?_
          exact k_148 x5 _ (lv_sub hl [1, 2, 3, 4, 5] rfl) hv
        · have hv := hv.trans (if_neg c138)
          refine lv_lload_n hx hb dX6_whole_142 rfl (lv_at hl 3 rfl) ?_
          refine lv_goto (tgt := 148) hx hb dX6_whole_143 (by decide) ?_
          exact k_148 x3 _ (lv_sub hl [1, 2, 3, 4, 5] rfl) hv
    refine lv_icmp_ne (tgt := 30) hx hb dX6_whole_20 (by decide) (fun c20 => ?_) (fun c20 => ?_)
    · have hv := hv.trans (if_neg c20)
      refine lv_iload_n hx hb dX6_whole_30 rfl (lv_at hl 1 rfl) ?_
      refine lv_bipush (v := 21) hx hb dX6_whole_31 (by decide) ?_
      refine lv_icmp_ne (tgt := 43) hx hb dX6_whole_33 (by decide) (fun c33 => ?_) (fun c33 => ?_)
      · have hv := hv.trans (if_neg c33)
        refine lv_iload_n hx hb dX6_whole_43 rfl (lv_at hl 1 rfl) ?_
        refine lv_bipush (v := 22) hx hb dX6_whole_44 (by decide) ?_
        refine lv_icmp_ne (tgt := 56) hx hb dX6_whole_46 (by decide) (fun c46 => ?_) (fun c46 => ?_)
        · have hv := hv.trans (if_neg c46)
          refine lv_lload hx hb dX6_whole_56 (lv_at hl 4 rfl) ?_
          refine lv_lconst (v := 0) hx hb dX6_whole_58 (by decide) ?_
          have k_73 : ∀  (ls : Array Slot), ¬ x5 = 0 ∨ 25 ≤ x1 → lv_has ls 10 [(1, .int x1), (2, .int x2), (3, .long x3), (5, .long x5), (7, .int y15_1)] → F = f_X6_whole_73 x1 x2 x3 x5 y15_1 → W p l e (rmd 0) s m args below meth c s.heap [] 0 0 (MQ below (vp_Sl (fun r => r = F)) args s 0 0 (fun _ => False)) (F0 m 73 ls []) := by
            intro ls hyz hl hv
            refine lv_iload_n hx hb dX6_whole_73 rfl (lv_at hl 0 rfl) ?_
            refine lv_bipush (v := 23) hx hb dX6_whole_74 (by decide) ?_
            refine lv_icmp_ne (tgt := 100) hx hb dX6_whole_76 (by decide) (fun c76 => ?_) (fun c76 => ?_)
            · have hv := hv.trans (if_neg c76)
              refine lv_iload_n hx hb dX6_whole_100 rfl (lv_at hl 0 rfl) ?_
              refine lv_bipush (v := 24) hx hb dX6_whole_101 (by decide) ?_
              refine lv_icmp_ne (tgt := 126) hx hb dX6_whole_103 (by decide) (fun c103 => ?_) (fun c103 => ?_)
              · have hv := hv.trans (if_neg c103)
                refine lv_lload_n hx hb dX6_whole_126 rfl (lv_at hl 2 rfl) ?_
                exact k_127 x3 _ (lv_sub hl [0, 1, 2, 3, 4] rfl) hv
              · have hv := hv.trans (if_pos c103)
                refine lv_lload hx hb dX6_whole_106 (lv_at hl 3 rfl) ?_
                refine lv_ldc2 hx hb hown (hts _ w_708) dX6_whole_108 ?_
                refine lc_ne (tgt := 119) hx hb dX6_whole_111 dX6_whole_112 (by decide) (fun c111 => ?_) (fun c111 => ?_)
                · have hv := hv.trans (if_neg c111)
                  refine lv_lload_n hx hb dX6_whole_119 rfl (lv_at hl 2 rfl) ?_
                  refine lv_lload hx hb dX6_whole_120 (lv_at hl 3 rfl) ?_
                  refine lv_lrem hx hb dX6_whole_122 (hyz.resolve_right (by rw [c103]; decide)) ?_
                  refine lv_goto (tgt := 127) hx hb dX6_whole_123 (by decide) ?_
                  exact k_127 (x3 - x3 / x5 * x5) _ (lv_sub hl [0, 1, 2, 3, 4] rfl) hv
                · have hv := hv.trans (if_pos c111)
                  refine lv_lconst (v := 0) hx hb dX6_whole_115 (by decide) ?_
                  refine lv_goto (tgt := 127) hx hb dX6_whole_116 (by decide) ?_
                  exact k_127 0 _ (lv_sub hl [0, 1, 2, 3, 4] rfl) hv
            · have hv := hv.trans (if_pos c76)
              refine lv_lload hx hb dX6_whole_79 (lv_at hl 3 rfl) ?_
              refine lv_ldc2 hx hb hown (hts _ w_708) dX6_whole_81 ?_
              refine lc_ne (tgt := 93) hx hb dX6_whole_84 dX6_whole_85 (by decide) (fun c84 => ?_) (fun c84 => ?_)
              · have hv := hv.trans (if_neg c84)
                refine lv_lload_n hx hb dX6_whole_93 rfl (lv_at hl 2 rfl) ?_
                refine lv_lload hx hb dX6_whole_94 (lv_at hl 3 rfl) ?_
                refine lv_ldiv hx hb dX6_whole_96 (hyz.resolve_right (by rw [c76]; decide)) ?_
                refine lv_goto (tgt := 127) hx hb dX6_whole_97 (by decide) ?_
                exact k_127 (x3 / x5) _ (lv_sub hl [0, 1, 2, 3, 4] rfl) hv
              · have hv := hv.trans (if_pos c84)
                refine lv_lload_n hx hb dX6_whole_88 rfl (lv_at hl 2 rfl) ?_
                refine lv_lneg hx hb dX6_whole_89 ?_
                refine lv_goto (tgt := 127) hx hb dX6_whole_90 (by decide) ?_
                exact k_127 (-x3) _ (lv_sub hl [0, 1, 2, 3, 4] rfl) hv
          refine lc_ne (tgt := 73) hx hb dX6_whole_59 dX6_whole_60 (by decide) (fun c59 => ?_) (fun c59 => ?_)
          · have hv := hv.trans (if_neg c59)
            exact k_73 _ (by first | exact Or.inl c59 | exact Or.inr c66) (lv_sub hl [1, 2, 3, 4, 0] rfl) hv
          · have hv := hv.trans (if_pos c59)
            refine lv_iload_n hx hb dX6_whole_63 rfl (lv_at hl 1 rfl) ?_
            refine lv_bipush (v := 25) hx hb dX6_whole_64 (by decide) ?_
            refine lv_icmp_ge (tgt := 73) hx hb dX6_whole_66 (by decide) (fun c66 => ?_) (fun c66 => ?_)
            · have hv := hv.trans (if_pos c66)
              exact k_73 _ (by first | exact Or.inl c59 | exact Or.inr c66) (lv_sub hl [1, 2, 3, 4, 0] rfl) hv
            · have hv := hv.trans (if_neg c66)
              refine lv_lconst (v := 0) hx hb dX6_whole_69 (by decide) ?_
              refine lv_goto (tgt := 127) hx hb dX6_whole_70 (by decide) ?_
              exact k_127 0 _ (lv_sub hl [1, 2, 3, 4, 0] rfl) hv
        · have hv := hv.trans (if_pos c46)
          refine lv_lload_n hx hb dX6_whole_49 rfl (lv_at hl 3 rfl) ?_
          refine lv_lload hx hb dX6_whole_50 (lv_at hl 4 rfl) ?_
          refine lv_lmul hx hb dX6_whole_52 ?_
          refine lv_goto (tgt := 127) hx hb dX6_whole_53 (by decide) ?_
          exact k_127 (x3 * x5) _ (lv_sub hl [1, 2, 3, 4, 0] rfl) hv
      · have hv := hv.trans (if_pos c33)
        refine lv_lload_n hx hb dX6_whole_36 rfl (lv_at hl 3 rfl) ?_
        refine lv_lload hx hb dX6_whole_37 (lv_at hl 4 rfl) ?_
        refine lv_lsub hx hb dX6_whole_39 ?_
        refine lv_goto (tgt := 127) hx hb dX6_whole_40 (by decide) ?_
        exact k_127 (x3 - x5) _ (lv_sub hl [1, 2, 3, 4, 0] rfl) hv
    · have hv := hv.trans (if_pos c20)
      refine lv_lload_n hx hb dX6_whole_23 rfl (lv_at hl 3 rfl) ?_
      refine lv_lload hx hb dX6_whole_24 (lv_at hl 4 rfl) ?_
      refine lv_ladd hx hb dX6_whole_26 ?_
      refine lv_goto (tgt := 127) hx hb dX6_whole_27 (by decide) ?_
      exact k_127 (x3 + x5) _ (lv_sub hl [1, 2, 3, 4, 0] rfl) hv
  refine lv_if_eq (tgt := 12) hx hb dX6_whole_4 (by decide) (fun c4 => ?_) (fun c4 => ?_)
  · have hv := hv.trans (if_pos c4)
    refine lv_bipush (v := 31) hx hb dX6_whole_12 (by decide) ?_
    exact k_14 31 (Int64.toInt32 x5) _ (lv_sub hl [1, 2, 3, 4] rfl) hv
  · have hv := hv.trans (if_neg c4)
    refine lv_bipush (v := 63) hx hb dX6_whole_7 (by decide) ?_
    refine lv_goto (tgt := 14) hx hb dX6_whole_9 (by decide) ?_
    exact k_14 63 (Int64.toInt32 x5) _ (lv_sub hl [1, 2, 3, 4] rfl) hv
def f_X6_pointed_143 (x2 : Int32) (σ : sm_S) : Int64 × sm_S := (f_X6_none x2, σ)
def f_X6_pointed_182 (x3 : Int64) (x5 : Int64) (t0_171 : Int32) (σ : sm_S) (t0_182 : Int32) : Int64 × sm_S := if t0_171 = t0_182 then ((x3, σ)) else ((x5, σ))
def f_X6_pointed_171 (x1 : Int32) (x3 : Int64) (x5 : Int64) (σ : sm_S) (t0_171 : Int32) : Int64 × sm_S := if x1 = 25 then (f_X6_pointed_182 x3 x5 t0_171 σ 1) else (f_X6_pointed_182 x3 x5 t0_171 σ 0)
def f_X6_pointed_75 (x3 : Int64) (x2 : Int32) (σ : sm_S) (t0_75 : Int64) : Int64 × sm_S := sm_let (f_X6_sum σ x2 x3 t0_75) (fun u75_7 => (u75_7.1, u75_7.2))
def f_X6_pointed_72 (t0_53 : Int32) (x2 : Int32) (x3 : Int64) (σ : sm_S) (t0_72 : Int64) : Int64 × sm_S := f_X6_pointed_75 x3 x2 σ (f_X6_signed x2 t0_53 t0_72)
def f_X6_pointed_53 (x2 : Int32) (x5 : Int64) (x3 : Int64) (σ : sm_S) (t0_53 : Int32) : Int64 × sm_S := if x2 = 0 then (f_X6_pointed_72 t0_53 x2 x3 σ (x5 &&& 2147483647)) else (f_X6_pointed_72 t0_53 x2 x3 σ (x5 &&& 9223372036854775807))
def f_X6_pointed (σ : sm_S) (x1 : Int32) (x2 : Int32) (x3 : Int64) (x5 : Int64) : Int64 × sm_S := if x1 = 20 then (sm_let (f_X6_sum σ x2 x3 x5) (fun u11_8 => (u11_8.1, u11_8.2))) else (if x1 = 21 then (sm_let (f_X6_isNone σ x2 x5) (fun u28_6 => if u28_6.1 = 0 then (if x5 < 0 then (f_X6_pointed_53 x2 x5 x3 u28_6.2 0) else (f_X6_pointed_53 x2 x5 x3 u28_6.2 1)) else (f_X6_pointed_75 x3 x2 u28_6.2 x5))) else (if x1 = 22 then (sm_let (f_X6_product σ x2 x3 x5) (fun u90_5 => (u90_5.1, u90_5.2))) else (if x1 = 23 then (sm_let (f_X6_quotient σ x2 x3 x5) (fun u105_4 => (u105_4.1, u105_4.2))) else (if x1 = 24 then (sm_let (f_X6_remainder σ x2 x3 x5) (fun u120_3 => (u120_3.1, u120_3.2))) else (sm_let (f_X6_isNone σ x2 x3) (fun u127_1 => if u127_1.1 = 0 then (sm_let (f_X6_isNone u127_1.2 x2 x5) (fun u137_2 => if u137_2.1 = 0 then (if (f_X6_rank x2 x5) ≤ (f_X6_rank x2 x3) then (f_X6_pointed_171 x1 x3 x5 u137_2.2 0) else (f_X6_pointed_171 x1 x3 x5 u137_2.2 1)) else (f_X6_pointed_143 x2 u137_2.2))) else (f_X6_pointed_143 x2 u127_1.2)))))))
set_option maxRecDepth 100000 in
set_option maxHeartbeats 4000000 in
theorem c_X6_pointed (l : Launch) (g : sm_G) (ad : Nat → Nat) (hj : sm_inj 19 ad) (sz : Nat) (σ : sm_S) (x1 : Int32) (x2 : Int32) (x3 : Int64) (x5 : Int64)   : Met l yX6_pointed (sm_ws yX6_pointed cX6_pointed 7 (some .long)) (rmd 3) (va_Pc [.ref (ad 0), .int x1, .int x2, .long x3, .long x5] (sm_Pre g 19 ad (eM g ad) σ sz)) (sm_Ql g 19 ad (eM g ad) sz (f_X6_pointed σ x1 x2 x3 x5)) 0 0 (sm_AX 19 ad sz) := by
  generalize hv : f_X6_pointed σ x1 x2 x3 x5 = F
  replace hv := hv.symm
  refine sm_mWl (by decide) (Nat.le_of_ble_eq_true rfl) hj (eM_lay g ad) (fun p e s m args below meth c C hW hB ls hl => ?_)
  obtain ⟨hC, hr, hlocks⟩ := C
  have hx := hC.1
  have hb := hC.2.1
  have hts := hC.2.2.2.2
  have hown : s.vm.findClass RX6 = some m.cls := hC.2.2.2.1
  have hl : lv_has ls 7 [(0, .ref (ad 0)), (1, .int x1), (2, .int x2), (3, .long x3), (5, .long x5)] := hl
  refine lv_iload_n hx hb dX6_pointed_0 rfl (lv_at hl 1 rfl) ?_
  refine lv_bipush (v := 20) hx hb dX6_pointed_1 (by decide) ?_
  refine lv_icmp_ne (tgt := 15) hx hb dX6_pointed_3 (by decide) (fun c3 => ?_) (fun c3 => ?_)
  · have hv := hv.trans (if_neg c3)
    refine lv_iload_n hx hb dX6_pointed_15 rfl (lv_at hl 1 rfl) ?_
    refine lv_bipush (v := 21) hx hb dX6_pointed_16 (by decide) ?_
    refine lv_icmp_ne (tgt := 79) hx hb dX6_pointed_18 (by decide) (fun c18 => ?_) (fun c18 => ?_)
    · have hv := hv.trans (if_neg c18)
      refine lv_iload_n hx hb dX6_pointed_79 rfl (lv_at hl 1 rfl) ?_
      refine lv_bipush (v := 22) hx hb dX6_pointed_80 (by decide) ?_
      refine lv_icmp_ne (tgt := 94) hx hb dX6_pointed_82 (by decide) (fun c82 => ?_) (fun c82 => ?_)
      · have hv := hv.trans (if_neg c82)
        refine lv_iload_n hx hb dX6_pointed_94 rfl (lv_at hl 1 rfl) ?_
        refine lv_bipush (v := 23) hx hb dX6_pointed_95 (by decide) ?_
        refine lv_icmp_ne (tgt := 109) hx hb dX6_pointed_97 (by decide) (fun c97 => ?_) (fun c97 => ?_)
        · have hv := hv.trans (if_neg c97)
          refine lv_iload_n hx hb dX6_pointed_109 rfl (lv_at hl 1 rfl) ?_
          refine lv_bipush (v := 24) hx hb dX6_pointed_110 (by decide) ?_
          refine lv_icmp_ne (tgt := 124) hx hb dX6_pointed_112 (by decide) (fun c112 => ?_) (fun c112 => ?_)
          · have hv := hv.trans (if_neg c112)
            refine lv_aload_n hx hb dX6_pointed_124 rfl (lv_at hl 0 rfl) ?_
            refine lv_iload_n hx hb dX6_pointed_125 rfl (lv_at hl 2 rfl) ?_
            refine lv_lload_n hx hb dX6_pointed_126 rfl (lv_at hl 3 rfl) ?_
            refine sw_cin hv hB (sm_runV (rest := []) hC (c_X6_isNone l g ad hW.2.1 _ σ x2 x3) k_X6_isNone w_606 (by decide) (sm_pv hW hB (by decide) (eM_0 g ad _) rfl) rfl hl.1 rfl (Nat.le_of_ble_eq_true rfl) dX6_pointed_127) (fun u127_1 eu127_1 hv H locs hB => ?_)
            have k_143 : ∀  (σ : sm_S) (ls : Array Slot) (H : Heap) (locs : List Loc), lv_has ls 7 [(0, .ref (ad 0)), (2, .int x2)] → sm_B g 19 ad (eM g ad) s H locs σ → F = f_X6_pointed_143 x2 σ → W p l e (rmd 3) s m args below meth c H locs 0 0 (MQ below (sm_Ql g 19 ad (eM g ad) s.heap.size F) args s 0 0 (sm_AX 19 ad s.heap.size)) (F0 m 143 ls []) := by
              intro σ ls H locs hl hB hv
              refine lv_aload_n hx hb dX6_pointed_143 rfl (lv_at hl 0 rfl) ?_
              refine lv_iload_n hx hb dX6_pointed_144 rfl (lv_at hl 1 rfl) ?_
              refine sm_cl (sm_runV (rest := []) hC (c_X6_none l g ad hW.2.1 _ x2 σ) k_X6_none w_624 (by decide) (sm_pv hW hB (by decide) (eM_0 g ad _) rfl) rfl hl.1 rfl (Nat.le_of_ble_eq_true rfl) dX6_pointed_145) ?_
              exact sw_rl hx hb hr hlocks hB hv dX6_pointed_148
            refine lv_if_ne (tgt := 143) hx hb dX6_pointed_130 (by decide) (fun c130 => ?_) (fun c130 => ?_)
            · have hv := hv.trans (if_neg c130)
              exact k_143 u127_1.2 _ _ _ (lv_sub hl [0, 2] rfl) hB hv
            · have hv := hv.trans (if_pos c130)
              refine lv_aload_n hx hb dX6_pointed_133 rfl (lv_at hl 0 rfl) ?_
              refine lv_iload_n hx hb dX6_pointed_134 rfl (lv_at hl 2 rfl) ?_
              refine lv_lload hx hb dX6_pointed_135 (lv_at hl 4 rfl) ?_
              refine sw_cin hv hB (sm_runV (rest := []) hC (c_X6_isNone l g ad hW.2.1 _ u127_1.2 x2 x5) k_X6_isNone w_606 (by decide) (sm_pv hW hB (by decide) (eM_0 g ad _) rfl) rfl hl.1 rfl (Nat.le_of_ble_eq_true rfl) dX6_pointed_137) (fun u137_2 eu137_2 hv H locs hB => ?_)
              refine lv_if_eq (tgt := 149) hx hb dX6_pointed_140 (by decide) (fun c140 => ?_) (fun c140 => ?_)
              · have hv := hv.trans (if_pos c140)
                refine lv_aload_n hx hb dX6_pointed_149 rfl (lv_at hl 0 rfl) ?_
                refine lv_iload_n hx hb dX6_pointed_150 rfl (lv_at hl 2 rfl) ?_
                refine lv_lload_n hx hb dX6_pointed_151 rfl (lv_at hl 3 rfl) ?_
                refine sm_cl (sm_runV (rest := []) hC (c_X6_rank l g ad hW.2.1 _ x2 x3 u137_2.2) k_X6_rank w_704 (by decide) (sm_pv hW hB (by decide) (eM_0 g ad _) rfl) rfl hl.1 rfl (Nat.le_of_ble_eq_true rfl) dX6_pointed_152) ?_
                refine lv_aload_n hx hb dX6_pointed_155 rfl (lv_at hl 0 rfl) ?_
                refine lv_iload_n hx hb dX6_pointed_156 rfl (lv_at hl 2 rfl) ?_
                refine lv_lload hx hb dX6_pointed_157 (lv_at hl 4 rfl) ?_
                refine sm_cl (sm_runV (rest := [.long (f_X6_rank x2 x3)]) hC (c_X6_rank l g ad hW.2.1 _ x2 x5 u137_2.2) k_X6_rank w_704 (by decide) (sm_pv hW hB (by decide) (eM_0 g ad _) rfl) rfl hl.1 rfl (Nat.le_of_ble_eq_true rfl) dX6_pointed_159) ?_
                have k_171 : ∀ (t0_171 : Int32) (σ : sm_S) (ls : Array Slot) (H : Heap) (locs : List Loc), lv_has ls 7 [(1, .int x1), (3, .long x3), (5, .long x5)] → sm_B g 19 ad (eM g ad) s H locs σ → F = f_X6_pointed_171 x1 x3 x5 σ t0_171 → W p l e (rmd 3) s m args below meth c H locs 0 0 (MQ below (sm_Ql g 19 ad (eM g ad) s.heap.size F) args s 0 0 (sm_AX 19 ad s.heap.size)) (F0 m 171 ls [.int t0_171]) := by
                  intro t0_171 σ ls H locs hl hB hv
                  refine lv_iload_n hx hb dX6_pointed_171 rfl (lv_at hl 0 rfl) ?_
                  refine lv_bipush (v := 25) hx hb dX6_pointed_172 (by decide) ?_
                  have k_182 : ∀ (t0_182 : Int32) (ls : Array Slot), lv_has ls 7 [(3, .long x3), (5, .long x5)] → F = f_X6_pointed_182 x3 x5 t0_171 σ t0_182 → W p l e (rmd 3) s m args below meth c H locs 0 0 (MQ below (sm_Ql g 19 ad (eM g ad) s.heap.size F) args s 0 0 (sm_AX 19 ad s.heap.size)) (F0 m 182 ls [.int t0_182, .int t0_171]) := by
                    intro t0_182 ls hl hv
                    refine lv_icmp_ne (tgt := 189) hx hb dX6_pointed_182 (by decide) (fun c182 => ?_) (fun c182 => ?_)
                    · have hv := hv.trans (if_neg c182)
                      refine lv_lload hx hb dX6_pointed_189 (lv_at hl 1 rfl) ?_
                      exact sw_rl hx hb hr hlocks hB hv dX6_pointed_191
                    · have hv := hv.trans (if_pos c182)
                      refine lv_lload_n hx hb dX6_pointed_185 rfl (lv_at hl 0 rfl) ?_
                      refine lv_goto (tgt := 191) hx hb dX6_pointed_186 (by decide) ?_
                      exact sw_rl hx hb hr hlocks hB hv dX6_pointed_191
                  refine lv_icmp_ne (tgt := 181) hx hb dX6_pointed_174 (by decide) (fun c174 => ?_) (fun c174 => ?_)
                  · have hv := hv.trans (if_neg c174)
                    refine lv_iconst (v := 0) hx hb dX6_pointed_181 (by decide) ?_
                    exact k_182 0 _ (lv_sub hl [1, 2] rfl) hv
                  · have hv := hv.trans (if_pos c174)
                    refine lv_iconst (v := 1) hx hb dX6_pointed_177 (by decide) ?_
                    refine lv_goto (tgt := 182) hx hb dX6_pointed_178 (by decide) ?_
                    exact k_182 1 _ (lv_sub hl [1, 2] rfl) hv
                refine lc_ge (tgt := 170) hx hb dX6_pointed_162 dX6_pointed_163 (by decide) (fun c162 => ?_) (fun c162 => ?_)
                · have hv := hv.trans (if_pos c162)
                  refine lv_iconst (v := 0) hx hb dX6_pointed_170 (by decide) ?_
                  exact k_171 0 u137_2.2 _ _ _ (lv_sub hl [1, 3, 4] rfl) hB hv
                · have hv := hv.trans (if_neg c162)
                  refine lv_iconst (v := 1) hx hb dX6_pointed_166 (by decide) ?_
                  refine lv_goto (tgt := 171) hx hb dX6_pointed_167 (by decide) ?_
                  exact k_171 1 u137_2.2 _ _ _ (lv_sub hl [1, 3, 4] rfl) hB hv
              · have hv := hv.trans (if_neg c140)
                exact k_143 u137_2.2 _ _ _ (lv_sub hl [0, 2] rfl) hB hv
          · have hv := hv.trans (if_pos c112)
            refine lv_aload_n hx hb dX6_pointed_115 rfl (lv_at hl 0 rfl) ?_
            refine lv_iload_n hx hb dX6_pointed_116 rfl (lv_at hl 2 rfl) ?_
            refine lv_lload_n hx hb dX6_pointed_117 rfl (lv_at hl 3 rfl) ?_
            refine lv_lload hx hb dX6_pointed_118 (lv_at hl 4 rfl) ?_
            refine sw_cln hv hB (sm_runV (rest := []) hC (c_X6_remainder l g ad hW.2.1 _ σ x2 x3 x5) k_X6_remainder w_734 (by decide) (sm_pv hW hB (by decide) (eM_0 g ad _) rfl) rfl hl.1 rfl (Nat.le_of_ble_eq_true rfl) dX6_pointed_120) (fun u120_3 eu120_3 hv H locs hB => ?_)
            exact sw_rl hx hb hr hlocks hB hv dX6_pointed_123
        · have hv := hv.trans (if_pos c97)
          refine lv_aload_n hx hb dX6_pointed_100 rfl (lv_at hl 0 rfl) ?_
          refine lv_iload_n hx hb dX6_pointed_101 rfl (lv_at hl 2 rfl) ?_
          refine lv_lload_n hx hb dX6_pointed_102 rfl (lv_at hl 3 rfl) ?_
          refine lv_lload hx hb dX6_pointed_103 (lv_at hl 4 rfl) ?_
          refine sw_cln hv hB (sm_runV (rest := []) hC (c_X6_quotient l g ad hW.2.1 _ σ x2 x3 x5) k_X6_quotient w_730 (by decide) (sm_pv hW hB (by decide) (eM_0 g ad _) rfl) rfl hl.1 rfl (Nat.le_of_ble_eq_true rfl) dX6_pointed_105) (fun u105_4 eu105_4 hv H locs hB => ?_)
          exact sw_rl hx hb hr hlocks hB hv dX6_pointed_108
      · have hv := hv.trans (if_pos c82)
        refine lv_aload_n hx hb dX6_pointed_85 rfl (lv_at hl 0 rfl) ?_
        refine lv_iload_n hx hb dX6_pointed_86 rfl (lv_at hl 2 rfl) ?_
        refine lv_lload_n hx hb dX6_pointed_87 rfl (lv_at hl 3 rfl) ?_
        refine lv_lload hx hb dX6_pointed_88 (lv_at hl 4 rfl) ?_
        refine sw_cln hv hB (sm_runV (rest := []) hC (c_X6_product l g ad hW.2.1 _ σ x2 x3 x5) k_X6_product w_726 (by decide) (sm_pv hW hB (by decide) (eM_0 g ad _) rfl) rfl hl.1 rfl (Nat.le_of_ble_eq_true rfl) dX6_pointed_90) (fun u90_5 eu90_5 hv H locs hB => ?_)
        exact sw_rl hx hb hr hlocks hB hv dX6_pointed_93
    · have hv := hv.trans (if_pos c18)
      refine lv_aload_n hx hb dX6_pointed_21 rfl (lv_at hl 0 rfl) ?_
      refine lv_iload_n hx hb dX6_pointed_22 rfl (lv_at hl 2 rfl) ?_
      refine lv_lload_n hx hb dX6_pointed_23 rfl (lv_at hl 3 rfl) ?_
      refine lv_aload_n hx hb dX6_pointed_24 rfl (lv_at hl 0 rfl) ?_
      refine lv_iload_n hx hb dX6_pointed_25 rfl (lv_at hl 2 rfl) ?_
      refine lv_lload hx hb dX6_pointed_26 (lv_at hl 4 rfl) ?_
      refine sw_cin hv hB (sm_runV (rest := [.long x3, .int x2, .ref (ad 0)]) hC (c_X6_isNone l g ad hW.2.1 _ σ x2 x5) k_X6_isNone w_606 (by decide) (sm_pv hW hB (by decide) (eM_0 g ad _) rfl) rfl hl.1 rfl (Nat.le_of_ble_eq_true rfl) dX6_pointed_28) (fun u28_6 eu28_6 hv H locs hB => ?_)
      have k_75 : ∀ (t0_75 : Int64) (σ : sm_S) (ls : Array Slot) (H : Heap) (locs : List Loc), lv_has ls 7 [] → sm_B g 19 ad (eM g ad) s H locs σ → F = f_X6_pointed_75 x3 x2 σ t0_75 → W p l e (rmd 3) s m args below meth c H locs 0 0 (MQ below (sm_Ql g 19 ad (eM g ad) s.heap.size F) args s 0 0 (sm_AX 19 ad s.heap.size)) (F0 m 75 ls [.long t0_75, .long x3, .int x2, .ref (ad 0)]) := by
        intro t0_75 σ ls H locs hl hB hv
        refine sw_cln hv hB (sm_runV (rest := []) hC (c_X6_sum l g ad hW.2.1 _ σ x2 x3 t0_75) k_X6_sum w_718 (by decide) (sm_pv hW hB (by decide) (eM_0 g ad _) rfl) rfl hl.1 rfl (Nat.le_of_ble_eq_true rfl) dX6_pointed_75) (fun u75_7 eu75_7 hv H locs hB => ?_)
        exact sw_rl hx hb hr hlocks hB hv dX6_pointed_78
      refine lv_if_eq (tgt := 39) hx hb dX6_pointed_31 (by decide) (fun c31 => ?_) (fun c31 => ?_)
      · have hv := hv.trans (if_pos c31)
        refine lv_aload_n hx hb dX6_pointed_39 rfl (lv_at hl 0 rfl) ?_
        refine lv_iload_n hx hb dX6_pointed_40 rfl (lv_at hl 2 rfl) ?_
        refine lv_lload hx hb dX6_pointed_41 (lv_at hl 4 rfl) ?_
        refine lv_lconst (v := 0) hx hb dX6_pointed_43 (by decide) ?_
        have k_53 : ∀ (t0_53 : Int32) (σ : sm_S) (ls : Array Slot) (H : Heap) (locs : List Loc), lv_has ls 7 [(2, .int x2), (5, .long x5)] → sm_B g 19 ad (eM g ad) s H locs σ → F = f_X6_pointed_53 x2 x5 x3 σ t0_53 → W p l e (rmd 3) s m args below meth c H locs 0 0 (MQ below (sm_Ql g 19 ad (eM g ad) s.heap.size F) args s 0 0 (sm_AX 19 ad s.heap.size)) (F0 m 53 ls [.int t0_53, .int x2, .ref (ad 0), .long x3, .int x2, .ref (ad 0)]) := by
          intro t0_53 σ ls H locs hl hB hv
          refine lv_iload_n hx hb dX6_pointed_53 rfl (lv_at hl 0 rfl) ?_
          have k_72 : ∀ (t0_72 : Int64) (ls : Array Slot), lv_has ls 7 [] → F = f_X6_pointed_72 t0_53 x2 x3 σ t0_72 → W p l e (rmd 3) s m args below meth c H locs 0 0 (MQ below (sm_Ql g 19 ad (eM g ad) s.heap.size F) args s 0 0 (sm_AX 19 ad s.heap.size)) (F0 m 72 ls [.long t0_72, .int t0_53, .int x2, .ref (ad 0), .long x3, .int x2, .ref (ad 0)]) := by
            intro t0_72 ls hl hv
            refine sm_cl (sm_runV (rest := [.long x3, .int x2, .ref (ad 0)]) hC (c_X6_signed l g ad hW.2.1 _ x2 t0_53 t0_72 σ) k_X6_signed w_674 (by decide) (sm_pv hW hB (by decide) (eM_0 g ad _) rfl) rfl hl.1 rfl (Nat.le_of_ble_eq_true rfl) dX6_pointed_72) ?_
            exact k_75 (f_X6_signed x2 t0_53 t0_72) σ _ _ _ (lv_sub hl [] rfl) hB hv
          refine lv_if_eq (tgt := 66) hx hb dX6_pointed_54 (by decide) (fun c54 => ?_) (fun c54 => ?_)
          · have hv := hv.trans (if_pos c54)
            refine lv_lload hx hb dX6_pointed_66 (lv_at hl 1 rfl) ?_
            refine lv_ldc2 hx hb hown (hts _ w_619) dX6_pointed_68 ?_
            refine lv_land hx hb dX6_pointed_71 ?_
            exact k_72 (x5 &&& 2147483647) _ (lv_sub hl [] rfl) hv
          · have hv := hv.trans (if_neg c54)
            refine lv_lload hx hb dX6_pointed_57 (lv_at hl 1 rfl) ?_
            refine lv_ldc2 hx hb hown (hts _ w_618) dX6_pointed_59 ?_
            refine lv_land hx hb dX6_pointed_62 ?_
            refine lv_goto (tgt := 72) hx hb dX6_pointed_63 (by decide) ?_
            exact k_72 (x5 &&& 9223372036854775807) _ (lv_sub hl [] rfl) hv
        refine lc_lt (tgt := 52) hx hb dX6_pointed_44 dX6_pointed_45 (by decide) (fun c44 => ?_) (fun c44 => ?_)
        · have hv := hv.trans (if_pos c44)
          refine lv_iconst (v := 0) hx hb dX6_pointed_52 (by decide) ?_
          exact k_53 0 u28_6.2 _ _ _ (lv_sub hl [2, 4] rfl) hB hv
        · have hv := hv.trans (if_neg c44)
          refine lv_iconst (v := 1) hx hb dX6_pointed_48 (by decide) ?_
          refine lv_goto (tgt := 53) hx hb dX6_pointed_49 (by decide) ?_
          exact k_53 1 u28_6.2 _ _ _ (lv_sub hl [2, 4] rfl) hB hv
      · have hv := hv.trans (if_neg c31)
        refine lv_lload hx hb dX6_pointed_34 (lv_at hl 4 rfl) ?_
        refine lv_goto (tgt := 75) hx hb dX6_pointed_36 (by decide) ?_
        exact k_75 x5 u28_6.2 _ _ _ (lv_sub hl [] rfl) hB hv
  · have hv := hv.trans (if_pos c3)
    refine lv_aload_n hx hb dX6_pointed_6 rfl (lv_at hl 0 rfl) ?_
    refine lv_iload_n hx hb dX6_pointed_7 rfl (lv_at hl 2 rfl) ?_
    refine lv_lload_n hx hb dX6_pointed_8 rfl (lv_at hl 3 rfl) ?_
    refine lv_lload hx hb dX6_pointed_9 (lv_at hl 4 rfl) ?_
    refine sw_cln hv hB (sm_runV (rest := []) hC (c_X6_sum l g ad hW.2.1 _ σ x2 x3 x5) k_X6_sum w_718 (by decide) (sm_pv hW hB (by decide) (eM_0 g ad _) rfl) rfl hl.1 rfl (Nat.le_of_ble_eq_true rfl) dX6_pointed_11) (fun u11_8 eu11_8 hv H locs hB => ?_)
    exact sw_rl hx hb hr hlocks hB hv dX6_pointed_14
def f_X6_two_442 (t0_352 : Int64) (t0_408 : Int32) (y424_2 : Int32) (x2 : Int32) (σ : sm_S) (t0_442 : Int32) : Int32 × sm_S := sm_let (f_X6_put (uI σ 1 (Int32.toNatClampNeg x2) t0_442) x2 t0_352 y424_2 t0_408) (fun u451_3 => (0, u451_3))
def f_X6_two_408 (t0_352 : Int64) (x2 : Int32) (x3 : Int32) (x4 : Int32) (y51_1 : Int32) (t0_102 : Int32) (σ : sm_S) (t0_408 : Int32) : Int32 × sm_S := sm_let ((σ.1 2 (Int32.toNatClampNeg x3)) ||| (σ.1 2 (Int32.toNatClampNeg x4))) (fun y424_2 => if t0_102 = 0 then (f_X6_two_442 t0_352 t0_408 y424_2 x2 σ y51_1) else (f_X6_two_442 t0_352 t0_408 y424_2 x2 σ 0))
def f_X6_two_407 (t0_352 : Int64) (x2 : Int32) (x3 : Int32) (x4 : Int32) (y51_1 : Int32) (t0_102 : Int32) (σ : sm_S) : Int32 × sm_S := f_X6_two_408 t0_352 x2 x3 x4 y51_1 t0_102 σ 0
def f_X6_two_403 (t0_352 : Int64) (x2 : Int32) (x3 : Int32) (x4 : Int32) (y51_1 : Int32) (t0_102 : Int32) (σ : sm_S) : Int32 × sm_S := f_X6_two_408 t0_352 x2 x3 x4 y51_1 t0_102 σ 1
def f_X6_two_352 (x2 : Int32) (x3 : Int32) (x4 : Int32) (y51_1 : Int32) (t0_102 : Int32) (t0_176 : Int32) (σ : sm_S) (t0_352 : Int64) : Int32 × sm_S := if (σ.1 4 (Int32.toNatClampNeg x3)) = 0 then (f_X6_two_407 t0_352 x2 x3 x4 y51_1 t0_102 σ) else (if (σ.1 4 (Int32.toNatClampNeg x4)) = 0 then (f_X6_two_407 t0_352 x2 x3 x4 y51_1 t0_102 σ) else (if 2 ≤ y51_1 then (f_X6_two_403 t0_352 x2 x3 x4 y51_1 t0_102 σ) else (if t0_176 = 0 then (f_X6_two_403 t0_352 x2 x3 x4 y51_1 t0_102 σ) else (if (σ.1 2 (Int32.toNatClampNeg x3)) = 0 then (f_X6_two_403 t0_352 x2 x3 x4 y51_1 t0_102 σ) else (if (σ.1 2 (Int32.toNatClampNeg x4)) = 0 then (f_X6_two_403 t0_352 x2 x3 x4 y51_1 t0_102 σ) else (f_X6_two_407 t0_352 x2 x3 x4 y51_1 t0_102 σ))))))
def f_X6_two_336 (x2 : Int32) (x3 : Int32) (x4 : Int32) (y51_1 : Int32) (t0_102 : Int32) (t0_176 : Int32) (x1 : Int32) (σ : sm_S) (t0_336 : Int32) : Int32 × sm_S := sm_let (f_X6_pointed σ x1 t0_336 (σ.2.1 3 (Int32.toNatClampNeg x3)) (σ.2.1 3 (Int32.toNatClampNeg x4))) (fun u349_4 => f_X6_two_352 x2 x3 x4 y51_1 t0_102 t0_176 u349_4.2 u349_4.1)
def f_X6_two_304 (x2 : Int32) (x3 : Int32) (x4 : Int32) (y51_1 : Int32) (t0_102 : Int32) (t0_176 : Int32) (x1 : Int32) (σ : sm_S) (t0_304 : Int32) : Int32 × sm_S := f_X6_two_352 x2 x3 x4 y51_1 t0_102 t0_176 σ (f_X6_whole x1 t0_304 (σ.2.1 3 (Int32.toNatClampNeg x3)) (σ.2.1 3 (Int32.toNatClampNeg x4)))
def f_X6_two_278 (x2 : Int32) (x3 : Int32) (x4 : Int32) (y51_1 : Int32) (t0_102 : Int32) (t0_176 : Int32) (σ : sm_S) (t0_278 : Int32) (t1_278 : Int64) (t2_278 : Int64) : Int32 × sm_S := sm_let (f_X6_compared σ y51_1 t2_278 t1_278 t0_278) (fun u278_5 => f_X6_two_352 x2 x3 x4 y51_1 t0_102 t0_176 u278_5.2 (Int32.toInt64 u278_5.1))
def f_X6_two_246 (x1 : Int32) (x2 : Int32) (x3 : Int32) (x4 : Int32) (y51_1 : Int32) (t0_102 : Int32) (t0_176 : Int32) (σ : sm_S) : Int32 × sm_S := if t0_102 = 0 then (if 2 ≤ y51_1 then (if y51_1 = 3 then (f_X6_two_336 x2 x3 x4 y51_1 t0_102 t0_176 x1 σ 1) else (f_X6_two_336 x2 x3 x4 y51_1 t0_102 t0_176 x1 σ 0)) else (if y51_1 = 1 then (f_X6_two_304 x2 x3 x4 y51_1 t0_102 t0_176 x1 σ 1) else (f_X6_two_304 x2 x3 x4 y51_1 t0_102 t0_176 x1 σ 0))) else (if x1 = 33 then (f_X6_two_278 x2 x3 x4 y51_1 t0_102 t0_176 σ ((-1)) (σ.2.1 3 (Int32.toNatClampNeg x4)) (σ.2.1 3 (Int32.toNatClampNeg x3))) else (f_X6_two_278 x2 x3 x4 y51_1 t0_102 t0_176 σ 1 (σ.2.1 3 (Int32.toNatClampNeg x4)) (σ.2.1 3 (Int32.toNatClampNeg x3))))
def f_X6_two_221 (x1 : Int32) (x2 : Int32) (x3 : Int32) (x4 : Int32) (y51_1 : Int32) (t0_102 : Int32) (t0_176 : Int32) (σ : sm_S) : Int32 × sm_S := if y51_1 ≤ 1 then (f_X6_two_246 x1 x2 x3 x4 y51_1 t0_102 t0_176 σ) else (if 25 ≤ x1 then (f_X6_two_246 x1 x2 x3 x4 y51_1 t0_102 t0_176 σ) else (sm_let (f_X6_fix σ x3 x1) (fun u236_6 => sm_let (f_X6_fix u236_6 x4 x1) (fun u243_7 => f_X6_two_246 x1 x2 x3 x4 y51_1 t0_102 t0_176 u243_7))))
def f_X6_two_196 (x1 : Int32) (x2 : Int32) (x3 : Int32) (x4 : Int32) (y51_1 : Int32) (t0_102 : Int32) (t0_176 : Int32) (σ : sm_S) : Int32 × sm_S := if (σ.2.1 3 (Int32.toNatClampNeg x4)) = 0 then (((-2), uI σ 0 2 ((σ.1 0 2) + 1))) else (f_X6_two_221 x1 x2 x3 x4 y51_1 t0_102 t0_176 σ)
def f_X6_two_176 (x1 : Int32) (x2 : Int32) (x3 : Int32) (x4 : Int32) (y51_1 : Int32) (t0_102 : Int32) (σ : sm_S) (t0_176 : Int32) : Int32 × sm_S := if 2 ≤ y51_1 then (f_X6_two_221 x1 x2 x3 x4 y51_1 t0_102 t0_176 σ) else (if x1 = 23 then (f_X6_two_196 x1 x2 x3 x4 y51_1 t0_102 t0_176 σ) else (if x1 = 24 then (f_X6_two_196 x1 x2 x3 x4 y51_1 t0_102 t0_176 σ) else (f_X6_two_221 x1 x2 x3 x4 y51_1 t0_102 t0_176 σ)))
def f_X6_two_175 (x1 : Int32) (x2 : Int32) (x3 : Int32) (x4 : Int32) (y51_1 : Int32) (t0_102 : Int32) (σ : sm_S) : Int32 × sm_S := f_X6_two_176 x1 x2 x3 x4 y51_1 t0_102 σ 0
def f_X6_two_159 (x1 : Int32) (x2 : Int32) (x3 : Int32) (x4 : Int32) (y51_1 : Int32) (t0_102 : Int32) (σ : sm_S) : Int32 × sm_S := if x1 ≤ 21 then (f_X6_two_175 x1 x2 x3 x4 y51_1 t0_102 σ) else (if 25 ≤ x1 then (f_X6_two_175 x1 x2 x3 x4 y51_1 t0_102 σ) else (f_X6_two_176 x1 x2 x3 x4 y51_1 t0_102 σ 1))
def f_X6_two_147 (x1 : Int32) (x2 : Int32) (x3 : Int32) (x4 : Int32) (y51_1 : Int32) (t0_102 : Int32) (σ : sm_S) : Int32 × sm_S := if t0_102 = 0 then (f_X6_two_159 x1 x2 x3 x4 y51_1 t0_102 σ) else (if y51_1 = 0 then (((-1), σ)) else (f_X6_two_159 x1 x2 x3 x4 y51_1 t0_102 σ))
def f_X6_two_136 (x1 : Int32) (x2 : Int32) (x3 : Int32) (x4 : Int32) (y51_1 : Int32) (t0_89 : Int32) (t0_102 : Int32) (σ : sm_S) : Int32 × sm_S := if t0_89 = 0 then (f_X6_two_147 x1 x2 x3 x4 y51_1 t0_102 σ) else (if 1 < y51_1 then (((-1), σ)) else (f_X6_two_147 x1 x2 x3 x4 y51_1 t0_102 σ))
def f_X6_two_102 (x1 : Int32) (x2 : Int32) (x3 : Int32) (x4 : Int32) (y51_1 : Int32) (t0_70 : Int32) (t0_89 : Int32) (σ : sm_S) (t0_102 : Int32) : Int32 × sm_S := if t0_70 = 0 then (if (σ.1 1 (Int32.toNatClampNeg x4)) = y51_1 then (f_X6_two_136 x1 x2 x3 x4 y51_1 t0_89 t0_102 σ) else (((-1), σ))) else (if (σ.1 1 (Int32.toNatClampNeg x4)) = 0 then (f_X6_two_136 x1 x2 x3 x4 y51_1 t0_89 t0_102 σ) else (((-1), σ)))
def f_X6_two_89 (x1 : Int32) (x2 : Int32) (x3 : Int32) (x4 : Int32) (y51_1 : Int32) (t0_70 : Int32) (σ : sm_S) (t0_89 : Int32) : Int32 × sm_S := if x1 ≤ 32 then (f_X6_two_102 x1 x2 x3 x4 y51_1 t0_70 t0_89 σ 0) else (f_X6_two_102 x1 x2 x3 x4 y51_1 t0_70 t0_89 σ 1)
def f_X6_two_88 (x1 : Int32) (x2 : Int32) (x3 : Int32) (x4 : Int32) (y51_1 : Int32) (t0_70 : Int32) (σ : sm_S) : Int32 × sm_S := f_X6_two_89 x1 x2 x3 x4 y51_1 t0_70 σ 0
def f_X6_two_70 (x1 : Int32) (x2 : Int32) (x3 : Int32) (x4 : Int32) (y51_1 : Int32) (σ : sm_S) (t0_70 : Int32) : Int32 × sm_S := if x1 ≤ 26 then (f_X6_two_88 x1 x2 x3 x4 y51_1 t0_70 σ) else (if 33 ≤ x1 then (f_X6_two_88 x1 x2 x3 x4 y51_1 t0_70 σ) else (f_X6_two_89 x1 x2 x3 x4 y51_1 t0_70 σ 1))
def f_X6_two_69 (x1 : Int32) (x2 : Int32) (x3 : Int32) (x4 : Int32) (y51_1 : Int32) (σ : sm_S) : Int32 × sm_S := f_X6_two_70 x1 x2 x3 x4 y51_1 σ 0
def f_X6_two (σ : sm_S) (x1 : Int32) (x2 : Int32) (x3 : Int32) (x4 : Int32) : Int32 × sm_S := if x1 < 20 then (((-1), σ)) else (if 34 < x1 then (((-1), σ)) else (if (f_X6_out x2 8) = 0 then (if (f_X6_out x3 8) = 0 then (if (f_X6_out x4 8) = 0 then (sm_let (σ.1 1 (Int32.toNatClampNeg x3)) (fun y51_1 => if x1 ≤ 26 then (f_X6_two_69 x1 x2 x3 x4 y51_1 σ) else (if 30 ≤ x1 then (f_X6_two_69 x1 x2 x3 x4 y51_1 σ) else (f_X6_two_70 x1 x2 x3 x4 y51_1 σ 1)))) else (((-1), σ))) else (((-1), σ))) else (((-1), σ))))
set_option maxRecDepth 100000 in
set_option maxHeartbeats 4000000 in
theorem c_X6_two (l : Launch) (g : sm_G) (ad : Nat → Nat) (hj : sm_inj 19 ad) (sz : Nat) (σ : sm_S) (x1 : Int32) (x2 : Int32) (x3 : Int32) (x4 : Int32)   : Met l yX6_two (sm_ws yX6_two cX6_two 14 (some .int)) (rmd 4) (va_Pc [.ref (ad 0), .int x1, .int x2, .int x3, .int x4] (sm_Pre g 19 ad (eM g ad) σ sz)) (sm_Qi g 19 ad (eM g ad) sz (f_X6_two σ x1 x2 x3 x4)) 0 0 (sm_AX 19 ad sz) := by
  generalize hv : f_X6_two σ x1 x2 x3 x4 = F
  replace hv := hv.symm
  refine sm_mWi (by decide) (Nat.le_of_ble_eq_true rfl) hj (eM_lay g ad) (fun p e s m args below meth c C hW hB ls hl => ?_)
  obtain ⟨hC, hr, hlocks⟩ := C
  have hx := hC.1
  have hb := hC.2.1
  have hts := hC.2.2.2.2
  have hown : s.vm.findClass RX6 = some m.cls := hC.2.2.2.1
  have hl : lv_has ls 14 [(0, .ref (ad 0)), (1, .int x1), (2, .int x2), (3, .int x3), (4, .int x4)] := hl
  refine lv_iload_n hx hb dX6_two_0 rfl (lv_at hl 1 rfl) ?_
  refine lv_bipush (v := 20) hx hb dX6_two_1 (by decide) ?_
  refine lv_icmp_lt (tgt := 43) hx hb dX6_two_3 (by decide) (fun c3 => ?_) (fun c3 => ?_)
  · have hv := hv.trans (if_pos c3)
    refine lv_iconst (v := -1) hx hb dX6_two_43 (by decide) ?_
    exact sw_ri hx hb hr hlocks hB hv dX6_two_44
  · have hv := hv.trans (if_neg c3)
    refine lv_iload_n hx hb dX6_two_6 rfl (lv_at hl 1 rfl) ?_
    refine lv_bipush (v := 34) hx hb dX6_two_7 (by decide) ?_
    refine lv_icmp_gt (tgt := 43) hx hb dX6_two_9 (by decide) (fun c9 => ?_) (fun c9 => ?_)
    · have hv := hv.trans (if_pos c9)
      refine lv_iconst (v := -1) hx hb dX6_two_43 (by decide) ?_
      exact sw_ri hx hb hr hlocks hB hv dX6_two_44
    · have hv := hv.trans (if_neg c9)
      refine lv_aload_n hx hb dX6_two_12 rfl (lv_at hl 0 rfl) ?_
      refine lv_iload_n hx hb dX6_two_13 rfl (lv_at hl 2 rfl) ?_
      refine lv_bipush (v := 8) hx hb dX6_two_14 (by decide) ?_
      refine sm_ci (sm_runV (rest := []) hC (c_X6_out l g ad hW.2.1 _ x2 8 σ) k_X6_out w_598 (by decide) (sm_pv hW hB (by decide) (eM_0 g ad _) rfl) rfl hl.1 rfl (Nat.le_of_ble_eq_true rfl) dX6_two_16) ?_
      refine lv_if_ne (tgt := 43) hx hb dX6_two_19 (by decide) (fun c19 => ?_) (fun c19 => ?_)
      · have hv := hv.trans (if_neg c19)
        refine lv_iconst (v := -1) hx hb dX6_two_43 (by decide) ?_
        exact sw_ri hx hb hr hlocks hB hv dX6_two_44
      · have hv := hv.trans (if_pos c19)
        refine lv_aload_n hx hb dX6_two_22 rfl (lv_at hl 0 rfl) ?_
        refine lv_iload_n hx hb dX6_two_23 rfl (lv_at hl 3 rfl) ?_
        refine lv_bipush (v := 8) hx hb dX6_two_24 (by decide) ?_
        refine sm_ci (sm_runV (rest := []) hC (c_X6_out l g ad hW.2.1 _ x3 8 σ) k_X6_out w_598 (by decide) (sm_pv hW hB (by decide) (eM_0 g ad _) rfl) rfl hl.1 rfl (Nat.le_of_ble_eq_true rfl) dX6_two_26) ?_
        refine lv_if_ne (tgt := 43) hx hb dX6_two_29 (by decide) (fun c29 => ?_) (fun c29 => ?_)
        · have hv := hv.trans (if_neg c29)
          refine lv_iconst (v := -1) hx hb dX6_two_43 (by decide) ?_
          exact sw_ri hx hb hr hlocks hB hv dX6_two_44
        · have hv := hv.trans (if_pos c29)
          refine lv_aload_n hx hb dX6_two_32 rfl (lv_at hl 0 rfl) ?_
          refine lv_iload hx hb dX6_two_33 (lv_at hl 4 rfl) ?_
          refine lv_bipush (v := 8) hx hb dX6_two_35 (by decide) ?_
          refine sm_ci (sm_runV (rest := []) hC (c_X6_out l g ad hW.2.1 _ x4 8 σ) k_X6_out w_598 (by decide) (sm_pv hW hB (by decide) (eM_0 g ad _) rfl) rfl hl.1 rfl (Nat.le_of_ble_eq_true rfl) dX6_two_37) ?_
          refine lv_if_eq (tgt := 45) hx hb dX6_two_40 (by decide) (fun c40 => ?_) (fun c40 => ?_)
          · have hv := hv.trans (if_pos c40)
            refine lv_aload_n hx hb dX6_two_45 rfl (lv_at hl 0 rfl) ?_
            refine fg_RX6_7 hx hb hts hown hW hB dX6_two_46 ?_
            refine lv_iload_n hx hb dX6_two_49 rfl (lv_at hl 3 rfl) ?_
            refine sw_ia hx hb hW hB (1) (by decide) (eM_1 g ad) (out_in c29 (by decide)) dX6_two_50 ?_
            refine sm_nmi hv (fun y51_1 ey51_1 hv => ?_)
            refine lv_istore (lv' := [(5, .int y51_1), (0, .ref (ad 0)), (1, .int x1), (2, .int x2), (3, .int x3), (4, .int x4)]) hx hb dX6_two_51 hl (by decide) rfl (fun ls hl => ?_)
            refine lv_iload_n hx hb dX6_two_53 rfl (lv_at hl 2 rfl) ?_
            refine lv_bipush (v := 26) hx hb dX6_two_54 (by decide) ?_
            have k_70 : ∀ (t0_70 : Int32) (ls : Array Slot), lv_has ls 14 [(0, .ref (ad 0)), (1, .int x1), (2, .int x2), (3, .int x3), (4, .int x4), (5, .int y51_1)] → F = f_X6_two_70 x1 x2 x3 x4 y51_1 σ t0_70 → W p l e (rmd 4) s m args below meth c s.heap [] 0 0 (MQ below (sm_Qi g 19 ad (eM g ad) s.heap.size F) args s 0 0 (sm_AX 19 ad s.heap.size)) (F0 m 70 ls [.int t0_70]) := by
              intro t0_70 ls hl hv
              refine lv_istore (lv' := [(6, .int t0_70), (0, .ref (ad 0)), (1, .int x1), (2, .int x2), (3, .int x3), (4, .int x4), (5, .int y51_1)]) hx hb dX6_two_70 hl (by decide) rfl (fun ls hl => ?_)
              refine lv_iload_n hx hb dX6_two_72 rfl (lv_at hl 2 rfl) ?_
              refine lv_bipush (v := 26) hx hb dX6_two_73 (by decide) ?_
              have k_89 : ∀ (t0_89 : Int32) (ls : Array Slot), lv_has ls 14 [(0, .ref (ad 0)), (1, .int x1), (2, .int x2), (3, .int x3), (4, .int x4), (5, .int y51_1), (6, .int t0_70)] → F = f_X6_two_89 x1 x2 x3 x4 y51_1 t0_70 σ t0_89 → W p l e (rmd 4) s m args below meth c s.heap [] 0 0 (MQ below (sm_Qi g 19 ad (eM g ad) s.heap.size F) args s 0 0 (sm_AX 19 ad s.heap.size)) (F0 m 89 ls [.int t0_89]) := by
                intro t0_89 ls hl hv
                refine lv_istore (lv' := [(7, .int t0_89), (0, .ref (ad 0)), (1, .int x1), (2, .int x2), (3, .int x3), (4, .int x4), (5, .int y51_1), (6, .int t0_70)]) hx hb dX6_two_89 hl (by decide) rfl (fun ls hl => ?_)
                refine lv_iload_n hx hb dX6_two_91 rfl (lv_at hl 2 rfl) ?_
                refine lv_bipush (v := 32) hx hb dX6_two_92 (by decide) ?_
                have k_102 : ∀ (t0_102 : Int32) (ls : Array Slot), lv_has ls 14 [(0, .ref (ad 0)), (1, .int x1), (2, .int x2), (3, .int x3), (4, .int x4), (5, .int y51_1), (6, .int t0_70), (7, .int t0_89)] → F = f_X6_two_102 x1 x2 x3 x4 y51_1 t0_70 t0_89 σ t0_102 → W p l e (rmd 4) s m args below meth c s.heap [] 0 0 (MQ below (sm_Qi g 19 ad (eM g ad) s.heap.size F) args s 0 0 (sm_AX 19 ad s.heap.size)) (F0 m 102 ls [.int t0_102]) := by
                  intro t0_102 ls hl hv
                  refine lv_istore (lv' := [(8, .int t0_102), (0, .ref (ad 0)), (1, .int x1), (2, .int x2), (3, .int x3), (4, .int x4), (5, .int y51_1), (6, .int t0_70), (7, .int t0_89)]) hx hb dX6_two_102 hl (by decide) rfl (fun ls hl => ?_)
                  refine lv_iload hx hb dX6_two_104 (lv_at hl 7 rfl) ?_
                  have k_136 : ∀  (ls : Array Slot), lv_has ls 14 [(0, .ref (ad 0)), (1, .int x1), (2, .int x2), (3, .int x3), (4, .int x4), (5, .int y51_1), (7, .int t0_89), (8, .int t0_102)] → F = f_X6_two_136 x1 x2 x3 x4 y51_1 t0_89 t0_102 σ → W p l e (rmd 4) s m args below meth c s.heap [] 0 0 (MQ below (sm_Qi g 19 ad (eM g ad) s.heap.size F) args s 0 0 (sm_AX 19 ad s.heap.size)) (F0 m 136 ls []) := by
                    intro ls hl hv
                    refine lv_iload hx hb dX6_two_136 (lv_at hl 6 rfl) ?_
                    have k_147 : ∀  (ls : Array Slot), lv_has ls 14 [(0, .ref (ad 0)), (1, .int x1), (2, .int x2), (3, .int x3), (4, .int x4), (5, .int y51_1), (8, .int t0_102)] → F = f_X6_two_147 x1 x2 x3 x4 y51_1 t0_102 σ → W p l e (rmd 4) s m args below meth c s.heap [] 0 0 (MQ below (sm_Qi g 19 ad (eM g ad) s.heap.size F) args s 0 0 (sm_AX 19 ad s.heap.size)) (F0 m 147 ls []) := by
                      intro ls hl hv
                      refine lv_iload hx hb dX6_two_147 (lv_at hl 6 rfl) ?_
                      have k_159 : ∀  (ls : Array Slot), lv_has ls 14 [(0, .ref (ad 0)), (1, .int x1), (2, .int x2), (3, .int x3), (4, .int x4), (5, .int y51_1), (8, .int t0_102)] → F = f_X6_two_159 x1 x2 x3 x4 y51_1 t0_102 σ → W p l e (rmd 4) s m args below meth c s.heap [] 0 0 (MQ below (sm_Qi g 19 ad (eM g ad) s.heap.size F) args s 0 0 (sm_AX 19 ad s.heap.size)) (F0 m 159 ls []) := by
                        intro ls hl hv
                        refine lv_iload_n hx hb dX6_two_159 rfl (lv_at hl 1 rfl) ?_
                        refine lv_bipush (v := 21) hx hb dX6_two_160 (by decide) ?_
                        have k_176 : ∀ (t0_176 : Int32) (ls : Array Slot), lv_has ls 14 [(0, .ref (ad 0)), (1, .int x1), (2, .int x2), (3, .int x3), (4, .int x4), (5, .int y51_1), (8, .int t0_102)] → F = f_X6_two_176 x1 x2 x3 x4 y51_1 t0_102 σ t0_176 → W p l e (rmd 4) s m args below meth c s.heap [] 0 0 (MQ below (sm_Qi g 19 ad (eM g ad) s.heap.size F) args s 0 0 (sm_AX 19 ad s.heap.size)) (F0 m 176 ls [.int t0_176]) := by
                          intro t0_176 ls hl hv
                          refine lv_istore (lv' := [(9, .int t0_176), (0, .ref (ad 0)), (1, .int x1), (2, .int x2), (3, .int x3), (4, .int x4), (5, .int y51_1), (8, .int t0_102)]) hx hb dX6_two_176 hl (by decide) rfl (fun ls hl => ?_)
                          refine lv_iload hx hb dX6_two_178 (lv_at hl 6 rfl) ?_
                          refine lv_iconst (v := 2) hx hb dX6_two_180 (by decide) ?_
                          have k_221 : ∀  (ls : Array Slot), lv_has ls 14 [(0, .ref (ad 0)), (1, .int x1), (2, .int x2), (3, .int x3), (4, .int x4), (5, .int y51_1), (8, .int t0_102), (9, .int t0_176)] → F = f_X6_two_221 x1 x2 x3 x4 y51_1 t0_102 t0_176 σ → W p l e (rmd 4) s m args below meth c s.heap [] 0 0 (MQ below (sm_Qi g 19 ad (eM g ad) s.heap.size F) args s 0 0 (sm_AX 19 ad s.heap.size)) (F0 m 221 ls []) := by
                            intro ls hl hv
                            refine lv_iload hx hb dX6_two_221 (lv_at hl 5 rfl) ?_
                            refine lv_iconst (v := 1) hx hb dX6_two_223 (by decide) ?_
                            have k_246 : ∀  (σ : sm_S) (ls : Array Slot) (H : Heap) (locs : List Loc), lv_has ls 14 [(0, .ref (ad 0)), (1, .int x1), (2, .int x2), (3, .int x3), (4, .int x4), (5, .int y51_1), (8, .int t0_102), (9, .int t0_176)] → sm_B g 19 ad (eM g ad) s H locs σ → F = f_X6_two_246 x1 x2 x3 x4 y51_1 t0_102 t0_176 σ → W p l e (rmd 4) s m args below meth c H locs 0 0 (MQ below (sm_Qi g 19 ad (eM g ad) s.heap.size F) args s 0 0 (sm_AX 19 ad s.heap.size)) (F0 m 246 ls []) := by
                              intro σ ls H locs hl hB hv
                              refine lv_iload hx hb dX6_two_246 (lv_at hl 6 rfl) ?_
                              have k_352 : ∀ (t0_352 : Int64) (σ : sm_S) (ls : Array Slot) (H : Heap) (locs : List Loc), lv_has ls 14 [(0, .ref (ad 0)), (2, .int x2), (3, .int x3), (4, .int x4), (5, .int y51_1), (8, .int t0_102), (9, .int t0_176)] → sm_B g 19 ad (eM g ad) s H locs σ → F = f_X6_two_352 x2 x3 x4 y51_1 t0_102 t0_176 σ t0_352 → W p l e (rmd 4) s m args below meth c H locs 0 0 (MQ below (sm_Qi g 19 ad (eM g ad) s.heap.size F) args s 0 0 (sm_AX 19 ad s.heap.size)) (F0 m 352 ls [.long t0_352]) := by
                                intro t0_352 σ ls H locs hl hB hv
                                refine lv_lstore (lv' := [(10, .long t0_352), (0, .ref (ad 0)), (2, .int x2), (3, .int x3), (4, .int x4), (5, .int y51_1), (8, .int t0_102), (9, .int t0_176)]) hx hb dX6_two_352 hl (by decide) rfl (fun ls hl => ?_)
                                refine lv_aload_n hx hb dX6_two_354 rfl (lv_at hl 1 rfl) ?_
                                refine fg_RX6_20 hx hb hts hown hW hB dX6_two_355 ?_
                                refine lv_iload_n hx hb dX6_two_358 rfl (lv_at hl 3 rfl) ?_
                                refine sw_za hx hb hW hB (4) (by decide) (eM_4 g ad) (in_mono (a := 8) (out_in c29 (by decide)) (by decide)) dX6_two_359 ?_
                                have k_408 : ∀ (t0_408 : Int32) (ls : Array Slot), lv_has ls 14 [(0, .ref (ad 0)), (2, .int x2), (3, .int x3), (4, .int x4), (5, .int y51_1), (8, .int t0_102), (10, .long t0_352)] → F = f_X6_two_408 t0_352 x2 x3 x4 y51_1 t0_102 σ t0_408 → W p l e (rmd 4) s m args below meth c H locs 0 0 (MQ below (sm_Qi g 19 ad (eM g ad) s.heap.size F) args s 0 0 (sm_AX 19 ad s.heap.size)) (F0 m 408 ls [.int t0_408]) := by
                                  intro t0_408 ls hl hv
                                  refine lv_istore (lv' := [(12, .int t0_408), (0, .ref (ad 0)), (2, .int x2), (3, .int x3), (4, .int x4), (5, .int y51_1), (8, .int t0_102), (10, .long t0_352)]) hx hb dX6_two_408 hl (by decide) rfl (fun ls hl => ?_)
                                  refine lv_aload_n hx hb dX6_two_410 rfl (lv_at hl 1 rfl) ?_
                                  refine fg_RX6_13 hx hb hts hown hW hB dX6_two_411 ?_
                                  refine lv_iload_n hx hb dX6_two_414 rfl (lv_at hl 3 rfl) ?_
                                  refine sw_ia hx hb hW hB (2) (by decide) (eM_2 g ad) (in_mono (a := 8) (out_in c29 (by decide)) (by decide)) dX6_two_415 ?_
                                  refine lv_aload_n hx hb dX6_two_416 rfl (lv_at hl 1 rfl) ?_
                                  refine fg_RX6_13 hx hb hts hown hW hB dX6_two_417 ?_
                                  refine lv_iload hx hb dX6_two_420 (lv_at hl 4 rfl) ?_
                                  refine sw_ia hx hb hW hB (2) (by decide) (eM_2 g ad) (in_mono (a := 8) (out_in c40 (by decide)) (by decide)) dX6_two_422 ?_
                                  refine lv_ior hx hb dX6_two_423 ?_
                                  refine sm_nmi hv (fun y424_2 ey424_2 hv => ?_)
                                  refine lv_istore (lv' := [(13, .int y424_2), (12, .int t0_408), (0, .ref (ad 0)), (2, .int x2), (3, .int x3), (4, .int x4), (5, .int y51_1), (8, .int t0_102), (10, .long t0_352)]) hx hb dX6_two_424 hl (by decide) rfl (fun ls hl => ?_)
                                  refine lv_aload_n hx hb dX6_two_426 rfl (lv_at hl 2 rfl) ?_
                                  refine fg_RX6_7 hx hb hts hown hW hB dX6_two_427 ?_
                                  refine lv_iload_n hx hb dX6_two_430 rfl (lv_at hl 3 rfl) ?_
                                  refine lv_iload hx hb dX6_two_431 (lv_at hl 7 rfl) ?_
                                  have k_442 : ∀ (t0_442 : Int32) (ls : Array Slot), lv_has ls 14 [(0, .ref (ad 0)), (2, .int x2), (10, .long t0_352), (12, .int t0_408), (13, .int y424_2)] → F = f_X6_two_442 t0_352 t0_408 y424_2 x2 σ t0_442 → W p l e (rmd 4) s m args below meth c H locs 0 0 (MQ below (sm_Qi g 19 ad (eM g ad) s.heap.size F) args s 0 0 (sm_AX 19 ad s.heap.size)) (F0 m 442 ls [.int t0_442, .int x2, .ref (ad 1)]) := by
                                    intro t0_442 ls hl hv
                                    refine sw_is hx hb hW hB (1) (by decide) (eM_1 g ad) (out_in c19 (by decide)) dX6_two_442 (fun H locs hB => ?_)
                                    refine lv_aload_n hx hb dX6_two_443 rfl (lv_at hl 0 rfl) ?_
                                    refine lv_iload_n hx hb dX6_two_444 rfl (lv_at hl 1 rfl) ?_
                                    refine lv_lload hx hb dX6_two_445 (lv_at hl 2 rfl) ?_
                                    refine lv_iload hx hb dX6_two_447 (lv_at hl 4 rfl) ?_
                                    refine lv_iload hx hb dX6_two_449 (lv_at hl 3 rfl) ?_
                                    refine sw_cvn hv hB (sm_runV (rest := []) hC (c_X6_put l g ad hW.2.1 _ (uI σ 1 (Int32.toNatClampNeg x2) t0_442) x2 t0_352 y424_2 t0_408 (in_mono (a := 8) (out_in c19 (by decide)) (by decide))) k_X6_put w_630 (by decide) (sm_pv hW hB (by decide) (eM_0 g ad _) rfl) rfl hl.1 rfl (Nat.le_of_ble_eq_true rfl) dX6_two_451) (fun u451_3 eu451_3 hv H locs hB => ?_)
                                    refine lv_iconst (v := 0) hx hb dX6_two_454 (by decide) ?_
                                    exact sw_ri hx hb hr hlocks hB hv dX6_two_455
                                  refine lv_if_eq (tgt := 440) hx hb dX6_two_433 (by decide) (fun c433 => ?_) (fun c433 => ?_)
                                  · have hv := hv.trans (if_pos c433)
                                    refine lv_iload hx hb dX6_two_440 (lv_at hl 6 rfl) ?_
                                    exact k_442 y51_1 _ (lv_sub hl [2, 3, 8, 1, 0] rfl) hv
                                  · have hv := hv.trans (if_neg c433)
                                    refine lv_iconst (v := 0) hx hb dX6_two_436 (by decide) ?_
                                    refine lv_goto (tgt := 442) hx hb dX6_two_437 (by decide) ?_
                                    exact k_442 0 _ (lv_sub hl [2, 3, 8, 1, 0] rfl) hv
                                have k_407 : ∀  (ls : Array Slot), lv_has ls 14 [(0, .ref (ad 0)), (2, .int x2), (3, .int x3), (4, .int x4), (5, .int y51_1), (8, .int t0_102), (10, .long t0_352)] → F = f_X6_two_407 t0_352 x2 x3 x4 y51_1 t0_102 σ → W p l e (rmd 4) s m args below meth c H locs 0 0 (MQ below (sm_Qi g 19 ad (eM g ad) s.heap.size F) args s 0 0 (sm_AX 19 ad s.heap.size)) (F0 m 407 ls []) := by
                                  intro ls hl hv
                                  refine lv_iconst (v := 0) hx hb dX6_two_407 (by decide) ?_
                                  exact k_408 0 _ (lv_sub hl [0, 1, 2, 3, 4, 5, 6] rfl) hv
                                refine lv_if_eq (tgt := 407) hx hb dX6_two_360 (by decide) (fun c360 => ?_) (fun c360 => ?_)
                                · have hv := hv.trans (if_pos c360)
                                  exact k_407 _ (lv_sub hl [1, 2, 3, 4, 5, 6, 0] rfl) hv
                                · have hv := hv.trans (if_neg c360)
                                  refine lv_aload_n hx hb dX6_two_363 rfl (lv_at hl 1 rfl) ?_
                                  refine fg_RX6_20 hx hb hts hown hW hB dX6_two_364 ?_
                                  refine lv_iload hx hb dX6_two_367 (lv_at hl 4 rfl) ?_
                                  refine sw_za hx hb hW hB (4) (by decide) (eM_4 g ad) (in_mono (a := 8) (out_in c40 (by decide)) (by decide)) dX6_two_369 ?_
                                  refine lv_if_eq (tgt := 407) hx hb dX6_two_370 (by decide) (fun c370 => ?_) (fun c370 => ?_)
                                  · have hv := hv.trans (if_pos c370)
                                    exact k_407 _ (lv_sub hl [1, 2, 3, 4, 5, 6, 0] rfl) hv
                                  · have hv := hv.trans (if_neg c370)
                                    refine lv_iload hx hb dX6_two_373 (lv_at hl 5 rfl) ?_
                                    refine lv_iconst (v := 2) hx hb dX6_two_375 (by decide) ?_
                                    have k_403 : ∀  (ls : Array Slot), lv_has ls 14 [(0, .ref (ad 0)), (2, .int x2), (3, .int x3), (4, .int x4), (5, .int y51_1), (8, .int t0_102), (10, .long t0_352)] → F = f_X6_two_403 t0_352 x2 x3 x4 y51_1 t0_102 σ → W p l e (rmd 4) s m args below meth c H locs 0 0 (MQ below (sm_Qi g 19 ad (eM g ad) s.heap.size F) args s 0 0 (sm_AX 19 ad s.heap.size)) (F0 m 403 ls []) := by
                                      intro ls hl hv
                                      refine lv_iconst (v := 1) hx hb dX6_two_403 (by decide) ?_
                                      refine lv_goto (tgt := 408) hx hb dX6_two_404 (by decide) ?_
                                      exact k_408 1 _ (lv_sub hl [0, 1, 2, 3, 4, 5, 6] rfl) hv
                                    refine lv_icmp_ge (tgt := 403) hx hb dX6_two_376 (by decide) (fun c376 => ?_) (fun c376 => ?_)
                                    · have hv := hv.trans (if_pos c376)
                                      exact k_403 _ (lv_sub hl [1, 2, 3, 4, 5, 6, 0] rfl) hv
                                    · have hv := hv.trans (if_neg c376)
                                      refine lv_iload hx hb dX6_two_379 (lv_at hl 7 rfl) ?_
                                      refine lv_if_eq (tgt := 403) hx hb dX6_two_381 (by decide) (fun c381 => ?_) (fun c381 => ?_)
                                      · have hv := hv.trans (if_pos c381)
                                        exact k_403 _ (lv_sub hl [1, 2, 3, 4, 5, 6, 0] rfl) hv
                                      · have hv := hv.trans (if_neg c381)
                                        refine lv_aload_n hx hb dX6_two_384 rfl (lv_at hl 1 rfl) ?_
                                        refine fg_RX6_13 hx hb hts hown hW hB dX6_two_385 ?_
                                        refine lv_iload_n hx hb dX6_two_388 rfl (lv_at hl 3 rfl) ?_
                                        refine sw_ia hx hb hW hB (2) (by decide) (eM_2 g ad) (in_mono (a := 8) (out_in c29 (by decide)) (by decide)) dX6_two_389 ?_
                                        refine lv_if_eq (tgt := 403) hx hb dX6_two_390 (by decide) (fun c390 => ?_) (fun c390 => ?_)
                                        · have hv := hv.trans (if_pos c390)
                                          exact k_403 _ (lv_sub hl [1, 2, 3, 4, 5, 6, 0] rfl) hv
                                        · have hv := hv.trans (if_neg c390)
                                          refine lv_aload_n hx hb dX6_two_393 rfl (lv_at hl 1 rfl) ?_
                                          refine fg_RX6_13 hx hb hts hown hW hB dX6_two_394 ?_
                                          refine lv_iload hx hb dX6_two_397 (lv_at hl 4 rfl) ?_
                                          refine sw_ia hx hb hW hB (2) (by decide) (eM_2 g ad) (in_mono (a := 8) (out_in c40 (by decide)) (by decide)) dX6_two_399 ?_
                                          refine lv_if_ne (tgt := 407) hx hb dX6_two_400 (by decide) (fun c400 => ?_) (fun c400 => ?_)
                                          · have hv := hv.trans (if_neg c400)
                                            exact k_407 _ (lv_sub hl [1, 2, 3, 4, 5, 6, 0] rfl) hv
                                          · have hv := hv.trans (if_pos c400)
                                            exact k_403 _ (lv_sub hl [1, 2, 3, 4, 5, 6, 0] rfl) hv
                              refine lv_if_eq (tgt := 285) hx hb dX6_two_248 (by decide) (fun c248 => ?_) (fun c248 => ?_)
                              · have hv := hv.trans (if_pos c248)
                                refine lv_iload hx hb dX6_two_285 (lv_at hl 5 rfl) ?_
                                refine lv_iconst (v := 2) hx hb dX6_two_287 (by decide) ?_
                                refine lv_icmp_ge (tgt := 323) hx hb dX6_two_288 (by decide) (fun c288 => ?_) (fun c288 => ?_)
                                · have hv := hv.trans (if_pos c288)
                                  refine lv_aload_n hx hb dX6_two_323 rfl (lv_at hl 0 rfl) ?_
                                  refine lv_iload_n hx hb dX6_two_324 rfl (lv_at hl 1 rfl) ?_
                                  refine lv_iload hx hb dX6_two_325 (lv_at hl 5 rfl) ?_
                                  refine lv_iconst (v := 3) hx hb dX6_two_327 (by decide) ?_
                                  have k_336 : ∀ (t0_336 : Int32) (ls : Array Slot), lv_has ls 14 [(0, .ref (ad 0)), (2, .int x2), (3, .int x3), (4, .int x4), (5, .int y51_1), (8, .int t0_102), (9, .int t0_176)] → F = f_X6_two_336 x2 x3 x4 y51_1 t0_102 t0_176 x1 σ t0_336 → W p l e (rmd 4) s m args below meth c H locs 0 0 (MQ below (sm_Qi g 19 ad (eM g ad) s.heap.size F) args s 0 0 (sm_AX 19 ad s.heap.size)) (F0 m 336 ls [.int t0_336, .int x1, .ref (ad 0)]) := by
                                    intro t0_336 ls hl hv
                                    refine lv_aload_n hx hb dX6_two_336 rfl (lv_at hl 0 rfl) ?_
                                    refine fg_RX6_16 hx hb hts hown hW hB dX6_two_337 ?_
                                    refine lv_iload_n hx hb dX6_two_340 rfl (lv_at hl 2 rfl) ?_
                                    refine sw_la hx hb hW hB (3) (by decide) (eM_3 g ad) (in_mono (a := 8) (out_in c29 (by decide)) (by decide)) dX6_two_341 ?_
                                    refine lv_aload_n hx hb dX6_two_342 rfl (lv_at hl 0 rfl) ?_
                                    refine fg_RX6_16 hx hb hts hown hW hB dX6_two_343 ?_
                                    refine lv_iload hx hb dX6_two_346 (lv_at hl 3 rfl) ?_
                                    refine sw_la hx hb hW hB (3) (by decide) (eM_3 g ad) (in_mono (a := 8) (out_in c40 (by decide)) (by decide)) dX6_two_348 ?_
                                    refine sw_cln hv hB (sm_runV (rest := []) hC (c_X6_pointed l g ad hW.2.1 _ σ x1 t0_336 (σ.2.1 3 (Int32.toNatClampNeg x3)) (σ.2.1 3 (Int32.toNatClampNeg x4))) k_X6_pointed w_714 (by decide) (sm_pv hW hB (by decide) (eM_0 g ad _) rfl) rfl hl.1 rfl (Nat.le_of_ble_eq_true rfl) dX6_two_349) (fun u349_4 eu349_4 hv H locs hB => ?_)
                                    exact k_352 u349_4.1 u349_4.2 _ _ _ (lv_sub hl [0, 1, 2, 3, 4, 5, 6] rfl) hB hv
                                  refine lv_icmp_ne (tgt := 335) hx hb dX6_two_328 (by decide) (fun c328 => ?_) (fun c328 => ?_)
                                  · have hv := hv.trans (if_neg c328)
                                    refine lv_iconst (v := 0) hx hb dX6_two_335 (by decide) ?_
                                    exact k_336 0 _ (lv_sub hl [0, 2, 3, 4, 5, 6, 7] rfl) hv
                                  · have hv := hv.trans (if_pos c328)
                                    refine lv_iconst (v := 1) hx hb dX6_two_331 (by decide) ?_
                                    refine lv_goto (tgt := 336) hx hb dX6_two_332 (by decide) ?_
                                    exact k_336 1 _ (lv_sub hl [0, 2, 3, 4, 5, 6, 7] rfl) hv
                                · have hv := hv.trans (if_neg c288)
                                  refine lv_aload_n hx hb dX6_two_291 rfl (lv_at hl 0 rfl) ?_
                                  refine lv_iload_n hx hb dX6_two_292 rfl (lv_at hl 1 rfl) ?_
                                  refine lv_iload hx hb dX6_two_293 (lv_at hl 5 rfl) ?_
                                  refine lv_iconst (v := 1) hx hb dX6_two_295 (by decide) ?_
                                  have k_304 : ∀ (t0_304 : Int32) (ls : Array Slot), lv_has ls 14 [(0, .ref (ad 0)), (2, .int x2), (3, .int x3), (4, .int x4), (5, .int y51_1), (8, .int t0_102), (9, .int t0_176)] → F = f_X6_two_304 x2 x3 x4 y51_1 t0_102 t0_176 x1 σ t0_304 → W p l e (rmd 4) s m args below meth c H locs 0 0 (MQ below (sm_Qi g 19 ad (eM g ad) s.heap.size F) args s 0 0 (sm_AX 19 ad s.heap.size)) (F0 m 304 ls [.int t0_304, .int x1, .ref (ad 0)]) := by
                                    intro t0_304 ls hl hv
                                    refine lv_aload_n hx hb dX6_two_304 rfl (lv_at hl 0 rfl) ?_
                                    refine fg_RX6_16 hx hb hts hown hW hB dX6_two_305 ?_
                                    refine lv_iload_n hx hb dX6_two_308 rfl (lv_at hl 2 rfl) ?_
                                    refine sw_la hx hb hW hB (3) (by decide) (eM_3 g ad) (in_mono (a := 8) (out_in c29 (by decide)) (by decide)) dX6_two_309 ?_
                                    refine lv_aload_n hx hb dX6_two_310 rfl (lv_at hl 0 rfl) ?_
                                    refine fg_RX6_16 hx hb hts hown hW hB dX6_two_311 ?_
                                    refine lv_iload hx hb dX6_two_314 (lv_at hl 3 rfl) ?_
                                    refine sw_la hx hb hW hB (3) (by decide) (eM_3 g ad) (in_mono (a := 8) (out_in c40 (by decide)) (by decide)) dX6_two_316 ?_
                                    refine sm_cl (sm_runV (rest := []) hC (c_X6_whole l g ad hW.2.1 _ x1 t0_304 (σ.2.1 3 (Int32.toNatClampNeg x3)) (σ.2.1 3 (Int32.toNatClampNeg x4)) σ) k_X6_whole w_709 (by decide) (sm_pv hW hB (by decide) (eM_0 g ad _) rfl) rfl hl.1 rfl (Nat.le_of_ble_eq_true rfl) dX6_two_317) ?_
                                    refine lv_goto (tgt := 352) hx hb dX6_two_320 (by decide) ?_
                                    exact k_352 (f_X6_whole x1 t0_304 (σ.2.1 3 (Int32.toNatClampNeg x3)) (σ.2.1 3 (Int32.toNatClampNeg x4))) σ _ _ _ (lv_sub hl [0, 1, 2, 3, 4, 5, 6] rfl) hB hv
                                  refine lv_icmp_ne (tgt := 303) hx hb dX6_two_296 (by decide) (fun c296 => ?_) (fun c296 => ?_)
                                  · have hv := hv.trans (if_neg c296)
                                    refine lv_iconst (v := 0) hx hb dX6_two_303 (by decide) ?_
                                    exact k_304 0 _ (lv_sub hl [0, 2, 3, 4, 5, 6, 7] rfl) hv
                                  · have hv := hv.trans (if_pos c296)
                                    refine lv_iconst (v := 1) hx hb dX6_two_299 (by decide) ?_
                                    refine lv_goto (tgt := 304) hx hb dX6_two_300 (by decide) ?_
                                    exact k_304 1 _ (lv_sub hl [0, 2, 3, 4, 5, 6, 7] rfl) hv
                              · have hv := hv.trans (if_neg c248)
                                refine lv_aload_n hx hb dX6_two_251 rfl (lv_at hl 0 rfl) ?_
                                refine lv_iload hx hb dX6_two_252 (lv_at hl 5 rfl) ?_
                                refine lv_aload_n hx hb dX6_two_254 rfl (lv_at hl 0 rfl) ?_
                                refine fg_RX6_16 hx hb hts hown hW hB dX6_two_255 ?_
                                refine lv_iload_n hx hb dX6_two_258 rfl (lv_at hl 3 rfl) ?_
                                refine sw_la hx hb hW hB (3) (by decide) (eM_3 g ad) (in_mono (a := 8) (out_in c29 (by decide)) (by decide)) dX6_two_259 ?_
                                refine lv_aload_n hx hb dX6_two_260 rfl (lv_at hl 0 rfl) ?_
                                refine fg_RX6_16 hx hb hts hown hW hB dX6_two_261 ?_
                                refine lv_iload hx hb dX6_two_264 (lv_at hl 4 rfl) ?_
                                refine sw_la hx hb hW hB (3) (by decide) (eM_3 g ad) (in_mono (a := 8) (out_in c40 (by decide)) (by decide)) dX6_two_266 ?_
                                refine lv_iload_n hx hb dX6_two_267 rfl (lv_at hl 1 rfl) ?_
                                refine lv_bipush (v := 33) hx hb dX6_two_268 (by decide) ?_
                                have k_278 : ∀ (t0_278 : Int32) (t1_278 : Int64) (t2_278 : Int64) (ls : Array Slot), lv_has ls 14 [(0, .ref (ad 0)), (2, .int x2), (3, .int x3), (4, .int x4), (5, .int y51_1), (8, .int t0_102), (9, .int t0_176)] → F = f_X6_two_278 x2 x3 x4 y51_1 t0_102 t0_176 σ t0_278 t1_278 t2_278 → W p l e (rmd 4) s m args below meth c H locs 0 0 (MQ below (sm_Qi g 19 ad (eM g ad) s.heap.size F) args s 0 0 (sm_AX 19 ad s.heap.size)) (F0 m 278 ls [.int t0_278, .long t1_278, .long t2_278, .int y51_1, .ref (ad 0)]) := by
                                  intro t0_278 t1_278 t2_278 ls hl hv
                                  refine sw_cin hv hB (sm_runV (rest := []) hC (c_X6_compared l g ad hW.2.1 _ σ y51_1 t2_278 t1_278 t0_278) k_X6_compared w_700 (by decide) (sm_pv hW hB (by decide) (eM_0 g ad _) rfl) rfl hl.1 rfl (Nat.le_of_ble_eq_true rfl) dX6_two_278) (fun u278_5 eu278_5 hv H locs hB => ?_)
                                  refine lv_i2l hx hb dX6_two_281 rfl ?_
                                  refine lv_goto (tgt := 352) hx hb dX6_two_282 (by decide) ?_
                                  exact k_352 (Int32.toInt64 u278_5.1) u278_5.2 _ _ _ (lv_sub hl [0, 1, 2, 3, 4, 5, 6] rfl) hB hv
                                refine lv_icmp_ne (tgt := 277) hx hb dX6_two_270 (by decide) (fun c270 => ?_) (fun c270 => ?_)
                                · have hv := hv.trans (if_neg c270)
                                  refine lv_iconst (v := 1) hx hb dX6_two_277 (by decide) ?_
                                  exact k_278 1 (σ.2.1 3 (Int32.toNatClampNeg x4)) (σ.2.1 3 (Int32.toNatClampNeg x3)) _ (lv_sub hl [0, 2, 3, 4, 5, 6, 7] rfl) hv
                                · have hv := hv.trans (if_pos c270)
                                  refine lv_iconst (v := -1) hx hb dX6_two_273 (by decide) ?_
                                  refine lv_goto (tgt := 278) hx hb dX6_two_274 (by decide) ?_
                                  exact k_278 ((-1)) (σ.2.1 3 (Int32.toNatClampNeg x4)) (σ.2.1 3 (Int32.toNatClampNeg x3)) _ (lv_sub hl [0, 2, 3, 4, 5, 6, 7] rfl) hv
                            refine lv_icmp_le (tgt := 246) hx hb dX6_two_224 (by decide) (fun c224 => ?_) (fun c224 => ?_)
                            · have hv := hv.trans (if_pos c224)
                              exact k_246 σ _ _ _ (lv_sub hl [0, 1, 2, 3, 4, 5, 6, 7] rfl) hB hv
                            · have hv := hv.trans (if_neg c224)
                              refine lv_iload_n hx hb dX6_two_227 rfl (lv_at hl 1 rfl) ?_
                              refine lv_bipush (v := 25) hx hb dX6_two_228 (by decide) ?_
                              refine lv_icmp_ge (tgt := 246) hx hb dX6_two_230 (by decide) (fun c230 => ?_) (fun c230 => ?_)
                              · have hv := hv.trans (if_pos c230)
                                exact k_246 σ _ _ _ (lv_sub hl [0, 1, 2, 3, 4, 5, 6, 7] rfl) hB hv
                              · have hv := hv.trans (if_neg c230)
                                refine lv_aload_n hx hb dX6_two_233 rfl (lv_at hl 0 rfl) ?_
                                refine lv_iload_n hx hb dX6_two_234 rfl (lv_at hl 3 rfl) ?_
                                refine lv_iload_n hx hb dX6_two_235 rfl (lv_at hl 1 rfl) ?_
                                refine sw_cvn hv hB (sm_runV (rest := []) hC (c_X6_fix l g ad hW.2.1 _ σ x3 x1 (in_mono (a := 8) (out_in c29 (by decide)) (by decide))) k_X6_fix w_696 (by decide) (sm_pv hW hB (by decide) (eM_0 g ad _) rfl) rfl hl.1 rfl (Nat.le_of_ble_eq_true rfl) dX6_two_236) (fun u236_6 eu236_6 hv H locs hB => ?_)
                                refine lv_aload_n hx hb dX6_two_239 rfl (lv_at hl 0 rfl) ?_
                                refine lv_iload hx hb dX6_two_240 (lv_at hl 4 rfl) ?_
                                refine lv_iload_n hx hb dX6_two_242 rfl (lv_at hl 1 rfl) ?_
                                refine sw_cvn hv hB (sm_runV (rest := []) hC (c_X6_fix l g ad hW.2.1 _ u236_6 x4 x1 (in_mono (a := 8) (out_in c40 (by decide)) (by decide))) k_X6_fix w_696 (by decide) (sm_pv hW hB (by decide) (eM_0 g ad _) rfl) rfl hl.1 rfl (Nat.le_of_ble_eq_true rfl) dX6_two_243) (fun u243_7 eu243_7 hv H locs hB => ?_)
                                exact k_246 u243_7 _ _ _ (lv_sub hl [0, 1, 2, 3, 4, 5, 6, 7] rfl) hB hv
                          refine lv_icmp_ge (tgt := 221) hx hb dX6_two_181 (by decide) (fun c181 => ?_) (fun c181 => ?_)
                          · have hv := hv.trans (if_pos c181)
                            exact k_221 _ (lv_sub hl [1, 2, 3, 4, 5, 6, 7, 0] rfl) hv
                          · have hv := hv.trans (if_neg c181)
                            refine lv_iload_n hx hb dX6_two_184 rfl (lv_at hl 2 rfl) ?_
                            refine lv_bipush (v := 23) hx hb dX6_two_185 (by decide) ?_
                            have k_196 : ∀  (ls : Array Slot), lv_has ls 14 [(0, .ref (ad 0)), (1, .int x1), (2, .int x2), (3, .int x3), (4, .int x4), (5, .int y51_1), (8, .int t0_102), (9, .int t0_176)] → F = f_X6_two_196 x1 x2 x3 x4 y51_1 t0_102 t0_176 σ → W p l e (rmd 4) s m args below meth c s.heap [] 0 0 (MQ below (sm_Qi g 19 ad (eM g ad) s.heap.size F) args s 0 0 (sm_AX 19 ad s.heap.size)) (F0 m 196 ls []) := by
                              intro ls hl hv
                              refine lv_aload_n hx hb dX6_two_196 rfl (lv_at hl 0 rfl) ?_
                              refine fg_RX6_16 hx hb hts hown hW hB dX6_two_197 ?_
                              refine lv_iload hx hb dX6_two_200 (lv_at hl 4 rfl) ?_
                              refine sw_la hx hb hW hB (3) (by decide) (eM_3 g ad) (in_mono (a := 8) (out_in c40 (by decide)) (by decide)) dX6_two_202 ?_
                              refine lv_lconst (v := 0) hx hb dX6_two_203 (by decide) ?_
                              refine lc_ne (tgt := 221) hx hb dX6_two_204 dX6_two_205 (by decide) (fun c204 => ?_) (fun c204 => ?_)
                              · have hv := hv.trans (if_neg c204)
                                exact k_221 _ (lv_sub hl [0, 1, 2, 3, 4, 5, 6, 7] rfl) hv
                              · have hv := hv.trans (if_pos c204)
                                refine lv_aload_n hx hb dX6_two_208 rfl (lv_at hl 0 rfl) ?_
                                refine lv_dup hx hb dX6_two_209 rfl ?_
                                refine fg_RX6_55 hx hb hts hown hW hB dX6_two_210 ?_
                                refine lv_iconst (v := 1) hx hb dX6_two_213 (by decide) ?_
                                refine lv_iadd hx hb dX6_two_214 ?_
                                refine fp_RX6_55 hx hb hts hown hW hB dX6_two_215 (fun H locs hB => ?_)
                                refine lv_bipush (v := -2) hx hb dX6_two_218 (by decide) ?_
                                exact sw_ri hx hb hr hlocks hB hv dX6_two_220
                            refine lv_icmp_eq (tgt := 196) hx hb dX6_two_187 (by decide) (fun c187 => ?_) (fun c187 => ?_)
                            · have hv := hv.trans (if_pos c187)
                              exact k_196 _ (lv_sub hl [1, 2, 3, 4, 5, 6, 7, 0] rfl) hv
                            · have hv := hv.trans (if_neg c187)
                              refine lv_iload_n hx hb dX6_two_190 rfl (lv_at hl 2 rfl) ?_
                              refine lv_bipush (v := 24) hx hb dX6_two_191 (by decide) ?_
                              refine lv_icmp_ne (tgt := 221) hx hb dX6_two_193 (by decide) (fun c193 => ?_) (fun c193 => ?_)
                              · have hv := hv.trans (if_neg c193)
                                exact k_221 _ (lv_sub hl [1, 2, 3, 4, 5, 6, 7, 0] rfl) hv
                              · have hv := hv.trans (if_pos c193)
                                exact k_196 _ (lv_sub hl [1, 2, 3, 4, 5, 6, 7, 0] rfl) hv
                        have k_175 : ∀  (ls : Array Slot), lv_has ls 14 [(0, .ref (ad 0)), (1, .int x1), (2, .int x2), (3, .int x3), (4, .int x4), (5, .int y51_1), (8, .int t0_102)] → F = f_X6_two_175 x1 x2 x3 x4 y51_1 t0_102 σ → W p l e (rmd 4) s m args below meth c s.heap [] 0 0 (MQ below (sm_Qi g 19 ad (eM g ad) s.heap.size F) args s 0 0 (sm_AX 19 ad s.heap.size)) (F0 m 175 ls []) := by
                          intro ls hl hv
                          refine lv_iconst (v := 0) hx hb dX6_two_175 (by decide) ?_
                          exact k_176 0 _ (lv_sub hl [0, 1, 2, 3, 4, 5, 6] rfl) hv
                        refine lv_icmp_le (tgt := 175) hx hb dX6_two_162 (by decide) (fun c162 => ?_) (fun c162 => ?_)
                        · have hv := hv.trans (if_pos c162)
                          exact k_175 _ (lv_sub hl [0, 1, 2, 3, 4, 5, 6] rfl) hv
                        · have hv := hv.trans (if_neg c162)
                          refine lv_iload_n hx hb dX6_two_165 rfl (lv_at hl 1 rfl) ?_
                          refine lv_bipush (v := 25) hx hb dX6_two_166 (by decide) ?_
                          refine lv_icmp_ge (tgt := 175) hx hb dX6_two_168 (by decide) (fun c168 => ?_) (fun c168 => ?_)
                          · have hv := hv.trans (if_pos c168)
                            exact k_175 _ (lv_sub hl [0, 1, 2, 3, 4, 5, 6] rfl) hv
                          · have hv := hv.trans (if_neg c168)
                            refine lv_iconst (v := 1) hx hb dX6_two_171 (by decide) ?_
                            refine lv_goto (tgt := 176) hx hb dX6_two_172 (by decide) ?_
                            exact k_176 1 _ (lv_sub hl [0, 1, 2, 3, 4, 5, 6] rfl) hv
                      refine lv_if_eq (tgt := 159) hx hb dX6_two_149 (by decide) (fun c149 => ?_) (fun c149 => ?_)
                      · have hv := hv.trans (if_pos c149)
                        exact k_159 _ (lv_sub hl [0, 1, 2, 3, 4, 5, 6] rfl) hv
                      · have hv := hv.trans (if_neg c149)
                        refine lv_iload hx hb dX6_two_152 (lv_at hl 5 rfl) ?_
                        refine lv_if_ne (tgt := 159) hx hb dX6_two_154 (by decide) (fun c154 => ?_) (fun c154 => ?_)
                        · have hv := hv.trans (if_neg c154)
                          exact k_159 _ (lv_sub hl [0, 1, 2, 3, 4, 5, 6] rfl) hv
                        · have hv := hv.trans (if_pos c154)
                          refine lv_iconst (v := -1) hx hb dX6_two_157 (by decide) ?_
                          exact sw_ri hx hb hr hlocks hB hv dX6_two_158
                    refine lv_if_eq (tgt := 147) hx hb dX6_two_138 (by decide) (fun c138 => ?_) (fun c138 => ?_)
                    · have hv := hv.trans (if_pos c138)
                      exact k_147 _ (lv_sub hl [0, 1, 2, 3, 4, 5, 7] rfl) hv
                    · have hv := hv.trans (if_neg c138)
                      refine lv_iload hx hb dX6_two_141 (lv_at hl 5 rfl) ?_
                      refine lv_iconst (v := 1) hx hb dX6_two_143 (by decide) ?_
                      refine lv_icmp_gt (tgt := 157) hx hb dX6_two_144 (by decide) (fun c144 => ?_) (fun c144 => ?_)
                      · have hv := hv.trans (if_pos c144)
                        refine lv_iconst (v := -1) hx hb dX6_two_157 (by decide) ?_
                        exact sw_ri hx hb hr hlocks hB hv dX6_two_158
                      · have hv := hv.trans (if_neg c144)
                        exact k_147 _ (lv_sub hl [0, 1, 2, 3, 4, 5, 7] rfl) hv
                  refine lv_if_eq (tgt := 122) hx hb dX6_two_106 (by decide) (fun c106 => ?_) (fun c106 => ?_)
                  · have hv := hv.trans (if_pos c106)
                    refine lv_aload_n hx hb dX6_two_122 rfl (lv_at hl 1 rfl) ?_
                    refine fg_RX6_7 hx hb hts hown hW hB dX6_two_123 ?_
                    refine lv_iload hx hb dX6_two_126 (lv_at hl 5 rfl) ?_
                    refine sw_ia hx hb hW hB (1) (by decide) (eM_1 g ad) (out_in c40 (by decide)) dX6_two_128 ?_
                    refine lv_iload hx hb dX6_two_129 (lv_at hl 6 rfl) ?_
                    refine lv_icmp_eq (tgt := 136) hx hb dX6_two_131 (by decide) (fun c131 => ?_) (fun c131 => ?_)
                    · have hv := hv.trans (if_pos c131)
                      exact k_136 _ (lv_sub hl [1, 2, 3, 4, 5, 6, 8, 0] rfl) hv
                    · have hv := hv.trans (if_neg c131)
                      refine lv_iconst (v := -1) hx hb dX6_two_134 (by decide) ?_
                      exact sw_ri hx hb hr hlocks hB hv dX6_two_135
                  · have hv := hv.trans (if_neg c106)
                    refine lv_aload_n hx hb dX6_two_109 rfl (lv_at hl 1 rfl) ?_
                    refine fg_RX6_7 hx hb hts hown hW hB dX6_two_110 ?_
                    refine lv_iload hx hb dX6_two_113 (lv_at hl 5 rfl) ?_
                    refine sw_ia hx hb hW hB (1) (by decide) (eM_1 g ad) (out_in c40 (by decide)) dX6_two_115 ?_
                    refine lv_if_eq (tgt := 136) hx hb dX6_two_116 (by decide) (fun c116 => ?_) (fun c116 => ?_)
                    · have hv := hv.trans (if_pos c116)
                      exact k_136 _ (lv_sub hl [1, 2, 3, 4, 5, 6, 8, 0] rfl) hv
                    · have hv := hv.trans (if_neg c116)
                      refine lv_goto (tgt := 134) hx hb dX6_two_119 (by decide) ?_
                      refine lv_iconst (v := -1) hx hb dX6_two_134 (by decide) ?_
                      exact sw_ri hx hb hr hlocks hB hv dX6_two_135
                refine lv_icmp_le (tgt := 101) hx hb dX6_two_94 (by decide) (fun c94 => ?_) (fun c94 => ?_)
                · have hv := hv.trans (if_pos c94)
                  refine lv_iconst (v := 0) hx hb dX6_two_101 (by decide) ?_
                  exact k_102 0 _ (lv_sub hl [1, 2, 3, 4, 5, 6, 7, 0] rfl) hv
                · have hv := hv.trans (if_neg c94)
                  refine lv_iconst (v := 1) hx hb dX6_two_97 (by decide) ?_
                  refine lv_goto (tgt := 102) hx hb dX6_two_98 (by decide) ?_
                  exact k_102 1 _ (lv_sub hl [1, 2, 3, 4, 5, 6, 7, 0] rfl) hv
              have k_88 : ∀  (ls : Array Slot), lv_has ls 14 [(0, .ref (ad 0)), (1, .int x1), (2, .int x2), (3, .int x3), (4, .int x4), (5, .int y51_1), (6, .int t0_70)] → F = f_X6_two_88 x1 x2 x3 x4 y51_1 t0_70 σ → W p l e (rmd 4) s m args below meth c s.heap [] 0 0 (MQ below (sm_Qi g 19 ad (eM g ad) s.heap.size F) args s 0 0 (sm_AX 19 ad s.heap.size)) (F0 m 88 ls []) := by
                intro ls hl hv
                refine lv_iconst (v := 0) hx hb dX6_two_88 (by decide) ?_
                exact k_89 0 _ (lv_sub hl [0, 1, 2, 3, 4, 5, 6] rfl) hv
              refine lv_icmp_le (tgt := 88) hx hb dX6_two_75 (by decide) (fun c75 => ?_) (fun c75 => ?_)
              · have hv := hv.trans (if_pos c75)
                exact k_88 _ (lv_sub hl [1, 2, 3, 4, 5, 6, 0] rfl) hv
              · have hv := hv.trans (if_neg c75)
                refine lv_iload_n hx hb dX6_two_78 rfl (lv_at hl 2 rfl) ?_
                refine lv_bipush (v := 33) hx hb dX6_two_79 (by decide) ?_
                refine lv_icmp_ge (tgt := 88) hx hb dX6_two_81 (by decide) (fun c81 => ?_) (fun c81 => ?_)
                · have hv := hv.trans (if_pos c81)
                  exact k_88 _ (lv_sub hl [1, 2, 3, 4, 5, 6, 0] rfl) hv
                · have hv := hv.trans (if_neg c81)
                  refine lv_iconst (v := 1) hx hb dX6_two_84 (by decide) ?_
                  refine lv_goto (tgt := 89) hx hb dX6_two_85 (by decide) ?_
                  exact k_89 1 _ (lv_sub hl [1, 2, 3, 4, 5, 6, 0] rfl) hv
            have k_69 : ∀  (ls : Array Slot), lv_has ls 14 [(0, .ref (ad 0)), (1, .int x1), (2, .int x2), (3, .int x3), (4, .int x4), (5, .int y51_1)] → F = f_X6_two_69 x1 x2 x3 x4 y51_1 σ → W p l e (rmd 4) s m args below meth c s.heap [] 0 0 (MQ below (sm_Qi g 19 ad (eM g ad) s.heap.size F) args s 0 0 (sm_AX 19 ad s.heap.size)) (F0 m 69 ls []) := by
              intro ls hl hv
              refine lv_iconst (v := 0) hx hb dX6_two_69 (by decide) ?_
              exact k_70 0 _ (lv_sub hl [0, 1, 2, 3, 4, 5] rfl) hv
            refine lv_icmp_le (tgt := 69) hx hb dX6_two_56 (by decide) (fun c56 => ?_) (fun c56 => ?_)
            · have hv := hv.trans (if_pos c56)
              exact k_69 _ (lv_sub hl [1, 2, 3, 4, 5, 0] rfl) hv
            · have hv := hv.trans (if_neg c56)
              refine lv_iload_n hx hb dX6_two_59 rfl (lv_at hl 2 rfl) ?_
              refine lv_bipush (v := 30) hx hb dX6_two_60 (by decide) ?_
              refine lv_icmp_ge (tgt := 69) hx hb dX6_two_62 (by decide) (fun c62 => ?_) (fun c62 => ?_)
              · have hv := hv.trans (if_pos c62)
                exact k_69 _ (lv_sub hl [1, 2, 3, 4, 5, 0] rfl) hv
              · have hv := hv.trans (if_neg c62)
                refine lv_iconst (v := 1) hx hb dX6_two_65 (by decide) ?_
                refine lv_goto (tgt := 70) hx hb dX6_two_66 (by decide) ?_
                exact k_70 1 _ (lv_sub hl [1, 2, 3, 4, 5, 0] rfl) hv
          · have hv := hv.trans (if_neg c40)
            refine lv_iconst (v := -1) hx hb dX6_two_43 (by decide) ?_
            exact sw_ri hx hb hr hlocks hB hv dX6_two_44
def f_X6_move (σ : sm_S) (x1 : Int32) (x2 : Int32) : Int32 × sm_S := if (f_X6_out x1 8) = 0 then (if (f_X6_out x2 8) = 0 then (sm_let (f_X6_put (uI σ 1 (Int32.toNatClampNeg x1) (σ.1 1 (Int32.toNatClampNeg x2))) x1 ((uI σ 1 (Int32.toNatClampNeg x1) (σ.1 1 (Int32.toNatClampNeg x2))).2.1 3 (Int32.toNatClampNeg x2)) ((uI σ 1 (Int32.toNatClampNeg x1) (σ.1 1 (Int32.toNatClampNeg x2))).1 2 (Int32.toNatClampNeg x2)) ((uI σ 1 (Int32.toNatClampNeg x1) (σ.1 1 (Int32.toNatClampNeg x2))).1 4 (Int32.toNatClampNeg x2))) (fun u54_1 => (0, u54_1))) else (((-1), σ))) else (((-1), σ))
set_option maxRecDepth 100000 in
set_option maxHeartbeats 4000000 in
theorem c_X6_move (l : Launch) (g : sm_G) (ad : Nat → Nat) (hj : sm_inj 19 ad) (sz : Nat) (σ : sm_S) (x1 : Int32) (x2 : Int32)   : Met l yX6_move (sm_ws yX6_move cX6_move 3 (some .int)) (rmd 1) (va_Pc [.ref (ad 0), .int x1, .int x2] (sm_Pre g 19 ad (eM g ad) σ sz)) (sm_Qi g 19 ad (eM g ad) sz (f_X6_move σ x1 x2)) 0 0 (sm_AX 19 ad sz) := by
  generalize hv : f_X6_move σ x1 x2 = F
  replace hv := hv.symm
  refine sm_mWi (by decide) (Nat.le_of_ble_eq_true rfl) hj (eM_lay g ad) (fun p e s m args below meth c C hW hB ls hl => ?_)
  obtain ⟨hC, hr, hlocks⟩ := C
  have hx := hC.1
  have hb := hC.2.1
  have hts := hC.2.2.2.2
  have hown : s.vm.findClass RX6 = some m.cls := hC.2.2.2.1
  have hl : lv_has ls 3 [(0, .ref (ad 0)), (1, .int x1), (2, .int x2)] := hl
  refine lv_aload_n hx hb dX6_move_0 rfl (lv_at hl 0 rfl) ?_
  refine lv_iload_n hx hb dX6_move_1 rfl (lv_at hl 1 rfl) ?_
  refine lv_bipush (v := 8) hx hb dX6_move_2 (by decide) ?_
  refine sm_ci (sm_runV (rest := []) hC (c_X6_out l g ad hW.2.1 _ x1 8 σ) k_X6_out w_598 (by decide) (sm_pv hW hB (by decide) (eM_0 g ad _) rfl) rfl hl.1 rfl (Nat.le_of_ble_eq_true rfl) dX6_move_4) ?_
  refine lv_if_ne (tgt := 20) hx hb dX6_move_7 (by decide) (fun c7 => ?_) (fun c7 => ?_)
  · have hv := hv.trans (if_neg c7)
    refine lv_iconst (v := -1) hx hb dX6_move_20 (by decide) ?_
    exact sw_ri hx hb hr hlocks hB hv dX6_move_21
  · have hv := hv.trans (if_pos c7)
    refine lv_aload_n hx hb dX6_move_10 rfl (lv_at hl 0 rfl) ?_
    refine lv_iload_n hx hb dX6_move_11 rfl (lv_at hl 2 rfl) ?_
    refine lv_bipush (v := 8) hx hb dX6_move_12 (by decide) ?_
    refine sm_ci (sm_runV (rest := []) hC (c_X6_out l g ad hW.2.1 _ x2 8 σ) k_X6_out w_598 (by decide) (sm_pv hW hB (by decide) (eM_0 g ad _) rfl) rfl hl.1 rfl (Nat.le_of_ble_eq_true rfl) dX6_move_14) ?_
    refine lv_if_eq (tgt := 22) hx hb dX6_move_17 (by decide) (fun c17 => ?_) (fun c17 => ?_)
    · have hv := hv.trans (if_pos c17)
      refine lv_aload_n hx hb dX6_move_22 rfl (lv_at hl 0 rfl) ?_
      refine fg_RX6_7 hx hb hts hown hW hB dX6_move_23 ?_
      refine lv_iload_n hx hb dX6_move_26 rfl (lv_at hl 1 rfl) ?_
      refine lv_aload_n hx hb dX6_move_27 rfl (lv_at hl 0 rfl) ?_
      refine fg_RX6_7 hx hb hts hown hW hB dX6_move_28 ?_
      refine lv_iload_n hx hb dX6_move_31 rfl (lv_at hl 2 rfl) ?_
      refine sw_ia hx hb hW hB (1) (by decide) (eM_1 g ad) (out_in c17 (by decide)) dX6_move_32 ?_
      refine sw_is hx hb hW hB (1) (by decide) (eM_1 g ad) (out_in c7 (by decide)) dX6_move_33 (fun H locs hB => ?_)
      refine lv_aload_n hx hb dX6_move_34 rfl (lv_at hl 0 rfl) ?_
      refine lv_iload_n hx hb dX6_move_35 rfl (lv_at hl 1 rfl) ?_
      refine lv_aload_n hx hb dX6_move_36 rfl (lv_at hl 0 rfl) ?_
      refine fg_RX6_16 hx hb hts hown hW hB dX6_move_37 ?_
      refine lv_iload_n hx hb dX6_move_40 rfl (lv_at hl 2 rfl) ?_
      refine sw_la hx hb hW hB (3) (by decide) (eM_3 g ad) (in_mono (a := 8) (out_in c17 (by decide)) (by decide)) dX6_move_41 ?_
      refine lv_aload_n hx hb dX6_move_42 rfl (lv_at hl 0 rfl) ?_
      refine fg_RX6_13 hx hb hts hown hW hB dX6_move_43 ?_
      refine lv_iload_n hx hb dX6_move_46 rfl (lv_at hl 2 rfl) ?_
      refine sw_ia hx hb hW hB (2) (by decide) (eM_2 g ad) (in_mono (a := 8) (out_in c17 (by decide)) (by decide)) dX6_move_47 ?_
      refine lv_aload_n hx hb dX6_move_48 rfl (lv_at hl 0 rfl) ?_
      refine fg_RX6_20 hx hb hts hown hW hB dX6_move_49 ?_
      refine lv_iload_n hx hb dX6_move_52 rfl (lv_at hl 2 rfl) ?_
      refine sw_za hx hb hW hB (4) (by decide) (eM_4 g ad) (in_mono (a := 8) (out_in c17 (by decide)) (by decide)) dX6_move_53 ?_
      refine sw_cvn hv hB (sm_runV (rest := []) hC (c_X6_put l g ad hW.2.1 _ (uI σ 1 (Int32.toNatClampNeg x1) (σ.1 1 (Int32.toNatClampNeg x2))) x1 ((uI σ 1 (Int32.toNatClampNeg x1) (σ.1 1 (Int32.toNatClampNeg x2))).2.1 3 (Int32.toNatClampNeg x2)) ((uI σ 1 (Int32.toNatClampNeg x1) (σ.1 1 (Int32.toNatClampNeg x2))).1 2 (Int32.toNatClampNeg x2)) ((uI σ 1 (Int32.toNatClampNeg x1) (σ.1 1 (Int32.toNatClampNeg x2))).1 4 (Int32.toNatClampNeg x2)) (in_mono (a := 8) (out_in c7 (by decide)) (by decide))) k_X6_put w_630 (by decide) (sm_pv hW hB (by decide) (eM_0 g ad _) rfl) rfl hl.1 rfl (Nat.le_of_ble_eq_true rfl) dX6_move_54) (fun u54_1 eu54_1 hv H locs hB => ?_)
      refine lv_iconst (v := 0) hx hb dX6_move_57 (by decide) ?_
      exact sw_ri hx hb hr hlocks hB hv dX6_move_58
    · have hv := hv.trans (if_neg c17)
      refine lv_iconst (v := -1) hx hb dX6_move_20 (by decide) ?_
      exact sw_ri hx hb hr hlocks hB hv dX6_move_21
def f_X6_exception (σ : sm_S) (x1 : Int32) : Int32 × sm_S := (x1, uI σ 0 2 ((σ.1 0 2) + 1))
set_option maxRecDepth 100000 in
set_option maxHeartbeats 4000000 in
theorem c_X6_exception (l : Launch) (g : sm_G) (ad : Nat → Nat) (hj : sm_inj 19 ad) (sz : Nat) (σ : sm_S) (x1 : Int32)   : Met l yX6_exception (sm_ws yX6_exception cX6_exception 2 (some .int)) (rmd 0) (va_Pc [.ref (ad 0), .int x1] (sm_Pre g 19 ad (eM g ad) σ sz)) (sm_Qi g 19 ad (eM g ad) sz (f_X6_exception σ x1)) 0 0 (sm_AX 19 ad sz) := by
  generalize hv : f_X6_exception σ x1 = F
  replace hv := hv.symm
  refine sm_mWi (by decide) (Nat.le_of_ble_eq_true rfl) hj (eM_lay g ad) (fun p e s m args below meth c C hW hB ls hl => ?_)
  obtain ⟨hC, hr, hlocks⟩ := C
  have hx := hC.1
  have hb := hC.2.1
  have hts := hC.2.2.2.2
  have hown : s.vm.findClass RX6 = some m.cls := hC.2.2.2.1
  have hl : lv_has ls 2 [(0, .ref (ad 0)), (1, .int x1)] := hl
  refine lv_aload_n hx hb dX6_exception_0 rfl (lv_at hl 0 rfl) ?_
  refine lv_dup hx hb dX6_exception_1 rfl ?_
  refine fg_RX6_55 hx hb hts hown hW hB dX6_exception_2 ?_
  refine lv_iconst (v := 1) hx hb dX6_exception_5 (by decide) ?_
  refine lv_iadd hx hb dX6_exception_6 ?_
  refine fp_RX6_55 hx hb hts hown hW hB dX6_exception_7 (fun H locs hB => ?_)
  refine lv_iload_n hx hb dX6_exception_10 rfl (lv_at hl 1 rfl) ?_
  exact sw_ri hx hb hr hlocks hB hv dX6_exception_11
