def f_X6_out (x1 : Int32) (x2 : Int32) : Int32 := if x1 < 0 then 1 else (if x1 < x2 then 0 else 1)
theorem out_in {x n : Int32} {N : Nat} (h : f_X6_out x n = 0) (hN : n.toInt = N) : vp_in x N := by
  unfold f_X6_out at h
  rw [vp_in_iff]
  by_cases a : x < 0
  · simp [a] at h
  · by_cases b : x < n
    · rw [Int32.lt_iff_toInt_lt] at a b
      have z : (0 : Int32).toInt = 0 := rfl
      omega
    · simp [a, b] at h
set_option maxRecDepth 100000 in
set_option maxHeartbeats 4000000 in
theorem c_X6_out (l : Launch) (g : sm_G) (ad : Nat → Nat) (hj : sm_inj 19 ad) (sz : Nat) (x1 : Int32) (x2 : Int32) (σ : sm_S)   : Met l yX6_out (sm_ws yX6_out cX6_out 3 (some .boolean)) (rmd 0) (va_Pc [.ref (ad 0), .int x1, .int x2] (sm_Pre g 19 ad (eM g ad) σ sz)) (vp_Si (fun r => r = f_X6_out x1 x2)) 0 0 (fun _ => False) := by
  generalize hv : f_X6_out x1 x2 = F
  replace hv := hv.symm
  refine sm_mR (by decide) (Nat.le_of_ble_eq_true rfl) hj (eM_lay g ad) (fun p e s m args below meth c C hW hB ls hl => ?_)
  obtain ⟨hC, hr, hlocks⟩ := C
  have hx := hC.1
  have hb := hC.2.1
  have hts := hC.2.2.2.2
  have hown : s.vm.findClass RX6 = some m.cls := hC.2.2.2.1
  have hl : lv_has ls 3 [(0, .ref (ad 0)), (1, .int x1), (2, .int x2)] := hl
  refine lv_iload_n hx hb dX6_out_0 rfl (lv_at hl 1 rfl) ?_
  refine lv_if_lt (tgt := 9) hx hb dX6_out_1 (by decide) (fun c1 => ?_) (fun c1 => ?_)
  · have hv := hv.trans (if_pos c1)
    refine lv_iconst (v := 1) hx hb dX6_out_9 (by decide) ?_
    refine lv_goto (tgt := 14) hx hb dX6_out_10 (by decide) ?_
    exact sm_rz hx hb hr hlocks rfl hv dX6_out_14
  · have hv := hv.trans (if_neg c1)
    refine lv_iload_n hx hb dX6_out_4 rfl (lv_at hl 1 rfl) ?_
    refine lv_iload_n hx hb dX6_out_5 rfl (lv_at hl 2 rfl) ?_
    refine lv_icmp_lt (tgt := 13) hx hb dX6_out_6 (by decide) (fun c6 => ?_) (fun c6 => ?_)
    · have hv := hv.trans (if_pos c6)
      refine lv_iconst (v := 0) hx hb dX6_out_13 (by decide) ?_
      exact sm_rz hx hb hr hlocks rfl hv dX6_out_14
    · have hv := hv.trans (if_neg c6)
      refine lv_iconst (v := 1) hx hb dX6_out_9 (by decide) ?_
      refine lv_goto (tgt := 14) hx hb dX6_out_10 (by decide) ?_
      exact sm_rz hx hb hr hlocks rfl hv dX6_out_14
def f_X6_places (x1 : Int32) : Int32 := if x1 = 0 then 24 else 53
set_option maxRecDepth 100000 in
set_option maxHeartbeats 4000000 in
theorem c_X6_places (l : Launch) (g : sm_G) (ad : Nat → Nat) (hj : sm_inj 19 ad) (sz : Nat) (x1 : Int32) (σ : sm_S)   : Met l yX6_places (sm_ws yX6_places cX6_places 2 (some .int)) (rmd 0) (va_Pc [.ref (ad 0), .int x1] (sm_Pre g 19 ad (eM g ad) σ sz)) (vp_Si (fun r => r = f_X6_places x1)) 0 0 (fun _ => False) := by
  generalize hv : f_X6_places x1 = F
  replace hv := hv.symm
  refine sm_mR (by decide) (Nat.le_of_ble_eq_true rfl) hj (eM_lay g ad) (fun p e s m args below meth c C hW hB ls hl => ?_)
  obtain ⟨hC, hr, hlocks⟩ := C
  have hx := hC.1
  have hb := hC.2.1
  have hts := hC.2.2.2.2
  have hown : s.vm.findClass RX6 = some m.cls := hC.2.2.2.1
  have hl : lv_has ls 2 [(0, .ref (ad 0)), (1, .int x1)] := hl
  refine lv_iload_n hx hb dX6_places_0 rfl (lv_at hl 1 rfl) ?_
  refine lv_if_eq (tgt := 9) hx hb dX6_places_1 (by decide) (fun c1 => ?_) (fun c1 => ?_)
  · have hv := hv.trans (if_pos c1)
    refine lv_bipush (v := 24) hx hb dX6_places_9 (by decide) ?_
    exact sm_ri hx hb hr hlocks hv dX6_places_11
  · have hv := hv.trans (if_neg c1)
    refine lv_bipush (v := 53) hx hb dX6_places_4 (by decide) ?_
    refine lv_goto (tgt := 11) hx hb dX6_places_6 (by decide) ?_
    exact sm_ri hx hb hr hlocks hv dX6_places_11
def f_X6_least (x1 : Int32) : Int32 := if x1 = 0 then ((-149)) else ((-1074))
set_option maxRecDepth 100000 in
set_option maxHeartbeats 4000000 in
theorem c_X6_least (l : Launch) (g : sm_G) (ad : Nat → Nat) (hj : sm_inj 19 ad) (sz : Nat) (x1 : Int32) (σ : sm_S)   : Met l yX6_least (sm_ws yX6_least cX6_least 2 (some .int)) (rmd 0) (va_Pc [.ref (ad 0), .int x1] (sm_Pre g 19 ad (eM g ad) σ sz)) (vp_Si (fun r => r = f_X6_least x1)) 0 0 (fun _ => False) := by
  generalize hv : f_X6_least x1 = F
  replace hv := hv.symm
  refine sm_mR (by decide) (Nat.le_of_ble_eq_true rfl) hj (eM_lay g ad) (fun p e s m args below meth c C hW hB ls hl => ?_)
  obtain ⟨hC, hr, hlocks⟩ := C
  have hx := hC.1
  have hb := hC.2.1
  have hts := hC.2.2.2.2
  have hown : s.vm.findClass RX6 = some m.cls := hC.2.2.2.1
  have hl : lv_has ls 2 [(0, .ref (ad 0)), (1, .int x1)] := hl
  refine lv_iload_n hx hb dX6_least_0 rfl (lv_at hl 1 rfl) ?_
  refine lv_if_eq (tgt := 10) hx hb dX6_least_1 (by decide) (fun c1 => ?_) (fun c1 => ?_)
  · have hv := hv.trans (if_pos c1)
    refine lv_sipush (v := -149) hx hb dX6_least_10 (by decide) ?_
    exact sm_ri hx hb hr hlocks hv dX6_least_13
  · have hv := hv.trans (if_neg c1)
    refine lv_sipush (v := -1074) hx hb dX6_least_4 (by decide) ?_
    refine lv_goto (tgt := 13) hx hb dX6_least_7 (by decide) ?_
    exact sm_ri hx hb hr hlocks hv dX6_least_13
def f_X6_none (x1 : Int32) : Int64 := if x1 = 0 then 2143289344 else 9221120237041090560
set_option maxRecDepth 100000 in
set_option maxHeartbeats 4000000 in
theorem c_X6_none (l : Launch) (g : sm_G) (ad : Nat → Nat) (hj : sm_inj 19 ad) (sz : Nat) (x1 : Int32) (σ : sm_S)   : Met l yX6_none (sm_ws yX6_none cX6_none 2 (some .long)) (rmd 0) (va_Pc [.ref (ad 0), .int x1] (sm_Pre g 19 ad (eM g ad) σ sz)) (vp_Sl (fun r => r = f_X6_none x1)) 0 0 (fun _ => False) := by
  generalize hv : f_X6_none x1 = F
  replace hv := hv.symm
  refine sm_mR (by decide) (Nat.le_of_ble_eq_true rfl) hj (eM_lay g ad) (fun p e s m args below meth c C hW hB ls hl => ?_)
  obtain ⟨hC, hr, hlocks⟩ := C
  have hx := hC.1
  have hb := hC.2.1
  have hts := hC.2.2.2.2
  have hown : s.vm.findClass RX6 = some m.cls := hC.2.2.2.1
  have hl : lv_has ls 2 [(0, .ref (ad 0)), (1, .int x1)] := hl
  refine lv_iload_n hx hb dX6_none_0 rfl (lv_at hl 1 rfl) ?_
  refine lv_if_eq (tgt := 10) hx hb dX6_none_1 (by decide) (fun c1 => ?_) (fun c1 => ?_)
  · have hv := hv.trans (if_pos c1)
    refine lv_ldc2 hx hb hown (hts _ w_629) dX6_none_10 ?_
    exact sm_rl hx hb hr hlocks hv dX6_none_13
  · have hv := hv.trans (if_neg c1)
    refine lv_ldc2 hx hb hown (hts _ w_628) dX6_none_4 ?_
    refine lv_goto (tgt := 13) hx hb dX6_none_7 (by decide) ?_
    exact sm_rl hx hb hr hlocks hv dX6_none_13
def f_X6_infinite (x1 : Int32) : Int64 := if x1 = 0 then 2139095040 else 9218868437227405312
set_option maxRecDepth 100000 in
set_option maxHeartbeats 4000000 in
theorem c_X6_infinite (l : Launch) (g : sm_G) (ad : Nat → Nat) (hj : sm_inj 19 ad) (sz : Nat) (x1 : Int32) (σ : sm_S)   : Met l yX6_infinite (sm_ws yX6_infinite cX6_infinite 2 (some .long)) (rmd 0) (va_Pc [.ref (ad 0), .int x1] (sm_Pre g 19 ad (eM g ad) σ sz)) (vp_Sl (fun r => r = f_X6_infinite x1)) 0 0 (fun _ => False) := by
  generalize hv : f_X6_infinite x1 = F
  replace hv := hv.symm
  refine sm_mR (by decide) (Nat.le_of_ble_eq_true rfl) hj (eM_lay g ad) (fun p e s m args below meth c C hW hB ls hl => ?_)
  obtain ⟨hC, hr, hlocks⟩ := C
  have hx := hC.1
  have hb := hC.2.1
  have hts := hC.2.2.2.2
  have hown : s.vm.findClass RX6 = some m.cls := hC.2.2.2.1
  have hl : lv_has ls 2 [(0, .ref (ad 0)), (1, .int x1)] := hl
  refine lv_iload_n hx hb dX6_infinite_0 rfl (lv_at hl 1 rfl) ?_
  refine lv_if_eq (tgt := 10) hx hb dX6_infinite_1 (by decide) (fun c1 => ?_) (fun c1 => ?_)
  · have hv := hv.trans (if_pos c1)
    refine lv_ldc2 hx hb hown (hts _ w_673) dX6_infinite_10 ?_
    exact sm_rl hx hb hr hlocks hv dX6_infinite_13
  · have hv := hv.trans (if_neg c1)
    refine lv_ldc2 hx hb hown (hts _ w_672) dX6_infinite_4 ?_
    refine lv_goto (tgt := 13) hx hb dX6_infinite_7 (by decide) ?_
    exact sm_rl hx hb hr hlocks hv dX6_infinite_13
def f_X6_signed (x1 : Int32) (x2 : Int32) (x3 : Int64) : Int64 := if x1 = 0 then (if x2 = 0 then x3 else (Int32.toInt64 (Int64.toInt32 (x3 ||| 2147483648)))) else (if x2 = 0 then x3 else (x3 ||| ((-9223372036854775808))))
set_option maxRecDepth 100000 in
set_option maxHeartbeats 4000000 in
theorem c_X6_signed (l : Launch) (g : sm_G) (ad : Nat → Nat) (hj : sm_inj 19 ad) (sz : Nat) (x1 : Int32) (x2 : Int32) (x3 : Int64) (σ : sm_S)   : Met l yX6_signed (sm_ws yX6_signed cX6_signed 5 (some .long)) (rmd 0) (va_Pc [.ref (ad 0), .int x1, .int x2, .long x3] (sm_Pre g 19 ad (eM g ad) σ sz)) (vp_Sl (fun r => r = f_X6_signed x1 x2 x3)) 0 0 (fun _ => False) := by
  generalize hv : f_X6_signed x1 x2 x3 = F
  replace hv := hv.symm
  refine sm_mR (by decide) (Nat.le_of_ble_eq_true rfl) hj (eM_lay g ad) (fun p e s m args below meth c C hW hB ls hl => ?_)
  obtain ⟨hC, hr, hlocks⟩ := C
  have hx := hC.1
  have hb := hC.2.1
  have hts := hC.2.2.2.2
  have hown : s.vm.findClass RX6 = some m.cls := hC.2.2.2.1
  have hl : lv_has ls 5 [(0, .ref (ad 0)), (1, .int x1), (2, .int x2), (3, .long x3)] := hl
  refine lv_iload_n hx hb dX6_signed_0 rfl (lv_at hl 1 rfl) ?_
  refine lv_if_eq (tgt := 18) hx hb dX6_signed_1 (by decide) (fun c1 => ?_) (fun c1 => ?_)
  · have hv := hv.trans (if_pos c1)
    refine lv_iload_n hx hb dX6_signed_18 rfl (lv_at hl 2 rfl) ?_
    refine lv_if_eq (tgt := 32) hx hb dX6_signed_19 (by decide) (fun c19 => ?_) (fun c19 => ?_)
    · have hv := hv.trans (if_pos c19)
      refine lv_lload_n hx hb dX6_signed_32 rfl (lv_at hl 3 rfl) ?_
      exact sm_rl hx hb hr hlocks hv dX6_signed_33
    · have hv := hv.trans (if_neg c19)
      refine lv_lload_n hx hb dX6_signed_22 rfl (lv_at hl 3 rfl) ?_
      refine lv_ldc2 hx hb hown (hts _ w_678) dX6_signed_23 ?_
      refine lv_lor hx hb dX6_signed_26 ?_
      refine lv_l2i hx hb dX6_signed_27 rfl ?_
      refine lv_i2l hx hb dX6_signed_28 rfl ?_
      refine lv_goto (tgt := 33) hx hb dX6_signed_29 (by decide) ?_
      exact sm_rl hx hb hr hlocks hv dX6_signed_33
  · have hv := hv.trans (if_neg c1)
    refine lv_iload_n hx hb dX6_signed_4 rfl (lv_at hl 2 rfl) ?_
    refine lv_if_eq (tgt := 16) hx hb dX6_signed_5 (by decide) (fun c5 => ?_) (fun c5 => ?_)
    · have hv := hv.trans (if_pos c5)
      refine lv_lload_n hx hb dX6_signed_16 rfl (lv_at hl 3 rfl) ?_
      exact sm_rl hx hb hr hlocks hv dX6_signed_17
    · have hv := hv.trans (if_neg c5)
      refine lv_lload_n hx hb dX6_signed_8 rfl (lv_at hl 3 rfl) ?_
      refine lv_ldc2 hx hb hown (hts _ w_658) dX6_signed_9 ?_
      refine lv_lor hx hb dX6_signed_12 ?_
      refine lv_goto (tgt := 17) hx hb dX6_signed_13 (by decide) ?_
      exact sm_rl hx hb hr hlocks hv dX6_signed_17
def f_X6_lengthOf_5 : Nat → Int32 → Int64 → Int32
  | 0, _, _ => default
  | n + 1, v3_5, v4_5 => if v4_5 ≤ 0 then v3_5 else (sm_let (v3_5 + 1) (fun y12_1 => sm_let (v4_5 >>> (Int32.toInt64 1 &&& 63)) (fun y19_2 => f_X6_lengthOf_5 n y12_1 y19_2)))
def f_X6_lengthOf (x1 : Int64) : Int32 := f_X6_lengthOf_5 ((Int64.toInt x1).toNat + 1) 0 x1
set_option maxRecDepth 100000 in
set_option maxHeartbeats 4000000 in
theorem c_X6_lengthOf (l : Launch) (g : sm_G) (ad : Nat → Nat) (hj : sm_inj 19 ad) (sz : Nat) (x1 : Int64) (σ : sm_S)   : Met l yX6_lengthOf (sm_ws yX6_lengthOf cX6_lengthOf 6 (some .int)) (rmd 0) (va_Pc [.ref (ad 0), .long x1] (sm_Pre g 19 ad (eM g ad) σ sz)) (vp_Si (fun r => r = f_X6_lengthOf x1)) 0 0 (fun _ => False) := by
  generalize hv : f_X6_lengthOf x1 = F
  replace hv := hv.symm
  refine sm_mR (by decide) (Nat.le_of_ble_eq_true rfl) hj (eM_lay g ad) (fun p e s m args below meth c C hW hB ls hl => ?_)
  obtain ⟨hC, hr, hlocks⟩ := C
  have hx := hC.1
  have hb := hC.2.1
  have hts := hC.2.2.2.2
  have hown : s.vm.findClass RX6 = some m.cls := hC.2.2.2.1
  have hl : lv_has ls 6 [(0, .ref (ad 0)), (1, .long x1)] := hl
  refine lv_iconst (v := 0) hx hb dX6_lengthOf_0 (by decide) ?_
  refine lv_istore_n (lv' := [(3, .int 0), (0, .ref (ad 0)), (1, .long x1)]) hx hb dX6_lengthOf_1 rfl hl (by decide) rfl (fun ls hl => ?_)
  refine lv_lload_n hx hb dX6_lengthOf_2 rfl (lv_at hl 2 rfl) ?_
  have k_5 : ∀ (n : Nat) (v3_5 : Int32) (v4_5 : Int64) (ls : Array Slot), (Int64.toInt v4_5).toNat < n → lv_has ls 6 [(3, .int v3_5), (4, .long v4_5)] → F = f_X6_lengthOf_5 n v3_5 v4_5 → W p l e (rmd 0) s m args below meth c s.heap [] 0 0 (MQ below (vp_Si (fun r => r = F)) args s 0 0 (fun _ => False)) (F0 m 5 ls []) := by
    intro n
    induction n with
    | zero =>
      intro v3_5 v4_5 ls hme hl hv
      exact absurd hme (Nat.not_lt_zero _)
    | succ n ih =>
      intro v3_5 v4_5 ls hme hl hv
      refine lv_lload hx hb dX6_lengthOf_5 (lv_at hl 1 rfl) ?_
      refine lv_lconst (v := 0) hx hb dX6_lengthOf_7 (by decide) ?_
      refine lc_le (tgt := 24) hx hb dX6_lengthOf_8 dX6_lengthOf_9 (by decide) (fun c8 => ?_) (fun c8 => ?_)
      · have hv := hv.trans (if_pos c8)
        refine lv_iload_n hx hb dX6_lengthOf_24 rfl (lv_at hl 0 rfl) ?_
        exact sm_ri hx hb hr hlocks hv dX6_lengthOf_25
      · have hv := hv.trans (if_neg c8)
        obtain ⟨y12_1, ey12_1, hv⟩ := sm_lt hv
        refine lv_iinc (v := y12_1) (lv' := [(3, .int y12_1), (4, .long v4_5)]) hx hb dX6_lengthOf_12 hl (k := 0) rfl (by rw [ey12_1]; rfl) (by decide) rfl (fun ls hl => ?_)
        refine lv_lload hx hb dX6_lengthOf_15 (lv_at hl 1 rfl) ?_
        refine lv_iconst (v := 1) hx hb dX6_lengthOf_17 (by decide) ?_
        refine lv_lshr hx hb dX6_lengthOf_18 rfl ?_
        refine sm_nml hv (fun y19_2 ey19_2 hv => ?_)
        refine lv_lstore (lv' := [(4, .long y19_2), (3, .int y12_1)]) hx hb dX6_lengthOf_19 hl (by decide) rfl (fun ls hl => ?_)
        refine lv_goto (tgt := 5) hx hb dX6_lengthOf_21 (by decide) ?_
        exact ih y12_1 y19_2 _ (by rw [ey19_2]; exact Nat.lt_of_lt_of_le (me_half c8) (Nat.le_of_lt_succ hme)) (lv_sub hl [1, 0] rfl) hv
  refine lv_lstore (lv' := [(4, .long x1), (3, .int 0), (0, .ref (ad 0)), (1, .long x1)]) hx hb dX6_lengthOf_3 hl (by decide) rfl (fun ls hl => ?_)
  exact k_5 ((Int64.toInt x1).toNat + 1) 0 x1 _ (Nat.lt_succ_self _) (lv_sub hl [1, 0] rfl) hv
def f_X6_take_140 (x1 : Int32) (y47_3 : Int32) (x4 : Int32) (σ : sm_S) (t0_140 : Int64) : sm_S := if y47_3 = 0 then (uI (uL σ 18 (Int32.toNatClampNeg x1) t0_140) 16 (Int32.toNatClampNeg x1) ((f_X6_least x4) + 0)) else (uI (uL σ 18 (Int32.toNatClampNeg x1) t0_140) 16 (Int32.toNatClampNeg x1) ((f_X6_least x4) + (y47_3 - 1)))
def f_X6_take_117 (x1 : Int32) (y47_3 : Int32) (x4 : Int32) (y8_1 : Int32) (y39_2 : Int64) (σ : sm_S) (t0_117 : Int32) : sm_S := if y47_3 = 0 then (f_X6_take_140 x1 y47_3 x4 (uI σ 15 (Int32.toNatClampNeg x1) t0_117) y39_2) else (f_X6_take_140 x1 y47_3 x4 (uI σ 15 (Int32.toNatClampNeg x1) t0_117) (y39_2 ||| ((1 : Int64) <<< (Int32.toInt64 y8_1 &&& 63))))
def f_X6_take_87 (x1 : Int32) (y47_3 : Int32) (x4 : Int32) (y8_1 : Int32) (t0_28 : Int64) (y39_2 : Int64) (σ : sm_S) (t0_87 : Int32) : sm_S := if y47_3 = t0_87 then (if y39_2 = 0 then (f_X6_take_117 x1 y47_3 x4 y8_1 y39_2 σ 2) else (f_X6_take_117 x1 y47_3 x4 y8_1 y39_2 σ 3)) else (if t0_28 = 0 then (f_X6_take_117 x1 y47_3 x4 y8_1 y39_2 σ 0) else (f_X6_take_117 x1 y47_3 x4 y8_1 y39_2 σ 1))
def f_X6_take_65 (x1 : Int32) (y47_3 : Int32) (x4 : Int32) (y8_1 : Int32) (t0_28 : Int64) (y39_2 : Int64) (σ : sm_S) (t0_65 : Int32) : sm_S := if x4 = 0 then (f_X6_take_87 x1 y47_3 x4 y8_1 t0_28 y39_2 (uI σ 17 (Int32.toNatClampNeg x1) (vp_nar .boolean t0_65)) 255) else (f_X6_take_87 x1 y47_3 x4 y8_1 t0_28 y39_2 (uI σ 17 (Int32.toNatClampNeg x1) (vp_nar .boolean t0_65)) 2047)
def f_X6_take_28 (x1 : Int32) (x2 : Int64) (x4 : Int32) (y8_1 : Int32) (σ : sm_S) (t0_28 : Int64) : sm_S := sm_let (t0_28 &&& (((1 : Int64) <<< (Int32.toInt64 y8_1 &&& 63)) - 1)) (fun y39_2 => sm_let (Int64.toInt32 (t0_28 >>> (Int32.toInt64 y8_1 &&& 63))) (fun y47_3 => if 0 ≤ x2 then (f_X6_take_65 x1 y47_3 x4 y8_1 t0_28 y39_2 σ 0) else (f_X6_take_65 x1 y47_3 x4 y8_1 t0_28 y39_2 σ 1)))
def f_X6_take (σ : sm_S) (x1 : Int32) (x2 : Int64) (x4 : Int32) : sm_S := sm_let ((f_X6_places x4) - 1) (fun y8_1 => if x4 = 0 then (f_X6_take_28 x1 x2 x4 y8_1 σ (x2 &&& 2147483647)) else (f_X6_take_28 x1 x2 x4 y8_1 σ (x2 &&& 9223372036854775807)))
set_option maxRecDepth 100000 in
set_option maxHeartbeats 4000000 in
theorem c_X6_take (l : Launch) (g : sm_G) (ad : Nat → Nat) (hj : sm_inj 19 ad) (sz : Nat) (σ : sm_S) (x1 : Int32) (x2 : Int64) (x4 : Int32)  (h1 : vp_in x1 2) : Met l yX6_take (sm_ws yX6_take cX6_take 11 (none)) (rmd 1) (va_Pc [.ref (ad 0), .int x1, .long x2, .int x4] (sm_Pre g 19 ad (eM g ad) σ sz)) (sm_Qv g 19 ad (eM g ad) sz (f_X6_take σ x1 x2 x4)) 0 0 (sm_AX 19 ad sz) := by
  generalize hv : f_X6_take σ x1 x2 x4 = F
  replace hv := hv.symm
  refine sm_mWv (by decide) (Nat.le_of_ble_eq_true rfl) hj (eM_lay g ad) (fun p e s m args below meth c C hW hB ls hl => ?_)
  obtain ⟨hC, hr, hlocks⟩ := C
  have hx := hC.1
  have hb := hC.2.1
  have hts := hC.2.2.2.2
  have hown : s.vm.findClass RX6 = some m.cls := hC.2.2.2.1
  have hl : lv_has ls 11 [(0, .ref (ad 0)), (1, .int x1), (2, .long x2), (4, .int x4)] := hl
  refine lv_aload_n hx hb dX6_take_0 rfl (lv_at hl 0 rfl) ?_
  refine lv_iload hx hb dX6_take_1 (lv_at hl 3 rfl) ?_
  refine sm_ci (sm_runV (rest := []) hC (c_X6_places l g ad hW.2.1 _ x4 σ) k_X6_places w_614 (by decide) (sm_pv hW hB (by decide) (eM_0 g ad _) rfl) rfl hl.1 rfl (Nat.le_of_ble_eq_true rfl) dX6_take_3) ?_
  refine lv_iconst (v := 1) hx hb dX6_take_6 (by decide) ?_
  refine lv_isub hx hb dX6_take_7 ?_
  refine sm_nmi hv (fun y8_1 ey8_1 hv => ?_)
  refine lv_istore (lv' := [(5, .int y8_1), (0, .ref (ad 0)), (1, .int x1), (2, .long x2), (4, .int x4)]) hx hb dX6_take_8 hl (by decide) rfl (fun ls hl => ?_)
  refine lv_iload hx hb dX6_take_10 (lv_at hl 4 rfl) ?_
  have k_28 : ∀ (t0_28 : Int64) (ls : Array Slot), lv_has ls 11 [(0, .ref (ad 0)), (1, .int x1), (2, .long x2), (4, .int x4), (5, .int y8_1)] → F = f_X6_take_28 x1 x2 x4 y8_1 σ t0_28 → W p l e (rmd 1) s m args below meth c s.heap [] 0 0 (MQ below (sm_Qv g 19 ad (eM g ad) s.heap.size F) args s 0 0 (sm_AX 19 ad s.heap.size)) (F0 m 28 ls [.long t0_28]) := by
    intro t0_28 ls hl hv
    refine lv_lstore (lv' := [(6, .long t0_28), (0, .ref (ad 0)), (1, .int x1), (2, .long x2), (4, .int x4), (5, .int y8_1)]) hx hb dX6_take_28 hl (by decide) rfl (fun ls hl => ?_)
    refine lv_lload hx hb dX6_take_30 (lv_at hl 0 rfl) ?_
    refine lv_lconst (v := 1) hx hb dX6_take_32 (by decide) ?_
    refine lv_iload hx hb dX6_take_33 (lv_at hl 5 rfl) ?_
    refine lv_lshl hx hb dX6_take_35 rfl ?_
    refine lv_lconst (v := 1) hx hb dX6_take_36 (by decide) ?_
    refine lv_lsub hx hb dX6_take_37 ?_
    refine lv_land hx hb dX6_take_38 ?_
    refine sm_nml hv (fun y39_2 ey39_2 hv => ?_)
    refine lv_lstore (lv' := [(8, .long y39_2), (6, .long t0_28), (0, .ref (ad 0)), (1, .int x1), (2, .long x2), (4, .int x4), (5, .int y8_1)]) hx hb dX6_take_39 hl (by decide) rfl (fun ls hl => ?_)
    refine lv_lload hx hb dX6_take_41 (lv_at hl 1 rfl) ?_
    refine lv_iload hx hb dX6_take_43 (lv_at hl 6 rfl) ?_
    refine lv_lshr hx hb dX6_take_45 rfl ?_
    refine lv_l2i hx hb dX6_take_46 rfl ?_
    refine sm_nmi hv (fun y47_3 ey47_3 hv => ?_)
    refine lv_istore (lv' := [(10, .int y47_3), (8, .long y39_2), (6, .long t0_28), (0, .ref (ad 0)), (1, .int x1), (2, .long x2), (4, .int x4), (5, .int y8_1)]) hx hb dX6_take_47 hl (by decide) rfl (fun ls hl => ?_)
    refine lv_aload_n hx hb dX6_take_49 rfl (lv_at hl 3 rfl) ?_
    refine fg_RX6_70 hx hb hts hown hW hB dX6_take_50 ?_
    refine lv_iload_n hx hb dX6_take_53 rfl (lv_at hl 4 rfl) ?_
    refine lv_lload_n hx hb dX6_take_54 rfl (lv_at hl 5 rfl) ?_
    refine lv_lconst (v := 0) hx hb dX6_take_55 (by decide) ?_
    have k_65 : ∀ (t0_65 : Int32) (ls : Array Slot), lv_has ls 11 [(0, .ref (ad 0)), (1, .int x1), (4, .int x4), (5, .int y8_1), (6, .long t0_28), (8, .long y39_2), (10, .int y47_3)] → F = f_X6_take_65 x1 y47_3 x4 y8_1 t0_28 y39_2 σ t0_65 → W p l e (rmd 1) s m args below meth c s.heap [] 0 0 (MQ below (sm_Qv g 19 ad (eM g ad) s.heap.size F) args s 0 0 (sm_AX 19 ad s.heap.size)) (F0 m 65 ls [.int t0_65, .int x1, .ref (ad 17)]) := by
      intro t0_65 ls hl hv
      refine sw_zs hx hb hW hB (17) (by decide) (eM_17 g ad) h1 dX6_take_65 (fun H locs hB => ?_)
      refine lv_aload_n hx hb dX6_take_66 rfl (lv_at hl 0 rfl) ?_
      refine fg_RX6_64 hx hb hts hown hW hB dX6_take_67 ?_
      refine lv_iload_n hx hb dX6_take_70 rfl (lv_at hl 1 rfl) ?_
      refine lv_iload hx hb dX6_take_71 (lv_at hl 6 rfl) ?_
      refine lv_iload hx hb dX6_take_73 (lv_at hl 2 rfl) ?_
      have k_87 : ∀ (t0_87 : Int32) (σ : sm_S) (ls : Array Slot) (H : Heap) (locs : List Loc), lv_has ls 11 [(0, .ref (ad 0)), (1, .int x1), (4, .int x4), (5, .int y8_1), (6, .long t0_28), (8, .long y39_2), (10, .int y47_3)] → sm_B g 19 ad (eM g ad) s H locs σ → F = f_X6_take_87 x1 y47_3 x4 y8_1 t0_28 y39_2 σ t0_87 → W p l e (rmd 1) s m args below meth c H locs 0 0 (MQ below (sm_Qv g 19 ad (eM g ad) s.heap.size F) args s 0 0 (sm_AX 19 ad s.heap.size)) (F0 m 87 ls [.int t0_87, .int y47_3, .int x1, .ref (ad 15)]) := by
        intro t0_87 σ ls H locs hl hB hv
        have k_117 : ∀ (t0_117 : Int32) (ls : Array Slot), lv_has ls 11 [(0, .ref (ad 0)), (1, .int x1), (4, .int x4), (5, .int y8_1), (8, .long y39_2), (10, .int y47_3)] → F = f_X6_take_117 x1 y47_3 x4 y8_1 y39_2 σ t0_117 → W p l e (rmd 1) s m args below meth c H locs 0 0 (MQ below (sm_Qv g 19 ad (eM g ad) s.heap.size F) args s 0 0 (sm_AX 19 ad s.heap.size)) (F0 m 117 ls [.int t0_117, .int x1, .ref (ad 15)]) := by
          intro t0_117 ls hl hv
          refine sw_is hx hb hW hB (15) (by decide) (eM_15 g ad) h1 dX6_take_117 (fun H locs hB => ?_)
          refine lv_aload_n hx hb dX6_take_118 rfl (lv_at hl 0 rfl) ?_
          refine fg_RX6_73 hx hb hts hown hW hB dX6_take_119 ?_
          refine lv_iload_n hx hb dX6_take_122 rfl (lv_at hl 1 rfl) ?_
          refine lv_iload hx hb dX6_take_123 (lv_at hl 5 rfl) ?_
          have k_140 : ∀ (t0_140 : Int64) (σ : sm_S) (ls : Array Slot) (H : Heap) (locs : List Loc), lv_has ls 11 [(0, .ref (ad 0)), (1, .int x1), (4, .int x4), (10, .int y47_3)] → sm_B g 19 ad (eM g ad) s H locs σ → F = f_X6_take_140 x1 y47_3 x4 σ t0_140 → W p l e (rmd 1) s m args below meth c H locs 0 0 (MQ below (sm_Qv g 19 ad (eM g ad) s.heap.size F) args s 0 0 (sm_AX 19 ad s.heap.size)) (F0 m 140 ls [.long t0_140, .int x1, .ref (ad 18)]) := by
            intro t0_140 σ ls H locs hl hB hv
            refine sw_ls hx hb hW hB (18) (by decide) (eM_18 g ad) h1 dX6_take_140 (fun H locs hB => ?_)
            refine lv_aload_n hx hb dX6_take_141 rfl (lv_at hl 0 rfl) ?_
            refine fg_RX6_67 hx hb hts hown hW hB dX6_take_142 ?_
            refine lv_iload_n hx hb dX6_take_145 rfl (lv_at hl 1 rfl) ?_
            refine lv_aload_n hx hb dX6_take_146 rfl (lv_at hl 0 rfl) ?_
            refine lv_iload hx hb dX6_take_147 (lv_at hl 2 rfl) ?_
            refine sm_ci (sm_runV (rest := [.int x1, .ref (ad 16)]) hC (c_X6_least l g ad hW.2.1 _ x4 (uL σ 18 (Int32.toNatClampNeg x1) t0_140)) k_X6_least w_620 (by decide) (sm_pv hW hB (by decide) (eM_0 g ad _) rfl) rfl hl.1 rfl (Nat.le_of_ble_eq_true rfl) dX6_take_149) ?_
            refine lv_iload hx hb dX6_take_152 (lv_at hl 3 rfl) ?_
            refine lv_if_ne (tgt := 161) hx hb dX6_take_154 (by decide) (fun c154 => ?_) (fun c154 => ?_)
            · have hv := hv.trans (if_neg c154)
              refine lv_iload hx hb dX6_take_161 (lv_at hl 3 rfl) ?_
              refine lv_iconst (v := 1) hx hb dX6_take_163 (by decide) ?_
              refine lv_isub hx hb dX6_take_164 ?_
              refine lv_iadd hx hb dX6_take_165 ?_
              refine sw_is hx hb hW hB (16) (by decide) (eM_16 g ad) h1 dX6_take_166 (fun H locs hB => ?_)
              exact sw_rv hx hb hr hlocks hB hv dX6_take_167
            · have hv := hv.trans (if_pos c154)
              refine lv_iconst (v := 0) hx hb dX6_take_157 (by decide) ?_
              refine lv_goto (tgt := 165) hx hb dX6_take_158 (by decide) ?_
              refine lv_iadd hx hb dX6_take_165 ?_
              refine sw_is hx hb hW hB (16) (by decide) (eM_16 g ad) h1 dX6_take_166 (fun H locs hB => ?_)
              exact sw_rv hx hb hr hlocks hB hv dX6_take_167
          refine lv_if_ne (tgt := 133) hx hb dX6_take_125 (by decide) (fun c125 => ?_) (fun c125 => ?_)
          · have hv := hv.trans (if_neg c125)
            refine lv_lload hx hb dX6_take_133 (lv_at hl 4 rfl) ?_
            refine lv_lconst (v := 1) hx hb dX6_take_135 (by decide) ?_
            refine lv_iload hx hb dX6_take_136 (lv_at hl 3 rfl) ?_
            refine lv_lshl hx hb dX6_take_138 rfl ?_
            refine lv_lor hx hb dX6_take_139 ?_
            exact k_140 (y39_2 ||| ((1 : Int64) <<< (Int32.toInt64 y8_1 &&& 63))) (uI σ 15 (Int32.toNatClampNeg x1) t0_117) _ _ _ (lv_sub hl [0, 1, 2, 5] rfl) hB hv
          · have hv := hv.trans (if_pos c125)
            refine lv_lload hx hb dX6_take_128 (lv_at hl 4 rfl) ?_
            refine lv_goto (tgt := 140) hx hb dX6_take_130 (by decide) ?_
            exact k_140 y39_2 (uI σ 15 (Int32.toNatClampNeg x1) t0_117) _ _ _ (lv_sub hl [0, 1, 2, 5] rfl) hB hv
        refine lv_icmp_ne (tgt := 105) hx hb dX6_take_87 (by decide) (fun c87 => ?_) (fun c87 => ?_)
        · have hv := hv.trans (if_neg c87)
          refine lv_lload hx hb dX6_take_105 (lv_at hl 4 rfl) ?_
          refine lv_lconst (v := 0) hx hb dX6_take_107 (by decide) ?_
          refine lc_ne (tgt := 116) hx hb dX6_take_108 dX6_take_109 (by decide) (fun c108 => ?_) (fun c108 => ?_)
          · have hv := hv.trans (if_neg c108)
            refine lv_iconst (v := 1) hx hb dX6_take_116 (by decide) ?_
            exact k_117 1 _ (lv_sub hl [0, 1, 2, 3, 5, 6] rfl) hv
          · have hv := hv.trans (if_pos c108)
            refine lv_iconst (v := 0) hx hb dX6_take_112 (by decide) ?_
            refine lv_goto (tgt := 117) hx hb dX6_take_113 (by decide) ?_
            exact k_117 0 _ (lv_sub hl [0, 1, 2, 3, 5, 6] rfl) hv
        · have hv := hv.trans (if_pos c87)
          refine lv_lload hx hb dX6_take_90 (lv_at hl 5 rfl) ?_
          refine lv_lconst (v := 0) hx hb dX6_take_92 (by decide) ?_
          refine lc_ne (tgt := 101) hx hb dX6_take_93 dX6_take_94 (by decide) (fun c93 => ?_) (fun c93 => ?_)
          · have hv := hv.trans (if_neg c93)
            refine lv_iconst (v := 3) hx hb dX6_take_101 (by decide) ?_
            refine lv_goto (tgt := 117) hx hb dX6_take_102 (by decide) ?_
            exact k_117 3 _ (lv_sub hl [0, 1, 2, 3, 5, 6] rfl) hv
          · have hv := hv.trans (if_pos c93)
            refine lv_iconst (v := 2) hx hb dX6_take_97 (by decide) ?_
            refine lv_goto (tgt := 117) hx hb dX6_take_98 (by decide) ?_
            exact k_117 2 _ (lv_sub hl [0, 1, 2, 3, 5, 6] rfl) hv
      refine lv_if_eq (tgt := 84) hx hb dX6_take_75 (by decide) (fun c75 => ?_) (fun c75 => ?_)
      · have hv := hv.trans (if_pos c75)
        refine lv_sipush (v := 255) hx hb dX6_take_84 (by decide) ?_
        exact k_87 255 (uI σ 17 (Int32.toNatClampNeg x1) (vp_nar .boolean t0_65)) _ _ _ (lv_sub hl [0, 1, 2, 3, 4, 5, 6] rfl) hB hv
      · have hv := hv.trans (if_neg c75)
        refine lv_sipush (v := 2047) hx hb dX6_take_78 (by decide) ?_
        refine lv_goto (tgt := 87) hx hb dX6_take_81 (by decide) ?_
        exact k_87 2047 (uI σ 17 (Int32.toNatClampNeg x1) (vp_nar .boolean t0_65)) _ _ _ (lv_sub hl [0, 1, 2, 3, 4, 5, 6] rfl) hB hv
    refine lc_ge (tgt := 64) hx hb dX6_take_56 dX6_take_57 (by decide) (fun c56 => ?_) (fun c56 => ?_)
    · have hv := hv.trans (if_pos c56)
      refine lv_iconst (v := 0) hx hb dX6_take_64 (by decide) ?_
      exact k_65 0 _ (lv_sub hl [3, 4, 6, 7, 2, 1, 0] rfl) hv
    · have hv := hv.trans (if_neg c56)
      refine lv_iconst (v := 1) hx hb dX6_take_60 (by decide) ?_
      refine lv_goto (tgt := 65) hx hb dX6_take_61 (by decide) ?_
      exact k_65 1 _ (lv_sub hl [3, 4, 6, 7, 2, 1, 0] rfl) hv
  refine lv_if_eq (tgt := 23) hx hb dX6_take_12 (by decide) (fun c12 => ?_) (fun c12 => ?_)
  · have hv := hv.trans (if_pos c12)
    refine lv_lload_n hx hb dX6_take_23 rfl (lv_at hl 3 rfl) ?_
    refine lv_ldc2 hx hb hown (hts _ w_619) dX6_take_24 ?_
    refine lv_land hx hb dX6_take_27 ?_
    exact k_28 (x2 &&& 2147483647) _ (lv_sub hl [1, 2, 3, 4, 0] rfl) hv
  · have hv := hv.trans (if_neg c12)
    refine lv_lload_n hx hb dX6_take_15 rfl (lv_at hl 3 rfl) ?_
    refine lv_ldc2 hx hb hown (hts _ w_618) dX6_take_16 ?_
    refine lv_land hx hb dX6_take_19 ?_
    refine lv_goto (tgt := 28) hx hb dX6_take_20 (by decide) ?_
    exact k_28 (x2 &&& 9223372036854775807) _ (lv_sub hl [1, 2, 3, 4, 0] rfl) hv
def f_X6_spread (σ : sm_S) (x1 : Int32) : sm_S := sm_let ((61 : Int32) - (f_X6_lengthOf (σ.2.1 18 (Int32.toNatClampNeg x1)))) (fun y13_1 => uI (uL σ 18 (Int32.toNatClampNeg x1) ((σ.2.1 18 (Int32.toNatClampNeg x1)) <<< (Int32.toInt64 y13_1 &&& 63))) 16 (Int32.toNatClampNeg x1) (((uL σ 18 (Int32.toNatClampNeg x1) ((σ.2.1 18 (Int32.toNatClampNeg x1)) <<< (Int32.toInt64 y13_1 &&& 63))).1 16 (Int32.toNatClampNeg x1)) - y13_1))
set_option maxRecDepth 100000 in
set_option maxHeartbeats 4000000 in
theorem c_X6_spread (l : Launch) (g : sm_G) (ad : Nat → Nat) (hj : sm_inj 19 ad) (sz : Nat) (σ : sm_S) (x1 : Int32)  (h1 : vp_in x1 2) : Met l yX6_spread (sm_ws yX6_spread cX6_spread 3 (none)) (rmd 1) (va_Pc [.ref (ad 0), .int x1] (sm_Pre g 19 ad (eM g ad) σ sz)) (sm_Qv g 19 ad (eM g ad) sz (f_X6_spread σ x1)) 0 0 (sm_AX 19 ad sz) := by
  generalize hv : f_X6_spread σ x1 = F
  replace hv := hv.symm
  refine sm_mWv (by decide) (Nat.le_of_ble_eq_true rfl) hj (eM_lay g ad) (fun p e s m args below meth c C hW hB ls hl => ?_)
  obtain ⟨hC, hr, hlocks⟩ := C
  have hx := hC.1
  have hb := hC.2.1
  have hts := hC.2.2.2.2
  have hown : s.vm.findClass RX6 = some m.cls := hC.2.2.2.1
  have hl : lv_has ls 3 [(0, .ref (ad 0)), (1, .int x1)] := hl
  refine lv_bipush (v := 61) hx hb dX6_spread_0 (by decide) ?_
  refine lv_aload_n hx hb dX6_spread_2 rfl (lv_at hl 0 rfl) ?_
  refine lv_aload_n hx hb dX6_spread_3 rfl (lv_at hl 0 rfl) ?_
  refine fg_RX6_73 hx hb hts hown hW hB dX6_spread_4 ?_
  refine lv_iload_n hx hb dX6_spread_7 rfl (lv_at hl 1 rfl) ?_
  refine sw_la hx hb hW hB (18) (by decide) (eM_18 g ad) h1 dX6_spread_8 ?_
  refine sm_ci (sm_runV (rest := [.int 61]) hC (c_X6_lengthOf l g ad hW.2.1 _ (σ.2.1 18 (Int32.toNatClampNeg x1)) σ) k_X6_lengthOf w_664 (by decide) (sm_pv hW hB (by decide) (eM_0 g ad _) rfl) rfl hl.1 rfl (Nat.le_of_ble_eq_true rfl) dX6_spread_9) ?_
  refine lv_isub hx hb dX6_spread_12 ?_
  refine sm_nmi hv (fun y13_1 ey13_1 hv => ?_)
  refine lv_istore_n (lv' := [(2, .int y13_1), (0, .ref (ad 0)), (1, .int x1)]) hx hb dX6_spread_13 rfl hl (by decide) rfl (fun ls hl => ?_)
  refine lv_aload_n hx hb dX6_spread_14 rfl (lv_at hl 1 rfl) ?_
  refine fg_RX6_73 hx hb hts hown hW hB dX6_spread_15 ?_
  refine lv_iload_n hx hb dX6_spread_18 rfl (lv_at hl 2 rfl) ?_
  refine lv_dup2_11 hx hb dX6_spread_19 rfl rfl ?_
  refine sw_la hx hb hW hB (18) (by decide) (eM_18 g ad) h1 dX6_spread_20 ?_
  refine lv_iload_n hx hb dX6_spread_21 rfl (lv_at hl 0 rfl) ?_
  refine lv_lshl hx hb dX6_spread_22 rfl ?_
  refine sw_ls hx hb hW hB (18) (by decide) (eM_18 g ad) h1 dX6_spread_23 (fun H locs hB => ?_)
  refine lv_aload_n hx hb dX6_spread_24 rfl (lv_at hl 1 rfl) ?_
  refine fg_RX6_67 hx hb hts hown hW hB dX6_spread_25 ?_
  refine lv_iload_n hx hb dX6_spread_28 rfl (lv_at hl 2 rfl) ?_
  refine lv_dup2_11 hx hb dX6_spread_29 rfl rfl ?_
  refine sw_ia hx hb hW hB (16) (by decide) (eM_16 g ad) h1 dX6_spread_30 ?_
  refine lv_iload_n hx hb dX6_spread_31 rfl (lv_at hl 0 rfl) ?_
  refine lv_isub hx hb dX6_spread_32 ?_
  refine sw_is hx hb hW hB (16) (by decide) (eM_16 g ad) h1 dX6_spread_33 (fun H locs hB => ?_)
  exact sw_rv hx hb hr hlocks hB hv dX6_spread_34
def f_X6_round_252 (x2 : Int32) (x1 : Int32) (t0_252 : Int64) : Int64 := f_X6_signed x1 x2 t0_252
def f_X6_round_218 (x1 : Int32) (v10_158 : Int64) (x2 : Int32) (y5_1 : Int32) (t0_218 : Int64) : Int64 := if t0_218 = 0 then (f_X6_round_252 x2 x1 v10_158) else (f_X6_round_252 x2 x1 ((t0_218 <<< (Int32.toInt64 (y5_1 - 1) &&& 63)) + (v10_158 - ((1 : Int64) <<< (Int32.toInt64 (y5_1 - 1) &&& 63)))))
def f_X6_round_176 (x1 : Int32) (v10_158 : Int64) (x2 : Int32) (y5_1 : Int32) (v8_158 : Int32) (t0_176 : Int32) (t1_176 : Int32) : Int64 := if t1_176 ≤ t0_176 then (if ((1 : Int64) <<< (Int32.toInt64 (y5_1 - 1) &&& 63)) ≤ v10_158 then (f_X6_round_218 x1 v10_158 x2 y5_1 (Int32.toInt64 ((v8_158 - (f_X6_least x1)) + 1))) else (f_X6_round_218 x1 v10_158 x2 y5_1 0)) else (f_X6_signed x1 x2 (f_X6_infinite x1))
def f_X6_round_158 (x1 : Int32) (x2 : Int32) (y5_1 : Int32) (v8_158 : Int32) (v10_158 : Int64) : Int64 := if x1 = 0 then (f_X6_round_176 x1 v10_158 x2 y5_1 v8_158 128 (v8_158 + y5_1)) else (f_X6_round_176 x1 v10_158 x2 y5_1 v8_158 1024 (v8_158 + y5_1))
def f_X6_round_139 (x1 : Int32) (x2 : Int32) (y5_1 : Int32) (v8_37 : Int32) (v10_139 : Int64) : Int64 := if v10_139 = ((1 : Int64) <<< (Int32.toInt64 y5_1 &&& 63)) then (sm_let (v10_139 >>> (Int32.toInt64 1 &&& 63)) (fun y153_4 => sm_let (v8_37 + 1) (fun y155_5 => f_X6_round_158 x1 x2 y5_1 y155_5 y153_4))) else (f_X6_round_158 x1 x2 y5_1 v8_37 v10_139)
def f_X6_round_133 (x1 : Int32) (t0_72 : Int64) (x2 : Int32) (y5_1 : Int32) (v8_37 : Int32) : Int64 := sm_let (t0_72 + 1) (fun y137_8 => f_X6_round_139 x1 x2 y5_1 v8_37 y137_8)
def f_X6_round_72 (x1 : Int32) (x2 : Int32) (x3 : Int64) (x6 : Int32) (y5_1 : Int32) (v8_37 : Int32) (y42_3 : Int32) (t0_72 : Int64) : Int64 := if y42_3 ≤ 0 then (f_X6_round_139 x1 x2 y5_1 v8_37 t0_72) else (if 63 ≤ y42_3 then (f_X6_round_139 x1 x2 y5_1 v8_37 t0_72) else (sm_let (x3 - (t0_72 <<< (Int32.toInt64 y42_3 &&& 63))) (fun y93_6 => sm_let ((1 : Int64) <<< (Int32.toInt64 (y42_3 - 1) &&& 63)) (fun y101_7 => if y101_7 < y93_6 then (f_X6_round_133 x1 t0_72 x2 y5_1 v8_37) else (if y93_6 = y101_7 then (if x6 = 0 then (if (t0_72 &&& 1) = 1 then (f_X6_round_133 x1 t0_72 x2 y5_1 v8_37) else (f_X6_round_139 x1 x2 y5_1 v8_37 t0_72)) else (f_X6_round_133 x1 t0_72 x2 y5_1 v8_37)) else (f_X6_round_139 x1 x2 y5_1 v8_37 t0_72))))))
def f_X6_round_37 (x1 : Int32) (x2 : Int32) (x3 : Int64) (x5 : Int32) (x6 : Int32) (y5_1 : Int32) (v8_37 : Int32) : Int64 := sm_let (v8_37 - x5) (fun y42_3 => if 0 < y42_3 then (if y42_3 ≤ 62 then (f_X6_round_72 x1 x2 x3 x6 y5_1 v8_37 y42_3 (x3 >>> (Int32.toInt64 y42_3 &&& 63))) else (f_X6_round_72 x1 x2 x3 x6 y5_1 v8_37 y42_3 0)) else (f_X6_round_72 x1 x2 x3 x6 y5_1 v8_37 y42_3 (x3 <<< (Int32.toInt64 (-y42_3) &&& 63))))
def f_X6_round (x1 : Int32) (x2 : Int32) (x3 : Int64) (x5 : Int32) (x6 : Int32) : Int64 := sm_let (f_X6_places x1) (fun y5_1 => sm_let (((f_X6_lengthOf x3) + x5) - y5_1) (fun y18_2 => if (f_X6_least x1) ≤ y18_2 then (f_X6_round_37 x1 x2 x3 x5 x6 y5_1 y18_2) else (sm_let (f_X6_least x1) (fun y35_9 => f_X6_round_37 x1 x2 x3 x5 x6 y5_1 y35_9))))
set_option maxRecDepth 100000 in
set_option maxHeartbeats 4000000 in
theorem c_X6_round (l : Launch) (g : sm_G) (ad : Nat → Nat) (hj : sm_inj 19 ad) (sz : Nat) (x1 : Int32) (x2 : Int32) (x3 : Int64) (x5 : Int32) (x6 : Int32) (σ : sm_S)   : Met l yX6_round (sm_ws yX6_round cX6_round 16 (some .long)) (rmd 1) (va_Pc [.ref (ad 0), .int x1, .int x2, .long x3, .int x5, .int x6] (sm_Pre g 19 ad (eM g ad) σ sz)) (vp_Sl (fun r => r = f_X6_round x1 x2 x3 x5 x6)) 0 0 (fun _ => False) := by
  generalize hv : f_X6_round x1 x2 x3 x5 x6 = F
  replace hv := hv.symm
  refine sm_mR (by decide) (Nat.le_of_ble_eq_true rfl) hj (eM_lay g ad) (fun p e s m args below meth c C hW hB ls hl => ?_)
  obtain ⟨hC, hr, hlocks⟩ := C
  have hx := hC.1
  have hb := hC.2.1
  have hts := hC.2.2.2.2
  have hown : s.vm.findClass RX6 = some m.cls := hC.2.2.2.1
  have hl : lv_has ls 16 [(0, .ref (ad 0)), (1, .int x1), (2, .int x2), (3, .long x3), (5, .int x5), (6, .int x6)] := hl
  refine lv_aload_n hx hb dX6_round_0 rfl (lv_at hl 0 rfl) ?_
  refine lv_iload_n hx hb dX6_round_1 rfl (lv_at hl 1 rfl) ?_
  refine sm_ci (sm_runV (rest := []) hC (c_X6_places l g ad hW.2.1 _ x1 σ) k_X6_places w_614 (by decide) (sm_pv hW hB (by decide) (eM_0 g ad _) rfl) rfl hl.1 rfl (Nat.le_of_ble_eq_true rfl) dX6_round_2) ?_
  refine sm_nmi hv (fun y5_1 ey5_1 hv => ?_)
  refine lv_istore (lv' := [(7, .int y5_1), (0, .ref (ad 0)), (1, .int x1), (2, .int x2), (3, .long x3), (5, .int x5), (6, .int x6)]) hx hb dX6_round_5 hl (by decide) rfl (fun ls hl => ?_)
  refine lv_aload_n hx hb dX6_round_7 rfl (lv_at hl 1 rfl) ?_
  refine lv_lload_n hx hb dX6_round_8 rfl (lv_at hl 4 rfl) ?_
  refine sm_ci (sm_runV (rest := []) hC (c_X6_lengthOf l g ad hW.2.1 _ x3 σ) k_X6_lengthOf w_664 (by decide) (sm_pv hW hB (by decide) (eM_0 g ad _) rfl) rfl hl.1 rfl (Nat.le_of_ble_eq_true rfl) dX6_round_9) ?_
  refine lv_iload hx hb dX6_round_12 (lv_at hl 5 rfl) ?_
  refine lv_iadd hx hb dX6_round_14 ?_
  refine lv_iload hx hb dX6_round_15 (lv_at hl 0 rfl) ?_
  refine lv_isub hx hb dX6_round_17 ?_
  refine sm_nmi hv (fun y18_2 ey18_2 hv => ?_)
  refine lv_istore (lv' := [(8, .int y18_2), (7, .int y5_1), (0, .ref (ad 0)), (1, .int x1), (2, .int x2), (3, .long x3), (5, .int x5), (6, .int x6)]) hx hb dX6_round_18 hl (by decide) rfl (fun ls hl => ?_)
  refine lv_iload hx hb dX6_round_20 (lv_at hl 0 rfl) ?_
  refine lv_aload_n hx hb dX6_round_22 rfl (lv_at hl 2 rfl) ?_
  refine lv_iload_n hx hb dX6_round_23 rfl (lv_at hl 3 rfl) ?_
  refine sm_ci (sm_runV (rest := [.int y18_2]) hC (c_X6_least l g ad hW.2.1 _ x1 σ) k_X6_least w_620 (by decide) (sm_pv hW hB (by decide) (eM_0 g ad _) rfl) rfl hl.1 rfl (Nat.le_of_ble_eq_true rfl) dX6_round_24) ?_
  have k_37 : ∀ (v8_37 : Int32) (ls : Array Slot), lv_has ls 16 [(0, .ref (ad 0)), (1, .int x1), (2, .int x2), (3, .long x3), (5, .int x5), (6, .int x6), (7, .int y5_1), (8, .int v8_37)] → F = f_X6_round_37 x1 x2 x3 x5 x6 y5_1 v8_37 → W p l e (rmd 1) s m args below meth c s.heap [] 0 0 (MQ below (vp_Sl (fun r => r = F)) args s 0 0 (fun _ => False)) (F0 m 37 ls []) := by
    intro v8_37 ls hl hv
    refine lv_iload hx hb dX6_round_37 (lv_at hl 7 rfl) ?_
    refine lv_iload hx hb dX6_round_39 (lv_at hl 4 rfl) ?_
    refine lv_isub hx hb dX6_round_41 ?_
    refine sm_nmi hv (fun y42_3 ey42_3 hv => ?_)
    refine lv_istore (lv' := [(9, .int y42_3), (0, .ref (ad 0)), (1, .int x1), (2, .int x2), (3, .long x3), (5, .int x5), (6, .int x6), (7, .int y5_1), (8, .int v8_37)]) hx hb dX6_round_42 hl (by decide) rfl (fun ls hl => ?_)
    refine lv_iload hx hb dX6_round_44 (lv_at hl 0 rfl) ?_
    have k_72 : ∀ (t0_72 : Int64) (ls : Array Slot), lv_has ls 16 [(0, .ref (ad 0)), (1, .int x1), (2, .int x2), (3, .long x3), (6, .int x6), (7, .int y5_1), (8, .int v8_37), (9, .int y42_3)] → F = f_X6_round_72 x1 x2 x3 x6 y5_1 v8_37 y42_3 t0_72 → W p l e (rmd 1) s m args below meth c s.heap [] 0 0 (MQ below (vp_Sl (fun r => r = F)) args s 0 0 (fun _ => False)) (F0 m 72 ls [.long t0_72]) := by
      intro t0_72 ls hl hv
      refine lv_lstore (lv' := [(10, .long t0_72), (0, .ref (ad 0)), (1, .int x1), (2, .int x2), (3, .long x3), (6, .int x6), (7, .int y5_1), (8, .int v8_37), (9, .int y42_3)]) hx hb dX6_round_72 hl (by decide) rfl (fun ls hl => ?_)
      refine lv_iload hx hb dX6_round_74 (lv_at hl 8 rfl) ?_
      have k_139 : ∀ (v10_139 : Int64) (ls : Array Slot), lv_has ls 16 [(0, .ref (ad 0)), (1, .int x1), (2, .int x2), (7, .int y5_1), (8, .int v8_37), (10, .long v10_139)] → F = f_X6_round_139 x1 x2 y5_1 v8_37 v10_139 → W p l e (rmd 1) s m args below meth c s.heap [] 0 0 (MQ below (vp_Sl (fun r => r = F)) args s 0 0 (fun _ => False)) (F0 m 139 ls []) := by
        intro v10_139 ls hl hv
        refine lv_lload hx hb dX6_round_139 (lv_at hl 5 rfl) ?_
        refine lv_lconst (v := 1) hx hb dX6_round_141 (by decide) ?_
        refine lv_iload hx hb dX6_round_142 (lv_at hl 3 rfl) ?_
        refine lv_lshl hx hb dX6_round_144 rfl ?_
        have k_158 : ∀ (v8_158 : Int32) (v10_158 : Int64) (ls : Array Slot), lv_has ls 16 [(0, .ref (ad 0)), (1, .int x1), (2, .int x2), (7, .int y5_1), (8, .int v8_158), (10, .long v10_158)] → F = f_X6_round_158 x1 x2 y5_1 v8_158 v10_158 → W p l e (rmd 1) s m args below meth c s.heap [] 0 0 (MQ below (vp_Sl (fun r => r = F)) args s 0 0 (fun _ => False)) (F0 m 158 ls []) := by
          intro v8_158 v10_158 ls hl hv
          refine lv_iload hx hb dX6_round_158 (lv_at hl 4 rfl) ?_
          refine lv_iload hx hb dX6_round_160 (lv_at hl 3 rfl) ?_
          refine lv_iadd hx hb dX6_round_162 ?_
          refine lv_iload_n hx hb dX6_round_163 rfl (lv_at hl 1 rfl) ?_
          have k_176 : ∀ (t0_176 : Int32) (t1_176 : Int32) (ls : Array Slot), lv_has ls 16 [(0, .ref (ad 0)), (1, .int x1), (2, .int x2), (7, .int y5_1), (8, .int v8_158), (10, .long v10_158)] → F = f_X6_round_176 x1 v10_158 x2 y5_1 v8_158 t0_176 t1_176 → W p l e (rmd 1) s m args below meth c s.heap [] 0 0 (MQ below (vp_Sl (fun r => r = F)) args s 0 0 (fun _ => False)) (F0 m 176 ls [.int t0_176, .int t1_176]) := by
            intro t0_176 t1_176 ls hl hv
            refine lv_icmp_le (tgt := 191) hx hb dX6_round_176 (by decide) (fun c176 => ?_) (fun c176 => ?_)
            · have hv := hv.trans (if_pos c176)
              refine lv_lload hx hb dX6_round_191 (lv_at hl 5 rfl) ?_
              refine lv_lconst (v := 1) hx hb dX6_round_193 (by decide) ?_
              refine lv_iload hx hb dX6_round_194 (lv_at hl 3 rfl) ?_
              refine lv_iconst (v := 1) hx hb dX6_round_196 (by decide) ?_
              refine lv_isub hx hb dX6_round_197 ?_
              refine lv_lshl hx hb dX6_round_198 rfl ?_
              have k_218 : ∀ (t0_218 : Int64) (ls : Array Slot), lv_has ls 16 [(0, .ref (ad 0)), (1, .int x1), (2, .int x2), (7, .int y5_1), (10, .long v10_158)] → F = f_X6_round_218 x1 v10_158 x2 y5_1 t0_218 → W p l e (rmd 1) s m args below meth c s.heap [] 0 0 (MQ below (vp_Sl (fun r => r = F)) args s 0 0 (fun _ => False)) (F0 m 218 ls [.long t0_218]) := by
                intro t0_218 ls hl hv
                refine lv_lstore (lv' := [(12, .long t0_218), (0, .ref (ad 0)), (1, .int x1), (2, .int x2), (7, .int y5_1), (10, .long v10_158)]) hx hb dX6_round_218 hl (by decide) rfl (fun ls hl => ?_)
                refine lv_aload_n hx hb dX6_round_220 rfl (lv_at hl 1 rfl) ?_
                refine lv_iload_n hx hb dX6_round_221 rfl (lv_at hl 2 rfl) ?_
                refine lv_iload_n hx hb dX6_round_222 rfl (lv_at hl 3 rfl) ?_
                refine lv_lload hx hb dX6_round_223 (lv_at hl 0 rfl) ?_
                refine lv_lconst (v := 0) hx hb dX6_round_225 (by decide) ?_
                have k_252 : ∀ (t0_252 : Int64) (ls : Array Slot), lv_has ls 16 [] → F = f_X6_round_252 x2 x1 t0_252 → W p l e (rmd 1) s m args below meth c s.heap [] 0 0 (MQ below (vp_Sl (fun r => r = F)) args s 0 0 (fun _ => False)) (F0 m 252 ls [.long t0_252, .int x2, .int x1, .ref (ad 0)]) := by
                  intro t0_252 ls hl hv
                  refine sm_cl (sm_runV (rest := []) hC (c_X6_signed l g ad hW.2.1 _ x1 x2 t0_252 σ) k_X6_signed w_674 (by decide) (sm_pv hW hB (by decide) (eM_0 g ad _) rfl) rfl hl.1 rfl (Nat.le_of_ble_eq_true rfl) dX6_round_252) ?_
                  exact sm_rl hx hb hr hlocks hv dX6_round_255
                refine lc_ne (tgt := 235) hx hb dX6_round_226 dX6_round_227 (by decide) (fun c226 => ?_) (fun c226 => ?_)
                · have hv := hv.trans (if_neg c226)
                  refine lv_lload hx hb dX6_round_235 (lv_at hl 0 rfl) ?_
                  refine lv_iload hx hb dX6_round_237 (lv_at hl 4 rfl) ?_
                  refine lv_iconst (v := 1) hx hb dX6_round_239 (by decide) ?_
                  refine lv_isub hx hb dX6_round_240 ?_
                  refine lv_lshl hx hb dX6_round_241 rfl ?_
                  refine lv_lload hx hb dX6_round_242 (lv_at hl 5 rfl) ?_
                  refine lv_lconst (v := 1) hx hb dX6_round_244 (by decide) ?_
                  refine lv_iload hx hb dX6_round_245 (lv_at hl 4 rfl) ?_
                  refine lv_iconst (v := 1) hx hb dX6_round_247 (by decide) ?_
                  refine lv_isub hx hb dX6_round_248 ?_
                  refine lv_lshl hx hb dX6_round_249 rfl ?_
                  refine lv_lsub hx hb dX6_round_250 ?_
                  refine lv_ladd hx hb dX6_round_251 ?_
                  exact k_252 ((t0_218 <<< (Int32.toInt64 (y5_1 - 1) &&& 63)) + (v10_158 - ((1 : Int64) <<< (Int32.toInt64 (y5_1 - 1) &&& 63)))) _ (lv_sub hl [] rfl) hv
                · have hv := hv.trans (if_pos c226)
                  refine lv_lload hx hb dX6_round_230 (lv_at hl 5 rfl) ?_
                  refine lv_goto (tgt := 252) hx hb dX6_round_232 (by decide) ?_
                  exact k_252 v10_158 _ (lv_sub hl [] rfl) hv
              refine lc_ge (tgt := 207) hx hb dX6_round_199 dX6_round_200 (by decide) (fun c199 => ?_) (fun c199 => ?_)
              · have hv := hv.trans (if_pos c199)
                refine lv_iload hx hb dX6_round_207 (lv_at hl 4 rfl) ?_
                refine lv_aload_n hx hb dX6_round_209 rfl (lv_at hl 0 rfl) ?_
                refine lv_iload_n hx hb dX6_round_210 rfl (lv_at hl 1 rfl) ?_
                refine sm_ci (sm_runV (rest := [.int v8_158]) hC (c_X6_least l g ad hW.2.1 _ x1 σ) k_X6_least w_620 (by decide) (sm_pv hW hB (by decide) (eM_0 g ad _) rfl) rfl hl.1 rfl (Nat.le_of_ble_eq_true rfl) dX6_round_211) ?_
                refine lv_isub hx hb dX6_round_214 ?_
                refine lv_iconst (v := 1) hx hb dX6_round_215 (by decide) ?_
                refine lv_iadd hx hb dX6_round_216 ?_
                refine lv_i2l hx hb dX6_round_217 rfl ?_
                exact k_218 (Int32.toInt64 ((v8_158 - (f_X6_least x1)) + 1)) _ (lv_sub hl [0, 1, 2, 3, 5] rfl) hv
              · have hv := hv.trans (if_neg c199)
                refine lv_lconst (v := 0) hx hb dX6_round_203 (by decide) ?_
                refine lv_goto (tgt := 218) hx hb dX6_round_204 (by decide) ?_
                exact k_218 0 _ (lv_sub hl [0, 1, 2, 3, 5] rfl) hv
            · have hv := hv.trans (if_neg c176)
              refine lv_aload_n hx hb dX6_round_179 rfl (lv_at hl 0 rfl) ?_
              refine lv_iload_n hx hb dX6_round_180 rfl (lv_at hl 1 rfl) ?_
              refine lv_iload_n hx hb dX6_round_181 rfl (lv_at hl 2 rfl) ?_
              refine lv_aload_n hx hb dX6_round_182 rfl (lv_at hl 0 rfl) ?_
              refine lv_iload_n hx hb dX6_round_183 rfl (lv_at hl 1 rfl) ?_
              refine sm_cl (sm_runV (rest := [.int x2, .int x1, .ref (ad 0)]) hC (c_X6_infinite l g ad hW.2.1 _ x1 σ) k_X6_infinite w_668 (by decide) (sm_pv hW hB (by decide) (eM_0 g ad _) rfl) rfl hl.1 rfl (Nat.le_of_ble_eq_true rfl) dX6_round_184) ?_
              refine sm_cl (sm_runV (rest := []) hC (c_X6_signed l g ad hW.2.1 _ x1 x2 (f_X6_infinite x1) σ) k_X6_signed w_674 (by decide) (sm_pv hW hB (by decide) (eM_0 g ad _) rfl) rfl hl.1 rfl (Nat.le_of_ble_eq_true rfl) dX6_round_187) ?_
              exact sm_rl hx hb hr hlocks hv dX6_round_190
          refine lv_if_eq (tgt := 173) hx hb dX6_round_164 (by decide) (fun c164 => ?_) (fun c164 => ?_)
          · have hv := hv.trans (if_pos c164)
            refine lv_sipush (v := 128) hx hb dX6_round_173 (by decide) ?_
            exact k_176 128 (v8_158 + y5_1) _ (lv_sub hl [0, 1, 2, 3, 4, 5] rfl) hv
          · have hv := hv.trans (if_neg c164)
            refine lv_sipush (v := 1024) hx hb dX6_round_167 (by decide) ?_
            refine lv_goto (tgt := 176) hx hb dX6_round_170 (by decide) ?_
            exact k_176 1024 (v8_158 + y5_1) _ (lv_sub hl [0, 1, 2, 3, 4, 5] rfl) hv
        refine lc_ne (tgt := 158) hx hb dX6_round_145 dX6_round_146 (by decide) (fun c145 => ?_) (fun c145 => ?_)
        · have hv := hv.trans (if_neg c145)
          exact k_158 v8_37 v10_139 _ (lv_sub hl [0, 1, 2, 3, 4, 5] rfl) hv
        · have hv := hv.trans (if_pos c145)
          refine lv_lload hx hb dX6_round_149 (lv_at hl 5 rfl) ?_
          refine lv_iconst (v := 1) hx hb dX6_round_151 (by decide) ?_
          refine lv_lshr hx hb dX6_round_152 rfl ?_
          refine sm_nml hv (fun y153_4 ey153_4 hv => ?_)
          refine lv_lstore (lv' := [(10, .long y153_4), (0, .ref (ad 0)), (1, .int x1), (2, .int x2), (7, .int y5_1), (8, .int v8_37)]) hx hb dX6_round_153 hl (by decide) rfl (fun ls hl => ?_)
          obtain ⟨y155_5, ey155_5, hv⟩ := sm_lt hv
          refine lv_iinc (v := y155_5) (lv' := [(8, .int y155_5), (10, .long y153_4), (0, .ref (ad 0)), (1, .int x1), (2, .int x2), (7, .int y5_1)]) hx hb dX6_round_155 hl (k := 5) rfl (by rw [ey155_5]; rfl) (by decide) rfl (fun ls hl => ?_)
          exact k_158 y155_5 y153_4 _ (lv_sub hl [2, 3, 4, 5, 0, 1] rfl) hv
      refine lv_if_le (tgt := 139) hx hb dX6_round_76 (by decide) (fun c76 => ?_) (fun c76 => ?_)
      · have hv := hv.trans (if_pos c76)
        exact k_139 t0_72 _ (lv_sub hl [1, 2, 3, 6, 7, 0] rfl) hv
      · have hv := hv.trans (if_neg c76)
        refine lv_iload hx hb dX6_round_79 (lv_at hl 8 rfl) ?_
        refine lv_bipush (v := 63) hx hb dX6_round_81 (by decide) ?_
        refine lv_icmp_ge (tgt := 139) hx hb dX6_round_83 (by decide) (fun c83 => ?_) (fun c83 => ?_)
        · have hv := hv.trans (if_pos c83)
          exact k_139 t0_72 _ (lv_sub hl [1, 2, 3, 6, 7, 0] rfl) hv
        · have hv := hv.trans (if_neg c83)
          refine lv_lload_n hx hb dX6_round_86 rfl (lv_at hl 4 rfl) ?_
          refine lv_lload hx hb dX6_round_87 (lv_at hl 0 rfl) ?_
          refine lv_iload hx hb dX6_round_89 (lv_at hl 8 rfl) ?_
          refine lv_lshl hx hb dX6_round_91 rfl ?_
          refine lv_lsub hx hb dX6_round_92 ?_
          refine sm_nml hv (fun y93_6 ey93_6 hv => ?_)
          refine lv_lstore (lv' := [(12, .long y93_6), (10, .long t0_72), (0, .ref (ad 0)), (1, .int x1), (2, .int x2), (3, .long x3), (6, .int x6), (7, .int y5_1), (8, .int v8_37), (9, .int y42_3)]) hx hb dX6_round_93 hl (by decide) rfl (fun ls hl => ?_)
          refine lv_lconst (v := 1) hx hb dX6_round_95 (by decide) ?_
          refine lv_iload hx hb dX6_round_96 (lv_at hl 9 rfl) ?_
          refine lv_iconst (v := 1) hx hb dX6_round_98 (by decide) ?_
          refine lv_isub hx hb dX6_round_99 ?_
          refine lv_lshl hx hb dX6_round_100 rfl ?_
          refine sm_nml hv (fun y101_7 ey101_7 hv => ?_)
          refine lv_lstore (lv' := [(14, .long y101_7), (12, .long y93_6), (10, .long t0_72), (0, .ref (ad 0)), (1, .int x1), (2, .int x2), (3, .long x3), (6, .int x6), (7, .int y5_1), (8, .int v8_37), (9, .int y42_3)]) hx hb dX6_round_101 hl (by decide) rfl (fun ls hl => ?_)
          refine lv_lload hx hb dX6_round_103 (lv_at hl 1 rfl) ?_
          refine lv_lload hx hb dX6_round_105 (lv_at hl 0 rfl) ?_
          have k_133 : ∀  (ls : Array Slot), lv_has ls 16 [(0, .ref (ad 0)), (1, .int x1), (2, .int x2), (7, .int y5_1), (8, .int v8_37), (10, .long t0_72)] → F = f_X6_round_133 x1 t0_72 x2 y5_1 v8_37 → W p l e (rmd 1) s m args below meth c s.heap [] 0 0 (MQ below (vp_Sl (fun r => r = F)) args s 0 0 (fun _ => False)) (F0 m 133 ls []) := by
            intro ls hl hv
            refine lv_lload hx hb dX6_round_133 (lv_at hl 5 rfl) ?_
            refine lv_lconst (v := 1) hx hb dX6_round_135 (by decide) ?_
            refine lv_ladd hx hb dX6_round_136 ?_
            refine sm_nml hv (fun y137_8 ey137_8 hv => ?_)
            refine lv_lstore (lv' := [(10, .long y137_8), (0, .ref (ad 0)), (1, .int x1), (2, .int x2), (7, .int y5_1), (8, .int v8_37)]) hx hb dX6_round_137 hl (by decide) rfl (fun ls hl => ?_)
            exact k_139 y137_8 _ (lv_sub hl [1, 2, 3, 4, 5, 0] rfl) hv
          refine lc_gt (tgt := 133) hx hb dX6_round_107 dX6_round_108 (by decide) (fun c107 => ?_) (fun c107 => ?_)
          · have hv := hv.trans (if_pos c107)
            exact k_133 _ (lv_sub hl [3, 4, 5, 8, 9, 2] rfl) hv
          · have hv := hv.trans (if_neg c107)
            refine lv_lload hx hb dX6_round_111 (lv_at hl 1 rfl) ?_
            refine lv_lload hx hb dX6_round_113 (lv_at hl 0 rfl) ?_
            refine lc_ne (tgt := 139) hx hb dX6_round_115 dX6_round_116 (by decide) (fun c115 => ?_) (fun c115 => ?_)
            · have hv := hv.trans (if_neg c115)
              exact k_139 t0_72 _ (lv_sub hl [3, 4, 5, 8, 9, 2] rfl) hv
            · have hv := hv.trans (if_pos c115)
              refine lv_iload hx hb dX6_round_119 (lv_at hl 7 rfl) ?_
              refine lv_if_ne (tgt := 133) hx hb dX6_round_121 (by decide) (fun c121 => ?_) (fun c121 => ?_)
              · have hv := hv.trans (if_neg c121)
                exact k_133 _ (lv_sub hl [3, 4, 5, 8, 9, 2] rfl) hv
              · have hv := hv.trans (if_pos c121)
                refine lv_lload hx hb dX6_round_124 (lv_at hl 2 rfl) ?_
                refine lv_lconst (v := 1) hx hb dX6_round_126 (by decide) ?_
                refine lv_land hx hb dX6_round_127 ?_
                refine lv_lconst (v := 1) hx hb dX6_round_128 (by decide) ?_
                refine lc_ne (tgt := 139) hx hb dX6_round_129 dX6_round_130 (by decide) (fun c129 => ?_) (fun c129 => ?_)
                · have hv := hv.trans (if_neg c129)
                  exact k_139 t0_72 _ (lv_sub hl [3, 4, 5, 8, 9, 2] rfl) hv
                · have hv := hv.trans (if_pos c129)
                  exact k_133 _ (lv_sub hl [3, 4, 5, 8, 9, 2] rfl) hv
    refine lv_if_gt (tgt := 57) hx hb dX6_round_46 (by decide) (fun c46 => ?_) (fun c46 => ?_)
    · have hv := hv.trans (if_pos c46)
      refine lv_iload hx hb dX6_round_57 (lv_at hl 0 rfl) ?_
      refine lv_bipush (v := 62) hx hb dX6_round_59 (by decide) ?_
      refine lv_icmp_le (tgt := 68) hx hb dX6_round_61 (by decide) (fun c61 => ?_) (fun c61 => ?_)
      · have hv := hv.trans (if_pos c61)
        refine lv_lload_n hx hb dX6_round_68 rfl (lv_at hl 4 rfl) ?_
        refine lv_iload hx hb dX6_round_69 (lv_at hl 0 rfl) ?_
        refine lv_lshr hx hb dX6_round_71 rfl ?_
        exact k_72 (x3 >>> (Int32.toInt64 y42_3 &&& 63)) _ (lv_sub hl [1, 2, 3, 4, 6, 7, 8, 0] rfl) hv
      · have hv := hv.trans (if_neg c61)
        refine lv_lconst (v := 0) hx hb dX6_round_64 (by decide) ?_
        refine lv_goto (tgt := 72) hx hb dX6_round_65 (by decide) ?_
        exact k_72 0 _ (lv_sub hl [1, 2, 3, 4, 6, 7, 8, 0] rfl) hv
    · have hv := hv.trans (if_neg c46)
      refine lv_lload_n hx hb dX6_round_49 rfl (lv_at hl 4 rfl) ?_
      refine lv_iload hx hb dX6_round_50 (lv_at hl 0 rfl) ?_
      refine lv_ineg hx hb dX6_round_52 ?_
      refine lv_lshl hx hb dX6_round_53 rfl ?_
      refine lv_goto (tgt := 72) hx hb dX6_round_54 (by decide) ?_
      exact k_72 (x3 <<< (Int32.toInt64 (-y42_3) &&& 63)) _ (lv_sub hl [1, 2, 3, 4, 6, 7, 8, 0] rfl) hv
  refine lv_icmp_ge (tgt := 37) hx hb dX6_round_27 (by decide) (fun c27 => ?_) (fun c27 => ?_)
  · have hv := hv.trans (if_pos c27)
    exact k_37 y18_2 _ (lv_sub hl [2, 3, 4, 5, 6, 7, 1, 0] rfl) hv
  · have hv := hv.trans (if_neg c27)
    refine lv_aload_n hx hb dX6_round_30 rfl (lv_at hl 2 rfl) ?_
    refine lv_iload_n hx hb dX6_round_31 rfl (lv_at hl 3 rfl) ?_
    refine sm_ci (sm_runV (rest := []) hC (c_X6_least l g ad hW.2.1 _ x1 σ) k_X6_least w_620 (by decide) (sm_pv hW hB (by decide) (eM_0 g ad _) rfl) rfl hl.1 rfl (Nat.le_of_ble_eq_true rfl) dX6_round_32) ?_
    refine sm_nmi hv (fun y35_9 ey35_9 hv => ?_)
    refine lv_istore (lv' := [(8, .int y35_9), (7, .int y5_1), (0, .ref (ad 0)), (1, .int x1), (2, .int x2), (3, .long x3), (5, .int x5), (6, .int x6)]) hx hb dX6_round_35 hl (by decide) rfl (fun ls hl => ?_)
    exact k_37 y35_9 _ (lv_sub hl [2, 3, 4, 5, 6, 7, 1, 0] rfl) hv
def f_X6_sum_35 (x1 : Int32) (u12_2 : sm_S) : Int64 × sm_S := (f_X6_none x1, u12_2)
def f_X6_sum_104 (x2 : Int64) (x4 : Int64) (u12_2 : sm_S) : Int64 × sm_S := if (u12_2.1 15 (Int32.toNatClampNeg 0)) = 2 then ((x2, u12_2)) else ((x4, u12_2))
def f_X6_sum_61 (x1 : Int32) (x2 : Int64) (x4 : Int64) (u12_2 : sm_S) : Int64 × sm_S := if (u12_2.1 15 (Int32.toNatClampNeg 0)) = 2 then (if (u12_2.1 15 (Int32.toNatClampNeg 1)) = 2 then (if (u12_2.1 17 (Int32.toNatClampNeg 0)) = (u12_2.1 17 (Int32.toNatClampNeg 1)) then (f_X6_sum_104 x2 x4 u12_2) else ((f_X6_none x1, u12_2))) else (f_X6_sum_104 x2 x4 u12_2)) else (f_X6_sum_104 x2 x4 u12_2)
def f_X6_sum_384 (x1 : Int32) (t0_316 : Int32) (t0_240 : Int32) (u186_4 : sm_S) (t0_384 : Int32) (t1_384 : Int64) : Int64 × sm_S := sm_let (t1_384 - (Int32.toInt64 t0_384)) (fun y386_7 => if y386_7 = 0 then ((0, u186_4)) else ((f_X6_round x1 (u186_4.1 17 (Int32.toNatClampNeg t0_240)) y386_7 (u186_4.1 16 (Int32.toNatClampNeg t0_240)) t0_316, u186_4)))
def f_X6_sum_316 (x1 : Int32) (t0_240 : Int32) (t0_286 : Int64) (u186_4 : sm_S) (t0_316 : Int32) : Int64 × sm_S := if (u186_4.1 17 (Int32.toNatClampNeg 0)) = (u186_4.1 17 (Int32.toNatClampNeg 1)) then ((f_X6_round x1 (u186_4.1 17 (Int32.toNatClampNeg 0)) ((u186_4.2.1 18 (Int32.toNatClampNeg t0_240)) + t0_286) (u186_4.1 16 (Int32.toNatClampNeg t0_240)) t0_316, u186_4)) else (if t0_316 = 0 then (f_X6_sum_384 x1 t0_316 t0_240 u186_4 0 ((u186_4.2.1 18 (Int32.toNatClampNeg t0_240)) - t0_286)) else (f_X6_sum_384 x1 t0_316 t0_240 u186_4 1 ((u186_4.2.1 18 (Int32.toNatClampNeg t0_240)) - t0_286)))
def f_X6_sum_311 (x1 : Int32) (t0_240 : Int32) (t0_286 : Int64) (u186_4 : sm_S) : Int64 × sm_S := f_X6_sum_316 x1 t0_240 t0_286 u186_4 1
def f_X6_sum_286 (x1 : Int32) (t0_240 : Int32) (y246_5 : Int32) (y263_6 : Int32) (u186_4 : sm_S) (t0_286 : Int64) : Int64 × sm_S := if 62 < y263_6 then (f_X6_sum_311 x1 t0_240 t0_286 u186_4) else (if (t0_286 <<< (Int32.toInt64 y263_6 &&& 63)) = (u186_4.2.1 18 (Int32.toNatClampNeg y246_5)) then (f_X6_sum_316 x1 t0_240 t0_286 u186_4 0) else (f_X6_sum_311 x1 t0_240 t0_286 u186_4))
def f_X6_sum_240 (x1 : Int32) (u186_4 : sm_S) (t0_240 : Int32) : Int64 × sm_S := sm_let ((1 : Int32) - t0_240) (fun y246_5 => sm_let ((u186_4.1 16 (Int32.toNatClampNeg t0_240)) - (u186_4.1 16 (Int32.toNatClampNeg y246_5))) (fun y263_6 => if y263_6 ≤ 62 then (f_X6_sum_286 x1 t0_240 y246_5 y263_6 u186_4 ((u186_4.2.1 18 (Int32.toNatClampNeg y246_5)) >>> (Int32.toInt64 y263_6 &&& 63))) else (f_X6_sum_286 x1 t0_240 y246_5 y263_6 u186_4 0)))
def f_X6_sum_235 (x1 : Int32) (u186_4 : sm_S) : Int64 × sm_S := f_X6_sum_240 x1 u186_4 0
def f_X6_sum_239 (x1 : Int32) (u186_4 : sm_S) : Int64 × sm_S := f_X6_sum_240 x1 u186_4 1
def f_X6_sum (σ : sm_S) (x1 : Int32) (x2 : Int64) (x4 : Int64) : Int64 × sm_S := sm_let (f_X6_take σ 0 x2 x1) (fun u4_1 => sm_let (f_X6_take u4_1 1 x4 x1) (fun u12_2 => if (u12_2.1 15 (Int32.toNatClampNeg 0)) = 3 then (f_X6_sum_35 x1 u12_2) else (if (u12_2.1 15 (Int32.toNatClampNeg 1)) = 3 then (f_X6_sum_35 x1 u12_2) else (if (u12_2.1 15 (Int32.toNatClampNeg 0)) = 2 then (f_X6_sum_61 x1 x2 x4 u12_2) else (if (u12_2.1 15 (Int32.toNatClampNeg 1)) = 2 then (f_X6_sum_61 x1 x2 x4 u12_2) else (if (u12_2.1 15 (Int32.toNatClampNeg 0)) = 0 then (if (u12_2.1 15 (Int32.toNatClampNeg 1)) = 0 then (if (u12_2.1 17 (Int32.toNatClampNeg 0)) = 0 then ((0, u12_2)) else (if (u12_2.1 17 (Int32.toNatClampNeg 1)) = 0 then ((0, u12_2)) else ((x2, u12_2)))) else ((x4, u12_2))) else (if (u12_2.1 15 (Int32.toNatClampNeg 1)) = 0 then ((x2, u12_2)) else (sm_let (f_X6_spread u12_2 0) (fun u181_3 => sm_let (f_X6_spread u181_3 1) (fun u186_4 => if (u186_4.1 16 (Int32.toNatClampNeg 1)) < (u186_4.1 16 (Int32.toNatClampNeg 0)) then (f_X6_sum_235 x1 u186_4) else (if (u186_4.1 16 (Int32.toNatClampNeg 0)) = (u186_4.1 16 (Int32.toNatClampNeg 1)) then (if (u186_4.2.1 18 (Int32.toNatClampNeg 0)) < (u186_4.2.1 18 (Int32.toNatClampNeg 1)) then (f_X6_sum_239 x1 u186_4) else (f_X6_sum_235 x1 u186_4)) else (f_X6_sum_239 x1 u186_4))))))))))))
set_option maxRecDepth 100000 in
set_option maxHeartbeats 4000000 in
theorem c_X6_sum (l : Launch) (g : sm_G) (ad : Nat → Nat) (hj : sm_inj 19 ad) (sz : Nat) (σ : sm_S) (x1 : Int32) (x2 : Int64) (x4 : Int64)   : Met l yX6_sum (sm_ws yX6_sum cX6_sum 14 (some .long)) (rmd 2) (va_Pc [.ref (ad 0), .int x1, .long x2, .long x4] (sm_Pre g 19 ad (eM g ad) σ sz)) (sm_Ql g 19 ad (eM g ad) sz (f_X6_sum σ x1 x2 x4)) 0 0 (sm_AX 19 ad sz) := by
  generalize hv : f_X6_sum σ x1 x2 x4 = F
  replace hv := hv.symm
  refine sm_mWl (by decide) (Nat.le_of_ble_eq_true rfl) hj (eM_lay g ad) (fun p e s m args below meth c C hW hB ls hl => ?_)
  obtain ⟨hC, hr, hlocks⟩ := C
  have hx := hC.1
  have hb := hC.2.1
  have hts := hC.2.2.2.2
  have hown : s.vm.findClass RX6 = some m.cls := hC.2.2.2.1
  have hl : lv_has ls 14 [(0, .ref (ad 0)), (1, .int x1), (2, .long x2), (4, .long x4)] := hl
  refine lv_aload_n hx hb dX6_sum_0 rfl (lv_at hl 0 rfl) ?_
  refine lv_iconst (v := 0) hx hb dX6_sum_1 (by decide) ?_
  refine lv_lload_n hx hb dX6_sum_2 rfl (lv_at hl 2 rfl) ?_
  refine lv_iload_n hx hb dX6_sum_3 rfl (lv_at hl 1 rfl) ?_
  refine sw_cvn hv hB (sm_runV (rest := []) hC (c_X6_take l g ad hW.2.1 _ σ 0 x2 x1 (in_lit (by decide +kernel))) k_X6_take w_610 (by decide) (sm_pv hW hB (by decide) (eM_0 g ad _) rfl) rfl hl.1 rfl (Nat.le_of_ble_eq_true rfl) dX6_sum_4) (fun u4_1 eu4_1 hv H locs hB => ?_)
  refine lv_aload_n hx hb dX6_sum_7 rfl (lv_at hl 0 rfl) ?_
  refine lv_iconst (v := 1) hx hb dX6_sum_8 (by decide) ?_
  refine lv_lload hx hb dX6_sum_9 (lv_at hl 3 rfl) ?_
  refine lv_iload_n hx hb dX6_sum_11 rfl (lv_at hl 1 rfl) ?_
  refine sw_cvn hv hB (sm_runV (rest := []) hC (c_X6_take l g ad hW.2.1 _ u4_1 1 x4 x1 (in_lit (by decide +kernel))) k_X6_take w_610 (by decide) (sm_pv hW hB (by decide) (eM_0 g ad _) rfl) rfl hl.1 rfl (Nat.le_of_ble_eq_true rfl) dX6_sum_12) (fun u12_2 eu12_2 hv H locs hB => ?_)
  refine lv_aload_n hx hb dX6_sum_15 rfl (lv_at hl 0 rfl) ?_
  refine fg_RX6_64 hx hb hts hown hW hB dX6_sum_16 ?_
  refine lv_iconst (v := 0) hx hb dX6_sum_19 (by decide) ?_
  refine sw_ia hx hb hW hB (15) (by decide) (eM_15 g ad) (in_lit (by decide +kernel)) dX6_sum_20 ?_
  refine lv_iconst (v := 3) hx hb dX6_sum_21 (by decide) ?_
  have k_35 : ∀  (ls : Array Slot), lv_has ls 14 [(0, .ref (ad 0)), (1, .int x1)] → F = f_X6_sum_35 x1 u12_2 → W p l e (rmd 2) s m args below meth c H locs 0 0 (MQ below (sm_Ql g 19 ad (eM g ad) s.heap.size F) args s 0 0 (sm_AX 19 ad s.heap.size)) (F0 m 35 ls []) := by
    intro ls hl hv
    refine lv_aload_n hx hb dX6_sum_35 rfl (lv_at hl 0 rfl) ?_
    refine lv_iload_n hx hb dX6_sum_36 rfl (lv_at hl 1 rfl) ?_
    refine sm_cl (sm_runV (rest := []) hC (c_X6_none l g ad hW.2.1 _ x1 u12_2) k_X6_none w_624 (by decide) (sm_pv hW hB (by decide) (eM_0 g ad _) rfl) rfl hl.1 rfl (Nat.le_of_ble_eq_true rfl) dX6_sum_37) ?_
    exact sw_rl hx hb hr hlocks hB hv dX6_sum_40
  refine lv_icmp_eq (tgt := 35) hx hb dX6_sum_22 (by decide) (fun c22 => ?_) (fun c22 => ?_)
  · have hv := hv.trans (if_pos c22)
    exact k_35 _ (lv_sub hl [0, 1] rfl) hv
  · have hv := hv.trans (if_neg c22)
    refine lv_aload_n hx hb dX6_sum_25 rfl (lv_at hl 0 rfl) ?_
    refine fg_RX6_64 hx hb hts hown hW hB dX6_sum_26 ?_
    refine lv_iconst (v := 1) hx hb dX6_sum_29 (by decide) ?_
    refine sw_ia hx hb hW hB (15) (by decide) (eM_15 g ad) (in_lit (by decide +kernel)) dX6_sum_30 ?_
    refine lv_iconst (v := 3) hx hb dX6_sum_31 (by decide) ?_
    refine lv_icmp_ne (tgt := 41) hx hb dX6_sum_32 (by decide) (fun c32 => ?_) (fun c32 => ?_)
    · have hv := hv.trans (if_neg c32)
      refine lv_aload_n hx hb dX6_sum_41 rfl (lv_at hl 0 rfl) ?_
      refine fg_RX6_64 hx hb hts hown hW hB dX6_sum_42 ?_
      refine lv_iconst (v := 0) hx hb dX6_sum_45 (by decide) ?_
      refine sw_ia hx hb hW hB (15) (by decide) (eM_15 g ad) (in_lit (by decide +kernel)) dX6_sum_46 ?_
      refine lv_iconst (v := 2) hx hb dX6_sum_47 (by decide) ?_
      have k_61 : ∀  (ls : Array Slot), lv_has ls 14 [(0, .ref (ad 0)), (1, .int x1), (2, .long x2), (4, .long x4)] → F = f_X6_sum_61 x1 x2 x4 u12_2 → W p l e (rmd 2) s m args below meth c H locs 0 0 (MQ below (sm_Ql g 19 ad (eM g ad) s.heap.size F) args s 0 0 (sm_AX 19 ad s.heap.size)) (F0 m 61 ls []) := by
        intro ls hl hv
        refine lv_aload_n hx hb dX6_sum_61 rfl (lv_at hl 0 rfl) ?_
        refine fg_RX6_64 hx hb hts hown hW hB dX6_sum_62 ?_
        refine lv_iconst (v := 0) hx hb dX6_sum_65 (by decide) ?_
        refine sw_ia hx hb hW hB (15) (by decide) (eM_15 g ad) (in_lit (by decide +kernel)) dX6_sum_66 ?_
        refine lv_iconst (v := 2) hx hb dX6_sum_67 (by decide) ?_
        have k_104 : ∀  (ls : Array Slot), lv_has ls 14 [(0, .ref (ad 0)), (2, .long x2), (4, .long x4)] → F = f_X6_sum_104 x2 x4 u12_2 → W p l e (rmd 2) s m args below meth c H locs 0 0 (MQ below (sm_Ql g 19 ad (eM g ad) s.heap.size F) args s 0 0 (sm_AX 19 ad s.heap.size)) (F0 m 104 ls []) := by
          intro ls hl hv
          refine lv_aload_n hx hb dX6_sum_104 rfl (lv_at hl 0 rfl) ?_
          refine fg_RX6_64 hx hb hts hown hW hB dX6_sum_105 ?_
          refine lv_iconst (v := 0) hx hb dX6_sum_108 (by decide) ?_
          refine sw_ia hx hb hW hB (15) (by decide) (eM_15 g ad) (in_lit (by decide +kernel)) dX6_sum_109 ?_
          refine lv_iconst (v := 2) hx hb dX6_sum_110 (by decide) ?_
          refine lv_icmp_ne (tgt := 118) hx hb dX6_sum_111 (by decide) (fun c111 => ?_) (fun c111 => ?_)
          · have hv := hv.trans (if_neg c111)
            refine lv_lload hx hb dX6_sum_118 (lv_at hl 2 rfl) ?_
            exact sw_rl hx hb hr hlocks hB hv dX6_sum_120
          · have hv := hv.trans (if_pos c111)
            refine lv_lload_n hx hb dX6_sum_114 rfl (lv_at hl 1 rfl) ?_
            refine lv_goto (tgt := 120) hx hb dX6_sum_115 (by decide) ?_
            exact sw_rl hx hb hr hlocks hB hv dX6_sum_120
        refine lv_icmp_ne (tgt := 104) hx hb dX6_sum_68 (by decide) (fun c68 => ?_) (fun c68 => ?_)
        · have hv := hv.trans (if_neg c68)
          exact k_104 _ (lv_sub hl [0, 2, 3] rfl) hv
        · have hv := hv.trans (if_pos c68)
          refine lv_aload_n hx hb dX6_sum_71 rfl (lv_at hl 0 rfl) ?_
          refine fg_RX6_64 hx hb hts hown hW hB dX6_sum_72 ?_
          refine lv_iconst (v := 1) hx hb dX6_sum_75 (by decide) ?_
          refine sw_ia hx hb hW hB (15) (by decide) (eM_15 g ad) (in_lit (by decide +kernel)) dX6_sum_76 ?_
          refine lv_iconst (v := 2) hx hb dX6_sum_77 (by decide) ?_
          refine lv_icmp_ne (tgt := 104) hx hb dX6_sum_78 (by decide) (fun c78 => ?_) (fun c78 => ?_)
          · have hv := hv.trans (if_neg c78)
            exact k_104 _ (lv_sub hl [0, 2, 3] rfl) hv
          · have hv := hv.trans (if_pos c78)
            refine lv_aload_n hx hb dX6_sum_81 rfl (lv_at hl 0 rfl) ?_
            refine fg_RX6_70 hx hb hts hown hW hB dX6_sum_82 ?_
            refine lv_iconst (v := 0) hx hb dX6_sum_85 (by decide) ?_
            refine sw_za hx hb hW hB (17) (by decide) (eM_17 g ad) (in_lit (by decide +kernel)) dX6_sum_86 ?_
            refine lv_aload_n hx hb dX6_sum_87 rfl (lv_at hl 0 rfl) ?_
            refine fg_RX6_70 hx hb hts hown hW hB dX6_sum_88 ?_
            refine lv_iconst (v := 1) hx hb dX6_sum_91 (by decide) ?_
            refine sw_za hx hb hW hB (17) (by decide) (eM_17 g ad) (in_lit (by decide +kernel)) dX6_sum_92 ?_
            refine lv_icmp_eq (tgt := 104) hx hb dX6_sum_93 (by decide) (fun c93 => ?_) (fun c93 => ?_)
            · have hv := hv.trans (if_pos c93)
              exact k_104 _ (lv_sub hl [0, 2, 3] rfl) hv
            · have hv := hv.trans (if_neg c93)
              refine lv_aload_n hx hb dX6_sum_96 rfl (lv_at hl 0 rfl) ?_
              refine lv_iload_n hx hb dX6_sum_97 rfl (lv_at hl 1 rfl) ?_
              refine sm_cl (sm_runV (rest := []) hC (c_X6_none l g ad hW.2.1 _ x1 u12_2) k_X6_none w_624 (by decide) (sm_pv hW hB (by decide) (eM_0 g ad _) rfl) rfl hl.1 rfl (Nat.le_of_ble_eq_true rfl) dX6_sum_98) ?_
              refine lv_goto (tgt := 120) hx hb dX6_sum_101 (by decide) ?_
              exact sw_rl hx hb hr hlocks hB hv dX6_sum_120
      refine lv_icmp_eq (tgt := 61) hx hb dX6_sum_48 (by decide) (fun c48 => ?_) (fun c48 => ?_)
      · have hv := hv.trans (if_pos c48)
        exact k_61 _ (lv_sub hl [0, 1, 2, 3] rfl) hv
      · have hv := hv.trans (if_neg c48)
        refine lv_aload_n hx hb dX6_sum_51 rfl (lv_at hl 0 rfl) ?_
        refine fg_RX6_64 hx hb hts hown hW hB dX6_sum_52 ?_
        refine lv_iconst (v := 1) hx hb dX6_sum_55 (by decide) ?_
        refine sw_ia hx hb hW hB (15) (by decide) (eM_15 g ad) (in_lit (by decide +kernel)) dX6_sum_56 ?_
        refine lv_iconst (v := 2) hx hb dX6_sum_57 (by decide) ?_
        refine lv_icmp_ne (tgt := 121) hx hb dX6_sum_58 (by decide) (fun c58 => ?_) (fun c58 => ?_)
        · have hv := hv.trans (if_neg c58)
          refine lv_aload_n hx hb dX6_sum_121 rfl (lv_at hl 0 rfl) ?_
          refine fg_RX6_64 hx hb hts hown hW hB dX6_sum_122 ?_
          refine lv_iconst (v := 0) hx hb dX6_sum_125 (by decide) ?_
          refine sw_ia hx hb hW hB (15) (by decide) (eM_15 g ad) (in_lit (by decide +kernel)) dX6_sum_126 ?_
          refine lv_if_ne (tgt := 168) hx hb dX6_sum_127 (by decide) (fun c127 => ?_) (fun c127 => ?_)
          · have hv := hv.trans (if_neg c127)
            refine lv_aload_n hx hb dX6_sum_168 rfl (lv_at hl 0 rfl) ?_
            refine fg_RX6_64 hx hb hts hown hW hB dX6_sum_169 ?_
            refine lv_iconst (v := 1) hx hb dX6_sum_172 (by decide) ?_
            refine sw_ia hx hb hW hB (15) (by decide) (eM_15 g ad) (in_lit (by decide +kernel)) dX6_sum_173 ?_
            refine lv_if_ne (tgt := 179) hx hb dX6_sum_174 (by decide) (fun c174 => ?_) (fun c174 => ?_)
            · have hv := hv.trans (if_neg c174)
              refine lv_aload_n hx hb dX6_sum_179 rfl (lv_at hl 0 rfl) ?_
              refine lv_iconst (v := 0) hx hb dX6_sum_180 (by decide) ?_
              refine sw_cvn hv hB (sm_runV (rest := []) hC (c_X6_spread l g ad hW.2.1 _ u12_2 0 (in_lit (by decide +kernel))) k_X6_spread w_722 (by decide) (sm_pv hW hB (by decide) (eM_0 g ad _) rfl) rfl hl.1 rfl (Nat.le_of_ble_eq_true rfl) dX6_sum_181) (fun u181_3 eu181_3 hv H locs hB => ?_)
              refine lv_aload_n hx hb dX6_sum_184 rfl (lv_at hl 0 rfl) ?_
              refine lv_iconst (v := 1) hx hb dX6_sum_185 (by decide) ?_
              refine sw_cvn hv hB (sm_runV (rest := []) hC (c_X6_spread l g ad hW.2.1 _ u181_3 1 (in_lit (by decide +kernel))) k_X6_spread w_722 (by decide) (sm_pv hW hB (by decide) (eM_0 g ad _) rfl) rfl hl.1 rfl (Nat.le_of_ble_eq_true rfl) dX6_sum_186) (fun u186_4 eu186_4 hv H locs hB => ?_)
              refine lv_aload_n hx hb dX6_sum_189 rfl (lv_at hl 0 rfl) ?_
              refine fg_RX6_67 hx hb hts hown hW hB dX6_sum_190 ?_
              refine lv_iconst (v := 0) hx hb dX6_sum_193 (by decide) ?_
              refine sw_ia hx hb hW hB (16) (by decide) (eM_16 g ad) (in_lit (by decide +kernel)) dX6_sum_194 ?_
              refine lv_aload_n hx hb dX6_sum_195 rfl (lv_at hl 0 rfl) ?_
              refine fg_RX6_67 hx hb hts hown hW hB dX6_sum_196 ?_
              refine lv_iconst (v := 1) hx hb dX6_sum_199 (by decide) ?_
              refine sw_ia hx hb hW hB (16) (by decide) (eM_16 g ad) (in_lit (by decide +kernel)) dX6_sum_200 ?_
              have k_240 : ∀ (t0_240 : Int32) (ls : Array Slot), vp_in t0_240 2 → lv_has ls 14 [(0, .ref (ad 0)), (1, .int x1)] → F = f_X6_sum_240 x1 u186_4 t0_240 → W p l e (rmd 2) s m args below meth c H locs 0 0 (MQ below (sm_Ql g 19 ad (eM g ad) s.heap.size F) args s 0 0 (sm_AX 19 ad s.heap.size)) (F0 m 240 ls [.int t0_240]) := by
                intro t0_240 ls hb2 hl hv
                refine lv_istore (lv' := [(6, .int t0_240), (0, .ref (ad 0)), (1, .int x1)]) hx hb dX6_sum_240 hl (by decide) rfl (fun ls hl => ?_)
                refine lv_iconst (v := 1) hx hb dX6_sum_242 (by decide) ?_
                refine lv_iload hx hb dX6_sum_243 (lv_at hl 0 rfl) ?_
                refine lv_isub hx hb dX6_sum_245 ?_
                refine sm_nmi hv (fun y246_5 ey246_5 hv => ?_)
                refine lv_istore (lv' := [(7, .int y246_5), (6, .int t0_240), (0, .ref (ad 0)), (1, .int x1)]) hx hb dX6_sum_246 hl (by decide) rfl (fun ls hl => ?_)
                refine lv_aload_n hx hb dX6_sum_248 rfl (lv_at hl 2 rfl) ?_
                refine fg_RX6_67 hx hb hts hown hW hB dX6_sum_249 ?_
                refine lv_iload hx hb dX6_sum_252 (lv_at hl 1 rfl) ?_
                refine sw_ia hx hb hW hB (16) (by decide) (eM_16 g ad) hb2 dX6_sum_254 ?_
                refine lv_aload_n hx hb dX6_sum_255 rfl (lv_at hl 2 rfl) ?_
                refine fg_RX6_67 hx hb hts hown hW hB dX6_sum_256 ?_
                refine lv_iload hx hb dX6_sum_259 (lv_at hl 0 rfl) ?_
                refine sw_ia hx hb hW hB (16) (by decide) (eM_16 g ad) (by rw [ey246_5]; exact in_flip hb2) dX6_sum_261 ?_
                refine lv_isub hx hb dX6_sum_262 ?_
                refine sm_nmi hv (fun y263_6 ey263_6 hv => ?_)
                refine lv_istore (lv' := [(8, .int y263_6), (7, .int y246_5), (6, .int t0_240), (0, .ref (ad 0)), (1, .int x1)]) hx hb dX6_sum_263 hl (by decide) rfl (fun ls hl => ?_)
                refine lv_iload hx hb dX6_sum_265 (lv_at hl 0 rfl) ?_
                refine lv_bipush (v := 62) hx hb dX6_sum_267 (by decide) ?_
                have k_286 : ∀ (t0_286 : Int64) (ls : Array Slot), lv_has ls 14 [(0, .ref (ad 0)), (1, .int x1), (6, .int t0_240), (7, .int y246_5), (8, .int y263_6)] → F = f_X6_sum_286 x1 t0_240 y246_5 y263_6 u186_4 t0_286 → W p l e (rmd 2) s m args below meth c H locs 0 0 (MQ below (sm_Ql g 19 ad (eM g ad) s.heap.size F) args s 0 0 (sm_AX 19 ad s.heap.size)) (F0 m 286 ls [.long t0_286]) := by
                  intro t0_286 ls hl hv
                  refine lv_lstore (lv' := [(9, .long t0_286), (0, .ref (ad 0)), (1, .int x1), (6, .int t0_240), (7, .int y246_5), (8, .int y263_6)]) hx hb dX6_sum_286 hl (by decide) rfl (fun ls hl => ?_)
                  refine lv_iload hx hb dX6_sum_288 (lv_at hl 5 rfl) ?_
                  refine lv_bipush (v := 62) hx hb dX6_sum_290 (by decide) ?_
                  have k_316 : ∀ (t0_316 : Int32) (ls : Array Slot), lv_has ls 14 [(0, .ref (ad 0)), (1, .int x1), (6, .int t0_240), (9, .long t0_286)] → F = f_X6_sum_316 x1 t0_240 t0_286 u186_4 t0_316 → W p l e (rmd 2) s m args below meth c H locs 0 0 (MQ below (sm_Ql g 19 ad (eM g ad) s.heap.size F) args s 0 0 (sm_AX 19 ad s.heap.size)) (F0 m 316 ls [.int t0_316]) := by
                    intro t0_316 ls hl hv
                    refine lv_istore (lv' := [(11, .int t0_316), (0, .ref (ad 0)), (1, .int x1), (6, .int t0_240), (9, .long t0_286)]) hx hb dX6_sum_316 hl (by decide) rfl (fun ls hl => ?_)
                    refine lv_aload_n hx hb dX6_sum_318 rfl (lv_at hl 1 rfl) ?_
                    refine fg_RX6_70 hx hb hts hown hW hB dX6_sum_319 ?_
                    refine lv_iconst (v := 0) hx hb dX6_sum_322 (by decide) ?_
                    refine sw_za hx hb hW hB (17) (by decide) (eM_17 g ad) (in_lit (by decide +kernel)) dX6_sum_323 ?_
                    refine lv_aload_n hx hb dX6_sum_324 rfl (lv_at hl 1 rfl) ?_
                    refine fg_RX6_70 hx hb hts hown hW hB dX6_sum_325 ?_
                    refine lv_iconst (v := 1) hx hb dX6_sum_328 (by decide) ?_
                    refine sw_za hx hb hW hB (17) (by decide) (eM_17 g ad) (in_lit (by decide +kernel)) dX6_sum_329 ?_
                    refine lv_icmp_ne (tgt := 364) hx hb dX6_sum_330 (by decide) (fun c330 => ?_) (fun c330 => ?_)
                    · have hv := hv.trans (if_neg c330)
                      refine lv_aload_n hx hb dX6_sum_364 rfl (lv_at hl 1 rfl) ?_
                      refine fg_RX6_73 hx hb hts hown hW hB dX6_sum_365 ?_
                      refine lv_iload hx hb dX6_sum_368 (lv_at hl 3 rfl) ?_
                      refine sw_la hx hb hW hB (18) (by decide) (eM_18 g ad) hb2 dX6_sum_370 ?_
                      refine lv_lload hx hb dX6_sum_371 (lv_at hl 4 rfl) ?_
                      refine lv_lsub hx hb dX6_sum_373 ?_
                      refine lv_iload hx hb dX6_sum_374 (lv_at hl 0 rfl) ?_
                      have k_384 : ∀ (t0_384 : Int32) (t1_384 : Int64) (ls : Array Slot), lv_has ls 14 [(0, .ref (ad 0)), (1, .int x1), (6, .int t0_240), (11, .int t0_316)] → F = f_X6_sum_384 x1 t0_316 t0_240 u186_4 t0_384 t1_384 → W p l e (rmd 2) s m args below meth c H locs 0 0 (MQ below (sm_Ql g 19 ad (eM g ad) s.heap.size F) args s 0 0 (sm_AX 19 ad s.heap.size)) (F0 m 384 ls [.int t0_384, .long t1_384]) := by
                        intro t0_384 t1_384 ls hl hv
                        refine lv_i2l hx hb dX6_sum_384 rfl ?_
                        refine lv_lsub hx hb dX6_sum_385 ?_
                        refine sm_nml hv (fun y386_7 ey386_7 hv => ?_)
                        refine lv_lstore (lv' := [(12, .long y386_7), (0, .ref (ad 0)), (1, .int x1), (6, .int t0_240), (11, .int t0_316)]) hx hb dX6_sum_386 hl (by decide) rfl (fun ls hl => ?_)
                        refine lv_lload hx hb dX6_sum_388 (lv_at hl 0 rfl) ?_
                        refine lv_lconst (v := 0) hx hb dX6_sum_390 (by decide) ?_
                        refine lc_ne (tgt := 399) hx hb dX6_sum_391 dX6_sum_392 (by decide) (fun c391 => ?_) (fun c391 => ?_)
                        · have hv := hv.trans (if_neg c391)
                          refine lv_aload_n hx hb dX6_sum_399 rfl (lv_at hl 1 rfl) ?_
                          refine lv_iload_n hx hb dX6_sum_400 rfl (lv_at hl 2 rfl) ?_
                          refine lv_aload_n hx hb dX6_sum_401 rfl (lv_at hl 1 rfl) ?_
                          refine fg_RX6_70 hx hb hts hown hW hB dX6_sum_402 ?_
                          refine lv_iload hx hb dX6_sum_405 (lv_at hl 3 rfl) ?_
                          refine sw_za hx hb hW hB (17) (by decide) (eM_17 g ad) hb2 dX6_sum_407 ?_
                          refine lv_lload hx hb dX6_sum_408 (lv_at hl 0 rfl) ?_
                          refine lv_aload_n hx hb dX6_sum_410 rfl (lv_at hl 1 rfl) ?_
                          refine fg_RX6_67 hx hb hts hown hW hB dX6_sum_411 ?_
                          refine lv_iload hx hb dX6_sum_414 (lv_at hl 3 rfl) ?_
                          refine sw_ia hx hb hW hB (16) (by decide) (eM_16 g ad) hb2 dX6_sum_416 ?_
                          refine lv_iload hx hb dX6_sum_417 (lv_at hl 4 rfl) ?_
                          refine sm_cl (sm_runV (rest := []) hC (c_X6_round l g ad hW.2.1 _ x1 (u186_4.1 17 (Int32.toNatClampNeg t0_240)) y386_7 (u186_4.1 16 (Int32.toNatClampNeg t0_240)) t0_316 u186_4) k_X6_round w_660 (by decide) (sm_pv hW hB (by decide) (eM_0 g ad _) rfl) rfl hl.1 rfl (Nat.le_of_ble_eq_true rfl) dX6_sum_419) ?_
                          exact sw_rl hx hb hr hlocks hB hv dX6_sum_422
                        · have hv := hv.trans (if_pos c391)
                          refine lv_lconst (v := 0) hx hb dX6_sum_395 (by decide) ?_
                          refine lv_goto (tgt := 422) hx hb dX6_sum_396 (by decide) ?_
                          exact sw_rl hx hb hr hlocks hB hv dX6_sum_422
                      refine lv_if_eq (tgt := 383) hx hb dX6_sum_376 (by decide) (fun c376 => ?_) (fun c376 => ?_)
                      · have hv := hv.trans (if_pos c376)
                        refine lv_iconst (v := 0) hx hb dX6_sum_383 (by decide) ?_
                        exact k_384 0 ((u186_4.2.1 18 (Int32.toNatClampNeg t0_240)) - t0_286) _ (lv_sub hl [1, 2, 3, 0] rfl) hv
                      · have hv := hv.trans (if_neg c376)
                        refine lv_iconst (v := 1) hx hb dX6_sum_379 (by decide) ?_
                        refine lv_goto (tgt := 384) hx hb dX6_sum_380 (by decide) ?_
                        exact k_384 1 ((u186_4.2.1 18 (Int32.toNatClampNeg t0_240)) - t0_286) _ (lv_sub hl [1, 2, 3, 0] rfl) hv
                    · have hv := hv.trans (if_pos c330)
                      refine lv_aload_n hx hb dX6_sum_333 rfl (lv_at hl 1 rfl) ?_
                      refine lv_iload_n hx hb dX6_sum_334 rfl (lv_at hl 2 rfl) ?_
                      refine lv_aload_n hx hb dX6_sum_335 rfl (lv_at hl 1 rfl) ?_
                      refine fg_RX6_70 hx hb hts hown hW hB dX6_sum_336 ?_
                      refine lv_iconst (v := 0) hx hb dX6_sum_339 (by decide) ?_
                      refine sw_za hx hb hW hB (17) (by decide) (eM_17 g ad) (in_lit (by decide +kernel)) dX6_sum_340 ?_
                      refine lv_aload_n hx hb dX6_sum_341 rfl (lv_at hl 1 rfl) ?_
                      refine fg_RX6_73 hx hb hts hown hW hB dX6_sum_342 ?_
                      refine lv_iload hx hb dX6_sum_345 (lv_at hl 3 rfl) ?_
                      refine sw_la hx hb hW hB (18) (by decide) (eM_18 g ad) hb2 dX6_sum_347 ?_
                      refine lv_lload hx hb dX6_sum_348 (lv_at hl 4 rfl) ?_
                      refine lv_ladd hx hb dX6_sum_350 ?_
                      refine lv_aload_n hx hb dX6_sum_351 rfl (lv_at hl 1 rfl) ?_
                      refine fg_RX6_67 hx hb hts hown hW hB dX6_sum_352 ?_
                      refine lv_iload hx hb dX6_sum_355 (lv_at hl 3 rfl) ?_
                      refine sw_ia hx hb hW hB (16) (by decide) (eM_16 g ad) hb2 dX6_sum_357 ?_
                      refine lv_iload hx hb dX6_sum_358 (lv_at hl 0 rfl) ?_
                      refine sm_cl (sm_runV (rest := []) hC (c_X6_round l g ad hW.2.1 _ x1 (u186_4.1 17 (Int32.toNatClampNeg 0)) ((u186_4.2.1 18 (Int32.toNatClampNeg t0_240)) + t0_286) (u186_4.1 16 (Int32.toNatClampNeg t0_240)) t0_316 u186_4) k_X6_round w_660 (by decide) (sm_pv hW hB (by decide) (eM_0 g ad _) rfl) rfl hl.1 rfl (Nat.le_of_ble_eq_true rfl) dX6_sum_360) ?_
                      exact sw_rl hx hb hr hlocks hB hv dX6_sum_363
                  have k_311 : ∀  (ls : Array Slot), lv_has ls 14 [(0, .ref (ad 0)), (1, .int x1), (6, .int t0_240), (9, .long t0_286)] → F = f_X6_sum_311 x1 t0_240 t0_286 u186_4 → W p l e (rmd 2) s m args below meth c H locs 0 0 (MQ below (sm_Ql g 19 ad (eM g ad) s.heap.size F) args s 0 0 (sm_AX 19 ad s.heap.size)) (F0 m 311 ls []) := by
                    intro ls hl hv
                    refine lv_iconst (v := 1) hx hb dX6_sum_311 (by decide) ?_
                    refine lv_goto (tgt := 316) hx hb dX6_sum_312 (by decide) ?_
                    exact k_316 1 _ (lv_sub hl [0, 1, 2, 3] rfl) hv
                  refine lv_icmp_gt (tgt := 311) hx hb dX6_sum_292 (by decide) (fun c292 => ?_) (fun c292 => ?_)
                  · have hv := hv.trans (if_pos c292)
                    exact k_311 _ (lv_sub hl [1, 2, 3, 0] rfl) hv
                  · have hv := hv.trans (if_neg c292)
                    refine lv_lload hx hb dX6_sum_295 (lv_at hl 0 rfl) ?_
                    refine lv_iload hx hb dX6_sum_297 (lv_at hl 5 rfl) ?_
                    refine lv_lshl hx hb dX6_sum_299 rfl ?_
                    refine lv_aload_n hx hb dX6_sum_300 rfl (lv_at hl 1 rfl) ?_
                    refine fg_RX6_73 hx hb hts hown hW hB dX6_sum_301 ?_
                    refine lv_iload hx hb dX6_sum_304 (lv_at hl 4 rfl) ?_
                    refine sw_la hx hb hW hB (18) (by decide) (eM_18 g ad) (by rw [ey246_5]; exact in_flip hb2) dX6_sum_306 ?_
                    refine lc_eq (tgt := 315) hx hb dX6_sum_307 dX6_sum_308 (by decide) (fun c307 => ?_) (fun c307 => ?_)
                    · have hv := hv.trans (if_pos c307)
                      refine lv_iconst (v := 0) hx hb dX6_sum_315 (by decide) ?_
                      exact k_316 0 _ (lv_sub hl [1, 2, 3, 0] rfl) hv
                    · have hv := hv.trans (if_neg c307)
                      exact k_311 _ (lv_sub hl [1, 2, 3, 0] rfl) hv
                refine lv_icmp_le (tgt := 276) hx hb dX6_sum_269 (by decide) (fun c269 => ?_) (fun c269 => ?_)
                · have hv := hv.trans (if_pos c269)
                  refine lv_aload_n hx hb dX6_sum_276 rfl (lv_at hl 3 rfl) ?_
                  refine fg_RX6_73 hx hb hts hown hW hB dX6_sum_277 ?_
                  refine lv_iload hx hb dX6_sum_280 (lv_at hl 1 rfl) ?_
                  refine sw_la hx hb hW hB (18) (by decide) (eM_18 g ad) (by rw [ey246_5]; exact in_flip hb2) dX6_sum_282 ?_
                  refine lv_iload hx hb dX6_sum_283 (lv_at hl 0 rfl) ?_
                  refine lv_lshr hx hb dX6_sum_285 rfl ?_
                  exact k_286 ((u186_4.2.1 18 (Int32.toNatClampNeg y246_5)) >>> (Int32.toInt64 y263_6 &&& 63)) _ (lv_sub hl [3, 4, 2, 1, 0] rfl) hv
                · have hv := hv.trans (if_neg c269)
                  refine lv_lconst (v := 0) hx hb dX6_sum_272 (by decide) ?_
                  refine lv_goto (tgt := 286) hx hb dX6_sum_273 (by decide) ?_
                  exact k_286 0 _ (lv_sub hl [3, 4, 2, 1, 0] rfl) hv
              have k_235 : ∀  (ls : Array Slot), lv_has ls 14 [(0, .ref (ad 0)), (1, .int x1)] → F = f_X6_sum_235 x1 u186_4 → W p l e (rmd 2) s m args below meth c H locs 0 0 (MQ below (sm_Ql g 19 ad (eM g ad) s.heap.size F) args s 0 0 (sm_AX 19 ad s.heap.size)) (F0 m 235 ls []) := by
                intro ls hl hv
                refine lv_iconst (v := 0) hx hb dX6_sum_235 (by decide) ?_
                refine lv_goto (tgt := 240) hx hb dX6_sum_236 (by decide) ?_
                exact k_240 0 _ (in_lit (by decide +kernel)) (lv_sub hl [0, 1] rfl) hv
              refine lv_icmp_gt (tgt := 235) hx hb dX6_sum_201 (by decide) (fun c201 => ?_) (fun c201 => ?_)
              · have hv := hv.trans (if_pos c201)
                exact k_235 _ (lv_sub hl [0, 1] rfl) hv
              · have hv := hv.trans (if_neg c201)
                refine lv_aload_n hx hb dX6_sum_204 rfl (lv_at hl 0 rfl) ?_
                refine fg_RX6_67 hx hb hts hown hW hB dX6_sum_205 ?_
                refine lv_iconst (v := 0) hx hb dX6_sum_208 (by decide) ?_
                refine sw_ia hx hb hW hB (16) (by decide) (eM_16 g ad) (in_lit (by decide +kernel)) dX6_sum_209 ?_
                refine lv_aload_n hx hb dX6_sum_210 rfl (lv_at hl 0 rfl) ?_
                refine fg_RX6_67 hx hb hts hown hW hB dX6_sum_211 ?_
                refine lv_iconst (v := 1) hx hb dX6_sum_214 (by decide) ?_
                refine sw_ia hx hb hW hB (16) (by decide) (eM_16 g ad) (in_lit (by decide +kernel)) dX6_sum_215 ?_
                have k_239 : ∀  (ls : Array Slot), lv_has ls 14 [(0, .ref (ad 0)), (1, .int x1)] → F = f_X6_sum_239 x1 u186_4 → W p l e (rmd 2) s m args below meth c H locs 0 0 (MQ below (sm_Ql g 19 ad (eM g ad) s.heap.size F) args s 0 0 (sm_AX 19 ad s.heap.size)) (F0 m 239 ls []) := by
                  intro ls hl hv
                  refine lv_iconst (v := 1) hx hb dX6_sum_239 (by decide) ?_
                  exact k_240 1 _ (in_lit (by decide +kernel)) (lv_sub hl [0, 1] rfl) hv
                refine lv_icmp_ne (tgt := 239) hx hb dX6_sum_216 (by decide) (fun c216 => ?_) (fun c216 => ?_)
                · have hv := hv.trans (if_neg c216)
                  exact k_239 _ (lv_sub hl [0, 1] rfl) hv
                · have hv := hv.trans (if_pos c216)
                  refine lv_aload_n hx hb dX6_sum_219 rfl (lv_at hl 0 rfl) ?_
                  refine fg_RX6_73 hx hb hts hown hW hB dX6_sum_220 ?_
                  refine lv_iconst (v := 0) hx hb dX6_sum_223 (by decide) ?_
                  refine sw_la hx hb hW hB (18) (by decide) (eM_18 g ad) (in_lit (by decide +kernel)) dX6_sum_224 ?_
                  refine lv_aload_n hx hb dX6_sum_225 rfl (lv_at hl 0 rfl) ?_
                  refine fg_RX6_73 hx hb hts hown hW hB dX6_sum_226 ?_
                  refine lv_iconst (v := 1) hx hb dX6_sum_229 (by decide) ?_
                  refine sw_la hx hb hW hB (18) (by decide) (eM_18 g ad) (in_lit (by decide +kernel)) dX6_sum_230 ?_
                  refine lc_lt (tgt := 239) hx hb dX6_sum_231 dX6_sum_232 (by decide) (fun c231 => ?_) (fun c231 => ?_)
                  · have hv := hv.trans (if_pos c231)
                    exact k_239 _ (lv_sub hl [0, 1] rfl) hv
                  · have hv := hv.trans (if_neg c231)
                    exact k_235 _ (lv_sub hl [0, 1] rfl) hv
            · have hv := hv.trans (if_pos c174)
              refine lv_lload_n hx hb dX6_sum_177 rfl (lv_at hl 2 rfl) ?_
              exact sw_rl hx hb hr hlocks hB hv dX6_sum_178
          · have hv := hv.trans (if_pos c127)
            refine lv_aload_n hx hb dX6_sum_130 rfl (lv_at hl 0 rfl) ?_
            refine fg_RX6_64 hx hb hts hown hW hB dX6_sum_131 ?_
            refine lv_iconst (v := 1) hx hb dX6_sum_134 (by decide) ?_
            refine sw_ia hx hb hW hB (15) (by decide) (eM_15 g ad) (in_lit (by decide +kernel)) dX6_sum_135 ?_
            refine lv_if_ne (tgt := 165) hx hb dX6_sum_136 (by decide) (fun c136 => ?_) (fun c136 => ?_)
            · have hv := hv.trans (if_neg c136)
              refine lv_lload hx hb dX6_sum_165 (lv_at hl 3 rfl) ?_
              exact sw_rl hx hb hr hlocks hB hv dX6_sum_167
            · have hv := hv.trans (if_pos c136)
              refine lv_aload_n hx hb dX6_sum_139 rfl (lv_at hl 0 rfl) ?_
              refine fg_RX6_70 hx hb hts hown hW hB dX6_sum_140 ?_
              refine lv_iconst (v := 0) hx hb dX6_sum_143 (by decide) ?_
              refine sw_za hx hb hW hB (17) (by decide) (eM_17 g ad) (in_lit (by decide +kernel)) dX6_sum_144 ?_
              refine lv_if_eq (tgt := 161) hx hb dX6_sum_145 (by decide) (fun c145 => ?_) (fun c145 => ?_)
              · have hv := hv.trans (if_pos c145)
                refine lv_lconst (v := 0) hx hb dX6_sum_161 (by decide) ?_
                refine lv_goto (tgt := 167) hx hb dX6_sum_162 (by decide) ?_
                exact sw_rl hx hb hr hlocks hB hv dX6_sum_167
              · have hv := hv.trans (if_neg c145)
                refine lv_aload_n hx hb dX6_sum_148 rfl (lv_at hl 0 rfl) ?_
                refine fg_RX6_70 hx hb hts hown hW hB dX6_sum_149 ?_
                refine lv_iconst (v := 1) hx hb dX6_sum_152 (by decide) ?_
                refine sw_za hx hb hW hB (17) (by decide) (eM_17 g ad) (in_lit (by decide +kernel)) dX6_sum_153 ?_
                refine lv_if_eq (tgt := 161) hx hb dX6_sum_154 (by decide) (fun c154 => ?_) (fun c154 => ?_)
                · have hv := hv.trans (if_pos c154)
                  refine lv_lconst (v := 0) hx hb dX6_sum_161 (by decide) ?_
                  refine lv_goto (tgt := 167) hx hb dX6_sum_162 (by decide) ?_
                  exact sw_rl hx hb hr hlocks hB hv dX6_sum_167
                · have hv := hv.trans (if_neg c154)
                  refine lv_lload_n hx hb dX6_sum_157 rfl (lv_at hl 2 rfl) ?_
                  refine lv_goto (tgt := 167) hx hb dX6_sum_158 (by decide) ?_
                  exact sw_rl hx hb hr hlocks hB hv dX6_sum_167
        · have hv := hv.trans (if_pos c58)
          exact k_61 _ (lv_sub hl [0, 1, 2, 3] rfl) hv
    · have hv := hv.trans (if_pos c32)
      exact k_35 _ (lv_sub hl [0, 1] rfl) hv
def f_X6_product_119 (x1 : Int32) (u12_2 : sm_S) : Int64 × sm_S := (f_X6_none x1, u12_2)
def f_X6_product_153 (t0_35 : Int32) (x1 : Int32) (u12_2 : sm_S) (t0_153 : Int64) : Int64 × sm_S := (f_X6_signed x1 t0_35 t0_153, u12_2)
def f_X6_product_135 (x1 : Int32) (t0_35 : Int32) (t0_60 : Int32) (u12_2 : sm_S) : Int64 × sm_S := if t0_60 = 0 then (f_X6_product_153 t0_35 x1 u12_2 (f_X6_infinite x1)) else (f_X6_product_153 t0_35 x1 u12_2 0)
def f_X6_product_266 (x1 : Int32) (y199_7 : Int64) (y237_10 : Int64) (t0_35 : Int32) (y176_5 : Int64) (u164_4 : sm_S) (t0_266 : Int32) : Int64 × sm_S := (f_X6_round x1 t0_35 ((y176_5 * y199_7) + (y237_10 >>> (Int32.toInt64 31 &&& 63))) (((u164_4.1 16 (Int32.toNatClampNeg 0)) + (u164_4.1 16 (Int32.toNatClampNeg 1))) + 62) t0_266, u164_4)
def f_X6_product_261 (x1 : Int32) (y199_7 : Int64) (y237_10 : Int64) (t0_35 : Int32) (y176_5 : Int64) (u164_4 : sm_S) : Int64 × sm_S := f_X6_product_266 x1 y199_7 y237_10 t0_35 y176_5 u164_4 1
def f_X6_product_125 (x1 : Int32) (t0_35 : Int32) (t0_60 : Int32) (t0_87 : Int32) (u12_2 : sm_S) : Int64 × sm_S := if t0_60 = 0 then (if t0_87 = 0 then (sm_let (f_X6_spread u12_2 0) (fun u159_3 => sm_let (f_X6_spread u159_3 1) (fun u164_4 => sm_let ((u164_4.2.1 18 (Int32.toNatClampNeg 0)) >>> (Int32.toInt64 31 &&& 63)) (fun y176_5 => sm_let ((u164_4.2.1 18 (Int32.toNatClampNeg 0)) &&& 2147483647) (fun y188_6 => sm_let ((u164_4.2.1 18 (Int32.toNatClampNeg 1)) >>> (Int32.toInt64 31 &&& 63)) (fun y199_7 => sm_let ((u164_4.2.1 18 (Int32.toNatClampNeg 1)) &&& 2147483647) (fun y211_8 => sm_let (y188_6 * y211_8) (fun y218_9 => sm_let (((y176_5 * y211_8) + (y188_6 * y199_7)) + (y218_9 >>> (Int32.toInt64 31 &&& 63))) (fun y237_10 => if (y218_9 &&& 2147483647) = 0 then (if (y237_10 &&& 2147483647) = 0 then (f_X6_product_266 x1 y199_7 y237_10 t0_35 y176_5 u164_4 0) else (f_X6_product_261 x1 y199_7 y237_10 t0_35 y176_5 u164_4)) else (f_X6_product_261 x1 y199_7 y237_10 t0_35 y176_5 u164_4)))))))))) else (f_X6_product_135 x1 t0_35 t0_60 u12_2)) else (f_X6_product_135 x1 t0_35 t0_60 u12_2)
def f_X6_product_87 (x1 : Int32) (t0_35 : Int32) (t0_60 : Int32) (u12_2 : sm_S) (t0_87 : Int32) : Int64 × sm_S := if (u12_2.1 15 (Int32.toNatClampNeg 0)) = 3 then (f_X6_product_119 x1 u12_2) else (if (u12_2.1 15 (Int32.toNatClampNeg 1)) = 3 then (f_X6_product_119 x1 u12_2) else (if t0_60 = 0 then (f_X6_product_125 x1 t0_35 t0_60 t0_87 u12_2) else (if t0_87 = 0 then (f_X6_product_125 x1 t0_35 t0_60 t0_87 u12_2) else (f_X6_product_119 x1 u12_2))))
def f_X6_product_82 (x1 : Int32) (t0_35 : Int32) (t0_60 : Int32) (u12_2 : sm_S) : Int64 × sm_S := f_X6_product_87 x1 t0_35 t0_60 u12_2 1
def f_X6_product_60 (x1 : Int32) (t0_35 : Int32) (u12_2 : sm_S) (t0_60 : Int32) : Int64 × sm_S := if (u12_2.1 15 (Int32.toNatClampNeg 0)) = 2 then (f_X6_product_82 x1 t0_35 t0_60 u12_2) else (if (u12_2.1 15 (Int32.toNatClampNeg 1)) = 2 then (f_X6_product_82 x1 t0_35 t0_60 u12_2) else (f_X6_product_87 x1 t0_35 t0_60 u12_2 0))
def f_X6_product_55 (x1 : Int32) (t0_35 : Int32) (u12_2 : sm_S) : Int64 × sm_S := f_X6_product_60 x1 t0_35 u12_2 1
def f_X6_product_35 (x1 : Int32) (u12_2 : sm_S) (t0_35 : Int32) : Int64 × sm_S := if (u12_2.1 15 (Int32.toNatClampNeg 0)) = 0 then (f_X6_product_55 x1 t0_35 u12_2) else (if (u12_2.1 15 (Int32.toNatClampNeg 1)) = 0 then (f_X6_product_55 x1 t0_35 u12_2) else (f_X6_product_60 x1 t0_35 u12_2 0))
def f_X6_product (σ : sm_S) (x1 : Int32) (x2 : Int64) (x4 : Int64) : Int64 × sm_S := sm_let (f_X6_take σ 0 x2 x1) (fun u4_1 => sm_let (f_X6_take u4_1 1 x4 x1) (fun u12_2 => if (u12_2.1 17 (Int32.toNatClampNeg 0)) = (u12_2.1 17 (Int32.toNatClampNeg 1)) then (f_X6_product_35 x1 u12_2 0) else (f_X6_product_35 x1 u12_2 1)))
set_option maxRecDepth 100000 in
set_option maxHeartbeats 4000000 in
theorem c_X6_product (l : Launch) (g : sm_G) (ad : Nat → Nat) (hj : sm_inj 19 ad) (sz : Nat) (σ : sm_S) (x1 : Int32) (x2 : Int64) (x4 : Int64)   : Met l yX6_product (sm_ws yX6_product cX6_product 22 (some .long)) (rmd 2) (va_Pc [.ref (ad 0), .int x1, .long x2, .long x4] (sm_Pre g 19 ad (eM g ad) σ sz)) (sm_Ql g 19 ad (eM g ad) sz (f_X6_product σ x1 x2 x4)) 0 0 (sm_AX 19 ad sz) := by
  generalize hv : f_X6_product σ x1 x2 x4 = F
  replace hv := hv.symm
  refine sm_mWl (by decide) (Nat.le_of_ble_eq_true rfl) hj (eM_lay g ad) (fun p e s m args below meth c C hW hB ls hl => ?_)
  obtain ⟨hC, hr, hlocks⟩ := C
  have hx := hC.1
  have hb := hC.2.1
  have hts := hC.2.2.2.2
  have hown : s.vm.findClass RX6 = some m.cls := hC.2.2.2.1
  have hl : lv_has ls 22 [(0, .ref (ad 0)), (1, .int x1), (2, .long x2), (4, .long x4)] := hl
  refine lv_aload_n hx hb dX6_product_0 rfl (lv_at hl 0 rfl) ?_
  refine lv_iconst (v := 0) hx hb dX6_product_1 (by decide) ?_
  refine lv_lload_n hx hb dX6_product_2 rfl (lv_at hl 2 rfl) ?_
  refine lv_iload_n hx hb dX6_product_3 rfl (lv_at hl 1 rfl) ?_
  refine sw_cvn hv hB (sm_runV (rest := []) hC (c_X6_take l g ad hW.2.1 _ σ 0 x2 x1 (in_lit (by decide +kernel))) k_X6_take w_610 (by decide) (sm_pv hW hB (by decide) (eM_0 g ad _) rfl) rfl hl.1 rfl (Nat.le_of_ble_eq_true rfl) dX6_product_4) (fun u4_1 eu4_1 hv H locs hB => ?_)
  refine lv_aload_n hx hb dX6_product_7 rfl (lv_at hl 0 rfl) ?_
  refine lv_iconst (v := 1) hx hb dX6_product_8 (by decide) ?_
  refine lv_lload hx hb dX6_product_9 (lv_at hl 3 rfl) ?_
  refine lv_iload_n hx hb dX6_product_11 rfl (lv_at hl 1 rfl) ?_
  refine sw_cvn hv hB (sm_runV (rest := []) hC (c_X6_take l g ad hW.2.1 _ u4_1 1 x4 x1 (in_lit (by decide +kernel))) k_X6_take w_610 (by decide) (sm_pv hW hB (by decide) (eM_0 g ad _) rfl) rfl hl.1 rfl (Nat.le_of_ble_eq_true rfl) dX6_product_12) (fun u12_2 eu12_2 hv H locs hB => ?_)
  refine lv_aload_n hx hb dX6_product_15 rfl (lv_at hl 0 rfl) ?_
  refine fg_RX6_70 hx hb hts hown hW hB dX6_product_16 ?_
  refine lv_iconst (v := 0) hx hb dX6_product_19 (by decide) ?_
  refine sw_za hx hb hW hB (17) (by decide) (eM_17 g ad) (in_lit (by decide +kernel)) dX6_product_20 ?_
  refine lv_aload_n hx hb dX6_product_21 rfl (lv_at hl 0 rfl) ?_
  refine fg_RX6_70 hx hb hts hown hW hB dX6_product_22 ?_
  refine lv_iconst (v := 1) hx hb dX6_product_25 (by decide) ?_
  refine sw_za hx hb hW hB (17) (by decide) (eM_17 g ad) (in_lit (by decide +kernel)) dX6_product_26 ?_
  have k_35 : ∀ (t0_35 : Int32) (ls : Array Slot), lv_has ls 22 [(0, .ref (ad 0)), (1, .int x1)] → F = f_X6_product_35 x1 u12_2 t0_35 → W p l e (rmd 2) s m args below meth c H locs 0 0 (MQ below (sm_Ql g 19 ad (eM g ad) s.heap.size F) args s 0 0 (sm_AX 19 ad s.heap.size)) (F0 m 35 ls [.int t0_35]) := by
    intro t0_35 ls hl hv
    refine lv_istore (lv' := [(6, .int t0_35), (0, .ref (ad 0)), (1, .int x1)]) hx hb dX6_product_35 hl (by decide) rfl (fun ls hl => ?_)
    refine lv_aload_n hx hb dX6_product_37 rfl (lv_at hl 1 rfl) ?_
    refine fg_RX6_64 hx hb hts hown hW hB dX6_product_38 ?_
    refine lv_iconst (v := 0) hx hb dX6_product_41 (by decide) ?_
    refine sw_ia hx hb hW hB (15) (by decide) (eM_15 g ad) (in_lit (by decide +kernel)) dX6_product_42 ?_
    have k_60 : ∀ (t0_60 : Int32) (ls : Array Slot), lv_has ls 22 [(0, .ref (ad 0)), (1, .int x1), (6, .int t0_35)] → F = f_X6_product_60 x1 t0_35 u12_2 t0_60 → W p l e (rmd 2) s m args below meth c H locs 0 0 (MQ below (sm_Ql g 19 ad (eM g ad) s.heap.size F) args s 0 0 (sm_AX 19 ad s.heap.size)) (F0 m 60 ls [.int t0_60]) := by
      intro t0_60 ls hl hv
      refine lv_istore (lv' := [(7, .int t0_60), (0, .ref (ad 0)), (1, .int x1), (6, .int t0_35)]) hx hb dX6_product_60 hl (by decide) rfl (fun ls hl => ?_)
      refine lv_aload_n hx hb dX6_product_62 rfl (lv_at hl 1 rfl) ?_
      refine fg_RX6_64 hx hb hts hown hW hB dX6_product_63 ?_
      refine lv_iconst (v := 0) hx hb dX6_product_66 (by decide) ?_
      refine sw_ia hx hb hW hB (15) (by decide) (eM_15 g ad) (in_lit (by decide +kernel)) dX6_product_67 ?_
      refine lv_iconst (v := 2) hx hb dX6_product_68 (by decide) ?_
      have k_87 : ∀ (t0_87 : Int32) (ls : Array Slot), lv_has ls 22 [(0, .ref (ad 0)), (1, .int x1), (6, .int t0_35), (7, .int t0_60)] → F = f_X6_product_87 x1 t0_35 t0_60 u12_2 t0_87 → W p l e (rmd 2) s m args below meth c H locs 0 0 (MQ below (sm_Ql g 19 ad (eM g ad) s.heap.size F) args s 0 0 (sm_AX 19 ad s.heap.size)) (F0 m 87 ls [.int t0_87]) := by
        intro t0_87 ls hl hv
        refine lv_istore (lv' := [(8, .int t0_87), (0, .ref (ad 0)), (1, .int x1), (6, .int t0_35), (7, .int t0_60)]) hx hb dX6_product_87 hl (by decide) rfl (fun ls hl => ?_)
        refine lv_aload_n hx hb dX6_product_89 rfl (lv_at hl 1 rfl) ?_
        refine fg_RX6_64 hx hb hts hown hW hB dX6_product_90 ?_
        refine lv_iconst (v := 0) hx hb dX6_product_93 (by decide) ?_
        refine sw_ia hx hb hW hB (15) (by decide) (eM_15 g ad) (in_lit (by decide +kernel)) dX6_product_94 ?_
        refine lv_iconst (v := 3) hx hb dX6_product_95 (by decide) ?_
        have k_119 : ∀  (ls : Array Slot), lv_has ls 22 [(0, .ref (ad 0)), (1, .int x1)] → F = f_X6_product_119 x1 u12_2 → W p l e (rmd 2) s m args below meth c H locs 0 0 (MQ below (sm_Ql g 19 ad (eM g ad) s.heap.size F) args s 0 0 (sm_AX 19 ad s.heap.size)) (F0 m 119 ls []) := by
          intro ls hl hv
          refine lv_aload_n hx hb dX6_product_119 rfl (lv_at hl 0 rfl) ?_
          refine lv_iload_n hx hb dX6_product_120 rfl (lv_at hl 1 rfl) ?_
          refine sm_cl (sm_runV (rest := []) hC (c_X6_none l g ad hW.2.1 _ x1 u12_2) k_X6_none w_624 (by decide) (sm_pv hW hB (by decide) (eM_0 g ad _) rfl) rfl hl.1 rfl (Nat.le_of_ble_eq_true rfl) dX6_product_121) ?_
          exact sw_rl hx hb hr hlocks hB hv dX6_product_124
        refine lv_icmp_eq (tgt := 119) hx hb dX6_product_96 (by decide) (fun c96 => ?_) (fun c96 => ?_)
        · have hv := hv.trans (if_pos c96)
          exact k_119 _ (lv_sub hl [1, 2] rfl) hv
        · have hv := hv.trans (if_neg c96)
          refine lv_aload_n hx hb dX6_product_99 rfl (lv_at hl 1 rfl) ?_
          refine fg_RX6_64 hx hb hts hown hW hB dX6_product_100 ?_
          refine lv_iconst (v := 1) hx hb dX6_product_103 (by decide) ?_
          refine sw_ia hx hb hW hB (15) (by decide) (eM_15 g ad) (in_lit (by decide +kernel)) dX6_product_104 ?_
          refine lv_iconst (v := 3) hx hb dX6_product_105 (by decide) ?_
          refine lv_icmp_eq (tgt := 119) hx hb dX6_product_106 (by decide) (fun c106 => ?_) (fun c106 => ?_)
          · have hv := hv.trans (if_pos c106)
            exact k_119 _ (lv_sub hl [1, 2] rfl) hv
          · have hv := hv.trans (if_neg c106)
            refine lv_iload hx hb dX6_product_109 (lv_at hl 4 rfl) ?_
            have k_125 : ∀  (ls : Array Slot), lv_has ls 22 [(0, .ref (ad 0)), (1, .int x1), (6, .int t0_35), (7, .int t0_60), (8, .int t0_87)] → F = f_X6_product_125 x1 t0_35 t0_60 t0_87 u12_2 → W p l e (rmd 2) s m args below meth c H locs 0 0 (MQ below (sm_Ql g 19 ad (eM g ad) s.heap.size F) args s 0 0 (sm_AX 19 ad s.heap.size)) (F0 m 125 ls []) := by
              intro ls hl hv
              refine lv_iload hx hb dX6_product_125 (lv_at hl 3 rfl) ?_
              have k_135 : ∀  (ls : Array Slot), lv_has ls 22 [(0, .ref (ad 0)), (1, .int x1), (6, .int t0_35), (7, .int t0_60)] → F = f_X6_product_135 x1 t0_35 t0_60 u12_2 → W p l e (rmd 2) s m args below meth c H locs 0 0 (MQ below (sm_Ql g 19 ad (eM g ad) s.heap.size F) args s 0 0 (sm_AX 19 ad s.heap.size)) (F0 m 135 ls []) := by
                intro ls hl hv
                refine lv_aload_n hx hb dX6_product_135 rfl (lv_at hl 0 rfl) ?_
                refine lv_iload_n hx hb dX6_product_136 rfl (lv_at hl 1 rfl) ?_
                refine lv_iload hx hb dX6_product_137 (lv_at hl 2 rfl) ?_
                refine lv_iload hx hb dX6_product_139 (lv_at hl 3 rfl) ?_
                have k_153 : ∀ (t0_153 : Int64) (ls : Array Slot), lv_has ls 22 [] → F = f_X6_product_153 t0_35 x1 u12_2 t0_153 → W p l e (rmd 2) s m args below meth c H locs 0 0 (MQ below (sm_Ql g 19 ad (eM g ad) s.heap.size F) args s 0 0 (sm_AX 19 ad s.heap.size)) (F0 m 153 ls [.long t0_153, .int t0_35, .int x1, .ref (ad 0)]) := by
                  intro t0_153 ls hl hv
                  refine sm_cl (sm_runV (rest := []) hC (c_X6_signed l g ad hW.2.1 _ x1 t0_35 t0_153 u12_2) k_X6_signed w_674 (by decide) (sm_pv hW hB (by decide) (eM_0 g ad _) rfl) rfl hl.1 rfl (Nat.le_of_ble_eq_true rfl) dX6_product_153) ?_
                  exact sw_rl hx hb hr hlocks hB hv dX6_product_156
                refine lv_if_eq (tgt := 148) hx hb dX6_product_141 (by decide) (fun c141 => ?_) (fun c141 => ?_)
                · have hv := hv.trans (if_pos c141)
                  refine lv_aload_n hx hb dX6_product_148 rfl (lv_at hl 0 rfl) ?_
                  refine lv_iload_n hx hb dX6_product_149 rfl (lv_at hl 1 rfl) ?_
                  refine sm_cl (sm_runV (rest := [.int t0_35, .int x1, .ref (ad 0)]) hC (c_X6_infinite l g ad hW.2.1 _ x1 u12_2) k_X6_infinite w_668 (by decide) (sm_pv hW hB (by decide) (eM_0 g ad _) rfl) rfl hl.1 rfl (Nat.le_of_ble_eq_true rfl) dX6_product_150) ?_
                  exact k_153 (f_X6_infinite x1) _ (lv_sub hl [] rfl) hv
                · have hv := hv.trans (if_neg c141)
                  refine lv_lconst (v := 0) hx hb dX6_product_144 (by decide) ?_
                  refine lv_goto (tgt := 153) hx hb dX6_product_145 (by decide) ?_
                  exact k_153 0 _ (lv_sub hl [] rfl) hv
              refine lv_if_ne (tgt := 135) hx hb dX6_product_127 (by decide) (fun c127 => ?_) (fun c127 => ?_)
              · have hv := hv.trans (if_neg c127)
                exact k_135 _ (lv_sub hl [0, 1, 2, 3] rfl) hv
              · have hv := hv.trans (if_pos c127)
                refine lv_iload hx hb dX6_product_130 (lv_at hl 4 rfl) ?_
                refine lv_if_eq (tgt := 157) hx hb dX6_product_132 (by decide) (fun c132 => ?_) (fun c132 => ?_)
                · have hv := hv.trans (if_pos c132)
                  refine lv_aload_n hx hb dX6_product_157 rfl (lv_at hl 0 rfl) ?_
                  refine lv_iconst (v := 0) hx hb dX6_product_158 (by decide) ?_
                  refine sw_cvn hv hB (sm_runV (rest := []) hC (c_X6_spread l g ad hW.2.1 _ u12_2 0 (in_lit (by decide +kernel))) k_X6_spread w_722 (by decide) (sm_pv hW hB (by decide) (eM_0 g ad _) rfl) rfl hl.1 rfl (Nat.le_of_ble_eq_true rfl) dX6_product_159) (fun u159_3 eu159_3 hv H locs hB => ?_)
                  refine lv_aload_n hx hb dX6_product_162 rfl (lv_at hl 0 rfl) ?_
                  refine lv_iconst (v := 1) hx hb dX6_product_163 (by decide) ?_
                  refine sw_cvn hv hB (sm_runV (rest := []) hC (c_X6_spread l g ad hW.2.1 _ u159_3 1 (in_lit (by decide +kernel))) k_X6_spread w_722 (by decide) (sm_pv hW hB (by decide) (eM_0 g ad _) rfl) rfl hl.1 rfl (Nat.le_of_ble_eq_true rfl) dX6_product_164) (fun u164_4 eu164_4 hv H locs hB => ?_)
                  refine lv_aload_n hx hb dX6_product_167 rfl (lv_at hl 0 rfl) ?_
                  refine fg_RX6_73 hx hb hts hown hW hB dX6_product_168 ?_
                  refine lv_iconst (v := 0) hx hb dX6_product_171 (by decide) ?_
                  refine sw_la hx hb hW hB (18) (by decide) (eM_18 g ad) (in_lit (by decide +kernel)) dX6_product_172 ?_
                  refine lv_bipush (v := 31) hx hb dX6_product_173 (by decide) ?_
                  refine lv_lshr hx hb dX6_product_175 rfl ?_
                  refine sm_nml hv (fun y176_5 ey176_5 hv => ?_)
                  refine lv_lstore (lv' := [(9, .long y176_5), (0, .ref (ad 0)), (1, .int x1), (6, .int t0_35), (7, .int t0_60), (8, .int t0_87)]) hx hb dX6_product_176 hl (by decide) rfl (fun ls hl => ?_)
                  refine lv_aload_n hx hb dX6_product_178 rfl (lv_at hl 1 rfl) ?_
                  refine fg_RX6_73 hx hb hts hown hW hB dX6_product_179 ?_
                  refine lv_iconst (v := 0) hx hb dX6_product_182 (by decide) ?_
                  refine sw_la hx hb hW hB (18) (by decide) (eM_18 g ad) (in_lit (by decide +kernel)) dX6_product_183 ?_
                  refine lv_ldc2 hx hb hown (hts _ w_619) dX6_product_184 ?_
                  refine lv_land hx hb dX6_product_187 ?_
                  refine sm_nml hv (fun y188_6 ey188_6 hv => ?_)
                  refine lv_lstore (lv' := [(11, .long y188_6), (9, .long y176_5), (0, .ref (ad 0)), (1, .int x1), (6, .int t0_35), (7, .int t0_60), (8, .int t0_87)]) hx hb dX6_product_188 hl (by decide) rfl (fun ls hl => ?_)
                  refine lv_aload_n hx hb dX6_product_190 rfl (lv_at hl 2 rfl) ?_
                  refine fg_RX6_73 hx hb hts hown hW hB dX6_product_191 ?_
                  refine lv_iconst (v := 1) hx hb dX6_product_194 (by decide) ?_
                  refine sw_la hx hb hW hB (18) (by decide) (eM_18 g ad) (in_lit (by decide +kernel)) dX6_product_195 ?_
                  refine lv_bipush (v := 31) hx hb dX6_product_196 (by decide) ?_
                  refine lv_lshr hx hb dX6_product_198 rfl ?_
                  refine sm_nml hv (fun y199_7 ey199_7 hv => ?_)
                  refine lv_lstore (lv' := [(13, .long y199_7), (11, .long y188_6), (9, .long y176_5), (0, .ref (ad 0)), (1, .int x1), (6, .int t0_35), (7, .int t0_60), (8, .int t0_87)]) hx hb dX6_product_199 hl (by decide) rfl (fun ls hl => ?_)
                  refine lv_aload_n hx hb dX6_product_201 rfl (lv_at hl 3 rfl) ?_
                  refine fg_RX6_73 hx hb hts hown hW hB dX6_product_202 ?_
                  refine lv_iconst (v := 1) hx hb dX6_product_205 (by decide) ?_
                  refine sw_la hx hb hW hB (18) (by decide) (eM_18 g ad) (in_lit (by decide +kernel)) dX6_product_206 ?_
                  refine lv_ldc2 hx hb hown (hts _ w_619) dX6_product_207 ?_
                  refine lv_land hx hb dX6_product_210 ?_
                  refine sm_nml hv (fun y211_8 ey211_8 hv => ?_)
                  refine lv_lstore (lv' := [(15, .long y211_8), (13, .long y199_7), (11, .long y188_6), (9, .long y176_5), (0, .ref (ad 0)), (1, .int x1), (6, .int t0_35), (7, .int t0_60), (8, .int t0_87)]) hx hb dX6_product_211 hl (by decide) rfl (fun ls hl => ?_)
                  refine lv_lload hx hb dX6_product_213 (lv_at hl 2 rfl) ?_
                  refine lv_lload hx hb dX6_product_215 (lv_at hl 0 rfl) ?_
                  refine lv_lmul hx hb dX6_product_217 ?_
                  refine sm_nml hv (fun y218_9 ey218_9 hv => ?_)
                  refine lv_lstore (lv' := [(17, .long y218_9), (15, .long y211_8), (13, .long y199_7), (11, .long y188_6), (9, .long y176_5), (0, .ref (ad 0)), (1, .int x1), (6, .int t0_35), (7, .int t0_60), (8, .int t0_87)]) hx hb dX6_product_218 hl (by decide) rfl (fun ls hl => ?_)
                  refine lv_lload hx hb dX6_product_220 (lv_at hl 4 rfl) ?_
                  refine lv_lload hx hb dX6_product_222 (lv_at hl 1 rfl) ?_
                  refine lv_lmul hx hb dX6_product_224 ?_
                  refine lv_lload hx hb dX6_product_225 (lv_at hl 3 rfl) ?_
                  refine lv_lload hx hb dX6_product_227 (lv_at hl 2 rfl) ?_
                  refine lv_lmul hx hb dX6_product_229 ?_
                  refine lv_ladd hx hb dX6_product_230 ?_
                  refine lv_lload hx hb dX6_product_231 (lv_at hl 0 rfl) ?_
                  refine lv_bipush (v := 31) hx hb dX6_product_233 (by decide) ?_
                  refine lv_lshr hx hb dX6_product_235 rfl ?_
                  refine lv_ladd hx hb dX6_product_236 ?_
                  refine sm_nml hv (fun y237_10 ey237_10 hv => ?_)
                  refine lv_lstore (lv' := [(19, .long y237_10), (17, .long y218_9), (15, .long y211_8), (13, .long y199_7), (11, .long y188_6), (9, .long y176_5), (0, .ref (ad 0)), (1, .int x1), (6, .int t0_35), (7, .int t0_60), (8, .int t0_87)]) hx hb dX6_product_237 hl (by decide) rfl (fun ls hl => ?_)
                  refine lv_lload hx hb dX6_product_239 (lv_at hl 1 rfl) ?_
                  refine lv_ldc2 hx hb hown (hts _ w_619) dX6_product_241 ?_
                  refine lv_land hx hb dX6_product_244 ?_
                  refine lv_lconst (v := 0) hx hb dX6_product_245 (by decide) ?_
                  have k_266 : ∀ (t0_266 : Int32) (ls : Array Slot), lv_has ls 22 [(0, .ref (ad 0)), (1, .int x1), (6, .int t0_35), (9, .long y176_5), (13, .long y199_7), (19, .long y237_10)] → F = f_X6_product_266 x1 y199_7 y237_10 t0_35 y176_5 u164_4 t0_266 → W p l e (rmd 2) s m args below meth c H locs 0 0 (MQ below (sm_Ql g 19 ad (eM g ad) s.heap.size F) args s 0 0 (sm_AX 19 ad s.heap.size)) (F0 m 266 ls [.int t0_266]) := by
                    intro t0_266 ls hl hv
                    refine lv_istore (lv' := [(21, .int t0_266), (0, .ref (ad 0)), (1, .int x1), (6, .int t0_35), (9, .long y176_5), (13, .long y199_7), (19, .long y237_10)]) hx hb dX6_product_266 hl (by decide) rfl (fun ls hl => ?_)
                    refine lv_aload_n hx hb dX6_product_268 rfl (lv_at hl 1 rfl) ?_
                    refine lv_iload_n hx hb dX6_product_269 rfl (lv_at hl 2 rfl) ?_
                    refine lv_iload hx hb dX6_product_270 (lv_at hl 3 rfl) ?_
                    refine lv_lload hx hb dX6_product_272 (lv_at hl 4 rfl) ?_
                    refine lv_lload hx hb dX6_product_274 (lv_at hl 5 rfl) ?_
                    refine lv_lmul hx hb dX6_product_276 ?_
                    refine lv_lload hx hb dX6_product_277 (lv_at hl 6 rfl) ?_
                    refine lv_bipush (v := 31) hx hb dX6_product_279 (by decide) ?_
                    refine lv_lshr hx hb dX6_product_281 rfl ?_
                    refine lv_ladd hx hb dX6_product_282 ?_
                    refine lv_aload_n hx hb dX6_product_283 rfl (lv_at hl 1 rfl) ?_
                    refine fg_RX6_67 hx hb hts hown hW hB dX6_product_284 ?_
                    refine lv_iconst (v := 0) hx hb dX6_product_287 (by decide) ?_
                    refine sw_ia hx hb hW hB (16) (by decide) (eM_16 g ad) (in_lit (by decide +kernel)) dX6_product_288 ?_
                    refine lv_aload_n hx hb dX6_product_289 rfl (lv_at hl 1 rfl) ?_
                    refine fg_RX6_67 hx hb hts hown hW hB dX6_product_290 ?_
                    refine lv_iconst (v := 1) hx hb dX6_product_293 (by decide) ?_
                    refine sw_ia hx hb hW hB (16) (by decide) (eM_16 g ad) (in_lit (by decide +kernel)) dX6_product_294 ?_
                    refine lv_iadd hx hb dX6_product_295 ?_
                    refine lv_bipush (v := 62) hx hb dX6_product_296 (by decide) ?_
                    refine lv_iadd hx hb dX6_product_298 ?_
                    refine lv_iload hx hb dX6_product_299 (lv_at hl 0 rfl) ?_
                    refine sm_cl (sm_runV (rest := []) hC (c_X6_round l g ad hW.2.1 _ x1 t0_35 ((y176_5 * y199_7) + (y237_10 >>> (Int32.toInt64 31 &&& 63))) (((u164_4.1 16 (Int32.toNatClampNeg 0)) + (u164_4.1 16 (Int32.toNatClampNeg 1))) + 62) t0_266 u164_4) k_X6_round w_660 (by decide) (sm_pv hW hB (by decide) (eM_0 g ad _) rfl) rfl hl.1 rfl (Nat.le_of_ble_eq_true rfl) dX6_product_301) ?_
                    exact sw_rl hx hb hr hlocks hB hv dX6_product_304
                  have k_261 : ∀  (ls : Array Slot), lv_has ls 22 [(0, .ref (ad 0)), (1, .int x1), (6, .int t0_35), (9, .long y176_5), (13, .long y199_7), (19, .long y237_10)] → F = f_X6_product_261 x1 y199_7 y237_10 t0_35 y176_5 u164_4 → W p l e (rmd 2) s m args below meth c H locs 0 0 (MQ below (sm_Ql g 19 ad (eM g ad) s.heap.size F) args s 0 0 (sm_AX 19 ad s.heap.size)) (F0 m 261 ls []) := by
                    intro ls hl hv
                    refine lv_iconst (v := 1) hx hb dX6_product_261 (by decide) ?_
                    refine lv_goto (tgt := 266) hx hb dX6_product_262 (by decide) ?_
                    exact k_266 1 _ (lv_sub hl [0, 1, 2, 3, 4, 5] rfl) hv
                  refine lc_ne (tgt := 261) hx hb dX6_product_246 dX6_product_247 (by decide) (fun c246 => ?_) (fun c246 => ?_)
                  · have hv := hv.trans (if_neg c246)
                    exact k_261 _ (lv_sub hl [6, 7, 8, 5, 3, 0] rfl) hv
                  · have hv := hv.trans (if_pos c246)
                    refine lv_lload hx hb dX6_product_250 (lv_at hl 0 rfl) ?_
                    refine lv_ldc2 hx hb hown (hts _ w_619) dX6_product_252 ?_
                    refine lv_land hx hb dX6_product_255 ?_
                    refine lv_lconst (v := 0) hx hb dX6_product_256 (by decide) ?_
                    refine lc_eq (tgt := 265) hx hb dX6_product_257 dX6_product_258 (by decide) (fun c257 => ?_) (fun c257 => ?_)
                    · have hv := hv.trans (if_pos c257)
                      refine lv_iconst (v := 0) hx hb dX6_product_265 (by decide) ?_
                      exact k_266 0 _ (lv_sub hl [6, 7, 8, 5, 3, 0] rfl) hv
                    · have hv := hv.trans (if_neg c257)
                      exact k_261 _ (lv_sub hl [6, 7, 8, 5, 3, 0] rfl) hv
                · have hv := hv.trans (if_neg c132)
                  exact k_135 _ (lv_sub hl [0, 1, 2, 3] rfl) hv
            refine lv_if_eq (tgt := 125) hx hb dX6_product_111 (by decide) (fun c111 => ?_) (fun c111 => ?_)
            · have hv := hv.trans (if_pos c111)
              exact k_125 _ (lv_sub hl [1, 2, 3, 4, 0] rfl) hv
            · have hv := hv.trans (if_neg c111)
              refine lv_iload hx hb dX6_product_114 (lv_at hl 0 rfl) ?_
              refine lv_if_eq (tgt := 125) hx hb dX6_product_116 (by decide) (fun c116 => ?_) (fun c116 => ?_)
              · have hv := hv.trans (if_pos c116)
                exact k_125 _ (lv_sub hl [1, 2, 3, 4, 0] rfl) hv
              · have hv := hv.trans (if_neg c116)
                exact k_119 _ (lv_sub hl [1, 2] rfl) hv
      have k_82 : ∀  (ls : Array Slot), lv_has ls 22 [(0, .ref (ad 0)), (1, .int x1), (6, .int t0_35), (7, .int t0_60)] → F = f_X6_product_82 x1 t0_35 t0_60 u12_2 → W p l e (rmd 2) s m args below meth c H locs 0 0 (MQ below (sm_Ql g 19 ad (eM g ad) s.heap.size F) args s 0 0 (sm_AX 19 ad s.heap.size)) (F0 m 82 ls []) := by
        intro ls hl hv
        refine lv_iconst (v := 1) hx hb dX6_product_82 (by decide) ?_
        refine lv_goto (tgt := 87) hx hb dX6_product_83 (by decide) ?_
        exact k_87 1 _ (lv_sub hl [0, 1, 2, 3] rfl) hv
      refine lv_icmp_eq (tgt := 82) hx hb dX6_product_69 (by decide) (fun c69 => ?_) (fun c69 => ?_)
      · have hv := hv.trans (if_pos c69)
        exact k_82 _ (lv_sub hl [1, 2, 3, 0] rfl) hv
      · have hv := hv.trans (if_neg c69)
        refine lv_aload_n hx hb dX6_product_72 rfl (lv_at hl 1 rfl) ?_
        refine fg_RX6_64 hx hb hts hown hW hB dX6_product_73 ?_
        refine lv_iconst (v := 1) hx hb dX6_product_76 (by decide) ?_
        refine sw_ia hx hb hW hB (15) (by decide) (eM_15 g ad) (in_lit (by decide +kernel)) dX6_product_77 ?_
        refine lv_iconst (v := 2) hx hb dX6_product_78 (by decide) ?_
        refine lv_icmp_ne (tgt := 86) hx hb dX6_product_79 (by decide) (fun c79 => ?_) (fun c79 => ?_)
        · have hv := hv.trans (if_neg c79)
          refine lv_iconst (v := 0) hx hb dX6_product_86 (by decide) ?_
          exact k_87 0 _ (lv_sub hl [1, 2, 3, 0] rfl) hv
        · have hv := hv.trans (if_pos c79)
          exact k_82 _ (lv_sub hl [1, 2, 3, 0] rfl) hv
    have k_55 : ∀  (ls : Array Slot), lv_has ls 22 [(0, .ref (ad 0)), (1, .int x1), (6, .int t0_35)] → F = f_X6_product_55 x1 t0_35 u12_2 → W p l e (rmd 2) s m args below meth c H locs 0 0 (MQ below (sm_Ql g 19 ad (eM g ad) s.heap.size F) args s 0 0 (sm_AX 19 ad s.heap.size)) (F0 m 55 ls []) := by
      intro ls hl hv
      refine lv_iconst (v := 1) hx hb dX6_product_55 (by decide) ?_
      refine lv_goto (tgt := 60) hx hb dX6_product_56 (by decide) ?_
      exact k_60 1 _ (lv_sub hl [0, 1, 2] rfl) hv
    refine lv_if_eq (tgt := 55) hx hb dX6_product_43 (by decide) (fun c43 => ?_) (fun c43 => ?_)
    · have hv := hv.trans (if_pos c43)
      exact k_55 _ (lv_sub hl [1, 2, 0] rfl) hv
    · have hv := hv.trans (if_neg c43)
      refine lv_aload_n hx hb dX6_product_46 rfl (lv_at hl 1 rfl) ?_
      refine fg_RX6_64 hx hb hts hown hW hB dX6_product_47 ?_
      refine lv_iconst (v := 1) hx hb dX6_product_50 (by decide) ?_
      refine sw_ia hx hb hW hB (15) (by decide) (eM_15 g ad) (in_lit (by decide +kernel)) dX6_product_51 ?_
      refine lv_if_ne (tgt := 59) hx hb dX6_product_52 (by decide) (fun c52 => ?_) (fun c52 => ?_)
      · have hv := hv.trans (if_neg c52)
        refine lv_iconst (v := 0) hx hb dX6_product_59 (by decide) ?_
        exact k_60 0 _ (lv_sub hl [1, 2, 0] rfl) hv
      · have hv := hv.trans (if_pos c52)
        exact k_55 _ (lv_sub hl [1, 2, 0] rfl) hv
  refine lv_icmp_eq (tgt := 34) hx hb dX6_product_27 (by decide) (fun c27 => ?_) (fun c27 => ?_)
  · have hv := hv.trans (if_pos c27)
    refine lv_iconst (v := 0) hx hb dX6_product_34 (by decide) ?_
    exact k_35 0 _ (lv_sub hl [0, 1] rfl) hv
  · have hv := hv.trans (if_neg c27)
    refine lv_iconst (v := 1) hx hb dX6_product_30 (by decide) ?_
    refine lv_goto (tgt := 35) hx hb dX6_product_31 (by decide) ?_
    exact k_35 1 _ (lv_sub hl [0, 1] rfl) hv
def f_X6_quotient_82 (x1 : Int32) (u12_2 : sm_S) : Int64 × sm_S := (f_X6_none x1, u12_2)
def f_X6_quotient_107 (x1 : Int32) (t0_35 : Int32) (u12_2 : sm_S) : Int64 × sm_S := (f_X6_signed x1 t0_35 (f_X6_infinite x1), u12_2)
def f_X6_quotient_139 (x1 : Int32) (t0_35 : Int32) (u12_2 : sm_S) : Int64 × sm_S := (f_X6_signed x1 t0_35 0, u12_2)
def f_X6_quotient_260 (v7_172 : Int64) (t0_35 : Int32) (x1 : Int32) (u155_4 : sm_S) (t0_260 : Int32) (t1_260 : Int32) : Int64 × sm_S := (f_X6_round x1 t0_35 v7_172 t1_260 t0_260, u155_4)
def f_X6_quotient_214 (K_172 : Int64 → Int64 → Int32 → Int64 × sm_S) (x1 : Int32) (v11_172 : Int32) (t0_35 : Int32) (u155_4 : sm_S) (v7_214 : Int64) (v9_214 : Int64) : Int64 × sm_S := sm_let (v9_214 <<< (Int32.toInt64 1 &&& 63)) (fun y218_7 => sm_let (v11_172 + 1) (fun y220_8 => K_172 v7_214 y218_7 y220_8))
def f_X6_quotient_172 : Nat → Int32 → Int32 → sm_S → Int64 → Int64 → Int32 → Int64 × sm_S
  | 0, _, _, _, _, _, _ => default
  | n + 1, x1, t0_35, u155_4, v7_172, v9_172, v11_172 => if 60 ≤ v11_172 then (if v9_172 = 0 then (f_X6_quotient_260 v7_172 t0_35 x1 u155_4 0 (((u155_4.1 16 (Int32.toNatClampNeg 0)) - (u155_4.1 16 (Int32.toNatClampNeg 1))) - 59)) else (f_X6_quotient_260 v7_172 t0_35 x1 u155_4 1 (((u155_4.1 16 (Int32.toNatClampNeg 0)) - (u155_4.1 16 (Int32.toNatClampNeg 1))) - 59))) else (sm_let (v7_172 <<< (Int32.toInt64 1 &&& 63)) (fun y183_6 => if v9_172 < (u155_4.2.1 18 (Int32.toNatClampNeg 1)) then (f_X6_quotient_214 (fun v7_172 v9_172 v11_172 => f_X6_quotient_172 n x1 t0_35 u155_4 v7_172 v9_172 v11_172) x1 v11_172 t0_35 u155_4 y183_6 v9_172) else (sm_let (v9_172 - (u155_4.2.1 18 (Int32.toNatClampNeg 1))) (fun y206_9 => sm_let (y183_6 + 1) (fun y212_10 => f_X6_quotient_214 (fun v7_172 v9_172 v11_172 => f_X6_quotient_172 n x1 t0_35 u155_4 v7_172 v9_172 v11_172) x1 v11_172 t0_35 u155_4 y212_10 y206_9)))))
def f_X6_quotient_88 (x1 : Int32) (t0_35 : Int32) (u12_2 : sm_S) : Int64 × sm_S := if (u12_2.1 15 (Int32.toNatClampNeg 0)) = 2 then (f_X6_quotient_107 x1 t0_35 u12_2) else (if (u12_2.1 15 (Int32.toNatClampNeg 1)) = 0 then (f_X6_quotient_107 x1 t0_35 u12_2) else (if (u12_2.1 15 (Int32.toNatClampNeg 0)) = 0 then (f_X6_quotient_139 x1 t0_35 u12_2) else (if (u12_2.1 15 (Int32.toNatClampNeg 1)) = 2 then (f_X6_quotient_139 x1 t0_35 u12_2) else (sm_let (f_X6_spread u12_2 0) (fun u150_3 => sm_let (f_X6_spread u150_3 1) (fun u155_4 => sm_let (u155_4.2.1 18 (Int32.toNatClampNeg 0)) (fun y167_5 => f_X6_quotient_172 (((60 : Int32).toInt - Int32.toInt 0).toNat + 1) x1 t0_35 u155_4 0 y167_5 0)))))))
def f_X6_quotient_35 (x1 : Int32) (u12_2 : sm_S) (t0_35 : Int32) : Int64 × sm_S := if (u12_2.1 15 (Int32.toNatClampNeg 0)) = 3 then (f_X6_quotient_82 x1 u12_2) else (if (u12_2.1 15 (Int32.toNatClampNeg 1)) = 3 then (f_X6_quotient_82 x1 u12_2) else (if (u12_2.1 15 (Int32.toNatClampNeg 0)) = (u12_2.1 15 (Int32.toNatClampNeg 1)) then (if (u12_2.1 15 (Int32.toNatClampNeg 0)) = 1 then (f_X6_quotient_88 x1 t0_35 u12_2) else (f_X6_quotient_82 x1 u12_2)) else (f_X6_quotient_88 x1 t0_35 u12_2)))
def f_X6_quotient (σ : sm_S) (x1 : Int32) (x2 : Int64) (x4 : Int64) : Int64 × sm_S := sm_let (f_X6_take σ 0 x2 x1) (fun u4_1 => sm_let (f_X6_take u4_1 1 x4 x1) (fun u12_2 => if (u12_2.1 17 (Int32.toNatClampNeg 0)) = (u12_2.1 17 (Int32.toNatClampNeg 1)) then (f_X6_quotient_35 x1 u12_2 0) else (f_X6_quotient_35 x1 u12_2 1)))
set_option maxRecDepth 100000 in
set_option maxHeartbeats 4000000 in
theorem c_X6_quotient (l : Launch) (g : sm_G) (ad : Nat → Nat) (hj : sm_inj 19 ad) (sz : Nat) (σ : sm_S) (x1 : Int32) (x2 : Int64) (x4 : Int64)   : Met l yX6_quotient (sm_ws yX6_quotient cX6_quotient 12 (some .long)) (rmd 2) (va_Pc [.ref (ad 0), .int x1, .long x2, .long x4] (sm_Pre g 19 ad (eM g ad) σ sz)) (sm_Ql g 19 ad (eM g ad) sz (f_X6_quotient σ x1 x2 x4)) 0 0 (sm_AX 19 ad sz) := by
  generalize hv : f_X6_quotient σ x1 x2 x4 = F
  replace hv := hv.symm
  refine sm_mWl (by decide) (Nat.le_of_ble_eq_true rfl) hj (eM_lay g ad) (fun p e s m args below meth c C hW hB ls hl => ?_)
  obtain ⟨hC, hr, hlocks⟩ := C
  have hx := hC.1
  have hb := hC.2.1
  have hts := hC.2.2.2.2
  have hown : s.vm.findClass RX6 = some m.cls := hC.2.2.2.1
  have hl : lv_has ls 12 [(0, .ref (ad 0)), (1, .int x1), (2, .long x2), (4, .long x4)] := hl
  refine lv_aload_n hx hb dX6_quotient_0 rfl (lv_at hl 0 rfl) ?_
  refine lv_iconst (v := 0) hx hb dX6_quotient_1 (by decide) ?_
  refine lv_lload_n hx hb dX6_quotient_2 rfl (lv_at hl 2 rfl) ?_
  refine lv_iload_n hx hb dX6_quotient_3 rfl (lv_at hl 1 rfl) ?_
  refine sw_cvn hv hB (sm_runV (rest := []) hC (c_X6_take l g ad hW.2.1 _ σ 0 x2 x1 (in_lit (by decide +kernel))) k_X6_take w_610 (by decide) (sm_pv hW hB (by decide) (eM_0 g ad _) rfl) rfl hl.1 rfl (Nat.le_of_ble_eq_true rfl) dX6_quotient_4) (fun u4_1 eu4_1 hv H locs hB => ?_)
  refine lv_aload_n hx hb dX6_quotient_7 rfl (lv_at hl 0 rfl) ?_
  refine lv_iconst (v := 1) hx hb dX6_quotient_8 (by decide) ?_
  refine lv_lload hx hb dX6_quotient_9 (lv_at hl 3 rfl) ?_
  refine lv_iload_n hx hb dX6_quotient_11 rfl (lv_at hl 1 rfl) ?_
  refine sw_cvn hv hB (sm_runV (rest := []) hC (c_X6_take l g ad hW.2.1 _ u4_1 1 x4 x1 (in_lit (by decide +kernel))) k_X6_take w_610 (by decide) (sm_pv hW hB (by decide) (eM_0 g ad _) rfl) rfl hl.1 rfl (Nat.le_of_ble_eq_true rfl) dX6_quotient_12) (fun u12_2 eu12_2 hv H locs hB => ?_)
  refine lv_aload_n hx hb dX6_quotient_15 rfl (lv_at hl 0 rfl) ?_
  refine fg_RX6_70 hx hb hts hown hW hB dX6_quotient_16 ?_
  refine lv_iconst (v := 0) hx hb dX6_quotient_19 (by decide) ?_
  refine sw_za hx hb hW hB (17) (by decide) (eM_17 g ad) (in_lit (by decide +kernel)) dX6_quotient_20 ?_
  refine lv_aload_n hx hb dX6_quotient_21 rfl (lv_at hl 0 rfl) ?_
  refine fg_RX6_70 hx hb hts hown hW hB dX6_quotient_22 ?_
  refine lv_iconst (v := 1) hx hb dX6_quotient_25 (by decide) ?_
  refine sw_za hx hb hW hB (17) (by decide) (eM_17 g ad) (in_lit (by decide +kernel)) dX6_quotient_26 ?_
  have k_35 : ∀ (t0_35 : Int32) (ls : Array Slot), lv_has ls 12 [(0, .ref (ad 0)), (1, .int x1)] → F = f_X6_quotient_35 x1 u12_2 t0_35 → W p l e (rmd 2) s m args below meth c H locs 0 0 (MQ below (sm_Ql g 19 ad (eM g ad) s.heap.size F) args s 0 0 (sm_AX 19 ad s.heap.size)) (F0 m 35 ls [.int t0_35]) := by
    intro t0_35 ls hl hv
    refine lv_istore (lv' := [(6, .int t0_35), (0, .ref (ad 0)), (1, .int x1)]) hx hb dX6_quotient_35 hl (by decide) rfl (fun ls hl => ?_)
    refine lv_aload_n hx hb dX6_quotient_37 rfl (lv_at hl 1 rfl) ?_
    refine fg_RX6_64 hx hb hts hown hW hB dX6_quotient_38 ?_
    refine lv_iconst (v := 0) hx hb dX6_quotient_41 (by decide) ?_
    refine sw_ia hx hb hW hB (15) (by decide) (eM_15 g ad) (in_lit (by decide +kernel)) dX6_quotient_42 ?_
    refine lv_iconst (v := 3) hx hb dX6_quotient_43 (by decide) ?_
    have k_82 : ∀  (ls : Array Slot), lv_has ls 12 [(0, .ref (ad 0)), (1, .int x1)] → F = f_X6_quotient_82 x1 u12_2 → W p l e (rmd 2) s m args below meth c H locs 0 0 (MQ below (sm_Ql g 19 ad (eM g ad) s.heap.size F) args s 0 0 (sm_AX 19 ad s.heap.size)) (F0 m 82 ls []) := by
      intro ls hl hv
      refine lv_aload_n hx hb dX6_quotient_82 rfl (lv_at hl 0 rfl) ?_
      refine lv_iload_n hx hb dX6_quotient_83 rfl (lv_at hl 1 rfl) ?_
      refine sm_cl (sm_runV (rest := []) hC (c_X6_none l g ad hW.2.1 _ x1 u12_2) k_X6_none w_624 (by decide) (sm_pv hW hB (by decide) (eM_0 g ad _) rfl) rfl hl.1 rfl (Nat.le_of_ble_eq_true rfl) dX6_quotient_84) ?_
      exact sw_rl hx hb hr hlocks hB hv dX6_quotient_87
    refine lv_icmp_eq (tgt := 82) hx hb dX6_quotient_44 (by decide) (fun c44 => ?_) (fun c44 => ?_)
    · have hv := hv.trans (if_pos c44)
      exact k_82 _ (lv_sub hl [1, 2] rfl) hv
    · have hv := hv.trans (if_neg c44)
      refine lv_aload_n hx hb dX6_quotient_47 rfl (lv_at hl 1 rfl) ?_
      refine fg_RX6_64 hx hb hts hown hW hB dX6_quotient_48 ?_
      refine lv_iconst (v := 1) hx hb dX6_quotient_51 (by decide) ?_
      refine sw_ia hx hb hW hB (15) (by decide) (eM_15 g ad) (in_lit (by decide +kernel)) dX6_quotient_52 ?_
      refine lv_iconst (v := 3) hx hb dX6_quotient_53 (by decide) ?_
      refine lv_icmp_eq (tgt := 82) hx hb dX6_quotient_54 (by decide) (fun c54 => ?_) (fun c54 => ?_)
      · have hv := hv.trans (if_pos c54)
        exact k_82 _ (lv_sub hl [1, 2] rfl) hv
      · have hv := hv.trans (if_neg c54)
        refine lv_aload_n hx hb dX6_quotient_57 rfl (lv_at hl 1 rfl) ?_
        refine fg_RX6_64 hx hb hts hown hW hB dX6_quotient_58 ?_
        refine lv_iconst (v := 0) hx hb dX6_quotient_61 (by decide) ?_
        refine sw_ia hx hb hW hB (15) (by decide) (eM_15 g ad) (in_lit (by decide +kernel)) dX6_quotient_62 ?_
        refine lv_aload_n hx hb dX6_quotient_63 rfl (lv_at hl 1 rfl) ?_
        refine fg_RX6_64 hx hb hts hown hW hB dX6_quotient_64 ?_
        refine lv_iconst (v := 1) hx hb dX6_quotient_67 (by decide) ?_
        refine sw_ia hx hb hW hB (15) (by decide) (eM_15 g ad) (in_lit (by decide +kernel)) dX6_quotient_68 ?_
        have k_88 : ∀  (ls : Array Slot), lv_has ls 12 [(0, .ref (ad 0)), (1, .int x1), (6, .int t0_35)] → F = f_X6_quotient_88 x1 t0_35 u12_2 → W p l e (rmd 2) s m args below meth c H locs 0 0 (MQ below (sm_Ql g 19 ad (eM g ad) s.heap.size F) args s 0 0 (sm_AX 19 ad s.heap.size)) (F0 m 88 ls []) := by
          intro ls hl hv
          refine lv_aload_n hx hb dX6_quotient_88 rfl (lv_at hl 0 rfl) ?_
          refine fg_RX6_64 hx hb hts hown hW hB dX6_quotient_89 ?_
          refine lv_iconst (v := 0) hx hb dX6_quotient_92 (by decide) ?_
          refine sw_ia hx hb hW hB (15) (by decide) (eM_15 g ad) (in_lit (by decide +kernel)) dX6_quotient_93 ?_
          refine lv_iconst (v := 2) hx hb dX6_quotient_94 (by decide) ?_
          have k_107 : ∀  (ls : Array Slot), lv_has ls 12 [(0, .ref (ad 0)), (1, .int x1), (6, .int t0_35)] → F = f_X6_quotient_107 x1 t0_35 u12_2 → W p l e (rmd 2) s m args below meth c H locs 0 0 (MQ below (sm_Ql g 19 ad (eM g ad) s.heap.size F) args s 0 0 (sm_AX 19 ad s.heap.size)) (F0 m 107 ls []) := by
            intro ls hl hv
            refine lv_aload_n hx hb dX6_quotient_107 rfl (lv_at hl 0 rfl) ?_
            refine lv_iload_n hx hb dX6_quotient_108 rfl (lv_at hl 1 rfl) ?_
            refine lv_iload hx hb dX6_quotient_109 (lv_at hl 2 rfl) ?_
            refine lv_aload_n hx hb dX6_quotient_111 rfl (lv_at hl 0 rfl) ?_
            refine lv_iload_n hx hb dX6_quotient_112 rfl (lv_at hl 1 rfl) ?_
            refine sm_cl (sm_runV (rest := [.int t0_35, .int x1, .ref (ad 0)]) hC (c_X6_infinite l g ad hW.2.1 _ x1 u12_2) k_X6_infinite w_668 (by decide) (sm_pv hW hB (by decide) (eM_0 g ad _) rfl) rfl hl.1 rfl (Nat.le_of_ble_eq_true rfl) dX6_quotient_113) ?_
            refine sm_cl (sm_runV (rest := []) hC (c_X6_signed l g ad hW.2.1 _ x1 t0_35 (f_X6_infinite x1) u12_2) k_X6_signed w_674 (by decide) (sm_pv hW hB (by decide) (eM_0 g ad _) rfl) rfl hl.1 rfl (Nat.le_of_ble_eq_true rfl) dX6_quotient_116) ?_
            exact sw_rl hx hb hr hlocks hB hv dX6_quotient_119
          refine lv_icmp_eq (tgt := 107) hx hb dX6_quotient_95 (by decide) (fun c95 => ?_) (fun c95 => ?_)
          · have hv := hv.trans (if_pos c95)
            exact k_107 _ (lv_sub hl [0, 1, 2] rfl) hv
          · have hv := hv.trans (if_neg c95)
            refine lv_aload_n hx hb dX6_quotient_98 rfl (lv_at hl 0 rfl) ?_
            refine fg_RX6_64 hx hb hts hown hW hB dX6_quotient_99 ?_
            refine lv_iconst (v := 1) hx hb dX6_quotient_102 (by decide) ?_
            refine sw_ia hx hb hW hB (15) (by decide) (eM_15 g ad) (in_lit (by decide +kernel)) dX6_quotient_103 ?_
            refine lv_if_ne (tgt := 120) hx hb dX6_quotient_104 (by decide) (fun c104 => ?_) (fun c104 => ?_)
            · have hv := hv.trans (if_neg c104)
              refine lv_aload_n hx hb dX6_quotient_120 rfl (lv_at hl 0 rfl) ?_
              refine fg_RX6_64 hx hb hts hown hW hB dX6_quotient_121 ?_
              refine lv_iconst (v := 0) hx hb dX6_quotient_124 (by decide) ?_
              refine sw_ia hx hb hW hB (15) (by decide) (eM_15 g ad) (in_lit (by decide +kernel)) dX6_quotient_125 ?_
              have k_139 : ∀  (ls : Array Slot), lv_has ls 12 [(0, .ref (ad 0)), (1, .int x1), (6, .int t0_35)] → F = f_X6_quotient_139 x1 t0_35 u12_2 → W p l e (rmd 2) s m args below meth c H locs 0 0 (MQ below (sm_Ql g 19 ad (eM g ad) s.heap.size F) args s 0 0 (sm_AX 19 ad s.heap.size)) (F0 m 139 ls []) := by
                intro ls hl hv
                refine lv_aload_n hx hb dX6_quotient_139 rfl (lv_at hl 0 rfl) ?_
                refine lv_iload_n hx hb dX6_quotient_140 rfl (lv_at hl 1 rfl) ?_
                refine lv_iload hx hb dX6_quotient_141 (lv_at hl 2 rfl) ?_
                refine lv_lconst (v := 0) hx hb dX6_quotient_143 (by decide) ?_
                refine sm_cl (sm_runV (rest := []) hC (c_X6_signed l g ad hW.2.1 _ x1 t0_35 0 u12_2) k_X6_signed w_674 (by decide) (sm_pv hW hB (by decide) (eM_0 g ad _) rfl) rfl hl.1 rfl (Nat.le_of_ble_eq_true rfl) dX6_quotient_144) ?_
                exact sw_rl hx hb hr hlocks hB hv dX6_quotient_147
              refine lv_if_eq (tgt := 139) hx hb dX6_quotient_126 (by decide) (fun c126 => ?_) (fun c126 => ?_)
              · have hv := hv.trans (if_pos c126)
                exact k_139 _ (lv_sub hl [0, 1, 2] rfl) hv
              · have hv := hv.trans (if_neg c126)
                refine lv_aload_n hx hb dX6_quotient_129 rfl (lv_at hl 0 rfl) ?_
                refine fg_RX6_64 hx hb hts hown hW hB dX6_quotient_130 ?_
                refine lv_iconst (v := 1) hx hb dX6_quotient_133 (by decide) ?_
                refine sw_ia hx hb hW hB (15) (by decide) (eM_15 g ad) (in_lit (by decide +kernel)) dX6_quotient_134 ?_
                refine lv_iconst (v := 2) hx hb dX6_quotient_135 (by decide) ?_
                refine lv_icmp_ne (tgt := 148) hx hb dX6_quotient_136 (by decide) (fun c136 => ?_) (fun c136 => ?_)
                · have hv := hv.trans (if_neg c136)
                  refine lv_aload_n hx hb dX6_quotient_148 rfl (lv_at hl 0 rfl) ?_
                  refine lv_iconst (v := 0) hx hb dX6_quotient_149 (by decide) ?_
                  refine sw_cvn hv hB (sm_runV (rest := []) hC (c_X6_spread l g ad hW.2.1 _ u12_2 0 (in_lit (by decide +kernel))) k_X6_spread w_722 (by decide) (sm_pv hW hB (by decide) (eM_0 g ad _) rfl) rfl hl.1 rfl (Nat.le_of_ble_eq_true rfl) dX6_quotient_150) (fun u150_3 eu150_3 hv H locs hB => ?_)
                  refine lv_aload_n hx hb dX6_quotient_153 rfl (lv_at hl 0 rfl) ?_
                  refine lv_iconst (v := 1) hx hb dX6_quotient_154 (by decide) ?_
                  refine sw_cvn hv hB (sm_runV (rest := []) hC (c_X6_spread l g ad hW.2.1 _ u150_3 1 (in_lit (by decide +kernel))) k_X6_spread w_722 (by decide) (sm_pv hW hB (by decide) (eM_0 g ad _) rfl) rfl hl.1 rfl (Nat.le_of_ble_eq_true rfl) dX6_quotient_155) (fun u155_4 eu155_4 hv H locs hB => ?_)
                  refine lv_lconst (v := 0) hx hb dX6_quotient_158 (by decide) ?_
                  refine lv_lstore (lv' := [(7, .long 0), (0, .ref (ad 0)), (1, .int x1), (6, .int t0_35)]) hx hb dX6_quotient_159 hl (by decide) rfl (fun ls hl => ?_)
                  refine lv_aload_n hx hb dX6_quotient_161 rfl (lv_at hl 1 rfl) ?_
                  refine fg_RX6_73 hx hb hts hown hW hB dX6_quotient_162 ?_
                  refine lv_iconst (v := 0) hx hb dX6_quotient_165 (by decide) ?_
                  refine sw_la hx hb hW hB (18) (by decide) (eM_18 g ad) (in_lit (by decide +kernel)) dX6_quotient_166 ?_
                  refine sm_nml hv (fun y167_5 ey167_5 hv => ?_)
                  refine lv_lstore (lv' := [(9, .long y167_5), (7, .long 0), (0, .ref (ad 0)), (1, .int x1), (6, .int t0_35)]) hx hb dX6_quotient_167 hl (by decide) rfl (fun ls hl => ?_)
                  refine lv_iconst (v := 0) hx hb dX6_quotient_169 (by decide) ?_
                  have k_172 : ∀ (n : Nat) (v7_172 : Int64) (v9_172 : Int64) (v11_172 : Int32) (ls : Array Slot), ¬ v11_172 < 0 → ((60 : Int32).toInt - Int32.toInt v11_172).toNat < n → lv_has ls 12 [(0, .ref (ad 0)), (1, .int x1), (6, .int t0_35), (7, .long v7_172), (9, .long v9_172), (11, .int v11_172)] → F = f_X6_quotient_172 n x1 t0_35 u155_4 v7_172 v9_172 v11_172 → W p l e (rmd 2) s m args below meth c H locs 0 0 (MQ below (sm_Ql g 19 ad (eM g ad) s.heap.size F) args s 0 0 (sm_AX 19 ad s.heap.size)) (F0 m 172 ls []) := by
                    intro n
                    induction n with
                    | zero =>
                      intro v7_172 v9_172 v11_172 ls i0 hme hl hv
                      exact absurd hme (Nat.not_lt_zero _)
                    | succ n ih =>
                      intro v7_172 v9_172 v11_172 ls i0 hme hl hv
                      refine lv_iload hx hb dX6_quotient_172 (lv_at hl 5 rfl) ?_
                      refine lv_bipush (v := 60) hx hb dX6_quotient_174 (by decide) ?_
                      refine lv_icmp_ge (tgt := 226) hx hb dX6_quotient_176 (by decide) (fun c176 => ?_) (fun c176 => ?_)
                      · have hv := hv.trans (if_pos c176)
                        refine lv_aload_n hx hb dX6_quotient_226 rfl (lv_at hl 0 rfl) ?_
                        refine lv_iload_n hx hb dX6_quotient_227 rfl (lv_at hl 1 rfl) ?_
                        refine lv_iload hx hb dX6_quotient_228 (lv_at hl 2 rfl) ?_
                        refine lv_lload hx hb dX6_quotient_230 (lv_at hl 3 rfl) ?_
                        refine lv_aload_n hx hb dX6_quotient_232 rfl (lv_at hl 0 rfl) ?_
                        refine fg_RX6_67 hx hb hts hown hW hB dX6_quotient_233 ?_
                        refine lv_iconst (v := 0) hx hb dX6_quotient_236 (by decide) ?_
                        refine sw_ia hx hb hW hB (16) (by decide) (eM_16 g ad) (in_lit (by decide +kernel)) dX6_quotient_237 ?_
                        refine lv_aload_n hx hb dX6_quotient_238 rfl (lv_at hl 0 rfl) ?_
                        refine fg_RX6_67 hx hb hts hown hW hB dX6_quotient_239 ?_
                        refine lv_iconst (v := 1) hx hb dX6_quotient_242 (by decide) ?_
                        refine sw_ia hx hb hW hB (16) (by decide) (eM_16 g ad) (in_lit (by decide +kernel)) dX6_quotient_243 ?_
                        refine lv_isub hx hb dX6_quotient_244 ?_
                        refine lv_bipush (v := 59) hx hb dX6_quotient_245 (by decide) ?_
                        refine lv_isub hx hb dX6_quotient_247 ?_
                        refine lv_lload hx hb dX6_quotient_248 (lv_at hl 4 rfl) ?_
                        refine lv_lconst (v := 0) hx hb dX6_quotient_250 (by decide) ?_
                        have k_260 : ∀ (t0_260 : Int32) (t1_260 : Int32) (ls : Array Slot), lv_has ls 12 [] → F = f_X6_quotient_260 v7_172 t0_35 x1 u155_4 t0_260 t1_260 → W p l e (rmd 2) s m args below meth c H locs 0 0 (MQ below (sm_Ql g 19 ad (eM g ad) s.heap.size F) args s 0 0 (sm_AX 19 ad s.heap.size)) (F0 m 260 ls [.int t0_260, .int t1_260, .long v7_172, .int t0_35, .int x1, .ref (ad 0)]) := by
                          intro t0_260 t1_260 ls hl hv
                          refine sm_cl (sm_runV (rest := []) hC (c_X6_round l g ad hW.2.1 _ x1 t0_35 v7_172 t1_260 t0_260 u155_4) k_X6_round w_660 (by decide) (sm_pv hW hB (by decide) (eM_0 g ad _) rfl) rfl hl.1 rfl (Nat.le_of_ble_eq_true rfl) dX6_quotient_260) ?_
                          exact sw_rl hx hb hr hlocks hB hv dX6_quotient_263
                        refine lc_eq (tgt := 259) hx hb dX6_quotient_251 dX6_quotient_252 (by decide) (fun c251 => ?_) (fun c251 => ?_)
                        · have hv := hv.trans (if_pos c251)
                          refine lv_iconst (v := 0) hx hb dX6_quotient_259 (by decide) ?_
                          exact k_260 0 (((u155_4.1 16 (Int32.toNatClampNeg 0)) - (u155_4.1 16 (Int32.toNatClampNeg 1))) - 59) _ (lv_sub hl [] rfl) hv
                        · have hv := hv.trans (if_neg c251)
                          refine lv_iconst (v := 1) hx hb dX6_quotient_255 (by decide) ?_
                          refine lv_goto (tgt := 260) hx hb dX6_quotient_256 (by decide) ?_
                          exact k_260 1 (((u155_4.1 16 (Int32.toNatClampNeg 0)) - (u155_4.1 16 (Int32.toNatClampNeg 1))) - 59) _ (lv_sub hl [] rfl) hv
                      · have hv := hv.trans (if_neg c176)
                        refine lv_lload hx hb dX6_quotient_179 (lv_at hl 3 rfl) ?_
                        refine lv_iconst (v := 1) hx hb dX6_quotient_181 (by decide) ?_
                        refine lv_lshl hx hb dX6_quotient_182 rfl ?_
                        refine sm_nml hv (fun y183_6 ey183_6 hv => ?_)
                        refine lv_lstore (lv' := [(7, .long y183_6), (0, .ref (ad 0)), (1, .int x1), (6, .int t0_35), (9, .long v9_172), (11, .int v11_172)]) hx hb dX6_quotient_183 hl (by decide) rfl (fun ls hl => ?_)
                        refine lv_lload hx hb dX6_quotient_185 (lv_at hl 4 rfl) ?_
                        refine lv_aload_n hx hb dX6_quotient_187 rfl (lv_at hl 1 rfl) ?_
                        refine fg_RX6_73 hx hb hts hown hW hB dX6_quotient_188 ?_
                        refine lv_iconst (v := 1) hx hb dX6_quotient_191 (by decide) ?_
                        refine sw_la hx hb hW hB (18) (by decide) (eM_18 g ad) (in_lit (by decide +kernel)) dX6_quotient_192 ?_
                        have k_214 : ∀ (v7_214 : Int64) (v9_214 : Int64) (ls : Array Slot), lv_has ls 12 [(0, .ref (ad 0)), (1, .int x1), (6, .int t0_35), (7, .long v7_214), (9, .long v9_214), (11, .int v11_172)] → F = f_X6_quotient_214 (fun v7_172 v9_172 v11_172 => f_X6_quotient_172 n x1 t0_35 u155_4 v7_172 v9_172 v11_172) x1 v11_172 t0_35 u155_4 v7_214 v9_214 → W p l e (rmd 2) s m args below meth c H locs 0 0 (MQ below (sm_Ql g 19 ad (eM g ad) s.heap.size F) args s 0 0 (sm_AX 19 ad s.heap.size)) (F0 m 214 ls []) := by
                          intro v7_214 v9_214 ls hl hv
                          refine lv_lload hx hb dX6_quotient_214 (lv_at hl 4 rfl) ?_
                          refine lv_iconst (v := 1) hx hb dX6_quotient_216 (by decide) ?_
                          refine lv_lshl hx hb dX6_quotient_217 rfl ?_
                          refine sm_nml hv (fun y218_7 ey218_7 hv => ?_)
                          refine lv_lstore (lv' := [(9, .long y218_7), (0, .ref (ad 0)), (1, .int x1), (6, .int t0_35), (7, .long v7_214), (11, .int v11_172)]) hx hb dX6_quotient_218 hl (by decide) rfl (fun ls hl => ?_)
                          obtain ⟨y220_8, ey220_8, hv⟩ := sm_lt hv
                          refine lv_iinc (v := y220_8) (lv' := [(11, .int y220_8), (9, .long y218_7), (0, .ref (ad 0)), (1, .int x1), (6, .int t0_35), (7, .long v7_214)]) hx hb dX6_quotient_220 hl (k := 5) rfl (by rw [ey220_8]; rfl) (by decide) rfl (fun ls hl => ?_)
                          refine lv_goto (tgt := 172) hx hb dX6_quotient_223 (by decide) ?_
                          exact ih v7_214 y218_7 y220_8 _ (by rw [ey220_8]; exact nn_inc i0 c176) (by rw [ey220_8]; exact Nat.lt_of_lt_of_le (me_inc c176) (Nat.le_of_lt_succ hme)) (lv_sub hl [2, 3, 4, 5, 1, 0] rfl) hv
                        refine lc_lt (tgt := 214) hx hb dX6_quotient_193 dX6_quotient_194 (by decide) (fun c193 => ?_) (fun c193 => ?_)
                        · have hv := hv.trans (if_pos c193)
                          exact k_214 y183_6 v9_172 _ (lv_sub hl [1, 2, 3, 0, 4, 5] rfl) hv
                        · have hv := hv.trans (if_neg c193)
                          refine lv_lload hx hb dX6_quotient_197 (lv_at hl 4 rfl) ?_
                          refine lv_aload_n hx hb dX6_quotient_199 rfl (lv_at hl 1 rfl) ?_
                          refine fg_RX6_73 hx hb hts hown hW hB dX6_quotient_200 ?_
                          refine lv_iconst (v := 1) hx hb dX6_quotient_203 (by decide) ?_
                          refine sw_la hx hb hW hB (18) (by decide) (eM_18 g ad) (in_lit (by decide +kernel)) dX6_quotient_204 ?_
                          refine lv_lsub hx hb dX6_quotient_205 ?_
                          refine sm_nml hv (fun y206_9 ey206_9 hv => ?_)
                          refine lv_lstore (lv' := [(9, .long y206_9), (7, .long y183_6), (0, .ref (ad 0)), (1, .int x1), (6, .int t0_35), (11, .int v11_172)]) hx hb dX6_quotient_206 hl (by decide) rfl (fun ls hl => ?_)
                          refine lv_lload hx hb dX6_quotient_208 (lv_at hl 1 rfl) ?_
                          refine lv_lconst (v := 1) hx hb dX6_quotient_210 (by decide) ?_
                          refine lv_ladd hx hb dX6_quotient_211 ?_
                          refine sm_nml hv (fun y212_10 ey212_10 hv => ?_)
                          refine lv_lstore (lv' := [(7, .long y212_10), (9, .long y206_9), (0, .ref (ad 0)), (1, .int x1), (6, .int t0_35), (11, .int v11_172)]) hx hb dX6_quotient_212 hl (by decide) rfl (fun ls hl => ?_)
                          exact k_214 y212_10 y206_9 _ (lv_sub hl [2, 3, 4, 0, 1, 5] rfl) hv
                  refine lv_istore (lv' := [(11, .int 0), (9, .long y167_5), (7, .long 0), (0, .ref (ad 0)), (1, .int x1), (6, .int t0_35)]) hx hb dX6_quotient_170 hl (by decide) rfl (fun ls hl => ?_)
                  exact k_172 (((60 : Int32).toInt - Int32.toInt 0).toNat + 1) 0 y167_5 0 _ (by decide) (Nat.lt_succ_self _) (lv_sub hl [3, 4, 5, 2, 1, 0] rfl) hv
                · have hv := hv.trans (if_pos c136)
                  exact k_139 _ (lv_sub hl [0, 1, 2] rfl) hv
            · have hv := hv.trans (if_pos c104)
              exact k_107 _ (lv_sub hl [0, 1, 2] rfl) hv
        refine lv_icmp_ne (tgt := 88) hx hb dX6_quotient_69 (by decide) (fun c69 => ?_) (fun c69 => ?_)
        · have hv := hv.trans (if_neg c69)
          exact k_88 _ (lv_sub hl [1, 2, 0] rfl) hv
        · have hv := hv.trans (if_pos c69)
          refine lv_aload_n hx hb dX6_quotient_72 rfl (lv_at hl 1 rfl) ?_
          refine fg_RX6_64 hx hb hts hown hW hB dX6_quotient_73 ?_
          refine lv_iconst (v := 0) hx hb dX6_quotient_76 (by decide) ?_
          refine sw_ia hx hb hW hB (15) (by decide) (eM_15 g ad) (in_lit (by decide +kernel)) dX6_quotient_77 ?_
          refine lv_iconst (v := 1) hx hb dX6_quotient_78 (by decide) ?_
          refine lv_icmp_eq (tgt := 88) hx hb dX6_quotient_79 (by decide) (fun c79 => ?_) (fun c79 => ?_)
          · have hv := hv.trans (if_pos c79)
            exact k_88 _ (lv_sub hl [1, 2, 0] rfl) hv
          · have hv := hv.trans (if_neg c79)
            exact k_82 _ (lv_sub hl [1, 2] rfl) hv
  refine lv_icmp_eq (tgt := 34) hx hb dX6_quotient_27 (by decide) (fun c27 => ?_) (fun c27 => ?_)
  · have hv := hv.trans (if_pos c27)
    refine lv_iconst (v := 0) hx hb dX6_quotient_34 (by decide) ?_
    exact k_35 0 _ (lv_sub hl [0, 1] rfl) hv
  · have hv := hv.trans (if_neg c27)
    refine lv_iconst (v := 1) hx hb dX6_quotient_30 (by decide) ?_
    refine lv_goto (tgt := 35) hx hb dX6_quotient_31 (by decide) ?_
    exact k_35 1 _ (lv_sub hl [0, 1] rfl) hv
def f_X6_remainder_54 (x1 : Int32) (u12_2 : sm_S) : Int64 × sm_S := (f_X6_none x1, u12_2)
def f_X6_remainder_196 (K_156 : Int64 → Int32 → Int64 × sm_S) (x1 : Int32) (v8_156 : Int32) (u88_4 : sm_S) (v6_196 : Int64) : Int64 × sm_S := sm_let (v8_156 + -1) (fun y196_6 => K_156 v6_196 y196_6)
def f_X6_remainder_156 : Nat → Int32 → sm_S → Int64 → Int32 → Int64 × sm_S
  | 0, _, _, _, _ => default
  | n + 1, x1, u88_4, v6_156, v8_156 => if v8_156 ≤ (u88_4.1 16 (Int32.toNatClampNeg 1)) then (if v6_156 = 0 then ((f_X6_signed x1 (u88_4.1 17 (Int32.toNatClampNeg 0)) 0, u88_4)) else ((f_X6_round x1 (u88_4.1 17 (Int32.toNatClampNeg 0)) v6_156 (u88_4.1 16 (Int32.toNatClampNeg 1)) 0, u88_4))) else (sm_let (v6_156 <<< (Int32.toInt64 1 &&& 63)) (fun y171_5 => if y171_5 < (u88_4.2.1 18 (Int32.toNatClampNeg 1)) then (f_X6_remainder_196 (fun v6_156 v8_156 => f_X6_remainder_156 n x1 u88_4 v6_156 v8_156) x1 v8_156 u88_4 y171_5) else (sm_let (y171_5 - (u88_4.2.1 18 (Int32.toNatClampNeg 1))) (fun y194_7 => f_X6_remainder_196 (fun v6_156 v8_156 => f_X6_remainder_156 n x1 u88_4 v6_156 v8_156) x1 v8_156 u88_4 y194_7))))
def f_X6_remainder_146 (x1 : Int32) (u88_4 : sm_S) (t0_146 : Int64) : Int64 × sm_S := sm_let (u88_4.1 16 (Int32.toNatClampNeg 0)) (fun y154_8 => f_X6_remainder_156 ((Int32.toInt y154_8 - Int32.toInt (u88_4.1 16 (Int32.toNatClampNeg 1))).toNat + 1) x1 u88_4 t0_146 y154_8)
def f_X6_remainder (σ : sm_S) (x1 : Int32) (x2 : Int64) (x4 : Int64) : Int64 × sm_S := sm_let (f_X6_take σ 0 x2 x1) (fun u4_1 => sm_let (f_X6_take u4_1 1 x4 x1) (fun u12_2 => if (u12_2.1 15 (Int32.toNatClampNeg 0)) = 3 then (f_X6_remainder_54 x1 u12_2) else (if (u12_2.1 15 (Int32.toNatClampNeg 1)) = 3 then (f_X6_remainder_54 x1 u12_2) else (if (u12_2.1 15 (Int32.toNatClampNeg 0)) = 2 then (f_X6_remainder_54 x1 u12_2) else (if (u12_2.1 15 (Int32.toNatClampNeg 1)) = 0 then (f_X6_remainder_54 x1 u12_2) else (if (u12_2.1 15 (Int32.toNatClampNeg 0)) = 0 then ((x2, u12_2)) else (if (u12_2.1 15 (Int32.toNatClampNeg 1)) = 2 then ((x2, u12_2)) else (sm_let (f_X6_spread u12_2 0) (fun u83_3 => sm_let (f_X6_spread u83_3 1) (fun u88_4 => if (u88_4.1 16 (Int32.toNatClampNeg 1)) ≤ (u88_4.1 16 (Int32.toNatClampNeg 0)) then (if (u88_4.2.1 18 (Int32.toNatClampNeg 0)) < (u88_4.2.1 18 (Int32.toNatClampNeg 1)) then (f_X6_remainder_146 x1 u88_4 (u88_4.2.1 18 (Int32.toNatClampNeg 0))) else (f_X6_remainder_146 x1 u88_4 ((u88_4.2.1 18 (Int32.toNatClampNeg 0)) - (u88_4.2.1 18 (Int32.toNatClampNeg 1))))) else ((x2, u88_4))))))))))))
set_option maxRecDepth 100000 in
set_option maxHeartbeats 4000000 in
theorem c_X6_remainder (l : Launch) (g : sm_G) (ad : Nat → Nat) (hj : sm_inj 19 ad) (sz : Nat) (σ : sm_S) (x1 : Int32) (x2 : Int64) (x4 : Int64)   : Met l yX6_remainder (sm_ws yX6_remainder cX6_remainder 9 (some .long)) (rmd 2) (va_Pc [.ref (ad 0), .int x1, .long x2, .long x4] (sm_Pre g 19 ad (eM g ad) σ sz)) (sm_Ql g 19 ad (eM g ad) sz (f_X6_remainder σ x1 x2 x4)) 0 0 (sm_AX 19 ad sz) := by
  generalize hv : f_X6_remainder σ x1 x2 x4 = F
  replace hv := hv.symm
  refine sm_mWl (by decide) (Nat.le_of_ble_eq_true rfl) hj (eM_lay g ad) (fun p e s m args below meth c C hW hB ls hl => ?_)
  obtain ⟨hC, hr, hlocks⟩ := C
  have hx := hC.1
  have hb := hC.2.1
  have hts := hC.2.2.2.2
  have hown : s.vm.findClass RX6 = some m.cls := hC.2.2.2.1
  have hl : lv_has ls 9 [(0, .ref (ad 0)), (1, .int x1), (2, .long x2), (4, .long x4)] := hl
  refine lv_aload_n hx hb dX6_remainder_0 rfl (lv_at hl 0 rfl) ?_
  refine lv_iconst (v := 0) hx hb dX6_remainder_1 (by decide) ?_
  refine lv_lload_n hx hb dX6_remainder_2 rfl (lv_at hl 2 rfl) ?_
  refine lv_iload_n hx hb dX6_remainder_3 rfl (lv_at hl 1 rfl) ?_
  refine sw_cvn hv hB (sm_runV (rest := []) hC (c_X6_take l g ad hW.2.1 _ σ 0 x2 x1 (in_lit (by decide +kernel))) k_X6_take w_610 (by decide) (sm_pv hW hB (by decide) (eM_0 g ad _) rfl) rfl hl.1 rfl (Nat.le_of_ble_eq_true rfl) dX6_remainder_4) (fun u4_1 eu4_1 hv H locs hB => ?_)
  refine lv_aload_n hx hb dX6_remainder_7 rfl (lv_at hl 0 rfl) ?_
  refine lv_iconst (v := 1) hx hb dX6_remainder_8 (by decide) ?_
  refine lv_lload hx hb dX6_remainder_9 (lv_at hl 3 rfl) ?_
  refine lv_iload_n hx hb dX6_remainder_11 rfl (lv_at hl 1 rfl) ?_
  refine sw_cvn hv hB (sm_runV (rest := []) hC (c_X6_take l g ad hW.2.1 _ u4_1 1 x4 x1 (in_lit (by decide +kernel))) k_X6_take w_610 (by decide) (sm_pv hW hB (by decide) (eM_0 g ad _) rfl) rfl hl.1 rfl (Nat.le_of_ble_eq_true rfl) dX6_remainder_12) (fun u12_2 eu12_2 hv H locs hB => ?_)
  refine lv_aload_n hx hb dX6_remainder_15 rfl (lv_at hl 0 rfl) ?_
  refine fg_RX6_64 hx hb hts hown hW hB dX6_remainder_16 ?_
  refine lv_iconst (v := 0) hx hb dX6_remainder_19 (by decide) ?_
  refine sw_ia hx hb hW hB (15) (by decide) (eM_15 g ad) (in_lit (by decide +kernel)) dX6_remainder_20 ?_
  refine lv_iconst (v := 3) hx hb dX6_remainder_21 (by decide) ?_
  have k_54 : ∀  (ls : Array Slot), lv_has ls 9 [(0, .ref (ad 0)), (1, .int x1)] → F = f_X6_remainder_54 x1 u12_2 → W p l e (rmd 2) s m args below meth c H locs 0 0 (MQ below (sm_Ql g 19 ad (eM g ad) s.heap.size F) args s 0 0 (sm_AX 19 ad s.heap.size)) (F0 m 54 ls []) := by
    intro ls hl hv
    refine lv_aload_n hx hb dX6_remainder_54 rfl (lv_at hl 0 rfl) ?_
    refine lv_iload_n hx hb dX6_remainder_55 rfl (lv_at hl 1 rfl) ?_
    refine sm_cl (sm_runV (rest := []) hC (c_X6_none l g ad hW.2.1 _ x1 u12_2) k_X6_none w_624 (by decide) (sm_pv hW hB (by decide) (eM_0 g ad _) rfl) rfl hl.1 rfl (Nat.le_of_ble_eq_true rfl) dX6_remainder_56) ?_
    exact sw_rl hx hb hr hlocks hB hv dX6_remainder_59
  refine lv_icmp_eq (tgt := 54) hx hb dX6_remainder_22 (by decide) (fun c22 => ?_) (fun c22 => ?_)
  · have hv := hv.trans (if_pos c22)
    exact k_54 _ (lv_sub hl [0, 1] rfl) hv
  · have hv := hv.trans (if_neg c22)
    refine lv_aload_n hx hb dX6_remainder_25 rfl (lv_at hl 0 rfl) ?_
    refine fg_RX6_64 hx hb hts hown hW hB dX6_remainder_26 ?_
    refine lv_iconst (v := 1) hx hb dX6_remainder_29 (by decide) ?_
    refine sw_ia hx hb hW hB (15) (by decide) (eM_15 g ad) (in_lit (by decide +kernel)) dX6_remainder_30 ?_
    refine lv_iconst (v := 3) hx hb dX6_remainder_31 (by decide) ?_
    refine lv_icmp_eq (tgt := 54) hx hb dX6_remainder_32 (by decide) (fun c32 => ?_) (fun c32 => ?_)
    · have hv := hv.trans (if_pos c32)
      exact k_54 _ (lv_sub hl [0, 1] rfl) hv
    · have hv := hv.trans (if_neg c32)
      refine lv_aload_n hx hb dX6_remainder_35 rfl (lv_at hl 0 rfl) ?_
      refine fg_RX6_64 hx hb hts hown hW hB dX6_remainder_36 ?_
      refine lv_iconst (v := 0) hx hb dX6_remainder_39 (by decide) ?_
      refine sw_ia hx hb hW hB (15) (by decide) (eM_15 g ad) (in_lit (by decide +kernel)) dX6_remainder_40 ?_
      refine lv_iconst (v := 2) hx hb dX6_remainder_41 (by decide) ?_
      refine lv_icmp_eq (tgt := 54) hx hb dX6_remainder_42 (by decide) (fun c42 => ?_) (fun c42 => ?_)
      · have hv := hv.trans (if_pos c42)
        exact k_54 _ (lv_sub hl [0, 1] rfl) hv
      · have hv := hv.trans (if_neg c42)
        refine lv_aload_n hx hb dX6_remainder_45 rfl (lv_at hl 0 rfl) ?_
        refine fg_RX6_64 hx hb hts hown hW hB dX6_remainder_46 ?_
        refine lv_iconst (v := 1) hx hb dX6_remainder_49 (by decide) ?_
        refine sw_ia hx hb hW hB (15) (by decide) (eM_15 g ad) (in_lit (by decide +kernel)) dX6_remainder_50 ?_
        refine lv_if_ne (tgt := 60) hx hb dX6_remainder_51 (by decide) (fun c51 => ?_) (fun c51 => ?_)
        · have hv := hv.trans (if_neg c51)
          refine lv_aload_n hx hb dX6_remainder_60 rfl (lv_at hl 0 rfl) ?_
          refine fg_RX6_64 hx hb hts hown hW hB dX6_remainder_61 ?_
          refine lv_iconst (v := 0) hx hb dX6_remainder_64 (by decide) ?_
          refine sw_ia hx hb hW hB (15) (by decide) (eM_15 g ad) (in_lit (by decide +kernel)) dX6_remainder_65 ?_
          refine lv_if_eq (tgt := 79) hx hb dX6_remainder_66 (by decide) (fun c66 => ?_) (fun c66 => ?_)
          · have hv := hv.trans (if_pos c66)
            refine lv_lload_n hx hb dX6_remainder_79 rfl (lv_at hl 2 rfl) ?_
            exact sw_rl hx hb hr hlocks hB hv dX6_remainder_80
          · have hv := hv.trans (if_neg c66)
            refine lv_aload_n hx hb dX6_remainder_69 rfl (lv_at hl 0 rfl) ?_
            refine fg_RX6_64 hx hb hts hown hW hB dX6_remainder_70 ?_
            refine lv_iconst (v := 1) hx hb dX6_remainder_73 (by decide) ?_
            refine sw_ia hx hb hW hB (15) (by decide) (eM_15 g ad) (in_lit (by decide +kernel)) dX6_remainder_74 ?_
            refine lv_iconst (v := 2) hx hb dX6_remainder_75 (by decide) ?_
            refine lv_icmp_ne (tgt := 81) hx hb dX6_remainder_76 (by decide) (fun c76 => ?_) (fun c76 => ?_)
            · have hv := hv.trans (if_neg c76)
              refine lv_aload_n hx hb dX6_remainder_81 rfl (lv_at hl 0 rfl) ?_
              refine lv_iconst (v := 0) hx hb dX6_remainder_82 (by decide) ?_
              refine sw_cvn hv hB (sm_runV (rest := []) hC (c_X6_spread l g ad hW.2.1 _ u12_2 0 (in_lit (by decide +kernel))) k_X6_spread w_722 (by decide) (sm_pv hW hB (by decide) (eM_0 g ad _) rfl) rfl hl.1 rfl (Nat.le_of_ble_eq_true rfl) dX6_remainder_83) (fun u83_3 eu83_3 hv H locs hB => ?_)
              refine lv_aload_n hx hb dX6_remainder_86 rfl (lv_at hl 0 rfl) ?_
              refine lv_iconst (v := 1) hx hb dX6_remainder_87 (by decide) ?_
              refine sw_cvn hv hB (sm_runV (rest := []) hC (c_X6_spread l g ad hW.2.1 _ u83_3 1 (in_lit (by decide +kernel))) k_X6_spread w_722 (by decide) (sm_pv hW hB (by decide) (eM_0 g ad _) rfl) rfl hl.1 rfl (Nat.le_of_ble_eq_true rfl) dX6_remainder_88) (fun u88_4 eu88_4 hv H locs hB => ?_)
              refine lv_aload_n hx hb dX6_remainder_91 rfl (lv_at hl 0 rfl) ?_
              refine fg_RX6_67 hx hb hts hown hW hB dX6_remainder_92 ?_
              refine lv_iconst (v := 0) hx hb dX6_remainder_95 (by decide) ?_
              refine sw_ia hx hb hW hB (16) (by decide) (eM_16 g ad) (in_lit (by decide +kernel)) dX6_remainder_96 ?_
              refine lv_aload_n hx hb dX6_remainder_97 rfl (lv_at hl 0 rfl) ?_
              refine fg_RX6_67 hx hb hts hown hW hB dX6_remainder_98 ?_
              refine lv_iconst (v := 1) hx hb dX6_remainder_101 (by decide) ?_
              refine sw_ia hx hb hW hB (16) (by decide) (eM_16 g ad) (in_lit (by decide +kernel)) dX6_remainder_102 ?_
              refine lv_icmp_ge (tgt := 108) hx hb dX6_remainder_103 (by decide) (fun c103 => ?_) (fun c103 => ?_)
              · have hv := hv.trans (if_pos c103)
                refine lv_aload_n hx hb dX6_remainder_108 rfl (lv_at hl 0 rfl) ?_
                refine fg_RX6_73 hx hb hts hown hW hB dX6_remainder_109 ?_
                refine lv_iconst (v := 0) hx hb dX6_remainder_112 (by decide) ?_
                refine sw_la hx hb hW hB (18) (by decide) (eM_18 g ad) (in_lit (by decide +kernel)) dX6_remainder_113 ?_
                refine lv_aload_n hx hb dX6_remainder_114 rfl (lv_at hl 0 rfl) ?_
                refine fg_RX6_73 hx hb hts hown hW hB dX6_remainder_115 ?_
                refine lv_iconst (v := 1) hx hb dX6_remainder_118 (by decide) ?_
                refine sw_la hx hb hW hB (18) (by decide) (eM_18 g ad) (in_lit (by decide +kernel)) dX6_remainder_119 ?_
                have k_146 : ∀ (t0_146 : Int64) (ls : Array Slot), lv_has ls 9 [(0, .ref (ad 0)), (1, .int x1)] → F = f_X6_remainder_146 x1 u88_4 t0_146 → W p l e (rmd 2) s m args below meth c H locs 0 0 (MQ below (sm_Ql g 19 ad (eM g ad) s.heap.size F) args s 0 0 (sm_AX 19 ad s.heap.size)) (F0 m 146 ls [.long t0_146]) := by
                  intro t0_146 ls hl hv
                  refine lv_lstore (lv' := [(6, .long t0_146), (0, .ref (ad 0)), (1, .int x1)]) hx hb dX6_remainder_146 hl (by decide) rfl (fun ls hl => ?_)
                  refine lv_aload_n hx hb dX6_remainder_148 rfl (lv_at hl 1 rfl) ?_
                  refine fg_RX6_67 hx hb hts hown hW hB dX6_remainder_149 ?_
                  refine lv_iconst (v := 0) hx hb dX6_remainder_152 (by decide) ?_
                  refine sw_ia hx hb hW hB (16) (by decide) (eM_16 g ad) (in_lit (by decide +kernel)) dX6_remainder_153 ?_
                  have k_156 : ∀ (n : Nat) (v6_156 : Int64) (v8_156 : Int32) (ls : Array Slot), (Int32.toInt v8_156 - Int32.toInt (u88_4.1 16 (Int32.toNatClampNeg 1))).toNat < n → lv_has ls 9 [(0, .ref (ad 0)), (1, .int x1), (6, .long v6_156), (8, .int v8_156)] → F = f_X6_remainder_156 n x1 u88_4 v6_156 v8_156 → W p l e (rmd 2) s m args below meth c H locs 0 0 (MQ below (sm_Ql g 19 ad (eM g ad) s.heap.size F) args s 0 0 (sm_AX 19 ad s.heap.size)) (F0 m 156 ls []) := by
                    intro n
                    induction n with
                    | zero =>
                      intro v6_156 v8_156 ls hme hl hv
                      exact absurd hme (Nat.not_lt_zero _)
                    | succ n ih =>
                      intro v6_156 v8_156 ls hme hl hv
                      refine lv_iload hx hb dX6_remainder_156 (lv_at hl 3 rfl) ?_
                      refine lv_aload_n hx hb dX6_remainder_158 rfl (lv_at hl 0 rfl) ?_
                      refine fg_RX6_67 hx hb hts hown hW hB dX6_remainder_159 ?_
                      refine lv_iconst (v := 1) hx hb dX6_remainder_162 (by decide) ?_
                      refine sw_ia hx hb hW hB (16) (by decide) (eM_16 g ad) (in_lit (by decide +kernel)) dX6_remainder_163 ?_
                      refine lv_icmp_le (tgt := 202) hx hb dX6_remainder_164 (by decide) (fun c164 => ?_) (fun c164 => ?_)
                      · have hv := hv.trans (if_pos c164)
                        refine lv_lload hx hb dX6_remainder_202 (lv_at hl 2 rfl) ?_
                        refine lv_lconst (v := 0) hx hb dX6_remainder_204 (by decide) ?_
                        refine lc_ne (tgt := 224) hx hb dX6_remainder_205 dX6_remainder_206 (by decide) (fun c205 => ?_) (fun c205 => ?_)
                        · have hv := hv.trans (if_neg c205)
                          refine lv_aload_n hx hb dX6_remainder_224 rfl (lv_at hl 0 rfl) ?_
                          refine lv_iload_n hx hb dX6_remainder_225 rfl (lv_at hl 1 rfl) ?_
                          refine lv_aload_n hx hb dX6_remainder_226 rfl (lv_at hl 0 rfl) ?_
                          refine fg_RX6_70 hx hb hts hown hW hB dX6_remainder_227 ?_
                          refine lv_iconst (v := 0) hx hb dX6_remainder_230 (by decide) ?_
                          refine sw_za hx hb hW hB (17) (by decide) (eM_17 g ad) (in_lit (by decide +kernel)) dX6_remainder_231 ?_
                          refine lv_lload hx hb dX6_remainder_232 (lv_at hl 2 rfl) ?_
                          refine lv_aload_n hx hb dX6_remainder_234 rfl (lv_at hl 0 rfl) ?_
                          refine fg_RX6_67 hx hb hts hown hW hB dX6_remainder_235 ?_
                          refine lv_iconst (v := 1) hx hb dX6_remainder_238 (by decide) ?_
                          refine sw_ia hx hb hW hB (16) (by decide) (eM_16 g ad) (in_lit (by decide +kernel)) dX6_remainder_239 ?_
                          refine lv_iconst (v := 0) hx hb dX6_remainder_240 (by decide) ?_
                          refine sm_cl (sm_runV (rest := []) hC (c_X6_round l g ad hW.2.1 _ x1 (u88_4.1 17 (Int32.toNatClampNeg 0)) v6_156 (u88_4.1 16 (Int32.toNatClampNeg 1)) 0 u88_4) k_X6_round w_660 (by decide) (sm_pv hW hB (by decide) (eM_0 g ad _) rfl) rfl hl.1 rfl (Nat.le_of_ble_eq_true rfl) dX6_remainder_241) ?_
                          exact sw_rl hx hb hr hlocks hB hv dX6_remainder_244
                        · have hv := hv.trans (if_pos c205)
                          refine lv_aload_n hx hb dX6_remainder_209 rfl (lv_at hl 0 rfl) ?_
                          refine lv_iload_n hx hb dX6_remainder_210 rfl (lv_at hl 1 rfl) ?_
                          refine lv_aload_n hx hb dX6_remainder_211 rfl (lv_at hl 0 rfl) ?_
                          refine fg_RX6_70 hx hb hts hown hW hB dX6_remainder_212 ?_
                          refine lv_iconst (v := 0) hx hb dX6_remainder_215 (by decide) ?_
                          refine sw_za hx hb hW hB (17) (by decide) (eM_17 g ad) (in_lit (by decide +kernel)) dX6_remainder_216 ?_
                          refine lv_lconst (v := 0) hx hb dX6_remainder_217 (by decide) ?_
                          refine sm_cl (sm_runV (rest := []) hC (c_X6_signed l g ad hW.2.1 _ x1 (u88_4.1 17 (Int32.toNatClampNeg 0)) 0 u88_4) k_X6_signed w_674 (by decide) (sm_pv hW hB (by decide) (eM_0 g ad _) rfl) rfl hl.1 rfl (Nat.le_of_ble_eq_true rfl) dX6_remainder_218) ?_
                          refine lv_goto (tgt := 244) hx hb dX6_remainder_221 (by decide) ?_
                          exact sw_rl hx hb hr hlocks hB hv dX6_remainder_244
                      · have hv := hv.trans (if_neg c164)
                        refine lv_lload hx hb dX6_remainder_167 (lv_at hl 2 rfl) ?_
                        refine lv_iconst (v := 1) hx hb dX6_remainder_169 (by decide) ?_
                        refine lv_lshl hx hb dX6_remainder_170 rfl ?_
                        refine sm_nml hv (fun y171_5 ey171_5 hv => ?_)
                        refine lv_lstore (lv' := [(6, .long y171_5), (0, .ref (ad 0)), (1, .int x1), (8, .int v8_156)]) hx hb dX6_remainder_171 hl (by decide) rfl (fun ls hl => ?_)
                        refine lv_lload hx hb dX6_remainder_173 (lv_at hl 0 rfl) ?_
                        refine lv_aload_n hx hb dX6_remainder_175 rfl (lv_at hl 1 rfl) ?_
                        refine fg_RX6_73 hx hb hts hown hW hB dX6_remainder_176 ?_
                        refine lv_iconst (v := 1) hx hb dX6_remainder_179 (by decide) ?_
                        refine sw_la hx hb hW hB (18) (by decide) (eM_18 g ad) (in_lit (by decide +kernel)) dX6_remainder_180 ?_
                        have k_196 : ∀ (v6_196 : Int64) (ls : Array Slot), lv_has ls 9 [(0, .ref (ad 0)), (1, .int x1), (6, .long v6_196), (8, .int v8_156)] → F = f_X6_remainder_196 (fun v6_156 v8_156 => f_X6_remainder_156 n x1 u88_4 v6_156 v8_156) x1 v8_156 u88_4 v6_196 → W p l e (rmd 2) s m args below meth c H locs 0 0 (MQ below (sm_Ql g 19 ad (eM g ad) s.heap.size F) args s 0 0 (sm_AX 19 ad s.heap.size)) (F0 m 196 ls []) := by
                          intro v6_196 ls hl hv
                          obtain ⟨y196_6, ey196_6, hv⟩ := sm_lt hv
                          refine lv_iinc (v := y196_6) (lv' := [(8, .int y196_6), (0, .ref (ad 0)), (1, .int x1), (6, .long v6_196)]) hx hb dX6_remainder_196 hl (k := 3) rfl (by rw [ey196_6]; rfl) (by decide) rfl (fun ls hl => ?_)
                          refine lv_goto (tgt := 156) hx hb dX6_remainder_199 (by decide) ?_
                          exact ih v6_196 y196_6 _ (by rw [ey196_6]; exact Nat.lt_of_lt_of_le (me_dec c164) (Nat.le_of_lt_succ hme)) (lv_sub hl [1, 2, 3, 0] rfl) hv
                        refine lc_lt (tgt := 196) hx hb dX6_remainder_181 dX6_remainder_182 (by decide) (fun c181 => ?_) (fun c181 => ?_)
                        · have hv := hv.trans (if_pos c181)
                          exact k_196 y171_5 _ (lv_sub hl [1, 2, 0, 3] rfl) hv
                        · have hv := hv.trans (if_neg c181)
                          refine lv_lload hx hb dX6_remainder_185 (lv_at hl 0 rfl) ?_
                          refine lv_aload_n hx hb dX6_remainder_187 rfl (lv_at hl 1 rfl) ?_
                          refine fg_RX6_73 hx hb hts hown hW hB dX6_remainder_188 ?_
                          refine lv_iconst (v := 1) hx hb dX6_remainder_191 (by decide) ?_
                          refine sw_la hx hb hW hB (18) (by decide) (eM_18 g ad) (in_lit (by decide +kernel)) dX6_remainder_192 ?_
                          refine lv_lsub hx hb dX6_remainder_193 ?_
                          refine sm_nml hv (fun y194_7 ey194_7 hv => ?_)
                          refine lv_lstore (lv' := [(6, .long y194_7), (0, .ref (ad 0)), (1, .int x1), (8, .int v8_156)]) hx hb dX6_remainder_194 hl (by decide) rfl (fun ls hl => ?_)
                          exact k_196 y194_7 _ (lv_sub hl [1, 2, 0, 3] rfl) hv
                  refine sm_nmi hv (fun y154_8 ey154_8 hv => ?_)
                  refine lv_istore (lv' := [(8, .int y154_8), (6, .long t0_146), (0, .ref (ad 0)), (1, .int x1)]) hx hb dX6_remainder_154 hl (by decide) rfl (fun ls hl => ?_)
                  exact k_156 ((Int32.toInt y154_8 - Int32.toInt (u88_4.1 16 (Int32.toNatClampNeg 1))).toNat + 1) t0_146 y154_8 _ (Nat.lt_succ_self _) (lv_sub hl [2, 3, 1, 0] rfl) hv
                refine lc_lt (tgt := 140) hx hb dX6_remainder_120 dX6_remainder_121 (by decide) (fun c120 => ?_) (fun c120 => ?_)
                · have hv := hv.trans (if_pos c120)
                  refine lv_aload_n hx hb dX6_remainder_140 rfl (lv_at hl 0 rfl) ?_
                  refine fg_RX6_73 hx hb hts hown hW hB dX6_remainder_141 ?_
                  refine lv_iconst (v := 0) hx hb dX6_remainder_144 (by decide) ?_
                  refine sw_la hx hb hW hB (18) (by decide) (eM_18 g ad) (in_lit (by decide +kernel)) dX6_remainder_145 ?_
                  exact k_146 (u88_4.2.1 18 (Int32.toNatClampNeg 0)) _ (lv_sub hl [0, 1] rfl) hv
                · have hv := hv.trans (if_neg c120)
                  refine lv_aload_n hx hb dX6_remainder_124 rfl (lv_at hl 0 rfl) ?_
                  refine fg_RX6_73 hx hb hts hown hW hB dX6_remainder_125 ?_
                  refine lv_iconst (v := 0) hx hb dX6_remainder_128 (by decide) ?_
                  refine sw_la hx hb hW hB (18) (by decide) (eM_18 g ad) (in_lit (by decide +kernel)) dX6_remainder_129 ?_
                  refine lv_aload_n hx hb dX6_remainder_130 rfl (lv_at hl 0 rfl) ?_
                  refine fg_RX6_73 hx hb hts hown hW hB dX6_remainder_131 ?_
                  refine lv_iconst (v := 1) hx hb dX6_remainder_134 (by decide) ?_
                  refine sw_la hx hb hW hB (18) (by decide) (eM_18 g ad) (in_lit (by decide +kernel)) dX6_remainder_135 ?_
                  refine lv_lsub hx hb dX6_remainder_136 ?_
                  refine lv_goto (tgt := 146) hx hb dX6_remainder_137 (by decide) ?_
                  exact k_146 ((u88_4.2.1 18 (Int32.toNatClampNeg 0)) - (u88_4.2.1 18 (Int32.toNatClampNeg 1))) _ (lv_sub hl [0, 1] rfl) hv
              · have hv := hv.trans (if_neg c103)
                refine lv_lload_n hx hb dX6_remainder_106 rfl (lv_at hl 2 rfl) ?_
                exact sw_rl hx hb hr hlocks hB hv dX6_remainder_107
            · have hv := hv.trans (if_pos c76)
              refine lv_lload_n hx hb dX6_remainder_79 rfl (lv_at hl 2 rfl) ?_
              exact sw_rl hx hb hr hlocks hB hv dX6_remainder_80
        · have hv := hv.trans (if_pos c51)
          exact k_54 _ (lv_sub hl [0, 1] rfl) hv
