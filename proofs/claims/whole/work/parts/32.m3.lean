def f_X6_array_132 (K_88 : sm_S → Int32 → Int32 × sm_S) (x1 : Int32) (x2 : Int32) (x3 : Int32) (v4_88 : Int32) (σ : sm_S) : Int32 × sm_S := sm_let (v4_88 + 1) (fun y132_2 => K_88 σ y132_2)
def f_X6_array_171 : Nat → Int32 → sm_S → Int32 → Int32 × sm_S
  | 0, _, _, _ => default
  | n + 1, v4_88, σ, v5_171 => if 12 ≤ v5_171 then ((0, σ)) else (sm_let (f_X6_put σ (((8 : Int32) + (v4_88 * 12)) + v5_171) 0 0 1) (fun u193_3 => sm_let (v5_171 + 1) (fun y196_4 => f_X6_array_171 n v4_88 u193_3 y196_4)))
def f_X6_array_88 : Nat → Int32 → Int32 → Int32 → sm_S → Int32 → Int32 × sm_S
  | 0, _, _, _, _, _ => default
  | n + 1, x1, x2, x3, σ, v4_88 => if (σ.1 5 (Int32.toNatClampNeg 0)) = v4_88 then (f_X6_array_132 (fun σ v4_88 => f_X6_array_88 n x1 x2 x3 σ v4_88) x1 x2 x3 v4_88 σ) else (if (σ.1 5 (Int32.toNatClampNeg 1)) = v4_88 then (f_X6_array_132 (fun σ v4_88 => f_X6_array_88 n x1 x2 x3 σ v4_88) x1 x2 x3 v4_88 σ) else (if (σ.1 5 (Int32.toNatClampNeg 2)) = v4_88 then (f_X6_array_132 (fun σ v4_88 => f_X6_array_88 n x1 x2 x3 σ v4_88) x1 x2 x3 v4_88 σ) else (if (σ.1 5 (Int32.toNatClampNeg 3)) = v4_88 then (f_X6_array_132 (fun σ v4_88 => f_X6_array_88 n x1 x2 x3 σ v4_88) x1 x2 x3 v4_88 σ) else (f_X6_array_171 (((12 : Int32).toInt - Int32.toInt 0).toNat + 1) v4_88 (uI (uI (uI σ 5 (Int32.toNatClampNeg x1) v4_88) 6 (Int32.toNatClampNeg v4_88) x2) 7 (Int32.toNatClampNeg v4_88) (Int64.toInt32 ((uI (uI σ 5 (Int32.toNatClampNeg x1) v4_88) 6 (Int32.toNatClampNeg v4_88) x2).2.1 3 (Int32.toNatClampNeg x3)))) 0))))
def f_X6_array (σ : sm_S) (x1 : Int32) (x2 : Int32) (x3 : Int32) : Int32 × sm_S := if (f_X6_out x1 4) = 0 then (if (f_X6_out x2 8) = 0 then (if (f_X6_out x3 8) = 0 then (if (σ.1 1 (Int32.toNatClampNeg x3)) = 0 then (if (σ.2.1 3 (Int32.toNatClampNeg x3)) ≤ 12 then (if 0 ≤ (σ.2.1 3 (Int32.toNatClampNeg x3)) then (sm_let (f_X6_fix σ x3 40) (fun u75_1 => f_X6_array_88 (((4 : Int32).toInt - Int32.toInt 0).toNat + 1) x1 x2 x3 (uI u75_1 5 (Int32.toNatClampNeg x1) ((-1))) 0)) else (sm_let (f_X6_exception σ ((-5))) (fun u67_5 => (u67_5.1, u67_5.2)))) else (((-1), σ))) else (((-1), σ))) else (((-1), σ))) else (((-1), σ))) else (((-1), σ))
set_option maxRecDepth 100000 in
set_option maxHeartbeats 4000000 in
theorem c_X6_array (l : Launch) (g : sm_G) (ad : Nat → Nat) (hj : sm_inj 19 ad) (sz : Nat) (σ : sm_S) (x1 : Int32) (x2 : Int32) (x3 : Int32)  (hI : invM σ) : Met l yX6_array (sm_ws yX6_array cX6_array 6 (some .int)) (rmd 1) (va_Pc [.ref (ad 0), .int x1, .int x2, .int x3] (sm_Pre g 19 ad (eM g ad) σ sz)) (sm_Qi g 19 ad (eM g ad) sz (f_X6_array σ x1 x2 x3)) 0 0 (sm_AX 19 ad sz) := by
  generalize hv : f_X6_array σ x1 x2 x3 = F
  replace hv := hv.symm
  refine sm_mWi (by decide) (Nat.le_of_ble_eq_true rfl) hj (eM_lay g ad) (fun p e s m args below meth c C hW hB ls hl => ?_)
  obtain ⟨hC, hr, hlocks⟩ := C
  have hx := hC.1
  have hb := hC.2.1
  have hts := hC.2.2.2.2
  have hown : s.vm.findClass RX6 = some m.cls := hC.2.2.2.1
  have hl : lv_has ls 6 [(0, .ref (ad 0)), (1, .int x1), (2, .int x2), (3, .int x3)] := hl
  refine lv_aload_n hx hb dX6_array_0 rfl (lv_at hl 0 rfl) ?_
  refine lv_iload_n hx hb dX6_array_1 rfl (lv_at hl 1 rfl) ?_
  refine lv_iconst (v := 4) hx hb dX6_array_2 (by decide) ?_
  refine sm_ci (sm_runV (rest := []) hC (c_X6_out l g ad hW.2.1 _ x1 4 σ) k_X6_out w_598 (by decide) (sm_pv hW hB (by decide) (eM_0 g ad _) rfl) rfl hl.1 rfl (Nat.le_of_ble_eq_true rfl) dX6_array_3) ?_
  refine lv_if_ne (tgt := 51) hx hb dX6_array_6 (by decide) (fun c6 => ?_) (fun c6 => ?_)
  · have hv := hv.trans (if_neg c6)
    refine lv_iconst (v := -1) hx hb dX6_array_51 (by decide) ?_
    exact sw_ri hx hb hr hlocks hB hv dX6_array_52
  · have hv := hv.trans (if_pos c6)
    refine lv_aload_n hx hb dX6_array_9 rfl (lv_at hl 0 rfl) ?_
    refine lv_iload_n hx hb dX6_array_10 rfl (lv_at hl 2 rfl) ?_
    refine lv_bipush (v := 8) hx hb dX6_array_11 (by decide) ?_
    refine sm_ci (sm_runV (rest := []) hC (c_X6_out l g ad hW.2.1 _ x2 8 σ) k_X6_out w_598 (by decide) (sm_pv hW hB (by decide) (eM_0 g ad _) rfl) rfl hl.1 rfl (Nat.le_of_ble_eq_true rfl) dX6_array_13) ?_
    refine lv_if_ne (tgt := 51) hx hb dX6_array_16 (by decide) (fun c16 => ?_) (fun c16 => ?_)
    · have hv := hv.trans (if_neg c16)
      refine lv_iconst (v := -1) hx hb dX6_array_51 (by decide) ?_
      exact sw_ri hx hb hr hlocks hB hv dX6_array_52
    · have hv := hv.trans (if_pos c16)
      refine lv_aload_n hx hb dX6_array_19 rfl (lv_at hl 0 rfl) ?_
      refine lv_iload_n hx hb dX6_array_20 rfl (lv_at hl 3 rfl) ?_
      refine lv_bipush (v := 8) hx hb dX6_array_21 (by decide) ?_
      refine sm_ci (sm_runV (rest := []) hC (c_X6_out l g ad hW.2.1 _ x3 8 σ) k_X6_out w_598 (by decide) (sm_pv hW hB (by decide) (eM_0 g ad _) rfl) rfl hl.1 rfl (Nat.le_of_ble_eq_true rfl) dX6_array_23) ?_
      refine lv_if_ne (tgt := 51) hx hb dX6_array_26 (by decide) (fun c26 => ?_) (fun c26 => ?_)
      · have hv := hv.trans (if_neg c26)
        refine lv_iconst (v := -1) hx hb dX6_array_51 (by decide) ?_
        exact sw_ri hx hb hr hlocks hB hv dX6_array_52
      · have hv := hv.trans (if_pos c26)
        refine lv_aload_n hx hb dX6_array_29 rfl (lv_at hl 0 rfl) ?_
        refine fg_RX6_7 hx hb hts hown hW hB dX6_array_30 ?_
        refine lv_iload_n hx hb dX6_array_33 rfl (lv_at hl 3 rfl) ?_
        refine sw_ia hx hb hW hB (1) (by decide) (eM_1 g ad) (out_in c26 (by decide)) dX6_array_34 ?_
        refine lv_if_ne (tgt := 51) hx hb dX6_array_35 (by decide) (fun c35 => ?_) (fun c35 => ?_)
        · have hv := hv.trans (if_neg c35)
          refine lv_iconst (v := -1) hx hb dX6_array_51 (by decide) ?_
          exact sw_ri hx hb hr hlocks hB hv dX6_array_52
        · have hv := hv.trans (if_pos c35)
          refine lv_aload_n hx hb dX6_array_38 rfl (lv_at hl 0 rfl) ?_
          refine fg_RX6_16 hx hb hts hown hW hB dX6_array_39 ?_
          refine lv_iload_n hx hb dX6_array_42 rfl (lv_at hl 3 rfl) ?_
          refine sw_la hx hb hW hB (3) (by decide) (eM_3 g ad) (in_mono (a := 8) (out_in c26 (by decide)) (by decide)) dX6_array_43 ?_
          refine lv_ldc2 hx hb hown (hts _ w_746) dX6_array_44 ?_
          refine lc_le (tgt := 53) hx hb dX6_array_47 dX6_array_48 (by decide) (fun c47 => ?_) (fun c47 => ?_)
          · have hv := hv.trans (if_pos c47)
            refine lv_aload_n hx hb dX6_array_53 rfl (lv_at hl 0 rfl) ?_
            refine fg_RX6_16 hx hb hts hown hW hB dX6_array_54 ?_
            refine lv_iload_n hx hb dX6_array_57 rfl (lv_at hl 3 rfl) ?_
            refine sw_la hx hb hW hB (3) (by decide) (eM_3 g ad) (in_mono (a := 8) (out_in c26 (by decide)) (by decide)) dX6_array_58 ?_
            refine lv_lconst (v := 0) hx hb dX6_array_59 (by decide) ?_
            refine lc_ge (tgt := 71) hx hb dX6_array_60 dX6_array_61 (by decide) (fun c60 => ?_) (fun c60 => ?_)
            · have hv := hv.trans (if_pos c60)
              refine lv_aload_n hx hb dX6_array_71 rfl (lv_at hl 0 rfl) ?_
              refine lv_iload_n hx hb dX6_array_72 rfl (lv_at hl 3 rfl) ?_
              refine lv_bipush (v := 40) hx hb dX6_array_73 (by decide) ?_
              refine sw_cvn hv hB (sm_runV (rest := []) hC (c_X6_fix l g ad hW.2.1 _ σ x3 40 (in_mono (a := 8) (out_in c26 (by decide)) (by decide))) k_X6_fix w_696 (by decide) (sm_pv hW hB (by decide) (eM_0 g ad _) rfl) rfl hl.1 rfl (Nat.le_of_ble_eq_true rfl) dX6_array_75) (fun u75_1 eu75_1 hv H locs hB => ?_)
              refine lv_aload_n hx hb dX6_array_78 rfl (lv_at hl 0 rfl) ?_
              refine fg_RX6_24 hx hb hts hown hW hB dX6_array_79 ?_
              refine lv_iload_n hx hb dX6_array_82 rfl (lv_at hl 1 rfl) ?_
              refine lv_iconst (v := -1) hx hb dX6_array_83 (by decide) ?_
              refine sw_is hx hb hW hB (5) (by decide) (eM_5 g ad) (out_in c6 (by decide)) dX6_array_84 (fun H locs hB => ?_)
              refine lv_iconst (v := 0) hx hb dX6_array_85 (by decide) ?_
              have k_88 : ∀ (n : Nat) (v4_88 : Int32) (σ : sm_S) (ls : Array Slot) (H : Heap) (locs : List Loc), arrI σ v4_88 → ((4 : Int32).toInt - Int32.toInt v4_88).toNat < n → lv_has ls 6 [(0, .ref (ad 0)), (1, .int x1), (2, .int x2), (3, .int x3), (4, .int v4_88)] → sm_B g 19 ad (eM g ad) s H locs σ → F = f_X6_array_88 n x1 x2 x3 σ v4_88 → W p l e (rmd 1) s m args below meth c H locs 0 0 (MQ below (sm_Qi g 19 ad (eM g ad) s.heap.size F) args s 0 0 (sm_AX 19 ad s.heap.size)) (F0 m 88 ls []) := by
                intro n
                induction n with
                | zero =>
                  intro v4_88 σ ls H locs iS hme hl hB hv
                  exact absurd hme (Nat.not_lt_zero _)
                | succ n ih =>
                  intro v4_88 σ ls H locs iS hme hl hB hv
                  refine lv_aload_n hx hb dX6_array_88 rfl (lv_at hl 0 rfl) ?_
                  refine fg_RX6_24 hx hb hts hown hW hB dX6_array_89 ?_
                  refine lv_iconst (v := 0) hx hb dX6_array_92 (by decide) ?_
                  refine sw_ia hx hb hW hB (5) (by decide) (eM_5 g ad) (in_lit (by decide +kernel)) dX6_array_93 ?_
                  refine lv_iload hx hb dX6_array_94 (lv_at hl 4 rfl) ?_
                  have k_132 : ∀  (ls : Array Slot), σ.1 5 (Int32.toNatClampNeg 0) = v4_88 ∨ σ.1 5 (Int32.toNatClampNeg 1) = v4_88 ∨ σ.1 5 (Int32.toNatClampNeg 2) = v4_88 ∨ σ.1 5 (Int32.toNatClampNeg 3) = v4_88 → lv_has ls 6 [(0, .ref (ad 0)), (1, .int x1), (2, .int x2), (3, .int x3), (4, .int v4_88)] → F = f_X6_array_132 (fun σ v4_88 => f_X6_array_88 n x1 x2 x3 σ v4_88) x1 x2 x3 v4_88 σ → W p l e (rmd 1) s m args below meth c H locs 0 0 (MQ below (sm_Qi g 19 ad (eM g ad) s.heap.size F) args s 0 0 (sm_AX 19 ad s.heap.size)) (F0 m 132 ls []) := by
                    intro ls hd hl hv
                    obtain ⟨y132_2, ey132_2, hv⟩ := sm_lt hv
                    refine lv_iinc (v := y132_2) (lv' := [(4, .int y132_2), (0, .ref (ad 0)), (1, .int x1), (2, .int x2), (3, .int x3)]) hx hb dX6_array_132 hl (k := 4) rfl (by rw [ey132_2]; rfl) (by decide) rfl (fun ls hl => ?_)
                    refine lv_goto (tgt := 88) hx hb dX6_array_135 (by decide) ?_
                    exact ih y132_2 σ _ _ _ (by rw [ey132_2]; exact arrI_s iS hd) (by rw [ey132_2]; exact Nat.lt_of_lt_of_le (me_inc (arrI_lt iS)) (Nat.le_of_lt_succ hme)) (lv_sub hl [1, 2, 3, 4, 0] rfl) hB hv
                  refine lv_icmp_eq (tgt := 132) hx hb dX6_array_96 (by decide) (fun c96 => ?_) (fun c96 => ?_)
                  · have hv := hv.trans (if_pos c96)
                    exact k_132 _ (by first | exact Or.inl c96 | exact Or.inr (Or.inl c107) | exact Or.inr (Or.inr (Or.inl c118)) | exact Or.inr (Or.inr (Or.inr c129))) (lv_sub hl [0, 1, 2, 3, 4] rfl) hv
                  · have hv := hv.trans (if_neg c96)
                    refine lv_aload_n hx hb dX6_array_99 rfl (lv_at hl 0 rfl) ?_
                    refine fg_RX6_24 hx hb hts hown hW hB dX6_array_100 ?_
                    refine lv_iconst (v := 1) hx hb dX6_array_103 (by decide) ?_
                    refine sw_ia hx hb hW hB (5) (by decide) (eM_5 g ad) (in_lit (by decide +kernel)) dX6_array_104 ?_
                    refine lv_iload hx hb dX6_array_105 (lv_at hl 4 rfl) ?_
                    refine lv_icmp_eq (tgt := 132) hx hb dX6_array_107 (by decide) (fun c107 => ?_) (fun c107 => ?_)
                    · have hv := hv.trans (if_pos c107)
                      exact k_132 _ (by first | exact Or.inl c96 | exact Or.inr (Or.inl c107) | exact Or.inr (Or.inr (Or.inl c118)) | exact Or.inr (Or.inr (Or.inr c129))) (lv_sub hl [0, 1, 2, 3, 4] rfl) hv
                    · have hv := hv.trans (if_neg c107)
                      refine lv_aload_n hx hb dX6_array_110 rfl (lv_at hl 0 rfl) ?_
                      refine fg_RX6_24 hx hb hts hown hW hB dX6_array_111 ?_
                      refine lv_iconst (v := 2) hx hb dX6_array_114 (by decide) ?_
                      refine sw_ia hx hb hW hB (5) (by decide) (eM_5 g ad) (in_lit (by decide +kernel)) dX6_array_115 ?_
                      refine lv_iload hx hb dX6_array_116 (lv_at hl 4 rfl) ?_
                      refine lv_icmp_eq (tgt := 132) hx hb dX6_array_118 (by decide) (fun c118 => ?_) (fun c118 => ?_)
                      · have hv := hv.trans (if_pos c118)
                        exact k_132 _ (by first | exact Or.inl c96 | exact Or.inr (Or.inl c107) | exact Or.inr (Or.inr (Or.inl c118)) | exact Or.inr (Or.inr (Or.inr c129))) (lv_sub hl [0, 1, 2, 3, 4] rfl) hv
                      · have hv := hv.trans (if_neg c118)
                        refine lv_aload_n hx hb dX6_array_121 rfl (lv_at hl 0 rfl) ?_
                        refine fg_RX6_24 hx hb hts hown hW hB dX6_array_122 ?_
                        refine lv_iconst (v := 3) hx hb dX6_array_125 (by decide) ?_
                        refine sw_ia hx hb hW hB (5) (by decide) (eM_5 g ad) (in_lit (by decide +kernel)) dX6_array_126 ?_
                        refine lv_iload hx hb dX6_array_127 (lv_at hl 4 rfl) ?_
                        refine lv_icmp_ne (tgt := 138) hx hb dX6_array_129 (by decide) (fun c129 => ?_) (fun c129 => ?_)
                        · have hv := hv.trans (if_neg c129)
                          refine lv_aload_n hx hb dX6_array_138 rfl (lv_at hl 0 rfl) ?_
                          refine fg_RX6_24 hx hb hts hown hW hB dX6_array_139 ?_
                          refine lv_iload_n hx hb dX6_array_142 rfl (lv_at hl 1 rfl) ?_
                          refine lv_iload hx hb dX6_array_143 (lv_at hl 4 rfl) ?_
                          refine sw_is hx hb hW hB (5) (by decide) (eM_5 g ad) (out_in c6 (by decide)) dX6_array_145 (fun H locs hB => ?_)
                          refine lv_aload_n hx hb dX6_array_146 rfl (lv_at hl 0 rfl) ?_
                          refine fg_RX6_27 hx hb hts hown hW hB dX6_array_147 ?_
                          refine lv_iload hx hb dX6_array_150 (lv_at hl 4 rfl) ?_
                          refine lv_iload_n hx hb dX6_array_152 rfl (lv_at hl 2 rfl) ?_
                          refine sw_is hx hb hW hB (6) (by decide) (eM_6 g ad) (arrI_in iS) dX6_array_153 (fun H locs hB => ?_)
                          refine lv_aload_n hx hb dX6_array_154 rfl (lv_at hl 0 rfl) ?_
                          refine fg_RX6_30 hx hb hts hown hW hB dX6_array_155 ?_
                          refine lv_iload hx hb dX6_array_158 (lv_at hl 4 rfl) ?_
                          refine lv_aload_n hx hb dX6_array_160 rfl (lv_at hl 0 rfl) ?_
                          refine fg_RX6_16 hx hb hts hown hW hB dX6_array_161 ?_
                          refine lv_iload_n hx hb dX6_array_164 rfl (lv_at hl 3 rfl) ?_
                          refine sw_la hx hb hW hB (3) (by decide) (eM_3 g ad) (in_mono (a := 8) (out_in c26 (by decide)) (by decide)) dX6_array_165 ?_
                          refine lv_l2i hx hb dX6_array_166 rfl ?_
                          refine sw_is hx hb hW hB (7) (by decide) (eM_7 g ad) (arrI_in iS) dX6_array_167 (fun H locs hB => ?_)
                          refine lv_iconst (v := 0) hx hb dX6_array_168 (by decide) ?_
                          have k_171 : ∀ (n : Nat) (v5_171 : Int32) (σ : sm_S) (ls : Array Slot) (H : Heap) (locs : List Loc), ¬ v5_171 < 0 → ((12 : Int32).toInt - Int32.toInt v5_171).toNat < n → lv_has ls 6 [(0, .ref (ad 0)), (4, .int v4_88), (5, .int v5_171)] → sm_B g 19 ad (eM g ad) s H locs σ → F = f_X6_array_171 n v4_88 σ v5_171 → W p l e (rmd 1) s m args below meth c H locs 0 0 (MQ below (sm_Qi g 19 ad (eM g ad) s.heap.size F) args s 0 0 (sm_AX 19 ad s.heap.size)) (F0 m 171 ls []) := by
                            intro n
                            induction n with
                            | zero =>
                              intro v5_171 σ ls H locs i0 hme hl hB hv
                              exact absurd hme (Nat.not_lt_zero _)
                            | succ n ih =>
                              intro v5_171 σ ls H locs i0 hme hl hB hv
                              refine lv_iload hx hb dX6_array_171 (lv_at hl 2 rfl) ?_
                              refine lv_bipush (v := 12) hx hb dX6_array_173 (by decide) ?_
                              refine lv_icmp_ge (tgt := 202) hx hb dX6_array_175 (by decide) (fun c175 => ?_) (fun c175 => ?_)
                              · have hv := hv.trans (if_pos c175)
                                refine lv_iconst (v := 0) hx hb dX6_array_202 (by decide) ?_
                                exact sw_ri hx hb hr hlocks hB hv dX6_array_203
                              · have hv := hv.trans (if_neg c175)
                                refine lv_aload_n hx hb dX6_array_178 rfl (lv_at hl 0 rfl) ?_
                                refine lv_bipush (v := 8) hx hb dX6_array_179 (by decide) ?_
                                refine lv_iload hx hb dX6_array_181 (lv_at hl 1 rfl) ?_
                                refine lv_bipush (v := 12) hx hb dX6_array_183 (by decide) ?_
                                refine lv_imul hx hb dX6_array_185 ?_
                                refine lv_iadd hx hb dX6_array_186 ?_
                                refine lv_iload hx hb dX6_array_187 (lv_at hl 2 rfl) ?_
                                refine lv_iadd hx hb dX6_array_189 ?_
                                refine lv_lconst (v := 0) hx hb dX6_array_190 (by decide) ?_
                                refine lv_iconst (v := 0) hx hb dX6_array_191 (by decide) ?_
                                refine lv_iconst (v := 1) hx hb dX6_array_192 (by decide) ?_
                                refine sw_cvn hv hB (sm_runV (rest := []) hC (c_X6_put l g ad hW.2.1 _ σ (((8 : Int32) + (v4_88 * 12)) + v5_171) 0 0 1 (ar_in (arrI_in iS) i0 c175)) k_X6_put w_630 (by decide) (sm_pv hW hB (by decide) (eM_0 g ad _) rfl) rfl hl.1 rfl (Nat.le_of_ble_eq_true rfl) dX6_array_193) (fun u193_3 eu193_3 hv H locs hB => ?_)
                                obtain ⟨y196_4, ey196_4, hv⟩ := sm_lt hv
                                refine lv_iinc (v := y196_4) (lv' := [(5, .int y196_4), (0, .ref (ad 0)), (4, .int v4_88)]) hx hb dX6_array_196 hl (k := 2) rfl (by rw [ey196_4]; rfl) (by decide) rfl (fun ls hl => ?_)
                                refine lv_goto (tgt := 171) hx hb dX6_array_199 (by decide) ?_
                                exact ih y196_4 u193_3 _ _ _ (by rw [ey196_4]; exact nn_inc i0 c175) (by rw [ey196_4]; exact Nat.lt_of_lt_of_le (me_inc c175) (Nat.le_of_lt_succ hme)) (lv_sub hl [1, 2, 0] rfl) hB hv
                          refine lv_istore (lv' := [(5, .int 0), (0, .ref (ad 0)), (1, .int x1), (2, .int x2), (3, .int x3), (4, .int v4_88)]) hx hb dX6_array_169 hl (by decide) rfl (fun ls hl => ?_)
                          exact k_171 (((12 : Int32).toInt - Int32.toInt 0).toNat + 1) 0 (uI (uI (uI σ 5 (Int32.toNatClampNeg x1) v4_88) 6 (Int32.toNatClampNeg v4_88) x2) 7 (Int32.toNatClampNeg v4_88) (Int64.toInt32 ((uI (uI σ 5 (Int32.toNatClampNeg x1) v4_88) 6 (Int32.toNatClampNeg v4_88) x2).2.1 3 (Int32.toNatClampNeg x3)))) _ _ _ (by decide) (Nat.lt_succ_self _) (lv_sub hl [1, 5, 0] rfl) hB hv
                        · have hv := hv.trans (if_pos c129)
                          exact k_132 _ (by first | exact Or.inl c96 | exact Or.inr (Or.inl c107) | exact Or.inr (Or.inr (Or.inl c118)) | exact Or.inr (Or.inr (Or.inr c129))) (lv_sub hl [0, 1, 2, 3, 4] rfl) hv
              refine lv_istore (lv' := [(4, .int 0), (0, .ref (ad 0)), (1, .int x1), (2, .int x2), (3, .int x3)]) hx hb dX6_array_86 hl (by decide) rfl (fun ls hl => ?_)
              exact k_88 (((4 : Int32).toInt - Int32.toInt 0).toNat + 1) 0 (uI u75_1 5 (Int32.toNatClampNeg x1) ((-1))) _ _ _ (arrI_0 (out_in c6 (by decide))) (Nat.lt_succ_self _) (lv_sub hl [1, 2, 3, 4, 0] rfl) hB hv
            · have hv := hv.trans (if_neg c60)
              refine lv_aload_n hx hb dX6_array_64 rfl (lv_at hl 0 rfl) ?_
              refine lv_bipush (v := -5) hx hb dX6_array_65 (by decide) ?_
              refine sw_cin hv hB (sm_runV (rest := []) hC (c_X6_exception l g ad hW.2.1 _ σ ((-5))) k_X6_exception w_747 (by decide) (sm_pv hW hB (by decide) (eM_0 g ad _) rfl) rfl hl.1 rfl (Nat.le_of_ble_eq_true rfl) dX6_array_67) (fun u67_5 eu67_5 hv H locs hB => ?_)
              exact sw_ri hx hb hr hlocks hB hv dX6_array_70
          · have hv := hv.trans (if_neg c47)
            refine lv_iconst (v := -1) hx hb dX6_array_51 (by decide) ?_
            exact sw_ri hx hb hr hlocks hB hv dX6_array_52
def f_X6_drop (σ : sm_S) (x1 : Int32) : Int32 × sm_S := if (f_X6_out x1 4) = 0 then ((0, uI σ 5 (Int32.toNatClampNeg x1) ((-1)))) else (((-1), σ))
set_option maxRecDepth 100000 in
set_option maxHeartbeats 4000000 in
theorem c_X6_drop (l : Launch) (g : sm_G) (ad : Nat → Nat) (hj : sm_inj 19 ad) (sz : Nat) (σ : sm_S) (x1 : Int32)   : Met l yX6_drop (sm_ws yX6_drop cX6_drop 2 (some .int)) (rmd 1) (va_Pc [.ref (ad 0), .int x1] (sm_Pre g 19 ad (eM g ad) σ sz)) (sm_Qi g 19 ad (eM g ad) sz (f_X6_drop σ x1)) 0 0 (sm_AX 19 ad sz) := by
  generalize hv : f_X6_drop σ x1 = F
  replace hv := hv.symm
  refine sm_mWi (by decide) (Nat.le_of_ble_eq_true rfl) hj (eM_lay g ad) (fun p e s m args below meth c C hW hB ls hl => ?_)
  obtain ⟨hC, hr, hlocks⟩ := C
  have hx := hC.1
  have hb := hC.2.1
  have hts := hC.2.2.2.2
  have hown : s.vm.findClass RX6 = some m.cls := hC.2.2.2.1
  have hl : lv_has ls 2 [(0, .ref (ad 0)), (1, .int x1)] := hl
  refine lv_aload_n hx hb dX6_drop_0 rfl (lv_at hl 0 rfl) ?_
  refine lv_iload_n hx hb dX6_drop_1 rfl (lv_at hl 1 rfl) ?_
  refine lv_iconst (v := 4) hx hb dX6_drop_2 (by decide) ?_
  refine sm_ci (sm_runV (rest := []) hC (c_X6_out l g ad hW.2.1 _ x1 4 σ) k_X6_out w_598 (by decide) (sm_pv hW hB (by decide) (eM_0 g ad _) rfl) rfl hl.1 rfl (Nat.le_of_ble_eq_true rfl) dX6_drop_3) ?_
  refine lv_if_eq (tgt := 11) hx hb dX6_drop_6 (by decide) (fun c6 => ?_) (fun c6 => ?_)
  · have hv := hv.trans (if_pos c6)
    refine lv_aload_n hx hb dX6_drop_11 rfl (lv_at hl 0 rfl) ?_
    refine fg_RX6_24 hx hb hts hown hW hB dX6_drop_12 ?_
    refine lv_iload_n hx hb dX6_drop_15 rfl (lv_at hl 1 rfl) ?_
    refine lv_iconst (v := -1) hx hb dX6_drop_16 (by decide) ?_
    refine sw_is hx hb hW hB (5) (by decide) (eM_5 g ad) (out_in c6 (by decide)) dX6_drop_17 (fun H locs hB => ?_)
    refine lv_iconst (v := 0) hx hb dX6_drop_18 (by decide) ?_
    exact sw_ri hx hb hr hlocks hB hv dX6_drop_19
  · have hv := hv.trans (if_neg c6)
    refine lv_iconst (v := -1) hx hb dX6_drop_9 (by decide) ?_
    exact sw_ri hx hb hr hlocks hB hv dX6_drop_10
def f_X6_share (σ : sm_S) (x1 : Int32) (x2 : Int32) : Int32 × sm_S := if (f_X6_out x1 4) = 0 then (if (f_X6_out x2 4) = 0 then ((0, uI σ 5 (Int32.toNatClampNeg x1) (σ.1 5 (Int32.toNatClampNeg x2)))) else (((-1), σ))) else (((-1), σ))
set_option maxRecDepth 100000 in
set_option maxHeartbeats 4000000 in
theorem c_X6_share (l : Launch) (g : sm_G) (ad : Nat → Nat) (hj : sm_inj 19 ad) (sz : Nat) (σ : sm_S) (x1 : Int32) (x2 : Int32)   : Met l yX6_share (sm_ws yX6_share cX6_share 3 (some .int)) (rmd 1) (va_Pc [.ref (ad 0), .int x1, .int x2] (sm_Pre g 19 ad (eM g ad) σ sz)) (sm_Qi g 19 ad (eM g ad) sz (f_X6_share σ x1 x2)) 0 0 (sm_AX 19 ad sz) := by
  generalize hv : f_X6_share σ x1 x2 = F
  replace hv := hv.symm
  refine sm_mWi (by decide) (Nat.le_of_ble_eq_true rfl) hj (eM_lay g ad) (fun p e s m args below meth c C hW hB ls hl => ?_)
  obtain ⟨hC, hr, hlocks⟩ := C
  have hx := hC.1
  have hb := hC.2.1
  have hts := hC.2.2.2.2
  have hown : s.vm.findClass RX6 = some m.cls := hC.2.2.2.1
  have hl : lv_has ls 3 [(0, .ref (ad 0)), (1, .int x1), (2, .int x2)] := hl
  refine lv_aload_n hx hb dX6_share_0 rfl (lv_at hl 0 rfl) ?_
  refine lv_iload_n hx hb dX6_share_1 rfl (lv_at hl 1 rfl) ?_
  refine lv_iconst (v := 4) hx hb dX6_share_2 (by decide) ?_
  refine sm_ci (sm_runV (rest := []) hC (c_X6_out l g ad hW.2.1 _ x1 4 σ) k_X6_out w_598 (by decide) (sm_pv hW hB (by decide) (eM_0 g ad _) rfl) rfl hl.1 rfl (Nat.le_of_ble_eq_true rfl) dX6_share_3) ?_
  refine lv_if_ne (tgt := 18) hx hb dX6_share_6 (by decide) (fun c6 => ?_) (fun c6 => ?_)
  · have hv := hv.trans (if_neg c6)
    refine lv_iconst (v := -1) hx hb dX6_share_18 (by decide) ?_
    exact sw_ri hx hb hr hlocks hB hv dX6_share_19
  · have hv := hv.trans (if_pos c6)
    refine lv_aload_n hx hb dX6_share_9 rfl (lv_at hl 0 rfl) ?_
    refine lv_iload_n hx hb dX6_share_10 rfl (lv_at hl 2 rfl) ?_
    refine lv_iconst (v := 4) hx hb dX6_share_11 (by decide) ?_
    refine sm_ci (sm_runV (rest := []) hC (c_X6_out l g ad hW.2.1 _ x2 4 σ) k_X6_out w_598 (by decide) (sm_pv hW hB (by decide) (eM_0 g ad _) rfl) rfl hl.1 rfl (Nat.le_of_ble_eq_true rfl) dX6_share_12) ?_
    refine lv_if_eq (tgt := 20) hx hb dX6_share_15 (by decide) (fun c15 => ?_) (fun c15 => ?_)
    · have hv := hv.trans (if_pos c15)
      refine lv_aload_n hx hb dX6_share_20 rfl (lv_at hl 0 rfl) ?_
      refine fg_RX6_24 hx hb hts hown hW hB dX6_share_21 ?_
      refine lv_iload_n hx hb dX6_share_24 rfl (lv_at hl 1 rfl) ?_
      refine lv_aload_n hx hb dX6_share_25 rfl (lv_at hl 0 rfl) ?_
      refine fg_RX6_24 hx hb hts hown hW hB dX6_share_26 ?_
      refine lv_iload_n hx hb dX6_share_29 rfl (lv_at hl 2 rfl) ?_
      refine sw_ia hx hb hW hB (5) (by decide) (eM_5 g ad) (out_in c15 (by decide)) dX6_share_30 ?_
      refine sw_is hx hb hW hB (5) (by decide) (eM_5 g ad) (out_in c6 (by decide)) dX6_share_31 (fun H locs hB => ?_)
      refine lv_iconst (v := 0) hx hb dX6_share_32 (by decide) ?_
      exact sw_ri hx hb hr hlocks hB hv dX6_share_33
    · have hv := hv.trans (if_neg c15)
      refine lv_iconst (v := -1) hx hb dX6_share_18 (by decide) ?_
      exact sw_ri hx hb hr hlocks hB hv dX6_share_19
def f_X6_kindOf (x1 : Int32) : Int32 := if 5 ≤ x1 then (x1 - 4) else 0
set_option maxRecDepth 100000 in
set_option maxHeartbeats 4000000 in
theorem c_X6_kindOf (l : Launch) (g : sm_G) (ad : Nat → Nat) (hj : sm_inj 19 ad) (sz : Nat) (x1 : Int32) (σ : sm_S)   : Met l yX6_kindOf (sm_ws yX6_kindOf cX6_kindOf 2 (some .int)) (rmd 0) (va_Pc [.ref (ad 0), .int x1] (sm_Pre g 19 ad (eM g ad) σ sz)) (vp_Si (fun r => r = f_X6_kindOf x1)) 0 0 (fun _ => False) := by
  generalize hv : f_X6_kindOf x1 = F
  replace hv := hv.symm
  refine sm_mR (by decide) (Nat.le_of_ble_eq_true rfl) hj (eM_lay g ad) (fun p e s m args below meth c C hW hB ls hl => ?_)
  obtain ⟨hC, hr, hlocks⟩ := C
  have hx := hC.1
  have hb := hC.2.1
  have hts := hC.2.2.2.2
  have hown : s.vm.findClass RX6 = some m.cls := hC.2.2.2.1
  have hl : lv_has ls 2 [(0, .ref (ad 0)), (1, .int x1)] := hl
  refine lv_iload_n hx hb dX6_kindOf_0 rfl (lv_at hl 1 rfl) ?_
  refine lv_iconst (v := 5) hx hb dX6_kindOf_1 (by decide) ?_
  refine lv_icmp_ge (tgt := 9) hx hb dX6_kindOf_2 (by decide) (fun c2 => ?_) (fun c2 => ?_)
  · have hv := hv.trans (if_pos c2)
    refine lv_iload_n hx hb dX6_kindOf_9 rfl (lv_at hl 1 rfl) ?_
    refine lv_iconst (v := 4) hx hb dX6_kindOf_10 (by decide) ?_
    refine lv_isub hx hb dX6_kindOf_11 ?_
    exact sm_ri hx hb hr hlocks hv dX6_kindOf_12
  · have hv := hv.trans (if_neg c2)
    refine lv_iconst (v := 0) hx hb dX6_kindOf_5 (by decide) ?_
    refine lv_goto (tgt := 12) hx hb dX6_kindOf_6 (by decide) ?_
    exact sm_ri hx hb hr hlocks hv dX6_kindOf_12
def f_X6_load_89 (σ : sm_S) : Int32 × sm_S := sm_let (f_X6_exception σ ((-4))) (fun u92_2 => (u92_2.1, u92_2.2))
def f_X6_load (σ : sm_S) (x1 : Int32) (x2 : Int32) (x3 : Int32) : Int32 × sm_S := if (f_X6_out x1 8) = 0 then (if (f_X6_out x2 4) = 0 then (if (f_X6_out x3 8) = 0 then (if (σ.1 1 (Int32.toNatClampNeg x3)) = 0 then (sm_let (σ.1 5 (Int32.toNatClampNeg x2)) (fun y46_1 => if 0 ≤ y46_1 then (if (σ.2.1 3 (Int32.toNatClampNeg x3)) < 0 then (f_X6_load_89 σ) else (if (σ.2.1 3 (Int32.toNatClampNeg x3)) < (Int32.toInt64 (σ.1 7 (Int32.toNatClampNeg y46_1))) then (sm_let (((8 : Int32) + (y46_1 * 12)) + (Int64.toInt32 (σ.2.1 3 (Int32.toNatClampNeg x3)))) (fun y112_3 => sm_let (f_X6_fix σ x3 41) (fun u118_4 => sm_let (f_X6_put (uI u118_4 1 (Int32.toNatClampNeg x1) (f_X6_kindOf (u118_4.1 6 (Int32.toNatClampNeg y46_1)))) x1 ((uI u118_4 1 (Int32.toNatClampNeg x1) (f_X6_kindOf (u118_4.1 6 (Int32.toNatClampNeg y46_1)))).2.1 3 (Int32.toNatClampNeg y112_3)) ((uI u118_4 1 (Int32.toNatClampNeg x1) (f_X6_kindOf (u118_4.1 6 (Int32.toNatClampNeg y46_1)))).1 2 (Int32.toNatClampNeg y112_3)) ((uI u118_4 1 (Int32.toNatClampNeg x1) (f_X6_kindOf (u118_4.1 6 (Int32.toNatClampNeg y46_1)))).1 4 (Int32.toNatClampNeg y112_3))) (fun u161_5 => (0, u161_5))))) else (f_X6_load_89 σ))) else (sm_let (f_X6_exception σ ((-3))) (fun u56_6 => (u56_6.1, u56_6.2))))) else (((-1), σ))) else (((-1), σ))) else (((-1), σ))) else (((-1), σ))
set_option maxRecDepth 100000 in
set_option maxHeartbeats 4000000 in
theorem c_X6_load (l : Launch) (g : sm_G) (ad : Nat → Nat) (hj : sm_inj 19 ad) (sz : Nat) (σ : sm_S) (x1 : Int32) (x2 : Int32) (x3 : Int32)  (hI : invM σ) : Met l yX6_load (sm_ws yX6_load cX6_load 6 (some .int)) (rmd 1) (va_Pc [.ref (ad 0), .int x1, .int x2, .int x3] (sm_Pre g 19 ad (eM g ad) σ sz)) (sm_Qi g 19 ad (eM g ad) sz (f_X6_load σ x1 x2 x3)) 0 0 (sm_AX 19 ad sz) := by
  generalize hv : f_X6_load σ x1 x2 x3 = F
  replace hv := hv.symm
  refine sm_mWi (by decide) (Nat.le_of_ble_eq_true rfl) hj (eM_lay g ad) (fun p e s m args below meth c C hW hB ls hl => ?_)
  obtain ⟨hC, hr, hlocks⟩ := C
  have hx := hC.1
  have hb := hC.2.1
  have hts := hC.2.2.2.2
  have hown : s.vm.findClass RX6 = some m.cls := hC.2.2.2.1
  have hl : lv_has ls 6 [(0, .ref (ad 0)), (1, .int x1), (2, .int x2), (3, .int x3)] := hl
  refine lv_aload_n hx hb dX6_load_0 rfl (lv_at hl 0 rfl) ?_
  refine lv_iload_n hx hb dX6_load_1 rfl (lv_at hl 1 rfl) ?_
  refine lv_bipush (v := 8) hx hb dX6_load_2 (by decide) ?_
  refine sm_ci (sm_runV (rest := []) hC (c_X6_out l g ad hW.2.1 _ x1 8 σ) k_X6_out w_598 (by decide) (sm_pv hW hB (by decide) (eM_0 g ad _) rfl) rfl hl.1 rfl (Nat.le_of_ble_eq_true rfl) dX6_load_4) ?_
  refine lv_if_ne (tgt := 38) hx hb dX6_load_7 (by decide) (fun c7 => ?_) (fun c7 => ?_)
  · have hv := hv.trans (if_neg c7)
    refine lv_iconst (v := -1) hx hb dX6_load_38 (by decide) ?_
    exact sw_ri hx hb hr hlocks hB hv dX6_load_39
  · have hv := hv.trans (if_pos c7)
    refine lv_aload_n hx hb dX6_load_10 rfl (lv_at hl 0 rfl) ?_
    refine lv_iload_n hx hb dX6_load_11 rfl (lv_at hl 2 rfl) ?_
    refine lv_iconst (v := 4) hx hb dX6_load_12 (by decide) ?_
    refine sm_ci (sm_runV (rest := []) hC (c_X6_out l g ad hW.2.1 _ x2 4 σ) k_X6_out w_598 (by decide) (sm_pv hW hB (by decide) (eM_0 g ad _) rfl) rfl hl.1 rfl (Nat.le_of_ble_eq_true rfl) dX6_load_13) ?_
    refine lv_if_ne (tgt := 38) hx hb dX6_load_16 (by decide) (fun c16 => ?_) (fun c16 => ?_)
    · have hv := hv.trans (if_neg c16)
      refine lv_iconst (v := -1) hx hb dX6_load_38 (by decide) ?_
      exact sw_ri hx hb hr hlocks hB hv dX6_load_39
    · have hv := hv.trans (if_pos c16)
      refine lv_aload_n hx hb dX6_load_19 rfl (lv_at hl 0 rfl) ?_
      refine lv_iload_n hx hb dX6_load_20 rfl (lv_at hl 3 rfl) ?_
      refine lv_bipush (v := 8) hx hb dX6_load_21 (by decide) ?_
      refine sm_ci (sm_runV (rest := []) hC (c_X6_out l g ad hW.2.1 _ x3 8 σ) k_X6_out w_598 (by decide) (sm_pv hW hB (by decide) (eM_0 g ad _) rfl) rfl hl.1 rfl (Nat.le_of_ble_eq_true rfl) dX6_load_23) ?_
      refine lv_if_ne (tgt := 38) hx hb dX6_load_26 (by decide) (fun c26 => ?_) (fun c26 => ?_)
      · have hv := hv.trans (if_neg c26)
        refine lv_iconst (v := -1) hx hb dX6_load_38 (by decide) ?_
        exact sw_ri hx hb hr hlocks hB hv dX6_load_39
      · have hv := hv.trans (if_pos c26)
        refine lv_aload_n hx hb dX6_load_29 rfl (lv_at hl 0 rfl) ?_
        refine fg_RX6_7 hx hb hts hown hW hB dX6_load_30 ?_
        refine lv_iload_n hx hb dX6_load_33 rfl (lv_at hl 3 rfl) ?_
        refine sw_ia hx hb hW hB (1) (by decide) (eM_1 g ad) (out_in c26 (by decide)) dX6_load_34 ?_
        refine lv_if_eq (tgt := 40) hx hb dX6_load_35 (by decide) (fun c35 => ?_) (fun c35 => ?_)
        · have hv := hv.trans (if_pos c35)
          refine lv_aload_n hx hb dX6_load_40 rfl (lv_at hl 0 rfl) ?_
          refine fg_RX6_24 hx hb hts hown hW hB dX6_load_41 ?_
          refine lv_iload_n hx hb dX6_load_44 rfl (lv_at hl 2 rfl) ?_
          refine sw_ia hx hb hW hB (5) (by decide) (eM_5 g ad) (out_in c16 (by decide)) dX6_load_45 ?_
          refine sm_nmi hv (fun y46_1 ey46_1 hv => ?_)
          refine lv_istore (lv' := [(4, .int y46_1), (0, .ref (ad 0)), (1, .int x1), (2, .int x2), (3, .int x3)]) hx hb dX6_load_46 hl (by decide) rfl (fun ls hl => ?_)
          refine lv_iload hx hb dX6_load_48 (lv_at hl 0 rfl) ?_
          refine lv_if_ge (tgt := 60) hx hb dX6_load_50 (by decide) (fun c50 => ?_) (fun c50 => ?_)
          · have hv := hv.trans (if_pos c50)
            refine lv_aload_n hx hb dX6_load_60 rfl (lv_at hl 1 rfl) ?_
            refine fg_RX6_16 hx hb hts hown hW hB dX6_load_61 ?_
            refine lv_iload_n hx hb dX6_load_64 rfl (lv_at hl 4 rfl) ?_
            refine sw_la hx hb hW hB (3) (by decide) (eM_3 g ad) (in_mono (a := 8) (out_in c26 (by decide)) (by decide)) dX6_load_65 ?_
            refine lv_lconst (v := 0) hx hb dX6_load_66 (by decide) ?_
            have k_89 : ∀  (ls : Array Slot), lv_has ls 6 [(0, .ref (ad 0))] → F = f_X6_load_89 σ → W p l e (rmd 1) s m args below meth c s.heap [] 0 0 (MQ below (sm_Qi g 19 ad (eM g ad) s.heap.size F) args s 0 0 (sm_AX 19 ad s.heap.size)) (F0 m 89 ls []) := by
              intro ls hl hv
              refine lv_aload_n hx hb dX6_load_89 rfl (lv_at hl 0 rfl) ?_
              refine lv_bipush (v := -4) hx hb dX6_load_90 (by decide) ?_
              refine sw_cin hv hB (sm_runV (rest := []) hC (c_X6_exception l g ad hW.2.1 _ σ ((-4))) k_X6_exception w_747 (by decide) (sm_pv hW hB (by decide) (eM_0 g ad _) rfl) rfl hl.1 rfl (Nat.le_of_ble_eq_true rfl) dX6_load_92) (fun u92_2 eu92_2 hv H locs hB => ?_)
              exact sw_ri hx hb hr hlocks hB hv dX6_load_95
            refine lc_lt (tgt := 89) hx hb dX6_load_67 dX6_load_68 (by decide) (fun c67 => ?_) (fun c67 => ?_)
            · have hv := hv.trans (if_pos c67)
              exact k_89 _ (lv_sub hl [1] rfl) hv
            · have hv := hv.trans (if_neg c67)
              refine lv_aload_n hx hb dX6_load_71 rfl (lv_at hl 1 rfl) ?_
              refine fg_RX6_16 hx hb hts hown hW hB dX6_load_72 ?_
              refine lv_iload_n hx hb dX6_load_75 rfl (lv_at hl 4 rfl) ?_
              refine sw_la hx hb hW hB (3) (by decide) (eM_3 g ad) (in_mono (a := 8) (out_in c26 (by decide)) (by decide)) dX6_load_76 ?_
              refine lv_aload_n hx hb dX6_load_77 rfl (lv_at hl 1 rfl) ?_
              refine fg_RX6_30 hx hb hts hown hW hB dX6_load_78 ?_
              refine lv_iload hx hb dX6_load_81 (lv_at hl 0 rfl) ?_
              refine sw_ia hx hb hW hB (7) (by decide) (eM_7 g ad) (st_in hI (out_in c16 (by decide)) ey46_1 c50) dX6_load_83 ?_
              refine lv_i2l hx hb dX6_load_84 rfl ?_
              refine lc_lt (tgt := 96) hx hb dX6_load_85 dX6_load_86 (by decide) (fun c85 => ?_) (fun c85 => ?_)
              · have hv := hv.trans (if_pos c85)
                refine lv_bipush (v := 8) hx hb dX6_load_96 (by decide) ?_
                refine lv_iload hx hb dX6_load_98 (lv_at hl 0 rfl) ?_
                refine lv_bipush (v := 12) hx hb dX6_load_100 (by decide) ?_
                refine lv_imul hx hb dX6_load_102 ?_
                refine lv_iadd hx hb dX6_load_103 ?_
                refine lv_aload_n hx hb dX6_load_104 rfl (lv_at hl 1 rfl) ?_
                refine fg_RX6_16 hx hb hts hown hW hB dX6_load_105 ?_
                refine lv_iload_n hx hb dX6_load_108 rfl (lv_at hl 4 rfl) ?_
                refine sw_la hx hb hW hB (3) (by decide) (eM_3 g ad) (in_mono (a := 8) (out_in c26 (by decide)) (by decide)) dX6_load_109 ?_
                refine lv_l2i hx hb dX6_load_110 rfl ?_
                refine lv_iadd hx hb dX6_load_111 ?_
                refine sm_nmi hv (fun y112_3 ey112_3 hv => ?_)
                refine lv_istore (lv' := [(5, .int y112_3), (4, .int y46_1), (0, .ref (ad 0)), (1, .int x1), (2, .int x2), (3, .int x3)]) hx hb dX6_load_112 hl (by decide) rfl (fun ls hl => ?_)
                refine lv_aload_n hx hb dX6_load_114 rfl (lv_at hl 2 rfl) ?_
                refine lv_iload_n hx hb dX6_load_115 rfl (lv_at hl 5 rfl) ?_
                refine lv_bipush (v := 41) hx hb dX6_load_116 (by decide) ?_
                refine sw_cvn hv hB (sm_runV (rest := []) hC (c_X6_fix l g ad hW.2.1 _ σ x3 41 (in_mono (a := 8) (out_in c26 (by decide)) (by decide))) k_X6_fix w_696 (by decide) (sm_pv hW hB (by decide) (eM_0 g ad _) rfl) rfl hl.1 rfl (Nat.le_of_ble_eq_true rfl) dX6_load_118) (fun u118_4 eu118_4 hv H locs hB => ?_)
                refine lv_aload_n hx hb dX6_load_121 rfl (lv_at hl 2 rfl) ?_
                refine fg_RX6_7 hx hb hts hown hW hB dX6_load_122 ?_
                refine lv_iload_n hx hb dX6_load_125 rfl (lv_at hl 3 rfl) ?_
                refine lv_aload_n hx hb dX6_load_126 rfl (lv_at hl 2 rfl) ?_
                refine lv_aload_n hx hb dX6_load_127 rfl (lv_at hl 2 rfl) ?_
                refine fg_RX6_27 hx hb hts hown hW hB dX6_load_128 ?_
                refine lv_iload hx hb dX6_load_131 (lv_at hl 1 rfl) ?_
                refine sw_ia hx hb hW hB (6) (by decide) (eM_6 g ad) (st_in hI (out_in c16 (by decide)) ey46_1 c50) dX6_load_133 ?_
                refine sm_ci (sm_runV (rest := [.int x1, .ref (ad 1)]) hC (c_X6_kindOf l g ad hW.2.1 _ (u118_4.1 6 (Int32.toNatClampNeg y46_1)) u118_4) k_X6_kindOf w_763 (by decide) (sm_pv hW hB (by decide) (eM_0 g ad _) rfl) rfl hl.1 rfl (Nat.le_of_ble_eq_true rfl) dX6_load_134) ?_
                refine sw_is hx hb hW hB (1) (by decide) (eM_1 g ad) (out_in c7 (by decide)) dX6_load_137 (fun H locs hB => ?_)
                refine lv_aload_n hx hb dX6_load_138 rfl (lv_at hl 2 rfl) ?_
                refine lv_iload_n hx hb dX6_load_139 rfl (lv_at hl 3 rfl) ?_
                refine lv_aload_n hx hb dX6_load_140 rfl (lv_at hl 2 rfl) ?_
                refine fg_RX6_16 hx hb hts hown hW hB dX6_load_141 ?_
                refine lv_iload hx hb dX6_load_144 (lv_at hl 0 rfl) ?_
                refine sw_la hx hb hW hB (3) (by decide) (eM_3 g ad) (by rw [ey112_3]; exact ld_in hI (st_in hI (out_in c16 (by decide)) ey46_1 c50) c67 c85) dX6_load_146 ?_
                refine lv_aload_n hx hb dX6_load_147 rfl (lv_at hl 2 rfl) ?_
                refine fg_RX6_13 hx hb hts hown hW hB dX6_load_148 ?_
                refine lv_iload hx hb dX6_load_151 (lv_at hl 0 rfl) ?_
                refine sw_ia hx hb hW hB (2) (by decide) (eM_2 g ad) (by rw [ey112_3]; exact ld_in hI (st_in hI (out_in c16 (by decide)) ey46_1 c50) c67 c85) dX6_load_153 ?_
                refine lv_aload_n hx hb dX6_load_154 rfl (lv_at hl 2 rfl) ?_
                refine fg_RX6_20 hx hb hts hown hW hB dX6_load_155 ?_
                refine lv_iload hx hb dX6_load_158 (lv_at hl 0 rfl) ?_
                refine sw_za hx hb hW hB (4) (by decide) (eM_4 g ad) (by rw [ey112_3]; exact ld_in hI (st_in hI (out_in c16 (by decide)) ey46_1 c50) c67 c85) dX6_load_160 ?_
                refine sw_cvn hv hB (sm_runV (rest := []) hC (c_X6_put l g ad hW.2.1 _ (uI u118_4 1 (Int32.toNatClampNeg x1) (f_X6_kindOf (u118_4.1 6 (Int32.toNatClampNeg y46_1)))) x1 ((uI u118_4 1 (Int32.toNatClampNeg x1) (f_X6_kindOf (u118_4.1 6 (Int32.toNatClampNeg y46_1)))).2.1 3 (Int32.toNatClampNeg y112_3)) ((uI u118_4 1 (Int32.toNatClampNeg x1) (f_X6_kindOf (u118_4.1 6 (Int32.toNatClampNeg y46_1)))).1 2 (Int32.toNatClampNeg y112_3)) ((uI u118_4 1 (Int32.toNatClampNeg x1) (f_X6_kindOf (u118_4.1 6 (Int32.toNatClampNeg y46_1)))).1 4 (Int32.toNatClampNeg y112_3)) (in_mono (a := 8) (out_in c7 (by decide)) (by decide))) k_X6_put w_630 (by decide) (sm_pv hW hB (by decide) (eM_0 g ad _) rfl) rfl hl.1 rfl (Nat.le_of_ble_eq_true rfl) dX6_load_161) (fun u161_5 eu161_5 hv H locs hB => ?_)
                refine lv_iconst (v := 0) hx hb dX6_load_164 (by decide) ?_
                exact sw_ri hx hb hr hlocks hB hv dX6_load_165
              · have hv := hv.trans (if_neg c85)
                exact k_89 _ (lv_sub hl [1] rfl) hv
          · have hv := hv.trans (if_neg c50)
            refine lv_aload_n hx hb dX6_load_53 rfl (lv_at hl 1 rfl) ?_
            refine lv_bipush (v := -3) hx hb dX6_load_54 (by decide) ?_
            refine sw_cin hv hB (sm_runV (rest := []) hC (c_X6_exception l g ad hW.2.1 _ σ ((-3))) k_X6_exception w_747 (by decide) (sm_pv hW hB (by decide) (eM_0 g ad _) rfl) rfl hl.1 rfl (Nat.le_of_ble_eq_true rfl) dX6_load_56) (fun u56_6 eu56_6 hv H locs hB => ?_)
            exact sw_ri hx hb hr hlocks hB hv dX6_load_59
        · have hv := hv.trans (if_neg c35)
          refine lv_iconst (v := -1) hx hb dX6_load_38 (by decide) ?_
          exact sw_ri hx hb hr hlocks hB hv dX6_load_39
def f_X6_stored (x1 : Int32) (x2 : Int64) : Int64 := if x1 = 0 then (x2 &&& 1) else (if x1 = 1 then (Int32.toInt64 (Int8.toInt32 (Int32.toInt8 (Int64.toInt32 x2)))) else (if x1 = 2 then (Int32.toInt64 (UInt32.toInt32 (Int32.toUInt32 (Int64.toInt32 x2) % 65536))) else (if x1 = 3 then (Int32.toInt64 (Int16.toInt32 (Int32.toInt16 (Int64.toInt32 x2)))) else x2)))
set_option maxRecDepth 100000 in
set_option maxHeartbeats 4000000 in
theorem c_X6_stored (l : Launch) (g : sm_G) (ad : Nat → Nat) (hj : sm_inj 19 ad) (sz : Nat) (x1 : Int32) (x2 : Int64) (σ : sm_S)   : Met l yX6_stored (sm_ws yX6_stored cX6_stored 4 (some .long)) (rmd 0) (va_Pc [.ref (ad 0), .int x1, .long x2] (sm_Pre g 19 ad (eM g ad) σ sz)) (vp_Sl (fun r => r = f_X6_stored x1 x2)) 0 0 (fun _ => False) := by
  generalize hv : f_X6_stored x1 x2 = F
  replace hv := hv.symm
  refine sm_mR (by decide) (Nat.le_of_ble_eq_true rfl) hj (eM_lay g ad) (fun p e s m args below meth c C hW hB ls hl => ?_)
  obtain ⟨hC, hr, hlocks⟩ := C
  have hx := hC.1
  have hb := hC.2.1
  have hts := hC.2.2.2.2
  have hown : s.vm.findClass RX6 = some m.cls := hC.2.2.2.1
  have hl : lv_has ls 4 [(0, .ref (ad 0)), (1, .int x1), (2, .long x2)] := hl
  refine lv_iload_n hx hb dX6_stored_0 rfl (lv_at hl 1 rfl) ?_
  refine lv_if_ne (tgt := 10) hx hb dX6_stored_1 (by decide) (fun c1 => ?_) (fun c1 => ?_)
  · have hv := hv.trans (if_neg c1)
    refine lv_iload_n hx hb dX6_stored_10 rfl (lv_at hl 1 rfl) ?_
    refine lv_iconst (v := 1) hx hb dX6_stored_11 (by decide) ?_
    refine lv_icmp_ne (tgt := 22) hx hb dX6_stored_12 (by decide) (fun c12 => ?_) (fun c12 => ?_)
    · have hv := hv.trans (if_neg c12)
      refine lv_iload_n hx hb dX6_stored_22 rfl (lv_at hl 1 rfl) ?_
      refine lv_iconst (v := 2) hx hb dX6_stored_23 (by decide) ?_
      refine lv_icmp_ne (tgt := 34) hx hb dX6_stored_24 (by decide) (fun c24 => ?_) (fun c24 => ?_)
      · have hv := hv.trans (if_neg c24)
        refine lv_iload_n hx hb dX6_stored_34 rfl (lv_at hl 1 rfl) ?_
        refine lv_iconst (v := 3) hx hb dX6_stored_35 (by decide) ?_
        refine lv_icmp_ne (tgt := 46) hx hb dX6_stored_36 (by decide) (fun c36 => ?_) (fun c36 => ?_)
        · have hv := hv.trans (if_neg c36)
          refine lv_lload_n hx hb dX6_stored_46 rfl (lv_at hl 2 rfl) ?_
          exact sm_rl hx hb hr hlocks hv dX6_stored_47
        · have hv := hv.trans (if_pos c36)
          refine lv_lload_n hx hb dX6_stored_39 rfl (lv_at hl 2 rfl) ?_
          refine lv_l2i hx hb dX6_stored_40 rfl ?_
          refine lv_i2s hx hb dX6_stored_41 rfl ?_
          refine lv_i2l hx hb dX6_stored_42 rfl ?_
          refine lv_goto (tgt := 47) hx hb dX6_stored_43 (by decide) ?_
          exact sm_rl hx hb hr hlocks hv dX6_stored_47
      · have hv := hv.trans (if_pos c24)
        refine lv_lload_n hx hb dX6_stored_27 rfl (lv_at hl 2 rfl) ?_
        refine lv_l2i hx hb dX6_stored_28 rfl ?_
        refine lv_i2c hx hb dX6_stored_29 rfl ?_
        refine lv_i2l hx hb dX6_stored_30 rfl ?_
        refine lv_goto (tgt := 47) hx hb dX6_stored_31 (by decide) ?_
        exact sm_rl hx hb hr hlocks hv dX6_stored_47
    · have hv := hv.trans (if_pos c12)
      refine lv_lload_n hx hb dX6_stored_15 rfl (lv_at hl 2 rfl) ?_
      refine lv_l2i hx hb dX6_stored_16 rfl ?_
      refine lv_i2b hx hb dX6_stored_17 rfl ?_
      refine lv_i2l hx hb dX6_stored_18 rfl ?_
      refine lv_goto (tgt := 47) hx hb dX6_stored_19 (by decide) ?_
      exact sm_rl hx hb hr hlocks hv dX6_stored_47
  · have hv := hv.trans (if_pos c1)
    refine lv_lload_n hx hb dX6_stored_4 rfl (lv_at hl 2 rfl) ?_
    refine lv_lconst (v := 1) hx hb dX6_stored_5 (by decide) ?_
    refine lv_land hx hb dX6_stored_6 ?_
    refine lv_goto (tgt := 47) hx hb dX6_stored_7 (by decide) ?_
    exact sm_rl hx hb hr hlocks hv dX6_stored_47
def f_X6_store_116 (σ : sm_S) : Int32 × sm_S := sm_let (f_X6_exception σ ((-4))) (fun u119_2 => (u119_2.1, u119_2.2))
def f_X6_store_188 (x2 : Int32) (σ : sm_S) (t0_188 : Int32) (t1_188 : Int32) (t2_188 : Int64) (t3_188 : Int32) : Int32 × sm_S := sm_let (f_X6_put σ t3_188 t2_188 t1_188 t0_188) (fun u188_3 => sm_let (f_X6_fix u188_3 x2 42) (fun u195_4 => (0, u195_4)))
def f_X6_store_187 (x2 : Int32) (σ : sm_S) (t0_187 : Int32) (t1_187 : Int64) (t2_187 : Int32) : Int32 × sm_S := f_X6_store_188 x2 σ 0 t0_187 t1_187 t2_187
def f_X6_store (σ : sm_S) (x1 : Int32) (x2 : Int32) (x3 : Int32) : Int32 × sm_S := if (f_X6_out x1 4) = 0 then (if (f_X6_out x2 8) = 0 then (if (f_X6_out x3 8) = 0 then (if (σ.1 1 (Int32.toNatClampNeg x2)) = 0 then (sm_let (σ.1 5 (Int32.toNatClampNeg x1)) (fun y46_1 => if 0 ≤ y46_1 then (if (σ.1 1 (Int32.toNatClampNeg x3)) = (f_X6_kindOf (σ.1 6 (Int32.toNatClampNeg y46_1))) then (if (σ.2.1 3 (Int32.toNatClampNeg x2)) < 0 then (f_X6_store_116 σ) else (if (σ.2.1 3 (Int32.toNatClampNeg x2)) < (Int32.toInt64 (σ.1 7 (Int32.toNatClampNeg y46_1))) then (if (σ.1 4 (Int32.toNatClampNeg x3)) = 0 then (f_X6_store_187 x2 σ (σ.1 2 (Int32.toNatClampNeg x3)) (f_X6_stored (σ.1 6 (Int32.toNatClampNeg y46_1)) (σ.2.1 3 (Int32.toNatClampNeg x3))) (((8 : Int32) + (y46_1 * 12)) + (Int64.toInt32 (σ.2.1 3 (Int32.toNatClampNeg x2))))) else (if (σ.1 6 (Int32.toNatClampNeg y46_1)) ≤ 3 then (f_X6_store_187 x2 σ (σ.1 2 (Int32.toNatClampNeg x3)) (f_X6_stored (σ.1 6 (Int32.toNatClampNeg y46_1)) (σ.2.1 3 (Int32.toNatClampNeg x3))) (((8 : Int32) + (y46_1 * 12)) + (Int64.toInt32 (σ.2.1 3 (Int32.toNatClampNeg x2))))) else (f_X6_store_188 x2 σ 1 (σ.1 2 (Int32.toNatClampNeg x3)) (f_X6_stored (σ.1 6 (Int32.toNatClampNeg y46_1)) (σ.2.1 3 (Int32.toNatClampNeg x3))) (((8 : Int32) + (y46_1 * 12)) + (Int64.toInt32 (σ.2.1 3 (Int32.toNatClampNeg x2))))))) else (f_X6_store_116 σ))) else (sm_let (f_X6_exception σ ((-6))) (fun u83_5 => (u83_5.1, u83_5.2)))) else (sm_let (f_X6_exception σ ((-3))) (fun u56_6 => (u56_6.1, u56_6.2))))) else (((-1), σ))) else (((-1), σ))) else (((-1), σ))) else (((-1), σ))
set_option maxRecDepth 100000 in
set_option maxHeartbeats 4000000 in
theorem c_X6_store (l : Launch) (g : sm_G) (ad : Nat → Nat) (hj : sm_inj 19 ad) (sz : Nat) (σ : sm_S) (x1 : Int32) (x2 : Int32) (x3 : Int32)  (hI : invM σ) : Met l yX6_store (sm_ws yX6_store cX6_store 5 (some .int)) (rmd 1) (va_Pc [.ref (ad 0), .int x1, .int x2, .int x3] (sm_Pre g 19 ad (eM g ad) σ sz)) (sm_Qi g 19 ad (eM g ad) sz (f_X6_store σ x1 x2 x3)) 0 0 (sm_AX 19 ad sz) := by
  generalize hv : f_X6_store σ x1 x2 x3 = F
  replace hv := hv.symm
  refine sm_mWi (by decide) (Nat.le_of_ble_eq_true rfl) hj (eM_lay g ad) (fun p e s m args below meth c C hW hB ls hl => ?_)
  obtain ⟨hC, hr, hlocks⟩ := C
  have hx := hC.1
  have hb := hC.2.1
  have hts := hC.2.2.2.2
  have hown : s.vm.findClass RX6 = some m.cls := hC.2.2.2.1
  have hl : lv_has ls 5 [(0, .ref (ad 0)), (1, .int x1), (2, .int x2), (3, .int x3)] := hl
  refine lv_aload_n hx hb dX6_store_0 rfl (lv_at hl 0 rfl) ?_
  refine lv_iload_n hx hb dX6_store_1 rfl (lv_at hl 1 rfl) ?_
  refine lv_iconst (v := 4) hx hb dX6_store_2 (by decide) ?_
  refine sm_ci (sm_runV (rest := []) hC (c_X6_out l g ad hW.2.1 _ x1 4 σ) k_X6_out w_598 (by decide) (sm_pv hW hB (by decide) (eM_0 g ad _) rfl) rfl hl.1 rfl (Nat.le_of_ble_eq_true rfl) dX6_store_3) ?_
  refine lv_if_ne (tgt := 38) hx hb dX6_store_6 (by decide) (fun c6 => ?_) (fun c6 => ?_)
  · have hv := hv.trans (if_neg c6)
    refine lv_iconst (v := -1) hx hb dX6_store_38 (by decide) ?_
    exact sw_ri hx hb hr hlocks hB hv dX6_store_39
  · have hv := hv.trans (if_pos c6)
    refine lv_aload_n hx hb dX6_store_9 rfl (lv_at hl 0 rfl) ?_
    refine lv_iload_n hx hb dX6_store_10 rfl (lv_at hl 2 rfl) ?_
    refine lv_bipush (v := 8) hx hb dX6_store_11 (by decide) ?_
    refine sm_ci (sm_runV (rest := []) hC (c_X6_out l g ad hW.2.1 _ x2 8 σ) k_X6_out w_598 (by decide) (sm_pv hW hB (by decide) (eM_0 g ad _) rfl) rfl hl.1 rfl (Nat.le_of_ble_eq_true rfl) dX6_store_13) ?_
    refine lv_if_ne (tgt := 38) hx hb dX6_store_16 (by decide) (fun c16 => ?_) (fun c16 => ?_)
    · have hv := hv.trans (if_neg c16)
      refine lv_iconst (v := -1) hx hb dX6_store_38 (by decide) ?_
      exact sw_ri hx hb hr hlocks hB hv dX6_store_39
    · have hv := hv.trans (if_pos c16)
      refine lv_aload_n hx hb dX6_store_19 rfl (lv_at hl 0 rfl) ?_
      refine lv_iload_n hx hb dX6_store_20 rfl (lv_at hl 3 rfl) ?_
      refine lv_bipush (v := 8) hx hb dX6_store_21 (by decide) ?_
      refine sm_ci (sm_runV (rest := []) hC (c_X6_out l g ad hW.2.1 _ x3 8 σ) k_X6_out w_598 (by decide) (sm_pv hW hB (by decide) (eM_0 g ad _) rfl) rfl hl.1 rfl (Nat.le_of_ble_eq_true rfl) dX6_store_23) ?_
      refine lv_if_ne (tgt := 38) hx hb dX6_store_26 (by decide) (fun c26 => ?_) (fun c26 => ?_)
      · have hv := hv.trans (if_neg c26)
        refine lv_iconst (v := -1) hx hb dX6_store_38 (by decide) ?_
        exact sw_ri hx hb hr hlocks hB hv dX6_store_39
      · have hv := hv.trans (if_pos c26)
        refine lv_aload_n hx hb dX6_store_29 rfl (lv_at hl 0 rfl) ?_
        refine fg_RX6_7 hx hb hts hown hW hB dX6_store_30 ?_
        refine lv_iload_n hx hb dX6_store_33 rfl (lv_at hl 2 rfl) ?_
        refine sw_ia hx hb hW hB (1) (by decide) (eM_1 g ad) (out_in c16 (by decide)) dX6_store_34 ?_
        refine lv_if_eq (tgt := 40) hx hb dX6_store_35 (by decide) (fun c35 => ?_) (fun c35 => ?_)
        · have hv := hv.trans (if_pos c35)
          refine lv_aload_n hx hb dX6_store_40 rfl (lv_at hl 0 rfl) ?_
          refine fg_RX6_24 hx hb hts hown hW hB dX6_store_41 ?_
          refine lv_iload_n hx hb dX6_store_44 rfl (lv_at hl 1 rfl) ?_
          refine sw_ia hx hb hW hB (5) (by decide) (eM_5 g ad) (out_in c6 (by decide)) dX6_store_45 ?_
          refine sm_nmi hv (fun y46_1 ey46_1 hv => ?_)
          refine lv_istore (lv' := [(4, .int y46_1), (0, .ref (ad 0)), (1, .int x1), (2, .int x2), (3, .int x3)]) hx hb dX6_store_46 hl (by decide) rfl (fun ls hl => ?_)
          refine lv_iload hx hb dX6_store_48 (lv_at hl 0 rfl) ?_
          refine lv_if_ge (tgt := 60) hx hb dX6_store_50 (by decide) (fun c50 => ?_) (fun c50 => ?_)
          · have hv := hv.trans (if_pos c50)
            refine lv_aload_n hx hb dX6_store_60 rfl (lv_at hl 1 rfl) ?_
            refine fg_RX6_7 hx hb hts hown hW hB dX6_store_61 ?_
            refine lv_iload_n hx hb dX6_store_64 rfl (lv_at hl 4 rfl) ?_
            refine sw_ia hx hb hW hB (1) (by decide) (eM_1 g ad) (out_in c26 (by decide)) dX6_store_65 ?_
            refine lv_aload_n hx hb dX6_store_66 rfl (lv_at hl 1 rfl) ?_
            refine lv_aload_n hx hb dX6_store_67 rfl (lv_at hl 1 rfl) ?_
            refine fg_RX6_27 hx hb hts hown hW hB dX6_store_68 ?_
            refine lv_iload hx hb dX6_store_71 (lv_at hl 0 rfl) ?_
            refine sw_ia hx hb hW hB (6) (by decide) (eM_6 g ad) (st_in hI (out_in c6 (by decide)) ey46_1 c50) dX6_store_73 ?_
            refine sm_ci (sm_runV (rest := [.int (σ.1 1 (Int32.toNatClampNeg x3))]) hC (c_X6_kindOf l g ad hW.2.1 _ (σ.1 6 (Int32.toNatClampNeg y46_1)) σ) k_X6_kindOf w_763 (by decide) (sm_pv hW hB (by decide) (eM_0 g ad _) rfl) rfl hl.1 rfl (Nat.le_of_ble_eq_true rfl) dX6_store_74) ?_
            refine lv_icmp_eq (tgt := 87) hx hb dX6_store_77 (by decide) (fun c77 => ?_) (fun c77 => ?_)
            · have hv := hv.trans (if_pos c77)
              refine lv_aload_n hx hb dX6_store_87 rfl (lv_at hl 1 rfl) ?_
              refine fg_RX6_16 hx hb hts hown hW hB dX6_store_88 ?_
              refine lv_iload_n hx hb dX6_store_91 rfl (lv_at hl 3 rfl) ?_
              refine sw_la hx hb hW hB (3) (by decide) (eM_3 g ad) (in_mono (a := 8) (out_in c16 (by decide)) (by decide)) dX6_store_92 ?_
              refine lv_lconst (v := 0) hx hb dX6_store_93 (by decide) ?_
              have k_116 : ∀  (ls : Array Slot), lv_has ls 5 [(0, .ref (ad 0))] → F = f_X6_store_116 σ → W p l e (rmd 1) s m args below meth c s.heap [] 0 0 (MQ below (sm_Qi g 19 ad (eM g ad) s.heap.size F) args s 0 0 (sm_AX 19 ad s.heap.size)) (F0 m 116 ls []) := by
                intro ls hl hv
                refine lv_aload_n hx hb dX6_store_116 rfl (lv_at hl 0 rfl) ?_
                refine lv_bipush (v := -4) hx hb dX6_store_117 (by decide) ?_
                refine sw_cin hv hB (sm_runV (rest := []) hC (c_X6_exception l g ad hW.2.1 _ σ ((-4))) k_X6_exception w_747 (by decide) (sm_pv hW hB (by decide) (eM_0 g ad _) rfl) rfl hl.1 rfl (Nat.le_of_ble_eq_true rfl) dX6_store_119) (fun u119_2 eu119_2 hv H locs hB => ?_)
                exact sw_ri hx hb hr hlocks hB hv dX6_store_122
              refine lc_lt (tgt := 116) hx hb dX6_store_94 dX6_store_95 (by decide) (fun c94 => ?_) (fun c94 => ?_)
              · have hv := hv.trans (if_pos c94)
                exact k_116 _ (lv_sub hl [1] rfl) hv
              · have hv := hv.trans (if_neg c94)
                refine lv_aload_n hx hb dX6_store_98 rfl (lv_at hl 1 rfl) ?_
                refine fg_RX6_16 hx hb hts hown hW hB dX6_store_99 ?_
                refine lv_iload_n hx hb dX6_store_102 rfl (lv_at hl 3 rfl) ?_
                refine sw_la hx hb hW hB (3) (by decide) (eM_3 g ad) (in_mono (a := 8) (out_in c16 (by decide)) (by decide)) dX6_store_103 ?_
                refine lv_aload_n hx hb dX6_store_104 rfl (lv_at hl 1 rfl) ?_
                refine fg_RX6_30 hx hb hts hown hW hB dX6_store_105 ?_
                refine lv_iload hx hb dX6_store_108 (lv_at hl 0 rfl) ?_
                refine sw_ia hx hb hW hB (7) (by decide) (eM_7 g ad) (st_in hI (out_in c6 (by decide)) ey46_1 c50) dX6_store_110 ?_
                refine lv_i2l hx hb dX6_store_111 rfl ?_
                refine lc_lt (tgt := 123) hx hb dX6_store_112 dX6_store_113 (by decide) (fun c112 => ?_) (fun c112 => ?_)
                · have hv := hv.trans (if_pos c112)
                  refine lv_aload_n hx hb dX6_store_123 rfl (lv_at hl 1 rfl) ?_
                  refine lv_bipush (v := 8) hx hb dX6_store_124 (by decide) ?_
                  refine lv_iload hx hb dX6_store_126 (lv_at hl 0 rfl) ?_
                  refine lv_bipush (v := 12) hx hb dX6_store_128 (by decide) ?_
                  refine lv_imul hx hb dX6_store_130 ?_
                  refine lv_iadd hx hb dX6_store_131 ?_
                  refine lv_aload_n hx hb dX6_store_132 rfl (lv_at hl 1 rfl) ?_
                  refine fg_RX6_16 hx hb hts hown hW hB dX6_store_133 ?_
                  refine lv_iload_n hx hb dX6_store_136 rfl (lv_at hl 3 rfl) ?_
                  refine sw_la hx hb hW hB (3) (by decide) (eM_3 g ad) (in_mono (a := 8) (out_in c16 (by decide)) (by decide)) dX6_store_137 ?_
                  refine lv_l2i hx hb dX6_store_138 rfl ?_
                  refine lv_iadd hx hb dX6_store_139 ?_
                  refine lv_aload_n hx hb dX6_store_140 rfl (lv_at hl 1 rfl) ?_
                  refine lv_aload_n hx hb dX6_store_141 rfl (lv_at hl 1 rfl) ?_
                  refine fg_RX6_27 hx hb hts hown hW hB dX6_store_142 ?_
                  refine lv_iload hx hb dX6_store_145 (lv_at hl 0 rfl) ?_
                  refine sw_ia hx hb hW hB (6) (by decide) (eM_6 g ad) (st_in hI (out_in c6 (by decide)) ey46_1 c50) dX6_store_147 ?_
                  refine lv_aload_n hx hb dX6_store_148 rfl (lv_at hl 1 rfl) ?_
                  refine fg_RX6_16 hx hb hts hown hW hB dX6_store_149 ?_
                  refine lv_iload_n hx hb dX6_store_152 rfl (lv_at hl 4 rfl) ?_
                  refine sw_la hx hb hW hB (3) (by decide) (eM_3 g ad) (in_mono (a := 8) (out_in c26 (by decide)) (by decide)) dX6_store_153 ?_
                  refine sm_cl (sm_runV (rest := [.int (((8 : Int32) + (y46_1 * 12)) + (Int64.toInt32 (σ.2.1 3 (Int32.toNatClampNeg x2)))), .ref (ad 0)]) hC (c_X6_stored l g ad hW.2.1 _ (σ.1 6 (Int32.toNatClampNeg y46_1)) (σ.2.1 3 (Int32.toNatClampNeg x3)) σ) k_X6_stored w_771 (by decide) (sm_pv hW hB (by decide) (eM_0 g ad _) rfl) rfl hl.1 rfl (Nat.le_of_ble_eq_true rfl) dX6_store_154) ?_
                  refine lv_aload_n hx hb dX6_store_157 rfl (lv_at hl 1 rfl) ?_
                  refine fg_RX6_13 hx hb hts hown hW hB dX6_store_158 ?_
                  refine lv_iload_n hx hb dX6_store_161 rfl (lv_at hl 4 rfl) ?_
                  refine sw_ia hx hb hW hB (2) (by decide) (eM_2 g ad) (in_mono (a := 8) (out_in c26 (by decide)) (by decide)) dX6_store_162 ?_
                  refine lv_aload_n hx hb dX6_store_163 rfl (lv_at hl 1 rfl) ?_
                  refine fg_RX6_20 hx hb hts hown hW hB dX6_store_164 ?_
                  refine lv_iload_n hx hb dX6_store_167 rfl (lv_at hl 4 rfl) ?_
                  refine sw_za hx hb hW hB (4) (by decide) (eM_4 g ad) (in_mono (a := 8) (out_in c26 (by decide)) (by decide)) dX6_store_168 ?_
                  have k_188 : ∀ (t0_188 : Int32) (t1_188 : Int32) (t2_188 : Int64) (t3_188 : Int32) (ls : Array Slot), vp_in t3_188 56 → lv_has ls 5 [(0, .ref (ad 0)), (2, .int x2)] → F = f_X6_store_188 x2 σ t0_188 t1_188 t2_188 t3_188 → W p l e (rmd 1) s m args below meth c s.heap [] 0 0 (MQ below (sm_Qi g 19 ad (eM g ad) s.heap.size F) args s 0 0 (sm_AX 19 ad s.heap.size)) (F0 m 188 ls [.int t0_188, .int t1_188, .long t2_188, .int t3_188, .ref (ad 0)]) := by
                    intro t0_188 t1_188 t2_188 t3_188 ls hix hl hv
                    refine sw_cvn hv hB (sm_runV (rest := []) hC (c_X6_put l g ad hW.2.1 _ σ t3_188 t2_188 t1_188 t0_188 hix) k_X6_put w_630 (by decide) (sm_pv hW hB (by decide) (eM_0 g ad _) rfl) rfl hl.1 rfl (Nat.le_of_ble_eq_true rfl) dX6_store_188) (fun u188_3 eu188_3 hv H locs hB => ?_)
                    refine lv_aload_n hx hb dX6_store_191 rfl (lv_at hl 0 rfl) ?_
                    refine lv_iload_n hx hb dX6_store_192 rfl (lv_at hl 1 rfl) ?_
                    refine lv_bipush (v := 42) hx hb dX6_store_193 (by decide) ?_
                    refine sw_cvn hv hB (sm_runV (rest := []) hC (c_X6_fix l g ad hW.2.1 _ u188_3 x2 42 (in_mono (a := 8) (out_in c16 (by decide)) (by decide))) k_X6_fix w_696 (by decide) (sm_pv hW hB (by decide) (eM_0 g ad _) rfl) rfl hl.1 rfl (Nat.le_of_ble_eq_true rfl) dX6_store_195) (fun u195_4 eu195_4 hv H locs hB => ?_)
                    refine lv_iconst (v := 0) hx hb dX6_store_198 (by decide) ?_
                    exact sw_ri hx hb hr hlocks hB hv dX6_store_199
                  have k_187 : ∀ (t0_187 : Int32) (t1_187 : Int64) (t2_187 : Int32) (ls : Array Slot), vp_in t2_187 56 → lv_has ls 5 [(0, .ref (ad 0)), (2, .int x2)] → F = f_X6_store_187 x2 σ t0_187 t1_187 t2_187 → W p l e (rmd 1) s m args below meth c s.heap [] 0 0 (MQ below (sm_Qi g 19 ad (eM g ad) s.heap.size F) args s 0 0 (sm_AX 19 ad s.heap.size)) (F0 m 187 ls [.int t0_187, .long t1_187, .int t2_187, .ref (ad 0)]) := by
                    intro t0_187 t1_187 t2_187 ls hix hl hv
                    refine lv_iconst (v := 0) hx hb dX6_store_187 (by decide) ?_
                    exact k_188 0 t0_187 t1_187 t2_187 _ (by first | exact hix | exact ld_in hI (st_in hI (out_in c6 (by decide)) ey46_1 c50) c94 c112) (lv_sub hl [0, 1] rfl) hv
                  refine lv_if_eq (tgt := 187) hx hb dX6_store_169 (by decide) (fun c169 => ?_) (fun c169 => ?_)
                  · have hv := hv.trans (if_pos c169)
                    exact k_187 (σ.1 2 (Int32.toNatClampNeg x3)) (f_X6_stored (σ.1 6 (Int32.toNatClampNeg y46_1)) (σ.2.1 3 (Int32.toNatClampNeg x3))) (((8 : Int32) + (y46_1 * 12)) + (Int64.toInt32 (σ.2.1 3 (Int32.toNatClampNeg x2)))) _ (by first | exact hix | exact ld_in hI (st_in hI (out_in c6 (by decide)) ey46_1 c50) c94 c112) (lv_sub hl [1, 3] rfl) hv
                  · have hv := hv.trans (if_neg c169)
                    refine lv_aload_n hx hb dX6_store_172 rfl (lv_at hl 1 rfl) ?_
                    refine fg_RX6_27 hx hb hts hown hW hB dX6_store_173 ?_
                    refine lv_iload hx hb dX6_store_176 (lv_at hl 0 rfl) ?_
                    refine sw_ia hx hb hW hB (6) (by decide) (eM_6 g ad) (st_in hI (out_in c6 (by decide)) ey46_1 c50) dX6_store_178 ?_
                    refine lv_iconst (v := 3) hx hb dX6_store_179 (by decide) ?_
                    refine lv_icmp_le (tgt := 187) hx hb dX6_store_180 (by decide) (fun c180 => ?_) (fun c180 => ?_)
                    · have hv := hv.trans (if_pos c180)
                      exact k_187 (σ.1 2 (Int32.toNatClampNeg x3)) (f_X6_stored (σ.1 6 (Int32.toNatClampNeg y46_1)) (σ.2.1 3 (Int32.toNatClampNeg x3))) (((8 : Int32) + (y46_1 * 12)) + (Int64.toInt32 (σ.2.1 3 (Int32.toNatClampNeg x2)))) _ (by first | exact hix | exact ld_in hI (st_in hI (out_in c6 (by decide)) ey46_1 c50) c94 c112) (lv_sub hl [1, 3] rfl) hv
                    · have hv := hv.trans (if_neg c180)
                      refine lv_iconst (v := 1) hx hb dX6_store_183 (by decide) ?_
                      refine lv_goto (tgt := 188) hx hb dX6_store_184 (by decide) ?_
                      exact k_188 1 (σ.1 2 (Int32.toNatClampNeg x3)) (f_X6_stored (σ.1 6 (Int32.toNatClampNeg y46_1)) (σ.2.1 3 (Int32.toNatClampNeg x3))) (((8 : Int32) + (y46_1 * 12)) + (Int64.toInt32 (σ.2.1 3 (Int32.toNatClampNeg x2)))) _ (by first | exact hix | exact ld_in hI (st_in hI (out_in c6 (by decide)) ey46_1 c50) c94 c112) (lv_sub hl [1, 3] rfl) hv
                · have hv := hv.trans (if_neg c112)
                  exact k_116 _ (lv_sub hl [1] rfl) hv
            · have hv := hv.trans (if_neg c77)
              refine lv_aload_n hx hb dX6_store_80 rfl (lv_at hl 1 rfl) ?_
              refine lv_bipush (v := -6) hx hb dX6_store_81 (by decide) ?_
              refine sw_cin hv hB (sm_runV (rest := []) hC (c_X6_exception l g ad hW.2.1 _ σ ((-6))) k_X6_exception w_747 (by decide) (sm_pv hW hB (by decide) (eM_0 g ad _) rfl) rfl hl.1 rfl (Nat.le_of_ble_eq_true rfl) dX6_store_83) (fun u83_5 eu83_5 hv H locs hB => ?_)
              exact sw_ri hx hb hr hlocks hB hv dX6_store_86
          · have hv := hv.trans (if_neg c50)
            refine lv_aload_n hx hb dX6_store_53 rfl (lv_at hl 1 rfl) ?_
            refine lv_bipush (v := -3) hx hb dX6_store_54 (by decide) ?_
            refine sw_cin hv hB (sm_runV (rest := []) hC (c_X6_exception l g ad hW.2.1 _ σ ((-3))) k_X6_exception w_747 (by decide) (sm_pv hW hB (by decide) (eM_0 g ad _) rfl) rfl hl.1 rfl (Nat.le_of_ble_eq_true rfl) dX6_store_56) (fun u56_6 eu56_6 hv H locs hB => ?_)
            exact sw_ri hx hb hr hlocks hB hv dX6_store_59
        · have hv := hv.trans (if_neg c35)
          refine lv_iconst (v := -1) hx hb dX6_store_38 (by decide) ?_
          exact sw_ri hx hb hr hlocks hB hv dX6_store_39
def f_X6_length (σ : sm_S) (x1 : Int32) (x2 : Int32) : Int32 × sm_S := if (f_X6_out x1 8) = 0 then (if (f_X6_out x2 4) = 0 then (if 0 ≤ (σ.1 5 (Int32.toNatClampNeg x2)) then (sm_let (f_X6_put (uI σ 1 (Int32.toNatClampNeg x1) 0) x1 (Int32.toInt64 ((uI σ 1 (Int32.toNatClampNeg x1) 0).1 7 (Int32.toNatClampNeg ((uI σ 1 (Int32.toNatClampNeg x1) 0).1 5 (Int32.toNatClampNeg x2))))) 0 1) (fun u60_1 => (0, u60_1))) else (sm_let (f_X6_exception σ ((-3))) (fun u33_2 => (u33_2.1, u33_2.2)))) else (((-1), σ))) else (((-1), σ))
set_option maxRecDepth 100000 in
set_option maxHeartbeats 4000000 in
theorem c_X6_length (l : Launch) (g : sm_G) (ad : Nat → Nat) (hj : sm_inj 19 ad) (sz : Nat) (σ : sm_S) (x1 : Int32) (x2 : Int32)  (hI : invM σ) : Met l yX6_length (sm_ws yX6_length cX6_length 3 (some .int)) (rmd 1) (va_Pc [.ref (ad 0), .int x1, .int x2] (sm_Pre g 19 ad (eM g ad) σ sz)) (sm_Qi g 19 ad (eM g ad) sz (f_X6_length σ x1 x2)) 0 0 (sm_AX 19 ad sz) := by
  generalize hv : f_X6_length σ x1 x2 = F
  replace hv := hv.symm
  refine sm_mWi (by decide) (Nat.le_of_ble_eq_true rfl) hj (eM_lay g ad) (fun p e s m args below meth c C hW hB ls hl => ?_)
  obtain ⟨hC, hr, hlocks⟩ := C
  have hx := hC.1
  have hb := hC.2.1
  have hts := hC.2.2.2.2
  have hown : s.vm.findClass RX6 = some m.cls := hC.2.2.2.1
  have hl : lv_has ls 3 [(0, .ref (ad 0)), (1, .int x1), (2, .int x2)] := hl
  refine lv_aload_n hx hb dX6_length_0 rfl (lv_at hl 0 rfl) ?_
  refine lv_iload_n hx hb dX6_length_1 rfl (lv_at hl 1 rfl) ?_
  refine lv_bipush (v := 8) hx hb dX6_length_2 (by decide) ?_
  refine sm_ci (sm_runV (rest := []) hC (c_X6_out l g ad hW.2.1 _ x1 8 σ) k_X6_out w_598 (by decide) (sm_pv hW hB (by decide) (eM_0 g ad _) rfl) rfl hl.1 rfl (Nat.le_of_ble_eq_true rfl) dX6_length_4) ?_
  refine lv_if_ne (tgt := 19) hx hb dX6_length_7 (by decide) (fun c7 => ?_) (fun c7 => ?_)
  · have hv := hv.trans (if_neg c7)
    refine lv_iconst (v := -1) hx hb dX6_length_19 (by decide) ?_
    exact sw_ri hx hb hr hlocks hB hv dX6_length_20
  · have hv := hv.trans (if_pos c7)
    refine lv_aload_n hx hb dX6_length_10 rfl (lv_at hl 0 rfl) ?_
    refine lv_iload_n hx hb dX6_length_11 rfl (lv_at hl 2 rfl) ?_
    refine lv_iconst (v := 4) hx hb dX6_length_12 (by decide) ?_
    refine sm_ci (sm_runV (rest := []) hC (c_X6_out l g ad hW.2.1 _ x2 4 σ) k_X6_out w_598 (by decide) (sm_pv hW hB (by decide) (eM_0 g ad _) rfl) rfl hl.1 rfl (Nat.le_of_ble_eq_true rfl) dX6_length_13) ?_
    refine lv_if_eq (tgt := 21) hx hb dX6_length_16 (by decide) (fun c16 => ?_) (fun c16 => ?_)
    · have hv := hv.trans (if_pos c16)
      refine lv_aload_n hx hb dX6_length_21 rfl (lv_at hl 0 rfl) ?_
      refine fg_RX6_24 hx hb hts hown hW hB dX6_length_22 ?_
      refine lv_iload_n hx hb dX6_length_25 rfl (lv_at hl 2 rfl) ?_
      refine sw_ia hx hb hW hB (5) (by decide) (eM_5 g ad) (out_in c16 (by decide)) dX6_length_26 ?_
      refine lv_if_ge (tgt := 37) hx hb dX6_length_27 (by decide) (fun c27 => ?_) (fun c27 => ?_)
      · have hv := hv.trans (if_pos c27)
        refine lv_aload_n hx hb dX6_length_37 rfl (lv_at hl 0 rfl) ?_
        refine fg_RX6_7 hx hb hts hown hW hB dX6_length_38 ?_
        refine lv_iload_n hx hb dX6_length_41 rfl (lv_at hl 1 rfl) ?_
        refine lv_iconst (v := 0) hx hb dX6_length_42 (by decide) ?_
        refine sw_is hx hb hW hB (1) (by decide) (eM_1 g ad) (out_in c7 (by decide)) dX6_length_43 (fun H locs hB => ?_)
        refine lv_aload_n hx hb dX6_length_44 rfl (lv_at hl 0 rfl) ?_
        refine lv_iload_n hx hb dX6_length_45 rfl (lv_at hl 1 rfl) ?_
        refine lv_aload_n hx hb dX6_length_46 rfl (lv_at hl 0 rfl) ?_
        refine fg_RX6_30 hx hb hts hown hW hB dX6_length_47 ?_
        refine lv_aload_n hx hb dX6_length_50 rfl (lv_at hl 0 rfl) ?_
        refine fg_RX6_24 hx hb hts hown hW hB dX6_length_51 ?_
        refine lv_iload_n hx hb dX6_length_54 rfl (lv_at hl 2 rfl) ?_
        refine sw_ia hx hb hW hB (5) (by decide) (eM_5 g ad) (out_in c16 (by decide)) dX6_length_55 ?_
        refine sw_ia hx hb hW hB (7) (by decide) (eM_7 g ad) (show vp_in (σ.1 5 (Int32.toNatClampNeg x2)) 4 from st_in hI (out_in c16 (by decide)) rfl c27) dX6_length_56 ?_
        refine lv_i2l hx hb dX6_length_57 rfl ?_
        refine lv_iconst (v := 0) hx hb dX6_length_58 (by decide) ?_
        refine lv_iconst (v := 1) hx hb dX6_length_59 (by decide) ?_
        refine sw_cvn hv hB (sm_runV (rest := []) hC (c_X6_put l g ad hW.2.1 _ (uI σ 1 (Int32.toNatClampNeg x1) 0) x1 (Int32.toInt64 ((uI σ 1 (Int32.toNatClampNeg x1) 0).1 7 (Int32.toNatClampNeg ((uI σ 1 (Int32.toNatClampNeg x1) 0).1 5 (Int32.toNatClampNeg x2))))) 0 1 (in_mono (a := 8) (out_in c7 (by decide)) (by decide))) k_X6_put w_630 (by decide) (sm_pv hW hB (by decide) (eM_0 g ad _) rfl) rfl hl.1 rfl (Nat.le_of_ble_eq_true rfl) dX6_length_60) (fun u60_1 eu60_1 hv H locs hB => ?_)
        refine lv_iconst (v := 0) hx hb dX6_length_63 (by decide) ?_
        exact sw_ri hx hb hr hlocks hB hv dX6_length_64
      · have hv := hv.trans (if_neg c27)
        refine lv_aload_n hx hb dX6_length_30 rfl (lv_at hl 0 rfl) ?_
        refine lv_bipush (v := -3) hx hb dX6_length_31 (by decide) ?_
        refine sw_cin hv hB (sm_runV (rest := []) hC (c_X6_exception l g ad hW.2.1 _ σ ((-3))) k_X6_exception w_747 (by decide) (sm_pv hW hB (by decide) (eM_0 g ad _) rfl) rfl hl.1 rfl (Nat.le_of_ble_eq_true rfl) dX6_length_33) (fun u33_2 eu33_2 hv H locs hB => ?_)
        exact sw_ri hx hb hr hlocks hB hv dX6_length_36
    · have hv := hv.trans (if_neg c16)
      refine lv_iconst (v := -1) hx hb dX6_length_19 (by decide) ?_
      exact sw_ri hx hb hr hlocks hB hv dX6_length_20
def f_X6_copy_46 (σ : sm_S) : Int32 × sm_S := sm_let (f_X6_exception σ ((-3))) (fun u49_3 => (u49_3.1, u49_3.2))
def f_X6_copy_128 (σ : sm_S) : Int32 × sm_S := sm_let (f_X6_exception σ ((-4))) (fun u131_4 => (u131_4.1, u131_4.2))
def f_X6_copy_283 (K_225 : sm_S → Int32 → Int32 × sm_S) (x4 : Int32) (x5 : Int32) (y34_2 : Int32) (v8_225 : Int32) (σ : sm_S) (t0_283 : Int32) (t1_283 : Int32) (t2_283 : Int64) (t3_283 : Int32) : Int32 × sm_S := sm_let (f_X6_put σ t3_283 t2_283 t1_283 t0_283) (fun u283_5 => sm_let (v8_225 + 1) (fun y286_6 => K_225 u283_5 y286_6))
def f_X6_copy_225 : Nat → Int32 → Int32 → Int32 → sm_S → Int32 → Int32 × sm_S
  | 0, _, _, _, _, _ => default
  | n + 1, x4, x5, y34_2, σ, v8_225 => if x5 ≤ v8_225 then ((0, σ)) else (if (σ.1 13 (Int32.toNatClampNeg (((2 : Int32) * v8_225) + 1))) = 1 then (f_X6_copy_283 (fun σ v8_225 => f_X6_copy_225 n x4 x5 y34_2 σ v8_225) x4 x5 y34_2 v8_225 σ 1 (σ.1 13 (Int32.toNatClampNeg ((2 : Int32) * v8_225))) (σ.2.1 14 (Int32.toNatClampNeg v8_225)) ((((8 : Int32) + (y34_2 * 12)) + x4) + v8_225)) else (f_X6_copy_283 (fun σ v8_225 => f_X6_copy_225 n x4 x5 y34_2 σ v8_225) x4 x5 y34_2 v8_225 σ 0 (σ.1 13 (Int32.toNatClampNeg ((2 : Int32) * v8_225))) (σ.2.1 14 (Int32.toNatClampNeg v8_225)) ((((8 : Int32) + (y34_2 * 12)) + x4) + v8_225)))
def f_X6_copy_215 (K_138 : sm_S → Int32 → Int32 × sm_S) (x2 : Int32) (x4 : Int32) (x5 : Int32) (y26_1 : Int32) (y34_2 : Int32) (v8_138 : Int32) (σ : sm_S) (t0_215 : Int32) (t1_215 : Int32) : Int32 × sm_S := sm_let (v8_138 + 1) (fun y216_8 => K_138 (uI σ 13 (Int32.toNatClampNeg t1_215) t0_215) y216_8)
def f_X6_copy_138 : Nat → Int32 → Int32 → Int32 → Int32 → Int32 → sm_S → Int32 → Int32 × sm_S
  | 0, _, _, _, _, _, _, _ => default
  | n + 1, x2, x4, x5, y26_1, y34_2, σ, v8_138 => if x5 ≤ v8_138 then (f_X6_copy_225 ((Int32.toInt x5 - Int32.toInt 0).toNat + 1) x4 x5 y34_2 σ 0) else (sm_let ((((8 : Int32) + (y26_1 * 12)) + x2) + v8_138) (fun y158_7 => if ((uI (uL σ 14 (Int32.toNatClampNeg v8_138) (σ.2.1 3 (Int32.toNatClampNeg y158_7))) 13 (Int32.toNatClampNeg ((2 : Int32) * v8_138)) ((uL σ 14 (Int32.toNatClampNeg v8_138) (σ.2.1 3 (Int32.toNatClampNeg y158_7))).1 2 (Int32.toNatClampNeg y158_7))).1 4 (Int32.toNatClampNeg y158_7)) = 0 then (f_X6_copy_215 (fun σ v8_138 => f_X6_copy_138 n x2 x4 x5 y26_1 y34_2 σ v8_138) x2 x4 x5 y26_1 y34_2 v8_138 (uI (uL σ 14 (Int32.toNatClampNeg v8_138) (σ.2.1 3 (Int32.toNatClampNeg y158_7))) 13 (Int32.toNatClampNeg ((2 : Int32) * v8_138)) ((uL σ 14 (Int32.toNatClampNeg v8_138) (σ.2.1 3 (Int32.toNatClampNeg y158_7))).1 2 (Int32.toNatClampNeg y158_7))) 0 (((2 : Int32) * v8_138) + 1)) else (f_X6_copy_215 (fun σ v8_138 => f_X6_copy_138 n x2 x4 x5 y26_1 y34_2 σ v8_138) x2 x4 x5 y26_1 y34_2 v8_138 (uI (uL σ 14 (Int32.toNatClampNeg v8_138) (σ.2.1 3 (Int32.toNatClampNeg y158_7))) 13 (Int32.toNatClampNeg ((2 : Int32) * v8_138)) ((uL σ 14 (Int32.toNatClampNeg v8_138) (σ.2.1 3 (Int32.toNatClampNeg y158_7))).1 2 (Int32.toNatClampNeg y158_7))) 1 (((2 : Int32) * v8_138) + 1))))
def f_X6_copy (σ : sm_S) (x1 : Int32) (x2 : Int32) (x3 : Int32) (x4 : Int32) (x5 : Int32) : Int32 × sm_S := if (f_X6_out x1 4) = 0 then (if (f_X6_out x3 4) = 0 then (sm_let (σ.1 5 (Int32.toNatClampNeg x1)) (fun y26_1 => sm_let (σ.1 5 (Int32.toNatClampNeg x3)) (fun y34_2 => if y26_1 < 0 then (f_X6_copy_46 σ) else (if 0 ≤ y34_2 then (if (σ.1 6 (Int32.toNatClampNeg y26_1)) = (σ.1 6 (Int32.toNatClampNeg y34_2)) then (if x5 < 0 then (f_X6_copy_128 σ) else (if x2 < 0 then (f_X6_copy_128 σ) else (if x4 < 0 then (f_X6_copy_128 σ) else (if (Int32.toInt64 (σ.1 7 (Int32.toNatClampNeg y26_1))) < ((Int32.toInt64 x2) + (Int32.toInt64 x5)) then (f_X6_copy_128 σ) else (if ((Int32.toInt64 x4) + (Int32.toInt64 x5)) ≤ (Int32.toInt64 (σ.1 7 (Int32.toNatClampNeg y34_2))) then (f_X6_copy_138 ((Int32.toInt x5 - Int32.toInt 0).toNat + 1) x2 x4 x5 y26_1 y34_2 σ 0) else (f_X6_copy_128 σ)))))) else (sm_let (f_X6_exception σ ((-6))) (fun u73_9 => (u73_9.1, u73_9.2)))) else (f_X6_copy_46 σ))))) else (((-1), σ))) else (((-1), σ))
set_option maxRecDepth 100000 in
set_option maxHeartbeats 4000000 in
theorem c_X6_copy (l : Launch) (g : sm_G) (ad : Nat → Nat) (hj : sm_inj 19 ad) (sz : Nat) (σ : sm_S) (x1 : Int32) (x2 : Int32) (x3 : Int32) (x4 : Int32) (x5 : Int32)  (hI : invM σ) : Met l yX6_copy (sm_ws yX6_copy cX6_copy 10 (some .int)) (rmd 1) (va_Pc [.ref (ad 0), .int x1, .int x2, .int x3, .int x4, .int x5] (sm_Pre g 19 ad (eM g ad) σ sz)) (sm_Qi g 19 ad (eM g ad) sz (f_X6_copy σ x1 x2 x3 x4 x5)) 0 0 (sm_AX 19 ad sz) := by
  generalize hv : f_X6_copy σ x1 x2 x3 x4 x5 = F
  replace hv := hv.symm
  refine sm_mWi (by decide) (Nat.le_of_ble_eq_true rfl) hj (eM_lay g ad) (fun p e s m args below meth c C hW hB ls hl => ?_)
  obtain ⟨hC, hr, hlocks⟩ := C
  have hx := hC.1
  have hb := hC.2.1
  have hts := hC.2.2.2.2
  have hown : s.vm.findClass RX6 = some m.cls := hC.2.2.2.1
  have hl : lv_has ls 10 [(0, .ref (ad 0)), (1, .int x1), (2, .int x2), (3, .int x3), (4, .int x4), (5, .int x5)] := hl
  refine lv_aload_n hx hb dX6_copy_0 rfl (lv_at hl 0 rfl) ?_
  refine lv_iload_n hx hb dX6_copy_1 rfl (lv_at hl 1 rfl) ?_
  refine lv_iconst (v := 4) hx hb dX6_copy_2 (by decide) ?_
  refine sm_ci (sm_runV (rest := []) hC (c_X6_out l g ad hW.2.1 _ x1 4 σ) k_X6_out w_598 (by decide) (sm_pv hW hB (by decide) (eM_0 g ad _) rfl) rfl hl.1 rfl (Nat.le_of_ble_eq_true rfl) dX6_copy_3) ?_
  refine lv_if_ne (tgt := 18) hx hb dX6_copy_6 (by decide) (fun c6 => ?_) (fun c6 => ?_)
  · have hv := hv.trans (if_neg c6)
    refine lv_iconst (v := -1) hx hb dX6_copy_18 (by decide) ?_
    exact sw_ri hx hb hr hlocks hB hv dX6_copy_19
  · have hv := hv.trans (if_pos c6)
    refine lv_aload_n hx hb dX6_copy_9 rfl (lv_at hl 0 rfl) ?_
    refine lv_iload_n hx hb dX6_copy_10 rfl (lv_at hl 3 rfl) ?_
    refine lv_iconst (v := 4) hx hb dX6_copy_11 (by decide) ?_
    refine sm_ci (sm_runV (rest := []) hC (c_X6_out l g ad hW.2.1 _ x3 4 σ) k_X6_out w_598 (by decide) (sm_pv hW hB (by decide) (eM_0 g ad _) rfl) rfl hl.1 rfl (Nat.le_of_ble_eq_true rfl) dX6_copy_12) ?_
    refine lv_if_eq (tgt := 20) hx hb dX6_copy_15 (by decide) (fun c15 => ?_) (fun c15 => ?_)
    · have hv := hv.trans (if_pos c15)
      refine lv_aload_n hx hb dX6_copy_20 rfl (lv_at hl 0 rfl) ?_
      refine fg_RX6_24 hx hb hts hown hW hB dX6_copy_21 ?_
      refine lv_iload_n hx hb dX6_copy_24 rfl (lv_at hl 1 rfl) ?_
      refine sw_ia hx hb hW hB (5) (by decide) (eM_5 g ad) (out_in c6 (by decide)) dX6_copy_25 ?_
      refine sm_nmi hv (fun y26_1 ey26_1 hv => ?_)
      refine lv_istore (lv' := [(6, .int y26_1), (0, .ref (ad 0)), (1, .int x1), (2, .int x2), (3, .int x3), (4, .int x4), (5, .int x5)]) hx hb dX6_copy_26 hl (by decide) rfl (fun ls hl => ?_)
      refine lv_aload_n hx hb dX6_copy_28 rfl (lv_at hl 1 rfl) ?_
      refine fg_RX6_24 hx hb hts hown hW hB dX6_copy_29 ?_
      refine lv_iload_n hx hb dX6_copy_32 rfl (lv_at hl 4 rfl) ?_
      refine sw_ia hx hb hW hB (5) (by decide) (eM_5 g ad) (out_in c15 (by decide)) dX6_copy_33 ?_
      refine sm_nmi hv (fun y34_2 ey34_2 hv => ?_)
      refine lv_istore (lv' := [(7, .int y34_2), (6, .int y26_1), (0, .ref (ad 0)), (1, .int x1), (2, .int x2), (3, .int x3), (4, .int x4), (5, .int x5)]) hx hb dX6_copy_34 hl (by decide) rfl (fun ls hl => ?_)
      refine lv_iload hx hb dX6_copy_36 (lv_at hl 1 rfl) ?_
      have k_46 : ∀  (ls : Array Slot), lv_has ls 10 [(0, .ref (ad 0))] → F = f_X6_copy_46 σ → W p l e (rmd 1) s m args below meth c s.heap [] 0 0 (MQ below (sm_Qi g 19 ad (eM g ad) s.heap.size F) args s 0 0 (sm_AX 19 ad s.heap.size)) (F0 m 46 ls []) := by
        intro ls hl hv
        refine lv_aload_n hx hb dX6_copy_46 rfl (lv_at hl 0 rfl) ?_
        refine lv_bipush (v := -3) hx hb dX6_copy_47 (by decide) ?_
        refine sw_cin hv hB (sm_runV (rest := []) hC (c_X6_exception l g ad hW.2.1 _ σ ((-3))) k_X6_exception w_747 (by decide) (sm_pv hW hB (by decide) (eM_0 g ad _) rfl) rfl hl.1 rfl (Nat.le_of_ble_eq_true rfl) dX6_copy_49) (fun u49_3 eu49_3 hv H locs hB => ?_)
        exact sw_ri hx hb hr hlocks hB hv dX6_copy_52
      refine lv_if_lt (tgt := 46) hx hb dX6_copy_38 (by decide) (fun c38 => ?_) (fun c38 => ?_)
      · have hv := hv.trans (if_pos c38)
        exact k_46 _ (lv_sub hl [2] rfl) hv
      · have hv := hv.trans (if_neg c38)
        refine lv_iload hx hb dX6_copy_41 (lv_at hl 0 rfl) ?_
        refine lv_if_ge (tgt := 53) hx hb dX6_copy_43 (by decide) (fun c43 => ?_) (fun c43 => ?_)
        · have hv := hv.trans (if_pos c43)
          refine lv_aload_n hx hb dX6_copy_53 rfl (lv_at hl 2 rfl) ?_
          refine fg_RX6_27 hx hb hts hown hW hB dX6_copy_54 ?_
          refine lv_iload hx hb dX6_copy_57 (lv_at hl 1 rfl) ?_
          refine sw_ia hx hb hW hB (6) (by decide) (eM_6 g ad) (st_inN hI (out_in c6 (by decide)) ey26_1 c38) dX6_copy_59 ?_
          refine lv_aload_n hx hb dX6_copy_60 rfl (lv_at hl 2 rfl) ?_
          refine fg_RX6_27 hx hb hts hown hW hB dX6_copy_61 ?_
          refine lv_iload hx hb dX6_copy_64 (lv_at hl 0 rfl) ?_
          refine sw_ia hx hb hW hB (6) (by decide) (eM_6 g ad) (st_in hI (out_in c15 (by decide)) ey34_2 c43) dX6_copy_66 ?_
          refine lv_icmp_eq (tgt := 77) hx hb dX6_copy_67 (by decide) (fun c67 => ?_) (fun c67 => ?_)
          · have hv := hv.trans (if_pos c67)
            refine lv_iload hx hb dX6_copy_77 (lv_at hl 7 rfl) ?_
            have k_128 : ∀  (ls : Array Slot), lv_has ls 10 [(0, .ref (ad 0))] → F = f_X6_copy_128 σ → W p l e (rmd 1) s m args below meth c s.heap [] 0 0 (MQ below (sm_Qi g 19 ad (eM g ad) s.heap.size F) args s 0 0 (sm_AX 19 ad s.heap.size)) (F0 m 128 ls []) := by
              intro ls hl hv
              refine lv_aload_n hx hb dX6_copy_128 rfl (lv_at hl 0 rfl) ?_
              refine lv_bipush (v := -4) hx hb dX6_copy_129 (by decide) ?_
              refine sw_cin hv hB (sm_runV (rest := []) hC (c_X6_exception l g ad hW.2.1 _ σ ((-4))) k_X6_exception w_747 (by decide) (sm_pv hW hB (by decide) (eM_0 g ad _) rfl) rfl hl.1 rfl (Nat.le_of_ble_eq_true rfl) dX6_copy_131) (fun u131_4 eu131_4 hv H locs hB => ?_)
              exact sw_ri hx hb hr hlocks hB hv dX6_copy_134
            refine lv_if_lt (tgt := 128) hx hb dX6_copy_79 (by decide) (fun c79 => ?_) (fun c79 => ?_)
            · have hv := hv.trans (if_pos c79)
              exact k_128 _ (lv_sub hl [2] rfl) hv
            · have hv := hv.trans (if_neg c79)
              refine lv_iload_n hx hb dX6_copy_82 rfl (lv_at hl 4 rfl) ?_
              refine lv_if_lt (tgt := 128) hx hb dX6_copy_83 (by decide) (fun c83 => ?_) (fun c83 => ?_)
              · have hv := hv.trans (if_pos c83)
                exact k_128 _ (lv_sub hl [2] rfl) hv
              · have hv := hv.trans (if_neg c83)
                refine lv_iload hx hb dX6_copy_86 (lv_at hl 6 rfl) ?_
                refine lv_if_lt (tgt := 128) hx hb dX6_copy_88 (by decide) (fun c88 => ?_) (fun c88 => ?_)
                · have hv := hv.trans (if_pos c88)
                  exact k_128 _ (lv_sub hl [2] rfl) hv
                · have hv := hv.trans (if_neg c88)
                  refine lv_iload_n hx hb dX6_copy_91 rfl (lv_at hl 4 rfl) ?_
                  refine lv_i2l hx hb dX6_copy_92 rfl ?_
                  refine lv_iload hx hb dX6_copy_93 (lv_at hl 7 rfl) ?_
                  refine lv_i2l hx hb dX6_copy_95 rfl ?_
                  refine lv_ladd hx hb dX6_copy_96 ?_
                  refine lv_aload_n hx hb dX6_copy_97 rfl (lv_at hl 2 rfl) ?_
                  refine fg_RX6_30 hx hb hts hown hW hB dX6_copy_98 ?_
                  refine lv_iload hx hb dX6_copy_101 (lv_at hl 1 rfl) ?_
                  refine sw_ia hx hb hW hB (7) (by decide) (eM_7 g ad) (st_inN hI (out_in c6 (by decide)) ey26_1 c38) dX6_copy_103 ?_
                  refine lv_i2l hx hb dX6_copy_104 rfl ?_
                  refine lc_gt (tgt := 128) hx hb dX6_copy_105 dX6_copy_106 (by decide) (fun c105 => ?_) (fun c105 => ?_)
                  · have hv := hv.trans (if_pos c105)
                    exact k_128 _ (lv_sub hl [2] rfl) hv
                  · have hv := hv.trans (if_neg c105)
                    refine lv_iload hx hb dX6_copy_109 (lv_at hl 6 rfl) ?_
                    refine lv_i2l hx hb dX6_copy_111 rfl ?_
                    refine lv_iload hx hb dX6_copy_112 (lv_at hl 7 rfl) ?_
                    refine lv_i2l hx hb dX6_copy_114 rfl ?_
                    refine lv_ladd hx hb dX6_copy_115 ?_
                    refine lv_aload_n hx hb dX6_copy_116 rfl (lv_at hl 2 rfl) ?_
                    refine fg_RX6_30 hx hb hts hown hW hB dX6_copy_117 ?_
                    refine lv_iload hx hb dX6_copy_120 (lv_at hl 0 rfl) ?_
                    refine sw_ia hx hb hW hB (7) (by decide) (eM_7 g ad) (st_in hI (out_in c15 (by decide)) ey34_2 c43) dX6_copy_122 ?_
                    refine lv_i2l hx hb dX6_copy_123 rfl ?_
                    refine lc_le (tgt := 135) hx hb dX6_copy_124 dX6_copy_125 (by decide) (fun c124 => ?_) (fun c124 => ?_)
                    · have hv := hv.trans (if_pos c124)
                      refine lv_iconst (v := 0) hx hb dX6_copy_135 (by decide) ?_
                      have k_138 : ∀ (n : Nat) (v8_138 : Int32) (σ : sm_S) (ls : Array Slot) (H : Heap) (locs : List Loc), ¬ v8_138 < 0 → (Int32.toInt x5 - Int32.toInt v8_138).toNat < n → lv_has ls 10 [(0, .ref (ad 0)), (2, .int x2), (4, .int x4), (5, .int x5), (6, .int y26_1), (7, .int y34_2), (8, .int v8_138)] → sm_B g 19 ad (eM g ad) s H locs σ → F = f_X6_copy_138 n x2 x4 x5 y26_1 y34_2 σ v8_138 → W p l e (rmd 1) s m args below meth c H locs 0 0 (MQ below (sm_Qi g 19 ad (eM g ad) s.heap.size F) args s 0 0 (sm_AX 19 ad s.heap.size)) (F0 m 138 ls []) := by
                        intro n
                        induction n with
                        | zero =>
                          intro v8_138 σ ls H locs i0 hme hl hB hv
                          exact absurd hme (Nat.not_lt_zero _)
                        | succ n ih =>
                          intro v8_138 σ ls H locs i0 hme hl hB hv
                          refine lv_iload hx hb dX6_copy_138 (lv_at hl 6 rfl) ?_
                          refine lv_iload hx hb dX6_copy_140 (lv_at hl 3 rfl) ?_
                          refine lv_icmp_ge (tgt := 222) hx hb dX6_copy_142 (by decide) (fun c142 => ?_) (fun c142 => ?_)
                          · have hv := hv.trans (if_pos c142)
                            refine lv_iconst (v := 0) hx hb dX6_copy_222 (by decide) ?_
                            have k_225 : ∀ (n : Nat) (v8_225 : Int32) (σ : sm_S) (ls : Array Slot) (H : Heap) (locs : List Loc), ¬ v8_225 < 0 → (Int32.toInt x5 - Int32.toInt v8_225).toNat < n → lv_has ls 10 [(0, .ref (ad 0)), (4, .int x4), (5, .int x5), (7, .int y34_2), (8, .int v8_225)] → sm_B g 19 ad (eM g ad) s H locs σ → F = f_X6_copy_225 n x4 x5 y34_2 σ v8_225 → W p l e (rmd 1) s m args below meth c H locs 0 0 (MQ below (sm_Qi g 19 ad (eM g ad) s.heap.size F) args s 0 0 (sm_AX 19 ad s.heap.size)) (F0 m 225 ls []) := by
                              intro n
                              induction n with
                              | zero =>
                                intro v8_225 σ ls H locs i0 hme hl hB hv
                                exact absurd hme (Nat.not_lt_zero _)
                              | succ n ih =>
                                intro v8_225 σ ls H locs i0 hme hl hB hv
                                refine lv_iload hx hb dX6_copy_225 (lv_at hl 4 rfl) ?_
                                refine lv_iload hx hb dX6_copy_227 (lv_at hl 2 rfl) ?_
                                refine lv_icmp_ge (tgt := 292) hx hb dX6_copy_229 (by decide) (fun c229 => ?_) (fun c229 => ?_)
                                · have hv := hv.trans (if_pos c229)
                                  refine lv_iconst (v := 0) hx hb dX6_copy_292 (by decide) ?_
                                  exact sw_ri hx hb hr hlocks hB hv dX6_copy_293
                                · have hv := hv.trans (if_neg c229)
                                  refine lv_aload_n hx hb dX6_copy_232 rfl (lv_at hl 0 rfl) ?_
                                  refine lv_bipush (v := 8) hx hb dX6_copy_233 (by decide) ?_
                                  refine lv_iload hx hb dX6_copy_235 (lv_at hl 3 rfl) ?_
                                  refine lv_bipush (v := 12) hx hb dX6_copy_237 (by decide) ?_
                                  refine lv_imul hx hb dX6_copy_239 ?_
                                  refine lv_iadd hx hb dX6_copy_240 ?_
                                  refine lv_iload hx hb dX6_copy_241 (lv_at hl 1 rfl) ?_
                                  refine lv_iadd hx hb dX6_copy_243 ?_
                                  refine lv_iload hx hb dX6_copy_244 (lv_at hl 4 rfl) ?_
                                  refine lv_iadd hx hb dX6_copy_246 ?_
                                  refine lv_aload_n hx hb dX6_copy_247 rfl (lv_at hl 0 rfl) ?_
                                  refine fg_RX6_61 hx hb hts hown hW hB dX6_copy_248 ?_
                                  refine lv_iload hx hb dX6_copy_251 (lv_at hl 4 rfl) ?_
                                  refine sw_la hx hb hW hB (14) (by decide) (eM_14 g ad) (cp_in2 hI (st_in hI (out_in c15 (by decide)) ey34_2 c43) c79 c88 c124 i0 c229).1 dX6_copy_253 ?_
                                  refine lv_aload_n hx hb dX6_copy_254 rfl (lv_at hl 0 rfl) ?_
                                  refine fg_RX6_58 hx hb hts hown hW hB dX6_copy_255 ?_
                                  refine lv_iconst (v := 2) hx hb dX6_copy_258 (by decide) ?_
                                  refine lv_iload hx hb dX6_copy_259 (lv_at hl 4 rfl) ?_
                                  refine lv_imul hx hb dX6_copy_261 ?_
                                  refine sw_ia hx hb hW hB (13) (by decide) (eM_13 g ad) (cp_in2 hI (st_in hI (out_in c15 (by decide)) ey34_2 c43) c79 c88 c124 i0 c229).2.1 dX6_copy_262 ?_
                                  refine lv_aload_n hx hb dX6_copy_263 rfl (lv_at hl 0 rfl) ?_
                                  refine fg_RX6_58 hx hb hts hown hW hB dX6_copy_264 ?_
                                  refine lv_iconst (v := 2) hx hb dX6_copy_267 (by decide) ?_
                                  refine lv_iload hx hb dX6_copy_268 (lv_at hl 4 rfl) ?_
                                  refine lv_imul hx hb dX6_copy_270 ?_
                                  refine lv_iconst (v := 1) hx hb dX6_copy_271 (by decide) ?_
                                  refine lv_iadd hx hb dX6_copy_272 ?_
                                  refine sw_ia hx hb hW hB (13) (by decide) (eM_13 g ad) (cp_in2 hI (st_in hI (out_in c15 (by decide)) ey34_2 c43) c79 c88 c124 i0 c229).2.2.1 dX6_copy_273 ?_
                                  refine lv_iconst (v := 1) hx hb dX6_copy_274 (by decide) ?_
                                  have k_283 : ∀ (t0_283 : Int32) (t1_283 : Int32) (t2_283 : Int64) (t3_283 : Int32) (ls : Array Slot), vp_in t3_283 56 → lv_has ls 10 [(0, .ref (ad 0)), (4, .int x4), (5, .int x5), (7, .int y34_2), (8, .int v8_225)] → F = f_X6_copy_283 (fun σ v8_225 => f_X6_copy_225 n x4 x5 y34_2 σ v8_225) x4 x5 y34_2 v8_225 σ t0_283 t1_283 t2_283 t3_283 → W p l e (rmd 1) s m args below meth c H locs 0 0 (MQ below (sm_Qi g 19 ad (eM g ad) s.heap.size F) args s 0 0 (sm_AX 19 ad s.heap.size)) (F0 m 283 ls [.int t0_283, .int t1_283, .long t2_283, .int t3_283, .ref (ad 0)]) := by
                                    intro t0_283 t1_283 t2_283 t3_283 ls hix hl hv
                                    refine sw_cvn hv hB (sm_runV (rest := []) hC (c_X6_put l g ad hW.2.1 _ σ t3_283 t2_283 t1_283 t0_283 hix) k_X6_put w_630 (by decide) (sm_pv hW hB (by decide) (eM_0 g ad _) rfl) rfl hl.1 rfl (Nat.le_of_ble_eq_true rfl) dX6_copy_283) (fun u283_5 eu283_5 hv H locs hB => ?_)
                                    obtain ⟨y286_6, ey286_6, hv⟩ := sm_lt hv
                                    refine lv_iinc (v := y286_6) (lv' := [(8, .int y286_6), (0, .ref (ad 0)), (4, .int x4), (5, .int x5), (7, .int y34_2)]) hx hb dX6_copy_286 hl (k := 4) rfl (by rw [ey286_6]; rfl) (by decide) rfl (fun ls hl => ?_)
                                    refine lv_goto (tgt := 225) hx hb dX6_copy_289 (by decide) ?_
                                    exact ih y286_6 u283_5 _ _ _ (by rw [ey286_6]; exact nn_inc i0 c229) (by rw [ey286_6]; exact Nat.lt_of_lt_of_le (me_inc c229) (Nat.le_of_lt_succ hme)) (lv_sub hl [1, 2, 3, 4, 0] rfl) hB hv
                                  refine lv_icmp_ne (tgt := 282) hx hb dX6_copy_275 (by decide) (fun c275 => ?_) (fun c275 => ?_)
                                  · have hv := hv.trans (if_neg c275)
                                    refine lv_iconst (v := 0) hx hb dX6_copy_282 (by decide) ?_
                                    exact k_283 0 (σ.1 13 (Int32.toNatClampNeg ((2 : Int32) * v8_225))) (σ.2.1 14 (Int32.toNatClampNeg v8_225)) ((((8 : Int32) + (y34_2 * 12)) + x4) + v8_225) _ (by first | exact hix | exact (cp_in2 hI (st_in hI (out_in c15 (by decide)) ey34_2 c43) c79 c88 c124 i0 c229).2.2.2) (lv_sub hl [0, 1, 2, 3, 4] rfl) hv
                                  · have hv := hv.trans (if_pos c275)
                                    refine lv_iconst (v := 1) hx hb dX6_copy_278 (by decide) ?_
                                    refine lv_goto (tgt := 283) hx hb dX6_copy_279 (by decide) ?_
                                    exact k_283 1 (σ.1 13 (Int32.toNatClampNeg ((2 : Int32) * v8_225))) (σ.2.1 14 (Int32.toNatClampNeg v8_225)) ((((8 : Int32) + (y34_2 * 12)) + x4) + v8_225) _ (by first | exact hix | exact (cp_in2 hI (st_in hI (out_in c15 (by decide)) ey34_2 c43) c79 c88 c124 i0 c229).2.2.2) (lv_sub hl [0, 1, 2, 3, 4] rfl) hv
                            refine lv_istore (lv' := [(8, .int 0), (0, .ref (ad 0)), (2, .int x2), (4, .int x4), (5, .int x5), (6, .int y26_1), (7, .int y34_2)]) hx hb dX6_copy_223 hl (by decide) rfl (fun ls hl => ?_)
                            exact k_225 ((Int32.toInt x5 - Int32.toInt 0).toNat + 1) 0 σ _ _ _ (by decide) (Nat.lt_succ_self _) (lv_sub hl [1, 3, 4, 6, 0] rfl) hB hv
                          · have hv := hv.trans (if_neg c142)
                            refine lv_bipush (v := 8) hx hb dX6_copy_145 (by decide) ?_
                            refine lv_iload hx hb dX6_copy_147 (lv_at hl 4 rfl) ?_
                            refine lv_bipush (v := 12) hx hb dX6_copy_149 (by decide) ?_
                            refine lv_imul hx hb dX6_copy_151 ?_
                            refine lv_iadd hx hb dX6_copy_152 ?_
                            refine lv_iload_n hx hb dX6_copy_153 rfl (lv_at hl 1 rfl) ?_
                            refine lv_iadd hx hb dX6_copy_154 ?_
                            refine lv_iload hx hb dX6_copy_155 (lv_at hl 6 rfl) ?_
                            refine lv_iadd hx hb dX6_copy_157 ?_
                            refine sm_nmi hv (fun y158_7 ey158_7 hv => ?_)
                            refine lv_istore (lv' := [(9, .int y158_7), (0, .ref (ad 0)), (2, .int x2), (4, .int x4), (5, .int x5), (6, .int y26_1), (7, .int y34_2), (8, .int v8_138)]) hx hb dX6_copy_158 hl (by decide) rfl (fun ls hl => ?_)
                            refine lv_aload_n hx hb dX6_copy_160 rfl (lv_at hl 1 rfl) ?_
                            refine fg_RX6_61 hx hb hts hown hW hB dX6_copy_161 ?_
                            refine lv_iload hx hb dX6_copy_164 (lv_at hl 7 rfl) ?_
                            refine lv_aload_n hx hb dX6_copy_166 rfl (lv_at hl 1 rfl) ?_
                            refine fg_RX6_16 hx hb hts hown hW hB dX6_copy_167 ?_
                            refine lv_iload hx hb dX6_copy_170 (lv_at hl 0 rfl) ?_
                            refine sw_la hx hb hW hB (3) (by decide) (eM_3 g ad) (by rw [ey158_7]; exact (cp_in hI (st_inN hI (out_in c6 (by decide)) ey26_1 c38) c79 c83 c105 i0 c142).2.2.2) dX6_copy_172 ?_
                            refine sw_ls hx hb hW hB (14) (by decide) (eM_14 g ad) (cp_in hI (st_inN hI (out_in c6 (by decide)) ey26_1 c38) c79 c83 c105 i0 c142).1 dX6_copy_173 (fun H locs hB => ?_)
                            refine lv_aload_n hx hb dX6_copy_174 rfl (lv_at hl 1 rfl) ?_
                            refine fg_RX6_58 hx hb hts hown hW hB dX6_copy_175 ?_
                            refine lv_iconst (v := 2) hx hb dX6_copy_178 (by decide) ?_
                            refine lv_iload hx hb dX6_copy_179 (lv_at hl 7 rfl) ?_
                            refine lv_imul hx hb dX6_copy_181 ?_
                            refine lv_aload_n hx hb dX6_copy_182 rfl (lv_at hl 1 rfl) ?_
                            refine fg_RX6_13 hx hb hts hown hW hB dX6_copy_183 ?_
                            refine lv_iload hx hb dX6_copy_186 (lv_at hl 0 rfl) ?_
                            refine sw_ia hx hb hW hB (2) (by decide) (eM_2 g ad) (by rw [ey158_7]; exact (cp_in hI (st_inN hI (out_in c6 (by decide)) ey26_1 c38) c79 c83 c105 i0 c142).2.2.2) dX6_copy_188 ?_
                            refine sw_is hx hb hW hB (13) (by decide) (eM_13 g ad) (cp_in hI (st_inN hI (out_in c6 (by decide)) ey26_1 c38) c79 c83 c105 i0 c142).2.1 dX6_copy_189 (fun H locs hB => ?_)
                            refine lv_aload_n hx hb dX6_copy_190 rfl (lv_at hl 1 rfl) ?_
                            refine fg_RX6_58 hx hb hts hown hW hB dX6_copy_191 ?_
                            refine lv_iconst (v := 2) hx hb dX6_copy_194 (by decide) ?_
                            refine lv_iload hx hb dX6_copy_195 (lv_at hl 7 rfl) ?_
                            refine lv_imul hx hb dX6_copy_197 ?_
                            refine lv_iconst (v := 1) hx hb dX6_copy_198 (by decide) ?_
                            refine lv_iadd hx hb dX6_copy_199 ?_
                            refine lv_aload_n hx hb dX6_copy_200 rfl (lv_at hl 1 rfl) ?_
                            refine fg_RX6_20 hx hb hts hown hW hB dX6_copy_201 ?_
                            refine lv_iload hx hb dX6_copy_204 (lv_at hl 0 rfl) ?_
                            refine sw_za hx hb hW hB (4) (by decide) (eM_4 g ad) (by rw [ey158_7]; exact (cp_in hI (st_inN hI (out_in c6 (by decide)) ey26_1 c38) c79 c83 c105 i0 c142).2.2.2) dX6_copy_206 ?_
                            have k_215 : ∀ (t0_215 : Int32) (t1_215 : Int32) (σ : sm_S) (ls : Array Slot) (H : Heap) (locs : List Loc), vp_in t1_215 24 → lv_has ls 10 [(0, .ref (ad 0)), (2, .int x2), (4, .int x4), (5, .int x5), (6, .int y26_1), (7, .int y34_2), (8, .int v8_138)] → sm_B g 19 ad (eM g ad) s H locs σ → F = f_X6_copy_215 (fun σ v8_138 => f_X6_copy_138 n x2 x4 x5 y26_1 y34_2 σ v8_138) x2 x4 x5 y26_1 y34_2 v8_138 σ t0_215 t1_215 → W p l e (rmd 1) s m args below meth c H locs 0 0 (MQ below (sm_Qi g 19 ad (eM g ad) s.heap.size F) args s 0 0 (sm_AX 19 ad s.heap.size)) (F0 m 215 ls [.int t0_215, .int t1_215, .ref (ad 13)]) := by
                              intro t0_215 t1_215 σ ls H locs hix hl hB hv
                              refine sw_is hx hb hW hB (13) (by decide) (eM_13 g ad) hix dX6_copy_215 (fun H locs hB => ?_)
                              obtain ⟨y216_8, ey216_8, hv⟩ := sm_lt hv
                              refine lv_iinc (v := y216_8) (lv' := [(8, .int y216_8), (0, .ref (ad 0)), (2, .int x2), (4, .int x4), (5, .int x5), (6, .int y26_1), (7, .int y34_2)]) hx hb dX6_copy_216 hl (k := 6) rfl (by rw [ey216_8]; rfl) (by decide) rfl (fun ls hl => ?_)
                              refine lv_goto (tgt := 138) hx hb dX6_copy_219 (by decide) ?_
                              exact ih y216_8 (uI σ 13 (Int32.toNatClampNeg t1_215) t0_215) _ _ _ (by rw [ey216_8]; exact nn_inc i0 c142) (by rw [ey216_8]; exact Nat.lt_of_lt_of_le (me_inc c142) (Nat.le_of_lt_succ hme)) (lv_sub hl [1, 2, 3, 4, 5, 6, 0] rfl) hB hv
                            refine lv_if_eq (tgt := 214) hx hb dX6_copy_207 (by decide) (fun c207 => ?_) (fun c207 => ?_)
                            · have hv := hv.trans (if_pos c207)
                              refine lv_iconst (v := 0) hx hb dX6_copy_214 (by decide) ?_
                              exact k_215 0 (((2 : Int32) * v8_138) + 1) (uI (uL σ 14 (Int32.toNatClampNeg v8_138) (σ.2.1 3 (Int32.toNatClampNeg y158_7))) 13 (Int32.toNatClampNeg ((2 : Int32) * v8_138)) ((uL σ 14 (Int32.toNatClampNeg v8_138) (σ.2.1 3 (Int32.toNatClampNeg y158_7))).1 2 (Int32.toNatClampNeg y158_7))) _ _ _ (by first | exact hix | exact (cp_in hI (st_inN hI (out_in c6 (by decide)) ey26_1 c38) c79 c83 c105 i0 c142).2.2.1) (lv_sub hl [1, 2, 3, 4, 5, 6, 7] rfl) hB hv
                            · have hv := hv.trans (if_neg c207)
                              refine lv_iconst (v := 1) hx hb dX6_copy_210 (by decide) ?_
                              refine lv_goto (tgt := 215) hx hb dX6_copy_211 (by decide) ?_
                              exact k_215 1 (((2 : Int32) * v8_138) + 1) (uI (uL σ 14 (Int32.toNatClampNeg v8_138) (σ.2.1 3 (Int32.toNatClampNeg y158_7))) 13 (Int32.toNatClampNeg ((2 : Int32) * v8_138)) ((uL σ 14 (Int32.toNatClampNeg v8_138) (σ.2.1 3 (Int32.toNatClampNeg y158_7))).1 2 (Int32.toNatClampNeg y158_7))) _ _ _ (by first | exact hix | exact (cp_in hI (st_inN hI (out_in c6 (by decide)) ey26_1 c38) c79 c83 c105 i0 c142).2.2.1) (lv_sub hl [1, 2, 3, 4, 5, 6, 7] rfl) hB hv
                      refine lv_istore (lv' := [(8, .int 0), (7, .int y34_2), (6, .int y26_1), (0, .ref (ad 0)), (1, .int x1), (2, .int x2), (3, .int x3), (4, .int x4), (5, .int x5)]) hx hb dX6_copy_136 hl (by decide) rfl (fun ls hl => ?_)
                      exact k_138 ((Int32.toInt x5 - Int32.toInt 0).toNat + 1) 0 σ _ _ _ (by decide) (Nat.lt_succ_self _) (lv_sub hl [3, 5, 7, 8, 2, 1, 0] rfl) hB hv
                    · have hv := hv.trans (if_neg c124)
                      exact k_128 _ (lv_sub hl [2] rfl) hv
          · have hv := hv.trans (if_neg c67)
            refine lv_aload_n hx hb dX6_copy_70 rfl (lv_at hl 2 rfl) ?_
            refine lv_bipush (v := -6) hx hb dX6_copy_71 (by decide) ?_
            refine sw_cin hv hB (sm_runV (rest := []) hC (c_X6_exception l g ad hW.2.1 _ σ ((-6))) k_X6_exception w_747 (by decide) (sm_pv hW hB (by decide) (eM_0 g ad _) rfl) rfl hl.1 rfl (Nat.le_of_ble_eq_true rfl) dX6_copy_73) (fun u73_9 eu73_9 hv H locs hB => ?_)
            exact sw_ri hx hb hr hlocks hB hv dX6_copy_76
        · have hv := hv.trans (if_neg c43)
          exact k_46 _ (lv_sub hl [2] rfl) hv
    · have hv := hv.trans (if_neg c15)
      refine lv_iconst (v := -1) hx hb dX6_copy_18 (by decide) ?_
      exact sw_ri hx hb hr hlocks hB hv dX6_copy_19
def f_X6_branch_283 (t0_144 : Int32) (σ : sm_S) (t0_283 : Int32) : Int32 × sm_S := (t0_144, uI (uI σ 12 (Int32.toNatClampNeg 0) t0_283) 0 1 (((uI σ 12 (Int32.toNatClampNeg 0) t0_283).1 0 1) + 1))
def f_X6_branch_282 (t0_144 : Int32) (σ : sm_S) : Int32 × sm_S := f_X6_branch_283 t0_144 σ 0
def f_X6_branch_169 : Nat → Int32 → Int32 → Int32 → sm_S → Int32 → Int32 × sm_S
  | 0, _, _, _, _, _ => default
  | n + 1, x2, x3, t0_144, σ, v10_169 => if v10_169 ≤ 0 then (if ((uI (uI σ 10 (Int32.toNatClampNeg 0) t0_144) 11 (Int32.toNatClampNeg 0) (((uI σ 10 (Int32.toNatClampNeg 0) t0_144).1 2 (Int32.toNatClampNeg x2)) ||| ((uI σ 10 (Int32.toNatClampNeg 0) t0_144).1 2 (Int32.toNatClampNeg x3)))).1 4 (Int32.toNatClampNeg x2)) = 0 then (f_X6_branch_282 t0_144 (uI (uI σ 10 (Int32.toNatClampNeg 0) t0_144) 11 (Int32.toNatClampNeg 0) (((uI σ 10 (Int32.toNatClampNeg 0) t0_144).1 2 (Int32.toNatClampNeg x2)) ||| ((uI σ 10 (Int32.toNatClampNeg 0) t0_144).1 2 (Int32.toNatClampNeg x3))))) else (if ((uI (uI σ 10 (Int32.toNatClampNeg 0) t0_144) 11 (Int32.toNatClampNeg 0) (((uI σ 10 (Int32.toNatClampNeg 0) t0_144).1 2 (Int32.toNatClampNeg x2)) ||| ((uI σ 10 (Int32.toNatClampNeg 0) t0_144).1 2 (Int32.toNatClampNeg x3)))).1 4 (Int32.toNatClampNeg x3)) = 0 then (f_X6_branch_282 t0_144 (uI (uI σ 10 (Int32.toNatClampNeg 0) t0_144) 11 (Int32.toNatClampNeg 0) (((uI σ 10 (Int32.toNatClampNeg 0) t0_144).1 2 (Int32.toNatClampNeg x2)) ||| ((uI σ 10 (Int32.toNatClampNeg 0) t0_144).1 2 (Int32.toNatClampNeg x3))))) else (f_X6_branch_283 t0_144 (uI (uI σ 10 (Int32.toNatClampNeg 0) t0_144) 11 (Int32.toNatClampNeg 0) (((uI σ 10 (Int32.toNatClampNeg 0) t0_144).1 2 (Int32.toNatClampNeg x2)) ||| ((uI σ 10 (Int32.toNatClampNeg 0) t0_144).1 2 (Int32.toNatClampNeg x3)))) 1))) else (sm_let (v10_169 + -1) (fun y222_3 => f_X6_branch_169 n x2 x3 t0_144 (uI (uI (uI σ 10 (Int32.toNatClampNeg v10_169) (σ.1 10 (Int32.toNatClampNeg (v10_169 - 1)))) 11 (Int32.toNatClampNeg v10_169) ((uI σ 10 (Int32.toNatClampNeg v10_169) (σ.1 10 (Int32.toNatClampNeg (v10_169 - 1)))).1 11 (Int32.toNatClampNeg (v10_169 - 1)))) 12 (Int32.toNatClampNeg v10_169) ((uI (uI σ 10 (Int32.toNatClampNeg v10_169) (σ.1 10 (Int32.toNatClampNeg (v10_169 - 1)))) 11 (Int32.toNatClampNeg v10_169) ((uI σ 10 (Int32.toNatClampNeg v10_169) (σ.1 10 (Int32.toNatClampNeg (v10_169 - 1)))).1 11 (Int32.toNatClampNeg (v10_169 - 1)))).1 12 (Int32.toNatClampNeg (v10_169 - 1)))) y222_3))
def f_X6_branch_144 (x2 : Int32) (x3 : Int32) (σ : sm_S) (t0_144 : Int32) : Int32 × sm_S := if ((σ.1 2 (Int32.toNatClampNeg x2)) ||| (σ.1 2 (Int32.toNatClampNeg x3))) = 0 then ((t0_144, σ)) else (f_X6_branch_169 ((Int32.toInt 15 - (0 : Int32).toInt).toNat + 1) x2 x3 t0_144 σ 15)
def f_X6_branch_136 (x2 : Int32) (x3 : Int32) (t0_121 : Int32) (σ : sm_S) (t0_136 : Int32) : Int32 × sm_S := if t0_121 = t0_136 then (f_X6_branch_144 x2 x3 σ 1) else (f_X6_branch_144 x2 x3 σ 0)
def f_X6_branch_121 (x1 : Int32) (x2 : Int32) (x3 : Int32) (σ : sm_S) (t0_121 : Int32) : Int32 × sm_S := if (x1 - x1 / 2 * 2) = 0 then (f_X6_branch_136 x2 x3 t0_121 σ 1) else (f_X6_branch_136 x2 x3 t0_121 σ 0)
def f_X6_branch (σ : sm_S) (x1 : Int32) (x2 : Int32) (x3 : Int32) : Int32 × sm_S := if (f_X6_out x1 6) = 0 then (if (f_X6_out x2 8) = 0 then (if (f_X6_out x3 8) = 0 then (if (σ.1 1 (Int32.toNatClampNeg x2)) = 0 then (if (σ.1 1 (Int32.toNatClampNeg x3)) = 0 then (sm_let (σ.2.1 3 (Int32.toNatClampNeg x2)) (fun y56_1 => sm_let (σ.2.1 3 (Int32.toNatClampNeg x3)) (fun y64_2 => if 2 ≤ x1 then (if 4 ≤ x1 then (if y56_1 ≤ y64_2 then (f_X6_branch_121 x1 x2 x3 σ 0) else (f_X6_branch_121 x1 x2 x3 σ 1)) else (if y64_2 ≤ y56_1 then (f_X6_branch_121 x1 x2 x3 σ 0) else (f_X6_branch_121 x1 x2 x3 σ 1))) else (if y56_1 = y64_2 then (f_X6_branch_121 x1 x2 x3 σ 1) else (f_X6_branch_121 x1 x2 x3 σ 0))))) else (((-1), σ))) else (((-1), σ))) else (((-1), σ))) else (((-1), σ))) else (((-1), σ))
set_option maxRecDepth 100000 in
set_option maxHeartbeats 4000000 in
theorem c_X6_branch (l : Launch) (g : sm_G) (ad : Nat → Nat) (hj : sm_inj 19 ad) (sz : Nat) (σ : sm_S) (x1 : Int32) (x2 : Int32) (x3 : Int32)   : Met l yX6_branch (sm_ws yX6_branch cX6_branch 11 (some .int)) (rmd 1) (va_Pc [.ref (ad 0), .int x1, .int x2, .int x3] (sm_Pre g 19 ad (eM g ad) σ sz)) (sm_Qi g 19 ad (eM g ad) sz (f_X6_branch σ x1 x2 x3)) 0 0 (sm_AX 19 ad sz) := by
  generalize hv : f_X6_branch σ x1 x2 x3 = F
  replace hv := hv.symm
  refine sm_mWi (by decide) (Nat.le_of_ble_eq_true rfl) hj (eM_lay g ad) (fun p e s m args below meth c C hW hB ls hl => ?_)
  obtain ⟨hC, hr, hlocks⟩ := C
  have hx := hC.1
  have hb := hC.2.1
  have hts := hC.2.2.2.2
  have hown : s.vm.findClass RX6 = some m.cls := hC.2.2.2.1
  have hl : lv_has ls 11 [(0, .ref (ad 0)), (1, .int x1), (2, .int x2), (3, .int x3)] := hl
  refine lv_aload_n hx hb dX6_branch_0 rfl (lv_at hl 0 rfl) ?_
  refine lv_iload_n hx hb dX6_branch_1 rfl (lv_at hl 1 rfl) ?_
  refine lv_bipush (v := 6) hx hb dX6_branch_2 (by decide) ?_
  refine sm_ci (sm_runV (rest := []) hC (c_X6_out l g ad hW.2.1 _ x1 6 σ) k_X6_out w_598 (by decide) (sm_pv hW hB (by decide) (eM_0 g ad _) rfl) rfl hl.1 rfl (Nat.le_of_ble_eq_true rfl) dX6_branch_4) ?_
  refine lv_if_ne (tgt := 48) hx hb dX6_branch_7 (by decide) (fun c7 => ?_) (fun c7 => ?_)
  · have hv := hv.trans (if_neg c7)
    refine lv_iconst (v := -1) hx hb dX6_branch_48 (by decide) ?_
    exact sw_ri hx hb hr hlocks hB hv dX6_branch_49
  · have hv := hv.trans (if_pos c7)
    refine lv_aload_n hx hb dX6_branch_10 rfl (lv_at hl 0 rfl) ?_
    refine lv_iload_n hx hb dX6_branch_11 rfl (lv_at hl 2 rfl) ?_
    refine lv_bipush (v := 8) hx hb dX6_branch_12 (by decide) ?_
    refine sm_ci (sm_runV (rest := []) hC (c_X6_out l g ad hW.2.1 _ x2 8 σ) k_X6_out w_598 (by decide) (sm_pv hW hB (by decide) (eM_0 g ad _) rfl) rfl hl.1 rfl (Nat.le_of_ble_eq_true rfl) dX6_branch_14) ?_
    refine lv_if_ne (tgt := 48) hx hb dX6_branch_17 (by decide) (fun c17 => ?_) (fun c17 => ?_)
    · have hv := hv.trans (if_neg c17)
      refine lv_iconst (v := -1) hx hb dX6_branch_48 (by decide) ?_
      exact sw_ri hx hb hr hlocks hB hv dX6_branch_49
    · have hv := hv.trans (if_pos c17)
      refine lv_aload_n hx hb dX6_branch_20 rfl (lv_at hl 0 rfl) ?_
      refine lv_iload_n hx hb dX6_branch_21 rfl (lv_at hl 3 rfl) ?_
      refine lv_bipush (v := 8) hx hb dX6_branch_22 (by decide) ?_
      refine sm_ci (sm_runV (rest := []) hC (c_X6_out l g ad hW.2.1 _ x3 8 σ) k_X6_out w_598 (by decide) (sm_pv hW hB (by decide) (eM_0 g ad _) rfl) rfl hl.1 rfl (Nat.le_of_ble_eq_true rfl) dX6_branch_24) ?_
      refine lv_if_ne (tgt := 48) hx hb dX6_branch_27 (by decide) (fun c27 => ?_) (fun c27 => ?_)
      · have hv := hv.trans (if_neg c27)
        refine lv_iconst (v := -1) hx hb dX6_branch_48 (by decide) ?_
        exact sw_ri hx hb hr hlocks hB hv dX6_branch_49
      · have hv := hv.trans (if_pos c27)
        refine lv_aload_n hx hb dX6_branch_30 rfl (lv_at hl 0 rfl) ?_
        refine fg_RX6_7 hx hb hts hown hW hB dX6_branch_31 ?_
        refine lv_iload_n hx hb dX6_branch_34 rfl (lv_at hl 2 rfl) ?_
        refine sw_ia hx hb hW hB (1) (by decide) (eM_1 g ad) (out_in c17 (by decide)) dX6_branch_35 ?_
        refine lv_if_ne (tgt := 48) hx hb dX6_branch_36 (by decide) (fun c36 => ?_) (fun c36 => ?_)
        · have hv := hv.trans (if_neg c36)
          refine lv_iconst (v := -1) hx hb dX6_branch_48 (by decide) ?_
          exact sw_ri hx hb hr hlocks hB hv dX6_branch_49
        · have hv := hv.trans (if_pos c36)
          refine lv_aload_n hx hb dX6_branch_39 rfl (lv_at hl 0 rfl) ?_
          refine fg_RX6_7 hx hb hts hown hW hB dX6_branch_40 ?_
          refine lv_iload_n hx hb dX6_branch_43 rfl (lv_at hl 3 rfl) ?_
          refine sw_ia hx hb hW hB (1) (by decide) (eM_1 g ad) (out_in c27 (by decide)) dX6_branch_44 ?_
          refine lv_if_eq (tgt := 50) hx hb dX6_branch_45 (by decide) (fun c45 => ?_) (fun c45 => ?_)
          · have hv := hv.trans (if_pos c45)
            refine lv_aload_n hx hb dX6_branch_50 rfl (lv_at hl 0 rfl) ?_
            refine fg_RX6_16 hx hb hts hown hW hB dX6_branch_51 ?_
            refine lv_iload_n hx hb dX6_branch_54 rfl (lv_at hl 2 rfl) ?_
            refine sw_la hx hb hW hB (3) (by decide) (eM_3 g ad) (in_mono (a := 8) (out_in c17 (by decide)) (by decide)) dX6_branch_55 ?_
            refine sm_nml hv (fun y56_1 ey56_1 hv => ?_)
            refine lv_lstore (lv' := [(4, .long y56_1), (0, .ref (ad 0)), (1, .int x1), (2, .int x2), (3, .int x3)]) hx hb dX6_branch_56 hl (by decide) rfl (fun ls hl => ?_)
            refine lv_aload_n hx hb dX6_branch_58 rfl (lv_at hl 1 rfl) ?_
            refine fg_RX6_16 hx hb hts hown hW hB dX6_branch_59 ?_
            refine lv_iload_n hx hb dX6_branch_62 rfl (lv_at hl 4 rfl) ?_
            refine sw_la hx hb hW hB (3) (by decide) (eM_3 g ad) (in_mono (a := 8) (out_in c27 (by decide)) (by decide)) dX6_branch_63 ?_
            refine sm_nml hv (fun y64_2 ey64_2 hv => ?_)
            refine lv_lstore (lv' := [(6, .long y64_2), (4, .long y56_1), (0, .ref (ad 0)), (1, .int x1), (2, .int x2), (3, .int x3)]) hx hb dX6_branch_64 hl (by decide) rfl (fun ls hl => ?_)
            refine lv_iload_n hx hb dX6_branch_66 rfl (lv_at hl 3 rfl) ?_
            refine lv_iconst (v := 2) hx hb dX6_branch_67 (by decide) ?_
            have k_121 : ∀ (t0_121 : Int32) (ls : Array Slot), lv_has ls 11 [(0, .ref (ad 0)), (1, .int x1), (2, .int x2), (3, .int x3)] → F = f_X6_branch_121 x1 x2 x3 σ t0_121 → W p l e (rmd 1) s m args below meth c s.heap [] 0 0 (MQ below (sm_Qi g 19 ad (eM g ad) s.heap.size F) args s 0 0 (sm_AX 19 ad s.heap.size)) (F0 m 121 ls [.int t0_121]) := by
              intro t0_121 ls hl hv
              refine lv_istore (lv' := [(8, .int t0_121), (0, .ref (ad 0)), (1, .int x1), (2, .int x2), (3, .int x3)]) hx hb dX6_branch_121 hl (by decide) rfl (fun ls hl => ?_)
              refine lv_iload hx hb dX6_branch_123 (lv_at hl 0 rfl) ?_
              refine lv_iload_n hx hb dX6_branch_125 rfl (lv_at hl 2 rfl) ?_
              refine lv_iconst (v := 2) hx hb dX6_branch_126 (by decide) ?_
              refine lv_irem hx hb dX6_branch_127 (by decide) ?_
              have k_136 : ∀ (t0_136 : Int32) (ls : Array Slot), lv_has ls 11 [(0, .ref (ad 0)), (2, .int x2), (3, .int x3)] → F = f_X6_branch_136 x2 x3 t0_121 σ t0_136 → W p l e (rmd 1) s m args below meth c s.heap [] 0 0 (MQ below (sm_Qi g 19 ad (eM g ad) s.heap.size F) args s 0 0 (sm_AX 19 ad s.heap.size)) (F0 m 136 ls [.int t0_136, .int t0_121]) := by
                intro t0_136 ls hl hv
                have k_144 : ∀ (t0_144 : Int32) (ls : Array Slot), lv_has ls 11 [(0, .ref (ad 0)), (2, .int x2), (3, .int x3)] → F = f_X6_branch_144 x2 x3 σ t0_144 → W p l e (rmd 1) s m args below meth c s.heap [] 0 0 (MQ below (sm_Qi g 19 ad (eM g ad) s.heap.size F) args s 0 0 (sm_AX 19 ad s.heap.size)) (F0 m 144 ls [.int t0_144]) := by
                  intro t0_144 ls hl hv
                  refine lv_istore (lv' := [(9, .int t0_144), (0, .ref (ad 0)), (2, .int x2), (3, .int x3)]) hx hb dX6_branch_144 hl (by decide) rfl (fun ls hl => ?_)
                  refine lv_aload_n hx hb dX6_branch_146 rfl (lv_at hl 1 rfl) ?_
                  refine fg_RX6_13 hx hb hts hown hW hB dX6_branch_147 ?_
                  refine lv_iload_n hx hb dX6_branch_150 rfl (lv_at hl 2 rfl) ?_
                  refine sw_ia hx hb hW hB (2) (by decide) (eM_2 g ad) (in_mono (a := 8) (out_in c17 (by decide)) (by decide)) dX6_branch_151 ?_
                  refine lv_aload_n hx hb dX6_branch_152 rfl (lv_at hl 1 rfl) ?_
                  refine fg_RX6_13 hx hb hts hown hW hB dX6_branch_153 ?_
                  refine lv_iload_n hx hb dX6_branch_156 rfl (lv_at hl 3 rfl) ?_
                  refine sw_ia hx hb hW hB (2) (by decide) (eM_2 g ad) (in_mono (a := 8) (out_in c27 (by decide)) (by decide)) dX6_branch_157 ?_
                  refine lv_ior hx hb dX6_branch_158 ?_
                  refine lv_if_ne (tgt := 165) hx hb dX6_branch_159 (by decide) (fun c159 => ?_) (fun c159 => ?_)
                  · have hv := hv.trans (if_neg c159)
                    refine lv_bipush (v := 15) hx hb dX6_branch_165 (by decide) ?_
                    have k_169 : ∀ (n : Nat) (v10_169 : Int32) (σ : sm_S) (ls : Array Slot) (H : Heap) (locs : List Loc), v10_169 ≤ 15 → (Int32.toInt v10_169 - (0 : Int32).toInt).toNat < n → lv_has ls 11 [(0, .ref (ad 0)), (2, .int x2), (3, .int x3), (9, .int t0_144), (10, .int v10_169)] → sm_B g 19 ad (eM g ad) s H locs σ → F = f_X6_branch_169 n x2 x3 t0_144 σ v10_169 → W p l e (rmd 1) s m args below meth c H locs 0 0 (MQ below (sm_Qi g 19 ad (eM g ad) s.heap.size F) args s 0 0 (sm_AX 19 ad s.heap.size)) (F0 m 169 ls []) := by
                      intro n
                      induction n with
                      | zero =>
                        intro v10_169 σ ls H locs i5 hme hl hB hv
                        exact absurd hme (Nat.not_lt_zero _)
                      | succ n ih =>
                        intro v10_169 σ ls H locs i5 hme hl hB hv
                        refine lv_iload hx hb dX6_branch_169 (lv_at hl 4 rfl) ?_
                        refine lv_if_le (tgt := 228) hx hb dX6_branch_171 (by decide) (fun c171 => ?_) (fun c171 => ?_)
                        · have hv := hv.trans (if_pos c171)
                          refine lv_aload_n hx hb dX6_branch_228 rfl (lv_at hl 0 rfl) ?_
                          refine fg_RX6_39 hx hb hts hown hW hB dX6_branch_229 ?_
                          refine lv_iconst (v := 0) hx hb dX6_branch_232 (by decide) ?_
                          refine lv_iload hx hb dX6_branch_233 (lv_at hl 3 rfl) ?_
                          refine sw_is hx hb hW hB (10) (by decide) (eM_10 g ad) (in_lit (by decide +kernel)) dX6_branch_235 (fun H locs hB => ?_)
                          refine lv_aload_n hx hb dX6_branch_236 rfl (lv_at hl 0 rfl) ?_
                          refine fg_RX6_42 hx hb hts hown hW hB dX6_branch_237 ?_
                          refine lv_iconst (v := 0) hx hb dX6_branch_240 (by decide) ?_
                          refine lv_aload_n hx hb dX6_branch_241 rfl (lv_at hl 0 rfl) ?_
                          refine fg_RX6_13 hx hb hts hown hW hB dX6_branch_242 ?_
                          refine lv_iload_n hx hb dX6_branch_245 rfl (lv_at hl 1 rfl) ?_
                          refine sw_ia hx hb hW hB (2) (by decide) (eM_2 g ad) (in_mono (a := 8) (out_in c17 (by decide)) (by decide)) dX6_branch_246 ?_
                          refine lv_aload_n hx hb dX6_branch_247 rfl (lv_at hl 0 rfl) ?_
                          refine fg_RX6_13 hx hb hts hown hW hB dX6_branch_248 ?_
                          refine lv_iload_n hx hb dX6_branch_251 rfl (lv_at hl 2 rfl) ?_
                          refine sw_ia hx hb hW hB (2) (by decide) (eM_2 g ad) (in_mono (a := 8) (out_in c27 (by decide)) (by decide)) dX6_branch_252 ?_
                          refine lv_ior hx hb dX6_branch_253 ?_
                          refine sw_is hx hb hW hB (11) (by decide) (eM_11 g ad) (in_lit (by decide +kernel)) dX6_branch_254 (fun H locs hB => ?_)
                          refine lv_aload_n hx hb dX6_branch_255 rfl (lv_at hl 0 rfl) ?_
                          refine fg_RX6_45 hx hb hts hown hW hB dX6_branch_256 ?_
                          refine lv_iconst (v := 0) hx hb dX6_branch_259 (by decide) ?_
                          refine lv_aload_n hx hb dX6_branch_260 rfl (lv_at hl 0 rfl) ?_
                          refine fg_RX6_20 hx hb hts hown hW hB dX6_branch_261 ?_
                          refine lv_iload_n hx hb dX6_branch_264 rfl (lv_at hl 1 rfl) ?_
                          refine sw_za hx hb hW hB (4) (by decide) (eM_4 g ad) (in_mono (a := 8) (out_in c17 (by decide)) (by decide)) dX6_branch_265 ?_
                          have k_283 : ∀ (t0_283 : Int32) (σ : sm_S) (ls : Array Slot) (H : Heap) (locs : List Loc), lv_has ls 11 [(0, .ref (ad 0)), (9, .int t0_144)] → sm_B g 19 ad (eM g ad) s H locs σ → F = f_X6_branch_283 t0_144 σ t0_283 → W p l e (rmd 1) s m args below meth c H locs 0 0 (MQ below (sm_Qi g 19 ad (eM g ad) s.heap.size F) args s 0 0 (sm_AX 19 ad s.heap.size)) (F0 m 283 ls [.int t0_283, .int 0, .ref (ad 12)]) := by
                            intro t0_283 σ ls H locs hl hB hv
                            refine sw_is hx hb hW hB (12) (by decide) (eM_12 g ad) (in_lit (by decide +kernel)) dX6_branch_283 (fun H locs hB => ?_)
                            refine lv_aload_n hx hb dX6_branch_284 rfl (lv_at hl 0 rfl) ?_
                            refine lv_dup hx hb dX6_branch_285 rfl ?_
                            refine fg_RX6_52 hx hb hts hown hW hB dX6_branch_286 ?_
                            refine lv_iconst (v := 1) hx hb dX6_branch_289 (by decide) ?_
                            refine lv_iadd hx hb dX6_branch_290 ?_
                            refine fp_RX6_52 hx hb hts hown hW hB dX6_branch_291 (fun H locs hB => ?_)
                            refine lv_iload hx hb dX6_branch_294 (lv_at hl 1 rfl) ?_
                            exact sw_ri hx hb hr hlocks hB hv dX6_branch_296
                          have k_282 : ∀  (σ : sm_S) (ls : Array Slot) (H : Heap) (locs : List Loc), lv_has ls 11 [(0, .ref (ad 0)), (9, .int t0_144)] → sm_B g 19 ad (eM g ad) s H locs σ → F = f_X6_branch_282 t0_144 σ → W p l e (rmd 1) s m args below meth c H locs 0 0 (MQ below (sm_Qi g 19 ad (eM g ad) s.heap.size F) args s 0 0 (sm_AX 19 ad s.heap.size)) (F0 m 282 ls [.int 0, .ref (ad 12)]) := by
                            intro σ ls H locs hl hB hv
                            refine lv_iconst (v := 0) hx hb dX6_branch_282 (by decide) ?_
                            exact k_283 0 σ _ _ _ (lv_sub hl [0, 1] rfl) hB hv
                          refine lv_if_eq (tgt := 282) hx hb dX6_branch_266 (by decide) (fun c266 => ?_) (fun c266 => ?_)
                          · have hv := hv.trans (if_pos c266)
                            exact k_282 (uI (uI σ 10 (Int32.toNatClampNeg 0) t0_144) 11 (Int32.toNatClampNeg 0) (((uI σ 10 (Int32.toNatClampNeg 0) t0_144).1 2 (Int32.toNatClampNeg x2)) ||| ((uI σ 10 (Int32.toNatClampNeg 0) t0_144).1 2 (Int32.toNatClampNeg x3)))) _ _ _ (lv_sub hl [0, 3] rfl) hB hv
                          · have hv := hv.trans (if_neg c266)
                            refine lv_aload_n hx hb dX6_branch_269 rfl (lv_at hl 0 rfl) ?_
                            refine fg_RX6_20 hx hb hts hown hW hB dX6_branch_270 ?_
                            refine lv_iload_n hx hb dX6_branch_273 rfl (lv_at hl 2 rfl) ?_
                            refine sw_za hx hb hW hB (4) (by decide) (eM_4 g ad) (in_mono (a := 8) (out_in c27 (by decide)) (by decide)) dX6_branch_274 ?_
                            refine lv_if_eq (tgt := 282) hx hb dX6_branch_275 (by decide) (fun c275 => ?_) (fun c275 => ?_)
                            · have hv := hv.trans (if_pos c275)
                              exact k_282 (uI (uI σ 10 (Int32.toNatClampNeg 0) t0_144) 11 (Int32.toNatClampNeg 0) (((uI σ 10 (Int32.toNatClampNeg 0) t0_144).1 2 (Int32.toNatClampNeg x2)) ||| ((uI σ 10 (Int32.toNatClampNeg 0) t0_144).1 2 (Int32.toNatClampNeg x3)))) _ _ _ (lv_sub hl [0, 3] rfl) hB hv
                            · have hv := hv.trans (if_neg c275)
                              refine lv_iconst (v := 1) hx hb dX6_branch_278 (by decide) ?_
                              refine lv_goto (tgt := 283) hx hb dX6_branch_279 (by decide) ?_
                              exact k_283 1 (uI (uI σ 10 (Int32.toNatClampNeg 0) t0_144) 11 (Int32.toNatClampNeg 0) (((uI σ 10 (Int32.toNatClampNeg 0) t0_144).1 2 (Int32.toNatClampNeg x2)) ||| ((uI σ 10 (Int32.toNatClampNeg 0) t0_144).1 2 (Int32.toNatClampNeg x3)))) _ _ _ (lv_sub hl [0, 3] rfl) hB hv
                        · have hv := hv.trans (if_neg c171)
                          refine lv_aload_n hx hb dX6_branch_174 rfl (lv_at hl 0 rfl) ?_
                          refine fg_RX6_39 hx hb hts hown hW hB dX6_branch_175 ?_
                          refine lv_iload hx hb dX6_branch_178 (lv_at hl 4 rfl) ?_
                          refine lv_aload_n hx hb dX6_branch_180 rfl (lv_at hl 0 rfl) ?_
                          refine fg_RX6_39 hx hb hts hown hW hB dX6_branch_181 ?_
                          refine lv_iload hx hb dX6_branch_184 (lv_at hl 4 rfl) ?_
                          refine lv_iconst (v := 1) hx hb dX6_branch_186 (by decide) ?_
                          refine lv_isub hx hb dX6_branch_187 ?_
                          refine sw_ia hx hb hW hB (10) (by decide) (eM_10 g ad) (in_dn1 c171 i5) dX6_branch_188 ?_
                          refine sw_is hx hb hW hB (10) (by decide) (eM_10 g ad) (in_dn c171 i5) dX6_branch_189 (fun H locs hB => ?_)
                          refine lv_aload_n hx hb dX6_branch_190 rfl (lv_at hl 0 rfl) ?_
                          refine fg_RX6_42 hx hb hts hown hW hB dX6_branch_191 ?_
                          refine lv_iload hx hb dX6_branch_194 (lv_at hl 4 rfl) ?_
                          refine lv_aload_n hx hb dX6_branch_196 rfl (lv_at hl 0 rfl) ?_
                          refine fg_RX6_42 hx hb hts hown hW hB dX6_branch_197 ?_
                          refine lv_iload hx hb dX6_branch_200 (lv_at hl 4 rfl) ?_
                          refine lv_iconst (v := 1) hx hb dX6_branch_202 (by decide) ?_
                          refine lv_isub hx hb dX6_branch_203 ?_
                          refine sw_ia hx hb hW hB (11) (by decide) (eM_11 g ad) (in_dn1 c171 i5) dX6_branch_204 ?_
                          refine sw_is hx hb hW hB (11) (by decide) (eM_11 g ad) (in_dn c171 i5) dX6_branch_205 (fun H locs hB => ?_)
                          refine lv_aload_n hx hb dX6_branch_206 rfl (lv_at hl 0 rfl) ?_
                          refine fg_RX6_45 hx hb hts hown hW hB dX6_branch_207 ?_
                          refine lv_iload hx hb dX6_branch_210 (lv_at hl 4 rfl) ?_
                          refine lv_aload_n hx hb dX6_branch_212 rfl (lv_at hl 0 rfl) ?_
                          refine fg_RX6_45 hx hb hts hown hW hB dX6_branch_213 ?_
                          refine lv_iload hx hb dX6_branch_216 (lv_at hl 4 rfl) ?_
                          refine lv_iconst (v := 1) hx hb dX6_branch_218 (by decide) ?_
                          refine lv_isub hx hb dX6_branch_219 ?_
                          refine sw_ia hx hb hW hB (12) (by decide) (eM_12 g ad) (in_dn1 c171 i5) dX6_branch_220 ?_
                          refine sw_is hx hb hW hB (12) (by decide) (eM_12 g ad) (in_dn c171 i5) dX6_branch_221 (fun H locs hB => ?_)
                          obtain ⟨y222_3, ey222_3, hv⟩ := sm_lt hv
                          refine lv_iinc (v := y222_3) (lv' := [(10, .int y222_3), (0, .ref (ad 0)), (2, .int x2), (3, .int x3), (9, .int t0_144)]) hx hb dX6_branch_222 hl (k := 4) rfl (by rw [ey222_3]; rfl) (by decide) rfl (fun ls hl => ?_)
                          refine lv_goto (tgt := 169) hx hb dX6_branch_225 (by decide) ?_
                          exact ih y222_3 (uI (uI (uI σ 10 (Int32.toNatClampNeg v10_169) (σ.1 10 (Int32.toNatClampNeg (v10_169 - 1)))) 11 (Int32.toNatClampNeg v10_169) ((uI σ 10 (Int32.toNatClampNeg v10_169) (σ.1 10 (Int32.toNatClampNeg (v10_169 - 1)))).1 11 (Int32.toNatClampNeg (v10_169 - 1)))) 12 (Int32.toNatClampNeg v10_169) ((uI (uI σ 10 (Int32.toNatClampNeg v10_169) (σ.1 10 (Int32.toNatClampNeg (v10_169 - 1)))) 11 (Int32.toNatClampNeg v10_169) ((uI σ 10 (Int32.toNatClampNeg v10_169) (σ.1 10 (Int32.toNatClampNeg (v10_169 - 1)))).1 11 (Int32.toNatClampNeg (v10_169 - 1)))).1 12 (Int32.toNatClampNeg (v10_169 - 1)))) _ _ _ (by rw [ey222_3]; exact le_dec c171 i5) (by rw [ey222_3]; exact Nat.lt_of_lt_of_le (me_dec c171) (Nat.le_of_lt_succ hme)) (lv_sub hl [1, 2, 3, 4, 0] rfl) hB hv
                    refine lv_istore (lv' := [(10, .int 15), (9, .int t0_144), (0, .ref (ad 0)), (2, .int x2), (3, .int x3)]) hx hb dX6_branch_167 hl (by decide) rfl (fun ls hl => ?_)
                    exact k_169 ((Int32.toInt 15 - (0 : Int32).toInt).toNat + 1) 15 σ _ _ _ (by decide) (Nat.lt_succ_self _) (lv_sub hl [2, 3, 4, 1, 0] rfl) hB hv
                  · have hv := hv.trans (if_pos c159)
                    refine lv_iload hx hb dX6_branch_162 (lv_at hl 0 rfl) ?_
                    exact sw_ri hx hb hr hlocks hB hv dX6_branch_164
                refine lv_icmp_ne (tgt := 143) hx hb dX6_branch_136 (by decide) (fun c136 => ?_) (fun c136 => ?_)
                · have hv := hv.trans (if_neg c136)
                  refine lv_iconst (v := 0) hx hb dX6_branch_143 (by decide) ?_
                  exact k_144 0 _ (lv_sub hl [0, 1, 2] rfl) hv
                · have hv := hv.trans (if_pos c136)
                  refine lv_iconst (v := 1) hx hb dX6_branch_139 (by decide) ?_
                  refine lv_goto (tgt := 144) hx hb dX6_branch_140 (by decide) ?_
                  exact k_144 1 _ (lv_sub hl [0, 1, 2] rfl) hv
              refine lv_if_ne (tgt := 135) hx hb dX6_branch_128 (by decide) (fun c128 => ?_) (fun c128 => ?_)
              · have hv := hv.trans (if_neg c128)
                refine lv_iconst (v := 0) hx hb dX6_branch_135 (by decide) ?_
                exact k_136 0 _ (lv_sub hl [1, 3, 4] rfl) hv
              · have hv := hv.trans (if_pos c128)
                refine lv_iconst (v := 1) hx hb dX6_branch_131 (by decide) ?_
                refine lv_goto (tgt := 136) hx hb dX6_branch_132 (by decide) ?_
                exact k_136 1 _ (lv_sub hl [1, 3, 4] rfl) hv
            refine lv_icmp_ge (tgt := 87) hx hb dX6_branch_68 (by decide) (fun c68 => ?_) (fun c68 => ?_)
            · have hv := hv.trans (if_pos c68)
              refine lv_iload_n hx hb dX6_branch_87 rfl (lv_at hl 3 rfl) ?_
              refine lv_iconst (v := 4) hx hb dX6_branch_88 (by decide) ?_
              refine lv_icmp_ge (tgt := 108) hx hb dX6_branch_89 (by decide) (fun c89 => ?_) (fun c89 => ?_)
              · have hv := hv.trans (if_pos c89)
                refine lv_lload hx hb dX6_branch_108 (lv_at hl 1 rfl) ?_
                refine lv_lload hx hb dX6_branch_110 (lv_at hl 0 rfl) ?_
                refine lc_le (tgt := 120) hx hb dX6_branch_112 dX6_branch_113 (by decide) (fun c112 => ?_) (fun c112 => ?_)
                · have hv := hv.trans (if_pos c112)
                  refine lv_iconst (v := 0) hx hb dX6_branch_120 (by decide) ?_
                  exact k_121 0 _ (lv_sub hl [2, 3, 4, 5] rfl) hv
                · have hv := hv.trans (if_neg c112)
                  refine lv_iconst (v := 1) hx hb dX6_branch_116 (by decide) ?_
                  refine lv_goto (tgt := 121) hx hb dX6_branch_117 (by decide) ?_
                  exact k_121 1 _ (lv_sub hl [2, 3, 4, 5] rfl) hv
              · have hv := hv.trans (if_neg c89)
                refine lv_lload hx hb dX6_branch_92 (lv_at hl 1 rfl) ?_
                refine lv_lload hx hb dX6_branch_94 (lv_at hl 0 rfl) ?_
                refine lc_ge (tgt := 104) hx hb dX6_branch_96 dX6_branch_97 (by decide) (fun c96 => ?_) (fun c96 => ?_)
                · have hv := hv.trans (if_pos c96)
                  refine lv_iconst (v := 0) hx hb dX6_branch_104 (by decide) ?_
                  refine lv_goto (tgt := 121) hx hb dX6_branch_105 (by decide) ?_
                  exact k_121 0 _ (lv_sub hl [2, 3, 4, 5] rfl) hv
                · have hv := hv.trans (if_neg c96)
                  refine lv_iconst (v := 1) hx hb dX6_branch_100 (by decide) ?_
                  refine lv_goto (tgt := 121) hx hb dX6_branch_101 (by decide) ?_
                  exact k_121 1 _ (lv_sub hl [2, 3, 4, 5] rfl) hv
            · have hv := hv.trans (if_neg c68)
              refine lv_lload hx hb dX6_branch_71 (lv_at hl 1 rfl) ?_
              refine lv_lload hx hb dX6_branch_73 (lv_at hl 0 rfl) ?_
              refine lc_ne (tgt := 83) hx hb dX6_branch_75 dX6_branch_76 (by decide) (fun c75 => ?_) (fun c75 => ?_)
              · have hv := hv.trans (if_neg c75)
                refine lv_iconst (v := 0) hx hb dX6_branch_83 (by decide) ?_
                refine lv_goto (tgt := 121) hx hb dX6_branch_84 (by decide) ?_
                exact k_121 0 _ (lv_sub hl [2, 3, 4, 5] rfl) hv
              · have hv := hv.trans (if_pos c75)
                refine lv_iconst (v := 1) hx hb dX6_branch_79 (by decide) ?_
                refine lv_goto (tgt := 121) hx hb dX6_branch_80 (by decide) ?_
                exact k_121 1 _ (lv_sub hl [2, 3, 4, 5] rfl) hv
          · have hv := hv.trans (if_neg c45)
            refine lv_iconst (v := -1) hx hb dX6_branch_48 (by decide) ?_
            exact sw_ri hx hb hr hlocks hB hv dX6_branch_49
def f_X6_kind (σ : sm_S) (x1 : Int32) : Int32 := if (f_X6_out x1 8) = 0 then (σ.1 1 (Int32.toNatClampNeg x1)) else ((-1))
set_option maxRecDepth 100000 in
set_option maxHeartbeats 4000000 in
theorem c_X6_kind (l : Launch) (g : sm_G) (ad : Nat → Nat) (hj : sm_inj 19 ad) (sz : Nat) (σ : sm_S) (x1 : Int32)   : Met l yX6_kind (sm_ws yX6_kind cX6_kind 2 (some .int)) (rmd 1) (va_Pc [.ref (ad 0), .int x1] (sm_Pre g 19 ad (eM g ad) σ sz)) (vp_Si (fun r => r = f_X6_kind σ x1)) 0 0 (fun _ => False) := by
  generalize hv : f_X6_kind σ x1 = F
  replace hv := hv.symm
  refine sm_mR (by decide) (Nat.le_of_ble_eq_true rfl) hj (eM_lay g ad) (fun p e s m args below meth c C hW hB ls hl => ?_)
  obtain ⟨hC, hr, hlocks⟩ := C
  have hx := hC.1
  have hb := hC.2.1
  have hts := hC.2.2.2.2
  have hown : s.vm.findClass RX6 = some m.cls := hC.2.2.2.1
  have hl : lv_has ls 2 [(0, .ref (ad 0)), (1, .int x1)] := hl
  refine lv_aload_n hx hb dX6_kind_0 rfl (lv_at hl 0 rfl) ?_
  refine lv_iload_n hx hb dX6_kind_1 rfl (lv_at hl 1 rfl) ?_
  refine lv_bipush (v := 8) hx hb dX6_kind_2 (by decide) ?_
  refine sm_ci (sm_runV (rest := []) hC (c_X6_out l g ad hW.2.1 _ x1 8 σ) k_X6_out w_598 (by decide) (sm_pv hW hB (by decide) (eM_0 g ad _) rfl) rfl hl.1 rfl (Nat.le_of_ble_eq_true rfl) dX6_kind_4) ?_
  refine lv_if_eq (tgt := 14) hx hb dX6_kind_7 (by decide) (fun c7 => ?_) (fun c7 => ?_)
  · have hv := hv.trans (if_pos c7)
    refine lv_aload_n hx hb dX6_kind_14 rfl (lv_at hl 0 rfl) ?_
    refine fg_RX6_7 hx hb hts hown hW hB dX6_kind_15 ?_
    refine lv_iload_n hx hb dX6_kind_18 rfl (lv_at hl 1 rfl) ?_
    refine sw_ia hx hb hW hB (1) (by decide) (eM_1 g ad) (out_in c7 (by decide)) dX6_kind_19 ?_
    exact sm_ri hx hb hr hlocks hv dX6_kind_20
  · have hv := hv.trans (if_neg c7)
    refine lv_iconst (v := -1) hx hb dX6_kind_10 (by decide) ?_
    refine lv_goto (tgt := 20) hx hb dX6_kind_11 (by decide) ?_
    exact sm_ri hx hb hr hlocks hv dX6_kind_20
def f_X6_bits (σ : sm_S) (x1 : Int32) : Int64 := if (f_X6_out x1 8) = 0 then (σ.2.1 3 (Int32.toNatClampNeg x1)) else 1234567890123456789
set_option maxRecDepth 100000 in
set_option maxHeartbeats 4000000 in
theorem c_X6_bits (l : Launch) (g : sm_G) (ad : Nat → Nat) (hj : sm_inj 19 ad) (sz : Nat) (σ : sm_S) (x1 : Int32)   : Met l yX6_bits (sm_ws yX6_bits cX6_bits 2 (some .long)) (rmd 1) (va_Pc [.ref (ad 0), .int x1] (sm_Pre g 19 ad (eM g ad) σ sz)) (vp_Sl (fun r => r = f_X6_bits σ x1)) 0 0 (fun _ => False) := by
  generalize hv : f_X6_bits σ x1 = F
  replace hv := hv.symm
  refine sm_mR (by decide) (Nat.le_of_ble_eq_true rfl) hj (eM_lay g ad) (fun p e s m args below meth c C hW hB ls hl => ?_)
  obtain ⟨hC, hr, hlocks⟩ := C
  have hx := hC.1
  have hb := hC.2.1
  have hts := hC.2.2.2.2
  have hown : s.vm.findClass RX6 = some m.cls := hC.2.2.2.1
  have hl : lv_has ls 2 [(0, .ref (ad 0)), (1, .int x1)] := hl
  refine lv_aload_n hx hb dX6_bits_0 rfl (lv_at hl 0 rfl) ?_
  refine lv_iload_n hx hb dX6_bits_1 rfl (lv_at hl 1 rfl) ?_
  refine lv_bipush (v := 8) hx hb dX6_bits_2 (by decide) ?_
  refine sm_ci (sm_runV (rest := []) hC (c_X6_out l g ad hW.2.1 _ x1 8 σ) k_X6_out w_598 (by decide) (sm_pv hW hB (by decide) (eM_0 g ad _) rfl) rfl hl.1 rfl (Nat.le_of_ble_eq_true rfl) dX6_bits_4) ?_
  refine lv_if_eq (tgt := 16) hx hb dX6_bits_7 (by decide) (fun c7 => ?_) (fun c7 => ?_)
  · have hv := hv.trans (if_pos c7)
    refine lv_aload_n hx hb dX6_bits_16 rfl (lv_at hl 0 rfl) ?_
    refine fg_RX6_16 hx hb hts hown hW hB dX6_bits_17 ?_
    refine lv_iload_n hx hb dX6_bits_20 rfl (lv_at hl 1 rfl) ?_
    refine sw_la hx hb hW hB (3) (by decide) (eM_3 g ad) (in_mono (a := 8) (out_in c7 (by decide)) (by decide)) dX6_bits_21 ?_
    exact sm_rl hx hb hr hlocks hv dX6_bits_22
  · have hv := hv.trans (if_neg c7)
    refine lv_ldc2 hx hb hown (hts _ w_795) dX6_bits_10 ?_
    refine lv_goto (tgt := 22) hx hb dX6_bits_13 (by decide) ?_
    exact sm_rl hx hb hr hlocks hv dX6_bits_22
def f_X6_shadow (σ : sm_S) (x1 : Int32) : Int32 := if (f_X6_out x1 8) = 0 then (if (σ.1 4 (Int32.toNatClampNeg x1)) = 0 then ((σ.1 2 (Int32.toNatClampNeg x1)) + 0) else ((σ.1 2 (Int32.toNatClampNeg x1)) + 64)) else ((-1))
set_option maxRecDepth 100000 in
set_option maxHeartbeats 4000000 in
theorem c_X6_shadow (l : Launch) (g : sm_G) (ad : Nat → Nat) (hj : sm_inj 19 ad) (sz : Nat) (σ : sm_S) (x1 : Int32)   : Met l yX6_shadow (sm_ws yX6_shadow cX6_shadow 2 (some .int)) (rmd 1) (va_Pc [.ref (ad 0), .int x1] (sm_Pre g 19 ad (eM g ad) σ sz)) (vp_Si (fun r => r = f_X6_shadow σ x1)) 0 0 (fun _ => False) := by
  generalize hv : f_X6_shadow σ x1 = F
  replace hv := hv.symm
  refine sm_mR (by decide) (Nat.le_of_ble_eq_true rfl) hj (eM_lay g ad) (fun p e s m args below meth c C hW hB ls hl => ?_)
  obtain ⟨hC, hr, hlocks⟩ := C
  have hx := hC.1
  have hb := hC.2.1
  have hts := hC.2.2.2.2
  have hown : s.vm.findClass RX6 = some m.cls := hC.2.2.2.1
  have hl : lv_has ls 2 [(0, .ref (ad 0)), (1, .int x1)] := hl
  refine lv_aload_n hx hb dX6_shadow_0 rfl (lv_at hl 0 rfl) ?_
  refine lv_iload_n hx hb dX6_shadow_1 rfl (lv_at hl 1 rfl) ?_
  refine lv_bipush (v := 8) hx hb dX6_shadow_2 (by decide) ?_
  refine sm_ci (sm_runV (rest := []) hC (c_X6_out l g ad hW.2.1 _ x1 8 σ) k_X6_out w_598 (by decide) (sm_pv hW hB (by decide) (eM_0 g ad _) rfl) rfl hl.1 rfl (Nat.le_of_ble_eq_true rfl) dX6_shadow_4) ?_
  refine lv_if_eq (tgt := 14) hx hb dX6_shadow_7 (by decide) (fun c7 => ?_) (fun c7 => ?_)
  · have hv := hv.trans (if_pos c7)
    refine lv_aload_n hx hb dX6_shadow_14 rfl (lv_at hl 0 rfl) ?_
    refine fg_RX6_13 hx hb hts hown hW hB dX6_shadow_15 ?_
    refine lv_iload_n hx hb dX6_shadow_18 rfl (lv_at hl 1 rfl) ?_
    refine sw_ia hx hb hW hB (2) (by decide) (eM_2 g ad) (in_mono (a := 8) (out_in c7 (by decide)) (by decide)) dX6_shadow_19 ?_
    refine lv_aload_n hx hb dX6_shadow_20 rfl (lv_at hl 0 rfl) ?_
    refine fg_RX6_20 hx hb hts hown hW hB dX6_shadow_21 ?_
    refine lv_iload_n hx hb dX6_shadow_24 rfl (lv_at hl 1 rfl) ?_
    refine sw_za hx hb hW hB (4) (by decide) (eM_4 g ad) (in_mono (a := 8) (out_in c7 (by decide)) (by decide)) dX6_shadow_25 ?_
    refine lv_if_eq (tgt := 34) hx hb dX6_shadow_26 (by decide) (fun c26 => ?_) (fun c26 => ?_)
    · have hv := hv.trans (if_pos c26)
      refine lv_iconst (v := 0) hx hb dX6_shadow_34 (by decide) ?_
      refine lv_iadd hx hb dX6_shadow_35 ?_
      exact sm_ri hx hb hr hlocks hv dX6_shadow_36
    · have hv := hv.trans (if_neg c26)
      refine lv_bipush (v := 64) hx hb dX6_shadow_29 (by decide) ?_
      refine lv_goto (tgt := 35) hx hb dX6_shadow_31 (by decide) ?_
      refine lv_iadd hx hb dX6_shadow_35 ?_
      exact sm_ri hx hb hr hlocks hv dX6_shadow_36
  · have hv := hv.trans (if_neg c7)
    refine lv_iconst (v := -1) hx hb dX6_shadow_10 (by decide) ?_
    refine lv_goto (tgt := 36) hx hb dX6_shadow_11 (by decide) ?_
    exact sm_ri hx hb hr hlocks hv dX6_shadow_36
def f_X6_cell (σ : sm_S) (x1 : Int32) (x2 : Int32) (x3 : Int32) : Int64 := if (f_X6_out x1 4) = 0 then (if (f_X6_out x3 3) = 0 then (if 0 ≤ (σ.1 5 (Int32.toNatClampNeg x1)) then (sm_let (σ.1 5 (Int32.toNatClampNeg x1)) (fun y37_1 => sm_let (((8 : Int32) + (y37_1 * 12)) + x2) (fun y49_2 => if x3 = 2 then (Int32.toInt64 (σ.1 6 (Int32.toNatClampNeg y37_1))) else (if x2 < 0 then 1234567890123456789 else (if x2 < (σ.1 7 (Int32.toNatClampNeg y37_1)) then (if x3 = 0 then (σ.2.1 3 (Int32.toNatClampNeg y49_2)) else (if (σ.1 4 (Int32.toNatClampNeg y49_2)) = 0 then (Int32.toInt64 ((σ.1 2 (Int32.toNatClampNeg y49_2)) + 0)) else (Int32.toInt64 ((σ.1 2 (Int32.toNatClampNeg y49_2)) + 64)))) else 1234567890123456789))))) else 1234567890123456789) else 1234567890123456789) else 1234567890123456789
set_option maxRecDepth 100000 in
set_option maxHeartbeats 4000000 in
theorem c_X6_cell (l : Launch) (g : sm_G) (ad : Nat → Nat) (hj : sm_inj 19 ad) (sz : Nat) (σ : sm_S) (x1 : Int32) (x2 : Int32) (x3 : Int32)  (hI : invM σ) : Met l yX6_cell (sm_ws yX6_cell cX6_cell 6 (some .long)) (rmd 1) (va_Pc [.ref (ad 0), .int x1, .int x2, .int x3] (sm_Pre g 19 ad (eM g ad) σ sz)) (vp_Sl (fun r => r = f_X6_cell σ x1 x2 x3)) 0 0 (fun _ => False) := by
  generalize hv : f_X6_cell σ x1 x2 x3 = F
  replace hv := hv.symm
  refine sm_mR (by decide) (Nat.le_of_ble_eq_true rfl) hj (eM_lay g ad) (fun p e s m args below meth c C hW hB ls hl => ?_)
  obtain ⟨hC, hr, hlocks⟩ := C
  have hx := hC.1
  have hb := hC.2.1
  have hts := hC.2.2.2.2
  have hown : s.vm.findClass RX6 = some m.cls := hC.2.2.2.1
  have hl : lv_has ls 6 [(0, .ref (ad 0)), (1, .int x1), (2, .int x2), (3, .int x3)] := hl
  refine lv_aload_n hx hb dX6_cell_0 rfl (lv_at hl 0 rfl) ?_
  refine lv_iload_n hx hb dX6_cell_1 rfl (lv_at hl 1 rfl) ?_
  refine lv_iconst (v := 4) hx hb dX6_cell_2 (by decide) ?_
  refine sm_ci (sm_runV (rest := []) hC (c_X6_out l g ad hW.2.1 _ x1 4 σ) k_X6_out w_598 (by decide) (sm_pv hW hB (by decide) (eM_0 g ad _) rfl) rfl hl.1 rfl (Nat.le_of_ble_eq_true rfl) dX6_cell_3) ?_
  refine lv_if_ne (tgt := 27) hx hb dX6_cell_6 (by decide) (fun c6 => ?_) (fun c6 => ?_)
  · have hv := hv.trans (if_neg c6)
    refine lv_ldc2 hx hb hown (hts _ w_795) dX6_cell_27 ?_
    exact sm_rl hx hb hr hlocks hv dX6_cell_30
  · have hv := hv.trans (if_pos c6)
    refine lv_aload_n hx hb dX6_cell_9 rfl (lv_at hl 0 rfl) ?_
    refine lv_iload_n hx hb dX6_cell_10 rfl (lv_at hl 3 rfl) ?_
    refine lv_iconst (v := 3) hx hb dX6_cell_11 (by decide) ?_
    refine sm_ci (sm_runV (rest := []) hC (c_X6_out l g ad hW.2.1 _ x3 3 σ) k_X6_out w_598 (by decide) (sm_pv hW hB (by decide) (eM_0 g ad _) rfl) rfl hl.1 rfl (Nat.le_of_ble_eq_true rfl) dX6_cell_12) ?_
    refine lv_if_ne (tgt := 27) hx hb dX6_cell_15 (by decide) (fun c15 => ?_) (fun c15 => ?_)
    · have hv := hv.trans (if_neg c15)
      refine lv_ldc2 hx hb hown (hts _ w_795) dX6_cell_27 ?_
      exact sm_rl hx hb hr hlocks hv dX6_cell_30
    · have hv := hv.trans (if_pos c15)
      refine lv_aload_n hx hb dX6_cell_18 rfl (lv_at hl 0 rfl) ?_
      refine fg_RX6_24 hx hb hts hown hW hB dX6_cell_19 ?_
      refine lv_iload_n hx hb dX6_cell_22 rfl (lv_at hl 1 rfl) ?_
      refine sw_ia hx hb hW hB (5) (by decide) (eM_5 g ad) (out_in c6 (by decide)) dX6_cell_23 ?_
      refine lv_if_ge (tgt := 31) hx hb dX6_cell_24 (by decide) (fun c24 => ?_) (fun c24 => ?_)
      · have hv := hv.trans (if_pos c24)
        refine lv_aload_n hx hb dX6_cell_31 rfl (lv_at hl 0 rfl) ?_
        refine fg_RX6_24 hx hb hts hown hW hB dX6_cell_32 ?_
        refine lv_iload_n hx hb dX6_cell_35 rfl (lv_at hl 1 rfl) ?_
        refine sw_ia hx hb hW hB (5) (by decide) (eM_5 g ad) (out_in c6 (by decide)) dX6_cell_36 ?_
        refine sm_nmi hv (fun y37_1 ey37_1 hv => ?_)
        refine lv_istore (lv' := [(4, .int y37_1), (0, .ref (ad 0)), (1, .int x1), (2, .int x2), (3, .int x3)]) hx hb dX6_cell_37 hl (by decide) rfl (fun ls hl => ?_)
        refine lv_bipush (v := 8) hx hb dX6_cell_39 (by decide) ?_
        refine lv_iload hx hb dX6_cell_41 (lv_at hl 0 rfl) ?_
        refine lv_bipush (v := 12) hx hb dX6_cell_43 (by decide) ?_
        refine lv_imul hx hb dX6_cell_45 ?_
        refine lv_iadd hx hb dX6_cell_46 ?_
        refine lv_iload_n hx hb dX6_cell_47 rfl (lv_at hl 3 rfl) ?_
        refine lv_iadd hx hb dX6_cell_48 ?_
        refine sm_nmi hv (fun y49_2 ey49_2 hv => ?_)
        refine lv_istore (lv' := [(5, .int y49_2), (4, .int y37_1), (0, .ref (ad 0)), (1, .int x1), (2, .int x2), (3, .int x3)]) hx hb dX6_cell_49 hl (by decide) rfl (fun ls hl => ?_)
        refine lv_iload_n hx hb dX6_cell_51 rfl (lv_at hl 5 rfl) ?_
        refine lv_iconst (v := 2) hx hb dX6_cell_52 (by decide) ?_
        refine lv_icmp_ne (tgt := 65) hx hb dX6_cell_53 (by decide) (fun c53 => ?_) (fun c53 => ?_)
        · have hv := hv.trans (if_neg c53)
          refine lv_iload_n hx hb dX6_cell_65 rfl (lv_at hl 4 rfl) ?_
          refine lv_if_lt (tgt := 80) hx hb dX6_cell_66 (by decide) (fun c66 => ?_) (fun c66 => ?_)
          · have hv := hv.trans (if_pos c66)
            refine lv_ldc2 hx hb hown (hts _ w_795) dX6_cell_80 ?_
            exact sm_rl hx hb hr hlocks hv dX6_cell_83
          · have hv := hv.trans (if_neg c66)
            refine lv_iload_n hx hb dX6_cell_69 rfl (lv_at hl 4 rfl) ?_
            refine lv_aload_n hx hb dX6_cell_70 rfl (lv_at hl 2 rfl) ?_
            refine fg_RX6_30 hx hb hts hown hW hB dX6_cell_71 ?_
            refine lv_iload hx hb dX6_cell_74 (lv_at hl 1 rfl) ?_
            refine sw_ia hx hb hW hB (7) (by decide) (eM_7 g ad) (st_in hI (out_in c6 (by decide)) ey37_1 (by rw [ey37_1]; exact c24)) dX6_cell_76 ?_
            refine lv_icmp_lt (tgt := 84) hx hb dX6_cell_77 (by decide) (fun c77 => ?_) (fun c77 => ?_)
            · have hv := hv.trans (if_pos c77)
              refine lv_iload_n hx hb dX6_cell_84 rfl (lv_at hl 5 rfl) ?_
              refine lv_if_ne (tgt := 98) hx hb dX6_cell_85 (by decide) (fun c85 => ?_) (fun c85 => ?_)
              · have hv := hv.trans (if_neg c85)
                refine lv_aload_n hx hb dX6_cell_98 rfl (lv_at hl 2 rfl) ?_
                refine fg_RX6_13 hx hb hts hown hW hB dX6_cell_99 ?_
                refine lv_iload hx hb dX6_cell_102 (lv_at hl 0 rfl) ?_
                refine sw_ia hx hb hW hB (2) (by decide) (eM_2 g ad) (by rw [ey49_2]; exact ld_inI hI (st_in hI (out_in c6 (by decide)) ey37_1 (by rw [ey37_1]; exact c24)) c66 c77) dX6_cell_104 ?_
                refine lv_aload_n hx hb dX6_cell_105 rfl (lv_at hl 2 rfl) ?_
                refine fg_RX6_20 hx hb hts hown hW hB dX6_cell_106 ?_
                refine lv_iload hx hb dX6_cell_109 (lv_at hl 0 rfl) ?_
                refine sw_za hx hb hW hB (4) (by decide) (eM_4 g ad) (by rw [ey49_2]; exact ld_inI hI (st_in hI (out_in c6 (by decide)) ey37_1 (by rw [ey37_1]; exact c24)) c66 c77) dX6_cell_111 ?_
                refine lv_if_eq (tgt := 120) hx hb dX6_cell_112 (by decide) (fun c112 => ?_) (fun c112 => ?_)
                · have hv := hv.trans (if_pos c112)
                  refine lv_iconst (v := 0) hx hb dX6_cell_120 (by decide) ?_
                  refine lv_iadd hx hb dX6_cell_121 ?_
                  refine lv_i2l hx hb dX6_cell_122 rfl ?_
                  exact sm_rl hx hb hr hlocks hv dX6_cell_123
                · have hv := hv.trans (if_neg c112)
                  refine lv_bipush (v := 64) hx hb dX6_cell_115 (by decide) ?_
                  refine lv_goto (tgt := 121) hx hb dX6_cell_117 (by decide) ?_
                  refine lv_iadd hx hb dX6_cell_121 ?_
                  refine lv_i2l hx hb dX6_cell_122 rfl ?_
                  exact sm_rl hx hb hr hlocks hv dX6_cell_123
              · have hv := hv.trans (if_pos c85)
                refine lv_aload_n hx hb dX6_cell_88 rfl (lv_at hl 2 rfl) ?_
                refine fg_RX6_16 hx hb hts hown hW hB dX6_cell_89 ?_
                refine lv_iload hx hb dX6_cell_92 (lv_at hl 0 rfl) ?_
                refine sw_la hx hb hW hB (3) (by decide) (eM_3 g ad) (by rw [ey49_2]; exact ld_inI hI (st_in hI (out_in c6 (by decide)) ey37_1 (by rw [ey37_1]; exact c24)) c66 c77) dX6_cell_94 ?_
                refine lv_goto (tgt := 123) hx hb dX6_cell_95 (by decide) ?_
                exact sm_rl hx hb hr hlocks hv dX6_cell_123
            · have hv := hv.trans (if_neg c77)
              refine lv_ldc2 hx hb hown (hts _ w_795) dX6_cell_80 ?_
              exact sm_rl hx hb hr hlocks hv dX6_cell_83
        · have hv := hv.trans (if_pos c53)
          refine lv_aload_n hx hb dX6_cell_56 rfl (lv_at hl 2 rfl) ?_
          refine fg_RX6_27 hx hb hts hown hW hB dX6_cell_57 ?_
          refine lv_iload hx hb dX6_cell_60 (lv_at hl 1 rfl) ?_
          refine sw_ia hx hb hW hB (6) (by decide) (eM_6 g ad) (st_in hI (out_in c6 (by decide)) ey37_1 (by rw [ey37_1]; exact c24)) dX6_cell_62 ?_
          refine lv_i2l hx hb dX6_cell_63 rfl ?_
          exact sm_rl hx hb hr hlocks hv dX6_cell_64
      · have hv := hv.trans (if_neg c24)
        refine lv_ldc2 hx hb hown (hts _ w_795) dX6_cell_27 ?_
        exact sm_rl hx hb hr hlocks hv dX6_cell_30
def f_X6_pin (σ : sm_S) (x1 : Int32) (x2 : Int32) : Int64 := if x1 < 0 then 1234567890123456789 else (if 15 < x1 then 1234567890123456789 else (if (σ.1 0 0) ≤ x1 then 1234567890123456789 else (if (f_X6_out x2 2) = 0 then (if x2 = 0 then (Int32.toInt64 (σ.1 8 (Int32.toNatClampNeg x1))) else (Int32.toInt64 (σ.1 9 (Int32.toNatClampNeg x1)))) else 1234567890123456789)))
set_option maxRecDepth 100000 in
set_option maxHeartbeats 4000000 in
theorem c_X6_pin (l : Launch) (g : sm_G) (ad : Nat → Nat) (hj : sm_inj 19 ad) (sz : Nat) (σ : sm_S) (x1 : Int32) (x2 : Int32)   : Met l yX6_pin (sm_ws yX6_pin cX6_pin 3 (some .long)) (rmd 1) (va_Pc [.ref (ad 0), .int x1, .int x2] (sm_Pre g 19 ad (eM g ad) σ sz)) (vp_Sl (fun r => r = f_X6_pin σ x1 x2)) 0 0 (fun _ => False) := by
  generalize hv : f_X6_pin σ x1 x2 = F
  replace hv := hv.symm
  refine sm_mR (by decide) (Nat.le_of_ble_eq_true rfl) hj (eM_lay g ad) (fun p e s m args below meth c C hW hB ls hl => ?_)
  obtain ⟨hC, hr, hlocks⟩ := C
  have hx := hC.1
  have hb := hC.2.1
  have hts := hC.2.2.2.2
  have hown : s.vm.findClass RX6 = some m.cls := hC.2.2.2.1
  have hl : lv_has ls 3 [(0, .ref (ad 0)), (1, .int x1), (2, .int x2)] := hl
  refine lv_iload_n hx hb dX6_pin_0 rfl (lv_at hl 1 rfl) ?_
  refine lv_if_lt (tgt := 27) hx hb dX6_pin_1 (by decide) (fun c1 => ?_) (fun c1 => ?_)
  · have hv := hv.trans (if_pos c1)
    refine lv_ldc2 hx hb hown (hts _ w_795) dX6_pin_27 ?_
    exact sm_rl hx hb hr hlocks hv dX6_pin_30
  · have hv := hv.trans (if_neg c1)
    refine lv_iload_n hx hb dX6_pin_4 rfl (lv_at hl 1 rfl) ?_
    refine lv_bipush (v := 15) hx hb dX6_pin_5 (by decide) ?_
    refine lv_icmp_gt (tgt := 27) hx hb dX6_pin_7 (by decide) (fun c7 => ?_) (fun c7 => ?_)
    · have hv := hv.trans (if_pos c7)
      refine lv_ldc2 hx hb hown (hts _ w_795) dX6_pin_27 ?_
      exact sm_rl hx hb hr hlocks hv dX6_pin_30
    · have hv := hv.trans (if_neg c7)
      refine lv_iload_n hx hb dX6_pin_10 rfl (lv_at hl 1 rfl) ?_
      refine lv_aload_n hx hb dX6_pin_11 rfl (lv_at hl 0 rfl) ?_
      refine fg_RX6_48 hx hb hts hown hW hB dX6_pin_12 ?_
      refine lv_icmp_ge (tgt := 27) hx hb dX6_pin_15 (by decide) (fun c15 => ?_) (fun c15 => ?_)
      · have hv := hv.trans (if_pos c15)
        refine lv_ldc2 hx hb hown (hts _ w_795) dX6_pin_27 ?_
        exact sm_rl hx hb hr hlocks hv dX6_pin_30
      · have hv := hv.trans (if_neg c15)
        refine lv_aload_n hx hb dX6_pin_18 rfl (lv_at hl 0 rfl) ?_
        refine lv_iload_n hx hb dX6_pin_19 rfl (lv_at hl 2 rfl) ?_
        refine lv_iconst (v := 2) hx hb dX6_pin_20 (by decide) ?_
        refine sm_ci (sm_runV (rest := []) hC (c_X6_out l g ad hW.2.1 _ x2 2 σ) k_X6_out w_598 (by decide) (sm_pv hW hB (by decide) (eM_0 g ad _) rfl) rfl hl.1 rfl (Nat.le_of_ble_eq_true rfl) dX6_pin_21) ?_
        refine lv_if_eq (tgt := 31) hx hb dX6_pin_24 (by decide) (fun c24 => ?_) (fun c24 => ?_)
        · have hv := hv.trans (if_pos c24)
          refine lv_iload_n hx hb dX6_pin_31 rfl (lv_at hl 2 rfl) ?_
          refine lv_if_ne (tgt := 45) hx hb dX6_pin_32 (by decide) (fun c32 => ?_) (fun c32 => ?_)
          · have hv := hv.trans (if_neg c32)
            refine lv_aload_n hx hb dX6_pin_45 rfl (lv_at hl 0 rfl) ?_
            refine fg_RX6_36 hx hb hts hown hW hB dX6_pin_46 ?_
            refine lv_iload_n hx hb dX6_pin_49 rfl (lv_at hl 1 rfl) ?_
            refine sw_ia hx hb hW hB (9) (by decide) (eM_9 g ad) (in_le c1 c7 (by decide)) dX6_pin_50 ?_
            refine lv_i2l hx hb dX6_pin_51 rfl ?_
            exact sm_rl hx hb hr hlocks hv dX6_pin_52
          · have hv := hv.trans (if_pos c32)
            refine lv_aload_n hx hb dX6_pin_35 rfl (lv_at hl 0 rfl) ?_
            refine fg_RX6_33 hx hb hts hown hW hB dX6_pin_36 ?_
            refine lv_iload_n hx hb dX6_pin_39 rfl (lv_at hl 1 rfl) ?_
            refine sw_ia hx hb hW hB (8) (by decide) (eM_8 g ad) (in_le c1 c7 (by decide)) dX6_pin_40 ?_
            refine lv_i2l hx hb dX6_pin_41 rfl ?_
            refine lv_goto (tgt := 52) hx hb dX6_pin_42 (by decide) ?_
            exact sm_rl hx hb hr hlocks hv dX6_pin_52
        · have hv := hv.trans (if_neg c24)
          refine lv_ldc2 hx hb hown (hts _ w_795) dX6_pin_27 ?_
          exact sm_rl hx hb hr hlocks hv dX6_pin_30
def f_X6_way (σ : sm_S) (x1 : Int32) (x2 : Int32) : Int64 := if x1 < 0 then 1234567890123456789 else (if 15 < x1 then 1234567890123456789 else (if (σ.1 0 1) ≤ x1 then 1234567890123456789 else (if (f_X6_out x2 3) = 0 then (if x2 = 0 then (Int32.toInt64 (σ.1 10 (Int32.toNatClampNeg x1))) else (if x2 = 1 then (Int32.toInt64 (σ.1 11 (Int32.toNatClampNeg x1))) else (Int32.toInt64 (σ.1 12 (Int32.toNatClampNeg x1))))) else 1234567890123456789)))
set_option maxRecDepth 100000 in
set_option maxHeartbeats 4000000 in
theorem c_X6_way (l : Launch) (g : sm_G) (ad : Nat → Nat) (hj : sm_inj 19 ad) (sz : Nat) (σ : sm_S) (x1 : Int32) (x2 : Int32)   : Met l yX6_way (sm_ws yX6_way cX6_way 3 (some .long)) (rmd 1) (va_Pc [.ref (ad 0), .int x1, .int x2] (sm_Pre g 19 ad (eM g ad) σ sz)) (vp_Sl (fun r => r = f_X6_way σ x1 x2)) 0 0 (fun _ => False) := by
  generalize hv : f_X6_way σ x1 x2 = F
  replace hv := hv.symm
  refine sm_mR (by decide) (Nat.le_of_ble_eq_true rfl) hj (eM_lay g ad) (fun p e s m args below meth c C hW hB ls hl => ?_)
  obtain ⟨hC, hr, hlocks⟩ := C
  have hx := hC.1
  have hb := hC.2.1
  have hts := hC.2.2.2.2
  have hown : s.vm.findClass RX6 = some m.cls := hC.2.2.2.1
  have hl : lv_has ls 3 [(0, .ref (ad 0)), (1, .int x1), (2, .int x2)] := hl
  refine lv_iload_n hx hb dX6_way_0 rfl (lv_at hl 1 rfl) ?_
  refine lv_if_lt (tgt := 27) hx hb dX6_way_1 (by decide) (fun c1 => ?_) (fun c1 => ?_)
  · have hv := hv.trans (if_pos c1)
    refine lv_ldc2 hx hb hown (hts _ w_795) dX6_way_27 ?_
    exact sm_rl hx hb hr hlocks hv dX6_way_30
  · have hv := hv.trans (if_neg c1)
    refine lv_iload_n hx hb dX6_way_4 rfl (lv_at hl 1 rfl) ?_
    refine lv_bipush (v := 15) hx hb dX6_way_5 (by decide) ?_
    refine lv_icmp_gt (tgt := 27) hx hb dX6_way_7 (by decide) (fun c7 => ?_) (fun c7 => ?_)
    · have hv := hv.trans (if_pos c7)
      refine lv_ldc2 hx hb hown (hts _ w_795) dX6_way_27 ?_
      exact sm_rl hx hb hr hlocks hv dX6_way_30
    · have hv := hv.trans (if_neg c7)
      refine lv_iload_n hx hb dX6_way_10 rfl (lv_at hl 1 rfl) ?_
      refine lv_aload_n hx hb dX6_way_11 rfl (lv_at hl 0 rfl) ?_
      refine fg_RX6_52 hx hb hts hown hW hB dX6_way_12 ?_
      refine lv_icmp_ge (tgt := 27) hx hb dX6_way_15 (by decide) (fun c15 => ?_) (fun c15 => ?_)
      · have hv := hv.trans (if_pos c15)
        refine lv_ldc2 hx hb hown (hts _ w_795) dX6_way_27 ?_
        exact sm_rl hx hb hr hlocks hv dX6_way_30
      · have hv := hv.trans (if_neg c15)
        refine lv_aload_n hx hb dX6_way_18 rfl (lv_at hl 0 rfl) ?_
        refine lv_iload_n hx hb dX6_way_19 rfl (lv_at hl 2 rfl) ?_
        refine lv_iconst (v := 3) hx hb dX6_way_20 (by decide) ?_
        refine sm_ci (sm_runV (rest := []) hC (c_X6_out l g ad hW.2.1 _ x2 3 σ) k_X6_out w_598 (by decide) (sm_pv hW hB (by decide) (eM_0 g ad _) rfl) rfl hl.1 rfl (Nat.le_of_ble_eq_true rfl) dX6_way_21) ?_
        refine lv_if_eq (tgt := 31) hx hb dX6_way_24 (by decide) (fun c24 => ?_) (fun c24 => ?_)
        · have hv := hv.trans (if_pos c24)
          refine lv_iload_n hx hb dX6_way_31 rfl (lv_at hl 2 rfl) ?_
          refine lv_if_ne (tgt := 45) hx hb dX6_way_32 (by decide) (fun c32 => ?_) (fun c32 => ?_)
          · have hv := hv.trans (if_neg c32)
            refine lv_iload_n hx hb dX6_way_45 rfl (lv_at hl 2 rfl) ?_
            refine lv_iconst (v := 1) hx hb dX6_way_46 (by decide) ?_
            refine lv_icmp_ne (tgt := 60) hx hb dX6_way_47 (by decide) (fun c47 => ?_) (fun c47 => ?_)
            · have hv := hv.trans (if_neg c47)
              refine lv_aload_n hx hb dX6_way_60 rfl (lv_at hl 0 rfl) ?_
              refine fg_RX6_45 hx hb hts hown hW hB dX6_way_61 ?_
              refine lv_iload_n hx hb dX6_way_64 rfl (lv_at hl 1 rfl) ?_
              refine sw_ia hx hb hW hB (12) (by decide) (eM_12 g ad) (in_le c1 c7 (by decide)) dX6_way_65 ?_
              refine lv_i2l hx hb dX6_way_66 rfl ?_
              exact sm_rl hx hb hr hlocks hv dX6_way_67
            · have hv := hv.trans (if_pos c47)
              refine lv_aload_n hx hb dX6_way_50 rfl (lv_at hl 0 rfl) ?_
              refine fg_RX6_42 hx hb hts hown hW hB dX6_way_51 ?_
              refine lv_iload_n hx hb dX6_way_54 rfl (lv_at hl 1 rfl) ?_
              refine sw_ia hx hb hW hB (11) (by decide) (eM_11 g ad) (in_le c1 c7 (by decide)) dX6_way_55 ?_
              refine lv_i2l hx hb dX6_way_56 rfl ?_
              refine lv_goto (tgt := 67) hx hb dX6_way_57 (by decide) ?_
              exact sm_rl hx hb hr hlocks hv dX6_way_67
          · have hv := hv.trans (if_pos c32)
            refine lv_aload_n hx hb dX6_way_35 rfl (lv_at hl 0 rfl) ?_
            refine fg_RX6_39 hx hb hts hown hW hB dX6_way_36 ?_
            refine lv_iload_n hx hb dX6_way_39 rfl (lv_at hl 1 rfl) ?_
            refine sw_ia hx hb hW hB (10) (by decide) (eM_10 g ad) (in_le c1 c7 (by decide)) dX6_way_40 ?_
            refine lv_i2l hx hb dX6_way_41 rfl ?_
            refine lv_goto (tgt := 67) hx hb dX6_way_42 (by decide) ?_
            exact sm_rl hx hb hr hlocks hv dX6_way_67
        · have hv := hv.trans (if_neg c24)
          refine lv_ldc2 hx hb hown (hts _ w_795) dX6_way_27 ?_
          exact sm_rl hx hb hr hlocks hv dX6_way_30
def f_X6_count_22 (K_4 : Int32 → Int32 → Int32) (x1 : Int32) (v3_4 : Int32) (σ : sm_S) (v2_22 : Int32) : Int32 := sm_let (v3_4 + 1) (fun y22_1 => K_4 v2_22 y22_1)
def f_X6_count_4 : Nat → Int32 → sm_S → Int32 → Int32 → Int32
  | 0, _, _, _, _ => default
  | n + 1, x1, σ, v2_4, v3_4 => if 8 ≤ v3_4 then (if x1 = 0 then (σ.1 0 0) else (if x1 = 1 then (σ.1 0 1) else (if x1 = 2 then (σ.1 0 2) else (if x1 = 3 then v2_4 else ((-1)))))) else (if (σ.1 2 (Int32.toNatClampNeg v3_4)) = 0 then (f_X6_count_22 (fun v2_4 v3_4 => f_X6_count_4 n x1 σ v2_4 v3_4) x1 v3_4 σ v2_4) else (sm_let (v2_4 + 1) (fun y19_2 => f_X6_count_22 (fun v2_4 v3_4 => f_X6_count_4 n x1 σ v2_4 v3_4) x1 v3_4 σ y19_2)))
def f_X6_count (σ : sm_S) (x1 : Int32) : Int32 := f_X6_count_4 (((8 : Int32).toInt - Int32.toInt 0).toNat + 1) x1 σ 0 0
set_option maxRecDepth 100000 in
set_option maxHeartbeats 4000000 in
theorem c_X6_count (l : Launch) (g : sm_G) (ad : Nat → Nat) (hj : sm_inj 19 ad) (sz : Nat) (σ : sm_S) (x1 : Int32)   : Met l yX6_count (sm_ws yX6_count cX6_count 4 (some .int)) (rmd 0) (va_Pc [.ref (ad 0), .int x1] (sm_Pre g 19 ad (eM g ad) σ sz)) (vp_Si (fun r => r = f_X6_count σ x1)) 0 0 (fun _ => False) := by
  generalize hv : f_X6_count σ x1 = F
  replace hv := hv.symm
  refine sm_mR (by decide) (Nat.le_of_ble_eq_true rfl) hj (eM_lay g ad) (fun p e s m args below meth c C hW hB ls hl => ?_)
  obtain ⟨hC, hr, hlocks⟩ := C
  have hx := hC.1
  have hb := hC.2.1
  have hts := hC.2.2.2.2
  have hown : s.vm.findClass RX6 = some m.cls := hC.2.2.2.1
  have hl : lv_has ls 4 [(0, .ref (ad 0)), (1, .int x1)] := hl
  refine lv_iconst (v := 0) hx hb dX6_count_0 (by decide) ?_
  refine lv_istore_n (lv' := [(2, .int 0), (0, .ref (ad 0)), (1, .int x1)]) hx hb dX6_count_1 rfl hl (by decide) rfl (fun ls hl => ?_)
  refine lv_iconst (v := 0) hx hb dX6_count_2 (by decide) ?_
  have k_4 : ∀ (n : Nat) (v2_4 : Int32) (v3_4 : Int32) (ls : Array Slot), ¬ v3_4 < 0 → ((8 : Int32).toInt - Int32.toInt v3_4).toNat < n → lv_has ls 4 [(0, .ref (ad 0)), (1, .int x1), (2, .int v2_4), (3, .int v3_4)] → F = f_X6_count_4 n x1 σ v2_4 v3_4 → W p l e (rmd 0) s m args below meth c s.heap [] 0 0 (MQ below (vp_Si (fun r => r = F)) args s 0 0 (fun _ => False)) (F0 m 4 ls []) := by
    intro n
    induction n with
    | zero =>
      intro v2_4 v3_4 ls i0 hme hl hv
      exact absurd hme (Nat.not_lt_zero _)
    | succ n ih =>
      intro v2_4 v3_4 ls i0 hme hl hv
      refine lv_iload_n hx hb dX6_count_4 rfl (lv_at hl 3 rfl) ?_
      refine lv_bipush (v := 8) hx hb dX6_count_5 (by decide) ?_
      refine lv_icmp_ge (tgt := 28) hx hb dX6_count_7 (by decide) (fun c7 => ?_) (fun c7 => ?_)
      · have hv := hv.trans (if_pos c7)
        refine lv_iload_n hx hb dX6_count_28 rfl (lv_at hl 1 rfl) ?_
        refine lv_if_ne (tgt := 39) hx hb dX6_count_29 (by decide) (fun c29 => ?_) (fun c29 => ?_)
        · have hv := hv.trans (if_neg c29)
          refine lv_iload_n hx hb dX6_count_39 rfl (lv_at hl 1 rfl) ?_
          refine lv_iconst (v := 1) hx hb dX6_count_40 (by decide) ?_
          refine lv_icmp_ne (tgt := 51) hx hb dX6_count_41 (by decide) (fun c41 => ?_) (fun c41 => ?_)
          · have hv := hv.trans (if_neg c41)
            refine lv_iload_n hx hb dX6_count_51 rfl (lv_at hl 1 rfl) ?_
            refine lv_iconst (v := 2) hx hb dX6_count_52 (by decide) ?_
            refine lv_icmp_ne (tgt := 63) hx hb dX6_count_53 (by decide) (fun c53 => ?_) (fun c53 => ?_)
            · have hv := hv.trans (if_neg c53)
              refine lv_iload_n hx hb dX6_count_63 rfl (lv_at hl 1 rfl) ?_
              refine lv_iconst (v := 3) hx hb dX6_count_64 (by decide) ?_
              refine lv_icmp_ne (tgt := 72) hx hb dX6_count_65 (by decide) (fun c65 => ?_) (fun c65 => ?_)
              · have hv := hv.trans (if_neg c65)
                refine lv_iconst (v := -1) hx hb dX6_count_72 (by decide) ?_
                exact sm_ri hx hb hr hlocks hv dX6_count_73
              · have hv := hv.trans (if_pos c65)
                refine lv_iload_n hx hb dX6_count_68 rfl (lv_at hl 2 rfl) ?_
                refine lv_goto (tgt := 73) hx hb dX6_count_69 (by decide) ?_
                exact sm_ri hx hb hr hlocks hv dX6_count_73
            · have hv := hv.trans (if_pos c53)
              refine lv_aload_n hx hb dX6_count_56 rfl (lv_at hl 0 rfl) ?_
              refine fg_RX6_55 hx hb hts hown hW hB dX6_count_57 ?_
              refine lv_goto (tgt := 73) hx hb dX6_count_60 (by decide) ?_
              exact sm_ri hx hb hr hlocks hv dX6_count_73
          · have hv := hv.trans (if_pos c41)
            refine lv_aload_n hx hb dX6_count_44 rfl (lv_at hl 0 rfl) ?_
            refine fg_RX6_52 hx hb hts hown hW hB dX6_count_45 ?_
            refine lv_goto (tgt := 73) hx hb dX6_count_48 (by decide) ?_
            exact sm_ri hx hb hr hlocks hv dX6_count_73
        · have hv := hv.trans (if_pos c29)
          refine lv_aload_n hx hb dX6_count_32 rfl (lv_at hl 0 rfl) ?_
          refine fg_RX6_48 hx hb hts hown hW hB dX6_count_33 ?_
          refine lv_goto (tgt := 73) hx hb dX6_count_36 (by decide) ?_
          exact sm_ri hx hb hr hlocks hv dX6_count_73
      · have hv := hv.trans (if_neg c7)
        refine lv_aload_n hx hb dX6_count_10 rfl (lv_at hl 0 rfl) ?_
        refine fg_RX6_13 hx hb hts hown hW hB dX6_count_11 ?_
        refine lv_iload_n hx hb dX6_count_14 rfl (lv_at hl 3 rfl) ?_
        refine sw_ia hx hb hW hB (2) (by decide) (eM_2 g ad) (in_mono (a := 8) (in_ge i0 c7 (by decide)) (by decide)) dX6_count_15 ?_
        have k_22 : ∀ (v2_22 : Int32) (ls : Array Slot), lv_has ls 4 [(0, .ref (ad 0)), (1, .int x1), (2, .int v2_22), (3, .int v3_4)] → F = f_X6_count_22 (fun v2_4 v3_4 => f_X6_count_4 n x1 σ v2_4 v3_4) x1 v3_4 σ v2_22 → W p l e (rmd 0) s m args below meth c s.heap [] 0 0 (MQ below (vp_Si (fun r => r = F)) args s 0 0 (fun _ => False)) (F0 m 22 ls []) := by
          intro v2_22 ls hl hv
          obtain ⟨y22_1, ey22_1, hv⟩ := sm_lt hv
          refine lv_iinc (v := y22_1) (lv' := [(3, .int y22_1), (0, .ref (ad 0)), (1, .int x1), (2, .int v2_22)]) hx hb dX6_count_22 hl (k := 3) rfl (by rw [ey22_1]; rfl) (by decide) rfl (fun ls hl => ?_)
          refine lv_goto (tgt := 4) hx hb dX6_count_25 (by decide) ?_
          exact ih v2_22 y22_1 _ (by rw [ey22_1]; exact nn_inc i0 c7) (by rw [ey22_1]; exact Nat.lt_of_lt_of_le (me_inc c7) (Nat.le_of_lt_succ hme)) (lv_sub hl [1, 2, 3, 0] rfl) hv
        refine lv_if_eq (tgt := 22) hx hb dX6_count_16 (by decide) (fun c16 => ?_) (fun c16 => ?_)
        · have hv := hv.trans (if_pos c16)
          exact k_22 v2_4 _ (lv_sub hl [0, 1, 2, 3] rfl) hv
        · have hv := hv.trans (if_neg c16)
          obtain ⟨y19_2, ey19_2, hv⟩ := sm_lt hv
          refine lv_iinc (v := y19_2) (lv' := [(2, .int y19_2), (0, .ref (ad 0)), (1, .int x1), (3, .int v3_4)]) hx hb dX6_count_19 hl (k := 2) rfl (by rw [ey19_2]; rfl) (by decide) rfl (fun ls hl => ?_)
          exact k_22 y19_2 _ (lv_sub hl [1, 2, 0, 3] rfl) hv
  refine lv_istore_n (lv' := [(3, .int 0), (2, .int 0), (0, .ref (ad 0)), (1, .int x1)]) hx hb dX6_count_3 rfl hl (by decide) rfl (fun ls hl => ?_)
  exact k_4 (((8 : Int32).toInt - Int32.toInt 0).toNat + 1) 0 0 _ (by decide) (Nat.lt_succ_self _) (lv_sub hl [2, 3, 1, 0] rfl) hv
