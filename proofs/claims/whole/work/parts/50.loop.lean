set_option maxHeartbeats 8000000 in
set_option maxRecDepth 100000 in
theorem law_loop {p : Program} {l : Launch} {e : Env} {s : State} {m : MethodId} {below : List Frame} {meth : Method} {c : Code} {g : sm_G} {ad am : Nat → Nat} {b L : Nat} {xs : Nat → Int32} (hL : L ≤ 384) (C0 : lw_At p s m meth c b L xs) (hW : lw_W g ad am s) :
    ∀ (n i : Nat) (x3 : Int32), i ≤ 390 → 391 < i + n → x3 = nI i → ∀ (σ τ : sm_S), Rel σ τ → ∀ (H : Heap) (locs : List Loc), lw_B g ad am s H locs σ τ → ∀ (ls : Array Slot), lv_has ls 4 [(0, .ref b), (1, .ref (ad 0)), (2, .ref (am 0)), (3, .int x3)] → W p l e room_1 s m #[Value.ref b] below meth c H locs 600000 7302250 (lw_Z below #[Value.ref b] s) (F0 m 18 ls []) := by
  obtain ⟨hx, hb, hr, hml, hown, hts, hX, hbl, hlocks, hgv⟩ := C0
  have htsT : ∀ w ∈ sm_T, w.before #[Value.ref b] s = true := fun w h => hts w (List.mem_filter.mp h).1
  have hC : CallFix p m c code 4 s #[Value.ref b] sm_T RL := ⟨hx, hb, hml, hown, htsT⟩
  intro n
  induction n with
  | zero =>
    intro i x3 h1 h2
    exact absurd h2 (by omega)
  | succ n ih =>
    intro i x3 hi hin ex3 σ τ hRel H locs hB ls hl
    refine lv_iload_n hx hb dL_law_18 rfl (lv_at hl 3 rfl) ?_
    refine lv_aload_n hx hb dL_law_19 rfl (lv_at hl 0 rfl) ?_
    refine va_slen hx hb hX hbl (Nat.not_le.mpr hbl) hB.2.2 dL_law_20 ?_
    refine lv_bipush (v := 6) hx hb dL_law_21 (by decide) ?_
    refine lv_isub hx hb dL_law_23 ?_
    refine lv_icmp_gt (tgt := 948) hx hb dL_law_24 (by decide) (fun c24 => ?_) (fun c24 => ?_)
    · refine lv_iconst (v := 1) hx hb dL_law_948 (by decide) ?_
      refine va_forget (fun q hq => hB.2.2.2.2 q hq) ?_
      exact lw_ret hx hb hr hlocks dL_law_949
    · have h6 := lw_six hL ex3 hi c24
      have hi1 : vp_in (x3 + 1) L := lw_ix (k := 1) hL ex3 h6 (by decide)
      obtain ⟨a1, ea1⟩ : ∃ a, a = xs (Int32.toNatClampNeg (x3 + 1)) := ⟨_, rfl⟩
      have hi2 : vp_in (x3 + 2) L := lw_ix (k := 2) hL ex3 h6 (by decide)
      obtain ⟨a2, ea2⟩ : ∃ a, a = xs (Int32.toNatClampNeg (x3 + 2)) := ⟨_, rfl⟩
      have hi3 : vp_in (x3 + 3) L := lw_ix (k := 3) hL ex3 h6 (by decide)
      obtain ⟨a3, ea3⟩ : ∃ a, a = xs (Int32.toNatClampNeg (x3 + 3)) := ⟨_, rfl⟩
      have hi4 : vp_in (x3 + 4) L := lw_ix (k := 4) hL ex3 h6 (by decide)
      obtain ⟨a4, ea4⟩ : ∃ a, a = xs (Int32.toNatClampNeg (x3 + 4)) := ⟨_, rfl⟩
      have hi5 : vp_in (x3 + 5) L := lw_ix (k := 5) hL ex3 h6 (by decide)
      obtain ⟨a5, ea5⟩ : ∃ a, a = xs (Int32.toNatClampNeg (x3 + 5)) := ⟨_, rfl⟩
      obtain ⟨a0, ea0⟩ : ∃ a, a = xs (Int32.toNatClampNeg x3) := ⟨_, rfl⟩
      have k_942 : ∀ (σ τ : sm_S) (H : Heap) (locs : List Loc), Rel σ τ → lw_B g ad am s H locs σ τ → W p l e room_1 s m #[Value.ref b] below meth c H locs 600000 7302250 (lw_Z below #[Value.ref b] s) (F0 m 942 ls []) := by
        intro σ τ H locs hRel hB
        obtain ⟨y, ey⟩ : ∃ y : Int32, y = x3 + 6 := ⟨_, rfl⟩
        refine lv_iinc (v := y) (lv' := [(3, .int y), (0, .ref b), (1, .ref (ad 0)), (2, .ref (am 0))]) hx hb dL_law_942 hl (k := 3) rfl (by rw [ey]; rfl) (by decide) rfl (fun ls hl => ?_)
        refine lv_goto (tgt := 18) hx hb dL_law_945 (by decide) ?_
        exact ih (i + 6) y (by omega) (by omega) (by rw [ey, ex3]; exact nI_add i 6) σ τ hRel H locs hB ls (lv_sub hl [1, 2, 3, 0] rfl)
      refine lv_aload_n hx hb dL_law_27 rfl (lv_at hl 0 rfl) ?_
      refine lv_iload_n hx hb dL_law_28 rfl (lv_at hl 3 rfl) ?_
      refine lw_ld hx hb hX hbl hB.2.2 (lw_in hL ex3 h6) ea0 dL_law_29 ?_
      refine lv_bipush (v := 31) hx hb dL_law_30 (by decide) ?_
      refine lv_iand hx hb dL_law_32 ?_
      refine lv_topi (fun z ez => ?_)
      by_cases c_0 : z = 0
      · refine lv_tableIn (tgt := 128) hx hb dL_law_33 (by rw [c_0]; decide) (by rw [c_0]; decide) (by rw [c_0]; rfl) (by decide) ?_
        refine lv_aload_n hx hb dL_law_128 rfl (lv_at hl 1 rfl) ?_
        refine lv_aload_n hx hb dL_law_129 rfl (lv_at hl 0 rfl) ?_
        refine lv_iload_n hx hb dL_law_130 rfl (lv_at hl 3 rfl) ?_
        refine lv_iconst (v := 1) hx hb dL_law_131 (by decide) ?_
        refine lv_iadd hx hb dL_law_132 ?_
        refine lw_ld hx hb hX hbl hB.2.2 hi1 ea1 dL_law_133 ?_
        refine lv_aload_n hx hb dL_law_134 rfl (lv_at hl 0 rfl) ?_
        refine lv_iload_n hx hb dL_law_135 rfl (lv_at hl 3 rfl) ?_
        refine lv_iconst (v := 2) hx hb dL_law_136 (by decide) ?_
        refine lv_iadd hx hb dL_law_137 ?_
        refine lw_ld hx hb hX hbl hB.2.2 hi2 ea2 dL_law_138 ?_
        refine lv_aload_n hx hb dL_law_139 rfl (lv_at hl 0 rfl) ?_
        refine lv_iload_n hx hb dL_law_140 rfl (lv_at hl 3 rfl) ?_
        refine lv_iconst (v := 3) hx hb dL_law_141 (by decide) ?_
        refine lv_iadd hx hb dL_law_142 ?_
        refine lw_ld hx hb hX hbl hB.2.2 hi3 ea3 dL_law_143 ?_
        refine lv_i2l hx hb dL_law_144 rfl ?_
        refine lv_bipush (v := 32) hx hb dL_law_145 (by decide) ?_
        refine lv_lshl hx hb dL_law_147 rfl ?_
        refine lv_aload_n hx hb dL_law_148 rfl (lv_at hl 0 rfl) ?_
        refine lv_iload_n hx hb dL_law_149 rfl (lv_at hl 3 rfl) ?_
        refine lv_iconst (v := 4) hx hb dL_law_150 (by decide) ?_
        refine lv_iadd hx hb dL_law_151 ?_
        refine lw_ld hx hb hX hbl hB.2.2 hi4 ea4 dL_law_152 ?_
        refine lv_i2l hx hb dL_law_153 rfl ?_
        refine lv_ldc2 hx hb hown (htsT _ w_816) dL_law_154 ?_
        refine lv_land hx hb dL_law_157 ?_
        refine lv_lor hx hb dL_law_158 ?_
        refine lx_ci hW hB (lw_run (rest := []) hC (c_X5_constant l g ad hW.2.1.1 _ σ a1 a2 ((((Int32.toInt64 a3) <<< (Int32.toInt64 32 &&& 63)) ||| ((Int32.toInt64 a4) &&& 4294967295))) ) k_X5_constant w_138 (by decide) (lx_pv hW hB) rfl hl.1 rfl (Nat.le_of_ble_eq_true rfl) dL_law_159) (fun H locs hB => ?_)
        refine lv_aload_n hx hb dL_law_162 rfl (lv_at hl 2 rfl) ?_
        refine lv_aload_n hx hb dL_law_163 rfl (lv_at hl 0 rfl) ?_
        refine lv_iload_n hx hb dL_law_164 rfl (lv_at hl 3 rfl) ?_
        refine lv_iconst (v := 1) hx hb dL_law_165 (by decide) ?_
        refine lv_iadd hx hb dL_law_166 ?_
        refine lw_ld hx hb hX hbl hB.2.2 hi1 ea1 dL_law_167 ?_
        refine lv_aload_n hx hb dL_law_168 rfl (lv_at hl 0 rfl) ?_
        refine lv_iload_n hx hb dL_law_169 rfl (lv_at hl 3 rfl) ?_
        refine lv_iconst (v := 2) hx hb dL_law_170 (by decide) ?_
        refine lv_iadd hx hb dL_law_171 ?_
        refine lw_ld hx hb hX hbl hB.2.2 hi2 ea2 dL_law_172 ?_
        refine lv_aload_n hx hb dL_law_173 rfl (lv_at hl 0 rfl) ?_
        refine lv_iload_n hx hb dL_law_174 rfl (lv_at hl 3 rfl) ?_
        refine lv_iconst (v := 3) hx hb dL_law_175 (by decide) ?_
        refine lv_iadd hx hb dL_law_176 ?_
        refine lw_ld hx hb hX hbl hB.2.2 hi3 ea3 dL_law_177 ?_
        refine lv_i2l hx hb dL_law_178 rfl ?_
        refine lv_bipush (v := 32) hx hb dL_law_179 (by decide) ?_
        refine lv_lshl hx hb dL_law_181 rfl ?_
        refine lv_aload_n hx hb dL_law_182 rfl (lv_at hl 0 rfl) ?_
        refine lv_iload_n hx hb dL_law_183 rfl (lv_at hl 3 rfl) ?_
        refine lv_iconst (v := 4) hx hb dL_law_184 (by decide) ?_
        refine lv_iadd hx hb dL_law_185 ?_
        refine lw_ld hx hb hX hbl hB.2.2 hi4 ea4 dL_law_186 ?_
        refine lv_i2l hx hb dL_law_187 rfl ?_
        refine lv_ldc2 hx hb hown (htsT _ w_816) dL_law_188 ?_
        refine lv_land hx hb dL_law_191 ?_
        refine lv_lor hx hb dL_law_192 ?_
        refine lm_ci hW hB (lw_run (rest := [.int ((f_X5_constant σ a1 a2 ((((Int32.toInt64 a3) <<< (Int32.toInt64 32 &&& 63)) ||| ((Int32.toInt64 a4) &&& 4294967295)))).1)]) hC (c_X6_constant l g am hW.2.1.2 _ τ a1 a2 ((((Int32.toInt64 a3) <<< (Int32.toInt64 32 &&& 63)) ||| ((Int32.toInt64 a4) &&& 4294967295))) ) k_X6_constant w_594 (by decide) (lm_pv hW hB) rfl hl.1 rfl (Nat.le_of_ble_eq_true rfl) dL_law_193) (fun H locs hB => ?_)
        have hs := st_constant hRel a1 a2 ((((Int32.toInt64 a3) <<< (Int32.toInt64 32 &&& 63)) ||| ((Int32.toInt64 a4) &&& 4294967295)))
        refine lv_icmp_eq (tgt := 942) hx hb dL_law_196 (by decide) (fun _ => ?_) (fun cc => absurd hs.1 cc)
        exact k_942 _ _ _ _ hs.2 hB
      · skip
        by_cases c_1 : z = 1
        · refine lv_tableIn (tgt := 201) hx hb dL_law_33 (by rw [c_1]; decide) (by rw [c_1]; decide) (by rw [c_1]; rfl) (by decide) ?_
          refine lv_aload_n hx hb dL_law_201 rfl (lv_at hl 1 rfl) ?_
          refine lv_aload_n hx hb dL_law_202 rfl (lv_at hl 0 rfl) ?_
          refine lv_iload_n hx hb dL_law_203 rfl (lv_at hl 3 rfl) ?_
          refine lv_iconst (v := 1) hx hb dL_law_204 (by decide) ?_
          refine lv_iadd hx hb dL_law_205 ?_
          refine lw_ld hx hb hX hbl hB.2.2 hi1 ea1 dL_law_206 ?_
          refine lv_aload_n hx hb dL_law_207 rfl (lv_at hl 0 rfl) ?_
          refine lv_iload_n hx hb dL_law_208 rfl (lv_at hl 3 rfl) ?_
          refine lv_iconst (v := 2) hx hb dL_law_209 (by decide) ?_
          refine lv_iadd hx hb dL_law_210 ?_
          refine lw_ld hx hb hX hbl hB.2.2 hi2 ea2 dL_law_211 ?_
          refine lv_aload_n hx hb dL_law_212 rfl (lv_at hl 0 rfl) ?_
          refine lv_iload_n hx hb dL_law_213 rfl (lv_at hl 3 rfl) ?_
          refine lv_iconst (v := 3) hx hb dL_law_214 (by decide) ?_
          refine lv_iadd hx hb dL_law_215 ?_
          refine lw_ld hx hb hX hbl hB.2.2 hi3 ea3 dL_law_216 ?_
          refine lv_i2l hx hb dL_law_217 rfl ?_
          refine lv_bipush (v := 32) hx hb dL_law_218 (by decide) ?_
          refine lv_lshl hx hb dL_law_220 rfl ?_
          refine lv_aload_n hx hb dL_law_221 rfl (lv_at hl 0 rfl) ?_
          refine lv_iload_n hx hb dL_law_222 rfl (lv_at hl 3 rfl) ?_
          refine lv_iconst (v := 4) hx hb dL_law_223 (by decide) ?_
          refine lv_iadd hx hb dL_law_224 ?_
          refine lw_ld hx hb hX hbl hB.2.2 hi4 ea4 dL_law_225 ?_
          refine lv_i2l hx hb dL_law_226 rfl ?_
          refine lv_ldc2 hx hb hown (htsT _ w_816) dL_law_227 ?_
          refine lv_land hx hb dL_law_230 ?_
          refine lv_lor hx hb dL_law_231 ?_
          refine lv_aload_n hx hb dL_law_232 rfl (lv_at hl 0 rfl) ?_
          refine lv_iload_n hx hb dL_law_233 rfl (lv_at hl 3 rfl) ?_
          refine lv_iconst (v := 5) hx hb dL_law_234 (by decide) ?_
          refine lv_iadd hx hb dL_law_235 ?_
          refine lw_ld hx hb hX hbl hB.2.2 hi5 ea5 dL_law_236 ?_
          refine lx_ci hW hB (lw_run (rest := []) hC (c_X5_input l g ad hW.2.1.1 _ σ a1 a2 ((((Int32.toInt64 a3) <<< (Int32.toInt64 32 &&& 63)) ||| ((Int32.toInt64 a4) &&& 4294967295))) a5 ) k_X5_input w_170 (by decide) (lx_pv hW hB) rfl hl.1 rfl (Nat.le_of_ble_eq_true rfl) dL_law_237) (fun H locs hB => ?_)
          refine lv_aload_n hx hb dL_law_240 rfl (lv_at hl 2 rfl) ?_
          refine lv_aload_n hx hb dL_law_241 rfl (lv_at hl 0 rfl) ?_
          refine lv_iload_n hx hb dL_law_242 rfl (lv_at hl 3 rfl) ?_
          refine lv_iconst (v := 1) hx hb dL_law_243 (by decide) ?_
          refine lv_iadd hx hb dL_law_244 ?_
          refine lw_ld hx hb hX hbl hB.2.2 hi1 ea1 dL_law_245 ?_
          refine lv_aload_n hx hb dL_law_246 rfl (lv_at hl 0 rfl) ?_
          refine lv_iload_n hx hb dL_law_247 rfl (lv_at hl 3 rfl) ?_
          refine lv_iconst (v := 2) hx hb dL_law_248 (by decide) ?_
          refine lv_iadd hx hb dL_law_249 ?_
          refine lw_ld hx hb hX hbl hB.2.2 hi2 ea2 dL_law_250 ?_
          refine lv_aload_n hx hb dL_law_251 rfl (lv_at hl 0 rfl) ?_
          refine lv_iload_n hx hb dL_law_252 rfl (lv_at hl 3 rfl) ?_
          refine lv_iconst (v := 3) hx hb dL_law_253 (by decide) ?_
          refine lv_iadd hx hb dL_law_254 ?_
          refine lw_ld hx hb hX hbl hB.2.2 hi3 ea3 dL_law_255 ?_
          refine lv_i2l hx hb dL_law_256 rfl ?_
          refine lv_bipush (v := 32) hx hb dL_law_257 (by decide) ?_
          refine lv_lshl hx hb dL_law_259 rfl ?_
          refine lv_aload_n hx hb dL_law_260 rfl (lv_at hl 0 rfl) ?_
          refine lv_iload_n hx hb dL_law_261 rfl (lv_at hl 3 rfl) ?_
          refine lv_iconst (v := 4) hx hb dL_law_262 (by decide) ?_
          refine lv_iadd hx hb dL_law_263 ?_
          refine lw_ld hx hb hX hbl hB.2.2 hi4 ea4 dL_law_264 ?_
          refine lv_i2l hx hb dL_law_265 rfl ?_
          refine lv_ldc2 hx hb hown (htsT _ w_816) dL_law_266 ?_
          refine lv_land hx hb dL_law_269 ?_
          refine lv_lor hx hb dL_law_270 ?_
          refine lv_aload_n hx hb dL_law_271 rfl (lv_at hl 0 rfl) ?_
          refine lv_iload_n hx hb dL_law_272 rfl (lv_at hl 3 rfl) ?_
          refine lv_iconst (v := 5) hx hb dL_law_273 (by decide) ?_
          refine lv_iadd hx hb dL_law_274 ?_
          refine lw_ld hx hb hX hbl hB.2.2 hi5 ea5 dL_law_275 ?_
          refine lm_ci hW hB (lw_run (rest := [.int ((f_X5_input σ a1 a2 ((((Int32.toInt64 a3) <<< (Int32.toInt64 32 &&& 63)) ||| ((Int32.toInt64 a4) &&& 4294967295))) a5).1)]) hC (c_X6_input l g am hW.2.1.2 _ τ a1 a2 ((((Int32.toInt64 a3) <<< (Int32.toInt64 32 &&& 63)) ||| ((Int32.toInt64 a4) &&& 4294967295))) a5 ) k_X6_input w_634 (by decide) (lm_pv hW hB) rfl hl.1 rfl (Nat.le_of_ble_eq_true rfl) dL_law_276) (fun H locs hB => ?_)
          have hs := st_input hRel a1 a2 ((((Int32.toInt64 a3) <<< (Int32.toInt64 32 &&& 63)) ||| ((Int32.toInt64 a4) &&& 4294967295))) a5
          refine lv_icmp_eq (tgt := 942) hx hb dL_law_279 (by decide) (fun _ => ?_) (fun cc => absurd hs.1 cc)
          exact k_942 _ _ _ _ hs.2 hB
        · skip
          by_cases c_2 : z = 2
          · refine lv_tableIn (tgt := 284) hx hb dL_law_33 (by rw [c_2]; decide) (by rw [c_2]; decide) (by rw [c_2]; rfl) (by decide) ?_
            refine lv_aload_n hx hb dL_law_284 rfl (lv_at hl 1 rfl) ?_
            refine lv_aload_n hx hb dL_law_285 rfl (lv_at hl 0 rfl) ?_
            refine lv_iload_n hx hb dL_law_286 rfl (lv_at hl 3 rfl) ?_
            refine lv_iconst (v := 1) hx hb dL_law_287 (by decide) ?_
            refine lv_iadd hx hb dL_law_288 ?_
            refine lw_ld hx hb hX hbl hB.2.2 hi1 ea1 dL_law_289 ?_
            refine lv_aload_n hx hb dL_law_290 rfl (lv_at hl 0 rfl) ?_
            refine lv_iload_n hx hb dL_law_291 rfl (lv_at hl 3 rfl) ?_
            refine lv_iconst (v := 2) hx hb dL_law_292 (by decide) ?_
            refine lv_iadd hx hb dL_law_293 ?_
            refine lw_ld hx hb hX hbl hB.2.2 hi2 ea2 dL_law_294 ?_
            refine lv_aload_n hx hb dL_law_295 rfl (lv_at hl 0 rfl) ?_
            refine lv_iload_n hx hb dL_law_296 rfl (lv_at hl 3 rfl) ?_
            refine lv_iconst (v := 3) hx hb dL_law_297 (by decide) ?_
            refine lv_iadd hx hb dL_law_298 ?_
            refine lw_ld hx hb hX hbl hB.2.2 hi3 ea3 dL_law_299 ?_
            refine lx_ci hW hB (lw_run (rest := []) hC (c_X5_one l g ad hW.2.1.1 _ σ a1 a2 a3 ) k_X5_one w_174 (by decide) (lx_pv hW hB) rfl hl.1 rfl (Nat.le_of_ble_eq_true rfl) dL_law_300) (fun H locs hB => ?_)
            refine lv_aload_n hx hb dL_law_303 rfl (lv_at hl 2 rfl) ?_
            refine lv_aload_n hx hb dL_law_304 rfl (lv_at hl 0 rfl) ?_
            refine lv_iload_n hx hb dL_law_305 rfl (lv_at hl 3 rfl) ?_
            refine lv_iconst (v := 1) hx hb dL_law_306 (by decide) ?_
            refine lv_iadd hx hb dL_law_307 ?_
            refine lw_ld hx hb hX hbl hB.2.2 hi1 ea1 dL_law_308 ?_
            refine lv_aload_n hx hb dL_law_309 rfl (lv_at hl 0 rfl) ?_
            refine lv_iload_n hx hb dL_law_310 rfl (lv_at hl 3 rfl) ?_
            refine lv_iconst (v := 2) hx hb dL_law_311 (by decide) ?_
            refine lv_iadd hx hb dL_law_312 ?_
            refine lw_ld hx hb hX hbl hB.2.2 hi2 ea2 dL_law_313 ?_
            refine lv_aload_n hx hb dL_law_314 rfl (lv_at hl 0 rfl) ?_
            refine lv_iload_n hx hb dL_law_315 rfl (lv_at hl 3 rfl) ?_
            refine lv_iconst (v := 3) hx hb dL_law_316 (by decide) ?_
            refine lv_iadd hx hb dL_law_317 ?_
            refine lw_ld hx hb hX hbl hB.2.2 hi3 ea3 dL_law_318 ?_
            refine lm_ci hW hB (lw_run (rest := [.int ((f_X5_one σ a1 a2 a3).1)]) hC (c_X6_one l g am hW.2.1.2 _ τ a1 a2 a3 ) k_X6_one w_638 (by decide) (lm_pv hW hB) rfl hl.1 rfl (Nat.le_of_ble_eq_true rfl) dL_law_319) (fun H locs hB => ?_)
            have hs := st_one hRel a1 a2 a3
            refine lv_icmp_eq (tgt := 942) hx hb dL_law_322 (by decide) (fun _ => ?_) (fun cc => absurd hs.1 cc)
            exact k_942 _ _ _ _ hs.2 hB
          · skip
            by_cases c_3 : z = 3
            · refine lv_tableIn (tgt := 327) hx hb dL_law_33 (by rw [c_3]; decide) (by rw [c_3]; decide) (by rw [c_3]; rfl) (by decide) ?_
              refine lv_aload_n hx hb dL_law_327 rfl (lv_at hl 1 rfl) ?_
              refine lv_aload_n hx hb dL_law_328 rfl (lv_at hl 0 rfl) ?_
              refine lv_iload_n hx hb dL_law_329 rfl (lv_at hl 3 rfl) ?_
              refine lv_iconst (v := 1) hx hb dL_law_330 (by decide) ?_
              refine lv_iadd hx hb dL_law_331 ?_
              refine lw_ld hx hb hX hbl hB.2.2 hi1 ea1 dL_law_332 ?_
              refine lv_aload_n hx hb dL_law_333 rfl (lv_at hl 0 rfl) ?_
              refine lv_iload_n hx hb dL_law_334 rfl (lv_at hl 3 rfl) ?_
              refine lv_iconst (v := 2) hx hb dL_law_335 (by decide) ?_
              refine lv_iadd hx hb dL_law_336 ?_
              refine lw_ld hx hb hX hbl hB.2.2 hi2 ea2 dL_law_337 ?_
              refine lv_aload_n hx hb dL_law_338 rfl (lv_at hl 0 rfl) ?_
              refine lv_iload_n hx hb dL_law_339 rfl (lv_at hl 3 rfl) ?_
              refine lv_iconst (v := 3) hx hb dL_law_340 (by decide) ?_
              refine lv_iadd hx hb dL_law_341 ?_
              refine lw_ld hx hb hX hbl hB.2.2 hi3 ea3 dL_law_342 ?_
              refine lv_aload_n hx hb dL_law_343 rfl (lv_at hl 0 rfl) ?_
              refine lv_iload_n hx hb dL_law_344 rfl (lv_at hl 3 rfl) ?_
              refine lv_iconst (v := 4) hx hb dL_law_345 (by decide) ?_
              refine lv_iadd hx hb dL_law_346 ?_
              refine lw_ld hx hb hX hbl hB.2.2 hi4 ea4 dL_law_347 ?_
              refine lx_ci hW hB (lw_run (rest := []) hC (c_X5_two l g ad hW.2.1.1 _ σ a1 a2 a3 a4 ) k_X5_two w_291 (by decide) (lx_pv hW hB) rfl hl.1 rfl (Nat.le_of_ble_eq_true rfl) dL_law_348) (fun H locs hB => ?_)
              refine lv_aload_n hx hb dL_law_351 rfl (lv_at hl 2 rfl) ?_
              refine lv_aload_n hx hb dL_law_352 rfl (lv_at hl 0 rfl) ?_
              refine lv_iload_n hx hb dL_law_353 rfl (lv_at hl 3 rfl) ?_
              refine lv_iconst (v := 1) hx hb dL_law_354 (by decide) ?_
              refine lv_iadd hx hb dL_law_355 ?_
              refine lw_ld hx hb hX hbl hB.2.2 hi1 ea1 dL_law_356 ?_
              refine lv_aload_n hx hb dL_law_357 rfl (lv_at hl 0 rfl) ?_
              refine lv_iload_n hx hb dL_law_358 rfl (lv_at hl 3 rfl) ?_
              refine lv_iconst (v := 2) hx hb dL_law_359 (by decide) ?_
              refine lv_iadd hx hb dL_law_360 ?_
              refine lw_ld hx hb hX hbl hB.2.2 hi2 ea2 dL_law_361 ?_
              refine lv_aload_n hx hb dL_law_362 rfl (lv_at hl 0 rfl) ?_
              refine lv_iload_n hx hb dL_law_363 rfl (lv_at hl 3 rfl) ?_
              refine lv_iconst (v := 3) hx hb dL_law_364 (by decide) ?_
              refine lv_iadd hx hb dL_law_365 ?_
              refine lw_ld hx hb hX hbl hB.2.2 hi3 ea3 dL_law_366 ?_
              refine lv_aload_n hx hb dL_law_367 rfl (lv_at hl 0 rfl) ?_
              refine lv_iload_n hx hb dL_law_368 rfl (lv_at hl 3 rfl) ?_
              refine lv_iconst (v := 4) hx hb dL_law_369 (by decide) ?_
              refine lv_iadd hx hb dL_law_370 ?_
              refine lw_ld hx hb hX hbl hB.2.2 hi4 ea4 dL_law_371 ?_
              refine lm_ci hW hB (lw_run (rest := [.int ((f_X5_two σ a1 a2 a3 a4).1)]) hC (c_X6_two l g am hW.2.1.2 _ τ a1 a2 a3 a4 ) k_X6_two w_692 (by decide) (lm_pv hW hB) rfl hl.1 rfl (Nat.le_of_ble_eq_true rfl) dL_law_372) (fun H locs hB => ?_)
              have hs := st_two hRel a1 a2 a3 a4
              refine lv_icmp_eq (tgt := 942) hx hb dL_law_375 (by decide) (fun _ => ?_) (fun cc => absurd hs.1 cc)
              exact k_942 _ _ _ _ hs.2 hB
            · skip
              by_cases c_4 : z = 4
              · refine lv_tableIn (tgt := 380) hx hb dL_law_33 (by rw [c_4]; decide) (by rw [c_4]; decide) (by rw [c_4]; rfl) (by decide) ?_
                refine lv_aload_n hx hb dL_law_380 rfl (lv_at hl 1 rfl) ?_
                refine lv_aload_n hx hb dL_law_381 rfl (lv_at hl 0 rfl) ?_
                refine lv_iload_n hx hb dL_law_382 rfl (lv_at hl 3 rfl) ?_
                refine lv_iconst (v := 1) hx hb dL_law_383 (by decide) ?_
                refine lv_iadd hx hb dL_law_384 ?_
                refine lw_ld hx hb hX hbl hB.2.2 hi1 ea1 dL_law_385 ?_
                refine lv_aload_n hx hb dL_law_386 rfl (lv_at hl 0 rfl) ?_
                refine lv_iload_n hx hb dL_law_387 rfl (lv_at hl 3 rfl) ?_
                refine lv_iconst (v := 2) hx hb dL_law_388 (by decide) ?_
                refine lv_iadd hx hb dL_law_389 ?_
                refine lw_ld hx hb hX hbl hB.2.2 hi2 ea2 dL_law_390 ?_
                refine lx_ci hW hB (lw_run (rest := []) hC (c_X5_move l g ad hW.2.1.1 _ σ a1 a2 ) k_X5_move w_408 (by decide) (lx_pv hW hB) rfl hl.1 rfl (Nat.le_of_ble_eq_true rfl) dL_law_391) (fun H locs hB => ?_)
                refine lv_aload_n hx hb dL_law_394 rfl (lv_at hl 2 rfl) ?_
                refine lv_aload_n hx hb dL_law_395 rfl (lv_at hl 0 rfl) ?_
                refine lv_iload_n hx hb dL_law_396 rfl (lv_at hl 3 rfl) ?_
                refine lv_iconst (v := 1) hx hb dL_law_397 (by decide) ?_
                refine lv_iadd hx hb dL_law_398 ?_
                refine lw_ld hx hb hX hbl hB.2.2 hi1 ea1 dL_law_399 ?_
                refine lv_aload_n hx hb dL_law_400 rfl (lv_at hl 0 rfl) ?_
                refine lv_iload_n hx hb dL_law_401 rfl (lv_at hl 3 rfl) ?_
                refine lv_iconst (v := 2) hx hb dL_law_402 (by decide) ?_
                refine lv_iadd hx hb dL_law_403 ?_
                refine lw_ld hx hb hX hbl hB.2.2 hi2 ea2 dL_law_404 ?_
                refine lm_ci hW hB (lw_run (rest := [.int ((f_X5_move σ a1 a2).1)]) hC (c_X6_move l g am hW.2.1.2 _ τ a1 a2 ) k_X6_move w_738 (by decide) (lm_pv hW hB) rfl hl.1 rfl (Nat.le_of_ble_eq_true rfl) dL_law_405) (fun H locs hB => ?_)
                have hs := st_move hRel a1 a2
                refine lv_icmp_eq (tgt := 942) hx hb dL_law_408 (by decide) (fun _ => ?_) (fun cc => absurd hs.1 cc)
                exact k_942 _ _ _ _ hs.2 hB
              · skip
                by_cases c_5 : z = 5
                · refine lv_tableIn (tgt := 413) hx hb dL_law_33 (by rw [c_5]; decide) (by rw [c_5]; decide) (by rw [c_5]; rfl) (by decide) ?_
                  refine lv_aload_n hx hb dL_law_413 rfl (lv_at hl 1 rfl) ?_
                  refine lv_aload_n hx hb dL_law_414 rfl (lv_at hl 0 rfl) ?_
                  refine lv_iload_n hx hb dL_law_415 rfl (lv_at hl 3 rfl) ?_
                  refine lv_iconst (v := 1) hx hb dL_law_416 (by decide) ?_
                  refine lv_iadd hx hb dL_law_417 ?_
                  refine lw_ld hx hb hX hbl hB.2.2 hi1 ea1 dL_law_418 ?_
                  refine lv_aload_n hx hb dL_law_419 rfl (lv_at hl 0 rfl) ?_
                  refine lv_iload_n hx hb dL_law_420 rfl (lv_at hl 3 rfl) ?_
                  refine lv_iconst (v := 2) hx hb dL_law_421 (by decide) ?_
                  refine lv_iadd hx hb dL_law_422 ?_
                  refine lw_ld hx hb hX hbl hB.2.2 hi2 ea2 dL_law_423 ?_
                  refine lv_aload_n hx hb dL_law_424 rfl (lv_at hl 0 rfl) ?_
                  refine lv_iload_n hx hb dL_law_425 rfl (lv_at hl 3 rfl) ?_
                  refine lv_iconst (v := 3) hx hb dL_law_426 (by decide) ?_
                  refine lv_iadd hx hb dL_law_427 ?_
                  refine lw_ld hx hb hX hbl hB.2.2 hi3 ea3 dL_law_428 ?_
                  refine lx_ci hW hB (lw_run (rest := []) hC (c_X5_array l g ad hW.2.1.1 _ σ a1 a2 a3 hRel.ix) k_X5_array w_412 (by decide) (lx_pv hW hB) rfl hl.1 rfl (Nat.le_of_ble_eq_true rfl) dL_law_429) (fun H locs hB => ?_)
                  refine lv_aload_n hx hb dL_law_432 rfl (lv_at hl 2 rfl) ?_
                  refine lv_aload_n hx hb dL_law_433 rfl (lv_at hl 0 rfl) ?_
                  refine lv_iload_n hx hb dL_law_434 rfl (lv_at hl 3 rfl) ?_
                  refine lv_iconst (v := 1) hx hb dL_law_435 (by decide) ?_
                  refine lv_iadd hx hb dL_law_436 ?_
                  refine lw_ld hx hb hX hbl hB.2.2 hi1 ea1 dL_law_437 ?_
                  refine lv_aload_n hx hb dL_law_438 rfl (lv_at hl 0 rfl) ?_
                  refine lv_iload_n hx hb dL_law_439 rfl (lv_at hl 3 rfl) ?_
                  refine lv_iconst (v := 2) hx hb dL_law_440 (by decide) ?_
                  refine lv_iadd hx hb dL_law_441 ?_
                  refine lw_ld hx hb hX hbl hB.2.2 hi2 ea2 dL_law_442 ?_
                  refine lv_aload_n hx hb dL_law_443 rfl (lv_at hl 0 rfl) ?_
                  refine lv_iload_n hx hb dL_law_444 rfl (lv_at hl 3 rfl) ?_
                  refine lv_iconst (v := 3) hx hb dL_law_445 (by decide) ?_
                  refine lv_iadd hx hb dL_law_446 ?_
                  refine lw_ld hx hb hX hbl hB.2.2 hi3 ea3 dL_law_447 ?_
                  refine lm_ci hW hB (lw_run (rest := [.int ((f_X5_array σ a1 a2 a3).1)]) hC (c_X6_array l g am hW.2.1.2 _ τ a1 a2 a3 hRel.im) k_X6_array w_742 (by decide) (lm_pv hW hB) rfl hl.1 rfl (Nat.le_of_ble_eq_true rfl) dL_law_448) (fun H locs hB => ?_)
                  have hs := st_array hRel a1 a2 a3
                  refine lv_icmp_eq (tgt := 942) hx hb dL_law_451 (by decide) (fun _ => ?_) (fun cc => absurd hs.1 cc)
                  exact k_942 _ _ _ _ hs.2 hB
                · skip
                  by_cases c_6 : z = 6
                  · refine lv_tableIn (tgt := 456) hx hb dL_law_33 (by rw [c_6]; decide) (by rw [c_6]; decide) (by rw [c_6]; rfl) (by decide) ?_
                    refine lv_aload_n hx hb dL_law_456 rfl (lv_at hl 1 rfl) ?_
                    refine lv_aload_n hx hb dL_law_457 rfl (lv_at hl 0 rfl) ?_
                    refine lv_iload_n hx hb dL_law_458 rfl (lv_at hl 3 rfl) ?_
                    refine lv_iconst (v := 1) hx hb dL_law_459 (by decide) ?_
                    refine lv_iadd hx hb dL_law_460 ?_
                    refine lw_ld hx hb hX hbl hB.2.2 hi1 ea1 dL_law_461 ?_
                    refine lx_ci hW hB (lw_run (rest := []) hC (c_X5_drop l g ad hW.2.1.1 _ σ a1 ) k_X5_drop w_433 (by decide) (lx_pv hW hB) rfl hl.1 rfl (Nat.le_of_ble_eq_true rfl) dL_law_462) (fun H locs hB => ?_)
                    refine lv_aload_n hx hb dL_law_465 rfl (lv_at hl 2 rfl) ?_
                    refine lv_aload_n hx hb dL_law_466 rfl (lv_at hl 0 rfl) ?_
                    refine lv_iload_n hx hb dL_law_467 rfl (lv_at hl 3 rfl) ?_
                    refine lv_iconst (v := 1) hx hb dL_law_468 (by decide) ?_
                    refine lv_iadd hx hb dL_law_469 ?_
                    refine lw_ld hx hb hX hbl hB.2.2 hi1 ea1 dL_law_470 ?_
                    refine lm_ci hW hB (lw_run (rest := [.int ((f_X5_drop σ a1).1)]) hC (c_X6_drop l g am hW.2.1.2 _ τ a1 ) k_X6_drop w_751 (by decide) (lm_pv hW hB) rfl hl.1 rfl (Nat.le_of_ble_eq_true rfl) dL_law_471) (fun H locs hB => ?_)
                    have hs := st_drop hRel a1
                    refine lv_icmp_eq (tgt := 942) hx hb dL_law_474 (by decide) (fun _ => ?_) (fun cc => absurd hs.1 cc)
                    exact k_942 _ _ _ _ hs.2 hB
                  · skip
                    by_cases c_7 : z = 7
                    · refine lv_tableIn (tgt := 479) hx hb dL_law_33 (by rw [c_7]; decide) (by rw [c_7]; decide) (by rw [c_7]; rfl) (by decide) ?_
                      refine lv_aload_n hx hb dL_law_479 rfl (lv_at hl 1 rfl) ?_
                      refine lv_aload_n hx hb dL_law_480 rfl (lv_at hl 0 rfl) ?_
                      refine lv_iload_n hx hb dL_law_481 rfl (lv_at hl 3 rfl) ?_
                      refine lv_iconst (v := 1) hx hb dL_law_482 (by decide) ?_
                      refine lv_iadd hx hb dL_law_483 ?_
                      refine lw_ld hx hb hX hbl hB.2.2 hi1 ea1 dL_law_484 ?_
                      refine lv_aload_n hx hb dL_law_485 rfl (lv_at hl 0 rfl) ?_
                      refine lv_iload_n hx hb dL_law_486 rfl (lv_at hl 3 rfl) ?_
                      refine lv_iconst (v := 2) hx hb dL_law_487 (by decide) ?_
                      refine lv_iadd hx hb dL_law_488 ?_
                      refine lw_ld hx hb hX hbl hB.2.2 hi2 ea2 dL_law_489 ?_
                      refine lx_ci hW hB (lw_run (rest := []) hC (c_X5_share l g ad hW.2.1.1 _ σ a1 a2 hRel.ix) k_X5_share w_437 (by decide) (lx_pv hW hB) rfl hl.1 rfl (Nat.le_of_ble_eq_true rfl) dL_law_490) (fun H locs hB => ?_)
                      refine lv_aload_n hx hb dL_law_493 rfl (lv_at hl 2 rfl) ?_
                      refine lv_aload_n hx hb dL_law_494 rfl (lv_at hl 0 rfl) ?_
                      refine lv_iload_n hx hb dL_law_495 rfl (lv_at hl 3 rfl) ?_
                      refine lv_iconst (v := 1) hx hb dL_law_496 (by decide) ?_
                      refine lv_iadd hx hb dL_law_497 ?_
                      refine lw_ld hx hb hX hbl hB.2.2 hi1 ea1 dL_law_498 ?_
                      refine lv_aload_n hx hb dL_law_499 rfl (lv_at hl 0 rfl) ?_
                      refine lv_iload_n hx hb dL_law_500 rfl (lv_at hl 3 rfl) ?_
                      refine lv_iconst (v := 2) hx hb dL_law_501 (by decide) ?_
                      refine lv_iadd hx hb dL_law_502 ?_
                      refine lw_ld hx hb hX hbl hB.2.2 hi2 ea2 dL_law_503 ?_
                      refine lm_ci hW hB (lw_run (rest := [.int ((f_X5_share σ a1 a2).1)]) hC (c_X6_share l g am hW.2.1.2 _ τ a1 a2 ) k_X6_share w_755 (by decide) (lm_pv hW hB) rfl hl.1 rfl (Nat.le_of_ble_eq_true rfl) dL_law_504) (fun H locs hB => ?_)
                      have hs := st_share hRel a1 a2
                      refine lv_icmp_eq (tgt := 942) hx hb dL_law_507 (by decide) (fun _ => ?_) (fun cc => absurd hs.1 cc)
                      exact k_942 _ _ _ _ hs.2 hB
                    · skip
                      by_cases c_8 : z = 8
                      · refine lv_tableIn (tgt := 512) hx hb dL_law_33 (by rw [c_8]; decide) (by rw [c_8]; decide) (by rw [c_8]; rfl) (by decide) ?_
                        refine lv_aload_n hx hb dL_law_512 rfl (lv_at hl 1 rfl) ?_
                        refine lv_aload_n hx hb dL_law_513 rfl (lv_at hl 0 rfl) ?_
                        refine lv_iload_n hx hb dL_law_514 rfl (lv_at hl 3 rfl) ?_
                        refine lv_iconst (v := 1) hx hb dL_law_515 (by decide) ?_
                        refine lv_iadd hx hb dL_law_516 ?_
                        refine lw_ld hx hb hX hbl hB.2.2 hi1 ea1 dL_law_517 ?_
                        refine lv_aload_n hx hb dL_law_518 rfl (lv_at hl 0 rfl) ?_
                        refine lv_iload_n hx hb dL_law_519 rfl (lv_at hl 3 rfl) ?_
                        refine lv_iconst (v := 2) hx hb dL_law_520 (by decide) ?_
                        refine lv_iadd hx hb dL_law_521 ?_
                        refine lw_ld hx hb hX hbl hB.2.2 hi2 ea2 dL_law_522 ?_
                        refine lv_aload_n hx hb dL_law_523 rfl (lv_at hl 0 rfl) ?_
                        refine lv_iload_n hx hb dL_law_524 rfl (lv_at hl 3 rfl) ?_
                        refine lv_iconst (v := 3) hx hb dL_law_525 (by decide) ?_
                        refine lv_iadd hx hb dL_law_526 ?_
                        refine lw_ld hx hb hX hbl hB.2.2 hi3 ea3 dL_law_527 ?_
                        refine lx_ci hW hB (lw_run (rest := []) hC (c_X5_load l g ad hW.2.1.1 _ σ a1 a2 a3 hRel.ix) k_X5_load w_441 (by decide) (lx_pv hW hB) rfl hl.1 rfl (Nat.le_of_ble_eq_true rfl) dL_law_528) (fun H locs hB => ?_)
                        refine lv_aload_n hx hb dL_law_531 rfl (lv_at hl 2 rfl) ?_
                        refine lv_aload_n hx hb dL_law_532 rfl (lv_at hl 0 rfl) ?_
                        refine lv_iload_n hx hb dL_law_533 rfl (lv_at hl 3 rfl) ?_
                        refine lv_iconst (v := 1) hx hb dL_law_534 (by decide) ?_
                        refine lv_iadd hx hb dL_law_535 ?_
                        refine lw_ld hx hb hX hbl hB.2.2 hi1 ea1 dL_law_536 ?_
                        refine lv_aload_n hx hb dL_law_537 rfl (lv_at hl 0 rfl) ?_
                        refine lv_iload_n hx hb dL_law_538 rfl (lv_at hl 3 rfl) ?_
                        refine lv_iconst (v := 2) hx hb dL_law_539 (by decide) ?_
                        refine lv_iadd hx hb dL_law_540 ?_
                        refine lw_ld hx hb hX hbl hB.2.2 hi2 ea2 dL_law_541 ?_
                        refine lv_aload_n hx hb dL_law_542 rfl (lv_at hl 0 rfl) ?_
                        refine lv_iload_n hx hb dL_law_543 rfl (lv_at hl 3 rfl) ?_
                        refine lv_iconst (v := 3) hx hb dL_law_544 (by decide) ?_
                        refine lv_iadd hx hb dL_law_545 ?_
                        refine lw_ld hx hb hX hbl hB.2.2 hi3 ea3 dL_law_546 ?_
                        refine lm_ci hW hB (lw_run (rest := [.int ((f_X5_load σ a1 a2 a3).1)]) hC (c_X6_load l g am hW.2.1.2 _ τ a1 a2 a3 hRel.im) k_X6_load w_759 (by decide) (lm_pv hW hB) rfl hl.1 rfl (Nat.le_of_ble_eq_true rfl) dL_law_547) (fun H locs hB => ?_)
                        have hs := st_load hRel a1 a2 a3
                        refine lv_icmp_eq (tgt := 942) hx hb dL_law_550 (by decide) (fun _ => ?_) (fun cc => absurd hs.1 cc)
                        exact k_942 _ _ _ _ hs.2 hB
                      · skip
                        by_cases c_9 : z = 9
                        · refine lv_tableIn (tgt := 555) hx hb dL_law_33 (by rw [c_9]; decide) (by rw [c_9]; decide) (by rw [c_9]; rfl) (by decide) ?_
                          refine lv_aload_n hx hb dL_law_555 rfl (lv_at hl 1 rfl) ?_
                          refine lv_aload_n hx hb dL_law_556 rfl (lv_at hl 0 rfl) ?_
                          refine lv_iload_n hx hb dL_law_557 rfl (lv_at hl 3 rfl) ?_
                          refine lv_iconst (v := 1) hx hb dL_law_558 (by decide) ?_
                          refine lv_iadd hx hb dL_law_559 ?_
                          refine lw_ld hx hb hX hbl hB.2.2 hi1 ea1 dL_law_560 ?_
                          refine lv_aload_n hx hb dL_law_561 rfl (lv_at hl 0 rfl) ?_
                          refine lv_iload_n hx hb dL_law_562 rfl (lv_at hl 3 rfl) ?_
                          refine lv_iconst (v := 2) hx hb dL_law_563 (by decide) ?_
                          refine lv_iadd hx hb dL_law_564 ?_
                          refine lw_ld hx hb hX hbl hB.2.2 hi2 ea2 dL_law_565 ?_
                          refine lv_aload_n hx hb dL_law_566 rfl (lv_at hl 0 rfl) ?_
                          refine lv_iload_n hx hb dL_law_567 rfl (lv_at hl 3 rfl) ?_
                          refine lv_iconst (v := 3) hx hb dL_law_568 (by decide) ?_
                          refine lv_iadd hx hb dL_law_569 ?_
                          refine lw_ld hx hb hX hbl hB.2.2 hi3 ea3 dL_law_570 ?_
                          refine lx_ci hW hB (lw_run (rest := []) hC (c_X5_store l g ad hW.2.1.1 _ σ a1 a2 a3 hRel.ix) k_X5_store w_449 (by decide) (lx_pv hW hB) rfl hl.1 rfl (Nat.le_of_ble_eq_true rfl) dL_law_571) (fun H locs hB => ?_)
                          refine lv_aload_n hx hb dL_law_574 rfl (lv_at hl 2 rfl) ?_
                          refine lv_aload_n hx hb dL_law_575 rfl (lv_at hl 0 rfl) ?_
                          refine lv_iload_n hx hb dL_law_576 rfl (lv_at hl 3 rfl) ?_
                          refine lv_iconst (v := 1) hx hb dL_law_577 (by decide) ?_
                          refine lv_iadd hx hb dL_law_578 ?_
                          refine lw_ld hx hb hX hbl hB.2.2 hi1 ea1 dL_law_579 ?_
                          refine lv_aload_n hx hb dL_law_580 rfl (lv_at hl 0 rfl) ?_
                          refine lv_iload_n hx hb dL_law_581 rfl (lv_at hl 3 rfl) ?_
                          refine lv_iconst (v := 2) hx hb dL_law_582 (by decide) ?_
                          refine lv_iadd hx hb dL_law_583 ?_
                          refine lw_ld hx hb hX hbl hB.2.2 hi2 ea2 dL_law_584 ?_
                          refine lv_aload_n hx hb dL_law_585 rfl (lv_at hl 0 rfl) ?_
                          refine lv_iload_n hx hb dL_law_586 rfl (lv_at hl 3 rfl) ?_
                          refine lv_iconst (v := 3) hx hb dL_law_587 (by decide) ?_
                          refine lv_iadd hx hb dL_law_588 ?_
                          refine lw_ld hx hb hX hbl hB.2.2 hi3 ea3 dL_law_589 ?_
                          refine lm_ci hW hB (lw_run (rest := [.int ((f_X5_store σ a1 a2 a3).1)]) hC (c_X6_store l g am hW.2.1.2 _ τ a1 a2 a3 hRel.im) k_X6_store w_767 (by decide) (lm_pv hW hB) rfl hl.1 rfl (Nat.le_of_ble_eq_true rfl) dL_law_590) (fun H locs hB => ?_)
                          have hs := st_store hRel a1 a2 a3
                          refine lv_icmp_eq (tgt := 942) hx hb dL_law_593 (by decide) (fun _ => ?_) (fun cc => absurd hs.1 cc)
                          exact k_942 _ _ _ _ hs.2 hB
                        · skip
                          by_cases c_10 : z = 10
                          · refine lv_tableIn (tgt := 598) hx hb dL_law_33 (by rw [c_10]; decide) (by rw [c_10]; decide) (by rw [c_10]; rfl) (by decide) ?_
                            refine lv_aload_n hx hb dL_law_598 rfl (lv_at hl 1 rfl) ?_
                            refine lv_aload_n hx hb dL_law_599 rfl (lv_at hl 0 rfl) ?_
                            refine lv_iload_n hx hb dL_law_600 rfl (lv_at hl 3 rfl) ?_
                            refine lv_iconst (v := 1) hx hb dL_law_601 (by decide) ?_
                            refine lv_iadd hx hb dL_law_602 ?_
                            refine lw_ld hx hb hX hbl hB.2.2 hi1 ea1 dL_law_603 ?_
                            refine lv_aload_n hx hb dL_law_604 rfl (lv_at hl 0 rfl) ?_
                            refine lv_iload_n hx hb dL_law_605 rfl (lv_at hl 3 rfl) ?_
                            refine lv_iconst (v := 2) hx hb dL_law_606 (by decide) ?_
                            refine lv_iadd hx hb dL_law_607 ?_
                            refine lw_ld hx hb hX hbl hB.2.2 hi2 ea2 dL_law_608 ?_
                            refine lx_ci hW hB (lw_run (rest := []) hC (c_X5_length l g ad hW.2.1.1 _ σ a1 a2 hRel.ix) k_X5_length w_462 (by decide) (lx_pv hW hB) rfl hl.1 rfl (Nat.le_of_ble_eq_true rfl) dL_law_609) (fun H locs hB => ?_)
                            refine lv_aload_n hx hb dL_law_612 rfl (lv_at hl 2 rfl) ?_
                            refine lv_aload_n hx hb dL_law_613 rfl (lv_at hl 0 rfl) ?_
                            refine lv_iload_n hx hb dL_law_614 rfl (lv_at hl 3 rfl) ?_
                            refine lv_iconst (v := 1) hx hb dL_law_615 (by decide) ?_
                            refine lv_iadd hx hb dL_law_616 ?_
                            refine lw_ld hx hb hX hbl hB.2.2 hi1 ea1 dL_law_617 ?_
                            refine lv_aload_n hx hb dL_law_618 rfl (lv_at hl 0 rfl) ?_
                            refine lv_iload_n hx hb dL_law_619 rfl (lv_at hl 3 rfl) ?_
                            refine lv_iconst (v := 2) hx hb dL_law_620 (by decide) ?_
                            refine lv_iadd hx hb dL_law_621 ?_
                            refine lw_ld hx hb hX hbl hB.2.2 hi2 ea2 dL_law_622 ?_
                            refine lm_ci hW hB (lw_run (rest := [.int ((f_X5_length σ a1 a2).1)]) hC (c_X6_length l g am hW.2.1.2 _ τ a1 a2 hRel.im) k_X6_length w_775 (by decide) (lm_pv hW hB) rfl hl.1 rfl (Nat.le_of_ble_eq_true rfl) dL_law_623) (fun H locs hB => ?_)
                            have hs := st_length hRel a1 a2
                            refine lv_icmp_eq (tgt := 942) hx hb dL_law_626 (by decide) (fun _ => ?_) (fun cc => absurd hs.1 cc)
                            exact k_942 _ _ _ _ hs.2 hB
                          · skip
                            by_cases c_11 : z = 11
                            · refine lv_tableIn (tgt := 631) hx hb dL_law_33 (by rw [c_11]; decide) (by rw [c_11]; decide) (by rw [c_11]; rfl) (by decide) ?_
                              refine lv_aload_n hx hb dL_law_631 rfl (lv_at hl 1 rfl) ?_
                              refine lv_aload_n hx hb dL_law_632 rfl (lv_at hl 0 rfl) ?_
                              refine lv_iload_n hx hb dL_law_633 rfl (lv_at hl 3 rfl) ?_
                              refine lv_iconst (v := 1) hx hb dL_law_634 (by decide) ?_
                              refine lv_iadd hx hb dL_law_635 ?_
                              refine lw_ld hx hb hX hbl hB.2.2 hi1 ea1 dL_law_636 ?_
                              refine lv_aload_n hx hb dL_law_637 rfl (lv_at hl 0 rfl) ?_
                              refine lv_iload_n hx hb dL_law_638 rfl (lv_at hl 3 rfl) ?_
                              refine lv_iconst (v := 2) hx hb dL_law_639 (by decide) ?_
                              refine lv_iadd hx hb dL_law_640 ?_
                              refine lw_ld hx hb hX hbl hB.2.2 hi2 ea2 dL_law_641 ?_
                              refine lv_aload_n hx hb dL_law_642 rfl (lv_at hl 0 rfl) ?_
                              refine lv_iload_n hx hb dL_law_643 rfl (lv_at hl 3 rfl) ?_
                              refine lv_iconst (v := 3) hx hb dL_law_644 (by decide) ?_
                              refine lv_iadd hx hb dL_law_645 ?_
                              refine lw_ld hx hb hX hbl hB.2.2 hi3 ea3 dL_law_646 ?_
                              refine lv_aload_n hx hb dL_law_647 rfl (lv_at hl 0 rfl) ?_
                              refine lv_iload_n hx hb dL_law_648 rfl (lv_at hl 3 rfl) ?_
                              refine lv_iconst (v := 4) hx hb dL_law_649 (by decide) ?_
                              refine lv_iadd hx hb dL_law_650 ?_
                              refine lw_ld hx hb hX hbl hB.2.2 hi4 ea4 dL_law_651 ?_
                              refine lv_aload_n hx hb dL_law_652 rfl (lv_at hl 0 rfl) ?_
                              refine lv_iload_n hx hb dL_law_653 rfl (lv_at hl 3 rfl) ?_
                              refine lv_iconst (v := 5) hx hb dL_law_654 (by decide) ?_
                              refine lv_iadd hx hb dL_law_655 ?_
                              refine lw_ld hx hb hX hbl hB.2.2 hi5 ea5 dL_law_656 ?_
                              refine lx_ci hW hB (lw_run (rest := []) hC (c_X5_copy l g ad hW.2.1.1 _ σ a1 a2 a3 a4 a5 hRel.ix) k_X5_copy w_466 (by decide) (lx_pv hW hB) rfl hl.1 rfl (Nat.le_of_ble_eq_true rfl) dL_law_657) (fun H locs hB => ?_)
                              refine lv_aload_n hx hb dL_law_660 rfl (lv_at hl 2 rfl) ?_
                              refine lv_aload_n hx hb dL_law_661 rfl (lv_at hl 0 rfl) ?_
                              refine lv_iload_n hx hb dL_law_662 rfl (lv_at hl 3 rfl) ?_
                              refine lv_iconst (v := 1) hx hb dL_law_663 (by decide) ?_
                              refine lv_iadd hx hb dL_law_664 ?_
                              refine lw_ld hx hb hX hbl hB.2.2 hi1 ea1 dL_law_665 ?_
                              refine lv_aload_n hx hb dL_law_666 rfl (lv_at hl 0 rfl) ?_
                              refine lv_iload_n hx hb dL_law_667 rfl (lv_at hl 3 rfl) ?_
                              refine lv_iconst (v := 2) hx hb dL_law_668 (by decide) ?_
                              refine lv_iadd hx hb dL_law_669 ?_
                              refine lw_ld hx hb hX hbl hB.2.2 hi2 ea2 dL_law_670 ?_
                              refine lv_aload_n hx hb dL_law_671 rfl (lv_at hl 0 rfl) ?_
                              refine lv_iload_n hx hb dL_law_672 rfl (lv_at hl 3 rfl) ?_
                              refine lv_iconst (v := 3) hx hb dL_law_673 (by decide) ?_
                              refine lv_iadd hx hb dL_law_674 ?_
                              refine lw_ld hx hb hX hbl hB.2.2 hi3 ea3 dL_law_675 ?_
                              refine lv_aload_n hx hb dL_law_676 rfl (lv_at hl 0 rfl) ?_
                              refine lv_iload_n hx hb dL_law_677 rfl (lv_at hl 3 rfl) ?_
                              refine lv_iconst (v := 4) hx hb dL_law_678 (by decide) ?_
                              refine lv_iadd hx hb dL_law_679 ?_
                              refine lw_ld hx hb hX hbl hB.2.2 hi4 ea4 dL_law_680 ?_
                              refine lv_aload_n hx hb dL_law_681 rfl (lv_at hl 0 rfl) ?_
                              refine lv_iload_n hx hb dL_law_682 rfl (lv_at hl 3 rfl) ?_
                              refine lv_iconst (v := 5) hx hb dL_law_683 (by decide) ?_
                              refine lv_iadd hx hb dL_law_684 ?_
                              refine lw_ld hx hb hX hbl hB.2.2 hi5 ea5 dL_law_685 ?_
                              refine lm_ci hW hB (lw_run (rest := [.int ((f_X5_copy σ a1 a2 a3 a4 a5).1)]) hC (c_X6_copy l g am hW.2.1.2 _ τ a1 a2 a3 a4 a5 hRel.im) k_X6_copy w_779 (by decide) (lm_pv hW hB) rfl hl.1 rfl (Nat.le_of_ble_eq_true rfl) dL_law_686) (fun H locs hB => ?_)
                              have hs := st_copy hRel a1 a2 a3 a4 a5
                              refine lv_icmp_eq (tgt := 942) hx hb dL_law_689 (by decide) (fun _ => ?_) (fun cc => absurd hs.1 cc)
                              exact k_942 _ _ _ _ hs.2 hB
                            · skip
                              by_cases c_12 : z = 12
                              · refine lv_tableIn (tgt := 694) hx hb dL_law_33 (by rw [c_12]; decide) (by rw [c_12]; decide) (by rw [c_12]; rfl) (by decide) ?_
                                refine lv_aload_n hx hb dL_law_694 rfl (lv_at hl 1 rfl) ?_
                                refine lv_aload_n hx hb dL_law_695 rfl (lv_at hl 0 rfl) ?_
                                refine lv_iload_n hx hb dL_law_696 rfl (lv_at hl 3 rfl) ?_
                                refine lv_iconst (v := 1) hx hb dL_law_697 (by decide) ?_
                                refine lv_iadd hx hb dL_law_698 ?_
                                refine lw_ld hx hb hX hbl hB.2.2 hi1 ea1 dL_law_699 ?_
                                refine lv_aload_n hx hb dL_law_700 rfl (lv_at hl 0 rfl) ?_
                                refine lv_iload_n hx hb dL_law_701 rfl (lv_at hl 3 rfl) ?_
                                refine lv_iconst (v := 2) hx hb dL_law_702 (by decide) ?_
                                refine lv_iadd hx hb dL_law_703 ?_
                                refine lw_ld hx hb hX hbl hB.2.2 hi2 ea2 dL_law_704 ?_
                                refine lv_aload_n hx hb dL_law_705 rfl (lv_at hl 0 rfl) ?_
                                refine lv_iload_n hx hb dL_law_706 rfl (lv_at hl 3 rfl) ?_
                                refine lv_iconst (v := 3) hx hb dL_law_707 (by decide) ?_
                                refine lv_iadd hx hb dL_law_708 ?_
                                refine lw_ld hx hb hX hbl hB.2.2 hi3 ea3 dL_law_709 ?_
                                refine lx_ci hW hB (lw_run (rest := []) hC (c_X5_branch l g ad hW.2.1.1 _ σ a1 a2 a3 ) k_X5_branch w_477 (by decide) (lx_pv hW hB) rfl hl.1 rfl (Nat.le_of_ble_eq_true rfl) dL_law_710) (fun H locs hB => ?_)
                                refine lv_aload_n hx hb dL_law_713 rfl (lv_at hl 2 rfl) ?_
                                refine lv_aload_n hx hb dL_law_714 rfl (lv_at hl 0 rfl) ?_
                                refine lv_iload_n hx hb dL_law_715 rfl (lv_at hl 3 rfl) ?_
                                refine lv_iconst (v := 1) hx hb dL_law_716 (by decide) ?_
                                refine lv_iadd hx hb dL_law_717 ?_
                                refine lw_ld hx hb hX hbl hB.2.2 hi1 ea1 dL_law_718 ?_
                                refine lv_aload_n hx hb dL_law_719 rfl (lv_at hl 0 rfl) ?_
                                refine lv_iload_n hx hb dL_law_720 rfl (lv_at hl 3 rfl) ?_
                                refine lv_iconst (v := 2) hx hb dL_law_721 (by decide) ?_
                                refine lv_iadd hx hb dL_law_722 ?_
                                refine lw_ld hx hb hX hbl hB.2.2 hi2 ea2 dL_law_723 ?_
                                refine lv_aload_n hx hb dL_law_724 rfl (lv_at hl 0 rfl) ?_
                                refine lv_iload_n hx hb dL_law_725 rfl (lv_at hl 3 rfl) ?_
                                refine lv_iconst (v := 3) hx hb dL_law_726 (by decide) ?_
                                refine lv_iadd hx hb dL_law_727 ?_
                                refine lw_ld hx hb hX hbl hB.2.2 hi3 ea3 dL_law_728 ?_
                                refine lm_ci hW hB (lw_run (rest := [.int ((f_X5_branch σ a1 a2 a3).1)]) hC (c_X6_branch l g am hW.2.1.2 _ τ a1 a2 a3 ) k_X6_branch w_783 (by decide) (lm_pv hW hB) rfl hl.1 rfl (Nat.le_of_ble_eq_true rfl) dL_law_729) (fun H locs hB => ?_)
                                have hs := st_branch hRel a1 a2 a3
                                refine lv_icmp_eq (tgt := 942) hx hb dL_law_732 (by decide) (fun _ => ?_) (fun cc => absurd hs.1 cc)
                                exact k_942 _ _ _ _ hs.2 hB
                              · skip
                                by_cases c_13 : z = 13
                                · refine lv_tableIn (tgt := 737) hx hb dL_law_33 (by rw [c_13]; decide) (by rw [c_13]; decide) (by rw [c_13]; rfl) (by decide) ?_
                                  refine lv_aload_n hx hb dL_law_737 rfl (lv_at hl 1 rfl) ?_
                                  refine lv_aload_n hx hb dL_law_738 rfl (lv_at hl 0 rfl) ?_
                                  refine lv_iload_n hx hb dL_law_739 rfl (lv_at hl 3 rfl) ?_
                                  refine lv_iconst (v := 1) hx hb dL_law_740 (by decide) ?_
                                  refine lv_iadd hx hb dL_law_741 ?_
                                  refine lw_ld hx hb hX hbl hB.2.2 hi1 ea1 dL_law_742 ?_
                                  refine lr_i (lw_run (rest := []) hC (c_X5_kind l g ad hW.2.1.1 _ σ a1 ) k_X5_kind w_484 (by decide) (lx_pv hW hB) rfl hl.1 rfl (Nat.le_of_ble_eq_true rfl) dL_law_743) ?_
                                  refine lv_aload_n hx hb dL_law_746 rfl (lv_at hl 2 rfl) ?_
                                  refine lv_aload_n hx hb dL_law_747 rfl (lv_at hl 0 rfl) ?_
                                  refine lv_iload_n hx hb dL_law_748 rfl (lv_at hl 3 rfl) ?_
                                  refine lv_iconst (v := 1) hx hb dL_law_749 (by decide) ?_
                                  refine lv_iadd hx hb dL_law_750 ?_
                                  refine lw_ld hx hb hX hbl hB.2.2 hi1 ea1 dL_law_751 ?_
                                  refine lr_i (lw_run (rest := [.int (f_X5_kind σ a1)]) hC (c_X6_kind l g am hW.2.1.2 _ τ a1 ) k_X6_kind w_787 (by decide) (lm_pv hW hB) rfl hl.1 rfl (Nat.le_of_ble_eq_true rfl) dL_law_752) ?_
                                  have hs := st_kind hRel a1
                                  refine lv_icmp_eq (tgt := 942) hx hb dL_law_755 (by decide) (fun _ => ?_) (fun cc => absurd hs cc)
                                  exact k_942 _ _ _ _ hRel hB
                                · skip
                                  by_cases c_14 : z = 14
                                  · refine lv_tableIn (tgt := 760) hx hb dL_law_33 (by rw [c_14]; decide) (by rw [c_14]; decide) (by rw [c_14]; rfl) (by decide) ?_
                                    refine lv_aload_n hx hb dL_law_760 rfl (lv_at hl 1 rfl) ?_
                                    refine lv_aload_n hx hb dL_law_761 rfl (lv_at hl 0 rfl) ?_
                                    refine lv_iload_n hx hb dL_law_762 rfl (lv_at hl 3 rfl) ?_
                                    refine lv_iconst (v := 1) hx hb dL_law_763 (by decide) ?_
                                    refine lv_iadd hx hb dL_law_764 ?_
                                    refine lw_ld hx hb hX hbl hB.2.2 hi1 ea1 dL_law_765 ?_
                                    refine lr_l (lw_run (rest := []) hC (c_X5_bits l g ad hW.2.1.1 _ σ a1 ) k_X5_bits w_488 (by decide) (lx_pv hW hB) rfl hl.1 rfl (Nat.le_of_ble_eq_true rfl) dL_law_766) ?_
                                    refine lv_aload_n hx hb dL_law_769 rfl (lv_at hl 2 rfl) ?_
                                    refine lv_aload_n hx hb dL_law_770 rfl (lv_at hl 0 rfl) ?_
                                    refine lv_iload_n hx hb dL_law_771 rfl (lv_at hl 3 rfl) ?_
                                    refine lv_iconst (v := 1) hx hb dL_law_772 (by decide) ?_
                                    refine lv_iadd hx hb dL_law_773 ?_
                                    refine lw_ld hx hb hX hbl hB.2.2 hi1 ea1 dL_law_774 ?_
                                    refine lr_l (lw_run (rest := [.long (f_X5_bits σ a1)]) hC (c_X6_bits l g am hW.2.1.2 _ τ a1 ) k_X6_bits w_791 (by decide) (lm_pv hW hB) rfl hl.1 rfl (Nat.le_of_ble_eq_true rfl) dL_law_775) ?_
                                    have hs := st_bits hRel a1
                                    refine lc_eq (tgt := 942) hx hb dL_law_778 dL_law_779 (by decide) (fun _ => ?_) (fun cc => absurd hs cc)
                                    exact k_942 _ _ _ _ hRel hB
                                  · skip
                                    by_cases c_15 : z = 15
                                    · refine lv_tableIn (tgt := 784) hx hb dL_law_33 (by rw [c_15]; decide) (by rw [c_15]; decide) (by rw [c_15]; rfl) (by decide) ?_
                                      refine lv_aload_n hx hb dL_law_784 rfl (lv_at hl 1 rfl) ?_
                                      refine lv_aload_n hx hb dL_law_785 rfl (lv_at hl 0 rfl) ?_
                                      refine lv_iload_n hx hb dL_law_786 rfl (lv_at hl 3 rfl) ?_
                                      refine lv_iconst (v := 1) hx hb dL_law_787 (by decide) ?_
                                      refine lv_iadd hx hb dL_law_788 ?_
                                      refine lw_ld hx hb hX hbl hB.2.2 hi1 ea1 dL_law_789 ?_
                                      refine lr_i (lw_run (rest := []) hC (c_X5_shadow l g ad hW.2.1.1 _ σ a1 ) k_X5_shadow w_493 (by decide) (lx_pv hW hB) rfl hl.1 rfl (Nat.le_of_ble_eq_true rfl) dL_law_790) ?_
                                      refine lv_aload_n hx hb dL_law_793 rfl (lv_at hl 2 rfl) ?_
                                      refine lv_aload_n hx hb dL_law_794 rfl (lv_at hl 0 rfl) ?_
                                      refine lv_iload_n hx hb dL_law_795 rfl (lv_at hl 3 rfl) ?_
                                      refine lv_iconst (v := 1) hx hb dL_law_796 (by decide) ?_
                                      refine lv_iadd hx hb dL_law_797 ?_
                                      refine lw_ld hx hb hX hbl hB.2.2 hi1 ea1 dL_law_798 ?_
                                      refine lr_i (lw_run (rest := [.int (f_X5_shadow σ a1)]) hC (c_X6_shadow l g am hW.2.1.2 _ τ a1 ) k_X6_shadow w_796 (by decide) (lm_pv hW hB) rfl hl.1 rfl (Nat.le_of_ble_eq_true rfl) dL_law_799) ?_
                                      have hs := st_shadow hRel a1
                                      refine lv_icmp_eq (tgt := 942) hx hb dL_law_802 (by decide) (fun _ => ?_) (fun cc => absurd hs cc)
                                      exact k_942 _ _ _ _ hRel hB
                                    · skip
                                      by_cases c_16 : z = 16
                                      · refine lv_tableIn (tgt := 807) hx hb dL_law_33 (by rw [c_16]; decide) (by rw [c_16]; decide) (by rw [c_16]; rfl) (by decide) ?_
                                        refine lv_aload_n hx hb dL_law_807 rfl (lv_at hl 1 rfl) ?_
                                        refine lv_aload_n hx hb dL_law_808 rfl (lv_at hl 0 rfl) ?_
                                        refine lv_iload_n hx hb dL_law_809 rfl (lv_at hl 3 rfl) ?_
                                        refine lv_iconst (v := 1) hx hb dL_law_810 (by decide) ?_
                                        refine lv_iadd hx hb dL_law_811 ?_
                                        refine lw_ld hx hb hX hbl hB.2.2 hi1 ea1 dL_law_812 ?_
                                        refine lv_aload_n hx hb dL_law_813 rfl (lv_at hl 0 rfl) ?_
                                        refine lv_iload_n hx hb dL_law_814 rfl (lv_at hl 3 rfl) ?_
                                        refine lv_iconst (v := 2) hx hb dL_law_815 (by decide) ?_
                                        refine lv_iadd hx hb dL_law_816 ?_
                                        refine lw_ld hx hb hX hbl hB.2.2 hi2 ea2 dL_law_817 ?_
                                        refine lv_aload_n hx hb dL_law_818 rfl (lv_at hl 0 rfl) ?_
                                        refine lv_iload_n hx hb dL_law_819 rfl (lv_at hl 3 rfl) ?_
                                        refine lv_iconst (v := 3) hx hb dL_law_820 (by decide) ?_
                                        refine lv_iadd hx hb dL_law_821 ?_
                                        refine lw_ld hx hb hX hbl hB.2.2 hi3 ea3 dL_law_822 ?_
                                        refine lr_l (lw_run (rest := []) hC (c_X5_cell l g ad hW.2.1.1 _ σ a1 a2 a3 hRel.ix) k_X5_cell w_497 (by decide) (lx_pv hW hB) rfl hl.1 rfl (Nat.le_of_ble_eq_true rfl) dL_law_823) ?_
                                        refine lv_aload_n hx hb dL_law_826 rfl (lv_at hl 2 rfl) ?_
                                        refine lv_aload_n hx hb dL_law_827 rfl (lv_at hl 0 rfl) ?_
                                        refine lv_iload_n hx hb dL_law_828 rfl (lv_at hl 3 rfl) ?_
                                        refine lv_iconst (v := 1) hx hb dL_law_829 (by decide) ?_
                                        refine lv_iadd hx hb dL_law_830 ?_
                                        refine lw_ld hx hb hX hbl hB.2.2 hi1 ea1 dL_law_831 ?_
                                        refine lv_aload_n hx hb dL_law_832 rfl (lv_at hl 0 rfl) ?_
                                        refine lv_iload_n hx hb dL_law_833 rfl (lv_at hl 3 rfl) ?_
                                        refine lv_iconst (v := 2) hx hb dL_law_834 (by decide) ?_
                                        refine lv_iadd hx hb dL_law_835 ?_
                                        refine lw_ld hx hb hX hbl hB.2.2 hi2 ea2 dL_law_836 ?_
                                        refine lv_aload_n hx hb dL_law_837 rfl (lv_at hl 0 rfl) ?_
                                        refine lv_iload_n hx hb dL_law_838 rfl (lv_at hl 3 rfl) ?_
                                        refine lv_iconst (v := 3) hx hb dL_law_839 (by decide) ?_
                                        refine lv_iadd hx hb dL_law_840 ?_
                                        refine lw_ld hx hb hX hbl hB.2.2 hi3 ea3 dL_law_841 ?_
                                        refine lr_l (lw_run (rest := [.long (f_X5_cell σ a1 a2 a3)]) hC (c_X6_cell l g am hW.2.1.2 _ τ a1 a2 a3 hRel.im) k_X6_cell w_800 (by decide) (lm_pv hW hB) rfl hl.1 rfl (Nat.le_of_ble_eq_true rfl) dL_law_842) ?_
                                        have hs := st_cell hRel a1 a2 a3
                                        refine lc_eq (tgt := 942) hx hb dL_law_845 dL_law_846 (by decide) (fun _ => ?_) (fun cc => absurd hs cc)
                                        exact k_942 _ _ _ _ hRel hB
                                      · skip
                                        by_cases c_17 : z = 17
                                        · refine lv_tableIn (tgt := 851) hx hb dL_law_33 (by rw [c_17]; decide) (by rw [c_17]; decide) (by rw [c_17]; rfl) (by decide) ?_
                                          refine lv_aload_n hx hb dL_law_851 rfl (lv_at hl 1 rfl) ?_
                                          refine lv_aload_n hx hb dL_law_852 rfl (lv_at hl 0 rfl) ?_
                                          refine lv_iload_n hx hb dL_law_853 rfl (lv_at hl 3 rfl) ?_
                                          refine lv_iconst (v := 1) hx hb dL_law_854 (by decide) ?_
                                          refine lv_iadd hx hb dL_law_855 ?_
                                          refine lw_ld hx hb hX hbl hB.2.2 hi1 ea1 dL_law_856 ?_
                                          refine lv_aload_n hx hb dL_law_857 rfl (lv_at hl 0 rfl) ?_
                                          refine lv_iload_n hx hb dL_law_858 rfl (lv_at hl 3 rfl) ?_
                                          refine lv_iconst (v := 2) hx hb dL_law_859 (by decide) ?_
                                          refine lv_iadd hx hb dL_law_860 ?_
                                          refine lw_ld hx hb hX hbl hB.2.2 hi2 ea2 dL_law_861 ?_
                                          refine lr_l (lw_run (rest := []) hC (c_X5_pin l g ad hW.2.1.1 _ σ a1 a2 ) k_X5_pin w_501 (by decide) (lx_pv hW hB) rfl hl.1 rfl (Nat.le_of_ble_eq_true rfl) dL_law_862) ?_
                                          refine lv_aload_n hx hb dL_law_865 rfl (lv_at hl 2 rfl) ?_
                                          refine lv_aload_n hx hb dL_law_866 rfl (lv_at hl 0 rfl) ?_
                                          refine lv_iload_n hx hb dL_law_867 rfl (lv_at hl 3 rfl) ?_
                                          refine lv_iconst (v := 1) hx hb dL_law_868 (by decide) ?_
                                          refine lv_iadd hx hb dL_law_869 ?_
                                          refine lw_ld hx hb hX hbl hB.2.2 hi1 ea1 dL_law_870 ?_
                                          refine lv_aload_n hx hb dL_law_871 rfl (lv_at hl 0 rfl) ?_
                                          refine lv_iload_n hx hb dL_law_872 rfl (lv_at hl 3 rfl) ?_
                                          refine lv_iconst (v := 2) hx hb dL_law_873 (by decide) ?_
                                          refine lv_iadd hx hb dL_law_874 ?_
                                          refine lw_ld hx hb hX hbl hB.2.2 hi2 ea2 dL_law_875 ?_
                                          refine lr_l (lw_run (rest := [.long (f_X5_pin σ a1 a2)]) hC (c_X6_pin l g am hW.2.1.2 _ τ a1 a2 ) k_X6_pin w_804 (by decide) (lm_pv hW hB) rfl hl.1 rfl (Nat.le_of_ble_eq_true rfl) dL_law_876) ?_
                                          have hs := st_pin hRel a1 a2
                                          refine lc_eq (tgt := 942) hx hb dL_law_879 dL_law_880 (by decide) (fun _ => ?_) (fun cc => absurd hs cc)
                                          exact k_942 _ _ _ _ hRel hB
                                        · skip
                                          by_cases c_18 : z = 18
                                          · refine lv_tableIn (tgt := 885) hx hb dL_law_33 (by rw [c_18]; decide) (by rw [c_18]; decide) (by rw [c_18]; rfl) (by decide) ?_
                                            refine lv_aload_n hx hb dL_law_885 rfl (lv_at hl 1 rfl) ?_
                                            refine lv_aload_n hx hb dL_law_886 rfl (lv_at hl 0 rfl) ?_
                                            refine lv_iload_n hx hb dL_law_887 rfl (lv_at hl 3 rfl) ?_
                                            refine lv_iconst (v := 1) hx hb dL_law_888 (by decide) ?_
                                            refine lv_iadd hx hb dL_law_889 ?_
                                            refine lw_ld hx hb hX hbl hB.2.2 hi1 ea1 dL_law_890 ?_
                                            refine lv_aload_n hx hb dL_law_891 rfl (lv_at hl 0 rfl) ?_
                                            refine lv_iload_n hx hb dL_law_892 rfl (lv_at hl 3 rfl) ?_
                                            refine lv_iconst (v := 2) hx hb dL_law_893 (by decide) ?_
                                            refine lv_iadd hx hb dL_law_894 ?_
                                            refine lw_ld hx hb hX hbl hB.2.2 hi2 ea2 dL_law_895 ?_
                                            refine lr_l (lw_run (rest := []) hC (c_X5_way l g ad hW.2.1.1 _ σ a1 a2 ) k_X5_way w_511 (by decide) (lx_pv hW hB) rfl hl.1 rfl (Nat.le_of_ble_eq_true rfl) dL_law_896) ?_
                                            refine lv_aload_n hx hb dL_law_899 rfl (lv_at hl 2 rfl) ?_
                                            refine lv_aload_n hx hb dL_law_900 rfl (lv_at hl 0 rfl) ?_
                                            refine lv_iload_n hx hb dL_law_901 rfl (lv_at hl 3 rfl) ?_
                                            refine lv_iconst (v := 1) hx hb dL_law_902 (by decide) ?_
                                            refine lv_iadd hx hb dL_law_903 ?_
                                            refine lw_ld hx hb hX hbl hB.2.2 hi1 ea1 dL_law_904 ?_
                                            refine lv_aload_n hx hb dL_law_905 rfl (lv_at hl 0 rfl) ?_
                                            refine lv_iload_n hx hb dL_law_906 rfl (lv_at hl 3 rfl) ?_
                                            refine lv_iconst (v := 2) hx hb dL_law_907 (by decide) ?_
                                            refine lv_iadd hx hb dL_law_908 ?_
                                            refine lw_ld hx hb hX hbl hB.2.2 hi2 ea2 dL_law_909 ?_
                                            refine lr_l (lw_run (rest := [.long (f_X5_way σ a1 a2)]) hC (c_X6_way l g am hW.2.1.2 _ τ a1 a2 ) k_X6_way w_808 (by decide) (lm_pv hW hB) rfl hl.1 rfl (Nat.le_of_ble_eq_true rfl) dL_law_910) ?_
                                            have hs := st_way hRel a1 a2
                                            refine lc_eq (tgt := 942) hx hb dL_law_913 dL_law_914 (by decide) (fun _ => ?_) (fun cc => absurd hs cc)
                                            exact k_942 _ _ _ _ hRel hB
                                          · skip
                                            by_cases c_19 : z = 19
                                            · refine lv_tableIn (tgt := 919) hx hb dL_law_33 (by rw [c_19]; decide) (by rw [c_19]; decide) (by rw [c_19]; rfl) (by decide) ?_
                                              refine lv_aload_n hx hb dL_law_919 rfl (lv_at hl 1 rfl) ?_
                                              refine lv_aload_n hx hb dL_law_920 rfl (lv_at hl 0 rfl) ?_
                                              refine lv_iload_n hx hb dL_law_921 rfl (lv_at hl 3 rfl) ?_
                                              refine lv_iconst (v := 1) hx hb dL_law_922 (by decide) ?_
                                              refine lv_iadd hx hb dL_law_923 ?_
                                              refine lw_ld hx hb hX hbl hB.2.2 hi1 ea1 dL_law_924 ?_
                                              refine lr_i (lw_run (rest := []) hC (c_X5_count l g ad hW.2.1.1 _ σ a1 ) k_X5_count w_515 (by decide) (lx_pv hW hB) rfl hl.1 rfl (Nat.le_of_ble_eq_true rfl) dL_law_925) ?_
                                              refine lv_aload_n hx hb dL_law_928 rfl (lv_at hl 2 rfl) ?_
                                              refine lv_aload_n hx hb dL_law_929 rfl (lv_at hl 0 rfl) ?_
                                              refine lv_iload_n hx hb dL_law_930 rfl (lv_at hl 3 rfl) ?_
                                              refine lv_iconst (v := 1) hx hb dL_law_931 (by decide) ?_
                                              refine lv_iadd hx hb dL_law_932 ?_
                                              refine lw_ld hx hb hX hbl hB.2.2 hi1 ea1 dL_law_933 ?_
                                              refine lr_i (lw_run (rest := [.int (f_X5_count σ a1)]) hC (c_X6_count l g am hW.2.1.2 _ τ a1 ) k_X6_count w_812 (by decide) (lm_pv hW hB) rfl hl.1 rfl (Nat.le_of_ble_eq_true rfl) dL_law_934) ?_
                                              have hs := st_count hRel a1
                                              refine lv_icmp_eq (tgt := 942) hx hb dL_law_937 (by decide) (fun _ => ?_) (fun cc => absurd hs cc)
                                              exact k_942 _ _ _ _ hRel hB
                                            · skip
                                              refine lv_tableOut (tgt := 942) hx hb dL_law_33 (by have := lv_neT c_0 (show (0 : Int32).toInt = 0 from rfl); have := lv_neT c_1 (show (1 : Int32).toInt = 1 from rfl); have := lv_neT c_2 (show (2 : Int32).toInt = 2 from rfl); have := lv_neT c_3 (show (3 : Int32).toInt = 3 from rfl); have := lv_neT c_4 (show (4 : Int32).toInt = 4 from rfl); have := lv_neT c_5 (show (5 : Int32).toInt = 5 from rfl); have := lv_neT c_6 (show (6 : Int32).toInt = 6 from rfl); have := lv_neT c_7 (show (7 : Int32).toInt = 7 from rfl); have := lv_neT c_8 (show (8 : Int32).toInt = 8 from rfl); have := lv_neT c_9 (show (9 : Int32).toInt = 9 from rfl); have := lv_neT c_10 (show (10 : Int32).toInt = 10 from rfl); have := lv_neT c_11 (show (11 : Int32).toInt = 11 from rfl); have := lv_neT c_12 (show (12 : Int32).toInt = 12 from rfl); have := lv_neT c_13 (show (13 : Int32).toInt = 13 from rfl); have := lv_neT c_14 (show (14 : Int32).toInt = 14 from rfl); have := lv_neT c_15 (show (15 : Int32).toInt = 15 from rfl); have := lv_neT c_16 (show (16 : Int32).toInt = 16 from rfl); have := lv_neT c_17 (show (17 : Int32).toInt = 17 from rfl); have := lv_neT c_18 (show (18 : Int32).toInt = 18 from rfl); have := lv_neT c_19 (show (19 : Int32).toInt = 19 from rfl); omega) (by decide) ?_
                                              exact k_942 _ _ _ _ hRel hB
