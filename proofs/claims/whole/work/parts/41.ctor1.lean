set_option maxRecDepth 100000 in
set_option maxHeartbeats 8000000 in
theorem c_X0_init (l : Launch) (g : sm_G) (h0 sz : Nat) : Met l yX0_init (sm_ws yX0_init cX0_init 1 none) ({ frames := 1, cells := 2, slots := 24, locals := 41 }) (va_Pc [.ref h0] (cPre g (.inr (0, [.null, .null, .int 0, .int 0])) h0 sz)) (va_Qv (fun u : Nat × Nat => True) (cPost g (.inr (0, [.null, .null, .int 0, .int 0])) h0 sz (fun u => [(h0, .inr (0, [.ref u.1, .ref u.2, .int 0, .int 0])), (u.1, .inl (gL g, 12, .inr (.inl (fun _ => 0)))), (u.2, .inl (gI g, 12, .inl (fun _ => 0)))])) (va_A [(h0, .inr (0, [.null, .null, .int 0, .int 0]))] sz)) 2 24 (va_A [(h0, .inr (0, [.null, .null, .int 0, .int 0]))] sz) := by
  refine Met.ofW (cc := cX0_init) (maxL := 1) (ret := none) (by decide) rfl ?_
  intro p e s m args below meth c s₁ B hml hv
  obtain ⟨hargs, hsz, hP, hA0⟩ := hv
  have hx := B.exec
  have hb := B.bytes
  have hr := B.returns
  have hts0 := atoms_spec (ws := sm_ws yX0_init cX0_init 1 none) B.pre
  have hts : ∀ w ∈ sm_T, w.before args s = true := fun w h => hts0 w (List.mem_cons_of_mem _ h)
  have hown : s.vm.findClass RX0 = some m.cls := findClass_of_methodNamed B.named
  have hlocks := B.notSynchronized
  have hin : meth.name = "<init>" := (name_of_methodNamed B.named B.method).1
  subst hsz
  subst hargs
  have hD := sn_D1 (h0 := h0) (sz := s.heap.size) (e0 := .inr (0, [.null, .null, .int 0, .int 0]))
  have hK := hA0.2.2.1
  have hO := hA0.2.2.2
  generalize hAe : va_A [(h0, .inr (0, [.null, .null, .int 0, .int 0]))] s.heap.size = A at hD hA0 ⊢
  have hA : ∀ q : Nat, s.heap.size ≤ q → A q := fun q h => by rw [← hAe]; exact Or.inr h
  have hS : va_S A s.heap s.heap [] := va_S.rf
  have hl := lv_entry ([.ref h0]) (n := 1) (Nat.le_of_ble_eq_true rfl)
  rw [lg_entry_eq]
  generalize (lg_sl ([.ref h0]) ++ List.replicate (1 - (lg_sl ([.ref h0])).length) Slot.unset).toArray = ls at hl ⊢
  have hl : lv_has ls 1 [(0, .ref h0)] := hl
  refine lv_aload_n hx hb dX0_init_0 rfl (lv_at hl 0 rfl) ?_
  refine W.objInit hx hb hown (hts _ (sm_in (List.mem_of_getElem? (i := 95) (by decide +kernel)) rfl)) (hts _ (sm_in (List.mem_of_getElem? (i := 71) (by decide +kernel)) rfl)) (hts _ (sm_in (List.mem_of_getElem? (i := 72) (by decide +kernel)) rfl)) rfl (by rw [hml]; exact hl.1) rfl dX0_init_1 (Nat.le_of_ble_eq_true rfl) (Nat.le_of_ble_eq_true rfl) ?_
  refine W.eq (g2 := F0 m 4 ls []) rfl ?_
  refine lv_aload_n hx hb dX0_init_4 rfl (lv_at hl 0 rfl) ?_
  refine lv_bipush (v := 12) hx hb dX0_init_5 (by decide) ?_
  refine sn_l hx hb hts hK hP hD hS hA (n := 12) (N' := 12) (by decide) (by decide) (by decide) (Nat.le_of_ble_eq_true rfl) (Nat.le_of_ble_eq_true rfl) dX0_init_7 (fun q7 H hP hD hS => ?_)
  have hP : va_P (gD g) sm_cls [(h0, .inr (0, [.null, .null, .int 0, .int 0])), (q7, .inl (gL g, 12, .inr (.inl (fun _ => 0))))] H := hP
  have hD : va_D A [(h0, .inr (0, [.null, .null, .int 0, .int 0])), (q7, .inl (gL g, 12, .inr (.inl (fun _ => 0))))] := hD
  refine W.widen (k := 1) (n := 12) (by omega) (by omega) ?_
  refine va_putF (D := gD g) (ci := 0) (v := .ref q7) (ty := tyX0 0) (C := RX0) (T := TX0) (N := 4) hx hb hts in_X0 tyX0 tyX0_ok nmX0 hown hK hP hD hS 0 rfl rfl 0 (by decide) (hts _ w_96) (fun _ h9 => h9) rfl hin rfl (by decide +kernel) rfl rfl (Nat.le_of_ble_eq_true rfl) dX0_init_9 (fun H locs hP hD hS => ?_)
  have hP : va_P (gD g) sm_cls [(h0, .inr (0, [.ref q7, .null, .int 0, .int 0])), (q7, .inl (gL g, 12, .inr (.inl (fun _ => 0))))] H := hP
  have hD : va_D A [(h0, .inr (0, [.ref q7, .null, .int 0, .int 0])), (q7, .inl (gL g, 12, .inr (.inl (fun _ => 0))))] := hD
  refine lv_aload_n hx hb dX0_init_12 rfl (lv_at hl 0 rfl) ?_
  refine lv_bipush (v := 12) hx hb dX0_init_13 (by decide) ?_
  refine sn_i hx hb hts hK hP hD hS hA (n := 12) (N' := 12) (by decide) (by decide) (by decide) (Nat.le_of_ble_eq_true rfl) (Nat.le_of_ble_eq_true rfl) dX0_init_15 (fun q15 H hP hD hS => ?_)
  have hP : va_P (gD g) sm_cls [(h0, .inr (0, [.ref q7, .null, .int 0, .int 0])), (q7, .inl (gL g, 12, .inr (.inl (fun _ => 0)))), (q15, .inl (gI g, 12, .inl (fun _ => 0)))] H := hP
  have hD : va_D A [(h0, .inr (0, [.ref q7, .null, .int 0, .int 0])), (q7, .inl (gL g, 12, .inr (.inl (fun _ => 0)))), (q15, .inl (gI g, 12, .inl (fun _ => 0)))] := hD
  refine W.widen (k := 2) (n := 24) (by omega) (by omega) ?_
  refine va_putF (D := gD g) (ci := 0) (v := .ref q15) (ty := tyX0 1) (C := RX0) (T := TX0) (N := 4) hx hb hts in_X0 tyX0 tyX0_ok nmX0 hown hK hP hD hS 0 rfl rfl 1 (by decide) (hts _ w_98) (fun _ h9 => h9) rfl hin rfl (by decide +kernel) rfl rfl (Nat.le_of_ble_eq_true rfl) dX0_init_17 (fun H locs hP hD hS => ?_)
  have hP : va_P (gD g) sm_cls [(h0, .inr (0, [.ref q7, .ref q15, .int 0, .int 0])), (q7, .inl (gL g, 12, .inr (.inl (fun _ => 0)))), (q15, .inl (gI g, 12, .inl (fun _ => 0)))] H := hP
  have hD : va_D A [(h0, .inr (0, [.ref q7, .ref q15, .int 0, .int 0])), (q7, .inl (gL g, 12, .inr (.inl (fun _ => 0)))), (q15, .inl (gI g, 12, .inl (fun _ => 0)))] := hD
  exact W.vret hx hb hr (fun t ht hW => ⟨⟨(q7, q15), rfl, trivial, ⟨by show va_P _ _ _ t.heap; rw [ht]; exact hP, by show va_D (va_A _ _) _; rw [hAe]; exact hD⟩⟩, hS.F ht⟩) hS.2.2 dX0_init_20
set_option maxRecDepth 100000 in
set_option maxHeartbeats 8000000 in
theorem c_X2_init (l : Launch) (g : sm_G) (h0 sz : Nat) : Met l yX2_init (sm_ws yX2_init cX2_init 1 none) ({ frames := 1, cells := 1, slots := 48, locals := 41 }) (va_Pc [.ref h0] (cPre g (.inr (1, [.null, .int 0])) h0 sz)) (va_Qv (fun u : Nat => True) (cPost g (.inr (1, [.null, .int 0])) h0 sz (fun u => [(h0, .inr (1, [.ref u, .int 0])), (u, .inl (gI g, 48, .inl (fun _ => 0)))])) (va_A [(h0, .inr (1, [.null, .int 0]))] sz)) 1 48 (va_A [(h0, .inr (1, [.null, .int 0]))] sz) := by
  refine Met.ofW (cc := cX2_init) (maxL := 1) (ret := none) (by decide) rfl ?_
  intro p e s m args below meth c s₁ B hml hv
  obtain ⟨hargs, hsz, hP, hA0⟩ := hv
  have hx := B.exec
  have hb := B.bytes
  have hr := B.returns
  have hts0 := atoms_spec (ws := sm_ws yX2_init cX2_init 1 none) B.pre
  have hts : ∀ w ∈ sm_T, w.before args s = true := fun w h => hts0 w (List.mem_cons_of_mem _ h)
  have hown : s.vm.findClass RX2 = some m.cls := findClass_of_methodNamed B.named
  have hlocks := B.notSynchronized
  have hin : meth.name = "<init>" := (name_of_methodNamed B.named B.method).1
  subst hsz
  subst hargs
  have hD := sn_D1 (h0 := h0) (sz := s.heap.size) (e0 := .inr (1, [.null, .int 0]))
  have hK := hA0.2.2.1
  have hO := hA0.2.2.2
  generalize hAe : va_A [(h0, .inr (1, [.null, .int 0]))] s.heap.size = A at hD hA0 ⊢
  have hA : ∀ q : Nat, s.heap.size ≤ q → A q := fun q h => by rw [← hAe]; exact Or.inr h
  have hS : va_S A s.heap s.heap [] := va_S.rf
  have hl := lv_entry ([.ref h0]) (n := 1) (Nat.le_of_ble_eq_true rfl)
  rw [lg_entry_eq]
  generalize (lg_sl ([.ref h0]) ++ List.replicate (1 - (lg_sl ([.ref h0])).length) Slot.unset).toArray = ls at hl ⊢
  have hl : lv_has ls 1 [(0, .ref h0)] := hl
  refine lv_aload_n hx hb dX2_init_0 rfl (lv_at hl 0 rfl) ?_
  refine W.objInit hx hb hown (hts _ (sm_in (List.mem_of_getElem? (i := 80) (by decide +kernel)) rfl)) (hts _ (sm_in (List.mem_of_getElem? (i := 71) (by decide +kernel)) rfl)) (hts _ (sm_in (List.mem_of_getElem? (i := 72) (by decide +kernel)) rfl)) rfl (by rw [hml]; exact hl.1) rfl dX2_init_1 (Nat.le_of_ble_eq_true rfl) (Nat.le_of_ble_eq_true rfl) ?_
  refine W.eq (g2 := F0 m 4 ls []) rfl ?_
  refine lv_aload_n hx hb dX2_init_4 rfl (lv_at hl 0 rfl) ?_
  refine lv_bipush (v := 48) hx hb dX2_init_5 (by decide) ?_
  refine sn_i hx hb hts hK hP hD hS hA (n := 48) (N' := 48) (by decide) (by decide) (by decide) (Nat.le_of_ble_eq_true rfl) (Nat.le_of_ble_eq_true rfl) dX2_init_7 (fun q7 H hP hD hS => ?_)
  have hP : va_P (gD g) sm_cls [(h0, .inr (1, [.null, .int 0])), (q7, .inl (gI g, 48, .inl (fun _ => 0)))] H := hP
  have hD : va_D A [(h0, .inr (1, [.null, .int 0])), (q7, .inl (gI g, 48, .inl (fun _ => 0)))] := hD
  refine W.widen (k := 1) (n := 48) (by omega) (by omega) ?_
  refine va_putF (D := gD g) (ci := 1) (v := .ref q7) (ty := tyX2 0) (C := RX2) (T := TX2) (N := 2) hx hb hts in_X2 tyX2 tyX2_ok nmX2 hown hK hP hD hS 0 rfl rfl 0 (by decide) (hts _ w_81) (fun _ h9 => h9) rfl hin rfl (by decide +kernel) rfl rfl (Nat.le_of_ble_eq_true rfl) dX2_init_9 (fun H locs hP hD hS => ?_)
  have hP : va_P (gD g) sm_cls [(h0, .inr (1, [.ref q7, .int 0])), (q7, .inl (gI g, 48, .inl (fun _ => 0)))] H := hP
  have hD : va_D A [(h0, .inr (1, [.ref q7, .int 0])), (q7, .inl (gI g, 48, .inl (fun _ => 0)))] := hD
  exact W.vret hx hb hr (fun t ht hW => ⟨⟨q7, rfl, trivial, ⟨by show va_P _ _ _ t.heap; rw [ht]; exact hP, by show va_D (va_A _ _) _; rw [hAe]; exact hD⟩⟩, hS.F ht⟩) hS.2.2 dX2_init_12
