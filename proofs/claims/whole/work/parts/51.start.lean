set_option maxHeartbeats 8000000 in
set_option maxRecDepth 100000 in
/-- what stands around, at the law's entry -/
theorem whole_amb {p : Program} {s : State} {m : MethodId} {meth : Method} {c : Code} {b L : Nat} {xs : Nat → Int32} (C0 : lw_At p s m meth c b L xs) : ∃ g : sm_G, sm_A g (fun q => s.heap.size ≤ q) s s.heap := by
  obtain ⟨hx, hb, hr, hml, hown, hts, hX, hbl, hlocks, hgv⟩ := C0
  have htsT : ∀ w ∈ sm_T, w.before #[Value.ref b] s = true := fun w h => hts w (List.mem_filter.mp h).1
  have hs := flat_of_before _ hgv
  have hA0 : ∀ a : Nat, a < s.heap.size → ¬ (fun q : Nat => s.heap.size ≤ q) a := fun a h => Nat.not_le.mpr h
  obtain ⟨c0, iS0, hKn0⟩ := u_known (C := RX0) (T := TX0) (N := 4) (n := 4) htsT in_X0 (hts (.instantiable RX0 4) (List.mem_of_getElem? (i := 91) (by decide +kernel)))
  obtain ⟨c1, iS1, hKn1⟩ := u_known (C := RX2) (T := TX2) (N := 2) (n := 2) htsT in_X2 (hts (.instantiable RX2 2) (List.mem_of_getElem? (i := 76) (by decide +kernel)))
  obtain ⟨c2, iS2, hKn2⟩ := u_known (C := RX5) (T := TX5) (N := 8) (n := 8) htsT in_X5 (hts (.instantiable RX5 8) (List.mem_of_getElem? (i := 66) (by decide +kernel)))
  obtain ⟨c3, iS3, hKn3⟩ := u_known (C := RX6) (T := TX6) (N := 21) (n := 21) htsT in_X6 (hts (.instantiable RX6 21) (List.mem_of_getElem? (i := 524) (by decide +kernel)))
  obtain ⟨dC, dI, hKc⟩ : ∃ (dC : Nat → ClassId) (dI : Nat → Nat → Nat), ∀ (k : Nat) (q : vw_C), sm_cls[k]? = some q → u_Kn s q.1 q.2.1 q.2.2 (dC k) (dI k) := by
    refine ⟨fun k => if k = 0 then c0 else if k = 1 then c1 else if k = 2 then c2 else c3, fun k => if k = 0 then iS0 else if k = 1 then iS1 else if k = 2 then iS2 else iS3, ?_⟩
    intro k q hq
    match k, hq with
    | 0, hq => cases hq; exact hKn0
    | 1, hq => cases hq; exact hKn1
    | 2, hq => cases hq; exact hKn2
    | 3, hq => cases hq; exact hKn3
    | k + 4, hq => simp at hq
  obtain ⟨cI, kI, pI, hI1, hI2, hI3⟩ := Cond.arrayClass_spec (hts (.arrayClass .int) (List.mem_of_getElem? (i := 89) (by decide +kernel)))
  obtain ⟨cL, kL, pL, hL1, hL2, hL3⟩ := Cond.arrayClass_spec (hts (.arrayClass .long) (List.mem_of_getElem? (i := 90) (by decide +kernel)))
  obtain ⟨cZ, kZ, pZ, hZ1, hZ2, hZ3⟩ := Cond.arrayClass_spec (hts (.arrayClass .boolean) (List.mem_of_getElem? (i := 593) (by decide +kernel)))
  have hO : va_AO RX0 s := va_AO.of (hts (.arrayOver (.object RX0)) (List.mem_of_getElem? (i := 74) (by decide +kernel)))
  obtain ⟨pC, cC, kC, hC1, hC2, hC3, hC4, hC5⟩ := Cond.arrayOver_spec hO
  obtain ⟨adF, hEn, hev⟩ := va_Enof2 (args := #[Value.ref b]) (s := s) (E := RX1) (d := "LShadowMachine$Format;") (nm := ["BITS32", "BITS64"]) (F := []) (A := fun q => s.heap.size ≤ q)
    (fun i hi => by rcases (show i = 0 ∨ i = 1 by simp at hi; omega) with rfl | rfl
                    · exact hts (.laysStatic RX1 "BITS32" "LShadowMachine$Format;") (by decide +kernel)
                    · exact hts (.laysStatic RX1 "BITS64" "LShadowMachine$Format;") (by decide +kernel))
    (hts (.initialized RX1) (by decide +kernel))
    (fun i hi => by rcases (show i = 0 ∨ i = 1 by simp at hi; omega) with rfl | rfl
                    · exact hs (.exactly (.static "ShadowMachine$Format" "BITS32" "LShadowMachine$Format;") "ShadowMachine$Format") (by decide +kernel)
                    · exact hs (.exactly (.static "ShadowMachine$Format" "BITS64" "LShadowMachine$Format;") "ShadowMachine$Format") (by decide +kernel))
    (fun q hq => by cases hq)
    (fun i j hi hj hij => by
      rcases (show i = 0 ∨ i = 1 by simp at hi; omega) with rfl | rfl <;> rcases (show j = 0 ∨ j = 1 by simp at hj; omega) with rfl | rfl
      · exact absurd rfl hij
      · exact Or.inl (hs (.not (.eq (.static "ShadowMachine$Format" "BITS32" "LShadowMachine$Format;") (.static "ShadowMachine$Format" "BITS64" "LShadowMachine$Format;"))) (by decide +kernel))
      · exact Or.inr (hs (.not (.eq (.static "ShadowMachine$Format" "BITS32" "LShadowMachine$Format;") (.static "ShadowMachine$Format" "BITS64" "LShadowMachine$Format;"))) (by decide +kernel))
      · exact absurd rfl hij)
    hA0
  have hf_fractionBits : va_Ef 2 RX1 "fractionBits" "I" (fun i => .int (kFr i)) adF (fun q => s.heap.size ≤ q) s s.heap := va_Efof (args := #[Value.ref b]) (E := RX1) (d0 := "LShadowMachine$Format;") (nm := ["BITS32", "BITS64"]) (tm := fun i => .int (kFr i)) hev
    (fun i hi => by rcases (show i = 0 ∨ i = 1 by omega) with rfl | rfl
                    · exact hs (.eq (.field (.static "ShadowMachine$Format" "BITS32" "LShadowMachine$Format;") "ShadowMachine$Format" "fractionBits" "I") (.int (23))) (by decide +kernel)
                    · exact hs (.eq (.field (.static "ShadowMachine$Format" "BITS64" "LShadowMachine$Format;") "ShadowMachine$Format" "fractionBits" "I") (.int (52))) (by decide +kernel)) (fun i hi => rfl) hA0
  have hf_leastExponent : va_Ef 2 RX1 "leastExponent" "I" (fun i => .int (kLe i)) adF (fun q => s.heap.size ≤ q) s s.heap := va_Efof (args := #[Value.ref b]) (E := RX1) (d0 := "LShadowMachine$Format;") (nm := ["BITS32", "BITS64"]) (tm := fun i => .int (kLe i)) hev
    (fun i hi => by rcases (show i = 0 ∨ i = 1 by omega) with rfl | rfl
                    · exact hs (.eq (.field (.static "ShadowMachine$Format" "BITS32" "LShadowMachine$Format;") "ShadowMachine$Format" "leastExponent" "I") (.int (-149))) (by decide +kernel)
                    · exact hs (.eq (.field (.static "ShadowMachine$Format" "BITS64" "LShadowMachine$Format;") "ShadowMachine$Format" "leastExponent" "I") (.int (-1074))) (by decide +kernel)) (fun i hi => rfl) hA0
  have hf_mostField : va_Ef 2 RX1 "mostField" "I" (fun i => .int (kMo i)) adF (fun q => s.heap.size ≤ q) s s.heap := va_Efof (args := #[Value.ref b]) (E := RX1) (d0 := "LShadowMachine$Format;") (nm := ["BITS32", "BITS64"]) (tm := fun i => .int (kMo i)) hev
    (fun i hi => by rcases (show i = 0 ∨ i = 1 by omega) with rfl | rfl
                    · exact hs (.eq (.field (.static "ShadowMachine$Format" "BITS32" "LShadowMachine$Format;") "ShadowMachine$Format" "mostField" "I") (.int (255))) (by decide +kernel)
                    · exact hs (.eq (.field (.static "ShadowMachine$Format" "BITS64" "LShadowMachine$Format;") "ShadowMachine$Format" "mostField" "I") (.int (2047))) (by decide +kernel)) (fun i hi => rfl) hA0
  have hf_sign : va_Ef 2 RX1 "sign" "J" (fun i => .long (kSi i)) adF (fun q => s.heap.size ≤ q) s s.heap := va_Efof (args := #[Value.ref b]) (E := RX1) (d0 := "LShadowMachine$Format;") (nm := ["BITS32", "BITS64"]) (tm := fun i => .long (kSi i)) hev
    (fun i hi => by rcases (show i = 0 ∨ i = 1 by omega) with rfl | rfl
                    · exact hs (.eq (.field (.static "ShadowMachine$Format" "BITS32" "LShadowMachine$Format;") "ShadowMachine$Format" "sign" "J") (.long (-2147483648))) (by decide +kernel)
                    · exact hs (.eq (.field (.static "ShadowMachine$Format" "BITS64" "LShadowMachine$Format;") "ShadowMachine$Format" "sign" "J") (.long (-9223372036854775808))) (by decide +kernel)) (fun i hi => rfl) hA0
  have hf_infinity : va_Ef 2 RX1 "infinity" "J" (fun i => .long (kIn i)) adF (fun q => s.heap.size ≤ q) s s.heap := va_Efof (args := #[Value.ref b]) (E := RX1) (d0 := "LShadowMachine$Format;") (nm := ["BITS32", "BITS64"]) (tm := fun i => .long (kIn i)) hev
    (fun i hi => by rcases (show i = 0 ∨ i = 1 by omega) with rfl | rfl
                    · exact hs (.eq (.field (.static "ShadowMachine$Format" "BITS32" "LShadowMachine$Format;") "ShadowMachine$Format" "infinity" "J") (.long (2139095040))) (by decide +kernel)
                    · exact hs (.eq (.field (.static "ShadowMachine$Format" "BITS64" "LShadowMachine$Format;") "ShadowMachine$Format" "infinity" "J") (.long (9218868437227405312))) (by decide +kernel)) (fun i hi => rfl) hA0
  have hf_nan : va_Ef 2 RX1 "nan" "J" (fun i => .long (kNa i)) adF (fun q => s.heap.size ≤ q) s s.heap := va_Efof (args := #[Value.ref b]) (E := RX1) (d0 := "LShadowMachine$Format;") (nm := ["BITS32", "BITS64"]) (tm := fun i => .long (kNa i)) hev
    (fun i hi => by rcases (show i = 0 ∨ i = 1 by omega) with rfl | rfl
                    · exact hs (.eq (.field (.static "ShadowMachine$Format" "BITS32" "LShadowMachine$Format;") "ShadowMachine$Format" "nan" "J") (.long (2143289344))) (by decide +kernel)
                    · exact hs (.eq (.field (.static "ShadowMachine$Format" "BITS64" "LShadowMachine$Format;") "ShadowMachine$Format" "nan" "J") (.long (9221120237041090560))) (by decide +kernel)) (fun i hi => rfl) hA0
  obtain ⟨tF, etF, hTtF⟩ := va_Tof (args := #[Value.ref b]) (s := s) (tm := (.static "ShadowMachine$Single" "CONVERTED_FROM" "[I")) (ty := .int) (N := 15) (f := fun j => .int (kCF j)) (A := fun q => s.heap.size ≤ q) (by decide) (hs (.arrayOf (.static "ShadowMachine$Single" "CONVERTED_FROM" "[I") .int) (by decide +kernel)) (va_eqt (hs (.eq (.length (.static "ShadowMachine$Single" "CONVERTED_FROM" "[I")) (.int 15)) (by decide +kernel)))
    (fun j hj => by rcases (show j = 0 ∨ j = 1 ∨ j = 2 ∨ j = 3 ∨ j = 4 ∨ j = 5 ∨ j = 6 ∨ j = 7 ∨ j = 8 ∨ j = 9 ∨ j = 10 ∨ j = 11 ∨ j = 12 ∨ j = 13 ∨ j = 14 by omega) with rfl | rfl | rfl | rfl | rfl | rfl | rfl | rfl | rfl | rfl | rfl | rfl | rfl | rfl | rfl
                    · exact va_eqt (hs (.eq (.elem (.static "ShadowMachine$Single" "CONVERTED_FROM" "[I") (.int 0)) (.int 0)) (by decide +kernel))
                    · exact va_eqt (hs (.eq (.elem (.static "ShadowMachine$Single" "CONVERTED_FROM" "[I") (.int 1)) (.int 0)) (by decide +kernel))
                    · exact va_eqt (hs (.eq (.elem (.static "ShadowMachine$Single" "CONVERTED_FROM" "[I") (.int 2)) (.int 0)) (by decide +kernel))
                    · exact va_eqt (hs (.eq (.elem (.static "ShadowMachine$Single" "CONVERTED_FROM" "[I") (.int 3)) (.int 1)) (by decide +kernel))
                    · exact va_eqt (hs (.eq (.elem (.static "ShadowMachine$Single" "CONVERTED_FROM" "[I") (.int 4)) (.int 1)) (by decide +kernel))
                    · exact va_eqt (hs (.eq (.elem (.static "ShadowMachine$Single" "CONVERTED_FROM" "[I") (.int 5)) (.int 1)) (by decide +kernel))
                    · exact va_eqt (hs (.eq (.elem (.static "ShadowMachine$Single" "CONVERTED_FROM" "[I") (.int 6)) (.int 2)) (by decide +kernel))
                    · exact va_eqt (hs (.eq (.elem (.static "ShadowMachine$Single" "CONVERTED_FROM" "[I") (.int 7)) (.int 2)) (by decide +kernel))
                    · exact va_eqt (hs (.eq (.elem (.static "ShadowMachine$Single" "CONVERTED_FROM" "[I") (.int 8)) (.int 2)) (by decide +kernel))
                    · exact va_eqt (hs (.eq (.elem (.static "ShadowMachine$Single" "CONVERTED_FROM" "[I") (.int 9)) (.int 3)) (by decide +kernel))
                    · exact va_eqt (hs (.eq (.elem (.static "ShadowMachine$Single" "CONVERTED_FROM" "[I") (.int 10)) (.int 3)) (by decide +kernel))
                    · exact va_eqt (hs (.eq (.elem (.static "ShadowMachine$Single" "CONVERTED_FROM" "[I") (.int 11)) (.int 3)) (by decide +kernel))
                    · exact va_eqt (hs (.eq (.elem (.static "ShadowMachine$Single" "CONVERTED_FROM" "[I") (.int 12)) (.int 0)) (by decide +kernel))
                    · exact va_eqt (hs (.eq (.elem (.static "ShadowMachine$Single" "CONVERTED_FROM" "[I") (.int 13)) (.int 0)) (by decide +kernel))
                    · exact va_eqt (hs (.eq (.elem (.static "ShadowMachine$Single" "CONVERTED_FROM" "[I") (.int 14)) (.int 0)) (by decide +kernel))) hA0
  obtain ⟨tT, etT, hTtT⟩ := va_Tof (args := #[Value.ref b]) (s := s) (tm := (.static "ShadowMachine$Single" "CONVERTED_TO" "[I")) (ty := .int) (N := 15) (f := fun j => .int (kCT j)) (A := fun q => s.heap.size ≤ q) (by decide) (hs (.arrayOf (.static "ShadowMachine$Single" "CONVERTED_TO" "[I") .int) (by decide +kernel)) (va_eqt (hs (.eq (.length (.static "ShadowMachine$Single" "CONVERTED_TO" "[I")) (.int 15)) (by decide +kernel)))
    (fun j hj => by rcases (show j = 0 ∨ j = 1 ∨ j = 2 ∨ j = 3 ∨ j = 4 ∨ j = 5 ∨ j = 6 ∨ j = 7 ∨ j = 8 ∨ j = 9 ∨ j = 10 ∨ j = 11 ∨ j = 12 ∨ j = 13 ∨ j = 14 by omega) with rfl | rfl | rfl | rfl | rfl | rfl | rfl | rfl | rfl | rfl | rfl | rfl | rfl | rfl | rfl
                    · exact va_eqt (hs (.eq (.elem (.static "ShadowMachine$Single" "CONVERTED_TO" "[I") (.int 0)) (.int 1)) (by decide +kernel))
                    · exact va_eqt (hs (.eq (.elem (.static "ShadowMachine$Single" "CONVERTED_TO" "[I") (.int 1)) (.int 2)) (by decide +kernel))
                    · exact va_eqt (hs (.eq (.elem (.static "ShadowMachine$Single" "CONVERTED_TO" "[I") (.int 2)) (.int 3)) (by decide +kernel))
                    · exact va_eqt (hs (.eq (.elem (.static "ShadowMachine$Single" "CONVERTED_TO" "[I") (.int 3)) (.int 0)) (by decide +kernel))
                    · exact va_eqt (hs (.eq (.elem (.static "ShadowMachine$Single" "CONVERTED_TO" "[I") (.int 4)) (.int 2)) (by decide +kernel))
                    · exact va_eqt (hs (.eq (.elem (.static "ShadowMachine$Single" "CONVERTED_TO" "[I") (.int 5)) (.int 3)) (by decide +kernel))
                    · exact va_eqt (hs (.eq (.elem (.static "ShadowMachine$Single" "CONVERTED_TO" "[I") (.int 6)) (.int 0)) (by decide +kernel))
                    · exact va_eqt (hs (.eq (.elem (.static "ShadowMachine$Single" "CONVERTED_TO" "[I") (.int 7)) (.int 1)) (by decide +kernel))
                    · exact va_eqt (hs (.eq (.elem (.static "ShadowMachine$Single" "CONVERTED_TO" "[I") (.int 8)) (.int 3)) (by decide +kernel))
                    · exact va_eqt (hs (.eq (.elem (.static "ShadowMachine$Single" "CONVERTED_TO" "[I") (.int 9)) (.int 0)) (by decide +kernel))
                    · exact va_eqt (hs (.eq (.elem (.static "ShadowMachine$Single" "CONVERTED_TO" "[I") (.int 10)) (.int 1)) (by decide +kernel))
                    · exact va_eqt (hs (.eq (.elem (.static "ShadowMachine$Single" "CONVERTED_TO" "[I") (.int 11)) (.int 2)) (by decide +kernel))
                    · exact va_eqt (hs (.eq (.elem (.static "ShadowMachine$Single" "CONVERTED_TO" "[I") (.int 12)) (.int 0)) (by decide +kernel))
                    · exact va_eqt (hs (.eq (.elem (.static "ShadowMachine$Single" "CONVERTED_TO" "[I") (.int 13)) (.int 0)) (by decide +kernel))
                    · exact va_eqt (hs (.eq (.elem (.static "ShadowMachine$Single" "CONVERTED_TO" "[I") (.int 14)) (.int 0)) (by decide +kernel))) hA0
  refine ⟨(adF, tF, tT, (dC, dI), cI, cL, cZ, cC), ⟨⟨(hEn.1 0 (by decide)).1, (hEn.1 1 (by decide)).1⟩, fun i hi => (hEn.1 i hi).2.1, ⟨hf_fractionBits, hf_leastExponent, hf_mostField, hf_sign, hf_infinity, hf_nan⟩, ⟨va_Zref (hts (.laysStatic RX4 "CONVERTED_FROM" "[I") (by decide +kernel)) (hts (.initialized RX4) (by decide +kernel)) etF hA0, hTtF⟩, ⟨va_Zref (hts (.laysStatic RX4 "CONVERTED_TO" "[I") (by decide +kernel)) (hts (.initialized RX4) (by decide +kernel)) etT hA0, hTtT⟩⟩, ?_, ⟨hKc, ?_⟩, hO⟩
  · intro w hw
    have h2 : w ∈ lw_tbl := by
      have h3 : sm_N.all (fun w => decide (w ∈ lw_tbl)) = true := by decide +kernel
      exact of_decide_eq_true (List.all_eq_true.mp h3 w hw)
    revert h2
    refine sm_N_cases (P := fun w => w ∈ lw_tbl → va_Nw w s) (fun a i x d _ h2 => va_Nw.of rfl (hts _ h2)) w hw
  · intro k q h
    match k, h with
    | 0, h => cases h; exact ⟨fun n z => ⟨fun k h => (by cases h), kI, hI2, pI, hI3⟩, hI1⟩
    | 1, h => cases h; exact ⟨fun n z => ⟨fun k h => (by cases h), kL, hL2, pL, hL3⟩, hL1⟩
    | 2, h => cases h; exact ⟨fun n z => ⟨fun k h => (by cases h), kZ, hZ2, pZ, hZ3⟩, hZ1⟩
    | 3, h => cases h; exact ⟨fun n z => ⟨fun k h => (by cases h), kC, hC3, pC, hC4⟩, kC, pC, hC3, hC4, hC1, hC5⟩
    | k + 4, h => simp at h
/-- a new world beside an old one: apart, of a kind -/
theorem sn_wInj {A : Nat → Prop} {N : Nat} {ad : Nat → Nat} {E : Nat → va_E} (h : va_D A (sm_w N ad E)) : sm_inj N ad ∧ ∀ i, i < N → A (ad i) :=
  ⟨fun i j hi hj e => h.1 i j _ _ (sm_w_at hi) (sm_w_at hj) e, fun i hi => h.2 i _ (sm_w_at hi)⟩
theorem sn_wTwo {A : Nat → Prop} {N M : Nat} {ad am : Nat → Nat} {E F : Nat → va_E} (h : va_D A (sm_w N ad E ++ sm_w M am F)) : va_D A (sm_w N ad E) ∧ va_D A (sm_w M am F) ∧ ∀ i j, i < N → j < M → ad i ≠ am j := by
  have hl : (sm_w N ad E).length = N := by simp [sm_w]
  have h1 : ∀ (i : Nat), i < N → (sm_w N ad E ++ sm_w M am F)[i]? = some (ad i, E i) := fun i hi => by rw [List.getElem?_append_left (by omega)]; exact sm_w_at hi
  have h2 : ∀ (j : Nat), j < M → (sm_w N ad E ++ sm_w M am F)[N + j]? = some (am j, F j) := fun j hj => by
    rw [List.getElem?_append_right (by omega), hl, Nat.add_sub_cancel_left]
    exact sm_w_at hj
  have hb : ∀ {K : Nat} {a : Nat → Nat} {G : Nat → va_E} (k : Nat) (q : Nat × va_E), (sm_w K a G)[k]? = some q → k < K ∧ q = (a k, G k) := by
    intro K a G k q hk
    have hk2 : k < K := by
      have := (List.getElem?_eq_some_iff.mp hk).1
      simpa [sm_w] using this
    exact ⟨hk2, Option.some.inj (hk.symm.trans (sm_w_at hk2))⟩
  refine ⟨⟨fun i j p q hp hq e => ?_, fun k q hk => ?_⟩, ⟨fun i j p q hp hq e => ?_, fun k q hk => ?_⟩, fun i j hi hj e => ?_⟩
  · obtain ⟨a1, rfl⟩ := hb i p hp
    obtain ⟨b1, rfl⟩ := hb j q hq
    exact h.1 i j _ _ (h1 i a1) (h1 j b1) e
  · obtain ⟨a1, rfl⟩ := hb k q hk
    exact h.2 k _ (h1 k a1)
  · obtain ⟨a1, rfl⟩ := hb i p hp
    obtain ⟨b1, rfl⟩ := hb j q hq
    have := h.1 (N + i) (N + j) _ _ (h2 i a1) (h2 j b1) e
    omega
  · obtain ⟨a1, rfl⟩ := hb k q hk
    exact h.2 (N + k) _ (h2 k a1)
  · have := h.1 i (N + j) _ _ (h1 i hi) (h2 j hj) e
    omega
set_option maxHeartbeats 8000000 in
set_option maxRecDepth 100000 in
/-- THE LAW, from its entry -/
theorem whole_start {p : Program} {e : Env} {s : State} {m : MethodId} {below : List Frame} {meth : Method} {c : Code} (l : Launch) (hflags : l.flags = flags0) {b L : Nat} {xs : Nat → Int32} (hL : L ≤ 384) (C0 : lw_At p s m meth c b L xs) : W p l e room_1 s m #[Value.ref b] below meth c s.heap [] 0 0 (lw_Z below #[Value.ref b] s) (entryFrame m ([Value.ref b] : List Value).toArray 4) := by
  obtain ⟨g, hA0⟩ := whole_amb C0
  obtain ⟨hx, hb, hr, hml, hown, hts, hX, hbl, hlocks, hgv⟩ := id C0
  have htsT : ∀ w ∈ sm_T, w.before #[Value.ref b] s = true := fun w h => hts w (List.mem_filter.mp h).1
  have hA : ∀ q : Nat, s.heap.size ≤ q → (fun q : Nat => s.heap.size ≤ q) q := fun _ h => h
  have hK := hA0.2.2.1
  have hS : va_S (fun q : Nat => s.heap.size ≤ q) s.heap s.heap [] := va_S.rf
  have hP : va_P (gD g) sm_cls [] s.heap := fun k q h => by simp at h
  have hD : va_D (fun q : Nat => s.heap.size ≤ q) [] := ⟨fun i j p q h => by simp at h, fun k q h => by simp at h⟩
  have hl := lv_entry ([.ref b]) (n := 4) (Nat.le_of_ble_eq_true rfl)
  rw [lg_entry_eq]
  generalize (lg_sl ([.ref b]) ++ List.replicate (4 - (lg_sl ([.ref b])).length) Slot.unset).toArray = ls at hl ⊢
  have hl : lv_has ls 4 [(0, .ref b)] := hl
  refine va_new (ci := 2) (fs := [.null, .null, .null, .null, .null, .null, .null, .int 0]) (C := RX5) (T := TX5) (N := 8) hx hb htsT in_X5 tyX5 tyX5_ok hown (hts (.classLink RL 7 RX5) (List.mem_of_getElem? (i := 65) (by decide +kernel))) (hts (.instantiable RX5 8) (List.mem_of_getElem? (i := 66) (by decide +kernel))) (htsT _ w_53) hK hP hD hS hA rfl (fun j hj => by rcases (show j = 0 ∨ j = 1 ∨ j = 2 ∨ j = 3 ∨ j = 4 ∨ j = 5 ∨ j = 6 ∨ j = 7 by omega) with rfl | rfl | rfl | rfl | rfl | rfl | rfl | rfl <;> rfl) (Nat.le_of_ble_eq_true rfl) (Nat.le_of_ble_eq_true rfl) dL_law_0 (fun q0 H hP hD hS => ?_)
  have hP : va_P (gD g) sm_cls [(q0, .inr (2, [.null, .null, .null, .null, .null, .null, .null, .int 0]))] H := hP
  have hD : va_D (fun q : Nat => s.heap.size ≤ q) [(q0, .inr (2, [.null, .null, .null, .null, .null, .null, .null, .int 0]))] := hD
  refine W.widen (k := 1) (n := 8) (by omega) (by omega) ?_
  refine lv_dup hx hb dL_law_3 rfl ?_
  have hr1 := va_runI (p := p) (l := l) (e := e) (below := below) (meth := meth) (locs := []) (cells := 1) (slots := 8) (As := []) (rest := [.ref q0]) (g := F0 m 4 ls (.ref q0 :: [.ref q0])) (R := room_1) ⟨hx, hb, hml, hown, htsT⟩ (c_X5_init l g q0 H.size) ⟨callB_of 0 htsT (sm_gd w_69) rfl rfl rfl (htsT _ w_53) (htsT _ w_67) (by decide +kernel) ⟨Nat.le_of_ble_eq_true rfl, Nat.le_of_ble_eq_true rfl⟩, rfl, htsT _ w_68⟩ (sn_pre hA0 hA hP hD hS 0 rfl) rfl rfl hl.1 rfl (lv_room (Nat.le_of_ble_eq_true rfl)) dL_law_4 ⟨Nat.le_of_ble_eq_true rfl, Nat.le_of_ble_eq_true rfl⟩
  refine sn_ctor (wr := []) hr1 hA hP hD hS 0 rfl [] rfl (by decide) (by decide) (fun ad H locs hu hP hD hS => ?_)
  have hP : va_P (gD g) sm_cls (sm_w 22 ad (eX g ad sX0)) H := hP
  have hD : va_D (fun q : Nat => s.heap.size ≤ q) (sm_w 22 ad (eX g ad sX0)) := hD
  refine W.widen (k := 22) (n := 252) (by omega) (by omega) ?_
  refine lv_astore_n (lv' := [(1, .ref q0), (0, .ref b)]) hx hb dL_law_7 rfl hl (by decide) rfl (fun ls hl => ?_)
  refine va_new (ci := 3) (fs := [.null, .null, .null, .null, .null, .null, .null, .null, .null, .null, .null, .null, .int 0, .int 0, .int 0, .null, .null, .null, .null, .null, .null]) (C := RX6) (T := TX6) (N := 21) hx hb htsT in_X6 tyX6 tyX6_ok hown (hts (.classLink RL 10 RX6) (List.mem_of_getElem? (i := 523) (by decide +kernel))) (hts (.instantiable RX6 21) (List.mem_of_getElem? (i := 524) (by decide +kernel))) (htsT _ w_56) hK hP hD hS hA rfl (fun j hj => by rcases (show j = 0 ∨ j = 1 ∨ j = 2 ∨ j = 3 ∨ j = 4 ∨ j = 5 ∨ j = 6 ∨ j = 7 ∨ j = 8 ∨ j = 9 ∨ j = 10 ∨ j = 11 ∨ j = 12 ∨ j = 13 ∨ j = 14 ∨ j = 15 ∨ j = 16 ∨ j = 17 ∨ j = 18 ∨ j = 19 ∨ j = 20 by omega) with rfl | rfl | rfl | rfl | rfl | rfl | rfl | rfl | rfl | rfl | rfl | rfl | rfl | rfl | rfl | rfl | rfl | rfl | rfl | rfl | rfl <;> rfl) (Nat.le_of_ble_eq_true rfl) (Nat.le_of_ble_eq_true rfl) dL_law_8 (fun q1 H hP hD hS => ?_)
  refine W.widen (k := 23) (n := 273) (by omega) (by omega) ?_
  refine lv_dup hx hb dL_law_11 rfl ?_
  have hlen : (sm_w 22 ad (eX g ad sX0)).length = 22 := by simp [sm_w]
  have hat : (sm_w 22 ad (eX g ad sX0) ++ [(q1, .inr (3, [.null, .null, .null, .null, .null, .null, .null, .null, .null, .null, .null, .null, .int 0, .int 0, .int 0, .null, .null, .null, .null, .null, .null]))])[22]? = some (q1, .inr (3, [.null, .null, .null, .null, .null, .null, .null, .null, .null, .null, .null, .null, .int 0, .int 0, .int 0, .null, .null, .null, .null, .null, .null])) := by
    rw [List.getElem?_append_right (by omega), hlen]
    rfl
  have hr2 := va_runI (p := p) (l := l) (e := e) (below := below) (meth := meth) (locs := locs) (cells := 23) (slots := 273) (As := []) (rest := [.ref q1]) (g := F0 m 12 ls (.ref q1 :: [.ref q1])) (R := room_1) ⟨hx, hb, hml, hown, htsT⟩ (c_X6_init l g q1 H.size) ⟨callB_of 0 htsT (sm_gd w_527) rfl rfl rfl (htsT _ w_56) (htsT _ w_525) (by decide +kernel) ⟨Nat.le_of_ble_eq_true rfl, Nat.le_of_ble_eq_true rfl⟩, rfl, htsT _ w_526⟩ (sn_pre hA0 hA hP hD hS 22 hat) rfl rfl hl.1 rfl (lv_room (Nat.le_of_ble_eq_true rfl)) dL_law_12 ⟨Nat.le_of_ble_eq_true rfl, Nat.le_of_ble_eq_true rfl⟩
  have hRR : (List.range 22).map (fun i => (sm_w 22 ad (eX g ad sX0) ++ [(q1, (.inr (3, [.null, .null, .null, .null, .null, .null, .null, .null, .null, .null, .null, .null, .int 0, .int 0, .int 0, .null, .null, .null, .null, .null, .null]) : va_E))])[i]?) = (sm_w 22 ad (eX g ad sX0)).map some := by
    rw [show (sm_w 22 ad (eX g ad sX0)).map some = (List.range 22).map (fun i => some (ad i, eX g ad sX0 i)) from by simp [sm_w]]
    apply List.map_congr_left
    intro a ha
    rw [List.getElem?_append_left (by rw [hlen]; exact List.mem_range.mp ha)]
    exact sm_w_at (List.mem_range.mp ha)
  refine sn_ctor (wr := sm_w 22 ad (eX g ad sX0)) hr2 hA hP hD hS 22 hat (List.range 22) hRR (by decide) (by decide) (fun am H locs hu2 hP hD hS => ?_)
  refine W.widen (k := 600000) (n := 7302250) (by omega) (by omega) ?_
  refine lv_astore_n (lv' := [(2, .ref q1), (1, .ref q0), (0, .ref b)]) hx hb dL_law_15 rfl hl (by decide) rfl (fun ls hl => ?_)
  refine lv_iconst (v := 0) hx hb dL_law_16 (by decide) ?_
  refine lv_istore_n (lv' := [(3, .int 0), (2, .ref q1), (1, .ref q0), (0, .ref b)]) hx hb dL_law_17 rfl hl (by decide) rfl (fun ls hl => ?_)
  obtain ⟨hDX, hDM, hdis⟩ := sn_wTwo hD
  have hX1 := sn_wInj hDX
  have hM1 := sn_wInj hDM
  have hPX : sm_PP g 22 ad (eX g ad) sX0 H := by
    intro k q hk
    have hk2 : k < 22 := by
      have := (List.getElem?_eq_some_iff.mp hk).1
      simpa [sm_w] using this
    exact hP k q (by rw [List.getElem?_append_left (by omega)]; exact hk)
  have hPM : sm_PP g 19 am (eM g am) sM0 H := by
    intro k q hk
    exact hP (22 + k) q (by rw [List.getElem?_append_right (by omega), hlen, Nat.add_sub_cancel_left]; exact hk)
  have hl2 : lv_has ls 4 [(0, .ref b), (1, .ref (ad 0)), (2, .ref (am 0)), (3, .int 0)] := by
    rw [hu, hu2]
    exact lv_sub hl [3, 2, 1, 0] rfl
  exact law_loop hL C0 ⟨hA0, ⟨hX1.1, hM1.1⟩, hdis, hX1.2, hM1.2⟩ 392 0 0 (by decide) (by decide) nI_0.symm sX0 sM0 st_init H locs ⟨hPX, hPM, hS⟩ ls hl2
set_option maxHeartbeats 4000000 in
theorem lw_walk (l : Launch) (hflags : l.flags = flags0) (b : Addr) (xs : List Int32) : MetFree l x (headSpec (Jvm.Cond.code x code maxLocals ret :: tables_1) room_1) (lw_P b xs) (fun _ _ _ _ _ => True) lw_Q := by
  refine MetFree.of_bodyS (code := code) (maxLocals := maxLocals) (ret := ret) (by decide) ?_ ?_
  · intro args s m h hn
    obtain ⟨meth, c, h1, h2, h3, h4, h5, h6, -, -⟩ := Cond.code_spec hn (atoms_spec (ws := Jvm.Cond.code x code maxLocals ret :: tables_1) h _ List.mem_cons_self)
    exact ⟨meth, c, h1, h2, h3, h4, h5, h6⟩
  · intro p e s m args below meth c s₁ B hml0 hP _
    obtain ⟨rfl, hx, hbd, hgv⟩ := hP
    obtain ⟨scr, harrAt, hlist, hof, hsmall⟩ := hx
    obtain ⟨hcb, hkn, -, -⟩ := State.arrayAt?_spec harrAt
    have hown : s.vm.findClass R_law = some m.cls := findClass_of_methodNamed B.named
    have hts0 : ∀ c ∈ (Jvm.Cond.code x code maxLocals ret :: tables_1), c.before #[Value.ref b] s = true := atoms_spec (ws := Jvm.Cond.code x code maxLocals ret :: tables_1) B.pre
    have hts : ∀ w ∈ lw_tbl, w.before #[Value.ref b] s = true := k2_hts_sels lw_privs (fun w hw => hts0 w (List.mem_cons_of_mem _ hw)) lw_privs_ok
    have hml : c.maxLocals = 4 := B.maxLocals_eq (hts0 _ List.mem_cons_self)
    have X₀ : Stand p l e room_1 s m #[Value.ref b] below meth c s₁ [] 0 0 := Stand.of_body B
    have hh0 : s₁.heap = s.heap := by rw [B.state]; rfl
    have hsz : scr.slots.size = xs.length := by rw [← Array.length_toList, hlist, List.length_map]
    have hval : ∀ j : Nat, j < xs.length → scr.slots[j]? = some (.int (xs.getD j 0)) := fun j hj => by
      rw [← Array.getElem?_toList, hlist]
      simp [hj]
    have hbl : b < s.heap.size := (Array.getElem?_eq_some_iff.mp hcb).1
    have hX : va_X b xs.length (fun j => xs.getD j 0) s s.heap := ⟨scr, hcb, hof, hkn, hsz, hval⟩
    have K : W p l e room_1 s m #[Value.ref b] below meth c s₁.heap [] 0 0 (lw_Z below #[Value.ref b] s) (entryFrame m ([Value.ref b] : List Value).toArray 4) := by
      rw [hh0]
      exact whole_start l hflags hbd ⟨B.exec, B.bytes, B.returns, hml, hown, hts, hX, hbl, B.notSynchronized, hgv⟩
    obtain ⟨t, a1, o, b1, b2, b3⟩ := K s₁ rfl X₀
    exact ⟨t, o, a1, b1, b2, b3⟩
theorem lw_pre_spec {args : Array Value} {s : State} (h : (Jvm.Cond.and given_1 narrow_1).before args s = true) (hr : rest_1_c.before args s = true) : ∃ (b : Addr) (xs : List Int32), lw_P b xs args s := by
  have hs := flat_of_before _ h
  have hq := flat_of_before _ hr
  have hc : (Cond.count 1).before args s = true := hs _ (by decide +kernel)
  have harr : (Cond.arrayOf (.arg 0) .int).before args s = true := hs _ (by decide +kernel)
  have hle : (Cond.le (.length (.arg 0)) (.int 384)).before args s = true := hs _ (by decide +kernel)
  have hlen : (Cond.isInt (.length (.arg 0))).before args s = true := hq _ (by decide +kernel)
  have hall : (Cond.all (.arg 0) (.isInt (.elem (.arg 0) (.index 0)))).before args s = true := hq _ (by decide +kernel)
  obtain ⟨b, xs, hb, hx⟩ := State.ints_of_pre rfl harr hlen hall
  have hsm : xs.length < 2 ^ 31 := hx.choose_spec.2.2.2
  have hev : (Term.length (.arg 0)).eval args s none [] s = some (.int xs.length.toInt32) := hx.length_eval hb
  have hv := Cond.le_ints hev (show (Term.int 384).eval args s none [] s = some (.int 384) from rfl)
  have hd : xs.length.toInt32 ≤ 384 := by
    simpa [Cond.before, Cond.holds, hv] using hle
  have hN : xs.length ≤ 384 := (Int32.ofNat_le_ofNat hsm (by decide)).mp (show Int32.ofNat xs.length ≤ Int32.ofNat 384 from hd)
  exact ⟨b, xs, Cond.one_arg hc (show args[0]? = some (.ref b) from hb), hx, hN, h⟩
theorem lw_comes (l : Launch) (hflags : l.flags = flags0) : Comes l x (Jvm.Cond.code x code maxLocals ret :: tables_1) room_1 (fun tb e args s => Calls_1 tb e args s ∧ rest_1 tb e args s ∧ Pre_1 tb e args s)
    (fun _ _ args s o t => lw_Q args s o t) := by
  intro p e ha hc hk s m args below hf hfit hheap happ hpre
  obtain ⟨b, xs, hP⟩ := lw_pre_spec hpre.2.2 hpre.2.1
  obtain ⟨k, o, h1, h2, h3, hQ⟩ := lw_walk l hflags b xs p e ha hc hk s m args below hf ((Spec.applies_iff_loose hf).mp happ).1 hP trivial
  exact ⟨k, o, h1, h2, h3, hQ⟩
theorem lw_frame {s t : State} {o : Outcome} {args : Array Value} (h : Framed s o t [] 600000 7302250) :
    Framed s o t (fieldLocs frame_1_writes args s ++ arrayLocs frame_1_arrays args s ++ staticLocs frame_1_statics s) 600000 7302250 := h
theorem lw_limb (L : Cond) (hL : ∀ (args : Array Value) (s t : State), L.after args s (.returned (some (.int 1))) t = true) :
    ArmFor flags0 classFile x code maxLocals ret World_1 tables_1 room_1 Calls_1 rest_1 Pre_1
      (fun tb e a s o t => postC L tb e a s o t ∧ Framed s o t (fieldLocs frame_1_writes a s ++ arrayLocs frame_1_arrays a s ++ staticLocs frame_1_statics s) 600000 7302250) := by
  intro l hflags _ _ p e ha hc hk s m args below hf hfit hheap happ hpre
  obtain ⟨k, o, h1, h2, h3, rfl, hF⟩ := lw_comes l hflags p e ha hc hk s m args below hf hfit hheap happ hpre
  exact ⟨k, _, h1, h2, h3, hL args s _, lw_frame hF⟩
theorem i_vc : Claimed_1_1 ∧ Claimed_1_2 := ⟨lw_limb limb_1_1 (fun args s t => by simp [limb_1_1, Cond.after, Cond.holds, Cond.value]), lw_limb limb_1_2 (fun args s t => Cond.after_iff.mpr (by
  first | (rw [show limb_1_2 = Cond.eq .result (.int 1) from rfl, Cond.eq_ints (x := 1) (y := 1) rfl rfl]; simp; done) | (simp [limb_1_2, Cond.value, Term.eval]; done)))⟩
