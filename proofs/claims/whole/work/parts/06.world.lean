/-! OWN ROWS 3: the two worlds: eX the class's 22 cells, eM the reference's 19 cells -/
def eXc (g : sm_G) (ad : Nat → Nat) (j : Nat) (I : Nat → Int32) (L : Nat → Int64) (ar : Nat → Option Nat) : va_E :=
  if j = 0 then .inr (2, [.ref (ad 1), .ref (ad 2), .ref (ad 3), .ref (ad 4), .ref (ad 5), .ref (ad 6), .ref (ad 8), .int (I 0)])
  else if j = 1 then .inl (gI g, 8, .inl I)
  else if j = 2 then .inl (gL g, 8, .inr (.inl L))
  else if j = 3 then .inl (gI g, 8, .inl I)
  else if j = 4 then .inl (gC g, 4, .inr (.inr (.inr (.inr (fun h => (ar h).map (fun i => ad (10 + 3 * i)))))))
  else if j = 5 then .inl (gC g, 4, .inr (.inr (.inr (.inr (fun h => some (ad (10 + 3 * h)))))))
  else if j = 6 ∨ j = 8 then .inr (1, [.ref (ad (j + 1)), .int (I 0)])
  else if j = 7 ∨ j = 9 then .inl (gI g, 48, .inl I)
  else if j % 3 = 1 then .inr (0, [.ref (ad (j + 1)), .ref (ad (j + 2)), .int (I 0), .int (I 1)])
  else if j % 3 = 2 then .inl (gL g, 12, .inr (.inl L))
  else .inl (gI g, 12, .inl I)
def eX (g : sm_G) (ad : Nat → Nat) (σ : sm_S) (j : Nat) : va_E := eXc g ad j (σ.1 j) (σ.2.1 j) σ.2.2
theorem eX_lay (g : sm_G) (ad : Nat → Nat) : sm_lay (eX g ad) := fun σ τ j h1 h2 h3 => by unfold eX; rw [h1, h2, h3]
theorem eX_0 (g : sm_G) (ad : Nat → Nat) (σ : sm_S) : eX g ad σ 0 = .inr (2, [.ref (ad 1), .ref (ad 2), .ref (ad 3), .ref (ad 4), .ref (ad 5), .ref (ad 6), .ref (ad 8), .int (σ.1 0 0)]) := by simp [eX, eXc]
theorem eX_1 (g : sm_G) (ad : Nat → Nat) (σ : sm_S) : eX g ad σ 1 = .inl (gI g, 8, .inl (σ.1 1)) := by simp [eX, eXc]
theorem eX_2 (g : sm_G) (ad : Nat → Nat) (σ : sm_S) : eX g ad σ 2 = .inl (gL g, 8, .inr (.inl (σ.2.1 2))) := by simp [eX, eXc]
theorem eX_3 (g : sm_G) (ad : Nat → Nat) (σ : sm_S) : eX g ad σ 3 = .inl (gI g, 8, .inl (σ.1 3)) := by simp [eX, eXc]
theorem eX_4 (g : sm_G) (ad : Nat → Nat) (σ : sm_S) : eX g ad σ 4 = .inl (gC g, 4, .inr (.inr (.inr (.inr (fun h => (σ.2.2 h).map (fun i => ad (10 + 3 * i))))))) := by simp [eX, eXc]
theorem eX_5 (g : sm_G) (ad : Nat → Nat) (σ : sm_S) : eX g ad σ 5 = .inl (gC g, 4, .inr (.inr (.inr (.inr (fun h => some (ad (10 + 3 * h))))))) := by simp [eX, eXc]
theorem eX_nt {k : Nat} (hk : k = 6 ∨ k = 8) (g : sm_G) (ad : Nat → Nat) (σ : sm_S) : eX g ad σ k = .inr (1, [.ref (ad (k + 1)), .int (σ.1 k 0)]) := by
  rcases hk with rfl | rfl <;> simp [eX, eXc]
theorem eX_nn {k : Nat} (hk : k = 6 ∨ k = 8) (g : sm_G) (ad : Nat → Nat) (σ : sm_S) : eX g ad σ (k + 1) = .inl (gI g, 48, .inl (σ.1 (k + 1))) := by
  rcases hk with rfl | rfl <;> simp [eX, eXc]
theorem nt_lt {k : Nat} (hk : k = 6 ∨ k = 8) : k < 22 := by omega
theorem nn_lt {k : Nat} (hk : k = 6 ∨ k = 8) : k + 1 < 22 := by omega
theorem eX_c0 {i : Nat} (hi : i < 4) (g : sm_G) (ad : Nat → Nat) (σ : sm_S) : eX g ad σ (10 + 3 * i) = .inr (0, [.ref (ad (11 + 3 * i)), .ref (ad (12 + 3 * i)), .int (σ.1 (10 + 3 * i) 0), .int (σ.1 (10 + 3 * i) 1)]) := by
  rcases (show i = 0 ∨ i = 1 ∨ i = 2 ∨ i = 3 by omega) with rfl | rfl | rfl | rfl <;> simp [eX, eXc]
theorem eX_c1 {i : Nat} (hi : i < 4) (g : sm_G) (ad : Nat → Nat) (σ : sm_S) : eX g ad σ (11 + 3 * i) = .inl (gL g, 12, .inr (.inl (σ.2.1 (11 + 3 * i)))) := by
  rcases (show i = 0 ∨ i = 1 ∨ i = 2 ∨ i = 3 by omega) with rfl | rfl | rfl | rfl <;> simp [eX, eXc]
theorem eX_c2 {i : Nat} (hi : i < 4) (g : sm_G) (ad : Nat → Nat) (σ : sm_S) : eX g ad σ (12 + 3 * i) = .inl (gI g, 12, .inl (σ.1 (12 + 3 * i))) := by
  rcases (show i = 0 ∨ i = 1 ∨ i = 2 ∨ i = 3 by omega) with rfl | rfl | rfl | rfl <;> simp [eX, eXc]
theorem c0_lt {i : Nat} (hi : i < 4) : 10 + 3 * i < 22 := by omega
theorem c1_lt {i : Nat} (hi : i < 4) : 11 + 3 * i < 22 := by omega
theorem c2_lt {i : Nat} (hi : i < 4) : 12 + 3 * i < 22 := by omega
def eMc (g : sm_G) (ad : Nat → Nat) (j : Nat) (I : Nat → Int32) (L : Nat → Int64) : va_E :=
  if j = 0 then .inr (3, [.ref (ad 1), .ref (ad 2), .ref (ad 3), .ref (ad 4), .ref (ad 5), .ref (ad 6), .ref (ad 7), .ref (ad 8), .ref (ad 9), .ref (ad 10), .ref (ad 11), .ref (ad 12), .int (I 0), .int (I 1), .int (I 2), .ref (ad 13), .ref (ad 14), .ref (ad 15), .ref (ad 16), .ref (ad 17), .ref (ad 18)])
  else if j = 1 then .inl (gI g, 8, .inl I)
  else if j = 2 then .inl (gI g, 56, .inl I)
  else if j = 3 then .inl (gL g, 56, .inr (.inl L))
  else if j = 4 then .inl (gZ g, 56, .inl I)
  else if j ≤ 7 then .inl (gI g, 4, .inl I)
  else if j ≤ 12 then .inl (gI g, 16, .inl I)
  else if j = 13 then .inl (gI g, 24, .inl I)
  else if j = 14 then .inl (gL g, 12, .inr (.inl L))
  else if j ≤ 16 then .inl (gI g, 2, .inl I)
  else if j = 17 then .inl (gZ g, 2, .inl I)
  else .inl (gL g, 2, .inr (.inl L))
def eM (g : sm_G) (ad : Nat → Nat) (σ : sm_S) (j : Nat) : va_E := eMc g ad j (σ.1 j) (σ.2.1 j)
theorem eM_lay (g : sm_G) (ad : Nat → Nat) : sm_lay (eM g ad) := fun σ τ j h1 h2 _ => by unfold eM; rw [h1, h2]
theorem eM_0 (g : sm_G) (ad : Nat → Nat) (σ : sm_S) : eM g ad σ 0 = .inr (3, [.ref (ad 1), .ref (ad 2), .ref (ad 3), .ref (ad 4), .ref (ad 5), .ref (ad 6), .ref (ad 7), .ref (ad 8), .ref (ad 9), .ref (ad 10), .ref (ad 11), .ref (ad 12), .int (σ.1 0 0), .int (σ.1 0 1), .int (σ.1 0 2), .ref (ad 13), .ref (ad 14), .ref (ad 15), .ref (ad 16), .ref (ad 17), .ref (ad 18)]) := by simp [eM, eMc]
theorem eM_1 (g : sm_G) (ad : Nat → Nat) (σ : sm_S) : eM g ad σ 1 = .inl (gI g, 8, .inl (σ.1 1)) := by simp [eM, eMc]
theorem eM_2 (g : sm_G) (ad : Nat → Nat) (σ : sm_S) : eM g ad σ 2 = .inl (gI g, 56, .inl (σ.1 2)) := by simp [eM, eMc]
theorem eM_3 (g : sm_G) (ad : Nat → Nat) (σ : sm_S) : eM g ad σ 3 = .inl (gL g, 56, .inr (.inl (σ.2.1 3))) := by simp [eM, eMc]
theorem eM_4 (g : sm_G) (ad : Nat → Nat) (σ : sm_S) : eM g ad σ 4 = .inl (gZ g, 56, .inl (σ.1 4)) := by simp [eM, eMc]
theorem eM_5 (g : sm_G) (ad : Nat → Nat) (σ : sm_S) : eM g ad σ 5 = .inl (gI g, 4, .inl (σ.1 5)) := by simp [eM, eMc]
theorem eM_6 (g : sm_G) (ad : Nat → Nat) (σ : sm_S) : eM g ad σ 6 = .inl (gI g, 4, .inl (σ.1 6)) := by simp [eM, eMc]
theorem eM_7 (g : sm_G) (ad : Nat → Nat) (σ : sm_S) : eM g ad σ 7 = .inl (gI g, 4, .inl (σ.1 7)) := by simp [eM, eMc]
theorem eM_8 (g : sm_G) (ad : Nat → Nat) (σ : sm_S) : eM g ad σ 8 = .inl (gI g, 16, .inl (σ.1 8)) := by simp [eM, eMc]
theorem eM_9 (g : sm_G) (ad : Nat → Nat) (σ : sm_S) : eM g ad σ 9 = .inl (gI g, 16, .inl (σ.1 9)) := by simp [eM, eMc]
theorem eM_10 (g : sm_G) (ad : Nat → Nat) (σ : sm_S) : eM g ad σ 10 = .inl (gI g, 16, .inl (σ.1 10)) := by simp [eM, eMc]
theorem eM_11 (g : sm_G) (ad : Nat → Nat) (σ : sm_S) : eM g ad σ 11 = .inl (gI g, 16, .inl (σ.1 11)) := by simp [eM, eMc]
theorem eM_12 (g : sm_G) (ad : Nat → Nat) (σ : sm_S) : eM g ad σ 12 = .inl (gI g, 16, .inl (σ.1 12)) := by simp [eM, eMc]
theorem eM_13 (g : sm_G) (ad : Nat → Nat) (σ : sm_S) : eM g ad σ 13 = .inl (gI g, 24, .inl (σ.1 13)) := by simp [eM, eMc]
theorem eM_14 (g : sm_G) (ad : Nat → Nat) (σ : sm_S) : eM g ad σ 14 = .inl (gL g, 12, .inr (.inl (σ.2.1 14))) := by simp [eM, eMc]
theorem eM_15 (g : sm_G) (ad : Nat → Nat) (σ : sm_S) : eM g ad σ 15 = .inl (gI g, 2, .inl (σ.1 15)) := by simp [eM, eMc]
theorem eM_16 (g : sm_G) (ad : Nat → Nat) (σ : sm_S) : eM g ad σ 16 = .inl (gI g, 2, .inl (σ.1 16)) := by simp [eM, eMc]
theorem eM_17 (g : sm_G) (ad : Nat → Nat) (σ : sm_S) : eM g ad σ 17 = .inl (gZ g, 2, .inl (σ.1 17)) := by simp [eM, eMc]
theorem eM_18 (g : sm_G) (ad : Nat → Nat) (σ : sm_S) : eM g ad σ 18 = .inl (gL g, 2, .inr (.inl (σ.2.1 18))) := by simp [eM, eMc]
/-! calls that write, with a name for what comes -/
section SMN
variable {p : Program} {l : Launch} {e : Env} {s : State} {m : MethodId} {args : Array Value} {below : List Frame} {meth : Method} {c : Code} {H : Heap} {locs : List Loc} {Q : State → Prop}
variable {pc : Nat} {ls : Array Slot} {rest st0 : List Value} {D N : Nat} {ad : Nat → Nat} {E : sm_S → Nat → va_E} {g : sm_G} {σ : sm_S}
theorem sw_cin {α : Type} {F0' : α} {F : Int32 × sm_S} {a : Array Value} {g0 : Int32 × sm_S → α} (hv : F0' = sm_let F g0) (hB : sm_B g N ad E s H locs σ) (hr : va_Run p l e (rmd D) s m args below meth c H locs 0 0 0 0 (F0 m pc ls st0) rest (sm_Qi g N ad E H.size F a) (sm_AX N ad H.size))
    (kk : ∀ u : Int32 × sm_S, u = F → F0' = g0 u → ∀ (H1 : Heap) (locs1 : List Loc), sm_B g N ad E s H1 locs1 u.2 → W p l e (rmd D) s m args below meth c H1 locs1 0 0 Q (F0 m (pc + 3) ls (.int u.1 :: rest))) : W p l e (rmd D) s m args below meth c H locs 0 0 Q (F0 m pc ls st0) :=
  sw_ci hB hr (kk F rfl hv)
theorem sw_cln {α : Type} {F0' : α} {F : Int64 × sm_S} {a : Array Value} {g0 : Int64 × sm_S → α} (hv : F0' = sm_let F g0) (hB : sm_B g N ad E s H locs σ) (hr : va_Run p l e (rmd D) s m args below meth c H locs 0 0 0 0 (F0 m pc ls st0) rest (sm_Ql g N ad E H.size F a) (sm_AX N ad H.size))
    (kk : ∀ u : Int64 × sm_S, u = F → F0' = g0 u → ∀ (H1 : Heap) (locs1 : List Loc), sm_B g N ad E s H1 locs1 u.2 → W p l e (rmd D) s m args below meth c H1 locs1 0 0 Q (F0 m (pc + 3) ls (.long u.1 :: rest))) : W p l e (rmd D) s m args below meth c H locs 0 0 Q (F0 m pc ls st0) :=
  sw_cl hB hr (kk F rfl hv)
theorem sw_cvn {α : Type} {F0' : α} {F : sm_S} {a : Array Value} {g0 : sm_S → α} (hv : F0' = sm_let F g0) (hB : sm_B g N ad E s H locs σ) (hr : va_Run p l e (rmd D) s m args below meth c H locs 0 0 0 0 (F0 m pc ls st0) rest (sm_Qv g N ad E H.size F a) (sm_AX N ad H.size))
    (kk : ∀ u : sm_S, u = F → F0' = g0 u → ∀ (H1 : Heap) (locs1 : List Loc), sm_B g N ad E s H1 locs1 u → W p l e (rmd D) s m args below meth c H1 locs1 0 0 Q (F0 m (pc + 3) ls rest)) : W p l e (rmd D) s m args below meth c H locs 0 0 Q (F0 m pc ls st0) :=
  sw_cv hB hr (kk F rfl hv)
end SMN
/-! indices -/
theorem in_lit {i : Int32} {n : Nat} (h : decide (¬ (i < 0 ∨ n ≤ i.toNatClampNeg)) = true) : vp_in i n := of_decide_eq_true (p := ¬ (i < 0 ∨ n ≤ i.toNatClampNeg)) h
theorem in_ge {i n : Int32} {N : Nat} (h0 : ¬ i < 0) (h : ¬ n ≤ i) (hN : n.toInt ≤ N) : vp_in i N := by
  rw [vp_in_iff]
  have h1 := Int32.not_lt.mp h0
  have h2 := Int32.not_le.mp h
  rw [Int32.le_iff_toInt_le] at h1
  rw [Int32.lt_iff_toInt_lt] at h2
  have h3 : (0 : Int32).toInt = 0 := rfl
  omega
theorem me_inc {k b : Int32} (h : ¬ b ≤ k) : (b.toInt - (k + 1).toInt).toNat < (b.toInt - k.toInt).toNat := by
  have h2 := Int32.not_le.mp h
  rw [Int32.lt_iff_toInt_lt] at h2
  have h3 := Int32.toInt_lt b
  have h4 := Int32.le_toInt k
  have h5 : (k + 1).toInt = k.toInt + 1 := by
    rw [Int32.toInt_add, show (1 : Int32).toInt = 1 from rfl]
    apply Int.bmod_eq_of_le <;> omega
  omega
theorem me_dec {k b : Int32} (h : ¬ k ≤ b) : ((k + -1).toInt - b.toInt).toNat < (k.toInt - b.toInt).toNat := by
  have h2 := Int32.not_le.mp h
  rw [Int32.lt_iff_toInt_lt] at h2
  have h3 := Int32.toInt_lt k
  have h4 := Int32.le_toInt b
  have h5 : (k + -1).toInt = k.toInt - 1 := by
    rw [Int32.toInt_add, show (-1 : Int32).toInt = -1 from rfl]
    have := Int.bmod_eq_of_le (n := k.toInt + -1) (m := 2 ^ 32) (by omega) (by omega)
    omega
  omega
/-! heads of contracts -/
theorem sm_mP {l : Launch} {y : MethodName} {cc : ByteArray} {nL : Nat} {ret : Option FieldType} {d : Nat} {g : sm_G} {vs : List Value} {Qc : Array Value → State → Outcome → State → Prop} {free : Addr → Prop} (hy : plainName y.cls = true) (hn : (lg_sl vs).length ≤ nL)
    (body : ∀ (p : Program) (e : Env) (s : State) (m : MethodId) (args : Array Value) (below : List Frame) (meth : Method) (c : Code), sm_C p s m args meth c cc nL y.cls ret → sm_A g (fun _ => False) s s.heap → ∀ ls : Array Slot, lv_has ls nL (lv_args 0 vs) → W p l e (rmd d) s m args below meth c s.heap [] 0 0 (MQ below Qc args s 0 0 free) (F0 m 0 ls [])) : Met l y (sm_ws y cc nL ret) (rmd d) (va_Pc vs (sm_P0 g)) Qc 0 0 free := by
  refine sm_met hy (fun p e s m args below meth c C hv => ?_)
  obtain ⟨ha, hA⟩ := hv
  subst ha
  rw [lg_entry_eq]
  exact body p e s m _ below meth c C hA _ (lv_entry vs hn)
theorem sm_mR {l : Launch} {y : MethodName} {cc : ByteArray} {nL : Nat} {ret : Option FieldType} {d N sz : Nat} {ad : Nat → Nat} {E : sm_S → Nat → va_E} {σ : sm_S} {g : sm_G} {vs : List Value} {Qc : Array Value → State → Outcome → State → Prop} {free : Addr → Prop} (hy : plainName y.cls = true) (hn : (lg_sl vs).length ≤ nL) (hj : sm_inj N ad) (hlay : sm_lay E)
    (body : ∀ (p : Program) (e : Env) (s : State) (m : MethodId) (args : Array Value) (below : List Frame) (meth : Method) (c : Code), sm_C p s m args meth c cc nL y.cls ret → sm_W g N ad E s → sm_B g N ad E s s.heap [] σ → ∀ ls : Array Slot, lv_has ls nL (lv_args 0 vs) → W p l e (rmd d) s m args below meth c s.heap [] 0 0 (MQ below Qc args s 0 0 free) (F0 m 0 ls [])) : Met l y (sm_ws y cc nL ret) (rmd d) (va_Pc vs (sm_Pre g N ad E σ sz)) Qc 0 0 free := by
  refine sm_met hy (fun p e s m args below meth c C hv => ?_)
  obtain ⟨ha, hsz, hP, hA⟩ := hv
  subst ha
  subst hsz
  rw [lg_entry_eq]
  exact body p e s m _ below meth c C ⟨hA, hj, hlay⟩ ⟨hP, va_S.rf⟩ _ (lv_entry vs hn)
theorem sm_mWi {l : Launch} {y : MethodName} {cc : ByteArray} {nL : Nat} {ret : Option FieldType} {d N sz : Nat} {ad : Nat → Nat} {E : sm_S → Nat → va_E} {σ : sm_S} {g : sm_G} {vs : List Value} {F : Int32 × sm_S} (hy : plainName y.cls = true) (hn : (lg_sl vs).length ≤ nL) (hj : sm_inj N ad) (hlay : sm_lay E)
    (body : ∀ (p : Program) (e : Env) (s : State) (m : MethodId) (args : Array Value) (below : List Frame) (meth : Method) (c : Code), sm_C p s m args meth c cc nL y.cls ret → sm_W g N ad E s → sm_B g N ad E s s.heap [] σ → ∀ ls : Array Slot, lv_has ls nL (lv_args 0 vs) → W p l e (rmd d) s m args below meth c s.heap [] 0 0 (MQ below (sm_Qi g N ad E s.heap.size F) args s 0 0 (sm_AX N ad s.heap.size)) (F0 m 0 ls [])) : Met l y (sm_ws y cc nL ret) (rmd d) (va_Pc vs (sm_Pre g N ad E σ sz)) (sm_Qi g N ad E sz F) 0 0 (sm_AX N ad sz) := by
  refine sm_met hy (fun p e s m args below meth c C hv => ?_)
  obtain ⟨ha, hsz, hP, hA⟩ := hv
  subst ha
  subst hsz
  rw [lg_entry_eq]
  exact body p e s m _ below meth c C ⟨hA, hj, hlay⟩ ⟨hP, va_S.rf⟩ _ (lv_entry vs hn)
theorem sm_mWl {l : Launch} {y : MethodName} {cc : ByteArray} {nL : Nat} {ret : Option FieldType} {d N sz : Nat} {ad : Nat → Nat} {E : sm_S → Nat → va_E} {σ : sm_S} {g : sm_G} {vs : List Value} {F : Int64 × sm_S} (hy : plainName y.cls = true) (hn : (lg_sl vs).length ≤ nL) (hj : sm_inj N ad) (hlay : sm_lay E)
    (body : ∀ (p : Program) (e : Env) (s : State) (m : MethodId) (args : Array Value) (below : List Frame) (meth : Method) (c : Code), sm_C p s m args meth c cc nL y.cls ret → sm_W g N ad E s → sm_B g N ad E s s.heap [] σ → ∀ ls : Array Slot, lv_has ls nL (lv_args 0 vs) → W p l e (rmd d) s m args below meth c s.heap [] 0 0 (MQ below (sm_Ql g N ad E s.heap.size F) args s 0 0 (sm_AX N ad s.heap.size)) (F0 m 0 ls [])) : Met l y (sm_ws y cc nL ret) (rmd d) (va_Pc vs (sm_Pre g N ad E σ sz)) (sm_Ql g N ad E sz F) 0 0 (sm_AX N ad sz) := by
  refine sm_met hy (fun p e s m args below meth c C hv => ?_)
  obtain ⟨ha, hsz, hP, hA⟩ := hv
  subst ha
  subst hsz
  rw [lg_entry_eq]
  exact body p e s m _ below meth c C ⟨hA, hj, hlay⟩ ⟨hP, va_S.rf⟩ _ (lv_entry vs hn)
theorem sm_mWv {l : Launch} {y : MethodName} {cc : ByteArray} {nL : Nat} {ret : Option FieldType} {d N sz : Nat} {ad : Nat → Nat} {E : sm_S → Nat → va_E} {σ : sm_S} {g : sm_G} {vs : List Value} {F : sm_S} (hy : plainName y.cls = true) (hn : (lg_sl vs).length ≤ nL) (hj : sm_inj N ad) (hlay : sm_lay E)
    (body : ∀ (p : Program) (e : Env) (s : State) (m : MethodId) (args : Array Value) (below : List Frame) (meth : Method) (c : Code), sm_C p s m args meth c cc nL y.cls ret → sm_W g N ad E s → sm_B g N ad E s s.heap [] σ → ∀ ls : Array Slot, lv_has ls nL (lv_args 0 vs) → W p l e (rmd d) s m args below meth c s.heap [] 0 0 (MQ below (sm_Qv g N ad E s.heap.size F) args s 0 0 (sm_AX N ad s.heap.size)) (F0 m 0 ls [])) : Met l y (sm_ws y cc nL ret) (rmd d) (va_Pc vs (sm_Pre g N ad E σ sz)) (sm_Qv g N ad E sz F) 0 0 (sm_AX N ad sz) := by
  refine sm_met hy (fun p e s m args below meth c C hv => ?_)
  obtain ⟨ha, hsz, hP, hA⟩ := hv
  subst ha
  subst hsz
  rw [lg_entry_eq]
  exact body p e s m _ below meth c C ⟨hA, hj, hlay⟩ ⟨hP, va_S.rf⟩ _ (lv_entry vs hn)
/-! the class's array of references -/
theorem eX_uR (g : sm_G) (ad : Nat → Nat) (σ : sm_S) (h : Nat) (q : Option Nat) {e : va_E} (he : e = .inl (gC g, 4, .inr (.inr (.inr (.inr (va_up (fun h => (σ.2.2 h).map (fun i => ad (10 + 3 * i))) h (q.map (fun i => ad (10 + 3 * i))))))))) : ∀ j, j < 22 → eX g ad (uR σ h q) j = if j = 4 then e else eX g ad σ j := by
  intro j _
  by_cases hj : j = 4
  · subst hj
    rw [if_pos rfl, eX_4, he]
    congr 2
    simp only [uR]
    congr 5
    funext k
    by_cases hk : k = h
    · subst hk; simp [va_up]
    · simp [va_up, hk]
  · rw [if_neg hj]
    simp [eX, eXc, hj, uR]
section XRR
variable {p : Program} {l : Launch} {e : Env} {s : State} {m : MethodId} {args : Array Value} {below : List Frame} {meth : Method} {c : Code} {H : Heap} {locs : List Loc} {R : Room} {cells slots : Nat} {Q : State → Prop}
variable {cc : ByteArray} {pc : Nat} {ls : Array Slot} {rest : List Value} {ad : Nat → Nat} {g : sm_G} {σ : sm_S}
theorem xr_ld (hx : p.tables.exec = Jvm.exec) (hb : c.code = cc) (hW : sm_W g 22 ad (eX g ad) s) (hB : sm_B g 22 ad (eX g ad) s H locs σ) {h : Int32} (hin : vp_in h 4) (hdg : decode cc pc = .ok (.aaload, 1))
    (kn : σ.2.2 h.toNatClampNeg = none → W p l e R s m args below meth c H locs cells slots Q (F0 m (pc + 1) ls (.null :: rest))) (ks : ∀ i : Nat, σ.2.2 h.toNatClampNeg = some i → W p l e R s m args below meth c H locs cells slots Q (F0 m (pc + 1) ls (.ref (ad (10 + 3 * i)) :: rest))) : W p l e R s m args below meth c H locs cells slots Q (F0 m pc ls (.int h :: .ref (ad 4) :: rest)) := by
  refine va_aldq (C := RX0) (ws := sm_w 22 ad (eX g ad σ)) hx hb hW.1.2.2.1 hB.1 4 3 (by rw [sm_w_at (by decide), eX_4]) rfl hin hdg ?_
  rcases hq : σ.2.2 h.toNatClampNeg with _ | i
  · exact kn hq
  · exact ks i hq
theorem xr_stN (hx : p.tables.exec = Jvm.exec) (hb : c.code = cc) (hW : sm_W g 22 ad (eX g ad) s) (hB : sm_B g 22 ad (eX g ad) s H locs σ) {h : Int32} (hin : vp_in h 4) (hdg : decode cc pc = .ok (.aastore, 1))
    (kk : ∀ (H1 : Heap) (locs1 : List Loc), sm_B g 22 ad (eX g ad) s H1 locs1 (uR σ h.toNatClampNeg none) → W p l e R s m args below meth c H1 locs1 cells slots Q (F0 m (pc + 1) ls rest)) : W p l e R s m args below meth c H locs cells slots Q (F0 m pc ls (.null :: .int h :: .ref (ad 4) :: rest)) := by
  refine va_astqN (C := RX0) (ws := sm_w 22 ad (eX g ad σ)) hx hb hW.1.2.2.1 hB.1 (sm_D hW.2.1) hB.2 4 3 (by rw [sm_w_at (by decide), eX_4]) rfl hin hdg (fun H1 locs1 hP _ hS => kk H1 locs1 ⟨?_, hS⟩)
  rw [sm_w_set (E' := eX g ad (uR σ h.toNatClampNeg none)) (eX_uR (e := .inl (gC g, 4, .inr (.inr (.inr (.inr (va_up (fun h => (σ.2.2 h).map (fun i => ad (10 + 3 * i))) h.toNatClampNeg none)))))) g ad σ h.toNatClampNeg none rfl)] at hP
  exact hP
theorem xr_st (hx : p.tables.exec = Jvm.exec) (hb : c.code = cc) (hW : sm_W g 22 ad (eX g ad) s) (hB : sm_B g 22 ad (eX g ad) s H locs σ) {i : Nat} (hi : i < 4) {h : Int32} (hin : vp_in h 4) (hdg : decode cc pc = .ok (.aastore, 1))
    (kk : ∀ (H1 : Heap) (locs1 : List Loc), sm_B g 22 ad (eX g ad) s H1 locs1 (uR σ h.toNatClampNeg (some i)) → W p l e R s m args below meth c H1 locs1 cells slots Q (F0 m (pc + 1) ls rest)) : W p l e R s m args below meth c H locs cells slots Q (F0 m pc ls (.ref (ad (10 + 3 * i)) :: .int h :: .ref (ad 4) :: rest)) := by
  refine va_astq (r := (RX0, TX0, 4)) (ws := sm_w 22 ad (eX g ad σ)) hx hb hW.1.2.2.1 hB.1 (sm_D hW.2.1) hB.2 4 3 (10 + 3 * i) 0 (by rw [sm_w_at (by decide), eX_4]) rfl (by rw [sm_w_at (c0_lt hi), eX_c0 hi]) rfl hin hdg (fun H1 locs1 hP _ hS => kk H1 locs1 ⟨?_, hS⟩)
  rw [sm_w_set (E' := eX g ad (uR σ h.toNatClampNeg (some i))) (eX_uR (e := .inl (gC g, 4, .inr (.inr (.inr (.inr (va_up (fun h => (σ.2.2 h).map (fun i => ad (10 + 3 * i))) h.toNatClampNeg (some (ad (10 + 3 * i))))))))) g ad σ h.toNatClampNeg (some i) rfl)] at hP
  exact hP
end XRR
theorem nn_inc {k b : Int32} (h0 : ¬ k < 0) (h : ¬ b ≤ k) : ¬ k + 1 < 0 := by
  have h1 := Int32.not_lt.mp h0
  have h2 := Int32.not_le.mp h
  rw [Int32.le_iff_toInt_le] at h1
  rw [Int32.lt_iff_toInt_lt] at h2
  have h3 := Int32.toInt_lt b
  have h4 : (0 : Int32).toInt = 0 := rfl
  have h5 : (k + 1).toInt = k.toInt + 1 := by
    rw [Int32.toInt_add, show (1 : Int32).toInt = 1 from rfl]
    apply Int.bmod_eq_of_le <;> omega
  intro q
  rw [Int32.lt_iff_toInt_lt] at q
  omega
theorem me_dec10 {k : Int32} (h : ¬ k ≤ 0) : (k + -10).toInt.toNat < k.toInt.toNat := by
  have h2 := Int32.not_le.mp h
  rw [Int32.lt_iff_toInt_lt] at h2
  have h3 := Int32.toInt_lt k
  have h4 : (0 : Int32).toInt = 0 := rfl
  have h5 : (k + -10).toInt = k.toInt - 10 := by
    rw [Int32.toInt_add, show (-10 : Int32).toInt = -10 from rfl]
    have := Int.bmod_eq_of_le (n := k.toInt + -10) (m := 2 ^ 32) (by omega) (by omega)
    omega
  omega
