/-! THE CLAIM OUT OF ONE WALK OF THE LAW'S BODY. Your part is whole_start (and what it stands on); all else here is the same for every law, but numbers. -/
def R_law : String := "ShadowMachineLaw"
def lw_P (b : Addr) (xs : List Int32) (args : Array Value) (s : State) : Prop := args = #[.ref b] ∧ s.IntsAt b xs ∧ xs.length ≤ 384 ∧ (Jvm.Cond.and given_1 narrow_1).before args s = true
def lw_Q (_ : Array Value) (s : State) (o : Outcome) (t : State) : Prop := o = .returned (some (.int 1)) ∧ Framed s o t [] 600000 7302250
def lw_Z (below : List Frame) (a : Array Value) (s : State) : State → Prop := fun t => ∃ o, t.status = .running ∧ Ended t below o ∧ lw_Q a s o t
/-- the law's own end, with 1 on the stack, nothing written that was there before, its room as the claim has it -/
theorem lw_ret {p : Program} {l : Launch} {e : Env} {s : State} {m : MethodId} {below : List Frame} {meth : Method} {c : Code} {b : Nat} (hx : p.tables.exec = Jvm.exec) (hb : c.code = code) (hr : meth.sig.returnType = ret) (hlocks : meth.locks = false) {pc : Nat} {H : Heap} {ls : Array Slot} (hdg : decode code pc = .ok (.ireturn, 1)) : W p l e room_1 s m #[Value.ref b] below meth c H [] 600000 7302250 (lw_Z below #[Value.ref b] s) (F0 m pc ls [.int 1]) := by
  intro T hT X
  obtain ⟨fs, hret, hrun, hended, hW, hframe⟩ := X.leave (v := some (.int 1)) (hlocks := hlocks) (fun h => by rw [hr] at h; cases h)
  have hmeth' : T.vm.method? m = some meth := X.method'
  refine ⟨T.setFrames fs, ?_, .returned (some (.int 1)), hrun, hended, rfl, ⟨_, rfl⟩, hW, hframe⟩
  jvm_step X.here [X.here.top, hx, hb, hdg, hmeth', hr, ret, narrow_b1]
  (try refine ⟨rfl, ?_⟩); (try refine ⟨rfl, ?_⟩)
  first | (intro acts; rw [hret _ acts rfl rfl rfl]) | rw [hret _ _ rfl rfl rfl]
  exact Steps.refl _
/-- what holds at the law's entry: the machine, the code, the tables' words (any of lw_tbl by 'hts w (by decide +kernel)'), the script of L ints xs at the cell b, what the Statement gives of the start (any of its parts by flat_of_before) -/
def lw_At (p : Program) (s : State) (m : MethodId) (meth : Method) (c : Code) (b L : Nat) (xs : Nat → Int32) : Prop :=
  p.tables.exec = Jvm.exec ∧ c.code = code ∧ meth.sig.returnType = ret ∧ c.maxLocals = 4 ∧ s.vm.findClass R_law = some m.cls ∧ (∀ w ∈ lw_tbl, w.before #[Value.ref b] s = true) ∧ va_X b L xs s s.heap ∧ b < s.heap.size ∧ meth.locks = false ∧ (Jvm.Cond.and given_1 narrow_1).before #[Value.ref b] s = true
/-! LAW ROWS -/
def lw_W (g : sm_G) (ad am : Nat → Nat) (s : State) : Prop := sm_A g (fun q => s.heap.size ≤ q) s s.heap ∧ (sm_inj 22 ad ∧ sm_inj 19 am) ∧ (∀ i j, i < 22 → j < 19 → ad i ≠ am j) ∧ (∀ i, i < 22 → s.heap.size ≤ ad i) ∧ ∀ j, j < 19 → s.heap.size ≤ am j
def lw_B (g : sm_G) (ad am : Nat → Nat) (s : State) (H : Heap) (locs : List Loc) (σ τ : sm_S) : Prop := sm_PP g 22 ad (eX g ad) σ H ∧ sm_PP g 19 am (eM g am) τ H ∧ va_S (fun q => s.heap.size ≤ q) s.heap H locs
theorem lw_keep {g : sm_G} {N M : Nat} {ad am : Nat → Nat} {E : sm_S → Nat → va_E} {τ : sm_S} {H H1 : Heap} (hd : ∀ i j, i < N → j < M → ad i ≠ am j) (hP : sm_PP g M am E τ H) (hk : ∀ q : Nat, q < H.size → ¬ sm_AX N ad H.size q → H1[q]? = H[q]?) : sm_PP g M am E τ H1 := by
  refine hP.kept (fun k q h => ?_)
  have hl := (hP k q h).lt
  have hkM : k < M := by
    have := (List.getElem?_eq_some_iff.mp h).1
    simpa [sm_w] using this
  rw [sm_w_at hkM] at h
  cases h
  refine hk _ hl (fun hA => ?_)
  rcases hA with ⟨i, hi, e⟩ | hA
  · exact hd i k hi hkM e.symm
  · exact absurd hl (Nat.not_lt.mpr hA)
theorem lw_sub {s : State} {H : Heap} {locs : List Loc} {N : Nat} {ad : Nat → Nat} (hS : va_S (fun q => s.heap.size ≤ q) s.heap H locs) (h : ∀ i, i < N → s.heap.size ≤ ad i) : ∀ q, sm_AX N ad H.size q → s.heap.size ≤ q := by
  intro q hq
  rcases hq with ⟨k, hk, e⟩ | hq
  · rw [e]; exact h k hk
  · exact Nat.le_trans hS.1 hq
section LWR
variable {p : Program} {l : Launch} {e : Env} {s : State} {m : MethodId} {args : Array Value} {below : List Frame} {meth : Method} {c : Code} {H : Heap} {locs : List Loc} {Q : State → Prop}
variable {pc : Nat} {ls : Array Slot} {rest st0 : List Value} {g : sm_G} {ad am : Nat → Nat} {σ τ : sm_S} {As : List Value}
theorem lx_pv (hW : lw_W g ad am s) (hB : lw_B g ad am s H locs σ τ) : PreV s H RX5 (ad 0) (va_Pc (.ref (ad 0) :: As) (sm_Pre g 22 ad (eX g ad) σ H.size)) As := by
  refine ⟨fun a U f mk q => ⟨q.1, q.2.1, q.2.2.1, sm_A.blind q.2.2.2⟩, va_recv (ws := sm_w 22 ad (eX g ad σ)) (q0 := 0) (ci := 2) (q := (RX5, TX5, 8)) hW.1.2.2.1 hB.1 rfl (by rw [sm_w_at (by decide), eX_0]), fun U hU hw => ⟨rfl, by rw [hU], by rw [hU]; exact hB.1, ?_⟩⟩
  have h1 : sm_A g (fun q => s.heap.size ≤ q) U H := (hW.1.kept hB.2.2.2.1).moved hw
  rw [hU]
  exact h1.narrow (lw_sub hB.2.2 hW.2.2.2.1)
theorem lm_pv (hW : lw_W g ad am s) (hB : lw_B g ad am s H locs σ τ) : PreV s H RX6 (am 0) (va_Pc (.ref (am 0) :: As) (sm_Pre g 19 am (eM g am) τ H.size)) As := by
  refine ⟨fun a U f mk q => ⟨q.1, q.2.1, q.2.2.1, sm_A.blind q.2.2.2⟩, va_recv (ws := sm_w 19 am (eM g am τ)) (q0 := 0) (ci := 3) (q := (RX6, TX6, 21)) hW.1.2.2.1 hB.2.1 rfl (by rw [sm_w_at (by decide), eM_0]), fun U hU hw => ⟨rfl, by rw [hU], by rw [hU]; exact hB.2.1, ?_⟩⟩
  have h1 : sm_A g (fun q => s.heap.size ≤ q) U H := (hW.1.kept hB.2.2.2.1).moved hw
  rw [hU]
  exact h1.narrow (lw_sub hB.2.2 hW.2.2.2.2)
theorem lw_run {bb index n d mL : Nat} {y : MethodName} {b : ByteArray} {r : Option FieldType} {Pc : Array Value → State → Prop} {Qc : Array Value → State → Outcome → State → Prop} {free : Addr → Prop} (C : CallFix p m c code 4 s args sm_T RL) (hM : Met l y (sm_ws y b mL r) (rmd d) Pc Qc 0 0 free) (k : sm_kV y b mL r n) (hl : Cond.methodLink RL index y ∈ sm_T) (hR : d + 1 ≤ 10 ∧ 8 + (mL + 11) + 41 * d ≤ 398) (hp : PreV s H y.cls bb Pc As) (hn : As.length = n) (hsize : ls.size = 4) (hst : st0 = As.reverse ++ .ref bb :: rest) (hW : (rest.map fun v => v.category).sum ≤ 8) (hdg : decode code pc = .ok (.invokevirtual index, 3)) :
    va_Run p l e room_1 s m args below meth c H locs 600000 7302250 0 0 (F0 m pc ls st0) rest (Qc (Value.ref bb :: As).toArray) free := by
  obtain ⟨⟨k1, k2, k3⟩, k4, k5⟩ := k
  have ht := C.2.2.2.2
  exact va_runV C hM ⟨callB_of n ht (sm_gd k1) rfl rfl rfl (ht _ k2) (ht _ hl) k3 hR, ht _ k4, ht _ k5⟩ hp rfl hn hsize hst (by show 2 * 0 + _ ≤ 8; omega) hdg ⟨Nat.le_refl _, Nat.le_refl _⟩
theorem lx_ci {F : Int32 × sm_S} {a : Array Value} (hW : lw_W g ad am s) (hB : lw_B g ad am s H locs σ τ) (hr : va_Run p l e room_1 s m args below meth c H locs 600000 7302250 0 0 (F0 m pc ls st0) rest (sm_Qi g 22 ad (eX g ad) H.size F a) (sm_AX 22 ad H.size))
    (kk : ∀ (H1 : Heap) (locs1 : List Loc), lw_B g ad am s H1 locs1 F.2 τ → W p l e room_1 s m args below meth c H1 locs1 600000 7302250 Q (F0 m (pc + 3) ls (.int F.1 :: rest))) : W p l e room_1 s m args below meth c H locs 600000 7302250 Q (F0 m pc ls st0) :=
  va_calli hr hB.2.2 (fun q _ h => lw_sub hB.2.2 hW.2.2.2.1 q h) (lw_sub hB.2.2 hW.2.2.2.1) (fun r u t H1 locs1 ht _ hp hb _ hk hS => by
    obtain ⟨rfl, rfl⟩ := hp
    exact kk H1 locs1 ⟨by rw [← ht]; exact hb, lw_keep hW.2.2.1 hB.2.1 hk, hS⟩)
theorem lm_ci {F : Int32 × sm_S} {a : Array Value} (hW : lw_W g ad am s) (hB : lw_B g ad am s H locs σ τ) (hr : va_Run p l e room_1 s m args below meth c H locs 600000 7302250 0 0 (F0 m pc ls st0) rest (sm_Qi g 19 am (eM g am) H.size F a) (sm_AX 19 am H.size))
    (kk : ∀ (H1 : Heap) (locs1 : List Loc), lw_B g ad am s H1 locs1 σ F.2 → W p l e room_1 s m args below meth c H1 locs1 600000 7302250 Q (F0 m (pc + 3) ls (.int F.1 :: rest))) : W p l e room_1 s m args below meth c H locs 600000 7302250 Q (F0 m pc ls st0) :=
  va_calli hr hB.2.2 (fun q _ h => lw_sub hB.2.2 hW.2.2.2.2 q h) (lw_sub hB.2.2 hW.2.2.2.2) (fun r u t H1 locs1 ht _ hp hb _ hk hS => by
    obtain ⟨rfl, rfl⟩ := hp
    exact kk H1 locs1 ⟨lw_keep (fun i j hi hj e => hW.2.2.1 j i hj hi e.symm) hB.1 hk, by rw [← ht]; exact hb, hS⟩)
theorem lr_i {v : Int32} {a : Array Value} (hr : va_Run p l e room_1 s m args below meth c H locs 600000 7302250 0 0 (F0 m pc ls st0) rest (vp_Si (fun r => r = v) a) (fun _ => False)) (kk : W p l e room_1 s m args below meth c H locs 600000 7302250 Q (F0 m (pc + 3) ls (.int v :: rest))) : W p l e room_1 s m args below meth c H locs 600000 7302250 Q (F0 m pc ls st0) :=
  vp_callSi hr.run (fun r h => by rw [h]; exact kk)
theorem lr_l {v : Int64} {a : Array Value} (hr : va_Run p l e room_1 s m args below meth c H locs 600000 7302250 0 0 (F0 m pc ls st0) rest (vp_Sl (fun r => r = v) a) (fun _ => False)) (kk : W p l e room_1 s m args below meth c H locs 600000 7302250 Q (F0 m (pc + 3) ls (.long v :: rest))) : W p l e room_1 s m args below meth c H locs 600000 7302250 Q (F0 m pc ls st0) :=
  vp_callSl hr.run (fun r h => by rw [h]; exact kk)
theorem lw_ld {b L : Nat} {xs : Nat → Int32} {cells slots : Nat} (hx : p.tables.exec = Jvm.exec) (hb : c.code = code) (hX : va_X b L xs s s.heap) (hbl : b < s.heap.size) (hS : va_S (fun q => s.heap.size ≤ q) s.heap H locs) {i a : Int32} (hin : vp_in i L) (ha : a = xs i.toNatClampNeg) (hdg : decode code pc = .ok (.iaload, 1))
    (kk : W p l e room_1 s m args below meth c H locs cells slots Q (F0 m (pc + 1) ls (.int a :: rest))) : W p l e room_1 s m args below meth c H locs cells slots Q (F0 m pc ls (.int i :: .ref b :: rest)) := by
  subst ha
  exact va_sld hx hb hX hbl (Nat.not_le.mpr hbl) hS hin hdg kk
end LWR
theorem lw_six {i : Int32} {L : Nat} (hL : L ≤ 384) {n : Nat} (e : i = nI n) (hn : n ≤ 390) (h : ¬ Int32.ofNat L - 6 < i) : n + 6 ≤ L := by
  have e1 : (Int32.ofNat L - 6).toInt = L - 6 := by
    rw [Int32.toInt_sub, show (Int32.ofNat L).toInt = L from nI_toInt (n := L) (by omega), show (6 : Int32).toInt = 6 from rfl]
    apply Int.bmod_eq_of_le <;> omega
  rw [Int32.lt_iff_toInt_lt, e1, e, nI_toInt (by omega)] at h
  omega
theorem lw_ix {i : Int32} {L n k : Nat} (hL : L ≤ 384) (e : i = nI n) (h : n + 6 ≤ L) (hk : k < 6) : vp_in (i + nI k) L := by
  rw [e, nI_add]
  exact vp_in_nI (by omega) (by omega)
theorem lw_in {i : Int32} {L n : Nat} (hL : L ≤ 384) (e : i = nI n) (h : n + 6 ≤ L) : vp_in i L := by
  rw [e]
  exact vp_in_nI (by omega) (by omega)
