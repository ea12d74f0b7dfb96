def sm_let {α β : Type} (x : α) (g : α → β) : β := g x
theorem sm_lt {α β : Type} {F : β} {x : α} {g : α → β} (hv : F = sm_let x g) : ∃ y, y = x ∧ F = g y := ⟨x, rfl, hv⟩
/-! OWN ROWS 1: one list of words for all methods, rooms by depth, contracts, calls -/
def sm_T : List Cond := lw_tbl.filter goodWord
theorem sm_in {w : Cond} (h : w ∈ lw_tbl) (hg : goodWord w = true) : w ∈ sm_T := List.mem_filter.mpr ⟨h, hg⟩
theorem sm_gd {y : MethodName} {b : ByteArray} {mL : Nat} {r : Option FieldType} (h : Cond.code y b mL r ∈ sm_T) : GoodIn sm_T (Cond.code y b mL r :: sm_T) := by
  intro w hw
  have h3 : w ∈ sm_T := by
    rcases List.mem_cons.mp hw with h1 | h2
    · rw [h1]; exact h
    · exact h2
  exact ⟨h3, good_of_word (List.mem_filter.mp h3).2⟩
def rmd (d : Nat) : Room := { frames := d, cells := 0, slots := 0, locals := 41 * d }
abbrev sm_ws (y : MethodName) (b : ByteArray) (mL : Nat) (r : Option FieldType) : List Cond := Cond.code y b mL r :: sm_T
def sm_C (p : Program) (s : State) (m : MethodId) (args : Array Value) (meth : Method) (c : Code) (cc : ByteArray) (nL : Nat) (own : String) (ret : Option FieldType) : Prop := CallFix p m c cc nL s args sm_T own ∧ meth.sig.returnType = ret ∧ meth.locks = false
theorem sm_met {l : Launch} {y : MethodName} {cc : ByteArray} {nL : Nat} {ret : Option FieldType} {d : Nat} {Pc : Array Value → State → Prop} {Qc : Array Value → State → Outcome → State → Prop} {free : Addr → Prop} (hy : plainName y.cls = true)
    (body : ∀ (p : Program) (e : Env) (s : State) (m : MethodId) (args : Array Value) (below : List Frame) (meth : Method) (c : Code), sm_C p s m args meth c cc nL y.cls ret → Pc args s → W p l e (rmd d) s m args below meth c s.heap [] 0 0 (MQ below Qc args s 0 0 free) (entryFrame m args nL)) : Met l y (sm_ws y cc nL ret) (rmd d) Pc Qc 0 0 free := by
  refine Met.ofW (cc := cc) (maxL := nL) (ret := ret) hy rfl ?_
  intro p e s m args below meth c s₁ B hml hv
  have hts := atoms_spec (ws := sm_ws y cc nL ret) B.pre
  exact body p e s m args below meth c ⟨⟨B.exec, B.bytes, hml, findClass_of_methodNamed B.named, fun w h => hts w (List.mem_cons_of_mem _ h)⟩, B.returns, B.notSynchronized⟩ hv
/-- what a call needs of its callee -/
def sm_k (y : MethodName) (b : ByteArray) (mL : Nat) (r : Option FieldType) (n : Nat) : Prop := Cond.code y b mL r ∈ sm_T ∧ Cond.initialized y.cls ∈ sm_T ∧ (y.cls ≠ "java/lang/invoke/MethodHandle" ∧ y.cls ≠ "java/lang/invoke/VarHandle" ∧ (parseMethodDescriptor y.desc).map (fun d => d.parameters.length) = some n)
def sm_kS (y : MethodName) (b : ByteArray) (mL : Nat) (r : Option FieldType) (n : Nat) : Prop := sm_k y b mL r n ∧ Cond.static y ∈ sm_T
def sm_kV (y : MethodName) (b : ByteArray) (mL : Nat) (r : Option FieldType) (n : Nat) : Prop := sm_k y b mL r n ∧ Cond.instanceMethod y ∈ sm_T ∧ Cond.selects y.cls y y ∈ sm_T
section SM1
variable {p : Program} {l : Launch} {e : Env} {s : State} {m : MethodId} {args : Array Value} {below : List Frame} {meth : Method} {c : Code} {H : Heap} {locs : List Loc} {Q : State → Prop}
variable {cc : ByteArray} {pc : Nat} {ls : Array Slot} {rest st0 : List Value} {own : String} {nL index n d D mL : Nat} {y : MethodName} {b : ByteArray} {r : Option FieldType} {Pc : Array Value → State → Prop} {Qc : Array Value → State → Outcome → State → Prop} {free : Addr → Prop} {As : List Value}
theorem sm_runS (C : CallFix p m c cc nL s args sm_T own) (hM : Met l y (sm_ws y b mL r) (rmd d) Pc Qc 0 0 free) (k : sm_kS y b mL r n) (hl : Cond.methodLink own index y ∈ sm_T) (hR : d + 1 ≤ D ∧ 8 + (mL + 11) + 41 * d ≤ 41 * D) (hp : PreS s H Pc As) (hn : As.length = n) (hsize : ls.size = nL) (hst : st0 = As.reverse ++ rest) (hW : (rest.map fun v => v.category).sum ≤ 8) (hdg : decode cc pc = .ok (.invokestatic index, 3)) :
    va_Run p l e (rmd D) s m args below meth c H locs 0 0 0 0 (F0 m pc ls st0) rest (Qc As.toArray) free := by
  obtain ⟨⟨k1, k2, k3⟩, k4⟩ := k
  have ht := C.2.2.2.2
  exact va_runS C hM ⟨callB_of n ht (sm_gd k1) rfl rfl rfl (ht _ k2) (ht _ hl) k3 hR, ht _ k4⟩ hp rfl hn hsize hst (by show 2 * 0 + _ ≤ 8; omega) hdg ⟨Nat.le_refl _, Nat.le_refl _⟩
theorem sm_runSN (C : CallFix p m c cc nL s args sm_T own) (hM : Met l y (sm_ws y b mL r) (rmd d) Pc Qc 0 0 free) (k : sm_kS y b mL r n) {host : String} (hl : va_Nw (.methodLinkNest own index y host) s) (hR : d + 1 ≤ D ∧ 8 + (mL + 11) + 41 * d ≤ 41 * D) (hp : PreS s H Pc As) (hn : As.length = n) (hsize : ls.size = nL) (hst : st0 = As.reverse ++ rest) (hW : (rest.map fun v => v.category).sum ≤ 8) (hdg : decode cc pc = .ok (.invokestatic index, 3)) :
    va_Run p l e (rmd D) s m args below meth c H locs 0 0 0 0 (F0 m pc ls st0) rest (Qc As.toArray) free := by
  obtain ⟨⟨k1, k2, k3⟩, k4⟩ := k
  have ht := C.2.2.2.2
  exact va_runSN C hM ⟨va_cnB n ht (sm_gd k1) rfl rfl rfl hl (ht _ k2) k3 hR, ht _ k4, trivial⟩ hp rfl hn hsize hst (by show 2 * 0 + _ ≤ 8; omega) hdg ⟨Nat.le_refl _, Nat.le_refl _⟩
theorem sm_runV {bb : Nat} (C : CallFix p m c cc nL s args sm_T own) (hM : Met l y (sm_ws y b mL r) (rmd d) Pc Qc 0 0 free) (k : sm_kV y b mL r n) (hl : Cond.methodLink own index y ∈ sm_T) (hR : d + 1 ≤ D ∧ 8 + (mL + 11) + 41 * d ≤ 41 * D) (hp : PreV s H y.cls bb Pc As) (hn : As.length = n) (hsize : ls.size = nL) (hst : st0 = As.reverse ++ .ref bb :: rest) (hW : (rest.map fun v => v.category).sum ≤ 8) (hdg : decode cc pc = .ok (.invokevirtual index, 3)) :
    va_Run p l e (rmd D) s m args below meth c H locs 0 0 0 0 (F0 m pc ls st0) rest (Qc (Value.ref bb :: As).toArray) free := by
  obtain ⟨⟨k1, k2, k3⟩, k4, k5⟩ := k
  have ht := C.2.2.2.2
  exact va_runV C hM ⟨callB_of n ht (sm_gd k1) rfl rfl rfl (ht _ k2) (ht _ hl) k3 hR, ht _ k4, ht _ k5⟩ hp rfl hn hsize hst (by show 2 * 0 + _ ≤ 8; omega) hdg ⟨Nat.le_refl _, Nat.le_refl _⟩
/-! calls that leave the heap: the answer is a known value -/
theorem sm_ci {v : Int32} {a : Array Value} (hr : va_Run p l e (rmd D) s m args below meth c H locs 0 0 0 0 (F0 m pc ls st0) rest (vp_Si (fun r => r = v) a) (fun _ => False)) (kk : W p l e (rmd D) s m args below meth c H locs 0 0 Q (F0 m (pc + 3) ls (.int v :: rest))) : W p l e (rmd D) s m args below meth c H locs 0 0 Q (F0 m pc ls st0) :=
  vp_callSi hr.run (fun r h => by rw [h]; exact kk)
theorem sm_cl {v : Int64} {a : Array Value} (hr : va_Run p l e (rmd D) s m args below meth c H locs 0 0 0 0 (F0 m pc ls st0) rest (vp_Sl (fun r => r = v) a) (fun _ => False)) (kk : W p l e (rmd D) s m args below meth c H locs 0 0 Q (F0 m (pc + 3) ls (.long v :: rest))) : W p l e (rmd D) s m args below meth c H locs 0 0 Q (F0 m pc ls st0) :=
  vp_callSl hr.run (fun r h => by rw [h]; exact kk)
theorem sm_cr {v : Nat} {ad : Nat → Value} {a : Array Value} (hr : va_Run p l e (rmd D) s m args below meth c H locs 0 0 0 0 (F0 m pc ls st0) rest (va_Sr (fun r => r = v) ad a) (fun _ => False)) (kk : W p l e (rmd D) s m args below meth c H locs 0 0 Q (F0 m (pc + 3) ls (ad v :: rest))) : W p l e (rmd D) s m args below meth c H locs 0 0 Q (F0 m pc ls st0) :=
  va_csr hr.run (fun r h => by rw [h]; exact kk)
/-! ends that leave the heap -/
theorem sm_ri {F v : Int32} (hx : p.tables.exec = Jvm.exec) (hb : c.code = cc) (hr : meth.sig.returnType = some .int) (hlocks : meth.locks = false) (hv : F = v) (hdg : decode cc pc = .ok (.ireturn, 1)) : W p l e (rmd D) s m args below meth c s.heap [] 0 0 (MQ below (vp_Si (fun r => r = F)) args s 0 0 (fun _ => False)) (F0 m pc ls [.int v]) :=
  W.iret hx hb hr (fun t ht hW => ⟨v, rfl, hv.symm, ht⟩) (fun q h => by cases h) hdg hlocks
theorem sm_rz {F v : Int32} (hx : p.tables.exec = Jvm.exec) (hb : c.code = cc) (hr : meth.sig.returnType = some .boolean) (hlocks : meth.locks = false) (hn : narrow .boolean (.int v) = .int v) (hv : F = v) (hdg : decode cc pc = .ok (.ireturn, 1)) : W p l e (rmd D) s m args below meth c s.heap [] 0 0 (MQ below (vp_Si (fun r => r = F)) args s 0 0 (fun _ => False)) (F0 m pc ls [.int v]) :=
  W.zret hx hb hr hn (fun t ht hW => ⟨v, rfl, hv.symm, ht⟩) (fun q h => by cases h) hdg hlocks
theorem sm_rl {F v : Int64} (hx : p.tables.exec = Jvm.exec) (hb : c.code = cc) (hr : meth.sig.returnType = some .long) (hlocks : meth.locks = false) (hv : F = v) (hdg : decode cc pc = .ok (.lreturn, 1)) : W p l e (rmd D) s m args below meth c s.heap [] 0 0 (MQ below (vp_Sl (fun r => r = F)) args s 0 0 (fun _ => False)) (F0 m pc ls [.long v]) :=
  W.lret hx hb hr (fun t ht hW => ⟨v, rfl, hv.symm, ht⟩) (fun q h => by cases h) hdg hlocks
theorem sm_rr {F v : Nat} {ad : Nat → Nat} {C : String} (hx : p.tables.exec = Jvm.exec) (hb : c.code = cc) (hr : meth.sig.returnType = some (.object C)) (hlocks : meth.locks = false) (hv : F = v) (hdg : decode cc pc = .ok (.areturn, 1)) : W p l e (rmd D) s m args below meth c s.heap [] 0 0 (MQ below (va_Sr (fun r => r = F) (fun k => .ref (ad k))) args s 0 0 (fun _ => False)) (F0 m pc ls [.ref (ad v)]) :=
  W.aret hx hb hr (Or.inl ⟨_, rfl⟩) (Or.inr ⟨_, rfl⟩) (fun t ht hW => ⟨v, rfl, hv.symm, ht⟩) (fun q h => by cases h) hdg hlocks
end SM1
/-! long comparisons with their branch; names -/
section SM2
variable {p : Program} {l : Launch} {e : Env} {R : Room} {s : State} {m : MethodId} {args : Array Value} {below : List Frame} {meth : Method} {c : Code} {H : Heap} {locs : List Loc} {cells slots : Nat} {Q : State → Prop}
variable {cc : ByteArray} {pc : Nat} {ls : Array Slot} {rest : List Value}
theorem lc_eq (hx : p.tables.exec = Jvm.exec) (hb : c.code = cc) {x y : Int64} {off : Int} {tgt : Nat} (d1 : decode cc pc = .ok (.lcmp, 1)) (d2 : decode cc (pc + 1) = .ok (.ifCond .eq off, 3)) (ht : ((pc + 1 : Nat) : Int) + off = (tgt : Int))
    (kt : x = y → W p l e R s m args below meth c H locs cells slots Q (F0 m tgt ls rest)) (kf : ¬ x = y → W p l e R s m args below meth c H locs cells slots Q (F0 m (pc + 1 + 3) ls rest)) : W p l e R s m args below meth c H locs cells slots Q (F0 m pc ls (.long y :: .long x :: rest)) :=
  W.lcmp hx hb d1 (lv_if_eq hx hb d2 ht (fun h => kt ((lg_cmp_eq x y).mp h)) (fun h => kf (fun q => h ((lg_cmp_eq x y).mpr q))))
theorem lc_ne (hx : p.tables.exec = Jvm.exec) (hb : c.code = cc) {x y : Int64} {off : Int} {tgt : Nat} (d1 : decode cc pc = .ok (.lcmp, 1)) (d2 : decode cc (pc + 1) = .ok (.ifCond .ne off, 3)) (ht : ((pc + 1 : Nat) : Int) + off = (tgt : Int))
    (kt : ¬ x = y → W p l e R s m args below meth c H locs cells slots Q (F0 m tgt ls rest)) (kf : x = y → W p l e R s m args below meth c H locs cells slots Q (F0 m (pc + 1 + 3) ls rest)) : W p l e R s m args below meth c H locs cells slots Q (F0 m pc ls (.long y :: .long x :: rest)) :=
  W.lcmp hx hb d1 (lv_if_ne hx hb d2 ht (fun h => kt (fun q => h ((lg_cmp_eq x y).mpr q))) (fun h => kf ((lg_cmp_eq x y).mp h)))
theorem lc_lt (hx : p.tables.exec = Jvm.exec) (hb : c.code = cc) {x y : Int64} {off : Int} {tgt : Nat} (d1 : decode cc pc = .ok (.lcmp, 1)) (d2 : decode cc (pc + 1) = .ok (.ifCond .lt off, 3)) (ht : ((pc + 1 : Nat) : Int) + off = (tgt : Int))
    (kt : x < y → W p l e R s m args below meth c H locs cells slots Q (F0 m tgt ls rest)) (kf : ¬ x < y → W p l e R s m args below meth c H locs cells slots Q (F0 m (pc + 1 + 3) ls rest)) : W p l e R s m args below meth c H locs cells slots Q (F0 m pc ls (.long y :: .long x :: rest)) :=
  W.lcmp hx hb d1 (lv_if_lt hx hb d2 ht (fun h => kt ((lg_cmp_lt x y).mp h)) (fun h => kf (fun q => h ((lg_cmp_lt x y).mpr q))))
theorem lc_ge (hx : p.tables.exec = Jvm.exec) (hb : c.code = cc) {x y : Int64} {off : Int} {tgt : Nat} (d1 : decode cc pc = .ok (.lcmp, 1)) (d2 : decode cc (pc + 1) = .ok (.ifCond .ge off, 3)) (ht : ((pc + 1 : Nat) : Int) + off = (tgt : Int))
    (kt : y ≤ x → W p l e R s m args below meth c H locs cells slots Q (F0 m tgt ls rest)) (kf : ¬ y ≤ x → W p l e R s m args below meth c H locs cells slots Q (F0 m (pc + 1 + 3) ls rest)) : W p l e R s m args below meth c H locs cells slots Q (F0 m pc ls (.long y :: .long x :: rest)) :=
  W.lcmp hx hb d1 (lv_if_ge hx hb d2 ht (fun h => kt ((lg_cmp_ge x y).mp h)) (fun h => kf (fun q => h ((lg_cmp_ge x y).mpr q))))
theorem lc_gt (hx : p.tables.exec = Jvm.exec) (hb : c.code = cc) {x y : Int64} {off : Int} {tgt : Nat} (d1 : decode cc pc = .ok (.lcmp, 1)) (d2 : decode cc (pc + 1) = .ok (.ifCond .gt off, 3)) (ht : ((pc + 1 : Nat) : Int) + off = (tgt : Int))
    (kt : y < x → W p l e R s m args below meth c H locs cells slots Q (F0 m tgt ls rest)) (kf : ¬ y < x → W p l e R s m args below meth c H locs cells slots Q (F0 m (pc + 1 + 3) ls rest)) : W p l e R s m args below meth c H locs cells slots Q (F0 m pc ls (.long y :: .long x :: rest)) :=
  W.lcmp hx hb d1 (lv_if_gt hx hb d2 ht (fun h => kt ((lg_cmp_gt x y).mp h)) (fun h => kf (fun q => h ((lg_cmp_gt x y).mpr q))))
theorem lc_le (hx : p.tables.exec = Jvm.exec) (hb : c.code = cc) {x y : Int64} {off : Int} {tgt : Nat} (d1 : decode cc pc = .ok (.lcmp, 1)) (d2 : decode cc (pc + 1) = .ok (.ifCond .le off, 3)) (ht : ((pc + 1 : Nat) : Int) + off = (tgt : Int))
    (kt : x ≤ y → W p l e R s m args below meth c H locs cells slots Q (F0 m tgt ls rest)) (kf : ¬ x ≤ y → W p l e R s m args below meth c H locs cells slots Q (F0 m (pc + 1 + 3) ls rest)) : W p l e R s m args below meth c H locs cells slots Q (F0 m pc ls (.long y :: .long x :: rest)) :=
  W.lcmp hx hb d1 (lv_if_le hx hb d2 ht (fun h => kt ((lg_cmp_le x y).mp h)) (fun h => kf (fun q => h ((lg_cmp_le x y).mpr q))))
/-- the number on top gets a name; what is asked of the end goes with it -/
theorem sm_nmi {α : Type} {F : α} {x : Int32} {g : Int32 → α} (hv : F = sm_let x g) (k : ∀ y : Int32, y = x → F = g y → W p l e R s m args below meth c H locs cells slots Q (F0 m pc ls (.int y :: rest))) : W p l e R s m args below meth c H locs cells slots Q (F0 m pc ls (.int x :: rest)) := k x rfl hv
theorem sm_nml {α : Type} {F : α} {x : Int64} {g : Int64 → α} (hv : F = sm_let x g) (k : ∀ y : Int64, y = x → F = g y → W p l e R s m args below meth c H locs cells slots Q (F0 m pc ls (.long y :: rest))) : W p l e R s m args below meth c H locs cells slots Q (F0 m pc ls (.long x :: rest)) := k x rfl hv
end SM2
/-- a null test in a function -/
def sm_oc {α : Type} (q : Option Nat) (a : α) (b : Nat → α) : α := match q with
  | none => a
  | some i => b i
theorem sm_oc_n {α : Type} {q : Option Nat} {a : α} {b : Nat → α} (h : q = none) : sm_oc q a b = a := by rw [h]; rfl
theorem sm_oc_s {α : Type} {q : Option Nat} {a : α} {b : Nat → α} {i : Nat} (h : q = some i) : sm_oc q a b = b i := by rw [h]; rfl
