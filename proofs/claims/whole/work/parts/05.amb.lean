/-! OWN ROWS 2: what stands around a method: constants, classes, words of the nest; worlds as a row of cells -/
abbrev sm_cls : List vw_C := [(RX0, TX0, 4), (RX2, TX2, 2), (RX5, TX5, 8), (RX6, TX6, 21)]
abbrev sm_G : Type := (Nat → Nat) × Nat × Nat × va_G × ClassId × ClassId × ClassId × ClassId
abbrev gF (g : sm_G) : Nat → Nat := g.1
abbrev gtF (g : sm_G) : Nat := g.2.1
abbrev gtT (g : sm_G) : Nat := g.2.2.1
abbrev gD (g : sm_G) : va_G := g.2.2.2.1
abbrev gI (g : sm_G) : ClassId := g.2.2.2.2.1
abbrev gL (g : sm_G) : ClassId := g.2.2.2.2.2.1
abbrev gZ (g : sm_G) : ClassId := g.2.2.2.2.2.2.1
abbrev gC (g : sm_G) : ClassId := g.2.2.2.2.2.2.2
abbrev sm_tys (g : sm_G) : List (ClassId × FieldType) := [(gI g, .int), (gL g, .long), (gZ g, .boolean), (gC g, .object RX0)]
def sm_N : List Cond := [.methodLinkNest RX5 31 yX2_init RX5, .methodLinkNest RX5 39 yX0_init RX5, .methodLinkNest RX4 11 yX5_isBelow RX5, .methodLinkNest RX4 19 yX5_isFloating RX5, .methodLinkNest RX4 49 yX5_formatOf RX5, .methodLinkNest RX4 56 yX5_held RX5, .methodLinkNest RX3 11 yX5_isFloating RX5, .methodLinkNest RX0 30 yX5_inexact RX5, .methodLinkNest RX2 23 yX5_isBelow RX5]
def kFr (i : Nat) : Int32 := if i = 0 then 23 else 52
def kLe (i : Nat) : Int32 := if i = 0 then -149 else -1074
def kMo (i : Nat) : Int32 := if i = 0 then 255 else 2047
def kSi (i : Nat) : Int64 := if i = 0 then -2147483648 else -9223372036854775808
def kIn (i : Nat) : Int64 := if i = 0 then 2139095040 else 9218868437227405312
def kNa (i : Nat) : Int64 := if i = 0 then 2143289344 else 9221120237041090560
def kCF (j : Nat) : Int32 := ([0, 0, 0, 1, 1, 1, 2, 2, 2, 3, 3, 3, 0, 0, 0] : List Int32).getD j 0
def kCT (j : Nat) : Int32 := ([1, 2, 3, 0, 2, 3, 0, 1, 3, 0, 1, 2, 0, 0, 0] : List Int32).getD j 0
def sm_K (g : sm_G) (A : Nat → Prop) (U : State) (H : Heap) : Prop :=
  (va_Z RX1 "BITS32" "LShadowMachine$Format;" (.ref (gF g 0)) A U H ∧ va_Z RX1 "BITS64" "LShadowMachine$Format;" (.ref (gF g 1)) A U H) ∧ (∀ i, i < 2 → va_O RX1 (gF g i) A U H) ∧
  (va_Ef 2 RX1 "fractionBits" "I" (fun i => .int (kFr i)) (gF g) A U H ∧ va_Ef 2 RX1 "leastExponent" "I" (fun i => .int (kLe i)) (gF g) A U H ∧ va_Ef 2 RX1 "mostField" "I" (fun i => .int (kMo i)) (gF g) A U H ∧
   va_Ef 2 RX1 "sign" "J" (fun i => .long (kSi i)) (gF g) A U H ∧ va_Ef 2 RX1 "infinity" "J" (fun i => .long (kIn i)) (gF g) A U H ∧ va_Ef 2 RX1 "nan" "J" (fun i => .long (kNa i)) (gF g) A U H) ∧
  (va_Z RX4 "CONVERTED_FROM" "[I" (.ref (gtF g)) A U H ∧ va_T .int (gtF g) 15 (fun j => .int (kCF j)) A U H) ∧ (va_Z RX4 "CONVERTED_TO" "[I" (.ref (gtT g)) A U H ∧ va_T .int (gtT g) 15 (fun j => .int (kCT j)) A U H)
def sm_A (g : sm_G) (A : Nat → Prop) (U : State) (H : Heap) : Prop := sm_K g A U H ∧ (∀ w ∈ sm_N, va_Nw w U) ∧ va_K (gD g) sm_cls (sm_tys g) U ∧ va_AO RX0 U
theorem sm_K.moved {g : sm_G} {A : Nat → Prop} {u U : State} {H : Heap} (hvm : u.vm.Alike U.vm) (h : sm_K g A u H) : sm_K g A U H := by
  obtain ⟨⟨a1, a2⟩, a3, ⟨b1, b2, b3, b4, b5, b6⟩, ⟨c1, c2⟩, ⟨d1, d2⟩⟩ := h
  exact ⟨⟨a1.moved hvm, a2.moved hvm⟩, fun i hi => (a3 i hi).moved hvm, ⟨b1.moved hvm, b2.moved hvm, b3.moved hvm, b4.moved hvm, b5.moved hvm, b6.moved hvm⟩, ⟨c1.moved hvm, c2.moved hvm⟩, ⟨d1.moved hvm, d2.moved hvm⟩⟩
theorem sm_K.kept {g : sm_G} {A : Nat → Prop} {U : State} {H H1 : Heap} (h : sm_K g A U H) (hq : ∀ a : Nat, a < H.size → ¬ A a → H1[a]? = H[a]?) : sm_K g A U H1 := by
  obtain ⟨⟨a1, a2⟩, a3, ⟨b1, b2, b3, b4, b5, b6⟩, ⟨c1, c2⟩, ⟨d1, d2⟩⟩ := h
  exact ⟨⟨a1.kept hq, a2.kept hq⟩, fun i hi => (a3 i hi).kept hq, ⟨b1.kept hq, b2.kept hq, b3.kept hq, b4.kept hq, b5.kept hq, b6.kept hq⟩, ⟨c1.kept hq, c2.kept hq⟩, ⟨d1.kept hq, d2.kept hq⟩⟩
theorem sm_K.narrow {g : sm_G} {A B : Nat → Prop} {U : State} {H : Heap} (h : sm_K g A U H) (hq : ∀ q, B q → A q) : sm_K g B U H := by
  obtain ⟨⟨a1, a2⟩, a3, ⟨b1, b2, b3, b4, b5, b6⟩, ⟨c1, c2⟩, ⟨d1, d2⟩⟩ := h
  exact ⟨⟨a1.narrow hq, a2.narrow hq⟩, fun i hi => (a3 i hi).narrow hq, ⟨b1.narrow hq, b2.narrow hq, b3.narrow hq, b4.narrow hq, b5.narrow hq, b6.narrow hq⟩, ⟨c1.narrow hq, c2.narrow hq⟩, ⟨d1.narrow hq, d2.narrow hq⟩⟩
theorem sm_N_cases {P : Cond → Prop} (h : ∀ (a : String) (i : Nat) (x : MethodName) (b : String), Cond.methodLinkNest a i x b ∈ sm_N → P (.methodLinkNest a i x b)) : ∀ w ∈ sm_N, P w := by
  intro w hw
  have hw2 := hw
  simp only [sm_N, List.mem_cons, List.not_mem_nil, or_false] at hw
  rcases hw with e | e | e | e | e | e | e | e | e <;> (subst e; exact h _ _ _ _ hw2)
theorem sm_A.moved {g : sm_G} {A : Nat → Prop} {s U : State} {H : Heap} (hW : s.WarmedH U.vm) (h : sm_A g A s H) : sm_A g A U H :=
  ⟨h.1.moved hW.alike, sm_N_cases (P := fun w => va_Nw w U) (fun a i x b hw => va_Nw.warmM hW (h.2.1 _ hw)), va_K.moved hW.alike h.2.2.1, va_AO.moved hW.alike h.2.2.2⟩
theorem sm_A.blind {g : sm_G} {A : Nat → Prop} {U : State} {H : Heap} {f : JFrame} {mk : MethodId} {a : Array Value} (h : sm_A g A U H) : sm_A g A (U.calling f mk a) H :=
  ⟨sm_K.moved (u := U) (U := U.calling f mk a) (Vm.Alike.refl U.vm) h.1, sm_N_cases (P := fun w => va_Nw w (U.calling f mk a)) (fun a i x b hw => va_Nw.same rfl rfl (h.2.1 _ hw)), va_K.moved (u := U) (U := U.calling f mk a) (Vm.Alike.refl U.vm) h.2.2.1, va_AO.moved (u := U) (U := U.calling f mk a) (Vm.Alike.refl U.vm) h.2.2.2⟩
theorem sm_A.kept {g : sm_G} {A : Nat → Prop} {U : State} {H H1 : Heap} (h : sm_A g A U H) (hq : ∀ a : Nat, a < H.size → ¬ A a → H1[a]? = H[a]?) : sm_A g A U H1 := ⟨h.1.kept hq, h.2⟩
theorem sm_A.narrow {g : sm_G} {A B : Nat → Prop} {U : State} {H : Heap} (h : sm_A g A U H) (hq : ∀ q, B q → A q) : sm_A g B U H := ⟨h.1.narrow hq, h.2⟩
/-! a method without a world -/
def sm_P0 (g : sm_G) (U : State) : Prop := sm_A g (fun _ => False) U U.heap
section SMP
variable {s : State} {H : Heap} {locs : List Loc} {A : Nat → Prop} {g : sm_G} {As : List Value}
theorem sm_ps (hA : sm_A g A s s.heap) (hS : va_S A s.heap H locs) : PreS s H (va_Pc As (sm_P0 g)) As :=
  ⟨fun a U f mk q => ⟨q.1, sm_A.blind q.2⟩, fun U hU hW => ⟨rfl, by
    have h1 : sm_A g A U H := (hA.kept hS.2.1).moved hW
    show sm_A g _ U U.heap
    rw [hU]
    exact h1.narrow (fun _ h => h.elim)⟩⟩
theorem sm_pf (hA : sm_A g A s s.heap) (hS : va_S A s.heap H locs) {i : Nat} (hi : i < 2) : PreV s H RX1 (gF g i) (va_Pc (.ref (gF g i) :: As) (sm_P0 g)) As := by
  refine ⟨(sm_ps (As := .ref (gF g i) :: As) hA hS).1, ?_, (sm_ps (As := .ref (gF g i) :: As) hA hS).2⟩
  obtain ⟨cell, h1, h2, h3, -⟩ := (hA.1.2.1 i hi).kept hS.2.1
  exact ⟨cell, h1, h2, h3⟩
end SMP
/-! worlds: N cells at the addresses ad 0, ad 1 ..; what they hold is told by a state -/
abbrev sm_S : Type := (Nat → Nat → Int32) × (Nat → Nat → Int64) × (Nat → Option Nat)
def uI (σ : sm_S) (k i : Nat) (x : Int32) : sm_S := (fun a => if a = k then upd (σ.1 a) i x else σ.1 a, σ.2)
def uL (σ : sm_S) (k i : Nat) (x : Int64) : sm_S := (σ.1, fun a => if a = k then vp_updL (σ.2.1 a) i x else σ.2.1 a, σ.2.2)
def uR (σ : sm_S) (h : Nat) (q : Option Nat) : sm_S := (σ.1, σ.2.1, va_up σ.2.2 h q)
def sm_w (N : Nat) (ad : Nat → Nat) (E : Nat → va_E) : va_W := (List.range N).map (fun k => (ad k, E k))
theorem sm_w_at {N : Nat} {ad : Nat → Nat} {E : Nat → va_E} {k : Nat} (hk : k < N) : (sm_w N ad E)[k]? = some (ad k, E k) := by
  simp [sm_w, hk]
theorem sm_w_set {N : Nat} {ad : Nat → Nat} {E E' : Nat → va_E} {k : Nat} {e : va_E} (h : ∀ j, j < N → E' j = if j = k then e else E j) : (sm_w N ad E).set k (ad k, e) = sm_w N ad E' := by
  apply List.ext_getElem?
  intro j
  by_cases hj : j < N
  · rw [sm_w_at hj, List.getElem?_set, h j hj]
    by_cases hkj : k = j
    · subst hkj
      simp [sm_w, hj]
    · rw [if_neg hkj, sm_w_at hj, if_neg (fun q => hkj q.symm)]
  · rw [List.getElem?_eq_none (by simp [sm_w]; omega), List.getElem?_eq_none (by simp [sm_w]; omega)]
def sm_AX (N : Nat) (ad : Nat → Nat) (sz : Nat) : Nat → Prop := fun q => (∃ k, k < N ∧ q = ad k) ∨ sz ≤ q
def sm_inj (N : Nat) (ad : Nat → Nat) : Prop := ∀ i j, i < N → j < N → ad i = ad j → i = j
theorem sm_D {N : Nat} {ad : Nat → Nat} {E : Nat → va_E} {sz : Nat} (hj : sm_inj N ad) : va_D (sm_AX N ad sz) (sm_w N ad E) := by
  have h0 : ∀ (k : Nat) (q : Nat × va_E), (sm_w N ad E)[k]? = some q → k < N ∧ q.1 = ad k := by
    intro k q h
    have hk : k < N := by
      have := (List.getElem?_eq_some_iff.mp h).1
      simpa [sm_w] using this
    rw [sm_w_at hk] at h
    cases h
    exact ⟨hk, rfl⟩
  refine ⟨fun i j p q hi hq e => ?_, fun k q h => ?_⟩
  · obtain ⟨a1, a2⟩ := h0 i p hi
    obtain ⟨b1, b2⟩ := h0 j q hq
    exact hj i j a1 b1 (by rw [← a2, ← b2]; exact e)
  · obtain ⟨a1, a2⟩ := h0 k q h
    exact Or.inl ⟨k, a1, a2⟩
/-- what a cell holds depends on its own numbers alone (and the references) -/
def sm_lay (E : sm_S → Nat → va_E) : Prop := ∀ (σ τ : sm_S) (j : Nat), σ.1 j = τ.1 j → σ.2.1 j = τ.2.1 j → σ.2.2 = τ.2.2 → E σ j = E τ j
abbrev sm_PP (g : sm_G) (N : Nat) (ad : Nat → Nat) (E : sm_S → Nat → va_E) (σ : sm_S) (H : Heap) : Prop := va_P (gD g) sm_cls (sm_w N ad (E σ)) H
/-- inside a method with a world: the heap holds σ, only the world was written -/
def sm_B (g : sm_G) (N : Nat) (ad : Nat → Nat) (E : sm_S → Nat → va_E) (s : State) (H : Heap) (locs : List Loc) (σ : sm_S) : Prop := sm_PP g N ad E σ H ∧ va_S (sm_AX N ad s.heap.size) s.heap H locs
/-- around it: never changes inside a method -/
def sm_W (g : sm_G) (N : Nat) (ad : Nat → Nat) (E : sm_S → Nat → va_E) (s : State) : Prop := sm_A g (sm_AX N ad s.heap.size) s s.heap ∧ sm_inj N ad ∧ sm_lay E
def sm_Pre (g : sm_G) (N : Nat) (ad : Nat → Nat) (E : sm_S → Nat → va_E) (σ : sm_S) (sz : Nat) (U : State) : Prop := U.heap.size = sz ∧ sm_PP g N ad E σ U.heap ∧ sm_A g (sm_AX N ad sz) U U.heap
theorem sm_AX.sub {N : Nat} {ad : Nat → Nat} {a b : Nat} (h : a ≤ b) : ∀ q, sm_AX N ad b q → sm_AX N ad a q := by
  intro q hq
  rcases hq with h1 | h1
  · exact Or.inl h1
  · exact Or.inr (Nat.le_trans h h1)
section SMW
variable {p : Program} {l : Launch} {e : Env} {s : State} {m : MethodId} {args : Array Value} {below : List Frame} {meth : Method} {c : Code} {H : Heap} {locs : List Loc} {R : Room} {cells slots : Nat} {Q : State → Prop}
variable {cc : ByteArray} {pc : Nat} {ls : Array Slot} {rest st0 : List Value} {own : String} {nL D N : Nat} {ad : Nat → Nat} {E : sm_S → Nat → va_E} {g : sm_G} {σ : sm_S} {As : List Value}
theorem sm_pw (hW : sm_W g N ad E s) (hB : sm_B g N ad E s H locs σ) : PreS s H (va_Pc As (sm_Pre g N ad E σ H.size)) As :=
  ⟨fun a U f mk q => ⟨q.1, q.2.1, q.2.2.1, sm_A.blind q.2.2.2⟩, fun U hU hw => ⟨rfl, by rw [hU], by rw [hU]; exact hB.1, by
    have h1 : sm_A g (sm_AX N ad s.heap.size) U H := (hW.1.kept hB.2.2.1).moved hw
    rw [hU]
    exact h1.narrow (sm_AX.sub hB.2.1)⟩⟩
theorem sm_pv (hW : sm_W g N ad E s) (hB : sm_B g N ad E s H locs σ) {k ci : Nat} {fs : List Value} {C : String} {T : u_T} {n : Nat} (hk : k < N) (hE : E σ k = .inr (ci, fs)) (hc : sm_cls[ci]? = some (C, T, n)) : PreV s H C (ad k) (va_Pc (.ref (ad k) :: As) (sm_Pre g N ad E σ H.size)) As := by
  refine ⟨(sm_pw (As := .ref (ad k) :: As) hW hB).1, ?_, (sm_pw (As := .ref (ad k) :: As) hW hB).2⟩
  exact va_recv (ws := sm_w N ad (E σ)) (q0 := k) hW.1.2.2.1 hB.1 hc (by rw [sm_w_at hk, hE])
/-! ends and calls of methods that write their world -/
abbrev sm_At (g : sm_G) (N : Nat) (ad : Nat → Nat) (E : sm_S → Nat → va_E) : sm_S → State → Prop := fun u t => sm_PP g N ad E u t.heap
abbrev sm_Qi (g : sm_G) (N : Nat) (ad : Nat → Nat) (E : sm_S → Nat → va_E) (sz : Nat) (F : Int32 × sm_S) : Array Value → State → Outcome → State → Prop := va_Qi (fun r u => r = F.1 ∧ u = F.2) (sm_At g N ad E) (sm_AX N ad sz)
abbrev sm_Ql (g : sm_G) (N : Nat) (ad : Nat → Nat) (E : sm_S → Nat → va_E) (sz : Nat) (F : Int64 × sm_S) : Array Value → State → Outcome → State → Prop := va_Ql (fun r u => r = F.1 ∧ u = F.2) (sm_At g N ad E) (sm_AX N ad sz)
abbrev sm_Qv (g : sm_G) (N : Nat) (ad : Nat → Nat) (E : sm_S → Nat → va_E) (sz : Nat) (F : sm_S) : Array Value → State → Outcome → State → Prop := va_Qv (fun u => u = F) (sm_At g N ad E) (sm_AX N ad sz)
theorem sw_ci {F : Int32 × sm_S} {a : Array Value} (hB : sm_B g N ad E s H locs σ) (hr : va_Run p l e (rmd D) s m args below meth c H locs 0 0 0 0 (F0 m pc ls st0) rest (sm_Qi g N ad E H.size F a) (sm_AX N ad H.size))
    (kk : ∀ (H1 : Heap) (locs1 : List Loc), sm_B g N ad E s H1 locs1 F.2 → W p l e (rmd D) s m args below meth c H1 locs1 0 0 Q (F0 m (pc + 3) ls (.int F.1 :: rest))) : W p l e (rmd D) s m args below meth c H locs 0 0 Q (F0 m pc ls st0) :=
  va_calli hr hB.2 (fun q _ h => sm_AX.sub hB.2.1 q h) (sm_AX.sub hB.2.1) (fun r u t H1 locs1 ht _ hp hb _ _ hS => by
    obtain ⟨rfl, rfl⟩ := hp
    exact kk H1 locs1 ⟨by rw [← ht]; exact hb, hS⟩)
theorem sw_cl {F : Int64 × sm_S} {a : Array Value} (hB : sm_B g N ad E s H locs σ) (hr : va_Run p l e (rmd D) s m args below meth c H locs 0 0 0 0 (F0 m pc ls st0) rest (sm_Ql g N ad E H.size F a) (sm_AX N ad H.size))
    (kk : ∀ (H1 : Heap) (locs1 : List Loc), sm_B g N ad E s H1 locs1 F.2 → W p l e (rmd D) s m args below meth c H1 locs1 0 0 Q (F0 m (pc + 3) ls (.long F.1 :: rest))) : W p l e (rmd D) s m args below meth c H locs 0 0 Q (F0 m pc ls st0) :=
  va_calll hr hB.2 (fun q _ h => sm_AX.sub hB.2.1 q h) (sm_AX.sub hB.2.1) (fun r u t H1 locs1 ht _ hp hb _ _ hS => by
    obtain ⟨rfl, rfl⟩ := hp
    exact kk H1 locs1 ⟨by rw [← ht]; exact hb, hS⟩)
theorem sw_cv {F : sm_S} {a : Array Value} (hB : sm_B g N ad E s H locs σ) (hr : va_Run p l e (rmd D) s m args below meth c H locs 0 0 0 0 (F0 m pc ls st0) rest (sm_Qv g N ad E H.size F a) (sm_AX N ad H.size))
    (kk : ∀ (H1 : Heap) (locs1 : List Loc), sm_B g N ad E s H1 locs1 F → W p l e (rmd D) s m args below meth c H1 locs1 0 0 Q (F0 m (pc + 3) ls rest)) : W p l e (rmd D) s m args below meth c H locs 0 0 Q (F0 m pc ls st0) :=
  va_callv hr hB.2 (fun q _ h => sm_AX.sub hB.2.1 q h) (sm_AX.sub hB.2.1) (fun u t H1 locs1 ht _ hp hb _ _ hS => by
    obtain rfl := hp
    exact kk H1 locs1 ⟨by rw [← ht]; exact hb, hS⟩)
theorem sw_ri {F : Int32 × sm_S} {v : Int32} (hx : p.tables.exec = Jvm.exec) (hb : c.code = cc) (hr : meth.sig.returnType = some .int) (hlocks : meth.locks = false) (hB : sm_B g N ad E s H locs σ) (hv : F = (v, σ)) (hdg : decode cc pc = .ok (.ireturn, 1)) : W p l e (rmd D) s m args below meth c H locs 0 0 (MQ below (sm_Qi g N ad E s.heap.size F) args s 0 0 (sm_AX N ad s.heap.size)) (F0 m pc ls [.int v]) :=
  W.iret hx hb hr (fun t ht hW => ⟨⟨v, σ, rfl, ⟨by rw [hv], by rw [hv]⟩, by show sm_PP _ _ _ _ _ t.heap; rw [ht]; exact hB.1⟩, hB.2.F ht⟩) hB.2.2.2 hdg hlocks
theorem sw_rz {F : Int32 × sm_S} {v : Int32} (hx : p.tables.exec = Jvm.exec) (hb : c.code = cc) (hr : meth.sig.returnType = some .boolean) (hlocks : meth.locks = false) (hB : sm_B g N ad E s H locs σ) (hn : narrow .boolean (.int v) = .int v) (hv : F = (v, σ)) (hdg : decode cc pc = .ok (.ireturn, 1)) : W p l e (rmd D) s m args below meth c H locs 0 0 (MQ below (sm_Qi g N ad E s.heap.size F) args s 0 0 (sm_AX N ad s.heap.size)) (F0 m pc ls [.int v]) :=
  W.zret hx hb hr hn (fun t ht hW => ⟨⟨v, σ, rfl, ⟨by rw [hv], by rw [hv]⟩, by show sm_PP _ _ _ _ _ t.heap; rw [ht]; exact hB.1⟩, hB.2.F ht⟩) hB.2.2.2 hdg hlocks
theorem sw_rl {F : Int64 × sm_S} {v : Int64} (hx : p.tables.exec = Jvm.exec) (hb : c.code = cc) (hr : meth.sig.returnType = some .long) (hlocks : meth.locks = false) (hB : sm_B g N ad E s H locs σ) (hv : F = (v, σ)) (hdg : decode cc pc = .ok (.lreturn, 1)) : W p l e (rmd D) s m args below meth c H locs 0 0 (MQ below (sm_Ql g N ad E s.heap.size F) args s 0 0 (sm_AX N ad s.heap.size)) (F0 m pc ls [.long v]) :=
  W.lret hx hb hr (fun t ht hW => ⟨⟨v, σ, rfl, ⟨by rw [hv], by rw [hv]⟩, by show sm_PP _ _ _ _ _ t.heap; rw [ht]; exact hB.1⟩, hB.2.F ht⟩) hB.2.2.2 hdg hlocks
theorem sw_rv {F : sm_S} (hx : p.tables.exec = Jvm.exec) (hb : c.code = cc) (hr : meth.sig.returnType = none) (hlocks : meth.locks = false) (hB : sm_B g N ad E s H locs σ) (hv : F = σ) (hdg : decode cc pc = .ok (.return_, 1)) : W p l e (rmd D) s m args below meth c H locs 0 0 (MQ below (sm_Qv g N ad E s.heap.size F) args s 0 0 (sm_AX N ad s.heap.size)) (F0 m pc ls []) :=
  W.vret hx hb hr (fun t ht hW => ⟨⟨σ, rfl, hv.symm, by show sm_PP _ _ _ _ _ t.heap; rw [ht]; exact hB.1⟩, hB.2.F ht⟩) hB.2.2.2 hdg hlocks
/-! reading and writing the world's cells -/
theorem sw_ia (hx : p.tables.exec = Jvm.exec) (hb : c.code = cc) (hW : sm_W g N ad E s) (hB : sm_B g N ad E s H locs σ) (k : Nat) {len : Nat} (hk : k < N) (hE : ∀ τ : sm_S, E τ k = .inl (gI g, len, .inl (τ.1 k))) {i : Int32} (hin : vp_in i len) (hdg : decode cc pc = .ok (.iaload, 1))
    (kk : W p l e R s m args below meth c H locs cells slots Q (F0 m (pc + 1) ls (.int (σ.1 k i.toNatClampNeg) :: rest))) : W p l e R s m args below meth c H locs cells slots Q (F0 m pc ls (.int i :: .ref (ad k) :: rest)) :=
  va_iald (ws := sm_w N ad (E σ)) hx hb hW.1.2.2.1 hB.1 k 0 (by rw [sm_w_at hk, hE]) rfl hin hdg kk
theorem sw_za (hx : p.tables.exec = Jvm.exec) (hb : c.code = cc) (hW : sm_W g N ad E s) (hB : sm_B g N ad E s H locs σ) (k : Nat) {len : Nat} (hk : k < N) (hE : ∀ τ : sm_S, E τ k = .inl (gZ g, len, .inl (τ.1 k))) {i : Int32} (hin : vp_in i len) (hdg : decode cc pc = .ok (.baload, 1))
    (kk : W p l e R s m args below meth c H locs cells slots Q (F0 m (pc + 1) ls (.int (σ.1 k i.toNatClampNeg) :: rest))) : W p l e R s m args below meth c H locs cells slots Q (F0 m pc ls (.int i :: .ref (ad k) :: rest)) :=
  va_zald (ws := sm_w N ad (E σ)) hx hb hW.1.2.2.1 hB.1 k 2 (by rw [sm_w_at hk, hE]) rfl hin hdg kk
theorem sw_la (hx : p.tables.exec = Jvm.exec) (hb : c.code = cc) (hW : sm_W g N ad E s) (hB : sm_B g N ad E s H locs σ) (k : Nat) {len : Nat} (hk : k < N) (hE : ∀ τ : sm_S, E τ k = .inl (gL g, len, .inr (.inl (τ.2.1 k)))) {i : Int32} (hin : vp_in i len) (hdg : decode cc pc = .ok (.laload, 1))
    (kk : W p l e R s m args below meth c H locs cells slots Q (F0 m (pc + 1) ls (.long (σ.2.1 k i.toNatClampNeg) :: rest))) : W p l e R s m args below meth c H locs cells slots Q (F0 m pc ls (.int i :: .ref (ad k) :: rest)) :=
  va_lald (ws := sm_w N ad (E σ)) hx hb hW.1.2.2.1 hB.1 k 1 (by rw [sm_w_at hk, hE]) rfl hin hdg kk
theorem sm_uI_at (hl : sm_lay E) {k i : Nat} {x : Int32} {v : va_E} (hv : E (uI σ k i x) k = v) : ∀ j, j < N → E (uI σ k i x) j = if j = k then v else E σ j := by
  intro j _
  by_cases h : j = k
  · subst h; rw [if_pos rfl]; exact hv
  · rw [if_neg h]
    exact hl _ _ j (by simp [uI, h]) rfl rfl
theorem sm_uL_at (hl : sm_lay E) {k i : Nat} {x : Int64} {v : va_E} (hv : E (uL σ k i x) k = v) : ∀ j, j < N → E (uL σ k i x) j = if j = k then v else E σ j := by
  intro j _
  by_cases h : j = k
  · subst h; rw [if_pos rfl]; exact hv
  · rw [if_neg h]
    exact hl _ _ j rfl (by simp [uL, h]) rfl
theorem sw_is (hx : p.tables.exec = Jvm.exec) (hb : c.code = cc) (hW : sm_W g N ad E s) (hB : sm_B g N ad E s H locs σ) (k : Nat) {len : Nat} (hk : k < N) (hE : ∀ τ : sm_S, E τ k = .inl (gI g, len, .inl (τ.1 k))) {i x : Int32} (hin : vp_in i len) (hdg : decode cc pc = .ok (.iastore, 1))
    (kk : ∀ (H1 : Heap) (locs1 : List Loc), sm_B g N ad E s H1 locs1 (uI σ k i.toNatClampNeg x) → W p l e R s m args below meth c H1 locs1 cells slots Q (F0 m (pc + 1) ls rest)) : W p l e R s m args below meth c H locs cells slots Q (F0 m pc ls (.int x :: .int i :: .ref (ad k) :: rest)) := by
  refine va_iast (ws := sm_w N ad (E σ)) hx hb hW.1.2.2.1 hB.1 (sm_D hW.2.1) hB.2 k 0 (by rw [sm_w_at hk, hE]) rfl hin hdg (fun H1 locs1 hP _ hS => kk H1 locs1 ⟨?_, hS⟩)
  rw [sm_w_set (E' := E (uI σ k i.toNatClampNeg x)) (sm_uI_at hW.2.2 (by rw [hE]; simp [uI]))] at hP
  exact hP
theorem sw_zs (hx : p.tables.exec = Jvm.exec) (hb : c.code = cc) (hW : sm_W g N ad E s) (hB : sm_B g N ad E s H locs σ) (k : Nat) {len : Nat} (hk : k < N) (hE : ∀ τ : sm_S, E τ k = .inl (gZ g, len, .inl (τ.1 k))) {i x : Int32} (hin : vp_in i len) (hdg : decode cc pc = .ok (.bastore, 1))
    (kk : ∀ (H1 : Heap) (locs1 : List Loc), sm_B g N ad E s H1 locs1 (uI σ k i.toNatClampNeg (vp_nar .boolean x)) → W p l e R s m args below meth c H1 locs1 cells slots Q (F0 m (pc + 1) ls rest)) : W p l e R s m args below meth c H locs cells slots Q (F0 m pc ls (.int x :: .int i :: .ref (ad k) :: rest)) := by
  refine va_zast (ws := sm_w N ad (E σ)) hx hb hW.1.2.2.1 hB.1 (sm_D hW.2.1) hB.2 k 2 (by rw [sm_w_at hk, hE]) rfl hin hdg (fun H1 locs1 hP _ hS => kk H1 locs1 ⟨?_, hS⟩)
  rw [sm_w_set (E' := E (uI σ k i.toNatClampNeg (vp_nar .boolean x))) (sm_uI_at hW.2.2 (by rw [hE]; simp [uI]))] at hP
  exact hP
theorem sw_ls (hx : p.tables.exec = Jvm.exec) (hb : c.code = cc) (hW : sm_W g N ad E s) (hB : sm_B g N ad E s H locs σ) (k : Nat) {len : Nat} (hk : k < N) (hE : ∀ τ : sm_S, E τ k = .inl (gL g, len, .inr (.inl (τ.2.1 k)))) {i : Int32} {x : Int64} (hin : vp_in i len) (hdg : decode cc pc = .ok (.lastore, 1))
    (kk : ∀ (H1 : Heap) (locs1 : List Loc), sm_B g N ad E s H1 locs1 (uL σ k i.toNatClampNeg x) → W p l e R s m args below meth c H1 locs1 cells slots Q (F0 m (pc + 1) ls rest)) : W p l e R s m args below meth c H locs cells slots Q (F0 m pc ls (.long x :: .int i :: .ref (ad k) :: rest)) := by
  refine va_last (ws := sm_w N ad (E σ)) hx hb hW.1.2.2.1 hB.1 (sm_D hW.2.1) hB.2 k 1 (by rw [sm_w_at hk, hE]) rfl hin hdg (fun H1 locs1 hP _ hS => kk H1 locs1 ⟨?_, hS⟩)
  rw [sm_w_set (E' := E (uL σ k i.toNatClampNeg x)) (sm_uL_at hW.2.2 (by rw [hE]; simp [uL]))] at hP
  exact hP
/-- a field of an object of the world -/
theorem sw_g {C ref : String} {T : u_T} {n ci index : Nat} (hx : p.tables.exec = Jvm.exec) (hb : c.code = cc) (hts : ∀ w ∈ sm_T, w.before args s = true) (hown : s.vm.findClass own = some m.cls) (hin : ∀ w ∈ u_ws C T n, w ∈ sm_T) (hW : sm_W g N ad E s) (hB : sm_B g N ad E s H locs σ) (k : Nat) (hk : k < N) {fs : List Value} (hE : E σ k = .inr (ci, fs)) (hc : sm_cls[ci]? = some (C, T, n)) (f : Nat) (hf : f < n) (href : ref = (T f).1) (hl : Cond.fieldLink own index ref (T f).2.1 (T f).2.2.1 ∈ sm_T) {v : Value} (hv : fs[f]? = some v) (hdg : decode cc pc = .ok (.getfield index, 3))
    (kk : W p l e R s m args below meth c H locs cells slots Q (F0 m (pc + 3) ls (v :: rest))) : W p l e R s m args below meth c H locs cells slots Q (F0 m pc ls (.ref (ad k) :: rest)) :=
  va_get (ws := sm_w N ad (E σ)) hx hb hts hin hown hW.1.2.2.1 hB.1 k (by rw [sm_w_at hk, hE]) hc f hf (hts _ hl) (fun x h => by rw [href]; exact h) hv hdg kk
/-- an int field of an object of the world is written: place i of the cell's numbers -/
theorem sw_p {C ref : String} {T : u_T} {n ci index : Nat} (ty0 : Nat → FieldType) (hty : ∀ k, k < n → parseFieldDescriptor (T k).2.2.1 = some (ty0 k)) (hnm : ∀ a, a < n → ∀ b, b < n → a ≠ b → (T a).2.1 ≠ (T b).2.1) (hx : p.tables.exec = Jvm.exec) (hb : c.code = cc) (hts : ∀ w ∈ sm_T, w.before args s = true) (hown : s.vm.findClass own = some m.cls) (hin : ∀ w ∈ u_ws C T n, w ∈ sm_T) (hW : sm_W g N ad E s) (hB : sm_B g N ad E s H locs σ) (k : Nat) (hk : k < N) {fs : List Value} (hE : E σ k = .inr (ci, fs)) (hc : sm_cls[ci]? = some (C, T, n)) (f : Nat) (hf : f < n) (href : ref = (T f).1) (hl : Cond.fieldLink own index ref (T f).2.1 (T f).2.2.1 ∈ sm_T) (hfin : (T f).2.2.2 = false) (hd : parseFieldDescriptor (T f).2.2.1 = some .int) (hlen : f < fs.length) (i : Nat) {x : Int32} (hE2 : E (uI σ k i x) k = .inr (ci, fs.set f (.int x))) (hdg : decode cc pc = .ok (.putfield index, 3))
    (kk : ∀ (H1 : Heap) (locs1 : List Loc), sm_B g N ad E s H1 locs1 (uI σ k i x) → W p l e R s m args below meth c H1 locs1 cells slots Q (F0 m (pc + 3) ls rest)) : W p l e R s m args below meth c H locs cells slots Q (F0 m pc ls (.int x :: .ref (ad k) :: rest)) := by
  refine va_put (ws := sm_w N ad (E σ)) hx hb hts hin ty0 hty hnm hown hW.1.2.2.1 hB.1 (sm_D hW.2.1) hB.2 k (by rw [sm_w_at hk, hE]) hc f hf (hts _ hl) (fun x h => by rw [href]; exact h) hfin hd rfl rfl hlen hdg (fun H1 locs1 hP _ hS => kk H1 locs1 ⟨?_, hS⟩)
  rw [sm_w_set (E' := E (uI σ k i x)) (sm_uI_at hW.2.2 hE2)] at hP
  exact hP
end SMW
