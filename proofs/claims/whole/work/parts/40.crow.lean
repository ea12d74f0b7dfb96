/-! CONSTRUCTORS: rows with worlds as written lists -/
def cPre (g : sm_G) (e0 : va_E) (h0 sz : Nat) (U : State) : Prop := U.heap.size = sz ∧ va_P (gD g) sm_cls [(h0, e0)] U.heap ∧ sm_A g (va_A [(h0, e0)] sz) U U.heap
def cPost {S : Type} (g : sm_G) (e0 : va_E) (h0 sz : Nat) (WS : S → va_W) (u : S) (t : State) : Prop := va_P (gD g) sm_cls (WS u) t.heap ∧ va_D (va_A [(h0, e0)] sz) (WS u)
theorem sn_D1 {h0 sz : Nat} {e0 : va_E} : va_D (va_A [(h0, e0)] sz) [(h0, e0)] := by
  have h0' : ∀ (k : Nat) (q : Nat × va_E), ([(h0, e0)] : va_W)[k]? = some q → k = 0 ∧ q = (h0, e0) := by
    intro k q h
    match k, h with
    | 0, h => cases h; exact ⟨rfl, rfl⟩
    | k + 1, h => simp at h
  refine ⟨fun i j p q h1 h2 _ => ?_, fun k q h => ?_⟩
  · rw [(h0' i p h1).1, (h0' j q h2).1]
  · exact Or.inl ⟨k, q.2, h⟩
theorem sn_ty {g : sm_G} {s : State} {cA c : ClassId} {ty : FieldType} {k : Nat} (hp : ∀ C, ty ≠ .object C) (hK : va_K (gD g) sm_cls (sm_tys g ++ [(cA, ty)]) s) (hk : (sm_tys g)[k]? = some (c, ty)) : cA = c := by
  have h1 := (hK.2 4 (cA, ty) rfl).2
  have hlt : k < (sm_tys g).length := (List.getElem?_eq_some_iff.mp hk).1
  have h2 := (hK.2 k (c, ty) (by rw [List.getElem?_append_left hlt]; exact hk)).2
  cases ty with
  | object C => exact absurd rfl (hp C)
  | _ =>
    have e1 : s.vm.findClass _ = some cA := h1
    have e2 : s.vm.findClass _ = some c := h2
    exact Option.some.inj (e1.symm.trans e2)
theorem sn_tyC {g : sm_G} {s : State} {cA : ClassId} (hK : va_K (gD g) sm_cls (sm_tys g ++ [(cA, .object RX0)]) s) : cA = gC g := by
  obtain ⟨_, _, -, -, -, h1⟩ := (hK.2 4 (cA, .object RX0) rfl).2
  obtain ⟨_, _, -, -, -, h2⟩ := (hK.2 3 (gC g, .object RX0) rfl).2
  exact Option.some.inj (h1.symm.trans h2)
section SNR
variable {p : Program} {l : Launch} {e : Env} {s : State} {m : MethodId} {args : Array Value} {below : List Frame} {meth : Method} {c : Code} {H : Heap} {locs : List Loc} {R : Room} {cells slots : Nat} {Q : State → Prop}
variable {cc : ByteArray} {pc : Nat} {ls : Array Slot} {rest : List Value} {g : sm_G} {A : Nat → Prop} {ws : va_W}
theorem sn_i (hx : p.tables.exec = Jvm.exec) (hb : c.code = cc) (hts : ∀ w ∈ sm_T, w.before args s = true) (hK : va_K (gD g) sm_cls (sm_tys g) s) (hP : va_P (gD g) sm_cls ws H) (hD : va_D A ws) (hS : va_S A s.heap H locs) (hA : ∀ q, s.heap.size ≤ q → A q) {n : Int32} {N' : Nat} (hn : ¬ n < 0) (hN : n.toNatClampNeg = N') (hbytes : N' * componentBytes .int ≤ 536870912) (hcells : cells + 1 ≤ R.cells) (hslots : slots + N' ≤ R.slots) (hdg : decode cc pc = .ok (.newarray .int, 2))
    (kk : ∀ (q : Nat) (H1 : Heap), va_P (gD g) sm_cls (ws ++ [(q, .inl (gI g, N', .inl (fun _ => 0)))]) H1 → va_D A (ws ++ [(q, .inl (gI g, N', .inl (fun _ => 0)))]) → va_S A s.heap H1 locs → W p l e R s m args below meth c H1 locs (cells + 1) (slots + N') Q (F0 m (pc + 2) ls (.ref q :: rest))) : W p l e R s m args below meth c H locs cells slots Q (F0 m pc ls (.int n :: rest)) :=
  va_newa (atype := .int) (ty := .int) (a0 := (N', .inl (fun _ => 0))) hx hb (hts _ (sm_in (List.mem_of_getElem? (i := 89) (by decide +kernel)) rfl)) rfl hK hP hD hS hA (fun _ => rfl) hn hN hbytes hcells hslots hdg (fun q cA H1 hK2 hP2 hD2 hS2 => by
    have e := sn_ty (k := 0) (fun _ h => by cases h) hK2 rfl
    subst e
    exact kk q H1 hP2 hD2 hS2)
theorem sn_l (hx : p.tables.exec = Jvm.exec) (hb : c.code = cc) (hts : ∀ w ∈ sm_T, w.before args s = true) (hK : va_K (gD g) sm_cls (sm_tys g) s) (hP : va_P (gD g) sm_cls ws H) (hD : va_D A ws) (hS : va_S A s.heap H locs) (hA : ∀ q, s.heap.size ≤ q → A q) {n : Int32} {N' : Nat} (hn : ¬ n < 0) (hN : n.toNatClampNeg = N') (hbytes : N' * componentBytes .long ≤ 536870912) (hcells : cells + 1 ≤ R.cells) (hslots : slots + N' ≤ R.slots) (hdg : decode cc pc = .ok (.newarray .long, 2))
    (kk : ∀ (q : Nat) (H1 : Heap), va_P (gD g) sm_cls (ws ++ [(q, .inl (gL g, N', .inr (.inl (fun _ => 0))))]) H1 → va_D A (ws ++ [(q, .inl (gL g, N', .inr (.inl (fun _ => 0))))]) → va_S A s.heap H1 locs → W p l e R s m args below meth c H1 locs (cells + 1) (slots + N') Q (F0 m (pc + 2) ls (.ref q :: rest))) : W p l e R s m args below meth c H locs cells slots Q (F0 m pc ls (.int n :: rest)) :=
  va_newa (atype := .long) (ty := .long) (a0 := (N', .inr (.inl (fun _ => 0)))) hx hb (hts _ (sm_in (List.mem_of_getElem? (i := 90) (by decide +kernel)) rfl)) rfl hK hP hD hS hA (fun _ => rfl) hn hN hbytes hcells hslots hdg (fun q cA H1 hK2 hP2 hD2 hS2 => by
    have e := sn_ty (k := 1) (fun _ h => by cases h) hK2 rfl
    subst e
    exact kk q H1 hP2 hD2 hS2)
theorem sn_z (hx : p.tables.exec = Jvm.exec) (hb : c.code = cc) (hts : ∀ w ∈ sm_T, w.before args s = true) (hK : va_K (gD g) sm_cls (sm_tys g) s) (hP : va_P (gD g) sm_cls ws H) (hD : va_D A ws) (hS : va_S A s.heap H locs) (hA : ∀ q, s.heap.size ≤ q → A q) {n : Int32} {N' : Nat} (hn : ¬ n < 0) (hN : n.toNatClampNeg = N') (hbytes : N' * componentBytes .boolean ≤ 536870912) (hcells : cells + 1 ≤ R.cells) (hslots : slots + N' ≤ R.slots) (hdg : decode cc pc = .ok (.newarray .boolean, 2))
    (kk : ∀ (q : Nat) (H1 : Heap), va_P (gD g) sm_cls (ws ++ [(q, .inl (gZ g, N', .inl (fun _ => 0)))]) H1 → va_D A (ws ++ [(q, .inl (gZ g, N', .inl (fun _ => 0)))]) → va_S A s.heap H1 locs → W p l e R s m args below meth c H1 locs (cells + 1) (slots + N') Q (F0 m (pc + 2) ls (.ref q :: rest))) : W p l e R s m args below meth c H locs cells slots Q (F0 m pc ls (.int n :: rest)) :=
  va_newa (atype := .boolean) (ty := .boolean) (a0 := (N', .inl (fun _ => 0))) hx hb (hts _ (sm_in (List.mem_of_getElem? (i := 593) (by decide +kernel)) rfl)) rfl hK hP hD hS hA (fun _ => rfl) hn hN hbytes hcells hslots hdg (fun q cA H1 hK2 hP2 hD2 hS2 => by
    have e := sn_ty (k := 2) (fun _ h => by cases h) hK2 rfl
    subst e
    exact kk q H1 hP2 hD2 hS2)
theorem sn_q (hx : p.tables.exec = Jvm.exec) (hb : c.code = cc) (hts : ∀ w ∈ sm_T, w.before args s = true) (hown : s.vm.findClass RX5 = some m.cls) (hO : va_AO RX0 s) (hK : va_K (gD g) sm_cls (sm_tys g) s) (hP : va_P (gD g) sm_cls ws H) (hD : va_D A ws) (hS : va_S A s.heap H locs) (hA : ∀ q, s.heap.size ≤ q → A q) (hcells : cells + 1 ≤ R.cells) (hslots : slots + 4 ≤ R.slots) (hdg : decode cc pc = .ok (.anewarray 20, 3))
    (kk : ∀ (q : Nat) (H1 : Heap), va_P (gD g) sm_cls (ws ++ [(q, .inl (gC g, 4, .inr (.inr (.inr (.inr (fun _ => none))))))]) H1 → va_D A (ws ++ [(q, .inl (gC g, 4, .inr (.inr (.inr (.inr (fun _ => none))))))]) → va_S A s.heap H1 locs → W p l e R s m args below meth c H1 locs (cells + 1) (slots + 4) Q (F0 m (pc + 3) ls (.ref q :: rest))) : W p l e R s m args below meth c H locs cells slots Q (F0 m pc ls (.int 4 :: rest)) :=
  va_newq hx hb hown (hts _ (sm_in (List.mem_of_getElem? (i := 73) (by decide +kernel)) rfl)) hO hK hP hD hS hA (by decide) (by decide) (by decide) hcells hslots hdg (fun q cA H1 hK2 hP2 hD2 hS2 => by
    have e := sn_tyC hK2
    subst e
    exact kk q H1 hP2 hD2 hS2)
end SNR
theorem sn_pre {s : State} {H : Heap} {locs : List Loc} {A : Nat → Prop} {g : sm_G} {ws : va_W} {q0 : Nat} {e0 : va_E} (hA0 : sm_A g A s s.heap) (hA : ∀ q, s.heap.size ≤ q → A q) (hP : va_P (gD g) sm_cls ws H) (hD : va_D A ws) (hS : va_S A s.heap H locs) (k : Nat) (hk : ws[k]? = some (q0, e0)) : PreS s H (va_Pc [.ref q0] (cPre g e0 q0 H.size)) [.ref q0] := by
  refine ⟨fun a U f mk q => ⟨q.1, q.2.1, q.2.2.1, sm_A.blind q.2.2.2⟩, fun U hU hw => ⟨rfl, by rw [hU], ?_, ?_⟩⟩
  · rw [hU]
    exact hP.sub (ws' := [(q0, e0)]) [k] (by simp [hk])
  · have h1 : sm_A g A U H := (hA0.kept hS.2.1).moved hw
    rw [hU]
    exact h1.narrow (va_free (wc := [(q0, e0)]) hD hS hA [k] (by simp [hk]))
section SNC
variable {p : Program} {l : Launch} {e : Env} {s : State} {m : MethodId} {args : Array Value} {below : List Frame} {meth : Method} {c : Code} {H : Heap} {locs : List Loc} {R : Room} {cells slots mc ms : Nat} {Q : State → Prop}
variable {cc : ByteArray} {pc : Nat} {ls : Array Slot} {rest : List Value} {g : sm_G} {A : Nat → Prop} {ws wr : va_W} {q0 : Nat} {e0 : va_E}
theorem sn_ctor {S : Type} {post : S → Prop} {WS : S → va_W} {a : Array Value} (hr : va_Run p l e R s m args below meth c H locs cells slots mc ms (F0 m pc ls (.ref q0 :: rest)) rest (va_Qv post (cPost g e0 q0 H.size WS) (va_A [(q0, e0)] H.size) a) (va_A [(q0, e0)] H.size)) (hA : ∀ q, s.heap.size ≤ q → A q) (hP : va_P (gD g) sm_cls ws H) (hD : va_D A ws) (hS : va_S A s.heap H locs) (k : Nat) (hk : ws[k]? = some (q0, e0)) (isR : List Nat) (hR : isR.map (fun i => ws[i]?) = wr.map some) (hn : va_nd isR = true) (hdis : ∀ i ∈ isR, i ∉ [k])
    (kk : ∀ (u : S) (H1 : Heap) (locs1 : List Loc), post u → va_P (gD g) sm_cls (wr ++ WS u) H1 → va_D A (wr ++ WS u) → va_S A s.heap H1 locs1 → W p l e R s m args below meth c H1 locs1 (cells + mc) (slots + ms) Q (F0 m (pc + 3) ls rest)) : W p l e R s m args below meth c H locs cells slots Q (F0 m pc ls (.ref q0 :: rest)) := by
  have hFc := va_free (wc := [(q0, e0)]) hD hS hA [k] (by simp [hk])
  refine va_callv hr hS (fun q _ h => hFc q h) hFc (fun u t H1 locs1 ht _ hp hb _ hk1 hS1 => ?_)
  obtain ⟨hP1, hD1⟩ := hb
  rw [ht] at hP1
  obtain ⟨hP2, hD2⟩ := va_join (wr := wr) (w1 := WS u) (wc := [(q0, e0)]) hP hD [k] isR (by simp [hk]) hR hn hdis hk1 hFc hP1 hD1
  exact kk u H1 locs1 hp hP2 hD2 hS1
end SNC
theorem sn_arrR {cA : ClassId} {n : Nat} {f f' : Nat → Option Nat} (h : ∀ j, j < n → f j = f' j) : vp_cell cA (n, .inr (.inr (.inr (.inr f)))) = vp_cell cA (n, .inr (.inr (.inr (.inr f')))) := by
  rw [vp_cell_q, vp_cell_q]
  unfold arrV
  congr 2
  funext j
  show va_rf (f j.val) = va_rf (f' j.val)
  rw [h j.val j.isLt]
theorem sn_poolP {D : va_G} {cl : List vw_C} {w1 w2 : va_W} {a n : Nat} {cA : ClassId} {f f' : Nat → Option Nat} {H : Heap} (hP : va_P D cl (w1 ++ (a, .inl (cA, n, .inr (.inr (.inr (.inr f))))) :: w2) H) (h : ∀ j, j < n → f j = f' j) : va_P D cl (w1 ++ (a, .inl (cA, n, .inr (.inr (.inr (.inr f'))))) :: w2) H := by
  intro k q hk
  by_cases hkl : k = w1.length
  · subst hkl
    have h1 := hP w1.length (a, .inl (cA, n, .inr (.inr (.inr (.inr f))))) (by simp)
    have hq : q = (a, .inl (cA, n, .inr (.inr (.inr (.inr f'))))) := by
      have : (w1 ++ (a, .inl (cA, n, .inr (.inr (.inr (.inr f'))))) :: w2)[w1.length]? = some (a, .inl (cA, n, .inr (.inr (.inr (.inr f'))))) := by simp
      exact Option.some.inj (hk.symm.trans this)
    rw [hq]
    show H[a]? = some (vp_cell _ _)
    rw [← sn_arrR h]
    exact h1
  · refine hP k q ?_
    rw [← hk]
    rcases Nat.lt_or_gt_of_ne hkl with hlt | hgt
    · rw [List.getElem?_append_left hlt, List.getElem?_append_left hlt]
    · rw [List.getElem?_append_right (by omega), List.getElem?_append_right (by omega)]
      obtain ⟨d, hd⟩ : ∃ d, k - w1.length = d + 1 := ⟨k - w1.length - 1, by omega⟩
      rw [hd]
      rfl
theorem sn_Daddr {A : Nat → Prop} {ws ws' : va_W} (h : va_D A ws) (e : ws.map (fun q => q.1) = ws'.map (fun q => q.1)) : va_D A ws' := by
  have h0 : ∀ (k : Nat) (q : Nat × va_E), ws'[k]? = some q → ∃ q', ws[k]? = some q' ∧ q'.1 = q.1 := by
    intro k q hk
    have h1 : (ws'.map (fun q => q.1))[k]? = some q.1 := by rw [List.getElem?_map, hk]; rfl
    rw [← e, List.getElem?_map] at h1
    cases hw : ws[k]? with
    | none => rw [hw] at h1; cases h1
    | some q' => rw [hw] at h1; exact ⟨q', rfl, Option.some.inj h1⟩
  refine ⟨fun i j p q hi hj e2 => ?_, fun k q hk => ?_⟩
  · obtain ⟨p', a1, a2⟩ := h0 i p hi
    obtain ⟨q', b1, b2⟩ := h0 j q hj
    exact h.1 i j p' q' a1 b1 (by rw [a2, b2]; exact e2)
  · obtain ⟨q', a1, a2⟩ := h0 k q hk
    rw [← a2]
    exact h.2 k q' a1
