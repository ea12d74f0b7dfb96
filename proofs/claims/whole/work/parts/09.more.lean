theorem in_mono {i : Int32} {a b : Nat} (h : vp_in i a) (hab : a ≤ b) : vp_in i b := by
  rw [vp_in_iff] at h ⊢
  omega
theorem in_dn {k : Int32} (h0 : ¬ k ≤ 0) (h : k ≤ 15) : vp_in k 16 := by
  have h1 := Int32.not_le.mp h0
  rw [Int32.lt_iff_toInt_lt] at h1
  rw [Int32.le_iff_toInt_le] at h
  have h3 : (0 : Int32).toInt = 0 := rfl
  have h4 : (15 : Int32).toInt = 15 := rfl
  rw [vp_in_iff]
  omega
theorem in_dn1 {k : Int32} (h0 : ¬ k ≤ 0) (h : k ≤ 15) : vp_in (k - 1) 16 := by
  have h1 := Int32.not_le.mp h0
  rw [Int32.lt_iff_toInt_lt] at h1
  rw [Int32.le_iff_toInt_le] at h
  have h3 : (0 : Int32).toInt = 0 := rfl
  have h4 : (15 : Int32).toInt = 15 := rfl
  have h5 : (k - 1).toInt = k.toInt - 1 := by
    rw [Int32.toInt_sub, show (1 : Int32).toInt = 1 from rfl]
    apply Int.bmod_eq_of_le <;> omega
  rw [vp_in_iff]
  omega
theorem le_dec {k : Int32} (h0 : ¬ k ≤ 0) (h : k ≤ 15) : k + -1 ≤ 15 := by
  have h1 := Int32.not_le.mp h0
  rw [Int32.lt_iff_toInt_lt] at h1
  rw [Int32.le_iff_toInt_le] at h ⊢
  have h3 : (0 : Int32).toInt = 0 := rfl
  have h4 : (15 : Int32).toInt = 15 := rfl
  have h5 : (k + -1).toInt = k.toInt - 1 := by
    rw [Int32.toInt_add, show (-1 : Int32).toInt = -1 from rfl]
    have := Int.bmod_eq_of_le (n := k.toInt + -1) (m := 2 ^ 32) (by omega) (by omega)
    omega
  omega
/-- the class's references point into its pool, its arrays are of at most 12 cells -/
def invX (σ : sm_S) : Prop := (∀ h i, σ.2.2 h = some i → i < 4) ∧ ∀ i, i < 4 → 0 ≤ (σ.1 (10 + 3 * i) 1).toInt ∧ (σ.1 (10 + 3 * i) 1).toInt ≤ 12
/-- the reference's arrays: the store, and sizes of at most 12 -/
def invM (σ : sm_S) : Prop := (∀ h, h < 4 → -1 ≤ (σ.1 5 h).toInt ∧ (σ.1 5 h).toInt ≤ 3) ∧ ∀ i, i < 4 → 0 ≤ (σ.1 7 i).toInt ∧ (σ.1 7 i).toInt ≤ 12
section SMN2
variable {p : Program} {l : Launch} {e : Env} {s : State} {m : MethodId} {args : Array Value} {below : List Frame} {meth : Method} {c : Code} {H : Heap} {locs : List Loc} {Q : State → Prop}
variable {cc : ByteArray} {pc : Nat} {ls : Array Slot} {rest st0 : List Value} {D : Nat} {ad : Nat → Nat} {g : sm_G} {σ : sm_S} {R : Room} {cells slots : Nat}
theorem sm_crn {α : Type} {F0' : α} {v : Nat} {adv : Nat → Value} {a : Array Value} {g0 : Nat → α} (hv : F0' = sm_let v g0) (hr : va_Run p l e (rmd D) s m args below meth c H locs 0 0 0 0 (F0 m pc ls st0) rest (va_Sr (fun r => r = v) adv a) (fun _ => False)) (kk : ∀ u : Nat, u = v → F0' = g0 u → W p l e (rmd D) s m args below meth c H locs 0 0 Q (F0 m (pc + 3) ls (adv u :: rest))) : W p l e (rmd D) s m args below meth c H locs 0 0 Q (F0 m pc ls st0) :=
  sm_cr hr (kk v rfl hv)
theorem xr_ldS (hx : p.tables.exec = Jvm.exec) (hb : c.code = cc) (hW : sm_W g 22 ad (eX g ad) s) (hB : sm_B g 22 ad (eX g ad) s H locs σ) {h : Int32} (hin : vp_in h 4) {i : Nat} (hq : σ.2.2 h.toNatClampNeg = some i) (hdg : decode cc pc = .ok (.aaload, 1))
    (ks : W p l e R s m args below meth c H locs cells slots Q (F0 m (pc + 1) ls (.ref (ad (10 + 3 * i)) :: rest))) : W p l e R s m args below meth c H locs cells slots Q (F0 m pc ls (.int h :: .ref (ad 4) :: rest)) :=
  xr_ld hx hb hW hB hin hdg (fun h0 => by rw [hq] at h0; cases h0) (fun j hj => by rw [hq] at hj; cases hj; exact ks)
end SMN2
def invX0 (σ : sm_S) : Prop := ∀ h i, σ.2.2 h = some i → i < 4
theorem invX.r {σ : sm_S} (h : invX σ) : invX0 σ := h.1
theorem in_nat {i : Int32} {n : Nat} (h : vp_in i n) : i.toNatClampNeg < n := Nat.not_le.mp fun q => h (Or.inr q)
def uCL (σ : sm_S) (a b sp dp n : Nat) : sm_S := (σ.1, fun k => if k = b then va_cpy (σ.2.1 a) (σ.2.1 b) sp dp n else σ.2.1 k, σ.2.2)
def uCI (σ : sm_S) (a b sp dp n : Nat) : sm_S := (fun k => if k = b then va_cpy (σ.1 a) (σ.1 b) sp dp n else σ.1 k, σ.2)
section SMN3
variable {p : Program} {l : Launch} {e : Env} {s : State} {m : MethodId} {args : Array Value} {below : List Frame} {meth : Method} {c : Code} {H : Heap} {locs : List Loc} {Q : State → Prop}
variable {cc : ByteArray} {pc : Nat} {ls : Array Slot} {rest st0 : List Value} {D nL : Nat} {ad : Nat → Nat} {g : sm_G} {σ : sm_S} {R : Room} {cells slots : Nat}
theorem xr_ldQ (hx : p.tables.exec = Jvm.exec) (hb : c.code = cc) (hW : sm_W g 22 ad (eX g ad) s) (hB : sm_B g 22 ad (eX g ad) s H locs σ) {h : Int32} (hin : vp_in h 4) (hdg : decode cc pc = .ok (.aaload, 1))
    (kk : W p l e R s m args below meth c H locs cells slots Q (F0 m (pc + 1) ls (va_rf ((σ.2.2 h.toNatClampNeg).map (fun i => ad (10 + 3 * i))) :: rest))) : W p l e R s m args below meth c H locs cells slots Q (F0 m pc ls (.int h :: .ref (ad 4) :: rest)) :=
  va_aldq (C := RX0) (ws := sm_w 22 ad (eX g ad σ)) hx hb hW.1.2.2.1 hB.1 4 3 (by rw [sm_w_at (by decide), eX_4]) rfl hin hdg kk
theorem xr_ldP (hx : p.tables.exec = Jvm.exec) (hb : c.code = cc) (hW : sm_W g 22 ad (eX g ad) s) (hB : sm_B g 22 ad (eX g ad) s H locs σ) {h : Int32} (hin : vp_in h 4) {i : Nat} (hi : i = h.toNatClampNeg) (hdg : decode cc pc = .ok (.aaload, 1))
    (kk : W p l e R s m args below meth c H locs cells slots Q (F0 m (pc + 1) ls (.ref (ad (10 + 3 * i)) :: rest))) : W p l e R s m args below meth c H locs cells slots Q (F0 m pc ls (.int h :: .ref (ad 5) :: rest)) := by
  subst hi
  exact va_aldq (C := RX0) (f := fun h => some (ad (10 + 3 * h))) (ws := sm_w 22 ad (eX g ad σ)) hx hb hW.1.2.2.1 hB.1 5 3 (by rw [sm_w_at (by decide), eX_5]) rfl hin hdg kk
theorem xr_acmp (hx : p.tables.exec = Jvm.exec) (hb : c.code = cc) (hj : sm_inj 22 ad) {o : Option Nat} (ho : ∀ i, o = some i → i < 4) {j : Nat} (hj4 : j < 4) {off : Int} {tgt : Nat} (hdg : decode cc pc = .ok (.if_acmp .ne off, 3)) (ht : (pc : Int) + off = (tgt : Int))
    (kt : ¬ o = some j → W p l e R s m args below meth c H locs cells slots Q (F0 m tgt ls rest)) (kf : o = some j → W p l e R s m args below meth c H locs cells slots Q (F0 m (pc + 3) ls rest)) : W p l e R s m args below meth c H locs cells slots Q (F0 m pc ls (.ref (ad (10 + 3 * j)) :: va_rf (o.map (fun i => ad (10 + 3 * i))) :: rest)) := by
  refine lv_acmp_ne (rx := o.map (fun i => ad (10 + 3 * i))) (ry := some (ad (10 + 3 * j))) hx hb hdg ht (fun h => kt (fun q => h (by rw [q]; rfl))) (fun h => kf ?_)
  cases o with
  | none => cases h
  | some i =>
    have h2 : ad (10 + 3 * i) = ad (10 + 3 * j) := Option.some.inj h
    have h3 := hj _ _ (c0_lt (ho i rfl)) (c0_lt hj4) h2
    rw [show i = j by omega]
theorem xc_l (C : CallFix p m c cc nL s args sm_T RX5) (hl : ls.size = nL) (hW : sm_W g 22 ad (eX g ad) s) (hB : sm_B g 22 ad (eX g ad) s H locs σ) {i j : Nat} (hi : i < 4) (hj4 : j < 4) {sp dp n : Int32} (h1 : (¬ sp < 0 ∧ ¬ n < 0) ∧ sp.toNatClampNeg + n.toNatClampNeg ≤ 12) (h2 : (¬ dp < 0 ∧ ¬ n < 0) ∧ dp.toNatClampNeg + n.toNatClampNeg ≤ 12) (hD : 1 ≤ D) (hr : (rest.map fun v => v.category).sum + (nativeFrameWords "java/lang/System" "arraycopy" 5 + 11) ≤ 41 * D) (hdg : decode cc pc = .ok (.invokestatic 141, 3))
    (kk : ∀ (H1 : Heap) (locs1 : List Loc), sm_B g 22 ad (eX g ad) s H1 locs1 (uCL σ (11 + 3 * i) (11 + 3 * j) sp.toNatClampNeg dp.toNatClampNeg n.toNatClampNeg) → W p l e (rmd D) s m args below meth c H1 locs1 cells slots Q (F0 m (pc + 3) ls rest)) : W p l e (rmd D) s m args below meth c H locs cells slots Q (F0 m pc ls (.int n :: .int dp :: .ref (ad (11 + 3 * j)) :: .int sp :: .ref (ad (11 + 3 * i)) :: rest)) := by
  have ht := C.2.2.2.2
  refine va_copyl (ws := sm_w 22 ad (eX g ad σ)) (ty := .long) C.1 C.2.1 (C.2.2.1.trans hl.symm) C.2.2.2.1 (ht _ (sm_in (List.mem_of_getElem? (i := 474) (by decide +kernel)) rfl)) (ht _ (sm_in (List.mem_of_getElem? (i := 476) (by decide +kernel)) rfl)) (ht _ (sm_in (List.mem_of_getElem? (i := 475) (by decide +kernel)) rfl)) (ht _ (sm_in (List.mem_of_getElem? (i := 64) (by decide +kernel)) rfl)) hW.1.2.2.1 hB.1 (sm_D hW.2.1) hB.2 (11 + 3 * i) (11 + 3 * j) 1 1 (by rw [sm_w_at (c1_lt hi), eX_c1 hi]) (by rw [sm_w_at (c1_lt hj4), eX_c1 hj4]) rfl rfl rfl h1.1.1 h2.1.1 h1.1.2 h1.2 h2.2 (fun _ _ => rfl) hD hr hdg (fun H1 locs1 hP _ hS => kk H1 locs1 ⟨?_, hS⟩)
  rw [sm_w_set (E' := eX g ad (uCL σ (11 + 3 * i) (11 + 3 * j) sp.toNatClampNeg dp.toNatClampNeg n.toNatClampNeg))] at hP
  · exact hP
  · intro k _
    by_cases hk : k = 11 + 3 * j
    · subst hk
      rw [if_pos rfl, eX_c1 hj4]
      simp [uCL]
    · rw [if_neg hk]
      exact eX_lay g ad _ _ k rfl (by simp [uCL, hk]) rfl
theorem xc_i (C : CallFix p m c cc nL s args sm_T RX5) (hl : ls.size = nL) (hW : sm_W g 22 ad (eX g ad) s) (hB : sm_B g 22 ad (eX g ad) s H locs σ) {i j : Nat} (hi : i < 4) (hj4 : j < 4) {sp dp n : Int32} (h1 : (¬ sp < 0 ∧ ¬ n < 0) ∧ sp.toNatClampNeg + n.toNatClampNeg ≤ 12) (h2 : (¬ dp < 0 ∧ ¬ n < 0) ∧ dp.toNatClampNeg + n.toNatClampNeg ≤ 12) (hD : 1 ≤ D) (hr : (rest.map fun v => v.category).sum + (nativeFrameWords "java/lang/System" "arraycopy" 5 + 11) ≤ 41 * D) (hdg : decode cc pc = .ok (.invokestatic 141, 3))
    (kk : ∀ (H1 : Heap) (locs1 : List Loc), sm_B g 22 ad (eX g ad) s H1 locs1 (uCI σ (12 + 3 * i) (12 + 3 * j) sp.toNatClampNeg dp.toNatClampNeg n.toNatClampNeg) → W p l e (rmd D) s m args below meth c H1 locs1 cells slots Q (F0 m (pc + 3) ls rest)) : W p l e (rmd D) s m args below meth c H locs cells slots Q (F0 m pc ls (.int n :: .int dp :: .ref (ad (12 + 3 * j)) :: .int sp :: .ref (ad (12 + 3 * i)) :: rest)) := by
  have ht := C.2.2.2.2
  refine va_copyi (ws := sm_w 22 ad (eX g ad σ)) (ty := .int) C.1 C.2.1 (C.2.2.1.trans hl.symm) C.2.2.2.1 (ht _ (sm_in (List.mem_of_getElem? (i := 474) (by decide +kernel)) rfl)) (ht _ (sm_in (List.mem_of_getElem? (i := 476) (by decide +kernel)) rfl)) (ht _ (sm_in (List.mem_of_getElem? (i := 475) (by decide +kernel)) rfl)) (ht _ (sm_in (List.mem_of_getElem? (i := 64) (by decide +kernel)) rfl)) hW.1.2.2.1 hB.1 (sm_D hW.2.1) hB.2 (12 + 3 * i) (12 + 3 * j) 0 0 (by rw [sm_w_at (c2_lt hi), eX_c2 hi]) (by rw [sm_w_at (c2_lt hj4), eX_c2 hj4]) rfl rfl rfl h1.1.1 h2.1.1 h1.1.2 h1.2 h2.2 (fun _ _ => rfl) hD hr hdg (fun H1 locs1 hP _ hS => kk H1 locs1 ⟨?_, hS⟩)
  rw [sm_w_set (E' := eX g ad (uCI σ (12 + 3 * i) (12 + 3 * j) sp.toNatClampNeg dp.toNatClampNeg n.toNatClampNeg))] at hP
  · exact hP
  · intro k _
    by_cases hk : k = 12 + 3 * j
    · subst hk
      rw [if_pos rfl, eX_c2 hj4]
      simp [uCI]
    · rw [if_neg hk]
      exact eX_lay g ad _ _ k (by simp [uCI, hk]) rfl rfl
end SMN3
