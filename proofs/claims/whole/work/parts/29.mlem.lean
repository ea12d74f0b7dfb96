/-! rows on indices in the reference -/
theorem sh_r (a s : Int64) (k : Nat) (hs : (s.toBitVec.smod 64).toNat = k) : (a >>> s).toInt = a.toInt >>> k := by
  rw [← hs]
  exact BitVec.toInt_sshiftRight ..
theorem me_half {v : Int64} (h : ¬ v ≤ 0) : (v >>> (Int32.toInt64 1 &&& 63)).toInt.toNat < v.toInt.toNat := by
  rw [Int64.le_iff_toInt_le] at h
  have h0 : (0 : Int64).toInt = 0 := rfl
  rw [sh_r v _ 1 (by decide), Int.shiftRight_eq_div_pow]
  omega
theorem in_flip {b : Int32} (h : vp_in b 2) : vp_in ((1 : Int32) - b) 2 := by
  rw [vp_in_iff] at h ⊢
  rw [Int32.toInt_sub, show (1 : Int32).toInt = 1 from rfl, Int.bmod_eq_of_le (by omega) (by omega)]
  omega
theorem in_le {i n : Int32} {N : Nat} (h0 : ¬ i < 0) (h : ¬ n < i) (hN : n.toInt < N) : vp_in i N := by
  rw [vp_in_iff]
  rw [Int32.lt_iff_toInt_lt] at h0 h
  have h3 : (0 : Int32).toInt = 0 := rfl
  omega
theorem st_in {σ : sm_S} (hI : invM σ) {h y : Int32} (hh : vp_in h 4) (e : y = σ.1 5 (Int32.toNatClampNeg h)) (h0 : 0 ≤ y) : vp_in y 4 := by
  have h1 := hI.1 _ (in_nat hh)
  rw [← e] at h1
  rw [Int32.le_iff_toInt_le] at h0
  have h3 : (0 : Int32).toInt = 0 := rfl
  rw [vp_in_iff]
  omega
theorem st_inN {σ : sm_S} (hI : invM σ) {h y : Int32} (hh : vp_in h 4) (e : y = σ.1 5 (Int32.toNatClampNeg h)) (h0 : ¬ y < 0) : vp_in y 4 := st_in hI hh e (Int32.not_lt.mp h0)
theorem at_in {s v : Int32} (hs : vp_in s 4) (h0 : 0 ≤ v.toInt) (h1 : v.toInt < 12) : vp_in ((8 : Int32) + s * 12 + v) 56 ∧ ((8 : Int32) + s * 12 + v).toInt = 8 + s.toInt * 12 + v.toInt := by
  rw [vp_in_iff] at hs
  have e1 : (s * 12).toInt = s.toInt * 12 := by
    rw [Int32.toInt_mul, show (12 : Int32).toInt = 12 from rfl]
    apply Int.bmod_eq_of_le <;> omega
  have e2 : ((8 : Int32) + s * 12).toInt = 8 + s.toInt * 12 := by
    rw [Int32.toInt_add, e1, show (8 : Int32).toInt = 8 from rfl]
    apply Int.bmod_eq_of_le <;> omega
  have e3 : ((8 : Int32) + s * 12 + v).toInt = 8 + s.toInt * 12 + v.toInt := by
    rw [Int32.toInt_add, e2]
    apply Int.bmod_eq_of_le <;> omega
  refine ⟨?_, e3⟩
  rw [vp_in_iff, e3]
  omega
theorem ld_in {σ : sm_S} (hI : invM σ) {s : Int32} (hs : vp_in s 4) {b : Int64} (h0 : ¬ b < 0) (h1 : b < Int32.toInt64 (σ.1 7 (Int32.toNatClampNeg s))) : vp_in ((8 : Int32) + s * 12 + Int64.toInt32 b) 56 := by
  have h2 := hI.2 _ (in_nat hs)
  rw [Int64.lt_iff_toInt_lt] at h0
  rw [Int64.lt_iff_toInt_lt, Int32.toInt_toInt64] at h1
  have z : (0 : Int64).toInt = 0 := rfl
  have e : (Int64.toInt32 b).toInt = b.toInt := by
    rw [Int64.toInt_toInt32]
    apply Int.bmod_eq_of_le <;> omega
  exact (at_in hs (by rw [e]; omega) (by rw [e]; omega)).1
theorem ld_inI {σ : sm_S} (hI : invM σ) {s v : Int32} (hs : vp_in s 4) (h0 : ¬ v < 0) (h1 : v < σ.1 7 (Int32.toNatClampNeg s)) : vp_in ((8 : Int32) + s * 12 + v) 56 := by
  have h2 := hI.2 _ (in_nat hs)
  rw [Int32.lt_iff_toInt_lt] at h0 h1
  have z : (0 : Int32).toInt = 0 := rfl
  exact (at_in hs (by omega) (by omega)).1
theorem ar_in {s v : Int32} (hs : vp_in s 4) (h0 : ¬ v < 0) (h1 : ¬ 12 ≤ v) : vp_in ((8 : Int32) + s * 12 + v) 56 := by
  rw [Int32.lt_iff_toInt_lt] at h0
  rw [Int32.le_iff_toInt_le] at h1
  have z : (0 : Int32).toInt = 0 := rfl
  have z2 : (12 : Int32).toInt = 12 := rfl
  exact (at_in hs (by omega) (by omega)).1
theorem add64 (p n : Int32) : (Int32.toInt64 p + Int32.toInt64 n).toInt = p.toInt + n.toInt := by
  have h1 := Int32.toInt_lt p
  have h2 := Int32.le_toInt p
  have h3 := Int32.toInt_lt n
  have h4 := Int32.le_toInt n
  rw [Int64.toInt_add, Int32.toInt_toInt64, Int32.toInt_toInt64]
  apply Int.bmod_eq_of_le <;> omega
theorem cp_in2 {σ : sm_S} (hI : invM σ) {s p n k : Int32} (hs : vp_in s 4) (hn : ¬ n < 0) (hp : ¬ p < 0) (h : Int32.toInt64 p + Int32.toInt64 n ≤ Int32.toInt64 (σ.1 7 (Int32.toNatClampNeg s))) (k0 : ¬ k < 0) (k1 : ¬ n ≤ k) : vp_in k 12 ∧ vp_in ((2 : Int32) * k) 24 ∧ vp_in ((2 : Int32) * k + 1) 24 ∧ vp_in ((8 : Int32) + s * 12 + p + k) 56 := by
  have h2 := hI.2 _ (in_nat hs)
  rw [Int64.le_iff_toInt_le, Int32.toInt_toInt64, add64] at h
  rw [Int32.lt_iff_toInt_lt] at hn hp k0
  rw [Int32.le_iff_toInt_le] at k1
  have z : (0 : Int32).toInt = 0 := rfl
  have e1 : ((2 : Int32) * k).toInt = 2 * k.toInt := by
    rw [Int32.toInt_mul, show (2 : Int32).toInt = 2 from rfl]
    apply Int.bmod_eq_of_le <;> omega
  have e2 : ((2 : Int32) * k + 1).toInt = 2 * k.toInt + 1 := by
    rw [Int32.toInt_add, e1, show (1 : Int32).toInt = 1 from rfl]
    apply Int.bmod_eq_of_le <;> omega
  have e3 := (at_in hs (v := p) (by omega) (by omega)).2
  have hs2 := vp_in_iff.mp hs
  have e4 : ((8 : Int32) + s * 12 + p + k).toInt = 8 + s.toInt * 12 + p.toInt + k.toInt := by
    rw [Int32.toInt_add, e3]
    apply Int.bmod_eq_of_le <;> omega
  refine ⟨?_, ?_, ?_, ?_⟩
  · rw [vp_in_iff]; omega
  · rw [vp_in_iff, e1]; omega
  · rw [vp_in_iff, e2]; omega
  · rw [vp_in_iff, e4]; omega
theorem cp_in {σ : sm_S} (hI : invM σ) {s p n k : Int32} (hs : vp_in s 4) (hn : ¬ n < 0) (hp : ¬ p < 0) (h : ¬ Int32.toInt64 (σ.1 7 (Int32.toNatClampNeg s)) < Int32.toInt64 p + Int32.toInt64 n) (k0 : ¬ k < 0) (k1 : ¬ n ≤ k) : vp_in k 12 ∧ vp_in ((2 : Int32) * k) 24 ∧ vp_in ((2 : Int32) * k + 1) 24 ∧ vp_in ((8 : Int32) + s * 12 + p + k) 56 :=
  cp_in2 hI hs hn hp (Int64.not_lt.mp h) k0 k1
/-- the reference's search for a free place: s places are taken, one array is null -/
def arrI (σ : sm_S) (s : Int32) : Prop := (0 ≤ s.toInt ∧ s.toInt ≤ 3) ∧ (∀ j : Int, 0 ≤ j → j < s.toInt → ∃ k : Nat, k < 4 ∧ (σ.1 5 k).toInt = j) ∧ ∃ h : Nat, h < 4 ∧ (σ.1 5 h).toInt < 0
theorem arrI_in {σ : sm_S} {s : Int32} (h : arrI σ s) : vp_in s 4 := by
  rw [vp_in_iff]
  have := h.1
  omega
theorem arrI_lt {σ : sm_S} {s : Int32} (h : arrI σ s) : ¬ 4 ≤ s := by
  rw [Int32.le_iff_toInt_le]
  have z : (4 : Int32).toInt = 4 := rfl
  have := h.1
  omega
theorem arrI_0 {σ : sm_S} {h : Int32} (hh : vp_in h 4) : arrI (uI σ 5 (Int32.toNatClampNeg h) (-1)) 0 := by
  refine ⟨⟨by decide, by decide⟩, fun j h1 h2 => ?_, ⟨Int32.toNatClampNeg h, in_nat hh, ?_⟩⟩
  · have z : (0 : Int32).toInt = 0 := rfl
    omega
  · simp [uI, upd]
theorem arrI_s {σ : sm_S} {s : Int32} (h : arrI σ s) (hd : σ.1 5 (Int32.toNatClampNeg 0) = s ∨ σ.1 5 (Int32.toNatClampNeg 1) = s ∨ σ.1 5 (Int32.toNatClampNeg 2) = s ∨ σ.1 5 (Int32.toNatClampNeg 3) = s) : arrI σ (s + 1) := by
  obtain ⟨⟨a1, a2⟩, a3, ⟨q, q1, q2⟩⟩ := h
  have hk : ∃ k : Nat, k < 4 ∧ (σ.1 5 k).toInt = s.toInt := by
    rcases hd with e | e | e | e
    · exact ⟨0, by decide, by rw [← e]; rfl⟩
    · exact ⟨1, by decide, by rw [← e]; rfl⟩
    · exact ⟨2, by decide, by rw [← e]; rfl⟩
    · exact ⟨3, by decide, by rw [← e]; rfl⟩
  have e1 : (s + 1).toInt = s.toInt + 1 := by
    rw [Int32.toInt_add, show (1 : Int32).toInt = 1 from rfl]
    apply Int.bmod_eq_of_le <;> omega
  have hall : ∀ j : Int, 0 ≤ j → j < s.toInt + 1 → ∃ k : Nat, k < 4 ∧ (σ.1 5 k).toInt = j := by
    intro j h1 h2
    by_cases hj : j = s.toInt
    · rw [hj]; exact hk
    · exact a3 j h1 (by omega)
  refine ⟨⟨by omega, ?_⟩, by rw [e1]; exact hall, ⟨q, q1, q2⟩⟩
  rw [e1]
  by_cases h3 : s.toInt = 3
  · exfalso
    obtain ⟨k0, b0, d0⟩ := hall 0 (by omega) (by omega)
    obtain ⟨k1, b1, d1⟩ := hall 1 (by omega) (by omega)
    obtain ⟨k2, b2, d2⟩ := hall 2 (by omega) (by omega)
    obtain ⟨k3, b3, d3⟩ := hall 3 (by omega) (by omega)
    have n0 : q ≠ k0 := fun e => by rw [e] at q2; omega
    have n1 : q ≠ k1 := fun e => by rw [e] at q2; omega
    have n2 : q ≠ k2 := fun e => by rw [e] at q2; omega
    have n3 : q ≠ k3 := fun e => by rw [e] at q2; omega
    have m01 : k0 ≠ k1 := fun e => by rw [e] at d0; omega
    have m02 : k0 ≠ k2 := fun e => by rw [e] at d0; omega
    have m03 : k0 ≠ k3 := fun e => by rw [e] at d0; omega
    have m12 : k1 ≠ k2 := fun e => by rw [e] at d1; omega
    have m13 : k1 ≠ k3 := fun e => by rw [e] at d1; omega
    have m23 : k2 ≠ k3 := fun e => by rw [e] at d2; omega
    omega
  · omega
