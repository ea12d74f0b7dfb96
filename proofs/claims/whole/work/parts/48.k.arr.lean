/-! arrays -/
/-- only the cells of the array that is c here and s there, and which array h0 is, have changed -/
theorem Rel.arr {σ τ σ' τ' : sm_S} {h0 c s : Nat} (h : Rel σ τ) (hc : c < 4) (hs : s < 4) (a : ∀ x, x ≠ 10 + 3 * c → x ≠ 12 + 3 * c → σ'.1 x = σ.1 x) (b : ∀ x, x ≠ 11 + 3 * c → σ'.2.1 x = σ.2.1 x) (d : ∀ x, x ≠ 2 → x ≠ 4 → x ≠ 5 → x ≠ 6 → x ≠ 7 → x < 13 → τ'.1 x = τ.1 x) (e : ∀ j, (j < 8 + 12 * s ∨ 20 + 12 * s ≤ j) → τ'.2.1 3 j = τ.2.1 3 j ∧ τ'.1 2 j = τ.1 2 j ∧ τ'.1 4 j = τ.1 4 j) (f : ∀ j, j ≠ s → τ'.1 6 j = τ.1 6 j ∧ τ'.1 7 j = τ.1 7 j) (p : ∀ j, σ'.2.2 j = if j = h0 then some c else σ.2.2 j) (q : ∀ j, τ'.1 5 j = if j = h0 then nI s else τ.1 5 j) (u : ∀ g, g < 4 → g ≠ h0 → (σ.2.2 g = some c ↔ τ.1 5 g = nI s)) (sz : 0 ≤ (σ'.1 (10 + 3 * c) 1).toInt ∧ (σ'.1 (10 + 3 * c) 1).toInt ≤ 12) (cr : CR σ' τ' c s) : Rel σ' τ' := by
  have other : ∀ c2 s2, c2 ≠ c → s2 ≠ s → c2 < 4 → s2 < 4 → CR σ τ c2 s2 → CR σ' τ' c2 s2 := by
    intro c2 s2 n1 n2 l1 l2 hcr
    exact hcr.cg (fun j => by rw [a _ (by omega) (by omega)]) (fun k _ => ⟨by rw [b _ (by omega)], by rw [a _ (by omega) (by omega)]⟩) (f s2 n2).1 (f s2 n2).2 (fun k _ => e _ (by omega))
  have a0 := fun x (hx : x < 10) => a x (by omega) (by omega)
  have d0 := d 0 (by decide) (by decide) (by decide) (by decide) (by decide) (by decide)
  have d1 := d 1 (by decide) (by decide) (by decide) (by decide) (by decide) (by decide)
  have d8 := d 8 (by decide) (by decide) (by decide) (by decide) (by decide) (by decide)
  have d9 := d 9 (by decide) (by decide) (by decide) (by decide) (by decide) (by decide)
  have d10 := d 10 (by decide) (by decide) (by decide) (by decide) (by decide) (by decide)
  have d11 := d 11 (by decide) (by decide) (by decide) (by decide) (by decide) (by decide)
  have d12 := d 12 (by decide) (by decide) (by decide) (by decide) (by decide) (by decide)
  have hh : ∀ g, g < 4 → AH σ' τ' g := by
    intro g hg
    by_cases gh : g = h0
    · exact Or.inr ⟨c, s, hc, hs, by rw [p, if_pos gh], by rw [q, if_pos gh], cr⟩
    · have hu := u g hg gh
      rcases h.ar g hg with ⟨q1, q2⟩ | ⟨c2, s2, q1, q2, q3, q4, q5⟩
      · exact Or.inl ⟨by rw [p, if_neg gh]; exact q1, by rw [q, if_neg gh]; exact q2⟩
      · refine Or.inr ⟨c2, s2, q1, q2, by rw [p, if_neg gh]; exact q3, by rw [q, if_neg gh]; exact q4, ?_⟩
        rw [q3, q4] at hu
        by_cases cc : c2 = c
        · have : s2 = s := (nI_eq (by omega) (by omega)).mp (hu.mp (by rw [cc]))
          subst cc this
          exact cr
        · have : s2 ≠ s := fun z => cc (Option.some.inj (hu.mpr (by rw [z])))
          exact other c2 s2 cc this q1 q2 q5
  refine ⟨⟨?_, ?_⟩, ⟨?_, ?_⟩, ?_, hh, ?_, ?_, ?_, ?_, ?_, ?_⟩
  · intro g i hi
    rw [p] at hi
    by_cases gh : g = h0
    · rw [if_pos gh] at hi
      have := Option.some.inj hi
      omega
    · rw [if_neg gh] at hi
      exact h.ix.1 g i hi
  · intro i hi
    by_cases ic : i = c
    · subst ic
      exact sz
    · rw [a _ (by omega) (by omega)]
      exact h.ix.2 i hi
  · intro g hg
    rw [q]
    by_cases gh : g = h0
    · rw [if_pos gh, nI_tI (by omega)]
      omega
    · rw [if_neg gh]
      exact h.im.1 g hg
  · intro i hi
    by_cases is : i = s
    · subst is
      rw [← cr.2.1]
      exact sz
    · rw [(f i is).2]
      exact h.im.2 i hi
  · intro r hr
    rw [a0 1 (by decide), a0 3 (by decide), b 2 (by omega), d1, (e r (by omega)).1, (e r (by omega)).2.1, (e r (by omega)).2.2]
    exact h.rg r hr
  · intro x y hx hy
    rw [p, p, q, q]
    by_cases xh : x = h0
    · by_cases yh : y = h0
      · rw [if_pos xh, if_pos yh, if_pos xh, if_pos yh]
        exact ⟨fun _ => rfl, fun _ => rfl⟩
      · rw [if_pos xh, if_neg yh, if_pos xh, if_neg yh]
        have := u y hy yh
        exact ⟨fun z => (this.mp z.symm).symm, fun z => (this.mpr z.symm).symm⟩
    · by_cases yh : y = h0
      · rw [if_neg xh, if_pos yh, if_neg xh, if_pos yh]
        exact u x hx xh
      · rw [if_neg xh, if_neg yh, if_neg xh, if_neg yh]
        exact h.aj x y hx hy
  · rw [a0 0 (by decide), d0]; exact h.ex
  · rw [a0 6 (by decide), d0]; exact h.pc
  · rw [a0 8 (by decide), d0]; exact h.wc
  · intro k hk
    rw [a0 6 (by decide), a0 7 (by decide), d8, d9]
    exact h.pn k hk
  · intro k hk
    rw [a0 8 (by decide), a0 9 (by decide), d10, d11, d12]
    exact h.wn k hk
theorem uR_12 (σ : sm_S) (h : Nat) (q : Option Nat) : (uR σ h q).1 = σ.1 ∧ (uR σ h q).2.1 = σ.2.1 := ⟨rfl, rfl⟩
theorem uR_3 (σ : sm_S) (h : Nat) (q : Option Nat) (j : Nat) : (uR σ h q).2.2 j = if j = h then q else σ.2.2 j := rfl
/-- an array is given up -/
theorem Rel.none {σ τ : sm_S} {h0 : Nat} (h : Rel σ τ) : Rel (uR σ h0 none) (uI τ 5 h0 (-1)) := by
  have b : ∀ y, y ≠ 5 → (uI τ 5 h0 (-1)).1 y = τ.1 y := fun y hy => by funext j; rw [uI_1, if_neg (by omega)]
  have b5 : ∀ j, (uI τ 5 h0 (-1)).1 5 j = if j = h0 then -1 else τ.1 5 j := fun j => by rw [uI_1]; simp
  refine ⟨⟨?_, h.ix.2⟩, ⟨?_, ?_⟩, ?_, ?_, ?_, ?_, ?_, ?_, ?_, ?_⟩
  · intro g i hi
    rw [uR_3] at hi
    by_cases gh : g = h0
    · rw [if_pos gh] at hi
      cases hi
    · rw [if_neg gh] at hi
      exact h.ix.1 g i hi
  · intro g hg
    rw [b5]
    by_cases gh : g = h0
    · rw [if_pos gh]
      decide
    · rw [if_neg gh]
      exact h.im.1 g hg
  · rw [b 7 (by decide)]
    exact h.im.2
  · intro r hr
    rw [b 1 (by decide), b 2 (by decide), b 4 (by decide)]
    exact h.rg r hr
  · intro g hg
    by_cases gh : g = h0
    · exact Or.inl ⟨by rw [uR_3, if_pos gh], by rw [b5, if_pos gh]⟩
    · rcases h.ar g hg with ⟨q1, q2⟩ | ⟨c2, s2, q1, q2, q3, q4, q5⟩
      · exact Or.inl ⟨by rw [uR_3, if_neg gh]; exact q1, by rw [b5, if_neg gh]; exact q2⟩
      · exact Or.inr ⟨c2, s2, q1, q2, by rw [uR_3, if_neg gh]; exact q3, by rw [b5, if_neg gh]; exact q4, q5.cg (fun _ => rfl) (fun _ _ => ⟨rfl, rfl⟩) (by rw [b 6 (by decide)]) (by rw [b 7 (by decide)]) (fun k _ => ⟨rfl, by rw [b 2 (by decide)], by rw [b 4 (by decide)]⟩)⟩
  · have nn : ∀ y, y < 4 → (Option.none = σ.2.2 y ↔ -1 = τ.1 5 y) := by
      intro y hy
      rcases h.ar y hy with ⟨q1, q2⟩ | ⟨c2, s2, q1, q2, q3, q4, q5⟩
      · rw [q1, q2]
        exact ⟨fun _ => rfl, fun _ => rfl⟩
      · rw [q3, q4]
        constructor
        · intro z; cases z
        · intro z
          have := congrArg Int32.toInt z
          rw [nI_tI (by omega)] at this
          have e : (-1 : Int32).toInt = -1 := rfl
          omega
    intro x y hx hy
    rw [uR_3, uR_3, b5, b5]
    by_cases xh : x = h0
    · by_cases yh : y = h0
      · rw [if_pos xh, if_pos yh, if_pos xh, if_pos yh]
        exact ⟨fun _ => rfl, fun _ => rfl⟩
      · rw [if_pos xh, if_neg yh, if_pos xh, if_neg yh]
        exact nn y hy
    · by_cases yh : y = h0
      · rw [if_neg xh, if_pos yh, if_neg xh, if_pos yh]
        have := nn x hx
        exact ⟨fun z => (this.mp z.symm).symm, fun z => (this.mpr z.symm).symm⟩
      · rw [if_neg xh, if_neg yh, if_neg xh, if_neg yh]
        exact h.aj x y hx hy
  · rw [b 0 (by decide)]; exact h.ex
  · rw [b 0 (by decide)]; exact h.pc
  · rw [b 0 (by decide)]; exact h.wc
  · intro k hk
    rw [b 8 (by decide), b 9 (by decide)]
    exact h.pn k hk
  · intro k hk
    rw [b 10 (by decide), b 11 (by decide), b 12 (by decide)]
    exact h.wn k hk
theorem st_drop {σ τ : sm_S} (h : Rel σ τ) (x1 : Int32) : (f_X5_drop σ x1).1 = (f_X6_drop τ x1).1 ∧ Rel (f_X5_drop σ x1).2 (f_X6_drop τ x1).2 := by
  unfold f_X5_drop f_X6_drop
  by_cases c1 : inR x1 4
  · rw [if_neg (pX4 c1), if_pos (pM4 c1)]
    exact ⟨rfl, h.none⟩
  · rw [if_pos (nX4 c1), if_neg (nM4 c1)]
    exact ⟨rfl, h⟩
theorem st_share {σ τ : sm_S} (h : Rel σ τ) (x1 : Int32) (x2 : Int32) : (f_X5_share σ x1 x2).1 = (f_X6_share τ x1 x2).1 ∧ Rel (f_X5_share σ x1 x2).2 (f_X6_share τ x1 x2).2 := by
  unfold f_X5_share f_X6_share
  by_cases c1 : inR x1 4
  · by_cases c2 : inR x2 4
    · rw [if_neg (pX4 c1), if_neg (pX4 c2), if_pos (pM4 c1), if_pos (pM4 c2)]
      obtain ⟨r, hr, rfl⟩ := c1
      obtain ⟨p, hp, rfl⟩ := c2
      rw [nI_cl (show r < 2 ^ 31 by omega), nI_cl (show p < 2 ^ 31 by omega)]
      rcases h.ar p hp with ⟨q1, q2⟩ | ⟨c, s, q1, q2, q3, q4, q5⟩
      · rw [oc_n q1, q2]
        exact ⟨rfl, h.none⟩
      · rw [oc_s q3, q4]
        have b : ∀ y, y ≠ 5 → (uI τ 5 r (nI s)).1 y = τ.1 y := fun y hy => by funext j; rw [uI_1, if_neg (by omega)]
        refine ⟨rfl, h.arr (h0 := r) q1 q2 (fun _ _ _ => rfl) (fun _ _ => rfl) (fun x _ _ h5 _ _ _ => b x h5) (fun j _ => ⟨rfl, by rw [b 2 (by decide)], by rw [b 4 (by decide)]⟩) (fun j _ => ⟨by rw [b 6 (by decide)], by rw [b 7 (by decide)]⟩) (fun j => uR_3 _ _ _ j) (fun j => by rw [uI_1]; simp) ?_ (h.ix.2 c q1) (q5.cg (fun _ => rfl) (fun _ _ => ⟨rfl, rfl⟩) (by rw [b 6 (by decide)]) (by rw [b 7 (by decide)]) (fun k _ => ⟨rfl, by rw [b 2 (by decide)], by rw [b 4 (by decide)]⟩))⟩
        intro g hg _
        have := h.aj g p hg hp
        rw [q3, q4] at this
        exact this
    · rw [if_neg (pX4 c1), if_pos (nX4 c2), if_pos (pM4 c1), if_neg (nM4 c2)]
      exact ⟨rfl, h⟩
  · rw [if_pos (nX4 c1), if_neg (nM4 c1)]
    exact ⟨rfl, h⟩
/-! cells -/
theorem at_eq {s : Nat} {v : Int32} {k : Nat} (hs : s < 4) (hk : k < 12) (hv : v = nI k) : (((8 : Int32) + nI s * 12) + v).toNatClampNeg = 8 + 12 * s + k := by
  have e : ∀ a b : Nat, nI a * nI b = nI (a * b) := fun a b => (Int32.ofNat_mul a b).symm
  rw [hv, show (12 : Int32) = nI 12 from rfl, show (8 : Int32) = nI 8 from rfl, e, nI_add, nI_add, nI_cl (by omega)]
  omega
theorem st_cell {σ τ : sm_S} (h : Rel σ τ) (x1 : Int32) (x2 : Int32) (x3 : Int32) : f_X5_cell σ x1 x2 x3 = f_X6_cell τ x1 x2 x3 := by
  unfold f_X5_cell f_X6_cell
  simp only [sm_le]
  by_cases c1 : inR x1 4
  · rw [if_neg (pX4 c1), if_pos (pM4 c1)]
    obtain ⟨r, hr, rfl⟩ := c1
    rw [nI_cl (show r < 2 ^ 31 by omega)]
    rcases (h.ar r hr).neg with ⟨c, s, q1, q2, q3, q4, q5, q6⟩ | ⟨q1, q2, q3⟩
    · rw [oc_s q3, if_pos q6, q4, nI_cl (show s < 2 ^ 31 by omega), q5.1, q5.2.1]
      have hsz := h.im.2 s q2
      by_cases c3 : inR x3 3
      · rw [if_pos (pM3 c3)]
        by_cases x2c : x3 = 2
        · rw [if_pos x2c, if_pos x2c]
        · rw [if_neg x2c, if_neg x2c]
          have hlo : (f_X5_isBelow x2.toInt64 (τ.1 7 s) = 0) = ¬ (0 ≤ x2.toInt ∧ x2.toInt < (τ.1 7 s).toInt) := by
            have e : τ.1 7 s = nI (τ.1 7 s).toInt.toNat := by
              have := iZ_of (τ.1 7 s)
              rw [iZ_nI]
              rw [this]
              congr 1
              rw [← this]
              omega
            have := gX x2 (N := (τ.1 7 s).toInt.toNat) (by omega)
            rw [← e, inR_t (by omega)] at this
            rw [this]
            apply propext
            omega
          by_cases d : 0 ≤ x2.toInt ∧ x2.toInt < (τ.1 7 s).toInt
          · rw [if_neg (show ¬ f_X5_isBelow x2.toInt64 (τ.1 7 s) = 0 by rw [hlo]; exact fun z => z d), if_neg (show ¬ x2 < 0 from fun z => by have := Int32.lt_iff_toInt_lt.mp z; have e : (0 : Int32).toInt = 0 := rfl; omega), if_pos (show x2 < τ.1 7 s from Int32.lt_iff_toInt_lt.mpr d.2)]
            have c32 : inR x3 2 := by
              obtain ⟨w, hw, rfl⟩ := c3
              refine ⟨w, ?_, rfl⟩
              apply Nat.lt_of_le_of_ne (by omega)
              intro z
              exact x2c (by rw [z]; rfl)
            rw [if_neg (pX2 c32)]
            obtain ⟨k, hk, rfl⟩ := (inR_t (x := x2) (N := 12) (by decide)).mpr (by omega)
            obtain ⟨v1, v2, v3⟩ := q5.2.2.2 k hk
            rw [at_eq q2 hk rfl, nI_cl (show k < 2 ^ 31 by omega), v1, v3.told]
            by_cases z : x3 = 0
            · rw [if_pos z, if_pos z]
            · rw [if_neg z, if_neg z]
              split <;> rfl
          · rw [if_pos (show f_X5_isBelow x2.toInt64 (τ.1 7 s) = 0 by rw [hlo]; exact d)]
            by_cases z : x2 < 0
            · rw [if_pos z]
            · rw [if_neg z, if_neg]
              intro z2
              rw [Int32.lt_iff_toInt_lt] at z z2
              have e : (0 : Int32).toInt = 0 := rfl
              omega
      · rw [if_neg (nM3 c3), if_neg (show ¬ x3 = 2 from fun z => c3 ⟨2, by decide, z⟩)]
        have c32 : ¬ inR x3 2 := by
          rintro ⟨w, hw, hx⟩
          exact c3 ⟨w, by omega, hx⟩
        rw [if_pos (nX2 c32)]
        split <;> rfl
    · rw [oc_n q1, if_neg q3]
      split <;> rfl
  · rw [if_pos (nX4 c1), if_neg (nM4 c1)]
