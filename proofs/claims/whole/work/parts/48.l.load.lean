/-! loading and storing -/
theorem s8 {s : Int32} (h : 0 ≤ s.toInt ∧ s.toInt ≤ 7) : s = 0 ∨ s = 1 ∨ s = 2 ∨ s = 3 ∨ s = 4 ∨ s = 5 ∨ s = 6 ∨ s = 7 := by
  have h3 : s.toInt = 0 ∨ s.toInt = 1 ∨ s.toInt = 2 ∨ s.toInt = 3 ∨ s.toInt = 4 ∨ s.toInt = 5 ∨ s.toInt = 6 ∨ s.toInt = 7 := by omega
  rcases h3 with q | q | q | q | q | q | q | q <;> (rw [iZ_of s, q]; decide)
theorem kt_eq {s : Int32} (h : 0 ≤ s.toInt ∧ s.toInt ≤ 7) : (if 4 ≤ s then s - 4 else 0) = f_X6_kindOf s := by
  rcases s8 h with rfl | rfl | rfl | rfl | rfl | rfl | rfl | rfl <;> decide
theorem kt_kv {s : Int32} {v : Int64} (h : 0 ≤ s.toInt ∧ s.toInt ≤ 7) (hk : KS s v) : KV (f_X6_kindOf s) v := by
  rcases s8 h with rfl | rfl | rfl | rfl | rfl | rfl | rfl | rfl
  · exact kv_01 (Or.inl rfl)
  · exact kv_01 (Or.inl rfl)
  · exact kv_01 (Or.inl rfl)
  · exact kv_01 (Or.inl rfl)
  · exact kv_01 (Or.inl rfl)
  · exact kv_01 (Or.inr rfl)
  · exact ⟨Or.inr (Or.inr (Or.inl rfl)), fun _ => hk.1 rfl, fun q => absurd q (by decide)⟩
  · exact ⟨Or.inr (Or.inr (Or.inr rfl)), fun q => absurd q (by decide), fun _ => hk.2 rfl⟩
theorem Rel.cr {σ τ : sm_S} {p c s : Nat} (h : Rel σ τ) (hp : p < 4) (h1 : σ.2.2 p = some c) (h2 : τ.1 5 p = nI s) (hs : s < 4) : CR σ τ c s := by
  rcases h.ar p hp with ⟨q1, q2⟩ | ⟨c2, s2, q1, q2, q3, q4, q5⟩
  · rw [q1] at h1
    cases h1
  · rw [q3] at h1
    rw [q4] at h2
    have e1 := Option.some.inj h1
    have e2 := (nI_eq (by omega) (by omega)).mp h2
    rw [← e1, ← e2]
    exact q5
/-- an index that fits, or not -/
theorem idx {v : Int64} {n : Int32} (hn : 0 ≤ n.toInt ∧ n.toInt ≤ 12) : (∃ k : Nat, k < 12 ∧ (k : Int) < n.toInt ∧ v = lN k ∧ ¬ f_X5_isBelow v n = 0 ∧ ¬ v < 0 ∧ v < n.toInt64 ∧ v.toInt32 = nI k) ∨ (f_X5_isBelow v n = 0 ∧ (v < 0 ∨ (¬ v < 0 ∧ ¬ v < n.toInt64))) := by
  have z : (0 : Int64).toInt = 0 := rfl
  have e : n.toInt64.toInt = n.toInt := Int32.toInt_toInt64 n
  unfold f_X5_isBelow
  by_cases a : v.toInt < 0
  · have a2 : v < 0 := by rw [Int64.lt_iff_toInt_lt, z]; exact a
    exact Or.inr ⟨if_pos a2, Or.inl a2⟩
  · have a2 : ¬ v < 0 := by rw [Int64.lt_iff_toInt_lt, z]; exact a
    by_cases b : v.toInt < n.toInt
    · have b2 : v < n.toInt64 := by rw [Int64.lt_iff_toInt_lt, e]; exact b
      have b3 : ¬ n.toInt64 ≤ v := by rw [Int64.le_iff_toInt_le, e]; omega
      have hv : v = lN v.toInt.toNat := by
        apply Int64.toInt_inj.mp
        rw [n_t (by omega)]
        omega
      refine Or.inl ⟨v.toInt.toNat, by omega, by omega, hv, ?_, a2, b2, ?_⟩
      · rw [if_neg a2, if_neg b3]
        decide
      · conv => lhs; rw [hv]
        exact lN_i _
    · have b2 : ¬ v < n.toInt64 := by rw [Int64.lt_iff_toInt_lt, e]; exact b
      have b3 : n.toInt64 ≤ v := by rw [Int64.le_iff_toInt_le, e]; omega
      refine Or.inr ⟨?_, Or.inr ⟨a2, b2⟩⟩
      rw [if_neg a2, if_pos b3]
theorem st_load {σ τ : sm_S} (h : Rel σ τ) (x1 : Int32) (x2 : Int32) (x3 : Int32) : (f_X5_load σ x1 x2 x3).1 = (f_X6_load τ x1 x2 x3).1 ∧ Rel (f_X5_load σ x1 x2 x3).2 (f_X6_load τ x1 x2 x3).2 := by
  unfold f_X5_load f_X6_load f_X6_load_89
  simp only [sm_le]
  by_cases c1 : inR x1 8
  · by_cases c2 : inR x2 4
    · by_cases c3 : inR x3 8
      · by_cases c4 : σ.1 1 x3.toNatClampNeg = 0
        · rw [if_neg (pX8 c1), if_neg (pX4 c2), if_neg (pI c3 c4), if_pos (pM8 c1), if_pos (pM4 c2), if_pos (pM8 c3)]
          obtain ⟨r, hr, rfl⟩ := c1
          obtain ⟨p, hp, rfl⟩ := c2
          obtain ⟨i, hi, rfl⟩ := c3
          rw [nI_cl (show i < 2 ^ 31 by omega)] at c4
          rw [nI_cl (show r < 2 ^ 31 by omega), nI_cl (show p < 2 ^ 31 by omega), nI_cl (show i < 2 ^ 31 by omega)]
          obtain ⟨g1, g2, g3, g4⟩ := h.rg i hi
          rw [if_pos (show τ.1 1 i = 0 by rw [← g1]; exact c4)]
          rcases (h.ar p hp).neg with ⟨c, s, q1, q2, q3, q4, q5, q6⟩ | ⟨q1, q2, q3⟩
          · rw [oc_s q3, if_pos q6, q4, nI_cl (show s < 2 ^ 31 by omega), q5.2.1, g2]
            rcases idx (v := τ.2.1 3 i) (h.im.2 s q2) with ⟨k, hk, hk2, hv, i1, i2, i3, i4⟩ | ⟨i1, i2⟩
            · rw [if_neg i1, if_neg i2, if_pos i3, i4, at_eq q2 hk rfl, nI_cl (show k < 2 ^ 31 by omega)]
              obtain ⟨hR, f1, f2, f3, f4, f5, f6, f7⟩ := h.fix hi 41
              have cr := hR.cr hp (c := c) (s := s) (by rw [f1]; exact q3) (by rw [f4 5 (by decide) (by decide) (by decide) (by decide) (by decide)]; exact q4) q2
              generalize f_X5_giveUp σ (nI i) 41 = u at hR cr ⊢
              generalize f_X6_fix τ (nI i) 41 = v at hR cr ⊢
              obtain ⟨v1, v2, v3⟩ := cr.2.2.2 k hk
              have ek : f_X0_kindTaken c u = f_X6_kindOf (v.1 6 s) := by
                unfold f_X0_kindTaken
                rw [cr.1]
                exact kt_eq cr.2.2.1
              rw [put_eq, nI_cl (show r < 2 ^ 31 by omega), ek, v1]
              have e3 : ∀ z, (uI v 1 r z).2.1 3 (8 + 12 * s + k) = v.2.1 3 (8 + 12 * s + k) := fun z => rfl
              have e2 : ∀ z, (uI v 1 r z).1 2 (8 + 12 * s + k) = v.1 2 (8 + 12 * s + k) := fun z => by rw [uI_1, if_neg (by omega)]
              have e4 : ∀ z, (uI v 1 r z).1 4 (8 + 12 * s + k) = v.1 4 (8 + 12 * s + k) := fun z => by rw [uI_1, if_neg (by omega)]
              rw [e3, e2, e4]
              exact ⟨rfl, hR.put hr (kt_kv cr.2.2.1 v2) v3.keep (sq.rf _)⟩
            · rw [if_pos i1]
              rcases i2 with i2 | ⟨i2, i3⟩
              · rw [if_pos i2]
                exact h.fail _
              · rw [if_neg i2, if_neg i3]
                exact h.fail _
          · rw [oc_n q1, if_neg q3]
            exact h.fail _
        · rw [if_neg (pX8 c1), if_neg (pX4 c2), if_pos (nI2 c3 c4), if_pos (pM8 c1), if_pos (pM4 c2), if_pos (pM8 c3)]
          obtain ⟨i, hi, rfl⟩ := c3
          rw [nI_cl (show i < 2 ^ 31 by omega), (h.rg i hi).1] at c4
          rw [nI_cl (show i < 2 ^ 31 by omega), if_neg c4]
          exact ⟨rfl, h⟩
      · rw [if_neg (pX8 c1), if_neg (pX4 c2), if_pos (nI1 c3), if_pos (pM8 c1), if_pos (pM4 c2), if_neg (nM8 c3)]
        exact ⟨rfl, h⟩
    · rw [if_neg (pX8 c1), if_pos (nX4 c2), if_pos (pM8 c1), if_neg (nM4 c2)]
      exact ⟨rfl, h⟩
  · rw [if_pos (nX8 c1), if_neg (nM8 c1)]
    exact ⟨rfl, h⟩
theorem st_sto {s : Int32} (v : Int64) (c : Nat) (σ : sm_S) (hs : σ.1 (10 + 3 * c) 0 = s) : f_X0_narrowed c σ v = f_X6_stored s v := by
  unfold f_X0_narrowed f_X6_stored
  rw [hs]
theorem ks_sto {s k : Int32} {v : Int64} (h : 0 ≤ s.toInt ∧ s.toInt ≤ 7) (hk : KV k v) (e : k = f_X6_kindOf s) : KS s (f_X6_stored s v) := by
  subst e
  constructor
  · rintro rfl
    exact hk.2.1 (by decide)
  · rintro rfl
    exact hk.2.2 (by decide)
theorem st_store {σ τ : sm_S} (h : Rel σ τ) (x1 : Int32) (x2 : Int32) (x3 : Int32) : (f_X5_store σ x1 x2 x3).1 = (f_X6_store τ x1 x2 x3).1 ∧ Rel (f_X5_store σ x1 x2 x3).2 (f_X6_store τ x1 x2 x3).2 := by
  unfold f_X5_store f_X6_store f_X6_store_116 f_X6_store_187 f_X6_store_188
  simp only [sm_le]
  by_cases c1 : inR x1 4
  · by_cases c3 : inR x2 8
    · by_cases c2 : inR x3 8
      · by_cases c4 : σ.1 1 x2.toNatClampNeg = 0
        · rw [if_neg (pX4 c1), if_neg (pI c3 c4), if_neg (pX8 c2), if_pos (pM4 c1), if_pos (pM8 c3), if_pos (pM8 c2)]
          obtain ⟨p, hp, rfl⟩ := c1
          obtain ⟨i, hi, rfl⟩ := c3
          obtain ⟨r, hr, rfl⟩ := c2
          rw [nI_cl (show i < 2 ^ 31 by omega)] at c4
          rw [nI_cl (show r < 2 ^ 31 by omega), nI_cl (show p < 2 ^ 31 by omega), nI_cl (show i < 2 ^ 31 by omega)]
          obtain ⟨g1, g2, g3, g4⟩ := h.rg i hi
          obtain ⟨r1, r2, r3, r4⟩ := h.rg r hr
          rw [if_pos (show τ.1 1 i = 0 by rw [← g1]; exact c4)]
          rcases (h.ar p hp).neg with ⟨c, s, q1, q2, q3, q4, q5, q6⟩ | ⟨q1, q2, q3⟩
          · have ek : f_X0_kindTaken c σ = f_X6_kindOf (τ.1 6 s) := by
              unfold f_X0_kindTaken
              rw [q5.1]
              exact kt_eq q5.2.2.1
            rw [oc_s q3, if_pos q6, q4, nI_cl (show s < 2 ^ 31 by omega), q5.2.1, g2, r1, r2, ek]
            by_cases kk : f_X6_kindOf (τ.1 6 s) = τ.1 1 r
            · rw [if_pos kk, if_pos kk.symm]
              rcases idx (v := τ.2.1 3 i) (h.im.2 s q2) with ⟨k, hk, hk2, hv, i1, i2, i3, i4⟩ | ⟨i1, i2⟩
              · rw [if_neg i1, if_neg i2, if_pos i3, i4]
                have key : ∀ e, SR (if 4 ≤ τ.1 6 s then σ.1 3 r else f_X5_inexact (σ.1 3 r)) (τ.1 2 r) (pE (τ.1 2 r) e) → (0 : Int32) = 0 ∧ Rel (f_X5_giveUp (f_X0_keep c σ (nI k) (τ.2.1 3 r) (σ.1 3 r)) (nI i) 42) (f_X6_fix (f_X6_put τ ((8 : Int32) + nI s * 12 + nI k) (f_X6_stored (τ.1 6 s) (τ.2.1 3 r)) (τ.1 2 r) e) (nI i) 42) := by
                  intro e hsr
                  refine ⟨rfl, (Rel.fix ?_ hi 42).1⟩
                  rw [put_eq, at_eq q2 hk rfl]
                  have hkeep : f_X0_keep c σ (nI k) (τ.2.1 3 r) (σ.1 3 r) = uI (uL σ (11 + 3 * c) k (f_X6_stored (τ.1 6 s) (τ.2.1 3 r))) (12 + 3 * c) k (if 4 ≤ τ.1 6 s then σ.1 3 r else f_X5_inexact (σ.1 3 r)) := by
                    unfold f_X0_keep
                    rw [st_sto _ _ _ q5.1, nI_cl (show k < 2 ^ 31 by omega), uL_1, q5.1]
                    split <;> rfl
                  rw [hkeep]
                  generalize (if 4 ≤ τ.1 6 s then σ.1 3 r else f_X5_inexact (σ.1 3 r)) = sh at hsr ⊢
                  refine h.arr (h0 := p) (c := c) (s := s) q1 q2 ?_ ?_ ?_ ?_ ?_ ?_ ?_ ?_ ?_ ?_
                  · intro x n1 n2
                    funext j
                    rw [uI_1, if_neg (by omega), uL_1]
                  · intro x n1
                    funext j
                    rw [uI_2, uL_2, if_neg (by omega)]
                  · intro x n1 n2 _ _ _ _
                    funext j
                    rw [uI_1, if_neg (by omega), uI_1, if_neg (by omega), uL_1]
                  · intro j hj
                    refine ⟨?_, ?_, ?_⟩
                    · rw [uI_2, uI_2, uL_2, if_neg (by omega)]
                    · rw [uI_1, if_neg (by omega), uI_1, if_neg (by omega), uL_1]
                    · rw [uI_1, if_neg (by omega), uI_1, if_neg (by omega), uL_1]
                  · intro j _
                    exact ⟨by rw [uI_1, if_neg (by omega), uI_1, if_neg (by omega), uL_1], by rw [uI_1, if_neg (by omega), uI_1, if_neg (by omega), uL_1]⟩
                  · intro j
                    show σ.2.2 j = _
                    split
                    · rename_i z; rw [z]; exact q3
                    · rfl
                  · intro j
                    rw [uI_1, if_neg (by omega), uI_1, if_neg (by omega), uL_1]
                    split
                    · rename_i z; rw [z]; exact q4
                    · rfl
                  · intro g hg _
                    have := h.aj g p hg hp
                    rw [q3, q4] at this
                    exact this
                  · rw [uI_1, if_neg (by omega), uL_1]
                    exact h.ix.2 c q1
                  · refine ⟨?_, ?_, ?_, ?_⟩
                    · rw [uI_1, if_neg (by omega), uL_1, uI_1, if_neg (by omega), uI_1, if_neg (by omega), uL_1]
                      exact q5.1
                    · rw [uI_1, if_neg (by omega), uL_1, uI_1, if_neg (by omega), uI_1, if_neg (by omega), uL_1]
                      exact q5.2.1
                    · rw [uI_1, if_neg (by omega), uI_1, if_neg (by omega), uL_1]
                      exact q5.2.2.1
                    · intro z hz
                      obtain ⟨v1, v2, v3⟩ := q5.2.2.2 z hz
                      have e6 : (uI (uI (uL τ 3 (8 + 12 * s + k) (f_X6_stored (τ.1 6 s) (τ.2.1 3 r))) 2 (8 + 12 * s + k) (τ.1 2 r)) 4 (8 + 12 * s + k) (pE (τ.1 2 r) e)).1 6 s = τ.1 6 s := by rw [uI_1, if_neg (by omega), uI_1, if_neg (by omega), uL_1]
                      rw [e6]
                      simp only [uI_1, uI_2, uL_1, uL_2]
                      by_cases zk : z = k
                      · subst zk
                        simp
                        exact ⟨ks_sto q5.2.2.1 r3 kk.symm, hsr⟩
                      · simp [zk]
                        exact ⟨v1, v2, v3⟩
                by_cases e0 : τ.1 4 r = 0
                · rw [if_pos e0]
                  refine key 0 ?_
                  split
                  · have := r4.keep
                    rw [e0] at this
                    exact this
                  · exact r4.inex
                · rw [if_neg e0]
                  by_cases s3 : τ.1 6 s ≤ 3
                  · rw [if_pos s3]
                    refine key 0 ?_
                    rw [if_neg (show ¬ 4 ≤ τ.1 6 s by rw [Int32.le_iff_toInt_le] at s3 ⊢; have e3 : (3 : Int32).toInt = 3 := rfl; have e4 : (4 : Int32).toInt = 4 := rfl; omega)]
                    exact r4.inex
                  · rw [if_neg s3]
                    refine key 1 ?_
                    rw [if_pos (show 4 ≤ τ.1 6 s by rw [Int32.le_iff_toInt_le] at s3 ⊢; have e3 : (3 : Int32).toInt = 3 := rfl; have e4 : (4 : Int32).toInt = 4 := rfl; omega)]
                    have := r4.keep
                    have e1 : τ.1 4 r = 1 := by
                      rcases r4.e01 with z | z
                      · exact absurd z e0
                      · exact z
                    rw [e1] at this
                    exact this
              · rw [if_pos i1]
                rcases i2 with i2 | ⟨i2, i3⟩
                · rw [if_pos i2]
                  exact h.fail _
                · rw [if_neg i2, if_neg i3]
                  exact h.fail _
            · rw [if_neg kk, if_neg (fun z => kk z.symm)]
              exact h.fail _
          · rw [oc_n q1, if_neg q3]
            exact h.fail _
        · rw [if_neg (pX4 c1), if_pos (nI2 c3 c4), if_pos (pM4 c1), if_pos (pM8 c3), if_pos (pM8 c2)]
          obtain ⟨i, hi, rfl⟩ := c3
          rw [nI_cl (show i < 2 ^ 31 by omega), (h.rg i hi).1] at c4
          rw [nI_cl (show i < 2 ^ 31 by omega), if_neg c4]
          exact ⟨rfl, h⟩
      · rw [if_neg (pX4 c1), if_pos (pM4 c1), if_pos (pM8 c3), if_neg (nM8 c2)]
        by_cases c4 : σ.1 1 x2.toNatClampNeg = 0
        · rw [if_neg (pI c3 c4), if_pos (nX8 c2)]
          exact ⟨rfl, h⟩
        · rw [if_pos (nI2 c3 c4)]
          exact ⟨rfl, h⟩
    · rw [if_neg (pX4 c1), if_pos (nI1 c3), if_pos (pM4 c1), if_neg (nM8 c3)]
      exact ⟨rfl, h⟩
  · rw [if_pos (nX4 c1), if_neg (nM4 c1)]
    exact ⟨rfl, h⟩
