theorem fin_w {σ τ τ1 : sm_S} {r a b : Nat} (h : Rel σ τ) (hr : r < 8) (ha : a < 8) (hb : b < 8) (o k t t2 : Int32) (v : Int64) (q : sq τ1 τ) (hsh : f_X5_shadowOfTwo σ o (nI a) (nI b) = f_X5_shadowOfTwo_34 o (nI a) (nI b) σ) (hm : (2 ≤ k ∨ t2 = 0) ↔ f_X3_mixes o = 0) (hK : (if t = 0 then k else 0) = f_X3_resultKind o k) (hkv : KV (f_X3_resultKind o k) v) : (f_X5_two_145 o (nI r) (nI a) (nI b) k σ v).1 = (f_X6_two_352 (nI r) (nI a) (nI b) k t t2 τ1 v).1 ∧ Rel (f_X5_two_145 o (nI r) (nI a) (nI b) k σ v).2 (f_X6_two_352 (nI r) (nI a) (nI b) k t t2 τ1 v).2 := by
  obtain ⟨sh, e, s⟩ := x_sh34 h ha hb o (2 ≤ k ∨ t2 = 0) hm
  have e2 : τ1.1 2 = τ.1 2 := q.1 2 (by decide) (by decide) (by decide)
  have e4 : τ1.1 4 = τ.1 4 := q.1 4 (by decide) (by decide) (by decide)
  unfold f_X5_two_145
  rw [hsh, e]
  simp only [sm_le]
  rw [two352 hr ha hb, e2, e4, hK]
  exact ⟨rfl, h.put hr hkv s (sq_uI q)⟩
theorem sh_w {σ : sm_S} {a b : Nat} {o k : Int32} (ha : a < 8) (hk : σ.1 1 a = k) (h : f_X5_isFloating k = 0 ∨ f_X3_calculates o = 0) : f_X5_shadowOfTwo σ o (nI a) (nI b) = f_X5_shadowOfTwo_34 o (nI a) (nI b) σ := by
  unfold f_X5_shadowOfTwo
  rw [nI_cl (show a < 2 ^ 31 by omega), hk]
  rcases h with h | h
  · rw [if_pos h]
  · by_cases c : f_X5_isFloating k = 0
    · rw [if_pos c]
    · rw [if_neg c, if_pos h]
theorem dv2 : ∀ a, a < 15 → (f_X3_divides (nI (20 + a)) = 0 ↔ ¬ (20 + a = 23 ∨ 20 + a = 24)) := by decide +kernel
theorem rk2 : ∀ a, a < 15 → ∀ b, b < 4 → f_X3_resultKind (nI (20 + a)) (nI b) = if 20 + a ≤ 32 then nI b else 0 := by decide +kernel
theorem ca2 : ∀ a, a < 15 → (f_X3_calculates (nI (20 + a)) = 0 ↔ 25 ≤ 20 + a) := by decide +kernel
theorem fl2 : ∀ b, b < 4 → (f_X5_isFloating (nI b) = 0 ↔ b < 2) := by decide +kernel
theorem fo2 : ∀ i, i < 2 → f_X5_formatOf (nI (2 + i)) = i := by decide +kernel
theorem ki2 : ∀ i, i < 2 → kI i = nI (2 + i) := by decide +kernel
theorem le2 : ∀ b, b < 4 → (2 ≤ nI b ↔ 2 ≤ b) := by decide +kernel
theorem takes2_no {x k l : Int32} (h : ¬ (20 ≤ x.toInt ∧ x.toInt ≤ 34)) : f_X3_takes x k l = 0 := by
  unfold f_X3_takes
  have e20 : (20 : Int32).toInt = 20 := rfl
  have e34 : (34 : Int32).toInt = 34 := rfl
  by_cases c : x < 20
  · rw [if_pos c]
  · rw [if_neg c, if_neg]
    rw [Int32.lt_iff_toInt_lt] at c
    rw [Int32.le_iff_toInt_le]
    omega
theorem fix2 {σ τ : sm_S} {a b : Nat} (h : Rel σ τ) (ha : a < 8) (hb : b < 8) (o : Int32) : Rel (f_X5_giveUp (f_X5_giveUp σ (nI a) o) (nI b) o) (f_X6_fix (f_X6_fix τ (nI a) o) (nI b) o) ∧ (f_X6_fix (f_X6_fix τ (nI a) o) (nI b) o).2 = τ.2 ∧ (f_X6_fix (f_X6_fix τ (nI a) o) (nI b) o).1 2 a = 0 ∧ (f_X6_fix (f_X6_fix τ (nI a) o) (nI b) o).1 2 b = 0 := by
  obtain ⟨r1, -, b1, -, -, d1, z1, -⟩ := h.fix ha o
  obtain ⟨r2, -, b2, -, -, d2, z2, -⟩ := r1.fix hb o
  refine ⟨r2, b2.trans b1, ?_, z2⟩
  by_cases e : a = b
  · subst e; exact z2
  · rw [(d2 a e).1]; exact z1
theorem st_two {σ τ : sm_S} (h : Rel σ τ) (x1 : Int32) (x2 : Int32) (x3 : Int32) (x4 : Int32) : (f_X5_two σ x1 x2 x3 x4).1 = (f_X6_two τ x1 x2 x3 x4).1 ∧ Rel (f_X5_two σ x1 x2 x3 x4).2 (f_X6_two τ x1 x2 x3 x4).2 := by
  have bad : (¬ inR x2 8 ∨ ¬ inR x3 8 ∨ ¬ inR x4 8) → (f_X6_two τ x1 x2 x3 x4) = (-1, τ) := by
    intro hh
    unfold f_X6_two
    by_cases c2 : inR x2 8
    · by_cases c3 : inR x3 8
      · have c4 : ¬ inR x4 8 := by
          rcases hh with q | q | q
          · exact absurd c2 q
          · exact absurd c3 q
          · exact q
        rw [if_pos (pM8 c2), if_pos (pM8 c3), if_neg (nM8 c4)]
        repeat' split
        all_goals rfl
      · rw [if_pos (pM8 c2), if_neg (nM8 c3)]
        repeat' split
        all_goals rfl
    · rw [if_neg (nM8 c2)]
      repeat' split
      all_goals rfl
  unfold f_X5_two
  simp only [sm_le]
  by_cases c2 : inR x2 8
  · by_cases c3 : inR x3 8
    · by_cases c4 : inR x4 8
      · rw [if_neg (pX8 c2), if_neg (pX8 c3), if_neg (pX8 c4)]
        by_cases cO : 20 ≤ x1.toInt ∧ x1.toInt ≤ 34
        · obtain ⟨a', ha', ea⟩ : ∃ a' : Nat, a' < 15 ∧ x1 = nI (20 + a') := by
            refine ⟨x1.toInt.toNat - 20, by omega, ?_⟩
            rw [iZ_nI]
            conv => lhs; rw [iZ_of x1]
            congr 1
            omega
          subst ea
          have c2' := c2
          have c3' := c3
          have c4' := c4
          obtain ⟨r, hr, rfl⟩ := c2
          obtain ⟨p, hp, rfl⟩ := c3
          obtain ⟨q, hq, rfl⟩ := c4
          obtain ⟨b, hb, eb⟩ := kind_n h hp
          obtain ⟨c, hc, ec⟩ := kind_n h hq
          obtain ⟨p1, p2, p3, p4⟩ := h.rg p hp
          obtain ⟨q1, q2, q3, q4⟩ := h.rg q hq
          rw [two_ref (20 + a') b c (by omega) (by omega) hb hc c2' c3' c4' (by rw [nI_cl (show p < 2 ^ 31 by omega)]; exact eb) (by rw [nI_cl (show q < 2 ^ 31 by omega)]; exact ec), nI_cl (show p < 2 ^ 31 by omega), nI_cl (show q < 2 ^ 31 by omega), p1, q1, eb, ec]
          have ht := tk2 a' ha' b hb c hc
          by_cases ac : acc2 (20 + a') b c = true
          · rw [ac] at ht
            rw [if_pos ac, if_neg (of_decide_eq_false ht)]
            have hmix := hrd_m a' ha'
            have hrk := rk2 a' ha' b hb
            have hdv := dv2 a' ha'
            have hca := ca2 a' ha'
            have hfl := fl2 b hb
            have hle := le2 b hb
            have hkx : σ.1 1 p = nI b := by rw [p1, eb]
            generalize ea : 20 + a' = a at *
            have ha1 : 20 ≤ a := by omega
            have ha2 : a ≤ 34 := by omega
            by_cases b2 : b < 2
            · have f0 := hfl.mpr b2
              have hm : (2 ≤ nI b ∨ hrd a = 0) ↔ f_X3_mixes (nI a) = 0 := by
                rw [hle]
                constructor
                · rintro (z | z)
                  · omega
                  · exact hmix.mp z
                · intro z
                  exact Or.inr (hmix.mpr z)
              by_cases a32 : a ≤ 32
              · rw [if_pos a32, two_A a b ha1 a32 b2, nI_cl (show p < 2 ^ 31 by omega), nI_cl (show q < 2 ^ 31 by omega), q2]
                rw [if_pos a32] at hrk
                have fin : (f_X5_two_93 (nI a) (nI r) (nI p) (nI q) (nI b) σ).1 = (f_X6_two_352 (nI r) (nI p) (nI q) (nI b) 0 (hrd a) τ (f_X6_whole (nI a) (nI b) (τ.2.1 3 p) (τ.2.1 3 q))).1 ∧ Rel (f_X5_two_93 (nI a) (nI r) (nI p) (nI q) (nI b) σ).2 (f_X6_two_352 (nI r) (nI p) (nI q) (nI b) 0 (hrd a) τ (f_X6_whole (nI a) (nI b) (τ.2.1 3 p) (τ.2.1 3 q))).2 := by
                  unfold f_X5_two_93
                  rw [if_pos f0, nI_cl (show p < 2 ^ 31 by omega), nI_cl (show q < 2 ^ 31 by omega), p2, q2, xm_whole (nI a) (nI b) _ _ ((nI_leI (a := 20) (by decide) (by omega)).mpr ha1) ((nI_leI (b := 32) (by omega) (by decide)).mpr a32) (by
                    rcases (by omega : b = 0 ∨ b = 1) with z | z <;> rw [z]
                    · exact Or.inl rfl
                    · exact Or.inr rfl)]
                  refine fin_w h hr hp hq (nI a) (nI b) 0 (hrd a) _ (sq.rf τ) (sh_w hp hkx (Or.inl f0)) hm (by rw [if_pos rfl, hrk]) ?_
                  rw [hrk]
                  exact kv_01 (by
                    rcases (by omega : b = 0 ∨ b = 1) with z | z <;> rw [z]
                    · exact Or.inl rfl
                    · exact Or.inr rfl)
                by_cases dv : a = 23 ∨ a = 24
                · rw [if_neg (fun z => hdv.mp z dv), if_pos f0]
                  by_cases z : τ.2.1 3 q = 0
                  · rw [if_pos z, if_pos ⟨dv, z⟩]
                    exact h.fail (-2)
                  · rw [if_neg z, if_neg (fun y => z y.2)]
                    exact fin
                · rw [if_pos (hdv.mpr dv), if_neg (fun y => dv y.1)]
                  exact fin
              · rw [if_neg a32, if_pos (hdv.mpr (by omega))]
                have b1 : b = 1 := by
                  apply Decidable.byContradiction
                  intro z
                  have b0 : b = 0 := by omega
                  subst b0
                  rcases (by omega : a = 33 ∨ a = 34) with y | y <;> rw [y] at ac <;> revert ac <;> (rcases (by omega : c = 0 ∨ c = 1 ∨ c = 2 ∨ c = 3) with w | w | w | w <;> rw [w] <;> decide)
                subst b1
                rw [if_neg a32] at hrk
                rw [two_B a 1 (by omega) (by decide) (by decide), show f_X6_compared τ (nI 1) = f_X6_compared τ 1 from rfl, xm_cmpL, nI_cl (show p < 2 ^ 31 by omega), nI_cl (show q < 2 ^ 31 by omega)]
                unfold f_X5_two_93
                rw [if_pos f0, nI_cl (show p < 2 ^ 31 by omega), nI_cl (show q < 2 ^ 31 by omega), p2, q2]
                have ew : f_X3_wholeResult (nI a) (nI 1) (τ.2.1 3 p) (τ.2.1 3 q) = (f_J13_compare_74951 (τ.2.1 3 p) (τ.2.1 3 q)).toInt64 := by
                  unfold f_X3_wholeResult f_X3_wholeResult_24 f_X3_combined f_X3_combined_14
                  rcases (by omega : a = 33 ∨ a = 34) with y | y <;> rw [y] <;> simp (decide := true) only [if_true, if_false, sm_le]
                rw [ew]
                refine fin_w h hr hp hq (nI a) (nI 1) 1 0 _ (sq.rf τ) (sh_w hp hkx (Or.inl f0)) ?_ (by rw [hrk]; rfl) (by rw [hrk]; exact kv_01 (Or.inl rfl))
                exact ⟨fun _ => hmix.mp (by unfold hrd; rw [if_neg (by omega)]), fun _ => Or.inr rfl⟩
            · obtain ⟨i, hi, ei⟩ : ∃ i, i < 2 ∧ b = 2 + i := ⟨b - 2, by omega, by omega⟩
              subst ei
              have fn : ¬ f_X5_isFloating (nI (2 + i)) = 0 := fun z => b2 (hfl.mp z)
              have hfo := fo2 i hi
              have hki := ki2 i hi
              have hc2 : c = 2 + i ∧ (a ≤ 26 ∨ 33 ≤ a) := by
                unfold acc2 at ac
                by_cases z : 27 ≤ a ∧ a ≤ 29
                · rw [if_pos z] at ac
                  have := of_decide_eq_true ac
                  omega
                · rw [if_neg z, Bool.and_eq_true] at ac
                  have y := of_decide_eq_true ac.1
                  refine ⟨y.symm, ?_⟩
                  by_cases w : 30 ≤ a ∧ a ≤ 32
                  · have := ac.2
                    rw [if_pos w] at this
                    have := of_decide_eq_true this
                    omega
                  · omega
              have wP : wf i (τ.2.1 3 p) := by
                rw [eb] at p3
                rcases (by omega : i = 0 ∨ i = 1) with z | z <;> subst z
                · exact KV.w2 p3
                · exact KV.w3 p3
              have wQ : wf i (τ.2.1 3 q) := by
                rw [ec, hc2.1] at q3
                rcases (by omega : i = 0 ∨ i = 1) with z | z <;> subst z
                · exact KV.w2 q3
                · exact KV.w3 q3
              have hX : (if f_X3_divides (nI a) = 0 then f_X5_two_93 (nI a) (nI r) (nI p) (nI q) (nI (2 + i)) σ else if f_X5_isFloating (nI (2 + i)) = 0 then (if σ.2.1 2 q = 0 then ((f_X5_failed σ (-2)).1, (f_X5_failed σ (-2)).2) else f_X5_two_93 (nI a) (nI r) (nI p) (nI q) (nI (2 + i)) σ) else f_X5_two_93 (nI a) (nI r) (nI p) (nI q) (nI (2 + i)) σ) = f_X5_two_145 (nI a) (nI r) (nI p) (nI q) (nI (2 + i)) σ (f_X3_floatingResult i (nI a) (τ.2.1 3 p) (τ.2.1 3 q)) := by
                rw [if_neg fn]
                unfold f_X5_two_93
                rw [if_neg fn, nI_cl (show p < 2 ^ 31 by omega), nI_cl (show q < 2 ^ 31 by omega), p2, q2, hfo]
                split <;> rfl
              rw [hX]
              have hkvf : ∀ v, wf i v → KV (nI (2 + i)) v := by
                intro v hv
                rcases (by omega : i = 0 ∨ i = 1) with z | z <;> subst z
                · exact kv2 hv
                · exact kv3 hv
              have hi2 : i = 0 ∨ i = 1 := by omega
              by_cases a33 : 33 ≤ a
              · rw [if_neg (show ¬ a ≤ 32 by omega), two_B a (2 + i) (by omega) (by omega) (by omega), nI_cl (show p < 2 ^ 31 by omega), nI_cl (show q < 2 ^ 31 by omega), ← hki]
                rw [if_neg (show ¬ a ≤ 32 by omega)] at hrk
                obtain ⟨τ1, k1, k2⟩ := xm_cmp τ (if a = 33 then -1 else 1) wP wQ
                rw [k1]
                have ew : f_X3_floatingResult i (nI a) (τ.2.1 3 p) (τ.2.1 3 q) = (f_X1_compared i (τ.2.1 3 p) (τ.2.1 3 q) (if a = 33 then -1 else 1)).toInt64 := by
                  unfold f_X3_floatingResult
                  rcases (by omega : a = 33 ∨ a = 34) with y | y <;> rw [y] <;> simp (decide := true) only [if_true, if_false]
                rw [ew, hki]
                refine fin_w h hr hp hq (nI a) (nI (2 + i)) 1 0 _ k2 (sh_w hp hkx (Or.inr (hca.mpr (by omega)))) ?_ (by rw [hrk]; rfl) (by rw [hrk]; exact kv_01 (Or.inl rfl))
                exact ⟨fun _ => hmix.mp (by unfold hrd; rw [if_neg (by omega)]), fun _ => Or.inr rfl⟩
              · rw [if_pos (show a ≤ 32 by omega)] at hrk ⊢
                have hw := wf_float (nI a) ((nI_leI (a := 20) (by decide) (by omega)).mpr ha1) ((nI_leI (b := 26) (by omega) (by decide)).mpr (by omega)) wP wQ
                by_cases a25 : 25 ≤ a
                · rw [← hki, two_D a i (by omega) hi2]
                  unfold f_X6_two_336
                  simp only [sm_le]
                  rw [nI_cl (show p < 2 ^ 31 by omega), nI_cl (show q < 2 ^ 31 by omega)]
                  obtain ⟨τ1, k1, k2⟩ := xm_pointed τ (nI a) ((nI_leI (a := 20) (by decide) (by omega)).mpr ha1) ((nI_leI (b := 26) (by omega) (by decide)).mpr (by omega)) wP wQ
                  rw [k1, hki]
                  refine fin_w h hr hp hq (nI a) (nI (2 + i)) 0 0 _ k2 (sh_w hp hkx (Or.inr (hca.mpr a25))) ?_ (by rw [if_pos rfl, hrk]) (by rw [hrk]; exact hkvf _ hw)
                  exact ⟨fun _ => hmix.mp (by unfold hrd; rw [if_neg (by omega)]), fun _ => Or.inr rfl⟩
                · rw [← hki, two_C a i ha1 (by omega) hi2]
                  unfold f_X6_two_336
                  simp only [sm_le]
                  rw [nI_cl (show p < 2 ^ 31 by omega), nI_cl (show q < 2 ^ 31 by omega)]
                  obtain ⟨hR, e1, e2, e3⟩ := fix2 h hp hq (nI a)
                  unfold f_X5_two_145 f_X5_shadowOfTwo
                  rw [nI_cl (show p < 2 ^ 31 by omega), hkx, if_neg fn, if_neg (show ¬ f_X3_calculates (nI a) = 0 from fun z => a25 (hca.mp z))]
                  simp only [sm_le]
                  rw [e1]
                  generalize f_X5_giveUp (f_X5_giveUp σ (nI p) (nI a)) (nI q) (nI a) = σ2 at hR ⊢
                  generalize f_X6_fix (f_X6_fix τ (nI p) (nI a)) (nI q) (nI a) = τ2 at hR e1 e2 e3 ⊢
                  obtain ⟨τ1, k1, k2⟩ := xm_pointed τ2 (nI a) ((nI_leI (a := 20) (by decide) (by omega)).mpr ha1) ((nI_leI (b := 26) (by omega) (by decide)).mpr (by omega)) wP wQ
                  rw [k1, two352 hr hp hq, if_pos rfl, hki, hrk]
                  have s0 : τ1.1 2 p ||| τ1.1 2 q = 0 := by
                    rw [k2.1 2 (by decide) (by decide) (by decide), e2, e3]
                    decide
                  rw [s0]
                  exact ⟨rfl, hR.put hr (hkvf _ hw) SR.z (sq_uI k2)⟩
          · have ac2 : acc2 (20 + a') b c = false := by
              cases hq : acc2 (20 + a') b c
              · rfl
              · exact absurd hq ac
            rw [ac2] at ht
            rw [if_neg ac, if_pos (of_decide_eq_true ht)]
            exact ⟨rfl, h⟩
        · rw [if_pos (takes2_no cO)]
          have : f_X6_two τ x1 x2 x3 x4 = (-1, τ) := by
            unfold f_X6_two
            have e20 : (20 : Int32).toInt = 20 := rfl
            have e34 : (34 : Int32).toInt = 34 := rfl
            by_cases z : x1 < 20
            · rw [if_pos z]
            · rw [if_neg z, if_pos]
              rw [Int32.lt_iff_toInt_lt] at z ⊢
              omega
          rw [this]
          exact ⟨rfl, h⟩
      · rw [if_neg (pX8 c2), if_neg (pX8 c3), if_pos (nX8 c4), bad (Or.inr (Or.inr c4))]
        exact ⟨rfl, h⟩
    · rw [if_neg (pX8 c2), if_pos (nX8 c3), bad (Or.inr (Or.inl c3))]
      exact ⟨rfl, h⟩
  · rw [if_pos (nX8 c2), bad (Or.inl c2)]
    exact ⟨rfl, h⟩
