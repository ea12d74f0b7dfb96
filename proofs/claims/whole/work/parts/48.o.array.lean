/-! making arrays -/
theorem held_2 (j : Nat) (σ : sm_S) : ∀ (n k : Nat), k + n = 5 → k ≤ 4 → (f_X5_isHeld_2 n j σ (nI k) = 0 ↔ ∀ h, k ≤ h → h < 4 → σ.2.2 h ≠ some j) := by
  intro n
  induction n with
  | zero => intro k h1 h2; omega
  | succ n ih =>
    intro k h1 h2
    rw [f_X5_isHeld_2]
    simp only [sm_le]
    by_cases c : k = 4
    · subst c
      rw [if_pos (show (4 : Int32) ≤ nI 4 by decide)]
      exact ⟨fun _ h a b => by omega, fun _ => rfl⟩
    · rw [if_neg (show ¬ (4 : Int32) ≤ nI k from fun q => by have := (nI_leI (a := 4) (by decide) (by omega)).mp q; omega), nI_cl (show k < 2 ^ 31 by omega), nI_1]
      by_cases d : σ.2.2 k = some j
      · rw [if_pos d]
        constructor
        · intro q
          exact absurd q (by decide)
        · intro q
          exact absurd d (q k (Nat.le_refl _) (by omega))
      · rw [if_neg d, ih (k + 1) (by omega) (by omega)]
        constructor
        · intro q h a b
          by_cases e : h = k
          · rw [e]; exact d
          · exact q h (by omega) b
        · intro q h a b
          exact q h (by omega) b
theorem held_z (j : Nat) (σ : sm_S) : f_X5_isHeld j σ = 0 ↔ ∀ h, h < 4 → σ.2.2 h ≠ some j := by
  unfold f_X5_isHeld
  have := held_2 j σ 5 0 (by decide) (by decide)
  rw [show nI 0 = 0 from rfl] at this
  rw [show (((4 : Int32).toInt - Int32.toInt 0).toNat + 1) = 5 from rfl, this]
  exact ⟨fun q h b => q h (Nat.zero_le _) b, fun q h _ b => q h b⟩
theorem unh_9 (σ : sm_S) : ∀ (n k r : Nat), k + n = 5 → k ≤ 4 → (f_X5_unheld_9 n σ r (nI k) = r ∧ ∀ j, k ≤ j → j < 4 → ¬ f_X5_isHeld j σ = 0) ∨ (f_X5_unheld_9 n σ r (nI k) < 4 ∧ f_X5_isHeld (f_X5_unheld_9 n σ r (nI k)) σ = 0) := by
  intro n
  induction n with
  | zero => intro k r h1 h2; omega
  | succ n ih =>
    intro k r h1 h2
    rw [f_X5_unheld_9]
    unfold f_X5_unheld_34
    simp only [sm_le]
    by_cases c : k = 4
    · subst c
      rw [if_pos (show (4 : Int32) ≤ nI 4 by decide)]
      exact Or.inl ⟨rfl, fun j a b => by omega⟩
    · rw [if_neg (show ¬ (4 : Int32) ≤ nI k from fun q => by have := (nI_leI (a := 4) (by decide) (by omega)).mp q; omega), nI_cl (show k < 2 ^ 31 by omega), nI_1]
      by_cases d : f_X5_isHeld k σ = 0
      · rw [if_pos d]
        rcases ih (k + 1) k (by omega) (by omega) with ⟨a, _⟩ | ⟨a, b⟩
        · rw [a]
          exact Or.inr ⟨by omega, d⟩
        · exact Or.inr ⟨a, b⟩
      · rw [if_neg d]
        rcases ih (k + 1) r (by omega) (by omega) with ⟨a, b⟩ | ⟨a, b⟩
        · refine Or.inl ⟨a, fun j h3 h4 => ?_⟩
          by_cases e : j = k
          · rw [e]; exact d
          · exact b j (by omega) h4
        · exact Or.inr ⟨a, b⟩
theorem five : ∀ a, a < 4 → ∀ b, b < 4 → ∀ c, c < 4 → ∀ d, d < 4 → ∀ e, e < 4 → (a = b ∨ a = c ∨ a = d ∨ a = e ∨ b = c ∨ b = d ∨ b = e ∨ c = d ∨ c = e ∨ d = e) := by
  intro a ha b hb c hc d hd e he
  omega
theorem unh_ok {σ : sm_S} {h0 : Nat} (hh : h0 < 4) (hn : σ.2.2 h0 = none) : f_X5_unheld σ < 4 ∧ ∀ h, h < 4 → σ.2.2 h ≠ some (f_X5_unheld σ) := by
  unfold f_X5_unheld
  rw [show (((4 : Int32).toInt - Int32.toInt 1).toNat + 1) = 4 from rfl, show (1 : Int32) = nI 1 from rfl]
  simp only [sm_le]
  rw [tz0]
  rcases unh_9 σ 4 1 0 (by decide) (by decide) with ⟨a, b⟩ | ⟨a, b⟩
  · rw [a]
    refine ⟨by decide, fun x hx hx0 => ?_⟩
    have g : ∀ j, 1 ≤ j → j < 4 → ∃ y, y < 4 ∧ σ.2.2 y = some j := by
      intro j h1 h2
      apply Classical.byContradiction
      intro q
      exact b j h1 h2 ((held_z j σ).mpr (fun h hb he => q ⟨h, hb, he⟩))
    obtain ⟨y1, l1, e1⟩ := g 1 (by decide) (by decide)
    obtain ⟨y2, l2, e2⟩ := g 2 (by decide) (by decide)
    obtain ⟨y3, l3, e3⟩ := g 3 (by decide) (by decide)
    have ne : ∀ {u v : Nat}, σ.2.2 u ≠ σ.2.2 v → u ≠ v := by
      intro u v q z
      exact q (by rw [z])
    rcases five x hx y1 l1 y2 l2 y3 l3 h0 hh with q | q | q | q | q | q | q | q | q | q
    · exact ne (by rw [hx0, e1]; decide) q
    · exact ne (by rw [hx0, e2]; decide) q
    · exact ne (by rw [hx0, e3]; decide) q
    · exact ne (by rw [hx0, hn]; decide) q
    · exact ne (by rw [e1, e2]; decide) q
    · exact ne (by rw [e1, e3]; decide) q
    · exact ne (by rw [e1, hn]; decide) q
    · exact ne (by rw [e2, e3]; decide) q
    · exact ne (by rw [e2, hn]; decide) q
    · exact ne (by rw [e3, hn]; decide) q
  · exact ⟨a, (held_z _ σ).mp b⟩
theorem ren_12 (c : Nat) : ∀ (n k : Nat) (σ : sm_S), k + n = 13 → k ≤ 12 → (∀ x, x ≠ 12 + 3 * c → (f_X0_renew_12 n c σ (nI k)).1 x = σ.1 x) ∧ (∀ x, x ≠ 11 + 3 * c → (f_X0_renew_12 n c σ (nI k)).2.1 x = σ.2.1 x) ∧ (f_X0_renew_12 n c σ (nI k)).2.2 = σ.2.2 ∧ (∀ j, j < k → (f_X0_renew_12 n c σ (nI k)).2.1 (11 + 3 * c) j = σ.2.1 (11 + 3 * c) j ∧ (f_X0_renew_12 n c σ (nI k)).1 (12 + 3 * c) j = σ.1 (12 + 3 * c) j) ∧ ∀ j, k ≤ j → j < 12 → (f_X0_renew_12 n c σ (nI k)).2.1 (11 + 3 * c) j = 0 ∧ (f_X0_renew_12 n c σ (nI k)).1 (12 + 3 * c) j = 64 := by
  intro n
  induction n with
  | zero => intro k σ h1 h2; omega
  | succ n ih =>
    intro k σ h1 h2
    rw [f_X0_renew_12]
    simp only [sm_le]
    by_cases e : k = 12
    · subst e
      rw [if_pos (show (12 : Int32) ≤ nI 12 by decide)]
      exact ⟨fun _ _ => rfl, fun _ _ => rfl, rfl, fun _ _ => ⟨rfl, rfl⟩, fun j a b => by omega⟩
    · rw [if_neg (show ¬ (12 : Int32) ≤ nI k from fun q => by have := (nI_leI (a := 12) (by decide) (by omega)).mp q; omega), nI_cl (show k < 2 ^ 31 by omega), nI_1]
      obtain ⟨i1, i2, i3, i4, i5⟩ := ih (k + 1) (uI (uL σ (11 + 3 * c) k 0) (12 + 3 * c) k 64) (by omega) (by omega)
      generalize f_X0_renew_12 n c (uI (uL σ (11 + 3 * c) k 0) (12 + 3 * c) k 64) (nI (k + 1)) = ρ at i1 i2 i3 i4 i5 ⊢
      refine ⟨?_, ?_, i3, ?_, ?_⟩
      · intro x hx
        rw [i1 x hx]
        funext j
        rw [uI_1, if_neg (by omega), uL_1]
      · intro x hx
        rw [i2 x hx]
        funext j
        rw [uI_2, uL_2, if_neg (by omega)]
      · intro j hj
        obtain ⟨a, b⟩ := i4 j (by omega)
        rw [a, b]
        exact ⟨by rw [uI_2, uL_2, if_neg (by omega)], by rw [uI_1, if_neg (by omega), uL_1]⟩
      · intro j h3 h4
        by_cases jk : j = k
        · subst jk
          obtain ⟨a, b⟩ := i4 j (by omega)
          rw [a, b]
          exact ⟨by rw [uI_2, uL_2]; simp, by rw [uI_1]; simp⟩
        · exact i5 j (by omega) h4
theorem m_171 {s : Nat} (hs : s < 4) : ∀ (n k : Nat) (τ : sm_S), k + n = 13 → k ≤ 12 → ∃ τ', f_X6_array_171 n (nI s) τ (nI k) = (0, τ') ∧ (∀ x, x ≠ 2 → x ≠ 4 → τ'.1 x = τ.1 x) ∧ (∀ x, x ≠ 3 → τ'.2.1 x = τ.2.1 x) ∧ (∀ i, (i < 8 + 12 * s + k ∨ 20 + 12 * s ≤ i) → τ'.2.1 3 i = τ.2.1 3 i ∧ τ'.1 2 i = τ.1 2 i ∧ τ'.1 4 i = τ.1 4 i) ∧ ∀ j, k ≤ j → j < 12 → τ'.2.1 3 (8 + 12 * s + j) = 0 ∧ τ'.1 2 (8 + 12 * s + j) = 0 ∧ τ'.1 4 (8 + 12 * s + j) = 1 := by
  intro n
  induction n with
  | zero => intro k τ h1 h2; omega
  | succ n ih =>
    intro k τ h1 h2
    rw [f_X6_array_171]
    simp only [sm_le]
    by_cases e : k = 12
    · subst e
      rw [if_pos (show (12 : Int32) ≤ nI 12 by decide)]
      exact ⟨τ, rfl, fun _ _ _ => rfl, fun _ _ => rfl, fun _ _ => ⟨rfl, rfl, rfl⟩, fun j a b => by omega⟩
    · rw [if_neg (show ¬ (12 : Int32) ≤ nI k from fun q => by have := (nI_leI (a := 12) (by decide) (by omega)).mp q; omega), put_eq, at_eq hs (by omega) rfl, nI_1, show pE 0 1 = 1 from rfl]
      obtain ⟨ρ, i0, i1, i2, i4, i5⟩ := ih (k + 1) (uI (uI (uL τ 3 (8 + 12 * s + k) 0) 2 (8 + 12 * s + k) 0) 4 (8 + 12 * s + k) 1) (by omega) (by omega)
      refine ⟨ρ, i0, ?_, ?_, ?_, ?_⟩
      · intro x h3 h4
        rw [i1 x h3 h4]
        funext j
        rw [uI_1, if_neg (by omega), uI_1, if_neg (by omega), uL_1]
      · intro x hx
        rw [i2 x hx]
        funext j
        rw [uI_2, uI_2, uL_2, if_neg (by omega)]
      · intro i hi
        obtain ⟨a, b, c⟩ := i4 i (by omega)
        rw [a, b, c]
        refine ⟨?_, ?_, ?_⟩
        · rw [uI_2, uI_2, uL_2, if_neg (by omega)]
        · rw [uI_1, if_neg (by omega), uI_1, if_neg (by omega), uL_1]
        · rw [uI_1, if_neg (by omega), uI_1, if_neg (by omega), uL_1]
      · intro j h3 h4
        by_cases jk : j = k
        · subst jk
          obtain ⟨a, b, c⟩ := i4 (8 + 12 * s + j) (by omega)
          rw [a, b, c]
          refine ⟨?_, ?_, ?_⟩
          · rw [uI_2, uI_2, uL_2]; simp
          · rw [uI_1, if_neg (by omega), uI_1]; simp
          · rw [uI_1]; simp
        · exact i5 j (by omega) h4
theorem m_88 {h : Nat} {x2 x3 : Int32} {τ : sm_S} (hh : h < 4) : ∀ (n k : Nat), k + n = 5 → k ≤ 3 → arrI τ (nI k) → ∃ s, s < 4 ∧ (∀ g, g < 4 → τ.1 5 g ≠ nI s) ∧ f_X6_array_88 n (nI h) x2 x3 τ (nI k) = f_X6_array_171 13 (nI s) (uI (uI (uI τ 5 h (nI s)) 6 s x2) 7 s (Int64.toInt32 (τ.2.1 3 x3.toNatClampNeg))) 0 := by
  intro n
  induction n with
  | zero => intro k h1 h2; omega
  | succ n ih =>
    intro k h1 h2 ha
    rw [f_X6_array_88]
    unfold f_X6_array_132
    simp only [sm_le]
    have next : (τ.1 5 (Int32.toNatClampNeg 0) = nI k ∨ τ.1 5 (Int32.toNatClampNeg 1) = nI k ∨ τ.1 5 (Int32.toNatClampNeg 2) = nI k ∨ τ.1 5 (Int32.toNatClampNeg 3) = nI k) → ∃ s, s < 4 ∧ (∀ g, g < 4 → τ.1 5 g ≠ nI s) ∧ f_X6_array_88 n (nI h) x2 x3 τ (nI k + 1) = f_X6_array_171 13 (nI s) (uI (uI (uI τ 5 h (nI s)) 6 s x2) 7 s (Int64.toInt32 (τ.2.1 3 x3.toNatClampNeg))) 0 := by
      intro hd
      have ha2 := arrI_s ha hd
      rw [nI_1] at ha2 ⊢
      have hb := ha2.1.2
      rw [nI_tI (by omega)] at hb
      exact ih (k + 1) (by omega) (by omega) ha2
    by_cases d0 : τ.1 5 (Int32.toNatClampNeg 0) = nI k
    · rw [if_pos d0]
      exact next (Or.inl d0)
    · rw [if_neg d0]
      by_cases d1 : τ.1 5 (Int32.toNatClampNeg 1) = nI k
      · rw [if_pos d1]
        exact next (Or.inr (Or.inl d1))
      · rw [if_neg d1]
        by_cases d2 : τ.1 5 (Int32.toNatClampNeg 2) = nI k
        · rw [if_pos d2]
          exact next (Or.inr (Or.inr (Or.inl d2)))
        · rw [if_neg d2]
          by_cases d3 : τ.1 5 (Int32.toNatClampNeg 3) = nI k
          · rw [if_pos d3]
            exact next (Or.inr (Or.inr (Or.inr d3)))
          · rw [if_neg d3, nI_cl (show k < 2 ^ 31 by omega), nI_cl (show h < 2 ^ 31 by omega)]
            refine ⟨k, by omega, ?_, rfl⟩
            intro g hg
            rcases (by omega : g = 0 ∨ g = 1 ∨ g = 2 ∨ g = 3) with rfl | rfl | rfl | rfl
            · exact d0
            · exact d1
            · exact d2
            · exact d3
theorem st_array {σ τ : sm_S} (h : Rel σ τ) (x1 : Int32) (x2 : Int32) (x3 : Int32) : (f_X5_array σ x1 x2 x3).1 = (f_X6_array τ x1 x2 x3).1 ∧ Rel (f_X5_array σ x1 x2 x3).2 (f_X6_array τ x1 x2 x3).2 := by
  unfold f_X5_array f_X6_array
  simp only [sm_le]
  by_cases c1 : inR x1 4
  · by_cases c2 : inR x2 8
    · by_cases c3 : inR x3 8
      · by_cases c4 : σ.1 1 x3.toNatClampNeg = 0
        · rw [if_neg (pX4 c1), if_neg (pX8 c2), if_neg (pI c3 c4), if_pos (pM4 c1), if_pos (pM8 c2), if_pos (pM8 c3)]
          obtain ⟨p, hp, rfl⟩ := c1
          obtain ⟨i, hi, rfl⟩ := c3
          rw [nI_cl (show i < 2 ^ 31 by omega)] at c4
          rw [nI_cl (show p < 2 ^ 31 by omega), nI_cl (show i < 2 ^ 31 by omega)]
          obtain ⟨g1, g2, g3, g4⟩ := h.rg i hi
          rw [if_pos (show τ.1 1 i = 0 by rw [← g1]; exact c4), g2]
          by_cases v12 : τ.2.1 3 i ≤ 12
          · rw [if_pos v12, if_pos v12]
            by_cases v0 : 0 ≤ τ.2.1 3 i
            · rw [if_pos v0, if_pos v0]
              have hv : ∃ k, k ≤ 12 ∧ (τ.2.1 3 i).toInt32 = nI k := by
                rw [Int64.le_iff_toInt_le] at v0 v12
                have e0 : (0 : Int64).toInt = 0 := rfl
                have e12 : (12 : Int64).toInt = 12 := rfl
                refine ⟨(τ.2.1 3 i).toInt.toNat, by omega, ?_⟩
                have : τ.2.1 3 i = lN (τ.2.1 3 i).toInt.toNat := by
                  apply Int64.toInt_inj.mp
                  rw [n_t (by omega)]
                  omega
                conv => lhs; rw [this]
                exact lN_i _
              obtain ⟨k, hk, hkv⟩ := hv
              obtain ⟨hR, f1, f2, f3, f4, f5, f6, f7⟩ := h.fix hi 40
              have eu : (f_X5_giveUp σ (nI i) 40).2.1 2 i = τ.2.1 3 i := by rw [f1]; exact g2
              have ev : (f_X6_fix τ (nI i) 40).2.1 3 i = τ.2.1 3 i := by rw [f2]
              generalize f_X5_giveUp σ (nI i) 40 = u at hR eu ⊢
              generalize f_X6_fix τ (nI i) 40 = v at hR ev ⊢
              have hN := hR.none (h0 := p)
              have eu2 : (uR u p Option.none).2.1 2 i = τ.2.1 3 i := eu
              have ev2 : (uI v 5 p (-1)).2.1 3 i = τ.2.1 3 i := ev
              rw [eu2]
              have hnone : (uR u p Option.none).2.2 p = Option.none := by rw [uR_3, if_pos rfl]
              obtain ⟨q1, q2⟩ := unh_ok hp hnone
              have ha : arrI (uI v 5 p (-1)) (nI 0) := by
                have := arrI_0 (σ := v) (h := nI p) (vp_in_nI hp (by decide))
                rw [nI_cl (show p < 2 ^ 31 by omega)] at this
                exact this
              obtain ⟨s, s1, s2, s3⟩ := m_88 (h := p) (x2 := x2) (x3 := nI i) hp 5 0 (by decide) (by decide) ha
              rw [show nI 0 = 0 from rfl, nI_cl (show i < 2 ^ 31 by omega), ev2, hkv] at s3
              rw [show (((4 : Int32).toInt - Int32.toInt 0).toNat + 1) = 5 from rfl, s3, hkv]
              generalize f_X5_unheld (uR u p Option.none) = c at q1 q2 ⊢
              generalize uR u p Option.none = σ1 at hN hnone q2 ⊢
              generalize uI v 5 p (-1) = τ1 at hN s2 ⊢
              obtain ⟨τ2, t0, t1, t2, t3, t4⟩ := m_171 s1 13 0 (uI (uI (uI τ1 5 p (nI s)) 6 s x2) 7 s (nI k)) (by decide) (by decide)
              rw [show nI 0 = 0 from rfl] at t0
              rw [t0]
              refine ⟨rfl, ?_⟩
              unfold f_X0_renew
              rw [show (((12 : Int32).toInt - Int32.toInt 0).toNat + 1) = 13 from rfl, show (0 : Int32) = nI 0 from rfl]
              obtain ⟨r1, r2, r3, r4, r5⟩ := ren_12 c 13 0 (uI (uI σ1 (10 + 3 * c) 0 x2) (10 + 3 * c) 1 (nI k)) (by decide) (by decide)
              generalize f_X0_renew_12 13 c (uI (uI σ1 (10 + 3 * c) 0 x2) (10 + 3 * c) 1 (nI k)) (nI 0) = σ2 at r1 r2 r3 r4 r5 ⊢
              have e10 : σ2.1 (10 + 3 * c) 0 = x2 ∧ σ2.1 (10 + 3 * c) 1 = nI k := by
                rw [r1 _ (by omega)]
                exact ⟨by rw [uI_1, if_neg (by omega), uI_1]; simp, by rw [uI_1]; simp⟩
              have e6 : τ2.1 6 s = x2 := by rw [t1 6 (by decide) (by decide), uI_1, if_neg (by omega), uI_1]; simp
              have e7 : τ2.1 7 s = nI k := by rw [t1 7 (by decide) (by decide), uI_1]; simp
              have hx2 : 0 ≤ x2.toInt ∧ x2.toInt ≤ 7 := by
                have := (inR_t (by decide)).mp c2
                omega
              refine hN.arr (h0 := p) (c := c) (s := s) q1 s1 ?_ ?_ ?_ ?_ ?_ ?_ ?_ ?_ ?_ ?_
              · intro x n1 n2
                show σ2.1 x = σ1.1 x
                rw [r1 x n2]
                funext j
                rw [uI_1, if_neg (by omega), uI_1, if_neg (by omega)]
              · intro x n1
                show σ2.2.1 x = σ1.2.1 x
                rw [r2 x n1]
                rfl
              · intro x n1 n2 n3 n4 n5 _
                rw [t1 x n1 n2]
                funext j
                rw [uI_1, if_neg (by omega), uI_1, if_neg (by omega), uI_1, if_neg (by omega)]
              · intro j hj
                obtain ⟨a, b, d⟩ := t3 j (by omega)
                rw [a, b, d]
                refine ⟨rfl, ?_, ?_⟩
                · rw [uI_1, if_neg (by omega), uI_1, if_neg (by omega), uI_1, if_neg (by omega)]
                · rw [uI_1, if_neg (by omega), uI_1, if_neg (by omega), uI_1, if_neg (by omega)]
              · intro j hj
                rw [t1 6 (by decide) (by decide), t1 7 (by decide) (by decide)]
                exact ⟨by rw [uI_1, if_neg (by omega), uI_1, if_neg (by omega), uI_1, if_neg (by omega)], by rw [uI_1, if_neg (by omega), uI_1, if_neg (by omega), uI_1, if_neg (by omega)]⟩
              · intro j
                rw [uR_3, r3]
                rfl
              · intro j
                rw [t1 5 (by decide) (by decide), uI_1, if_neg (by omega), uI_1, if_neg (by omega), uI_1]
                simp
              · intro g hg _
                exact ⟨fun z => absurd z (q2 g hg), fun z => absurd z (s2 g hg)⟩
              · show 0 ≤ (σ2.1 (10 + 3 * c) 1).toInt ∧ (σ2.1 (10 + 3 * c) 1).toInt ≤ 12
                rw [e10.2, nI_tI (by omega)]
                omega
              · refine ⟨?_, ?_, ?_, ?_⟩
                · show σ2.1 (10 + 3 * c) 0 = _
                  rw [e10.1, e6]
                · show σ2.1 (10 + 3 * c) 1 = _
                  rw [e10.2, e7]
                · rw [e6]
                  exact hx2
                · intro z hz
                  obtain ⟨a, b⟩ := r5 z (by omega) hz
                  obtain ⟨d1, d2, d3⟩ := t4 z (by omega) hz
                  show σ2.2.1 (11 + 3 * c) z = _ ∧ _ ∧ SR (σ2.1 (12 + 3 * c) z) _ _
                  rw [a, b, d1, d2, d3]
                  exact ⟨rfl, ⟨fun _ => wf_0 0, fun _ => wf_0 1⟩, SR.z⟩
            · rw [if_neg v0, if_neg v0]
              exact h.fail _
          · rw [if_neg v12, if_neg v12]
            exact ⟨rfl, h⟩
        · rw [if_neg (pX4 c1), if_neg (pX8 c2), if_pos (nI2 c3 c4), if_pos (pM4 c1), if_pos (pM8 c2), if_pos (pM8 c3)]
          obtain ⟨i, hi, rfl⟩ := c3
          rw [nI_cl (show i < 2 ^ 31 by omega), (h.rg i hi).1] at c4
          rw [nI_cl (show i < 2 ^ 31 by omega), if_neg c4]
          exact ⟨rfl, h⟩
      · rw [if_neg (pX4 c1), if_neg (pX8 c2), if_pos (nI1 c3), if_pos (pM4 c1), if_pos (pM8 c2), if_neg (nM8 c3)]
        exact ⟨rfl, h⟩
    · rw [if_neg (pX4 c1), if_pos (nX8 c2), if_pos (pM4 c1), if_neg (nM8 c2)]
      exact ⟨rfl, h⟩
  · rw [if_pos (nX4 c1), if_neg (nM4 c1)]
    exact ⟨rfl, h⟩
