/-! the relation of the class's state and the reference's -/
def KV (k : Int32) (v : Int64) : Prop := (k = 0 ∨ k = 1 ∨ k = 2 ∨ k = 3) ∧ (k = 2 → wf 0 v) ∧ (k = 3 → wf 1 v)
def KS (s : Int32) (v : Int64) : Prop := (s = 6 → wf 0 v) ∧ (s = 7 → wf 1 v)
def CR (σ τ : sm_S) (c s : Nat) : Prop := σ.1 (10 + 3 * c) 0 = τ.1 6 s ∧ σ.1 (10 + 3 * c) 1 = τ.1 7 s ∧ (0 ≤ (τ.1 6 s).toInt ∧ (τ.1 6 s).toInt ≤ 7) ∧ ∀ k, k < 12 → σ.2.1 (11 + 3 * c) k = τ.2.1 3 (8 + 12 * s + k) ∧ KS (τ.1 6 s) (τ.2.1 3 (8 + 12 * s + k)) ∧ SR (σ.1 (12 + 3 * c) k) (τ.1 2 (8 + 12 * s + k)) (τ.1 4 (8 + 12 * s + k))
def AH (σ τ : sm_S) (h : Nat) : Prop := (σ.2.2 h = none ∧ τ.1 5 h = -1) ∨ ∃ c s, c < 4 ∧ s < 4 ∧ σ.2.2 h = some c ∧ τ.1 5 h = nI s ∧ CR σ τ c s
def Rel (σ τ : sm_S) : Prop := invX σ ∧ invM τ ∧ (∀ r, r < 8 → σ.1 1 r = τ.1 1 r ∧ σ.2.1 2 r = τ.2.1 3 r ∧ KV (τ.1 1 r) (τ.2.1 3 r) ∧ SR (σ.1 3 r) (τ.1 2 r) (τ.1 4 r)) ∧ (∀ h, h < 4 → AH σ τ h) ∧ (∀ h g, h < 4 → g < 4 → (σ.2.2 h = σ.2.2 g ↔ τ.1 5 h = τ.1 5 g)) ∧ σ.1 0 0 = τ.1 0 2 ∧ σ.1 6 0 = τ.1 0 0 ∧ σ.1 8 0 = τ.1 0 1 ∧ (∀ k, k < 16 → σ.1 7 (rI (σ.1 6 0) k) = τ.1 8 k ∧ σ.1 7 (rI (σ.1 6 0) k + 1) = τ.1 9 k) ∧ (∀ k, k < 16 → σ.1 9 (rI (σ.1 8 0) k) = τ.1 10 k ∧ σ.1 9 (rI (σ.1 8 0) k + 1) = τ.1 11 k ∧ σ.1 9 (rI (σ.1 8 0) k + 2) = τ.1 12 k)
theorem Rel.ix {σ τ : sm_S} (h : Rel σ τ) : invX σ := h.1
theorem Rel.im {σ τ : sm_S} (h : Rel σ τ) : invM τ := h.2.1
theorem Rel.rg {σ τ : sm_S} (h : Rel σ τ) : ∀ r, r < 8 → σ.1 1 r = τ.1 1 r ∧ σ.2.1 2 r = τ.2.1 3 r ∧ KV (τ.1 1 r) (τ.2.1 3 r) ∧ SR (σ.1 3 r) (τ.1 2 r) (τ.1 4 r) := h.2.2.1
theorem Rel.ar {σ τ : sm_S} (h : Rel σ τ) : ∀ x, x < 4 → AH σ τ x := h.2.2.2.1
theorem Rel.aj {σ τ : sm_S} (h : Rel σ τ) : ∀ x g, x < 4 → g < 4 → (σ.2.2 x = σ.2.2 g ↔ τ.1 5 x = τ.1 5 g) := h.2.2.2.2.1
theorem Rel.ex {σ τ : sm_S} (h : Rel σ τ) : σ.1 0 0 = τ.1 0 2 := h.2.2.2.2.2.1
theorem Rel.pc {σ τ : sm_S} (h : Rel σ τ) : σ.1 6 0 = τ.1 0 0 := h.2.2.2.2.2.2.1
theorem Rel.wc {σ τ : sm_S} (h : Rel σ τ) : σ.1 8 0 = τ.1 0 1 := h.2.2.2.2.2.2.2.1
theorem Rel.pn {σ τ : sm_S} (h : Rel σ τ) : ∀ k, k < 16 → σ.1 7 (rI (σ.1 6 0) k) = τ.1 8 k ∧ σ.1 7 (rI (σ.1 6 0) k + 1) = τ.1 9 k := h.2.2.2.2.2.2.2.2.1
theorem Rel.wn {σ τ : sm_S} (h : Rel σ τ) : ∀ k, k < 16 → σ.1 9 (rI (σ.1 8 0) k) = τ.1 10 k ∧ σ.1 9 (rI (σ.1 8 0) k + 1) = τ.1 11 k ∧ σ.1 9 (rI (σ.1 8 0) k + 2) = τ.1 12 k := h.2.2.2.2.2.2.2.2.2
theorem CR.cg {σ τ σ' τ' : sm_S} {c s : Nat} (h : CR σ τ c s) (a : ∀ j, σ'.1 (10 + 3 * c) j = σ.1 (10 + 3 * c) j) (b : ∀ k, k < 12 → σ'.2.1 (11 + 3 * c) k = σ.2.1 (11 + 3 * c) k ∧ σ'.1 (12 + 3 * c) k = σ.1 (12 + 3 * c) k) (d : τ'.1 6 s = τ.1 6 s) (d2 : τ'.1 7 s = τ.1 7 s) (e : ∀ k, k < 12 → τ'.2.1 3 (8 + 12 * s + k) = τ.2.1 3 (8 + 12 * s + k) ∧ τ'.1 2 (8 + 12 * s + k) = τ.1 2 (8 + 12 * s + k) ∧ τ'.1 4 (8 + 12 * s + k) = τ.1 4 (8 + 12 * s + k)) : CR σ' τ' c s := by
  obtain ⟨h1, h2, h3, h4⟩ := h
  refine ⟨by rw [a, d]; exact h1, by rw [a, d2]; exact h2, by rw [d]; exact h3, fun k hk => ?_⟩
  rw [(b k hk).1, (b k hk).2, d, (e k hk).1, (e k hk).2.1, (e k hk).2.2]
  exact h4 k hk
/-- nothing but registers, and the reference's notes at work, has changed -/
theorem Rel.rgs {σ τ σ' τ' : sm_S} (h : Rel σ τ) (a : ∀ x, x ≠ 1 → x ≠ 3 → σ'.1 x = σ.1 x) (b : ∀ x, x ≠ 2 → σ'.2.1 x = σ.2.1 x) (c : σ'.2.2 = σ.2.2) (d : ∀ x, x ≠ 1 → x ≠ 2 → x ≠ 4 → x < 15 → τ'.1 x = τ.1 x) (e : ∀ j, 8 ≤ j → τ'.2.1 3 j = τ.2.1 3 j ∧ τ'.1 2 j = τ.1 2 j ∧ τ'.1 4 j = τ.1 4 j) (rg : ∀ r, r < 8 → σ'.1 1 r = τ'.1 1 r ∧ σ'.2.1 2 r = τ'.2.1 3 r ∧ KV (τ'.1 1 r) (τ'.2.1 3 r) ∧ SR (σ'.1 3 r) (τ'.1 2 r) (τ'.1 4 r)) : Rel σ' τ' := by
  have d0 := d 0 (by decide) (by decide) (by decide) (by decide)
  have d5 := d 5 (by decide) (by decide) (by decide) (by decide)
  have d6 := d 6 (by decide) (by decide) (by decide) (by decide)
  have d7 := d 7 (by decide) (by decide) (by decide) (by decide)
  have d8 := d 8 (by decide) (by decide) (by decide) (by decide)
  have d9 := d 9 (by decide) (by decide) (by decide) (by decide)
  have d10 := d 10 (by decide) (by decide) (by decide) (by decide)
  have d11 := d 11 (by decide) (by decide) (by decide) (by decide)
  have d12 := d 12 (by decide) (by decide) (by decide) (by decide)
  have a0 := a 0 (by decide) (by decide)
  have a6 := a 6 (by decide) (by decide)
  have a7 := a 7 (by decide) (by decide)
  have a8 := a 8 (by decide) (by decide)
  have a9 := a 9 (by decide) (by decide)
  refine ⟨?_, ?_, rg, ?_, ?_, ?_, ?_, ?_, ?_, ?_⟩
  · refine ⟨by rw [c]; exact h.ix.1, fun i hi => ?_⟩
    rw [a _ (by omega) (by omega)]
    exact h.ix.2 i hi
  · unfold invM
    rw [d5, d7]
    exact h.im
  · intro x hx
    rcases h.ar x hx with ⟨q1, q2⟩ | ⟨p, s, q1, q2, q3, q4, q5⟩
    · exact Or.inl ⟨by rw [c]; exact q1, by rw [d5]; exact q2⟩
    · refine Or.inr ⟨p, s, q1, q2, by rw [c]; exact q3, by rw [d5]; exact q4, q5.cg (fun j => by rw [a _ (by omega) (by omega)]) (fun k hk => ⟨by rw [b _ (by omega)], by rw [a _ (by omega) (by omega)]⟩) (by rw [d6]) (by rw [d7]) (fun k hk => e _ (by omega))⟩
  · intro x y hx hy
    rw [c, d5]
    exact h.aj x y hx hy
  · rw [a0, d0]; exact h.ex
  · rw [a6, d0]; exact h.pc
  · rw [a8, d0]; exact h.wc
  · intro k hk
    rw [a6, a7, d8, d9]
    exact h.pn k hk
  · intro k hk
    rw [a8, a9, d10, d11, d12]
    exact h.wn k hk
theorem Rel.sqr {σ τ τ' : sm_S} (h : Rel σ τ) (q : sq τ' τ) : Rel σ τ' := by
  have e : ∀ k, k < 15 → τ'.1 k = τ.1 k := fun k hk => q.1 k (by omega) (by omega) (by omega)
  have e3 := q.2.1 3 (by decide)
  refine h.rgs (fun _ _ _ => rfl) (fun _ _ => rfl) rfl (fun x _ _ _ hx => e x hx) (fun j _ => ⟨by rw [e3], by rw [e 2 (by decide)], by rw [e 4 (by decide)]⟩) (fun r hr => ?_)
  rw [e 1 (by decide), e 2 (by decide), e 4 (by decide), e3]
  exact h.rg r hr
/-- a register is written -/
theorem Rel.put {σ τ τ1 : sm_S} {r : Nat} {k sh s e : Int32} {v : Int64} (h : Rel σ τ) (hr : r < 8) (hk : KV k v) (hs : SR sh s e) (q : sq τ1 (uI τ 1 r k)) : Rel (f_X5_put σ (nI r) k v sh) (uI (uI (uL τ1 3 r v) 2 r s) 4 r e) := by
  have ee : ∀ x, x < 15 → x ≠ 1 → τ1.1 x = τ.1 x := fun x hx h1 => by
    rw [q.1 x (by omega) (by omega) (by omega)]
    funext j
    rw [uI_1, if_neg (by omega)]
  have e1 : ∀ j, τ1.1 1 j = if j = r then k else τ.1 1 j := fun j => by
    rw [q.1 1 (by omega) (by omega) (by omega), uI_1]
    simp
  have e3 : τ1.2.1 3 = τ.2.1 3 := q.2.1 3 (by decide)
  unfold f_X5_put
  rw [nI_cl (by omega)]
  refine h.rgs ?_ ?_ rfl ?_ ?_ ?_
  · intro x h1 h3
    funext j
    simp [uI_1, uL_1, h1, h3]
  · intro x h2
    funext j
    rw [uI_2, uL_2, uI_2, if_neg (by omega)]
  · intro x h1 h2 h4 hx
    funext j
    rw [uI_1, if_neg (by omega), uI_1, if_neg (by omega), uL_1, ee x hx h1]
  · intro j hj
    refine ⟨?_, ?_, ?_⟩
    · rw [uI_2, uI_2, uL_2, if_neg (by omega), e3]
    · rw [uI_1, if_neg (by omega), uI_1, if_neg (by omega), uL_1, ee 2 (by decide) (by decide)]
    · rw [uI_1, if_neg (by omega), uI_1, if_neg (by omega), uL_1, ee 4 (by decide) (by decide)]
  · intro p hp
    have hg := h.rg p hp
    simp only [uI_1, uL_1, uI_2, uL_2, e1, e3, ee 2 (by decide) (by decide), ee 4 (by decide) (by decide)]
    by_cases c : p = r
    · subst c
      simp
      exact ⟨hk, hs⟩
    · simp [c]
      exact hg
/-- an exception -/
theorem Rel.fail {σ τ : sm_S} (h : Rel σ τ) (x : Int32) : (f_X5_failed σ x).1 = (f_X6_exception τ x).1 ∧ Rel (f_X5_failed σ x).2 (f_X6_exception τ x).2 := by
  refine ⟨rfl, ?_⟩
  unfold f_X5_failed f_X6_exception
  have a : ∀ y, y ≠ 0 → (uI σ 0 0 (σ.1 0 0 + 1)).1 y = σ.1 y := fun y hy => by funext j; rw [uI_1, if_neg (by omega)]
  have b : ∀ y, y ≠ 0 → (uI τ 0 2 (τ.1 0 2 + 1)).1 y = τ.1 y := fun y hy => by funext j; rw [uI_1, if_neg (by omega)]
  refine ⟨?_, ?_, ?_, ?_, h.aj, ?_, ?_, ?_, ?_, ?_⟩
  · exact ⟨h.ix.1, fun i hi => by rw [a _ (by omega)]; exact h.ix.2 i hi⟩
  · unfold invM
    rw [b 5 (by decide), b 7 (by decide)]
    exact h.im
  · intro r hr
    rw [a 1 (by decide), a 3 (by decide), b 1 (by decide), b 2 (by decide), b 4 (by decide)]
    exact h.rg r hr
  · intro y hy
    rcases h.ar y hy with ⟨q1, q2⟩ | ⟨p, s, q1, q2, q3, q4, q5⟩
    · exact Or.inl ⟨q1, by rw [b 5 (by decide)]; exact q2⟩
    · exact Or.inr ⟨p, s, q1, q2, q3, by rw [b 5 (by decide)]; exact q4, q5.cg (fun j => by rw [a _ (by omega)]) (fun k _ => ⟨rfl, by rw [a _ (by omega)]⟩) (by rw [b 6 (by decide)]) (by rw [b 7 (by decide)]) (fun k _ => ⟨rfl, by rw [b 2 (by decide)], by rw [b 4 (by decide)]⟩)⟩
  · rw [uI_1, uI_1]
    simp [h.ex]
  · rw [a 6 (by decide), uI_1]
    simpa using h.pc
  · rw [a 8 (by decide), uI_1]
    simpa using h.wc
  · intro k hk
    rw [a 6 (by decide), a 7 (by decide), b 8 (by decide), b 9 (by decide)]
    exact h.pn k hk
  · intro k hk
    rw [a 8 (by decide), a 9 (by decide), b 10 (by decide), b 11 (by decide), b 12 (by decide)]
    exact h.wn k hk
/-- a register is pinned -/
theorem Rel.fix {σ τ : sm_S} {r : Nat} (h : Rel σ τ) (hr : r < 8) (op : Int32) : Rel (f_X5_giveUp σ (nI r) op) (f_X6_fix τ (nI r) op) ∧ (f_X5_giveUp σ (nI r) op).2 = σ.2 ∧ (f_X6_fix τ (nI r) op).2 = τ.2 ∧ (∀ x, x ≠ 3 → x ≠ 6 → x ≠ 7 → (f_X5_giveUp σ (nI r) op).1 x = σ.1 x) ∧ (∀ x, x ≠ 0 → x ≠ 2 → x ≠ 4 → x ≠ 8 → x ≠ 9 → (f_X6_fix τ (nI r) op).1 x = τ.1 x) ∧ (∀ j, j ≠ r → (f_X6_fix τ (nI r) op).1 2 j = τ.1 2 j ∧ (f_X6_fix τ (nI r) op).1 4 j = τ.1 4 j) ∧ (f_X6_fix τ (nI r) op).1 2 r = 0 ∧ (f_X6_fix τ (nI r) op).1 4 r = 1 := by
  obtain ⟨g1, g2, g3, g4⟩ := h.rg r hr
  unfold f_X5_giveUp f_X6_fix
  rw [nI_cl (by omega), g4.a63]
  simp only [sm_le]
  by_cases c : τ.1 2 r = 0
  · rw [if_pos c, if_pos c]
    exact ⟨h, rfl, rfl, fun _ _ _ _ => rfl, fun _ _ _ _ _ _ => rfl, fun _ _ => ⟨rfl, rfl⟩, c, g4.sz c⟩
  · rw [if_neg c, if_neg c, show ((Int32.toInt 15 - (0 : Int32).toInt).toNat + 1) = 16 from rfl, show (15 : Int32) = nI 15 from rfl]
    obtain ⟨f1, f2⟩ := fix_13 (nI r) op 15 16 τ (by decide) (by decide)
    obtain ⟨a1, a2⟩ := add_eq 6 σ op (τ.1 2 r) 0
    rw [nI_cl (by omega)] at f2
    generalize f_X6_fix_13 16 (nI r) op τ (nI 15) = ρ at f1 f2 ⊢
    generalize f_X2_add 6 σ op (τ.1 2 r) 0 = π at a1 a2 ⊢
    have fo : ∀ x, x ≠ 0 → x ≠ 2 → x ≠ 4 → x ≠ 8 → x ≠ 9 → ρ.1 x = τ.1 x := fun x h0 h2 h4 h8 h9 => by
      funext j
      rw [f2]
      simp [h0, h2, h4, h8, h9]
    have ao : ∀ x, x ≠ 6 → x ≠ 7 → π.1 x = σ.1 x := fun x h6 h7 => by
      funext j
      rw [a2]
      simp [h6, h7]
    have af : ∀ x, x ≠ 3 → x ≠ 6 → x ≠ 7 → (uI π 3 r 64).1 x = σ.1 x := fun x h3 h6 h7 => by
      funext j
      rw [uI_1, if_neg (by omega), ao x h6 h7]
    have f2r : ∀ j, ρ.1 2 j = if j = r then 0 else τ.1 2 j := fun j => by rw [f2]; simp
    have f4r : ∀ j, ρ.1 4 j = if j = r then 1 else τ.1 4 j := fun j => by rw [f2]; simp
    refine ⟨?_, by rw [uI_2]; exact a1, f1, af, fo, fun j hj => ⟨by rw [f2r, if_neg hj], by rw [f4r, if_neg hj]⟩, by rw [f2r, if_pos rfl], by rw [f4r, if_pos rfl]⟩
    have l1 : (uI π 3 r 64).2.1 = σ.2.1 := by rw [uI_2, a1]
    have l2 : (uI π 3 r 64).2.2 = σ.2.2 := by rw [uI_2, a1]
    have m1 : ρ.2.1 = τ.2.1 := by rw [f1]
    refine ⟨?_, ?_, ?_, ?_, ?_, ?_, ?_, ?_, ?_, ?_⟩
    · exact ⟨by rw [l2]; exact h.ix.1, fun i hi => by rw [af _ (by omega) (by omega) (by omega)]; exact h.ix.2 i hi⟩
    · unfold invM
      rw [fo 5 (by decide) (by decide) (by decide) (by decide) (by decide), fo 7 (by decide) (by decide) (by decide) (by decide) (by decide)]
      exact h.im
    · intro p hp
      have hg := h.rg p hp
      rw [af 1 (by decide) (by decide) (by decide), fo 1 (by decide) (by decide) (by decide) (by decide) (by decide), l1, m1, f2r, f4r]
      refine ⟨hg.1, hg.2.1, hg.2.2.1, ?_⟩
      rw [uI_1]
      by_cases d : p = r
      · rw [if_pos ⟨rfl, d⟩, if_pos d, if_pos d]
        exact SR.z
      · rw [if_neg (by omega), if_neg d, if_neg d, ao 3 (by decide) (by decide)]
        exact hg.2.2.2
    · intro y hy
      rcases h.ar y hy with ⟨q1, q2⟩ | ⟨p, s, q1, q2, q3, q4, q5⟩
      · exact Or.inl ⟨by rw [l2]; exact q1, by rw [fo 5 (by decide) (by decide) (by decide) (by decide) (by decide)]; exact q2⟩
      · exact Or.inr ⟨p, s, q1, q2, by rw [l2]; exact q3, by rw [fo 5 (by decide) (by decide) (by decide) (by decide) (by decide)]; exact q4, q5.cg (fun j => by rw [af _ (by omega) (by omega) (by omega)]) (fun k _ => ⟨by rw [l1], by rw [af _ (by omega) (by omega) (by omega)]⟩) (by rw [fo 6 (by decide) (by decide) (by decide) (by decide) (by decide)]) (by rw [fo 7 (by decide) (by decide) (by decide) (by decide) (by decide)]) (fun k _ => ⟨by rw [m1], by rw [f2r, if_neg (by omega)], by rw [f4r, if_neg (by omega)]⟩)⟩
    · intro x y hx hy
      rw [l2, fo 5 (by decide) (by decide) (by decide) (by decide) (by decide)]
      exact h.aj x y hx hy
    · rw [af 0 (by decide) (by decide) (by decide), f2]
      simpa using h.ex
    · rw [uI_1, f2, a2]
      simp [h.pc]
    · rw [af 8 (by decide) (by decide) (by decide), f2]
      simpa using h.wc
    · intro k hk
      have e6 : (uI π 3 r 64).1 6 0 = σ.1 6 0 + 1 := by rw [uI_1, a2]; simp
      have e7 : ∀ j, (uI π 3 r 64).1 7 j = if j = rS (σ.1 6 0) then op else if j = rS (σ.1 6 0) + 1 then τ.1 2 r else if j = rS (σ.1 6 0) + 2 then 0 else σ.1 7 j := fun j => by rw [uI_1, a2]; simp
      rw [e6, e7, e7, f2, f2]
      simp only [if_true, if_pos, show ¬ (9 : Nat) = 8 by decide, if_false]
      unfold shf
      by_cases k0 : k = 0
      · subst k0
        rw [rI_0]
        simp
      · obtain ⟨r1, r2⟩ := rI_s (σ.1 6 0) (show 1 ≤ k by omega) hk
        rw [r1, if_neg k0, if_neg k0, if_pos (show k ≤ 15 by omega), if_pos (show k ≤ 15 by omega)]
        rw [if_neg (by omega), if_neg (by omega), if_neg (by omega), if_neg (by omega), if_neg (by omega), if_neg (by omega)]
        exact h.pn (k - 1) (by omega)
    · intro k hk
      rw [af 8 (by decide) (by decide) (by decide), af 9 (by decide) (by decide) (by decide), fo 10 (by decide) (by decide) (by decide) (by decide) (by decide), fo 11 (by decide) (by decide) (by decide) (by decide) (by decide), fo 12 (by decide) (by decide) (by decide) (by decide) (by decide)]
      exact h.wn k hk
