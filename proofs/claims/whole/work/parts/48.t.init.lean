/-! new objects -/
theorem iX : ∀ r, r < 8 → sX0.1 3 r = 64 := by decide +kernel
theorem iM : ∀ r, r < 8 → sM0.1 4 r = 1 := by decide +kernel
theorem iS : ∀ r, r < 4 → sM0.1 5 r = -1 := by decide +kernel
theorem st_init : Rel sX0 sM0 := by
  have x0 : ∀ k, k ≠ 3 → sX0.1 k = fun _ => 0 := fun k hk => by show (if k = 3 then _ else fun _ => 0) = _; rw [if_neg hk]
  have m0 : ∀ k, k ≠ 5 → k ≠ 4 → sM0.1 k = fun _ => 0 := fun k h5 h4 => by show (if k = 5 then _ else if k = 4 then sM0e else fun _ => 0) = _; rw [if_neg h5, if_neg h4]
  refine ⟨⟨fun h i hi => absurd (show (none : Option Nat) = some i from hi) (by simp), fun i hi => ?_⟩, ⟨fun h hh => ?_, fun i hi => ?_⟩, ?_, ?_, ?_, ?_, ?_, ?_, ?_, ?_⟩
  · rw [x0 _ (by omega)]
    decide
  · rw [iS h hh]
    decide
  · rw [m0 7 (by decide) (by decide)]
    exact (by decide : 0 ≤ (0 : Int32).toInt ∧ (0 : Int32).toInt ≤ 12)
  · intro r hr
    rw [x0 1 (by decide), m0 1 (by decide) (by decide), m0 2 (by decide) (by decide), iX r hr, iM r hr]
    exact ⟨rfl, rfl, kv_01 (Or.inl rfl), SR.z⟩
  · intro h hh
    exact Or.inl ⟨rfl, iS h hh⟩
  · intro x y hx hy
    rw [iS x hx, iS y hy]
    exact ⟨fun _ => rfl, fun _ => rfl⟩
  · rw [x0 0 (by decide), m0 0 (by decide) (by decide)]
  · rw [x0 6 (by decide), m0 0 (by decide) (by decide)]
  · rw [x0 8 (by decide), m0 0 (by decide) (by decide)]
  · intro k hk
    rw [x0 7 (by decide), m0 8 (by decide) (by decide), m0 9 (by decide) (by decide)]
    exact ⟨rfl, rfl⟩
  · intro k hk
    rw [x0 9 (by decide), m0 10 (by decide) (by decide), m0 11 (by decide) (by decide), m0 12 (by decide) (by decide)]
    exact ⟨rfl, rfl, rfl⟩
