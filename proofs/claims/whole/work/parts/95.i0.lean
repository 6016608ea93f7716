/-! the memory that the constructors leave: what always holds, holds at the start -/
theorem Inv_0 : Inv 0 s0 := by
  have hV : ∀ k, k < 8 → ∀ i, i < rng k → s0 (3 + k) i = s0 172 (trw k i) := by decide +kernel
  have z : ∀ k, k < 8 → k ≠ 0 → ∀ i, i < rng k → rv (s0 172) k i = 0 := by decide +kernel
  have z1 : ∀ k, k < 8 → k ≠ 0 → ∀ i, i < rng k → ∃ t, rv (s0 172) k i = nN t ∧ t = 0 := fun k h1 h2 i h3 => ⟨0, (z k h1 h2 i h3).trans rfl, rfl⟩
  refine ⟨⟨?_, 0, 0, ?_, by decide +kernel, by omega, by decide +kernel, fun ago h => by omega⟩, Or.inl ⟨by decide +kernel, by decide +kernel⟩, Or.inl ⟨by decide +kernel, by decide +kernel⟩, ⟨0, 0, by omega, by omega, by decide +kernel, by decide +kernel, by decide +kernel, fun i h => by omega⟩, ⟨0, by omega, by decide +kernel, by decide +kernel, fun i h => by omega⟩, by decide +kernel⟩
  · funext k i
    unfold hvr rv
    by_cases c : i < rng k
    · rw [if_pos c, if_pos c]
      refine hV k ?_ i c
      apply Classical.byContradiction
      intro h
      rw [rng_hi (by omega)] at c
      omega
    · rw [if_neg c, if_neg c]
  · refine ⟨⟨by decide +kernel, by omega⟩, ⟨0, by decide +kernel, by omega⟩, ⟨0, by decide +kernel, by omega⟩, ⟨5, by decide +kernel, by omega, by omega⟩, ⟨100, by decide +kernel, by omega, by omega⟩, ⟨0, by decide +kernel, by omega⟩, ?_, ⟨fun p h => by omega, fun p q h => by omega⟩, ⟨?_, ?_⟩, ⟨?_, ?_⟩, ?_, ⟨?_, ?_, ?_⟩, ⟨?_, ?_⟩⟩
    · intro p hp
      exact ⟨0, z 1 (by omega) (by omega) p (by rw [rng1]; exact hp), by omega⟩
    · intro p hp
      exact ⟨0, z 3 (by omega) (by omega) p (by rw [rng3]; exact hp), by omega⟩
    · intro p hp _
      exact z 3 (by omega) (by omega) p (by rw [rng3]; exact hp)
    · intro p hp
      exact ⟨0, z 4 (by omega) (by omega) p (by rw [rng4]; exact hp), by omega⟩
    · intro p hp _
      exact z 4 (by omega) (by omega) p (by rw [rng4]; exact hp)
    · intro i hi
      exact ⟨0, z 5 (by omega) (by omega) i (by rw [rng5]; exact hi), by omega⟩
    · intro p q hp hq
      exact ⟨0, z 6 (by omega) (by omega) _ (by rw [rng6]; omega), by omega⟩
    · intro p q hp hq
      rw [z 6 (by omega) (by omega) _ (by rw [rng6]; omega), z 6 (by omega) (by omega) _ (by rw [rng6]; omega)]
    · intro p hp
      exact z 6 (by omega) (by omega) _ (by rw [rng6]; omega)
    · intro p q hp hq
      exact ⟨0, z 7 (by omega) (by omega) _ (by rw [rng7]; omega), by omega⟩
    · intro p q hp hq
      rw [z 7 (by omega) (by omega) _ (by rw [rng7]; omega), z 7 (by omega) (by omega) _ (by rw [rng7]; omega)]
