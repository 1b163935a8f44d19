/-! ===== the start ===== -/
set_option maxRecDepth 100000 in
theorem pu_R0 : pu_R nv_h0 := by
  refine ⟨0, 0, 0, 0, ?_, ?_, ?_, ?_, ?_, ?_, ?_, ?_⟩
  · have : ∀ j, j < 8 → nv_h0 78 j = nv_h0 1 j ∧ 0 ≤ (nv_h0 1 j).toInt ∧ (nv_h0 1 j).toInt ≤ 9999 := by decide +kernel
    exact this
  · refine ⟨⟨?_, ?_, by omega⟩, ⟨?_, ?_, by omega⟩, ⟨?_, ?_, by omega⟩, ⟨?_, ?_, by omega⟩, ?_⟩ <;> decide +kernel
  · intro i hi; omega
  · intro i hi; omega
  · intro i hi; omega
  · intro i hi; omega
  · intro l hl
    have e : pa_all (nv_h0 (60 + 3 * l)) 0 = (-1, pa_def) := by unfold pa_all; rw [if_pos rfl]
    refine ⟨⟨0, by omega, ?_, ?_, fun j hj => by omega⟩, ⟨0, by omega, ?_, ?_, ?_⟩⟩
    · have : ∀ l, l < 2 → nv_h0 (59 + 3 * l) 2 = nI 0 := by decide +kernel
      exact this l hl
    · have : ∀ l, l < 2 → nv_h0 106 l = nI 0 := by decide +kernel
      exact this l hl
    · have : ∀ l, l < 2 → nv_h0 (59 + 3 * l) 2 = nI 0 := by decide +kernel
      exact this l hl
    · rw [e]
      have : ∀ l, l < 2 → nv_h0 (59 + 3 * l) 3 = -1 := by decide +kernel
      exact this l hl
    · rw [e]
      have : ∀ l, l < 2 → ∀ j, j < 9 → nv_h0 (61 + 3 * l) j = pa_def j := by decide +kernel
      exact this l hl
  · intro s hs
    refine ⟨0, by omega, ?_, ?_, Or.inl ⟨?_, ?_⟩⟩
    · have : ∀ s, s < 4 → nv_h0 (65 + 2 * s) 3 = nI 0 := by decide +kernel
      exact this s hs
    · have : ∀ s, s < 4 → nv_h0 75 s = nI 0 := by decide +kernel
      exact this s hs
    · have : ∀ s, s < 4 → nv_h0 (65 + 2 * s) 1 = 1 := by decide +kernel
      exact this s hs
    · have : ∀ s, s < 4 → nv_h0 74 s = -1 := by decide +kernel
      exact this s hs
