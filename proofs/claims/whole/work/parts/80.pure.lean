theorem nv_pure (L : Nat) (hL : L ≤ 4608) (xs : Nat → Int32) : ∃ h : nv_Hp, fL_law_18 L xs nv_fu 0 nv_h0 = some (true, h) := by
  sorry
