/-! ===== operation: leave ===== -/
theorem pm_lays_sp {h : nv_Hp} {n : Nat} (hn : h 73 6 = nI n) (n13 : n < 13) (x1 x2 x3 x4 x5 x6 x7 x8 gv rt ps : Int32) (hs : (x1 = 3 ∧ ∃ r, r < n ∧ x2 = nI r ∧ gv = h 80 r ∧ rt = x2 ∧ ps = h 88 r + 1) ∨ (x1 ≠ 3 ∧ gv = x2 ∧ rt = -1 ∧ ps = 0)) :
    ∃ h', pm_lays h x1 x2 x3 x4 x5 x6 x7 x8 = some h' ∧ (∀ k, ¬ (79 ≤ k ∧ k ≤ 88) → k ≠ 73 → h' k = h k) ∧ (∀ j, j ≠ 6 → h' 73 j = h 73 j) ∧ h' 73 6 = nI (n + 1) ∧ (∀ k j, k ≠ 73 → j ≠ n → h' k j = h k j) ∧ h' 79 n = x1 ∧ h' 80 n = gv ∧ h' 81 n = x3 ∧ h' 82 n = x4 ∧ h' 83 n = x5 ∧ h' 84 n = x6 ∧ h' 85 n = x7 ∧ h' 86 n = x8 ∧ h' 87 n = rt ∧ h' 88 n = ps := by
  have i0 : (nv_up h 79 n (x1)) 73 6 = nI n := by rw [nv_up_k _ _ (by decide)]; exact hn
  have i1 : (nv_up (nv_up h 79 n (x1)) 87 n (rt)) 73 6 = nI n := by rw [nv_up_k _ _ (by decide)]; exact i0
  have i2 : (nv_up (nv_up (nv_up h 79 n (x1)) 87 n (rt)) 80 n (gv)) 73 6 = nI n := by rw [nv_up_k _ _ (by decide)]; exact i1
  have i3 : (nv_up (nv_up (nv_up (nv_up h 79 n (x1)) 87 n (rt)) 80 n (gv)) 88 n (ps)) 73 6 = nI n := by rw [nv_up_k _ _ (by decide)]; exact i2
  have i4 : (nv_up (nv_up (nv_up (nv_up (nv_up h 79 n (x1)) 87 n (rt)) 80 n (gv)) 88 n (ps)) 81 n (x3)) 73 6 = nI n := by rw [nv_up_k _ _ (by decide)]; exact i3
  have i5 : (nv_up (nv_up (nv_up (nv_up (nv_up (nv_up h 79 n (x1)) 87 n (rt)) 80 n (gv)) 88 n (ps)) 81 n (x3)) 82 n (x4)) 73 6 = nI n := by rw [nv_up_k _ _ (by decide)]; exact i4
  have i6 : (nv_up (nv_up (nv_up (nv_up (nv_up (nv_up (nv_up h 79 n (x1)) 87 n (rt)) 80 n (gv)) 88 n (ps)) 81 n (x3)) 82 n (x4)) 83 n (x5)) 73 6 = nI n := by rw [nv_up_k _ _ (by decide)]; exact i5
  have i7 : (nv_up (nv_up (nv_up (nv_up (nv_up (nv_up (nv_up (nv_up h 79 n (x1)) 87 n (rt)) 80 n (gv)) 88 n (ps)) 81 n (x3)) 82 n (x4)) 83 n (x5)) 84 n (x6)) 73 6 = nI n := by rw [nv_up_k _ _ (by decide)]; exact i6
  have i8 : (nv_up (nv_up (nv_up (nv_up (nv_up (nv_up (nv_up (nv_up (nv_up h 79 n (x1)) 87 n (rt)) 80 n (gv)) 88 n (ps)) 81 n (x3)) 82 n (x4)) 83 n (x5)) 84 n (x6)) 85 n (x7)) 73 6 = nI n := by rw [nv_up_k _ _ (by decide)]; exact i7
  have i9 : (nv_up (nv_up (nv_up (nv_up (nv_up (nv_up (nv_up (nv_up (nv_up (nv_up h 79 n (x1)) 87 n (rt)) 80 n (gv)) 88 n (ps)) 81 n (x3)) 82 n (x4)) 83 n (x5)) 84 n (x6)) 85 n (x7)) 86 n (x8)) 73 6 = nI n := by rw [nv_up_k _ _ (by decide)]; exact i8
  refine ⟨nv_up (nv_up (nv_up (nv_up (nv_up (nv_up (nv_up (nv_up (nv_up (nv_up (nv_up h 79 n (x1)) 87 n (rt)) 80 n (gv)) 88 n (ps)) 81 n (x3)) 82 n (x4)) 83 n (x5)) 84 n (x6)) 85 n (x7)) 86 n (x8)) 73 6 (nI (n + 1)), ?_, fun k hk h7 => by rw [pu_up_c h7, pu_up_c (by omega), pu_up_c (by omega), pu_up_c (by omega), pu_up_c (by omega), pu_up_c (by omega), pu_up_c (by omega), pu_up_c (by omega), pu_up_c (by omega), pu_up_c (by omega), pu_up_c (by omega)], fun j hj => by rw [nv_up_j _ _ hj, nv_up_k _ _ (by decide), nv_up_k _ _ (by decide), nv_up_k _ _ (by decide), nv_up_k _ _ (by decide), nv_up_k _ _ (by decide), nv_up_k _ _ (by decide), nv_up_k _ _ (by decide), nv_up_k _ _ (by decide), nv_up_k _ _ (by decide), nv_up_k _ _ (by decide)], nv_up_s .., fun k j hk hj => by rw [nv_up_k _ _ hk, nv_up_j _ _ hj, nv_up_j _ _ hj, nv_up_j _ _ hj, nv_up_j _ _ hj, nv_up_j _ _ hj, nv_up_j _ _ hj, nv_up_j _ _ hj, nv_up_j _ _ hj, nv_up_j _ _ hj, nv_up_j _ _ hj], ?_, ?_, ?_, ?_, ?_, ?_, ?_, ?_, ?_, ?_⟩
  · rcases hs with ⟨rfl, r, hr, rfl, e1, e2, e3⟩ | ⟨q, e1, e2, e3⟩
    · subst e1 e2 e3
      unfold pm_lays pm_lays_28 pm_lays_52 pm_lays_78
      simp only [nv_lt, if_true, pu_inb n13 (show 13 < 2 ^ 31 by omega), pu_inb (show r < 13 by omega) (show 13 < 2 ^ 31 by omega), nI_clamp (show n < 2 ^ 31 by omega), nI_clamp (show r < 2 ^ 31 by omega), Option.bind_some, hn, i0, i1, i2, i3, i4, i5, i6, i7, i8, i9, nI_1, nv_up_j _ _ (show r ≠ n by omega)]
    · subst e1 e2 e3
      unfold pm_lays pm_lays_28 pm_lays_52 pm_lays_78
      simp only [nv_lt, q, if_true, if_false, pu_inb n13 (show 13 < 2 ^ 31 by omega), nI_clamp (show n < 2 ^ 31 by omega), Option.bind_some, hn, i0, i1, i2, i3, i4, i5, i6, i7, i8, i9, nI_1]
  · rw [nv_up_k _ _ (by decide), nv_up_k _ _ (by decide), nv_up_k _ _ (by decide), nv_up_k _ _ (by decide), nv_up_k _ _ (by decide), nv_up_k _ _ (by decide), nv_up_k _ _ (by decide), nv_up_k _ _ (by decide), nv_up_k _ _ (by decide), nv_up_k _ _ (by decide), nv_up_s]
  · rw [nv_up_k _ _ (by decide), nv_up_k _ _ (by decide), nv_up_k _ _ (by decide), nv_up_k _ _ (by decide), nv_up_k _ _ (by decide), nv_up_k _ _ (by decide), nv_up_k _ _ (by decide), nv_up_k _ _ (by decide), nv_up_s]
  · rw [nv_up_k _ _ (by decide), nv_up_k _ _ (by decide), nv_up_k _ _ (by decide), nv_up_k _ _ (by decide), nv_up_k _ _ (by decide), nv_up_k _ _ (by decide), nv_up_s]
  · rw [nv_up_k _ _ (by decide), nv_up_k _ _ (by decide), nv_up_k _ _ (by decide), nv_up_k _ _ (by decide), nv_up_k _ _ (by decide), nv_up_s]
  · rw [nv_up_k _ _ (by decide), nv_up_k _ _ (by decide), nv_up_k _ _ (by decide), nv_up_k _ _ (by decide), nv_up_s]
  · rw [nv_up_k _ _ (by decide), nv_up_k _ _ (by decide), nv_up_k _ _ (by decide), nv_up_s]
  · rw [nv_up_k _ _ (by decide), nv_up_k _ _ (by decide), nv_up_s]
  · rw [nv_up_k _ _ (by decide), nv_up_s]
  · rw [nv_up_k _ _ (by decide), nv_up_k _ _ (by decide), nv_up_k _ _ (by decide), nv_up_k _ _ (by decide), nv_up_k _ _ (by decide), nv_up_k _ _ (by decide), nv_up_k _ _ (by decide), nv_up_k _ _ (by decide), nv_up_k _ _ (by decide), nv_up_s]
  · rw [nv_up_k _ _ (by decide), nv_up_k _ _ (by decide), nv_up_k _ _ (by decide), nv_up_k _ _ (by decide), nv_up_k _ _ (by decide), nv_up_k _ _ (by decide), nv_up_k _ _ (by decide), nv_up_s]
theorem fc_lays_sp {h : nv_Hp} {n : Nat} (hn : h 0 7 = nI n) (n12 : n < 12) (x1 x2 x3 x4 x5 x6 x7 x8 gv rt ps : Int32) (hs : (x1 = 3 ∧ ∃ r, r < n ∧ x2 = nI r ∧ gv = h (13 + r) 1 ∧ rt = x2 ∧ ps = h (13 + r) 9 + 1) ∨ (x1 ≠ 3 ∧ gv = x2 ∧ rt = -1 ∧ ps = 0)) (hg : fc_mayBeGiven h x1 x2 x3 x4 = some true) (hsc : fc_isScope x5 x6 x7 x8 = true) :
    ∃ h', fc_leave h x1 x2 x3 x4 x5 x6 x7 x8 = some (nI n, h') ∧ (∀ k, k ≠ 13 + n → k ≠ 0 → h' k = h k) ∧ (∀ j, j ≠ 7 → h' 0 j = h 0 j) ∧ h' 0 7 = nI (n + 1) ∧ h' (13 + n) 0 = x1 ∧ h' (13 + n) 1 = gv ∧ h' (13 + n) 2 = x3 ∧ h' (13 + n) 3 = x4 ∧ h' (13 + n) 4 = x5 ∧ h' (13 + n) 5 = x6 ∧ h' (13 + n) 6 = x7 ∧ h' (13 + n) 7 = x8 ∧ h' (13 + n) 8 = rt ∧ h' (13 + n) 9 = ps := by
  have e0 : (nv_up (nv_up (nv_up (nv_up (nv_up (nv_up (nv_up (nv_up (nv_up (nv_up h (13 + n) 0 (x1)) (13 + n) 2 (x3)) (13 + n) 3 (x4)) (13 + n) 4 (x5)) (13 + n) 5 (x6)) (13 + n) 6 (x7)) (13 + n) 7 (x8)) (13 + n) 1 (gv)) (13 + n) 8 (rt)) (13 + n) 9 (ps)) 0 7 = nI n := by rw [nv_up_k _ _ (by omega), nv_up_k _ _ (by omega), nv_up_k _ _ (by omega), nv_up_k _ _ (by omega), nv_up_k _ _ (by omega), nv_up_k _ _ (by omega), nv_up_k _ _ (by omega), nv_up_k _ _ (by omega), nv_up_k _ _ (by omega), nv_up_k _ _ (by omega)]; exact hn
  refine ⟨nv_up (nv_up (nv_up (nv_up (nv_up (nv_up (nv_up (nv_up (nv_up (nv_up (nv_up h (13 + n) 0 (x1)) (13 + n) 2 (x3)) (13 + n) 3 (x4)) (13 + n) 4 (x5)) (13 + n) 5 (x6)) (13 + n) 6 (x7)) (13 + n) 7 (x8)) (13 + n) 1 (gv)) (13 + n) 8 (rt)) (13 + n) 9 (ps)) 0 7 (nI (n + 1)), ?_, fun k hk h0 => by rw [pu_up_c h0, pu_up_c hk, pu_up_c hk, pu_up_c hk, pu_up_c hk, pu_up_c hk, pu_up_c hk, pu_up_c hk, pu_up_c hk, pu_up_c hk, pu_up_c hk], fun j hj => by rw [nv_up_j _ _ hj, nv_up_k _ _ (by omega), nv_up_k _ _ (by omega), nv_up_k _ _ (by omega), nv_up_k _ _ (by omega), nv_up_k _ _ (by omega), nv_up_k _ _ (by omega), nv_up_k _ _ (by omega), nv_up_k _ _ (by omega), nv_up_k _ _ (by omega), nv_up_k _ _ (by omega)], nv_up_s .., ?_, ?_, ?_, ?_, ?_, ?_, ?_, ?_, ?_, ?_⟩
  · unfold fc_leave
    rw [hg, Option.bind_some, if_pos rfl, if_pos hsc, hn, if_pos (show nI n < 12 from nI_lt (b := 12) n12 (by omega)), if_pos (pu_inb n12 (by omega)), nI_clamp (by omega)]
    simp only [nv_lt]
    generalize eg : nv_up (nv_up (nv_up (nv_up (nv_up (nv_up (nv_up h (13 + n) 0 (x1)) (13 + n) 2 (x3)) (13 + n) 3 (x4)) (13 + n) 4 (x5)) (13 + n) 5 (x6)) (13 + n) 6 (x7)) (13 + n) 7 (x8) = g
    have gk : ∀ k, k ≠ 13 + n → g k = h k := fun k hk => by rw [← eg, pu_up_c hk, pu_up_c hk, pu_up_c hk, pu_up_c hk, pu_up_c hk, pu_up_c hk, pu_up_c hk]
    have g0 : g (13 + n) 0 = x1 := by rw [← eg, nv_up_j _ _ (by decide), nv_up_j _ _ (by decide), nv_up_j _ _ (by decide), nv_up_j _ _ (by decide), nv_up_j _ _ (by decide), nv_up_j _ _ (by decide), nv_up_s]
    rw [eg] at e0
    have ss : fc_setSource g (13 + n) x2 = some (nv_up (nv_up (nv_up g (13 + n) 1 gv) (13 + n) 8 rt) (13 + n) 9 ps) := by
      unfold fc_setSource fc_setSource_52
      rw [g0]
      rcases hs with ⟨rfl, r, hr, rfl, e1, e2, e3⟩ | ⟨q, e1, e2, e3⟩
      · subst e1 e2 e3
        have il : fc_isLeave g (nI r) = true := by unfold fc_isLeave; rw [gk 0 (by omega), hn]; exact pu_ido (by omega) hr
        simp only [nv_lt, if_true, il, pu_inb (show r < 12 by omega) (show 12 < 2 ^ 31 by omega), nI_clamp (show r < 2 ^ 31 by omega), nv_up_k _ _ (show 13 + r ≠ 13 + n by omega), gk (13 + r) (by omega)]
      · subst e1 e2 e3
        simp only [nv_lt, q, if_false]
    rw [ss, Option.bind_some]
    simp only [e0, nv_up_s, nI_1, nI_pred]
    try rfl
  · rw [nv_up_k _ _ (by omega), nv_up_j _ _ (by decide), nv_up_j _ _ (by decide), nv_up_j _ _ (by decide), nv_up_j _ _ (by decide), nv_up_j _ _ (by decide), nv_up_j _ _ (by decide), nv_up_j _ _ (by decide), nv_up_j _ _ (by decide), nv_up_j _ _ (by decide), nv_up_s]
  · rw [nv_up_k _ _ (by omega), nv_up_j _ _ (by decide), nv_up_j _ _ (by decide), nv_up_s]
  · rw [nv_up_k _ _ (by omega), nv_up_j _ _ (by decide), nv_up_j _ _ (by decide), nv_up_j _ _ (by decide), nv_up_j _ _ (by decide), nv_up_j _ _ (by decide), nv_up_j _ _ (by decide), nv_up_j _ _ (by decide), nv_up_j _ _ (by decide), nv_up_s]
  · rw [nv_up_k _ _ (by omega), nv_up_j _ _ (by decide), nv_up_j _ _ (by decide), nv_up_j _ _ (by decide), nv_up_j _ _ (by decide), nv_up_j _ _ (by decide), nv_up_j _ _ (by decide), nv_up_j _ _ (by decide), nv_up_s]
  · rw [nv_up_k _ _ (by omega), nv_up_j _ _ (by decide), nv_up_j _ _ (by decide), nv_up_j _ _ (by decide), nv_up_j _ _ (by decide), nv_up_j _ _ (by decide), nv_up_j _ _ (by decide), nv_up_s]
  · rw [nv_up_k _ _ (by omega), nv_up_j _ _ (by decide), nv_up_j _ _ (by decide), nv_up_j _ _ (by decide), nv_up_j _ _ (by decide), nv_up_j _ _ (by decide), nv_up_s]
  · rw [nv_up_k _ _ (by omega), nv_up_j _ _ (by decide), nv_up_j _ _ (by decide), nv_up_j _ _ (by decide), nv_up_j _ _ (by decide), nv_up_s]
  · rw [nv_up_k _ _ (by omega), nv_up_j _ _ (by decide), nv_up_j _ _ (by decide), nv_up_j _ _ (by decide), nv_up_s]
  · rw [nv_up_k _ _ (by omega), nv_up_j _ _ (by decide), nv_up_s]
  · rw [nv_up_k _ _ (by omega), nv_up_s]
