/-! ===== operations: back, after, bargain, leave ===== -/
theorem pu_eqn {n m : Nat} {c : Int32} (hc : c = nI m) (hn : n < 2 ^ 31) (hm : m < 2 ^ 31) : (nI n = c) ↔ n = m := by rw [hc]; exact nI_eq hn hm
theorem op_back {h : nv_Hp} (R : pu_R h) (x1 x2 x3 x4 : Int32) : pu_o2 (fc_back h x1 x2 x3 x4) (fun h1 => pm_back h1 x1 x2 x3 x4) := by
  have R' := R
  obtain ⟨nL, nK, nB, nA, r⟩ := R
  have r' := r
  obtain ⟨r1, r2, r3, r4, r5, r6, r7, r8⟩ := r'
  have b3 := r2.2.1.2.2
  have bad : ∀ e : pm_back h x1 x2 x3 x4 = some (-2, h), pu_o2 (some (-2, h)) (fun h1 => pm_back h1 x1 x2 x3 x4) := fun e => ⟨_, _, _, rfl, e, R'⟩
  have pmb : ∀ H : nv_Hp, (H 73 6 = h 73 6) → pm_back H x1 x2 x3 x4 = if fc_isLeave h x1 = true then (if fc_isDay x2 = true then (if fc_isPerson x3 = true then (if x4 = -1 then pm_back_45 H x1 x2 x3 x4 else (if fc_isWithin x4 x2 100 = true then pm_back_45 H x1 x2 x3 x4 else some (-2, H))) else some (-2, H)) else some (-2, H)) else some (-2, H) := by
    intro H e
    have il : pm_isLeave H x1 = fc_isLeave h x1 := by
      rw [← pu_isLeave r]; unfold pm_isLeave; rw [e]
    unfold pm_back
    rw [il, pu_day, pu_pers, pu_inc x4 x2 100 rfl (by decide)]
  have main : fc_isLeave h x1 = true → (∀ H : nv_Hp, (H 73 6 = h 73 6) → pm_back H x1 x2 x3 x4 = pm_back_45 H x1 x2 x3 x4) → pu_o2 (fc_back_45 h x1 x2 x3 x4) (fun h1 => pm_back h1 x1 x2 x3 x4) := by
    intro q1 hp
    obtain ⟨l, hl, rfl⟩ := pu_xLeave r q1
    unfold fc_back_45
    rw [r2.2.1.1]
    by_cases c : nK < 12
    · rw [if_pos (show nI nK < 12 from nI_lt (b := 12) c (by omega)), if_pos (pu_inb c (by omega)), nI_clamp (by omega)]
      simp only [nv_lt]
      generalize e1 : nv_up (nv_up (nv_up (nv_up h (25 + nK) 0 (nI l)) (25 + nK) 1 x2) (25 + nK) 2 x3) (25 + nK) 3 x4 = g1
      have g1k : ∀ k, k ≠ 25 + nK → g1 k = h k := fun k hk => by rw [← e1, pu_up_c hk, pu_up_c hk, pu_up_c hk, pu_up_c hk]
      have g10 : g1 0 8 = nI nK := by rw [g1k 0 (by omega)]; exact r2.2.1.1
      have f0 : g1 (25 + nK) 0 = nI l := by rw [← e1, nv_up_j _ _ (by decide), nv_up_j _ _ (by decide), nv_up_j _ _ (by decide), nv_up_s]
      have f1 : g1 (25 + nK) 1 = x2 := by rw [← e1, nv_up_j _ _ (by decide), nv_up_j _ _ (by decide), nv_up_s]
      have f2 : g1 (25 + nK) 2 = x3 := by rw [← e1, nv_up_j _ _ (by decide), nv_up_s]
      have f3 : g1 (25 + nK) 3 = x4 := by rw [← e1, nv_up_s]
      rw [g10, nI_1]
      generalize e2 : nv_up g1 0 8 (nI (nK + 1)) = g2
      have g2k : ∀ k, k ≠ 25 + nK → k ≠ 0 → g2 k = h k := fun k hk h0 => by rw [← e2, pu_up_c h0]; exact g1k k hk
      have g2b : g2 (25 + nK) = g1 (25 + nK) := by rw [← e2, pu_up_c (by omega)]
      have g20 : ∀ j, j ≠ 8 → g2 0 j = h 0 j := fun j hj => by rw [← e2, nv_up_j _ _ hj, g1k 0 (by omega)]
      have g208 : g2 0 8 = nI (nK + 1) := by rw [← e2, nv_up_s]
      have k73 : g2 73 17 = nI nK := by rw [g2k 73 (by omega) (by omega)]; exact r2.2.1.2.1
      generalize e3 : nv_up (nv_up (nv_up (nv_up g2 89 nK (nI l)) 90 nK x2) 91 nK x3) 92 nK x4 = g3
      have g3k : ∀ k, ¬ (89 ≤ k ∧ k ≤ 92) → g3 k = g2 k := fun k hk => by rw [← e3, pu_up_c (by omega), pu_up_c (by omega), pu_up_c (by omega), pu_up_c (by omega)]
      have g3j : ∀ k j, j ≠ nK → g3 k j = g2 k j := fun k j hj => by rw [← e3, nv_up_j _ _ hj, nv_up_j _ _ hj, nv_up_j _ _ hj, nv_up_j _ _ hj]
      have m0 : g3 89 nK = nI l := by rw [← e3, nv_up_k _ _ (by decide), nv_up_k _ _ (by decide), nv_up_k _ _ (by decide), nv_up_s]
      have m1 : g3 90 nK = x2 := by rw [← e3, nv_up_k _ _ (by decide), nv_up_k _ _ (by decide), nv_up_s]
      have m2 : g3 91 nK = x3 := by rw [← e3, nv_up_k _ _ (by decide), nv_up_s]
      have m3 : g3 92 nK = x4 := by rw [← e3, nv_up_s]
      generalize e4 : nv_up g3 73 17 (nI (nK + 1)) = g4
      have g4k : ∀ k, k ≠ 73 → g4 k = g3 k := fun k hk => by rw [← e4, pu_up_c hk]
      have g473 : ∀ j, j ≠ 17 → g4 73 j = h 73 j := fun j hj => by rw [← e4, nv_up_j _ _ hj, g3k 73 (by omega), g2k 73 (by omega) (by omega)]
      have g417 : g4 73 17 = nI (nK + 1) := by rw [← e4, nv_up_s]
      have gk0 : ∀ j (hj : j ≠ 8 := by decide), g4 0 j = h 0 j := fun j hj => by rw [g4k 0 (by decide), g3k 0 (by omega), g20 j hj]
      have gk : ∀ k, k ≠ 73 → ¬ (89 ≤ k ∧ k ≤ 92) → k ≠ 25 + nK → k ≠ 0 → g4 k = h k := fun k a b c d => by rw [g4k k a, g3k k b, g2k k c d]
      refine ⟨nI nK, g2, g4, ?_, ?_, nL, nK + 1, nB, nA, pu_Rp_cg (gk 1 (by omega) (by omega) (by omega) (by omega)) (gk 78 (by omega) (by omega) (by omega) (by omega)) r1, ?_, pu_Rl_cg r2.1.2.2 (fun k _ _ => gk k (by omega) (by omega) (by omega) (by omega)) (fun k _ _ => gk k (by omega) (by omega) (by omega) (by omega)) r3, ?_, pu_Rb_cg r2.2.2.1.2.2 (fun k _ _ => gk k (by omega) (by omega) (by omega) (by omega)) (fun k _ _ => gk k (by omega) (by omega) (by omega) (by omega)) r5, pu_Ra_cg r2.2.2.2.1.2.2 (fun k _ _ => gk k (by omega) (by omega) (by omega) (by omega)) (fun k _ _ => gk k (by omega) (by omega) (by omega) (by omega)) r6, pu_R7_cg (fun k _ _ => gk k (by omega) (by omega) (by omega) (by omega)) (gk 105 (by omega) (by omega) (by omega) (by omega)) (gk 106 (by omega) (by omega) (by omega) (by omega)) r7, pu_R8_cg (fun k _ _ => gk k (by omega) (by omega) (by omega) (by omega)) (gk 74 (by omega) (by omega) (by omega) (by omega)) (gk 75 (by omega) (by omega) (by omega) (by omega)) (gk 76 (by omega) (by omega) (by omega) (by omega)) r8⟩
      · rw [g208, nI_pred]
      · show pm_back g2 (nI l) x2 x3 x4 = _
        rw [hp g2 (by rw [g2k 73 (by omega) (by omega)])]
        unfold pm_back_45 nv_lt
        have i1 : nv_up g2 89 nK (nI l) 73 17 = nI nK := by rw [nv_up_k _ _ (by decide)]; exact k73
        have i2 : nv_up (nv_up g2 89 nK (nI l)) 90 nK x2 73 17 = nI nK := by rw [nv_up_k _ _ (by decide)]; exact i1
        have i3 : nv_up (nv_up (nv_up g2 89 nK (nI l)) 90 nK x2) 91 nK x3 73 17 = nI nK := by rw [nv_up_k _ _ (by decide)]; exact i2
        have i4 : g3 73 17 = nI nK := by rw [g3k 73 (by omega)]; exact k73
        have n12 : ¬ nI nK = 12 := fun q => by have := (pu_eqn (m := 12) (c := 12) rfl (by omega) (by omega)).mp q; omega
        simp only [k73, n12, if_false, pu_inb c (show 12 < 2 ^ 31 by omega), if_true, nI_clamp (show nK < 2 ^ 31 by omega), i1, i2, i3, e3, i4, nI_1, e4, g417, nI_pred]
      · exact ⟨⟨by rw [gk0 7]; exact r2.1.1, by rw [g473 6 (by decide)]; exact r2.1.2.1, r2.1.2.2⟩, ⟨by rw [g4k 0 (by decide), g3k 0 (by omega)]; exact g208, g417, by omega⟩, ⟨by rw [gk0 9]; exact r2.2.2.1.1, by rw [g473 23 (by decide)]; exact r2.2.2.1.2.1, r2.2.2.1.2.2⟩, ⟨by rw [gk0 10]; exact r2.2.2.2.1.1, by rw [g473 30 (by decide)]; exact r2.2.2.2.1.2.1, r2.2.2.2.1.2.2⟩, by rw [gk0 11, g473 4 (by decide)]; exact r2.2.2.2.2⟩
      · intro j hj
        by_cases d : j = nK
        · subst d
          rw [g4k (25 + j) (by omega), g3k (25 + j) (by omega), g2b, f0]
          refine ⟨fun f hf => ?_, l, hl, rfl⟩
          have hf' : f = 0 ∨ f = 1 ∨ f = 2 ∨ f = 3 := by omega
          rcases hf' with rfl | rfl | rfl | rfl
          · rw [g4k _ (by decide), m0, f0]
          · rw [g4k _ (by decide), m1, f1]
          · rw [g4k _ (by decide), m2, f2]
          · rw [g4k _ (by decide), m3, f3]
        · rw [gk (25 + j) (by omega) (by omega) (by omega) (by omega)]
          obtain ⟨p1, p2⟩ := r4 j (by omega)
          exact ⟨fun f hf => by rw [g4k _ (by omega), g3j _ _ d, g2k _ (by omega) (by omega)]; exact p1 f hf, p2⟩
    · have : nK = 12 := by omega
      subst this
      rw [if_neg (by decide)]
      refine ⟨_, _, _, rfl, ?_, R'⟩
      show pm_back h (nI l) x2 x3 x4 = _
      rw [hp h rfl]
      unfold pm_back_45
      rw [r2.2.1.2.1, if_pos (by decide)]
  have ph := pmb h rfl
  unfold fc_back
  by_cases q1 : fc_isLeave h x1 = true
  · rw [if_pos q1] at ph ⊢
    by_cases q2 : fc_isDay x2 = true
    · rw [if_pos q2] at ph ⊢
      by_cases q3 : fc_isPerson x3 = true
      · rw [if_pos q3] at ph ⊢
        by_cases q4 : x4 = -1
        · rw [if_pos q4]
          exact main q1 (fun H e => by rw [pmb H e, if_pos q1, if_pos q2, if_pos q3, if_pos q4])
        · rw [if_neg q4] at ph ⊢
          by_cases q5 : fc_isWithin x4 x2 100 = true
          · rw [if_pos q5]
            exact main q1 (fun H e => by rw [pmb H e, if_pos q1, if_pos q2, if_pos q3, if_neg q4, if_pos q5])
          · rw [if_neg q5] at ph ⊢; exact bad ph
      · rw [if_neg q3] at ph ⊢; exact bad ph
    · rw [if_neg q2] at ph ⊢; exact bad ph
  · rw [if_neg q1] at ph ⊢; exact bad ph
