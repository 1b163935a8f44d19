/-! ===== operations: after, bargain ===== -/
theorem pu_t999 : (999 : Int32).toInt = ((999 : Nat) : Int) := by rw [show (999 : Int32) = nI 999 from rfl]; exact nI_toInt (by omega)
theorem pu_t99 : (99 : Int32).toInt = ((99 : Nat) : Int) := by rw [show (99 : Int32) = nI 99 from rfl]; exact nI_toInt (by omega)
theorem op_after {h : nv_Hp} (R : pu_R h) (x1 x2 x3 x4 x5 : Int32) : pu_o2 (fc_after h x1 x2 x3 x4 x5) (fun h1 => pm_after h1 x1 x2 x3 x4 x5) := by
  have R' := R
  obtain ⟨nL, nK, nB, nA, r⟩ := R
  have r' := r
  obtain ⟨r1, r2, r3, r4, r5, r6, r7, r8⟩ := r'
  have a3 := r2.1.2.2
  have k3 := r2.2.1.2.2
  have b3 := r2.2.2.1.2.2
  have d3 := r2.2.2.2.1.2.2
  have cC : h 0 10 = nI nA := r2.2.2.2.1.1
  have cM : h 73 30 = nI nA := r2.2.2.2.1.2.1
  have bad : ∀ e : pm_after h x1 x2 x3 x4 x5 = some (-2, h), pu_o2 (some (-2, h)) (fun h1 => pm_after h1 x1 x2 x3 x4 x5) := fun e => ⟨_, _, _, rfl, e, R'⟩
  have main : True → (∀ H : nv_Hp, (∀ k, k ≠ 47 + nA → k ≠ 0 → H k = h k) → pm_after H x1 x2 x3 x4 x5 = (if (H 73 30) = 12 then some ((-4), H) else (if nv_inb (H 73 30) 12 = true then (nv_lt (nv_up H 100 (H 73 30).toNatClampNeg x1) fun h9 => (if nv_inb (h9 73 30) 12 = true then (nv_lt (nv_up h9 101 (h9 73 30).toNatClampNeg x2) fun h11 => (if nv_inb (h11 73 30) 12 = true then (nv_lt (nv_up h11 102 (h11 73 30).toNatClampNeg x3) fun h13 => (if nv_inb (h13 73 30) 12 = true then (nv_lt (nv_up h13 103 (h13 73 30).toNatClampNeg x4) fun h15 => (if nv_inb (h15 73 30) 12 = true then (nv_lt (nv_up h15 104 (h15 73 30).toNatClampNeg x5) fun h17 => (nv_lt (nv_up h17 73 30 ((h17 73 30) + 1)) fun h18 => some (((h18 73 30) - 1), h18))) else none)) else none)) else none)) else none)) else none))) → pu_o2 (if h 0 10 < 12 then (if nv_inb (h 0 10) 12 = true then (nv_lt (nv_up h (47 + (h 0 10).toNatClampNeg) 0 x1) fun h9 => (nv_lt (nv_up h9 (47 + (h 0 10).toNatClampNeg) 1 x2) fun h10 => (nv_lt (nv_up h10 (47 + (h 0 10).toNatClampNeg) 2 x3) fun h11 => (nv_lt (nv_up h11 (47 + (h 0 10).toNatClampNeg) 3 x4) fun h12 => (nv_lt (nv_up h12 (47 + (h 0 10).toNatClampNeg) 4 x5) fun h13 => (nv_lt (nv_up h13 0 10 ((h13 0 10) + 1)) fun h14 => some (((h14 0 10) - 1), h14))))))) else none) else some ((-4), h)) (fun h1 => pm_after h1 x1 x2 x3 x4 x5) := by
    intro y0 hp
    rw [cC]
    by_cases c : nA < 12
    · rw [if_pos (show nI nA < 12 from nI_lt (b := 12) c (by omega)), if_pos (pu_inb c (by omega)), nI_clamp (by omega)]
      simp only [nv_lt]
      generalize e1 : nv_up (nv_up (nv_up (nv_up (nv_up h (47 + nA) 0 (x1)) (47 + nA) 1 (x2)) (47 + nA) 2 (x3)) (47 + nA) 3 (x4)) (47 + nA) 4 (x5) = g1
      have g1k : ∀ k, k ≠ 47 + nA → g1 k = h k := fun k hk => by rw [← e1, pu_up_c hk, pu_up_c hk, pu_up_c hk, pu_up_c hk, pu_up_c hk]
      have g10 : g1 0 10 = nI nA := by rw [g1k 0 (by omega)]; exact cC
      have f0 : g1 (47 + nA) 0 = x1 := by rw [← e1, nv_up_j _ _ (by decide), nv_up_j _ _ (by decide), nv_up_j _ _ (by decide), nv_up_j _ _ (by decide), nv_up_s]
      have f1 : g1 (47 + nA) 1 = x2 := by rw [← e1, nv_up_j _ _ (by decide), nv_up_j _ _ (by decide), nv_up_j _ _ (by decide), nv_up_s]
      have f2 : g1 (47 + nA) 2 = x3 := by rw [← e1, nv_up_j _ _ (by decide), nv_up_j _ _ (by decide), nv_up_s]
      have f3 : g1 (47 + nA) 3 = x4 := by rw [← e1, nv_up_j _ _ (by decide), nv_up_s]
      have f4 : g1 (47 + nA) 4 = x5 := by rw [← e1, nv_up_s]
      rw [g10, nI_1]
      generalize e2 : nv_up g1 0 10 (nI (nA + 1)) = g2
      have g2k : ∀ k, k ≠ 47 + nA → k ≠ 0 → g2 k = h k := fun k hk h0 => by rw [← e2, pu_up_c h0]; exact g1k k hk
      have g2b : g2 (47 + nA) = g1 (47 + nA) := by rw [← e2, pu_up_c (by omega)]
      have g20 : ∀ j, j ≠ 10 → g2 0 j = h 0 j := fun j hj => by rw [← e2, nv_up_j _ _ hj, g1k 0 (by omega)]
      have g208 : g2 0 10 = nI (nA + 1) := by rw [← e2, nv_up_s]
      have k73 : g2 73 30 = nI nA := by rw [g2k 73 (by omega) (by omega)]; exact cM
      generalize e3 : nv_up (nv_up (nv_up (nv_up (nv_up g2 100 nA (x1)) 101 nA (x2)) 102 nA (x3)) 103 nA (x4)) 104 nA (x5) = g3
      have g3k : ∀ k, ¬ (100 ≤ k ∧ k ≤ 104) → g3 k = g2 k := fun k hk => by rw [← e3, pu_up_c (by omega), pu_up_c (by omega), pu_up_c (by omega), pu_up_c (by omega), pu_up_c (by omega)]
      have g3j : ∀ k j, j ≠ nA → g3 k j = g2 k j := fun k j hj => by rw [← e3, nv_up_j _ _ hj, nv_up_j _ _ hj, nv_up_j _ _ hj, nv_up_j _ _ hj, nv_up_j _ _ hj]
      have m0 : g3 100 nA = x1 := by rw [← e3, nv_up_k _ _ (by decide), nv_up_k _ _ (by decide), nv_up_k _ _ (by decide), nv_up_k _ _ (by decide), nv_up_s]
      have m1 : g3 101 nA = x2 := by rw [← e3, nv_up_k _ _ (by decide), nv_up_k _ _ (by decide), nv_up_k _ _ (by decide), nv_up_s]
      have m2 : g3 102 nA = x3 := by rw [← e3, nv_up_k _ _ (by decide), nv_up_k _ _ (by decide), nv_up_s]
      have m3 : g3 103 nA = x4 := by rw [← e3, nv_up_k _ _ (by decide), nv_up_s]
      have m4 : g3 104 nA = x5 := by rw [← e3, nv_up_s]
      generalize e4 : nv_up g3 73 30 (nI (nA + 1)) = g4
      have g4k : ∀ k, k ≠ 73 → g4 k = g3 k := fun k hk => by rw [← e4, pu_up_c hk]
      have g473 : ∀ j, j ≠ 30 → g4 73 j = h 73 j := fun j hj => by rw [← e4, nv_up_j _ _ hj, g3k 73 (by omega), g2k 73 (by omega) (by omega)]
      have g417 : g4 73 30 = nI (nA + 1) := by rw [← e4, nv_up_s]
      have gk0 : ∀ j (hj : j ≠ 10 := by decide), g4 0 j = h 0 j := fun j hj => by rw [g4k 0 (by decide), g3k 0 (by omega), g20 j hj]
      have gk : ∀ k, k ≠ 73 → ¬ (100 ≤ k ∧ k ≤ 104) → k ≠ 47 + nA → k ≠ 0 → g4 k = h k := fun k a b c d => by rw [g4k k a, g3k k b, g2k k c d]
      refine ⟨nI nA, g2, g4, ?_, ?_, nL, nK, nB, nA + 1, pu_Rp_cg (gk 1 (by omega) (by omega) (by omega) (by omega)) (gk 78 (by omega) (by omega) (by omega) (by omega)) r1, ?_, pu_Rl_cg a3 (fun k _ _ => gk k (by omega) (by omega) (by omega) (by omega)) (fun k _ _ => gk k (by omega) (by omega) (by omega) (by omega)) r3, pu_Rk_cg k3 (fun k _ _ => gk k (by omega) (by omega) (by omega) (by omega)) (fun k _ _ => gk k (by omega) (by omega) (by omega) (by omega)) r4, pu_Rb_cg b3 (fun k _ _ => gk k (by omega) (by omega) (by omega) (by omega)) (fun k _ _ => gk k (by omega) (by omega) (by omega) (by omega)) r5, ?_, pu_R7_cg (fun k _ _ => gk k (by omega) (by omega) (by omega) (by omega)) (gk 105 (by omega) (by omega) (by omega) (by omega)) (gk 106 (by omega) (by omega) (by omega) (by omega)) r7, pu_R8_cg (fun k _ _ => gk k (by omega) (by omega) (by omega) (by omega)) (gk 74 (by omega) (by omega) (by omega) (by omega)) (gk 75 (by omega) (by omega) (by omega) (by omega)) (gk 76 (by omega) (by omega) (by omega) (by omega)) r8⟩
      · rw [g208, nI_pred]
      · show pm_after g2 x1 x2 x3 x4 x5 = _
        rw [hp g2 g2k]
        have i0 : (nv_up g2 100 nA (x1)) 73 30 = nI nA := by rw [nv_up_k _ _ (by decide)]; exact k73
        have i1 : (nv_up (nv_up g2 100 nA (x1)) 101 nA (x2)) 73 30 = nI nA := by rw [nv_up_k _ _ (by decide)]; exact i0
        have i2 : (nv_up (nv_up (nv_up g2 100 nA (x1)) 101 nA (x2)) 102 nA (x3)) 73 30 = nI nA := by rw [nv_up_k _ _ (by decide)]; exact i1
        have i3 : (nv_up (nv_up (nv_up (nv_up g2 100 nA (x1)) 101 nA (x2)) 102 nA (x3)) 103 nA (x4)) 73 30 = nI nA := by rw [nv_up_k _ _ (by decide)]; exact i2
        have i4 : g3 73 30 = nI nA := by rw [g3k 73 (by omega)]; exact k73
        have ncap : ¬ nI nA = 12 := fun q => by have := (pu_eqn (m := 12) (c := 12) rfl (by omega) (by omega)).mp q; omega
        simp only [nv_lt, k73, ncap, if_false, pu_inb c (show 12 < 2 ^ 31 by omega), if_true, nI_clamp (show nA < 2 ^ 31 by omega), i0, i1, i2, i3, e3, i4, nI_1, e4, g417, nI_pred]
      · exact ⟨⟨by rw [gk0 7]; exact r2.1.1, by rw [g473 6 (by decide)]; exact r2.1.2.1, r2.1.2.2⟩, ⟨by rw [gk0 8]; exact r2.2.1.1, by rw [g473 17 (by decide)]; exact r2.2.1.2.1, r2.2.1.2.2⟩, ⟨by rw [gk0 9]; exact r2.2.2.1.1, by rw [g473 23 (by decide)]; exact r2.2.2.1.2.1, r2.2.2.1.2.2⟩, ⟨by rw [g4k 0 (by decide), g3k 0 (by omega)]; exact g208, g417, by omega⟩, by rw [gk0 11, g473 4 (by decide)]; exact r2.2.2.2.2⟩
      · intro j hj f hf
        by_cases d : j = nA
        · subst d
          rw [g4k (47 + j) (by omega), g3k (47 + j) (by omega), g2b]
          have hf' : f = 0 ∨ f = 1 ∨ f = 2 ∨ f = 3 ∨ f = 4 := by omega
          rcases hf' with rfl | rfl | rfl | rfl | rfl
          · rw [g4k _ (by decide), m0, f0]
          · rw [g4k _ (by decide), m1, f1]
          · rw [g4k _ (by decide), m2, f2]
          · rw [g4k _ (by decide), m3, f3]
          · rw [g4k _ (by decide), m4, f4]
        · rw [gk (47 + j) (by omega) (by omega) (by omega) (by omega), g4k _ (by omega), g3j _ _ d, g2k _ (by omega) (by omega)]
          exact r6 j (by omega) f hf
    · have : nA = 12 := by omega
      subst this
      rw [if_neg (by decide)]
      refine ⟨_, _, _, rfl, ?_, R'⟩
      show pm_after h x1 x2 x3 x4 x5 = _
      rw [hp h (fun _ _ _ => rfl)]
      rw [cM, if_pos (by decide)]
  have pmb : ∀ H : nv_Hp, (∀ k, k ≠ 47 + nA → k ≠ 0 → H k = h k) → ∀ b, b < nB → x1 = nI b → pm_after H x1 x2 x3 x4 x5 = if fc_isPerson x2 = true then (if fc_isWithin x3 (h (37 + b) 6) 99 = true then (if fc_isLaw x4 = true then (if fc_isAmount x5 = true then (if (H 73 30) = 12 then some ((-4), H) else (if nv_inb (H 73 30) 12 = true then (nv_lt (nv_up H 100 (H 73 30).toNatClampNeg x1) fun h9 => (if nv_inb (h9 73 30) 12 = true then (nv_lt (nv_up h9 101 (h9 73 30).toNatClampNeg x2) fun h11 => (if nv_inb (h11 73 30) 12 = true then (nv_lt (nv_up h11 102 (h11 73 30).toNatClampNeg x3) fun h13 => (if nv_inb (h13 73 30) 12 = true then (nv_lt (nv_up h13 103 (h13 73 30).toNatClampNeg x4) fun h15 => (if nv_inb (h15 73 30) 12 = true then (nv_lt (nv_up h15 104 (h15 73 30).toNatClampNeg x5) fun h17 => (nv_lt (nv_up h17 73 30 ((h17 73 30) + 1)) fun h18 => some (((h18 73 30) - 1), h18))) else none)) else none)) else none)) else none)) else none)) else some (-2, H)) else some (-2, H)) else some (-2, H)) else some (-2, H) := by
    intro H e b hb eb
    have il : pm_isBargain H x1 = true := by
      have e0 : fc_isBargain h x1 = true := by unfold fc_isBargain; rw [r2.2.2.1.1, eb]; exact pu_ido (by omega) hb
      rw [← e0, ← pu_isBargain r]; unfold pm_isBargain; rw [e 73 (by omega) (by omega)]
    have e99 : h 99 b = h (37 + b) 6 := pu_Rb_m (f := 6) r (pu_sm_r h) hb (by omega) (by omega)
    unfold pm_after
    rw [if_pos il, pu_pers, if_pos (show nv_inb x1 10 = true by rw [eb]; exact pu_inb (by omega) (by omega)), e 99 (by omega) (by omega), show x1.toNatClampNeg = b by rw [eb, nI_clamp (by omega)], e99, pu_inc x3 (h (37 + b) 6) 99 rfl (by decide), pu_two, pu_amount]
  unfold fc_after
  by_cases q1 : fc_isBargain h x1 = true
  · obtain ⟨b, hb, eb⟩ := pu_xBargain r q1
    have ph := pmb h (fun _ _ _ => rfl) b hb eb
    rw [if_pos q1, if_pos (show nv_inb x1 10 = true by rw [eb]; exact pu_inb (by omega) (by omega)), show 37 + x1.toNatClampNeg = 37 + b by rw [eb, nI_clamp (by omega)], pu_flag]
    by_cases q2 : fc_isPerson x2 = true
    · rw [if_pos q2] at ph ⊢
      by_cases q3 : fc_isWithin x3 (h (37 + b) 6) 99 = true
      · rw [if_pos q3] at ph ⊢
        by_cases q4 : fc_isLaw x4 = true
        · rw [if_pos q4] at ph ⊢
          by_cases q5 : fc_isAmount x5 = true
          · rw [if_pos q5]
            exact main trivial (fun H e => by rw [pmb H e b hb eb, if_pos q2, if_pos q3, if_pos q4, if_pos q5])
          · rw [if_neg q5] at ph ⊢; exact bad ph
        · rw [if_neg q4] at ph ⊢; exact bad ph
      · rw [if_neg q3] at ph ⊢; exact bad ph
    · rw [if_neg q2] at ph ⊢; exact bad ph
  · rw [if_neg q1]
    refine bad ?_
    unfold pm_after
    rw [pu_isBargain r, if_neg q1]
theorem op_bargain {h : nv_Hp} (R : pu_R h) (x1 x2 x3 x4 x5 x6 : Int32) : pu_o2 (fc_bargain h x1 x2 x3 x4 x5 x6) (fun h1 => pm_bargain h1 x1 x2 x3 x4 x5 x6) := by
  have R' := R
  obtain ⟨nL, nK, nB, nA, r⟩ := R
  have r' := r
  obtain ⟨r1, r2, r3, r4, r5, r6, r7, r8⟩ := r'
  have a3 := r2.1.2.2
  have k3 := r2.2.1.2.2
  have b3 := r2.2.2.1.2.2
  have d3 := r2.2.2.2.1.2.2
  have cC : h 0 9 = nI nB := r2.2.2.1.1
  have cM : h 73 23 = nI nB := r2.2.2.1.2.1
  have bad : ∀ e : pm_bargain h x1 x2 x3 x4 x5 x6 = some (-2, h), pu_o2 (some (-2, h)) (fun h1 => pm_bargain h1 x1 x2 x3 x4 x5 x6) := fun e => ⟨_, _, _, rfl, e, R'⟩
  have main : fc_isPerson x1 = true → (x2 = -1 ∨ fc_isPerson x2 = true) → fc_isPerson x3 = true → x3 ≠ x1 → x3 ≠ x2 → fc_isWithin x4 0 3 = true → fc_isAmount x5 = true → fc_isDay x6 = true → (∀ H : nv_Hp, (∀ k, k ≠ 37 + nB → k ≠ 0 → H k = h k) → pm_bargain H x1 x2 x3 x4 x5 x6 = pm_bargain_41 H x1 x2 x3 x4 x5 x6 true) → pu_o2 (if h 0 9 < 10 then (if nv_inb (h 0 9) 10 = true then (nv_lt (nv_up h (37 + (h 0 9).toNatClampNeg) 0 (h 0 9)) fun h8 => (nv_lt (nv_up h8 (37 + (h 0 9).toNatClampNeg) 1 x1) fun h9 => (nv_lt (nv_up h9 (37 + (h 0 9).toNatClampNeg) 2 x2) fun h10 => (nv_lt (nv_up h10 (37 + (h 0 9).toNatClampNeg) 3 x3) fun h11 => (nv_lt (nv_up h11 (37 + (h 0 9).toNatClampNeg) 4 x4) fun h12 => (nv_lt (nv_up h12 (37 + (h 0 9).toNatClampNeg) 5 x5) fun h13 => (nv_lt (nv_up h13 (37 + (h 0 9).toNatClampNeg) 6 x6) fun h14 => (nv_lt (nv_up h14 0 9 ((h14 0 9) + 1)) fun h15 => some (((h15 0 9) - 1), h15))))))))) else none) else some ((-4), h)) (fun h1 => pm_bargain h1 x1 x2 x3 x4 x5 x6) := by
    intro y0 y1 y2 y3 y4 y5 y6 y7 hp
    rw [cC]
    by_cases c : nB < 10
    · rw [if_pos (show nI nB < 10 from nI_lt (b := 10) c (by omega)), if_pos (pu_inb c (by omega)), nI_clamp (by omega)]
      simp only [nv_lt]
      generalize e1 : nv_up (nv_up (nv_up (nv_up (nv_up (nv_up (nv_up h (37 + nB) 0 (nI nB)) (37 + nB) 1 (x1)) (37 + nB) 2 (x2)) (37 + nB) 3 (x3)) (37 + nB) 4 (x4)) (37 + nB) 5 (x5)) (37 + nB) 6 (x6) = g1
      have g1k : ∀ k, k ≠ 37 + nB → g1 k = h k := fun k hk => by rw [← e1, pu_up_c hk, pu_up_c hk, pu_up_c hk, pu_up_c hk, pu_up_c hk, pu_up_c hk, pu_up_c hk]
      have g10 : g1 0 9 = nI nB := by rw [g1k 0 (by omega)]; exact cC
      have f0 : g1 (37 + nB) 0 = nI nB := by rw [← e1, nv_up_j _ _ (by decide), nv_up_j _ _ (by decide), nv_up_j _ _ (by decide), nv_up_j _ _ (by decide), nv_up_j _ _ (by decide), nv_up_j _ _ (by decide), nv_up_s]
      have f1 : g1 (37 + nB) 1 = x1 := by rw [← e1, nv_up_j _ _ (by decide), nv_up_j _ _ (by decide), nv_up_j _ _ (by decide), nv_up_j _ _ (by decide), nv_up_j _ _ (by decide), nv_up_s]
      have f2 : g1 (37 + nB) 2 = x2 := by rw [← e1, nv_up_j _ _ (by decide), nv_up_j _ _ (by decide), nv_up_j _ _ (by decide), nv_up_j _ _ (by decide), nv_up_s]
      have f3 : g1 (37 + nB) 3 = x3 := by rw [← e1, nv_up_j _ _ (by decide), nv_up_j _ _ (by decide), nv_up_j _ _ (by decide), nv_up_s]
      have f4 : g1 (37 + nB) 4 = x4 := by rw [← e1, nv_up_j _ _ (by decide), nv_up_j _ _ (by decide), nv_up_s]
      have f5 : g1 (37 + nB) 5 = x5 := by rw [← e1, nv_up_j _ _ (by decide), nv_up_s]
      have f6 : g1 (37 + nB) 6 = x6 := by rw [← e1, nv_up_s]
      rw [g10, nI_1]
      generalize e2 : nv_up g1 0 9 (nI (nB + 1)) = g2
      have g2k : ∀ k, k ≠ 37 + nB → k ≠ 0 → g2 k = h k := fun k hk h0 => by rw [← e2, pu_up_c h0]; exact g1k k hk
      have g2b : g2 (37 + nB) = g1 (37 + nB) := by rw [← e2, pu_up_c (by omega)]
      have g20 : ∀ j, j ≠ 9 → g2 0 j = h 0 j := fun j hj => by rw [← e2, nv_up_j _ _ hj, g1k 0 (by omega)]
      have g208 : g2 0 9 = nI (nB + 1) := by rw [← e2, nv_up_s]
      have k73 : g2 73 23 = nI nB := by rw [g2k 73 (by omega) (by omega)]; exact cM
      generalize e3 : nv_up (nv_up (nv_up (nv_up (nv_up (nv_up g2 94 nB (x1)) 95 nB (x2)) 96 nB (x3)) 97 nB (x4)) 98 nB (x5)) 99 nB (x6) = g3
      have g3k : ∀ k, ¬ (94 ≤ k ∧ k ≤ 99) → g3 k = g2 k := fun k hk => by rw [← e3, pu_up_c (by omega), pu_up_c (by omega), pu_up_c (by omega), pu_up_c (by omega), pu_up_c (by omega), pu_up_c (by omega)]
      have g3j : ∀ k j, j ≠ nB → g3 k j = g2 k j := fun k j hj => by rw [← e3, nv_up_j _ _ hj, nv_up_j _ _ hj, nv_up_j _ _ hj, nv_up_j _ _ hj, nv_up_j _ _ hj, nv_up_j _ _ hj]
      have m0 : g3 94 nB = x1 := by rw [← e3, nv_up_k _ _ (by decide), nv_up_k _ _ (by decide), nv_up_k _ _ (by decide), nv_up_k _ _ (by decide), nv_up_k _ _ (by decide), nv_up_s]
      have m1 : g3 95 nB = x2 := by rw [← e3, nv_up_k _ _ (by decide), nv_up_k _ _ (by decide), nv_up_k _ _ (by decide), nv_up_k _ _ (by decide), nv_up_s]
      have m2 : g3 96 nB = x3 := by rw [← e3, nv_up_k _ _ (by decide), nv_up_k _ _ (by decide), nv_up_k _ _ (by decide), nv_up_s]
      have m3 : g3 97 nB = x4 := by rw [← e3, nv_up_k _ _ (by decide), nv_up_k _ _ (by decide), nv_up_s]
      have m4 : g3 98 nB = x5 := by rw [← e3, nv_up_k _ _ (by decide), nv_up_s]
      have m5 : g3 99 nB = x6 := by rw [← e3, nv_up_s]
      generalize e4 : nv_up g3 73 23 (nI (nB + 1)) = g4
      have g4k : ∀ k, k ≠ 73 → g4 k = g3 k := fun k hk => by rw [← e4, pu_up_c hk]
      have g473 : ∀ j, j ≠ 23 → g4 73 j = h 73 j := fun j hj => by rw [← e4, nv_up_j _ _ hj, g3k 73 (by omega), g2k 73 (by omega) (by omega)]
      have g417 : g4 73 23 = nI (nB + 1) := by rw [← e4, nv_up_s]
      have gk0 : ∀ j (hj : j ≠ 9 := by decide), g4 0 j = h 0 j := fun j hj => by rw [g4k 0 (by decide), g3k 0 (by omega), g20 j hj]
      have gk : ∀ k, k ≠ 73 → ¬ (94 ≤ k ∧ k ≤ 99) → k ≠ 37 + nB → k ≠ 0 → g4 k = h k := fun k a b c d => by rw [g4k k a, g3k k b, g2k k c d]
      refine ⟨nI nB, g2, g4, ?_, ?_, nL, nK, nB + 1, nA, pu_Rp_cg (gk 1 (by omega) (by omega) (by omega) (by omega)) (gk 78 (by omega) (by omega) (by omega) (by omega)) r1, ?_, pu_Rl_cg a3 (fun k _ _ => gk k (by omega) (by omega) (by omega) (by omega)) (fun k _ _ => gk k (by omega) (by omega) (by omega) (by omega)) r3, pu_Rk_cg k3 (fun k _ _ => gk k (by omega) (by omega) (by omega) (by omega)) (fun k _ _ => gk k (by omega) (by omega) (by omega) (by omega)) r4, ?_, pu_Ra_cg d3 (fun k _ _ => gk k (by omega) (by omega) (by omega) (by omega)) (fun k _ _ => gk k (by omega) (by omega) (by omega) (by omega)) r6, pu_R7_cg (fun k _ _ => gk k (by omega) (by omega) (by omega) (by omega)) (gk 105 (by omega) (by omega) (by omega) (by omega)) (gk 106 (by omega) (by omega) (by omega) (by omega)) r7, pu_R8_cg (fun k _ _ => gk k (by omega) (by omega) (by omega) (by omega)) (gk 74 (by omega) (by omega) (by omega) (by omega)) (gk 75 (by omega) (by omega) (by omega) (by omega)) (gk 76 (by omega) (by omega) (by omega) (by omega)) r8⟩
      · rw [g208, nI_pred]
      · show pm_bargain g2 x1 x2 x3 x4 x5 x6 = _
        rw [hp g2 g2k]
        unfold pm_bargain_41
        rw [if_pos rfl, pu_inc x4 0 3 (by decide) (by decide), if_pos y5, pu_amount, if_pos y6, pu_day, if_pos y7]
        have i0 : (nv_up g2 94 nB (x1)) 73 23 = nI nB := by rw [nv_up_k _ _ (by decide)]; exact k73
        have i1 : (nv_up (nv_up g2 94 nB (x1)) 95 nB (x2)) 73 23 = nI nB := by rw [nv_up_k _ _ (by decide)]; exact i0
        have i2 : (nv_up (nv_up (nv_up g2 94 nB (x1)) 95 nB (x2)) 96 nB (x3)) 73 23 = nI nB := by rw [nv_up_k _ _ (by decide)]; exact i1
        have i3 : (nv_up (nv_up (nv_up (nv_up g2 94 nB (x1)) 95 nB (x2)) 96 nB (x3)) 97 nB (x4)) 73 23 = nI nB := by rw [nv_up_k _ _ (by decide)]; exact i2
        have i4 : (nv_up (nv_up (nv_up (nv_up (nv_up g2 94 nB (x1)) 95 nB (x2)) 96 nB (x3)) 97 nB (x4)) 98 nB (x5)) 73 23 = nI nB := by rw [nv_up_k _ _ (by decide)]; exact i3
        have i5 : g3 73 23 = nI nB := by rw [g3k 73 (by omega)]; exact k73
        have ncap : ¬ nI nB = 10 := fun q => by have := (pu_eqn (m := 10) (c := 10) rfl (by omega) (by omega)).mp q; omega
        simp only [nv_lt, k73, ncap, if_false, pu_inb c (show 10 < 2 ^ 31 by omega), if_true, nI_clamp (show nB < 2 ^ 31 by omega), i0, i1, i2, i3, i4, e3, i5, nI_1, e4, g417, nI_pred]
      · exact ⟨⟨by rw [gk0 7]; exact r2.1.1, by rw [g473 6 (by decide)]; exact r2.1.2.1, r2.1.2.2⟩, ⟨by rw [gk0 8]; exact r2.2.1.1, by rw [g473 17 (by decide)]; exact r2.2.1.2.1, r2.2.1.2.2⟩, ⟨by rw [g4k 0 (by decide), g3k 0 (by omega)]; exact g208, g417, by omega⟩, ⟨by rw [gk0 10]; exact r2.2.2.2.1.1, by rw [g473 30 (by decide)]; exact r2.2.2.2.1.2.1, r2.2.2.2.1.2.2⟩, by rw [gk0 11, g473 4 (by decide)]; exact r2.2.2.2.2⟩
      · intro j hj
        by_cases d : j = nB
        · subst d
          rw [g4k (37 + j) (by omega), g3k (37 + j) (by omega), g2b, f0, f1, f2, f3, f4, f5, f6]
          refine ⟨fun f hf => ?_, rfl, pu_person y0, ?_, pu_person y2, pu_idk 999 pu_t999 y6, pu_idk 99 pu_t99 y7, y3, y4, ?_⟩
          · have hf' : f = 0 ∨ f = 1 ∨ f = 2 ∨ f = 3 ∨ f = 4 ∨ f = 5 := by omega
            rcases hf' with rfl | rfl | rfl | rfl | rfl | rfl
            · rw [g4k _ (by decide), m0, f1]
            · rw [g4k _ (by decide), m1, f2]
            · rw [g4k _ (by decide), m2, f3]
            · rw [g4k _ (by decide), m3, f4]
            · rw [g4k _ (by decide), m4, f5]
            · rw [g4k _ (by decide), m5, f6]
          · rcases y1 with q | q
            · exact Or.inl q
            · exact Or.inr (pu_person q)
          · obtain ⟨w, hw, e⟩ := pu_idk 3 (by decide) y5
            exact ⟨w, by omega, e⟩
        · rw [gk (37 + j) (by omega) (by omega) (by omega) (by omega)]
          obtain ⟨p1, p2⟩ := r5 j (by omega)
          exact ⟨fun f hf => by rw [g4k _ (by omega), g3j _ _ d, g2k _ (by omega) (by omega)]; exact p1 f hf, p2⟩
    · have : nB = 10 := by omega
      subst this
      rw [if_neg (by decide)]
      refine ⟨_, _, _, rfl, ?_, R'⟩
      show pm_bargain h x1 x2 x3 x4 x5 x6 = _
      rw [hp h (fun _ _ _ => rfl)]
      unfold pm_bargain_41
      rw [if_pos rfl, pu_inc x4 0 3 (by decide) (by decide), if_pos y5, pu_amount, if_pos y6, pu_day, if_pos y7]
      rw [cM, if_pos (by decide)]
  have hb0 : ∀ b : Bool, pm_bargain_41 h x1 x2 x3 x4 x5 x6 b = if b = true then (if fc_isWithin x4 0 3 = true then (if fc_isAmount x5 = true then (if fc_isDay x6 = true then pm_bargain_41 h x1 x2 x3 x4 x5 x6 true else some (-2, h)) else some (-2, h)) else some (-2, h)) else some (-2, h) := by
    intro b
    cases b with
    | false =>
      unfold pm_bargain_41
      rw [if_neg (by decide), if_neg (by decide)]
    | true =>
      obtain ⟨T, eT⟩ : ∃ T, pm_bargain_41 h x1 x2 x3 x4 x5 x6 true = if fc_isWithin x4 0 3 = true then (if fc_isAmount x5 = true then (if fc_isDay x6 = true then T else some (-2, h)) else some (-2, h)) else some (-2, h) := ⟨_, by
        unfold pm_bargain_41
        rw [if_pos rfl, pu_inc x4 0 3 (by decide) (by decide), pu_amount, pu_day]⟩
      rw [if_pos rfl]
      by_cases a : fc_isWithin x4 0 3 = true
      · rw [if_pos a]
        by_cases b : fc_isAmount x5 = true
        · rw [if_pos b]
          by_cases c : fc_isDay x6 = true
          · rw [if_pos c]
          · rw [if_neg c, eT, if_pos a, if_pos b, if_neg c]
        · rw [if_neg b, eT, if_pos a, if_neg b]
      · rw [if_neg a, eT, if_neg a]
  have pmb : ∀ H : nv_Hp, pm_bargain H x1 x2 x3 x4 x5 x6 = pm_bargain_41 H x1 x2 x3 x4 x5 x6 (if fc_isPerson x1 = true then (if x2 = -1 then (if fc_isPerson x3 = true then (if x3 = x1 then false else (if x3 = x2 then false else true)) else false) else (if fc_isPerson x2 = true then (if fc_isPerson x3 = true then (if x3 = x1 then false else (if x3 = x2 then false else true)) else false) else false)) else false) := by
    intro H
    unfold pm_bargain
    rw [pu_pers, pu_pers, pu_pers]
  have fin : ∀ q1 : fc_isPerson x1 = true, ∀ q2 : (x2 = -1 ∨ fc_isPerson x2 = true), ∀ q3 : fc_isPerson x3 = true, pu_o2 (fc_bargain_29 h x1 x2 x3 x4 x5 x6) (fun h1 => pm_bargain h1 x1 x2 x3 x4 x5 x6) := by
    intro q1 q2 q3
    have pf : ∀ H : nv_Hp, pm_bargain H x1 x2 x3 x4 x5 x6 = pm_bargain_41 H x1 x2 x3 x4 x5 x6 (if x3 = x1 then false else (if x3 = x2 then false else true)) := by
      intro H
      rw [pmb H, if_pos q1, if_pos q3]
      rcases q2 with q | q
      · rw [if_pos q]
      · rw [if_pos q, ite_self]
    have ph := pf h
    rw [hb0] at ph
    unfold fc_bargain_29
    by_cases c1 : x3 = x1
    · rw [if_pos c1]
      rw [if_pos c1, if_neg (by decide)] at ph
      exact bad ph
    · by_cases c2 : x3 = x2
      · rw [if_neg c1, if_pos c2]
        rw [if_neg c1, if_pos c2, if_neg (by decide)] at ph
        exact bad ph
      · rw [if_neg c1, if_neg c2, if_pos rfl] at ph
        rw [if_neg c1, if_neg c2]
        by_cases c4 : fc_isWithin x4 0 3 = true
        · rw [if_pos c4] at ph ⊢
          by_cases c5 : fc_isAmount x5 = true
          · rw [if_pos c5] at ph ⊢
            by_cases c6 : fc_isDay x6 = true
            · rw [if_pos c6]
              exact main q1 q2 q3 c1 c2 c4 c5 c6 (fun H _ => by rw [pf H, if_neg c1, if_neg c2])
            · rw [if_neg c6] at ph ⊢; exact bad ph
          · rw [if_neg c5] at ph ⊢; exact bad ph
        · rw [if_neg c4] at ph ⊢; exact bad ph
  have ph := pmb h
  rw [hb0] at ph
  unfold fc_bargain
  by_cases q1 : fc_isPerson x1 = true
  · by_cases q3 : fc_isPerson x3 = true
    · by_cases q2 : x2 = -1
      · rw [if_pos q1, if_pos q3, if_pos q2]; exact fin q1 (Or.inl q2) q3
      · by_cases q4 : fc_isPerson x2 = true
        · rw [if_pos q1, if_pos q3, if_neg q2, if_pos q4]; exact fin q1 (Or.inr q4) q3
        · rw [if_pos q1, if_pos q3, if_neg q2, if_neg q4]
          rw [if_pos q1, if_neg q2, if_neg q4, if_neg (by decide)] at ph
          exact bad ph
    · rw [if_pos q1, if_neg q3]
      rw [if_pos q1, if_neg q3, ite_self, ite_self, if_neg (by decide)] at ph
      exact bad ph
  · rw [if_neg q1]
    rw [if_neg q1, if_neg (by decide)] at ph
    exact bad ph
