/-! ===== operations: leaveIs, bargainIs, fault, law, purse, heard, back, after, bargain ===== -/
theorem op_leaveIs {h : nv_Hp} (R : pu_R h) (x1 x2 : Int32) : pu_o0 (fc_leaveIs h x1 x2) (pm_leaveIs h x1 x2) := by
  obtain ⟨nL, nK, nB, nA, r⟩ := R
  have a3 := r.2.1.1.2.2
  unfold fc_leaveIs pm_leaveIs
  rw [pu_isLeave r]
  by_cases q1 : fc_isLeave h x1 = true
  · obtain ⟨i, hi, rfl⟩ := pu_xLeave r q1
    have e := fun f hf => pu_Rl_m (f := f) r (pu_sm_r h) hi hf
    have e0 : h 79 i = _ := e 0 (by omega)
    have e1 : h 80 i = _ := e 1 (by omega)
    have e2 : h 81 i = _ := e 2 (by omega)
    have e3 : h 82 i = _ := e 3 (by omega)
    have e4 : h 83 i = _ := e 4 (by omega)
    have e5 : h 84 i = _ := e 5 (by omega)
    have e6 : h 85 i = _ := e 6 (by omega)
    have e7 : h 86 i = _ := e 7 (by omega)
    have e8 : h 87 i = _ := e 8 (by omega)
    have e9 : h 88 i = _ := e 9 (by omega)
    simp only [q1, if_true, pu_inb (show i < 12 by omega) (show 12 < 2 ^ 31 by omega), pu_inb (show i < 13 by omega) (show 13 < 2 ^ 31 by omega), nI_clamp (show i < 2 ^ 31 by omega), e0, e1, e2, e3, e4, e5, e6, e7, e8, e9]
    generalize he : (if x2 = 0 then some (h (13 + i) 0) else _ : Option Int32) = z
    cases z with
    | none => 
      exfalso
      revert he
      repeat' split
      all_goals (intro q; cases q)
    | some v => exact ⟨v, rfl, rfl⟩
  · rw [if_neg q1, if_neg q1]; exact ⟨_, rfl, rfl⟩
theorem op_bargainIs {h : nv_Hp} (R : pu_R h) (x1 x2 : Int32) : pu_o0 (fc_bargainIs h x1 x2) (pm_bargainIs h x1 x2) := by
  obtain ⟨nL, nK, nB, nA, r⟩ := R
  have a3 := r.2.1.2.2.1.2.2
  unfold fc_bargainIs pm_bargainIs
  rw [pu_isBargain r]
  by_cases q1 : fc_isBargain h x1 = true
  · obtain ⟨i, hi, rfl⟩ := pu_xBargain r q1
    have e := fun f h1 hf => pu_Rb_m (f := f) r (pu_sm_r h) hi h1 hf
    have e1 : h 94 i = _ := e 1 (by omega) (by omega)
    have e2 : h 95 i = _ := e 2 (by omega) (by omega)
    have e3 : h 96 i = _ := e 3 (by omega) (by omega)
    have e4 : h 97 i = _ := e 4 (by omega) (by omega)
    have e5 : h 98 i = _ := e 5 (by omega) (by omega)
    have e6 : h 99 i = _ := e 6 (by omega) (by omega)
    simp only [q1, if_true, pu_inb (show i < 10 by omega) (show 10 < 2 ^ 31 by omega), nI_clamp (show i < 2 ^ 31 by omega), e1, e2, e3, e4, e5, e6]
    generalize he : (if x2 = 0 then some (h (37 + i) 1) else _ : Option Int32) = z
    cases z with
    | none => 
      exfalso
      revert he
      repeat' split
      all_goals (intro q; cases q)
    | some v => exact ⟨v, rfl, rfl⟩
  · rw [if_neg q1, if_neg q1]; exact ⟨_, rfl, rfl⟩
theorem op_fault {h : nv_Hp} (R : pu_R h) (x1 : Int32) : pu_o1 (fc_fault h x1) (pm_fault h x1) := by
  have R' := R
  obtain ⟨nL, nK, nB, nA, r⟩ := R
  unfold fc_fault pm_fault
  rw [pu_two]
  by_cases q1 : fc_isLaw x1 = true
  · obtain ⟨l, hl, rfl⟩ := pu_law q1
    obtain ⟨h', g1, g2, g3⟩ := pm_reads_R r (pu_sm_r h) hl
    rw [if_pos q1, if_pos q1, if_pos (pu_inb hl (by omega)), if_pos (pu_inb hl (by omega)), g1, nI_clamp (by omega)]
    exact ⟨_, _, rfl, rfl, pu_R_sm R' (pu_sm_fm g2)⟩
  · rw [if_neg q1, if_neg q1]; exact ⟨_, _, rfl, rfl, R'⟩
theorem op_law {h : nv_Hp} (R : pu_R h) (x1 x2 : Int32) : pu_o1 (fc_law h x1 x2) (pm_law h x1 x2) := by
  have R' := R
  obtain ⟨nL, nK, nB, nA, r⟩ := R
  unfold fc_law pm_law
  rw [pu_two, pu_inc x2 0 8 (by decide) (by decide)]
  by_cases q1 : fc_isLaw x1 = true
  · rw [if_pos q1, if_pos q1]
    by_cases q2 : fc_isWithin x2 0 8 = true
    · rw [if_pos q2, if_pos q2]
      obtain ⟨l, hl, rfl⟩ := pu_law q1
      obtain ⟨j, hj, rfl⟩ := pu_idk 8 (by decide) q2
      obtain ⟨h', g1, g2, g3⟩ := pm_lawOf_R r (pu_sm_r h) hl (show j < 9 by omega)
      rw [if_pos (pu_inb hl (by omega)), if_pos (pu_inb (by omega) (by omega)), if_pos (pu_inb hl (by omega)), g1, nI_clamp (by omega), nI_clamp (by omega), pu_lawc hl]
      exact ⟨_, _, rfl, rfl, pu_R_sm R' g2⟩
    · rw [if_neg q2, if_neg q2]; exact ⟨_, _, rfl, rfl, R'⟩
  · rw [if_neg q1, if_neg q1]; exact ⟨_, _, rfl, rfl, R'⟩
theorem pu_Rw_cg {h h' : nv_Hp} {l : Nat} (h1 : h' (59 + 3 * l) = h (59 + 3 * l)) (h2 : h' (60 + 3 * l) = h (60 + 3 * l)) (h3 : h' (61 + 3 * l) = h (61 + 3 * l)) (r : pu_Rw h l) : pu_Rw h' l := by
  unfold pu_Rw at *; rw [h1, h2, h3]; exact r
theorem pu_R7_cg {h h' : nv_Hp} (e : ∀ k, 59 ≤ k → k ≤ 64 → h' k = h k) (e1 : h' 105 = h 105) (e2 : h' 106 = h 106) (r : ∀ l, l < 2 → pu_Rt h l ∧ pu_Rw h l) : ∀ l, l < 2 → pu_Rt h' l ∧ pu_Rw h' l := fun l hl =>
  ⟨pu_Rt_cg (by rw [e _ (by omega) (by omega)]) (e _ (by omega) (by omega)) e1 (by rw [e2]) (r l hl).1, pu_Rw_cg (e _ (by omega) (by omega)) (e _ (by omega) (by omega)) (e _ (by omega) (by omega)) (r l hl).2⟩
theorem pu_R8_cg {h h' : nv_Hp} (e : ∀ k, 65 ≤ k → k ≤ 72 → h' k = h k) (e1 : h' 74 = h 74) (e2 : h' 75 = h 75) (e3 : h' 76 = h 76) (r : ∀ s, s < 4 → pu_Rs h s) : ∀ s, s < 4 → pu_Rs h' s := fun s hs =>
  pu_Rs_cg (e _ (by omega) (by omega)) (e _ (by omega) (by omega)) (by rw [e1]) (by rw [e2]) e3 (r s hs)
theorem pu_Rc_cg {h h' : nv_Hp} {nL nK nB nA : Nat} (e0 : ∀ j, h' 0 j = h 0 j) (e1 : ∀ j, h' 73 j = h 73 j) (r : pu_Rc h nL nK nB nA) : pu_Rc h' nL nK nB nA := by
  unfold pu_Rc at *
  simp only [e0, e1]
  exact r
theorem op_purse {h : nv_Hp} (R : pu_R h) (x1 x2 : Int32) : pu_o2 (fc_purse h x1 x2) (fun h1 => pm_purse h1 x1 x2) := by
  have R' := R
  obtain ⟨nL, nK, nB, nA, r1, r2, r3, r4, r5, r6, r7, r8⟩ := R
  unfold fc_purse pm_purse
  simp only [pu_pers, pu_inc x2 0 9999 (show _ = (0 : Int64) by decide) (show _ = (9999 : Int64) by decide)]
  by_cases q1 : fc_isPerson x1 = true
  · by_cases q2 : fc_isWithin x2 0 9999 = true
    · obtain ⟨i, hi, rfl⟩ := pu_person q1
      simp only [q1, q2, if_true, pu_inb hi (show 8 < 2 ^ 31 by omega), nI_clamp (show i < 2 ^ 31 by omega)]
      unfold nv_lt
      have eH : ∀ k, k ≠ 1 → k ≠ 78 → nv_up (nv_up h 1 i x2) 78 i x2 k = h k := fun k a b => by rw [pu_up_c b, pu_up_c a]
      refine ⟨_, _, nv_up (nv_up h 1 i x2) 78 i x2, rfl, ?_, nL, nK, nB, nA, ?_, pu_Rc_cg (fun j => by rw [eH 0 (by decide) (by decide)]) (fun j => by rw [eH 73 (by decide) (by decide)]) r2, pu_Rl_cg r2.1.2.2 (fun k _ _ => eH k (by omega) (by omega)) (fun k _ _ => eH k (by omega) (by omega)) r3, pu_Rk_cg r2.2.1.2.2 (fun k _ _ => eH k (by omega) (by omega)) (fun k _ _ => eH k (by omega) (by omega)) r4, pu_Rb_cg r2.2.2.1.2.2 (fun k _ _ => eH k (by omega) (by omega)) (fun k _ _ => eH k (by omega) (by omega)) r5, pu_Ra_cg r2.2.2.2.1.2.2 (fun k _ _ => eH k (by omega) (by omega)) (fun k _ _ => eH k (by omega) (by omega)) r6, pu_R7_cg (fun k _ _ => eH k (by omega) (by omega)) (eH 105 (by decide) (by decide)) (eH 106 (by decide) (by decide)) r7, pu_R8_cg (fun k _ _ => eH k (by omega) (by omega)) (eH 74 (by decide) (by decide)) (eH 75 (by decide) (by decide)) (eH 76 (by decide) (by decide)) r8⟩
      · simp only [nv_up_k h x2 (show 78 ≠ 1 by decide), (r1 i hi).1]
      · intro j hj
        rw [pu_up_c (show 1 ≠ 78 by decide)]
        by_cases c : j = i
        · subst c
          rw [nv_up_s, nv_up_s]
          rw [pu_within, decide_eq_true_eq, pu_le, pu_le, show (0 : Int32).toInt = 0 by decide, show (9999 : Int32).toInt = 9999 by decide] at q2
          exact ⟨rfl, q2⟩
        · rw [nv_up_j _ _ c, nv_up_j _ _ c, nv_up_j _ _ c]
          exact r1 j hj
    · simp only [q1, q2, if_true, if_false]; exact ⟨_, _, _, rfl, rfl, R'⟩
  · simp only [q1, if_false]; exact ⟨_, _, _, rfl, rfl, R'⟩
theorem op_heard {h : nv_Hp} (R : pu_R h) (x1 x2 : Int32) : pu_o2 (fc_heard h x1 x2) (fun h1 => pm_heard h1 x1 x2) := by
  have R' := R
  obtain ⟨nL, nK, nB, nA, r⟩ := R
  have r' := r
  obtain ⟨r1, r2, r3, r4, r5, r6, r7, r8⟩ := r'
  have b3 := r2.2.1.2.2
  unfold fc_heard
  by_cases q1 : fc_isBack h x1 = true
  · obtain ⟨i, hi, rfl⟩ := pu_xBack r q1
    rw [if_pos q1, if_pos (pu_inb (by omega) (by omega)), nI_clamp (by omega)]
    have e90 : h 90 i = h (25 + i) 1 := pu_Rk_m (f := 1) r (pu_sm_r h) hi (by omega)
    have e92 : h 92 i = h (25 + i) 3 := pu_Rk_m (f := 3) r (pu_sm_r h) hi (by omega)
    by_cases q2 : fc_isWithin x2 (h (25 + i) 1) 100 = true
    · rw [if_pos q2]
      by_cases q3 : h (25 + i) 3 = -1
      · rw [if_pos q3]
        unfold nv_lt
        have eH : ∀ k, k ≠ 25 + i → k ≠ 92 → nv_up (nv_up h (25 + i) 3 x2) 92 i x2 k = h k := fun k a b => by rw [pu_up_c b, pu_up_c a]
        refine ⟨_, _, nv_up (nv_up h (25 + i) 3 x2) 92 i x2, rfl, ?_, nL, nK, nB, nA, pu_Rp_cg (eH 1 (by omega) (by omega)) (eH 78 (by omega) (by omega)) r1, pu_Rc_cg (fun j => by rw [eH 0 (by omega) (by decide)]) (fun j => by rw [eH 73 (by omega) (by decide)]) r2, pu_Rl_cg r2.1.2.2 (fun k _ _ => eH k (by omega) (by omega)) (fun k _ _ => eH k (by omega) (by omega)) r3, ?_, pu_Rb_cg r2.2.2.1.2.2 (fun k _ _ => eH k (by omega) (by omega)) (fun k _ _ => eH k (by omega) (by omega)) r5, pu_Ra_cg r2.2.2.2.1.2.2 (fun k _ _ => eH k (by omega) (by omega)) (fun k _ _ => eH k (by omega) (by omega)) r6, pu_R7_cg (fun k _ _ => eH k (by omega) (by omega)) (eH 105 (by omega) (by decide)) (eH 106 (by omega) (by decide)) r7, pu_R8_cg (fun k _ _ => eH k (by omega) (by omega)) (eH 74 (by omega) (by decide)) (eH 75 (by omega) (by decide)) (eH 76 (by omega) (by decide)) r8⟩
        · have hk : ∀ k, k ≠ 25 + i → nv_up h (25 + i) 3 x2 k = h k := fun k a => pu_up_c a
          have ib : pm_isBack (nv_up h (25 + i) 3 x2) (nI i) = true := by
            have := pu_isBack r (nI i)
            unfold pm_isBack at *
            rw [hk 73 (by omega), this, q1]
          show pm_heard (nv_up h (25 + i) 3 x2) (nI i) x2 = _
          unfold pm_heard nv_lt
          rw [if_pos ib, if_pos (pu_inb (by omega) (by omega)), nI_clamp (by omega), hk 90 (by omega), hk 92 (by omega), e90, e92, pu_inc x2 (h (25 + i) 1) 100 rfl (by decide), if_pos q2, if_pos q3]
        · intro j hj
          obtain ⟨p1, p2⟩ := r4 j hj
          have e5 : nv_up (nv_up h (25 + i) 3 x2) 92 i x2 (25 + j) 0 = h (25 + j) 0 := by
            rw [nv_up_k _ _ (by omega), nv_up_j _ _ (by decide)]
          refine ⟨fun f hf => ?_, by rw [e5]; exact p2⟩
          rw [nv_up_k (k := 92) (a := 25 + j) _ _ (by omega)]
          by_cases c : j = i
          · subst c
            by_cases d : f = 3
            · subst d; rw [nv_up_s, nv_up_s]
            · rw [nv_up_k (k := 92) _ _ (by omega), nv_up_k (k := 25 + j) (a := 89 + f) _ _ (by omega), nv_up_j _ _ d]; exact p1 f hf
          · rw [nv_up_j _ _ c, nv_up_k (k := 25 + i) (a := 89 + f) _ _ (by omega), nv_up_k (k := 25 + i) (a := 25 + j) _ _ (by omega)]; exact p1 f hf
      · rw [if_neg q3]
        refine ⟨_, _, _, rfl, ?_, R'⟩
        show pm_heard h (nI i) x2 = _
        unfold pm_heard
        rw [pu_isBack r, if_pos q1, if_pos (pu_inb (by omega) (by omega)), nI_clamp (by omega), e90, e92, pu_inc x2 (h (25 + i) 1) 100 rfl (by decide), if_pos q2, if_neg q3]
    · rw [if_neg q2]
      refine ⟨_, _, _, rfl, ?_, R'⟩
      show pm_heard h (nI i) x2 = _
      unfold pm_heard
      rw [pu_isBack r, if_pos q1, if_pos (pu_inb (by omega) (by omega)), nI_clamp (by omega), e90, pu_inc x2 (h (25 + i) 1) 100 rfl (by decide), if_neg q2]
  · rw [if_neg q1]
    refine ⟨_, _, _, rfl, ?_, R'⟩
    show pm_heard h x1 x2 = _
    unfold pm_heard
    rw [pu_isBack r, if_neg q1]
