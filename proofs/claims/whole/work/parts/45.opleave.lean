theorem pu_given_src {h : nv_Hp} {x1 x2 x3 x4 : Int32} (e : fc_mayBeGiven h x1 x2 x3 x4 = some true) : (x1 = 3 ∧ fc_isLeave h x2 = true) ∨ (x1 ≠ 3 ∧ fc_isPerson x2 = true) := by
  unfold fc_mayBeGiven at e
  by_cases p3 : fc_isPerson x3 = true
  · rw [if_pos p3] at e
    by_cases a : x1 = 3
    · rw [if_pos a] at e
      unfold fc_mayBePassed at e
      by_cases il : fc_isLeave h x2 = true
      · exact Or.inl ⟨a, il⟩
      · rw [if_neg il, Option.bind_some, if_neg (by decide)] at e; cases e
    · rw [if_neg a] at e
      by_cases p2 : fc_isPerson x2 = true
      · exact Or.inr ⟨a, p2⟩
      · rw [if_neg p2] at e; cases e
  · rw [if_neg p3] at e; cases e
theorem pu_given0 {h : nv_Hp} {nL nK nB nA : Nat} (r : pu_Rn h nL nK nB nA) (x1 x2 x3 x4 : Int32) : ∃ b, fc_mayBeGiven h x1 x2 x3 x4 = some b ∧ pm_isGiven h x1 x2 x3 x4 = some b := by
  have a3 := r.2.1.1.2.2
  have e01 : ¬ (0 : Int32) = 3 := by decide
  have e30 : ¬ (3 : Int32) = 0 := by decide
  unfold pm_isGiven pm_isGiven_76 fc_mayBeGiven fc_mayBePassed fc_mayBePassed_32
  rw [pu_inc x1 0 3 (by decide) (by decide), pu_pers, pu_pers, pu_pers, pu_two, pu_isLeave r, pu_flag]
  by_cases p3 : fc_isPerson x3 = true
  · by_cases a : x1 = 3
    · subst a
      rw [show fc_isWithin 3 0 3 = true by decide]
      by_cases il : fc_isLeave h x2 = true
      · obtain ⟨i, hi, rfl⟩ := pu_xLeave r il
        have e79 : h 79 i = h (13 + i) 0 := pu_Rl_m (f := 0) r (pu_sm_r h) hi (by omega)
        have e81 : h 81 i = h (13 + i) 2 := pu_Rl_m (f := 2) r (pu_sm_r h) hi (by omega)
        have e82 : h 82 i = h (13 + i) 3 := pu_Rl_m (f := 3) r (pu_sm_r h) hi (by omega)
        simp only [p3, il, if_true, pu_inb (show i < 12 by omega) (show 12 < 2 ^ 31 by omega), pu_inb (show i < 13 by omega) (show 13 < 2 ^ 31 by omega), nI_clamp (show i < 2 ^ 31 by omega), e79, e81, e82]
        by_cases f0 : h (13 + i) 0 = 0 <;> by_cases f3 : h (13 + i) 0 = 3 <;> by_cases m1 : h (13 + i) 3 = 1 <;> by_cases hh : h (13 + i) 2 = x3 <;> by_cases fl : fc_isLaw x4 = true <;> simp only [f0, f3, m1, hh, fl, if_true, if_false, Option.bind_some, Bool.false_eq_true, e01, e30] <;> exact ⟨_, rfl, rfl⟩
      · simp only [p3, il, if_true, if_false, Option.bind_some, Bool.false_eq_true]
        exact ⟨_, rfl, rfl⟩
    · by_cases p2 : fc_isPerson x2 = true
      · by_cases ee : x2 = x3
        · subst ee
          simp only [p2, a, if_true, if_false, ite_self]
          exact ⟨_, rfl, rfl⟩
        · by_cases b0 : x1 = 0
          · subst b0
            rw [show fc_isWithin 0 0 3 = true by decide]
            simp only [p3, a, p2, ee, if_true, if_false]
            exact ⟨_, rfl, rfl⟩
          · by_cases b1 : x1 = 1
            · subst b1
              rw [show fc_isWithin 1 0 3 = true by decide]
              simp only [p3, a, p2, ee, b0, if_true, if_false]
              by_cases z : x4 = 0
              · simp only [z, if_true]; exact ⟨_, rfl, rfl⟩
              · simp only [z, if_false]; exact ⟨_, rfl, rfl⟩
            · by_cases b2 : x1 = 2
              · subst b2
                rw [show fc_isWithin 2 0 3 = true by decide]
                simp only [p3, a, p2, ee, b0, b1, if_true, if_false]
                by_cases p4 : fc_isPerson x4 = true
                · by_cases y1 : x4 = x2
                  · subst y1; simp only [p4, if_true]; exact ⟨_, rfl, rfl⟩
                  · by_cases y2 : x4 = x3
                    · subst y2; simp only [p4, y1, if_true, if_false]; exact ⟨_, rfl, rfl⟩
                    · simp only [p4, y1, y2, if_true, if_false]; exact ⟨_, rfl, rfl⟩
                · simp only [p4, if_false]; exact ⟨_, rfl, rfl⟩
              · have nw : fc_isWithin x1 0 3 = false := by
                  rw [← Bool.not_eq_true]
                  intro q
                  obtain ⟨j, hj, e⟩ := pu_idk 3 (by decide) q
                  have : j = 0 ∨ j = 1 ∨ j = 2 ∨ j = 3 := by omega
                  rcases this with rfl | rfl | rfl | rfl
                  · exact b0 e
                  · exact b1 e
                  · exact b2 e
                  · exact a e
                simp only [p3, a, p2, ee, b0, b1, b2, nw, if_true, if_false, Bool.false_eq_true]
                exact ⟨_, rfl, rfl⟩
      · simp only [p3, a, p2, if_true, if_false, ite_self, Bool.false_eq_true]
        exact ⟨_, rfl, rfl⟩
  · simp only [p3, if_false, ite_self, Bool.false_eq_true]
    exact ⟨_, rfl, rfl⟩
theorem pu_given {h : nv_Hp} {nL nK nB nA : Nat} (r : pu_Rn h nL nK nB nA) (x1 x2 x3 x4 : Int32) : ∃ b, fc_mayBeGiven h x1 x2 x3 x4 = some b ∧ (∀ H : nv_Hp, (∀ k, 73 ≤ k → H k = h k) → pm_isGiven H x1 x2 x3 x4 = some b) ∧ (b = true → (x1 = 3 ∧ ∃ i, i < nL ∧ x2 = nI i) ∨ (x1 ≠ 3 ∧ ∃ i, i < 8 ∧ x2 = nI i)) := by
  have pmE : ∀ H : nv_Hp, (∀ k, 73 ≤ k → H k = h k) → pm_isGiven H x1 x2 x3 x4 = pm_isGiven h x1 x2 x3 x4 := by
    intro H e
    have il : pm_isLeave H x2 = pm_isLeave h x2 := by unfold pm_isLeave; rw [e 73 (by omega)]
    have e76 : ∀ b, pm_isGiven_76 H x2 x3 b = pm_isGiven_76 h x2 x3 b := fun b => by unfold pm_isGiven_76; rw [e 81 (by omega)]
    unfold pm_isGiven
    simp only [il, e 79 (by omega), e 82 (by omega), e76]
  obtain ⟨b, q1, q2⟩ := pu_given0 r x1 x2 x3 x4
  refine ⟨b, q1, fun H e => (pmE H e).trans q2, fun hb => ?_⟩
  subst hb
  rcases pu_given_src q1 with ⟨a, c⟩ | ⟨a, c⟩
  · exact Or.inl ⟨a, pu_xLeave r c⟩
  · exact Or.inr ⟨a, pu_person c⟩
theorem pu_scope (x5 x6 x7 x8 : Int32) : fc_isScope x5 x6 x7 x8 = (fc_isWithin x5 1 15 && (fc_isAmount x6 && (fc_isDay x8 && fc_isWithin x7 0 x8))) := by
  unfold fc_isScope fc_isDay
  cases fc_isWithin x5 1 15
  · rfl
  · cases fc_isAmount x6
    · rfl
    · simp only [pu_within, decide_eq_true_eq, if_true, Bool.true_and]
      simp only [pu_le, pu_lt, show (0 : Int32).toInt = 0 by decide, show (99 : Int32).toInt = 99 by decide]
      by_cases c1 : 0 ≤ x7.toInt ∧ x7.toInt ≤ 99
      · rw [if_pos c1]
        by_cases c2 : 0 ≤ x8.toInt ∧ x8.toInt ≤ 99
        · rw [if_pos c2, decide_eq_true c2, Bool.true_and]
          by_cases c3 : x8.toInt < x7.toInt
          · rw [if_pos c3, decide_eq_false (show ¬ (0 ≤ x7.toInt ∧ x7.toInt ≤ x8.toInt) by omega)]
          · rw [if_neg c3, decide_eq_true (show 0 ≤ x7.toInt ∧ x7.toInt ≤ x8.toInt by omega)]
        · rw [if_neg c2, decide_eq_false c2, Bool.false_and]
      · rw [if_neg c1]
        by_cases c2 : 0 ≤ x8.toInt ∧ x8.toInt ≤ 99
        · rw [decide_eq_true c2, Bool.true_and, decide_eq_false (show ¬ (0 ≤ x7.toInt ∧ x7.toInt ≤ x8.toInt) by omega)]
        · rw [decide_eq_false c2, Bool.false_and]
theorem op_leave {h : nv_Hp} (R : pu_R h) (x1 x2 x3 x4 x5 x6 x7 x8 : Int32) : pu_o2 (fc_leave h x1 x2 x3 x4 x5 x6 x7 x8) (fun h1 => pm_leave h1 x1 x2 x3 x4 x5 x6 x7 x8) := by
  have R' := R
  obtain ⟨nL, nK, nB, nA, r⟩ := R
  have r' := r
  obtain ⟨r1, r2, r3, r4, r5, r6, r7, r8⟩ := r'
  have a3 := r2.1.2.2
  have k3 := r2.2.1.2.2
  have b3 := r2.2.2.1.2.2
  have d3 := r2.2.2.2.1.2.2
  obtain ⟨b, g1, g2, g3⟩ := pu_given r x1 x2 x3 x4
  have pml : ∀ H : nv_Hp, (∀ k, 73 ≤ k → H k = h k) → pm_leave H x1 x2 x3 x4 x5 x6 x7 x8 = if b = true then (if fc_isScope x5 x6 x7 x8 = true then (if H 73 6 = 12 then some (-4, H) else (Option.bind (pm_lays H x1 x2 x3 x4 x5 x6 x7 x8) fun q8 => some (((q8 73 6) - 1), q8))) else some (-2, H)) else some (-2, H) := by
    intro H e
    unfold pm_leave
    rw [g2 H e, Option.bind_some, pu_inc x5 1 15 (by decide) (by decide), pu_amount, pu_day, pu_in0, pu_scope]
    cases b <;> cases fc_isWithin x5 1 15 <;> cases fc_isAmount x6 <;> cases fc_isDay x8 <;> cases fc_isWithin x7 0 x8 <;> rfl
  have ph := pml h (fun _ _ => rfl)
  cases b with
  | false =>
    refine ⟨-2, h, h, ?_, ph, R'⟩
    unfold fc_leave
    rw [g1]; rfl
  | true =>
    by_cases sc : fc_isScope x5 x6 x7 x8 = true
    · rw [if_pos rfl, if_pos sc] at ph
      by_cases c : nL < 12
      · obtain ⟨gv, rt, ps, s1, s2, hgv, hrt⟩ : ∃ gv rt ps, ((x1 = 3 ∧ ∃ r, r < nL ∧ x2 = nI r ∧ gv = h (13 + r) 1 ∧ rt = x2 ∧ ps = h (13 + r) 9 + 1) ∨ (x1 ≠ 3 ∧ gv = x2 ∧ rt = -1 ∧ ps = 0)) ∧ ((x1 = 3 ∧ ∃ r, r < nL ∧ x2 = nI r ∧ gv = h 80 r ∧ rt = x2 ∧ ps = h 88 r + 1) ∨ (x1 ≠ 3 ∧ gv = x2 ∧ rt = -1 ∧ ps = 0)) ∧ (∃ g, g < 8 ∧ gv = nI g) ∧ (rt = -1 ∨ ∃ r, r < nL ∧ rt = nI r) := by
          rcases g3 rfl with ⟨q, i, hi, e⟩ | ⟨q, i, hi, e⟩
          · have e80 : h 80 i = h (13 + i) 1 := pu_Rl_m (f := 1) r (pu_sm_r h) hi (by omega)
            have e88 : h 88 i = h (13 + i) 9 := pu_Rl_m (f := 9) r (pu_sm_r h) hi (by omega)
            exact ⟨_, _, _, Or.inl ⟨q, i, hi, e, rfl, rfl, rfl⟩, Or.inl ⟨q, i, hi, e, e80.symm, rfl, by rw [e88]⟩, (r3 i hi).2.1, Or.inr ⟨i, hi, e⟩⟩
          · exact ⟨_, _, _, Or.inr ⟨q, rfl, rfl, rfl⟩, Or.inr ⟨q, rfl, rfl, rfl⟩, ⟨i, hi, e⟩, Or.inl rfl⟩
        obtain ⟨p, f0, f1, f2, f3, c0, c1, c2, c3, c4, c5, c6, c7, c8, c9⟩ := fc_lays_sp r2.1.1 c x1 x2 x3 x4 x5 x6 x7 x8 gv rt ps s1 g1 sc
        have p73 : ∀ k, 73 ≤ k → p k = h k := fun k hk => f1 k (by omega) (by omega)
        have cM : p 73 6 = nI nL := by rw [p73 73 (by omega)]; exact r2.1.2.1
        obtain ⟨q, l0, l1, l2, l3, l4, m0, m1, m2, m3, m4, m5, m6, m7, m8, m9⟩ := pm_lays_sp (h := p) cM (by omega) x1 x2 x3 x4 x5 x6 x7 x8 gv rt ps (by
          rcases s2 with ⟨z, i, hi, e, e1, e2, e3⟩ | z
          · exact Or.inl ⟨z, i, hi, e, by rw [p73 80 (by omega)]; exact e1, e2, by rw [p73 88 (by omega)]; exact e3⟩
          · exact Or.inr z)
        have gk : ∀ k, k ≠ 13 + nL → k ≠ 0 → ¬ (79 ≤ k ∧ k ≤ 88) → k ≠ 73 → q k = h k := fun k a b c d => by rw [l1 k c d, f1 k a b]
        have q0 : ∀ j, q 0 j = p 0 j := fun j => by rw [l1 0 (by omega) (by omega)]
        have q73 : ∀ j, j ≠ 6 → q 73 j = h 73 j := fun j hj => by rw [l2 j hj, p73 73 (by omega)]
        have qn : q (13 + nL) = p (13 + nL) := l1 _ (by omega) (by omega)
        have n12 : ¬ nI nL = 12 := fun z => by have := (pu_eqn (m := 12) (c := 12) rfl (by omega) (by omega)).mp z; omega
        refine ⟨nI nL, p, q, f0, ?_, nL + 1, nK, nB, nA, pu_Rp_cg (gk 1 (by omega) (by omega) (by omega) (by omega)) (gk 78 (by omega) (by omega) (by omega) (by omega)) r1, ?_, ?_, ?_, pu_Rb_cg b3 (fun k _ _ => gk k (by omega) (by omega) (by omega) (by omega)) (fun k _ _ => gk k (by omega) (by omega) (by omega) (by omega)) r5, pu_Ra_cg d3 (fun k _ _ => gk k (by omega) (by omega) (by omega) (by omega)) (fun k _ _ => gk k (by omega) (by omega) (by omega) (by omega)) r6, pu_R7_cg (fun k _ _ => gk k (by omega) (by omega) (by omega) (by omega)) (gk 105 (by omega) (by omega) (by omega) (by omega)) (gk 106 (by omega) (by omega) (by omega) (by omega)) r7, pu_R8_cg (fun k _ _ => gk k (by omega) (by omega) (by omega) (by omega)) (gk 74 (by omega) (by omega) (by omega) (by omega)) (gk 75 (by omega) (by omega) (by omega) (by omega)) (gk 76 (by omega) (by omega) (by omega) (by omega)) r8⟩
        · show pm_leave p x1 x2 x3 x4 x5 x6 x7 x8 = _
          rw [pml p p73, if_pos rfl, if_pos sc, cM, if_neg n12, l0, Option.bind_some, l3, nI_pred]
        · exact ⟨⟨by rw [q0]; exact f3, l3, by omega⟩, ⟨by rw [q0, f2 8 (by decide)]; exact r2.2.1.1, by rw [q73 17 (by decide)]; exact r2.2.1.2.1, k3⟩, ⟨by rw [q0, f2 9 (by decide)]; exact r2.2.2.1.1, by rw [q73 23 (by decide)]; exact r2.2.2.1.2.1, b3⟩, ⟨by rw [q0, f2 10 (by decide)]; exact r2.2.2.2.1.1, by rw [q73 30 (by decide)]; exact r2.2.2.2.1.2.1, d3⟩, by rw [q0, f2 11 (by decide), q73 4 (by decide)]; exact r2.2.2.2.2⟩
        · intro j hj
          by_cases d : j = nL
          · subst d
            rw [qn, c1, c8]
            refine ⟨fun f hf => ?_, hgv, hrt⟩
            have hf' : f = 0 ∨ f = 1 ∨ f = 2 ∨ f = 3 ∨ f = 4 ∨ f = 5 ∨ f = 6 ∨ f = 7 ∨ f = 8 ∨ f = 9 := by omega
            rcases hf' with rfl | rfl | rfl | rfl | rfl | rfl | rfl | rfl | rfl | rfl
            · exact m0.trans c0.symm
            · exact m1.trans c1.symm
            · exact m2.trans c2.symm
            · exact m3.trans c3.symm
            · exact m4.trans c4.symm
            · exact m5.trans c5.symm
            · exact m6.trans c6.symm
            · exact m7.trans c7.symm
            · exact m8.trans c8.symm
            · exact m9.trans c9.symm
          · rw [gk (13 + j) (by omega) (by omega) (by omega) (by omega)]
            obtain ⟨p1, p2⟩ := r3 j (by omega)
            exact ⟨fun f hf => by rw [l4 _ _ (by omega) d, p73 _ (by omega)]; exact p1 f hf, p2⟩
        · intro j hj
          obtain ⟨p1, l, hl, el⟩ := r4 j hj
          rw [gk (25 + j) (by omega) (by omega) (by omega) (by omega)]
          exact ⟨fun f hf => by rw [gk _ (by omega) (by omega) (by omega) (by omega)]; exact p1 f hf, l, by omega, el⟩
      · have : nL = 12 := by omega
        subst this
        rw [r2.1.2.1, if_pos (by decide)] at ph
        refine ⟨-4, h, h, ?_, ph, R'⟩
        unfold fc_leave
        rw [g1, Option.bind_some, if_pos rfl, if_pos sc, r2.1.1, if_neg (by decide)]
    · rw [if_pos rfl, if_neg sc] at ph
      refine ⟨-2, h, h, ?_, ph, R'⟩
      unfold fc_leave
      rw [g1, Option.bind_some, if_pos rfl, if_neg sc]
