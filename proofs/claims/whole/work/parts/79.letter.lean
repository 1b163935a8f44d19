/-! ===== letter ===== -/
theorem nI_self (x : Int32) : nI x.toBitVec.toNat = x := by
  unfold nI
  rw [Int32.ofNat_bitVecToNat]
  rfl
theorem pm_both_sp {h : nv_Hp} {nL nK nB nA f d : Nat} {Q : nv_Hp → Prop} (R : pu_Rm Q h nL nK nB nA) (x3 : Int32) : ∃ fl, pm_isOfBoth h (nI f) (nI d) x3 = some fl ∧ (fl = true ↔ x3 &&& (nI (lBt h f d nB) ^^^ (-1)) = 0) ∧ (fl = true → ∃ S, S < 2 ^ nB ∧ x3 = nI S ∧ ∀ k, S.testBit k = true → (lBt h f d nB).testBit k = true) := by
  obtain ⟨⟨a1, a2, a3⟩, ⟨b1, b2, b3⟩, ⟨c1, c2, c3⟩, ⟨d1, d2, d3⟩, _⟩ := R.2.1
  have le : 2 ^ nB ≤ 2 ^ 10 := Nat.pow_le_pow_right (by omega) c3
  have bl : lBt h f d nB < 2 ^ nB := bt_set_lt nB (fun _ hi => hi)
  have bb : ∀ k, k < nB → (lBt h f d nB).testBit k = lP h f d k := fun k hk => by
    unfold lBt; rw [bt_set_id]; simp [hk]
  have cls : x3 &&& (nI (lBt h f d nB) ^^^ (-1)) = 0 ↔ ∀ k, x3.toBitVec.toNat.testBit k = true → (lBt h f d nB).testBit k = true := by
    have := bt_sub (a := x3.toBitVec.toNat) (c := lBt h f d nB) x3.toBitVec.isLt
    rw [nI_self] at this
    exact this
  unfold pm_isOfBoth
  rw [c2, bt_one (by omega), pu_in0]
  cases e : fc_isWithin x3 0 (nI (2 ^ nB) - 1)
  · refine ⟨false, ?_, ?_, fun z => by cases z⟩
    · obtain ⟨m, em⟩ : ∃ m, nv_fu = m + 1 := ⟨3999, rfl⟩
      rw [em, pm_isOfBoth_20]
      split
      · rfl
      · rw [if_neg (by decide)]
    · constructor
      · intro z; cases z
      · intro z
        exfalso
        have sb := and_sub.mpr (cls.mp z)
        have lt : x3.toBitVec.toNat < 2 ^ nB := by
          have l2 : x3.toBitVec.toNat &&& lBt h f d nB ≤ lBt h f d nB := Nat.and_le_right
          omega
        have := pu_ido (n := 2 ^ nB) (i := x3.toBitVec.toNat) (by omega) lt
        rw [nI_self, e] at this
        cases this
  · obtain ⟨S, hS, rfl⟩ := pu_idx (by omega) e
    have eS : (nI S).toBitVec.toNat = S := pk_tn (by omega)
    rw [eS] at cls
    have key := pu_flagw (F := pm_isOfBoth_20 h (nI f) (nI d) (nI S)) (N := nB) (p := fun i => S.testBit i && !lP h f d i) (K := some) (fun n i hi => by
      have e94 : h 94 i = h (37 + i) 1 := (R.2.2.2.2.1 i hi).1 0 (by omega)
      have e95 : h 95 i = h (37 + i) 2 := (R.2.2.2.2.1 i hi).1 1 (by omega)
      rw [pm_isOfBoth_20, c2, if_neg (nI_ge hi (by omega)), if_pos rfl, if_pos (pu_inb (by omega) (by omega)), nI_clamp (by omega), e94, e95, nI_1]
      simp only [bt_low0 (show S < 2 ^ 31 by omega) (show i < 32 by omega)]
      unfold lP
      cases S.testBit i <;> by_cases x : h (37 + i) 1 = nI d <;> by_cases y : h (37 + i) 2 = nI f <;> simp [x, y]) (fun n i hi => by
      rw [pm_isOfBoth_20, c2, if_neg (nI_ge hi (by omega)), if_neg (by decide)]) (fun n b => by
      rw [pm_isOfBoth_20, c2, if_pos (nI_le (Nat.le_refl _) (by omega))]) (show nB < 4000 by omega) true
    rw [Bool.true_and] at key
    refine ⟨_, key, ?_, fun z => ⟨S, hS, rfl, ?_⟩⟩
    · rw [cls, Bool.not_eq_true', List.any_eq_false]
      constructor
      · intro z k hk
        by_cases kn : k < nB
        · have := z k (List.mem_range.mpr kn)
          rw [hk] at this
          rw [bb k kn]
          simpa using this
        · have p : 2 ^ nB ≤ 2 ^ k := Nat.pow_le_pow_right (by omega) (by omega)
          rw [Nat.testBit_lt_two_pow (by omega)] at hk; cases hk
      · intro z k hk
        have kn := List.mem_range.mp hk
        cases q : S.testBit k
        · simp
        · have := z k q
          rw [bb k kn] at this
          simp [this]
    · rw [Bool.not_eq_true', List.any_eq_false] at z
      intro k hk
      by_cases kn : k < nB
      · have := z k (List.mem_range.mpr kn)
        rw [hk] at this
        rw [bb k kn]
        simpa using this
      · have p : 2 ^ nB ≤ 2 ^ k := Nat.pow_le_pow_right (by omega) (by omega)
        rw [Nat.testBit_lt_two_pow (by omega)] at hk; cases hk
theorem op_letter {h : nv_Hp} (R : pu_R h) (x1 x2 x3 x4 : Int32) : pu_o1 (fc_letter h x1 x2 x3 x4) (pm_letter h x1 x2 x3 x4) := by
  have R' := R
  obtain ⟨nL, nK, nB, nA, r⟩ := R
  obtain ⟨⟨a1, a2, a3⟩, ⟨b1, b2, b3⟩, ⟨c1, c2, c3⟩, ⟨d1, d2, d3⟩, _⟩ := r.2.1
  unfold fc_letter pm_letter
  rw [pu_pers, pu_pers, pu_two, pu_flag]
  by_cases q1 : fc_isPerson x1 = true
  · rw [if_pos q1, if_pos q1]
    by_cases q2 : fc_isPerson x2 = true
    · rw [if_pos q2, if_pos q2]
      by_cases q3 : x1 = x2
      · rw [if_pos q3, if_pos q3]; exact ⟨_, _, rfl, rfl, R'⟩
      · rw [if_neg q3, if_neg q3]
        obtain ⟨f, hf, rfl⟩ := pu_person q1
        obtain ⟨d, hd, rfl⟩ := pu_person q2
        have n : f ≠ d := fun z => q3 (by rw [z])
        obtain ⟨fl, p1, p2, p3⟩ := pm_both_sp (f := f) (d := d) r x3
        rw [p1, Option.bind_some]
        have le : 2 ^ nB ≤ 2 ^ 10 := Nat.pow_le_pow_right (by omega) c3
        have lb : lBt h f d nB < 2 ^ 10 := bt_set_1k c3
        by_cases q4 : fc_isLaw x4 = true
        · rw [if_pos q4, if_pos q4, fc_between_sp c1 c3, Option.bind_some]
          cases fl with
          | false =>
            rw [if_neg (fun z => by have := p2.mpr z; cases this), if_neg (by decide)]
            exact ⟨_, _, rfl, rfl, R'⟩
          | true =>
            rw [if_pos (p2.mp rfl), if_pos rfl]
            obtain ⟨S, hS, rfl, sub⟩ := p3 rfl
            rw [fc_already_sp r (by omega), Option.bind_some, fc_already_sp r (by omega), Option.bind_some]
            obtain ⟨g', u1, u2⟩ := pm_search (x4 := x4) r hf hd n (show S < 2 ^ 31 by omega) (g := h) ⟨fun _ _ _ _ _ => rfl, a2⟩
            rw [u2]
            refine ⟨lres x4 (lJJ h nL nK nB nA f d S), g', ?_, rfl, nL, nK, nB, nA, lf_R r u1⟩
            by_cases q5 : (nI (bt_set (fun i => (lBt h f d nB).testBit i && lA h nL nK nA (h 61) i) id nB) ||| nI (bt_set (fun i => (lBt h f d nB).testBit i && lA h nL nK nA (h 64) i) id nB)) &&& (nI S ^^^ (-1)) = 0
            · rw [if_pos q5]
              exact fc_search c1 c3 hS sub
            · rw [if_neg q5]
              have s1 := bt_set_1k (p := fun i => (lBt h f d nB).testBit i && lA h nL nK nA (h 61) i) c3
              have s2 := bt_set_1k (p := fun i => (lBt h f d nB).testBit i && lA h nL nK nA (h 64) i) c3
              have s3 := bt_orlt s1 s2
              rw [bt_or, bt_sub (by omega)] at q5
              have q6 : ∃ k, (bt_set (fun i => (lBt h f d nB).testBit i && lA h nL nK nA (h 61) i) id nB ||| bt_set (fun i => (lBt h f d nB).testBit i && lA h nL nK nA (h 64) i) id nB).testBit k = true ∧ S.testBit k = false := by
                apply Classical.byContradiction
                intro z
                apply q5
                intro k hk
                cases e : S.testBit k
                · exact absurd ⟨k, hk, e⟩ z
                · rfl
              obtain ⟨k, k1, k2⟩ := q6
              rw [Nat.testBit_or, bt_set_id, bt_set_id] at k1
              have bad : ∀ w v L, k < nB → (lBt h f d nB).testBit k = true → lA h nL nK nA w k = true → lJ h nL nK nB nA f d S w v L = false := by
                intro w v L kn kb ka
                unfold lJ
                rw [Bool.not_eq_false', List.any_eq_true]
                refine ⟨k, List.mem_range.mpr kn, ?_⟩
                have kp : lP h f d k = true := by
                  unfold lBt at kb
                  rw [bt_set_id] at kb
                  simpa [kn] using kb
                unfold lbad
                rw [kp, ka, k2]; rfl
              rw [lres_no]
              intro v L
              unfold lJJ
              rw [Bool.or_eq_true, Bool.and_eq_true, Bool.and_eq_true, Bool.and_eq_true, Bool.and_eq_true, decide_eq_true_eq] at k1
              rcases k1 with ⟨k1, k3, k4⟩ | ⟨k1, k3, k4⟩
              · rw [bad _ v L k1 k3 k4]; rfl
              · rw [bad _ v L k1 k3 k4, Bool.and_false]
        · rw [if_neg q4, if_neg q4]
          refine ⟨-2, h, rfl, ?_, R'⟩
          cases fl <;> rfl
    · rw [if_neg q2, if_neg q2]; exact ⟨_, _, rfl, rfl, R'⟩
  · rw [if_neg q1, if_neg q1]; exact ⟨_, _, rfl, rfl, R'⟩
