/-! ===== settling: the reference, all bargains; end ===== -/
theorem st_run_s (g : nv_Hp) (nL nK nA : Nat) (w hd : Nat → Int32) (b : Nat) : st_run g nL nK nA w hd (b + 1) = st_purse (st_A g nL nK nA w hd b) (st_d g b) (st_o g b) (sB g nL nK nA w hd b &&& ((1 <<< (nI (st_d g b) &&& 31)) ^^^ (-1))) (sO g nL nK nA w hd b) (st_run g nL nK nA w hd b) := rfl
theorem pm_findEnd_sp {h0 h : nv_Hp} {nL nK nB nA l : Nat} {Q : nv_Hp → Prop} (R : pu_Rm Q h0 nL nK nB nA) (s : pu_sm h0 h) (hl : l < 2) :
    ∃ h', pm_findEnd h (nI l) = some h' ∧ (∀ z, z < 8 → h' 109 z = st_run h0 nL nK nA (h0 (61 + 3 * l)) (sH h0 0) nB z) ∧ (∀ b, b < nB → h' 110 b = st_lostAt h0 nL nK nA (h0 (61 + 3 * l)) (sH h0 0) b) ∧ pu_sm h0 h' := by
  obtain ⟨⟨a1, a2, a3⟩, ⟨b1, b2, b3⟩, ⟨c1, c2, c3⟩, ⟨d1, d2, d3⟩, e1⟩ := R.2.1
  obtain ⟨h1, g1, g2, g3, g4, _⟩ := pm_goes_R R s hl
  have hB := pu_Rn_B R hl
  have s1 : pu_sm h0 h1 := pu_sm_t s g2
  have cp := pu_fold (fun n (g : nv_Hp) x => pm_findEnd_7 n x g) 8 (fun i g => (∀ z, z < i → g 109 z = h0 1 z) ∧ ∀ k, k ≠ 109 → g k = h1 k) (fun i g => nv_up g 109 i (g 78 i)) (fun g => pm_findEnd_33 nv_fu 0 g) (fun n i g hi hI => by
    refine ⟨?_, fun j hj => ?_, fun k hk => by rw [pu_up_c hk]; exact hI.2 k hk⟩
    · rw [pm_findEnd_7, if_neg (show ¬ (8 : Int32) ≤ nI i from nI_ge (b := 8) hi (by omega)), if_pos (pu_inb (by omega) (by omega)), pu_ltE, nI_clamp (by omega), nI_1]
    · by_cases c : j = i
      · subst c; rw [nv_up_s, hI.2 78 (by decide), pu_sm_c s1 (by decide), (R.1 j hi).1]
      · rw [nv_up_j _ _ c]; exact hI.1 j (by omega)) (fun n g _ => by
    rw [pm_findEnd_7, if_pos (show (8 : Int32) ≤ nI 8 by decide)]) 8 0 nv_fu h1 (by omega) (show 8 < 4000 by omega) ⟨fun j hj => by omega, fun _ _ => rfl⟩
  obtain ⟨cp1, cp2, cp3⟩ := cp
  generalize List.foldl (fun s j => nv_up s 109 j (s 78 j)) h1 (List.range' 0 8) = g at cp1 cp2 cp3
  have run : ∀ (k b n : Nat) (u : nv_Hp), b + k = nB → k < n → (∀ z, z < 8 → u 109 z = st_run h0 nL nK nA (h0 (61 + 3 * l)) (sH h0 0) b z) → st_ok (st_run h0 nL nK nA (h0 (61 + 3 * l)) (sH h0 0) b) (9999 + 11000 * b) → (∀ j, j < b → u 110 j = st_lostAt h0 nL nK nA (h0 (61 + 3 * l)) (sH h0 0) j) → (∀ k, k ≠ 109 → k ≠ 110 → k ≠ 73 → u k = h1 k) → (∀ j, j ≠ 41 → u 73 j = h1 73 j) → ∃ h', pm_findEnd_33 n (nI b) u = some h' ∧ (∀ z, z < 8 → h' 109 z = st_run h0 nL nK nA (h0 (61 + 3 * l)) (sH h0 0) nB z) ∧ (∀ b, b < nB → h' 110 b = st_lostAt h0 nL nK nA (h0 (61 + 3 * l)) (sH h0 0) b) ∧ (∀ k, k ≠ 109 → k ≠ 110 → k ≠ 73 → h' k = h1 k) ∧ ∀ j, j ≠ 41 → h' 73 j = h1 73 j := by
    intro k
    induction k with
    | zero =>
      intro b n u hb hn h8 hok h9 uk uj
      have : b = nB := by omega
      subst this
      obtain ⟨n, rfl⟩ : ∃ m, n = m + 1 := ⟨n - 1, by omega⟩
      refine ⟨u, ?_, h8, h9, uk, uj⟩
      rw [pm_findEnd_33, uj 23 (by decide), pu_sm_73 s1 (by decide), c2, if_pos (nI_le (Nat.le_refl _) (by omega))]
    | succ k ih =>
      intro b n u hb hn h8 hok h9 uk uj
      obtain ⟨n, rfl⟩ : ∃ m, n = m + 1 := ⟨n - 1, by omega⟩
      have su : pu_sm h0 u := pu_sm_t s1 fun k j q => by
        by_cases z : k = 73
        · subst z; exact uj j (fun y => q (by unfold pu_scr; omega))
        · rw [uk k (fun y => q (by unfold pu_scr; omega)) (fun y => q (by unfold pu_scr; omega)) z]
      obtain ⟨h', q1, q2, q3, q4, q5, q6, q7⟩ := pm_settles_sp (b := b) (B := 9999 + 11000 * b) (w := h0 (61 + 3 * l)) (hd := sH h0 0) R su (by omega) (fun j hj => by rw [uk 108 (by decide) (by decide) (by decide)]; exact g3 j hj) (fun k hk => by rw [uk 93 (by decide) (by decide) (by decide)]; exact g4 k hk) hB h8 hok (by omega)
      rw [pm_findEnd_33, uj 23 (by decide), pu_sm_73 s1 (by decide), c2, if_neg (nI_ge (by omega) (by omega)), if_pos (pu_inb (by omega) (by omega)), q1, Option.bind_some, nI_1]
      rw [← st_run_s] at q2 q7
      refine ih (b + 1) n h' (by omega) (by omega) q2 ?_ (fun j hj => ?_) (fun k x y z => (q5 k x y z).trans (uk k x y z)) (fun j hj => (q6 j hj).trans (uj j hj))
      · rw [show 9999 + 11000 * (b + 1) = 9999 + 11000 * b + 11000 by omega]; exact q7
      · by_cases c : j = b
        · subst c; exact q3
        · rw [q4 j c]; exact h9 j (by omega)
  obtain ⟨h', q1, q2, q3, q4, q5⟩ := run nB 0 nv_fu g (by omega) (show nB < 4000 by omega) cp2 (fun z hz => by
    obtain ⟨_, x1, x2⟩ := R.1 z hz
    obtain ⟨j, hj, ej⟩ := nI_of (x := h0 1 z) (by rw [pu_lt, show (0 : Int32).toInt = 0 by decide]; omega)
    rw [ej, nI_toInt hj] at x2
    exact ⟨j, by omega, ej⟩) (fun j hj => by omega) (fun k x _ _ => cp3 k x) (fun j _ => by rw [cp3 73 (by decide)])
  refine ⟨h', ?_, q2, q3, pu_sm_t s1 fun k j q => ?_⟩
  · unfold pm_findEnd
    rw [g1, Option.bind_some, ← nI_0]
    refine cp1.trans ?_
    rw [← nI_0]
    exact q1
  · by_cases z : k = 73
    · subst z; exact q5 j (fun y => q (by unfold pu_scr; omega))
    · rw [q4 k (fun y => q (by unfold pu_scr; omega)) (fun y => q (by unfold pu_scr; omega)) z]
theorem st_both {h : nv_Hp} {nL nK nB nA l : Nat} (R : pu_Rn h nL nK nB nA) (hl : l < 2) : ∃ h1 h2, fc_settle h (61 + 3 * l) = some h1 ∧ pm_findEnd h1 (nI l) = some h2 ∧ (∀ z, z < 8 → h2 109 z = h1 8 z) ∧ (∀ b, b < nB → h2 110 b = h1 9 b) ∧ pu_sm h h1 ∧ pu_sm h h2 := by
  obtain ⟨h1, a1, a2, a3, a4⟩ := fc_settle_sp (k1 := 61 + 3 * l) R (pu_sm_r h) (by omega)
  have s1 : pu_sm h h1 := fun k j q => by rw [a4 k (fun y => q (by unfold pu_scr; omega)) (fun y => q (by unfold pu_scr; omega))]
  obtain ⟨h2, b1, b2, b3, b4⟩ := pm_findEnd_sp R s1 hl
  exact ⟨h1, h2, a1, b1, fun z hz => (b2 z hz).trans (a2 z hz).symm, fun b hb => (b3 b hb).trans (a3 b hb).symm, s1, b4⟩
theorem op_end {h : nv_Hp} (R : pu_R h) (x1 x2 x3 : Int32) : pu_o2 (fc_end h x1 x2 x3) (fun h1 => pm_end h1 x1 x2 x3) := by
  have R' := R
  obtain ⟨nL, nK, nB, nA, r⟩ := R
  have c3 := r.2.1.2.2.1.2.2
  unfold fc_end pm_end fc_end_42 pm_end_39
  simp only [pu_two, pu_pers, pu_flag]
  by_cases q1 : fc_isLaw x1 = true
  · by_cases q2 : fc_isLaw x2 = true
    · obtain ⟨l, hl, rfl⟩ := pu_law q1
      obtain ⟨h1, h2, e1, e2, e3, e4, e5, e6⟩ := st_both r hl
      simp only [q1, q2, if_true, pu_inb hl (show 2 < 2 ^ 31 by omega), nI_clamp (show l < 2 ^ 31 by omega), pu_lawc hl, e1, Option.bind_some]
      by_cases z : x2 = 0
      · simp only [z, if_true]
        by_cases q3 : fc_isPerson x3 = true
        · obtain ⟨p, hp, rfl⟩ := pu_person q3
          simp only [q3, if_true, pu_inb hp (show 8 < 2 ^ 31 by omega), nI_clamp (show p < 2 ^ 31 by omega)]
          refine ⟨_, h1, h2, rfl, ?_, pu_R_sm R' e6⟩
          simp only [e2, Option.bind_some, e3 p hp]
        · simp only [q3, if_false]; exact ⟨_, _, _, rfl, rfl, R'⟩
      · simp only [z, if_false]
        by_cases q3 : fc_isBargain h x3 = true
        · have q3' := q3
          obtain ⟨b, hb, rfl⟩ := pu_xBargain r q3
          simp only [q3', if_true, pu_inb (show b < 10 by omega) (show 10 < 2 ^ 31 by omega), nI_clamp (show b < 2 ^ 31 by omega)]
          refine ⟨_, h1, h2, rfl, ?_, pu_R_sm R' e6⟩
          have q4 : pm_isBargain h1 (nI b) = true := by
            rw [pu_isBargain (pu_Rn_sm r e5)]
            unfold fc_isBargain at q3' ⊢
            rw [pu_sm_0 e5 (by decide)]; exact q3'
          simp only [q4, if_true, e2, Option.bind_some, e4 b hb]
        · simp only [q3, if_false]
          refine ⟨_, h, h, rfl, ?_, R'⟩
          simp only [pu_isBargain r, q3, if_false, Bool.false_eq_true]
    · simp only [q1, q2, if_true, if_false]; exact ⟨_, _, _, rfl, rfl, R'⟩
  · simp only [q1, if_false]; exact ⟨_, _, _, rfl, rfl, R'⟩
