/-! ===== settling: due and the least person in the reference ===== -/
theorem pm_due_sp {h0 h : nv_Hp} {nL nK nB nA b : Nat} {w hd : Nat → Int32} {Q : nv_Hp → Prop} (R : pu_Rm Q h0 nL nK nB nA) (s : pu_sm h0 h) (hb : b < nB) (hw : ∀ j, j < 9 → h 108 j = w j) (hh : ∀ k, k < nK → h 93 k = hd k) (hB : pu_B3 (w 0)) (x2 x3 : Int32) : ∃ h', pm_settles_25 (nI b) x2 x3 nv_fu 0 0 h = pm_settles_77 h' (nI b) x2 x3 (st_due (st_A h0 nL nK nA w hd b)) false nv_fu (-1) 7 ∧ (∀ k, k ≠ 73 → h' k = h k) ∧ ∀ j, j ≠ 41 → h' 73 j = h 73 j := by
  have key := pu_fold (fun n (u : Int32 × nv_Hp) x => pm_settles_25 (nI b) x2 x3 n u.1 x u.2) 8
    (fun i u => u.1 = (List.range' 0 i).foldl (fun s x => fj_max s (st_A h0 nL nK nA w hd b x)) 0 ∧ (∀ k, k ≠ 73 → u.2 k = h k) ∧ ∀ j, j ≠ 41 → u.2 73 j = h 73 j)
    (fun i u => (if st_A h0 nL nK nA w hd b i ≤ u.1 then u.1 else st_A h0 nL nK nA w hd b i, nv_up u.2 73 41 (sW h0 nL nK nA w hd b)))
    (fun u => pm_settles_77 u.2 (nI b) x2 x3 u.1 false nv_fu (-1) 7)
    (fun n i u hi hI => by
      obtain ⟨i1, i2, i3⟩ := hI
      have su : pu_sm h0 u.2 := pu_sm_t s fun k j q => by
        by_cases c : k = 73
        · subst c; exact i3 j (fun z => q (by unfold pu_scr; omega))
        · rw [i2 k c]
      refine ⟨?_, ?_, fun k hk => (pu_up_c hk).trans (i2 k hk), fun j hj => (nv_up_j _ _ hj).trans (i3 j hj)⟩
      · rw [pm_settles_25, if_neg (show ¬ (8 : Int32) ≤ nI i from nI_ge (b := 8) hi (by omega)), pm_ask_R (w := w) (hd := hd) R su hb (fun j hj => by rw [i2 108 (by decide)]; exact hw j hj) (fun k hk => by rw [i2 93 (by decide)]; exact hh k hk) hB, Option.bind_some, nI_1]
        rfl
      · rw [st_fold_succ, ← i1]
        unfold fj_max
        by_cases c : u.1 < st_A h0 nL nK nA w hd b i
        · rw [if_pos c, if_neg (Int32.not_le.mpr c)]
        · rw [if_neg c, if_pos (Int32.not_lt.mp c)])
    (fun n u _ => by rw [pm_settles_25, if_pos (show (8 : Int32) ≤ nI 8 by decide)])
    8 0 nv_fu (0, h) (by omega) (show 8 < 4000 by omega) ⟨rfl, fun _ _ => rfl, fun _ _ => rfl⟩
  obtain ⟨k1, k2, k3, k4⟩ := key
  generalize List.foldl (fun u i => (if st_A h0 nL nK nA w hd b i ≤ u.1 then u.1 else st_A h0 nL nK nA w hd b i, nv_up u.2 73 41 (sW h0 nL nK nA w hd b))) (0, h) (List.range' 0 8) = u at k1 k2 k3 k4
  rw [nI_0] at k1
  refine ⟨u.2, ?_, k3, k4⟩
  rw [k2] at k1
  exact k1
theorem pm_least_sp (h : nv_Hp) (x1 x2 x3 x5 : Int32) : pm_settles_77 h x1 x2 x3 x5 false nv_fu (-1) 7 = pm_settles_110 x1 x2 (st_li (st_least x3)) nv_fu x5 0 0 h := by
  have st : ∀ (n : Nat) (a : Int32) (i : Nat), i < 8 → pm_settles_77 h x1 x2 x3 x5 false (n + 1) a (nI i) = pm_settles_77 h x1 x2 x3 x5 false n (if fc_hasBit x3 (nI i) = true then nI i else a) (nI i + (-1)) := by
    intro n a i hi
    rw [pm_settles_77, if_neg (nI_pos (by omega))]
    unfold fc_hasBit
    simp only [pu_bit]
    by_cases c : (x3 >>> (nI i &&& 31)) &&& 1 = 0
    · simp only [c, not_true, if_false, if_true, Bool.false_eq_true]
    · simp only [c, not_false_iff, if_false, if_true]
  have en : ∀ (n : Nat) (a : Int32), pm_settles_77 h x1 x2 x3 x5 false (n + 1) a (-1) = pm_settles_110 x1 x2 a nv_fu x5 0 0 h := by
    intro n a
    rw [pm_settles_77, if_pos (by decide)]
    rfl
  show pm_settles_77 h x1 x2 x3 x5 false (3991 + 1 + 1 + 1 + 1 + 1 + 1 + 1 + 1 + 1) (-1) (nI 7) = _
  rw [st _ _ 7 (by omega), show nI 7 + (-1) = nI 6 by decide, st _ _ 6 (by omega), show nI 6 + (-1) = nI 5 by decide, st _ _ 5 (by omega), show nI 5 + (-1) = nI 4 by decide, st _ _ 4 (by omega), show nI 4 + (-1) = nI 3 by decide, st _ _ 3 (by omega), show nI 3 + (-1) = nI 2 by decide, st _ _ 2 (by omega), show nI 2 + (-1) = nI 1 by decide, st _ _ 1 (by omega), show nI 1 + (-1) = nI 0 by decide, st _ _ 0 (by omega), show nI 0 + (-1) = -1 by decide, en]
  congr 1
  unfold st_least
  rw [show List.range 8 = [0, 1, 2, 3, 4, 5, 6, 7] from rfl]
  simp only [List.find?_cons]
  cases fc_hasBit x3 (nI 0)
  · cases fc_hasBit x3 (nI 1)
    · cases fc_hasBit x3 (nI 2)
      · cases fc_hasBit x3 (nI 3)
        · cases fc_hasBit x3 (nI 4)
          · cases fc_hasBit x3 (nI 5)
            · cases fc_hasBit x3 (nI 6)
              · cases fc_hasBit x3 (nI 7) <;> rfl
              · rfl
            · rfl
          · rfl
        · rfl
      · rfl
    · rfl
  · rfl
