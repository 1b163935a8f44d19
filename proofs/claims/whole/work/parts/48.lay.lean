/-! ===== operations: lay, get ===== -/
theorem pu_has {h : nv_Hp} {k0 sz : Nat} (hs : h k0 3 = nI sz) (hz : sz ≤ 60) (x : Int32) : fs_has h k0 x = fc_isWithin x 0 (nI sz - 1) := by
  unfold fs_has
  rw [hs]
  rcases pk_ix x (n := sz) (by omega) with c | c | ⟨j, hj, rfl⟩
  · rw [if_pos c, pu_within]
    symm
    rw [decide_eq_false_iff_not]
    rintro ⟨a, b⟩
    exact absurd c (Int32.not_lt.mpr a)
  · rw [if_pos c, ite_self, pu_within]
    symm
    rw [decide_eq_false_iff_not]
    rintro ⟨a, b⟩
    rw [pu_le] at b c
    rw [pu_n1 (by omega)] at b
    rw [nI_toInt (by omega)] at c
    omega
  · rw [if_neg (nI_pos (by omega)), if_neg (nI_ge hj (by omega)), if_neg (show ¬ (60 : Int32) ≤ nI j from nI_ge (b := 60) (by omega) (by omega)), pu_ido (by omega) hj]
theorem pu_lacks {h H : nv_Hp} {s : Nat} (S : pu_Rs h s) (hs : s < 4) (e4 : H 74 s = h 74 s) (e5 : H 75 s = h 75 s) (x2 x3 : Int32) : pm_lacks H (nI s) x2 x3 = if fc_findingAt h (65 + 2 * s) x2 x3 = 0 then (0, H) else (-10 - fc_findingAt h (65 + 2 * s) x2 x3, nv_up H 73 4 (fc_findingAt h (65 + 2 * s) x2 x3)) := by
  have Sl := pu_Rs_le S
  obtain ⟨sz, t1, t2, t3, t4⟩ := S
  unfold pm_lacks fc_findingAt pm_met
  rw [nI_clamp (by omega), e4, e5, t3, pu_in0, pu_has t2 t1]
  simp only [nv_lt]
  by_cases c : h (65 + 2 * s) 1 = 0
  · rw [if_pos (Sl.mpr c), if_pos c]
    rcases t4 with ⟨a, b⟩ | ⟨a, b, c', d⟩
    · rw [c] at a; exact absurd a (by decide)
    · rw [b]
      by_cases e : h (65 + 2 * s) 2 = x2
      · rw [if_pos e, if_pos e]
        cases fc_isWithin x3 0 (nI sz - 1)
        · rfl
        · rfl
      · rw [if_neg e, if_neg e]; rfl
  · rw [if_neg (fun z => c (Sl.mp z)), if_neg c]; rfl
theorem pu_fv (h : nv_Hp) (k0 : Nat) (x1 x2 : Int32) : fc_findingAt h k0 x1 x2 = 0 ∨ ¬ (-10 - fc_findingAt h k0 x1 x2 = 0 ∨ fc_findingAt h k0 x1 x2 = 0) := by
  unfold fc_findingAt
  split
  · split
    · split
      · exact Or.inl rfl
      · exact Or.inr (by decide)
    · exact Or.inr (by decide)
  · exact Or.inr (by decide)
theorem pu_f0 {h : nv_Hp} {s : Nat} {x2 x3 : Int32} (S : pu_Rs h s) (z : fc_findingAt h (65 + 2 * s) x2 x3 = 0) : ∃ sz j, sz ≤ 60 ∧ h (65 + 2 * s) 3 = nI sz ∧ h 75 s = nI sz ∧ j < sz ∧ x3 = nI j ∧ h (65 + 2 * s) 1 = 0 ∧ h (65 + 2 * s) 2 = x2 ∧ h 74 s = x2 ∧ (∀ j, j < sz → h 76 (60 * s + j) = h (66 + 2 * s) j) ∧ fs_has h (65 + 2 * s) x3 = true ∧ (x2 = 0 ∨ x2 = 1 ∨ x2 = 2) := by
  obtain ⟨sz, t1, t2, t3, t4⟩ := S
  unfold fc_findingAt at z
  by_cases c : h (65 + 2 * s) 1 = 0
  · rw [if_pos c] at z
    by_cases d : h (65 + 2 * s) 2 = x2
    · rw [if_pos d] at z
      by_cases e : fs_has h (65 + 2 * s) x3 = true
      · have e' := e
        rw [pu_has t2 t1] at e'
        obtain ⟨j, hj, ej⟩ := pu_idx (by omega) e'
        rcases t4 with ⟨a, b⟩ | ⟨a, b, c', f⟩
        · rw [c] at a; exact absurd a (by decide)
        · exact ⟨sz, j, t1, t2, t3, hj, ej, c, d, by rw [b, d], f, e, by rw [b, d] at c'; exact c'⟩
      · rw [if_neg e] at z; exact absurd z (by decide)
    · rw [if_neg d] at z; exact absurd z (by decide)
  · rw [if_neg c] at z; exact absurd z (by decide)
theorem op_lay {h : nv_Hp} (R : pu_R h) (x1 x2 x3 x4 : Int32) : pu_o2 (fc_lay h x1 x2 x3 x4) (fun h1 => pm_lay h1 x1 x2 x3 x4) := by
  have R' := R
  obtain ⟨nL, nK, nB, nA, r⟩ := R
  unfold fc_lay pm_lay
  simp only [pu_sheet, pu_kind, nv_lt]
  by_cases q1 : fc_isSheet x1 = true
  · by_cases q2 : fc_isKind x2 = true
    · obtain ⟨s, hs, rfl⟩ := pu_sheetI q1
      have S := r.2.2.2.2.2.2.2 s hs
      simp only [q1, q2, if_true, pu_inb hs (show 4 < 2 ^ 31 by omega), nI_clamp (show s < 2 ^ 31 by omega)]
      rcases pu_fv h (65 + 2 * s) x2 x3 with z | z
      · rw [if_pos z]
        obtain ⟨sz, j, t1, t2, t3, hj, rfl, c1, c2, c3, c4, c5, c6⟩ := pu_f0 S z
        unfold fs_put
        rw [if_pos c5, if_pos (pu_inb (by omega) (by omega)), nI_clamp (by omega), pu_ltE, Option.bind_some, show 65 + 2 * s + 1 = 66 + 2 * s by omega]
        have lb : fs_lowestBits h (65 + 2 * s) x4 = pm_cut x2 x4 := by rw [← c2]; rfl
        rw [lb]
        refine ⟨1, _, nv_up (nv_up h (66 + 2 * s) j (pm_cut x2 x4)) 76 (60 * s + j) (pm_cut x2 x4), rfl, ?_, nL, nK, nB, nA, pu_shR r (fun k a b c d e f => by rw [pu_up_c e, pu_up_c b]) hs (fun i hi => by rw [nv_up_k _ _ (by decide), nv_up_k _ _ (by omega)]) (fun i hi => by rw [nv_up_k _ _ (by decide), nv_up_k _ _ (by omega)]) (fun i hi => by rw [nv_up_j _ _ (by omega), nv_up_k _ _ (by omega)]) ?_⟩
        · simp only [pu_lacks S hs (show nv_up h (66 + 2 * s) j (pm_cut x2 x4) 74 s = h 74 s by rw [nv_up_k _ _ (by omega)]) (show nv_up h (66 + 2 * s) j (pm_cut x2 x4) 75 s = h 75 s by rw [nv_up_k _ _ (by omega)]), z, if_true, show (60 : Int32) * nI s = nI (60 * s) from pk_mul 60 s, nI_add, pu_inb (show 60 * s + j < 240 by omega) (show 240 < 2 ^ 31 by omega), nI_clamp (show 60 * s + j < 2 ^ 31 by omega)]
        · have k1 : ∀ i, nv_up (nv_up h (66 + 2 * s) j (pm_cut x2 x4)) 76 (60 * s + j) (pm_cut x2 x4) (65 + 2 * s) i = h (65 + 2 * s) i := fun i => by rw [nv_up_k _ _ (by omega), nv_up_k _ _ (by omega)]
          have k4 : nv_up (nv_up h (66 + 2 * s) j (pm_cut x2 x4)) 76 (60 * s + j) (pm_cut x2 x4) 74 s = h 74 s := by rw [nv_up_k _ _ (by omega), nv_up_k _ _ (by omega)]
          refine ⟨sz, t1, by rw [k1]; exact t2, by rw [nv_up_k _ _ (by omega), nv_up_k _ _ (by omega)]; exact t3, Or.inr ⟨by rw [k1]; exact c1, by rw [k1, k4, c3, c2], by rw [k4, c3]; exact c6, fun i hi => ?_⟩⟩
          rw [nv_up_k (k := 76) (a := 66 + 2 * s) _ _ (by omega)]
          by_cases d : i = j
          · subst d; rw [nv_up_s, nv_up_s]
          · rw [nv_up_j _ _ (by omega), nv_up_j _ _ d, nv_up_k _ _ (by omega)]; exact c4 i hi
      · have z0 : ¬ fc_findingAt h (65 + 2 * s) x2 x3 = 0 := fun y => z (Or.inr y)
        have z1 : ¬ -10 - fc_findingAt h (65 + 2 * s) x2 x3 = 0 := fun y => z (Or.inl y)
        rw [if_neg z0]
        unfold fc_find
        simp only [nv_lt]
        refine pu_fo R' _ _ ?_
        simp only [pu_lacks S hs (show nv_up h 0 11 (fc_findingAt h (65 + 2 * s) x2 x3) 74 s = h 74 s by rw [nv_up_k _ _ (by omega)]) (show nv_up h 0 11 (fc_findingAt h (65 + 2 * s) x2 x3) 75 s = h 75 s by rw [nv_up_k _ _ (by omega)]), z0, z1, if_false]
    · simp only [q1, q2, if_true, if_false]; exact ⟨_, _, _, rfl, rfl, R'⟩
  · simp only [q1, if_false]; exact ⟨_, _, _, rfl, rfl, R'⟩
theorem op_get {h : nv_Hp} (R : pu_R h) (x1 x2 x3 : Int32) : pu_o2 (fc_get h x1 x2 x3) (fun h1 => pm_get h1 x1 x2 x3) := by
  have R' := R
  obtain ⟨nL, nK, nB, nA, r⟩ := R
  unfold fc_get pm_get
  simp only [pu_sheet, pu_kind, nv_lt]
  by_cases q1 : fc_isSheet x1 = true
  · by_cases q2 : fc_isKind x2 = true
    · obtain ⟨s, hs, rfl⟩ := pu_sheetI q1
      have S := r.2.2.2.2.2.2.2 s hs
      simp only [q1, q2, if_true, pu_inb hs (show 4 < 2 ^ 31 by omega), nI_clamp (show s < 2 ^ 31 by omega)]
      rcases pu_fv h (65 + 2 * s) x2 x3 with z | z
      · rw [if_pos z]
        obtain ⟨sz, j, t1, t2, t3, hj, rfl, c1, c2, c3, c4, c5, c6⟩ := pu_f0 S z
        unfold fs_itemAt
        rw [if_pos c5, if_pos (pu_inb (by omega) (by omega)), nI_clamp (by omega), Option.bind_some, show 65 + 2 * s + 1 = 66 + 2 * s by omega]
        refine ⟨_, _, _, rfl, ?_, R'⟩
        simp only [pu_lacks S hs rfl rfl, z, if_true, show (60 : Int32) * nI s = nI (60 * s) from pk_mul 60 s, nI_add, pu_inb (show 60 * s + j < 240 by omega) (show 240 < 2 ^ 31 by omega), nI_clamp (show 60 * s + j < 2 ^ 31 by omega), c4 j hj]
      · have z0 : ¬ fc_findingAt h (65 + 2 * s) x2 x3 = 0 := fun y => z (Or.inr y)
        have z1 : ¬ -10 - fc_findingAt h (65 + 2 * s) x2 x3 = 0 := fun y => z (Or.inl y)
        rw [if_neg z0]
        unfold fc_find
        simp only [nv_lt]
        refine pu_fo R' _ _ ?_
        simp only [pu_lacks S hs (show nv_up h 0 11 (fc_findingAt h (65 + 2 * s) x2 x3) 74 s = h 74 s by rw [nv_up_k _ _ (by omega)]) (show nv_up h 0 11 (fc_findingAt h (65 + 2 * s) x2 x3) 75 s = h 75 s by rw [nv_up_k _ _ (by omega)]), z0, z1, if_false]
    · simp only [q1, q2, if_true, if_false]; exact ⟨_, _, _, rfl, rfl, R'⟩
  · simp only [q1, if_false]; exact ⟨_, _, _, rfl, rfl, R'⟩
