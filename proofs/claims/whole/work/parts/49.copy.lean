/-! ===== operation: copy ===== -/
theorem pu_lgp (a b : Int64) : (0 < lg_cmp a b) ↔ b < a := by
  unfold lg_cmp
  by_cases h1 : b < a
  · rw [if_pos h1]; simp only [h1, iff_true]; decide
  · rw [if_neg h1]; simp only [h1, iff_false]
    split <;> decide
theorem pu_lgn (a b : Int64) : (lg_cmp a b ≤ 0) ↔ ¬ b < a := by
  rw [← pu_lgp]
  exact Int32.not_lt.symm
theorem pu_row {h : nv_Hp} {k sz : Nat} (hs : h k 3 = nI sz) (hz : sz ≤ 60) (x n : Int32) : fs_hasRow h k x n = true ↔ ∃ i m, x = nI i ∧ n = nI m ∧ i + m ≤ sz := by
  unfold fs_hasRow
  rw [hs]
  by_cases a : x < 0
  · rw [if_pos a]
    refine ⟨fun q => (by cases q), ?_⟩
    rintro ⟨i, m, rfl, rfl, e⟩
    exact absurd a (nI_pos (by omega))
  · rw [if_neg a]
    obtain ⟨i, hi, rfl⟩ := nI_of a
    by_cases b : n < 0
    · rw [if_pos b]
      refine ⟨fun q => (by cases q), ?_⟩
      rintro ⟨i', m, _, rfl, e⟩
      exact absurd b (nI_pos (by omega))
    · rw [if_neg b]
      obtain ⟨m, hm, rfl⟩ := nI_of b
      by_cases c : sz < i
      · rw [if_pos (nI_lt c hi)]
        refine ⟨fun q => (by cases q), ?_⟩
        rintro ⟨i', m', e1, e2, e⟩
        have := (nI_eq hi (by omega)).mp e1
        omega
      · rw [if_neg (nI_nlt (by omega) (by omega)), pk_sub (by omega)]
        by_cases d : sz - i < m
        · rw [if_pos (nI_lt d hm)]
          refine ⟨fun q => (by cases q), ?_⟩
          rintro ⟨i', m', e1, e2, e⟩
          have := (nI_eq hi (by omega)).mp e1
          have := (nI_eq hm (by omega)).mp e2
          omega
        · rw [if_neg (nI_nlt (by omega) (by omega))]
          exact ⟨fun _ => ⟨i, m, rfl, rfl, by omega⟩, fun _ => rfl⟩
theorem pu_rowm {i m sz : Nat} (hi : i < 2 ^ 31) (hm : m < 2 ^ 31) (hz : sz ≤ 60) : ((nI sz).toInt64 < (nI i).toInt64 + (nI m).toInt64) ↔ sz < i + m := by
  have e : (nI i).toInt64 + (nI m).toInt64 = lN (i + m) := by
    rw [nI_l hi, nI_l hm]
    exact (Int64.ofNat_add i m).symm
  rw [e, nI_l (by omega), pk_lLT (by omega) (by omega)]
theorem pm_copy_sp {H : nv_Hp} {a b i j m : Nat} (ha : a < 4) (hb : b < 4) (hi : i + m ≤ 60) (hj : j + m ≤ 60) : ∃ q, pm_copy_120 (nI a) (nI i) (nI b) (nI j) (nI m) nv_fu 0 H = some (1, q) ∧ (∀ k, k ≠ 76 → k ≠ 77 → q k = H k) ∧ (∀ x, x < m → q 76 (60 * b + j + x) = H 76 (60 * a + i + x)) ∧ ∀ x, ¬ (60 * b + j ≤ x ∧ x < 60 * b + j + m) → q 76 x = H 76 x := by
  have s1 : ∀ (n t : Nat) (u : nv_Hp), t < m → pm_copy_120 (nI a) (nI i) (nI b) (nI j) (nI m) (n + 1) (nI t) u = pm_copy_120 (nI a) (nI i) (nI b) (nI j) (nI m) n (nI (t + 1)) (nv_up u 77 t (u 76 (60 * a + i + t))) := by
    intro n t u ht
    rw [pm_copy_120, if_neg (nI_ge ht (by omega)), show (60 : Int32) * nI a = nI (60 * a) from pk_mul 60 a, nI_add, nI_add, if_pos (pu_inb (by omega) (by omega)), if_pos (pu_inb (by omega) (by omega)), nI_clamp (by omega), nI_clamp (by omega), nI_1, pu_ltE]
  have s1x : ∀ (n : Nat) (u : nv_Hp), pm_copy_120 (nI a) (nI i) (nI b) (nI j) (nI m) (n + 1) (nI m) u = pm_copy_157 (nI b) (nI j) (nI m) nv_fu 0 u := by
    intro n u
    rw [pm_copy_120, if_pos (nI_le (Nat.le_refl _) (by omega))]
  have s2 : ∀ (n t : Nat) (u : nv_Hp), t < m → pm_copy_157 (nI b) (nI j) (nI m) (n + 1) (nI t) u = pm_copy_157 (nI b) (nI j) (nI m) n (nI (t + 1)) (nv_up u 76 (60 * b + j + t) (u 77 t)) := by
    intro n t u ht
    rw [pm_copy_157, if_neg (nI_ge ht (by omega)), show (60 : Int32) * nI b = nI (60 * b) from pk_mul 60 b, nI_add, nI_add, if_pos (pu_inb (by omega) (by omega)), if_pos (pu_inb (by omega) (by omega)), nI_clamp (by omega), nI_clamp (by omega), nI_1, pu_ltE]
  have s2x : ∀ (n : Nat) (u : nv_Hp), pm_copy_157 (nI b) (nI j) (nI m) (n + 1) (nI m) u = some (1, u) := by
    intro n u
    rw [pm_copy_157, if_pos (nI_le (Nat.le_refl _) (by omega))]
  have k1 := pu_fold (fun n (u : nv_Hp) x => pm_copy_120 (nI a) (nI i) (nI b) (nI j) (nI m) n x u) m (fun t u => (∀ k, k ≠ 77 → u k = H k) ∧ ∀ x, x < t → u 77 x = H 76 (60 * a + i + x)) (fun t u => nv_up u 77 t (u 76 (60 * a + i + t))) (fun u => pm_copy_157 (nI b) (nI j) (nI m) nv_fu 0 u) (fun n t u ht hI => by
    refine ⟨s1 n t u ht, fun k hk => by rw [pu_up_c hk]; exact hI.1 k hk, fun x hx => ?_⟩
    by_cases c : x = t
    · subst c; rw [nv_up_s, hI.1 76 (by decide)]
    · rw [nv_up_j _ _ c]; exact hI.2 x (by omega)) (fun n u _ => s1x n u) m 0 nv_fu H (by omega) (show m < 4000 by omega) ⟨fun _ _ => rfl, fun x hx => by omega⟩
  obtain ⟨k1a, k1b, k1c⟩ := k1
  generalize List.foldl (fun u t => nv_up u 77 t (u 76 (60 * a + i + t))) H (List.range' 0 m) = G at k1a k1b k1c
  have k2 := pu_fold (fun n (u : nv_Hp) x => pm_copy_157 (nI b) (nI j) (nI m) n x u) m (fun t u => (∀ k, k ≠ 76 → u k = G k) ∧ (∀ x, x < t → u 76 (60 * b + j + x) = G 77 x) ∧ ∀ x, ¬ (60 * b + j ≤ x ∧ x < 60 * b + j + m) → u 76 x = G 76 x) (fun t u => nv_up u 76 (60 * b + j + t) (u 77 t)) (fun u => some (1, u)) (fun n t u ht hI => by
    refine ⟨s2 n t u ht, fun k hk => by rw [pu_up_c hk]; exact hI.1 k hk, fun x hx => ?_, fun x hx => by rw [nv_up_j _ _ (by omega)]; exact hI.2.2 x hx⟩
    by_cases c : x = t
    · subst c; rw [nv_up_s, hI.1 77 (by decide)]
    · rw [nv_up_j _ _ (by omega)]; exact hI.2.1 x (by omega)) (fun n u _ => s2x n u) m 0 nv_fu G (by omega) (show m < 4000 by omega) ⟨fun _ _ => rfl, fun x hx => by omega, fun _ _ => rfl⟩
  obtain ⟨k2a, k2b, k2c, k2d⟩ := k2
  generalize List.foldl (fun u t => nv_up u 76 (60 * b + j + t) (u 77 t)) G (List.range' 0 m) = Q at k2a k2b k2c k2d
  rw [nI_0] at k1a k2a
  exact ⟨Q, k1a.trans k2a, fun k c d => by rw [k2b k c, k1b k d], fun x hx => by rw [k2c x hx, k1c x hx], fun x hx => by rw [k2d x hx, k1b 76 (by decide)]⟩
theorem op_copy {h : nv_Hp} (R : pu_R h) (x1 x2 x3 x4 x5 : Int32) : pu_o2 (fc_copy h x1 x2 x3 x4 x5) (fun h1 => pm_copy h1 x1 x2 x3 x4 x5) := by
  have R' := R
  obtain ⟨nL, nK, nB, nA, r⟩ := R
  unfold fc_copy
  by_cases q1 : fc_isSheet x1 = true
  · by_cases q2 : fc_isSheet x3 = true
    · obtain ⟨a, ha, rfl⟩ := pu_sheetI q1
      obtain ⟨b, hb, rfl⟩ := pu_sheetI q2
      have Sa := r.2.2.2.2.2.2.2 a ha
      have Sb := r.2.2.2.2.2.2.2 b hb
      have la := pu_Rs_le Sa
      have lb := pu_Rs_le Sb
      obtain ⟨za, t1, t2, t3, t4⟩ := Sa
      obtain ⟨zb, u1, u2, u3, u4⟩ := Sb
      rw [if_pos q1, if_pos q2, if_pos (pu_inb ha (by omega)), if_pos (pu_inb hb (by omega)), nI_clamp (by omega), nI_clamp (by omega), show 65 + 2 * a + 1 = 66 + 2 * a by omega, show 65 + 2 * b + 1 = 66 + 2 * b by omega]
      have pmc : ∀ H : nv_Hp, H 74 = h 74 → H 75 = h 75 → pm_copy H (nI a) x2 (nI b) x4 x5 = if h (65 + 2 * a) 1 = 0 then (if h (65 + 2 * b) 1 = 0 then (if h 74 a = h 74 b then (if x2 < 0 then (pm_copy_111 H) else (if x4 < 0 then (pm_copy_111 H) else (if x5 < 0 then (pm_copy_111 H) else (if (nI za).toInt64 < x2.toInt64 + x5.toInt64 then (pm_copy_111 H) else (if ¬ (nI zb).toInt64 < x4.toInt64 + x5.toInt64 then (pm_copy_120 (nI a) x2 (nI b) x4 x5 nv_fu 0 H) else (pm_copy_111 H)))))) else some (-14, nv_up H 73 4 4)) else some (-11, nv_up H 73 4 1)) else some (-11, nv_up H 73 4 1) := by
        intro H e4 e5
        unfold pm_copy pm_copy_35
        rw [pu_sheet, pu_sheet, if_pos q1, if_pos q2, if_pos (pu_inb ha (by omega)), if_pos (pu_inb hb (by omega)), nI_clamp (by omega), nI_clamp (by omega), e4, e5, t3, u3]
        simp only [pu_lgp, pu_lgn]
        by_cases c1 : h (65 + 2 * a) 1 = 0
        · rw [if_neg (Int32.not_lt.mpr (la.mpr c1)), if_pos c1]
          by_cases c2 : h (65 + 2 * b) 1 = 0
          · rw [if_pos (lb.mpr c2), if_pos c2]
            by_cases c3 : h 74 a = h 74 b
            · rw [if_pos c3, if_pos c3]
            · rw [if_neg c3, if_neg c3]; rfl
          · rw [if_neg (fun z => c2 (lb.mp z)), if_neg c2]; rfl
        · rw [if_pos (Int32.not_le.mp (fun z => c1 (la.mp z))), if_neg c1]; rfl
      have fnd : ∀ v A, A = -10 - v → pm_copy (nv_up h 0 11 v) (nI a) x2 (nI b) x4 x5 = some (A, nv_up (nv_up h 0 11 v) 73 4 v) → pu_o2 (some (A, nv_up h 0 11 v)) (fun h1 => pm_copy h1 (nI a) x2 (nI b) x4 x5) := fun v A e1 e => pu_fo R' v A e
      have pf := fun v => pmc (nv_up h 0 11 v) (pu_up_c (by decide)) (pu_up_c (by decide))
      unfold fc_copy_97 fc_copy_49 fc_find
      by_cases c1 : h (65 + 2 * a) 1 = 0
      · rw [if_pos c1]
        by_cases c2 : h (65 + 2 * b) 1 = 0
        · rw [if_pos c2]
          obtain ⟨v1, v2, v3⟩ : h 74 a = h (65 + 2 * a) 2 ∧ (h 74 a = 0 ∨ h 74 a = 1 ∨ h 74 a = 2) ∧ ∀ j, j < za → h 76 (60 * a + j) = h (66 + 2 * a) j := by
            rcases t4 with ⟨x, _⟩ | ⟨_, x, y, z⟩
            · rw [c1] at x; exact absurd x (by decide)
            · exact ⟨x, y, z⟩
          obtain ⟨w1, w2, w3⟩ : h 74 b = h (65 + 2 * b) 2 ∧ (h 74 b = 0 ∨ h 74 b = 1 ∨ h 74 b = 2) ∧ ∀ j, j < zb → h 76 (60 * b + j) = h (66 + 2 * b) j := by
            rcases u4 with ⟨x, _⟩ | ⟨_, x, y, z⟩
            · rw [c2] at x; exact absurd x (by decide)
            · exact ⟨x, y, z⟩
          by_cases c3 : h (65 + 2 * a) 2 = h (65 + 2 * b) 2
          · have c3' : h 74 a = h 74 b := by rw [v1, w1, c3]
            rw [if_pos c3]
            have bad2 : ¬ (fs_hasRow h (65 + 2 * a) x2 x5 = true ∧ fs_hasRow h (65 + 2 * b) x4 x5 = true) → pm_copy (nv_up h 0 11 2) (nI a) x2 (nI b) x4 x5 = some (-12, nv_up (nv_up h 0 11 2) 73 4 2) := by
              intro nn
              rw [pf 2, if_pos c1, if_pos c2, if_pos c3']
              have fin : pm_copy_111 (nv_up h 0 11 2) = some (-12, nv_up (nv_up h 0 11 2) 73 4 2) := rfl
              by_cases y2 : x2 < 0
              · rw [if_pos y2, fin]
              · by_cases y4 : x4 < 0
                · rw [if_neg y2, if_pos y4, fin]
                · by_cases y5 : x5 < 0
                  · rw [if_neg y2, if_neg y4, if_pos y5, fin]
                  · rw [if_neg y2, if_neg y4, if_neg y5]
                    obtain ⟨i, hi, rfl⟩ := nI_of y2
                    obtain ⟨j, hj, rfl⟩ := nI_of y4
                    obtain ⟨m, hm, rfl⟩ := nI_of y5
                    simp only [pu_rowm hi hm t1, pu_rowm hj hm u1]
                    by_cases o1 : za < i + m
                    · rw [if_pos o1, fin]
                    · by_cases o2 : zb < j + m
                      · rw [if_neg o1, if_neg (fun z => z o2), fin]
                      · exact absurd ⟨(pu_row t2 t1 _ _).mpr ⟨i, m, rfl, rfl, by omega⟩, (pu_row u2 u1 _ _).mpr ⟨j, m, rfl, rfl, by omega⟩⟩ nn
            by_cases c5 : fs_hasRow h (65 + 2 * a) x2 x5 = true
            · by_cases c6 : fs_hasRow h (65 + 2 * b) x4 x5 = true
              · obtain ⟨i, m, rfl, rfl, e1⟩ := (pu_row t2 t1 _ _).mp c5
                obtain ⟨j, m', rfl, em, e2⟩ := (pu_row u2 u1 _ _).mp c6
                have mm : m < 2 ^ 31 := by omega
                by_cases hm' : m' = m
                · subst hm'
                  rw [if_pos c5, if_pos c6, if_pos (nI_pos (by omega)), if_pos (nI_pos (by omega)), if_pos (nI_pos (by omega)), nI_clamp (by omega), nI_clamp (by omega), nI_clamp (by omega), if_pos (by omega), if_pos (by omega), pu_ltE]
                  generalize eg : nv_cp (h (66 + 2 * a)) h (66 + 2 * b) i j m' = g
                  have gk : ∀ k, k ≠ 66 + 2 * b → g k = h k := fun k hk => by rw [← eg]; funext x; exact if_neg hk
                  have gb : ∀ x, g (66 + 2 * b) x = if j ≤ x ∧ x < j + m' then h (66 + 2 * a) (i + (x - j)) else h (66 + 2 * b) x := fun x => by
                    rw [← eg]
                    unfold nv_cp
                    rw [if_pos rfl]
                    by_cases d : j ≤ x ∧ x < j + m'
                    · rw [if_pos d, pk_cpy_in d.1 d.2]
                    · rw [if_neg d, pk_cpy_out (by omega)]
                  obtain ⟨q, p1, p2, p3, p4⟩ := pm_copy_sp (H := g) (a := a) (b := b) (i := i) (j := j) (m := m') ha hb (by omega) (by omega)
                  have qk : ∀ k, k ≠ 66 + 2 * b → k ≠ 76 → k ≠ 77 → q k = h k := fun k x y z => by rw [p2 k y z, gk k x]
                  refine ⟨1, g, q, rfl, ?_, nL, nK, nB, nA, pu_shR r (fun k a b c d e f => qk k b e f) hb (fun x hx => by rw [qk 74 (by omega) (by omega) (by omega)]) (fun x hx => by rw [qk 75 (by omega) (by omega) (by omega)]) (fun x hx => by rw [p4 x (by omega), gk 76 (by omega)]) ?_⟩
                  · show pm_copy g (nI a) (nI i) (nI b) (nI j) (nI m') = _
                    rw [pmc g (gk 74 (by omega)) (gk 75 (by omega)), if_pos c1, if_pos c2, if_pos c3', if_neg (nI_pos (by omega)), if_neg (nI_pos (by omega)), if_neg (nI_pos (by omega))]
                    simp only [pu_rowm (show i < 2 ^ 31 by omega) mm t1, pu_rowm (show j < 2 ^ 31 by omega) mm u1]
                    rw [if_neg (by omega), if_pos (by omega)]
                    exact p1
                  · rw [show pu_Rs q b = pu_Rs q b from rfl]
                    refine ⟨zb, u1, by rw [qk _ (by omega) (by omega) (by omega)]; exact u2, by rw [qk _ (by omega) (by omega) (by omega)]; exact u3, Or.inr ⟨by rw [qk _ (by omega) (by omega) (by omega)]; exact c2, by rw [qk 74 (by omega) (by omega) (by omega), qk (65 + 2 * b) (by omega) (by omega) (by omega)]; exact w1, by rw [qk 74 (by omega) (by omega) (by omega)]; exact w2, fun x hx => ?_⟩⟩
                    rw [p2 (66 + 2 * b) (by omega) (by omega), gb]
                    by_cases d : j ≤ x ∧ x < j + m'
                    · rw [if_pos d]
                      have := p3 (x - j) (by omega)
                      rw [show 60 * b + j + (x - j) = 60 * b + x by omega, gk 76 (by omega), show 60 * a + i + (x - j) = 60 * a + (i + (x - j)) by omega, v3 _ (by omega)] at this
                      exact this
                    · rw [if_neg d, p4 _ (by omega), gk 76 (by omega)]
                      exact w3 x hx
                · exact absurd ((nI_eq mm (by omega)).mp em).symm hm'
              · rw [if_pos c5, if_neg c6]; exact fnd 2 (-12) (by decide) (bad2 (fun z => c6 z.2))
            · rw [if_neg c5]; exact fnd 2 (-12) (by decide) (bad2 (fun z => c5 z.1))
          · have c3' : ¬ h 74 a = h 74 b := by rw [v1, w1]; exact c3
            rw [if_neg c3]
            exact fnd 4 (-14) (by decide) (by rw [pf 4, if_pos c1, if_pos c2, if_neg c3'])
        · rw [if_neg c2]
          exact fnd 1 (-11) (by decide) (by rw [pf 1, if_pos c1, if_neg c2])
      · rw [if_neg c1]
        exact fnd 1 (-11) (by decide) (by rw [pf 1, if_neg c1])
    · rw [if_pos q1, if_neg q2]
      refine ⟨_, _, _, rfl, ?_, R'⟩
      show pm_copy h x1 x2 x3 x4 x5 = _
      unfold pm_copy
      rw [pu_sheet, pu_sheet, if_pos q1, if_neg q2]
  · rw [if_neg q1]
    refine ⟨_, _, _, rfl, ?_, R'⟩
    show pm_copy h x1 x2 x3 x4 x5 = _
    unfold pm_copy
    rw [pu_sheet, if_neg q1]
