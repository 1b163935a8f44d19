/-! ===== operation: read ===== -/
theorem fc_bargain_fr {c c1 : nv_Hp} {v x1 x2 x3 x4 x5 x6 : Int32} (e : fc_bargain c x1 x2 x3 x4 x5 x6 = some (v, c1)) : ∀ k, 59 ≤ k → c1 k = c k := by
  intro k hk
  have e29 : ∀ (e : fc_bargain_29 c x1 x2 x3 x4 x5 x6 = some (v, c1)), c1 k = c k := by
    intro e
    unfold fc_bargain_29 at e
    by_cases y1 : x3 = x1
    · rw [if_pos y1] at e; cases e; rfl
    rw [if_neg y1] at e
    by_cases y2 : x3 = x2
    · rw [if_pos y2] at e; cases e; rfl
    rw [if_neg y2] at e
    by_cases y3 : fc_isWithin x4 0 3 = true
    · rw [if_pos y3] at e
      by_cases y4 : fc_isAmount x5 = true
      · rw [if_pos y4] at e
        by_cases y5 : fc_isDay x6 = true
        · rw [if_pos y5] at e
          by_cases y6 : c 0 9 < 10
          · rw [if_pos y6] at e
            by_cases y7 : nv_inb (c 0 9) 10 = true
            · rw [if_pos y7] at e
              obtain ⟨n, hn, en⟩ := pu_ofinb y7
              have hk' : k ≠ 37 + (c 0 9).toNatClampNeg := by rw [en, nI_clamp (by omega)]; omega
              simp only [nv_lt] at e
              have e2 := (Prod.mk.inj (Option.some.inj e)).2
              rw [← e2, pu_up_c (by omega), pu_up_c hk', pu_up_c hk', pu_up_c hk', pu_up_c hk', pu_up_c hk', pu_up_c hk', pu_up_c hk']
            · rw [if_neg y7] at e; cases e
          · rw [if_neg y6] at e; cases e; rfl
        · rw [if_neg y5] at e; cases e; rfl
      · rw [if_neg y4] at e; cases e; rfl
    · rw [if_neg y3] at e; cases e; rfl
  unfold fc_bargain at e
  by_cases c1 : fc_isPerson x1 = true
  · rw [if_pos c1] at e
    by_cases c2 : fc_isPerson x3 = true
    · rw [if_pos c2] at e
      by_cases c3 : x2 = -1
      · rw [if_pos c3] at e; exact e29 e
      · rw [if_neg c3] at e
        by_cases c4 : fc_isPerson x2 = true
        · rw [if_pos c4] at e; exact e29 e
        · rw [if_neg c4] at e; cases e; rfl
    · rw [if_neg c2] at e; cases e; rfl
  · rw [if_neg c1] at e; cases e; rfl
theorem pm_bargain_fr {m m1 : nv_Hp} {v x1 x2 x3 x4 x5 x6 : Int32} (e : pm_bargain m x1 x2 x3 x4 x5 x6 = some (v, m1)) : m1 75 = m 75 ∧ m1 76 = m 76 := by
  unfold pm_bargain at e
  generalize (if pm_isPerson x1 = true then _ else false : Bool) = b at e
  unfold pm_bargain_41 at e
  simp only [nv_lt] at e
  have st : ∀ {P : Prop} [Decidable P] {a d : Option (Int32 × nv_Hp)}, (if P then a else d) = some (v, m1) → (a = some (v, m1)) ∨ (d = some (v, m1)) := fun {P} _ {a d} q => by
    by_cases p : P
    · rw [if_pos p] at q; exact Or.inl q
    · rw [if_neg p] at q; exact Or.inr q
  have sm : ∀ {a : Int32}, some (a, m) = some (v, m1) → m1 75 = m 75 ∧ m1 76 = m 76 := fun q => by
    have := (Prod.mk.inj (Option.some.inj q)).2
    rw [← this]; exact ⟨rfl, rfl⟩
  rcases st e with e | e
  · rcases st e with e | e
    · rcases st e with e | e
      · rcases st e with e | e
        · rcases st e with e | e
          · exact sm e
          · rcases st e with e | e
            · rcases st e with e | e
              · rcases st e with e | e
                · rcases st e with e | e
                  · rcases st e with e | e
                    · rcases st e with e | e
                      · have e2 := (Prod.mk.inj (Option.some.inj e)).2
                        rw [← e2]
                        exact ⟨by rw [pu_up_c (by decide), pu_up_c (by decide), pu_up_c (by decide), pu_up_c (by decide), pu_up_c (by decide), pu_up_c (by decide), pu_up_c (by decide)], by rw [pu_up_c (by decide), pu_up_c (by decide), pu_up_c (by decide), pu_up_c (by decide), pu_up_c (by decide), pu_up_c (by decide), pu_up_c (by decide)]⟩
                      · cases e
                    · cases e
                  · cases e
                · cases e
              · cases e
            · cases e
        · exact sm e
      · exact sm e
    · exact sm e
  · exact sm e
theorem pu_bargain2 {c m : nv_Hp} (R : pu_R (pu_mx c m)) (x1 x2 x3 x4 x5 x6 : Int32) : ∃ v c1 m1, fc_bargain c x1 x2 x3 x4 x5 x6 = some (v, c1) ∧ pm_bargain m x1 x2 x3 x4 x5 x6 = some (v, m1) ∧ pu_R (pu_mx c1 m1) := by
  obtain ⟨v, h1, h2, e1, e2, r⟩ := op_bargain R x1 x2 x3 x4 x5 x6
  rw [fc_bargain_mx] at e1
  cases ec : fc_bargain c x1 x2 x3 x4 x5 x6 with
  | none => rw [ec] at e1; cases e1
  | some p =>
    obtain ⟨v', c1⟩ := p
    rw [ec, Option.map_some] at e1
    obtain ⟨ev, eh⟩ := Prod.mk.inj (Option.some.inj e1)
    have ev : v' = v := ev
    have eh : pu_mx c1 m = h1 := eh
    subst ev eh
    have e2 : pm_bargain (pu_mx c1 m) x1 x2 x3 x4 x5 x6 = some (v', h2) := e2
    rw [pm_bargain_mx] at e2
    cases em : pm_bargain m x1 x2 x3 x4 x5 x6 with
    | none => rw [em] at e2; cases e2
    | some p =>
      obtain ⟨v2, m1⟩ := p
      rw [em, Option.map_some] at e2
      obtain ⟨ev3, eh3⟩ := Prod.mk.inj (Option.some.inj e2)
      have ev4 : v2 = v' := ev3
      have eh4 : pu_mx c1 m1 = h2 := eh3
      rw [← eh4] at r
      rw [ev4]
      exact ⟨v', c1, m1, rfl, rfl, r⟩
theorem read_loop {s sz : Nat} (hs : s < 4) (hz : sz ≤ 60) : ∀ (d n n' t : Nat) (c m : nv_Hp), pu_R (pu_mx c m) → c (65 + 2 * s) 3 = nI sz → m 75 s = nI sz → (∀ j, j < sz → m 76 (60 * s + j) = c (66 + 2 * s) j) → sz < 6 * t + 6 * d + 6 → t ≤ 20 → d < n → d + 1 < n' →
    ∃ v c' m', (∀ M, fc_read_35 (65 + 2 * s) n (nI t) (nI (6 * t)) (pu_mx c M) = some (v, pu_mx c' M)) ∧ (∀ C, pm_read_29 (nI s) n' (nI t) true (pu_mx C m) = some (v, pu_mx C m')) ∧ pu_R (pu_mx c' m') := by
  intro d
  induction d with
  | zero =>
    intro n n' t c m R e1 e2 e3 hd ht hn hn'
    obtain ⟨n, rfl⟩ : ∃ k, n = k + 1 := ⟨n - 1, by omega⟩
    obtain ⟨n', rfl⟩ : ∃ k, n' = k + 1 := ⟨n' - 1, by omega⟩
    refine ⟨nI t, c, m, fun M => ?_, fun C => ?_, R⟩
    · rw [fc_read_35, pu_mxc (by omega), e1, show nI (6 * t) + 6 = nI (6 * t + 6) from nI_add _ 6, if_pos (nI_lt (by omega) (by omega))]
    · rw [pm_read_29, if_pos rfl, if_pos (pu_inb hs (by omega)), pu_mxm (by omega), nI_clamp (by omega), e2, show (6 : Int32) * nI t = nI (6 * t) from pk_mul 6 t, show nI (6 * t) + 6 = nI (6 * t + 6) from nI_add _ 6, if_pos (nI_lt (by omega) (by omega))]
  | succ d ih =>
    intro n n' t c m R e1 e2 e3 hd ht hn hn'
    obtain ⟨n, rfl⟩ : ∃ k, n = k + 1 := ⟨n - 1, by omega⟩
    obtain ⟨n', rfl⟩ : ∃ k, n' = k + 1 := ⟨n' - 1, by omega⟩
    by_cases c0 : sz < 6 * t + 6
    · refine ⟨nI t, c, m, fun M => ?_, fun C => ?_, R⟩
      · rw [fc_read_35, pu_mxc (by omega), e1, show nI (6 * t) + 6 = nI (6 * t + 6) from nI_add _ 6, if_pos (nI_lt (by omega) (by omega))]
      · rw [pm_read_29, if_pos rfl, if_pos (pu_inb hs (by omega)), pu_mxm (by omega), nI_clamp (by omega), e2, show (6 : Int32) * nI t = nI (6 * t) from pk_mul 6 t, show nI (6 * t) + 6 = nI (6 * t + 6) from nI_add _ 6, if_pos (nI_lt (by omega) (by omega))]
    · have item : ∀ M i, i < sz → fs_itemAt (pu_mx c M) (65 + 2 * s) (nI i) = some (c (66 + 2 * s) i) := by
        intro M i hi
        unfold fs_itemAt
        rw [pu_has (h := pu_mx c M) (by rw [pu_mxc (by omega)]; exact e1) hz, pu_ido (by omega) hi, if_pos rfl, if_pos (pu_inb (by omega) (by omega)), nI_clamp (by omega), show 65 + 2 * s + 1 = 66 + 2 * s by omega, pu_mxc (by omega)]
      obtain ⟨v, c1, m1, b1, b2, R1⟩ := pu_bargain2 R (c (66 + 2 * s) (6 * t)) (c (66 + 2 * s) (6 * t + 1)) (c (66 + 2 * s) (6 * t + 2)) (c (66 + 2 * s) (6 * t + 3)) (c (66 + 2 * s) (6 * t + 4)) (c (66 + 2 * s) (6 * t + 5))
      have fr := fc_bargain_fr b1
      have mr := pm_bargain_fr b2
      have cs : ∀ M, fc_read_35 (65 + 2 * s) (n + 1) (nI t) (nI (6 * t)) (pu_mx c M) = if 0 ≤ v then fc_read_35 (65 + 2 * s) n (nI (t + 1)) (nI (6 * t + 6)) (pu_mx c1 M) else some (nI t, pu_mx c1 M) := by
        intro M
        rw [fc_read_35, pu_mxc (by omega), e1, show nI (6 * t) + 6 = nI (6 * t + 6) from nI_add _ 6, if_neg (nI_nlt (by omega) (by omega)), item M _ (by omega), Option.bind_some, nI_1, item M _ (by omega), Option.bind_some, show nI (6 * t) + 2 = nI (6 * t + 2) from nI_add _ 2, item M _ (by omega), Option.bind_some, show nI (6 * t) + 3 = nI (6 * t + 3) from nI_add _ 3, item M _ (by omega), Option.bind_some, show nI (6 * t) + 4 = nI (6 * t + 4) from nI_add _ 4, item M _ (by omega), Option.bind_some, show nI (6 * t) + 5 = nI (6 * t + 5) from nI_add _ 5, item M _ (by omega), Option.bind_some, fc_bargain_mx, b1, Option.map_some, Option.bind_some, nI_1]
      have ms : ∀ C, pm_read_29 (nI s) (n' + 1) (nI t) true (pu_mx C m) = if 0 ≤ v then pm_read_29 (nI s) n' (nI (t + 1)) true (pu_mx C m1) else some (nI t, pu_mx C m1) := by
        intro C
        rw [pm_read_29, if_pos rfl, if_pos (pu_inb hs (by omega)), pu_mxm (by omega), nI_clamp (by omega), e2, show (6 : Int32) * nI t = nI (6 * t) from pk_mul 6 t, show nI (6 * t) + 6 = nI (6 * t + 6) from nI_add _ 6, if_neg (nI_nlt (by omega) (by omega)), pu_ltE, show (60 : Int32) * nI s = nI (60 * s) from pk_mul 60 s, nI_add, nI_1, show nI (60 * s + 6 * t) + 2 = nI (60 * s + 6 * t + 2) from nI_add _ 2, show nI (60 * s + 6 * t) + 3 = nI (60 * s + 6 * t + 3) from nI_add _ 3, show nI (60 * s + 6 * t) + 4 = nI (60 * s + 6 * t + 4) from nI_add _ 4, show nI (60 * s + 6 * t) + 5 = nI (60 * s + 6 * t + 5) from nI_add _ 5]
        rw [if_pos (pu_inb (by omega) (by omega)), if_pos (pu_inb (by omega) (by omega)), if_pos (pu_inb (by omega) (by omega)), if_pos (pu_inb (by omega) (by omega)), if_pos (pu_inb (by omega) (by omega)), if_pos (pu_inb (by omega) (by omega)), nI_clamp (by omega), nI_clamp (by omega), nI_clamp (by omega), nI_clamp (by omega), nI_clamp (by omega), nI_clamp (by omega), pu_mxm (by omega), e3 _ (by omega), show 60 * s + 6 * t + 1 = 60 * s + (6 * t + 1) by omega, e3 _ (by omega), show 60 * s + 6 * t + 2 = 60 * s + (6 * t + 2) by omega, e3 _ (by omega), show 60 * s + 6 * t + 3 = 60 * s + (6 * t + 3) by omega, e3 _ (by omega), show 60 * s + 6 * t + 4 = 60 * s + (6 * t + 4) by omega, e3 _ (by omega), show 60 * s + 6 * t + 5 = 60 * s + (6 * t + 5) by omega, e3 _ (by omega), pm_bargain_mx, b2, Option.map_some, Option.bind_some]
        unfold pm_read_124
        by_cases p : 0 ≤ v
        · simp only [Int32.not_lt.mpr p, if_false, if_true, p]
          rw [show nI t + nv_bi true = nI (t + 1) from nI_add t 1]
        · simp only [Int32.not_le.mp p, if_true, if_false, p, Bool.false_eq_true]
          obtain ⟨n', rfl⟩ : ∃ k, n' = k + 1 := ⟨n' - 1, by omega⟩
          rw [pm_read_29, if_neg (by decide), show nI t + nv_bi false = nI t from Int32.add_zero _]
      by_cases p : 0 ≤ v
      · obtain ⟨w, c', m', q1, q2, q3⟩ := ih n n' (t + 1) c1 m1 R1 (by rw [fr _ (by omega)]; exact e1) (by rw [mr.1]; exact e2) (fun j hj => by rw [mr.2, fr _ (by omega)]; exact e3 j hj) (by omega) (by omega) (by omega) (by omega)
        refine ⟨w, c', m', fun M => ?_, fun C => ?_, q3⟩
        · rw [cs, if_pos p]; exact q1 M
        · rw [ms, if_pos p]; exact q2 C
      · refine ⟨nI t, c1, m1, fun M => ?_, fun C => ?_, R1⟩
        · rw [cs, if_neg p]
        · rw [ms, if_neg p]
theorem op_read {h : nv_Hp} (R : pu_R h) (x1 : Int32) : pu_o2 (fc_read h x1) (fun h1 => pm_read h1 x1) := by
  have R' := R
  obtain ⟨nL, nK, nB, nA, r⟩ := R
  unfold fc_read pm_read fc_find pm_met
  simp only [pu_sheet]
  by_cases q1 : fc_isSheet x1 = true
  · obtain ⟨s, hs, rfl⟩ := pu_sheetI q1
    have S := r.2.2.2.2.2.2.2 s hs
    have Sl := pu_Rs_le S
    obtain ⟨sz, t1, t2, t3, t4⟩ := S
    rw [if_pos q1, if_pos (pu_inb hs (by omega)), nI_clamp (by omega)]
    by_cases c : h (65 + 2 * s) 1 = 0
    · rw [if_pos c]
      have v3 : ∀ j, j < sz → h 76 (60 * s + j) = h (66 + 2 * s) j := by
        rcases t4 with ⟨x, _⟩ | ⟨_, x, y, z⟩
        · rw [c] at x; exact absurd x (by decide)
        · exact z
      obtain ⟨v, c', m', a1, a2, a3⟩ := read_loop (s := s) hs t1 10 nv_fu nv_fu 0 h h (by rw [pu_mx_self]; exact R') t2 t3 v3 (by omega) (by omega) (show 10 < 4000 by omega) (show 10 + 1 < 4000 by omega)
      have b1 := a1 h
      rw [pu_mx_self, Nat.mul_zero, nI_0] at b1
      refine ⟨v, pu_mx c' h, pu_mx c' m', b1, ?_, a3⟩
      have b2 := a2 c'
      rw [nI_0] at b2
      show (if fc_isSheet (nI s) = true then _ else _) = _
      rw [if_pos q1, if_pos (pu_inb hs (by omega)), pu_mxm (by omega), if_pos (Sl.mpr c)]
      exact b2
    · rw [if_neg c]
      refine pu_fo R' 1 _ ?_
      show (if fc_isSheet (nI s) = true then _ else _) = _
      rw [if_pos q1, if_pos (pu_inb hs (by omega)), nv_up_k _ _ (by omega), if_neg (fun z => c (Sl.mp z))]
      rfl
  · rw [if_neg q1]
    refine ⟨_, _, _, rfl, ?_, R'⟩
    show (if fc_isSheet x1 = true then _ else _) = _
    rw [if_neg q1]
