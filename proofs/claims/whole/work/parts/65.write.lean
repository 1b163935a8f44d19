/-! ===== write ===== -/
theorem sB_g {g g' : nv_Hp} {nL nK nB nA b : Nat} {w w' hd hd' : Nat → Int32} {Q : nv_Hp → Prop} (R : pu_Rm Q g nL nK nB nA) (hb : b < nB) (hc : ∀ k, 13 ≤ k → k < 59 → g' k = g k) (hw : ∀ j, j < 9 → w j = w' j) (hh : ∀ k, k < nK → hd k = hd' k) : sB g nL nK nA w hd b = sB g' nL nK nA w' hd' b := by
  have a3 := R.2.1.1.2.2
  have b3 := R.2.1.2.1.2.2
  have c3 := R.2.1.2.2.1.2.2
  have d3 := R.2.1.2.2.2.1.2.2
  exact sp_bits_cg (by omega) hw hh (fun i hi f _ => by rw [hc (13 + i) (by omega) (by omega)]) (fun i hi f _ => by rw [hc (25 + i) (by omega) (by omega)]) (fun i hi f _ => by rw [hc (47 + i) (by omega) (by omega)]) (fun f _ => by rw [hc (37 + b) (by omega) (by omega)]) (pu_Rn_roots R)
theorem sO_g {g g' : nv_Hp} {nL nK nB nA b : Nat} {w w' hd hd' : Nat → Int32} {Q : nv_Hp → Prop} (R : pu_Rm Q g nL nK nB nA) (hb : b < nB) (hc : ∀ k, 13 ≤ k → k < 59 → g' k = g k) (hw : ∀ j, j < 9 → w j = w' j) (hh : ∀ k, k < nK → hd k = hd' k) : sO g nL nK nA w hd b = sO g' nL nK nA w' hd' b := by
  have a3 := R.2.1.1.2.2
  have b3 := R.2.1.2.1.2.2
  have c3 := R.2.1.2.2.1.2.2
  have d3 := R.2.1.2.2.2.1.2.2
  have e := sp_first_cg (w := w) (w' := w') (hd := hd) (hd' := hd') (lv := fun j => g (13 + j)) (lv' := fun j => g' (13 + j)) (bk := fun j => g (25 + j)) (bk' := fun j => g' (25 + j)) (bg := g (37 + b)) (bg' := g' (37 + b)) (nL := nL) (nK := nK) (by omega) hw hh (fun i hi f _ => by rw [hc (13 + i) (by omega) (by omega)]) (fun i hi f _ => by rw [hc (25 + i) (by omega) (by omega)]) (fun f _ _ => by rw [hc (37 + b) (by omega) (by omega)]) (pu_Rn_roots R)
  unfold sO
  rw [sB_g R hb hc hw hh, e, hc (37 + b) (by omega) (by omega)]
  split
  · rfl
  · cases e2 : sp_first w' hd' (fun j => g' (13 + j)) (fun j => g' (25 + j)) (g (37 + b)) nL nK with
    | none => rfl
    | some i =>
      have hi := sp_first_lt e2
      simp only []
      rw [hc (13 + i) (by omega) (by omega)]
      unfold sp_lim
      rw [hw 2 (by omega)]
theorem st_run_g {g g' : nv_Hp} {nL nK nB nA : Nat} {w w' hd hd' : Nat → Int32} {Q : nv_Hp → Prop} (R : pu_Rm Q g nL nK nB nA) (h1 : g' 1 = g 1) (hc : ∀ k, 13 ≤ k → k < 59 → g' k = g k) (hw : ∀ j, j < 9 → w j = w' j) (hh : ∀ k, k < nK → hd k = hd' k) : ∀ b, b ≤ nB → st_run g nL nK nA w hd b = st_run g' nL nK nA w' hd' b := by
  have c3 := R.2.1.2.2.1.2.2
  intro b
  induction b with
  | zero => intro _; exact h1.symm
  | succ b ih =>
    intro hb
    have eb := hc (37 + b) (by omega) (by omega)
    rw [st_run_s, st_run_s, ih (by omega), sB_g R (show b < nB by omega) hc hw hh, sO_g R (show b < nB by omega) hc hw hh]
    have eA : st_A g nL nK nA w hd b = st_A g' nL nK nA w' hd' b := by
      funext x
      unfold st_A
      rw [sB_g R (show b < nB by omega) hc hw hh, eb, sA_w hw]
    have ed : st_d g b = st_d g' b := by unfold st_d; rw [eb]
    have eo : st_o g b = st_o g' b := by unfold st_o; rw [eb]
    rw [eA, ed, eo]
theorem fc_put_loop {s sz n : Nat} {u : nv_Hp} (hs : s < 4) (hz : sz ≤ 60) (hn : n ≤ 8) (hns : n ≤ sz) (e3 : u (65 + 2 * s) 3 = nI sz) : ∃ h', fc_write_64 (65 + 2 * s) (nI n) nv_fu 0 u = some (nI n, h') ∧ (∀ k, k ≠ 66 + 2 * s → h' k = u k) ∧ (∀ j, j < n → h' (66 + 2 * s) j = pm_cut (u (65 + 2 * s) 2) (u 8 j)) ∧ ∀ j, ¬ j < n → h' (66 + 2 * s) j = u (66 + 2 * s) j := by
  have key := pu_fold (fun m (g : nv_Hp) x => fc_write_64 (65 + 2 * s) (nI n) m x g) n (fun i g => (∀ k, k ≠ 66 + 2 * s → g k = u k) ∧ (∀ j, j < i → g (66 + 2 * s) j = pm_cut (u (65 + 2 * s) 2) (u 8 j)) ∧ ∀ j, ¬ j < i → g (66 + 2 * s) j = u (66 + 2 * s) j) (fun i g => nv_up g (66 + 2 * s) i (pm_cut (u (65 + 2 * s) 2) (u 8 i))) (fun g => some (nI n, g)) (fun m i g hi hI => by
    obtain ⟨i1, i2, i3⟩ := hI
    refine ⟨?_, fun k hk => by rw [pu_up_c hk]; exact i1 k hk, fun j hj => ?_, fun j hj => ?_⟩
    · have ha : fs_has g (65 + 2 * s) (nI i) = true := by
        rw [pu_has (sz := sz) (by rw [i1 _ (by omega)]; exact e3) hz]
        exact pu_ido (by omega) (by omega)
      have lb : fs_lowestBits g (65 + 2 * s) (g 8 i) = pm_cut (u (65 + 2 * s) 2) (u 8 i) := by
        rw [i1 8 (by omega), ← i1 (65 + 2 * s) (by omega)]; rfl
      rw [fc_write_64, if_neg (nI_ge hi (by omega)), if_pos (pu_inb (by omega) (by omega)), nI_clamp (by omega)]
      unfold fs_put
      rw [if_pos ha, if_pos (pu_inb (by omega) (by omega)), nI_clamp (by omega), pu_ltE, Option.bind_some, lb, nI_1, show 65 + 2 * s + 1 = 66 + 2 * s by omega]
    · by_cases c : j = i
      · subst c; rw [nv_up_s]
      · rw [nv_up_j _ _ c]; exact i2 j (by omega)
    · rw [nv_up_j _ _ (by omega)]; exact i3 j (by omega)) (fun m g _ => by
    rw [fc_write_64, if_pos (nI_le (Nat.le_refl _) (by omega))]) n 0 nv_fu u (by omega) (show n < 4000 by omega) ⟨fun _ _ => rfl, fun j hj => by omega, fun _ _ => rfl⟩
  obtain ⟨k1, k2⟩ := key
  rw [nI_0] at k1
  exact ⟨_, k1, k2⟩
theorem pm_put_loop {s n : Nat} {u : nv_Hp} (hs : s < 4) (hn : n ≤ 8) : ∃ h', pm_write_63 (nI s) (nI n) nv_fu 0 u = some (nI n, h') ∧ (∀ k, k ≠ 76 → h' k = u k) ∧ (∀ j, j < n → h' 76 (60 * s + j) = pm_cut (u 74 s) (u 109 j)) ∧ ∀ j, ¬ (60 * s ≤ j ∧ j < 60 * s + n) → h' 76 j = u 76 j := by
  have key := pu_fold (fun m (g : nv_Hp) x => pm_write_63 (nI s) (nI n) m x g) n (fun i g => (∀ k, k ≠ 76 → g k = u k) ∧ (∀ j, j < i → g 76 (60 * s + j) = pm_cut (u 74 s) (u 109 j)) ∧ ∀ j, ¬ (60 * s ≤ j ∧ j < 60 * s + i) → g 76 j = u 76 j) (fun i g => nv_up g 76 (60 * s + i) (pm_cut (u 74 s) (u 109 i))) (fun g => some (nI n, g)) (fun m i g hi hI => by
    obtain ⟨i1, i2, i3⟩ := hI
    refine ⟨?_, fun k hk => by rw [pu_up_c hk]; exact i1 k hk, fun j hj => ?_, fun j hj => ?_⟩
    · rw [pm_write_63, if_neg (nI_ge hi (by omega)), if_pos (pu_inb (by omega) (by omega)), if_pos (pu_inb (by omega) (by omega)), show (60 : Int32) * nI s = nI (60 * s) from pk_mul 60 s, nI_add, if_pos (pu_inb (by omega) (by omega)), pu_ltE, nI_clamp (by omega), nI_clamp (by omega), nI_clamp (by omega), nI_1, i1 74 (by decide), i1 109 (by decide)]
    · by_cases c : j = i
      · subst c; rw [nv_up_s]
      · rw [nv_up_j _ _ (by omega)]; exact i2 j (by omega)
    · rw [nv_up_j _ _ (by omega)]; exact i3 j (by omega)) (fun m g _ => by
    rw [pm_write_63, if_pos (nI_le (Nat.le_refl _) (by omega))]) n 0 nv_fu u (by omega) (show n < 4000 by omega) ⟨fun _ _ => rfl, fun j hj => by omega, fun _ _ => rfl⟩
  obtain ⟨k1, k2⟩ := key
  rw [nI_0] at k1
  exact ⟨_, k1, k2⟩
theorem op_write {h : nv_Hp} (R : pu_R h) (x1 x2 : Int32) : pu_o2 (fc_write h x1 x2) (fun h1 => pm_write h1 x1 x2) := by
  have R' := R
  obtain ⟨nL, nK, nB, nA, r⟩ := R
  unfold fc_write pm_write
  simp only [pu_two, pu_sheet]
  by_cases q1 : fc_isLaw x1 = true
  · by_cases q2 : fc_isSheet x2 = true
    · obtain ⟨l, hl, rfl⟩ := pu_law q1
      obtain ⟨s, hs, rfl⟩ := pu_sheetI q2
      have S := r.2.2.2.2.2.2.2 s hs
      have Sl := pu_Rs_le S
      simp only [q1, q2, if_true, pu_inb hs (show 4 < 2 ^ 31 by omega), pu_inb hl (show 2 < 2 ^ 31 by omega), nI_clamp (show s < 2 ^ 31 by omega), nI_clamp (show l < 2 ^ 31 by omega), pu_lawc hl]
      by_cases c : h (65 + 2 * s) 1 = 0
      · obtain ⟨sz, t1, t2, t3, t4⟩ := S
        rcases t4 with ⟨a, b⟩ | ⟨a, b, c', d⟩
        · rw [c] at a; exact absurd a (by decide)
        obtain ⟨u, a1, a2, a3, a4⟩ := fc_settle_sp (k1 := 61 + 3 * l) r (pu_sm_r h) (by omega)
        have eu : u (65 + 2 * s) = h (65 + 2 * s) := a4 _ (by omega) (by omega)
        rw [if_pos c, a1, Option.bind_some, pu_ltE, eu, t2, show (8 : Int32) = nI 8 from rfl, st_minN (by omega) (by omega)]
        obtain ⟨v, p1, p2, p3, p4⟩ := fc_put_loop (u := u) (n := min sz 8) hs t1 (by omega) (by omega) (by rw [eu]; exact t2)
        have vk : ∀ k, k ≠ 66 + 2 * s → k ≠ 8 → k ≠ 9 → v k = h k := fun k x y z => (p2 k x).trans (a4 k y z)
        have rv : pu_Rm (fun _ => True) v nL nK nB nA := by
          obtain ⟨r1, r2, r3, r4, r5, r6, r7, r8⟩ := r
          exact ⟨pu_Rp_cg (vk 1 (by omega) (by omega) (by omega)) (vk 78 (by omega) (by omega) (by omega)) r1, pu_Rc_cg (fun j => by rw [vk 0 (by omega) (by omega) (by omega)]) (fun j => by rw [vk 73 (by omega) (by omega) (by omega)]) r2, pu_Rl_cg r2.1.2.2 (fun k _ _ => vk k (by omega) (by omega) (by omega)) (fun k _ _ => vk k (by omega) (by omega) (by omega)) r3, pu_Rk_cg r2.2.1.2.2 (fun k _ _ => vk k (by omega) (by omega) (by omega)) (fun k _ _ => vk k (by omega) (by omega) (by omega)) r4, pu_Rb_cg r2.2.2.1.2.2 (fun k _ _ => vk k (by omega) (by omega) (by omega)) (fun k _ _ => vk k (by omega) (by omega) (by omega)) r5, pu_Ra_cg r2.2.2.2.1.2.2 (fun k _ _ => vk k (by omega) (by omega) (by omega)) (fun k _ _ => vk k (by omega) (by omega) (by omega)) r6, pu_R7_cg (fun k _ _ => vk k (by omega) (by omega) (by omega)) (vk 105 (by omega) (by omega) (by omega)) (vk 106 (by omega) (by omega) (by omega)) r7, trivial⟩
        obtain ⟨g, b1, b2, b3, b4⟩ := pm_findEnd_sp rv (pu_sm_r v) hl
        have g4 : g 74 = h 74 := (pu_sm_c b4 (by decide)).trans (vk 74 (by omega) (by omega) (by omega))
        have g5 : g 75 = h 75 := (pu_sm_c b4 (by decide)).trans (vk 75 (by omega) (by omega) (by omega))
        have g6 : g 76 = h 76 := (pu_sm_c b4 (by decide)).trans (vk 76 (by omega) (by omega) (by omega))
        have erun : ∀ z, z < 8 → g 109 z = u 8 z := fun z hz => by
          rw [b2 z hz, a2 z hz, st_run_g (g := h) (g' := v) r (vk 1 (by omega) (by omega) (by omega)) (fun k _ _ => vk k (by omega) (by omega) (by omega)) (w := h (61 + 3 * l)) (w' := v (61 + 3 * l)) (fun j _ => by rw [vk (61 + 3 * l) (by omega) (by omega) (by omega)]) (hd := sH h 0) (hd' := sH v 0) (fun k hk => by
            have b3 := r.2.1.2.1.2.2
            unfold sH fc_hearingDay
            rw [nI_clamp (by omega), vk (25 + k) (by omega) (by omega) (by omega)]) nB (Nat.le_refl _)]
        obtain ⟨f, w1, w2, w3, w4⟩ := pm_put_loop (u := g) (s := s) (n := min sz 8) hs (by omega)
        have v4 : v 74 s = h 74 s := by rw [vk 74 (by omega) (by omega) (by omega)]
        refine ⟨_, v, f, p1, ?_, ?_⟩
        · have em : (if nI 8 ≤ nI sz then nI 8 else nI sz) = nI (min sz 8) := by
            by_cases y : 8 ≤ sz
            · rw [if_pos (nI_le y (by omega)), Nat.min_eq_right y]
            · rw [if_neg (nI_ge (by omega) (by omega)), Nat.min_eq_left (by omega)]
          simp only [v4, Sl.mpr c, if_true, b1, Option.bind_some, g5, t3]
          rw [em]
          exact w1
        · have fk : ∀ k, k ≠ 76 → f k = g k := w2
          have sg : pu_sm v g := b4
          -- a heap that keeps the sheets, related to h
          obtain ⟨q, k76, kq⟩ : ∃ q : nv_Hp, q 76 = f 76 ∧ ∀ k, k ≠ 76 → q k = v k := ⟨fun k => if k = 76 then f 76 else v k, if_pos rfl, fun k hk => if_neg hk⟩
          have Rg : pu_Rn q nL nK nB nA := by
            have su : pu_Rn u nL nK nB nA := pu_Rn_sm r fun k j q => by rw [a4 k (fun y => q (by unfold pu_scr; omega)) (fun y => q (by unfold pu_scr; omega))]
            refine pu_shR (h := u) su (fun k x y z1 z2 z3 z4 => by rw [kq k z3]; exact p2 k y) hs (fun j hj => by rw [kq 74 (by decide), p2 74 (by omega)]) (fun j hj => by rw [kq 75 (by decide), p2 75 (by omega)]) (fun j hj => by
              rw [k76, w4 j (by omega), g6, a4 76 (by decide) (by decide)]) ?_
            refine ⟨sz, t1, ?_, ?_, Or.inr ⟨?_, ?_, ?_, fun j hj => ?_⟩⟩
            · rw [kq _ (by omega), p2 _ (by omega), eu]; exact t2
            · rw [kq _ (by omega), vk 75 (by omega) (by omega) (by omega)]; exact t3
            · rw [kq _ (by omega), p2 _ (by omega), eu]; exact a
            · rw [kq 74 (by decide), kq (65 + 2 * s) (by omega), p2 (65 + 2 * s) (by omega), eu, v4]; exact b
            · rw [kq _ (by omega), v4]; exact c'
            · rw [k76, kq _ (by omega)]
              by_cases y : j < min sz 8
              · rw [w3 j y, p3 j y, eu, g4, b, erun j (by omega)]
              · rw [w4 _ (by omega), p4 j y, g6, a4 _ (by omega) (by omega)]; exact d j hj
          refine ⟨nL, nK, nB, nA, pu_Rn_sm Rg fun k j z => ?_⟩
          by_cases y : k = 76
          · subst y; rw [k76]
          · rw [fk k y, sg k j z, kq k y]
      · rw [if_neg c]
        unfold fc_find pm_met
        simp only [nv_lt]
        refine pu_fo R' _ _ ?_
        have e : ¬ 0 ≤ nv_up h 0 11 1 74 s := by rw [nv_up_k _ _ (by decide)]; exact fun z => c (Sl.mp z)
        simp only [e, if_false]
    · simp only [q1, q2, if_true, if_false]; exact ⟨_, _, _, rfl, rfl, R'⟩
  · simp only [q1, if_false]; exact ⟨_, _, _, rfl, rfl, R'⟩
