/-! ===== ways: the reference ===== -/
theorem pm_ways_in {h0 : nv_Hp} {nL nK nB nA b w : Nat} {wd : Nat → Int32} {Q : nv_Hp → Prop} {rec : Int32 → nv_Hp → Option nv_Hp} (R : pu_Rm Q h0 nL nK nB nA) (hb : b < nB) (hB : pu_B3 (wd 0)) (hw : w < 2 ^ wm h0 nK) (h : nv_Hp) (s : pu_sm h0 h) (e8 : ∀ j, j < 9 → h 108 j = wd j) (e45 : h 73 45 = nI (wm h0 nK)) (e11 : ∀ j, j < wm h0 nK → h 111 j = nI (wj h0 nK j)) (e93 : ∀ k, k < nK → (∀ j, j < wm h0 nK → wj h0 nK j ≠ k) → h 93 k = sH h0 0 k) :
    ∃ h', pm_findWays_24 (nI b) (nI w) rec nv_fu 0 h = rec (nI (w + 1)) h' ∧ h' 112 w = wV h0 nL nK nA wd b w ∧ (∀ j, j ≠ w → h' 112 j = h 112 j) ∧ (∀ k, k ≠ 93 → k ≠ 112 → k ≠ 73 → h' k = h k) ∧ (∀ j, j ≠ 41 → h' 73 j = h 73 j) ∧ (∀ k, k < nK → (∀ j, j < wm h0 nK → wj h0 nK j ≠ k) → h' 93 k = sH h0 0 k) := by
  have b3 := R.2.1.2.1.2.2
  have c3 := R.2.1.2.2.1.2.2
  have m6 := wm_le h0 nK
  have le := w64 (g := h0) (nK := nK)
  have key := pu_fold (fun n (g : nv_Hp) x => pm_findWays_24 (nI b) (nI w) rec n x g) (wm h0 nK) (fun i g => (∀ k, k ≠ 93 → g k = h k) ∧ (∀ j, j < i → g 93 (wj h0 nK j) = sH h0 (nI (wW h0 nK w)) (wj h0 nK j)) ∧ ∀ k, k < nK → (∀ j, j < wm h0 nK → wj h0 nK j ≠ k) → g 93 k = sH h0 0 k) (fun i g => nv_up g 93 (wj h0 nK i) (sH h0 (nI (wW h0 nK w)) (wj h0 nK i))) (fun g => Option.bind (pm_boundNow g (nI b)) fun q2 => (if nv_inb (nI w) 64 = true then (nv_lt (nv_up q2.2 112 (nI w).toNatClampNeg q2.1) fun h4 => (rec (nI w + 1) h4)) else none)) (fun n i g hi hI => by
    obtain ⟨i1, i2, i3⟩ := hI
    have o12 := wj_lt hi
    refine ⟨?_, fun k hk => (pu_up_c hk).trans (i1 k hk), fun j hj => ?_, fun k hk ho => ?_⟩
    · have e90 : g 90 (wj h0 nK i) = h0 (25 + wj h0 nK i) 1 := by rw [i1 90 (by decide)]; exact pu_Rk_m (f := 1) R s o12 (by omega)
      rw [pm_findWays_24, i1 73 (by decide), e45, if_neg (nI_ge hi (by omega)), if_pos (pu_inb (by omega) (by omega)), nI_clamp (by omega), i1 111 (by decide), e11 i hi, if_pos (pu_inb (by omega) (by omega)), nI_clamp (by omega), e90, sH_in b3 hi]
      simp only [bt_low1 (show w < 2 ^ 31 by omega) (show i < 32 by omega)]
      unfold pm_findWays_71
      cases w.testBit i
      · simp only [Bool.false_eq_true, if_false, Option.bind_some]
        rw [if_pos (pu_inb (by omega) (by omega)), pu_ltE, nI_clamp (by omega), nI_1]
      · simp only [if_true, Option.bind_some]
        rw [if_pos (pu_inb (by omega) (by omega)), pu_ltE, nI_clamp (by omega), nI_1]
    · by_cases c : j = i
      · subst c; rw [nv_up_s]
      · rw [nv_up_j _ _ (fun z => c (wj_inj (by omega) hi z))]; exact i2 j (by omega)
    · rw [nv_up_j _ _ (fun z => ho i hi z.symm)]; exact i3 k hk ho) (fun n g hI => by
    rw [pm_findWays_24, hI.1 73 (by decide), e45, if_pos (nI_le (Nat.le_refl _) (by omega))]) (wm h0 nK) 0 nv_fu h (by omega) (show wm h0 nK < 4000 by omega) ⟨fun _ _ => rfl, fun j hj => by omega, e93⟩
  obtain ⟨p1, p2, p3, p4⟩ := key
  generalize List.foldl (fun g i => nv_up g 93 (wj h0 nK i) (sH h0 (nI (wW h0 nK w)) (wj h0 nK i))) h (List.range' 0 (wm h0 nK)) = g at p1 p2 p3 p4
  have sg : pu_sm h0 g := pu_sm_t s fun k j z => by rw [p2 k (fun y => z (by unfold pu_scr; omega))]
  have g93 : ∀ k, k < nK → g 93 k = sH h0 (nI (wW h0 nK w)) k := fun k hk => by
    by_cases c : ∃ j, j < wm h0 nK ∧ wj h0 nK j = k
    · obtain ⟨j, hj, rfl⟩ := c
      exact p3 j hj
    · have c' : ∀ j, j < wm h0 nK → wj h0 nK j ≠ k := fun j hj e => c ⟨j, hj, e⟩
      rw [p4 k hk c', sH_out b3 hk c']
  rw [nI_0, pm_bound_R (w := wd) R sg hb (fun j hj => by rw [p2 108 (by decide)]; exact e8 j hj) g93 hB, Option.bind_some, if_pos (pu_inb (by omega) (by omega)), pu_ltE, nI_clamp (by omega), nI_1] at p1
  refine ⟨nv_up (nv_up g 73 41 (sW h0 nL nK nA wd (sH h0 (nI (wW h0 nK w))) b)) 112 w (sB h0 nL nK nA wd (sH h0 (nI (wW h0 nK w))) b), p1, by rw [nv_up_s]; rfl, fun j hj => ?_, fun k x y z => ?_, fun j hj => ?_, fun k hk ho => ?_⟩
  · rw [nv_up_j _ _ hj, nv_up_k _ _ (by decide), p2 112 (by decide)]
  · rw [pu_up_c y, pu_up_c z, p2 k x]
  · rw [nv_up_k _ _ (by decide), nv_up_j _ _ hj, p2 73 (by decide)]
  · rw [nv_up_k _ _ (by decide), nv_up_k _ _ (by decide)]; exact p4 k hk ho
theorem pm_ways_sp {h0 h : nv_Hp} {nL nK nB nA l b : Nat} {Q : nv_Hp → Prop} (R : pu_Rm Q h0 nL nK nB nA) (s : pu_sm h0 h) (hl : l < 2) (hb : b < nB) : ∃ h', pm_findWays h (nI l) (nI b) = some h' ∧ (∀ i, i < 2 ^ wm h0 nK → h' 112 i = wV h0 nL nK nA (h0 (61 + 3 * l)) b i) ∧ h' 73 45 = nI (wm h0 nK) ∧ (∀ j, j < wm h0 nK → h' 111 j = nI (wj h0 nK j)) ∧ pu_sm h0 h' := by
  have b3 := R.2.1.2.1.2.2
  have m6 := wm_le h0 nK
  have le := w64 (g := h0) (nK := nK)
  obtain ⟨h1, g1, g2, g3, g4, _⟩ := pm_goes_R R s hl
  have hB := pu_Rn_B R hl
  have s1 : pu_sm h0 h1 := pu_sm_t s g2
  obtain ⟨q, o1, o2, o3, o4⟩ := pm_opn_sp R s1
  have e3 : q 73 45 = nI (wm h0 nK) := o3
  have e4 : ∀ j, j < wm h0 nK → q 111 j = nI (wj h0 nK j) := o4
  have sq : pu_sm h0 q := pu_sm_t s1 fun k j z => o2 k j (fun y => z (by unfold pu_scr; omega)) (fun y => z (by unfold pu_scr; omega))
  have run : ∀ (k w n : Nat) (u : nv_Hp), w + k = 2 ^ wm h0 nK → k < n → (∀ i, i < w → u 112 i = wV h0 nL nK nA (h0 (61 + 3 * l)) b i) → (∀ k, k ≠ 93 → k ≠ 112 → k ≠ 73 → u k = q k) → (∀ j, j ≠ 41 → u 73 j = q 73 j) → (∀ k, k < nK → (∀ j, j < wm h0 nK → wj h0 nK j ≠ k) → u 93 k = sH h0 0 k) → ∃ h', pm_findWays_11 (nI b) n (nI w) u = some h' ∧ (∀ i, i < 2 ^ wm h0 nK → h' 112 i = wV h0 nL nK nA (h0 (61 + 3 * l)) b i) ∧ (∀ k, k ≠ 93 → k ≠ 112 → k ≠ 73 → h' k = q k) ∧ (∀ j, j ≠ 41 → h' 73 j = q 73 j) := by
    intro k
    induction k with
    | zero =>
      intro w n u hw hn u1 u2 u3 u4
      obtain ⟨n, rfl⟩ : ∃ m, n = m + 1 := ⟨n - 1, by omega⟩
      have : w = 2 ^ wm h0 nK := by omega
      refine ⟨u, ?_, by rw [← this]; exact u1, u2, u3⟩
      rw [pm_findWays_11, u3 45 (by decide), e3, bt_one (by omega), if_pos (nI_le (by omega) (by omega))]
    | succ k ih =>
      intro w n u hw hn u1 u2 u3 u4
      obtain ⟨n, rfl⟩ : ∃ m, n = m + 1 := ⟨n - 1, by omega⟩
      have su : pu_sm h0 u := pu_sm_t sq fun k j z => by
        by_cases c : k = 73
        · subst c; exact u3 j (fun y => z (by unfold pu_scr; omega))
        · rw [u2 k (fun y => z (by unfold pu_scr; omega)) (fun y => z (by unfold pu_scr; omega)) c]
      obtain ⟨h', r1, r2, r3, r4, r5, r6⟩ := pm_ways_in (rec := pm_findWays_11 (nI b) n) (wd := h0 (61 + 3 * l)) (w := w) R hb hB (by omega) u su (fun j hj => by rw [u2 108 (by decide) (by decide) (by decide), o2 108 j (by decide) (by omega)]; exact g3 j hj) (by rw [u3 45 (by decide)]; exact e3) (fun j hj => by rw [u2 111 (by decide) (by decide) (by decide)]; exact e4 j hj) u4
      rw [pm_findWays_11, u3 45 (by decide), e3, bt_one (by omega), if_neg (nI_ge (by omega) (by omega)), r1]
      exact ih (w + 1) n h' (by omega) (by omega) (fun i hi => by
        by_cases c : i = w
        · subst c; exact r2
        · rw [r3 i c]; exact u1 i (by omega)) (fun k x y z => (r4 k x y z).trans (u2 k x y z)) (fun j hj => (r5 j hj).trans (u3 j hj)) r6
  obtain ⟨h', r1, r2, r3, r4⟩ := run (2 ^ wm h0 nK) 0 nv_fu q (by omega) (show 2 ^ wm h0 nK < 4000 by omega) (fun i hi => by omega) (fun _ _ _ _ => rfl) (fun _ _ => rfl) (fun k hk _ => by rw [o2 93 k (by decide) (by omega)]; exact g4 k hk)
  refine ⟨h', ?_, r2, by rw [r4 45 (by decide)]; exact e3, fun j hj => by rw [r3 111 (by decide) (by decide) (by decide)]; exact e4 j hj, pu_sm_t sq fun k j z => ?_⟩
  · unfold pm_findWays
    rw [g1, Option.bind_some, o1, Option.bind_some, ← nI_0]
    exact r1
  · by_cases c : k = 73
    · subst c; exact r4 j (fun y => z (by unfold pu_scr; omega))
    · rw [r3 k (fun y => z (by unfold pu_scr; omega)) (fun y => z (by unfold pu_scr; omega)) c]
