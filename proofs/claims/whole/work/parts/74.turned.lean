/-! ===== turned ===== -/
def tE (g : nv_Hp) (nL nK nA b t : Nat) : Bool := decide (t &&& tU g = t) && tG g nL nK nA b t
theorem fc_few_in {h0 h : nv_Hp} {nL nK nB nA b many : Nat} {Q : nv_Hp → Prop} {rec : Int32 → nv_Hp → Option (Int32 × nv_Hp)} (R : pu_Rm Q h0 nL nK nB nA) (s : pu_sm h0 h) (hb : b < nB) (hm : many ≤ 9) : ∀ k i n g, i + k = 512 → k < n → (∀ c, c ≠ 10 → g c = h c) →
    (∃ t g', i ≤ t ∧ t < 512 ∧ tE h0 nL nK nA b t = true ∧ bt_pc 9 t = many ∧ (∀ u, i ≤ u → u < t → ¬ (tE h0 nL nK nA b u = true ∧ bt_pc 9 u = many)) ∧ fc_fewestLetters_34 (37 + b) (sB h0 nL nK nA (h0 64) (sH h0 0) b) (nI (tU h0)) (nI many) rec n (nI i) g = some (nI t, g') ∧ ∀ c, c ≠ 10 → g' c = h c) ∨
    (∃ g', (∀ u, i ≤ u → u < 512 → ¬ (tE h0 nL nK nA b u = true ∧ bt_pc 9 u = many)) ∧ fc_fewestLetters_34 (37 + b) (sB h0 nL nK nA (h0 64) (sH h0 0) b) (nI (tU h0)) (nI many) rec n (nI i) g = rec (nI (many + 1)) g' ∧ ∀ c, c ≠ 10 → g' c = h c) := by
  have a3 := R.2.1.1.2.2
  intro k
  induction k with
  | zero =>
    intro i n g hi hn hg
    obtain ⟨n, rfl⟩ : ∃ m, n = m + 1 := ⟨n - 1, by omega⟩
    refine Or.inr ⟨g, fun u h1 h2 => by omega, ?_, hg⟩
    rw [fc_fewestLetters_34, if_pos (show (512 : Int32) ≤ nI i from nI_le (a := 512) (by omega) (by omega)), nI_1]
  | succ k ih =>
    intro i n g hi hn hg
    obtain ⟨n, rfl⟩ : ∃ m, n = m + 1 := ⟨n - 1, by omega⟩
    have pl := bt_pc_le 9 i
    rw [fc_fewestLetters_34, if_neg (show ¬ (512 : Int32) ≤ nI i from nI_ge (b := 512) (by omega) (by omega)), bc_sp (by omega), nI_1]
    have cont : ∀ g1, (∀ c, c ≠ 10 → g1 c = h c) → ¬ (tE h0 nL nK nA b i = true ∧ bt_pc 9 i = many) → (∃ t g', i ≤ t ∧ t < 512 ∧ tE h0 nL nK nA b t = true ∧ bt_pc 9 t = many ∧ (∀ u, i ≤ u → u < t → ¬ (tE h0 nL nK nA b u = true ∧ bt_pc 9 u = many)) ∧ fc_fewestLetters_34 (37 + b) (sB h0 nL nK nA (h0 64) (sH h0 0) b) (nI (tU h0)) (nI many) rec n (nI (i + 1)) g1 = some (nI t, g') ∧ ∀ c, c ≠ 10 → g' c = h c) ∨ (∃ g', (∀ u, i ≤ u → u < 512 → ¬ (tE h0 nL nK nA b u = true ∧ bt_pc 9 u = many)) ∧ fc_fewestLetters_34 (37 + b) (sB h0 nL nK nA (h0 64) (sH h0 0) b) (nI (tU h0)) (nI many) rec n (nI (i + 1)) g1 = rec (nI (many + 1)) g' ∧ ∀ c, c ≠ 10 → g' c = h c) := by
      intro g1 hg1 ni
      rcases ih (i + 1) n g1 (by omega) (by omega) hg1 with ⟨t, g', x1, x2, x3, x4, x5, x6, x7⟩ | ⟨g', x1, x2, x3⟩
      · refine Or.inl ⟨t, g', by omega, x2, x3, x4, fun u h1 h2 => ?_, x6, x7⟩
        by_cases c : u = i
        · rw [c]; exact ni
        · exact x5 u (by omega) h2
      · refine Or.inr ⟨g', fun u h1 h2 => ?_, x2, x3⟩
        by_cases c : u = i
        · rw [c]; exact ni
        · exact x1 u (by omega) h2
    by_cases c1 : nI i &&& (nI (tU h0) ^^^ (-1)) = 0
    · rw [if_pos c1]
      have sb : i &&& tU h0 = i := and_sub.mpr ((bt_sub (by omega)).mp c1)
      by_cases c2 : bt_pc 9 i = many
      · rw [if_pos (by rw [c2])]
        have sg : pu_sm h0 g := pu_sm_t s fun c j z => by rw [hg c (fun y => z (by unfold pu_scr; omega))]
        obtain ⟨q, m1, m2, m3⟩ := fc_mix_sp (h0 := h0) (h := g) (s := i) (by omega) (pu_sm_c sg (by decide)) (pu_sm_c sg (by decide))
        have qk : ∀ c, c ≠ 10 → q c = h c := fun c hc => (m3 c hc).trans (hg c hc)
        have sq : pu_sm h0 q := pu_sm_t s fun c j z => by rw [qk c (fun y => z (by unfold pu_scr; omega))]
        rw [m1, Option.bind_some, fc_bound_R R sq hb, Option.bind_some, sB_w (w := q 10) (w' := tw h0 i) (by omega) (pu_Rn_roots R) m2 (fun _ _ => rfl)]
        by_cases c3 : sB h0 nL nK nA (tw h0 i) (sH h0 0) b = sB h0 nL nK nA (h0 64) (sH h0 0) b
        · rw [if_pos c3]
          refine Or.inl ⟨i, q, Nat.le_refl _, by omega, ?_, c2, fun u h1 h2 => by omega, rfl, qk⟩
          unfold tE tG
          simp [sb, c3]
        · rw [if_neg c3]
          refine cont q qk (fun z => ?_)
          unfold tE tG at z
          simp [sb, c3] at z
      · rw [if_neg (fun z => c2 ((nI_eq (by omega) (by omega)).mp z))]
        exact cont g hg (fun z => c2 z.2)
    · rw [if_neg c1]
      refine cont g hg (fun z => ?_)
      unfold tE at z
      simp only [Bool.and_eq_true, decide_eq_true_eq] at z
      exact c1 ((bt_sub (by omega)).mpr (and_sub.mp z.1.1))
theorem fc_few_out {h0 h : nv_Hp} {nL nK nB nA b : Nat} {Q : nv_Hp → Prop} (R : pu_Rm Q h0 nL nK nB nA) (s : pu_sm h0 h) (hb : b < nB) : ∀ k many n g, many + k = 10 → k < n → (∀ c, c ≠ 10 → g c = h c) → (∀ u, u < 512 → tE h0 nL nK nA b u = true → many ≤ bt_pc 9 u) →
    ∃ t g', lm (tE h0 nL nK nA b) 512 t ∧ fc_fewestLetters_24 (37 + b) (sB h0 nL nK nA (h0 64) (sH h0 0) b) (nI (tU h0)) n (nI many) g = some (nI t, g') ∧ ∀ c, c ≠ 10 → g' c = h c := by
  intro k
  induction k with
  | zero =>
    intro many n g hi hn hg hu
    exfalso
    have := hu (tU h0) (tU_lt h0) (by unfold tE; rw [tG_U R, Nat.and_self]; simp)
    have := bt_pc_le 9 (tU h0)
    omega
  | succ k ih =>
    intro many n g hi hn hg hu
    obtain ⟨n, rfl⟩ : ∃ m, n = m + 1 := ⟨n - 1, by omega⟩
    rw [fc_fewestLetters_24, if_neg (show ¬ (9 : Int32) < nI many from nI_nlt (a := 9) (by omega) (by omega))]
    rcases fc_few_in (rec := fc_fewestLetters_24 (37 + b) (sB h0 nL nK nA (h0 64) (sH h0 0) b) (nI (tU h0)) n) R s hb (show many ≤ 9 by omega) 512 0 nv_fu g (by omega) (show 512 < 4000 by omega) hg with ⟨t, g', x1, x2, x3, x4, x5, x6, x7⟩ | ⟨g', x1, x2, x3⟩
    · rw [nI_0] at x6
      refine ⟨t, g', ⟨x2, x3, fun u hu1 hu2 => ?_⟩, x6, x7⟩
      have le := hu u hu1 hu2
      by_cases c : bt_pc 9 u = many
      · refine Or.inr ⟨by omega, ?_⟩
        apply Classical.byContradiction
        intro z
        exact x5 u (by omega) (by omega) ⟨hu2, c⟩
      · exact Or.inl (by omega)
    · rw [nI_0] at x2
      rw [x2]
      refine ih (many + 1) n g' (by omega) (by omega) x3 (fun u hu1 hu2 => ?_)
      have le := hu u hu1 hu2
      have : bt_pc 9 u ≠ many := fun z => x1 u (by omega) hu1 ⟨hu2, z⟩
      omega
theorem fc_few_sp {h0 h : nv_Hp} {nL nK nB nA b : Nat} {Q : nv_Hp → Prop} (R : pu_Rm Q h0 nL nK nB nA) (s : pu_sm h0 h) (hb : b < nB) : ∃ t h', t < 512 ∧ bst (tG h0 nL nK nA b) 512 = some t ∧ fc_fewestLetters h (37 + b) = some (nI t, h') ∧ ∀ c, c ≠ 10 → h' c = h c := by
  obtain ⟨t, g', x1, x2, x3⟩ := fc_few_out R s hb 10 0 nv_fu h (by omega) (show 10 < 4000 by omega) (fun _ _ => rfl) (fun _ _ _ => by omega)
  refine ⟨t, g', x1.1, lm_bst (tG_lm R x1), ?_, x3⟩
  have e1 : h 61 = h0 61 := pu_sm_c s (by decide)
  have e4 : h 64 = h0 64 := pu_sm_c s (by decide)
  have eU : tU h = tU h0 := by unfold tU; rw [e1, e4]
  unfold fc_fewestLetters
  rw [fc_bound_R R s hb, Option.bind_some, fc_unlike_sp, Option.bind_some, e4, eU, ← nI_0]
  exact x2
def tfr (h g : nv_Hp) : Prop := (∀ k, k ≠ 108 → k ≠ 73 → g k = h k) ∧ ∀ j, j ≠ 41 → g 73 j = h 73 j
theorem tfr_sm {h g : nv_Hp} (f : tfr h g) : pu_sm h g := fun k j z => by
  by_cases c : k = 73
  · subst c; exact f.2 j (fun y => z (by unfold pu_scr; omega))
  · rw [f.1 k (fun y => z (by unfold pu_scr; omega)) c]
theorem tw_B {h0 : nv_Hp} {nL nK nB nA s : Nat} {Q : nv_Hp → Prop} (R : pu_Rm Q h0 nL nK nB nA) : pu_B3 (tw h0 s 0) := by
  unfold tw
  split
  · exact pu_Rn_B (l := 1) R (by omega)
  · exact pu_Rn_B (l := 0) R (by omega)
theorem pm_trn_in {h0 h : nv_Hp} {nL nK nB nA b i : Nat} {Q : nv_Hp → Prop} {x2 x3 : Int32} {rec : Int32 → Int32 → nv_Hp → Option (Int32 × nv_Hp)} (R : pu_Rm Q h0 nL nK nB nA) (s : pu_sm h0 h) (hb : b < nB) (hi : i < 512) (e93 : ∀ k, k < nK → h 93 k = sH h0 0 k) (e7 : ∀ l, l < 2 → ∀ j, j < 9 → h 107 (9 * l + j) = h0 (61 + 3 * l) j) : ∃ g, pm_turnedOf_50 (nI b) x2 x3 (nI i) rec nv_fu 0 h = (if sB h0 nL nK nA (tw h0 i) (sH h0 0) b = x2 then rec (nI i) (nI (i + 1)) g else rec x3 (nI (i + 1)) g) ∧ tfr h g := by
  have key := pu_fold (fun n (g : nv_Hp) x => pm_turnedOf_50 (nI b) x2 x3 (nI i) rec n x g) 9 (fun j g => (∀ t, t < j → g 108 t = tw h0 i t) ∧ ∀ k, k ≠ 108 → g k = h k) (fun j g => nv_up g 108 j (tw h0 i j)) (fun g => Option.bind (pm_boundNow g (nI b)) fun q2 => (if q2.1 = x2 then (rec (nI i) (nI i + 1) q2.2) else (rec x3 (nI i + 1) q2.2))) (fun n j g hj hI => by
    obtain ⟨i1, i2⟩ := hI
    refine ⟨?_, fun t ht => ?_, fun k hk => (pu_up_c hk).trans (i2 k hk)⟩
    · have bl : (i.testBit j).toNat < 2 := by cases i.testBit j <;> decide
      have ev : g 107 (9 * (i.testBit j).toNat + j) = tw h0 i j := by
        rw [i2 107 (by decide), e7 _ bl j hj]
        unfold tw
        cases i.testBit j <;> rfl
      rw [pm_turnedOf_50, if_neg (show ¬ (9 : Int32) ≤ nI j from nI_ge (b := 9) hj (by omega)), bt_low (by omega) (by omega), show (9 : Int32) * nI (i.testBit j).toNat = nI (9 * (i.testBit j).toNat) from pk_mul 9 _, nI_add, if_pos (pu_inb (by omega) (by omega)), if_pos (pu_inb (by omega) (by omega)), pu_ltE, nI_clamp (by omega), nI_clamp (by omega), ev, nI_1]
    · by_cases c : t = j
      · subst c; rw [nv_up_s]
      · rw [nv_up_j _ _ c]; exact i1 t (by omega)) (fun n g _ => by
    rw [pm_turnedOf_50, if_pos (show (9 : Int32) ≤ nI 9 by decide)]) 9 0 nv_fu h (by omega) (show 9 < 4000 by omega) ⟨fun j hj => by omega, fun _ _ => rfl⟩
  obtain ⟨k1, k2, k3⟩ := key
  generalize List.foldl (fun g j => nv_up g 108 j (tw h0 i j)) h (List.range' 0 9) = g at k1 k2 k3
  have sg : pu_sm h0 g := pu_sm_t s fun c j z => by rw [k3 c (fun y => z (by unfold pu_scr; omega))]
  rw [nI_0, pm_bound_R (w := tw h0 i) (hd := sH h0 0) R sg hb k2 (fun k hk => by rw [k3 93 (by decide)]; exact e93 k hk) (tw_B R), Option.bind_some, nI_1] at k1
  exact ⟨nv_up g 73 41 (sW h0 nL nK nA (tw h0 i) (sH h0 0) b), k1, fun k x y => (pu_up_c y).trans (k3 k x), fun j hj => (nv_up_j _ _ hj).trans (by rw [k3 73 (by decide)])⟩
theorem pm_trn_out {h0 h : nv_Hp} {nL nK nB nA b : Nat} {Q : nv_Hp → Prop} (R : pu_Rm Q h0 nL nK nB nA) (s : pu_sm h0 h) (hb : b < nB) (e93 : ∀ k, k < nK → h 93 k = sH h0 0 k) (e7 : ∀ l, l < 2 → ∀ j, j < 9 → h 107 (9 * l + j) = h0 (61 + 3 * l) j) : ∀ k i n g, i + k = 512 → k < n → tfr h g → ∃ g', pm_turnedOf_22 (nI b) (sB h0 nL nK nA (h0 64) (sH h0 0) b) n (st_li (bst (tG h0 nL nK nA b) i)) (nI i) g = some (st_li (bst (tG h0 nL nK nA b) 512), g') ∧ tfr h g' := by
  intro k
  induction k with
  | zero =>
    intro i n g hi hn hg
    obtain ⟨n, rfl⟩ : ∃ m, n = m + 1 := ⟨n - 1, by omega⟩
    have : i = 512 := by omega
    subst this
    exact ⟨g, by rw [pm_turnedOf_22, if_pos (show (512 : Int32) ≤ nI 512 from nI_le (a := 512) (by omega) (by omega))], hg⟩
  | succ k ih =>
    intro i n g hi hn hg
    obtain ⟨n, rfl⟩ : ∃ m, n = m + 1 := ⟨n - 1, by omega⟩
    have sg : pu_sm h0 g := pu_sm_t s (tfr_sm hg)
    have inn := fun x3 => pm_trn_in (x2 := sB h0 nL nK nA (h0 64) (sH h0 0) b) (x3 := x3) (rec := pm_turnedOf_22 (nI b) (sB h0 nL nK nA (h0 64) (sH h0 0) b) n) (i := i) R sg hb (by omega) (fun k hk => by rw [hg.1 93 (by decide) (by decide)]; exact e93 k hk) (fun l hl j hj => by rw [hg.1 107 (by decide) (by decide)]; exact e7 l hl j hj)
    have ft : ∀ {u}, tfr g u → tfr h u := fun f => ⟨fun k x y => (f.1 k x y).trans (hg.1 k x y), fun j hj => (f.2 j hj).trans (hg.2 j hj)⟩
    rw [pm_turnedOf_22, if_neg (show ¬ (512 : Int32) ≤ nI i from nI_ge (b := 512) (by omega) (by omega))]
    have nx := ih (i + 1) n
    rw [bst] at nx
    cases e : bst (tG h0 nL nK nA b) i with
    | none =>
      rw [e] at nx
      simp only [] at nx
      obtain ⟨u, u1, u2⟩ := inn (st_li none)
      rw [show st_li none = -1 from rfl] at u1 ⊢
      rw [if_pos rfl, u1]
      unfold tG at nx ⊢
      by_cases c : sB h0 nL nK nA (tw h0 i) (sH h0 0) b = sB h0 nL nK nA (h0 64) (sH h0 0) b
      · rw [if_pos c]
        simp only [c, decide_true, if_true] at nx
        exact nx u (by omega) (by omega) (ft u2)
      · rw [if_neg c]
        simp only [c, decide_false, Bool.false_eq_true, if_false] at nx
        exact nx u (by omega) (by omega) (ft u2)
    | some t =>
      have ht := ((bst_sp (tG h0 nL nK nA b) i).2 t e).1
      have l1 := bt_pc_le 9 i
      have l2 := bt_pc_le 9 t
      rw [e] at nx
      simp only [] at nx
      rw [show st_li (some t) = nI t from rfl, if_neg (pu_m1 (by omega)), pm_ones_sp g (show i < 512 by omega), Option.bind_some, pm_ones_sp g (show t < 512 by omega), Option.bind_some]
      by_cases c : bt_pc 9 i < bt_pc 9 t
      · rw [if_neg (nI_ge c (by omega))]
        obtain ⟨u, u1, u2⟩ := inn (nI t)
        rw [u1]
        unfold tG at nx ⊢
        by_cases d : sB h0 nL nK nA (tw h0 i) (sH h0 0) b = sB h0 nL nK nA (h0 64) (sH h0 0) b
        · rw [if_pos d]
          simp only [c, d, decide_true, and_self, if_true] at nx
          exact nx u (by omega) (by omega) (ft u2)
        · rw [if_neg d]
          simp only [d, decide_false, Bool.false_eq_true, and_false, if_false] at nx
          exact nx u (by omega) (by omega) (ft u2)
      · rw [if_pos (nI_le (by omega) (by omega)), nI_1]
        simp only [c, false_and, if_false] at nx
        exact nx g (by omega) (by omega) hg
theorem pm_trn_sp {h0 h : nv_Hp} {nL nK nB nA b t : Nat} {Q : nv_Hp → Prop} (R : pu_Rm Q h0 nL nK nB nA) (s : pu_sm h0 h) (hb : b < nB) (ht : bst (tG h0 nL nK nA b) 512 = some t) : ∃ h', pm_turnedOf h (nI b) = some (nI t, h') ∧ pu_sm h0 h' ∧ ∀ k, 109 ≤ k → h' k = h k := by
  obtain ⟨h1, r1, r2, r3⟩ := pm_reads_R (l := 0) R s (by omega)
  have s1 : pu_sm h0 h1 := pu_sm_t s (pu_sm_fm r2)
  obtain ⟨h2, g1, g2, g3, g4, g5, g6, g7⟩ := pm_goes_R (l := 1) R s1 (by omega)
  have s2 : pu_sm h0 h2 := pu_sm_t s1 g2
  have hB := pu_Rn_B (l := 1) R (by omega)
  have bd := pm_bound_R (w := h0 64) (hd := sH h0 0) R s2 hb g3 g4 hB
  have f3 : tfr h2 (nv_up h2 73 41 (sW h0 nL nK nA (h0 64) (sH h0 0) b)) := ⟨fun k _ y => pu_up_c y, fun j hj => nv_up_j _ _ hj⟩
  obtain ⟨g', x1, x2⟩ := pm_trn_out (h := h2) R s2 hb g4 (fun l hl j hj => by
    have : l = 0 ∨ l = 1 := by omega
    rcases this with rfl | rfl
    · rw [g6 _ (by omega)]; exact r3 j hj
    · exact g5 j hj) 512 0 nv_fu _ (by omega) (show 512 < 4000 by omega) f3
  rw [ht] at x1
  refine ⟨g', ?_, pu_sm_t s2 (tfr_sm x2), fun k hk => ?_⟩
  · unfold pm_turnedOf
    rw [show (0 : Int32) = nI 0 from rfl, r1, Option.bind_some, show (1 : Int32) = nI 1 from rfl, g1, Option.bind_some, bd, Option.bind_some]
    exact x1
  · rw [x2.1 k (by omega) (by omega), g7 k hk]
    funext j
    exact r2 k j (by omega) (by omega)
theorem op_turned {h : nv_Hp} (R : pu_R h) (x1 : Int32) : pu_o2 (fc_turned h x1) (fun h1 => pm_turned h1 x1) := by
  have R' := R
  obtain ⟨nL, nK, nB, nA, r⟩ := R
  have c3 := r.2.1.2.2.1.2.2
  unfold fc_turned pm_turned
  by_cases q2 : fc_isBargain h x1 = true
  · rw [if_pos q2]
    have q2' := q2
    obtain ⟨b, hb, rfl⟩ := pu_xBargain r q2
    obtain ⟨t, h1, t1, t2, t3, t4⟩ := fc_few_sp r (pu_sm_r h) hb
    have t5 : pu_sm h h1 := fun c j z => by rw [t4 c (fun y => z (by unfold pu_scr; omega))]
    obtain ⟨h2, u1, u2, _⟩ := pm_trn_sp r t5 hb t2
    have q4 : pm_isBargain h1 (nI b) = true := by
      rw [pu_isBargain (pu_Rn_sm r t5)]
      unfold fc_isBargain at q2' ⊢
      rw [pu_sm_0 t5 (by decide)]; exact q2'
    rw [if_pos (pu_inb (by omega) (by omega)), nI_clamp (by omega), t3]
    refine ⟨nI t, h1, h2, rfl, ?_, pu_R_sm R' u2⟩
    show (if pm_isBargain h1 (nI b) = true then _ else _) = _
    rw [if_pos q4, if_pos (pu_inb (by omega) (by omega)), u1]
    rfl
  · rw [if_neg q2]
    refine ⟨_, h, h, rfl, ?_, R'⟩
    show (if pm_isBargain h x1 = true then _ else _) = _
    rw [pu_isBargain r, if_neg q2]
