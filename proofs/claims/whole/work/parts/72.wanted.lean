/-! ===== wanted ===== -/
theorem pu_allK {α : Type} {F : Nat → Bool → Int32 → Option α} {N : Nat} {p : Nat → Bool} {K : Bool → Option α} (hs : ∀ n b i, i < N → F (n + 1) b (nI i) = F n (b && !p i) (nI (i + 1))) (hx : ∀ n b, F (n + 1) b (nI N) = K b) (hN : N < 4000) : F nv_fu true 0 = K (!(List.range N).any p) := by
  have key : ∀ (k i n : Nat) (b : Bool), i + k = N → k < n → F n b (nI i) = K (b && !(List.range' i k).any p) := by
    intro k
    induction k with
    | zero =>
      intro i n b hi hn
      obtain ⟨n, rfl⟩ : ∃ m, n = m + 1 := ⟨n - 1, by omega⟩
      have : i = N := by omega
      subst this
      rw [hx]; simp
    | succ k ih =>
      intro i n b hi hn
      obtain ⟨n, rfl⟩ : ∃ m, n = m + 1 := ⟨n - 1, by omega⟩
      rw [hs n b i (by omega), ih (i + 1) n _ (by omega) (by omega), List.range'_succ, List.any_cons, Bool.not_or, Bool.and_assoc]
  rw [← nI_0, key N 0 nv_fu true (by omega) hN, Bool.true_and, ← List.range_eq_range']
theorem pm_enough_sp {h : nv_Hp} {V : Nat → Int32} {m S : Nat} (hm : m ≤ 6) (h45 : h 73 45 = nI m) (hV : ∀ i, i < 2 ^ m → h 112 i = V i) : pm_isEnough h (nI S) = some (wE V m S) := by
  have hN : 2 ^ m ≤ 64 := Nat.pow_le_pow_right (n := 2) (by omega) hm
  have e1 : (1 : Int32) <<< (h 73 45 &&& 31) = nI (2 ^ m) := by rw [h45, bt_one (by omega)]
  unfold pm_isEnough wE
  apply pu_allK (N := 2 ^ m) (F := pm_isEnough_4 h (nI S)) (K := fun b => some b)
  · intro n b i hi
    have hx : i &&& S < 2 ^ m := Nat.lt_of_le_of_lt Nat.and_le_left hi
    rw [pm_isEnough_4, e1, if_neg (nI_ge hi (by omega)), bt_and, if_pos (pu_inb (by omega) (by omega)), if_pos (pu_inb (by omega) (by omega)), nI_clamp (by omega), nI_clamp (by omega), hV i hi, hV _ hx, nI_1]
    cases b
    · simp
    · by_cases c : V i = V (i &&& S)
      · simp [c]
      · simp [c]
  · intro n b
    rw [pm_isEnough_4, e1, if_pos (nI_le (Nat.le_refl _) (by omega))]
  · omega
theorem fc_wnt_sp {h : nv_Hp} {V : Nat → Int32} {o : Nat → Nat} {m : Nat} (hm : m ≤ 6) (ho : ∀ j, j < m → o j < 12) (h17 : h 0 17 = nI m) (h11 : ∀ j, j < m → h 11 j = nI (o j)) (hV : ∀ i, i < 2 ^ m → h 12 i = V i) : fc_wanted_44 h (nI (2 ^ m)) nv_fu 0 0 = some (nI (bt_set (wt V m) o m), h) := by
  have key := pu_fold (fun n (u : Int32) x => fc_wanted_44 h (nI (2 ^ m)) n u x) m (fun i u => u = nI (bt_set (wt V m) o i)) (fun i u => if wt V m i = true then u ||| nI (2 ^ o i) else u) (fun u => some (u, h)) (fun n i u hi hI => by
    have o12 := ho i hi
    constructor
    · rw [fc_wanted_44, h17, if_neg (nI_ge hi (by omega)), fc_turn_sp hm hi hV, Option.bind_some, if_pos (pu_inb (by omega) (by omega)), nI_clamp (by omega), h11 i hi, bt_one (by omega), nI_1]
      cases wt V m i <;> rfl
    · rw [bt_set, hI]
      cases wt V m i
      · rfl
      · rw [if_pos rfl, if_pos rfl, bt_or]) (fun n u _ => by
    rw [fc_wanted_44, h17, if_pos (nI_le (Nat.le_refl _) (by omega))]) m 0 nv_fu 0 (by omega) (show m < 4000 by omega) rfl
  obtain ⟨k1, k2⟩ := key
  rw [nI_0, k2] at k1
  exact k1
theorem pm_wnt_sp {h : nv_Hp} {o : Nat → Nat} {m best : Nat} (hb : best < 2 ^ 31) (hm : m ≤ 6) (ho : ∀ j, j < m → o j < 12) (h45 : h 73 45 = nI m) (h11 : ∀ j, j < m → h 111 j = nI (o j)) : pm_wanted_97 h (nI best) nv_fu 0 0 = some (nI (bt_set (fun j => best.testBit j) o m), h) := by
  have key := pu_fold (fun n (u : Int32) x => pm_wanted_97 h (nI best) n u x) m (fun i u => u = nI (bt_set (fun j => best.testBit j) o i)) (fun i u => if best.testBit i = true then u ||| nI (2 ^ o i) else u ||| 0) (fun u => some (u, h)) (fun n i u hi hI => by
    have o12 := ho i hi
    constructor
    · rw [pm_wanted_97, h45, if_neg (nI_ge hi (by omega)), if_pos (pu_inb (by omega) (by omega)), nI_clamp (by omega), h11 i hi, bt_one (by omega)]
      simp only [bt_low1 hb (show i < 32 by omega)]
      unfold pm_wanted_131
      cases best.testBit i
      · simp only [Bool.false_eq_true, if_false, Option.bind_some]
        rw [pu_ltE, nI_1]
      · simp only [if_true, Option.bind_some]
        rw [pu_ltE, nI_1]
    · rw [bt_set, hI]
      cases best.testBit i
      · rw [if_neg (by decide), if_neg (by decide), Int32.or_zero]
      · rw [if_pos rfl, if_pos rfl, bt_or]) (fun n u _ => by
    rw [pm_wanted_97, h45, if_pos (nI_le (Nat.le_refl _) (by omega))]) m 0 nv_fu 0 (by omega) (show m < 4000 by omega) rfl
  obtain ⟨k1, k2⟩ := key
  rw [nI_0, k2] at k1
  exact k1
theorem pm_best_sp {h : nv_Hp} {V : Nat → Int32} {m : Nat} (hm : m ≤ 6) (h45 : h 73 45 = nI m) (hV : ∀ i, i < 2 ^ m → h 112 i = V i) : pm_wanted_29 h nv_fu (-1) 0 = pm_wanted_97 h (nI (wEs V m)) nv_fu 0 0 := by
  have hN : 2 ^ m ≤ 64 := Nat.pow_le_pow_right (n := 2) (by omega) hm
  have e1 : (1 : Int32) <<< (h 73 45 &&& 31) = nI (2 ^ m) := by rw [h45, bt_one (by omega)]
  have key := pu_fold (fun n (u : Int32) x => pm_wanted_29 h n u x) (2 ^ m) (fun i u => u = st_li (bst (wE V m) i)) (fun i _ => st_li (bst (wE V m) (i + 1))) (fun u => pm_wanted_97 h u nv_fu 0 0) (fun n i u hi hI => by
    refine ⟨?_, rfl⟩
    rw [pm_wanted_29, e1, if_neg (nI_ge hi (by omega)), hI, pm_ones_sp h (show i < 512 by omega), Option.bind_some]
    unfold pm_wanted_62
    rw [pm_enough_sp hm h45 hV, Option.bind_some, nI_1, bst]
    cases e : bst (wE V m) i with
    | none =>
      rw [show st_li none = -1 from rfl, if_pos rfl, Option.bind_some, if_pos rfl]
      simp only []
      cases wE V m i <;> rfl
    | some b =>
      have hb := ((bst_sp (wE V m) i).2 b e).1
      rw [show st_li (some b) = nI b from rfl, if_neg (pu_m1 (by omega)), pm_ones_sp h (show b < 512 by omega), Option.bind_some]
      have l1 := bt_pc_le 9 i
      have l2 := bt_pc_le 9 b
      simp only []
      by_cases c : bt_pc 9 i < bt_pc 9 b
      · rw [if_neg (nI_ge c (by omega)), Option.bind_some, if_pos rfl]
        cases wE V m i
        · rw [if_neg (by decide), if_neg (show ¬ (bt_pc 9 i < bt_pc 9 b ∧ false = true) from fun z => by cases z.2)]; rfl
        · rw [if_pos rfl, if_pos (show bt_pc 9 i < bt_pc 9 b ∧ true = true from ⟨c, rfl⟩)]; rfl
      · rw [if_pos (nI_le (by omega) (by omega)), Option.bind_some, if_neg (by decide), if_neg (fun z => c z.1), Option.bind_some]
        rfl) (fun n u _ => by
    rw [pm_wanted_29, e1, if_pos (nI_le (Nat.le_refl _) (by omega))]) (2 ^ m) 0 nv_fu (-1) (by omega) (show 2 ^ m < 4000 by omega) rfl
  obtain ⟨k1, k2⟩ := key
  rw [nI_0, k2, bst_wE (by omega)] at k1
  exact k1
theorem wn_core {h : nv_Hp} {nL nK nB nA l b : Nat} (r : pu_Rn h nL nK nB nA) (hl : l < 2) (hb : b < nB) : ∃ v h1 h2, (Option.bind (fc_tryWays h (61 + 3 * l) (37 + b)) fun q5 => fc_wanted_44 q5.2 q5.1 nv_fu 0 0) = some (v, h1) ∧ (Option.bind (pm_findWays h1 (nI l) (nI b)) fun q5 => pm_wanted_29 q5 nv_fu (-1) 0) = some (v, h2) ∧ pu_sm h h1 ∧ pu_sm h h2 := by
  have b3 := r.2.1.2.1.2.2
  obtain ⟨h1, t1, t2, t3, t4, t5⟩ := fc_try_sp (k1 := 61 + 3 * l) r (pu_sm_r h) hb (by omega)
  obtain ⟨h2, u1, u2, u3, u4, u5⟩ := pm_ways_sp r t5 hl hb
  have m6 := wm_le h nK
  have le := w64 (g := h) (nK := nK)
  have ho : ∀ j, j < wm h nK → wj h nK j < 12 := fun j hj => by have := wj_lt hj; omega
  have e1 := fc_wnt_sp (V := wV h nL nK nA (h (61 + 3 * l)) b) m6 ho t3 t4 t2
  have l1 := wEs_lt (wV h nL nK nA (h (61 + 3 * l)) b) (wm h nK)
  have e2 := (pm_best_sp (V := wV h nL nK nA (h (61 + 3 * l)) b) m6 u3 u2).trans (pm_wnt_sp (best := wEs (wV h nL nK nA (h (61 + 3 * l)) b) (wm h nK)) (by omega) m6 ho u3 u4)
  rw [bt_set_cg (p := fun j => (wEs (wV h nL nK nA (h (61 + 3 * l)) b) (wm h nK)).testBit j) (p' := wt (wV h nL nK nA (h (61 + 3 * l)) b) (wm h nK)) (wm h nK) (fun i hi => wEs_bit hi) (fun i _ => rfl)] at e2
  refine ⟨nI (bt_set (wt (wV h nL nK nA (h (61 + 3 * l)) b) (wm h nK)) (wj h nK) (wm h nK)), h1, h2, ?_, ?_, t5, u5⟩
  · rw [t1, Option.bind_some]; exact e1
  · rw [u1, Option.bind_some]; exact e2
theorem op_wanted {h : nv_Hp} (R : pu_R h) (x1 x2 : Int32) : pu_o2 (fc_wanted h x1 x2) (fun h1 => pm_wanted h1 x1 x2) := by
  have R' := R
  obtain ⟨nL, nK, nB, nA, r⟩ := R
  have c3 := r.2.1.2.2.1.2.2
  unfold fc_wanted pm_wanted
  rw [pu_two]
  by_cases q1 : fc_isLaw x1 = true
  · rw [if_pos q1]
    by_cases q2 : fc_isBargain h x2 = true
    · rw [if_pos q2]
      have q2' := q2
      obtain ⟨l, hl, rfl⟩ := pu_law q1
      obtain ⟨b, hb, rfl⟩ := pu_xBargain r q2
      obtain ⟨v, h1, h2, e1, e2, t5, u5⟩ := wn_core r hl hb
      have q4 : pm_isBargain h1 (nI b) = true := by
        rw [pu_isBargain (pu_Rn_sm r t5)]
        unfold fc_isBargain at q2' ⊢
        rw [pu_sm_0 t5 (by decide)]; exact q2'
      rw [if_pos (pu_inb hl (by omega)), if_pos (pu_inb (by omega) (by omega)), nI_clamp (by omega), nI_clamp (by omega), pu_lawc hl, e1]
      refine ⟨v, h1, h2, rfl, ?_, pu_R_sm R' u5⟩
      show (if fc_isLaw (nI l) = true then _ else _) = _
      rw [if_pos q1, if_pos q4, if_pos (pu_inb hl (by omega)), if_pos (pu_inb (by omega) (by omega))]
      exact e2
    · rw [if_neg q2]
      refine ⟨_, h, h, rfl, ?_, R'⟩
      show (if fc_isLaw x1 = true then _ else _) = _
      rw [if_pos q1, pu_isBargain r, if_neg q2]
  · rw [if_neg q1]
    refine ⟨_, h, h, rfl, ?_, R'⟩
    show (if fc_isLaw x1 = true then _ else _) = _
    rw [if_neg q1]
