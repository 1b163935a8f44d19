/-! ===== sure, hangs ===== -/
theorem pu_accK {α : Type} {F : Nat → Bool → Int32 → Option α} {N : Nat} {p : Nat → Bool} {K : Bool → Option α} (hs : ∀ n b i, i < N → F (n + 1) b (nI i) = F n (b || p i) (nI (i + 1))) (hx : ∀ n b, F (n + 1) b (nI N) = K b) (hN : N < 4000) : F nv_fu false 0 = K ((List.range N).any p) := by
  have key : ∀ (k i n : Nat) (b : Bool), i + k = N → k < n → F n b (nI i) = K (b || (List.range' i k).any p) := by
    intro k
    induction k with
    | zero =>
      intro i n b hi hn
      obtain ⟨n, rfl⟩ : ∃ m, n = m + 1 := ⟨n - 1, by omega⟩
      have : i = N := by omega
      subst this
      rw [hx]; simp
    | succ k ih =>
      intro i n b hi hn
      obtain ⟨n, rfl⟩ : ∃ m, n = m + 1 := ⟨n - 1, by omega⟩
      rw [hs n b i (by omega), ih (i + 1) n _ (by omega) (by omega), List.range'_succ, List.any_cons, Bool.or_assoc]
  rw [← nI_0, key N 0 nv_fu false (by omega) hN, Bool.false_or, ← List.range_eq_range']
def wc (q : Nat → Bool) : Nat → Nat
  | 0 => 0
  | i + 1 => wc q i + (q i).toNat
theorem wc_le (q : Nat → Bool) : ∀ i, wc q i ≤ i
  | 0 => Nat.le_refl _
  | i + 1 => by
    have := wc_le q i
    rw [wc]
    cases q i <;> simp <;> omega
theorem w_bit (a x : Int32) : (a >>> (x &&& 31)) &&& 1 = nI (fc_hasBit a x).toNat := by
  unfold fc_hasBit
  by_cases c : (a >>> (x &&& 31)) &&& 1 = 0
  · rw [if_pos c, c]; rfl
  · rw [if_neg c, (pu_bit _ _).mpr c]; rfl
theorem fc_cnt {h : nv_Hp} {V : Nat → Int32} {x3 : Int32} {N : Nat} (hN : N ≤ 64) (h0 : 0 < N) (hV : ∀ i, i < N → h 12 i = V i) : fc_sure_52 h x3 (nI N) nv_fu 0 0 = some (if wc (fun i => fc_hasBit (V i) x3) N = 0 then 0 else if wc (fun i => fc_hasBit (V i) x3) N = N then 2 else 1, h) := by
  have key := pu_fold (fun n (u : Int32) x => fc_sure_52 h x3 (nI N) n u x) N (fun i u => u = nI (wc (fun i => fc_hasBit (V i) x3) i)) (fun i u => if fc_hasBit (V i) x3 = true then u + 1 else u) (fun u => if u = 0 then some (0, h) else (if u = nI N then some (2, h) else some (1, h))) (fun n i u hi hI => by
    constructor
    · rw [fc_sure_52, if_neg (nI_ge hi (by omega)), if_pos (pu_inb (by omega) (by omega)), nI_clamp (by omega), hV i hi, nI_1]
    · rw [wc, hI]
      cases fc_hasBit (V i) x3
      · rfl
      · rw [if_pos rfl, nI_1]; rfl) (fun n u _ => by
    rw [fc_sure_52, if_pos (nI_le (Nat.le_refl _) (by omega))]) N 0 nv_fu 0 (by omega) (show N < 4000 by omega) rfl
  obtain ⟨k1, k2⟩ := key
  have le := wc_le (fun i => fc_hasBit (V i) x3) N
  rw [nI_0, k2] at k1
  rw [k1]
  by_cases c : wc (fun i => fc_hasBit (V i) x3) N = 0
  · rw [c, if_pos nI_0, if_pos rfl]
  · rw [if_neg (nI_ne0 (by omega) (by omega)), if_neg c]
    by_cases d : wc (fun i => fc_hasBit (V i) x3) N = N
    · rw [d, if_pos rfl, if_pos rfl]
    · rw [if_neg (fun z => d ((nI_eq (by omega) (by omega)).mp z)), if_neg d]
theorem pm_cnt {h : nv_Hp} {V : Nat → Int32} {x3 : Int32} {m : Nat} (hm : m ≤ 6) (h45 : h 73 45 = nI m) (hV : ∀ i, i < 2 ^ m → h 112 i = V i) : pm_sure_37 h x3 nv_fu 0 0 = some (if wc (fun i => fc_hasBit (V i) x3) (2 ^ m) = 0 then 0 else if wc (fun i => fc_hasBit (V i) x3) (2 ^ m) = 2 ^ m then 2 else 1, h) := by
  have hN : 2 ^ m ≤ 64 := Nat.pow_le_pow_right (n := 2) (by omega) hm
  have h0 : 0 < 2 ^ m := Nat.two_pow_pos m
  generalize eN : 2 ^ m = N at hN h0 hV ⊢
  have e1 : (1 : Int32) <<< (h 73 45 &&& 31) = nI N := by rw [h45, bt_one (by omega), eN]
  have key := pu_fold (fun n (u : Int32) x => pm_sure_37 h x3 n u x) N (fun i u => u = nI (wc (fun i => fc_hasBit (V i) x3) i)) (fun i u => u + nI (fc_hasBit (V i) x3).toNat) (fun u => if u = nI N then some (2, h) else (if u ≤ 0 then some (0, h) else some (1, h))) (fun n i u hi hI => by
    constructor
    · rw [pm_sure_37, e1, if_neg (nI_ge hi (by omega)), if_pos (pu_inb (by omega) (by omega)), nI_clamp (by omega), hV i hi, pu_ltE, w_bit, nI_1]
    · rw [wc, hI, nI_add]) (fun n u _ => by
    rw [pm_sure_37, e1, if_pos (nI_le (Nat.le_refl _) (by omega))]) N 0 nv_fu 0 (by omega) (show N < 4000 by omega) rfl
  obtain ⟨k1, k2⟩ := key
  have le := wc_le (fun i => fc_hasBit (V i) x3) N
  rw [nI_0, k2] at k1
  rw [k1]
  by_cases d : wc (fun i => fc_hasBit (V i) x3) N = N
  · rw [d, if_pos rfl, if_neg (by omega), if_pos rfl]
  · rw [if_neg (fun z => d ((nI_eq (by omega) (by omega)).mp z)), if_neg d]
    by_cases c : wc (fun i => fc_hasBit (V i) x3) N = 0
    · rw [c, if_pos (by decide), if_pos rfl]
    · rw [if_neg (nI_nle (by omega) (by omega)), if_neg c]
theorem su_core {h : nv_Hp} {nL nK nB nA l b : Nat} (r : pu_Rn h nL nK nB nA) (hl : l < 2) (hb : b < nB) (x3 : Int32) : ∃ v h1 h2, (Option.bind (fc_tryWays h (61 + 3 * l) (37 + b)) fun q6 => fc_sure_52 q6.2 x3 q6.1 nv_fu 0 0) = some (v, h1) ∧ (Option.bind (pm_findWays h1 (nI l) (nI b)) fun q6 => pm_sure_37 q6 x3 nv_fu 0 0) = some (v, h2) ∧ pu_sm h h1 ∧ pu_sm h h2 := by
  obtain ⟨h1, t1, t2, t3, t4, t5⟩ := fc_try_sp (k1 := 61 + 3 * l) r (pu_sm_r h) hb (by omega)
  obtain ⟨h2, u1, u2, u3, u4, u5⟩ := pm_ways_sp r t5 hl hb
  have e1 := fc_cnt (x3 := x3) (V := wV h nL nK nA (h (61 + 3 * l)) b) w64 (Nat.two_pow_pos _) t2
  have e2 := pm_cnt (x3 := x3) (V := wV h nL nK nA (h (61 + 3 * l)) b) (wm_le h nK) u3 u2
  generalize (if wc (fun i => fc_hasBit (wV h nL nK nA (h (61 + 3 * l)) b i) x3) (2 ^ wm h nK) = 0 then (0 : Int32) else if wc (fun i => fc_hasBit (wV h nL nK nA (h (61 + 3 * l)) b i) x3) (2 ^ wm h nK) = 2 ^ wm h nK then 2 else 1) = v at e1 e2
  refine ⟨v, h1, h2, ?_, ?_, t5, u5⟩
  · rw [t1, Option.bind_some]; exact e1
  · rw [u1, Option.bind_some]; exact e2
theorem op_sure {h : nv_Hp} (R : pu_R h) (x1 x2 x3 : Int32) : pu_o2 (fc_sure h x1 x2 x3) (fun h1 => pm_sure h1 x1 x2 x3) := by
  have R' := R
  obtain ⟨nL, nK, nB, nA, r⟩ := R
  have c3 := r.2.1.2.2.1.2.2
  unfold fc_sure pm_sure
  rw [pu_two, pu_pers]
  by_cases q1 : fc_isLaw x1 = true
  · rw [if_pos q1]
    by_cases q2 : fc_isBargain h x2 = true
    · rw [if_pos q2]
      by_cases q3 : fc_isPerson x3 = true
      · rw [if_pos q3]
        have q2' := q2
        obtain ⟨l, hl, rfl⟩ := pu_law q1
        obtain ⟨b, hb, rfl⟩ := pu_xBargain r q2
        obtain ⟨v, h1, h2, e1, e2, t5, u5⟩ := su_core r hl hb x3
        have q4 : pm_isBargain h1 (nI b) = true := by
          rw [pu_isBargain (pu_Rn_sm r t5)]
          unfold fc_isBargain at q2' ⊢
          rw [pu_sm_0 t5 (by decide)]; exact q2'
        rw [if_pos (pu_inb hl (by omega)), if_pos (pu_inb (by omega) (by omega)), nI_clamp (by omega), nI_clamp (by omega), pu_lawc hl, e1]
        refine ⟨v, h1, h2, rfl, ?_, pu_R_sm R' u5⟩
        show (if fc_isLaw (nI l) = true then _ else _) = _
        rw [if_pos q1, if_pos q4, if_pos q3, if_pos (pu_inb hl (by omega)), if_pos (pu_inb (by omega) (by omega))]
        exact e2
      · rw [if_neg q3]
        refine ⟨_, h, h, rfl, ?_, R'⟩
        show (if fc_isLaw x1 = true then _ else _) = _
        rw [if_pos q1, pu_isBargain r, if_pos q2, if_neg q3]
    · rw [if_neg q2]
      refine ⟨_, h, h, rfl, ?_, R'⟩
      show (if fc_isLaw x1 = true then _ else _) = _
      rw [if_pos q1, pu_isBargain r, if_neg q2]
  · rw [if_neg q1]
    refine ⟨_, h, h, rfl, ?_, R'⟩
    show (if fc_isLaw x1 = true then _ else _) = _
    rw [if_neg q1]
def wt (V : Nat → Int32) (m j : Nat) : Bool := (List.range (2 ^ m)).any (fun i => decide (V i ≠ V (i ^^^ 2 ^ j)))
theorem w_xor {m i j : Nat} (hi : i < 2 ^ m) (hj : j < m) : i ^^^ 2 ^ j < 2 ^ m := Nat.xor_lt_two_pow hi (Nat.pow_lt_pow_right (by omega) hj)
theorem fc_turn_sp {h : nv_Hp} {V : Nat → Int32} {m j : Nat} (hm : m ≤ 6) (hj : j < m) (hV : ∀ i, i < 2 ^ m → h 12 i = V i) : fc_isTurnedBy h (nI j) (nI (2 ^ m)) = some (wt V m j) := by
  have hN : 2 ^ m ≤ 64 := Nat.pow_le_pow_right (n := 2) (by omega) hm
  unfold fc_isTurnedBy wt
  apply pu_any (N := 2 ^ m)
  · intro n i hi
    have hx := w_xor hi hj
    rw [fc_isTurnedBy_2, if_neg (nI_ge hi (by omega)), if_neg (show ¬ (64 : Int32) ≤ nI i from nI_ge (b := 64) (by omega) (by omega)), pu_ltE, bt_one (by omega), bt_xor, if_neg (show ¬ (64 : Int32) ≤ nI (i ^^^ 2 ^ j) from nI_ge (b := 64) (by omega) (by omega)), if_pos (pu_inb (by omega) (by omega)), if_pos (pu_inb (by omega) (by omega)), nI_clamp (by omega), nI_clamp (by omega), hV i hi, hV _ hx, nI_1]
    by_cases c : V i = V (i ^^^ 2 ^ j)
    · rw [if_pos c, if_neg (by simp [c])]
    · rw [if_neg c, if_pos (by simp [c])]
  · intro n
    rw [fc_isTurnedBy_2, if_pos (nI_le (Nat.le_refl _) (by omega))]
  · omega
theorem pm_turn_sp {h : nv_Hp} {V : Nat → Int32} {m j : Nat} (hm : m ≤ 6) (hj : j < m) (h45 : h 73 45 = nI m) (hV : ∀ i, i < 2 ^ m → h 112 i = V i) : pm_hangs_88 h (nI j) nv_fu false 0 = (if wt V m j = true then some (1, h) else some (0, h)) := by
  have hN : 2 ^ m ≤ 64 := Nat.pow_le_pow_right (n := 2) (by omega) hm
  have e1 : (1 : Int32) <<< (h 73 45 &&& 31) = nI (2 ^ m) := by rw [h45, bt_one (by omega)]
  unfold wt
  apply pu_accK (N := 2 ^ m) (F := pm_hangs_88 h (nI j)) (K := fun b => if b = true then some (1, h) else some (0, h))
  · intro n b i hi
    have hx := w_xor hi hj
    rw [pm_hangs_88, e1, if_neg (nI_ge hi (by omega)), bt_one (by omega), bt_xor, if_pos (pu_inb (by omega) (by omega)), if_pos (pu_inb (by omega) (by omega)), nI_clamp (by omega), nI_clamp (by omega), hV i hi, hV _ hx, nI_1]
    cases b
    · by_cases c : V i = V (i ^^^ 2 ^ j)
      · simp [c]
      · simp [c]
    · simp
  · intro n b
    rw [pm_hangs_88, e1, if_pos (nI_le (Nat.le_refl _) (by omega))]
  · omega
theorem pm_at_sp {h : nv_Hp} {o : Nat → Nat} {m k : Nat} (hm : m ≤ 6) (hk : k < 12) (ho : ∀ j, j < m → o j < 12) (h45 : h 73 45 = nI m) (h11 : ∀ j, j < m → h 111 j = nI (o j)) : ∃ u, pm_hangs_38 h (nI k) nv_fu (-1) 0 = (if u = -1 then some (-2, h) else pm_hangs_88 h u nv_fu false 0) ∧ (∀ j, j < m → (∀ i, i < m → o i = k → i = j) → o j = k → u = nI j) ∧ ((∀ j, j < m → o j ≠ k) → u = -1) := by
  have key := pu_fold (fun n (u : Int32) x => pm_hangs_38 h (nI k) n u x) m (fun i u => (∀ j, j < m → (∀ i, i < m → o i = k → i = j) → o j = k → j < i → u = nI j) ∧ ((∀ j, j < i → o j ≠ k) → u = -1)) (fun i u => if o i = k then nI i else u) (fun u => if u = -1 then some (-2, h) else pm_hangs_88 h u nv_fu false 0) (fun n i u hi hI => by
    have oi := ho i hi
    refine ⟨?_, fun j hj hu e hji => ?_, fun hz => ?_⟩
    · rw [pm_hangs_38, h45, if_neg (nI_ge hi (by omega)), if_pos (pu_inb (by omega) (by omega)), nI_clamp (by omega), h11 i hi, nI_1]
      by_cases c : o i = k
      · rw [if_pos (by rw [c]), if_pos c]
      · rw [if_neg (fun z => c ((nI_eq (by omega) (by omega)).mp z)), if_neg c]
    · by_cases c : o i = k
      · rw [if_pos c, hu i hi c]
      · rw [if_neg c]
        have : j ≠ i := fun z => c (by rw [← z]; exact e)
        exact hI.1 j hj hu e (by omega)
    · rw [if_neg (hz i (by omega))]
      exact hI.2 (fun j hj => hz j (by omega))) (fun n u _ => by
    rw [pm_hangs_38, h45, if_pos (nI_le (Nat.le_refl _) (by omega))]) m 0 nv_fu (-1) (by omega) (show m < 4000 by omega) ⟨fun j _ _ _ h => by omega, fun _ => rfl⟩
  obtain ⟨k1, k2, k3⟩ := key
  rw [nI_0] at k1
  exact ⟨_, k1, fun j hj hu e => k2 j hj hu e hj, k3⟩
theorem op_hangs {h : nv_Hp} (R : pu_R h) (x1 x2 x3 : Int32) : pu_o2 (fc_hangs h x1 x2 x3) (fun h1 => pm_hangs h1 x1 x2 x3) := by
  have R' := R
  obtain ⟨nL, nK, nB, nA, r⟩ := R
  have c3 := r.2.1.2.2.1.2.2
  have b3 := r.2.1.2.1.2.2
  unfold fc_hangs pm_hangs
  simp only [pu_two]
  by_cases q1 : fc_isLaw x1 = true
  · by_cases q2 : fc_isBargain h x2 = true
    · by_cases q3 : fc_isBack h x3 = true
      · have q2' := q2
        have q3' := q3
        obtain ⟨l, hl, rfl⟩ := pu_law q1
        obtain ⟨b, hb, rfl⟩ := pu_xBargain r q2
        obtain ⟨k, hk, rfl⟩ := pu_xBack r q3
        have m6 := wm_le h nK
        have le := w64 (g := h) (nK := nK)
        obtain ⟨q, o1, o2, o3, o4⟩ := fc_opn_sp r (pu_sm_r h)
        have e3 : q 0 17 = nI (wm h nK) := o3
        have e4 : ∀ j, j < wm h nK → q 11 j = nI (wj h nK j) := o4
        have sq : pu_sm h q := fun k j z => o2 k j (fun y => z (by unfold pu_scr; omega)) (fun y => z (by unfold pu_scr; omega))
        have mid : ∀ h1 : nv_Hp, pu_sm h h1 → pm_isBargain h1 (nI b) = true ∧ pm_isBack h1 (nI k) = true := fun h1 t5 => by
          rw [pu_isBargain (pu_Rn_sm r t5), pu_isBack (pu_Rn_sm r t5)]
          unfold fc_isBargain fc_isBack at *
          rw [pu_sm_0 t5 (by decide), pu_sm_0 t5 (by decide)]; exact ⟨q2', q3'⟩
        have cl : fc_hangs_33 q (nI l) (nI b) (nI k) nv_fu (nI 0) = match (List.range' 0 (wm h nK)).find? (fun j => decide (wj h nK j = k)) with
          | some j => (Option.bind (fc_tryWays q (61 + 3 * l) (37 + b)) fun q6 => (Option.bind (fc_isTurnedBy q6.2 (nI j) q6.1) fun q7 => (if q7 = true then some (1, q6.2) else some (0, q6.2))))
          | none => some (-2, q) := pu_find (fc_hangs_33 q (nI l) (nI b) (nI k)) (wm h nK) (fun j => decide (wj h nK j = k)) _ _ (fun n i hi => by
            have := wj_lt hi
            rw [fc_hangs_33, e3, if_neg (nI_ge hi (by omega)), if_pos (pu_inb (by omega) (by omega)), nI_clamp (by omega), e4 i hi, if_pos (pu_inb hl (by omega)), if_pos (pu_inb (by omega) (by omega)), nI_clamp (by omega), nI_clamp (by omega), pu_lawc hl, nI_1]
            by_cases c : wj h nK i = k
            · rw [if_pos (by rw [c]), if_pos (by simp [c])]
            · rw [if_neg (fun z => c ((nI_eq (by omega) (by omega)).mp z)), if_neg (by simp [c])]) (fun n => by
            rw [fc_hangs_33, e3, if_pos (nI_le (Nat.le_refl _) (by omega))]) (wm h nK) 0 nv_fu (by omega) (show wm h nK < 4000 by omega)
        simp only [q1, q2', q3', if_true, o1, Option.bind_some]
        rw [← nI_0, cl]
        cases ef : (List.range' 0 (wm h nK)).find? (fun j => decide (wj h nK j = k)) with
        | none =>
          have no : ∀ j, j < wm h nK → wj h nK j ≠ k := fun j hj e => by
            have := List.find?_eq_none.mp ef j (List.mem_range'_1.mpr (by omega))
            exact this (by simp [e])
          obtain ⟨h2, u1, u2, u3, u4, u5⟩ := pm_ways_sp r sq hl hb
          obtain ⟨u, v1, v2, v3⟩ := pm_at_sp (k := k) (wm_le h nK) (by omega) (fun j hj => by have := wj_lt hj; omega) u3 u4
          refine ⟨_, q, h2, rfl, ?_, pu_R_sm R' u5⟩
          simp only [mid q sq, if_true, pu_inb hl (show 2 < 2 ^ 31 by omega), pu_inb (show b < 10 by omega) (show 10 < 2 ^ 31 by omega), u1, Option.bind_some]
          rw [nI_0, v1, if_pos (v3 no)]
        | some j =>
          have hj : j < wm h nK := by
            have := List.mem_range'_1.mp (List.mem_of_find?_eq_some ef)
            omega
          have ej : wj h nK j = k := by simpa using List.find?_some ef
          obtain ⟨h1, t1, t2, t3, t4, t5⟩ := fc_try_sp (k1 := 61 + 3 * l) r sq hb (by omega)
          obtain ⟨h2, u1, u2, u3, u4, u5⟩ := pm_ways_sp r t5 hl hb
          obtain ⟨u, v1, v2, v3⟩ := pm_at_sp (k := k) (wm_le h nK) (by omega) (fun j hj => by have := wj_lt hj; omega) u3 u4
          have eu : u = nI j := v2 j hj (fun i hi e => wj_inj hi hj (by rw [e, ej])) ej
          simp only [t1, Option.bind_some]
          rw [fc_turn_sp (V := wV h nL nK nA (h (61 + 3 * l)) b) (wm_le h nK) hj t2, Option.bind_some]
          refine ⟨if wt (wV h nL nK nA (h (61 + 3 * l)) b) (wm h nK) j = true then 1 else 0, h1, h2, ?_, ?_, pu_R_sm R' u5⟩
          · split <;> rfl
          · simp only [mid h1 t5, if_true, pu_inb hl (show 2 < 2 ^ 31 by omega), pu_inb (show b < 10 by omega) (show 10 < 2 ^ 31 by omega), u1, Option.bind_some]
            rw [nI_0, v1, eu, if_neg (pu_m1 (by omega)), pm_turn_sp (V := wV h nL nK nA (h (61 + 3 * l)) b) (wm_le h nK) hj u3 u2]
            split <;> rfl
      · simp only [q1, q2, q3, if_true, if_false]
        refine ⟨_, h, h, rfl, ?_, R'⟩
        simp only [pu_isBargain r, pu_isBack r, q2, q3, if_true, if_false, Bool.false_eq_true]
    · simp only [q1, q2, if_true, if_false]
      refine ⟨_, h, h, rfl, ?_, R'⟩
      simp only [pu_isBargain r, q2, if_false, Bool.false_eq_true]
  · simp only [q1, if_false]; exact ⟨_, _, _, rfl, rfl, R'⟩
