/-! ===== letter: is it just? ===== -/
theorem bits_f {fi : Option Nat} {wl : Bool} {w : Nat → Int32} {lv : Nat → Nat → Int32} {bg : Nat → Int32} {f d : Nat} (hf : f < 8) (hd : d < 8) (n : f ≠ d) (e1 : bg 1 = nI d) (e2 : bg 2 = nI f) : sp_bits0 fi wl w lv bg = if (fi.isSome || wl) = true then nI (2 ^ f) else 0 := by
  unfold sp_bits0
  rw [e1, e2, if_neg (fun z => n ((nI_eq (by omega) (by omega)).mp z))]
  cases fi with
  | some i =>
    simp only []
    rw [if_neg (pu_m1 (by omega)), bt_one (by omega)]
    rfl
  | none =>
    simp only []
    rw [if_neg (pu_m1 (by omega)), bt_one (by omega)]
    cases wl <;> rfl
/-- bound already -/
def lA (g : nv_Hp) (nL nK nA : Nat) (w : Nat → Int32) (b : Nat) : Bool := decide (sB g nL nK nA w (sH g 0) b ≠ 0)
theorem lA_sp {g : nv_Hp} {nL nK nA b f d : Nat} {w : Nat → Int32} (hf : f < 8) (hd : d < 8) (n : f ≠ d) (e1 : g (37 + b) 1 = nI d) (e2 : g (37 + b) 2 = nI f) : lA g nL nK nA w b = ((sp_first w (sH g 0) (fun j => g (13 + j)) (fun k => g (25 + k)) (g (37 + b)) nL nK).isSome || sp_well w (fun i => g (47 + i)) (g (37 + b)) nA) := by
  unfold lA sB sp_bits
  rw [bits_f hf hd n e1 e2]
  have p : ¬ nI (2 ^ f) = 0 := nI_ne0 (Nat.two_pow_pos f) (by
    have : 2 ^ f < 2 ^ 31 := Nat.pow_lt_pow_right (by omega) (by omega)
    exact this)
  cases ((sp_first w (sH g 0) (fun j => g (13 + j)) (fun k => g (25 + k)) (g (37 + b)) nL nK).isSome || sp_well w (fun i => g (47 + i)) (g (37 + b)) nA)
  · simp
  · simp [p]
/-- laid, and not laid -/
def lD (h0 : nv_Hp) (nL f d v L : Nat) (g : nv_Hp) : Prop := lf nL h0 g ∧ g 73 6 = nI (nL + 1) ∧ ∀ t, t < 10 → g (79 + t) nL = lx h0 nL f d v L nL t
def lU (h0 : nv_Hp) (nL : Nat) (g : nv_Hp) : Prop := lf nL h0 g ∧ g 73 6 = nI nL
theorem lD_sm {h0 g u : nv_Hp} {nL f d v L : Nat} (h : lD h0 nL f d v L g) (s : pu_sm g u) : lD h0 nL f d v L u := by
  refine ⟨lf_sm h.1 s, by rw [pu_sm_73 s (by decide)]; exact h.2.1, fun t ht => by rw [pu_sm_c s (by omega)]; exact h.2.2 t ht⟩
theorem pm_bound_L {h0 g : nv_Hp} {nL nK nB nA b f d v L : Nat} {w : Nat → Int32} {Q : nv_Hp → Prop} (R : pu_Rm Q h0 nL nK nB nA) (D : lD h0 nL f d v L g) (hb : b < nB) (hw : ∀ j, j < 9 → g 108 j = w j) (hh : ∀ k, k < nK → g 93 k = sH h0 0 k) (hB : pu_B3 (w 0)) (hN : ¬ w 8 < 0) (hf : f < 8) (hd : d < 8) (n : f ≠ d) (e1 : h0 (37 + b) 1 = nI d) (e2 : h0 (37 + b) 2 = nI f) : ∃ y, pm_boundNow g (nI b) = some (if (lA h0 nL nK nA w b || lR h0 w v L b) = true then nI (2 ^ f) else 0, nv_up g 73 41 y) := by
  obtain ⟨⟨a1, a2, a3⟩, ⟨b1, b2, b3⟩, ⟨c1, c2, c3⟩, ⟨d1, d2, d3⟩, _⟩ := R.2.1
  obtain ⟨D1, D2, D3⟩ := D
  have el : ∀ i, i < nL + 1 → ∀ t, t < 10 → g (79 + t) i = lx h0 nL f d v L i t := fun i hi t ht => by
    by_cases c : i = nL
    · subst c; exact D3 t ht
    · unfold lx
      rw [if_neg c, D1 (79 + t) i (by unfold pu_scr; omega) (by omega) (by omega)]
      exact (R.2.2.1 i (by omega)).1 t ht
  have hr : sp_roots (fun i t => g (79 + t) i) (nL + 1) := fun i hi => by
    show g (79 + 8) i = -1 ∨ ∃ r, r < i ∧ g (79 + 8) i = nI r
    rw [el i hi 8 (by omega)]
    unfold lx
    by_cases c : i = nL
    · rw [if_pos c]; exact Or.inl (by simp)
    · rw [if_neg c]; exact pu_Rn_roots R i (by omega)
  have ebg : ∀ t, t < 7 → pu_bgm g b t = h0 (37 + b) t := fun t ht => by
    unfold pu_bgm
    by_cases c : t = 0
    · subst c; rw [if_pos rfl]; exact (R.2.2.2.2.1 b hb).2.1.symm
    · rw [if_neg c, lf_c D1 (by omega)]
      obtain ⟨t, rfl⟩ : ∃ u, t = u + 1 := ⟨t - 1, by omega⟩
      rw [show 93 + (t + 1) = 94 + t by omega]
      exact (R.2.2.2.2.1 b hb).1 t (by omega)
  rw [pm_bound_sp (nL := nL + 1) (nK := nK) (nA := nA) D2 (by omega) (by rw [lf_73 D1 (by decide)]; exact b2) b3 (by rw [lf_73 D1 (by decide)]; exact d2) d3 (by omega) (by rw [hw 0 (by omega)]; exact hB) hr]
  have ec := sp_bits_cg (w := g 108) (w' := w) (hd := g 93) (hd' := sH h0 0) (lv := fun j t => g (79 + t) j) (lv' := lx h0 nL f d v L) (bk := fun j t => g (89 + t) j) (bk' := fun j => h0 (25 + j)) (af := fun j t => g (100 + t) j) (af' := fun j => h0 (47 + j)) (bg := pu_bgm g b) (bg' := h0 (37 + b)) (nL := nL + 1) (nK := nK) (nA := nA) (by omega) hw hh el (fun i hi t ht => by rw [lf_c D1 (by omega)]; exact (R.2.2.2.1 i hi).1 t ht) (fun i hi t ht => by rw [lf_c D1 (by omega)]; exact R.2.2.2.2.2.1 i hi t ht) ebg hr
  rw [ec]
  unfold sp_bits
  rw [bits_f hf hd n e1 e2, lx_first R hb hN e1 e2, lA_sp hf hd n e1 e2]
  generalize sp_why (g 108) (g 93) (fun j f => g (79 + f) j) (fun k f => g (89 + f) k) (pu_bgm g b) (fun i f => g (100 + f) i) (nL + 1) nK nA = y
  refine ⟨y, ?_⟩
  · congr 2
    generalize (sp_first w (sH h0 0) (fun j => h0 (13 + j)) (fun k => h0 (25 + k)) (h0 (37 + b)) nL nK).isSome = p
    generalize sp_well w (fun i => h0 (47 + i)) (h0 (37 + b)) nA = q
    cases p <;> cases q <;> cases lR h0 w v L b <;> rfl
/-- a bargain between the two -/
def lP (g : nv_Hp) (f d b : Nat) : Bool := decide (g (37 + b) 1 = nI d) && decide (g (37 + b) 2 = nI f)
def lbad (g : nv_Hp) (nL nK nA f d S : Nat) (w : Nat → Int32) (v L b : Nat) : Bool := lP g f d b && ((lA g nL nK nA w b || lR g w v L b) != S.testBit b)
def lJ (g : nv_Hp) (nL nK nB nA f d S : Nat) (w : Nat → Int32) (v L : Nat) : Bool := !(List.range nB).any (lbad g nL nK nA f d S w v L)
theorem pm_just_loop {h0 : nv_Hp} {nL nK nB nA f d v L S : Nat} {w : Nat → Int32} {Q : nv_Hp → Prop} (R : pu_Rm Q h0 nL nK nB nA) (hB : pu_B3 (w 0)) (hN : ¬ w 8 < 0) (hf : f < 8) (hd : d < 8) (n : f ≠ d) (hS : S < 2 ^ 31) : ∀ k i m flag g, i + k = nB → k < m → lD h0 nL f d v L g → (∀ j, j < 9 → g 108 j = w j) → (∀ k, k < nK → g 93 k = sH h0 0 k) → ∃ g', pm_isJust_11 (nI f) (nI d) (nI S) m flag (nI i) g = some (flag && !(List.range' i k).any (lbad h0 nL nK nA f d S w v L), g') ∧ lD h0 nL f d v L g' := by
  obtain ⟨⟨a1, a2, a3⟩, ⟨b1, b2, b3⟩, ⟨c1, c2, c3⟩, ⟨d1, d2, d3⟩, _⟩ := R.2.1
  intro k
  induction k with
  | zero =>
    intro i m flag g hi hm D hw hh
    obtain ⟨m, rfl⟩ : ∃ t, m = t + 1 := ⟨m - 1, by omega⟩
    have : i = nB := by omega
    subst this
    refine ⟨g, ?_, D⟩
    rw [pm_isJust_11, lf_73 D.1 (by decide), c2, if_pos (nI_le (Nat.le_refl _) (by omega))]
    simp
  | succ k ih =>
    intro i m flag g hi hm D hw hh
    obtain ⟨m, rfl⟩ : ∃ t, m = t + 1 := ⟨m - 1, by omega⟩
    rw [pm_isJust_11, lf_73 D.1 (by decide), c2, if_neg (nI_ge (by omega) (by omega))]
    cases flag with
    | false =>
      rw [if_neg (by decide)]
      exact ⟨g, rfl, D⟩
    | true =>
      have e94 : g 94 i = h0 (37 + i) 1 := by rw [lf_c D.1 (by decide)]; exact (R.2.2.2.2.1 i (by omega)).1 0 (by omega)
      have e95 : g 95 i = h0 (37 + i) 2 := by rw [lf_c D.1 (by decide)]; exact (R.2.2.2.2.1 i (by omega)).1 1 (by omega)
      rw [if_pos rfl, if_pos (pu_inb (by omega) (by omega)), nI_clamp (by omega), e94, e95, List.range'_succ, List.any_cons, nI_1]
      by_cases x1 : h0 (37 + i) 1 = nI d
      · rw [if_pos x1]
        by_cases x2 : h0 (37 + i) 2 = nI f
        · rw [if_pos x2]
          obtain ⟨y, ey⟩ := pm_bound_L (b := i) R D (by omega) hw hh hB hN hf hd n x1 x2
          rw [ey, Option.bind_some]
          have sy : pu_sm g (nv_up g 73 41 y) := pu_sm_up _ pu_scr41
          obtain ⟨g', r1, r2⟩ := ih (i + 1) m (!lbad h0 nL nK nA f d S w v L i) (nv_up g 73 41 y) (by omega) (by omega) (lD_sm D sy) (fun j hj => by rw [pu_up_c (by decide)]; exact hw j hj) (fun k hk => by rw [pu_up_c (by decide)]; exact hh k hk)
          refine ⟨g', ?_, r2⟩
          rw [Bool.true_and, Bool.not_or, ← r1]
          have lo : ((if (lA h0 nL nK nA w i || lR h0 w v L i) = true then nI (2 ^ f) else 0) >>> (nI f &&& 31)) &&& 1 = nI (lA h0 nL nK nA w i || lR h0 w v L i).toNat := by
            cases (lA h0 nL nK nA w i || lR h0 w v L i)
            · rw [if_neg (by decide), show (0 : Int32) = nI 0 from rfl, bt_low (by omega) (by omega), Nat.zero_testBit]
            · have : 2 ^ f < 2 ^ 31 := Nat.pow_lt_pow_right (by omega) (by omega)
              rw [if_pos rfl, bt_low this (by omega), Nat.testBit_two_pow_self]
          simp only [lo, bt_low hS (show i < 32 by omega)]
          have eb : lbad h0 nL nK nA f d S w v L i = ((lA h0 nL nK nA w i || lR h0 w v L i) != S.testBit i) := by
            unfold lbad lP
            simp [x1, x2]
          rw [eb]
          cases (lA h0 nL nK nA w i || lR h0 w v L i) <;> cases S.testBit i <;> rfl
        · rw [if_neg x2, Option.bind_some]
          obtain ⟨g', r1, r2⟩ := ih (i + 1) m true g (by omega) (by omega) D hw hh
          refine ⟨g', ?_, r2⟩
          have eb : lbad h0 nL nK nA f d S w v L i = false := by
            unfold lbad lP
            simp [x1, x2]
          rw [eb, Bool.false_or]
          exact r1
      · rw [if_neg x1, Option.bind_some]
        obtain ⟨g', r1, r2⟩ := ih (i + 1) m true g (by omega) (by omega) D hw hh
        refine ⟨g', ?_, r2⟩
        have eb : lbad h0 nL nK nA f d S w v L i = false := by
          unfold lbad lP
          simp [x1]
        rw [eb, Bool.false_or]
        exact r1
theorem pm_just_sp {h0 g : nv_Hp} {nL nK nB nA f d v L S l : Nat} {Q : nv_Hp → Prop} (R : pu_Rm Q h0 nL nK nB nA) (hf : f < 8) (hd : d < 8) (n : f ≠ d) (hS : S < 2 ^ 31) (hl : l < 2) (D : lD h0 nL f d v L g) : ∃ g', pm_isJust g (nI l) (nI f) (nI d) (nI S) = some (lJ h0 nL nK nB nA f d S (h0 (61 + 3 * l)) v L, g') ∧ lD h0 nL f d v L g' := by
  have c3 := R.2.1.2.2.1.2.2
  obtain ⟨g1, q1, q2, q3, q4⟩ := pm_goes_L R D.1 hl
  obtain ⟨g', r1, r2⟩ := pm_just_loop (S := S) R (pu_Rn_B R hl) (pu_Rn_N R hl) hf hd n hS nB 0 nv_fu true g1 (by omega) (show nB < 4000 by omega) (lD_sm D q2) q3 q4
  refine ⟨g', ?_, r2⟩
  unfold pm_isJust lJ
  rw [q1, Option.bind_some, ← nI_0]
  rw [Bool.true_and, ← List.range_eq_range'] at r1
  exact r1
theorem lf_R {h0 g : nv_Hp} {nL nK nB nA : Nat} (R : pu_Rn h0 nL nK nB nA) (U : lU h0 nL g) : pu_Rn g nL nK nB nA := by
  obtain ⟨q, q1, q2⟩ : ∃ q : nv_Hp, (∀ k j, 79 ≤ k ∧ k ≤ 88 ∧ j = nL → q k j = h0 k j) ∧ ∀ k j, ¬ (79 ≤ k ∧ k ≤ 88 ∧ j = nL) → q k j = g k j := ⟨fun k j => if 79 ≤ k ∧ k ≤ 88 ∧ j = nL then h0 k j else g k j, fun k j c => if_pos c, fun k j c => if_neg c⟩
  have Rq : pu_Rn q nL nK nB nA := pu_Rn_sm R fun k j z => by
    by_cases c : 79 ≤ k ∧ k ≤ 88 ∧ j = nL
    · exact q1 k j c
    · rw [q2 k j c]
      by_cases e : k = 73 ∧ j = 6
      · obtain ⟨rfl, rfl⟩ := e
        rw [U.2]; exact R.2.1.1.2.1.symm
      · exact U.1 k j z c e
  have kf : ∀ k, ¬ (79 ≤ k ∧ k ≤ 88) → g k = q k := fun k hk => by funext j; exact (q2 k j (by omega)).symm
  obtain ⟨r1, r2, r3, r4, r5, r6, r7, r8⟩ := Rq
  refine ⟨pu_Rp_cg (kf 1 (by omega)) (kf 78 (by omega)) r1, pu_Rc_cg (fun j => by rw [kf 0 (by omega)]) (fun j => by rw [kf 73 (by omega)]) r2, fun i hi => ?_, pu_Rk_cg r2.2.1.2.2 (fun k _ _ => kf k (by omega)) (fun k _ _ => kf k (by omega)) r4, pu_Rb_cg r2.2.2.1.2.2 (fun k _ _ => kf k (by omega)) (fun k _ _ => kf k (by omega)) r5, pu_Ra_cg r2.2.2.2.1.2.2 (fun k _ _ => kf k (by omega)) (fun k _ _ => kf k (by omega)) r6, pu_R7_cg (fun k _ _ => kf k (by omega)) (kf 105 (by omega)) (kf 106 (by omega)) r7, pu_R8_cg (fun k _ _ => kf k (by omega)) (kf 74 (by omega)) (kf 75 (by omega)) (kf 76 (by omega)) r8⟩
  have a3 := r2.1.2.2
  obtain ⟨x1, x2, x3⟩ := r3 i hi
  rw [kf (13 + i) (by omega)]
  exact ⟨fun t ht => by rw [← q2 (79 + t) i (by omega)]; exact x1 t ht, x2, x3⟩
