/-! ===== turned: the class ===== -/
theorem bt_not (c : Nat) : nI c ^^^ (-1) = nI (c ^^^ (2 ^ 32 - 1)) := by
  rw [show (-1 : Int32) = nI (2 ^ 32 - 1) from by decide, bt_xor]
theorem bt_ones (k : Nat) : (2 ^ 32 - 1).testBit k = decide (k < 32) := Nat.testBit_two_pow_sub_one 32 k
theorem bt_z {a : Nat} (ha : a < 2 ^ 32) : nI a = 0 ↔ a = 0 := by
  constructor
  · intro h
    have := congrArg (fun x : Int32 => x.toBitVec.toNat) h
    simp only [pk_tn ha] at this
    exact this
  · intro h; rw [h]; rfl
theorem bt_sub {a c : Nat} (ha : a < 2 ^ 32) : nI a &&& (nI c ^^^ (-1)) = 0 ↔ ∀ k, a.testBit k = true → c.testBit k = true := by
  rw [bt_not, bt_and, bt_z (Nat.lt_of_le_of_lt Nat.and_le_left ha)]
  constructor
  · intro h k hk
    have := congrArg (fun x => x.testBit k) h
    simp only [Nat.testBit_and, Nat.testBit_xor, bt_ones, Nat.zero_testBit, hk, Bool.true_and] at this
    have k32 : k < 32 := by
      apply Classical.byContradiction
      intro z
      have p : 2 ^ 32 ≤ 2 ^ k := Nat.pow_le_pow_right (by omega) (by omega)
      rw [Nat.testBit_lt_two_pow (by omega)] at hk; cases hk
    simp only [k32, decide_true] at this
    cases e : c.testBit k
    · rw [e] at this; cases this
    · rfl
  · intro h
    apply Nat.eq_of_testBit_eq
    intro k
    rw [Nat.testBit_and, Nat.testBit_xor, bt_ones, Nat.zero_testBit]
    cases e : a.testBit k
    · rfl
    · rw [h k e]
      by_cases k32 : k < 32
      · simp [k32]
      · have p : 2 ^ 32 ≤ 2 ^ k := Nat.pow_le_pow_right (by omega) (by omega)
        rw [Nat.testBit_lt_two_pow (by omega)] at e; cases e
theorem bc_all : ∀ a : Fin 512, fj_bitCount (nI a.1) = nI (bt_pc 9 a.1) := by decide +kernel
theorem bc_sp {a : Nat} (ha : a < 512) : fj_bitCount (nI a) = nI (bt_pc 9 a) := bc_all ⟨a, ha⟩
def lm (E : Nat → Bool) (N b : Nat) : Prop := b < N ∧ E b = true ∧ ∀ t, t < N → E t = true → bt_pc 9 b < bt_pc 9 t ∨ (bt_pc 9 b = bt_pc 9 t ∧ b ≤ t)
theorem lm_bst {E : Nat → Bool} {N b : Nat} (h : lm E N b) : bst E N = some b := by
  obtain ⟨h1, h2⟩ := bst_sp E N
  cases e : bst E N with
  | none =>
    have := h1 e b h.1
    rw [h.2.1] at this; cases this
  | some c =>
    obtain ⟨c1, c2, c3⟩ := h2 c e
    have x := c3 b h.1 h.2.1
    have y := h.2.2 c c1 c2
    have : b = c := by omega
    rw [this]
/-- words: those of law 0 with the letters of a set as in law 1 -/
def tw (g : nv_Hp) (s j : Nat) : Int32 := if s.testBit j = true then g 64 j else g 61 j
def tG (g : nv_Hp) (nL nK nA b s : Nat) : Bool := decide (sB g nL nK nA (tw g s) (sH g 0) b = sB g nL nK nA (g 64) (sH g 0) b)
def tU (g : nv_Hp) : Nat := bt_set (fun j => decide (g 61 j ≠ g 64 j)) id 9
theorem tU_lt (g : nv_Hp) : tU g < 512 := bt_set_lt (N := 9) 9 (fun _ hi => hi)
theorem tU_bit {g : nv_Hp} {k : Nat} (hk : k < 9) : (tU g).testBit k = decide (g 61 k ≠ g 64 k) := by
  unfold tU
  rw [bt_set_bit]
  apply Bool.eq_iff_iff.mpr
  rw [List.any_eq_true]
  constructor
  · rintro ⟨x, _, e⟩
    simp only [id, Bool.and_eq_true, decide_eq_true_eq] at e
    rw [← e.2]; simpa using e.1
  · intro e
    refine ⟨k, List.mem_range.mpr hk, ?_⟩
    simp only [id, e, decide_true, Bool.and_self]
theorem tw_and {g : nv_Hp} {s j : Nat} (hj : j < 9) : tw g (s &&& tU g) j = tw g s j := by
  unfold tw
  rw [Nat.testBit_and, tU_bit hj]
  by_cases c : g 61 j = g 64 j
  · simp [c]
  · simp [c]
theorem tG_and {g : nv_Hp} {nL nK nB nA b s : Nat} {Q : nv_Hp → Prop} (R : pu_Rm Q g nL nK nB nA) : tG g nL nK nA b (s &&& tU g) = tG g nL nK nA b s := by
  have a3 := R.2.1.1.2.2
  unfold tG
  rw [sB_w (w := tw g (s &&& tU g)) (w' := tw g s) (by omega) (pu_Rn_roots R) (fun j hj => tw_and hj) (fun _ _ => rfl)]
theorem tG_U {g : nv_Hp} {nL nK nB nA b : Nat} {Q : nv_Hp → Prop} (R : pu_Rm Q g nL nK nB nA) : tG g nL nK nA b (tU g) = true := by
  have a3 := R.2.1.1.2.2
  unfold tG
  rw [decide_eq_true_eq]
  apply sB_w (by omega) (pu_Rn_roots R) (fun j hj => ?_) (fun _ _ => rfl)
  unfold tw
  rw [tU_bit hj]
  by_cases c : g 61 j = g 64 j
  · simp [c]
  · simp [c]
/-- the least of all is within the unlike letters -/
theorem tG_lm {g : nv_Hp} {nL nK nB nA b s : Nat} {Q : nv_Hp → Prop} (R : pu_Rm Q g nL nK nB nA) (h : lm (fun t => decide (t &&& tU g = t) && tG g nL nK nA b t) 512 s) : lm (tG g nL nK nA b) 512 s := by
  obtain ⟨h1, h2, h3⟩ := h
  simp only [Bool.and_eq_true, decide_eq_true_eq] at h2
  refine ⟨h1, h2.2, fun t ht e => ?_⟩
  have le : t &&& tU g ≤ t := Nat.and_le_left
  have x := h3 (t &&& tU g) (by omega) (by
    simp only [Bool.and_eq_true, decide_eq_true_eq]
    refine ⟨?_, by rw [tG_and R]; exact e⟩
    rw [Nat.and_assoc, Nat.and_self])
  have sub : bt_pc 9 (t &&& tU g) ≤ bt_pc 9 t := bt_pc_sub (fun k _ z => by
    rw [Nat.testBit_and] at z
    exact (Bool.and_eq_true _ _ ▸ z : _ ∧ _).1)
  by_cases c : t &&& tU g = t
  · rw [c] at x; exact x
  · have lt : bt_pc 9 (t &&& tU g) < bt_pc 9 t := bt_pc_lt (N := 9) (show t &&& tU g < 2 ^ 9 by omega) (show t < 2 ^ 9 by omega) (fun k _ z => by
      rw [Nat.testBit_and] at z
      exact (Bool.and_eq_true _ _ ▸ z : _ ∧ _).1) c
    left; omega
theorem and_sub {s u : Nat} : s &&& u = s ↔ ∀ k, s.testBit k = true → u.testBit k = true := by
  constructor
  · intro h k hk
    have := congrArg (fun x => x.testBit k) h
    simp only [Nat.testBit_and, hk, Bool.true_and] at this
    exact this
  · intro h
    apply Nat.eq_of_testBit_eq
    intro k
    rw [Nat.testBit_and]
    cases e : s.testBit k
    · rfl
    · rw [h k e]; rfl
theorem fc_unlike_sp (h : nv_Hp) : fc_unlikeLetters h = some (nI (tU h)) := by
  unfold fc_unlikeLetters
  have key := pu_fold (fun n (u : Int32) x => fc_unlikeLetters_4 h n u x) 9 (fun i u => u = nI (bt_set (fun j => decide (h 61 j ≠ h 64 j)) id i)) (fun i u => if h 61 i = h 64 i then u else u ||| nI (2 ^ i)) some (fun n i u hi hI => by
    constructor
    · rw [fc_unlikeLetters_4, if_neg (show ¬ (9 : Int32) ≤ nI i from nI_ge (b := 9) hi (by omega)), if_pos (pu_inb (by omega) (by omega)), nI_clamp (by omega), bt_one (by omega), nI_1]
    · rw [bt_set, hI]
      by_cases c : h 61 i = h 64 i
      · simp [c]
      · simp [c, bt_or]) (fun n u _ => by
    rw [fc_unlikeLetters_4, if_pos (show (9 : Int32) ≤ nI 9 by decide)]) 9 0 nv_fu 0 (by omega) (show 9 < 4000 by omega) rfl
  obtain ⟨k1, k2⟩ := key
  rw [nI_0, k2] at k1
  exact k1
theorem fc_mix_sp {h0 h : nv_Hp} {s : Nat} (hs : s < 512) (e1 : h 61 = h0 61) (e4 : h 64 = h0 64) : ∃ h', fc_mixLaws h (nI s) = some h' ∧ (∀ j, j < 9 → h' 10 j = tw h0 s j) ∧ ∀ k, k ≠ 10 → h' k = h k := by
  unfold fc_mixLaws
  have key := pu_fold (fun n (g : nv_Hp) x => fc_mixLaws_2 (nI s) n x g) 9 (fun i g => (∀ j, j < i → g 10 j = tw h0 s j) ∧ ∀ k, k ≠ 10 → g k = h k) (fun i g => nv_up g 10 i (tw h0 s i)) some (fun n i g hi hI => by
    obtain ⟨i1, i2⟩ := hI
    refine ⟨?_, fun j hj => ?_, fun k hk => (pu_up_c hk).trans (i2 k hk)⟩
    · rw [fc_mixLaws_2, if_neg (show ¬ (9 : Int32) ≤ nI i from nI_ge (b := 9) hi (by omega)), bt_has (by omega) (by omega)]
      unfold fc_mixLaws_30 tw
      cases s.testBit i
      · simp only [Bool.false_eq_true, if_false]
        rw [show nv_bi false = nI 0 from rfl, if_pos (pu_inb (by omega) (by omega)), if_pos (pu_inb (by omega) (by omega)), if_pos (pu_inb (by omega) (by omega)), pu_ltE, nI_clamp (by omega), nI_clamp (by omega), nI_1, show 59 + 3 * 0 + 2 = 61 from rfl, i2 61 (by decide), e1]
      · simp only [if_true]
        rw [show nv_bi true = nI 1 from rfl, if_pos (pu_inb (by omega) (by omega)), if_pos (pu_inb (by omega) (by omega)), if_pos (pu_inb (by omega) (by omega)), pu_ltE, nI_clamp (by omega), nI_clamp (by omega), nI_1, show 59 + 3 * 1 + 2 = 64 from rfl, i2 64 (by decide), e4]
    · by_cases c : j = i
      · subst c; rw [nv_up_s]
      · rw [nv_up_j _ _ c]; exact i1 j (by omega)) (fun n g _ => by
    rw [fc_mixLaws_2, if_pos (show (9 : Int32) ≤ nI 9 by decide)]) 9 0 nv_fu h (by omega) (show 9 < 4000 by omega) ⟨fun j hj => by omega, fun _ _ => rfl⟩
  obtain ⟨k1, k2, k3⟩ := key
  rw [nI_0] at k1
  exact ⟨_, k1, k2, k3⟩
