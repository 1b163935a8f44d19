/-! ===== ones, least sets, wanted ===== -/
def on1 : Nat → Nat → Option Nat
  | 0, _ => none
  | f + 1, a => if a = 0 then some 0 else (on1 f (a &&& (a - 1))).map (· + 1)
theorem on1_ones {h : nv_Hp} : ∀ (f n a c r : Nat), f ≤ n → a < 2 ^ 31 → on1 f a = some r → pm_ones_4 h n (nI c) (nI a) = some (nI (c + r))
  | 0, _, _, _, _, _, _, e => by cases e
  | f + 1, 0, _, _, _, hn, _, _ => by omega
  | f + 1, n + 1, a, c, r, hn, ha, e => by
    rw [on1] at e
    rw [pm_ones_4]
    by_cases z : a = 0
    · rw [if_pos z] at e
      rw [z, if_pos nI_0]
      cases e; rfl
    · rw [if_neg z] at e
      rw [if_neg (nI_ne0 (by omega) ha), pu_ltE, show (1 : Int32) = nI 1 from rfl, pk_sub (show 1 ≤ a by omega), bt_and, nI_add]
      cases e2 : on1 f (a &&& (a - 1)) with
      | none => rw [e2] at e; cases e
      | some t =>
        rw [e2] at e
        cases e
        have le : a &&& (a - 1) ≤ a := Nat.and_le_left
        rw [on1_ones f n _ (c + 1) t (by omega) (by omega) e2, show c + 1 + t = c + (t + 1) by omega]
theorem on1_all : ∀ a : Fin 512, on1 10 a.1 = some (bt_pc 9 a.1) := by decide +kernel
theorem pm_ones_sp (h : nv_Hp) {a : Nat} (ha : a < 512) : pm_ones h (nI a) = some (nI (bt_pc 9 a)) := by
  have := on1_ones (h := h) 10 nv_fu a 0 _ (show 10 ≤ 4000 by omega) (by omega) (on1_all ⟨a, ha⟩)
  rw [nI_0, Nat.zero_add] at this
  exact this
theorem bt_pc_le (N a : Nat) : bt_pc N a ≤ N := by
  unfold bt_pc
  have := List.countP_le_length (p := fun k => a.testBit k) (l := List.range N)
  rw [List.length_range] at this
  exact this
/-- the first among those of the fewest bits -/
def bst (E : Nat → Bool) : Nat → Option Nat
  | 0 => none
  | i + 1 => match bst E i with
    | none => if E i = true then some i else none
    | some b => if bt_pc 9 i < bt_pc 9 b ∧ E i = true then some i else some b
theorem bst_sp (E : Nat → Bool) : ∀ i, (bst E i = none → ∀ t, t < i → E t = false) ∧ ∀ b, bst E i = some b → b < i ∧ E b = true ∧ ∀ t, t < i → E t = true → bt_pc 9 b < bt_pc 9 t ∨ (bt_pc 9 b = bt_pc 9 t ∧ b ≤ t)
  | 0 => ⟨fun _ t ht => by omega, fun b h => (by cases h)⟩
  | i + 1 => by
    obtain ⟨ih1, ih2⟩ := bst_sp E i
    rw [bst]
    cases e : bst E i with
    | none =>
      have no := ih1 e
      simp only []
      cases f : E i
      · rw [if_neg (by decide)]
        refine ⟨fun _ t ht => ?_, fun b h => (by cases h)⟩
        by_cases c : t = i
        · rw [c]; exact f
        · exact no t (by omega)
      · rw [if_pos rfl]
        refine ⟨fun h => (by cases h), fun b h => ?_⟩
        cases h
        refine ⟨by omega, f, fun t ht et => ?_⟩
        by_cases c : t = i
        · rw [c]; exact Or.inr ⟨rfl, Nat.le_refl _⟩
        · rw [no t (by omega)] at et; cases et
    | some b =>
      obtain ⟨j1, j2, j3⟩ := ih2 b e
      simp only []
      by_cases c : bt_pc 9 i < bt_pc 9 b ∧ E i = true
      · rw [if_pos c]
        refine ⟨fun h => (by cases h), fun x h => ?_⟩
        cases h
        refine ⟨by omega, c.2, fun t ht et => ?_⟩
        by_cases d : t = i
        · rw [d]; exact Or.inr ⟨rfl, Nat.le_refl _⟩
        · rcases j3 t (by omega) et with q | q
          · exact Or.inl (by omega)
          · exact Or.inl (by omega)
      · rw [if_neg c]
        refine ⟨fun h => (by cases h), fun x h => ?_⟩
        cases h
        refine ⟨by omega, j2, fun t ht et => ?_⟩
        by_cases d : t = i
        · rw [d] at et ⊢
          have : ¬ bt_pc 9 i < bt_pc 9 b := fun z => c ⟨z, et⟩
          by_cases y : bt_pc 9 b = bt_pc 9 i
          · exact Or.inr ⟨y, by omega⟩
          · exact Or.inl (by omega)
        · exact j3 t (by omega) et
theorem bst_cg {E E' : Nat → Bool} : ∀ i, (∀ t, t < i → E t = E' t) → bst E i = bst E' i
  | 0, _ => rfl
  | i + 1, h => by rw [bst, bst, bst_cg i (fun t ht => h t (by omega)), h i (by omega)]
/-- enough -/
def wE (V : Nat → Int32) (m S : Nat) : Bool := !(List.range (2 ^ m)).any (fun w => decide (V w ≠ V (w &&& S)))
theorem wE_iff {V : Nat → Int32} {m S : Nat} : wE V m S = true ↔ ∀ w, w < 2 ^ m → V w = V (w &&& S) := by
  unfold wE
  rw [Bool.not_eq_true', List.any_eq_false]
  constructor
  · intro h w hw
    have := h w (List.mem_range.mpr hw)
    simpa using this
  · intro h w hw
    simpa using h w (List.mem_range.mp hw)
theorem wt_iff {V : Nat → Int32} {m j : Nat} : wt V m j = false ↔ ∀ w, w < 2 ^ m → V w = V (w ^^^ 2 ^ j) := by
  unfold wt
  rw [List.any_eq_false]
  constructor
  · intro h w hw
    have := h w (List.mem_range.mpr hw)
    simpa using this
  · intro h w hw
    simpa using h w (List.mem_range.mp hw)
def wEs (V : Nat → Int32) (m : Nat) : Nat := bt_set (wt V m) id m
theorem wEs_lt (V : Nat → Int32) (m : Nat) : wEs V m < 2 ^ m := bt_set_lt m (fun _ hi => hi)
theorem wEs_bit {V : Nat → Int32} {m k : Nat} (hk : k < m) : (wEs V m).testBit k = wt V m k := by
  unfold wEs
  rw [bt_set_bit]
  apply Bool.eq_iff_iff.mpr
  rw [List.any_eq_true]
  constructor
  · rintro ⟨x, _, e⟩
    simp only [id, Bool.and_eq_true, decide_eq_true_eq] at e
    rw [← e.2]; exact e.1
  · intro e
    exact ⟨k, List.mem_range.mpr hk, by simp [e]⟩
theorem xor_bit (w k j : Nat) : (w ^^^ 2 ^ k).testBit j = if j = k then !w.testBit j else w.testBit j := by
  rw [Nat.testBit_xor, Nat.testBit_two_pow]
  by_cases c : j = k
  · subst c; simp
  · have : ¬ k = j := fun z => c z.symm
    simp [c, this]
theorem and_xor {w k S : Nat} (h : S.testBit k = false) : (w ^^^ 2 ^ k) &&& S = w &&& S := by
  apply Nat.eq_of_testBit_eq
  intro j
  rw [Nat.testBit_and, Nat.testBit_and, xor_bit]
  by_cases c : j = k
  · subst c; rw [h]; simp
  · rw [if_neg c]
theorem wE_Es (V : Nat → Int32) (m : Nat) : wE V m (wEs V m) = true := by
  rw [wE_iff]
  have key : ∀ n w, w < 2 ^ m → bt_pc m w < n → V w = V (w &&& wEs V m) := by
    intro n
    induction n with
    | zero => intro w _ h; omega
    | succ n ih =>
      intro w hw hn
      by_cases c : ∃ k, k < m ∧ w.testBit k = true ∧ (wEs V m).testBit k = false
      · obtain ⟨k, hk, k1, k2⟩ := c
        have k3 := k2
        rw [wEs_bit hk] at k3
        have hx := w_xor hw hk
        rw [wt_iff.mp k3 w hw, ← and_xor (w := w) k2]
        apply ih _ hx
        have : bt_pc m (w ^^^ 2 ^ k) < bt_pc m w := bt_pc_lt hx hw (fun j _ e => by
          rw [xor_bit] at e
          by_cases d : j = k
          · rw [d]; exact k1
          · rw [if_neg d] at e; exact e) (fun e => by
          have := congrArg (fun t => t.testBit k) e
          simp only [xor_bit, if_true, k1] at this
          cases this)
        omega
      · have : w &&& wEs V m = w := by
          apply Nat.eq_of_testBit_eq
          intro j
          rw [Nat.testBit_and]
          cases e : w.testBit j
          · rfl
          · by_cases d : j < m
            · cases f : (wEs V m).testBit j
              · exact absurd ⟨j, d, e, f⟩ c
              · rfl
            · have p : 2 ^ m ≤ 2 ^ j := Nat.pow_le_pow_right (by omega) (by omega)
              rw [Nat.testBit_lt_two_pow (by omega)] at e; cases e
        rw [this]
  exact fun w hw => key (bt_pc m w + 1) w hw (by omega)
theorem wE_sub {V : Nat → Int32} {m S k : Nat} (h : wE V m S = true) (hk : k < m) (e : (wEs V m).testBit k = true) : S.testBit k = true := by
  rw [wEs_bit hk] at e
  cases f : S.testBit k
  · exfalso
    have : wt V m k = false := wt_iff.mpr fun w hw => by
      have hx := w_xor hw hk
      rw [wE_iff.mp h w hw, wE_iff.mp h _ hx, and_xor f]
    rw [this] at e; cases e
  · rfl
theorem pc_ext {m a : Nat} (hm : m ≤ 9) (ha : a < 2 ^ m) : a < 2 ^ 9 := Nat.lt_of_lt_of_le ha (Nat.pow_le_pow_right (by omega) hm)
theorem bst_wE {V : Nat → Int32} {m : Nat} (hm : m ≤ 9) : bst (wE V m) (2 ^ m) = some (wEs V m) := by
  obtain ⟨h1, h2⟩ := bst_sp (wE V m) (2 ^ m)
  have l := wEs_lt V m
  cases e : bst (wE V m) (2 ^ m) with
  | none =>
    have := h1 e _ l
    rw [wE_Es] at this; cases this
  | some b =>
    obtain ⟨b1, b2, b3⟩ := h2 b e
    have sub : ∀ k, k < 9 → (wEs V m).testBit k = true → b.testBit k = true := fun k _ z => by
      by_cases d : k < m
      · exact wE_sub b2 d z
      · have p : 2 ^ m ≤ 2 ^ k := Nat.pow_le_pow_right (by omega) (by omega)
        rw [Nat.testBit_lt_two_pow (by omega)] at z; cases z
    by_cases c : wEs V m = b
    · rw [c]
    · exfalso
      have lt := bt_pc_lt (pc_ext hm l) (pc_ext hm b1) sub c
      rcases b3 _ l (wE_Es V m) with q | q
      · omega
      · omega
