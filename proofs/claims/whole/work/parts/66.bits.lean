/-! ===== bits of Int32 as bits of Nat ===== -/
theorem bt_or (a b : Nat) : nI a ||| nI b = nI (a ||| b) := by
  apply Int32.toBitVec_inj.mp
  show BitVec.ofNat 32 a ||| BitVec.ofNat 32 b = BitVec.ofNat 32 (a ||| b)
  rw [BitVec.ofNat_or]
theorem bt_and (a b : Nat) : nI a &&& nI b = nI (a &&& b) := by
  apply Int32.toBitVec_inj.mp
  show BitVec.ofNat 32 a &&& BitVec.ofNat 32 b = BitVec.ofNat 32 (a &&& b)
  rw [BitVec.ofNat_and]
theorem bt_xor (a b : Nat) : nI a ^^^ nI b = nI (a ^^^ b) := by
  apply Int32.toBitVec_inj.mp
  show BitVec.ofNat 32 a ^^^ BitVec.ofNat 32 b = BitVec.ofNat 32 (a ^^^ b)
  rw [BitVec.ofNat_xor]
theorem bt_mask {k : Nat} (hk : k < 32) : nI k &&& 31 = nI k := by
  rw [pk_andN (m := 31) (by omega) 5 (by decide), Nat.mod_eq_of_lt (by omega)]
theorem bt_shm {k : Nat} (hk : k < 32) : ((nI k).toBitVec.smod 32).toNat = k := by
  have : ∀ k : Fin 32, ((nI k.1).toBitVec.smod 32).toNat = k.1 := by decide
  exact this ⟨k, hk⟩
theorem bt_one {k : Nat} (hk : k < 31) : (1 : Int32) <<< (nI k &&& 31) = nI (2 ^ k) := by
  rw [bt_mask (by omega), show (1 : Int32) = nI 1 from rfl, pk_shlN (nI k) k (bt_shm (by omega)) (by
    have : 2 ^ k < 2 ^ 32 := Nat.pow_lt_pow_right (by omega) (by omega)
    omega), Nat.one_mul]
theorem bt_shr {a k : Nat} (ha : a < 2 ^ 31) (hk : k < 32) : nI a >>> (nI k &&& 31) = nI (a / 2 ^ k) := by
  rw [bt_mask hk, pk_shrN ha (nI k) k (bt_shm hk)]
theorem bt_low {a k : Nat} (ha : a < 2 ^ 31) (hk : k < 32) : (nI a >>> (nI k &&& 31)) &&& 1 = nI (a.testBit k).toNat := by
  rw [bt_shr ha hk, pk_andN (m := 1) (by have := Nat.div_le_self a (2 ^ k); omega) 1 (by decide), Nat.toNat_testBit]
theorem bt_low1 {a k : Nat} (ha : a < 2 ^ 31) (hk : k < 32) : (nI a >>> (nI k &&& 31)) &&& 1 = 1 ↔ a.testBit k = true := by
  rw [bt_low ha hk]
  cases a.testBit k <;> decide
theorem bt_low0 {a k : Nat} (ha : a < 2 ^ 31) (hk : k < 32) : (nI a >>> (nI k &&& 31)) &&& 1 = 0 ↔ a.testBit k = false := by
  rw [bt_low ha hk]
  cases a.testBit k <;> decide
theorem bt_has {a k : Nat} (ha : a < 2 ^ 31) (hk : k < 32) : fc_hasBit (nI a) (nI k) = a.testBit k := by
  unfold fc_hasBit
  cases e : a.testBit k
  · rw [if_pos ((bt_low0 ha hk).mpr e)]
  · rw [if_neg (fun z => by rw [(bt_low0 ha hk).mp z] at e; cases e)]
theorem bt_and2 {a k : Nat} (hk : k < 31) : nI a &&& (1 <<< (nI k &&& 31)) = 0 ↔ a.testBit k = false := by
  have h2 : 2 ^ k < 2 ^ 31 := Nat.pow_lt_pow_right (by omega) (by omega)
  rw [bt_one hk, bt_and]
  cases e : a.testBit k
  · have : a &&& 2 ^ k = 0 := by
      apply Nat.eq_of_testBit_eq
      intro j
      rw [Nat.testBit_and, Nat.testBit_two_pow, Nat.zero_testBit]
      by_cases c : k = j
      · subst c; rw [e]; rfl
      · simp [c]
    rw [this]
    simp only [iff_true]; rfl
  · have : a &&& 2 ^ k = 2 ^ k := by
      apply Nat.eq_of_testBit_eq
      intro j
      rw [Nat.testBit_and, Nat.testBit_two_pow]
      by_cases c : k = j
      · subst c; rw [e]; simp
      · simp [c]
    rw [this]
    simp only [Bool.true_eq_false, iff_false]
    exact nI_ne0 (Nat.two_pow_pos k) h2
theorem bt_orlt {a b n : Nat} (ha : a < 2 ^ n) (hb : b < 2 ^ n) : a ||| b < 2 ^ n := Nat.or_lt_two_pow ha hb
/-- bits gathered in a loop -/
def bt_set (p : Nat → Bool) (o : Nat → Nat) : Nat → Nat
  | 0 => 0
  | n + 1 => if p n = true then bt_set p o n ||| 2 ^ (o n) else bt_set p o n
theorem bt_set_lt {p : Nat → Bool} {o : Nat → Nat} {N : Nat} : ∀ n, (∀ i, i < n → o i < N) → bt_set p o n < 2 ^ N
  | 0, _ => Nat.two_pow_pos N
  | n + 1, h => by
    have ih := bt_set_lt (p := p) n (fun i hi => h i (by omega))
    unfold bt_set
    split
    · exact bt_orlt ih (Nat.pow_lt_pow_right (by omega) (h n (by omega)))
    · exact ih
theorem bt_set_bit {p : Nat → Bool} {o : Nat → Nat} (k : Nat) : ∀ n, (bt_set p o n).testBit k = (List.range n).any (fun j => p j && decide (o j = k))
  | 0 => by simp [bt_set]
  | n + 1 => by
    have ih := bt_set_bit (p := p) (o := o) k n
    rw [List.range_succ, List.any_append, ← ih, bt_set]
    cases hp : p n
    · rw [if_neg (by decide)]; simp [hp]
    · rw [if_pos rfl, Nat.testBit_or, Nat.testBit_two_pow]
      simp [hp]
theorem bt_set_cg {p p' : Nat → Bool} {o o' : Nat → Nat} : ∀ n, (∀ i, i < n → p i = p' i) → (∀ i, i < n → o i = o' i) → bt_set p o n = bt_set p' o' n
  | 0, _, _ => rfl
  | n + 1, h, g => by
    unfold bt_set
    rw [h n (by omega), g n (by omega), bt_set_cg n (fun i hi => h i (by omega)) (fun i hi => g i (by omega))]
/-- how many bits, of the first N -/
def bt_pc (N a : Nat) : Nat := (List.range N).countP (fun k => a.testBit k)
theorem bt_countP_le {p q : Nat → Bool} (l : List Nat) (h : ∀ k, k ∈ l → p k = true → q k = true) : l.countP p ≤ l.countP q := List.countP_mono_left h
theorem bt_countP_lt {p q : Nat → Bool} : ∀ (l : List Nat), (∀ k, k ∈ l → p k = true → q k = true) → (∃ k, k ∈ l ∧ p k = false ∧ q k = true) → l.countP p < l.countP q
  | [], _, ⟨_, h, _⟩ => absurd h (by simp)
  | a :: t, h, ⟨k, hk, h1, h2⟩ => by
    have le := bt_countP_le (p := p) (q := q) t (fun x hx => h x (List.mem_cons_of_mem _ hx))
    rw [List.countP_cons, List.countP_cons]
    rcases List.mem_cons.mp hk with rfl | hk
    · rw [h1, h2]; simp; omega
    · have lt := bt_countP_lt (p := p) (q := q) t (fun x hx => h x (List.mem_cons_of_mem _ hx)) ⟨k, hk, h1, h2⟩
      cases e : p a
      · simp; omega
      · rw [h a (List.mem_cons_self ..) e]; simp; omega
theorem bt_lt_ext {N a b : Nat} (ha : a < 2 ^ N) (hb : b < 2 ^ N) (h : ∀ k, k < N → a.testBit k = b.testBit k) : a = b := by
  apply Nat.eq_of_testBit_eq
  intro k
  by_cases c : k < N
  · exact h k c
  · have p : 2 ^ N ≤ 2 ^ k := Nat.pow_le_pow_right (by omega) (by omega)
    rw [Nat.testBit_lt_two_pow (by omega), Nat.testBit_lt_two_pow (by omega)]
theorem bt_pc_sub {N a b : Nat} (h : ∀ k, k < N → a.testBit k = true → b.testBit k = true) : bt_pc N a ≤ bt_pc N b := bt_countP_le _ fun k hk => h k (List.mem_range.mp hk)
theorem bt_pc_lt {N a b : Nat} (ha : a < 2 ^ N) (hb : b < 2 ^ N) (h : ∀ k, k < N → a.testBit k = true → b.testBit k = true) (hn : a ≠ b) : bt_pc N a < bt_pc N b := by
  apply bt_countP_lt _ (fun k hk => h k (List.mem_range.mp hk))
  by_cases c : ∃ k, k < N ∧ a.testBit k = false ∧ b.testBit k = true
  · obtain ⟨k, h1, h2, h3⟩ := c
    exact ⟨k, List.mem_range.mpr h1, h2, h3⟩
  · exfalso
    apply hn
    apply bt_lt_ext ha hb
    intro k hk
    cases e : a.testBit k
    · cases f : b.testBit k
      · rfl
      · exact absurd ⟨k, hk, e, f⟩ c
    · rw [h k hk e]
