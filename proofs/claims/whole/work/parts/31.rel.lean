/-! ===== the relation between the class's cells and the reference's ===== -/
theorem pu_up_c {h : nv_Hp} {k0 j k : Nat} {v : Int32} (hk : k ≠ k0) : nv_up h k0 j v k = h k := by
  funext b
  exact nv_up_k h v hk
/-- purses -/
def pu_Rp (h : nv_Hp) : Prop := ∀ j, j < 8 → h 78 j = h 1 j ∧ 0 ≤ (h 1 j).toInt ∧ (h 1 j).toInt ≤ 9999
/-- counts, the latest finding -/
def pu_Rc (h : nv_Hp) (nL nK nB nA : Nat) : Prop := (h 0 7 = nI nL ∧ h 73 6 = nI nL ∧ nL ≤ 12) ∧ (h 0 8 = nI nK ∧ h 73 17 = nI nK ∧ nK ≤ 12) ∧ (h 0 9 = nI nB ∧ h 73 23 = nI nB ∧ nB ≤ 10) ∧ (h 0 10 = nI nA ∧ h 73 30 = nI nA ∧ nA ≤ 12) ∧ h 73 4 = h 0 11
/-- leaves: form, giver, holder, more, sorts, limit, first, last, root, passes -/
def pu_Rl (h : nv_Hp) (nL : Nat) : Prop := ∀ i, i < nL → (∀ f, f < 10 → h (79 + f) i = h (13 + i) f) ∧ (∃ g, g < 8 ∧ h (13 + i) 1 = nI g) ∧ (h (13 + i) 8 = -1 ∨ ∃ r, r < i ∧ h (13 + i) 8 = nI r)
/-- backs: leave, sent, person, hearing -/
def pu_Rk (h : nv_Hp) (nL nK : Nat) : Prop := ∀ i, i < nK → (∀ f, f < 4 → h (89 + f) i = h (25 + i) f) ∧ (∃ l, l < nL ∧ h (25 + i) 0 = nI l)
/-- bargains: number; doer, named, other, sort, worth, day -/
def pu_Rb (h : nv_Hp) (nB : Nat) : Prop := ∀ i, i < nB → (∀ f, f < 6 → h (94 + f) i = h (37 + i) (f + 1)) ∧ h (37 + i) 0 = nI i ∧ (∃ d, d < 8 ∧ h (37 + i) 1 = nI d) ∧ (h (37 + i) 2 = -1 ∨ ∃ d, d < 8 ∧ h (37 + i) 2 = nI d) ∧ (∃ d, d < 8 ∧ h (37 + i) 3 = nI d) ∧ (∃ w, w ≤ 999 ∧ h (37 + i) 5 = nI w) ∧ (∃ w, w ≤ 99 ∧ h (37 + i) 6 = nI w) ∧ h (37 + i) 3 ≠ h (37 + i) 1 ∧ h (37 + i) 3 ≠ h (37 + i) 2 ∧ (∃ w, w < 4 ∧ h (37 + i) 4 = nI w)
/-- afters: bargain, person, day, well, much -/
def pu_Ra (h : nv_Hp) (nA : Nat) : Prop := ∀ i, i < nA → ∀ f, f < 5 → h (100 + f) i = h (47 + i) f
/-- the text of a law, in the class's cells and in the reference's -/
def pu_Rt (h : nv_Hp) (i : Nat) : Prop := ∃ sz, sz ≤ 60 ∧ h (59 + 3 * i) 2 = nI sz ∧ h 106 i = nI sz ∧ ∀ j, j < sz → h 105 (60 * i + j) = h (60 + 3 * i) j
/-- sheets -/
def pu_Rs (h : nv_Hp) (s : Nat) : Prop := ∃ sz, sz ≤ 60 ∧ h (65 + 2 * s) 3 = nI sz ∧ h 75 s = nI sz ∧
  ((h (65 + 2 * s) 1 = 1 ∧ h 74 s = -1) ∨ (h (65 + 2 * s) 1 = 0 ∧ h 74 s = h (65 + 2 * s) 2 ∧ (h 74 s = 0 ∨ h 74 s = 1 ∨ h 74 s = 2) ∧ ∀ j, j < sz → h 76 (60 * s + j) = h (66 + 2 * s) j))
theorem pu_Rp_cg {h h' : nv_Hp} (h1 : h' 1 = h 1) (h2 : h' 78 = h 78) (r : pu_Rp h) : pu_Rp h' := by
  unfold pu_Rp at *; rw [h1, h2]; exact r
theorem pu_Rl_cg {h h' : nv_Hp} {n : Nat} (hn : n ≤ 12) (h1 : ∀ k, 13 ≤ k → k ≤ 24 → h' k = h k) (h2 : ∀ k, 79 ≤ k → k ≤ 88 → h' k = h k) (r : pu_Rl h n) : pu_Rl h' n := by
  intro i hi
  obtain ⟨a, b⟩ := r i hi
  rw [h1 (13 + i) (by omega) (by omega)]
  exact ⟨fun f hf => by rw [h2 (79 + f) (by omega) (by omega)]; exact a f hf, b⟩
theorem pu_Rk_cg {h h' : nv_Hp} {n m : Nat} (hm : m ≤ 12) (h1 : ∀ k, 25 ≤ k → k ≤ 36 → h' k = h k) (h2 : ∀ k, 89 ≤ k → k ≤ 92 → h' k = h k) (r : pu_Rk h n m) : pu_Rk h' n m := by
  intro i hi
  obtain ⟨a, b⟩ := r i hi
  rw [h1 (25 + i) (by omega) (by omega)]
  exact ⟨fun f hf => by rw [h2 (89 + f) (by omega) (by omega)]; exact a f hf, b⟩
theorem pu_Rb_cg {h h' : nv_Hp} {n : Nat} (hn : n ≤ 10) (h1 : ∀ k, 37 ≤ k → k ≤ 46 → h' k = h k) (h2 : ∀ k, 94 ≤ k → k ≤ 99 → h' k = h k) (r : pu_Rb h n) : pu_Rb h' n := by
  intro i hi
  obtain ⟨a, b⟩ := r i hi
  rw [h1 (37 + i) (by omega) (by omega)]
  exact ⟨fun f hf => by rw [h2 (94 + f) (by omega) (by omega)]; exact a f hf, b⟩
theorem pu_Ra_cg {h h' : nv_Hp} {n : Nat} (hn : n ≤ 12) (h1 : ∀ k, 47 ≤ k → k ≤ 58 → h' k = h k) (h2 : ∀ k, 100 ≤ k → k ≤ 104 → h' k = h k) (r : pu_Ra h n) : pu_Ra h' n := by
  intro i hi f hf
  rw [h1 (47 + i) (by omega) (by omega), h2 (100 + f) (by omega) (by omega)]
  exact r i hi f hf
theorem pu_Rt_cg {h h' : nv_Hp} {i : Nat} (h1 : h' (59 + 3 * i) 2 = h (59 + 3 * i) 2) (h2 : h' (60 + 3 * i) = h (60 + 3 * i)) (h3 : h' 105 = h 105) (h4 : h' 106 i = h 106 i) (r : pu_Rt h i) : pu_Rt h' i := by
  unfold pu_Rt at *; rw [h1, h2, h3, h4]; exact r
theorem pu_Rs_cg {h h' : nv_Hp} {s : Nat} (h1 : h' (65 + 2 * s) = h (65 + 2 * s)) (h2 : h' (66 + 2 * s) = h (66 + 2 * s)) (h3 : h' 74 s = h 74 s) (h4 : h' 75 s = h 75 s) (h5 : h' 76 = h 76) (r : pu_Rs h s) : pu_Rs h' s := by
  unfold pu_Rs at *; rw [h1, h2, h3, h4, h5]; exact r
