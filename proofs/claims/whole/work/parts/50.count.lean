/-! ===== operation: count ===== -/
def sp_open (h : nv_Hp) (i : Nat) (s : Int32) : Int32 := if h (25 + i) 3 = -1 then s + 1 else s
theorem pu_foldlc {σ : Type} {f g : σ → Nat → σ} {N : Nat} (e : ∀ s i, i < N → f s i = g s i) (s : σ) : (List.range' 0 N).foldl f s = (List.range' 0 N).foldl g s := by
  have key : ∀ (l : List Nat) (s : σ), (∀ i, i ∈ l → i < N) → l.foldl f s = l.foldl g s := by
    intro l
    induction l with
    | nil => intro s _; rfl
    | cons a t ih =>
      intro s ha
      rw [List.foldl_cons, List.foldl_cons, e s a (ha a (List.mem_cons_self ..)), ih _ (fun i hi => ha i (List.mem_cons_of_mem _ hi))]
  exact key _ s (fun i hi => by have := List.mem_range'_1.mp hi; omega)
theorem fc_open_sp {h : nv_Hp} {nK : Nat} (hK : h 0 8 = nI nK) (hn : nK ≤ 12) : fc_allOpen h = some ((List.range' 0 nK).foldl (fun s i => sp_open h i s) 0) := by
  unfold fc_allOpen
  have key := (pu_fold (fun n (s : Int32) x => fc_allOpen_4 h n s x) nK (fun _ _ => True) (fun i s => sp_open h i s) some (fun n i s hi _ => ⟨by
    rw [fc_allOpen_4, hK, if_neg (nI_ge hi (by omega)), if_pos (pu_inb (by omega) (by omega)), nI_clamp (by omega), nI_1]
    unfold sp_open
    rfl, trivial⟩) (fun n s _ => by rw [fc_allOpen_4, hK, if_pos (nI_le (Nat.le_refl _) (by omega))]) nK 0 nv_fu 0 (by omega) (show nK < 4000 by omega) trivial).1
  rw [nI_0] at key
  exact key
theorem pm_open_sp {h : nv_Hp} {nK : Nat} (hK : h 73 17 = nI nK) (hn : nK ≤ 12) (e : ∀ k, k < nK → h 92 k = h (25 + k) 3) : pm_count_64 h nv_fu 0 0 = some ((List.range' 0 nK).foldl (fun s i => sp_open h i s) 0) := by
  have key := (pu_fold (fun n (s : Int32) x => pm_count_64 h n s x) nK (fun _ _ => True) (fun i s => sp_open h i s) some (fun n i s hi _ => ⟨by
    rw [pm_count_64, hK, if_neg (nI_ge hi (by omega)), if_pos (pu_inb (by omega) (by omega)), nI_clamp (by omega), nI_1, e i hi]
    unfold sp_open
    by_cases c : h (25 + i) 3 = -1
    · rw [if_pos c, if_pos c]; rfl
    · rw [if_neg c, if_neg c, show s + nv_bi false = s from Int32.add_zero s], trivial⟩) (fun n s _ => by rw [pm_count_64, hK, if_pos (nI_le (Nat.le_refl _) (by omega))]) nK 0 nv_fu 0 (by omega) (show nK < 4000 by omega) trivial).1
  rw [nI_0] at key
  exact key
theorem fc_purses_sp (h : nv_Hp) : fc_allPurses h = some ((List.range' 0 8).foldl (fun s i => s + h 1 i) 0) := by
  unfold fc_allPurses
  have key := (pu_fold (fun n (s : Int32) x => fc_allPurses_4 h n s x) 8 (fun _ _ => True) (fun i s => s + h 1 i) some (fun n i s hi _ => ⟨by
    rw [fc_allPurses_4, if_neg (show ¬ (8 : Int32) ≤ nI i from nI_ge (b := 8) hi (by omega)), if_pos (pu_inb (by omega) (by omega)), nI_clamp (by omega), nI_1, pu_ltE], trivial⟩) (fun n s _ => by rw [fc_allPurses_4, if_pos (show (8 : Int32) ≤ nI 8 by decide)]) 8 0 nv_fu 0 (by omega) (show 8 < 4000 by omega) trivial).1
  rw [nI_0] at key
  exact key
theorem pm_purses_sp {h : nv_Hp} (e : ∀ i, i < 8 → h 78 i = h 1 i) : pm_count_119 h nv_fu 0 0 = some ((List.range' 0 8).foldl (fun s i => s + h 1 i) 0) := by
  have key := (pu_fold (fun n (s : Int32) x => pm_count_119 h n s x) 8 (fun _ _ => True) (fun i s => s + h 1 i) some (fun n i s hi _ => ⟨by
    rw [pm_count_119, if_neg (show ¬ (8 : Int32) ≤ nI i from nI_ge (b := 8) hi (by omega)), if_pos (pu_inb (by omega) (by omega)), nI_clamp (by omega), nI_1, e i hi, pu_ltE], trivial⟩) (fun n s _ => by rw [pm_count_119, if_pos (show (8 : Int32) ≤ nI 8 by decide)]) 8 0 nv_fu 0 (by omega) (show 8 < 4000 by omega) trivial).1
  rw [nI_0] at key
  exact key
theorem op_count {h : nv_Hp} (R : pu_R h) (x1 : Int32) : pu_o0 (fc_count h x1) (pm_count h x1) := by
  obtain ⟨nL, nK, nB, nA, r⟩ := R
  obtain ⟨r1, r2, r3, r4, r5, r6, r7, r8⟩ := r
  obtain ⟨s0, _, u1, u2, _⟩ := (r7 0 (by omega)).1
  obtain ⟨s1, _, v1, v2, _⟩ := (r7 1 (by omega)).1
  have u1 : h 59 2 = nI s0 := u1
  have v1 : h 62 2 = nI s1 := v1
  have z5 : nv_inb ((5 : Int32) - 5) 2 = true := by decide
  have z6 : nv_inb ((6 : Int32) - 5) 2 = true := by decide
  have y5 : ((5 : Int32) - 5).toNatClampNeg = 0 := by decide
  have y6 : ((6 : Int32) - 5).toNatClampNeg = 1 := by decide
  unfold fc_count pm_count
  rw [fc_open_sp r2.2.1.1 r2.2.1.2.2, pm_open_sp r2.2.1.2.1 r2.2.1.2.2 (fun k hk => (r4 k hk).1 3 (by omega)), fc_purses_sp, pm_purses_sp (fun i hi => (r1 i hi).1), r2.1.1, r2.1.2.1, r2.2.1.1, r2.2.1.2.1, r2.2.2.1.1, r2.2.2.1.2.1, r2.2.2.2.1.1, r2.2.2.2.1.2.1, r2.2.2.2.2, u1, v1]
  by_cases c0 : x1 = 0
  · rw [if_pos c0, if_pos c0]; exact ⟨_, rfl, rfl⟩
  rw [if_neg c0, if_neg c0]
  by_cases c1 : x1 = 1
  · rw [if_pos c1, if_pos c1]; exact ⟨_, rfl, rfl⟩
  rw [if_neg c1, if_neg c1]
  by_cases c2 : x1 = 2
  · rw [if_pos c2, if_pos c2]; exact ⟨_, rfl, rfl⟩
  rw [if_neg c2, if_neg c2]
  by_cases c3 : x1 = 3
  · rw [if_pos c3, if_pos c3]; exact ⟨_, rfl, rfl⟩
  rw [if_neg c3, if_neg c3]
  by_cases c4 : x1 = 4
  · rw [if_pos c4, if_pos c4]; exact ⟨_, rfl, rfl⟩
  rw [if_neg c4, if_neg c4]
  by_cases c5 : x1 = 5
  · rw [if_pos c5, if_pos c5, c5, if_pos z5, y5, u2]; exact ⟨_, rfl, rfl⟩
  rw [if_neg c5, if_neg c5]
  by_cases c6 : x1 = 6
  · rw [if_pos c6, if_pos c6, c6, if_pos z6, y6, v2]; exact ⟨_, rfl, rfl⟩
  rw [if_neg c6, if_neg c6]
  by_cases c7 : x1 = 7
  · rw [if_pos c7, if_pos c7]; exact ⟨_, rfl, rfl⟩
  rw [if_neg c7, if_neg c7]
  by_cases c8 : x1 = 8
  · rw [if_pos c8]; exact ⟨_, rfl, rfl⟩
  rw [if_neg c8]; exact ⟨_, rfl, rfl⟩
