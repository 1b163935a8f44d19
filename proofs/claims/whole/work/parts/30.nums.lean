/-! ===== the pure part: numbers, indices, loops ===== -/
theorem nI_lit (n : Nat) [OfNat Int32 n] : nI n = Int32.ofNat n := rfl
theorem pu_inb {i n : Nat} (h : i < n) (hn : n < 2 ^ 31) : nv_inb (nI i) n = true := by
  unfold nv_inb
  rw [nI_clamp (by omega)]
  simp only [Bool.and_eq_true, decide_eq_true_eq]
  exact ⟨nI_pos (by omega), h⟩
theorem pu_ofinb {x : Int32} {n : Nat} (h : nv_inb x n = true) : ∃ i, i < n ∧ x = nI i := by
  unfold nv_inb at h
  simp only [Bool.and_eq_true, decide_eq_true_eq] at h
  obtain ⟨j, hj, rfl⟩ := nI_of h.1
  rw [nI_clamp hj] at h
  exact ⟨j, h.2, rfl⟩
theorem pu_le (a b : Int32) : a ≤ b ↔ a.toInt ≤ b.toInt := Int32.le_iff_toInt_le
theorem pu_lt (a b : Int32) : a < b ↔ a.toInt < b.toInt := Int32.lt_iff_toInt_lt
theorem pu_eq {a b : Int32} (h : a.toInt = b.toInt) : a = b := Int32.toInt_inj.mp h
theorem pu_n1 {n : Nat} (h : n < 2 ^ 30) : (nI n - 1).toInt = (n : Int) - 1 := by
  rw [show (1 : Int32) = nI 1 from rfl, pk_sub_toInt (a := n) (b := 1) h (by decide)]
  rfl
theorem pu_within (x a b : Int32) : fc_isWithin x a b = decide (a ≤ x ∧ x ≤ b) := by
  unfold fc_isWithin
  by_cases h1 : x < a
  · rw [if_pos h1]
    have : ¬ a ≤ x := Int32.not_le.mpr h1
    simp [this]
  · rw [if_neg h1]
    have h1' : a ≤ x := Int32.not_lt.mp h1
    by_cases h2 : b < x
    · rw [if_pos h2]
      have : ¬ x ≤ b := Int32.not_le.mpr h2
      simp [this]
    · rw [if_neg h2]
      have h2' : x ≤ b := Int32.not_lt.mp h2
      simp [h1', h2']
theorem pu_in (x a b : Int32) : pm_in x.toInt64 a.toInt64 b.toInt64 = fc_isWithin x a b := by
  have w : ∀ u v : Int32, u.toInt64 < v.toInt64 ↔ u < v := fun u v => by
    rw [Int64.lt_iff_toInt_lt, Int32.lt_iff_toInt_lt, Int32.toInt_toInt64, Int32.toInt_toInt64]
  have we : ∀ u v : Int32, u.toInt64 = v.toInt64 ↔ u = v := fun u v => by
    constructor
    · intro h
      apply Int32.toInt_inj.mp
      rw [← Int32.toInt_toInt64, ← Int32.toInt_toInt64, h]
    · intro h; rw [h]
  have c1 : ∀ u v : Int32, (lg_cmp u.toInt64 v.toInt64 < 0) ↔ u < v := fun u v => by
    unfold lg_cmp
    by_cases h1 : v < u
    · have h1' := (w v u).mpr h1
      rw [if_pos h1']
      have : ¬ u < v := Int32.not_lt.mpr (Int32.le_of_lt h1)
      simp only [this, iff_false]; decide
    · have h1' : ¬ v.toInt64 < u.toInt64 := fun q => h1 ((w v u).mp q)
      rw [if_neg h1']
      by_cases h2 : u = v
      · subst h2
        rw [if_pos rfl]
        have : ¬ u < u := Int32.lt_irrefl
        simp only [this, iff_false]; decide
      · have h2' : ¬ u.toInt64 = v.toInt64 := fun q => h2 ((we u v).mp q)
        rw [if_neg h2']
        have : u < v := by
          rcases Int.lt_trichotomy u.toInt v.toInt with q | q | q
          · exact (pu_lt _ _).mpr q
          · exact absurd (pu_eq q) h2
          · exact absurd ((pu_lt _ _).mpr q) h1
        simp only [this, iff_true]; decide
  have c2 : ∀ u v : Int32, (0 < lg_cmp u.toInt64 v.toInt64) ↔ v < u := fun u v => by
    unfold lg_cmp
    by_cases h1 : v < u
    · have h1' := (w v u).mpr h1
      rw [if_pos h1']
      simp only [h1, iff_true]; decide
    · have h1' : ¬ v.toInt64 < u.toInt64 := fun q => h1 ((w v u).mp q)
      rw [if_neg h1']
      simp only [h1, iff_false]
      split <;> decide
  unfold pm_in fc_isWithin
  simp only [c1, c2]
theorem pu_in0 (x b : Int32) : pm_in x.toInt64 0 b.toInt64 = fc_isWithin x 0 b := pu_in x 0 b
theorem pu_inc (x : Int32) (a b : Int32) {A B : Int64} (ha : a.toInt64 = A) (hb : b.toInt64 = B) : pm_in x.toInt64 A B = fc_isWithin x a b := by
  subst ha; subst hb; exact pu_in x a b
theorem pu_pers (x : Int32) : pm_isPerson x = fc_isPerson x := pu_inc x 0 7 (by decide) (by decide)
theorem pu_day (x : Int32) : pm_isDay x = fc_isDay x := pu_inc x 0 99 (by decide) (by decide)
theorem pu_sheet (x : Int32) : pm_isSheet x = fc_isSheet x := pu_inc x 0 3 (by decide) (by decide)
theorem pu_two (x : Int32) : pm_isTwo x = fc_isLaw x := pu_inc x 0 1 (by decide) (by decide)
theorem pu_kind (x : Int32) : pm_in x.toInt64 0 2 = fc_isKind x := pu_inc x 0 2 (by decide) (by decide)
theorem pu_amount (x : Int32) : pm_in x.toInt64 0 999 = fc_isAmount x := pu_inc x 0 999 (by decide) (by decide)
theorem pu_flag (x : Int32) : fc_isFlag x = fc_isLaw x := by
  unfold fc_isFlag fc_isLaw
  rw [pu_within]
  by_cases h0 : x = 0
  · subst h0; decide
  · rw [if_neg h0]
    by_cases h1 : x = 1
    · subst h1; decide
    · rw [if_neg h1]
      symm
      simp only [decide_eq_false_iff_not]
      rintro ⟨a, b⟩
      rw [pu_le] at a b
      have e0 : (0 : Int32).toInt = 0 := by decide
      have e1 : (1 : Int32).toInt = 1 := by decide
      rw [e0] at a
      rw [e1] at b
      have n0 : x.toInt ≠ 0 := fun q => h0 (pu_eq (q.trans e0.symm))
      have n1 : x.toInt ≠ 1 := fun q => h1 (pu_eq (q.trans e1.symm))
      omega
/-- an index that is asked of: x = nI i -/
theorem pu_idx {x : Int32} {n : Nat} (hn : n < 2 ^ 30) (h : fc_isWithin x 0 (nI n - 1) = true) : ∃ i, i < n ∧ x = nI i := by
  rw [pu_within, decide_eq_true_eq, pu_le, pu_le, pu_n1 hn] at h
  have e0 : (0 : Int32).toInt = 0 := by decide
  rw [e0] at h
  obtain ⟨j, hj, rfl⟩ := nI_of (x := x) (by rw [pu_lt, e0]; omega)
  rw [nI_toInt hj] at h
  exact ⟨j, by omega, rfl⟩
theorem pu_ido {n i : Nat} (hn : n < 2 ^ 30) (h : i < n) : fc_isWithin (nI i) 0 (nI n - 1) = true := by
  rw [pu_within, decide_eq_true_eq, pu_le, pu_le, pu_n1 hn, nI_toInt (by omega)]
  have e0 : (0 : Int32).toInt = 0 := by decide
  rw [e0]
  omega
theorem pu_idk {x : Int32} (n : Nat) {m : Int32} (hm : m.toInt = (n : Int)) (h : fc_isWithin x 0 m = true) : ∃ i, i ≤ n ∧ x = nI i := by
  rw [pu_within, decide_eq_true_eq, pu_le, pu_le, hm] at h
  have e0 : (0 : Int32).toInt = 0 := by decide
  rw [e0] at h
  obtain ⟨j, hj, rfl⟩ := nI_of (x := x) (by rw [pu_lt, e0]; omega)
  rw [nI_toInt hj] at h
  exact ⟨j, by omega, rfl⟩
theorem pu_person {x : Int32} (h : fc_isPerson x = true) : ∃ i, i < 8 ∧ x = nI i := by
  obtain ⟨i, h1, h2⟩ := pu_idk 7 (by decide) h
  exact ⟨i, by omega, h2⟩
theorem pu_law {x : Int32} (h : fc_isLaw x = true) : ∃ i, i < 2 ∧ x = nI i := by
  obtain ⟨i, h1, h2⟩ := pu_idk 1 (by decide) h
  exact ⟨i, by omega, h2⟩
theorem pu_sheetI {x : Int32} (h : fc_isSheet x = true) : ∃ i, i < 4 ∧ x = nI i := by
  obtain ⟨i, h1, h2⟩ := pu_idk 3 (by decide) h
  exact ⟨i, by omega, h2⟩
/-- loops: an index that goes from i up to N -/
theorem pu_fold {α σ : Type} (F : Nat → σ → Int32 → Option α) (N : Nat) (I : Nat → σ → Prop) (step : Nat → σ → σ) (K : σ → Option α)
    (hs : ∀ n i s, i < N → I i s → F (n + 1) s (nI i) = F n (step i s) (nI (i + 1)) ∧ I (i + 1) (step i s)) (hx : ∀ n s, I N s → F (n + 1) s (nI N) = K s) :
    ∀ (k i n : Nat) (s : σ), i + k = N → k < n → I i s → F n s (nI i) = K ((List.range' i k).foldl (fun s j => step j s) s) ∧ I N ((List.range' i k).foldl (fun s j => step j s) s)
  | 0, i, 0, s, _, hn, _ => absurd hn (by omega)
  | 0, i, n + 1, s, hi, _, hI => by
    have : i = N := by omega
    subst this
    exact ⟨hx n s hI, hI⟩
  | k + 1, i, 0, s, _, hn, _ => absurd hn (by omega)
  | k + 1, i, n + 1, s, hi, hn, hI => by
    obtain ⟨h1, h2⟩ := hs n i s (by omega) hI
    rw [h1, List.range'_succ, List.foldl_cons]
    exact pu_fold F N I step K hs hx k (i + 1) n (step i s) (by omega) (by omega) h2
/-- a loop that ends early where p holds -/
theorem pu_find {α : Type} (F : Nat → Int32 → Option α) (N : Nat) (p : Nat → Bool) (f : Nat → Option α) (K : Option α)
    (hs : ∀ n i, i < N → F (n + 1) (nI i) = if p i = true then f i else F n (nI (i + 1))) (hx : ∀ n, F (n + 1) (nI N) = K) :
    ∀ (k i n : Nat), i + k = N → k < n → F n (nI i) = match (List.range' i k).find? p with | some j => f j | none => K
  | 0, i, 0, _, hn => absurd hn (by omega)
  | 0, i, n + 1, hi, _ => by
    have : i = N := by omega
    subst this
    exact hx n
  | k + 1, i, 0, _, hn => absurd hn (by omega)
  | k + 1, i, n + 1, hi, hn => by
    rw [hs n i (by omega), List.range'_succ, List.find?_cons]
    by_cases hp : p i = true
    · rw [if_pos hp, hp]
    · rw [if_neg hp]
      have : p i = false := by simpa using hp
      rw [this]
      exact pu_find F N p f K hs hx k (i + 1) n (by omega) (by omega)
theorem pu_any {F : Nat → Int32 → Option Bool} {N : Nat} {p : Nat → Bool} (hs : ∀ n i, i < N → F (n + 1) (nI i) = if p i = true then some true else F n (nI (i + 1))) (hx : ∀ n, F (n + 1) (nI N) = some false) (hN : N < 4000) : F nv_fu 0 = some ((List.range N).any p) := by
  have h := pu_find F N p (fun _ => some true) (some false) hs hx N 0 nv_fu (by omega) hN
  rw [← nI_0, h, ← List.range_eq_range']
  cases hf : (List.range N).find? p with
  | none =>
    have : (List.range N).any p = false := by
      rw [List.any_eq_false]
      exact fun x hx => by simpa using List.find?_eq_none.mp hf x hx
    rw [this]
  | some j =>
    have : (List.range N).any p = true := List.any_eq_true.mpr ⟨j, List.mem_of_find?_eq_some hf, List.find?_some hf⟩
    rw [this]
theorem pu_anyc {N : Nat} {p q : Nat → Bool} (h : ∀ i, i < N → p i = q i) : (List.range N).any p = (List.range N).any q := by
  apply Bool.eq_iff_iff.mpr
  simp only [List.any_eq_true, List.mem_range]
  exact ⟨fun ⟨x, h1, h2⟩ => ⟨x, h1, by rw [← h x h1]; exact h2⟩, fun ⟨x, h1, h2⟩ => ⟨x, h1, by rw [h x h1]; exact h2⟩⟩
/-- the same with an answer that is gathered -/
theorem pu_acc {F : Nat → Bool → Int32 → Option Bool} {N : Nat} {p : Nat → Bool} (hs : ∀ n b i, i < N → F (n + 1) b (nI i) = F n (b || p i) (nI (i + 1))) (hx : ∀ n b, F (n + 1) b (nI N) = some b) (hN : N < 4000) : F nv_fu false 0 = some ((List.range N).any p) := by
  have key : ∀ (k i n : Nat) (b : Bool), i + k = N → k < n → F n b (nI i) = some (b || (List.range' i k).any p) := by
    intro k
    induction k with
    | zero =>
      intro i n b hi hn
      cases n with
      | zero => omega
      | succ n =>
        have : i = N := by omega
        subst this
        rw [hx]; simp
    | succ k ih =>
      intro i n b hi hn
      cases n with
      | zero => omega
      | succ n =>
        rw [hs n b i (by omega), ih (i + 1) n _ (by omega) (by omega), List.range'_succ, List.any_cons, Bool.or_assoc]
  rw [← nI_0, key N 0 nv_fu false (by omega) hN, Bool.false_or, ← List.range_eq_range']
