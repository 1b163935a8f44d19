/-! ===== settling: what is asked is nothing or what is due ===== -/
theorem st_max {V : Int32} {e : Nat} (hV : V = nI e) (he : e < 2 ^ 31) {s a : Int32} (hs : s = 0 ∨ s = V) (ha : a = 0 ∨ a = V) : (fj_max s a = 0 ∨ fj_max s a = V) ∧ (s = V → fj_max s a = V) ∧ (a = V → fj_max s a = V) := by
  unfold fj_max
  have nv : ¬ V < 0 := by rw [hV]; exact nI_pos he
  have irr : ∀ x : Int32, ¬ x < x := fun x => Int32.lt_irrefl
  rcases hs with hs | hs <;> rcases ha with ha | ha <;> rw [hs, ha]
  · rw [if_neg (irr _)]; exact ⟨Or.inl rfl, fun q => q, fun q => q⟩
  · by_cases c : 0 < V
    · rw [if_pos c]; exact ⟨Or.inr rfl, fun _ => rfl, fun _ => rfl⟩
    · have : V = 0 := pu_eq (by rw [pu_lt] at c nv; omega)
      rw [if_neg c]; exact ⟨Or.inl rfl, fun q => q, fun _ => this.symm⟩
  · rw [if_neg nv]; exact ⟨Or.inr rfl, fun _ => rfl, fun _ => rfl⟩
  · rw [if_neg (irr _)]; exact ⟨Or.inr rfl, fun _ => rfl, fun _ => rfl⟩
theorem st_due_sp {A : Nat → Int32} {V : Int32} {e : Nat} (hV : V = nI e) (he : e < 2 ^ 31) (hA : ∀ x, x < 8 → A x = 0 ∨ A x = V) : (∀ x, x < 8 → A x = 0 ∨ A x = st_due A) ∧ (st_due A = 0 ∨ st_due A = V) := by
  have key : ∀ (l : List Nat) (s : Int32), (∀ i, i ∈ l → i < 8) → (s = 0 ∨ s = V) → (l.foldl (fun s x => fj_max s (A x)) s = 0 ∨ l.foldl (fun s x => fj_max s (A x)) s = V) ∧ ((s = V ∨ ∃ x, x ∈ l ∧ A x = V) → l.foldl (fun s x => fj_max s (A x)) s = V) := by
    intro l
    induction l with
    | nil =>
      intro s _ hs
      refine ⟨hs, ?_⟩
      rintro (q | ⟨x, hx, _⟩)
      · exact q
      · cases hx
    | cons a t ih =>
      intro s hl hs
      obtain ⟨m1, m2, m3⟩ := st_max hV he hs (hA a (hl a (List.mem_cons_self ..)))
      obtain ⟨i1, i2⟩ := ih (fj_max s (A a)) (fun i hi => hl i (List.mem_cons_of_mem _ hi)) m1
      rw [List.foldl_cons]
      refine ⟨i1, ?_⟩
      rintro (q | ⟨x, hx, ex⟩)
      · exact i2 (Or.inl (m2 q))
      · rcases List.mem_cons.mp hx with rfl | hx
        · exact i2 (Or.inl (m3 ex))
        · exact i2 (Or.inr ⟨x, hx, ex⟩)
  obtain ⟨k1, k2⟩ := key (List.range' 0 8) 0 (fun i hi => by have := List.mem_range'_1.mp hi; omega) (Or.inl rfl)
  refine ⟨fun x hx => ?_, k1⟩
  rcases hA x hx with q | q
  · exact Or.inl q
  · refine Or.inr ?_
    rw [q]
    exact (k2 (Or.inr ⟨x, List.mem_range'_1.mpr (by omega), q⟩)).symm
theorem sA_V {w bg : Nat → Int32} {bits : Int32} {W : Nat} (h5 : bg 5 = nI W) (hW : W ≤ 999) : ∃ e, e ≤ 1098 ∧ ∀ x : Nat, sA w bg bits (nI x) = 0 ∨ sA w bg bits (nI x) = nI e := by
  have tenth : nI W / 10 = nI (W / 10) := pk_div (d := 10) (by omega) (by omega) (by omega)
  unfold sA
  by_cases c : bits = 0
  · subst c
    simp only [pu_bit0, Bool.false_eq_true, if_false, if_true]
    by_cases w0 : w 7 = 0
    · exact ⟨0, by omega, fun x => Or.inl (by rw [if_pos w0, ite_self])⟩
    · by_cases w1 : w 7 = 1
      · refine ⟨W, by omega, fun x => ?_⟩
        rw [if_neg w0, if_pos w1, h5]
        split
        · exact Or.inr rfl
        · exact Or.inl rfl
      · refine ⟨W + W / 10, by omega, fun x => ?_⟩
        rw [if_neg w0, if_neg w1, h5, tenth, nI_add]
        split
        · exact Or.inr rfl
        · exact Or.inl rfl
  · refine ⟨W, by omega, fun x => ?_⟩
    rw [if_neg c, h5]
    split
    · exact Or.inr rfl
    · exact Or.inl rfl
