/-! ===== open backs ===== -/
def wo (p : Nat → Bool) : Nat → List Nat
  | 0 => []
  | i + 1 => if p i = true ∧ (wo p i).length < 6 then wo p i ++ [i] else wo p i
theorem wo_len (p : Nat → Bool) : ∀ i, (wo p i).length ≤ 6
  | 0 => by simp [wo]
  | i + 1 => by
    have := wo_len p i
    rw [wo]
    split
    · rename_i c; simp; omega
    · exact this
theorem wo_stop {p : Nat → Bool} {i : Nat} (h : 6 ≤ (wo p i).length) : ∀ k, wo p (i + k) = wo p i
  | 0 => rfl
  | k + 1 => by
    have ih := wo_stop h k
    rw [← Nat.add_assoc, wo, ih, if_neg (by omega)]
theorem wo_app (l : List Nat) (a j : Nat) : (l ++ [a]).getD j 0 = if j < l.length then l.getD j 0 else if j = l.length then a else 0 := by
  rw [List.getD_eq_getElem?_getD, List.getElem?_append]
  by_cases c : j < l.length
  · rw [if_pos c, if_pos c, List.getD_eq_getElem?_getD]
  · rw [if_neg c, if_neg c]
    by_cases d : j = l.length
    · subst d; simp
    · rw [if_neg d]
      obtain ⟨t, ht⟩ : ∃ t, j - l.length = t + 1 := ⟨j - l.length - 1, by omega⟩
      rw [ht]; simp
theorem wo_el (p : Nat → Bool) : ∀ i j, j < (wo p i).length → (wo p i).getD j 0 < i ∧ p ((wo p i).getD j 0) = true
  | 0, j, h => by simp [wo] at h
  | i + 1, j, h => by
    rw [wo] at h ⊢
    split at h
    · rename_i c
      rw [if_pos c, wo_app]
      by_cases d : j < (wo p i).length
      · rw [if_pos d]
        have := wo_el p i j d
        exact ⟨by omega, this.2⟩
      · have : j = (wo p i).length := by simp at h; omega
        rw [if_neg d, if_pos this]
        exact ⟨by omega, c.1⟩
    · rename_i c
      rw [if_neg c]
      have := wo_el p i j h
      exact ⟨by omega, this.2⟩
theorem wo_inc (p : Nat → Bool) : ∀ i j k, j < k → k < (wo p i).length → (wo p i).getD j 0 < (wo p i).getD k 0
  | 0, j, k, _, h => by simp [wo] at h
  | i + 1, j, k, hj, h => by
    rw [wo] at h ⊢
    split at h
    · rename_i c
      rw [if_pos c, wo_app, wo_app]
      by_cases d : k < (wo p i).length
      · rw [if_pos d, if_pos (by omega)]
        exact wo_inc p i j k hj d
      · have : k = (wo p i).length := by simp at h; omega
        rw [if_neg d, if_pos this, if_pos (by omega)]
        exact (wo_el p i j (by omega)).1
    · rename_i c
      rw [if_neg c]
      exact wo_inc p i j k hj h
theorem wo_inj {p : Nat → Bool} {i j k : Nat} (hj : j < (wo p i).length) (hk : k < (wo p i).length) (h : (wo p i).getD j 0 = (wo p i).getD k 0) : j = k := by
  rcases Nat.lt_trichotomy j k with c | c | c
  · have := wo_inc p i j k c hk; omega
  · exact c
  · have := wo_inc p i k j c hj; omega
def wo_fr (cc cj co : Nat) (B h : nv_Hp) : Prop := ∀ k j, k ≠ co → ¬ (k = cc ∧ j = cj) → h k j = B k j
theorem wo_loop {F : Nat → Int32 → nv_Hp → Option nv_Hp} {cc cj co nK : Nat} {p : Nat → Bool} {B : nv_Hp} (hco : co ≠ cc)
    (hx : ∀ n i h m, i ≤ nK → wo_fr cc cj co B h → h cc cj = nI m → m ≤ 6 → F (n + 1) (nI i) h = if nK ≤ i then some h else if 6 ≤ m then some h else if p i = true then F n (nI (i + 1)) (nv_up (nv_up h co m (nI i)) cc cj (nI (m + 1))) else F n (nI (i + 1)) h) :
    ∀ k i n h, i + k = nK → k < n → wo_fr cc cj co B h → h cc cj = nI (wo p i).length → (∀ j, j < (wo p i).length → h co j = nI ((wo p i).getD j 0)) → ∃ h', F n (nI i) h = some h' ∧ wo_fr cc cj co B h' ∧ h' cc cj = nI (wo p nK).length ∧ ∀ j, j < (wo p nK).length → h' co j = nI ((wo p nK).getD j 0) := by
  intro k
  induction k with
  | zero =>
    intro i n h hi hn hf hc ho
    obtain ⟨n, rfl⟩ : ∃ m, n = m + 1 := ⟨n - 1, by omega⟩
    have : i = nK := by omega
    subst this
    rw [hx n i h _ (Nat.le_refl _) hf hc (wo_len p i), if_pos (Nat.le_refl _)]
    exact ⟨h, rfl, hf, hc, ho⟩
  | succ k ih =>
    intro i n h hi hn hf hc ho
    obtain ⟨n, rfl⟩ : ∃ m, n = m + 1 := ⟨n - 1, by omega⟩
    have le := wo_len p i
    rw [hx n i h _ (by omega) hf hc le, if_neg (by omega)]
    by_cases c : 6 ≤ (wo p i).length
    · rw [if_pos c]
      have e := wo_stop c (k + 1)
      rw [hi] at e
      rw [e]
      exact ⟨h, rfl, hf, hc, ho⟩
    · rw [if_neg c]
      by_cases d : p i = true
      · rw [if_pos d]
        have e : wo p (i + 1) = wo p i ++ [i] := by rw [wo, if_pos ⟨d, by omega⟩]
        refine ih (i + 1) n _ (by omega) (by omega) (fun k j a b => ?_) ?_ (fun j hj => ?_)
        · rw [pu_up_ne, nv_up_k _ _ a]
          · exact hf k j a b
          · by_cases z : k = cc
            · exact Or.inr (fun y => b ⟨z, y⟩)
            · exact Or.inl z
        · rw [nv_up_s, e]; simp
        · rw [e] at hj ⊢
          rw [nv_up_k _ _ hco, wo_app]
          by_cases z : j < (wo p i).length
          · rw [nv_up_j _ _ (by omega), if_pos z]; exact ho j z
          · have : j = (wo p i).length := by simp at hj; omega
            rw [if_neg z, if_pos this, this, nv_up_s]
      · rw [if_neg d]
        have e : wo p (i + 1) = wo p i := by rw [wo, if_neg (fun z => d z.1)]
        exact ih (i + 1) n h (by omega) (by omega) hf (by rw [e]; exact hc) (by rw [e]; exact ho)
def wp (g : nv_Hp) (k : Nat) : Bool := decide (g (25 + k) 3 = -1)
theorem fc_opn_sp {h0 h : nv_Hp} {nL nK nB nA : Nat} {Q : nv_Hp → Prop} (R : pu_Rm Q h0 nL nK nB nA) (s : pu_sm h0 h) : ∃ h', fc_findOpenBacks h = some h' ∧ wo_fr 0 17 11 h h' ∧ h' 0 17 = nI (wo (wp h0) nK).length ∧ ∀ j, j < (wo (wp h0) nK).length → h' 11 j = nI ((wo (wp h0) nK).getD j 0) := by
  obtain ⟨⟨a1, a2, a3⟩, ⟨b1, b2, b3⟩, ⟨c1, c2, c3⟩, ⟨d1, d2, d3⟩, e1⟩ := R.2.1
  unfold fc_findOpenBacks
  rw [pu_ltE, ← nI_0]
  refine wo_loop (F := fc_findOpenBacks_7) (cc := 0) (cj := 17) (co := 11) (p := wp h0) (B := h) (by decide) ?_ nK 0 nv_fu _ (by omega) (show nK < 4000 by omega) (fun k j a b => ?_) ?_ (fun j hj => absurd hj (by simp [wo]))
  · intro n i g m hi hf hc hm
    rw [fc_findOpenBacks_7, hf 0 8 (by decide) (by decide), pu_sm_0 s (by decide), b1, hc]
    by_cases c : nK ≤ i
    · rw [if_pos (nI_le c (by omega)), if_pos c]
    · rw [if_neg (nI_ge (by omega) (by omega)), if_neg c]
      by_cases d : 6 ≤ m
      · rw [if_pos (show (6 : Int32) ≤ nI m from nI_le (a := 6) d (by omega)), if_pos d]
      · rw [if_neg (show ¬ (6 : Int32) ≤ nI m from nI_ge (b := 6) (by omega) (by omega)), if_neg d, if_pos (pu_inb (by omega) (by omega)), if_pos (pu_inb (by omega) (by omega)), nI_clamp (by omega), nI_clamp (by omega), nv_up_k _ _ (by decide), hc, nI_1, nI_1]
        have e : g (25 + i) 3 = h0 (25 + i) 3 := by rw [hf _ _ (by omega) (by omega), pu_sm_c s (by omega)]
        rw [e]
        unfold wp
        by_cases z : h0 (25 + i) 3 = -1
        · rw [if_pos z, if_pos (by simpa using z), Option.bind_some]
        · rw [if_neg z, if_neg (by simpa using z), Option.bind_some]
  · rw [pu_up_ne]
    by_cases z : k = 0
    · exact Or.inr (fun y => b ⟨z, y⟩)
    · exact Or.inl z
  · rw [nv_up_s]; rfl
theorem pm_opn_sp {h0 h : nv_Hp} {nL nK nB nA : Nat} {Q : nv_Hp → Prop} (R : pu_Rm Q h0 nL nK nB nA) (s : pu_sm h0 h) : ∃ h', pm_findOpen h = some h' ∧ wo_fr 73 45 111 h h' ∧ h' 73 45 = nI (wo (wp h0) nK).length ∧ ∀ j, j < (wo (wp h0) nK).length → h' 111 j = nI ((wo (wp h0) nK).getD j 0) := by
  obtain ⟨⟨a1, a2, a3⟩, ⟨b1, b2, b3⟩, ⟨c1, c2, c3⟩, ⟨d1, d2, d3⟩, e1⟩ := R.2.1
  unfold pm_findOpen
  rw [pu_ltE, ← nI_0]
  refine wo_loop (F := pm_findOpen_7) (cc := 73) (cj := 45) (co := 111) (p := wp h0) (B := h) (by decide) ?_ nK 0 nv_fu _ (by omega) (show nK < 4000 by omega) (fun k j a b => ?_) ?_ (fun j hj => absurd hj (by simp [wo]))
  · intro n i g m hi hf hc hm
    rw [pm_findOpen_7, hf 73 17 (by decide) (by decide), pu_sm_73 s (by decide), b2, hc]
    by_cases c : nK ≤ i
    · rw [if_pos (nI_le c (by omega)), if_pos c]
    · rw [if_neg (nI_ge (by omega) (by omega)), if_neg c]
      by_cases d : 6 ≤ m
      · rw [if_pos (show (6 : Int32) ≤ nI m from nI_le (a := 6) d (by omega)), if_pos d]
      · rw [if_neg (show ¬ (6 : Int32) ≤ nI m from nI_ge (b := 6) (by omega) (by omega)), if_neg d, if_pos (pu_inb (by omega) (by omega)), if_pos (pu_inb (by omega) (by omega)), nI_clamp (by omega), nI_clamp (by omega), nv_up_k _ _ (by decide), hc, nI_1, nI_1]
        have e : g 92 i = h0 (25 + i) 3 := by rw [hf _ _ (by omega) (by omega)]; exact pu_Rk_m (f := 3) R s (by omega) (by omega)
        rw [e]
        unfold wp
        by_cases z : h0 (25 + i) 3 = -1
        · rw [if_pos z, if_pos (by simpa using z), Option.bind_some]
        · rw [if_neg z, if_neg (by simpa using z), Option.bind_some]
  · rw [pu_up_ne]
    by_cases z : k = 73
    · exact Or.inr (fun y => b ⟨z, y⟩)
    · exact Or.inl z
  · rw [nv_up_s]; rfl
