/-! ===== specs: a law's text ===== -/
def pa_s (t : Nat → Int32) (sz a : Nat) : Int32 := if a < sz then t a else -1
def pa_def (j : Nat) : Int32 := List.getD [1, 1, 10, 0, 10, 1, 0, 1, 1] j 0
def pa_max (j : Nat) : Int32 := List.getD [2, 1, 99, 99, 99, 1, 2, 2, 9] j 0
def pa_ch (j : Nat) : Int32 := List.getD [98, 115, 112, 116, 97, 119, 110, 111, 99] j 0
def pa_let (s : Int32) : Option Nat := (List.range 9).find? fun i => decide (pa_ch i = s)
def pa_isf (s : Int32) : Bool := fc_isWithin s 48 57
def pa_fig (s : Nat → Int32) (a : Nat) : Nat := if pa_isf (s a) = true then (if pa_isf (s (a + 1)) = true then 2 else 1) else 0
def pa_num (s : Nat → Int32) (a f : Nat) : Int32 := if f = 1 then 0 * 10 + s a - 48 else (0 * 10 + s a - 48) * 10 + s (a + 1) - 48
def pa_part (s : Nat → Int32) (a : Nat) : Nat × Option (Nat × Int32) := match pa_let (s a) with
  | none => (a, none)
  | some l => if s (a + 1) = 61 then (if pa_fig s (a + 2) = 0 then (a + 2, none) else if pa_num s (a + 2) (pa_fig s (a + 2)) ≤ pa_max l then (a + 2 + pa_fig s (a + 2), some (l, pa_num s (a + 2) (pa_fig s (a + 2)))) else (a + 2, none)) else (a + 1, none)
def pa_go (s : Nat → Int32) (sz : Nat) : Nat → Nat → (Nat → Int32) → Int32 × (Nat → Int32)
  | 0, a, _ => (nI a, pa_def)
  | n + 1, a, w => match pa_part s a with
    | (p, none) => (nI p, pa_def)
    | (p, some (l, v)) => if p < sz then (if s p = 59 then pa_go s sz n (p + 1) (fun j => if j = l then v else w j) else (nI p, pa_def)) else (-1, fun j => if j = l then v else w j)
def pa_all (t : Nat → Int32) (sz : Nat) : Int32 × (Nat → Int32) := if sz = 0 then (-1, pa_def) else pa_go (pa_s t sz) sz 100 0 pa_def
theorem fw_sign_sp {h : nv_Hp} {k0 sz a : Nat} (hs : h k0 2 = nI sz) (hz : sz ≤ 60) (ha : a < 1000) : fw_signAt h k0 (nI a) = some (pa_s (h (k0 + 1)) sz a) := by
  unfold fw_signAt pa_s
  rw [hs, if_neg (nI_pos (by omega))]
  by_cases c : a < sz
  · rw [if_neg (nI_ge c (by omega)), if_neg (show ¬ (60 : Int32) ≤ nI a from nI_ge (b := 60) (by omega) (by omega)), if_pos (pu_inb (by omega) (by omega)), nI_clamp (by omega), if_pos c]
  · rw [if_pos (nI_le (by omega) (by omega)), if_neg c]
theorem fw_let_sp (h : nv_Hp) (s : Int32) : fw_letterOf h s = some (match pa_let s with | some j => nI j | none => -1) := by
  unfold fw_letterOf pa_let
  rw [← nI_0, pu_find (fw_letterOf_2 h s) 9 (fun i => decide (pa_ch i = s)) (fun i => some (nI i)) (some (-1)) (fun n i hi => by
    rw [fw_letterOf_2, if_neg (show ¬ (9 : Int32) ≤ nI i from nI_ge (b := 9) (by omega) (by omega)), if_pos (pu_inb (by omega) (by omega)), nI_clamp (by omega), nI_1]
    unfold pa_ch
    simp only [decide_eq_true_eq]) (fun n => by rw [fw_letterOf_2, if_pos (show (9 : Int32) ≤ nI 9 from nI_le (a := 9) (b := 9) (by omega) (by omega))]) 9 0 nv_fu (by omega) (show 9 < 4000 by omega), ← List.range_eq_range']
  cases (List.range 9).find? (fun i => decide (pa_ch i = s)) <;> rfl
theorem pa_let_lt {s : Int32} {l : Nat} (h : pa_let s = some l) : l < 9 := List.mem_range.mp (List.mem_of_find?_eq_some h)
theorem pa_let_m1 : pa_let (-1) = none := by decide
theorem fw_fig_sp {h : nv_Hp} {k0 sz a : Nat} (hs : h k0 2 = nI sz) (hz : sz ≤ 60) (ha : a < 900) : fw_figuresFrom h k0 (nI a) = some (nI (pa_fig (pa_s (h (k0 + 1)) sz) a)) := by
  have key : ∀ x, x < 950 → fw_isFigureAt h k0 (nI x) = some (pa_isf (pa_s (h (k0 + 1)) sz x)) := by
    intro x hx
    unfold fw_isFigureAt
    rw [fw_sign_sp hs hz (by omega), Option.bind_some]
    unfold pa_isf fc_isWithin
    split
    · rfl
    · split <;> rfl
  unfold fw_figuresFrom pa_fig
  rw [key a (by omega), Option.bind_some, nI_1, key (a + 1) (by omega), Option.bind_some]
  split
  · split <;> rfl
  · rfl
theorem fw_num_sp {h : nv_Hp} {k0 sz a f : Nat} (hs : h k0 2 = nI sz) (hz : sz ≤ 60) (ha : a < 900) (hf : f = 1 ∨ f = 2) : fw_numberFrom h k0 (nI a) (nI f) = some (pa_num (pa_s (h (k0 + 1)) sz) a f) := by
  have st : ∀ (n i : Nat) (x : Int32), i < f → fw_numberFrom_5 h k0 (nI a) (nI f) (n + 1) x (nI i) = fw_numberFrom_5 h k0 (nI a) (nI f) n (x * 10 + pa_s (h (k0 + 1)) sz (a + i) - 48) (nI (i + 1)) := by
    intro n i x hi
    rw [fw_numberFrom_5, if_neg (nI_ge hi (by omega)), nI_add, fw_sign_sp hs hz (by omega), Option.bind_some, nI_1]
    rfl
  have en : ∀ (n : Nat) (x : Int32), fw_numberFrom_5 h k0 (nI a) (nI f) (n + 1) x (nI f) = some x := by
    intro n x
    rw [fw_numberFrom_5, if_pos (nI_le (Nat.le_refl _) (by omega))]
  unfold fw_numberFrom pa_num
  show fw_numberFrom_5 h k0 (nI a) (nI f) (3997 + 1 + 1 + 1) 0 (nI 0) = _
  rcases hf with rfl | rfl
  · rw [st _ 0 _ (by omega), en]; rfl
  · rw [st _ 0 _ (by omega), st _ 1 _ (by omega), en]; rfl
theorem pa_fig_12 {s : Nat → Int32} {a : Nat} (h : pa_fig s a ≠ 0) : pa_fig s a = 1 ∨ pa_fig s a = 2 := by
  unfold pa_fig at *
  split
  · split
    · exact Or.inr rfl
    · exact Or.inl rfl
  · rename_i q
    rw [if_neg q] at h
    exact absurd rfl h
theorem pa_go_def (s : Nat → Int32) (sz : Nat) : ∀ (m a : Nat) (w : Nat → Int32), (pa_go s sz m a w).1 ≠ -1 → (pa_go s sz m a w).2 = pa_def := by
  intro m
  induction m with
  | zero => intro a w _; rfl
  | succ m ih =>
    intro a w hn
    rw [pa_go] at *
    rcases e : pa_part s a with ⟨p, _ | ⟨l, v⟩⟩
    · rfl
    · rw [e] at hn
      simp only at hn ⊢
      by_cases c : p < sz
      · rw [if_pos c] at hn ⊢
        by_cases d : s p = 59
        · rw [if_pos d] at hn ⊢
          exact ih _ _ hn
        · rw [if_neg d]
      · rw [if_neg c] at hn
        exact absurd rfl hn
theorem fw_take_sp {k0 sz : Nat} {t : Nat → Int32} (hz : sz ≤ 60) : ∀ (m n a p : Nat) (h : nv_Hp) (w : Nat → Int32), h k0 2 = nI sz → h (k0 + 1) = t → (∀ j, j < 9 → h (k0 + 2) j = w j) → a ≤ sz → 4 * p ≤ a → sz < a + m → sz < a + n →
    ∃ h', fw_takeParts_4 k0 n (nI a) (nI p) h = some ((pa_go (pa_s t sz) sz m a w).1, h') ∧ (∀ k, k ≠ k0 + 2 → h' k = h k) ∧ ((pa_go (pa_s t sz) sz m a w).1 = -1 → ∀ j, j < 9 → h' (k0 + 2) j = (pa_go (pa_s t sz) sz m a w).2 j) := by
  intro m
  induction m with
  | zero => intro n a p h w _ _ _ h1 _ h2 _; omega
  | succ m ih =>
    intro n a p h w hs ht hw ha hp hm hn
    obtain ⟨n, rfl⟩ : ∃ n', n = n' + 1 := ⟨n - 1, by omega⟩
    rw [fw_takeParts_4, if_neg (show ¬ (60 : Int32) ≤ nI p from nI_ge (b := 60) (by omega) (by omega)), hs, if_neg (nI_nlt ha (by omega)), fw_sign_sp hs hz (by omega), Option.bind_some, fw_let_sp, Option.bind_some, ht, nI_1, show nI a + 2 = nI (a + 2) from nI_add a 2, fw_sign_sp hs hz (by omega), ht, pa_go]
    unfold pa_part
    cases e : pa_let (pa_s t sz a) with
    | none => exact ⟨h, if_pos rfl, fun _ _ => rfl, fun q => absurd q (pu_m1 (by omega))⟩
    | some l =>
      have hl := pa_let_lt e
      simp only []
      rw [if_neg (pu_m1 (by omega)), Option.bind_some]
      by_cases c : pa_s t sz (a + 1) = 61
      · rw [if_pos c, if_pos c, fw_fig_sp hs hz (by omega), Option.bind_some, ht]
        by_cases d : pa_fig (pa_s t sz) (a + 2) = 0
        · rw [d]
          exact ⟨h, if_pos rfl, fun _ _ => rfl, fun q => absurd q (pu_m1 (by omega))⟩
        · have f12 := pa_fig_12 d
          rw [if_neg (nI_ne0 (by omega) (by omega)), if_neg d, fw_num_sp hs hz (by omega) f12, Option.bind_some, if_pos (pu_inb (by omega) (by omega)), nI_clamp (by omega), ht, show List.getD ([2, 1, 99, 99, 99, 1, 2, 2, 9] : List Int32) l 0 = pa_max l from rfl]
          by_cases g : pa_num (pa_s t sz) (a + 2) (pa_fig (pa_s t sz) (a + 2)) ≤ pa_max l
          · rw [if_pos g, if_pos g]
            unfold nv_lt
            simp only [Option.bind_some]
            rw [show (2 : Int32) + nI (pa_fig (pa_s t sz) (a + 2)) = nI (2 + pa_fig (pa_s t sz) (a + 2)) from nI_add 2 _, nI_add, pu_up_c (show k0 ≠ k0 + 2 by omega), hs, show a + (2 + pa_fig (pa_s t sz) (a + 2)) = a + 2 + pa_fig (pa_s t sz) (a + 2) by omega]
            by_cases c2 : a + 2 + pa_fig (pa_s t sz) (a + 2) < sz
            · rw [if_pos (nI_lt c2 (by omega)), if_pos c2, fw_sign_sp (sz := sz) (by rw [pu_up_c (show k0 ≠ k0 + 2 by omega)]; exact hs) hz (by omega), Option.bind_some, pu_up_c (show k0 + 1 ≠ k0 + 2 by omega), ht]
              by_cases d2 : pa_s t sz (a + 2 + pa_fig (pa_s t sz) (a + 2)) = 59
              · rw [if_pos d2, if_pos d2, nI_1, nI_1]
                obtain ⟨h', q1, q2, q3⟩ := ih n (a + 2 + pa_fig (pa_s t sz) (a + 2) + 1) (p + 1) (nv_up h (k0 + 2) l (pa_num (pa_s t sz) (a + 2) (pa_fig (pa_s t sz) (a + 2)))) (fun j => if j = l then pa_num (pa_s t sz) (a + 2) (pa_fig (pa_s t sz) (a + 2)) else w j) (by rw [pu_up_c (show k0 ≠ k0 + 2 by omega)]; exact hs) (by rw [pu_up_c (show k0 + 1 ≠ k0 + 2 by omega)]; exact ht) (fun j hj => by
                  by_cases jl : j = l
                  · subst jl; rw [nv_up_s, if_pos rfl]
                  · rw [nv_up_j _ _ jl, if_neg jl]; exact hw j hj) (by omega) (by omega) (by omega) (by omega)
                exact ⟨h', q1, fun k hk => by rw [q2 k hk, pu_up_c hk], q3⟩
              · rw [if_neg d2, if_neg d2]
                exact ⟨_, rfl, fun k hk => pu_up_c hk, fun q => absurd q (pu_m1 (by omega))⟩
            · rw [if_neg (nI_nlt (by omega) (by omega)), if_neg c2]
              exact ⟨_, rfl, fun k hk => pu_up_c hk, fun _ j hj => by
                  by_cases jl : j = l
                  · subst jl; rw [nv_up_s]; exact (if_pos rfl).symm
                  · rw [nv_up_j _ _ jl]; exact (hw j hj).trans (if_neg jl).symm⟩
          · rw [if_neg g, if_neg g]
            exact ⟨h, rfl, fun _ _ => rfl, fun q => absurd q (pu_m1 (by omega))⟩
      · rw [if_neg c, if_neg c]
        exact ⟨h, rfl, fun _ _ => rfl, fun q => absurd q (pu_m1 (by omega))⟩
theorem fw_forget_sp (h : nv_Hp) (k0 : Nat) : (∀ k, k ≠ k0 + 2 → fw_forgetParts h k0 k = h k) ∧ ∀ j, j < 9 → fw_forgetParts h k0 (k0 + 2) j = pa_def j := by
  unfold fw_forgetParts nv_lt nv_cp
  refine ⟨fun k hk => by funext j; exact if_neg hk, fun j hj => ?_⟩
  show (if k0 + 2 = k0 + 2 then va_cpy _ _ 0 0 9 j else _) = _
  rw [if_pos rfl, pk_cpy_in (by omega) (by omega)]
  show List.getD _ (0 + (j - 0)) 0 = _
  rw [Nat.zero_add, Nat.sub_zero]
  rfl
theorem fw_und_sp {h : nv_Hp} {k0 sz : Nat} (hs : h k0 2 = nI sz) (hz : sz ≤ 60) : ∃ h', fw_understand h k0 = some h' ∧ (∀ k, k ≠ k0 → k ≠ k0 + 2 → h' k = h k) ∧ (∀ j, j ≠ 3 → h' k0 j = h k0 j) ∧ h' k0 3 = (pa_all (h (k0 + 1)) sz).1 ∧ ∀ j, j < 9 → h' (k0 + 2) j = (pa_all (h (k0 + 1)) sz).2 j := by
  obtain ⟨f1, f2⟩ := fw_forget_sp h k0
  have fin : ∀ (h1 : nv_Hp) (v : Int32) (w : Nat → Int32), (∀ k, k ≠ k0 + 2 → h1 k = h k) → (v = -1 → ∀ j, j < 9 → h1 (k0 + 2) j = w j) → (v ≠ -1 → w = pa_def) → ∃ h', fw_understand_20 h1 k0 k0 v = some h' ∧ (∀ k, k ≠ k0 → k ≠ k0 + 2 → h' k = h k) ∧ (∀ j, j ≠ 3 → h' k0 j = h k0 j) ∧ h' k0 3 = v ∧ ∀ j, j < 9 → h' (k0 + 2) j = w j := by
    intro h1 v w e1 e2 e3
    unfold fw_understand_20 nv_lt
    simp only [nv_up_s]
    by_cases c : v = -1
    · rw [if_pos c]
      exact ⟨_, rfl, fun k a b => by rw [pu_up_c a]; exact e1 k b, fun j hj => by rw [nv_up_j _ _ hj, e1 k0 (by omega)], nv_up_s .., fun j hj => by rw [nv_up_k _ _ (by omega)]; exact e2 c j hj⟩
    · rw [if_neg c]
      obtain ⟨g1, g2⟩ := fw_forget_sp (nv_up h1 k0 3 v) k0
      exact ⟨_, rfl, fun k a b => by rw [g1 k b, pu_up_c a]; exact e1 k b, fun j hj => by rw [g1 k0 (by omega), nv_up_j _ _ hj, e1 k0 (by omega)], by rw [g1 k0 (by omega), nv_up_s], fun j hj => by rw [g2 j hj, e3 c]⟩
  unfold fw_understand nv_lt pa_all
  simp only [f1 k0 (show k0 ≠ k0 + 2 by omega), hs]
  by_cases c : sz = 0
  · subst c
    rw [if_pos rfl, if_pos nI_0]
    exact fin _ _ _ f1 (fun _ => f2) (fun _ => rfl)
  · rw [if_neg c, if_neg (nI_ne0 (by omega) (by omega))]
    obtain ⟨h', q1, q2, q3⟩ := fw_take_sp (k0 := k0) (t := h (k0 + 1)) hz 100 nv_fu 0 0 (fw_forgetParts h k0) pa_def (by rw [f1 k0 (by omega)]; exact hs) (f1 _ (by omega)) f2 (by omega) (by omega) (by omega) (show sz < 0 + 4000 by omega)
    unfold fw_takeParts
    rw [← nI_0, q1]
    exact fin _ _ _ (fun k hk => (q2 k hk).trans (f1 k hk)) q3 (pa_go_def _ _ _ _ _)
