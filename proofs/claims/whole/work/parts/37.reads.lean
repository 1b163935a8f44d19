/-! ===== the reference reads a law's text ===== -/
theorem pu_upself {h : nv_Hp} {k j : Nat} {v : Int32} (e : h k j = v) : nv_up h k j v = h := by
  funext a b
  unfold nv_up
  split
  · rename_i q; rw [q.1, q.2, e]
  · rfl
theorem pm_here_sp {h : nv_Hp} {l sz a : Nat} {t : Nat → Int32} (hl : l < 2) (hs : h 106 l = nI sz) (hz : sz ≤ 60) (hat : h 73 38 = nI a) (ha : a < 1000) (ht : ∀ j, h 105 (60 * l + j) = t j) : pm_here h (nI l) = some (pa_s t sz a) := by
  unfold pm_here pa_s
  rw [nI_clamp (by omega), hs, hat]
  by_cases c : a < sz
  · rw [if_neg (nI_ge c (by omega)), if_pos c, show (60 : Int32) * nI l = nI (60 * l) from pk_mul 60 l, nI_add, if_pos (pu_inb (by omega) (by omega)), nI_clamp (by omega), ht]
  · rw [if_pos (nI_le (by omega) (by omega)), if_neg c]
theorem pm_ch_sp {j : Nat} (hj : j < 9) : pm_letterOf (nI j) = pa_ch j := by
  have : ∀ j : Fin 9, pm_letterOf (nI j.1) = pa_ch j.1 := by decide
  exact this ⟨j, hj⟩
theorem pm_max_sp {j : Nat} (hj : j < 9) : pm_greatest (nI j) = pa_max j := by
  have : ∀ j : Fin 9, pm_greatest (nI j.1) = pa_max j.1 := by decide
  exact this ⟨j, hj⟩
theorem pm_def_sp {j : Nat} (hj : j < 9) : pm_usual (nI j) = pa_def j := by
  have : ∀ j : Fin 9, pm_usual (nI j.1) = pa_def j.1 := by decide
  exact this ⟨j, hj⟩
theorem pa_let_fold (s : Int32) : (List.range' 0 9).foldl (fun x j => if s = pa_ch j then nI j else x) (-1) = match pa_let s with | some j => nI j | none => -1 := by
  by_cases h0 : s = 98
  · subst h0; decide
  by_cases h1 : s = 115
  · subst h1; decide
  by_cases h2 : s = 112
  · subst h2; decide
  by_cases h3 : s = 116
  · subst h3; decide
  by_cases h4 : s = 97
  · subst h4; decide
  by_cases h5 : s = 119
  · subst h5; decide
  by_cases h6 : s = 110
  · subst h6; decide
  by_cases h7 : s = 111
  · subst h7; decide
  by_cases h8 : s = 99
  · subst h8; decide
  have e0 : pa_ch 0 = 98 := rfl
  have e1 : pa_ch 1 = 115 := rfl
  have e2 : pa_ch 2 = 112 := rfl
  have e3 : pa_ch 3 = 116 := rfl
  have e4 : pa_ch 4 = 97 := rfl
  have e5 : pa_ch 5 = 119 := rfl
  have e6 : pa_ch 6 = 110 := rfl
  have e7 : pa_ch 7 = 111 := rfl
  have e8 : pa_ch 8 = 99 := rfl
  have key : pa_let s = none := by
    unfold pa_let
    rw [List.find?_eq_none]
    intro x hx
    have hx := List.mem_range.mp hx
    simp only [decide_eq_true_eq]
    have : x = 0 ∨ x = 1 ∨ x = 2 ∨ x = 3 ∨ x = 4 ∨ x = 5 ∨ x = 6 ∨ x = 7 ∨ x = 8 := by omega
    rcases this with rfl | rfl | rfl | rfl | rfl | rfl | rfl | rfl | rfl
    · rw [e0]; exact fun q => h0 q.symm
    · rw [e1]; exact fun q => h1 q.symm
    · rw [e2]; exact fun q => h2 q.symm
    · rw [e3]; exact fun q => h3 q.symm
    · rw [e4]; exact fun q => h4 q.symm
    · rw [e5]; exact fun q => h5 q.symm
    · rw [e6]; exact fun q => h6 q.symm
    · rw [e7]; exact fun q => h7 q.symm
    · rw [e8]; exact fun q => h8 q.symm
  rw [key]
  show List.foldl _ _ [0, 1, 2, 3, 4, 5, 6, 7, 8] = _
  simp only [List.foldl_cons, List.foldl_nil, e0, e1, e2, e3, e4, e5, e6, e7, e8, h0, h1, h2, h3, h4, h5, h6, h7, h8, if_false]
theorem pu_up_ne {h : nv_Hp} {k j a b : Nat} {v : Int32} (hn : a ≠ k ∨ b ≠ j) : nv_up h k j v a b = h a b := if_neg (fun q => by rcases hn with r | r; exact r q.1; exact r q.2)
theorem pm_part_sp {h : nv_Hp} {l sz a : Nat} {t : Nat → Int32} (hl : l < 2) (hs : h 106 l = nI sz) (hz : sz ≤ 60) (hat : h 73 38 = nI a) (ha : a ≤ 60) (ht : ∀ j, h 105 (60 * l + j) = t j) :
    pm_readsPart h (nI l) = some (match pa_part (pa_s t sz) a with | (p, none) => (false, nv_up h 73 38 (nI p)) | (p, some (x, v)) => (true, nv_up (nv_up h 73 38 (nI p)) 107 (9 * l + x) v)) := by
  have here : ∀ x, x < 1000 → pm_here (nv_up h 73 38 (nI x)) (nI l) = some (pa_s t sz x) := fun x hx =>
    pm_here_sp hl (by rw [nv_up_k _ _ (by decide)]; exact hs) hz (nv_up_s ..) hx (fun j => by rw [nv_up_k _ _ (by decide)]; exact ht j)
  unfold pm_readsPart
  have key := (pu_fold (fun n s x => pm_readsPart_4 h (nI l) n s x) 9 (fun _ _ => True) (fun j x => if pa_s t sz a = pa_ch j then nI j else x) (fun x => pm_readsPart_4 h (nI l) 1 x (nI 9)) (fun n i s hi _ => by
    refine ⟨?_, trivial⟩
    rw [pm_readsPart_4, if_neg (show ¬ (9 : Int32) ≤ nI i from nI_ge (b := 9) (by omega) (by omega)), pm_here_sp hl hs hz hat (by omega) ht, Option.bind_some, pm_ch_sp hi, nI_1]) (fun n s _ => by
    show pm_readsPart_4 h (nI l) (n + 1) s (nI 9) = pm_readsPart_4 h (nI l) (0 + 1) s (nI 9)
    rw [pm_readsPart_4, pm_readsPart_4, if_pos (show (9 : Int32) ≤ nI 9 by decide), if_pos (show (9 : Int32) ≤ nI 9 by decide)]) 9 0 nv_fu (-1) (by omega) (show 9 < 4000 by omega) trivial).1
  rw [pa_let_fold] at key
  rw [← nI_0]
  refine key.trans ?_
  show pm_readsPart_4 h (nI l) (0 + 1) _ (nI 9) = _
  rw [pm_readsPart_4, if_pos (show (9 : Int32) ≤ nI 9 by decide)]
  unfold pa_part
  cases e : pa_let (pa_s t sz a) with
  | none =>
    simp only [if_true]
    rw [pu_upself hat]
  | some x =>
    have hx := pa_let_lt e
    simp only []
    rw [if_neg (pu_m1 (by omega))]
    unfold nv_lt
    simp only [hat, nI_1, here (a + 1) (by omega), Option.bind_some]
    by_cases c : pa_s t sz (a + 1) = 61
    · simp only [c, if_true, nv_up_s, nI_1, pu_upup]
      have st : ∀ (n i : Nat) (v : Int32), i < 2 → pm_readsPart_81 (nI l) (nI x) (nI (a + 2)) (n + 1) v (nv_up h 73 38 (nI (a + 2 + i))) = if pa_isf (pa_s t sz (a + 2 + i)) = true then pm_readsPart_81 (nI l) (nI x) (nI (a + 2)) n (v * 10 + pa_s t sz (a + 2 + i) - 48) (nv_up h 73 38 (nI (a + 2 + (i + 1)))) else pm_readsPart_138 (nv_up h 73 38 (nI (a + 2 + i))) (nI l) (nI x) (nI (a + 2)) v := by
        intro n i v hi
        rw [pm_readsPart_81, nv_up_s, show nI (a + 2) + 2 = nI (a + 2 + 2) from nI_add (a + 2) 2, if_neg (nI_ge (by omega) (by omega)), here _ (by omega), Option.bind_some, pu_inc _ 48 57 (by decide) (by decide), Int32.mul_comm 10 v, nI_1]
        unfold nv_lt
        rw [pu_upup]
        rfl
      have s2 : ∀ (n : Nat) (v : Int32), pm_readsPart_81 (nI l) (nI x) (nI (a + 2)) (n + 1) v (nv_up h 73 38 (nI (a + 2 + 2))) = pm_readsPart_138 (nv_up h 73 38 (nI (a + 2 + 2))) (nI l) (nI x) (nI (a + 2)) v := by
        intro n v
        rw [pm_readsPart_81, nv_up_s, show nI (a + 2) + 2 = nI (a + 2 + 2) from nI_add (a + 2) 2, if_pos (nI_le (Nat.le_refl _) (by omega))]
      have en : ∀ (i : Nat) (v : Int32), i ≤ 2 → pm_readsPart_138 (nv_up h 73 38 (nI (a + 2 + i))) (nI l) (nI x) (nI (a + 2)) v = if i = 0 then some (false, nv_up h 73 38 (nI (a + 2))) else if v ≤ pa_max x then some (true, nv_up (nv_up h 73 38 (nI (a + 2 + i))) 107 (9 * l + x) v) else some (false, nv_up h 73 38 (nI (a + 2))) := by
        intro i v hi
        unfold pm_readsPart_138 nv_lt
        simp only [nv_up_s, pu_upup, nI_eq (show a + 2 + i < 2 ^ 31 by omega) (show a + 2 < 2 ^ 31 by omega), pm_max_sp hx, show (9 : Int32) * nI l = nI (9 * l) from pk_mul 9 l, nI_add, pu_inb (show 9 * l + x < 18 by omega) (show 18 < 2 ^ 31 by omega), if_true, nI_clamp (show 9 * l + x < 2 ^ 31 by omega)]
        by_cases z : i = 0
        · subst z; simp
        · rw [if_neg (by omega), if_neg z]
      show pm_readsPart_81 (nI l) (nI x) (nI (a + 2)) (3997 + 1 + 1 + 1) 0 (nv_up h 73 38 (nI (a + 2 + 0))) = _
      rw [st _ 0 _ (by omega), st _ 1 _ (by omega), s2, en 0 _ (by omega), en 1 _ (by omega), en 2 _ (by omega)]
      by_cases d : pa_isf (pa_s t sz (a + 2)) = true
      · by_cases d2 : pa_isf (pa_s t sz (a + 2 + 1)) = true
        · have fg : pa_fig (pa_s t sz) (a + 2) = 2 := by unfold pa_fig; rw [if_pos d, if_pos d2]
          have nm : pa_num (pa_s t sz) (a + 2) 2 = (0 * 10 + pa_s t sz (a + 2) - 48) * 10 + pa_s t sz (a + 2 + 1) - 48 := rfl
          rw [fg, nm, if_neg (show ¬ (2 : Nat) = 0 by decide), if_pos (show pa_isf (pa_s t sz (a + 2 + 0)) = true from d), if_pos d2, if_neg (show ¬ (2 : Nat) = 0 by decide)]
          show (if (0 * 10 + pa_s t sz (a + 2) - 48) * 10 + pa_s t sz (a + 2 + 1) - 48 ≤ pa_max x then _ else _) = _
          by_cases g : (0 * 10 + pa_s t sz (a + 2) - 48) * 10 + pa_s t sz (a + 2 + 1) - 48 ≤ pa_max x
          · rw [if_pos g, if_pos g]
          · rw [if_neg g, if_neg g]
        · have fg : pa_fig (pa_s t sz) (a + 2) = 1 := by unfold pa_fig; rw [if_pos d, if_neg d2]
          have nm : pa_num (pa_s t sz) (a + 2) 1 = 0 * 10 + pa_s t sz (a + 2) - 48 := rfl
          rw [fg, nm, if_neg (show ¬ (1 : Nat) = 0 by decide), if_pos (show pa_isf (pa_s t sz (a + 2 + 0)) = true from d), if_neg d2, if_neg (show ¬ (1 : Nat) = 0 by decide)]
          show (if 0 * 10 + pa_s t sz (a + 2) - 48 ≤ pa_max x then _ else _) = _
          by_cases g : 0 * 10 + pa_s t sz (a + 2) - 48 ≤ pa_max x
          · rw [if_pos g, if_pos g]
          · rw [if_neg g, if_neg g]
      · have fg : pa_fig (pa_s t sz) (a + 2) = 0 := by unfold pa_fig; rw [if_neg d]
        rw [fg, if_neg (show ¬ pa_isf (pa_s t sz (a + 2 + 0)) = true from d), if_pos rfl, if_pos rfl]
    · simp only [c, if_false]
/-- what the reading may touch -/
def pu_fm (l : Nat) (h h' : nv_Hp) : Prop := ∀ k j, ¬ (k = 73 ∧ j = 38) → ¬ (k = 107 ∧ 9 * l ≤ j ∧ j < 9 * l + 9) → h' k j = h k j
theorem pu_fm_t {l : Nat} {h h1 h2 : nv_Hp} (a : pu_fm l h h1) (b : pu_fm l h1 h2) : pu_fm l h h2 := fun k j q r => (b k j q r).trans (a k j q r)
theorem pu_fm_at (l : Nat) (h : nv_Hp) (v : Int32) : pu_fm l h (nv_up h 73 38 v) := fun k j q _ => pu_up_ne (by by_cases a : k = 73; exact Or.inr (fun b => q ⟨a, b⟩); exact Or.inl a)
theorem pu_fm_w {l x : Nat} (h : nv_Hp) (v : Int32) (hx : x < 9) : pu_fm l h (nv_up h 107 (9 * l + x) v) := fun k j _ q => pu_up_ne (by by_cases a : k = 107; exact Or.inr (fun b => q ⟨a, by omega, by omega⟩); exact Or.inl a)
theorem pm_clears_sp (h : nv_Hp) {l : Nat} (hl : l < 2) : ∃ h', pm_clears h (nI l) = some h' ∧ pu_fm l h h' ∧ h' 73 38 = h 73 38 ∧ ∀ j, j < 9 → h' 107 (9 * l + j) = pa_def j := by
  have key := pu_fold (fun n (s : nv_Hp) x => pm_clears_2 (nI l) n x s) 9 (fun i s => pu_fm l h s ∧ s 73 38 = h 73 38 ∧ ∀ j, j < i → s 107 (9 * l + j) = pa_def j) (fun i s => nv_up s 107 (9 * l + i) (pa_def i)) some (fun n i s hi hI => by
    refine ⟨?_, pu_fm_t hI.1 (pu_fm_w s _ hi), by rw [nv_up_k _ _ (by decide)]; exact hI.2.1, fun j hj => ?_⟩
    · rw [pm_clears_2, if_neg (show ¬ (9 : Int32) ≤ nI i from nI_ge (b := 9) (by omega) (by omega)), show (9 : Int32) * nI l = nI (9 * l) from pk_mul 9 l, nI_add, if_pos (pu_inb (by omega) (by omega)), nI_clamp (by omega), pm_def_sp hi, nI_1]
      rfl
    · by_cases c : j = i
      · subst c; rw [nv_up_s]
      · rw [nv_up_j _ _ (by omega)]; exact hI.2.2 j (by omega)) (fun n s _ => by
    rw [pm_clears_2, if_pos (show (9 : Int32) ≤ nI 9 by decide)]) 9 0 nv_fu h (by omega) (show 9 < 4000 by omega) ⟨fun _ _ _ _ => rfl, rfl, fun j hj => by omega⟩
  unfold pm_clears
  rw [← nI_0]
  exact ⟨_, key.1, key.2⟩
theorem pm_loop_sp {l sz : Nat} {t : Nat → Int32} (hl : l < 2) (hz : sz ≤ 60) : ∀ (m n a : Nat) (h : nv_Hp) (w : Nat → Int32), h 106 l = nI sz → h 73 38 = nI a → (∀ j, h 105 (60 * l + j) = t j) → (∀ j, j < 9 → h 107 (9 * l + j) = w j) → a ≤ sz → sz < a + m → sz + 1 < a + n →
    ∃ h', pm_reads_25 (nI l) n true h = some ((pa_go (pa_s t sz) sz m a w).1, h') ∧ pu_fm l h h' ∧ ∀ j, j < 9 → h' 107 (9 * l + j) = (pa_go (pa_s t sz) sz m a w).2 j := by
  intro m
  induction m with
  | zero => intro n a h w _ _ _ _ h1 h2 _; omega
  | succ m ih =>
    intro n a h w hs hat ht hw ha hm hn
    obtain ⟨n, rfl⟩ : ∃ n', n = n' + 1 := ⟨n - 1, by omega⟩
    rw [pm_reads_25, if_pos rfl, pm_part_sp hl hs hz hat (by omega) ht, Option.bind_some, pa_go]
    have hpp : ∀ p r, pa_part (pa_s t sz) a = (p, r) → a ≤ p ∧ p ≤ a + 4 ∧ (∀ x v, r = some (x, v) → x < 9 ∧ a + 3 ≤ p) := by
      intro p r e
      unfold pa_part at e
      split at e
      · obtain ⟨rfl, rfl⟩ := Prod.mk.inj e
        exact ⟨by omega, by omega, fun _ _ q => by cases q⟩
      · rename_i x ex
        have hx := pa_let_lt ex
        split at e
        · split at e
          · obtain ⟨rfl, rfl⟩ := Prod.mk.inj e
            exact ⟨by omega, by omega, fun _ _ q => by cases q⟩
          · rename_i d
            have := pa_fig_12 d
            split at e
            · obtain ⟨rfl, rfl⟩ := Prod.mk.inj e
              exact ⟨by omega, by omega, fun x' v q => by obtain ⟨rfl, rfl⟩ := Prod.mk.inj (Option.some.inj q); exact ⟨hx, by omega⟩⟩
            · obtain ⟨rfl, rfl⟩ := Prod.mk.inj e
              exact ⟨by omega, by omega, fun _ _ q => by cases q⟩
        · obtain ⟨rfl, rfl⟩ := Prod.mk.inj e
          exact ⟨by omega, by omega, fun _ _ q => by cases q⟩
    rcases e : pa_part (pa_s t sz) a with ⟨p, _ | ⟨x, v⟩⟩
    · obtain ⟨p1, p2, _⟩ := hpp _ _ e
      simp only [Bool.false_eq_true, if_false]
      obtain ⟨h', q1, q2, q3, q4⟩ := pm_clears_sp (nv_up h 73 38 (nI p)) hl
      rw [q1, Option.bind_some, q3, nv_up_s]
      exact ⟨h', rfl, pu_fm_t (pu_fm_at l h _) q2, q4⟩
    · obtain ⟨p1, p2, p3⟩ := hpp _ _ e
      obtain ⟨hx, p4⟩ := p3 x v rfl
      simp only [if_true]
      have hH : ∀ H : nv_Hp, H = nv_up (nv_up h 73 38 (nI p)) 107 (9 * l + x) v → ∃ h', pm_reads_65 H (nI l) (if H 106 (nI l).toNatClampNeg ≤ H 73 38 then false else true) (pm_reads_25 (nI l) n) = some ((if p < sz then (if pa_s t sz p = 59 then pa_go (pa_s t sz) sz m (p + 1) (fun j => if j = x then v else w j) else (nI p, pa_def)) else (-1, fun j => if j = x then v else w j) : Int32 × (Nat → Int32)).1, h') ∧ pu_fm l H h' ∧ ∀ j, j < 9 → h' 107 (9 * l + j) = (if p < sz then (if pa_s t sz p = 59 then pa_go (pa_s t sz) sz m (p + 1) (fun j => if j = x then v else w j) else (nI p, pa_def)) else (-1, fun j => if j = x then v else w j) : Int32 × (Nat → Int32)).2 j := by
        intro H eH
        have H106 : H 106 l = nI sz := by rw [eH, nv_up_k _ _ (by decide), nv_up_k _ _ (by decide)]; exact hs
        have Hat : H 73 38 = nI p := by rw [eH, nv_up_k _ _ (by decide), nv_up_s]
        have Ht : ∀ j, H 105 (60 * l + j) = t j := fun j => by rw [eH, nv_up_k _ _ (by decide), nv_up_k _ _ (by decide)]; exact ht j
        have Hw : ∀ j, j < 9 → H 107 (9 * l + j) = if j = x then v else w j := fun j hj => by
          by_cases c : j = x
          · subst c; rw [eH, nv_up_s, if_pos rfl]
          · rw [eH, nv_up_j _ _ (by omega), nv_up_k _ _ (by decide), if_neg c]; exact hw j hj
        rw [nI_clamp (by omega), H106, Hat]
        unfold pm_reads_65 pm_reads_90 pm_reads_104 nv_lt
        by_cases c : p < sz
        · rw [if_neg (nI_ge c (by omega)), if_pos rfl, if_pos c, pm_here_sp hl H106 hz Hat (by omega) Ht, Option.bind_some]
          by_cases d : pa_s t sz p = 59
          · rw [if_pos d, if_pos d, if_pos rfl, Hat, show nI p + nv_bi true = nI (p + 1) from nI_add p 1]
            obtain ⟨h', q1, q2, q3⟩ := ih n (p + 1) (nv_up H 73 38 (nI (p + 1))) (fun j => if j = x then v else w j) (by rw [nv_up_k _ _ (by decide)]; exact H106) (nv_up_s ..) (fun j => by rw [nv_up_k _ _ (by decide)]; exact Ht j) (fun j hj => by rw [nv_up_k _ _ (by decide)]; exact Hw j hj) (by omega) (by omega) (by omega)
            exact ⟨h', q1, pu_fm_t (pu_fm_at l H _) q2, q3⟩
          · rw [if_neg d, if_neg d]
            obtain ⟨h', q1, q2, q3, q4⟩ := pm_clears_sp H hl
            rw [q1, Option.bind_some, q3, Hat]
            exact ⟨h', rfl, q2, q4⟩
        · rw [if_pos (nI_le (by omega) (by omega)), if_neg (by decide), if_neg c, if_neg (by decide)]
          obtain ⟨n, rfl⟩ : ∃ n', n = n' + 1 := ⟨n - 1, by omega⟩
          simp only [pm_reads_25, Bool.false_eq_true, if_false]
          exact ⟨_, rfl, pu_fm_at l H _, fun j hj => by rw [nv_up_k _ _ (by decide)]; exact Hw j hj⟩
      obtain ⟨h', q1, q2, q3⟩ := hH _ rfl
      exact ⟨h', q1, pu_fm_t (pu_fm_t (pu_fm_at l h _) (pu_fm_w _ _ hx)) q2, q3⟩
theorem pm_reads_sp {h : nv_Hp} {l sz : Nat} {t : Nat → Int32} (hl : l < 2) (hz : sz ≤ 60) (hs : h 106 l = nI sz) (ht : ∀ j, h 105 (60 * l + j) = t j) : ∃ h', pm_reads h (nI l) = some ((pa_all t sz).1, h') ∧ pu_fm l h h' ∧ ∀ j, j < 9 → h' 107 (9 * l + j) = (pa_all t sz).2 j := by
  obtain ⟨h1, q1, q2, q3, q4⟩ := pm_clears_sp h hl
  unfold pm_reads nv_lt pa_all
  rw [q1, Option.bind_some]
  have e106 : nv_up h1 73 38 0 106 (nI l).toNatClampNeg = nI sz := by
    rw [nI_clamp (by omega), nv_up_k _ _ (by decide), q2 106 l (by omega) (by omega)]; exact hs
  simp only [e106]
  by_cases c : sz = 0
  · subst c
    rw [if_pos (by decide), if_pos rfl]
    show ∃ h', pm_reads_25 (nI l) (3999 + 1) false _ = _ ∧ _
    rw [pm_reads_25, if_neg (by decide)]
    exact ⟨_, rfl, pu_fm_t q2 (pu_fm_at l h1 _), fun j hj => by rw [nv_up_k _ _ (by decide)]; exact q4 j hj⟩
  · rw [if_neg (nI_nle (by omega) (by omega)), if_neg c]
    obtain ⟨h', r1, r2, r3⟩ := pm_loop_sp (t := t) hl hz 100 nv_fu 0 (nv_up h1 73 38 0) pa_def (by rw [nI_clamp (by omega)] at e106; exact e106) (nv_up_s ..) (fun j => by rw [nv_up_k _ _ (by decide), q2 105 _ (by omega) (by omega)]; exact ht j) (fun j hj => by rw [nv_up_k _ _ (by decide)]; exact q4 j hj) (by omega) (by omega) (show sz + 1 < 0 + 4000 by omega)
    exact ⟨h', r1, pu_fm_t (pu_fm_t q2 (pu_fm_at l h1 _)) r2, r3⟩
