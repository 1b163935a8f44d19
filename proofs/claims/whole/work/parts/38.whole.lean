/-! ===== the whole relation ===== -/
def pu_scr (k j : Nat) : Prop := (8 ≤ k ∧ k ≤ 12) ∨ k = 77 ∨ k = 93 ∨ (107 ≤ k ∧ k ≤ 112) ∨ (k = 0 ∧ j = 17) ∨ (k = 73 ∧ (j = 38 ∨ j = 41 ∨ j = 45))
def pu_sm (h h' : nv_Hp) : Prop := ∀ k j, ¬ pu_scr k j → h' k j = h k j
theorem pu_sm_r (h : nv_Hp) : pu_sm h h := fun _ _ _ => rfl
theorem pu_sm_t {h h1 h2 : nv_Hp} (a : pu_sm h h1) (b : pu_sm h1 h2) : pu_sm h h2 := fun k j q => (b k j q).trans (a k j q)
theorem pu_sm_up {h : nv_Hp} {k j : Nat} (v : Int32) (s : pu_scr k j) : pu_sm h (nv_up h k j v) := fun a b q => by
  apply pu_up_ne
  by_cases e : a = k
  · right; intro f; subst e; subst f; exact q s
  · exact Or.inl e
theorem pu_sm_c {h h' : nv_Hp} (s : pu_sm h h') {k : Nat} (hk : ¬ (8 ≤ k ∧ k ≤ 12) ∧ k ≠ 77 ∧ k ≠ 93 ∧ ¬ (107 ≤ k ∧ k ≤ 112) ∧ k ≠ 0 ∧ k ≠ 73) : h' k = h k := by
  funext j
  apply s
  unfold pu_scr
  omega
theorem pu_sm_0 {h h' : nv_Hp} (s : pu_sm h h') {j : Nat} (hj : j ≠ 17) : h' 0 j = h 0 j := by
  apply s
  unfold pu_scr
  omega
theorem pu_sm_73 {h h' : nv_Hp} (s : pu_sm h h') {j : Nat} (hj : j ≠ 38 ∧ j ≠ 41 ∧ j ≠ 45) : h' 73 j = h 73 j := by
  apply s
  unfold pu_scr
  omega
theorem pu_sm_fm {l : Nat} {h h' : nv_Hp} (f : pu_fm l h h') : pu_sm h h' := fun k j q => f k j (fun c => q (by unfold pu_scr; omega)) (fun c => q (by unfold pu_scr; omega))
def pu_Rw (h : nv_Hp) (l : Nat) : Prop := ∃ sz, sz ≤ 60 ∧ h (59 + 3 * l) 2 = nI sz ∧ h (59 + 3 * l) 3 = (pa_all (h (60 + 3 * l)) sz).1 ∧ ∀ j, j < 9 → h (61 + 3 * l) j = (pa_all (h (60 + 3 * l)) sz).2 j
def pu_Rm (Q : nv_Hp → Prop) (h : nv_Hp) (nL nK nB nA : Nat) : Prop := pu_Rp h ∧ pu_Rc h nL nK nB nA ∧ pu_Rl h nL ∧ pu_Rk h nL nK ∧ pu_Rb h nB ∧ pu_Ra h nA ∧ (∀ l, l < 2 → pu_Rt h l ∧ pu_Rw h l) ∧ Q h
def pu_Rn (h : nv_Hp) (nL nK nB nA : Nat) : Prop := pu_Rm (fun h => ∀ s, s < 4 → pu_Rs h s) h nL nK nB nA
def pu_R (h : nv_Hp) : Prop := ∃ nL nK nB nA, pu_Rn h nL nK nB nA
theorem pu_Rn_sm {h h' : nv_Hp} {nL nK nB nA : Nat} (R : pu_Rn h nL nK nB nA) (s : pu_sm h h') : pu_Rn h' nL nK nB nA := by
  obtain ⟨r1, r2, r3, r4, r5, r6, r7, r8⟩ := R
  obtain ⟨⟨a1, a2, a3⟩, ⟨b1, b2, b3⟩, ⟨c1, c2, c3⟩, ⟨d1, d2, d3⟩, e1⟩ := r2
  refine ⟨pu_Rp_cg (pu_sm_c s (by decide)) (pu_sm_c s (by decide)) r1, ?_, pu_Rl_cg a3 (fun k _ _ => pu_sm_c s (by omega)) (fun k _ _ => pu_sm_c s (by omega)) r3, pu_Rk_cg b3 (fun k _ _ => pu_sm_c s (by omega)) (fun k _ _ => pu_sm_c s (by omega)) r4, pu_Rb_cg c3 (fun k _ _ => pu_sm_c s (by omega)) (fun k _ _ => pu_sm_c s (by omega)) r5, pu_Ra_cg d3 (fun k _ _ => pu_sm_c s (by omega)) (fun k _ _ => pu_sm_c s (by omega)) r6, fun l hl => ?_, fun x hx => ?_⟩
  · unfold pu_Rc
    rw [pu_sm_0 s (by decide), pu_sm_0 s (by decide), pu_sm_0 s (by decide), pu_sm_0 s (by decide), pu_sm_0 s (by decide), pu_sm_73 s (by decide), pu_sm_73 s (by decide), pu_sm_73 s (by decide), pu_sm_73 s (by decide), pu_sm_73 s (by decide)]
    exact ⟨⟨a1, a2, a3⟩, ⟨b1, b2, b3⟩, ⟨c1, c2, c3⟩, ⟨d1, d2, d3⟩, e1⟩
  · refine ⟨pu_Rt_cg (by rw [pu_sm_c s (by omega)]) (pu_sm_c s (by omega)) (pu_sm_c s (by decide)) (by rw [pu_sm_c s (by decide)]) (r7 l hl).1, ?_⟩
    unfold pu_Rw
    rw [pu_sm_c s (show ¬ (8 ≤ 59 + 3 * l ∧ 59 + 3 * l ≤ 12) ∧ _ by omega), pu_sm_c s (show ¬ (8 ≤ 60 + 3 * l ∧ 60 + 3 * l ≤ 12) ∧ _ by omega), pu_sm_c s (show ¬ (8 ≤ 61 + 3 * l ∧ 61 + 3 * l ≤ 12) ∧ _ by omega)]
    exact (r7 l hl).2
  · exact pu_Rs_cg (pu_sm_c s (by omega)) (pu_sm_c s (by omega)) (by rw [pu_sm_c s (by decide)]) (by rw [pu_sm_c s (by decide)]) (pu_sm_c s (by decide)) (r8 x hx)
theorem pu_R_sm {h h' : nv_Hp} (R : pu_R h) (s : pu_sm h h') : pu_R h' := by
  obtain ⟨a, b, c, d, r⟩ := R
  exact ⟨a, b, c, d, pu_Rn_sm r s⟩
theorem pa_all_cg {t t' : Nat → Int32} {sz : Nat} (h : ∀ j, j < sz → t j = t' j) : pa_all t sz = pa_all t' sz := by
  have : pa_s t sz = pa_s t' sz := by
    funext a
    unfold pa_s
    split
    · rename_i q; exact h a q
    · rfl
  unfold pa_all
  rw [this]
theorem pa_isf_n {s : Int32} (h : pa_isf s = true) : ∃ c, c < 10 ∧ s = nI (c + 48) := by
  unfold pa_isf at h
  rw [pu_within, decide_eq_true_eq, pu_le, pu_le, show (48 : Int32).toInt = 48 by decide, show (57 : Int32).toInt = 57 by decide] at h
  obtain ⟨j, hj, rfl⟩ := nI_of (x := s) (by rw [pu_lt, show (0 : Int32).toInt = 0 by decide]; omega)
  rw [nI_toInt hj] at h
  exact ⟨j - 48, by omega, by congr 1; omega⟩
theorem pa_num_n {s : Nat → Int32} {a : Nat} (h : pa_fig s a ≠ 0) : ∃ d, d < 100 ∧ pa_num s a (pa_fig s a) = nI d := by
  have z : (0 : Int32) * 10 = 0 := by decide
  unfold pa_fig at *
  by_cases c : pa_isf (s a) = true
  · obtain ⟨x, hx, ex⟩ := pa_isf_n c
    have e1 : nI (x + 48) - 48 = nI x := by
      rw [show (48 : Int32) = nI 48 from rfl, pk_sub (by omega)]
      congr 1
    rw [if_pos c]
    by_cases d : pa_isf (s (a + 1)) = true
    · obtain ⟨y, hy, ey⟩ := pa_isf_n d
      rw [if_pos d]
      refine ⟨x * 10 + y, by omega, ?_⟩
      unfold pa_num
      rw [if_neg (by decide), z, Int32.zero_add, ex, e1, ey, show (10 : Int32) = nI 10 from rfl, pk_mul, nI_add, show (48 : Int32) = nI 48 from rfl, pk_sub (by omega)]
      congr 1
    · rw [if_neg d]
      refine ⟨x, by omega, ?_⟩
      unfold pa_num
      rw [if_pos rfl, z, Int32.zero_add, ex, e1]
  · rw [if_neg c] at h
    exact absurd rfl h
def pu_B3 (x : Int32) : Prop := x = 0 ∨ x = 1 ∨ x = 2
theorem pa_go_B (s : Nat → Int32) (sz : Nat) : ∀ (m a : Nat) (w : Nat → Int32), pu_B3 (w 0) → pu_B3 ((pa_go s sz m a w).2 0) := by
  have d0 : pu_B3 (pa_def 0) := Or.inr (Or.inl rfl)
  intro m
  induction m with
  | zero => intro a w _; exact d0
  | succ m ih =>
    intro a w hw
    rw [pa_go]
    rcases e : pa_part s a with ⟨p, _ | ⟨l, v⟩⟩
    · exact d0
    · have key : pu_B3 (if 0 = l then v else w 0) := by
        by_cases c : 0 = l
        · rw [if_pos c]
          unfold pa_part at e
          split at e
          · cases e
          · split at e
            · split at e
              · cases e
              · rename_i d
                split at e
                · rename_i g
                  obtain ⟨_, e2⟩ := Prod.mk.inj e
                  obtain ⟨e3, e4⟩ := Prod.mk.inj (Option.some.inj e2)
                  obtain ⟨z, hz, ez⟩ := pa_num_n d
                  rw [← e4, ez]
                  rw [ez, e3, ← c, show pa_max 0 = nI 2 from rfl, nI_leI (by omega) (by omega)] at g
                  have : z = 0 ∨ z = 1 ∨ z = 2 := by omega
                  rcases this with rfl | rfl | rfl
                  · exact Or.inl rfl
                  · exact Or.inr (Or.inl rfl)
                  · exact Or.inr (Or.inr rfl)
                · cases e
            · cases e
        · rw [if_neg c]; exact hw
      simp only []
      split
      · split
        · exact ih _ _ key
        · exact d0
      · exact key
theorem pa_all_B (t : Nat → Int32) (sz : Nat) : pu_B3 ((pa_all t sz).2 0) := by
  have d0 : pu_B3 (pa_def 0) := Or.inr (Or.inl rfl)
  unfold pa_all
  split
  · exact d0
  · exact pa_go_B _ _ _ _ _ d0
theorem pu_Rn_B {h : nv_Hp} {nL nK nB nA l : Nat} {Q : nv_Hp → Prop} (R : pu_Rm Q h nL nK nB nA) (hl : l < 2) : pu_B3 (h (61 + 3 * l) 0) := by
  obtain ⟨sz, _, _, _, e⟩ := (R.2.2.2.2.2.2.1 l hl).2
  rw [e 0 (by omega)]
  exact pa_all_B _ _
theorem pu_Rn_roots {h : nv_Hp} {nL nK nB nA : Nat} {Q : nv_Hp → Prop} (R : pu_Rm Q h nL nK nB nA) : sp_roots (fun i => h (13 + i)) nL := fun i hi => (R.2.2.1 i hi).2.2
/-- the reference reads law l -/
theorem pm_reads_R {h0 h : nv_Hp} {nL nK nB nA l : Nat} {Q : nv_Hp → Prop} (R : pu_Rm Q h0 nL nK nB nA) (s : pu_sm h0 h) (hl : l < 2) : ∃ h', pm_reads h (nI l) = some (h0 (59 + 3 * l) 3, h') ∧ pu_fm l h h' ∧ ∀ j, j < 9 → h' 107 (9 * l + j) = h0 (61 + 3 * l) j := by
  obtain ⟨⟨sz, t1, t2, t3, t4⟩, ⟨sz', w1, w2, w3, w4⟩⟩ := R.2.2.2.2.2.2.1 l hl
  have es : sz' = sz := (nI_eq (by omega) (by omega)).mp (w2.symm.trans t2)
  subst es
  obtain ⟨h', q1, q2, q3⟩ := pm_reads_sp (h := h) (t := fun j => h 105 (60 * l + j)) hl w1 (by rw [pu_sm_c s (by decide)]; exact t3) (fun _ => rfl)
  have ea : pa_all (fun j => h 105 (60 * l + j)) sz' = pa_all (h0 (60 + 3 * l)) sz' := pa_all_cg fun j hj => by rw [pu_sm_c s (by decide)]; exact t4 j hj
  rw [ea] at q1 q3
  exact ⟨h', by rw [q1, w3], q2, fun j hj => by rw [q3 j hj, w4 j hj]⟩
def sH (g : nv_Hp) (way : Int32) (k : Nat) : Int32 := fc_hearingDay g (nI k) way
theorem pm_goes_R {h0 h : nv_Hp} {nL nK nB nA l : Nat} {Q : nv_Hp → Prop} (R : pu_Rm Q h0 nL nK nB nA) (s : pu_sm h0 h) (hl : l < 2) : ∃ h', pm_goes h (nI l) = some h' ∧ pu_sm h h' ∧ (∀ j, j < 9 → h' 108 j = h0 (61 + 3 * l) j) ∧ (∀ k, k < nK → h' 93 k = sH h0 0 k) ∧ (∀ j, j < 9 → h' 107 (9 * l + j) = h0 (61 + 3 * l) j) ∧ (∀ j, ¬ (9 * l ≤ j ∧ j < 9 * l + 9) → h' 107 j = h 107 j) ∧ ∀ k, 109 ≤ k → h' k = h k := by
  obtain ⟨h1, q1, q2, q3⟩ := pm_reads_R R s hl
  have k1 := pu_fold (fun n (g : nv_Hp) x => pm_goes_8 (nI l) n x g) 9 (fun i g => (∀ j, j < i → g 108 j = h0 (61 + 3 * l) j) ∧ ∀ k, k ≠ 108 → g k = h1 k) (fun i g => nv_up g 108 i (g 107 (9 * l + i))) (fun g => pm_goes_39 nv_fu 0 g) (fun n i g hi hI => by
    refine ⟨?_, fun j hj => ?_, fun k hk => by rw [pu_up_c hk]; exact hI.2 k hk⟩
    · rw [pm_goes_8, if_neg (show ¬ (9 : Int32) ≤ nI i from nI_ge (b := 9) (by omega) (by omega)), show (9 : Int32) * nI l = nI (9 * l) from pk_mul 9 l, nI_add, if_pos (pu_inb (by omega) (by omega)), if_pos (pu_inb (by omega) (by omega)), nI_clamp (by omega), nI_clamp (by omega), nI_1]
      rfl
    · by_cases c : j = i
      · subst c; rw [nv_up_s, hI.2 107 (by decide), q3 j hi]
      · rw [nv_up_j _ _ c]; exact hI.1 j (by omega)) (fun n g _ => by
    rw [pm_goes_8, if_pos (show (9 : Int32) ≤ nI 9 by decide)]) 9 0 nv_fu h1 (by omega) (show 9 < 4000 by omega) ⟨fun j hj => by omega, fun _ _ => rfl⟩
  obtain ⟨k1a, k1b, k1c⟩ := k1
  have s1 : pu_sm h h1 := pu_sm_fm q2
  generalize List.foldl (fun s j => nv_up s 108 j (s 107 (9 * l + j))) h1 (List.range' 0 9) = g1 at k1a k1b k1c
  have sg : pu_sm h1 g1 := fun k j q => by
    rw [k1c k (fun e => q (by unfold pu_scr; omega))]
  have s01 : pu_sm h0 g1 := pu_sm_t s (pu_sm_t s1 sg)
  obtain ⟨⟨n1, n2, n3⟩, ⟨b1, b2, b3⟩, _⟩ := R.2.1
  have k2 := pu_fold (fun n (g : nv_Hp) x => pm_goes_39 n x g) nK (fun i g => (∀ k, k < i → g 93 k = sH h0 0 k) ∧ ∀ k, k ≠ 93 → g k = g1 k) (fun i g => nv_up g 93 i (if g 92 i = -1 then 100 else g 92 i)) some (fun n i g hi hI => by
    refine ⟨?_, fun k hk => ?_, fun k hk => by rw [pu_up_c hk]; exact hI.2 k hk⟩
    · rw [pm_goes_39, hI.2 73 (by decide), pu_sm_73 s01 (by decide), b2, if_neg (nI_ge hi (by omega)), if_pos (pu_inb (by omega) (by omega)), nI_clamp (by omega)]
      unfold pm_goes_73
      rw [if_pos (pu_inb (by omega) (by omega)), nI_clamp (by omega), nI_1]
      rfl
    · by_cases c : k = i
      · subst c
        rw [nv_up_s, hI.2 92 (by decide), pu_sm_c s01 (by decide), (R.2.2.2.1 k hi).1 3 (by omega)]
        unfold sH fc_hearingDay
        rw [nI_clamp (by omega), Int32.zero_and, if_pos rfl]
      · rw [nv_up_j _ _ c]; exact hI.1 k (by omega)) (fun n g hI => by
    rw [pm_goes_39, hI.2 73 (by decide), pu_sm_73 s01 (by decide), b2, if_pos (nI_le (Nat.le_refl _) (by omega))]) nK 0 nv_fu g1 (by omega) (show nK < 4000 by omega) ⟨fun j hj => by omega, fun _ _ => rfl⟩
  obtain ⟨k2a, k2b, k2c⟩ := k2
  generalize List.foldl (fun s j => nv_up s 93 j (if s 92 j = -1 then 100 else s 92 j)) g1 (List.range' 0 nK) = g2 at k2a k2b k2c
  refine ⟨g2, ?_, ?_, fun j hj => by rw [k2c 108 (by decide)]; exact k1b j hj, k2b, fun j hj => by rw [k2c 107 (by decide), k1c 107 (by decide)]; exact q3 j hj, fun j hj => by rw [k2c 107 (by decide), k1c 107 (by decide)]; exact q2 107 j (by omega) (by omega), fun k hk => by rw [k2c k (by omega), k1c k (by omega)]; funext j; exact q2 k j (by omega) (by omega)⟩
  · unfold pm_goes
    rw [q1, Option.bind_some, ← nI_0]
    refine k1a.trans ?_
    rw [← nI_0]
    exact k2a
  · refine pu_sm_t s1 (pu_sm_t sg fun k j q => ?_)
    rw [k2c k (fun e => q (by unfold pu_scr; omega))]
