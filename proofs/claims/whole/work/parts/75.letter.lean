/-! ===== letter: the reference with one leave more ===== -/
theorem pa_go_N (s : Nat → Int32) (sz : Nat) : ∀ (m a : Nat) (w : Nat → Int32), ¬ w 8 < 0 → ¬ (pa_go s sz m a w).2 8 < 0 := by
  have d0 : ¬ pa_def 8 < 0 := by decide
  intro m
  induction m with
  | zero => intro a w _; exact d0
  | succ m ih =>
    intro a w hw
    rw [pa_go]
    rcases e : pa_part s a with ⟨p, _ | ⟨l, v⟩⟩
    · exact d0
    · have key : ¬ (if 8 = l then v else w 8) < 0 := by
        by_cases c : 8 = l
        · rw [if_pos c]
          unfold pa_part at e
          split at e
          · cases e
          · split at e
            · split at e
              · cases e
              · rename_i d
                split at e
                · rename_i g
                  obtain ⟨_, e2⟩ := Prod.mk.inj e
                  obtain ⟨e3, e4⟩ := Prod.mk.inj (Option.some.inj e2)
                  obtain ⟨z, hz, ez⟩ := pa_num_n d
                  rw [← e4, ez]
                  exact nI_pos (by omega)
                · cases e
            · cases e
        · rw [if_neg c]; exact hw
      simp only []
      split
      · split
        · exact ih _ _ key
        · exact d0
      · exact key
theorem pu_Rn_N {h : nv_Hp} {nL nK nB nA l : Nat} {Q : nv_Hp → Prop} (R : pu_Rm Q h nL nK nB nA) (hl : l < 2) : ¬ h (61 + 3 * l) 8 < 0 := by
  obtain ⟨sz, _, _, _, e⟩ := (R.2.2.2.2.2.2.1 l hl).2
  rw [e 8 (by omega)]
  unfold pa_all
  split
  · decide
  · exact pa_go_N _ _ _ _ _ (by decide)
/-- like the start, but scratch, the leave numbered nL, and how many leaves -/
def lf (nL : Nat) (h0 g : nv_Hp) : Prop := ∀ k j, ¬ pu_scr k j → ¬ (79 ≤ k ∧ k ≤ 88 ∧ j = nL) → ¬ (k = 73 ∧ j = 6) → g k j = h0 k j
theorem lf_c {nL : Nat} {h0 g : nv_Hp} (s : lf nL h0 g) {k : Nat} (hk : ¬ (8 ≤ k ∧ k ≤ 12) ∧ k ≠ 77 ∧ k ≠ 93 ∧ ¬ (107 ≤ k ∧ k ≤ 112) ∧ k ≠ 0 ∧ k ≠ 73 ∧ ¬ (79 ≤ k ∧ k ≤ 88)) : g k = h0 k := by
  funext j
  apply s
  · unfold pu_scr; omega
  · omega
  · omega
theorem lf_73 {nL : Nat} {h0 g : nv_Hp} (s : lf nL h0 g) {j : Nat} (hj : j ≠ 38 ∧ j ≠ 41 ∧ j ≠ 45 ∧ j ≠ 6) : g 73 j = h0 73 j := by
  apply s
  · unfold pu_scr; omega
  · omega
  · omega
theorem lf_sm {nL : Nat} {h0 g u : nv_Hp} (s : lf nL h0 g) (t : pu_sm g u) : lf nL h0 u := fun k j a b c => (t k j a).trans (s k j a b c)
theorem pm_reads_L {h0 h : nv_Hp} {nL nK nB nA l : Nat} {Q : nv_Hp → Prop} (R : pu_Rm Q h0 nL nK nB nA) (s : lf nL h0 h) (hl : l < 2) : ∃ h', pm_reads h (nI l) = some (h0 (59 + 3 * l) 3, h') ∧ pu_fm l h h' ∧ ∀ j, j < 9 → h' 107 (9 * l + j) = h0 (61 + 3 * l) j := by
  obtain ⟨⟨sz, t1, t2, t3, t4⟩, ⟨sz', w1, w2, w3, w4⟩⟩ := R.2.2.2.2.2.2.1 l hl
  have es : sz' = sz := (nI_eq (by omega) (by omega)).mp (w2.symm.trans t2)
  subst es
  obtain ⟨h', q1, q2, q3⟩ := pm_reads_sp (h := h) (t := fun j => h 105 (60 * l + j)) hl w1 (by rw [lf_c s (by decide)]; exact t3) (fun _ => rfl)
  have ea : pa_all (fun j => h 105 (60 * l + j)) sz' = pa_all (h0 (60 + 3 * l)) sz' := pa_all_cg fun j hj => by rw [lf_c s (by decide)]; exact t4 j hj
  rw [ea] at q1 q3
  exact ⟨h', by rw [q1, w3], q2, fun j hj => by rw [q3 j hj, w4 j hj]⟩
theorem pm_goes_L {h0 h : nv_Hp} {nL nK nB nA l : Nat} {Q : nv_Hp → Prop} (R : pu_Rm Q h0 nL nK nB nA) (s : lf nL h0 h) (hl : l < 2) : ∃ h', pm_goes h (nI l) = some h' ∧ pu_sm h h' ∧ (∀ j, j < 9 → h' 108 j = h0 (61 + 3 * l) j) ∧ (∀ k, k < nK → h' 93 k = sH h0 0 k) := by
  obtain ⟨h1, q1, q2, q3⟩ := pm_reads_L R s hl
  have k1 := pu_fold (fun n (g : nv_Hp) x => pm_goes_8 (nI l) n x g) 9 (fun i g => (∀ j, j < i → g 108 j = h0 (61 + 3 * l) j) ∧ ∀ k, k ≠ 108 → g k = h1 k) (fun i g => nv_up g 108 i (g 107 (9 * l + i))) (fun g => pm_goes_39 nv_fu 0 g) (fun n i g hi hI => by
    refine ⟨?_, fun j hj => ?_, fun k hk => by rw [pu_up_c hk]; exact hI.2 k hk⟩
    · rw [pm_goes_8, if_neg (show ¬ (9 : Int32) ≤ nI i from nI_ge (b := 9) (by omega) (by omega)), show (9 : Int32) * nI l = nI (9 * l) from pk_mul 9 l, nI_add, if_pos (pu_inb (by omega) (by omega)), if_pos (pu_inb (by omega) (by omega)), nI_clamp (by omega), nI_clamp (by omega), nI_1]
      rfl
    · by_cases c : j = i
      · subst c; rw [nv_up_s, hI.2 107 (by decide), q3 j hi]
      · rw [nv_up_j _ _ c]; exact hI.1 j (by omega)) (fun n g _ => by
    rw [pm_goes_8, if_pos (show (9 : Int32) ≤ nI 9 by decide)]) 9 0 nv_fu h1 (by omega) (show 9 < 4000 by omega) ⟨fun j hj => by omega, fun _ _ => rfl⟩
  obtain ⟨k1a, k1b, k1c⟩ := k1
  have s1 : pu_sm h h1 := pu_sm_fm q2
  generalize List.foldl (fun s j => nv_up s 108 j (s 107 (9 * l + j))) h1 (List.range' 0 9) = g1 at k1a k1b k1c
  have sg : pu_sm h1 g1 := fun k j q => by
    rw [k1c k (fun e => q (by unfold pu_scr; omega))]
  have s01 : lf nL h0 g1 := lf_sm s (pu_sm_t s1 sg)
  obtain ⟨⟨n1, n2, n3⟩, ⟨b1, b2, b3⟩, _⟩ := R.2.1
  have k2 := pu_fold (fun n (g : nv_Hp) x => pm_goes_39 n x g) nK (fun i g => (∀ k, k < i → g 93 k = sH h0 0 k) ∧ ∀ k, k ≠ 93 → g k = g1 k) (fun i g => nv_up g 93 i (if g 92 i = -1 then 100 else g 92 i)) some (fun n i g hi hI => by
    refine ⟨?_, fun k hk => ?_, fun k hk => by rw [pu_up_c hk]; exact hI.2 k hk⟩
    · rw [pm_goes_39, hI.2 73 (by decide), lf_73 s01 (by decide), b2, if_neg (nI_ge hi (by omega)), if_pos (pu_inb (by omega) (by omega)), nI_clamp (by omega)]
      unfold pm_goes_73
      rw [if_pos (pu_inb (by omega) (by omega)), nI_clamp (by omega), nI_1]
      rfl
    · by_cases c : k = i
      · subst c
        rw [nv_up_s, hI.2 92 (by decide), lf_c s01 (by decide), (R.2.2.2.1 k hi).1 3 (by omega)]
        unfold sH fc_hearingDay
        rw [nI_clamp (by omega), Int32.zero_and, if_pos rfl]
      · rw [nv_up_j _ _ c]; exact hI.1 k (by omega)) (fun n g hI => by
    rw [pm_goes_39, hI.2 73 (by decide), lf_73 s01 (by decide), b2, if_pos (nI_le (Nat.le_refl _) (by omega))]) nK 0 nv_fu g1 (by omega) (show nK < 4000 by omega) ⟨fun j hj => by omega, fun _ _ => rfl⟩
  obtain ⟨k2a, k2b, k2c⟩ := k2
  generalize List.foldl (fun s j => nv_up s 93 j (if s 92 j = -1 then 100 else s 92 j)) g1 (List.range' 0 nK) = g2 at k2a k2b k2c
  refine ⟨g2, ?_, ?_, fun j hj => by rw [k2c 108 (by decide)]; exact k1b j hj, k2b⟩
  · unfold pm_goes
    rw [q1, Option.bind_some, ← nI_0]
    refine k1a.trans ?_
    rw [← nI_0]
    exact k2a
  · refine pu_sm_t s1 (pu_sm_t sg fun k j q => ?_)
    rw [k2c k (fun e => q (by unfold pu_scr; omega))]
/-- the leave that is tried reaches -/
def lR (g : nv_Hp) (w : Nat → Int32) (v L b : Nat) : Bool := fc_hasBit (nI v) (g (37 + b) 4) && !decide (nI L + nI L * w 3 / 100 < g (37 + b) 5)
/-- the leaves with the one that is tried -/
def lx (g : nv_Hp) (nL f d v L : Nat) (j t : Nat) : Int32 := if j = nL then (if t = 1 then nI f else if t = 2 then nI d else if t = 4 then nI v else if t = 5 then nI L else if t = 7 then 99 else if t = 8 then -1 else 0) else g (13 + j) t
theorem lx_reach {g : nv_Hp} {nL nK nB nA b f d v L : Nat} {w hd : Nat → Int32} {Q : nv_Hp → Prop} (R : pu_Rm Q g nL nK nB nA) (hb : b < nB) (hw : ¬ w 8 < 0) (e1 : g (37 + b) 1 = nI d) (e2 : g (37 + b) 2 = nI f) : sp_reach w hd (lx g nL f d v L) (fun k => g (25 + k)) (g (37 + b)) nK nL = lR g w v L b := by
  obtain ⟨⟨a1, a2, a3⟩, ⟨b1, b2, b3⟩, ⟨c1, c2, c3⟩, ⟨d1, d2, d3⟩, _⟩ := R.2.1
  obtain ⟨_, _, _, _, _, _, ⟨dy, hdy, edy⟩, _⟩ := R.2.2.2.2.1 b hb
  have x0 : lx g nL f d v L nL 0 = 0 := by unfold lx; simp
  have x1 : lx g nL f d v L nL 1 = nI f := by unfold lx; simp
  have x2 : lx g nL f d v L nL 2 = nI d := by unfold lx; simp
  have x4 : lx g nL f d v L nL 4 = nI v := by unfold lx; simp
  have x5 : lx g nL f d v L nL 5 = nI L := by unfold lx; simp
  have x6 : lx g nL f d v L nL 6 = 0 := by unfold lx; simp
  have x7 : lx g nL f d v L nL 7 = 99 := by unfold lx; simp
  have x8 : lx g nL f d v L nL 8 = -1 := by unfold lx; simp
  have x9 : lx g nL f d v L nL 9 = 0 := by unfold lx; simp
  have en : sp_end w hd (lx g nL f d v L nL) (fun k => g (25 + k)) (g (37 + b)) nK nL = false := by
    unfold sp_end
    rw [List.any_eq_false]
    intro k hk
    obtain ⟨_, l, hl, el⟩ := R.2.2.2.1 k (List.mem_range.mp hk)
    unfold sp_hit
    have : ¬ g (25 + k) 0 = nI nL := fun z => by
      rw [el] at z
      have := (nI_eq (by omega) (by omega)).mp z
      omega
    simp [this]
  have dw : fc_isWithin (g (37 + b) 6) 0 99 = true := by
    rw [edy, pu_within, decide_eq_true_eq]
    exact ⟨nI_pos' (by omega), nI_le (b := 99) hdy (by omega)⟩
  have e20 : ¬ ((0 : Int32) = 2) := by decide
  have e10 : ¬ ((0 : Int32) = 1) := by decide
  unfold sp_reach sp_aim
  rw [x0, x1, x2, x9, e1, e2, if_neg e20, show (13 : Nat) = 12 + 1 from rfl, sp_chain, x8, if_pos rfl]
  unfold sp_has sp_room sp_lim
  rw [en, x0, x4, x5, x6, x7, if_neg e10, dw]
  unfold lR
  simp [hw]
theorem lx_first {g : nv_Hp} {nL nK nB nA b f d v L : Nat} {w hd : Nat → Int32} {Q : nv_Hp → Prop} (R : pu_Rm Q g nL nK nB nA) (hb : b < nB) (hw : ¬ w 8 < 0) (e1 : g (37 + b) 1 = nI d) (e2 : g (37 + b) 2 = nI f) : (sp_first w hd (lx g nL f d v L) (fun k => g (25 + k)) (g (37 + b)) (nL + 1) nK).isSome = ((sp_first w hd (fun j => g (13 + j)) (fun k => g (25 + k)) (g (37 + b)) nL nK).isSome || lR g w v L b) := by
  have a3 := R.2.1.1.2.2
  unfold sp_first
  rw [List.range_succ, List.find?_append]
  have ec : (List.range nL).find? (sp_reach w hd (lx g nL f d v L) (fun k => g (25 + k)) (g (37 + b)) nK) = (List.range nL).find? (sp_reach w hd (fun j => g (13 + j)) (fun k => g (25 + k)) (g (37 + b)) nK) := pu_findc fun i hi => by
    symm
    exact sp_reach_cg (N := nL) (by omega) hi (fun _ _ => rfl) (fun _ _ => rfl) (fun j hj t _ => by unfold lx; rw [if_neg (by omega)]) (fun _ _ _ _ => rfl) (fun _ _ _ => rfl) (pu_Rn_roots R)
  rw [ec]
  cases (List.range nL).find? (sp_reach w hd (fun j => g (13 + j)) (fun k => g (25 + k)) (g (37 + b)) nK) with
  | some i => rfl
  | none =>
    rw [Option.none_or, List.find?_cons, lx_reach R hb hw e1 e2]
    cases lR g w v L b <;> rfl
