/-! ===== operations: reaches, bound, till, ask, owes ===== -/
def pu_o0 (c m : Option Int32) : Prop := ∃ v, c = some v ∧ m = some v
def pu_o1 (c : Option Int32) (m : Option (Int32 × nv_Hp)) : Prop := ∃ v h2, c = some v ∧ m = some (v, h2) ∧ pu_R h2
def pu_o2 (c : Option (Int32 × nv_Hp)) (m : nv_Hp → Option (Int32 × nv_Hp)) : Prop := ∃ v h1 h2, c = some (v, h1) ∧ m h1 = some (v, h2) ∧ pu_R h2
theorem pu_scr41 : pu_scr 73 41 := by unfold pu_scr; omega
def sA (w bg : Nat → Int32) (bits x : Int32) : Int32 := if fc_hasBit bits x = true then bg 5 else (if bits = 0 then (if x = bg 1 then (if w 7 = 0 then 0 else (if w 7 = 1 then bg 5 else bg 5 + bg 5 / 10)) else 0) else 0)
theorem fc_askOf_s (h : nv_Hp) (k0 k1 : Nat) (bits x : Int32) : fc_askOf h k0 k1 bits x = sA (h k0) (h k1) bits x := rfl
theorem sA_w {w w' bg : Nat → Int32} {bits x : Int32} (hw : ∀ j, j < 9 → w j = w' j) : sA w bg bits x = sA w' bg bits x := by
  unfold sA; rw [hw 7 (by omega)]
theorem pu_bit0 (x : Int32) : fc_hasBit 0 x = false := by
  unfold fc_hasBit
  rw [Int32.zero_shiftRight, Int32.zero_and, if_pos rfl]
theorem pm_ask_R {h0 h : nv_Hp} {nL nK nB nA b : Nat} {w hd : Nat → Int32} {Q : nv_Hp → Prop} (R : pu_Rm Q h0 nL nK nB nA) (s : pu_sm h0 h) (hb : b < nB) (hw : ∀ j, j < 9 → h 108 j = w j) (hh : ∀ k, k < nK → h 93 k = hd k) (hB : pu_B3 (w 0)) (x : Int32) : pm_askNow h (nI b) x = some (sA w (h0 (37 + b)) (sB h0 nL nK nA w hd b) x, nv_up h 73 41 (sW h0 nL nK nA w hd b)) := by
  have c3 := R.2.1.2.2.1.2.2
  unfold pm_askNow pm_askNow_71
  rw [pm_bound_R R s hb hw hh hB, Option.bind_some]
  generalize sB h0 nL nK nA w hd b = bits
  generalize sW h0 nL nK nA w hd b = why
  have e94 : h 94 b = h0 (37 + b) 1 := pu_Rb_m (f := 1) R s hb (by omega) (by omega)
  have e98 : h 98 b = h0 (37 + b) 5 := pu_Rb_m (f := 5) R s hb (by omega) (by omega)
  simp only [pu_up_c (show 94 ≠ 73 by decide), pu_up_c (show 98 ≠ 73 by decide), pu_up_c (show 108 ≠ 73 by decide), nI_clamp (show b < 2 ^ 31 by omega), e94, e98, hw 7 (by omega), pu_bit]
  unfold sA
  by_cases c : bits = 0
  · subst c
    simp only [pu_bit0, Bool.false_eq_true, if_false, if_true, Int32.zero_shiftRight, Int32.zero_and, not_true]
    by_cases d : x = h0 (37 + b) 1
    · rw [if_pos d, if_pos d]
      split
      · rfl
      · split <;> rfl
    · rw [if_neg d, if_neg d]
  · rw [if_neg c, if_neg c]
    unfold fc_hasBit
    by_cases d : bits >>> (x &&& 31) &&& 1 = 0
    · simp only [d, not_true, if_false, if_true, Bool.false_eq_true]
    · simp only [d, not_false_iff, if_false, if_true]
def sO (g : nv_Hp) (nL nK nA : Nat) (w hd : Nat → Int32) (b : Nat) : Int32 := if sB g nL nK nA w hd b &&& ((1 <<< (g (37 + b) 1 &&& 31)) ^^^ (-1)) = 0 then 0 else match sp_first w hd (fun j => g (13 + j)) (fun k => g (25 + k)) (g (37 + b)) nL nK with
  | some i => if g (13 + i) 0 = 2 then g (37 + b) 5 else fj_max 0 (g (37 + b) 5 - sp_lim w (g (13 + i)))
  | none => 0
theorem sO_w {g : nv_Hp} {nL nK nA : Nat} {w w' hd hd' : Nat → Int32} {b : Nat} (hN : nL ≤ 13) (hr : sp_roots (fun i => g (13 + i)) nL) (hw : ∀ j, j < 9 → w j = w' j) (hh : ∀ k, k < nK → hd k = hd' k) : sO g nL nK nA w hd b = sO g nL nK nA w' hd' b := by
  unfold sO sp_lim
  rw [sB_w hN hr hw hh, sp_first_cg hN hw hh (fun _ _ _ _ => rfl) (fun _ _ _ _ => rfl) (fun _ _ _ => rfl) hr, hw 2 (by omega)]
theorem pu_doer0 {d : Nat} (h : d < 8) : (1 <<< (nI d &&& 31)) &&& ((1 <<< (nI d &&& 31)) ^^^ (-1)) = (0 : Int32) := by
  have : ∀ d : Fin 8, (1 <<< (nI d.1 &&& 31)) &&& ((1 <<< (nI d.1 &&& 31)) ^^^ (-1)) = (0 : Int32) := by decide
  exact this ⟨d, h⟩
theorem fc_owed_R {h0 h : nv_Hp} {nL nK nB nA k1 b : Nat} {hd : Nat → Int32} {Q : nv_Hp → Prop} (R : pu_Rm Q h0 nL nK nB nA) (s : pu_sm h0 h) (hb : b < nB) : fc_owedBy h k1 (37 + b) (sW h0 nL nK nA (h k1) hd b) = some (sO h0 nL nK nA (h k1) hd b) := by
  obtain ⟨⟨a1, a2, a3⟩, ⟨b1, b2, b3⟩, ⟨c1, c2, c3⟩, ⟨d1, d2, d3⟩, e1⟩ := R.2.1
  unfold fc_owedBy
  rw [fc_bits_R R s hb, Option.bind_some, pu_sm_c s (show ¬ (8 ≤ 37 + b ∧ 37 + b ≤ 12) ∧ _ by omega)]
  obtain ⟨_, e0, ⟨d, hd8, ed⟩, _⟩ := R.2.2.2.2.1 b hb
  unfold sO
  by_cases z : sB h0 nL nK nA (h k1) hd b &&& ((1 <<< (h0 (37 + b) 1 &&& 31)) ^^^ (-1)) = 0
  · rw [if_pos z, if_pos z, ite_self]
  · rw [if_neg z, if_neg z]
    have nz := z
    unfold sB sp_bits sp_bits0 at z
    unfold sW sp_why sp_why0
    by_cases q : h0 (37 + b) 2 = h0 (37 + b) 1
    · rw [if_pos q, ed, pu_doer0 hd8] at z
      exact absurd rfl z
    · rw [if_neg q] at z
      rw [if_neg q]
      cases e : sp_first (h k1) hd (fun j => h0 (13 + j)) (fun k => h0 (25 + k)) (h0 (37 + b)) nL nK with
      | some i =>
        have hi := sp_first_lt e
        have g : fc_isLeave h (nI i) = true := by unfold fc_isLeave; rw [pu_sm_0 s (by decide), a1]; exact pu_ido (by omega) hi
        simp only [g, if_true, pu_inb (show i < 12 by omega) (show 12 < 2 ^ 31 by omega), nI_clamp (show i < 2 ^ 31 by omega)]
        unfold fc_limitOf sp_lim
        rw [pu_sm_c s (show ¬ (8 ≤ 13 + i ∧ 13 + i ≤ 12) ∧ _ by omega)]
        split <;> rfl
      | none =>
        rw [e] at z
        try simp only [] at z ⊢
        have nl : ∀ x : Int32, x = 30 ∨ x = 20 ∨ x = -1 → fc_isLeave h x = false := by
          intro x hx
          unfold fc_isLeave
          rw [pu_sm_0 s (by decide), a1, pu_within]
          simp only [decide_eq_false_iff_not, pu_le, pu_n1 (show nL < 2 ^ 30 by omega)]
          rw [show (0 : Int32).toInt = 0 by decide]
          rcases hx with rfl | rfl | rfl
          · rw [show (30 : Int32).toInt = 30 by decide]; omega
          · rw [show (20 : Int32).toInt = 20 by decide]; omega
          · rw [show (-1 : Int32).toInt = -1 by decide]; omega
        rw [nl]
        · rfl
        · split
          · exact Or.inl rfl
          · split
            · exact Or.inr (Or.inl rfl)
            · exact Or.inr (Or.inr rfl)
theorem pm_owes_R {h0 h : nv_Hp} {nL nK nB nA b : Nat} {w hd : Nat → Int32} {Q : nv_Hp → Prop} (R : pu_Rm Q h0 nL nK nB nA) (s : pu_sm h0 h) (hb : b < nB) (hw : ∀ j, j < 9 → h 108 j = w j) (hh : ∀ k, k < nK → h 93 k = hd k) (hB : pu_B3 (w 0)) : pm_owesNow h (nI b) = some (sO h0 nL nK nA w hd b, nv_up h 73 41 (sW h0 nL nK nA w hd b)) := by
  obtain ⟨⟨a1, a2, a3⟩, ⟨b1, b2, b3⟩, ⟨c1, c2, c3⟩, ⟨d1, d2, d3⟩, e1⟩ := R.2.1
  unfold pm_owesNow nv_lt
  rw [pm_bound_R R s hb hw hh hB, Option.bind_some]
  have e94 : h 94 b = h0 (37 + b) 1 := pu_Rb_m (f := 1) R s hb (by omega) (by omega)
  have e98 : h 98 b = h0 (37 + b) 5 := pu_Rb_m (f := 5) R s hb (by omega) (by omega)
  obtain ⟨_, e0, ⟨d, hd8, ed⟩, _⟩ := R.2.2.2.2.1 b hb
  unfold pm_limitOf
  simp only [pu_up_c (show 94 ≠ 73 by decide), pu_up_c (show 98 ≠ 73 by decide), pu_up_c (show 108 ≠ 73 by decide), pu_up_c (show 79 ≠ 73 by decide), pu_up_c (show 84 ≠ 73 by decide), nv_up_s, nI_clamp (show b < 2 ^ 31 by omega), e94, e98, hw 2 (by omega)]
  generalize eH : nv_up h 73 41 (sW h0 nL nK nA w hd b) = H
  unfold sO
  by_cases z : sB h0 nL nK nA w hd b &&& ((1 <<< (h0 (37 + b) 1 &&& 31)) ^^^ (-1)) = 0
  · rw [if_pos z, if_pos z]
  · rw [if_neg z, if_neg z]
    unfold sB sp_bits sp_bits0 at z
    unfold sW sp_why sp_why0
    by_cases q : h0 (37 + b) 2 = h0 (37 + b) 1
    · rw [if_pos q, ed, pu_doer0 hd8] at z
      exact absurd rfl z
    · rw [if_neg q] at z
      rw [if_neg q]
      cases e : sp_first w hd (fun j => h0 (13 + j)) (fun k => h0 (25 + k)) (h0 (37 + b)) nL nK with
      | some i =>
        have hi := sp_first_lt e
        have n20 : ¬ nI i = 20 := fun q => by have := (nI_eq (a := i) (b := 20) (by omega) (by omega)).mp q; omega
        have e79 : h 79 i = h0 (13 + i) 0 := pu_Rl_m (f := 0) R s hi (by omega)
        have e84 : h 84 i = h0 (13 + i) 5 := pu_Rl_m (f := 5) R s hi (by omega)
        simp only [n20, if_false, pu_inb (show i < 13 by omega) (show 13 < 2 ^ 31 by omega), nI_clamp (show i < 2 ^ 31 by omega), if_true, e79, e84]
        unfold sp_lim fj_max
        by_cases f2 : h0 (13 + i) 0 = 2
        · rw [if_pos f2, if_pos f2]
        · rw [if_neg f2, if_neg f2]
          generalize h0 (37 + b) 5 - (if h0 (13 + i) 0 = 1 then 10 * w 2 else h0 (13 + i) 5) = v
          by_cases c : 0 < v
          · rw [if_pos c, if_pos (Int32.le_of_lt c)]
          · rw [if_neg c]
            by_cases c' : 0 ≤ v
            · have : v = 0 := by
                apply pu_eq
                rw [pu_lt] at c
                rw [pu_le] at c'
                omega
              rw [if_pos c', this]
            · rw [if_neg c']
      | none =>
        rw [e] at z
        try simp only [] at z ⊢
        by_cases n1 : h0 (37 + b) 2 = -1
        · rw [if_pos n1, ed, pu_doer0 hd8] at z
          exact absurd rfl z
        · rw [if_neg n1] at z
          rw [if_neg n1]
          cases wl : sp_well w (fun i => h0 (47 + i)) (h0 (37 + b)) nA with
          | true => rw [if_pos rfl, if_pos rfl]
          | false => 
            exfalso
            rw [wl] at z
            simp only [Bool.false_eq_true, if_false] at z
            exact z (Int32.zero_and)
theorem op_reaches {h : nv_Hp} (R : pu_R h) (x1 x2 x3 x4 : Int32) : pu_o1 (fc_reaches h x1 x2 x3 x4) (pm_reaches h x1 x2 x3 x4) := by
  have R' := R
  obtain ⟨nL, nK, nB, nA, r⟩ := R
  obtain ⟨⟨a1, a2, a3⟩, ⟨b1, b2, b3⟩, ⟨c1, c2, c3⟩, ⟨d1, d2, d3⟩, e1⟩ := r.2.1
  unfold fc_reaches pm_reaches
  rw [pu_two, pu_two, pu_isLeave r, pu_isBargain r, pu_flag]
  by_cases q1 : fc_isLaw x1 = true
  · rw [if_pos q1, if_pos q1]
    by_cases q2 : fc_isLeave h x2 = true
    · rw [if_pos q2, if_pos q2]
      by_cases q3 : fc_isBargain h x3 = true
      · rw [if_pos q3, if_pos q3]
        by_cases q4 : fc_isLaw x4 = true
        · rw [if_pos q4, if_pos q4]
          obtain ⟨l, hl, rfl⟩ := pu_law q1
          obtain ⟨i, hi, rfl⟩ := pu_xLeave r q2
          obtain ⟨b, hb, rfl⟩ := pu_xBargain r q3
          obtain ⟨h', g1, g2, g3, g4, g5⟩ := pm_goes_R r (pu_sm_r h) hl
          have hB := pu_Rn_B r hl
          rw [if_pos (pu_inb hl (by omega)), if_pos (pu_inb (by omega) (by omega)), if_pos (pu_inb hl (by omega)), g1, Option.bind_some, nI_clamp (by omega), nI_clamp (by omega), pu_lawc hl]
          rw [if_pos (pu_inb (by omega) (by omega)), if_pos (pu_inb (by omega) (by omega)), if_pos (pu_inb (by omega) (by omega)), if_pos (pu_inb (by omega) (by omega)), if_pos (pu_inb (by omega) (by omega)), if_pos (pu_inb (by omega) (by omega))]
          rw [pm_reach_R r g2 hb hi g3 g4 hB, pm_end_R r g2 hb hi g3 g4 hB, fc_reach_sp a1 a3 b1 b3 (pu_Rn_roots r) hi, fc_end_sp b1 b3 (by omega)]
          simp only [Option.bind_some]
          by_cases q5 : x4 = 0
          · rw [if_pos q5, if_pos q5]
            refine ⟨if sp_reach (h (61 + 3 * l)) (sH h 0) (fun j => h (13 + j)) (fun k => h (25 + k)) (h (37 + b)) nK i = true then 1 else 0, h', ?_, ?_, pu_R_sm R' g2⟩
            · show (if sp_reach (h (61 + 3 * l)) (sH h 0) (fun j => h (13 + j)) (fun k => h (25 + k)) (h (37 + b)) nK i = true then _ else _) = _
              split <;> rfl
            · split <;> rfl
          · rw [if_neg q5, if_neg q5]
            refine ⟨if sp_end (h (61 + 3 * l)) (sH h 0) (h (13 + i)) (fun k => h (25 + k)) (h (37 + b)) nK i = true then 1 else 0, h', ?_, ?_, pu_R_sm R' g2⟩
            · show (if sp_end (h (61 + 3 * l)) (sH h 0) (h (13 + i)) (fun k => h (25 + k)) (h (37 + b)) nK i = true then _ else _) = _
              split <;> rfl
            · split <;> rfl
        · rw [if_neg q4, if_neg q4]; exact ⟨_, _, rfl, rfl, R'⟩
      · rw [if_neg q3, if_neg q3]; exact ⟨_, _, rfl, rfl, R'⟩
    · rw [if_neg q2, if_neg q2]; exact ⟨_, _, rfl, rfl, R'⟩
  · rw [if_neg q1, if_neg q1]; exact ⟨_, _, rfl, rfl, R'⟩
theorem pm_boundOf_R {h0 h : nv_Hp} {nL nK nB nA l b : Nat} {Q : nv_Hp → Prop} (R : pu_Rm Q h0 nL nK nB nA) (s : pu_sm h0 h) (hl : l < 2) (hb : b < nB) (x : Int32) : ∃ h', pm_boundOf h (nI l) (nI b) x = some (if x = 0 then sB h0 nL nK nA (h0 (61 + 3 * l)) (sH h0 0) b else sW h0 nL nK nA (h0 (61 + 3 * l)) (sH h0 0) b, h') ∧ pu_sm h0 h' ∧ ∀ k, 109 ≤ k → h' k = h k := by
  obtain ⟨h', g1, g2, g3, g4, _, _, g7⟩ := pm_goes_R R s hl
  have hB := pu_Rn_B R hl
  unfold pm_boundOf
  rw [g1, Option.bind_some, pm_bound_R R (pu_sm_t s g2) hb g3 g4 hB, Option.bind_some]
  refine ⟨nv_up h' 73 41 (sW h0 nL nK nA (h0 (61 + 3 * l)) (sH h0 0) b), ?_, pu_sm_t (pu_sm_t s g2) (pu_sm_up _ pu_scr41), fun k hk => (pu_up_c (by omega)).trans (g7 k hk)⟩
  simp only [nv_up_s]
  split <;> rfl
theorem op_bound {h : nv_Hp} (R : pu_R h) (x1 x2 x3 : Int32) : pu_o1 (fc_bound h x1 x2 x3) (pm_bound h x1 x2 x3) := by
  have R' := R
  obtain ⟨nL, nK, nB, nA, r⟩ := R
  have c3 := r.2.1.2.2.1.2.2
  unfold fc_bound pm_bound
  rw [pu_two, pu_two, pu_isBargain r, pu_flag]
  by_cases q1 : fc_isLaw x1 = true
  · rw [if_pos q1, if_pos q1]
    by_cases q2 : fc_isBargain h x2 = true
    · rw [if_pos q2, if_pos q2]
      by_cases q3 : fc_isLaw x3 = true
      · rw [if_pos q3, if_pos q3]
        obtain ⟨l, hl, rfl⟩ := pu_law q1
        obtain ⟨b, hb, rfl⟩ := pu_xBargain r q2
        obtain ⟨h', g1, g2, _⟩ := pm_boundOf_R r (pu_sm_r h) hl hb x3
        rw [if_pos (pu_inb hl (by omega)), if_pos (pu_inb (by omega) (by omega)), if_pos (pu_inb (by omega) (by omega)), if_pos (pu_inb hl (by omega)), if_pos (pu_inb (by omega) (by omega)), nI_clamp (by omega), nI_clamp (by omega), pu_lawc hl, g1, fc_why_R r (pu_sm_r h) hb, fc_bound_R r (pu_sm_r h) hb]
        refine ⟨_, h', ?_, rfl, pu_R_sm R' g2⟩
        split <;> rfl
      · rw [if_neg q3, if_neg q3]; exact ⟨_, _, rfl, rfl, R'⟩
    · rw [if_neg q2, if_neg q2]; exact ⟨_, _, rfl, rfl, R'⟩
  · rw [if_neg q1, if_neg q1]; exact ⟨_, _, rfl, rfl, R'⟩
theorem pm_lawOf_R {h0 h : nv_Hp} {nL nK nB nA l j : Nat} {Q : nv_Hp → Prop} (R : pu_Rm Q h0 nL nK nB nA) (s : pu_sm h0 h) (hl : l < 2) (hj : j < 9) : ∃ h', pm_lawOf h (nI l) (nI j) = some (h0 (61 + 3 * l) j, h') ∧ pu_sm h0 h' ∧ ∀ k, 109 ≤ k → h' k = h k := by
  obtain ⟨h', g1, g2, g3⟩ := pm_reads_R R s hl
  unfold pm_lawOf
  rw [g1, Option.bind_some, show (9 : Int32) * nI l = nI (9 * l) from pk_mul 9 l, nI_add, if_pos (pu_inb (by omega) (by omega)), nI_clamp (by omega)]
  simp only [g3 j hj]
  exact ⟨h', rfl, pu_sm_t s (pu_sm_fm g2), fun k hk => by funext j; exact g2 k j (by omega) (by omega)⟩
theorem op_till {h : nv_Hp} (R : pu_R h) (x1 x2 : Int32) : pu_o1 (fc_till h x1 x2) (pm_till h x1 x2) := by
  have R' := R
  obtain ⟨nL, nK, nB, nA, r⟩ := R
  have c3 := r.2.1.2.2.1.2.2
  unfold fc_till pm_till fb_isForAnother
  rw [pu_two, pu_isBargain r]
  by_cases q1 : fc_isLaw x1 = true
  · rw [if_pos q1, if_pos q1]
    by_cases q2 : fc_isBargain h x2 = true
    · rw [if_pos q2, if_pos q2]
      obtain ⟨l, hl, rfl⟩ := pu_law q1
      obtain ⟨b, hb, rfl⟩ := pu_xBargain r q2
      obtain ⟨h', g1, g2, _⟩ := pm_lawOf_R (j := 4) r (pu_sm_r h) hl (by omega)
      have e94 : h 94 b = h (37 + b) 1 := pu_Rb_m (f := 1) r (pu_sm_r h) hb (by omega) (by omega)
      have e95 : h 95 b = h (37 + b) 2 := pu_Rb_m (f := 2) r (pu_sm_r h) hb (by omega) (by omega)
      have e99 : h 99 b = h (37 + b) 6 := pu_Rb_m (f := 6) r (pu_sm_r h) hb (by omega) (by omega)
      simp only [pu_inb (show b < 10 by omega) (show 10 < 2 ^ 31 by omega), pu_inb hl (show 2 < 2 ^ 31 by omega), if_true, nI_clamp (show b < 2 ^ 31 by omega), nI_clamp (show l < 2 ^ 31 by omega), pu_lawc hl, show (4 : Int32) = nI 4 from rfl, g1, Option.bind_some, e94, e95, e99]
      by_cases q3 : h (37 + b) 2 = -1
      · rw [if_pos q3, if_pos q3]; exact ⟨_, _, rfl, rfl, R'⟩
      · rw [if_neg q3, if_neg q3]
        by_cases q4 : h (37 + b) 2 = h (37 + b) 1
        · rw [if_pos q4, if_pos q4]; exact ⟨_, _, rfl, rfl, R'⟩
        · rw [if_neg q4, if_neg q4]
          refine ⟨_, h', rfl, ?_, pu_R_sm R' g2⟩
          unfold nv_lt fj_min
          simp only []
          generalize h (37 + b) 6 + h (61 + 3 * l) 4 = v
          by_cases c : v < 99
          · rw [if_pos c, if_pos (Int32.le_of_lt c)]
          · rw [if_neg c]
            by_cases c' : v ≤ 99
            · have : v = 99 := by
                apply pu_eq
                rw [pu_lt] at c
                rw [pu_le] at c'
                omega
              rw [if_pos c', this]
            · rw [if_neg c']
    · rw [if_neg q2, if_neg q2]; exact ⟨_, _, rfl, rfl, R'⟩
  · rw [if_neg q1, if_neg q1]; exact ⟨_, _, rfl, rfl, R'⟩
theorem op_ask {h : nv_Hp} (R : pu_R h) (x1 x2 x3 : Int32) : pu_o1 (fc_ask h x1 x2 x3) (pm_ask h x1 x2 x3) := by
  have R' := R
  obtain ⟨nL, nK, nB, nA, r⟩ := R
  have c3 := r.2.1.2.2.1.2.2
  unfold fc_ask pm_ask
  rw [pu_two, pu_isBargain r, pu_pers]
  by_cases q1 : fc_isLaw x1 = true
  · rw [if_pos q1, if_pos q1]
    by_cases q2 : fc_isBargain h x2 = true
    · rw [if_pos q2, if_pos q2]
      by_cases q3 : fc_isPerson x3 = true
      · rw [if_pos q3, if_pos q3]
        obtain ⟨l, hl, rfl⟩ := pu_law q1
        obtain ⟨b, hb, rfl⟩ := pu_xBargain r q2
        obtain ⟨h', g1, g2, g3, g4, _⟩ := pm_goes_R r (pu_sm_r h) hl
        have hB := pu_Rn_B r hl
        rw [if_pos (pu_inb hl (by omega)), if_pos (pu_inb (by omega) (by omega)), if_pos (pu_inb hl (by omega)), g1, Option.bind_some, if_pos (pu_inb (by omega) (by omega)), nI_clamp (by omega), nI_clamp (by omega), pu_lawc hl, pm_ask_R r g2 hb g3 g4 hB, fc_bound_R r (pu_sm_r h) hb]
        exact ⟨_, _, rfl, rfl, pu_R_sm R' (pu_sm_t g2 (pu_sm_up _ pu_scr41))⟩
      · rw [if_neg q3, if_neg q3]; exact ⟨_, _, rfl, rfl, R'⟩
    · rw [if_neg q2, if_neg q2]; exact ⟨_, _, rfl, rfl, R'⟩
  · rw [if_neg q1, if_neg q1]; exact ⟨_, _, rfl, rfl, R'⟩
theorem pm_owesOf_R {h0 h : nv_Hp} {nL nK nB nA l b : Nat} {Q : nv_Hp → Prop} (R : pu_Rm Q h0 nL nK nB nA) (s : pu_sm h0 h) (hl : l < 2) (hb : b < nB) : ∃ h', pm_owesOf h (nI l) (nI b) = some (sO h0 nL nK nA (h0 (61 + 3 * l)) (sH h0 0) b, h') ∧ pu_sm h0 h' ∧ ∀ k, 109 ≤ k → h' k = h k := by
  obtain ⟨h', g1, g2, g3, g4, _, _, g7⟩ := pm_goes_R R s hl
  have hB := pu_Rn_B R hl
  unfold pm_owesOf
  rw [g1, Option.bind_some, pm_owes_R R (pu_sm_t s g2) hb g3 g4 hB, Option.bind_some]
  exact ⟨_, rfl, pu_sm_t (pu_sm_t s g2) (pu_sm_up _ pu_scr41), fun k hk => (pu_up_c (by omega)).trans (g7 k hk)⟩
theorem op_owes {h : nv_Hp} (R : pu_R h) (x1 x2 : Int32) : pu_o1 (fc_owes h x1 x2) (pm_owes h x1 x2) := by
  have R' := R
  obtain ⟨nL, nK, nB, nA, r⟩ := R
  have c3 := r.2.1.2.2.1.2.2
  unfold fc_owes pm_owes
  rw [pu_two, pu_isBargain r]
  by_cases q1 : fc_isLaw x1 = true
  · rw [if_pos q1, if_pos q1]
    by_cases q2 : fc_isBargain h x2 = true
    · rw [if_pos q2, if_pos q2]
      obtain ⟨l, hl, rfl⟩ := pu_law q1
      obtain ⟨b, hb, rfl⟩ := pu_xBargain r q2
      obtain ⟨h', g1, g2, _⟩ := pm_owesOf_R r (pu_sm_r h) hl hb
      rw [if_pos (pu_inb hl (by omega)), if_pos (pu_inb (by omega) (by omega)), if_pos (pu_inb hl (by omega)), if_pos (pu_inb (by omega) (by omega)), g1, nI_clamp (by omega), nI_clamp (by omega), pu_lawc hl, fc_why_R r (pu_sm_r h) hb, Option.bind_some, fc_owed_R r (pu_sm_r h) hb]
      exact ⟨_, _, rfl, rfl, pu_R_sm R' g2⟩
    · rw [if_neg q2, if_neg q2]; exact ⟨_, _, rfl, rfl, R'⟩
  · rw [if_neg q1, if_neg q1]; exact ⟨_, _, rfl, rfl, R'⟩
