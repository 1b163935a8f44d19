/-! ===== specs: well, why, bits ===== -/
def sp_ahead (af : Nat → Nat → Int32) (i k : Nat) : Bool := decide (af k 2 < af i 2) || (decide (af k 2 = af i 2) && decide (k < i))
def sp_ref1 (af : Nat → Nat → Int32) (bg : Nat → Int32) (i k : Nat) : Bool := sp_ahead af i k && (decide (af k 3 = 0) && (decide (af k 0 = bg 0) && decide (af k 1 = bg 2)))
def sp_ref (af : Nat → Nat → Int32) (bg : Nat → Int32) (nA i : Nat) : Bool := (List.range nA).any (sp_ref1 af bg i)
def sp_ok (w : Nat → Int32) (af : Nat → Nat → Int32) (bg : Nat → Int32) (i : Nat) : Bool := (decide (af i 0 = bg 0) && decide (af i 1 = bg 2)) && (decide (af i 3 = 1) && (!decide (bg 6 + w 4 < af i 2) && (decide (w 5 = 0) || !decide (af i 4 < bg 5))))
def sp_well (w : Nat → Int32) (af : Nat → Nat → Int32) (bg : Nat → Int32) (nA : Nat) : Bool := (List.range nA).any fun i => sp_ok w af bg i && !sp_ref af bg nA i
theorem sp_well_cg {w w' : Nat → Int32} {af af' : Nat → Nat → Int32} {bg bg' : Nat → Int32} {nA : Nat} (hw : ∀ j, j < 9 → w j = w' j) (ha : ∀ i, i < nA → ∀ f, f < 5 → af i f = af' i f) (hg : ∀ f, f < 7 → bg f = bg' f) : sp_well w af bg nA = sp_well w' af' bg' nA := by
  unfold sp_well
  apply pu_anyc
  intro i hi
  have e : sp_ref af bg nA i = sp_ref af' bg' nA i := by
    unfold sp_ref
    apply pu_anyc
    intro k hk
    unfold sp_ref1 sp_ahead
    rw [ha k hk 0 (by omega), ha k hk 1 (by omega), ha k hk 2 (by omega), ha k hk 3 (by omega), ha i hi 2 (by omega), hg 0 (by omega), hg 2 (by omega)]
  rw [e]
  unfold sp_ok
  rw [ha i hi 0 (by omega), ha i hi 1 (by omega), ha i hi 2 (by omega), ha i hi 3 (by omega), ha i hi 4 (by omega), hg 0 (by omega), hg 2 (by omega), hg 5 (by omega), hg 6 (by omega), hw 4 (by omega), hw 5 (by omega)]
theorem fc_ref_sp {h : nv_Hp} {k2 nA i : Nat} (hA : h 0 10 = nI nA) (hn : nA ≤ 12) (hi : i < 12) : fc_wasRefusedAhead h (nI i) k2 = some (sp_ref (fun i => h (47 + i)) (h k2) nA i) := by
  unfold fc_wasRefusedAhead nv_lt sp_ref
  apply pu_any (N := nA)
  · intro n k hk
    rw [fc_wasRefusedAhead_13, hA, if_neg (nI_ge hk (by omega)), if_pos (pu_inb (by omega) (by omega)), nI_clamp (by omega), nI_clamp (by omega)]
    unfold fc_wasRefusedAhead_60 fc_isSaidByNamed sp_ref1 sp_ahead
    simp only [nI_leI (show i < 2 ^ 31 by omega) (show k < 2 ^ 31 by omega), nI_1]
    have eo : (k < i) ↔ ¬ (i ≤ k) := by omega
    by_cases a : h (47 + k) 2 < h (47 + i) 2 <;> by_cases b : h (47 + k) 2 = h (47 + i) 2 <;> by_cases c : i ≤ k <;> by_cases d : h (47 + k) 3 = 0 <;> by_cases e : h (47 + k) 0 = h k2 0 <;> by_cases f : h (47 + k) 1 = h k2 2 <;> simp only [eo, a, b, c, d, e, f, if_true, if_false, decide_true, decide_false, Bool.true_and, Bool.false_and, Bool.or_true, Bool.true_or, Bool.or_false, Bool.false_or, Bool.and_true, Bool.and_false, Bool.not_true, Bool.not_false, not_true, not_false_iff, reduceIte, Bool.false_eq_true, Int32.lt_irrefl, ite_self]
  · intro n
    rw [fc_wasRefusedAhead_13, hA, if_pos (nI_le (Nat.le_refl _) (by omega))]
  · omega
theorem fc_well_sp {h : nv_Hp} {k1 k2 nA : Nat} (hA : h 0 10 = nI nA) (hn : nA ≤ 12) : fc_isWell h k1 k2 = some (sp_well (h k1) (fun i => h (47 + i)) (h k2) nA) := by
  unfold fc_isWell sp_well
  apply pu_any (N := nA)
  · intro n i hi
    rw [fc_isWell_2, hA, if_neg (nI_ge hi (by omega)), if_pos (pu_inb (by omega) (by omega)), nI_clamp (by omega)]
    unfold fc_isWell_70
    rw [if_pos (pu_inb (by omega) (by omega)), fc_ref_sp hA hn (by omega), nI_1]
    unfold fc_isSaidByNamed sp_ok
    cases sp_ref (fun i => h (47 + i)) (h k2) nA i <;> by_cases a : h (47 + i) 0 = h k2 0 <;> by_cases b : h (47 + i) 1 = h k2 2 <;> by_cases c : h (47 + i) 3 = 1 <;> by_cases d : h k2 6 + h k1 4 < h (47 + i) 2 <;> by_cases e : h k1 5 = 0 <;> by_cases f : h (47 + i) 4 < h k2 5 <;> simp [a, b, c, d, e, f]
  · intro n
    rw [fc_isWell_2, hA, if_pos (nI_le (Nat.le_refl _) (by omega))]
  · omega
def pu_bgm (h : nv_Hp) (b : Nat) : Nat → Int32 := fun f => if f = 0 then nI b else h (93 + f) b
theorem pm_well_sp {h : nv_Hp} {b nA : Nat} (hA : h 73 30 = nI nA) (hn : nA ≤ 12) (hb : b < 10) : pm_isWell h (nI b) = some (sp_well (h 108) (fun i f => h (100 + f) i) (pu_bgm h b) nA) := by
  unfold pm_isWell sp_well
  apply pu_acc (N := nA)
  · intro n q i hi
    rw [pm_isWell_4, hA, if_neg (nI_ge hi (by omega)), if_pos (pu_inb (by omega) (by omega))]
    rw [pu_flagw (F := pm_isWell_103 h (nI b) q (nI i) (pm_isWell_4 h (nI b) n)) (N := nA) (p := sp_ref1 (fun i f => h (100 + f) i) (pu_bgm h b) i) (K := fun x => pm_isWell_217 h (nI b) q (nI i) x (pm_isWell_4 h (nI b) n))]
    · unfold pm_isWell_217 sp_ok
      rw [nI_1]
      show _ = pm_isWell_4 h (nI b) n (q || (_ && !sp_ref (fun i f => h (100 + f) i) (pu_bgm h b) nA i)) _
      unfold sp_ref pu_bgm
      simp only [nI_clamp (show i < 2 ^ 31 by omega), nI_clamp (show b < 2 ^ 31 by omega), Nat.add_zero, if_true, Nat.reduceAdd, Nat.reduceEqDiff, if_false]
      generalize (List.range nA).any (sp_ref1 (fun i f => h (100 + f) i) (fun f => if f = 0 then nI b else h (93 + f) b) i) = z
      cases z <;> cases q <;> by_cases a : h 100 i = nI b <;> by_cases bb : h 101 i = h 95 b <;> by_cases c : h 103 i = 1 <;> by_cases d : h 99 b + h 108 4 < h 102 i <;> by_cases e : h 108 5 = 0 <;> by_cases f : h 104 i < h 98 b <;> simp [a, bb, c, d, e, f]
    · intro n2 k hk
      rw [pm_isWell_103, hA, if_neg (nI_ge hk (by omega)), if_pos rfl, if_pos (pu_inb (by omega) (by omega)), if_pos (pu_inb (by omega) (by omega))]
      unfold pm_isWell_160 sp_ref1 sp_ahead pu_bgm
      rw [if_pos (pu_inb (by omega) (by omega))]
      simp only [nI_leI (show i < 2 ^ 31 by omega) (show k < 2 ^ 31 by omega), nI_1]
      simp only [nI_clamp (show i < 2 ^ 31 by omega), nI_clamp (show b < 2 ^ 31 by omega), nI_clamp (show k < 2 ^ 31 by omega), Nat.add_zero, if_true, Nat.reduceAdd, Nat.reduceEqDiff, if_false]
      have eo : (k < i) ↔ ¬ (i ≤ k) := by omega
      by_cases a : h 102 k < h 102 i <;> by_cases bb : h 102 k = h 102 i <;> by_cases c : i ≤ k <;> by_cases d : h 103 k = 0 <;> by_cases e : h 100 k = nI b <;> by_cases f : h 101 k = h 95 b <;> simp only [eo, a, bb, c, d, e, f, if_true, if_false, decide_true, decide_false, Bool.true_and, Bool.false_and, Bool.or_true, Bool.true_or, Bool.or_false, Bool.false_or, Bool.and_true, Bool.and_false, Bool.not_true, Bool.not_false, not_true, not_false_iff, reduceIte, Bool.false_eq_true, Int32.lt_irrefl, ite_self]
    · intro n2 k hk
      rw [pm_isWell_103, hA, if_neg (nI_ge hk (by omega)), if_neg (by decide)]
    · intro n2 x
      rw [pm_isWell_103, hA, if_pos (nI_le (Nat.le_refl _) (by omega))]
    · omega
  · intro n q
    rw [pm_isWell_4, hA, if_pos (nI_le (Nat.le_refl _) (by omega))]
  · omega
