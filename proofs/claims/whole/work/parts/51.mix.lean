/-! ===== the class's cells and the reference's apart ===== -/
def pu_mx (c m : nv_Hp) : nv_Hp := fun k => if k < 73 then c k else m k
theorem pu_mxc {c m : nv_Hp} {k : Nat} (h : k < 73) : pu_mx c m k = c k := if_pos h
theorem pu_mxm {c m : nv_Hp} {k : Nat} (h : ¬ k < 73) : pu_mx c m k = m k := if_neg h
theorem pu_mx_self (h : nv_Hp) : pu_mx h h = h := by funext k; unfold pu_mx; split <;> rfl
theorem pu_mx_upc {c m : nv_Hp} {k j : Nat} {v : Int32} (h : k < 73) : nv_up (pu_mx c m) k j v = pu_mx (nv_up c k j v) m := by
  funext a b
  unfold nv_up pu_mx
  by_cases e : a = k ∧ b = j
  · rw [if_pos e, if_pos (by omega)]; simp only [e, and_self, if_true]
  · rw [if_neg e]
    by_cases d : a < 73
    · rw [if_pos d, if_pos d]; simp only [e, if_false]
    · rw [if_neg d, if_neg d]
theorem pu_mx_upm {c m : nv_Hp} {k j : Nat} {v : Int32} (h : ¬ k < 73) : nv_up (pu_mx c m) k j v = pu_mx c (nv_up m k j v) := by
  funext a b
  unfold nv_up pu_mx
  by_cases e : a = k ∧ b = j
  · rw [if_pos e, if_neg (by omega)]; simp only [e, and_self, if_true]
  · rw [if_neg e]
    by_cases d : a < 73
    · rw [if_pos d, if_pos d]
    · rw [if_neg d, if_neg d]; simp only [e, if_false]
theorem fc_bargain_mx (c M : nv_Hp) (x1 x2 x3 x4 x5 x6 : Int32) : fc_bargain (pu_mx c M) x1 x2 x3 x4 x5 x6 = (fc_bargain c x1 x2 x3 x4 x5 x6).map (fun p => (p.1, pu_mx p.2 M)) := by
  have e29 : fc_bargain_29 (pu_mx c M) x1 x2 x3 x4 x5 x6 = (fc_bargain_29 c x1 x2 x3 x4 x5 x6).map (fun p => (p.1, pu_mx p.2 M)) := by
    unfold fc_bargain_29
    rw [pu_mxc (show 0 < 73 by decide)]
    by_cases c1 : x3 = x1
    · rw [if_pos c1, if_pos c1]; rfl
    rw [if_neg c1, if_neg c1]
    by_cases c2 : x3 = x2
    · rw [if_pos c2, if_pos c2]; rfl
    rw [if_neg c2, if_neg c2]
    by_cases c3 : fc_isWithin x4 0 3 = true
    · rw [if_pos c3, if_pos c3]
      by_cases c4 : fc_isAmount x5 = true
      · rw [if_pos c4, if_pos c4]
        by_cases c5 : fc_isDay x6 = true
        · rw [if_pos c5, if_pos c5]
          by_cases c6 : c 0 9 < 10
          · rw [if_pos c6, if_pos c6]
            by_cases c7 : nv_inb (c 0 9) 10 = true
            · rw [if_pos c7, if_pos c7]
              obtain ⟨n, hn, en⟩ := pu_ofinb c7
              have hk : 37 + (c 0 9).toNatClampNeg < 73 := by rw [en, nI_clamp (by omega)]; omega
              simp only [nv_lt, pu_mx_upc hk, pu_mx_upc (show 0 < 73 by decide), pu_mxc (show 0 < 73 by decide), Option.map_some]
            · rw [if_neg c7, if_neg c7]; rfl
          · rw [if_neg c6, if_neg c6]; rfl
        · rw [if_neg c5, if_neg c5]; rfl
      · rw [if_neg c4, if_neg c4]; rfl
    · rw [if_neg c3, if_neg c3]; rfl
  unfold fc_bargain
  rw [e29]
  by_cases c1 : fc_isPerson x1 = true
  · rw [if_pos c1, if_pos c1]
    by_cases c2 : fc_isPerson x3 = true
    · rw [if_pos c2, if_pos c2]
      by_cases c3 : x2 = -1
      · rw [if_pos c3, if_pos c3]
      · rw [if_neg c3, if_neg c3]
        by_cases c4 : fc_isPerson x2 = true
        · rw [if_pos c4, if_pos c4]
        · rw [if_neg c4, if_neg c4]; rfl
    · rw [if_neg c2, if_neg c2]; rfl
  · rw [if_neg c1, if_neg c1]; rfl
theorem pm_bargain_mx (C m : nv_Hp) (x1 x2 x3 x4 x5 x6 : Int32) : pm_bargain (pu_mx C m) x1 x2 x3 x4 x5 x6 = (pm_bargain m x1 x2 x3 x4 x5 x6).map (fun p => (p.1, pu_mx C p.2)) := by
  unfold pm_bargain
  generalize (if pm_isPerson x1 = true then _ else false : Bool) = b
  unfold pm_bargain_41
  have m73 : ∀ u j, pu_mx C u 73 j = u 73 j := fun u j => by rw [pu_mxm (by decide)]
  simp only [nv_lt, m73, pu_mx_upm (show ¬ 94 < 73 by decide), pu_mx_upm (show ¬ 95 < 73 by decide), pu_mx_upm (show ¬ 96 < 73 by decide), pu_mx_upm (show ¬ 97 < 73 by decide), pu_mx_upm (show ¬ 98 < 73 by decide), pu_mx_upm (show ¬ 99 < 73 by decide), pu_mx_upm (show ¬ 73 < 73 by decide)]
  have ap : ∀ (P : Prop) [Decidable P] (a d : Option (Int32 × nv_Hp)), (if P then a else d).map (fun p => (p.1, pu_mx C p.2)) = if P then a.map (fun p => (p.1, pu_mx C p.2)) else d.map (fun p => (p.1, pu_mx C p.2)) := fun P _ a d => by split <;> rfl
  simp only [ap, Option.map_some, Option.map_none]
