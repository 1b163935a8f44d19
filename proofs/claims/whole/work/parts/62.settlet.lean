/-! ===== settling: the reference's tail ===== -/
theorem pu_min (a b : Int32) : (if a ≤ b then a else b) = fj_min a b := by
  unfold fj_min
  by_cases c : b < a
  · rw [if_pos c, if_neg (Int32.not_le.mpr c)]
  · rw [if_neg c, if_pos (Int32.not_lt.mp c)]
theorem pm_give_sp {g : nv_Hp} {P : Nat → Int32} {d : Nat} {t : Option Nat} (amt : Int32) (hd8 : d < 8) (ht : ∀ x, t = some x → x < 8) (hP : ∀ z, z < 8 → g 109 z = P z) : ∃ h', pm_settles_196 g (nI d) (st_li t) amt = some h' ∧ (∀ z, z < 8 → h' 109 z = (match t with | none => P | some x => st_pay P d x (fj_min amt (P d))) z) ∧ ∀ k, k ≠ 109 → h' k = g k := by
  unfold pm_settles_196 pm_settles_220
  rw [if_pos (pu_inb hd8 (by omega)), nI_clamp (by omega), hP d hd8, pu_min]
  cases t with
  | none => exact ⟨g, by rw [show st_li none = -1 from rfl, if_pos rfl], hP, fun _ _ => rfl⟩
  | some x =>
    have hx := ht x rfl
    rw [show st_li (some x) = nI x from rfl, if_neg (pu_m1 (by omega)), pu_ltE, if_pos (pu_inb hx (by omega)), pu_ltE, nI_clamp (by omega), if_pos (pu_inb hd8 (by omega))]
    refine ⟨_, rfl, fun z hz => ?_, fun k hk => by rw [pu_up_c hk, pu_up_c hk]⟩
    show _ = st_pay P d x (fj_min amt (P d)) z
    unfold st_pay
    by_cases c : z = x
    · subst c
      rw [nv_up_s, if_pos rfl]
      by_cases e : z = d
      · subst e; rw [nv_up_s, if_pos rfl]
      · rw [nv_up_j _ _ e, if_neg e, hP z hz]
    · rw [nv_up_j _ _ c, if_neg c]
      by_cases e : z = d
      · subst e; rw [nv_up_s, if_pos rfl]
      · rw [nv_up_j _ _ e, if_neg e, hP z hz]
