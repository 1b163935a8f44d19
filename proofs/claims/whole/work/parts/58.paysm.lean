/-! ===== settling: the reference's amounts ===== -/
theorem st_amt {a : Int32} {du r p : Nat} (hdu : du < 2 ^ 31) (hr : r ≤ du) (hp : p < 2 ^ 31) (ha : a = 0 ∨ a = nI du) : (if a = 0 then (0 : Int32) else if nI p ≤ nI r then nI p else nI r) = fj_min (fj_min (nI r) a) (nI p) := by
  unfold fj_min
  by_cases z : a = 0
  · rw [if_pos z, z]
    have e : (if (0 : Int32) < nI r then (0 : Int32) else nI r) = 0 := by
      by_cases c : r = 0
      · subst c; decide
      · rw [if_pos (show (0 : Int32) < nI r from nI_lt (a := 0) (by omega) (by omega))]
    rw [e, if_neg (nI_pos hp)]
  · rw [if_neg z]
    rcases ha with q | q
    · exact absurd q z
    · rw [q, if_neg (nI_nlt hr (by omega))]
      by_cases c : p < r
      · rw [if_pos (nI_le (by omega) (by omega)), if_pos (nI_lt c (by omega))]
      · rw [if_neg (nI_nlt (by omega) (by omega))]
        by_cases d : p = r
        · subst d; rw [if_pos (nI_le (Nat.le_refl _) (by omega))]
        · rw [if_neg (nI_ge (by omega) (by omega))]
theorem pu_scr109 (j : Nat) : pu_scr 109 j := by unfold pu_scr; omega
theorem pm_pays_sp {h0 h : nv_Hp} {nL nK nB nA b x o du r p : Nat} {w hd P : Nat → Int32} {Q : nv_Hp → Prop} (R : pu_Rm Q h0 nL nK nB nA) (s : pu_sm h0 h) (hb : b < nB) (hw : ∀ j, j < 9 → h 108 j = w j) (hh : ∀ k, k < nK → h 93 k = hd k) (hB : pu_B3 (w 0)) (hx : x < 8) (ho : o < 8) (eo : h0 (37 + b) 3 = nI o) (hP : ∀ z, z < 8 → h 109 z = P z) (hdu : du < 2 ^ 31) (hr : r ≤ du) (hp : p < 2 ^ 31) (ep : P x = nI p) (ha : st_A h0 nL nK nA w hd b x = 0 ∨ st_A h0 nL nK nA w hd b x = nI du) :
    ∃ h', pm_pays h (nI b) (nI x) (nI r) = some (fj_min (fj_min (nI r) (st_A h0 nL nK nA w hd b x)) (P x), h') ∧ (∀ z, z < 8 → h' 109 z = st_pay P x o (fj_min (fj_min (nI r) (st_A h0 nL nK nA w hd b x)) (P x)) z) ∧ (∀ k, k ≠ 109 → k ≠ 73 → h' k = h k) ∧ ∀ j, j ≠ 41 → h' 73 j = h 73 j := by
  unfold pm_pays
  rw [pm_ask_R R s hb hw hh hB, Option.bind_some]
  have e96 : h 96 b = nI o := (pu_Rb_m (f := 3) R s hb (by omega) (by omega)).trans eo
  have c3 := R.2.1.2.2.1.2.2
  generalize eH : nv_up h 73 41 (sW h0 nL nK nA w hd b) = H
  have Hk : ∀ k, k ≠ 73 → H k = h k := fun k hk => by rw [← eH, pu_up_c hk]
  have H73 : ∀ j, j ≠ 41 → H 73 j = h 73 j := fun j hj => by rw [← eH, nv_up_j _ _ hj]
  have eA : sA w (h0 (37 + b)) (sB h0 nL nK nA w hd b) (nI x) = st_A h0 nL nK nA w hd b x := rfl
  simp only [eA, nI_clamp (show x < 2 ^ 31 by omega), Hk 109 (by decide), hP x hx, ep, st_amt hdu hr hp ha]
  rw [← ep]
  generalize fj_min (fj_min (nI r) (st_A h0 nL nK nA w hd b x)) (P x) = v
  unfold pm_pays_37
  rw [pu_ltE, nI_clamp (by omega), nI_clamp (by omega), nv_up_k _ _ (show 96 ≠ 109 by decide), Hk 96 (by decide), e96, if_pos (pu_inb ho (by omega)), pu_ltE, nI_clamp (by omega), Hk 109 (by decide), hP x hx]
  refine ⟨_, rfl, fun z hz => ?_, fun k a c => by rw [pu_up_c a, pu_up_c a, Hk k c], fun j hj => by rw [nv_up_k _ _ (by decide), nv_up_k _ _ (by decide), H73 j hj]⟩
  unfold st_pay
  by_cases c : z = o
  · subst c
    rw [nv_up_s, if_pos rfl]
    by_cases d : z = x
    · subst d; rw [nv_up_s, if_pos rfl]
    · rw [nv_up_j _ _ d, if_neg d, Hk 109 (by decide), hP z hz]
  · rw [nv_up_j _ _ c, if_neg c]
    by_cases d : z = x
    · subst d; rw [nv_up_s, if_pos rfl]
    · rw [nv_up_j _ _ d, if_neg d, Hk 109 (by decide), hP z hz]
