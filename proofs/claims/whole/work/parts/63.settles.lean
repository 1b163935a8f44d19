/-! ===== settling: the reference, one bargain ===== -/
theorem st_minN {a b : Nat} (ha : a < 2 ^ 31) (hb : b < 2 ^ 31) : fj_min (nI a) (nI b) = nI (min a b) := by
  unfold fj_min
  by_cases c : b < a
  · rw [if_pos (nI_lt c ha), Nat.min_eq_right (by omega)]
  · rw [if_neg (nI_nlt (by omega) hb), Nat.min_eq_left (by omega)]
theorem sO_N {g : nv_Hp} {nL nK nB nA b : Nat} {w hd : Nat → Int32} {Q : nv_Hp → Prop} (R : pu_Rm Q g nL nK nB nA) (hb : b < nB) : ∃ m, m < 2 ^ 31 ∧ sO g nL nK nA w hd b = nI m := by
  obtain ⟨_, _, _, _, _, ⟨W, hW, eW⟩, _⟩ := R.2.2.2.2.1 b hb
  unfold sO
  split
  · exact ⟨0, by omega, rfl⟩
  · split
    · split
      · exact ⟨W, by omega, eW⟩
      · unfold fj_max
        split
        · rename_i c
          obtain ⟨j, hj, e⟩ := nI_of (x := g (37 + b) 5 - sp_lim w (g (13 + _))) (Int32.not_lt.mpr (Int32.le_of_lt c))
          exact ⟨j, hj, e⟩
        · exact ⟨0, by omega, rfl⟩
    · exact ⟨0, by omega, rfl⟩
theorem pm_settles_sp {h0 h : nv_Hp} {nL nK nB nA b B : Nat} {w hd P : Nat → Int32} {Q : nv_Hp → Prop} (R : pu_Rm Q h0 nL nK nB nA) (s : pu_sm h0 h) (hb : b < nB) (hw : ∀ j, j < 9 → h 108 j = w j) (hh : ∀ k, k < nK → h 93 k = hd k) (hB : pu_B3 (w 0)) (hP : ∀ z, z < 8 → h 109 z = P z) (hok : st_ok P B) (hBB : B + 11000 < 2 ^ 30) :
    ∃ h', pm_settles h (nI b) = some h' ∧ (∀ z, z < 8 → h' 109 z = st_purse (st_A h0 nL nK nA w hd b) (st_d h0 b) (st_o h0 b) (sB h0 nL nK nA w hd b &&& ((1 <<< (nI (st_d h0 b) &&& 31)) ^^^ (-1))) (sO h0 nL nK nA w hd b) P z) ∧
      h' 110 b = st_lost (st_A h0 nL nK nA w hd b) (st_d h0 b) (st_o h0 b) P ∧ (∀ j, j ≠ b → h' 110 j = h 110 j) ∧ (∀ k, k ≠ 109 → k ≠ 110 → k ≠ 73 → h' k = h k) ∧ (∀ j, j ≠ 41 → h' 73 j = h 73 j) ∧
      st_ok (st_purse (st_A h0 nL nK nA w hd b) (st_d h0 b) (st_o h0 b) (sB h0 nL nK nA w hd b &&& ((1 <<< (nI (st_d h0 b) &&& 31)) ^^^ (-1))) (sO h0 nL nK nA w hd b) P) (B + 11000) := by
  obtain ⟨ed, hd8, eo, ho8⟩ := st_do R hb
  have c3 := R.2.1.2.2.1.2.2
  obtain ⟨_, _, _, _, _, ⟨W, hW, eW⟩, _⟩ := R.2.2.2.2.1 b hb
  generalize st_d h0 b = d at ed hd8 ⊢
  generalize st_o h0 b = o at eo ho8 ⊢
  obtain ⟨e, he, hA0⟩ := sA_V (w := w) (bg := h0 (37 + b)) (bits := sB h0 nL nK nA w hd b) eW hW
  obtain ⟨hA1, hdue⟩ := st_due_sp (A := st_A h0 nL nK nA w hd b) (V := nI e) (e := e) rfl (by omega) (fun x _ => hA0 x)
  obtain ⟨du, hdu, edu⟩ : ∃ du, du ≤ 1100 ∧ st_due (st_A h0 nL nK nA w hd b) = nI du := by
    rcases hdue with q | q
    · exact ⟨0, by omega, q⟩
    · exact ⟨e, by omega, q⟩
  have hA : ∀ x, x < 8 → st_A h0 nL nK nA w hd b x = 0 ∨ st_A h0 nL nK nA w hd b x = nI du := fun x hx => by rw [← edu]; exact hA1 x hx
  have e94 : h 94 b = nI d := (pu_Rb_m (f := 1) R s hb (by omega) (by omega)).trans ed
  obtain ⟨m, hm, eO⟩ := sO_N (w := w) (hd := hd) R hb
  unfold pm_settles
  rw [pu_ltE, nI_clamp (by omega), e94, pm_bound_R R s hb hw hh hB, Option.bind_some, pu_ltE]
  generalize eH : nv_up h 73 41 (sW h0 nL nK nA w hd b) = H
  have Hk : ∀ k, k ≠ 73 → H k = h k := fun k hk => by rw [← eH, pu_up_c hk]
  have H73 : ∀ j, j ≠ 41 → H 73 j = h 73 j := fun j hj => by rw [← eH, nv_up_j _ _ hj]
  have smk : ∀ G : nv_Hp, (∀ k, k ≠ 109 → k ≠ 110 → k ≠ 73 → G k = h k) → (∀ j, j ≠ 41 → G 73 j = h 73 j) → pu_sm h0 G := fun G a c => pu_sm_t s fun k j q => by
    by_cases z : k = 73
    · subst z; exact c j (fun y => q (by unfold pu_scr; omega))
    · rw [a k (fun y => q (by unfold pu_scr; omega)) (fun y => q (by unfold pu_scr; omega)) z]
  have sH := smk H (fun k _ _ z => Hk k z) H73
  obtain ⟨h2, p1, p2, p3⟩ := pm_due_sp (w := w) (hd := hd) R sH hb (fun j hj => by rw [Hk 108 (by decide)]; exact hw j hj) (fun k hk => by rw [Hk 93 (by decide)]; exact hh k hk) hB (nI d) (sB h0 nL nK nA w hd b &&& ((1 <<< (nI d &&& 31)) ^^^ (-1)))
  have k2 : ∀ k, k ≠ 73 → h2 k = h k := fun k hk => (p2 k hk).trans (Hk k hk)
  have j2 : ∀ j, j ≠ 41 → h2 73 j = h 73 j := fun j hj => (p3 j hj).trans (H73 j hj)
  have s2 := smk h2 (fun k _ _ z => k2 k z) j2
  obtain ⟨q', P', h3, r1, r2, r3, r4, r5, r6, r7⟩ := pm_110_loop (w := w) (hd := hd) (d := d) (o := o) (du := du) (x7 := st_li (st_least (sB h0 nL nK nA w hd b &&& ((1 <<< (nI d &&& 31)) ^^^ (-1))))) R hb hB hd8 ho8 eo hdu hA 8 0 nv_fu 0 B P h2 (by omega) (show 8 < 4000 by omega) (by omega) (by omega) hok s2 (fun j hj => by rw [k2 108 (by decide)]; exact hw j hj) (fun k hk => by rw [k2 93 (by decide)]; exact hh k hk) (fun z hz => by rw [k2 109 (by decide)]; exact hP z hz)
  have k3 : ∀ k, k ≠ 109 → k ≠ 73 → h3 k = h k := fun k a c => (r6 k a c).trans (k2 k c)
  have j3 : ∀ j, j ≠ 41 → h3 73 j = h 73 j := fun j hj => (r7 j hj).trans (j2 j hj)
  have s3 := smk h3 (fun k a _ z => k3 k a z) j3
  have eall : st_all (st_A h0 nL nK nA w hd b) d o (st_due (st_A h0 nL nK nA w hd b)) P = (nI q', P') := by
    unfold st_all; rw [edu]; exact r2
  obtain ⟨pd, pd1, pd2⟩ := r3 d hd8
  obtain ⟨v, ev, v1, v2⟩ := st_v (a := st_A h0 nL nK nA w hd b d) (du := du) (r := du - q') (p := pd) (by omega) (by omega) (by omega) (hA d hd8)
  obtain ⟨h4, t1, t2, t3, t4⟩ := pm_pays_sp (x := d) (o := o) (du := du) (r := du - q') (p := pd) (P := P') R s3 hb (fun j hj => by rw [k3 108 (by decide) (by decide)]; exact hw j hj) (fun k hk => by rw [k3 93 (by decide) (by decide)]; exact hh k hk) hB hd8 ho8 eo r5 (by omega) (by omega) (by omega) pd2 (hA d hd8)
  rw [pd2, ev] at t1 t2
  have eown : st_own (st_A h0 nL nK nA w hd b) d o P = nI v := by
    unfold st_own; rw [eall, edu]
    simp only []
    rw [pk_sub r1, pd2, ev]
  have elost : st_lost (st_A h0 nL nK nA w hd b) d o P = nI (du - q') - nI v := by
    unfold st_lost; rw [eown, eall, edu, pk_sub r1]
  have eaft : st_after (st_A h0 nL nK nA w hd b) d o P = st_pay P' d o (nI v) := by
    unfold st_after; rw [eown, eall]
  have k4 : ∀ k, k ≠ 109 → k ≠ 73 → h4 k = h k := fun k a c => (t3 k a c).trans (k3 k a c)
  have j4 : ∀ j, j ≠ 41 → h4 73 j = h 73 j := fun j hj => (t4 j hj).trans (j3 j hj)
  generalize eG : nv_up h4 110 b (nI (du - q') - nI v) = h5
  have k5 : ∀ k, k ≠ 109 → k ≠ 110 → k ≠ 73 → h5 k = h k := fun k a c z => by rw [← eG, pu_up_c c]; exact k4 k a z
  have j5 : ∀ j, j ≠ 41 → h5 73 j = h 73 j := fun j hj => by rw [← eG, nv_up_k _ _ (by decide)]; exact j4 j hj
  have s5 := smk h5 k5 j5
  have ow := pm_owes_R (w := w) (hd := hd) R s5 hb (fun j hj => by rw [k5 108 (by decide) (by decide) (by decide)]; exact hw j hj) (fun k hk => by rw [k5 93 (by decide) (by decide) (by decide)]; exact hh k hk) hB
  generalize eK : nv_up h5 73 41 (sW h0 nL nK nA w hd b) = h6 at ow
  have k6 : ∀ k, k ≠ 73 → h6 k = h5 k := fun k z => by rw [← eK, pu_up_c z]
  have j6 : ∀ j, j ≠ 41 → h6 73 j = h5 73 j := fun j hj => by rw [← eK, nv_up_j _ _ hj]
  obtain ⟨h7, u1, u2, u3⟩ := pm_give_sp (g := h6) (P := st_pay P' d o (nI v)) (d := d) (t := st_least (sB h0 nL nK nA w hd b &&& ((1 <<< (nI d &&& 31)) ^^^ (-1)))) (fj_min (sO h0 nL nK nA w hd b) (nI q')) hd8 (fun x hx => List.mem_range.mp (List.mem_of_find?_eq_some hx)) (fun z hz => by
    rw [k6 109 (by decide), ← eG, nv_up_k _ _ (by decide)]; exact t2 z hz)
  have fin : pm_settles_110 (nI b) (nI d) (st_li (st_least (sB h0 nL nK nA w hd b &&& ((1 <<< (nI d &&& 31)) ^^^ (-1))))) (nv_fu - 8) (nI (du - q')) (nI q') (nI 8) h3 = some h7 := by
    obtain ⟨mm, emm⟩ : ∃ mm, nv_fu - 8 = mm + 1 := ⟨3991, rfl⟩
    rw [emm, pm_settles_110, if_pos (show (8 : Int32) ≤ nI 8 by decide), if_pos (pu_inb hd8 (by omega)), t1, Option.bind_some, pu_ltE, pu_ltE]
    simp only []
    rw [nI_clamp (by omega), eG, ow, Option.bind_some]
    simp only []
    rw [pu_min, u1]
  refine ⟨h7, ?_, ?_, ?_, ?_, ?_, ?_, ?_⟩
  · rw [p1, pm_least_sp, edu, ← nI_0]
    exact r4.trans fin
  · intro z hz
    rw [u2 z hz]
    unfold st_purse
    rw [eaft, eall]
    cases st_least (sB h0 nL nK nA w hd b &&& ((1 <<< (nI d &&& 31)) ^^^ (-1))) <;> rfl
  · rw [u3 110 (by decide), k6 110 (by decide), ← eG, nv_up_s, elost]
  · intro j hj
    rw [u3 110 (by decide), k6 110 (by decide), ← eG, nv_up_j _ _ hj, k4 110 (by decide) (by decide)]
  · intro k a c z
    rw [u3 k a, k6 k z, k5 k a c z]
  · intro j hj
    rw [u3 73 (by decide), j6 j hj, j5 j hj]
  · have ok1 : st_ok (st_pay P' d o (nI v)) (B + 1100 * 8 + 1100) := st_pay_ok r3 pd2 pd1 v2 (by omega) ho8
    unfold st_purse
    rw [eaft, eall]
    cases el : st_least (sB h0 nL nK nA w hd b &&& ((1 <<< (nI d &&& 31)) ^^^ (-1))) with
    | none => exact fun z hz => by obtain ⟨p, x1, x2⟩ := ok1 z hz; exact ⟨p, by omega, x2⟩
    | some t =>
      have ht : t < 8 := List.mem_range.mp (List.mem_of_find?_eq_some el)
      obtain ⟨p, x1, x2⟩ := ok1 d hd8
      show st_ok (st_pay (st_pay P' d o (nI v)) d t (fj_min (fj_min (sO h0 nL nK nA w hd b) (nI q')) (st_pay P' d o (nI v) d))) (B + 11000)
      rw [x2, eO, st_minN hm (by omega), st_minN (by omega) (by omega)]
      have := st_pay_ok (D := 1100) ok1 x2 x1 (Nat.min_le_right (min m q') p) (by omega) ht
      exact fun z hz => by obtain ⟨p, y1, y2⟩ := this z hz; exact ⟨p, by omega, y2⟩
