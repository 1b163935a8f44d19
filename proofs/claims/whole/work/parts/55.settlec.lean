/-! ===== settling: the class ===== -/
theorem st_fold_succ {σ : Type} (f : σ → Nat → σ) (s : σ) (i : Nat) : (List.range' 0 (i + 1)).foldl f s = f ((List.range' 0 i).foldl f s) i := by
  rw [List.range'_1_concat, List.foldl_append, Nat.zero_add]
  rfl
def st_li (o : Option Nat) : Int32 := match o with
  | some x => nI x
  | none => -1
theorem fc_least_li (h : nv_Hp) (bits : Int32) : fc_leastPerson h bits = some (st_li (st_least bits)) := fc_least_sp h bits
theorem fc_bar_sp {h0 h : nv_Hp} {nL nK nB nA k1 b d o : Nat} {P hd : Nat → Int32} {Q : nv_Hp → Prop} (R : pu_Rm Q h0 nL nK nB nA) (s : pu_sm h0 h) (hb : b < nB) (hk1 : 59 ≤ k1 ∧ k1 ≤ 64) (ed : h0 (37 + b) 1 = nI d) (hd8 : d < 8) (eo : h0 (37 + b) 3 = nI o) (ho8 : o < 8) (hP : ∀ z, z < 8 → h 8 z = P z) :
    ∃ h', fc_settleBargain_58 k1 (37 + b) (sW h0 nL nK nA (h0 k1) hd b) (sB h0 nL nK nA (h0 k1) hd b) (st_due (fun x => sA (h0 k1) (h0 (37 + b)) (sB h0 nL nK nA (h0 k1) hd b) (nI x))) nv_fu 0 0 h = some h' ∧
      (∀ z, z < 8 → h' 8 z = st_purse (fun x => sA (h0 k1) (h0 (37 + b)) (sB h0 nL nK nA (h0 k1) hd b) (nI x)) d o (sB h0 nL nK nA (h0 k1) hd b &&& ((1 <<< (nI d &&& 31)) ^^^ (-1))) (sO h0 nL nK nA (h0 k1) hd b) P z) ∧
      h' 9 b = st_lost (fun x => sA (h0 k1) (h0 (37 + b)) (sB h0 nL nK nA (h0 k1) hd b) (nI x)) d o P ∧ (∀ j, j ≠ b → h' 9 j = h 9 j) ∧ ∀ k, k ≠ 8 → k ≠ 9 → h' k = h k := by
  obtain ⟨⟨a1, a2, a3⟩, ⟨b1, b2, b3⟩, ⟨c1, c2, c3⟩, ⟨d1, d2, d3⟩, e1⟩ := R.2.1
  have en : h0 (37 + b) 0 = nI b := (R.2.2.2.2.1 b hb).2.1
  generalize eA : (fun x => sA (h0 k1) (h0 (37 + b)) (sB h0 nL nK nA (h0 k1) hd b) (nI x)) = A
  have eA' : ∀ x, sA (h0 k1) (h0 (37 + b)) (sB h0 nL nK nA (h0 k1) hd b) (nI x) = A x := fun x => by rw [← eA]
  generalize edue : st_due A = due
  have hkb : ∀ H : nv_Hp, (∀ k, k ≠ 8 → k ≠ 9 → H k = h k) → pu_sm h0 H := fun H e => pu_sm_t s fun k j q => by
    rw [e k (fun z => q (by unfold pu_scr; omega)) (fun z => q (by unfold pu_scr; omega))]
  have kc : ∀ H : nv_Hp, (∀ k, k ≠ 8 → k ≠ 9 → H k = h k) → H (37 + b) = h0 (37 + b) ∧ H k1 = h0 k1 := fun H e => ⟨pu_sm_c (hkb H e) (by omega), pu_sm_c (hkb H e) (by omega)⟩
  have key := pu_fold (fun n (u : Int32 × nv_Hp) x => fc_settleBargain_58 k1 (37 + b) (sW h0 nL nK nA (h0 k1) hd b) (sB h0 nL nK nA (h0 k1) hd b) due n u.1 x u.2) 8
    (fun i u => u.1 = ((List.range' 0 i).foldl (fun s x => st_one A d o due x s) (0, P)).1 ∧ (∀ z, z < 8 → u.2 8 z = ((List.range' 0 i).foldl (fun s x => st_one A d o due x s) (0, P)).2 z) ∧ ∀ k, k ≠ 8 → u.2 k = h k)
    (fun i u => if i = d then u else (u.1 + (fc_pay u.2 (nI i) (nI o) (fj_min (due - u.1) (A i))).1, (fc_pay u.2 (nI i) (nI o) (fj_min (due - u.1) (A i))).2))
    (fun u => fc_settleBargain_58 k1 (37 + b) (sW h0 nL nK nA (h0 k1) hd b) (sB h0 nL nK nA (h0 k1) hd b) due 1 u.1 (nI 8) u.2)
    (fun n i u hi hI => by
      obtain ⟨i1, i2, i3⟩ := hI
      have kk := kc u.2 (fun k x _ => i3 k x)
      have ap := fc_askOf_s u.2 k1 (37 + b) (sB h0 nL nK nA (h0 k1) hd b) (nI i)
      rw [kk.1, kk.2, eA'] at ap
      refine ⟨?_, ?_⟩
      · rw [fc_settleBargain_58, if_neg (show ¬ (8 : Int32) ≤ nI i from nI_ge (b := 8) hi (by omega)), kk.1, ed, eo, ap]
        by_cases c : i = d
        · rw [if_pos (by rw [c]), if_pos c, Option.bind_some, nI_1]
        · rw [if_neg (fun z => c ((nI_eq (by omega) (by omega)).mp z)), if_neg c, if_pos (pu_inb hi (by omega)), if_pos (pu_inb ho8 (by omega)), Option.bind_some, nI_1]
      · rw [st_fold_succ]
        generalize (List.range' 0 i).foldl (fun s x => st_one A d o due x s) (0, P) = st at i1 i2
        unfold st_one
        by_cases c : i = d
        · rw [if_pos c, if_pos c]; exact ⟨i1, i2, i3⟩
        · rw [if_neg c, if_neg c]
          obtain ⟨p, p1, p2, p3⟩ := fc_pay_sp (h := u.2) (P := st.2) (fj_min (due - u.1) (A i)) hi ho8 i2
          rw [p1, i1] at *
          exact ⟨rfl, p2, fun k hk => (p3 k hk).trans (i3 k hk)⟩)
    (fun n u _ => by
      rw [fc_settleBargain_58, show (1 : Nat) = 0 + 1 from rfl, fc_settleBargain_58, if_pos (show (8 : Int32) ≤ nI 8 by decide), if_pos (show (8 : Int32) ≤ nI 8 by decide)])
    8 0 nv_fu (0, h) (by omega) (show 8 < 4000 by omega) ⟨rfl, hP, fun _ _ => rfl⟩
  obtain ⟨k1a, k1b, k1c, k1d⟩ := key
  generalize List.foldl (fun u i => if i = d then u else (u.1 + (fc_pay u.2 (nI i) (nI o) (fj_min (due - u.1) (A i))).1, (fc_pay u.2 (nI i) (nI o) (fj_min (due - u.1) (A i))).2)) (0, h) (List.range' 0 8) = u at k1a k1b k1c k1d
  rw [nI_0] at k1a
  have ku := kc u.2 (fun k x _ => k1d k x)
  have ap := fc_askOf_s u.2 k1 (37 + b) (sB h0 nL nK nA (h0 k1) hd b) (nI d)
  rw [ku.1, ku.2, eA'] at ap
  have eall : st_all A d o due P = (List.range' 0 8).foldl (fun s x => st_one A d o due x s) (0, P) := rfl
  rw [← eall] at k1b k1c
  obtain ⟨p, p1, p2, p3⟩ := fc_pay_sp (h := u.2) (P := (st_all A d o due P).2) (fj_min (due - u.1) (A d)) hd8 ho8 k1c
  have pk : ∀ k, k ≠ 8 → k ≠ 9 → p k = h k := fun k x _ => (p3 k x).trans (k1d k x)
  have kp := kc p pk
  generalize eg : nv_up p 9 b (due - u.1 - fj_min (fj_min (due - u.1) (A d)) ((st_all A d o due P).2 d)) = g
  have gk : ∀ k, k ≠ 8 → k ≠ 9 → g k = h k := fun k x y => by rw [← eg, pu_up_c y]; exact pk k x y
  have kg := kc g gk
  have sg := hkb g gk
  have ow := fc_owed_R (k1 := k1) (hd := hd) R sg hb
  rw [kg.2] at ow
  have own : st_own A d o P = fj_min (fj_min (due - u.1) (A d)) ((st_all A d o due P).2 d) := by unfold st_own; rw [edue, k1b]
  have g9 : g 9 b = st_lost A d o P := by rw [← eg, nv_up_s]; unfold st_lost; rw [own, edue, k1b]
  have g9' : ∀ j, j ≠ b → g 9 j = h 9 j := fun j hj => by rw [← eg, nv_up_j _ _ hj, p3 9 (by decide), k1d 9 (by decide)]
  have g8 : ∀ z, z < 8 → g 8 z = st_after A d o P z := fun z hz => by
    rw [← eg, nv_up_k _ _ (by decide), p2 z hz]; unfold st_after; rw [own, edue]
  have tail : fc_settleBargain_58 k1 (37 + b) (sW h0 nL nK nA (h0 k1) hd b) (sB h0 nL nK nA (h0 k1) hd b) due (0 + 1) u.1 (nI 8) u.2 = (if (st_li (st_least (sB h0 nL nK nA (h0 k1) hd b &&& ((1 <<< (nI d &&& 31)) ^^^ (-1))))) = -1 then some g else (if nv_inb (st_li (st_least (sB h0 nL nK nA (h0 k1) hd b &&& ((1 <<< (nI d &&& 31)) ^^^ (-1))))) 8 = true then some (fc_pay g (nI d) (st_li (st_least (sB h0 nL nK nA (h0 k1) hd b &&& ((1 <<< (nI d &&& 31)) ^^^ (-1))))) (fj_min (sO h0 nL nK nA (h0 k1) hd b) u.1)).2 else none)) := by
    rw [fc_settleBargain_58, if_pos (show (8 : Int32) ≤ nI 8 by decide), pu_ltE, ku.1, ed, eo, if_pos (pu_inb hd8 (by omega)), if_pos (pu_inb ho8 (by omega)), ap, p1, pu_ltE]
    simp only []
    rw [kp.1, en, if_pos (pu_inb (by omega) (by omega)), nI_clamp (by omega), pu_ltE, eg, ow, Option.bind_some, pu_ltE, kg.1, ed, fc_least_li, Option.bind_some, if_pos (pu_inb hd8 (by omega))]
    simp only [pu_ltE]
  have k1e := k1a.trans tail
  unfold st_purse
  cases el : st_least (sB h0 nL nK nA (h0 k1) hd b &&& ((1 <<< (nI d &&& 31)) ^^^ (-1))) with
  | none =>
    rw [el, show st_li none = -1 from rfl, if_pos rfl] at k1e
    exact ⟨g, k1e, g8, g9, g9', gk⟩
  | some t =>
    have ht : t < 8 := List.mem_range.mp (List.mem_of_find?_eq_some el)
    rw [el, show st_li (some t) = nI t from rfl] at k1e
    simp only [pu_m1 (show t < 2 ^ 31 by omega), if_false, pu_inb ht (show 8 < 2 ^ 31 by omega), if_true] at k1e
    obtain ⟨q, q1, q2, q3⟩ := fc_pay_sp (h := g) (P := st_after A d o P) (fj_min (sO h0 nL nK nA (h0 k1) hd b) u.1) hd8 ht g8
    rw [q1] at k1e
    refine ⟨q, k1e, fun z hz => ?_, by rw [q3 9 (by decide)]; exact g9, fun j hj => by rw [q3 9 (by decide)]; exact g9' j hj, fun k x y => (q3 k x).trans (gk k x y)⟩
    rw [q2 z hz, k1b, edue]
