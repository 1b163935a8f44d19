/-! ===== settling: specs and the class ===== -/
def st_pay (P : Nat → Int32) (x y : Nat) (v : Int32) : Nat → Int32 := fun k => if k = y then (if y = x then P x - v else P y) + v else if k = x then P x - v else P k
def st_one (A : Nat → Int32) (d o : Nat) (due : Int32) (x : Nat) (s : Int32 × (Nat → Int32)) : Int32 × (Nat → Int32) := if x = d then s else (s.1 + fj_min (fj_min (due - s.1) (A x)) (s.2 x), st_pay s.2 x o (fj_min (fj_min (due - s.1) (A x)) (s.2 x)))
def st_all (A : Nat → Int32) (d o : Nat) (due : Int32) (P : Nat → Int32) : Int32 × (Nat → Int32) := (List.range' 0 8).foldl (fun s x => st_one A d o due x s) (0, P)
def st_due (A : Nat → Int32) : Int32 := (List.range' 0 8).foldl (fun s x => fj_max s (A x)) 0
def st_least (bits : Int32) : Option Nat := (List.range 8).find? (fun x => fc_hasBit bits (nI x))
def st_own (A : Nat → Int32) (d o : Nat) (P : Nat → Int32) : Int32 := fj_min (fj_min (st_due A - (st_all A d o (st_due A) P).1) (A d)) ((st_all A d o (st_due A) P).2 d)
def st_lost (A : Nat → Int32) (d o : Nat) (P : Nat → Int32) : Int32 := st_due A - (st_all A d o (st_due A) P).1 - st_own A d o P
def st_after (A : Nat → Int32) (d o : Nat) (P : Nat → Int32) : Nat → Int32 := st_pay (st_all A d o (st_due A) P).2 d o (st_own A d o P)
def st_purse (A : Nat → Int32) (d o : Nat) (bits owed : Int32) (P : Nat → Int32) : Nat → Int32 := match st_least bits with
  | none => st_after A d o P
  | some t => st_pay (st_after A d o P) d t (fj_min (fj_min owed (st_all A d o (st_due A) P).1) (st_after A d o P d))
theorem fc_pay_sp {h : nv_Hp} {P : Nat → Int32} {x y : Nat} (amt : Int32) (hx : x < 8) (hy : y < 8) (hP : ∀ z, z < 8 → h 8 z = P z) : ∃ h', fc_pay h (nI x) (nI y) amt = (fj_min amt (P x), h') ∧ (∀ z, z < 8 → h' 8 z = st_pay P x y (fj_min amt (P x)) z) ∧ ∀ k, k ≠ 8 → h' k = h k := by
  unfold fc_pay
  rw [pu_ltE, pu_ltE, pu_ltE, nI_clamp (by omega), nI_clamp (by omega), hP x hx]
  refine ⟨_, rfl, fun z hz => ?_, fun k hk => by rw [pu_up_c hk, pu_up_c hk]⟩
  unfold st_pay
  by_cases c : z = y
  · subst c
    rw [nv_up_s, if_pos rfl]
    by_cases d : z = x
    · subst d; rw [nv_up_s, if_pos rfl]
    · rw [nv_up_j _ _ d, if_neg d, hP z hz]
  · rw [nv_up_j _ _ c, if_neg c]
    by_cases d : z = x
    · subst d; rw [nv_up_s, if_pos rfl]
    · rw [nv_up_j _ _ d, if_neg d, hP z hz]
theorem fc_least_sp (h : nv_Hp) (bits : Int32) : fc_leastPerson h bits = some (match st_least bits with | some x => nI x | none => -1) := by
  unfold fc_leastPerson st_least
  rw [← nI_0, pu_find (fc_leastPerson_2 h bits) 8 (fun x => fc_hasBit bits (nI x)) (fun x => some (nI x)) (some (-1)) (fun n i hi => by
    rw [fc_leastPerson_2, if_neg (show ¬ (8 : Int32) ≤ nI i from nI_ge (b := 8) hi (by omega)), nI_1]) (fun n => by rw [fc_leastPerson_2, if_pos (show (8 : Int32) ≤ nI 8 by decide)]) 8 0 nv_fu (by omega) (show 8 < 4000 by omega), ← List.range_eq_range']
  cases (List.range 8).find? (fun x => fc_hasBit bits (nI x)) <;> rfl
theorem fc_due_sp {h : nv_Hp} {k1 k2 : Nat} {why bits : Int32} : fc_settleBargain_23 h k1 k2 why bits nv_fu 0 0 = fc_settleBargain_58 k1 k2 why bits (st_due (fun x => sA (h k1) (h k2) bits (nI x))) nv_fu 0 0 h := by
  have key := (pu_fold (fun n (s : Int32) x => fc_settleBargain_23 h k1 k2 why bits n s x) 8 (fun _ _ => True) (fun i s => fj_max s (sA (h k1) (h k2) bits (nI i))) (fun s => fc_settleBargain_58 k1 k2 why bits s nv_fu 0 0 h) (fun n i s hi _ => ⟨by
    rw [fc_settleBargain_23, if_neg (show ¬ (8 : Int32) ≤ nI i from nI_ge (b := 8) hi (by omega)), pu_ltE, nI_1, fc_askOf_s], trivial⟩) (fun n s _ => by rw [fc_settleBargain_23, if_pos (show (8 : Int32) ≤ nI 8 by decide)]) 8 0 nv_fu 0 (by omega) (show 8 < 4000 by omega) trivial).1
  rw [nI_0] at key
  exact key
