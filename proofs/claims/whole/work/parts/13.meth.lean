/-! WhoseName.isSaidByNamed -/
theorem dX6_isSaidByNamed_0 : nv_daload qX6_isSaidByNamed 0 0 1 := Or.inr ⟨0, rfl, by decide +kernel, rfl⟩
theorem dX6_isSaidByNamed_1 : nv_dc qX6_isSaidByNamed 1 (.getfield 207) 3 4 := ⟨by decide +kernel, rfl⟩
theorem dX6_isSaidByNamed_4 : nv_daload qX6_isSaidByNamed 4 1 5 := Or.inr ⟨1, rfl, by decide +kernel, rfl⟩
theorem dX6_isSaidByNamed_5 : nv_dc qX6_isSaidByNamed 5 (.getfield 159) 3 8 := ⟨by decide +kernel, rfl⟩
theorem dX6_isSaidByNamed_8 : nv_dic qX6_isSaidByNamed 8 .ne 26 11 := ⟨18, by decide +kernel, by decide, rfl⟩
theorem dX6_isSaidByNamed_11 : nv_daload qX6_isSaidByNamed 11 0 12 := Or.inr ⟨0, rfl, by decide +kernel, rfl⟩
theorem dX6_isSaidByNamed_12 : nv_dc qX6_isSaidByNamed 12 (.getfield 209) 3 15 := ⟨by decide +kernel, rfl⟩
theorem dX6_isSaidByNamed_15 : nv_daload qX6_isSaidByNamed 15 1 16 := Or.inr ⟨1, rfl, by decide +kernel, rfl⟩
theorem dX6_isSaidByNamed_16 : nv_dc qX6_isSaidByNamed 16 (.getfield 165) 3 19 := ⟨by decide +kernel, rfl⟩
theorem dX6_isSaidByNamed_19 : nv_dic qX6_isSaidByNamed 19 .ne 26 22 := ⟨7, by decide +kernel, by decide, rfl⟩
theorem dX6_isSaidByNamed_22 : nv_dk qX6_isSaidByNamed 22 1 23 := Or.inl ⟨1, ⟨by decide +kernel, rfl⟩, by decide⟩
theorem dX6_isSaidByNamed_23 : nv_dgo qX6_isSaidByNamed 23 27 := ⟨4, by decide +kernel, by decide⟩
theorem dX6_isSaidByNamed_26 : nv_dk qX6_isSaidByNamed 26 0 27 := Or.inl ⟨0, ⟨by decide +kernel, rfl⟩, by decide⟩
theorem dX6_isSaidByNamed_27 : decode qX6_isSaidByNamed.2.1 27 = .ok (.ireturn, 1) := by decide +kernel
def fc_isSaidByNamed (h : nv_Hp) (k0 : Nat) (k1 : Nat) : Bool := (if (h k0 0) = (h k1 0) then (if (h k0 1) = (h k1 2) then true else false) else false)
set_option maxHeartbeats 2000000 in
theorem tc_isSaidByNamed (G : nv_G) (h : nv_Hp) (k0 : Nat) (hk0 : nv_O 0 k0) (k1 : Nat) (hk1 : nv_O 2 k1) : nv_Mt G 0 qX6_isSaidByNamed [.ref k0, .ref k1] (nv_s h) (some (.int (nv_bi (fc_isSaidByNamed h k0 k1))), nv_s h) := by
  refine nv_of (by decide +kernel) (fun ad => Nat.le_of_ble_eq_true rfl) (Nat.le_refl _) (Nat.le_of_ble_eq_true rfl) ?_
  show nv_E G 0 qX6_isSaidByNamed 0 [some (.ref k0), some (.ref k1)] [] (nv_s h) (some (.int (nv_bi (fc_isSaidByNamed h k0 k1))), nv_s h)
  generalize hf : (fc_isSaidByNamed h k0 k1) = r
  unfold fc_isSaidByNamed at hf
  refine nv_aL dX6_isSaidByNamed_0 rfl ?_
  refine nv_gI lf_X6_207 dX6_isSaidByNamed_1 hk0 rfl ?_
  refine nv_aL dX6_isSaidByNamed_4 rfl ?_
  refine nv_gI lf_X6_159 dX6_isSaidByNamed_5 hk1 rfl ?_
  refine nv_icne dX6_isSaidByNamed_8 (fun c1 => ?_) (fun c1 => ?_)
  · replace hf := nv_ip c1 hf
    refine nv_aL dX6_isSaidByNamed_11 rfl ?_
    refine nv_gI lf_X6_209 dX6_isSaidByNamed_12 hk0 rfl ?_
    refine nv_aL dX6_isSaidByNamed_15 rfl ?_
    refine nv_gI lf_X6_165 dX6_isSaidByNamed_16 hk1 rfl ?_
    refine nv_icne dX6_isSaidByNamed_19 (fun c2 => ?_) (fun c2 => ?_)
    · replace hf := nv_ip c2 hf
      refine nv_k dX6_isSaidByNamed_22 ?_
      refine nv_goto dX6_isSaidByNamed_23 ?_
      subst hf
      exact nv_ireturnB (b := true) dX6_isSaidByNamed_27 rfl
    · replace hf := nv_in c2 hf
      refine nv_k dX6_isSaidByNamed_26 ?_
      subst hf
      exact nv_ireturnB (b := false) dX6_isSaidByNamed_27 rfl
  · replace hf := nv_in c1 hf
    refine nv_k dX6_isSaidByNamed_26 ?_
    subst hf
    exact nv_ireturnB (b := false) dX6_isSaidByNamed_27 rfl
/-! WhoseName.wasRefusedAhead -/
theorem dX6_wasRefusedAhead_0 : nv_daload qX6_wasRefusedAhead 0 0 1 := Or.inr ⟨0, rfl, by decide +kernel, rfl⟩
theorem dX6_wasRefusedAhead_1 : nv_dc qX6_wasRefusedAhead 1 (.getfield 33) 3 4 := ⟨by decide +kernel, rfl⟩
theorem dX6_wasRefusedAhead_4 : nv_diload qX6_wasRefusedAhead 4 1 5 := Or.inr ⟨1, rfl, by decide +kernel, rfl⟩
theorem dX6_wasRefusedAhead_5 : nv_dc qX6_wasRefusedAhead 5 (.aaload) 1 6 := ⟨by decide +kernel, rfl⟩
theorem dX6_wasRefusedAhead_6 : nv_dc qX6_wasRefusedAhead 6 (.getfield 210) 3 9 := ⟨by decide +kernel, rfl⟩
theorem dX6_wasRefusedAhead_9 : nv_distore qX6_wasRefusedAhead 9 3 10 := Or.inr ⟨3, rfl, by decide +kernel, rfl⟩
theorem dX6_wasRefusedAhead_10 : nv_dk qX6_wasRefusedAhead 10 0 11 := Or.inl ⟨0, ⟨by decide +kernel, rfl⟩, by decide⟩
theorem dX6_wasRefusedAhead_11 : nv_distore qX6_wasRefusedAhead 11 4 13 := Or.inl ⟨by decide +kernel, rfl⟩
theorem dX6_wasRefusedAhead_13 : nv_diload qX6_wasRefusedAhead 13 4 15 := Or.inl ⟨by decide +kernel, rfl⟩
theorem dX6_wasRefusedAhead_15 : nv_daload qX6_wasRefusedAhead 15 0 16 := Or.inr ⟨0, rfl, by decide +kernel, rfl⟩
theorem dX6_wasRefusedAhead_16 : nv_dc qX6_wasRefusedAhead 16 (.getfield 204) 3 19 := ⟨by decide +kernel, rfl⟩
theorem dX6_wasRefusedAhead_19 : nv_dic qX6_wasRefusedAhead 19 .ge 92 22 := ⟨73, by decide +kernel, by decide, rfl⟩
theorem dX6_wasRefusedAhead_22 : nv_daload qX6_wasRefusedAhead 22 0 23 := Or.inr ⟨0, rfl, by decide +kernel, rfl⟩
theorem dX6_wasRefusedAhead_23 : nv_dc qX6_wasRefusedAhead 23 (.getfield 33) 3 26 := ⟨by decide +kernel, rfl⟩
theorem dX6_wasRefusedAhead_26 : nv_diload qX6_wasRefusedAhead 26 4 28 := Or.inl ⟨by decide +kernel, rfl⟩
theorem dX6_wasRefusedAhead_28 : nv_dc qX6_wasRefusedAhead 28 (.aaload) 1 29 := ⟨by decide +kernel, rfl⟩
theorem dX6_wasRefusedAhead_29 : nv_dastore qX6_wasRefusedAhead 29 5 31 := Or.inl ⟨by decide +kernel, rfl⟩
theorem dX6_wasRefusedAhead_31 : nv_daload qX6_wasRefusedAhead 31 5 33 := Or.inl ⟨by decide +kernel, rfl⟩
theorem dX6_wasRefusedAhead_33 : nv_dc qX6_wasRefusedAhead 33 (.getfield 210) 3 36 := ⟨by decide +kernel, rfl⟩
theorem dX6_wasRefusedAhead_36 : nv_diload qX6_wasRefusedAhead 36 3 37 := Or.inr ⟨3, rfl, by decide +kernel, rfl⟩
theorem dX6_wasRefusedAhead_37 : nv_dic qX6_wasRefusedAhead 37 .lt 55 40 := ⟨18, by decide +kernel, by decide, rfl⟩
theorem dX6_wasRefusedAhead_40 : nv_daload qX6_wasRefusedAhead 40 5 42 := Or.inl ⟨by decide +kernel, rfl⟩
theorem dX6_wasRefusedAhead_42 : nv_dc qX6_wasRefusedAhead 42 (.getfield 210) 3 45 := ⟨by decide +kernel, rfl⟩
theorem dX6_wasRefusedAhead_45 : nv_diload qX6_wasRefusedAhead 45 3 46 := Or.inr ⟨3, rfl, by decide +kernel, rfl⟩
theorem dX6_wasRefusedAhead_46 : nv_dic qX6_wasRefusedAhead 46 .ne 59 49 := ⟨13, by decide +kernel, by decide, rfl⟩
theorem dX6_wasRefusedAhead_49 : nv_diload qX6_wasRefusedAhead 49 4 51 := Or.inl ⟨by decide +kernel, rfl⟩
theorem dX6_wasRefusedAhead_51 : nv_diload qX6_wasRefusedAhead 51 1 52 := Or.inr ⟨1, rfl, by decide +kernel, rfl⟩
theorem dX6_wasRefusedAhead_52 : nv_dic qX6_wasRefusedAhead 52 .ge 59 55 := ⟨7, by decide +kernel, by decide, rfl⟩
theorem dX6_wasRefusedAhead_55 : nv_dk qX6_wasRefusedAhead 55 1 56 := Or.inl ⟨1, ⟨by decide +kernel, rfl⟩, by decide⟩
theorem dX6_wasRefusedAhead_56 : nv_dgo qX6_wasRefusedAhead 56 60 := ⟨4, by decide +kernel, by decide⟩
theorem dX6_wasRefusedAhead_59 : nv_dk qX6_wasRefusedAhead 59 0 60 := Or.inl ⟨0, ⟨by decide +kernel, rfl⟩, by decide⟩
theorem dX6_wasRefusedAhead_60 : nv_distore qX6_wasRefusedAhead 60 6 62 := Or.inl ⟨by decide +kernel, rfl⟩
theorem dX6_wasRefusedAhead_62 : nv_diload qX6_wasRefusedAhead 62 6 64 := Or.inl ⟨by decide +kernel, rfl⟩
theorem dX6_wasRefusedAhead_64 : nv_dif qX6_wasRefusedAhead 64 .eq 86 67 := ⟨22, by decide +kernel, by decide, rfl⟩
theorem dX6_wasRefusedAhead_67 : nv_daload qX6_wasRefusedAhead 67 5 69 := Or.inl ⟨by decide +kernel, rfl⟩
theorem dX6_wasRefusedAhead_69 : nv_dc qX6_wasRefusedAhead 69 (.getfield 211) 3 72 := ⟨by decide +kernel, rfl⟩
theorem dX6_wasRefusedAhead_72 : nv_dif qX6_wasRefusedAhead 72 .ne 86 75 := ⟨14, by decide +kernel, by decide, rfl⟩
theorem dX6_wasRefusedAhead_75 : nv_daload qX6_wasRefusedAhead 75 5 77 := Or.inl ⟨by decide +kernel, rfl⟩
theorem dX6_wasRefusedAhead_77 : nv_daload qX6_wasRefusedAhead 77 2 78 := Or.inr ⟨2, rfl, by decide +kernel, rfl⟩
theorem dX6_wasRefusedAhead_78 : nv_dc qX6_wasRefusedAhead 78 (.invokestatic 284) 3 81 := ⟨by decide +kernel, rfl⟩
theorem dX6_wasRefusedAhead_81 : nv_dif qX6_wasRefusedAhead 81 .eq 86 84 := ⟨5, by decide +kernel, by decide, rfl⟩
theorem dX6_wasRefusedAhead_84 : nv_dk qX6_wasRefusedAhead 84 1 85 := Or.inl ⟨1, ⟨by decide +kernel, rfl⟩, by decide⟩
theorem dX6_wasRefusedAhead_85 : decode qX6_wasRefusedAhead.2.1 85 = .ok (.ireturn, 1) := by decide +kernel
theorem dX6_wasRefusedAhead_86 : nv_dc qX6_wasRefusedAhead 86 (.iinc 4 1) 3 89 := ⟨by decide +kernel, rfl⟩
theorem dX6_wasRefusedAhead_89 : nv_dgo qX6_wasRefusedAhead 89 13 := ⟨(-76), by decide +kernel, by decide⟩
theorem dX6_wasRefusedAhead_92 : nv_dk qX6_wasRefusedAhead 92 0 93 := Or.inl ⟨0, ⟨by decide +kernel, rfl⟩, by decide⟩
theorem dX6_wasRefusedAhead_93 : decode qX6_wasRefusedAhead.2.1 93 = .ok (.ireturn, 1) := by decide +kernel
def fc_wasRefusedAhead_60 (h : nv_Hp) (x1 : Int32) (k2 : Nat) (x3 : Int32) (x4 : Int32) (k5 : Nat) (s0 : Bool) (rec13 : Int32 → Option (Bool)) : Option (Bool) := (if s0 = true then (if (h k5 3) = 0 then (if (fc_isSaidByNamed h k5 k2) = true then some true else (rec13 (x4 + 1))) else (rec13 (x4 + 1))) else (rec13 (x4 + 1)))
set_option maxHeartbeats 2000000 in
theorem tc_wasRefusedAhead_60 (G : nv_G) (h : nv_Hp) (x1 : Int32) (hx1 : nv_inb x1 12 = true) (k2 : Nat) (hk2 : nv_O 2 k2) (x3 : Int32) (x4 : Int32) (k5 : Nat) (hk5 : nv_O 0 k5) (s0 : Bool) (rec13 : Int32 → Option (Bool)) (hrec13 : ∀ (x4 : Int32) (o5 o6 : Option Value) (r : Bool), rec13 x4 = some r → nv_E G 1 qX6_wasRefusedAhead 13 [some (.ref 0), some (.int x1), some (.ref k2), some (.int x3), some (.int x4), o5, o6] [] (nv_s h) (some (.int (nv_bi r)), nv_s h)) (o6 : Option Value) (r : Bool) (hf : fc_wasRefusedAhead_60 h x1 k2 x3 x4 k5 s0 rec13 = some r) : nv_E G 1 qX6_wasRefusedAhead 60 [some (.ref 0), some (.int x1), some (.ref k2), some (.int x3), some (.int x4), some (.ref k5), o6] [.int (nv_bi s0)] (nv_s h) (some (.int (nv_bi r)), nv_s h) := by
  unfold fc_wasRefusedAhead_60 at hf
  refine nv_iS dX6_wasRefusedAhead_60 (by decide) rfl rfl ?_
  refine nv_iL dX6_wasRefusedAhead_62 rfl ?_
  refine nv_ifeqB dX6_wasRefusedAhead_64 (fun c1 => ?_) (fun c1 => ?_)
  · replace hf := nv_ip c1 hf
    refine nv_aL dX6_wasRefusedAhead_67 rfl ?_
    refine nv_gI lf_X6_211 dX6_wasRefusedAhead_69 hk5 rfl ?_
    refine nv_ifne dX6_wasRefusedAhead_72 (fun c2 => ?_) (fun c2 => ?_)
    · replace hf := nv_ip c2 hf
      refine nv_aL dX6_wasRefusedAhead_75 rfl ?_
      refine nv_aL dX6_wasRefusedAhead_77 rfl ?_
      refine nv_cSi (tc_isSaidByNamed G h k5 hk5 k2 hk2) dX6_wasRefusedAhead_78 lm_X6_284 y_qX6_isSaidByNamed rfl (by decide) rfl (Nat.le_of_ble_eq_true rfl) ?_
      refine nv_ifeqB dX6_wasRefusedAhead_81 (fun c3 => ?_) (fun c3 => ?_)
      · replace hf := nv_ip c3 hf
        refine nv_k dX6_wasRefusedAhead_84 ?_
        obtain rfl := Option.some.inj hf
        exact nv_ireturnB (b := true) dX6_wasRefusedAhead_85 rfl
      · replace hf := nv_in c3 hf
        refine nv_inc dX6_wasRefusedAhead_86 rfl (v := 1) (by decide) (by decide) rfl rfl ?_
        refine nv_goto dX6_wasRefusedAhead_89 ?_
        exact hrec13 _ _ _ _ hf
    · replace hf := nv_in c2 hf
      refine nv_inc dX6_wasRefusedAhead_86 rfl (v := 1) (by decide) (by decide) rfl rfl ?_
      refine nv_goto dX6_wasRefusedAhead_89 ?_
      exact hrec13 _ _ _ _ hf
  · replace hf := nv_in c1 hf
    refine nv_inc dX6_wasRefusedAhead_86 rfl (v := 1) (by decide) (by decide) rfl rfl ?_
    refine nv_goto dX6_wasRefusedAhead_89 ?_
    exact hrec13 _ _ _ _ hf
def fc_wasRefusedAhead_13 (h : nv_Hp) (x1 : Int32) (k2 : Nat) (x3 : Int32)  : Nat → Int32 → Option (Bool)
  | 0, _ => none
  | n + 1, x4 => (if (h 0 10) ≤ x4 then some false else (if nv_inb x4 12 = true then (fc_wasRefusedAhead_60 h x1 k2 x3 x4 (47 + x4.toNatClampNeg) (if (h (47 + x4.toNatClampNeg) 2) < x3 then true else (if (h (47 + x4.toNatClampNeg) 2) = x3 then (if x1 ≤ x4 then false else true) else false)) (fc_wasRefusedAhead_13 h x1 k2 x3 n)) else none))
set_option maxHeartbeats 2000000 in
theorem tc_wasRefusedAhead_13 (G : nv_G) (h : nv_Hp) (x1 : Int32) (hx1 : nv_inb x1 12 = true) (k2 : Nat) (hk2 : nv_O 2 k2) (x3 : Int32)  : ∀ (n : Nat) (x4 : Int32) (o5 o6 : Option Value) (r : Bool), fc_wasRefusedAhead_13 h x1 k2 x3 n x4 = some r → nv_E G 1 qX6_wasRefusedAhead 13 [some (.ref 0), some (.int x1), some (.ref k2), some (.int x3), some (.int x4), o5, o6] [] (nv_s h) (some (.int (nv_bi r)), nv_s h) := by
  intro n
  induction n with
  | zero =>
    intro x4 o5 o6 r hf
    rw [fc_wasRefusedAhead_13] at hf
    cases hf
  | succ n ih =>
    intro x4 o5 o6 r hf
    rw [fc_wasRefusedAhead_13] at hf
    refine nv_iL dX6_wasRefusedAhead_13 rfl ?_
    refine nv_aL dX6_wasRefusedAhead_15 rfl ?_
    refine nv_tI lf_X6_204 dX6_wasRefusedAhead_16 ko_0 rfl ?_
    refine nv_icge dX6_wasRefusedAhead_19 (fun c1 => ?_) (fun c1 => ?_)
    · replace hf := nv_ip c1 hf
      refine nv_k dX6_wasRefusedAhead_92 ?_
      obtain rfl := Option.some.inj hf
      exact nv_ireturnB (b := false) dX6_wasRefusedAhead_93 rfl
    · replace hf := nv_in c1 hf
      refine nv_aL dX6_wasRefusedAhead_22 rfl ?_
      refine nv_tR lf_X6_33 dX6_wasRefusedAhead_23 ko_0 rfl ?_
      refine nv_iL dX6_wasRefusedAhead_26 rfl ?_
      obtain ⟨g2, hf⟩ := nv_gd hf
      refine nv_aR dX6_wasRefusedAhead_28 kr_5 ⟨_, rfl⟩ g2 (nv_q1 _ _) ?_
      refine nv_aS dX6_wasRefusedAhead_29 (by decide) rfl rfl ?_
      refine nv_aL dX6_wasRefusedAhead_31 rfl ?_
      refine nv_gI lf_X6_210 dX6_wasRefusedAhead_33 (nv_o0 g2) rfl ?_
      refine nv_iL dX6_wasRefusedAhead_36 rfl ?_
      refine nv_iclt dX6_wasRefusedAhead_37 (fun c3 => ?_) (fun c3 => ?_)
      · try simp only [if_pos c3] at hf
        refine nv_k dX6_wasRefusedAhead_55 ?_
        refine nv_goto dX6_wasRefusedAhead_56 ?_
        exact tc_wasRefusedAhead_60 G _ _ hx1 _ hk2 _ _ _ (nv_o0 g2) _ _ ih _ _ hf
      · try simp only [if_neg c3] at hf
        refine nv_aL dX6_wasRefusedAhead_40 rfl ?_
        refine nv_gI lf_X6_210 dX6_wasRefusedAhead_42 (nv_o0 g2) rfl ?_
        refine nv_iL dX6_wasRefusedAhead_45 rfl ?_
        refine nv_icne dX6_wasRefusedAhead_46 (fun c4 => ?_) (fun c4 => ?_)
        · try simp only [if_pos c4] at hf
          refine nv_iL dX6_wasRefusedAhead_49 rfl ?_
          refine nv_iL dX6_wasRefusedAhead_51 rfl ?_
          refine nv_icge dX6_wasRefusedAhead_52 (fun c5 => ?_) (fun c5 => ?_)
          · try simp only [if_pos c5] at hf
            refine nv_k dX6_wasRefusedAhead_59 ?_
            exact tc_wasRefusedAhead_60 G _ _ hx1 _ hk2 _ _ _ (nv_o0 g2) _ _ ih _ _ hf
          · try simp only [if_neg c5] at hf
            refine nv_k dX6_wasRefusedAhead_55 ?_
            refine nv_goto dX6_wasRefusedAhead_56 ?_
            exact tc_wasRefusedAhead_60 G _ _ hx1 _ hk2 _ _ _ (nv_o0 g2) _ _ ih _ _ hf
        · try simp only [if_neg c4] at hf
          refine nv_k dX6_wasRefusedAhead_59 ?_
          exact tc_wasRefusedAhead_60 G _ _ hx1 _ hk2 _ _ _ (nv_o0 g2) _ _ ih _ _ hf
def fc_wasRefusedAhead (h : nv_Hp) (x1 : Int32) (k2 : Nat) : Option (Bool) := (nv_lt ((h (47 + x1.toNatClampNeg) 2)) fun v1 => (fc_wasRefusedAhead_13 h x1 k2 v1 nv_fu 0))
set_option maxHeartbeats 2000000 in
theorem tc_wasRefusedAhead (G : nv_G) (h : nv_Hp) (x1 : Int32) (hx1 : nv_inb x1 12 = true) (k2 : Nat) (hk2 : nv_O 2 k2) {r : Bool} (hf : (fc_wasRefusedAhead h x1 k2) = some r) : nv_Mt G 1 qX6_wasRefusedAhead [.ref 0, .int x1, .ref k2] (nv_s h) (some (.int (nv_bi r)), nv_s h) := by
  refine nv_of (by decide +kernel) (fun ad => Nat.le_of_ble_eq_true rfl) (Nat.le_refl _) (Nat.le_of_ble_eq_true rfl) ?_
  show nv_E G 1 qX6_wasRefusedAhead 0 [some (.ref 0), some (.int x1), some (.ref k2), none, none, none, none] [] (nv_s h) (some (.int (nv_bi r)), nv_s h)
  unfold fc_wasRefusedAhead at hf
  refine nv_aL dX6_wasRefusedAhead_0 rfl ?_
  refine nv_tR lf_X6_33 dX6_wasRefusedAhead_1 ko_0 rfl ?_
  refine nv_iL dX6_wasRefusedAhead_4 rfl ?_
  refine nv_aR dX6_wasRefusedAhead_5 kr_5 ⟨_, rfl⟩ hx1 (nv_q1 _ _) ?_
  refine nv_gI lf_X6_210 dX6_wasRefusedAhead_6 (nv_o0 hx1) rfl ?_
  obtain ⟨v1, ev1, hf⟩ := nv_ltX hf
  rw [ev1]
  clear ev1
  refine nv_iS dX6_wasRefusedAhead_9 (by decide) rfl rfl ?_
  refine nv_k dX6_wasRefusedAhead_10 ?_
  refine nv_iS dX6_wasRefusedAhead_11 (by decide) rfl rfl ?_
  exact tc_wasRefusedAhead_13 G _ _ hx1 _ hk2 _ _ _ _ _ _ hf
/-! WhoseName.isWell -/
theorem dX6_isWell_0 : nv_dk qX6_isWell 0 0 1 := Or.inl ⟨0, ⟨by decide +kernel, rfl⟩, by decide⟩
theorem dX6_isWell_1 : nv_distore qX6_isWell 1 3 2 := Or.inr ⟨3, rfl, by decide +kernel, rfl⟩
theorem dX6_isWell_2 : nv_diload qX6_isWell 2 3 3 := Or.inr ⟨3, rfl, by decide +kernel, rfl⟩
theorem dX6_isWell_3 : nv_daload qX6_isWell 3 0 4 := Or.inr ⟨0, rfl, by decide +kernel, rfl⟩
theorem dX6_isWell_4 : nv_dc qX6_isWell 4 (.getfield 204) 3 7 := ⟨by decide +kernel, rfl⟩
theorem dX6_isWell_7 : nv_dic qX6_isWell 7 .ge 87 10 := ⟨80, by decide +kernel, by decide, rfl⟩
theorem dX6_isWell_10 : nv_daload qX6_isWell 10 0 11 := Or.inr ⟨0, rfl, by decide +kernel, rfl⟩
theorem dX6_isWell_11 : nv_dc qX6_isWell 11 (.getfield 33) 3 14 := ⟨by decide +kernel, rfl⟩
theorem dX6_isWell_14 : nv_diload qX6_isWell 14 3 15 := Or.inr ⟨3, rfl, by decide +kernel, rfl⟩
theorem dX6_isWell_15 : nv_dc qX6_isWell 15 (.aaload) 1 16 := ⟨by decide +kernel, rfl⟩
theorem dX6_isWell_16 : nv_dastore qX6_isWell 16 4 18 := Or.inl ⟨by decide +kernel, rfl⟩
theorem dX6_isWell_18 : nv_daload qX6_isWell 18 4 20 := Or.inl ⟨by decide +kernel, rfl⟩
theorem dX6_isWell_20 : nv_daload qX6_isWell 20 2 21 := Or.inr ⟨2, rfl, by decide +kernel, rfl⟩
theorem dX6_isWell_21 : nv_dc qX6_isWell 21 (.invokestatic 284) 3 24 := ⟨by decide +kernel, rfl⟩
theorem dX6_isWell_24 : nv_dif qX6_isWell 24 .eq 81 27 := ⟨57, by decide +kernel, by decide, rfl⟩
theorem dX6_isWell_27 : nv_daload qX6_isWell 27 4 29 := Or.inl ⟨by decide +kernel, rfl⟩
theorem dX6_isWell_29 : nv_dc qX6_isWell 29 (.getfield 211) 3 32 := ⟨by decide +kernel, rfl⟩
theorem dX6_isWell_32 : nv_dk qX6_isWell 32 1 33 := Or.inl ⟨1, ⟨by decide +kernel, rfl⟩, by decide⟩
theorem dX6_isWell_33 : nv_dic qX6_isWell 33 .ne 81 36 := ⟨48, by decide +kernel, by decide, rfl⟩
theorem dX6_isWell_36 : nv_daload qX6_isWell 36 4 38 := Or.inl ⟨by decide +kernel, rfl⟩
theorem dX6_isWell_38 : nv_dc qX6_isWell 38 (.getfield 210) 3 41 := ⟨by decide +kernel, rfl⟩
theorem dX6_isWell_41 : nv_daload qX6_isWell 41 2 42 := Or.inr ⟨2, rfl, by decide +kernel, rfl⟩
theorem dX6_isWell_42 : nv_dc qX6_isWell 42 (.getfield 177) 3 45 := ⟨by decide +kernel, rfl⟩
theorem dX6_isWell_45 : nv_daload qX6_isWell 45 1 46 := Or.inr ⟨1, rfl, by decide +kernel, rfl⟩
theorem dX6_isWell_46 : nv_dk qX6_isWell 46 4 47 := Or.inl ⟨4, ⟨by decide +kernel, rfl⟩, by decide⟩
theorem dX6_isWell_47 : nv_dc qX6_isWell 47 (.iaload) 1 48 := ⟨by decide +kernel, rfl⟩
theorem dX6_isWell_48 : nv_dc qX6_isWell 48 (.iadd) 1 49 := ⟨by decide +kernel, rfl⟩
theorem dX6_isWell_49 : nv_dic qX6_isWell 49 .gt 81 52 := ⟨32, by decide +kernel, by decide, rfl⟩
theorem dX6_isWell_52 : nv_daload qX6_isWell 52 1 53 := Or.inr ⟨1, rfl, by decide +kernel, rfl⟩
theorem dX6_isWell_53 : nv_dk qX6_isWell 53 5 54 := Or.inl ⟨5, ⟨by decide +kernel, rfl⟩, by decide⟩
theorem dX6_isWell_54 : nv_dc qX6_isWell 54 (.iaload) 1 55 := ⟨by decide +kernel, rfl⟩
theorem dX6_isWell_55 : nv_dif qX6_isWell 55 .eq 70 58 := ⟨15, by decide +kernel, by decide, rfl⟩
theorem dX6_isWell_58 : nv_daload qX6_isWell 58 4 60 := Or.inl ⟨by decide +kernel, rfl⟩
theorem dX6_isWell_60 : nv_dc qX6_isWell 60 (.getfield 214) 3 63 := ⟨by decide +kernel, rfl⟩
theorem dX6_isWell_63 : nv_daload qX6_isWell 63 2 64 := Or.inr ⟨2, rfl, by decide +kernel, rfl⟩
theorem dX6_isWell_64 : nv_dc qX6_isWell 64 (.getfield 174) 3 67 := ⟨by decide +kernel, rfl⟩
theorem dX6_isWell_67 : nv_dic qX6_isWell 67 .lt 81 70 := ⟨14, by decide +kernel, by decide, rfl⟩
theorem dX6_isWell_70 : nv_daload qX6_isWell 70 0 71 := Or.inr ⟨0, rfl, by decide +kernel, rfl⟩
theorem dX6_isWell_71 : nv_diload qX6_isWell 71 3 72 := Or.inr ⟨3, rfl, by decide +kernel, rfl⟩
theorem dX6_isWell_72 : nv_daload qX6_isWell 72 2 73 := Or.inr ⟨2, rfl, by decide +kernel, rfl⟩
theorem dX6_isWell_73 : nv_dc qX6_isWell 73 (.invokevirtual 288) 3 76 := ⟨by decide +kernel, rfl⟩
theorem dX6_isWell_76 : nv_dif qX6_isWell 76 .ne 81 79 := ⟨5, by decide +kernel, by decide, rfl⟩
theorem dX6_isWell_79 : nv_dk qX6_isWell 79 1 80 := Or.inl ⟨1, ⟨by decide +kernel, rfl⟩, by decide⟩
theorem dX6_isWell_80 : decode qX6_isWell.2.1 80 = .ok (.ireturn, 1) := by decide +kernel
theorem dX6_isWell_81 : nv_dc qX6_isWell 81 (.iinc 3 1) 3 84 := ⟨by decide +kernel, rfl⟩
theorem dX6_isWell_84 : nv_dgo qX6_isWell 84 2 := ⟨(-82), by decide +kernel, by decide⟩
theorem dX6_isWell_87 : nv_dk qX6_isWell 87 0 88 := Or.inl ⟨0, ⟨by decide +kernel, rfl⟩, by decide⟩
theorem dX6_isWell_88 : decode qX6_isWell.2.1 88 = .ok (.ireturn, 1) := by decide +kernel
def fc_isWell_70 (h : nv_Hp) (k1 : Nat) (k2 : Nat) (x3 : Int32)  (rec2 : Int32 → Option (Bool)) : Option (Bool) := (if nv_inb x3 12 = true then (Option.bind (fc_wasRefusedAhead h x3 k2) fun q2 => (if q2 = true then (rec2 (x3 + 1)) else some true)) else none)
set_option maxHeartbeats 2000000 in
theorem tc_isWell_70 (G : nv_G) (h : nv_Hp) (k1 : Nat) (hk1 : nv_A 9 k1) (k2 : Nat) (hk2 : nv_O 2 k2) (x3 : Int32)  (rec2 : Int32 → Option (Bool)) (hrec2 : ∀ (x3 : Int32) (o4 : Option Value) (r : Bool), rec2 x3 = some r → nv_E G 2 qX6_isWell 2 [some (.ref 0), some (.ref k1), some (.ref k2), some (.int x3), o4] [] (nv_s h) (some (.int (nv_bi r)), nv_s h)) (o4 : Option Value) (r : Bool) (hf : fc_isWell_70 h k1 k2 x3 rec2 = some r) : nv_E G 2 qX6_isWell 70 [some (.ref 0), some (.ref k1), some (.ref k2), some (.int x3), o4] [] (nv_s h) (some (.int (nv_bi r)), nv_s h) := by
  unfold fc_isWell_70 at hf
  refine nv_aL dX6_isWell_70 rfl ?_
  refine nv_iL dX6_isWell_71 rfl ?_
  refine nv_aL dX6_isWell_72 rfl ?_
  obtain ⟨g1, hf⟩ := nv_gd hf
  obtain ⟨q2, hq2, hf⟩ := nv_bd hf
  refine nv_cVi (tc_wasRefusedAhead G h x3 g1 k2 hk2 hq2) dX6_isWell_73 lm_X6_288 y_qX6_wasRefusedAhead ko_0 rfl rfl (by decide) rfl (Nat.le_of_ble_eq_true rfl) ?_
  refine nv_ifneB dX6_isWell_76 (fun c3 => ?_) (fun c3 => ?_)
  · replace hf := nv_ip c3 hf
    refine nv_inc dX6_isWell_81 rfl (v := 1) (by decide) (by decide) rfl rfl ?_
    refine nv_goto dX6_isWell_84 ?_
    exact hrec2 _ _ _ hf
  · replace hf := nv_in c3 hf
    refine nv_k dX6_isWell_79 ?_
    obtain rfl := Option.some.inj hf
    exact nv_ireturnB (b := true) dX6_isWell_80 rfl
def fc_isWell_2 (h : nv_Hp) (k1 : Nat) (k2 : Nat)  : Nat → Int32 → Option (Bool)
  | 0, _ => none
  | n + 1, x3 => (if (h 0 10) ≤ x3 then some false else (if nv_inb x3 12 = true then (if (fc_isSaidByNamed h (47 + x3.toNatClampNeg) k2) = true then (if (h (47 + x3.toNatClampNeg) 3) = 1 then (if ((h k2 6) + (h k1 4)) < (h (47 + x3.toNatClampNeg) 2) then ((fc_isWell_2 h k1 k2 n) (x3 + 1)) else (if (h k1 5) = 0 then (fc_isWell_70 h k1 k2 x3 (fc_isWell_2 h k1 k2 n)) else (if (h (47 + x3.toNatClampNeg) 4) < (h k2 5) then ((fc_isWell_2 h k1 k2 n) (x3 + 1)) else (fc_isWell_70 h k1 k2 x3 (fc_isWell_2 h k1 k2 n))))) else ((fc_isWell_2 h k1 k2 n) (x3 + 1))) else ((fc_isWell_2 h k1 k2 n) (x3 + 1))) else none))
set_option maxHeartbeats 2000000 in
theorem tc_isWell_2 (G : nv_G) (h : nv_Hp) (k1 : Nat) (hk1 : nv_A 9 k1) (k2 : Nat) (hk2 : nv_O 2 k2)  : ∀ (n : Nat) (x3 : Int32) (o4 : Option Value) (r : Bool), fc_isWell_2 h k1 k2 n x3 = some r → nv_E G 2 qX6_isWell 2 [some (.ref 0), some (.ref k1), some (.ref k2), some (.int x3), o4] [] (nv_s h) (some (.int (nv_bi r)), nv_s h) := by
  intro n
  induction n with
  | zero =>
    intro x3 o4 r hf
    rw [fc_isWell_2] at hf
    cases hf
  | succ n ih =>
    intro x3 o4 r hf
    rw [fc_isWell_2] at hf
    refine nv_iL dX6_isWell_2 rfl ?_
    refine nv_aL dX6_isWell_3 rfl ?_
    refine nv_tI lf_X6_204 dX6_isWell_4 ko_0 rfl ?_
    refine nv_icge dX6_isWell_7 (fun c1 => ?_) (fun c1 => ?_)
    · replace hf := nv_ip c1 hf
      refine nv_k dX6_isWell_87 ?_
      obtain rfl := Option.some.inj hf
      exact nv_ireturnB (b := false) dX6_isWell_88 rfl
    · replace hf := nv_in c1 hf
      refine nv_aL dX6_isWell_10 rfl ?_
      refine nv_tR lf_X6_33 dX6_isWell_11 ko_0 rfl ?_
      refine nv_iL dX6_isWell_14 rfl ?_
      obtain ⟨g2, hf⟩ := nv_gd hf
      refine nv_aR dX6_isWell_15 kr_5 ⟨_, rfl⟩ g2 (nv_q1 _ _) ?_
      refine nv_aS dX6_isWell_16 (by decide) rfl rfl ?_
      refine nv_aL dX6_isWell_18 rfl ?_
      refine nv_aL dX6_isWell_20 rfl ?_
      refine nv_cSi (tc_isSaidByNamed G h (47 + x3.toNatClampNeg) (nv_o0 g2) k2 hk2) dX6_isWell_21 lm_X6_284 y_qX6_isSaidByNamed rfl (by decide) rfl (Nat.le_of_ble_eq_true rfl) ?_
      refine nv_ifeqB dX6_isWell_24 (fun c3 => ?_) (fun c3 => ?_)
      · replace hf := nv_ip c3 hf
        refine nv_aL dX6_isWell_27 rfl ?_
        refine nv_gI lf_X6_211 dX6_isWell_29 (nv_o0 g2) rfl ?_
        refine nv_k dX6_isWell_32 ?_
        refine nv_icne dX6_isWell_33 (fun c4 => ?_) (fun c4 => ?_)
        · replace hf := nv_ip c4 hf
          refine nv_aL dX6_isWell_36 rfl ?_
          refine nv_gI lf_X6_210 dX6_isWell_38 (nv_o0 g2) rfl ?_
          refine nv_aL dX6_isWell_41 rfl ?_
          refine nv_gI lf_X6_177 dX6_isWell_42 hk2 rfl ?_
          refine nv_aL dX6_isWell_45 rfl ?_
          refine nv_k dX6_isWell_46 ?_
          refine nv_aI dX6_isWell_47 hk1 (by decide) (j := 4) (by decide) ?_
          refine nv_iadd dX6_isWell_48 ?_
          refine nv_icgt dX6_isWell_49 (fun c5 => ?_) (fun c5 => ?_)
          · replace hf := nv_ip c5 hf
            refine nv_inc dX6_isWell_81 rfl (v := 1) (by decide) (by decide) rfl rfl ?_
            refine nv_goto dX6_isWell_84 ?_
            exact ih _ _ _ hf
          · replace hf := nv_in c5 hf
            refine nv_aL dX6_isWell_52 rfl ?_
            refine nv_k dX6_isWell_53 ?_
            refine nv_aI dX6_isWell_54 hk1 (by decide) (j := 5) (by decide) ?_
            refine nv_ifeq dX6_isWell_55 (fun c6 => ?_) (fun c6 => ?_)
            · replace hf := nv_ip c6 hf
              exact tc_isWell_70 G _ _ hk1 _ hk2 _ _ ih _ _ hf
            · replace hf := nv_in c6 hf
              refine nv_aL dX6_isWell_58 rfl ?_
              refine nv_gI lf_X6_214 dX6_isWell_60 (nv_o0 g2) rfl ?_
              refine nv_aL dX6_isWell_63 rfl ?_
              refine nv_gI lf_X6_174 dX6_isWell_64 hk2 rfl ?_
              refine nv_iclt dX6_isWell_67 (fun c7 => ?_) (fun c7 => ?_)
              · replace hf := nv_ip c7 hf
                refine nv_inc dX6_isWell_81 rfl (v := 1) (by decide) (by decide) rfl rfl ?_
                refine nv_goto dX6_isWell_84 ?_
                exact ih _ _ _ hf
              · replace hf := nv_in c7 hf
                exact tc_isWell_70 G _ _ hk1 _ hk2 _ _ ih _ _ hf
        · replace hf := nv_in c4 hf
          refine nv_inc dX6_isWell_81 rfl (v := 1) (by decide) (by decide) rfl rfl ?_
          refine nv_goto dX6_isWell_84 ?_
          exact ih _ _ _ hf
      · replace hf := nv_in c3 hf
        refine nv_inc dX6_isWell_81 rfl (v := 1) (by decide) (by decide) rfl rfl ?_
        refine nv_goto dX6_isWell_84 ?_
        exact ih _ _ _ hf
def fc_isWell (h : nv_Hp) (k1 : Nat) (k2 : Nat) : Option (Bool) := (fc_isWell_2 h k1 k2 nv_fu 0)
set_option maxHeartbeats 2000000 in
theorem tc_isWell (G : nv_G) (h : nv_Hp) (k1 : Nat) (hk1 : nv_A 9 k1) (k2 : Nat) (hk2 : nv_O 2 k2) {r : Bool} (hf : (fc_isWell h k1 k2) = some r) : nv_Mt G 2 qX6_isWell [.ref 0, .ref k1, .ref k2] (nv_s h) (some (.int (nv_bi r)), nv_s h) := by
  refine nv_of (by decide +kernel) (fun ad => Nat.le_of_ble_eq_true rfl) (Nat.le_refl _) (Nat.le_of_ble_eq_true rfl) ?_
  show nv_E G 2 qX6_isWell 0 [some (.ref 0), some (.ref k1), some (.ref k2), none, none] [] (nv_s h) (some (.int (nv_bi r)), nv_s h)
  unfold fc_isWell at hf
  refine nv_k dX6_isWell_0 ?_
  refine nv_iS dX6_isWell_1 (by decide) rfl rfl ?_
  exact tc_isWell_2 G _ _ hk1 _ hk2 _ _ _ _ hf
/-! WhoseName.reasonIn -/
theorem dX6_reasonIn_0 : nv_daload qX6_reasonIn 0 2 1 := Or.inr ⟨2, rfl, by decide +kernel, rfl⟩
theorem dX6_reasonIn_1 : nv_dc qX6_reasonIn 1 (.getfield 165) 3 4 := ⟨by decide +kernel, rfl⟩
theorem dX6_reasonIn_4 : nv_daload qX6_reasonIn 4 2 5 := Or.inr ⟨2, rfl, by decide +kernel, rfl⟩
theorem dX6_reasonIn_5 : nv_dc qX6_reasonIn 5 (.getfield 162) 3 8 := ⟨by decide +kernel, rfl⟩
theorem dX6_reasonIn_8 : nv_dic qX6_reasonIn 8 .ne 14 11 := ⟨6, by decide +kernel, by decide, rfl⟩
theorem dX6_reasonIn_11 : nv_dk qX6_reasonIn 11 30 13 := Or.inr (Or.inl ⟨30, ⟨by decide +kernel, rfl⟩, by decide⟩)
theorem dX6_reasonIn_13 : decode qX6_reasonIn.2.1 13 = .ok (.ireturn, 1) := by decide +kernel
theorem dX6_reasonIn_14 : nv_dk qX6_reasonIn 14 0 15 := Or.inl ⟨0, ⟨by decide +kernel, rfl⟩, by decide⟩
theorem dX6_reasonIn_15 : nv_distore qX6_reasonIn 15 4 17 := Or.inl ⟨by decide +kernel, rfl⟩
theorem dX6_reasonIn_17 : nv_diload qX6_reasonIn 17 4 19 := Or.inl ⟨by decide +kernel, rfl⟩
theorem dX6_reasonIn_19 : nv_daload qX6_reasonIn 19 0 20 := Or.inr ⟨0, rfl, by decide +kernel, rfl⟩
theorem dX6_reasonIn_20 : nv_dc qX6_reasonIn 20 (.getfield 85) 3 23 := ⟨by decide +kernel, rfl⟩
theorem dX6_reasonIn_23 : nv_dic qX6_reasonIn 23 .ge 47 26 := ⟨24, by decide +kernel, by decide, rfl⟩
theorem dX6_reasonIn_26 : nv_daload qX6_reasonIn 26 0 27 := Or.inr ⟨0, rfl, by decide +kernel, rfl⟩
theorem dX6_reasonIn_27 : nv_daload qX6_reasonIn 27 1 28 := Or.inr ⟨1, rfl, by decide +kernel, rfl⟩
theorem dX6_reasonIn_28 : nv_diload qX6_reasonIn 28 4 30 := Or.inl ⟨by decide +kernel, rfl⟩
theorem dX6_reasonIn_30 : nv_daload qX6_reasonIn 30 2 31 := Or.inr ⟨2, rfl, by decide +kernel, rfl⟩
theorem dX6_reasonIn_31 : nv_diload qX6_reasonIn 31 3 32 := Or.inr ⟨3, rfl, by decide +kernel, rfl⟩
theorem dX6_reasonIn_32 : nv_dc qX6_reasonIn 32 (.invokevirtual 234) 3 35 := ⟨by decide +kernel, rfl⟩
theorem dX6_reasonIn_35 : nv_dif qX6_reasonIn 35 .eq 41 38 := ⟨6, by decide +kernel, by decide, rfl⟩
theorem dX6_reasonIn_38 : nv_diload qX6_reasonIn 38 4 40 := Or.inl ⟨by decide +kernel, rfl⟩
theorem dX6_reasonIn_40 : decode qX6_reasonIn.2.1 40 = .ok (.ireturn, 1) := by decide +kernel
theorem dX6_reasonIn_41 : nv_dc qX6_reasonIn 41 (.iinc 4 1) 3 44 := ⟨by decide +kernel, rfl⟩
theorem dX6_reasonIn_44 : nv_dgo qX6_reasonIn 44 17 := ⟨(-27), by decide +kernel, by decide⟩
theorem dX6_reasonIn_47 : nv_daload qX6_reasonIn 47 2 48 := Or.inr ⟨2, rfl, by decide +kernel, rfl⟩
theorem dX6_reasonIn_48 : nv_dc qX6_reasonIn 48 (.getfield 165) 3 51 := ⟨by decide +kernel, rfl⟩
theorem dX6_reasonIn_51 : nv_dk qX6_reasonIn 51 (-1) 52 := Or.inl ⟨(-1), ⟨by decide +kernel, rfl⟩, by decide⟩
theorem dX6_reasonIn_52 : nv_dic qX6_reasonIn 52 .ne 58 55 := ⟨6, by decide +kernel, by decide, rfl⟩
theorem dX6_reasonIn_55 : nv_dk qX6_reasonIn 55 30 57 := Or.inr (Or.inl ⟨30, ⟨by decide +kernel, rfl⟩, by decide⟩)
theorem dX6_reasonIn_57 : decode qX6_reasonIn.2.1 57 = .ok (.ireturn, 1) := by decide +kernel
theorem dX6_reasonIn_58 : nv_daload qX6_reasonIn 58 0 59 := Or.inr ⟨0, rfl, by decide +kernel, rfl⟩
theorem dX6_reasonIn_59 : nv_daload qX6_reasonIn 59 1 60 := Or.inr ⟨1, rfl, by decide +kernel, rfl⟩
theorem dX6_reasonIn_60 : nv_daload qX6_reasonIn 60 2 61 := Or.inr ⟨2, rfl, by decide +kernel, rfl⟩
theorem dX6_reasonIn_61 : nv_dc qX6_reasonIn 61 (.invokevirtual 292) 3 64 := ⟨by decide +kernel, rfl⟩
theorem dX6_reasonIn_64 : nv_dif qX6_reasonIn 64 .eq 72 67 := ⟨8, by decide +kernel, by decide, rfl⟩
theorem dX6_reasonIn_67 : nv_dk qX6_reasonIn 67 20 69 := Or.inr (Or.inl ⟨20, ⟨by decide +kernel, rfl⟩, by decide⟩)
theorem dX6_reasonIn_69 : nv_dgo qX6_reasonIn 69 73 := ⟨4, by decide +kernel, by decide⟩
theorem dX6_reasonIn_72 : nv_dk qX6_reasonIn 72 (-1) 73 := Or.inl ⟨(-1), ⟨by decide +kernel, rfl⟩, by decide⟩
theorem dX6_reasonIn_73 : decode qX6_reasonIn.2.1 73 = .ok (.ireturn, 1) := by decide +kernel
def fc_reasonIn_17 (h : nv_Hp) (k1 : Nat) (k2 : Nat) (x3 : Int32)  : Nat → Int32 → Option (Int32)
  | 0, _ => none
  | n + 1, x4 => (if (h 0 7) ≤ x4 then (if (h k2 2) = (-1) then some 30 else (Option.bind (fc_isWell h k1 k2) fun q3 => (if q3 = true then some 20 else some (-1)))) else (if nv_inb x4 12 = true then (Option.bind (fc_reachesIn h k1 x4 k2 x3) fun q6 => (if q6 = true then some x4 else ((fc_reasonIn_17 h k1 k2 x3 n) (x4 + 1)))) else none))
set_option maxHeartbeats 2000000 in
theorem tc_reasonIn_17 (G : nv_G) (h : nv_Hp) (k1 : Nat) (hk1 : nv_A 9 k1) (k2 : Nat) (hk2 : nv_O 2 k2) (x3 : Int32)  : ∀ (n : Nat) (x4 : Int32) (r : Int32), fc_reasonIn_17 h k1 k2 x3 n x4 = some r → nv_E G 3 qX6_reasonIn 17 [some (.ref 0), some (.ref k1), some (.ref k2), some (.int x3), some (.int x4)] [] (nv_s h) (some (.int r), nv_s h) := by
  intro n
  induction n with
  | zero =>
    intro x4 r hf
    rw [fc_reasonIn_17] at hf
    cases hf
  | succ n ih =>
    intro x4 r hf
    rw [fc_reasonIn_17] at hf
    refine nv_iL dX6_reasonIn_17 rfl ?_
    refine nv_aL dX6_reasonIn_19 rfl ?_
    refine nv_tI lf_X6_85 dX6_reasonIn_20 ko_0 rfl ?_
    refine nv_icge dX6_reasonIn_23 (fun c1 => ?_) (fun c1 => ?_)
    · replace hf := nv_ip c1 hf
      refine nv_aL dX6_reasonIn_47 rfl ?_
      refine nv_gI lf_X6_165 dX6_reasonIn_48 hk2 rfl ?_
      refine nv_k dX6_reasonIn_51 ?_
      refine nv_icne dX6_reasonIn_52 (fun c2 => ?_) (fun c2 => ?_)
      · replace hf := nv_ip c2 hf
        refine nv_k dX6_reasonIn_55 ?_
        obtain rfl := Option.some.inj hf
        exact nv_ireturnI dX6_reasonIn_57 rfl
      · replace hf := nv_in c2 hf
        refine nv_aL dX6_reasonIn_58 rfl ?_
        refine nv_aL dX6_reasonIn_59 rfl ?_
        refine nv_aL dX6_reasonIn_60 rfl ?_
        obtain ⟨q3, hq3, hf⟩ := nv_bd hf
        refine nv_cVi (tc_isWell G h k1 hk1 k2 hk2 hq3) dX6_reasonIn_61 lm_X6_292 y_qX6_isWell ko_0 rfl rfl (by decide) rfl (Nat.le_of_ble_eq_true rfl) ?_
        refine nv_ifeqB dX6_reasonIn_64 (fun c4 => ?_) (fun c4 => ?_)
        · replace hf := nv_ip c4 hf
          refine nv_k dX6_reasonIn_67 ?_
          refine nv_goto dX6_reasonIn_69 ?_
          obtain rfl := Option.some.inj hf
          exact nv_ireturnI dX6_reasonIn_73 rfl
        · replace hf := nv_in c4 hf
          refine nv_k dX6_reasonIn_72 ?_
          obtain rfl := Option.some.inj hf
          exact nv_ireturnI dX6_reasonIn_73 rfl
    · replace hf := nv_in c1 hf
      refine nv_aL dX6_reasonIn_26 rfl ?_
      refine nv_aL dX6_reasonIn_27 rfl ?_
      refine nv_iL dX6_reasonIn_28 rfl ?_
      refine nv_aL dX6_reasonIn_30 rfl ?_
      refine nv_iL dX6_reasonIn_31 rfl ?_
      obtain ⟨g5, hf⟩ := nv_gd hf
      obtain ⟨q6, hq6, hf⟩ := nv_bd hf
      refine nv_cVi (tc_reachesIn G h k1 hk1 x4 g5 k2 hk2 x3 hq6) dX6_reasonIn_32 lm_X6_234 y_qX6_reachesIn ko_0 rfl rfl (by decide) rfl (Nat.le_of_ble_eq_true rfl) ?_
      refine nv_ifeqB dX6_reasonIn_35 (fun c7 => ?_) (fun c7 => ?_)
      · replace hf := nv_ip c7 hf
        refine nv_iL dX6_reasonIn_38 rfl ?_
        obtain rfl := Option.some.inj hf
        exact nv_ireturnI dX6_reasonIn_40 rfl
      · replace hf := nv_in c7 hf
        refine nv_inc dX6_reasonIn_41 rfl (v := 1) (by decide) (by decide) rfl rfl ?_
        refine nv_goto dX6_reasonIn_44 ?_
        exact ih _ _ hf
def fc_reasonIn (h : nv_Hp) (k1 : Nat) (k2 : Nat) (x3 : Int32) : Option (Int32) := (if (h k2 2) = (h k2 1) then some 30 else (fc_reasonIn_17 h k1 k2 x3 nv_fu 0))
set_option maxHeartbeats 2000000 in
theorem tc_reasonIn (G : nv_G) (h : nv_Hp) (k1 : Nat) (hk1 : nv_A 9 k1) (k2 : Nat) (hk2 : nv_O 2 k2) (x3 : Int32) {r : Int32} (hf : (fc_reasonIn h k1 k2 x3) = some r) : nv_Mt G 3 qX6_reasonIn [.ref 0, .ref k1, .ref k2, .int x3] (nv_s h) (some (.int r), nv_s h) := by
  refine nv_of (by decide +kernel) (fun ad => Nat.le_of_ble_eq_true rfl) (Nat.le_refl _) (Nat.le_of_ble_eq_true rfl) ?_
  show nv_E G 3 qX6_reasonIn 0 [some (.ref 0), some (.ref k1), some (.ref k2), some (.int x3), none] [] (nv_s h) (some (.int r), nv_s h)
  unfold fc_reasonIn at hf
  refine nv_aL dX6_reasonIn_0 rfl ?_
  refine nv_gI lf_X6_165 dX6_reasonIn_1 hk2 rfl ?_
  refine nv_aL dX6_reasonIn_4 rfl ?_
  refine nv_gI lf_X6_162 dX6_reasonIn_5 hk2 rfl ?_
  refine nv_icne dX6_reasonIn_8 (fun c1 => ?_) (fun c1 => ?_)
  · replace hf := nv_ip c1 hf
    refine nv_k dX6_reasonIn_11 ?_
    obtain rfl := Option.some.inj hf
    exact nv_ireturnI dX6_reasonIn_13 rfl
  · replace hf := nv_in c1 hf
    refine nv_k dX6_reasonIn_14 ?_
    refine nv_iS dX6_reasonIn_15 (by decide) rfl rfl ?_
    exact tc_reasonIn_17 G _ _ hk1 _ hk2 _ _ _ _ hf
/-! WhoseName.bitsOfReason -/
theorem dX6_bitsOfReason_0 : nv_diload qX6_bitsOfReason 0 3 1 := Or.inr ⟨3, rfl, by decide +kernel, rfl⟩
theorem dX6_bitsOfReason_1 : nv_dk qX6_bitsOfReason 1 (-1) 2 := Or.inl ⟨(-1), ⟨by decide +kernel, rfl⟩, by decide⟩
theorem dX6_bitsOfReason_2 : nv_dic qX6_bitsOfReason 2 .ne 7 5 := ⟨5, by decide +kernel, by decide, rfl⟩
theorem dX6_bitsOfReason_5 : nv_dk qX6_bitsOfReason 5 0 6 := Or.inl ⟨0, ⟨by decide +kernel, rfl⟩, by decide⟩
theorem dX6_bitsOfReason_6 : decode qX6_bitsOfReason.2.1 6 = .ok (.ireturn, 1) := by decide +kernel
theorem dX6_bitsOfReason_7 : nv_diload qX6_bitsOfReason 7 3 8 := Or.inr ⟨3, rfl, by decide +kernel, rfl⟩
theorem dX6_bitsOfReason_8 : nv_dk qX6_bitsOfReason 8 30 10 := Or.inr (Or.inl ⟨30, ⟨by decide +kernel, rfl⟩, by decide⟩)
theorem dX6_bitsOfReason_10 : nv_dic qX6_bitsOfReason 10 .ne 20 13 := ⟨10, by decide +kernel, by decide, rfl⟩
theorem dX6_bitsOfReason_13 : nv_dk qX6_bitsOfReason 13 1 14 := Or.inl ⟨1, ⟨by decide +kernel, rfl⟩, by decide⟩
theorem dX6_bitsOfReason_14 : nv_daload qX6_bitsOfReason 14 2 15 := Or.inr ⟨2, rfl, by decide +kernel, rfl⟩
theorem dX6_bitsOfReason_15 : nv_dc qX6_bitsOfReason 15 (.getfield 162) 3 18 := ⟨by decide +kernel, rfl⟩
theorem dX6_bitsOfReason_18 : nv_dc qX6_bitsOfReason 18 (.ishl) 1 19 := ⟨by decide +kernel, rfl⟩
theorem dX6_bitsOfReason_19 : decode qX6_bitsOfReason.2.1 19 = .ok (.ireturn, 1) := by decide +kernel
theorem dX6_bitsOfReason_20 : nv_daload qX6_bitsOfReason 20 2 21 := Or.inr ⟨2, rfl, by decide +kernel, rfl⟩
theorem dX6_bitsOfReason_21 : nv_dc qX6_bitsOfReason 21 (.getfield 165) 3 24 := ⟨by decide +kernel, rfl⟩
theorem dX6_bitsOfReason_24 : nv_dk qX6_bitsOfReason 24 (-1) 25 := Or.inl ⟨(-1), ⟨by decide +kernel, rfl⟩, by decide⟩
theorem dX6_bitsOfReason_25 : nv_dic qX6_bitsOfReason 25 .eq 35 28 := ⟨10, by decide +kernel, by decide, rfl⟩
theorem dX6_bitsOfReason_28 : nv_dk qX6_bitsOfReason 28 1 29 := Or.inl ⟨1, ⟨by decide +kernel, rfl⟩, by decide⟩
theorem dX6_bitsOfReason_29 : nv_daload qX6_bitsOfReason 29 2 30 := Or.inr ⟨2, rfl, by decide +kernel, rfl⟩
theorem dX6_bitsOfReason_30 : nv_dc qX6_bitsOfReason 30 (.getfield 165) 3 33 := ⟨by decide +kernel, rfl⟩
theorem dX6_bitsOfReason_33 : nv_dc qX6_bitsOfReason 33 (.ishl) 1 34 := ⟨by decide +kernel, rfl⟩
theorem dX6_bitsOfReason_34 : decode qX6_bitsOfReason.2.1 34 = .ok (.ireturn, 1) := by decide +kernel
theorem dX6_bitsOfReason_35 : nv_daload qX6_bitsOfReason 35 0 36 := Or.inr ⟨0, rfl, by decide +kernel, rfl⟩
theorem dX6_bitsOfReason_36 : nv_diload qX6_bitsOfReason 36 3 37 := Or.inr ⟨3, rfl, by decide +kernel, rfl⟩
theorem dX6_bitsOfReason_37 : nv_dc qX6_bitsOfReason 37 (.invokevirtual 114) 3 40 := ⟨by decide +kernel, rfl⟩
theorem dX6_bitsOfReason_40 : nv_dif qX6_bitsOfReason 40 .eq 57 43 := ⟨17, by decide +kernel, by decide, rfl⟩
theorem dX6_bitsOfReason_43 : nv_dk qX6_bitsOfReason 43 1 44 := Or.inl ⟨1, ⟨by decide +kernel, rfl⟩, by decide⟩
theorem dX6_bitsOfReason_44 : nv_daload qX6_bitsOfReason 44 0 45 := Or.inr ⟨0, rfl, by decide +kernel, rfl⟩
theorem dX6_bitsOfReason_45 : nv_dc qX6_bitsOfReason 45 (.getfield 15) 3 48 := ⟨by decide +kernel, rfl⟩
theorem dX6_bitsOfReason_48 : nv_diload qX6_bitsOfReason 48 3 49 := Or.inr ⟨3, rfl, by decide +kernel, rfl⟩
theorem dX6_bitsOfReason_49 : nv_dc qX6_bitsOfReason 49 (.aaload) 1 50 := ⟨by decide +kernel, rfl⟩
theorem dX6_bitsOfReason_50 : nv_dc qX6_bitsOfReason 50 (.getfield 117) 3 53 := ⟨by decide +kernel, rfl⟩
theorem dX6_bitsOfReason_53 : nv_dc qX6_bitsOfReason 53 (.ishl) 1 54 := ⟨by decide +kernel, rfl⟩
theorem dX6_bitsOfReason_54 : nv_dgo qX6_bitsOfReason 54 58 := ⟨4, by decide +kernel, by decide⟩
theorem dX6_bitsOfReason_57 : nv_dk qX6_bitsOfReason 57 0 58 := Or.inl ⟨0, ⟨by decide +kernel, rfl⟩, by decide⟩
theorem dX6_bitsOfReason_58 : nv_distore qX6_bitsOfReason 58 4 60 := Or.inl ⟨by decide +kernel, rfl⟩
theorem dX6_bitsOfReason_60 : nv_daload qX6_bitsOfReason 60 1 61 := Or.inr ⟨1, rfl, by decide +kernel, rfl⟩
theorem dX6_bitsOfReason_61 : nv_dk qX6_bitsOfReason 61 6 63 := Or.inr (Or.inl ⟨6, ⟨by decide +kernel, rfl⟩, by decide⟩)
theorem dX6_bitsOfReason_63 : nv_dc qX6_bitsOfReason 63 (.iaload) 1 64 := ⟨by decide +kernel, rfl⟩
theorem dX6_bitsOfReason_64 : decode qX6_bitsOfReason.2.1 64 = .ok (.lookupswitch 38 #[(0, 28), (1, 35)], 28) := by decide +kernel
theorem swX6_bitsOfReason_64_0 (x : Int32) (hx : x = 0) : nv_dsw qX6_bitsOfReason 64 x 92 := by subst hx; exact Or.inr ⟨_, _, _, 28, dX6_bitsOfReason_64, by decide, by decide, by decide⟩
theorem swX6_bitsOfReason_64_1 (x : Int32) (hx : x = 1) : nv_dsw qX6_bitsOfReason 64 x 99 := by subst hx; exact Or.inr ⟨_, _, _, 35, dX6_bitsOfReason_64, by decide, by decide, by decide⟩
theorem swX6_bitsOfReason_64_d (x : Int32) (c0 : ¬ x = 0) (c1 : ¬ x = 1) : nv_dsw qX6_bitsOfReason 64 x 102 := by
  have g0 : x.toInt ≠ 0 := fun e => c0 (Int32.toInt_inj.mp (e.trans (by decide)))
  have g1 : x.toInt ≠ 1 := fun e => c1 (Int32.toInt_inj.mp (e.trans (by decide)))
  exact Or.inr ⟨_, _, _, 38, dX6_bitsOfReason_64, by decide, by simp [Op.lookupswitch.offset, g0, Ne.symm g0, g1, Ne.symm g1], by decide⟩
theorem dX6_bitsOfReason_92 : nv_dk qX6_bitsOfReason 92 1 93 := Or.inl ⟨1, ⟨by decide +kernel, rfl⟩, by decide⟩
theorem dX6_bitsOfReason_93 : nv_daload qX6_bitsOfReason 93 2 94 := Or.inr ⟨2, rfl, by decide +kernel, rfl⟩
theorem dX6_bitsOfReason_94 : nv_dc qX6_bitsOfReason 94 (.getfield 162) 3 97 := ⟨by decide +kernel, rfl⟩
theorem dX6_bitsOfReason_97 : nv_dc qX6_bitsOfReason 97 (.ishl) 1 98 := ⟨by decide +kernel, rfl⟩
theorem dX6_bitsOfReason_98 : decode qX6_bitsOfReason.2.1 98 = .ok (.ireturn, 1) := by decide +kernel
theorem dX6_bitsOfReason_99 : nv_diload qX6_bitsOfReason 99 4 101 := Or.inl ⟨by decide +kernel, rfl⟩
theorem dX6_bitsOfReason_101 : decode qX6_bitsOfReason.2.1 101 = .ok (.ireturn, 1) := by decide +kernel
theorem dX6_bitsOfReason_102 : nv_diload qX6_bitsOfReason 102 4 104 := Or.inl ⟨by decide +kernel, rfl⟩
theorem dX6_bitsOfReason_104 : nv_dk qX6_bitsOfReason 104 1 105 := Or.inl ⟨1, ⟨by decide +kernel, rfl⟩, by decide⟩
theorem dX6_bitsOfReason_105 : nv_daload qX6_bitsOfReason 105 2 106 := Or.inr ⟨2, rfl, by decide +kernel, rfl⟩
theorem dX6_bitsOfReason_106 : nv_dc qX6_bitsOfReason 106 (.getfield 162) 3 109 := ⟨by decide +kernel, rfl⟩
theorem dX6_bitsOfReason_109 : nv_dc qX6_bitsOfReason 109 (.ishl) 1 110 := ⟨by decide +kernel, rfl⟩
theorem dX6_bitsOfReason_110 : nv_dc qX6_bitsOfReason 110 (.ior) 1 111 := ⟨by decide +kernel, rfl⟩
theorem dX6_bitsOfReason_111 : decode qX6_bitsOfReason.2.1 111 = .ok (.ireturn, 1) := by decide +kernel
def fc_bitsOfReason_58 (h : nv_Hp) (k1 : Nat) (k2 : Nat) (s0 : Int32)  : Option (Int32) := (nv_lt ((h k1 6)) fun v1 => (if v1 = 0 then some (1 <<< ((h k2 1) &&& 31)) else (if v1 = 1 then some s0 else some (s0 ||| (1 <<< ((h k2 1) &&& 31))))))
set_option maxHeartbeats 2000000 in
theorem tc_bitsOfReason_58 (G : nv_G) (h : nv_Hp) (k1 : Nat) (hk1 : nv_A 9 k1) (k2 : Nat) (hk2 : nv_O 2 k2) (s0 : Int32)  (o3 o4 : Option Value) (r : Int32) (hf : fc_bitsOfReason_58 h k1 k2 s0 = some r) : nv_E G 2 qX6_bitsOfReason 58 [some (.ref 0), some (.ref k1), some (.ref k2), o3, o4] [.int s0] (nv_s h) (some (.int r), nv_s h) := by
  unfold fc_bitsOfReason_58 at hf
  refine nv_wk 3 rfl ?_
  refine nv_iS dX6_bitsOfReason_58 (by decide) rfl rfl ?_
  refine nv_aL dX6_bitsOfReason_60 rfl ?_
  refine nv_k dX6_bitsOfReason_61 ?_
  refine nv_aI dX6_bitsOfReason_63 hk1 (by decide) (j := 6) (by decide) ?_
  obtain ⟨v1, ev1, hf⟩ := nv_ltX hf
  rw [ev1]
  clear ev1
  by_cases c2 : v1 = 0
  · replace hf := nv_ip c2 hf
    refine nv_switch (tgt := 92) (swX6_bitsOfReason_64_0 _ c2) ?_
    refine nv_k dX6_bitsOfReason_92 ?_
    refine nv_aL dX6_bitsOfReason_93 rfl ?_
    refine nv_gI lf_X6_162 dX6_bitsOfReason_94 hk2 rfl ?_
    refine nv_ishl dX6_bitsOfReason_97 ?_
    obtain rfl := Option.some.inj hf
    exact nv_ireturnI dX6_bitsOfReason_98 rfl
  · replace hf := nv_in c2 hf
    by_cases c3 : v1 = 1
    · replace hf := nv_ip c3 hf
      refine nv_switch (tgt := 99) (swX6_bitsOfReason_64_1 _ c3) ?_
      refine nv_iL dX6_bitsOfReason_99 rfl ?_
      obtain rfl := Option.some.inj hf
      exact nv_ireturnI dX6_bitsOfReason_101 rfl
    · replace hf := nv_in c3 hf
      refine nv_switch (tgt := 102) (swX6_bitsOfReason_64_d _ c2 c3) ?_
      refine nv_iL dX6_bitsOfReason_102 rfl ?_
      refine nv_k dX6_bitsOfReason_104 ?_
      refine nv_aL dX6_bitsOfReason_105 rfl ?_
      refine nv_gI lf_X6_162 dX6_bitsOfReason_106 hk2 rfl ?_
      refine nv_ishl dX6_bitsOfReason_109 ?_
      refine nv_ior dX6_bitsOfReason_110 ?_
      obtain rfl := Option.some.inj hf
      exact nv_ireturnI dX6_bitsOfReason_111 rfl
def fc_bitsOfReason (h : nv_Hp) (k1 : Nat) (k2 : Nat) (x3 : Int32) : Option (Int32) := (if x3 = (-1) then some 0 else (if x3 = 30 then some (1 <<< ((h k2 1) &&& 31)) else (if (h k2 2) = (-1) then (Option.bind ((if (fc_isLeave h x3) = true then (if nv_inb x3 12 = true then some ((1 <<< ((h (13 + x3.toNatClampNeg) 1) &&& 31))) else none) else some (0)) : Option (Int32)) fun u5 => fc_bitsOfReason_58 h k1 k2 u5) else some (1 <<< ((h k2 2) &&& 31)))))
set_option maxHeartbeats 2000000 in
theorem tc_bitsOfReason (G : nv_G) (h : nv_Hp) (k1 : Nat) (hk1 : nv_A 9 k1) (k2 : Nat) (hk2 : nv_O 2 k2) (x3 : Int32) {r : Int32} (hf : (fc_bitsOfReason h k1 k2 x3) = some r) : nv_Mt G 2 qX6_bitsOfReason [.ref 0, .ref k1, .ref k2, .int x3] (nv_s h) (some (.int r), nv_s h) := by
  refine nv_of (by decide +kernel) (fun ad => Nat.le_of_ble_eq_true rfl) (Nat.le_refl _) (Nat.le_of_ble_eq_true rfl) ?_
  show nv_E G 2 qX6_bitsOfReason 0 [some (.ref 0), some (.ref k1), some (.ref k2), some (.int x3), none] [] (nv_s h) (some (.int r), nv_s h)
  unfold fc_bitsOfReason at hf
  refine nv_iL dX6_bitsOfReason_0 rfl ?_
  refine nv_k dX6_bitsOfReason_1 ?_
  refine nv_icne dX6_bitsOfReason_2 (fun c1 => ?_) (fun c1 => ?_)
  · replace hf := nv_ip c1 hf
    refine nv_k dX6_bitsOfReason_5 ?_
    obtain rfl := Option.some.inj hf
    exact nv_ireturnI dX6_bitsOfReason_6 rfl
  · replace hf := nv_in c1 hf
    refine nv_iL dX6_bitsOfReason_7 rfl ?_
    refine nv_k dX6_bitsOfReason_8 ?_
    refine nv_icne dX6_bitsOfReason_10 (fun c2 => ?_) (fun c2 => ?_)
    · replace hf := nv_ip c2 hf
      refine nv_k dX6_bitsOfReason_13 ?_
      refine nv_aL dX6_bitsOfReason_14 rfl ?_
      refine nv_gI lf_X6_162 dX6_bitsOfReason_15 hk2 rfl ?_
      refine nv_ishl dX6_bitsOfReason_18 ?_
      obtain rfl := Option.some.inj hf
      exact nv_ireturnI dX6_bitsOfReason_19 rfl
    · replace hf := nv_in c2 hf
      refine nv_aL dX6_bitsOfReason_20 rfl ?_
      refine nv_gI lf_X6_165 dX6_bitsOfReason_21 hk2 rfl ?_
      refine nv_k dX6_bitsOfReason_24 ?_
      refine nv_iceq dX6_bitsOfReason_25 (fun c3 => ?_) (fun c3 => ?_)
      · replace hf := nv_ip c3 hf
        refine nv_aL dX6_bitsOfReason_35 rfl ?_
        refine nv_iL dX6_bitsOfReason_36 rfl ?_
        refine nv_cVi (tc_isLeave G h x3) dX6_bitsOfReason_37 lm_X6_114 y_qX6_isLeave ko_0 rfl rfl (by decide) rfl (Nat.le_of_ble_eq_true rfl) ?_
        refine nv_ifeqB dX6_bitsOfReason_40 (fun c6 => ?_) (fun c6 => ?_)
        · try simp only [if_pos c6, Option.bind_some] at hf
          refine nv_k dX6_bitsOfReason_43 ?_
          refine nv_aL dX6_bitsOfReason_44 rfl ?_
          refine nv_tR lf_X6_15 dX6_bitsOfReason_45 ko_0 rfl ?_
          refine nv_iL dX6_bitsOfReason_48 rfl ?_
          have g7 : nv_inb x3 12 = true := by
            by_cases g7 : nv_inb x3 12 = true
            · exact g7
            · exfalso; simp [if_neg g7] at hf
          simp only [if_pos g7, Option.bind_some] at hf
          refine nv_aR dX6_bitsOfReason_49 kr_2 ⟨_, rfl⟩ g7 (nv_q1 _ _) ?_
          refine nv_gI lf_X6_117 dX6_bitsOfReason_50 (nv_o4 g7) rfl ?_
          refine nv_ishl dX6_bitsOfReason_53 ?_
          refine nv_goto dX6_bitsOfReason_54 ?_
          exact tc_bitsOfReason_58 G _ _ hk1 _ hk2 _ _ _ _ hf
        · try simp only [if_neg c6, Option.bind_some] at hf
          refine nv_k dX6_bitsOfReason_57 ?_
          exact tc_bitsOfReason_58 G _ _ hk1 _ hk2 _ _ _ _ hf
      · replace hf := nv_in c3 hf
        refine nv_k dX6_bitsOfReason_28 ?_
        refine nv_aL dX6_bitsOfReason_29 rfl ?_
        refine nv_gI lf_X6_165 dX6_bitsOfReason_30 hk2 rfl ?_
        refine nv_ishl dX6_bitsOfReason_33 ?_
        obtain rfl := Option.some.inj hf
        exact nv_ireturnI dX6_bitsOfReason_34 rfl
/-! WhoseName.boundBits -/
theorem dX6_boundBits_0 : nv_daload qX6_boundBits 0 0 1 := Or.inr ⟨0, rfl, by decide +kernel, rfl⟩
theorem dX6_boundBits_1 : nv_daload qX6_boundBits 1 1 2 := Or.inr ⟨1, rfl, by decide +kernel, rfl⟩
theorem dX6_boundBits_2 : nv_daload qX6_boundBits 2 2 3 := Or.inr ⟨2, rfl, by decide +kernel, rfl⟩
theorem dX6_boundBits_3 : nv_daload qX6_boundBits 3 0 4 := Or.inr ⟨0, rfl, by decide +kernel, rfl⟩
theorem dX6_boundBits_4 : nv_daload qX6_boundBits 4 1 5 := Or.inr ⟨1, rfl, by decide +kernel, rfl⟩
theorem dX6_boundBits_5 : nv_daload qX6_boundBits 5 2 6 := Or.inr ⟨2, rfl, by decide +kernel, rfl⟩
theorem dX6_boundBits_6 : nv_diload qX6_boundBits 6 3 7 := Or.inr ⟨3, rfl, by decide +kernel, rfl⟩
theorem dX6_boundBits_7 : nv_dc qX6_boundBits 7 (.invokevirtual 245) 3 10 := ⟨by decide +kernel, rfl⟩
theorem dX6_boundBits_10 : nv_dc qX6_boundBits 10 (.invokevirtual 296) 3 13 := ⟨by decide +kernel, rfl⟩
theorem dX6_boundBits_13 : decode qX6_boundBits.2.1 13 = .ok (.ireturn, 1) := by decide +kernel
def fc_boundBits (h : nv_Hp) (k1 : Nat) (k2 : Nat) (x3 : Int32) : Option (Int32) := (Option.bind (fc_reasonIn h k1 k2 x3) fun q1 => (Option.bind (fc_bitsOfReason h k1 k2 q1) fun q2 => some q2))
set_option maxHeartbeats 2000000 in
theorem tc_boundBits (G : nv_G) (h : nv_Hp) (k1 : Nat) (hk1 : nv_A 9 k1) (k2 : Nat) (hk2 : nv_O 2 k2) (x3 : Int32) {r : Int32} (hf : (fc_boundBits h k1 k2 x3) = some r) : nv_Mt G 4 qX6_boundBits [.ref 0, .ref k1, .ref k2, .int x3] (nv_s h) (some (.int r), nv_s h) := by
  refine nv_of (by decide +kernel) (fun ad => Nat.le_of_ble_eq_true rfl) (Nat.le_refl _) (Nat.le_of_ble_eq_true rfl) ?_
  show nv_E G 4 qX6_boundBits 0 [some (.ref 0), some (.ref k1), some (.ref k2), some (.int x3)] [] (nv_s h) (some (.int r), nv_s h)
  unfold fc_boundBits at hf
  refine nv_aL dX6_boundBits_0 rfl ?_
  refine nv_aL dX6_boundBits_1 rfl ?_
  refine nv_aL dX6_boundBits_2 rfl ?_
  refine nv_aL dX6_boundBits_3 rfl ?_
  refine nv_aL dX6_boundBits_4 rfl ?_
  refine nv_aL dX6_boundBits_5 rfl ?_
  refine nv_iL dX6_boundBits_6 rfl ?_
  obtain ⟨q1, hq1, hf⟩ := nv_bd hf
  refine nv_cVi (tc_reasonIn G h k1 hk1 k2 hk2 x3 hq1) dX6_boundBits_7 lm_X6_245 y_qX6_reasonIn ko_0 rfl rfl (by decide) rfl (Nat.le_of_ble_eq_true rfl) ?_
  obtain ⟨q2, hq2, hf⟩ := nv_bd hf
  refine nv_cVi (tc_bitsOfReason G h k1 hk1 k2 hk2 q1 hq2) dX6_boundBits_10 lm_X6_296 y_qX6_bitsOfReason ko_0 rfl rfl (by decide) rfl (Nat.le_of_ble_eq_true rfl) ?_
  obtain rfl := Option.some.inj hf
  exact nv_ireturnI dX6_boundBits_13 rfl
/-! WhoseName.bound -/
theorem dX6_bound_0 : nv_diload qX6_bound 0 1 1 := Or.inr ⟨1, rfl, by decide +kernel, rfl⟩
theorem dX6_bound_1 : nv_dc qX6_bound 1 (.invokestatic 217) 3 4 := ⟨by decide +kernel, rfl⟩
theorem dX6_bound_4 : nv_dif qX6_bound 4 .eq 22 7 := ⟨18, by decide +kernel, by decide, rfl⟩
theorem dX6_bound_7 : nv_daload qX6_bound 7 0 8 := Or.inr ⟨0, rfl, by decide +kernel, rfl⟩
theorem dX6_bound_8 : nv_diload qX6_bound 8 2 9 := Or.inr ⟨2, rfl, by decide +kernel, rfl⟩
theorem dX6_bound_9 : nv_dc qX6_bound 9 (.invokevirtual 201) 3 12 := ⟨by decide +kernel, rfl⟩
theorem dX6_bound_12 : nv_dif qX6_bound 12 .eq 22 15 := ⟨10, by decide +kernel, by decide, rfl⟩
theorem dX6_bound_15 : nv_diload qX6_bound 15 3 16 := Or.inr ⟨3, rfl, by decide +kernel, rfl⟩
theorem dX6_bound_16 : nv_dc qX6_bound 16 (.invokestatic 129) 3 19 := ⟨by decide +kernel, rfl⟩
theorem dX6_bound_19 : nv_dif qX6_bound 19 .ne 25 22 := ⟨6, by decide +kernel, by decide, rfl⟩
theorem dX6_bound_22 : nv_dk qX6_bound 22 (-2) 24 := Or.inr (Or.inl ⟨(-2), ⟨by decide +kernel, rfl⟩, by decide⟩)
theorem dX6_bound_24 : decode qX6_bound.2.1 24 = .ok (.ireturn, 1) := by decide +kernel
theorem dX6_bound_25 : nv_daload qX6_bound 25 0 26 := Or.inr ⟨0, rfl, by decide +kernel, rfl⟩
theorem dX6_bound_26 : nv_dc qX6_bound 26 (.getfield 39) 3 29 := ⟨by decide +kernel, rfl⟩
theorem dX6_bound_29 : nv_diload qX6_bound 29 1 30 := Or.inr ⟨1, rfl, by decide +kernel, rfl⟩
theorem dX6_bound_30 : nv_dc qX6_bound 30 (.aaload) 1 31 := ⟨by decide +kernel, rfl⟩
theorem dX6_bound_31 : nv_dc qX6_bound 31 (.getfield 231) 3 34 := ⟨by decide +kernel, rfl⟩
theorem dX6_bound_34 : nv_dastore qX6_bound 34 4 36 := Or.inl ⟨by decide +kernel, rfl⟩
theorem dX6_bound_36 : nv_diload qX6_bound 36 3 37 := Or.inr ⟨3, rfl, by decide +kernel, rfl⟩
theorem dX6_bound_37 : nv_dif qX6_bound 37 .ne 56 40 := ⟨19, by decide +kernel, by decide, rfl⟩
theorem dX6_bound_40 : nv_daload qX6_bound 40 0 41 := Or.inr ⟨0, rfl, by decide +kernel, rfl⟩
theorem dX6_bound_41 : nv_daload qX6_bound 41 4 43 := Or.inl ⟨by decide +kernel, rfl⟩
theorem dX6_bound_43 : nv_daload qX6_bound 43 0 44 := Or.inr ⟨0, rfl, by decide +kernel, rfl⟩
theorem dX6_bound_44 : nv_dc qX6_bound 44 (.getfield 27) 3 47 := ⟨by decide +kernel, rfl⟩
theorem dX6_bound_47 : nv_diload qX6_bound 47 2 48 := Or.inr ⟨2, rfl, by decide +kernel, rfl⟩
theorem dX6_bound_48 : nv_dc qX6_bound 48 (.aaload) 1 49 := ⟨by decide +kernel, rfl⟩
theorem dX6_bound_49 : nv_dk qX6_bound 49 0 50 := Or.inl ⟨0, ⟨by decide +kernel, rfl⟩, by decide⟩
theorem dX6_bound_50 : nv_dc qX6_bound 50 (.invokevirtual 241) 3 53 := ⟨by decide +kernel, rfl⟩
theorem dX6_bound_53 : nv_dgo qX6_bound 53 69 := ⟨16, by decide +kernel, by decide⟩
theorem dX6_bound_56 : nv_daload qX6_bound 56 0 57 := Or.inr ⟨0, rfl, by decide +kernel, rfl⟩
theorem dX6_bound_57 : nv_daload qX6_bound 57 4 59 := Or.inl ⟨by decide +kernel, rfl⟩
theorem dX6_bound_59 : nv_daload qX6_bound 59 0 60 := Or.inr ⟨0, rfl, by decide +kernel, rfl⟩
theorem dX6_bound_60 : nv_dc qX6_bound 60 (.getfield 27) 3 63 := ⟨by decide +kernel, rfl⟩
theorem dX6_bound_63 : nv_diload qX6_bound 63 2 64 := Or.inr ⟨2, rfl, by decide +kernel, rfl⟩
theorem dX6_bound_64 : nv_dc qX6_bound 64 (.aaload) 1 65 := ⟨by decide +kernel, rfl⟩
theorem dX6_bound_65 : nv_dk qX6_bound 65 0 66 := Or.inl ⟨0, ⟨by decide +kernel, rfl⟩, by decide⟩
theorem dX6_bound_66 : nv_dc qX6_bound 66 (.invokevirtual 245) 3 69 := ⟨by decide +kernel, rfl⟩
theorem dX6_bound_69 : decode qX6_bound.2.1 69 = .ok (.ireturn, 1) := by decide +kernel
def fc_bound (h : nv_Hp) (x1 : Int32) (x2 : Int32) (x3 : Int32) : Option (Int32) := (if (fc_isLaw x1) = true then (if (fc_isBargain h x2) = true then (if (fc_isFlag x3) = true then (if nv_inb x1 2 = true then (if x3 = 0 then (if nv_inb x2 10 = true then (Option.bind (fc_boundBits h ((59 + 3 * x1.toNatClampNeg) + 2) (37 + x2.toNatClampNeg) 0) fun q7 => some q7) else none) else (if nv_inb x2 10 = true then (Option.bind (fc_reasonIn h ((59 + 3 * x1.toNatClampNeg) + 2) (37 + x2.toNatClampNeg) 0) fun q9 => some q9) else none)) else none) else some (-2)) else some (-2)) else some (-2))
set_option maxHeartbeats 2000000 in
theorem tc_bound (G : nv_G) (h : nv_Hp) (x1 : Int32) (x2 : Int32) (x3 : Int32) {r : Int32} (hf : (fc_bound h x1 x2 x3) = some r) : nv_Mt G 5 qX6_bound [.ref 0, .int x1, .int x2, .int x3] (nv_s h) (some (.int r), nv_s h) := by
  refine nv_of (by decide +kernel) (fun ad => Nat.le_of_ble_eq_true rfl) (Nat.le_refl _) (Nat.le_of_ble_eq_true rfl) ?_
  show nv_E G 5 qX6_bound 0 [some (.ref 0), some (.int x1), some (.int x2), some (.int x3), none] [] (nv_s h) (some (.int r), nv_s h)
  unfold fc_bound at hf
  refine nv_iL dX6_bound_0 rfl ?_
  refine nv_cSi (tc_isLaw G h x1) dX6_bound_1 lm_X6_217 y_qX6_isLaw rfl (by decide) rfl (Nat.le_of_ble_eq_true rfl) ?_
  refine nv_ifeqB dX6_bound_4 (fun c1 => ?_) (fun c1 => ?_)
  · replace hf := nv_ip c1 hf
    refine nv_aL dX6_bound_7 rfl ?_
    refine nv_iL dX6_bound_8 rfl ?_
    refine nv_cVi (tc_isBargain G h x2) dX6_bound_9 lm_X6_201 y_qX6_isBargain ko_0 rfl rfl (by decide) rfl (Nat.le_of_ble_eq_true rfl) ?_
    refine nv_ifeqB dX6_bound_12 (fun c2 => ?_) (fun c2 => ?_)
    · replace hf := nv_ip c2 hf
      refine nv_iL dX6_bound_15 rfl ?_
      refine nv_cSi (tc_isFlag G h x3) dX6_bound_16 lm_X6_129 y_qX6_isFlag rfl (by decide) rfl (Nat.le_of_ble_eq_true rfl) ?_
      refine nv_ifneB dX6_bound_19 (fun c3 => ?_) (fun c3 => ?_)
      · replace hf := nv_ip c3 hf
        refine nv_aL dX6_bound_25 rfl ?_
        refine nv_tR lf_X6_39 dX6_bound_26 ko_0 rfl ?_
        refine nv_iL dX6_bound_29 rfl ?_
        obtain ⟨g4, hf⟩ := nv_gd hf
        refine nv_aR dX6_bound_30 kr_6 ⟨_, rfl⟩ g4 rfl ?_
        refine nv_gR (t := ((59 + 3 * x1.toNatClampNeg) + 2)) lf_X6_231 dX6_bound_31 (nv_o3 g4) rfl ?_
        refine nv_aS dX6_bound_34 (by decide) rfl rfl ?_
        refine nv_iL dX6_bound_36 rfl ?_
        refine nv_ifne dX6_bound_37 (fun c5 => ?_) (fun c5 => ?_)
        · replace hf := nv_ip c5 hf
          refine nv_aL dX6_bound_40 rfl ?_
          refine nv_aL dX6_bound_41 rfl ?_
          refine nv_aL dX6_bound_43 rfl ?_
          refine nv_tR lf_X6_27 dX6_bound_44 ko_0 rfl ?_
          refine nv_iL dX6_bound_47 rfl ?_
          obtain ⟨g6, hf⟩ := nv_gd hf
          refine nv_aR dX6_bound_48 kr_4 ⟨_, rfl⟩ g6 (nv_q1 _ _) ?_
          refine nv_k dX6_bound_49 ?_
          obtain ⟨q7, hq7, hf⟩ := nv_bd hf
          refine nv_cVi (tc_boundBits G h ((59 + 3 * x1.toNatClampNeg) + 2) (nv_o3w (nv_o3 g4)) (37 + x2.toNatClampNeg) (nv_o2 g6) 0 hq7) dX6_bound_50 lm_X6_241 y_qX6_boundBits ko_0 rfl rfl (by decide) rfl (Nat.le_of_ble_eq_true rfl) ?_
          refine nv_goto dX6_bound_53 ?_
          obtain rfl := Option.some.inj hf
          exact nv_ireturnI dX6_bound_69 rfl
        · replace hf := nv_in c5 hf
          refine nv_aL dX6_bound_56 rfl ?_
          refine nv_aL dX6_bound_57 rfl ?_
          refine nv_aL dX6_bound_59 rfl ?_
          refine nv_tR lf_X6_27 dX6_bound_60 ko_0 rfl ?_
          refine nv_iL dX6_bound_63 rfl ?_
          obtain ⟨g8, hf⟩ := nv_gd hf
          refine nv_aR dX6_bound_64 kr_4 ⟨_, rfl⟩ g8 (nv_q1 _ _) ?_
          refine nv_k dX6_bound_65 ?_
          obtain ⟨q9, hq9, hf⟩ := nv_bd hf
          refine nv_cVi (tc_reasonIn G h ((59 + 3 * x1.toNatClampNeg) + 2) (nv_o3w (nv_o3 g4)) (37 + x2.toNatClampNeg) (nv_o2 g8) 0 hq9) dX6_bound_66 lm_X6_245 y_qX6_reasonIn ko_0 rfl rfl (by decide) rfl (Nat.le_of_ble_eq_true rfl) ?_
          obtain rfl := Option.some.inj hf
          exact nv_ireturnI dX6_bound_69 rfl
      · replace hf := nv_in c3 hf
        refine nv_k dX6_bound_22 ?_
        obtain rfl := Option.some.inj hf
        exact nv_ireturnI dX6_bound_24 rfl
    · replace hf := nv_in c2 hf
      refine nv_k dX6_bound_22 ?_
      obtain rfl := Option.some.inj hf
      exact nv_ireturnI dX6_bound_24 rfl
  · replace hf := nv_in c1 hf
    refine nv_k dX6_bound_22 ?_
    obtain rfl := Option.some.inj hf
    exact nv_ireturnI dX6_bound_24 rfl
/-! WhoseName.till -/
theorem dX6_till_0 : nv_diload qX6_till 0 1 1 := Or.inr ⟨1, rfl, by decide +kernel, rfl⟩
theorem dX6_till_1 : nv_dc qX6_till 1 (.invokestatic 217) 3 4 := ⟨by decide +kernel, rfl⟩
theorem dX6_till_4 : nv_dif qX6_till 4 .eq 15 7 := ⟨11, by decide +kernel, by decide, rfl⟩
theorem dX6_till_7 : nv_daload qX6_till 7 0 8 := Or.inr ⟨0, rfl, by decide +kernel, rfl⟩
theorem dX6_till_8 : nv_diload qX6_till 8 2 9 := Or.inr ⟨2, rfl, by decide +kernel, rfl⟩
theorem dX6_till_9 : nv_dc qX6_till 9 (.invokevirtual 201) 3 12 := ⟨by decide +kernel, rfl⟩
theorem dX6_till_12 : nv_dif qX6_till 12 .ne 18 15 := ⟨6, by decide +kernel, by decide, rfl⟩
theorem dX6_till_15 : nv_dk qX6_till 15 (-2) 17 := Or.inr (Or.inl ⟨(-2), ⟨by decide +kernel, rfl⟩, by decide⟩)
theorem dX6_till_17 : decode qX6_till.2.1 17 = .ok (.ireturn, 1) := by decide +kernel
theorem dX6_till_18 : nv_daload qX6_till 18 0 19 := Or.inr ⟨0, rfl, by decide +kernel, rfl⟩
theorem dX6_till_19 : nv_dc qX6_till 19 (.getfield 27) 3 22 := ⟨by decide +kernel, rfl⟩
theorem dX6_till_22 : nv_diload qX6_till 22 2 23 := Or.inr ⟨2, rfl, by decide +kernel, rfl⟩
theorem dX6_till_23 : nv_dc qX6_till 23 (.aaload) 1 24 := ⟨by decide +kernel, rfl⟩
theorem dX6_till_24 : nv_dc qX6_till 24 (.invokevirtual 248) 3 27 := ⟨by decide +kernel, rfl⟩
theorem dX6_till_27 : nv_dif qX6_till 27 .ne 33 30 := ⟨6, by decide +kernel, by decide, rfl⟩
theorem dX6_till_30 : nv_dk qX6_till 30 (-3) 32 := Or.inr (Or.inl ⟨(-3), ⟨by decide +kernel, rfl⟩, by decide⟩)
theorem dX6_till_32 : decode qX6_till.2.1 32 = .ok (.ireturn, 1) := by decide +kernel
theorem dX6_till_33 : nv_dk qX6_till 33 99 35 := Or.inr (Or.inl ⟨99, ⟨by decide +kernel, rfl⟩, by decide⟩)
theorem dX6_till_35 : nv_daload qX6_till 35 0 36 := Or.inr ⟨0, rfl, by decide +kernel, rfl⟩
theorem dX6_till_36 : nv_dc qX6_till 36 (.getfield 27) 3 39 := ⟨by decide +kernel, rfl⟩
theorem dX6_till_39 : nv_diload qX6_till 39 2 40 := Or.inr ⟨2, rfl, by decide +kernel, rfl⟩
theorem dX6_till_40 : nv_dc qX6_till 40 (.aaload) 1 41 := ⟨by decide +kernel, rfl⟩
theorem dX6_till_41 : nv_dc qX6_till 41 (.getfield 177) 3 44 := ⟨by decide +kernel, rfl⟩
theorem dX6_till_44 : nv_daload qX6_till 44 0 45 := Or.inr ⟨0, rfl, by decide +kernel, rfl⟩
theorem dX6_till_45 : nv_dc qX6_till 45 (.getfield 39) 3 48 := ⟨by decide +kernel, rfl⟩
theorem dX6_till_48 : nv_diload qX6_till 48 1 49 := Or.inr ⟨1, rfl, by decide +kernel, rfl⟩
theorem dX6_till_49 : nv_dc qX6_till 49 (.aaload) 1 50 := ⟨by decide +kernel, rfl⟩
theorem dX6_till_50 : nv_dc qX6_till 50 (.getfield 231) 3 53 := ⟨by decide +kernel, rfl⟩
theorem dX6_till_53 : nv_dk qX6_till 53 4 54 := Or.inl ⟨4, ⟨by decide +kernel, rfl⟩, by decide⟩
theorem dX6_till_54 : nv_dc qX6_till 54 (.iaload) 1 55 := ⟨by decide +kernel, rfl⟩
theorem dX6_till_55 : nv_dc qX6_till 55 (.iadd) 1 56 := ⟨by decide +kernel, rfl⟩
theorem dX6_till_56 : nv_dc qX6_till 56 (.invokestatic 252) 3 59 := ⟨by decide +kernel, rfl⟩
theorem dX6_till_59 : decode qX6_till.2.1 59 = .ok (.ireturn, 1) := by decide +kernel
def fc_till (h : nv_Hp) (x1 : Int32) (x2 : Int32) : Option (Int32) := (if (fc_isLaw x1) = true then (if (fc_isBargain h x2) = true then (if nv_inb x2 10 = true then (if (fb_isForAnother h (37 + x2.toNatClampNeg)) = true then (if nv_inb x1 2 = true then some (fj_min 99 ((h (37 + x2.toNatClampNeg) 6) + (h ((59 + 3 * x1.toNatClampNeg) + 2) 4))) else none) else some (-3)) else none) else some (-2)) else some (-2))
set_option maxHeartbeats 2000000 in
theorem tc_till (G : nv_G) (h : nv_Hp) (x1 : Int32) (x2 : Int32) {r : Int32} (hf : (fc_till h x1 x2) = some r) : nv_Mt G 2 qX6_till [.ref 0, .int x1, .int x2] (nv_s h) (some (.int r), nv_s h) := by
  refine nv_of (by decide +kernel) (fun ad => Nat.le_of_ble_eq_true rfl) (Nat.le_refl _) (Nat.le_of_ble_eq_true rfl) ?_
  show nv_E G 2 qX6_till 0 [some (.ref 0), some (.int x1), some (.int x2)] [] (nv_s h) (some (.int r), nv_s h)
  unfold fc_till at hf
  refine nv_iL dX6_till_0 rfl ?_
  refine nv_cSi (tc_isLaw G h x1) dX6_till_1 lm_X6_217 y_qX6_isLaw rfl (by decide) rfl (Nat.le_of_ble_eq_true rfl) ?_
  refine nv_ifeqB dX6_till_4 (fun c1 => ?_) (fun c1 => ?_)
  · replace hf := nv_ip c1 hf
    refine nv_aL dX6_till_7 rfl ?_
    refine nv_iL dX6_till_8 rfl ?_
    refine nv_cVi (tc_isBargain G h x2) dX6_till_9 lm_X6_201 y_qX6_isBargain ko_0 rfl rfl (by decide) rfl (Nat.le_of_ble_eq_true rfl) ?_
    refine nv_ifneB dX6_till_12 (fun c2 => ?_) (fun c2 => ?_)
    · replace hf := nv_ip c2 hf
      refine nv_aL dX6_till_18 rfl ?_
      refine nv_tR lf_X6_27 dX6_till_19 ko_0 rfl ?_
      refine nv_iL dX6_till_22 rfl ?_
      obtain ⟨g3, hf⟩ := nv_gd hf
      refine nv_aR dX6_till_23 kr_4 ⟨_, rfl⟩ g3 (nv_q1 _ _) ?_
      refine nv_cVi (tb_isForAnother G h (37 + x2.toNatClampNeg) (nv_o2 g3)) dX6_till_24 lm_X6_248 y_qX2_isForAnother (nv_o2 g3) rfl rfl (by decide) rfl (Nat.le_of_ble_eq_true rfl) ?_
      refine nv_ifneB dX6_till_27 (fun c4 => ?_) (fun c4 => ?_)
      · replace hf := nv_ip c4 hf
        refine nv_k dX6_till_33 ?_
        refine nv_aL dX6_till_35 rfl ?_
        refine nv_tR lf_X6_27 dX6_till_36 ko_0 rfl ?_
        refine nv_iL dX6_till_39 rfl ?_
        refine nv_aR dX6_till_40 kr_4 ⟨_, rfl⟩ g3 (nv_q1 _ _) ?_
        refine nv_gI lf_X6_177 dX6_till_41 (nv_o2 g3) rfl ?_
        refine nv_aL dX6_till_44 rfl ?_
        refine nv_tR lf_X6_39 dX6_till_45 ko_0 rfl ?_
        refine nv_iL dX6_till_48 rfl ?_
        obtain ⟨g5, hf⟩ := nv_gd hf
        refine nv_aR dX6_till_49 kr_6 ⟨_, rfl⟩ g5 rfl ?_
        refine nv_gR (t := ((59 + 3 * x1.toNatClampNeg) + 2)) lf_X6_231 dX6_till_50 (nv_o3 g5) rfl ?_
        refine nv_k dX6_till_53 ?_
        refine nv_aI dX6_till_54 (nv_o3w (nv_o3 g5)) (by decide) (j := 4) (by decide) ?_
        refine nv_iadd dX6_till_55 ?_
        refine nv_mmin dX6_till_56 lmin_X6 (by decide) (Nat.le_of_ble_eq_true rfl) ?_
        obtain rfl := Option.some.inj hf
        exact nv_ireturnI dX6_till_59 rfl
      · replace hf := nv_in c4 hf
        refine nv_k dX6_till_30 ?_
        obtain rfl := Option.some.inj hf
        exact nv_ireturnI dX6_till_32 rfl
    · replace hf := nv_in c2 hf
      refine nv_k dX6_till_15 ?_
      obtain rfl := Option.some.inj hf
      exact nv_ireturnI dX6_till_17 rfl
  · replace hf := nv_in c1 hf
    refine nv_k dX6_till_15 ?_
    obtain rfl := Option.some.inj hf
    exact nv_ireturnI dX6_till_17 rfl
/-! WhoseName.askOf -/
theorem dX6_askOf_0 : nv_diload qX6_askOf 0 2 1 := Or.inr ⟨2, rfl, by decide +kernel, rfl⟩
theorem dX6_askOf_1 : nv_diload qX6_askOf 1 3 2 := Or.inr ⟨3, rfl, by decide +kernel, rfl⟩
theorem dX6_askOf_2 : nv_dc qX6_askOf 2 (.invokestatic 265) 3 5 := ⟨by decide +kernel, rfl⟩
theorem dX6_askOf_5 : nv_dif qX6_askOf 5 .eq 13 8 := ⟨8, by decide +kernel, by decide, rfl⟩
theorem dX6_askOf_8 : nv_daload qX6_askOf 8 1 9 := Or.inr ⟨1, rfl, by decide +kernel, rfl⟩
theorem dX6_askOf_9 : nv_dc qX6_askOf 9 (.getfield 174) 3 12 := ⟨by decide +kernel, rfl⟩
theorem dX6_askOf_12 : decode qX6_askOf.2.1 12 = .ok (.ireturn, 1) := by decide +kernel
theorem dX6_askOf_13 : nv_diload qX6_askOf 13 2 14 := Or.inr ⟨2, rfl, by decide +kernel, rfl⟩
theorem dX6_askOf_14 : nv_dif qX6_askOf 14 .ne 25 17 := ⟨11, by decide +kernel, by decide, rfl⟩
theorem dX6_askOf_17 : nv_diload qX6_askOf 17 3 18 := Or.inr ⟨3, rfl, by decide +kernel, rfl⟩
theorem dX6_askOf_18 : nv_daload qX6_askOf 18 1 19 := Or.inr ⟨1, rfl, by decide +kernel, rfl⟩
theorem dX6_askOf_19 : nv_dc qX6_askOf 19 (.getfield 162) 3 22 := ⟨by decide +kernel, rfl⟩
theorem dX6_askOf_22 : nv_dic qX6_askOf 22 .eq 27 25 := ⟨5, by decide +kernel, by decide, rfl⟩
theorem dX6_askOf_25 : nv_dk qX6_askOf 25 0 26 := Or.inl ⟨0, ⟨by decide +kernel, rfl⟩, by decide⟩
theorem dX6_askOf_26 : decode qX6_askOf.2.1 26 = .ok (.ireturn, 1) := by decide +kernel
theorem dX6_askOf_27 : nv_daload qX6_askOf 27 0 28 := Or.inr ⟨0, rfl, by decide +kernel, rfl⟩
theorem dX6_askOf_28 : nv_dk qX6_askOf 28 7 30 := Or.inr (Or.inl ⟨7, ⟨by decide +kernel, rfl⟩, by decide⟩)
theorem dX6_askOf_30 : nv_dc qX6_askOf 30 (.iaload) 1 31 := ⟨by decide +kernel, rfl⟩
theorem dX6_askOf_31 : decode qX6_askOf.2.1 31 = .ok (.lookupswitch 32 #[(0, 25), (1, 27)], 25) := by decide +kernel
theorem swX6_askOf_31_0 (x : Int32) (hx : x = 0) : nv_dsw qX6_askOf 31 x 56 := by subst hx; exact Or.inr ⟨_, _, _, 25, dX6_askOf_31, by decide, by decide, by decide⟩
theorem swX6_askOf_31_1 (x : Int32) (hx : x = 1) : nv_dsw qX6_askOf 31 x 58 := by subst hx; exact Or.inr ⟨_, _, _, 27, dX6_askOf_31, by decide, by decide, by decide⟩
theorem swX6_askOf_31_d (x : Int32) (c0 : ¬ x = 0) (c1 : ¬ x = 1) : nv_dsw qX6_askOf 31 x 63 := by
  have g0 : x.toInt ≠ 0 := fun e => c0 (Int32.toInt_inj.mp (e.trans (by decide)))
  have g1 : x.toInt ≠ 1 := fun e => c1 (Int32.toInt_inj.mp (e.trans (by decide)))
  exact Or.inr ⟨_, _, _, 32, dX6_askOf_31, by decide, by simp [Op.lookupswitch.offset, g0, Ne.symm g0, g1, Ne.symm g1], by decide⟩
theorem dX6_askOf_56 : nv_dk qX6_askOf 56 0 57 := Or.inl ⟨0, ⟨by decide +kernel, rfl⟩, by decide⟩
theorem dX6_askOf_57 : decode qX6_askOf.2.1 57 = .ok (.ireturn, 1) := by decide +kernel
theorem dX6_askOf_58 : nv_daload qX6_askOf 58 1 59 := Or.inr ⟨1, rfl, by decide +kernel, rfl⟩
theorem dX6_askOf_59 : nv_dc qX6_askOf 59 (.getfield 174) 3 62 := ⟨by decide +kernel, rfl⟩
theorem dX6_askOf_62 : decode qX6_askOf.2.1 62 = .ok (.ireturn, 1) := by decide +kernel
theorem dX6_askOf_63 : nv_daload qX6_askOf 63 1 64 := Or.inr ⟨1, rfl, by decide +kernel, rfl⟩
theorem dX6_askOf_64 : nv_dc qX6_askOf 64 (.getfield 174) 3 67 := ⟨by decide +kernel, rfl⟩
theorem dX6_askOf_67 : nv_daload qX6_askOf 67 1 68 := Or.inr ⟨1, rfl, by decide +kernel, rfl⟩
theorem dX6_askOf_68 : nv_dc qX6_askOf 68 (.getfield 174) 3 71 := ⟨by decide +kernel, rfl⟩
theorem dX6_askOf_71 : nv_dk qX6_askOf 71 10 73 := Or.inr (Or.inl ⟨10, ⟨by decide +kernel, rfl⟩, by decide⟩)
theorem dX6_askOf_73 : nv_dc qX6_askOf 73 (.idiv) 1 74 := ⟨by decide +kernel, rfl⟩
theorem dX6_askOf_74 : nv_dc qX6_askOf 74 (.iadd) 1 75 := ⟨by decide +kernel, rfl⟩
theorem dX6_askOf_75 : decode qX6_askOf.2.1 75 = .ok (.ireturn, 1) := by decide +kernel
def fc_askOf (h : nv_Hp) (k0 : Nat) (k1 : Nat) (x2 : Int32) (x3 : Int32) : Int32 := (if (fc_hasBit x2 x3) = true then (h k1 5) else (if x2 = 0 then (if x3 = (h k1 1) then (nv_lt ((h k0 7)) fun v4 => (if v4 = 0 then 0 else (if v4 = 1 then (h k1 5) else ((h k1 5) + ((h k1 5) / 10))))) else 0) else 0))
set_option maxHeartbeats 2000000 in
theorem tc_askOf (G : nv_G) (h : nv_Hp) (k0 : Nat) (hk0 : nv_A 9 k0) (k1 : Nat) (hk1 : nv_O 2 k1) (x2 : Int32) (x3 : Int32) : nv_Mt G 1 qX6_askOf [.ref k0, .ref k1, .int x2, .int x3] (nv_s h) (some (.int (fc_askOf h k0 k1 x2 x3)), nv_s h) := by
  refine nv_of (by decide +kernel) (fun ad => Nat.le_of_ble_eq_true rfl) (Nat.le_refl _) (Nat.le_of_ble_eq_true rfl) ?_
  show nv_E G 1 qX6_askOf 0 [some (.ref k0), some (.ref k1), some (.int x2), some (.int x3)] [] (nv_s h) (some (.int (fc_askOf h k0 k1 x2 x3)), nv_s h)
  generalize hf : (fc_askOf h k0 k1 x2 x3) = r
  unfold fc_askOf at hf
  refine nv_iL dX6_askOf_0 rfl ?_
  refine nv_iL dX6_askOf_1 rfl ?_
  refine nv_cSi (tc_hasBit G h x2 x3) dX6_askOf_2 lm_X6_265 y_qX6_hasBit rfl (by decide) rfl (Nat.le_of_ble_eq_true rfl) ?_
  refine nv_ifeqB dX6_askOf_5 (fun c1 => ?_) (fun c1 => ?_)
  · replace hf := nv_ip c1 hf
    refine nv_aL dX6_askOf_8 rfl ?_
    refine nv_gI lf_X6_174 dX6_askOf_9 hk1 rfl ?_
    subst hf
    exact nv_ireturnI dX6_askOf_12 rfl
  · replace hf := nv_in c1 hf
    refine nv_iL dX6_askOf_13 rfl ?_
    refine nv_ifne dX6_askOf_14 (fun c2 => ?_) (fun c2 => ?_)
    · replace hf := nv_ip c2 hf
      refine nv_iL dX6_askOf_17 rfl ?_
      refine nv_aL dX6_askOf_18 rfl ?_
      refine nv_gI lf_X6_162 dX6_askOf_19 hk1 rfl ?_
      refine nv_iceq dX6_askOf_22 (fun c3 => ?_) (fun c3 => ?_)
      · replace hf := nv_ip c3 hf
        refine nv_aL dX6_askOf_27 rfl ?_
        refine nv_k dX6_askOf_28 ?_
        refine nv_aI dX6_askOf_30 hk0 (by decide) (j := 7) (by decide) ?_
        obtain ⟨v4, ev4, hf⟩ := nv_ltX hf
        rw [ev4]
        clear ev4
        by_cases c5 : v4 = 0
        · replace hf := nv_ip c5 hf
          refine nv_switch (tgt := 56) (swX6_askOf_31_0 _ c5) ?_
          refine nv_k dX6_askOf_56 ?_
          subst hf
          exact nv_ireturnI dX6_askOf_57 rfl
        · replace hf := nv_in c5 hf
          by_cases c6 : v4 = 1
          · replace hf := nv_ip c6 hf
            refine nv_switch (tgt := 58) (swX6_askOf_31_1 _ c6) ?_
            refine nv_aL dX6_askOf_58 rfl ?_
            refine nv_gI lf_X6_174 dX6_askOf_59 hk1 rfl ?_
            subst hf
            exact nv_ireturnI dX6_askOf_62 rfl
          · replace hf := nv_in c6 hf
            refine nv_switch (tgt := 63) (swX6_askOf_31_d _ c5 c6) ?_
            refine nv_aL dX6_askOf_63 rfl ?_
            refine nv_gI lf_X6_174 dX6_askOf_64 hk1 rfl ?_
            refine nv_aL dX6_askOf_67 rfl ?_
            refine nv_gI lf_X6_174 dX6_askOf_68 hk1 rfl ?_
            refine nv_k dX6_askOf_71 ?_
            refine nv_idiv dX6_askOf_73 (by decide) ?_
            refine nv_iadd dX6_askOf_74 ?_
            subst hf
            exact nv_ireturnI dX6_askOf_75 rfl
      · replace hf := nv_in c3 hf
        refine nv_k dX6_askOf_25 ?_
        subst hf
        exact nv_ireturnI dX6_askOf_26 rfl
    · replace hf := nv_in c2 hf
      refine nv_k dX6_askOf_25 ?_
      subst hf
      exact nv_ireturnI dX6_askOf_26 rfl
/-! WhoseName.ask -/
theorem dX6_ask_0 : nv_diload qX6_ask 0 1 1 := Or.inr ⟨1, rfl, by decide +kernel, rfl⟩
theorem dX6_ask_1 : nv_dc qX6_ask 1 (.invokestatic 217) 3 4 := ⟨by decide +kernel, rfl⟩
theorem dX6_ask_4 : nv_dif qX6_ask 4 .eq 22 7 := ⟨18, by decide +kernel, by decide, rfl⟩
theorem dX6_ask_7 : nv_daload qX6_ask 7 0 8 := Or.inr ⟨0, rfl, by decide +kernel, rfl⟩
theorem dX6_ask_8 : nv_diload qX6_ask 8 2 9 := Or.inr ⟨2, rfl, by decide +kernel, rfl⟩
theorem dX6_ask_9 : nv_dc qX6_ask 9 (.invokevirtual 201) 3 12 := ⟨by decide +kernel, rfl⟩
theorem dX6_ask_12 : nv_dif qX6_ask 12 .eq 22 15 := ⟨10, by decide +kernel, by decide, rfl⟩
theorem dX6_ask_15 : nv_diload qX6_ask 15 3 16 := Or.inr ⟨3, rfl, by decide +kernel, rfl⟩
theorem dX6_ask_16 : nv_dc qX6_ask 16 (.invokestatic 70) 3 19 := ⟨by decide +kernel, rfl⟩
theorem dX6_ask_19 : nv_dif qX6_ask 19 .ne 25 22 := ⟨6, by decide +kernel, by decide, rfl⟩
theorem dX6_ask_22 : nv_dk qX6_ask 22 (-2) 24 := Or.inr (Or.inl ⟨(-2), ⟨by decide +kernel, rfl⟩, by decide⟩)
theorem dX6_ask_24 : decode qX6_ask.2.1 24 = .ok (.ireturn, 1) := by decide +kernel
theorem dX6_ask_25 : nv_daload qX6_ask 25 0 26 := Or.inr ⟨0, rfl, by decide +kernel, rfl⟩
theorem dX6_ask_26 : nv_dc qX6_ask 26 (.getfield 39) 3 29 := ⟨by decide +kernel, rfl⟩
theorem dX6_ask_29 : nv_diload qX6_ask 29 1 30 := Or.inr ⟨1, rfl, by decide +kernel, rfl⟩
theorem dX6_ask_30 : nv_dc qX6_ask 30 (.aaload) 1 31 := ⟨by decide +kernel, rfl⟩
theorem dX6_ask_31 : nv_dc qX6_ask 31 (.getfield 231) 3 34 := ⟨by decide +kernel, rfl⟩
theorem dX6_ask_34 : nv_dastore qX6_ask 34 4 36 := Or.inl ⟨by decide +kernel, rfl⟩
theorem dX6_ask_36 : nv_daload qX6_ask 36 0 37 := Or.inr ⟨0, rfl, by decide +kernel, rfl⟩
theorem dX6_ask_37 : nv_dc qX6_ask 37 (.getfield 27) 3 40 := ⟨by decide +kernel, rfl⟩
theorem dX6_ask_40 : nv_diload qX6_ask 40 2 41 := Or.inr ⟨2, rfl, by decide +kernel, rfl⟩
theorem dX6_ask_41 : nv_dc qX6_ask 41 (.aaload) 1 42 := ⟨by decide +kernel, rfl⟩
theorem dX6_ask_42 : nv_dastore qX6_ask 42 5 44 := Or.inl ⟨by decide +kernel, rfl⟩
theorem dX6_ask_44 : nv_daload qX6_ask 44 4 46 := Or.inl ⟨by decide +kernel, rfl⟩
theorem dX6_ask_46 : nv_daload qX6_ask 46 5 48 := Or.inl ⟨by decide +kernel, rfl⟩
theorem dX6_ask_48 : nv_daload qX6_ask 48 0 49 := Or.inr ⟨0, rfl, by decide +kernel, rfl⟩
theorem dX6_ask_49 : nv_daload qX6_ask 49 4 51 := Or.inl ⟨by decide +kernel, rfl⟩
theorem dX6_ask_51 : nv_daload qX6_ask 51 5 53 := Or.inl ⟨by decide +kernel, rfl⟩
theorem dX6_ask_53 : nv_dk qX6_ask 53 0 54 := Or.inl ⟨0, ⟨by decide +kernel, rfl⟩, by decide⟩
theorem dX6_ask_54 : nv_dc qX6_ask 54 (.invokevirtual 241) 3 57 := ⟨by decide +kernel, rfl⟩
theorem dX6_ask_57 : nv_diload qX6_ask 57 3 58 := Or.inr ⟨3, rfl, by decide +kernel, rfl⟩
theorem dX6_ask_58 : nv_dc qX6_ask 58 (.invokestatic 299) 3 61 := ⟨by decide +kernel, rfl⟩
theorem dX6_ask_61 : decode qX6_ask.2.1 61 = .ok (.ireturn, 1) := by decide +kernel
def fc_ask (h : nv_Hp) (x1 : Int32) (x2 : Int32) (x3 : Int32) : Option (Int32) := (if (fc_isLaw x1) = true then (if (fc_isBargain h x2) = true then (if (fc_isPerson x3) = true then (if nv_inb x1 2 = true then (if nv_inb x2 10 = true then (Option.bind (fc_boundBits h ((59 + 3 * x1.toNatClampNeg) + 2) (37 + x2.toNatClampNeg) 0) fun q6 => some (fc_askOf h ((59 + 3 * x1.toNatClampNeg) + 2) (37 + x2.toNatClampNeg) q6 x3)) else none) else none) else some (-2)) else some (-2)) else some (-2))
set_option maxHeartbeats 2000000 in
theorem tc_ask (G : nv_G) (h : nv_Hp) (x1 : Int32) (x2 : Int32) (x3 : Int32) {r : Int32} (hf : (fc_ask h x1 x2 x3) = some r) : nv_Mt G 5 qX6_ask [.ref 0, .int x1, .int x2, .int x3] (nv_s h) (some (.int r), nv_s h) := by
  refine nv_of (by decide +kernel) (fun ad => Nat.le_of_ble_eq_true rfl) (Nat.le_refl _) (Nat.le_of_ble_eq_true rfl) ?_
  show nv_E G 5 qX6_ask 0 [some (.ref 0), some (.int x1), some (.int x2), some (.int x3), none, none] [] (nv_s h) (some (.int r), nv_s h)
  unfold fc_ask at hf
  refine nv_iL dX6_ask_0 rfl ?_
  refine nv_cSi (tc_isLaw G h x1) dX6_ask_1 lm_X6_217 y_qX6_isLaw rfl (by decide) rfl (Nat.le_of_ble_eq_true rfl) ?_
  refine nv_ifeqB dX6_ask_4 (fun c1 => ?_) (fun c1 => ?_)
  · replace hf := nv_ip c1 hf
    refine nv_aL dX6_ask_7 rfl ?_
    refine nv_iL dX6_ask_8 rfl ?_
    refine nv_cVi (tc_isBargain G h x2) dX6_ask_9 lm_X6_201 y_qX6_isBargain ko_0 rfl rfl (by decide) rfl (Nat.le_of_ble_eq_true rfl) ?_
    refine nv_ifeqB dX6_ask_12 (fun c2 => ?_) (fun c2 => ?_)
    · replace hf := nv_ip c2 hf
      refine nv_iL dX6_ask_15 rfl ?_
      refine nv_cSi (tc_isPerson G h x3) dX6_ask_16 lm_X6_70 y_qX6_isPerson rfl (by decide) rfl (Nat.le_of_ble_eq_true rfl) ?_
      refine nv_ifneB dX6_ask_19 (fun c3 => ?_) (fun c3 => ?_)
      · replace hf := nv_ip c3 hf
        refine nv_aL dX6_ask_25 rfl ?_
        refine nv_tR lf_X6_39 dX6_ask_26 ko_0 rfl ?_
        refine nv_iL dX6_ask_29 rfl ?_
        obtain ⟨g4, hf⟩ := nv_gd hf
        refine nv_aR dX6_ask_30 kr_6 ⟨_, rfl⟩ g4 rfl ?_
        refine nv_gR (t := ((59 + 3 * x1.toNatClampNeg) + 2)) lf_X6_231 dX6_ask_31 (nv_o3 g4) rfl ?_
        refine nv_aS dX6_ask_34 (by decide) rfl rfl ?_
        refine nv_aL dX6_ask_36 rfl ?_
        refine nv_tR lf_X6_27 dX6_ask_37 ko_0 rfl ?_
        refine nv_iL dX6_ask_40 rfl ?_
        obtain ⟨g5, hf⟩ := nv_gd hf
        refine nv_aR dX6_ask_41 kr_4 ⟨_, rfl⟩ g5 (nv_q1 _ _) ?_
        refine nv_aS dX6_ask_42 (by decide) rfl rfl ?_
        refine nv_aL dX6_ask_44 rfl ?_
        refine nv_aL dX6_ask_46 rfl ?_
        refine nv_aL dX6_ask_48 rfl ?_
        refine nv_aL dX6_ask_49 rfl ?_
        refine nv_aL dX6_ask_51 rfl ?_
        refine nv_k dX6_ask_53 ?_
        obtain ⟨q6, hq6, hf⟩ := nv_bd hf
        refine nv_cVi (tc_boundBits G h ((59 + 3 * x1.toNatClampNeg) + 2) (nv_o3w (nv_o3 g4)) (37 + x2.toNatClampNeg) (nv_o2 g5) 0 hq6) dX6_ask_54 lm_X6_241 y_qX6_boundBits ko_0 rfl rfl (by decide) rfl (Nat.le_of_ble_eq_true rfl) ?_
        refine nv_iL dX6_ask_57 rfl ?_
        refine nv_cSi (tc_askOf G h ((59 + 3 * x1.toNatClampNeg) + 2) (nv_o3w (nv_o3 g4)) (37 + x2.toNatClampNeg) (nv_o2 g5) q6 x3) dX6_ask_58 lm_X6_299 y_qX6_askOf rfl (by decide) rfl (Nat.le_of_ble_eq_true rfl) ?_
        obtain rfl := Option.some.inj hf
        exact nv_ireturnI dX6_ask_61 rfl
      · replace hf := nv_in c3 hf
        refine nv_k dX6_ask_22 ?_
        obtain rfl := Option.some.inj hf
        exact nv_ireturnI dX6_ask_24 rfl
    · replace hf := nv_in c2 hf
      refine nv_k dX6_ask_22 ?_
      obtain rfl := Option.some.inj hf
      exact nv_ireturnI dX6_ask_24 rfl
  · replace hf := nv_in c1 hf
    refine nv_k dX6_ask_22 ?_
    obtain rfl := Option.some.inj hf
    exact nv_ireturnI dX6_ask_24 rfl
/-! WhoseName.owedBy -/
theorem dX6_owedBy_0 : nv_daload qX6_owedBy 0 0 1 := Or.inr ⟨0, rfl, by decide +kernel, rfl⟩
theorem dX6_owedBy_1 : nv_daload qX6_owedBy 1 1 2 := Or.inr ⟨1, rfl, by decide +kernel, rfl⟩
theorem dX6_owedBy_2 : nv_daload qX6_owedBy 2 2 3 := Or.inr ⟨2, rfl, by decide +kernel, rfl⟩
theorem dX6_owedBy_3 : nv_diload qX6_owedBy 3 3 4 := Or.inr ⟨3, rfl, by decide +kernel, rfl⟩
theorem dX6_owedBy_4 : nv_dc qX6_owedBy 4 (.invokevirtual 296) 3 7 := ⟨by decide +kernel, rfl⟩
theorem dX6_owedBy_7 : nv_distore qX6_owedBy 7 4 9 := Or.inl ⟨by decide +kernel, rfl⟩
theorem dX6_owedBy_9 : nv_daload qX6_owedBy 9 0 10 := Or.inr ⟨0, rfl, by decide +kernel, rfl⟩
theorem dX6_owedBy_10 : nv_diload qX6_owedBy 10 3 11 := Or.inr ⟨3, rfl, by decide +kernel, rfl⟩
theorem dX6_owedBy_11 : nv_dc qX6_owedBy 11 (.invokevirtual 114) 3 14 := ⟨by decide +kernel, rfl⟩
theorem dX6_owedBy_14 : nv_dif qX6_owedBy 14 .eq 31 17 := ⟨17, by decide +kernel, by decide, rfl⟩
theorem dX6_owedBy_17 : nv_diload qX6_owedBy 17 4 19 := Or.inl ⟨by decide +kernel, rfl⟩
theorem dX6_owedBy_19 : nv_dk qX6_owedBy 19 1 20 := Or.inl ⟨1, ⟨by decide +kernel, rfl⟩, by decide⟩
theorem dX6_owedBy_20 : nv_daload qX6_owedBy 20 2 21 := Or.inr ⟨2, rfl, by decide +kernel, rfl⟩
theorem dX6_owedBy_21 : nv_dc qX6_owedBy 21 (.getfield 162) 3 24 := ⟨by decide +kernel, rfl⟩
theorem dX6_owedBy_24 : nv_dc qX6_owedBy 24 (.ishl) 1 25 := ⟨by decide +kernel, rfl⟩
theorem dX6_owedBy_25 : nv_dk qX6_owedBy 25 (-1) 26 := Or.inl ⟨(-1), ⟨by decide +kernel, rfl⟩, by decide⟩
theorem dX6_owedBy_26 : nv_dc qX6_owedBy 26 (.ixor) 1 27 := ⟨by decide +kernel, rfl⟩
theorem dX6_owedBy_27 : nv_dc qX6_owedBy 27 (.iand) 1 28 := ⟨by decide +kernel, rfl⟩
theorem dX6_owedBy_28 : nv_dif qX6_owedBy 28 .ne 33 31 := ⟨5, by decide +kernel, by decide, rfl⟩
theorem dX6_owedBy_31 : nv_dk qX6_owedBy 31 0 32 := Or.inl ⟨0, ⟨by decide +kernel, rfl⟩, by decide⟩
theorem dX6_owedBy_32 : decode qX6_owedBy.2.1 32 = .ok (.ireturn, 1) := by decide +kernel
theorem dX6_owedBy_33 : nv_daload qX6_owedBy 33 0 34 := Or.inr ⟨0, rfl, by decide +kernel, rfl⟩
theorem dX6_owedBy_34 : nv_dc qX6_owedBy 34 (.getfield 15) 3 37 := ⟨by decide +kernel, rfl⟩
theorem dX6_owedBy_37 : nv_diload qX6_owedBy 37 3 38 := Or.inr ⟨3, rfl, by decide +kernel, rfl⟩
theorem dX6_owedBy_38 : nv_dc qX6_owedBy 38 (.aaload) 1 39 := ⟨by decide +kernel, rfl⟩
theorem dX6_owedBy_39 : nv_dastore qX6_owedBy 39 5 41 := Or.inl ⟨by decide +kernel, rfl⟩
theorem dX6_owedBy_41 : nv_daload qX6_owedBy 41 5 43 := Or.inl ⟨by decide +kernel, rfl⟩
theorem dX6_owedBy_43 : nv_dc qX6_owedBy 43 (.getfield 89) 3 46 := ⟨by decide +kernel, rfl⟩
theorem dX6_owedBy_46 : nv_dk qX6_owedBy 46 2 47 := Or.inl ⟨2, ⟨by decide +kernel, rfl⟩, by decide⟩
theorem dX6_owedBy_47 : nv_dic qX6_owedBy 47 .ne 55 50 := ⟨8, by decide +kernel, by decide, rfl⟩
theorem dX6_owedBy_50 : nv_daload qX6_owedBy 50 2 51 := Or.inr ⟨2, rfl, by decide +kernel, rfl⟩
theorem dX6_owedBy_51 : nv_dc qX6_owedBy 51 (.getfield 174) 3 54 := ⟨by decide +kernel, rfl⟩
theorem dX6_owedBy_54 : decode qX6_owedBy.2.1 54 = .ok (.ireturn, 1) := by decide +kernel
theorem dX6_owedBy_55 : nv_dk qX6_owedBy 55 0 56 := Or.inl ⟨0, ⟨by decide +kernel, rfl⟩, by decide⟩
theorem dX6_owedBy_56 : nv_daload qX6_owedBy 56 2 57 := Or.inr ⟨2, rfl, by decide +kernel, rfl⟩
theorem dX6_owedBy_57 : nv_dc qX6_owedBy 57 (.getfield 174) 3 60 := ⟨by decide +kernel, rfl⟩
theorem dX6_owedBy_60 : nv_daload qX6_owedBy 60 1 61 := Or.inr ⟨1, rfl, by decide +kernel, rfl⟩
theorem dX6_owedBy_61 : nv_daload qX6_owedBy 61 5 63 := Or.inl ⟨by decide +kernel, rfl⟩
theorem dX6_owedBy_63 : nv_dc qX6_owedBy 63 (.invokestatic 269) 3 66 := ⟨by decide +kernel, rfl⟩
theorem dX6_owedBy_66 : nv_dc qX6_owedBy 66 (.isub) 1 67 := ⟨by decide +kernel, rfl⟩
theorem dX6_owedBy_67 : nv_dc qX6_owedBy 67 (.invokestatic 310) 3 70 := ⟨by decide +kernel, rfl⟩
theorem dX6_owedBy_70 : decode qX6_owedBy.2.1 70 = .ok (.ireturn, 1) := by decide +kernel
def fc_owedBy (h : nv_Hp) (k1 : Nat) (k2 : Nat) (x3 : Int32) : Option (Int32) := (Option.bind (fc_bitsOfReason h k1 k2 x3) fun q1 => (if (fc_isLeave h x3) = true then (if (q1 &&& ((1 <<< ((h k2 1) &&& 31)) ^^^ (-1))) = 0 then some 0 else (if nv_inb x3 12 = true then (if (h (13 + x3.toNatClampNeg) 0) = 2 then some (h k2 5) else some (fj_max 0 ((h k2 5) - (fc_limitOf h k1 (13 + x3.toNatClampNeg))))) else none)) else some 0))
set_option maxHeartbeats 2000000 in
theorem tc_owedBy (G : nv_G) (h : nv_Hp) (k1 : Nat) (hk1 : nv_A 9 k1) (k2 : Nat) (hk2 : nv_O 2 k2) (x3 : Int32) {r : Int32} (hf : (fc_owedBy h k1 k2 x3) = some r) : nv_Mt G 3 qX6_owedBy [.ref 0, .ref k1, .ref k2, .int x3] (nv_s h) (some (.int r), nv_s h) := by
  refine nv_of (by decide +kernel) (fun ad => Nat.le_of_ble_eq_true rfl) (Nat.le_refl _) (Nat.le_of_ble_eq_true rfl) ?_
  show nv_E G 3 qX6_owedBy 0 [some (.ref 0), some (.ref k1), some (.ref k2), some (.int x3), none, none] [] (nv_s h) (some (.int r), nv_s h)
  unfold fc_owedBy at hf
  refine nv_aL dX6_owedBy_0 rfl ?_
  refine nv_aL dX6_owedBy_1 rfl ?_
  refine nv_aL dX6_owedBy_2 rfl ?_
  refine nv_iL dX6_owedBy_3 rfl ?_
  obtain ⟨q1, hq1, hf⟩ := nv_bd hf
  refine nv_cVi (tc_bitsOfReason G h k1 hk1 k2 hk2 x3 hq1) dX6_owedBy_4 lm_X6_296 y_qX6_bitsOfReason ko_0 rfl rfl (by decide) rfl (Nat.le_of_ble_eq_true rfl) ?_
  refine nv_iS dX6_owedBy_7 (by decide) rfl rfl ?_
  refine nv_aL dX6_owedBy_9 rfl ?_
  refine nv_iL dX6_owedBy_10 rfl ?_
  refine nv_cVi (tc_isLeave G h x3) dX6_owedBy_11 lm_X6_114 y_qX6_isLeave ko_0 rfl rfl (by decide) rfl (Nat.le_of_ble_eq_true rfl) ?_
  refine nv_ifeqB dX6_owedBy_14 (fun c2 => ?_) (fun c2 => ?_)
  · replace hf := nv_ip c2 hf
    refine nv_iL dX6_owedBy_17 rfl ?_
    refine nv_k dX6_owedBy_19 ?_
    refine nv_aL dX6_owedBy_20 rfl ?_
    refine nv_gI lf_X6_162 dX6_owedBy_21 hk2 rfl ?_
    refine nv_ishl dX6_owedBy_24 ?_
    refine nv_k dX6_owedBy_25 ?_
    refine nv_ixor dX6_owedBy_26 ?_
    refine nv_iand dX6_owedBy_27 ?_
    refine nv_ifne dX6_owedBy_28 (fun c3 => ?_) (fun c3 => ?_)
    · replace hf := nv_ip c3 hf
      refine nv_k dX6_owedBy_31 ?_
      obtain rfl := Option.some.inj hf
      exact nv_ireturnI dX6_owedBy_32 rfl
    · replace hf := nv_in c3 hf
      refine nv_aL dX6_owedBy_33 rfl ?_
      refine nv_tR lf_X6_15 dX6_owedBy_34 ko_0 rfl ?_
      refine nv_iL dX6_owedBy_37 rfl ?_
      obtain ⟨g4, hf⟩ := nv_gd hf
      refine nv_aR dX6_owedBy_38 kr_2 ⟨_, rfl⟩ g4 (nv_q1 _ _) ?_
      refine nv_aS dX6_owedBy_39 (by decide) rfl rfl ?_
      refine nv_aL dX6_owedBy_41 rfl ?_
      refine nv_gI lf_X6_89 dX6_owedBy_43 (nv_o4 g4) rfl ?_
      refine nv_k dX6_owedBy_46 ?_
      refine nv_icne dX6_owedBy_47 (fun c5 => ?_) (fun c5 => ?_)
      · replace hf := nv_ip c5 hf
        refine nv_aL dX6_owedBy_50 rfl ?_
        refine nv_gI lf_X6_174 dX6_owedBy_51 hk2 rfl ?_
        obtain rfl := Option.some.inj hf
        exact nv_ireturnI dX6_owedBy_54 rfl
      · replace hf := nv_in c5 hf
        refine nv_k dX6_owedBy_55 ?_
        refine nv_aL dX6_owedBy_56 rfl ?_
        refine nv_gI lf_X6_174 dX6_owedBy_57 hk2 rfl ?_
        refine nv_aL dX6_owedBy_60 rfl ?_
        refine nv_aL dX6_owedBy_61 rfl ?_
        refine nv_cSi (tc_limitOf G h k1 hk1 (13 + x3.toNatClampNeg) (nv_o4 g4)) dX6_owedBy_63 lm_X6_269 y_qX6_limitOf rfl (by decide) rfl (Nat.le_of_ble_eq_true rfl) ?_
        refine nv_isub dX6_owedBy_66 ?_
        refine nv_mmax dX6_owedBy_67 lmax_X6 (by decide) (Nat.le_of_ble_eq_true rfl) ?_
        obtain rfl := Option.some.inj hf
        exact nv_ireturnI dX6_owedBy_70 rfl
  · replace hf := nv_in c2 hf
    refine nv_k dX6_owedBy_31 ?_
    obtain rfl := Option.some.inj hf
    exact nv_ireturnI dX6_owedBy_32 rfl
/-! WhoseName.owes -/
theorem dX6_owes_0 : nv_diload qX6_owes 0 1 1 := Or.inr ⟨1, rfl, by decide +kernel, rfl⟩
theorem dX6_owes_1 : nv_dc qX6_owes 1 (.invokestatic 217) 3 4 := ⟨by decide +kernel, rfl⟩
theorem dX6_owes_4 : nv_dif qX6_owes 4 .eq 15 7 := ⟨11, by decide +kernel, by decide, rfl⟩
theorem dX6_owes_7 : nv_daload qX6_owes 7 0 8 := Or.inr ⟨0, rfl, by decide +kernel, rfl⟩
theorem dX6_owes_8 : nv_diload qX6_owes 8 2 9 := Or.inr ⟨2, rfl, by decide +kernel, rfl⟩
theorem dX6_owes_9 : nv_dc qX6_owes 9 (.invokevirtual 201) 3 12 := ⟨by decide +kernel, rfl⟩
theorem dX6_owes_12 : nv_dif qX6_owes 12 .ne 18 15 := ⟨6, by decide +kernel, by decide, rfl⟩
theorem dX6_owes_15 : nv_dk qX6_owes 15 (-2) 17 := Or.inr (Or.inl ⟨(-2), ⟨by decide +kernel, rfl⟩, by decide⟩)
theorem dX6_owes_17 : decode qX6_owes.2.1 17 = .ok (.ireturn, 1) := by decide +kernel
theorem dX6_owes_18 : nv_daload qX6_owes 18 0 19 := Or.inr ⟨0, rfl, by decide +kernel, rfl⟩
theorem dX6_owes_19 : nv_dc qX6_owes 19 (.getfield 39) 3 22 := ⟨by decide +kernel, rfl⟩
theorem dX6_owes_22 : nv_diload qX6_owes 22 1 23 := Or.inr ⟨1, rfl, by decide +kernel, rfl⟩
theorem dX6_owes_23 : nv_dc qX6_owes 23 (.aaload) 1 24 := ⟨by decide +kernel, rfl⟩
theorem dX6_owes_24 : nv_dc qX6_owes 24 (.getfield 231) 3 27 := ⟨by decide +kernel, rfl⟩
theorem dX6_owes_27 : nv_dastore qX6_owes 27 3 28 := Or.inr ⟨3, rfl, by decide +kernel, rfl⟩
theorem dX6_owes_28 : nv_daload qX6_owes 28 0 29 := Or.inr ⟨0, rfl, by decide +kernel, rfl⟩
theorem dX6_owes_29 : nv_daload qX6_owes 29 3 30 := Or.inr ⟨3, rfl, by decide +kernel, rfl⟩
theorem dX6_owes_30 : nv_daload qX6_owes 30 0 31 := Or.inr ⟨0, rfl, by decide +kernel, rfl⟩
theorem dX6_owes_31 : nv_dc qX6_owes 31 (.getfield 27) 3 34 := ⟨by decide +kernel, rfl⟩
theorem dX6_owes_34 : nv_diload qX6_owes 34 2 35 := Or.inr ⟨2, rfl, by decide +kernel, rfl⟩
theorem dX6_owes_35 : nv_dc qX6_owes 35 (.aaload) 1 36 := ⟨by decide +kernel, rfl⟩
theorem dX6_owes_36 : nv_daload qX6_owes 36 0 37 := Or.inr ⟨0, rfl, by decide +kernel, rfl⟩
theorem dX6_owes_37 : nv_daload qX6_owes 37 3 38 := Or.inr ⟨3, rfl, by decide +kernel, rfl⟩
theorem dX6_owes_38 : nv_daload qX6_owes 38 0 39 := Or.inr ⟨0, rfl, by decide +kernel, rfl⟩
theorem dX6_owes_39 : nv_dc qX6_owes 39 (.getfield 27) 3 42 := ⟨by decide +kernel, rfl⟩
theorem dX6_owes_42 : nv_diload qX6_owes 42 2 43 := Or.inr ⟨2, rfl, by decide +kernel, rfl⟩
theorem dX6_owes_43 : nv_dc qX6_owes 43 (.aaload) 1 44 := ⟨by decide +kernel, rfl⟩
theorem dX6_owes_44 : nv_dk qX6_owes 44 0 45 := Or.inl ⟨0, ⟨by decide +kernel, rfl⟩, by decide⟩
theorem dX6_owes_45 : nv_dc qX6_owes 45 (.invokevirtual 245) 3 48 := ⟨by decide +kernel, rfl⟩
theorem dX6_owes_48 : nv_dc qX6_owes 48 (.invokevirtual 303) 3 51 := ⟨by decide +kernel, rfl⟩
theorem dX6_owes_51 : decode qX6_owes.2.1 51 = .ok (.ireturn, 1) := by decide +kernel
def fc_owes (h : nv_Hp) (x1 : Int32) (x2 : Int32) : Option (Int32) := (if (fc_isLaw x1) = true then (if (fc_isBargain h x2) = true then (if nv_inb x1 2 = true then (if nv_inb x2 10 = true then (Option.bind (fc_reasonIn h ((59 + 3 * x1.toNatClampNeg) + 2) (37 + x2.toNatClampNeg) 0) fun q5 => (Option.bind (fc_owedBy h ((59 + 3 * x1.toNatClampNeg) + 2) (37 + x2.toNatClampNeg) q5) fun q6 => some q6)) else none) else none) else some (-2)) else some (-2))
set_option maxHeartbeats 2000000 in
theorem tc_owes (G : nv_G) (h : nv_Hp) (x1 : Int32) (x2 : Int32) {r : Int32} (hf : (fc_owes h x1 x2) = some r) : nv_Mt G 4 qX6_owes [.ref 0, .int x1, .int x2] (nv_s h) (some (.int r), nv_s h) := by
  refine nv_of (by decide +kernel) (fun ad => Nat.le_of_ble_eq_true rfl) (Nat.le_refl _) (Nat.le_of_ble_eq_true rfl) ?_
  show nv_E G 4 qX6_owes 0 [some (.ref 0), some (.int x1), some (.int x2), none] [] (nv_s h) (some (.int r), nv_s h)
  unfold fc_owes at hf
  refine nv_iL dX6_owes_0 rfl ?_
  refine nv_cSi (tc_isLaw G h x1) dX6_owes_1 lm_X6_217 y_qX6_isLaw rfl (by decide) rfl (Nat.le_of_ble_eq_true rfl) ?_
  refine nv_ifeqB dX6_owes_4 (fun c1 => ?_) (fun c1 => ?_)
  · replace hf := nv_ip c1 hf
    refine nv_aL dX6_owes_7 rfl ?_
    refine nv_iL dX6_owes_8 rfl ?_
    refine nv_cVi (tc_isBargain G h x2) dX6_owes_9 lm_X6_201 y_qX6_isBargain ko_0 rfl rfl (by decide) rfl (Nat.le_of_ble_eq_true rfl) ?_
    refine nv_ifneB dX6_owes_12 (fun c2 => ?_) (fun c2 => ?_)
    · replace hf := nv_ip c2 hf
      refine nv_aL dX6_owes_18 rfl ?_
      refine nv_tR lf_X6_39 dX6_owes_19 ko_0 rfl ?_
      refine nv_iL dX6_owes_22 rfl ?_
      obtain ⟨g3, hf⟩ := nv_gd hf
      refine nv_aR dX6_owes_23 kr_6 ⟨_, rfl⟩ g3 rfl ?_
      refine nv_gR (t := ((59 + 3 * x1.toNatClampNeg) + 2)) lf_X6_231 dX6_owes_24 (nv_o3 g3) rfl ?_
      refine nv_aS dX6_owes_27 (by decide) rfl rfl ?_
      refine nv_aL dX6_owes_28 rfl ?_
      refine nv_aL dX6_owes_29 rfl ?_
      refine nv_aL dX6_owes_30 rfl ?_
      refine nv_tR lf_X6_27 dX6_owes_31 ko_0 rfl ?_
      refine nv_iL dX6_owes_34 rfl ?_
      obtain ⟨g4, hf⟩ := nv_gd hf
      refine nv_aR dX6_owes_35 kr_4 ⟨_, rfl⟩ g4 (nv_q1 _ _) ?_
      refine nv_aL dX6_owes_36 rfl ?_
      refine nv_aL dX6_owes_37 rfl ?_
      refine nv_aL dX6_owes_38 rfl ?_
      refine nv_tR lf_X6_27 dX6_owes_39 ko_0 rfl ?_
      refine nv_iL dX6_owes_42 rfl ?_
      refine nv_aR dX6_owes_43 kr_4 ⟨_, rfl⟩ g4 (nv_q1 _ _) ?_
      refine nv_k dX6_owes_44 ?_
      obtain ⟨q5, hq5, hf⟩ := nv_bd hf
      refine nv_cVi (tc_reasonIn G h ((59 + 3 * x1.toNatClampNeg) + 2) (nv_o3w (nv_o3 g3)) (37 + x2.toNatClampNeg) (nv_o2 g4) 0 hq5) dX6_owes_45 lm_X6_245 y_qX6_reasonIn ko_0 rfl rfl (by decide) rfl (Nat.le_of_ble_eq_true rfl) ?_
      obtain ⟨q6, hq6, hf⟩ := nv_bd hf
      refine nv_cVi (tc_owedBy G h ((59 + 3 * x1.toNatClampNeg) + 2) (nv_o3w (nv_o3 g3)) (37 + x2.toNatClampNeg) (nv_o2 g4) q5 hq6) dX6_owes_48 lm_X6_303 y_qX6_owedBy ko_0 rfl rfl (by decide) rfl (Nat.le_of_ble_eq_true rfl) ?_
      obtain rfl := Option.some.inj hf
      exact nv_ireturnI dX6_owes_51 rfl
    · replace hf := nv_in c2 hf
      refine nv_k dX6_owes_15 ?_
      obtain rfl := Option.some.inj hf
      exact nv_ireturnI dX6_owes_17 rfl
  · replace hf := nv_in c1 hf
    refine nv_k dX6_owes_15 ?_
    obtain rfl := Option.some.inj hf
    exact nv_ireturnI dX6_owes_17 rfl
/-! WhoseName.pay -/
theorem dX6_pay_0 : nv_diload qX6_pay 0 3 1 := Or.inr ⟨3, rfl, by decide +kernel, rfl⟩
theorem dX6_pay_1 : nv_daload qX6_pay 1 0 2 := Or.inr ⟨0, rfl, by decide +kernel, rfl⟩
theorem dX6_pay_2 : nv_dc qX6_pay 2 (.getfield 49) 3 5 := ⟨by decide +kernel, rfl⟩
theorem dX6_pay_5 : nv_diload qX6_pay 5 1 6 := Or.inr ⟨1, rfl, by decide +kernel, rfl⟩
theorem dX6_pay_6 : nv_dc qX6_pay 6 (.iaload) 1 7 := ⟨by decide +kernel, rfl⟩
theorem dX6_pay_7 : nv_dc qX6_pay 7 (.invokestatic 252) 3 10 := ⟨by decide +kernel, rfl⟩
theorem dX6_pay_10 : nv_distore qX6_pay 10 4 12 := Or.inl ⟨by decide +kernel, rfl⟩
theorem dX6_pay_12 : nv_daload qX6_pay 12 0 13 := Or.inr ⟨0, rfl, by decide +kernel, rfl⟩
theorem dX6_pay_13 : nv_dc qX6_pay 13 (.getfield 49) 3 16 := ⟨by decide +kernel, rfl⟩
theorem dX6_pay_16 : nv_diload qX6_pay 16 1 17 := Or.inr ⟨1, rfl, by decide +kernel, rfl⟩
theorem dX6_pay_17 : nv_dc qX6_pay 17 (.dup2) 1 18 := ⟨by decide +kernel, rfl⟩
theorem dX6_pay_18 : nv_dc qX6_pay 18 (.iaload) 1 19 := ⟨by decide +kernel, rfl⟩
theorem dX6_pay_19 : nv_diload qX6_pay 19 4 21 := Or.inl ⟨by decide +kernel, rfl⟩
theorem dX6_pay_21 : nv_dc qX6_pay 21 (.isub) 1 22 := ⟨by decide +kernel, rfl⟩
theorem dX6_pay_22 : nv_dc qX6_pay 22 (.iastore) 1 23 := ⟨by decide +kernel, rfl⟩
theorem dX6_pay_23 : nv_daload qX6_pay 23 0 24 := Or.inr ⟨0, rfl, by decide +kernel, rfl⟩
theorem dX6_pay_24 : nv_dc qX6_pay 24 (.getfield 49) 3 27 := ⟨by decide +kernel, rfl⟩
theorem dX6_pay_27 : nv_diload qX6_pay 27 2 28 := Or.inr ⟨2, rfl, by decide +kernel, rfl⟩
theorem dX6_pay_28 : nv_dc qX6_pay 28 (.dup2) 1 29 := ⟨by decide +kernel, rfl⟩
theorem dX6_pay_29 : nv_dc qX6_pay 29 (.iaload) 1 30 := ⟨by decide +kernel, rfl⟩
theorem dX6_pay_30 : nv_diload qX6_pay 30 4 32 := Or.inl ⟨by decide +kernel, rfl⟩
theorem dX6_pay_32 : nv_dc qX6_pay 32 (.iadd) 1 33 := ⟨by decide +kernel, rfl⟩
theorem dX6_pay_33 : nv_dc qX6_pay 33 (.iastore) 1 34 := ⟨by decide +kernel, rfl⟩
theorem dX6_pay_34 : nv_diload qX6_pay 34 4 36 := Or.inl ⟨by decide +kernel, rfl⟩
theorem dX6_pay_36 : decode qX6_pay.2.1 36 = .ok (.ireturn, 1) := by decide +kernel
def fc_pay (h : nv_Hp) (x1 : Int32) (x2 : Int32) (x3 : Int32) : Int32 × nv_Hp := (nv_lt ((fj_min x3 (h 8 x1.toNatClampNeg))) fun v1 => (nv_lt (nv_up h 8 x1.toNatClampNeg ((h 8 x1.toNatClampNeg) - v1)) fun h2 => (nv_lt (nv_up h2 8 x2.toNatClampNeg ((h2 8 x2.toNatClampNeg) + v1)) fun h3 => (v1, h3))))
set_option maxHeartbeats 2000000 in
theorem tc_pay (G : nv_G) (h : nv_Hp) (x1 : Int32) (hx1 : nv_inb x1 8 = true) (x2 : Int32) (hx2 : nv_inb x2 8 = true) (x3 : Int32) : nv_Mt G 1 qX6_pay [.ref 0, .int x1, .int x2, .int x3] (nv_s h) (some (.int (fc_pay h x1 x2 x3).1), nv_s (fc_pay h x1 x2 x3).2) := by
  refine nv_of (by decide +kernel) (fun ad => Nat.le_of_ble_eq_true rfl) (Nat.le_refl _) (Nat.le_of_ble_eq_true rfl) ?_
  show nv_E G 1 qX6_pay 0 [some (.ref 0), some (.int x1), some (.int x2), some (.int x3), none] [] (nv_s h) (some (.int (fc_pay h x1 x2 x3).1), nv_s (fc_pay h x1 x2 x3).2)
  generalize hf : (fc_pay h x1 x2 x3) = r
  unfold fc_pay at hf
  refine nv_iL dX6_pay_0 rfl ?_
  refine nv_aL dX6_pay_1 rfl ?_
  refine nv_tR lf_X6_49 dX6_pay_2 ko_0 rfl ?_
  refine nv_iL dX6_pay_5 rfl ?_
  refine nv_aI dX6_pay_6 ka_8 hx1 rfl ?_
  refine nv_mmin dX6_pay_7 lmin_X6 (by decide) (Nat.le_of_ble_eq_true rfl) ?_
  obtain ⟨v1, ev1, hf⟩ := nv_ltX hf
  rw [ev1]
  clear ev1
  refine nv_iS dX6_pay_10 (by decide) rfl rfl ?_
  refine nv_aL dX6_pay_12 rfl ?_
  refine nv_tR lf_X6_49 dX6_pay_13 ko_0 rfl ?_
  refine nv_iL dX6_pay_16 rfl ?_
  refine nv_dup2 dX6_pay_17 rfl rfl ?_
  refine nv_aI dX6_pay_18 ka_8 hx1 rfl ?_
  refine nv_iL dX6_pay_19 rfl ?_
  refine nv_isub dX6_pay_21 ?_
  refine nv_aP dX6_pay_22 ka_8 hx1 rfl ?_
  obtain ⟨h2, eh2, hf⟩ := nv_ltX hf
  rw [eh2]
  clear eh2
  refine nv_aL dX6_pay_23 rfl ?_
  refine nv_tR lf_X6_49 dX6_pay_24 ko_0 rfl ?_
  refine nv_iL dX6_pay_27 rfl ?_
  refine nv_dup2 dX6_pay_28 rfl rfl ?_
  refine nv_aI dX6_pay_29 ka_8 hx2 rfl ?_
  refine nv_iL dX6_pay_30 rfl ?_
  refine nv_iadd dX6_pay_32 ?_
  refine nv_aP dX6_pay_33 ka_8 hx2 rfl ?_
  obtain ⟨h3, eh3, hf⟩ := nv_ltX hf
  rw [eh3]
  clear eh3
  refine nv_iL dX6_pay_34 rfl ?_
  subst hf
  exact nv_ireturnI dX6_pay_36 rfl
/-! WhoseName.leastPerson -/
theorem dX6_leastPerson_0 : nv_dk qX6_leastPerson 0 0 1 := Or.inl ⟨0, ⟨by decide +kernel, rfl⟩, by decide⟩
theorem dX6_leastPerson_1 : nv_distore qX6_leastPerson 1 1 2 := Or.inr ⟨1, rfl, by decide +kernel, rfl⟩
theorem dX6_leastPerson_2 : nv_diload qX6_leastPerson 2 1 3 := Or.inr ⟨1, rfl, by decide +kernel, rfl⟩
theorem dX6_leastPerson_3 : nv_dk qX6_leastPerson 3 8 5 := Or.inr (Or.inl ⟨8, ⟨by decide +kernel, rfl⟩, by decide⟩)
theorem dX6_leastPerson_5 : nv_dic qX6_leastPerson 5 .ge 24 8 := ⟨19, by decide +kernel, by decide, rfl⟩
theorem dX6_leastPerson_8 : nv_diload qX6_leastPerson 8 0 9 := Or.inr ⟨0, rfl, by decide +kernel, rfl⟩
theorem dX6_leastPerson_9 : nv_diload qX6_leastPerson 9 1 10 := Or.inr ⟨1, rfl, by decide +kernel, rfl⟩
theorem dX6_leastPerson_10 : nv_dc qX6_leastPerson 10 (.invokestatic 265) 3 13 := ⟨by decide +kernel, rfl⟩
theorem dX6_leastPerson_13 : nv_dif qX6_leastPerson 13 .eq 18 16 := ⟨5, by decide +kernel, by decide, rfl⟩
theorem dX6_leastPerson_16 : nv_diload qX6_leastPerson 16 1 17 := Or.inr ⟨1, rfl, by decide +kernel, rfl⟩
theorem dX6_leastPerson_17 : decode qX6_leastPerson.2.1 17 = .ok (.ireturn, 1) := by decide +kernel
theorem dX6_leastPerson_18 : nv_dc qX6_leastPerson 18 (.iinc 1 1) 3 21 := ⟨by decide +kernel, rfl⟩
theorem dX6_leastPerson_21 : nv_dgo qX6_leastPerson 21 2 := ⟨(-19), by decide +kernel, by decide⟩
theorem dX6_leastPerson_24 : nv_dk qX6_leastPerson 24 (-1) 25 := Or.inl ⟨(-1), ⟨by decide +kernel, rfl⟩, by decide⟩
theorem dX6_leastPerson_25 : decode qX6_leastPerson.2.1 25 = .ok (.ireturn, 1) := by decide +kernel
def fc_leastPerson_2 (h : nv_Hp) (x0 : Int32)  : Nat → Int32 → Option (Int32)
  | 0, _ => none
  | n + 1, x1 => (if 8 ≤ x1 then some (-1) else (if (fc_hasBit x0 x1) = true then some x1 else ((fc_leastPerson_2 h x0 n) (x1 + 1))))
set_option maxHeartbeats 2000000 in
theorem tc_leastPerson_2 (G : nv_G) (h : nv_Hp) (x0 : Int32)  : ∀ (n : Nat) (x1 : Int32) (r : Int32), fc_leastPerson_2 h x0 n x1 = some r → nv_E G 1 qX6_leastPerson 2 [some (.int x0), some (.int x1)] [] (nv_s h) (some (.int r), nv_s h) := by
  intro n
  induction n with
  | zero =>
    intro x1 r hf
    rw [fc_leastPerson_2] at hf
    cases hf
  | succ n ih =>
    intro x1 r hf
    rw [fc_leastPerson_2] at hf
    refine nv_iL dX6_leastPerson_2 rfl ?_
    refine nv_k dX6_leastPerson_3 ?_
    refine nv_icge dX6_leastPerson_5 (fun c1 => ?_) (fun c1 => ?_)
    · replace hf := nv_ip c1 hf
      refine nv_k dX6_leastPerson_24 ?_
      obtain rfl := Option.some.inj hf
      exact nv_ireturnI dX6_leastPerson_25 rfl
    · replace hf := nv_in c1 hf
      refine nv_iL dX6_leastPerson_8 rfl ?_
      refine nv_iL dX6_leastPerson_9 rfl ?_
      refine nv_cSi (tc_hasBit G h x0 x1) dX6_leastPerson_10 lm_X6_265 y_qX6_hasBit rfl (by decide) rfl (Nat.le_of_ble_eq_true rfl) ?_
      refine nv_ifeqB dX6_leastPerson_13 (fun c2 => ?_) (fun c2 => ?_)
      · replace hf := nv_ip c2 hf
        refine nv_iL dX6_leastPerson_16 rfl ?_
        obtain rfl := Option.some.inj hf
        exact nv_ireturnI dX6_leastPerson_17 rfl
      · replace hf := nv_in c2 hf
        refine nv_inc dX6_leastPerson_18 rfl (v := 1) (by decide) (by decide) rfl rfl ?_
        refine nv_goto dX6_leastPerson_21 ?_
        exact ih _ _ hf
def fc_leastPerson (h : nv_Hp) (x0 : Int32) : Option (Int32) := (fc_leastPerson_2 h x0 nv_fu 0)
set_option maxHeartbeats 2000000 in
theorem tc_leastPerson (G : nv_G) (h : nv_Hp) (x0 : Int32) {r : Int32} (hf : (fc_leastPerson h x0) = some r) : nv_Mt G 1 qX6_leastPerson [.int x0] (nv_s h) (some (.int r), nv_s h) := by
  refine nv_of (by decide +kernel) (fun ad => Nat.le_of_ble_eq_true rfl) (Nat.le_refl _) (Nat.le_of_ble_eq_true rfl) ?_
  show nv_E G 1 qX6_leastPerson 0 [some (.int x0), none] [] (nv_s h) (some (.int r), nv_s h)
  unfold fc_leastPerson at hf
  refine nv_k dX6_leastPerson_0 ?_
  refine nv_iS dX6_leastPerson_1 (by decide) rfl rfl ?_
  exact tc_leastPerson_2 G _ _ _ _ _ hf
/-! WhoseName.settleBargain -/
theorem dX6_settleBargain_0 : nv_daload qX6_settleBargain 0 0 1 := Or.inr ⟨0, rfl, by decide +kernel, rfl⟩
theorem dX6_settleBargain_1 : nv_daload qX6_settleBargain 1 1 2 := Or.inr ⟨1, rfl, by decide +kernel, rfl⟩
theorem dX6_settleBargain_2 : nv_daload qX6_settleBargain 2 2 3 := Or.inr ⟨2, rfl, by decide +kernel, rfl⟩
theorem dX6_settleBargain_3 : nv_dk qX6_settleBargain 3 0 4 := Or.inl ⟨0, ⟨by decide +kernel, rfl⟩, by decide⟩
theorem dX6_settleBargain_4 : nv_dc qX6_settleBargain 4 (.invokevirtual 245) 3 7 := ⟨by decide +kernel, rfl⟩
theorem dX6_settleBargain_7 : nv_distore qX6_settleBargain 7 3 8 := Or.inr ⟨3, rfl, by decide +kernel, rfl⟩
theorem dX6_settleBargain_8 : nv_daload qX6_settleBargain 8 0 9 := Or.inr ⟨0, rfl, by decide +kernel, rfl⟩
theorem dX6_settleBargain_9 : nv_daload qX6_settleBargain 9 1 10 := Or.inr ⟨1, rfl, by decide +kernel, rfl⟩
theorem dX6_settleBargain_10 : nv_daload qX6_settleBargain 10 2 11 := Or.inr ⟨2, rfl, by decide +kernel, rfl⟩
theorem dX6_settleBargain_11 : nv_diload qX6_settleBargain 11 3 12 := Or.inr ⟨3, rfl, by decide +kernel, rfl⟩
theorem dX6_settleBargain_12 : nv_dc qX6_settleBargain 12 (.invokevirtual 296) 3 15 := ⟨by decide +kernel, rfl⟩
theorem dX6_settleBargain_15 : nv_distore qX6_settleBargain 15 4 17 := Or.inl ⟨by decide +kernel, rfl⟩
theorem dX6_settleBargain_17 : nv_dk qX6_settleBargain 17 0 18 := Or.inl ⟨0, ⟨by decide +kernel, rfl⟩, by decide⟩
theorem dX6_settleBargain_18 : nv_distore qX6_settleBargain 18 5 20 := Or.inl ⟨by decide +kernel, rfl⟩
theorem dX6_settleBargain_20 : nv_dk qX6_settleBargain 20 0 21 := Or.inl ⟨0, ⟨by decide +kernel, rfl⟩, by decide⟩
theorem dX6_settleBargain_21 : nv_distore qX6_settleBargain 21 6 23 := Or.inl ⟨by decide +kernel, rfl⟩
theorem dX6_settleBargain_23 : nv_diload qX6_settleBargain 23 6 25 := Or.inl ⟨by decide +kernel, rfl⟩
theorem dX6_settleBargain_25 : nv_dk qX6_settleBargain 25 8 27 := Or.inr (Or.inl ⟨8, ⟨by decide +kernel, rfl⟩, by decide⟩)
theorem dX6_settleBargain_27 : nv_dic qX6_settleBargain 27 .ge 52 30 := ⟨25, by decide +kernel, by decide, rfl⟩
theorem dX6_settleBargain_30 : nv_diload qX6_settleBargain 30 5 32 := Or.inl ⟨by decide +kernel, rfl⟩
theorem dX6_settleBargain_32 : nv_daload qX6_settleBargain 32 1 33 := Or.inr ⟨1, rfl, by decide +kernel, rfl⟩
theorem dX6_settleBargain_33 : nv_daload qX6_settleBargain 33 2 34 := Or.inr ⟨2, rfl, by decide +kernel, rfl⟩
theorem dX6_settleBargain_34 : nv_diload qX6_settleBargain 34 4 36 := Or.inl ⟨by decide +kernel, rfl⟩
theorem dX6_settleBargain_36 : nv_diload qX6_settleBargain 36 6 38 := Or.inl ⟨by decide +kernel, rfl⟩
theorem dX6_settleBargain_38 : nv_dc qX6_settleBargain 38 (.invokestatic 299) 3 41 := ⟨by decide +kernel, rfl⟩
theorem dX6_settleBargain_41 : nv_dc qX6_settleBargain 41 (.invokestatic 310) 3 44 := ⟨by decide +kernel, rfl⟩
theorem dX6_settleBargain_44 : nv_distore qX6_settleBargain 44 5 46 := Or.inl ⟨by decide +kernel, rfl⟩
theorem dX6_settleBargain_46 : nv_dc qX6_settleBargain 46 (.iinc 6 1) 3 49 := ⟨by decide +kernel, rfl⟩
theorem dX6_settleBargain_49 : nv_dgo qX6_settleBargain 49 23 := ⟨(-26), by decide +kernel, by decide⟩
theorem dX6_settleBargain_52 : nv_dk qX6_settleBargain 52 0 53 := Or.inl ⟨0, ⟨by decide +kernel, rfl⟩, by decide⟩
theorem dX6_settleBargain_53 : nv_distore qX6_settleBargain 53 6 55 := Or.inl ⟨by decide +kernel, rfl⟩
theorem dX6_settleBargain_55 : nv_dk qX6_settleBargain 55 0 56 := Or.inl ⟨0, ⟨by decide +kernel, rfl⟩, by decide⟩
theorem dX6_settleBargain_56 : nv_distore qX6_settleBargain 56 7 58 := Or.inl ⟨by decide +kernel, rfl⟩
theorem dX6_settleBargain_58 : nv_diload qX6_settleBargain 58 7 60 := Or.inl ⟨by decide +kernel, rfl⟩
theorem dX6_settleBargain_60 : nv_dk qX6_settleBargain 60 8 62 := Or.inr (Or.inl ⟨8, ⟨by decide +kernel, rfl⟩, by decide⟩)
theorem dX6_settleBargain_62 : nv_dic qX6_settleBargain 62 .ge 112 65 := ⟨50, by decide +kernel, by decide, rfl⟩
theorem dX6_settleBargain_65 : nv_diload qX6_settleBargain 65 7 67 := Or.inl ⟨by decide +kernel, rfl⟩
theorem dX6_settleBargain_67 : nv_daload qX6_settleBargain 67 2 68 := Or.inr ⟨2, rfl, by decide +kernel, rfl⟩
theorem dX6_settleBargain_68 : nv_dc qX6_settleBargain 68 (.getfield 162) 3 71 := ⟨by decide +kernel, rfl⟩
theorem dX6_settleBargain_71 : nv_dic qX6_settleBargain 71 .eq 106 74 := ⟨35, by decide +kernel, by decide, rfl⟩
theorem dX6_settleBargain_74 : nv_diload qX6_settleBargain 74 6 76 := Or.inl ⟨by decide +kernel, rfl⟩
theorem dX6_settleBargain_76 : nv_daload qX6_settleBargain 76 0 77 := Or.inr ⟨0, rfl, by decide +kernel, rfl⟩
theorem dX6_settleBargain_77 : nv_diload qX6_settleBargain 77 7 79 := Or.inl ⟨by decide +kernel, rfl⟩
theorem dX6_settleBargain_79 : nv_daload qX6_settleBargain 79 2 80 := Or.inr ⟨2, rfl, by decide +kernel, rfl⟩
theorem dX6_settleBargain_80 : nv_dc qX6_settleBargain 80 (.getfield 168) 3 83 := ⟨by decide +kernel, rfl⟩
theorem dX6_settleBargain_83 : nv_diload qX6_settleBargain 83 5 85 := Or.inl ⟨by decide +kernel, rfl⟩
theorem dX6_settleBargain_85 : nv_diload qX6_settleBargain 85 6 87 := Or.inl ⟨by decide +kernel, rfl⟩
theorem dX6_settleBargain_87 : nv_dc qX6_settleBargain 87 (.isub) 1 88 := ⟨by decide +kernel, rfl⟩
theorem dX6_settleBargain_88 : nv_daload qX6_settleBargain 88 1 89 := Or.inr ⟨1, rfl, by decide +kernel, rfl⟩
theorem dX6_settleBargain_89 : nv_daload qX6_settleBargain 89 2 90 := Or.inr ⟨2, rfl, by decide +kernel, rfl⟩
theorem dX6_settleBargain_90 : nv_diload qX6_settleBargain 90 4 92 := Or.inl ⟨by decide +kernel, rfl⟩
theorem dX6_settleBargain_92 : nv_diload qX6_settleBargain 92 7 94 := Or.inl ⟨by decide +kernel, rfl⟩
theorem dX6_settleBargain_94 : nv_dc qX6_settleBargain 94 (.invokestatic 299) 3 97 := ⟨by decide +kernel, rfl⟩
theorem dX6_settleBargain_97 : nv_dc qX6_settleBargain 97 (.invokestatic 252) 3 100 := ⟨by decide +kernel, rfl⟩
theorem dX6_settleBargain_100 : nv_dc qX6_settleBargain 100 (.invokevirtual 323) 3 103 := ⟨by decide +kernel, rfl⟩
theorem dX6_settleBargain_103 : nv_dc qX6_settleBargain 103 (.iadd) 1 104 := ⟨by decide +kernel, rfl⟩
theorem dX6_settleBargain_104 : nv_distore qX6_settleBargain 104 6 106 := Or.inl ⟨by decide +kernel, rfl⟩
theorem dX6_settleBargain_106 : nv_dc qX6_settleBargain 106 (.iinc 7 1) 3 109 := ⟨by decide +kernel, rfl⟩
theorem dX6_settleBargain_109 : nv_dgo qX6_settleBargain 109 58 := ⟨(-51), by decide +kernel, by decide⟩
theorem dX6_settleBargain_112 : nv_diload qX6_settleBargain 112 5 114 := Or.inl ⟨by decide +kernel, rfl⟩
theorem dX6_settleBargain_114 : nv_diload qX6_settleBargain 114 6 116 := Or.inl ⟨by decide +kernel, rfl⟩
theorem dX6_settleBargain_116 : nv_dc qX6_settleBargain 116 (.isub) 1 117 := ⟨by decide +kernel, rfl⟩
theorem dX6_settleBargain_117 : nv_distore qX6_settleBargain 117 7 119 := Or.inl ⟨by decide +kernel, rfl⟩
theorem dX6_settleBargain_119 : nv_daload qX6_settleBargain 119 0 120 := Or.inr ⟨0, rfl, by decide +kernel, rfl⟩
theorem dX6_settleBargain_120 : nv_daload qX6_settleBargain 120 2 121 := Or.inr ⟨2, rfl, by decide +kernel, rfl⟩
theorem dX6_settleBargain_121 : nv_dc qX6_settleBargain 121 (.getfield 162) 3 124 := ⟨by decide +kernel, rfl⟩
theorem dX6_settleBargain_124 : nv_daload qX6_settleBargain 124 2 125 := Or.inr ⟨2, rfl, by decide +kernel, rfl⟩
theorem dX6_settleBargain_125 : nv_dc qX6_settleBargain 125 (.getfield 168) 3 128 := ⟨by decide +kernel, rfl⟩
theorem dX6_settleBargain_128 : nv_diload qX6_settleBargain 128 7 130 := Or.inl ⟨by decide +kernel, rfl⟩
theorem dX6_settleBargain_130 : nv_daload qX6_settleBargain 130 1 131 := Or.inr ⟨1, rfl, by decide +kernel, rfl⟩
theorem dX6_settleBargain_131 : nv_daload qX6_settleBargain 131 2 132 := Or.inr ⟨2, rfl, by decide +kernel, rfl⟩
theorem dX6_settleBargain_132 : nv_diload qX6_settleBargain 132 4 134 := Or.inl ⟨by decide +kernel, rfl⟩
theorem dX6_settleBargain_134 : nv_daload qX6_settleBargain 134 2 135 := Or.inr ⟨2, rfl, by decide +kernel, rfl⟩
theorem dX6_settleBargain_135 : nv_dc qX6_settleBargain 135 (.getfield 162) 3 138 := ⟨by decide +kernel, rfl⟩
theorem dX6_settleBargain_138 : nv_dc qX6_settleBargain 138 (.invokestatic 299) 3 141 := ⟨by decide +kernel, rfl⟩
theorem dX6_settleBargain_141 : nv_dc qX6_settleBargain 141 (.invokestatic 252) 3 144 := ⟨by decide +kernel, rfl⟩
theorem dX6_settleBargain_144 : nv_dc qX6_settleBargain 144 (.invokevirtual 323) 3 147 := ⟨by decide +kernel, rfl⟩
theorem dX6_settleBargain_147 : nv_distore qX6_settleBargain 147 8 149 := Or.inl ⟨by decide +kernel, rfl⟩
theorem dX6_settleBargain_149 : nv_daload qX6_settleBargain 149 0 150 := Or.inr ⟨0, rfl, by decide +kernel, rfl⟩
theorem dX6_settleBargain_150 : nv_dc qX6_settleBargain 150 (.getfield 52) 3 153 := ⟨by decide +kernel, rfl⟩
theorem dX6_settleBargain_153 : nv_daload qX6_settleBargain 153 2 154 := Or.inr ⟨2, rfl, by decide +kernel, rfl⟩
theorem dX6_settleBargain_154 : nv_dc qX6_settleBargain 154 (.getfield 159) 3 157 := ⟨by decide +kernel, rfl⟩
theorem dX6_settleBargain_157 : nv_diload qX6_settleBargain 157 7 159 := Or.inl ⟨by decide +kernel, rfl⟩
theorem dX6_settleBargain_159 : nv_diload qX6_settleBargain 159 8 161 := Or.inl ⟨by decide +kernel, rfl⟩
theorem dX6_settleBargain_161 : nv_dc qX6_settleBargain 161 (.isub) 1 162 := ⟨by decide +kernel, rfl⟩
theorem dX6_settleBargain_162 : nv_dc qX6_settleBargain 162 (.iastore) 1 163 := ⟨by decide +kernel, rfl⟩
theorem dX6_settleBargain_163 : nv_daload qX6_settleBargain 163 0 164 := Or.inr ⟨0, rfl, by decide +kernel, rfl⟩
theorem dX6_settleBargain_164 : nv_daload qX6_settleBargain 164 1 165 := Or.inr ⟨1, rfl, by decide +kernel, rfl⟩
theorem dX6_settleBargain_165 : nv_daload qX6_settleBargain 165 2 166 := Or.inr ⟨2, rfl, by decide +kernel, rfl⟩
theorem dX6_settleBargain_166 : nv_diload qX6_settleBargain 166 3 167 := Or.inr ⟨3, rfl, by decide +kernel, rfl⟩
theorem dX6_settleBargain_167 : nv_dc qX6_settleBargain 167 (.invokevirtual 303) 3 170 := ⟨by decide +kernel, rfl⟩
theorem dX6_settleBargain_170 : nv_diload qX6_settleBargain 170 6 172 := Or.inl ⟨by decide +kernel, rfl⟩
theorem dX6_settleBargain_172 : nv_dc qX6_settleBargain 172 (.invokestatic 252) 3 175 := ⟨by decide +kernel, rfl⟩
theorem dX6_settleBargain_175 : nv_distore qX6_settleBargain 175 9 177 := Or.inl ⟨by decide +kernel, rfl⟩
theorem dX6_settleBargain_177 : nv_diload qX6_settleBargain 177 4 179 := Or.inl ⟨by decide +kernel, rfl⟩
theorem dX6_settleBargain_179 : nv_dk qX6_settleBargain 179 1 180 := Or.inl ⟨1, ⟨by decide +kernel, rfl⟩, by decide⟩
theorem dX6_settleBargain_180 : nv_daload qX6_settleBargain 180 2 181 := Or.inr ⟨2, rfl, by decide +kernel, rfl⟩
theorem dX6_settleBargain_181 : nv_dc qX6_settleBargain 181 (.getfield 162) 3 184 := ⟨by decide +kernel, rfl⟩
theorem dX6_settleBargain_184 : nv_dc qX6_settleBargain 184 (.ishl) 1 185 := ⟨by decide +kernel, rfl⟩
theorem dX6_settleBargain_185 : nv_dk qX6_settleBargain 185 (-1) 186 := Or.inl ⟨(-1), ⟨by decide +kernel, rfl⟩, by decide⟩
theorem dX6_settleBargain_186 : nv_dc qX6_settleBargain 186 (.ixor) 1 187 := ⟨by decide +kernel, rfl⟩
theorem dX6_settleBargain_187 : nv_dc qX6_settleBargain 187 (.iand) 1 188 := ⟨by decide +kernel, rfl⟩
theorem dX6_settleBargain_188 : nv_dc qX6_settleBargain 188 (.invokestatic 327) 3 191 := ⟨by decide +kernel, rfl⟩
theorem dX6_settleBargain_191 : nv_distore qX6_settleBargain 191 10 193 := Or.inl ⟨by decide +kernel, rfl⟩
theorem dX6_settleBargain_193 : nv_diload qX6_settleBargain 193 10 195 := Or.inl ⟨by decide +kernel, rfl⟩
theorem dX6_settleBargain_195 : nv_dk qX6_settleBargain 195 (-1) 196 := Or.inl ⟨(-1), ⟨by decide +kernel, rfl⟩, by decide⟩
theorem dX6_settleBargain_196 : nv_dic qX6_settleBargain 196 .eq 212 199 := ⟨16, by decide +kernel, by decide, rfl⟩
theorem dX6_settleBargain_199 : nv_daload qX6_settleBargain 199 0 200 := Or.inr ⟨0, rfl, by decide +kernel, rfl⟩
theorem dX6_settleBargain_200 : nv_daload qX6_settleBargain 200 2 201 := Or.inr ⟨2, rfl, by decide +kernel, rfl⟩
theorem dX6_settleBargain_201 : nv_dc qX6_settleBargain 201 (.getfield 162) 3 204 := ⟨by decide +kernel, rfl⟩
theorem dX6_settleBargain_204 : nv_diload qX6_settleBargain 204 10 206 := Or.inl ⟨by decide +kernel, rfl⟩
theorem dX6_settleBargain_206 : nv_diload qX6_settleBargain 206 9 208 := Or.inl ⟨by decide +kernel, rfl⟩
theorem dX6_settleBargain_208 : nv_dc qX6_settleBargain 208 (.invokevirtual 323) 3 211 := ⟨by decide +kernel, rfl⟩
theorem dX6_settleBargain_211 : nv_dc qX6_settleBargain 211 (.pop) 1 212 := ⟨by decide +kernel, rfl⟩
theorem dX6_settleBargain_212 : decode qX6_settleBargain.2.1 212 = .ok (.return_, 1) := by decide +kernel
def fc_settleBargain_58  (k1 : Nat) (k2 : Nat) (x3 : Int32) (x4 : Int32) (x5 : Int32)  : Nat → Int32 → Int32 → nv_Hp → Option (nv_Hp)
  | 0, _, _, _ => none
  | n + 1, x6, x7, h => (if 8 ≤ x7 then (nv_lt ((x5 - x6)) fun v2 => (if nv_inb (h k2 1) 8 = true then (if nv_inb (h k2 3) 8 = true then (nv_lt (fc_pay h (h k2 1) (h k2 3) (fj_min v2 (fc_askOf h k1 k2 x4 (h k2 1)))) fun q5 => (if nv_inb (q5.2 k2 0) 10 = true then (nv_lt (nv_up q5.2 9 (q5.2 k2 0).toNatClampNeg (v2 - q5.1)) fun h7 => (Option.bind (fc_owedBy h7 k1 k2 x3) fun q8 => (nv_lt ((fj_min q8 x6)) fun v9 => (Option.bind (fc_leastPerson h7 (x4 &&& ((1 <<< ((h7 k2 1) &&& 31)) ^^^ (-1)))) fun q10 => (if q10 = (-1) then some h7 else (if nv_inb (h7 k2 1) 8 = true then (if nv_inb q10 8 = true then (nv_lt (fc_pay h7 (h7 k2 1) q10 v9) fun q14 => some q14.2) else none) else none)))))) else none)) else none) else none)) else (Option.bind ((if x7 = (h k2 1) then some (x6, h) else (if nv_inb x7 8 = true then (if nv_inb (h k2 3) 8 = true then some ((x6 + (fc_pay h x7 (h k2 3) (fj_min (x5 - x6) (fc_askOf h k1 k2 x4 x7))).1), (fc_pay h x7 (h k2 3) (fj_min (x5 - x6) (fc_askOf h k1 k2 x4 x7))).2) else none) else none)) : Option (Int32 × nv_Hp)) fun u17 => (fc_settleBargain_58 k1 k2 x3 x4 x5 n) u17.1 (x7 + 1) u17.2))
set_option maxHeartbeats 2000000 in
theorem tc_settleBargain_58 (G : nv_G)  (k1 : Nat) (hk1 : nv_A 9 k1) (k2 : Nat) (hk2 : nv_O 2 k2) (x3 : Int32) (x4 : Int32) (x5 : Int32)  : ∀ (n : Nat) (x6 : Int32) (x7 : Int32) (h : nv_Hp) (o8 o9 o10 : Option Value) (r : nv_Hp), fc_settleBargain_58 k1 k2 x3 x4 x5 n x6 x7 h = some r → nv_E G 4 qX6_settleBargain 58 [some (.ref 0), some (.ref k1), some (.ref k2), some (.int x3), some (.int x4), some (.int x5), some (.int x6), some (.int x7), o8, o9, o10] [] (nv_s h) (none, nv_s r) := by
  intro n
  induction n with
  | zero =>
    intro x6 x7 h o8 o9 o10 r hf
    rw [fc_settleBargain_58] at hf
    cases hf
  | succ n ih =>
    intro x6 x7 h o8 o9 o10 r hf
    rw [fc_settleBargain_58] at hf
    refine nv_iL dX6_settleBargain_58 rfl ?_
    refine nv_k dX6_settleBargain_60 ?_
    refine nv_icge dX6_settleBargain_62 (fun c1 => ?_) (fun c1 => ?_)
    · replace hf := nv_ip c1 hf
      refine nv_iL dX6_settleBargain_112 rfl ?_
      refine nv_iL dX6_settleBargain_114 rfl ?_
      refine nv_isub dX6_settleBargain_116 ?_
      obtain ⟨v2, ev2, hf⟩ := nv_ltX hf
      rw [ev2]
      clear ev2
      refine nv_iS dX6_settleBargain_117 (by decide) rfl rfl ?_
      refine nv_aL dX6_settleBargain_119 rfl ?_
      refine nv_aL dX6_settleBargain_120 rfl ?_
      refine nv_gI lf_X6_162 dX6_settleBargain_121 hk2 rfl ?_
      refine nv_aL dX6_settleBargain_124 rfl ?_
      refine nv_gI lf_X6_168 dX6_settleBargain_125 hk2 rfl ?_
      refine nv_iL dX6_settleBargain_128 rfl ?_
      refine nv_aL dX6_settleBargain_130 rfl ?_
      refine nv_aL dX6_settleBargain_131 rfl ?_
      refine nv_iL dX6_settleBargain_132 rfl ?_
      refine nv_aL dX6_settleBargain_134 rfl ?_
      refine nv_gI lf_X6_162 dX6_settleBargain_135 hk2 rfl ?_
      refine nv_cSi (tc_askOf G h k1 hk1 k2 hk2 x4 (h k2 1)) dX6_settleBargain_138 lm_X6_299 y_qX6_askOf rfl (by decide) rfl (Nat.le_of_ble_eq_true rfl) ?_
      refine nv_mmin dX6_settleBargain_141 lmin_X6 (by decide) (Nat.le_of_ble_eq_true rfl) ?_
      obtain ⟨g3, hf⟩ := nv_gd hf
      obtain ⟨g4, hf⟩ := nv_gd hf
      refine nv_cVi (tc_pay G h (h k2 1) g3 (h k2 3) g4 (fj_min v2 (fc_askOf h k1 k2 x4 (h k2 1)))) dX6_settleBargain_144 lm_X6_323 y_qX6_pay ko_0 rfl rfl (by decide) rfl (Nat.le_of_ble_eq_true rfl) ?_
      obtain ⟨q5, eq5, hf⟩ := nv_ltX hf
      rw [eq5]
      clear eq5
      refine nv_iS dX6_settleBargain_147 (by decide) rfl rfl ?_
      refine nv_aL dX6_settleBargain_149 rfl ?_
      refine nv_tR lf_X6_52 dX6_settleBargain_150 ko_0 rfl ?_
      refine nv_aL dX6_settleBargain_153 rfl ?_
      refine nv_gI lf_X6_159 dX6_settleBargain_154 hk2 rfl ?_
      refine nv_iL dX6_settleBargain_157 rfl ?_
      refine nv_iL dX6_settleBargain_159 rfl ?_
      refine nv_isub dX6_settleBargain_161 ?_
      obtain ⟨g6, hf⟩ := nv_gd hf
      refine nv_aP dX6_settleBargain_162 ka_9 g6 rfl ?_
      obtain ⟨h7, eh7, hf⟩ := nv_ltX hf
      rw [eh7]
      clear eh7
      refine nv_aL dX6_settleBargain_163 rfl ?_
      refine nv_aL dX6_settleBargain_164 rfl ?_
      refine nv_aL dX6_settleBargain_165 rfl ?_
      refine nv_iL dX6_settleBargain_166 rfl ?_
      obtain ⟨q8, hq8, hf⟩ := nv_bd hf
      refine nv_cVi (tc_owedBy G h7 k1 hk1 k2 hk2 x3 hq8) dX6_settleBargain_167 lm_X6_303 y_qX6_owedBy ko_0 rfl rfl (by decide) rfl (Nat.le_of_ble_eq_true rfl) ?_
      refine nv_iL dX6_settleBargain_170 rfl ?_
      refine nv_mmin dX6_settleBargain_172 lmin_X6 (by decide) (Nat.le_of_ble_eq_true rfl) ?_
      obtain ⟨v9, ev9, hf⟩ := nv_ltX hf
      rw [ev9]
      clear ev9
      refine nv_iS dX6_settleBargain_175 (by decide) rfl rfl ?_
      refine nv_iL dX6_settleBargain_177 rfl ?_
      refine nv_k dX6_settleBargain_179 ?_
      refine nv_aL dX6_settleBargain_180 rfl ?_
      refine nv_gI lf_X6_162 dX6_settleBargain_181 hk2 rfl ?_
      refine nv_ishl dX6_settleBargain_184 ?_
      refine nv_k dX6_settleBargain_185 ?_
      refine nv_ixor dX6_settleBargain_186 ?_
      refine nv_iand dX6_settleBargain_187 ?_
      obtain ⟨q10, hq10, hf⟩ := nv_bd hf
      refine nv_cSi (tc_leastPerson G h7 (x4 &&& ((1 <<< ((h7 k2 1) &&& 31)) ^^^ (-1))) hq10) dX6_settleBargain_188 lm_X6_327 y_qX6_leastPerson rfl (by decide) rfl (Nat.le_of_ble_eq_true rfl) ?_
      refine nv_iS dX6_settleBargain_191 (by decide) rfl rfl ?_
      refine nv_iL dX6_settleBargain_193 rfl ?_
      refine nv_k dX6_settleBargain_195 ?_
      refine nv_iceq dX6_settleBargain_196 (fun c11 => ?_) (fun c11 => ?_)
      · replace hf := nv_ip c11 hf
        obtain rfl := Option.some.inj hf
        exact nv_return dX6_settleBargain_212 rfl
      · replace hf := nv_in c11 hf
        refine nv_aL dX6_settleBargain_199 rfl ?_
        refine nv_aL dX6_settleBargain_200 rfl ?_
        refine nv_gI lf_X6_162 dX6_settleBargain_201 hk2 rfl ?_
        refine nv_iL dX6_settleBargain_204 rfl ?_
        refine nv_iL dX6_settleBargain_206 rfl ?_
        obtain ⟨g12, hf⟩ := nv_gd hf
        obtain ⟨g13, hf⟩ := nv_gd hf
        refine nv_cVi (tc_pay G h7 (h7 k2 1) g12 q10 g13 v9) dX6_settleBargain_208 lm_X6_323 y_qX6_pay ko_0 rfl rfl (by decide) rfl (Nat.le_of_ble_eq_true rfl) ?_
        obtain ⟨q14, eq14, hf⟩ := nv_ltX hf
        rw [eq14]
        clear eq14
        refine nv_pop dX6_settleBargain_211 rfl ?_
        obtain rfl := Option.some.inj hf
        exact nv_return dX6_settleBargain_212 rfl
    · replace hf := nv_in c1 hf
      refine nv_iL dX6_settleBargain_65 rfl ?_
      refine nv_aL dX6_settleBargain_67 rfl ?_
      refine nv_gI lf_X6_162 dX6_settleBargain_68 hk2 rfl ?_
      refine nv_iceq dX6_settleBargain_71 (fun c18 => ?_) (fun c18 => ?_)
      · try simp only [if_pos c18, Option.bind_some] at hf
        refine nv_inc dX6_settleBargain_106 rfl (v := 1) (by decide) (by decide) rfl rfl ?_
        refine nv_goto dX6_settleBargain_109 ?_
        exact ih _ _ _ _ _ _ _ hf
      · try simp only [if_neg c18, Option.bind_some] at hf
        refine nv_iL dX6_settleBargain_74 rfl ?_
        refine nv_aL dX6_settleBargain_76 rfl ?_
        refine nv_iL dX6_settleBargain_77 rfl ?_
        refine nv_aL dX6_settleBargain_79 rfl ?_
        refine nv_gI lf_X6_168 dX6_settleBargain_80 hk2 rfl ?_
        refine nv_iL dX6_settleBargain_83 rfl ?_
        refine nv_iL dX6_settleBargain_85 rfl ?_
        refine nv_isub dX6_settleBargain_87 ?_
        refine nv_aL dX6_settleBargain_88 rfl ?_
        refine nv_aL dX6_settleBargain_89 rfl ?_
        refine nv_iL dX6_settleBargain_90 rfl ?_
        refine nv_iL dX6_settleBargain_92 rfl ?_
        refine nv_cSi (tc_askOf G h k1 hk1 k2 hk2 x4 x7) dX6_settleBargain_94 lm_X6_299 y_qX6_askOf rfl (by decide) rfl (Nat.le_of_ble_eq_true rfl) ?_
        refine nv_mmin dX6_settleBargain_97 lmin_X6 (by decide) (Nat.le_of_ble_eq_true rfl) ?_
        have g19 : nv_inb x7 8 = true := by
          by_cases g19 : nv_inb x7 8 = true
          · exact g19
          · exfalso; simp [if_neg g19] at hf
        simp only [if_pos g19, Option.bind_some] at hf
        have g20 : nv_inb (h k2 3) 8 = true := by
          by_cases g20 : nv_inb (h k2 3) 8 = true
          · exact g20
          · exfalso; simp [if_neg g20] at hf
        simp only [if_pos g20, Option.bind_some] at hf
        refine nv_cVi (tc_pay G h x7 g19 (h k2 3) g20 (fj_min (x5 - x6) (fc_askOf h k1 k2 x4 x7))) dX6_settleBargain_100 lm_X6_323 y_qX6_pay ko_0 rfl rfl (by decide) rfl (Nat.le_of_ble_eq_true rfl) ?_
        refine nv_iadd dX6_settleBargain_103 ?_
        refine nv_iS dX6_settleBargain_104 (by decide) rfl rfl ?_
        refine nv_inc dX6_settleBargain_106 rfl (v := 1) (by decide) (by decide) rfl rfl ?_
        refine nv_goto dX6_settleBargain_109 ?_
        exact ih _ _ _ _ _ _ _ hf
def fc_settleBargain_23 (h : nv_Hp) (k1 : Nat) (k2 : Nat) (x3 : Int32) (x4 : Int32)  : Nat → Int32 → Int32 → Option (nv_Hp)
  | 0, _, _ => none
  | n + 1, x5, x6 => (if 8 ≤ x6 then (fc_settleBargain_58 k1 k2 x3 x4 x5 nv_fu 0 0 h) else (nv_lt ((fj_max x5 (fc_askOf h k1 k2 x4 x6))) fun v2 => ((fc_settleBargain_23 h k1 k2 x3 x4 n) v2 (x6 + 1))))
set_option maxHeartbeats 2000000 in
theorem tc_settleBargain_23 (G : nv_G) (h : nv_Hp) (k1 : Nat) (hk1 : nv_A 9 k1) (k2 : Nat) (hk2 : nv_O 2 k2) (x3 : Int32) (x4 : Int32)  : ∀ (n : Nat) (x5 : Int32) (x6 : Int32) (o7 o8 o9 o10 : Option Value) (r : nv_Hp), fc_settleBargain_23 h k1 k2 x3 x4 n x5 x6 = some r → nv_E G 4 qX6_settleBargain 23 [some (.ref 0), some (.ref k1), some (.ref k2), some (.int x3), some (.int x4), some (.int x5), some (.int x6), o7, o8, o9, o10] [] (nv_s h) (none, nv_s r) := by
  intro n
  induction n with
  | zero =>
    intro x5 x6 o7 o8 o9 o10 r hf
    rw [fc_settleBargain_23] at hf
    cases hf
  | succ n ih =>
    intro x5 x6 o7 o8 o9 o10 r hf
    rw [fc_settleBargain_23] at hf
    refine nv_iL dX6_settleBargain_23 rfl ?_
    refine nv_k dX6_settleBargain_25 ?_
    refine nv_icge dX6_settleBargain_27 (fun c1 => ?_) (fun c1 => ?_)
    · replace hf := nv_ip c1 hf
      refine nv_k dX6_settleBargain_52 ?_
      refine nv_iS dX6_settleBargain_53 (by decide) rfl rfl ?_
      refine nv_k dX6_settleBargain_55 ?_
      refine nv_iS dX6_settleBargain_56 (by decide) rfl rfl ?_
      exact tc_settleBargain_58 G _ hk1 _ hk2 _ _ _ _ _ _ _ _ _ _ _ hf
    · replace hf := nv_in c1 hf
      refine nv_iL dX6_settleBargain_30 rfl ?_
      refine nv_aL dX6_settleBargain_32 rfl ?_
      refine nv_aL dX6_settleBargain_33 rfl ?_
      refine nv_iL dX6_settleBargain_34 rfl ?_
      refine nv_iL dX6_settleBargain_36 rfl ?_
      refine nv_cSi (tc_askOf G h k1 hk1 k2 hk2 x4 x6) dX6_settleBargain_38 lm_X6_299 y_qX6_askOf rfl (by decide) rfl (Nat.le_of_ble_eq_true rfl) ?_
      refine nv_mmax dX6_settleBargain_41 lmax_X6 (by decide) (Nat.le_of_ble_eq_true rfl) ?_
      obtain ⟨v2, ev2, hf⟩ := nv_ltX hf
      rw [ev2]
      clear ev2
      refine nv_iS dX6_settleBargain_44 (by decide) rfl rfl ?_
      refine nv_inc dX6_settleBargain_46 rfl (v := 1) (by decide) (by decide) rfl rfl ?_
      refine nv_goto dX6_settleBargain_49 ?_
      exact ih _ _ _ _ _ _ _ hf
def fc_settleBargain (h : nv_Hp) (k1 : Nat) (k2 : Nat) : Option (nv_Hp) := (Option.bind (fc_reasonIn h k1 k2 0) fun q1 => (Option.bind (fc_bitsOfReason h k1 k2 q1) fun q2 => (fc_settleBargain_23 h k1 k2 q1 q2 nv_fu 0 0)))
set_option maxHeartbeats 2000000 in
theorem tc_settleBargain (G : nv_G) (h : nv_Hp) (k1 : Nat) (hk1 : nv_A 9 k1) (k2 : Nat) (hk2 : nv_O 2 k2) {r : nv_Hp} (hf : (fc_settleBargain h k1 k2) = some r) : nv_Mt G 4 qX6_settleBargain [.ref 0, .ref k1, .ref k2] (nv_s h) (none, nv_s r) := by
  refine nv_of (by decide +kernel) (fun ad => Nat.le_of_ble_eq_true rfl) (Nat.le_refl _) (Nat.le_of_ble_eq_true rfl) ?_
  show nv_E G 4 qX6_settleBargain 0 [some (.ref 0), some (.ref k1), some (.ref k2), none, none, none, none, none, none, none, none] [] (nv_s h) (none, nv_s r)
  unfold fc_settleBargain at hf
  refine nv_aL dX6_settleBargain_0 rfl ?_
  refine nv_aL dX6_settleBargain_1 rfl ?_
  refine nv_aL dX6_settleBargain_2 rfl ?_
  refine nv_k dX6_settleBargain_3 ?_
  obtain ⟨q1, hq1, hf⟩ := nv_bd hf
  refine nv_cVi (tc_reasonIn G h k1 hk1 k2 hk2 0 hq1) dX6_settleBargain_4 lm_X6_245 y_qX6_reasonIn ko_0 rfl rfl (by decide) rfl (Nat.le_of_ble_eq_true rfl) ?_
  refine nv_iS dX6_settleBargain_7 (by decide) rfl rfl ?_
  refine nv_aL dX6_settleBargain_8 rfl ?_
  refine nv_aL dX6_settleBargain_9 rfl ?_
  refine nv_aL dX6_settleBargain_10 rfl ?_
  refine nv_iL dX6_settleBargain_11 rfl ?_
  obtain ⟨q2, hq2, hf⟩ := nv_bd hf
  refine nv_cVi (tc_bitsOfReason G h k1 hk1 k2 hk2 q1 hq2) dX6_settleBargain_12 lm_X6_296 y_qX6_bitsOfReason ko_0 rfl rfl (by decide) rfl (Nat.le_of_ble_eq_true rfl) ?_
  refine nv_iS dX6_settleBargain_15 (by decide) rfl rfl ?_
  refine nv_k dX6_settleBargain_17 ?_
  refine nv_iS dX6_settleBargain_18 (by decide) rfl rfl ?_
  refine nv_k dX6_settleBargain_20 ?_
  refine nv_iS dX6_settleBargain_21 (by decide) rfl rfl ?_
  exact tc_settleBargain_23 G _ _ hk1 _ hk2 _ _ _ _ _ _ _ _ _ _ hf
/-! WhoseName.settle -/
theorem dX6_settle_0 : nv_daload qX6_settle 0 0 1 := Or.inr ⟨0, rfl, by decide +kernel, rfl⟩
theorem dX6_settle_1 : nv_dc qX6_settle 1 (.getfield 9) 3 4 := ⟨by decide +kernel, rfl⟩
theorem dX6_settle_4 : nv_dk qX6_settle 4 0 5 := Or.inl ⟨0, ⟨by decide +kernel, rfl⟩, by decide⟩
theorem dX6_settle_5 : nv_daload qX6_settle 5 0 6 := Or.inr ⟨0, rfl, by decide +kernel, rfl⟩
theorem dX6_settle_6 : nv_dc qX6_settle 6 (.getfield 49) 3 9 := ⟨by decide +kernel, rfl⟩
theorem dX6_settle_9 : nv_dk qX6_settle 9 0 10 := Or.inl ⟨0, ⟨by decide +kernel, rfl⟩, by decide⟩
theorem dX6_settle_10 : nv_dk qX6_settle 10 8 12 := Or.inr (Or.inl ⟨8, ⟨by decide +kernel, rfl⟩, by decide⟩)
theorem dX6_settle_12 : nv_dc qX6_settle 12 (.invokestatic 313) 3 15 := ⟨by decide +kernel, rfl⟩
theorem dX6_settle_15 : nv_dk qX6_settle 15 0 16 := Or.inl ⟨0, ⟨by decide +kernel, rfl⟩, by decide⟩
theorem dX6_settle_16 : nv_distore qX6_settle 16 2 17 := Or.inr ⟨2, rfl, by decide +kernel, rfl⟩
theorem dX6_settle_17 : nv_diload qX6_settle 17 2 18 := Or.inr ⟨2, rfl, by decide +kernel, rfl⟩
theorem dX6_settle_18 : nv_daload qX6_settle 18 0 19 := Or.inr ⟨0, rfl, by decide +kernel, rfl⟩
theorem dX6_settle_19 : nv_dc qX6_settle 19 (.getfield 156) 3 22 := ⟨by decide +kernel, rfl⟩
theorem dX6_settle_22 : nv_dic qX6_settle 22 .ge 42 25 := ⟨20, by decide +kernel, by decide, rfl⟩
theorem dX6_settle_25 : nv_daload qX6_settle 25 0 26 := Or.inr ⟨0, rfl, by decide +kernel, rfl⟩
theorem dX6_settle_26 : nv_daload qX6_settle 26 1 27 := Or.inr ⟨1, rfl, by decide +kernel, rfl⟩
theorem dX6_settle_27 : nv_daload qX6_settle 27 0 28 := Or.inr ⟨0, rfl, by decide +kernel, rfl⟩
theorem dX6_settle_28 : nv_dc qX6_settle 28 (.getfield 27) 3 31 := ⟨by decide +kernel, rfl⟩
theorem dX6_settle_31 : nv_diload qX6_settle 31 2 32 := Or.inr ⟨2, rfl, by decide +kernel, rfl⟩
theorem dX6_settle_32 : nv_dc qX6_settle 32 (.aaload) 1 33 := ⟨by decide +kernel, rfl⟩
theorem dX6_settle_33 : nv_dc qX6_settle 33 (.invokevirtual 319) 3 36 := ⟨by decide +kernel, rfl⟩
theorem dX6_settle_36 : nv_dc qX6_settle 36 (.iinc 2 1) 3 39 := ⟨by decide +kernel, rfl⟩
theorem dX6_settle_39 : nv_dgo qX6_settle 39 17 := ⟨(-22), by decide +kernel, by decide⟩
theorem dX6_settle_42 : decode qX6_settle.2.1 42 = .ok (.return_, 1) := by decide +kernel
def fc_settle_17  (k1 : Nat)  : Nat → Int32 → nv_Hp → Option (nv_Hp)
  | 0, _, _ => none
  | n + 1, x2, h => (if (h 0 9) ≤ x2 then some h else (if nv_inb x2 10 = true then (Option.bind (fc_settleBargain h k1 (37 + x2.toNatClampNeg)) fun q3 => ((fc_settle_17 k1 n) (x2 + 1) q3)) else none))
set_option maxHeartbeats 2000000 in
theorem tc_settle_17 (G : nv_G)  (k1 : Nat) (hk1 : nv_A 9 k1)  : ∀ (n : Nat) (x2 : Int32) (h : nv_Hp) (r : nv_Hp), fc_settle_17 k1 n x2 h = some r → nv_E G 5 qX6_settle 17 [some (.ref 0), some (.ref k1), some (.int x2)] [] (nv_s h) (none, nv_s r) := by
  intro n
  induction n with
  | zero =>
    intro x2 h r hf
    rw [fc_settle_17] at hf
    cases hf
  | succ n ih =>
    intro x2 h r hf
    rw [fc_settle_17] at hf
    refine nv_iL dX6_settle_17 rfl ?_
    refine nv_aL dX6_settle_18 rfl ?_
    refine nv_tI lf_X6_156 dX6_settle_19 ko_0 rfl ?_
    refine nv_icge dX6_settle_22 (fun c1 => ?_) (fun c1 => ?_)
    · replace hf := nv_ip c1 hf
      obtain rfl := Option.some.inj hf
      exact nv_return dX6_settle_42 rfl
    · replace hf := nv_in c1 hf
      refine nv_aL dX6_settle_25 rfl ?_
      refine nv_aL dX6_settle_26 rfl ?_
      refine nv_aL dX6_settle_27 rfl ?_
      refine nv_tR lf_X6_27 dX6_settle_28 ko_0 rfl ?_
      refine nv_iL dX6_settle_31 rfl ?_
      obtain ⟨g2, hf⟩ := nv_gd hf
      refine nv_aR dX6_settle_32 kr_4 ⟨_, rfl⟩ g2 (nv_q1 _ _) ?_
      obtain ⟨q3, hq3, hf⟩ := nv_bd hf
      refine nv_cVv (tc_settleBargain G h k1 hk1 (37 + x2.toNatClampNeg) (nv_o2 g2) hq3) dX6_settle_33 lm_X6_319 y_qX6_settleBargain ko_0 rfl rfl (by decide) rfl (Nat.le_of_ble_eq_true rfl) ?_
      refine nv_inc dX6_settle_36 rfl (v := 1) (by decide) (by decide) rfl rfl ?_
      refine nv_goto dX6_settle_39 ?_
      exact ih _ _ _ hf
def fc_settle (h : nv_Hp) (k1 : Nat) : Option (nv_Hp) := (nv_lt (nv_cp (h 1) h 8 (Int32.toNatClampNeg 0) (Int32.toNatClampNeg 0) (Int32.toNatClampNeg 8)) fun h1 => (fc_settle_17 k1 nv_fu 0 h1))
set_option maxHeartbeats 2000000 in
theorem tc_settle (G : nv_G) (h : nv_Hp) (k1 : Nat) (hk1 : nv_A 9 k1) {r : nv_Hp} (hf : (fc_settle h k1) = some r) : nv_Mt G 5 qX6_settle [.ref 0, .ref k1] (nv_s h) (none, nv_s r) := by
  refine nv_of (by decide +kernel) (fun ad => Nat.le_of_ble_eq_true rfl) (Nat.le_refl _) (Nat.le_of_ble_eq_true rfl) ?_
  show nv_E G 5 qX6_settle 0 [some (.ref 0), some (.ref k1), none] [] (nv_s h) (none, nv_s r)
  unfold fc_settle at hf
  refine nv_aL dX6_settle_0 rfl ?_
  refine nv_tR lf_X6_9 dX6_settle_1 ko_0 rfl ?_
  refine nv_k dX6_settle_4 ?_
  refine nv_aL dX6_settle_5 rfl ?_
  refine nv_tR lf_X6_49 dX6_settle_6 ko_0 rfl ?_
  refine nv_k dX6_settle_9 ?_
  refine nv_k dX6_settle_10 ?_
  refine nv_copy dX6_settle_12 lcp_X6 (by decide) ka_1 ka_8 (by decide) (by decide) (by decide) (by decide) (by decide) (Nat.le_of_ble_eq_true rfl) ?_
  obtain ⟨h1, eh1, hf⟩ := nv_ltX hf
  rw [eh1]
  clear eh1
  refine nv_k dX6_settle_15 ?_
  refine nv_iS dX6_settle_16 (by decide) rfl rfl ?_
  exact tc_settle_17 G _ hk1 _ _ _ _ hf
/-! WhoseName.end -/
theorem dX6_end_0 : nv_diload qX6_end 0 1 1 := Or.inr ⟨1, rfl, by decide +kernel, rfl⟩
theorem dX6_end_1 : nv_dc qX6_end 1 (.invokestatic 217) 3 4 := ⟨by decide +kernel, rfl⟩
theorem dX6_end_4 : nv_dif qX6_end 4 .eq 14 7 := ⟨10, by decide +kernel, by decide, rfl⟩
theorem dX6_end_7 : nv_diload qX6_end 7 2 8 := Or.inr ⟨2, rfl, by decide +kernel, rfl⟩
theorem dX6_end_8 : nv_dc qX6_end 8 (.invokestatic 129) 3 11 := ⟨by decide +kernel, rfl⟩
theorem dX6_end_11 : nv_dif qX6_end 11 .ne 17 14 := ⟨6, by decide +kernel, by decide, rfl⟩
theorem dX6_end_14 : nv_dk qX6_end 14 (-2) 16 := Or.inr (Or.inl ⟨(-2), ⟨by decide +kernel, rfl⟩, by decide⟩)
theorem dX6_end_16 : decode qX6_end.2.1 16 = .ok (.ireturn, 1) := by decide +kernel
theorem dX6_end_17 : nv_diload qX6_end 17 2 18 := Or.inr ⟨2, rfl, by decide +kernel, rfl⟩
theorem dX6_end_18 : nv_dif qX6_end 18 .ne 31 21 := ⟨13, by decide +kernel, by decide, rfl⟩
theorem dX6_end_21 : nv_diload qX6_end 21 3 22 := Or.inr ⟨3, rfl, by decide +kernel, rfl⟩
theorem dX6_end_22 : nv_dc qX6_end 22 (.invokestatic 70) 3 25 := ⟨by decide +kernel, rfl⟩
theorem dX6_end_25 : nv_dif qX6_end 25 .ne 42 28 := ⟨17, by decide +kernel, by decide, rfl⟩
theorem dX6_end_28 : nv_dgo qX6_end 28 39 := ⟨11, by decide +kernel, by decide⟩
theorem dX6_end_31 : nv_daload qX6_end 31 0 32 := Or.inr ⟨0, rfl, by decide +kernel, rfl⟩
theorem dX6_end_32 : nv_diload qX6_end 32 3 33 := Or.inr ⟨3, rfl, by decide +kernel, rfl⟩
theorem dX6_end_33 : nv_dc qX6_end 33 (.invokevirtual 201) 3 36 := ⟨by decide +kernel, rfl⟩
theorem dX6_end_36 : nv_dif qX6_end 36 .ne 42 39 := ⟨6, by decide +kernel, by decide, rfl⟩
theorem dX6_end_39 : nv_dk qX6_end 39 (-2) 41 := Or.inr (Or.inl ⟨(-2), ⟨by decide +kernel, rfl⟩, by decide⟩)
theorem dX6_end_41 : decode qX6_end.2.1 41 = .ok (.ireturn, 1) := by decide +kernel
theorem dX6_end_42 : nv_daload qX6_end 42 0 43 := Or.inr ⟨0, rfl, by decide +kernel, rfl⟩
theorem dX6_end_43 : nv_daload qX6_end 43 0 44 := Or.inr ⟨0, rfl, by decide +kernel, rfl⟩
theorem dX6_end_44 : nv_dc qX6_end 44 (.getfield 39) 3 47 := ⟨by decide +kernel, rfl⟩
theorem dX6_end_47 : nv_diload qX6_end 47 1 48 := Or.inr ⟨1, rfl, by decide +kernel, rfl⟩
theorem dX6_end_48 : nv_dc qX6_end 48 (.aaload) 1 49 := ⟨by decide +kernel, rfl⟩
theorem dX6_end_49 : nv_dc qX6_end 49 (.getfield 231) 3 52 := ⟨by decide +kernel, rfl⟩
theorem dX6_end_52 : nv_dc qX6_end 52 (.invokevirtual 306) 3 55 := ⟨by decide +kernel, rfl⟩
theorem dX6_end_55 : nv_diload qX6_end 55 2 56 := Or.inr ⟨2, rfl, by decide +kernel, rfl⟩
theorem dX6_end_56 : nv_dif qX6_end 56 .ne 68 59 := ⟨12, by decide +kernel, by decide, rfl⟩
theorem dX6_end_59 : nv_daload qX6_end 59 0 60 := Or.inr ⟨0, rfl, by decide +kernel, rfl⟩
theorem dX6_end_60 : nv_dc qX6_end 60 (.getfield 49) 3 63 := ⟨by decide +kernel, rfl⟩
theorem dX6_end_63 : nv_diload qX6_end 63 3 64 := Or.inr ⟨3, rfl, by decide +kernel, rfl⟩
theorem dX6_end_64 : nv_dc qX6_end 64 (.iaload) 1 65 := ⟨by decide +kernel, rfl⟩
theorem dX6_end_65 : nv_dgo qX6_end 65 74 := ⟨9, by decide +kernel, by decide⟩
theorem dX6_end_68 : nv_daload qX6_end 68 0 69 := Or.inr ⟨0, rfl, by decide +kernel, rfl⟩
theorem dX6_end_69 : nv_dc qX6_end 69 (.getfield 52) 3 72 := ⟨by decide +kernel, rfl⟩
theorem dX6_end_72 : nv_diload qX6_end 72 3 73 := Or.inr ⟨3, rfl, by decide +kernel, rfl⟩
theorem dX6_end_73 : nv_dc qX6_end 73 (.iaload) 1 74 := ⟨by decide +kernel, rfl⟩
theorem dX6_end_74 : decode qX6_end.2.1 74 = .ok (.ireturn, 1) := by decide +kernel
def fc_end_42 (h : nv_Hp) (x1 : Int32) (x2 : Int32) (x3 : Int32)   : Option (Int32 × nv_Hp) := (if nv_inb x1 2 = true then (Option.bind (fc_settle h ((59 + 3 * x1.toNatClampNeg) + 2)) fun q2 => (if x2 = 0 then (if nv_inb x3 8 = true then some ((q2 8 x3.toNatClampNeg), q2) else none) else (if nv_inb x3 10 = true then some ((q2 9 x3.toNatClampNeg), q2) else none))) else none)
set_option maxHeartbeats 2000000 in
theorem tc_end_42 (G : nv_G) (h : nv_Hp) (x1 : Int32) (x2 : Int32) (x3 : Int32)   (r : Int32 × nv_Hp) (hf : fc_end_42 h x1 x2 x3 = some r) : nv_E G 6 qX6_end 42 [some (.ref 0), some (.int x1), some (.int x2), some (.int x3)] [] (nv_s h) (some (.int r.1), nv_s r.2) := by
  unfold fc_end_42 at hf
  refine nv_aL dX6_end_42 rfl ?_
  refine nv_aL dX6_end_43 rfl ?_
  refine nv_tR lf_X6_39 dX6_end_44 ko_0 rfl ?_
  refine nv_iL dX6_end_47 rfl ?_
  obtain ⟨g1, hf⟩ := nv_gd hf
  refine nv_aR dX6_end_48 kr_6 ⟨_, rfl⟩ g1 rfl ?_
  refine nv_gR (t := ((59 + 3 * x1.toNatClampNeg) + 2)) lf_X6_231 dX6_end_49 (nv_o3 g1) rfl ?_
  obtain ⟨q2, hq2, hf⟩ := nv_bd hf
  refine nv_cVv (tc_settle G h ((59 + 3 * x1.toNatClampNeg) + 2) (nv_o3w (nv_o3 g1)) hq2) dX6_end_52 lm_X6_306 y_qX6_settle ko_0 rfl rfl (by decide) rfl (Nat.le_of_ble_eq_true rfl) ?_
  refine nv_iL dX6_end_55 rfl ?_
  refine nv_ifne dX6_end_56 (fun c3 => ?_) (fun c3 => ?_)
  · replace hf := nv_ip c3 hf
    refine nv_aL dX6_end_59 rfl ?_
    refine nv_tR lf_X6_49 dX6_end_60 ko_0 rfl ?_
    refine nv_iL dX6_end_63 rfl ?_
    obtain ⟨g4, hf⟩ := nv_gd hf
    refine nv_aI dX6_end_64 ka_8 g4 rfl ?_
    refine nv_goto dX6_end_65 ?_
    obtain rfl := Option.some.inj hf
    exact nv_ireturnI dX6_end_74 rfl
  · replace hf := nv_in c3 hf
    refine nv_aL dX6_end_68 rfl ?_
    refine nv_tR lf_X6_52 dX6_end_69 ko_0 rfl ?_
    refine nv_iL dX6_end_72 rfl ?_
    obtain ⟨g5, hf⟩ := nv_gd hf
    refine nv_aI dX6_end_73 ka_9 g5 rfl ?_
    obtain rfl := Option.some.inj hf
    exact nv_ireturnI dX6_end_74 rfl
def fc_end (h : nv_Hp) (x1 : Int32) (x2 : Int32) (x3 : Int32) : Option (Int32 × nv_Hp) := (if (fc_isLaw x1) = true then (if (fc_isFlag x2) = true then (if x2 = 0 then (if (fc_isPerson x3) = true then (fc_end_42 h x1 x2 x3) else some ((-2), h)) else (if (fc_isBargain h x3) = true then (fc_end_42 h x1 x2 x3) else some ((-2), h))) else some ((-2), h)) else some ((-2), h))
set_option maxHeartbeats 2000000 in
theorem tc_end (G : nv_G) (h : nv_Hp) (x1 : Int32) (x2 : Int32) (x3 : Int32) {r : Int32 × nv_Hp} (hf : (fc_end h x1 x2 x3) = some r) : nv_Mt G 6 qX6_end [.ref 0, .int x1, .int x2, .int x3] (nv_s h) (some (.int r.1), nv_s r.2) := by
  refine nv_of (by decide +kernel) (fun ad => Nat.le_of_ble_eq_true rfl) (Nat.le_refl _) (Nat.le_of_ble_eq_true rfl) ?_
  show nv_E G 6 qX6_end 0 [some (.ref 0), some (.int x1), some (.int x2), some (.int x3)] [] (nv_s h) (some (.int r.1), nv_s r.2)
  unfold fc_end at hf
  refine nv_iL dX6_end_0 rfl ?_
  refine nv_cSi (tc_isLaw G h x1) dX6_end_1 lm_X6_217 y_qX6_isLaw rfl (by decide) rfl (Nat.le_of_ble_eq_true rfl) ?_
  refine nv_ifeqB dX6_end_4 (fun c1 => ?_) (fun c1 => ?_)
  · replace hf := nv_ip c1 hf
    refine nv_iL dX6_end_7 rfl ?_
    refine nv_cSi (tc_isFlag G h x2) dX6_end_8 lm_X6_129 y_qX6_isFlag rfl (by decide) rfl (Nat.le_of_ble_eq_true rfl) ?_
    refine nv_ifneB dX6_end_11 (fun c2 => ?_) (fun c2 => ?_)
    · replace hf := nv_ip c2 hf
      refine nv_iL dX6_end_17 rfl ?_
      refine nv_ifne dX6_end_18 (fun c3 => ?_) (fun c3 => ?_)
      · replace hf := nv_ip c3 hf
        refine nv_iL dX6_end_21 rfl ?_
        refine nv_cSi (tc_isPerson G h x3) dX6_end_22 lm_X6_70 y_qX6_isPerson rfl (by decide) rfl (Nat.le_of_ble_eq_true rfl) ?_
        refine nv_ifneB dX6_end_25 (fun c4 => ?_) (fun c4 => ?_)
        · replace hf := nv_ip c4 hf
          exact tc_end_42 G _ _ _ _ _ hf
        · replace hf := nv_in c4 hf
          refine nv_goto dX6_end_28 ?_
          refine nv_k dX6_end_39 ?_
          obtain rfl := Option.some.inj hf
          exact nv_ireturnI dX6_end_41 rfl
      · replace hf := nv_in c3 hf
        refine nv_aL dX6_end_31 rfl ?_
        refine nv_iL dX6_end_32 rfl ?_
        refine nv_cVi (tc_isBargain G h x3) dX6_end_33 lm_X6_201 y_qX6_isBargain ko_0 rfl rfl (by decide) rfl (Nat.le_of_ble_eq_true rfl) ?_
        refine nv_ifneB dX6_end_36 (fun c5 => ?_) (fun c5 => ?_)
        · replace hf := nv_ip c5 hf
          exact tc_end_42 G _ _ _ _ _ hf
        · replace hf := nv_in c5 hf
          refine nv_k dX6_end_39 ?_
          obtain rfl := Option.some.inj hf
          exact nv_ireturnI dX6_end_41 rfl
    · replace hf := nv_in c2 hf
      refine nv_k dX6_end_14 ?_
      obtain rfl := Option.some.inj hf
      exact nv_ireturnI dX6_end_16 rfl
  · replace hf := nv_in c1 hf
    refine nv_k dX6_end_14 ?_
    obtain rfl := Option.some.inj hf
    exact nv_ireturnI dX6_end_16 rfl
/-! WhoseName.findOpenBacks -/
theorem dX6_findOpenBacks_0 : nv_daload qX6_findOpenBacks 0 0 1 := Or.inr ⟨0, rfl, by decide +kernel, rfl⟩
theorem dX6_findOpenBacks_1 : nv_dk qX6_findOpenBacks 1 0 2 := Or.inl ⟨0, ⟨by decide +kernel, rfl⟩, by decide⟩
theorem dX6_findOpenBacks_2 : nv_dc qX6_findOpenBacks 2 (.putfield 337) 3 5 := ⟨by decide +kernel, rfl⟩
theorem dX6_findOpenBacks_5 : nv_dk qX6_findOpenBacks 5 0 6 := Or.inl ⟨0, ⟨by decide +kernel, rfl⟩, by decide⟩
theorem dX6_findOpenBacks_6 : nv_distore qX6_findOpenBacks 6 1 7 := Or.inr ⟨1, rfl, by decide +kernel, rfl⟩
theorem dX6_findOpenBacks_7 : nv_diload qX6_findOpenBacks 7 1 8 := Or.inr ⟨1, rfl, by decide +kernel, rfl⟩
theorem dX6_findOpenBacks_8 : nv_daload qX6_findOpenBacks 8 0 9 := Or.inr ⟨0, rfl, by decide +kernel, rfl⟩
theorem dX6_findOpenBacks_9 : nv_dc qX6_findOpenBacks 9 (.getfield 138) 3 12 := ⟨by decide +kernel, rfl⟩
theorem dX6_findOpenBacks_12 : nv_dic qX6_findOpenBacks 12 .ge 63 15 := ⟨51, by decide +kernel, by decide, rfl⟩
theorem dX6_findOpenBacks_15 : nv_daload qX6_findOpenBacks 15 0 16 := Or.inr ⟨0, rfl, by decide +kernel, rfl⟩
theorem dX6_findOpenBacks_16 : nv_dc qX6_findOpenBacks 16 (.getfield 337) 3 19 := ⟨by decide +kernel, rfl⟩
theorem dX6_findOpenBacks_19 : nv_dk qX6_findOpenBacks 19 6 21 := Or.inr (Or.inl ⟨6, ⟨by decide +kernel, rfl⟩, by decide⟩)
theorem dX6_findOpenBacks_21 : nv_dic qX6_findOpenBacks 21 .ge 63 24 := ⟨42, by decide +kernel, by decide, rfl⟩
theorem dX6_findOpenBacks_24 : nv_daload qX6_findOpenBacks 24 0 25 := Or.inr ⟨0, rfl, by decide +kernel, rfl⟩
theorem dX6_findOpenBacks_25 : nv_dc qX6_findOpenBacks 25 (.getfield 21) 3 28 := ⟨by decide +kernel, rfl⟩
theorem dX6_findOpenBacks_28 : nv_diload qX6_findOpenBacks 28 1 29 := Or.inr ⟨1, rfl, by decide +kernel, rfl⟩
theorem dX6_findOpenBacks_29 : nv_dc qX6_findOpenBacks 29 (.aaload) 1 30 := ⟨by decide +kernel, rfl⟩
theorem dX6_findOpenBacks_30 : nv_dc qX6_findOpenBacks 30 (.getfield 150) 3 33 := ⟨by decide +kernel, rfl⟩
theorem dX6_findOpenBacks_33 : nv_dk qX6_findOpenBacks 33 (-1) 34 := Or.inl ⟨(-1), ⟨by decide +kernel, rfl⟩, by decide⟩
theorem dX6_findOpenBacks_34 : nv_dic qX6_findOpenBacks 34 .ne 57 37 := ⟨23, by decide +kernel, by decide, rfl⟩
theorem dX6_findOpenBacks_37 : nv_daload qX6_findOpenBacks 37 0 38 := Or.inr ⟨0, rfl, by decide +kernel, rfl⟩
theorem dX6_findOpenBacks_38 : nv_dc qX6_findOpenBacks 38 (.getfield 58) 3 41 := ⟨by decide +kernel, rfl⟩
theorem dX6_findOpenBacks_41 : nv_daload qX6_findOpenBacks 41 0 42 := Or.inr ⟨0, rfl, by decide +kernel, rfl⟩
theorem dX6_findOpenBacks_42 : nv_dc qX6_findOpenBacks 42 (.getfield 337) 3 45 := ⟨by decide +kernel, rfl⟩
theorem dX6_findOpenBacks_45 : nv_diload qX6_findOpenBacks 45 1 46 := Or.inr ⟨1, rfl, by decide +kernel, rfl⟩
theorem dX6_findOpenBacks_46 : nv_dc qX6_findOpenBacks 46 (.iastore) 1 47 := ⟨by decide +kernel, rfl⟩
theorem dX6_findOpenBacks_47 : nv_daload qX6_findOpenBacks 47 0 48 := Or.inr ⟨0, rfl, by decide +kernel, rfl⟩
theorem dX6_findOpenBacks_48 : nv_dc qX6_findOpenBacks 48 (.dup) 1 49 := ⟨by decide +kernel, rfl⟩
theorem dX6_findOpenBacks_49 : nv_dc qX6_findOpenBacks 49 (.getfield 337) 3 52 := ⟨by decide +kernel, rfl⟩
theorem dX6_findOpenBacks_52 : nv_dk qX6_findOpenBacks 52 1 53 := Or.inl ⟨1, ⟨by decide +kernel, rfl⟩, by decide⟩
theorem dX6_findOpenBacks_53 : nv_dc qX6_findOpenBacks 53 (.iadd) 1 54 := ⟨by decide +kernel, rfl⟩
theorem dX6_findOpenBacks_54 : nv_dc qX6_findOpenBacks 54 (.putfield 337) 3 57 := ⟨by decide +kernel, rfl⟩
theorem dX6_findOpenBacks_57 : nv_dc qX6_findOpenBacks 57 (.iinc 1 1) 3 60 := ⟨by decide +kernel, rfl⟩
theorem dX6_findOpenBacks_60 : nv_dgo qX6_findOpenBacks 60 7 := ⟨(-53), by decide +kernel, by decide⟩
theorem dX6_findOpenBacks_63 : decode qX6_findOpenBacks.2.1 63 = .ok (.return_, 1) := by decide +kernel
def fc_findOpenBacks_7    : Nat → Int32 → nv_Hp → Option (nv_Hp)
  | 0, _, _ => none
  | n + 1, x1, h => (if (h 0 8) ≤ x1 then some h else (if 6 ≤ (h 0 17) then some h else (if nv_inb x1 12 = true then (Option.bind ((if (h (25 + x1.toNatClampNeg) 3) = (-1) then (if nv_inb (h 0 17) 6 = true then some ((nv_up (nv_up h 11 (h 0 17).toNatClampNeg x1) 0 17 (((nv_up h 11 (h 0 17).toNatClampNeg x1) 0 17) + 1))) else none) else some (h)) : Option (nv_Hp)) fun u5 => (fc_findOpenBacks_7 n) (x1 + 1) u5) else none)))
set_option maxHeartbeats 2000000 in
theorem tc_findOpenBacks_7 (G : nv_G)    : ∀ (n : Nat) (x1 : Int32) (h : nv_Hp) (r : nv_Hp), fc_findOpenBacks_7 n x1 h = some r → nv_E G 0 qX6_findOpenBacks 7 [some (.ref 0), some (.int x1)] [] (nv_s h) (none, nv_s r) := by
  intro n
  induction n with
  | zero =>
    intro x1 h r hf
    rw [fc_findOpenBacks_7] at hf
    cases hf
  | succ n ih =>
    intro x1 h r hf
    rw [fc_findOpenBacks_7] at hf
    refine nv_iL dX6_findOpenBacks_7 rfl ?_
    refine nv_aL dX6_findOpenBacks_8 rfl ?_
    refine nv_tI lf_X6_138 dX6_findOpenBacks_9 ko_0 rfl ?_
    refine nv_icge dX6_findOpenBacks_12 (fun c1 => ?_) (fun c1 => ?_)
    · replace hf := nv_ip c1 hf
      obtain rfl := Option.some.inj hf
      exact nv_return dX6_findOpenBacks_63 rfl
    · replace hf := nv_in c1 hf
      refine nv_aL dX6_findOpenBacks_15 rfl ?_
      refine nv_tI lf_X6_337 dX6_findOpenBacks_16 ko_0 rfl ?_
      refine nv_k dX6_findOpenBacks_19 ?_
      refine nv_icge dX6_findOpenBacks_21 (fun c2 => ?_) (fun c2 => ?_)
      · replace hf := nv_ip c2 hf
        obtain rfl := Option.some.inj hf
        exact nv_return dX6_findOpenBacks_63 rfl
      · replace hf := nv_in c2 hf
        refine nv_aL dX6_findOpenBacks_24 rfl ?_
        refine nv_tR lf_X6_21 dX6_findOpenBacks_25 ko_0 rfl ?_
        refine nv_iL dX6_findOpenBacks_28 rfl ?_
        obtain ⟨g3, hf⟩ := nv_gd hf
        refine nv_aR dX6_findOpenBacks_29 kr_3 ⟨_, rfl⟩ g3 (nv_q1 _ _) ?_
        refine nv_gI lf_X6_150 dX6_findOpenBacks_30 (nv_o1 g3) rfl ?_
        refine nv_k dX6_findOpenBacks_33 ?_
        refine nv_icne dX6_findOpenBacks_34 (fun c6 => ?_) (fun c6 => ?_)
        · try simp only [if_pos c6, Option.bind_some] at hf
          refine nv_aL dX6_findOpenBacks_37 rfl ?_
          refine nv_tR lf_X6_58 dX6_findOpenBacks_38 ko_0 rfl ?_
          refine nv_aL dX6_findOpenBacks_41 rfl ?_
          refine nv_tI lf_X6_337 dX6_findOpenBacks_42 ko_0 rfl ?_
          refine nv_iL dX6_findOpenBacks_45 rfl ?_
          have g7 : nv_inb (h 0 17) 6 = true := by
            by_cases g7 : nv_inb (h 0 17) 6 = true
            · exact g7
            · exfalso; simp [if_neg g7] at hf
          simp only [if_pos g7, Option.bind_some] at hf
          refine nv_aP dX6_findOpenBacks_46 ka_11 g7 rfl ?_
          refine nv_aL dX6_findOpenBacks_47 rfl ?_
          refine nv_dup dX6_findOpenBacks_48 rfl ?_
          refine nv_tI lf_X6_337 dX6_findOpenBacks_49 ko_0 rfl ?_
          refine nv_k dX6_findOpenBacks_52 ?_
          refine nv_iadd dX6_findOpenBacks_53 ?_
          refine nv_tP lp_X6_337 dX6_findOpenBacks_54 ko_0 rfl ?_
          refine nv_inc dX6_findOpenBacks_57 rfl (v := 1) (by decide) (by decide) rfl rfl ?_
          refine nv_goto dX6_findOpenBacks_60 ?_
          exact ih _ _ _ hf
        · try simp only [if_neg c6, Option.bind_some] at hf
          refine nv_inc dX6_findOpenBacks_57 rfl (v := 1) (by decide) (by decide) rfl rfl ?_
          refine nv_goto dX6_findOpenBacks_60 ?_
          exact ih _ _ _ hf
def fc_findOpenBacks (h : nv_Hp)  : Option (nv_Hp) := (nv_lt (nv_up h 0 17 0) fun h1 => (fc_findOpenBacks_7 nv_fu 0 h1))
set_option maxHeartbeats 2000000 in
theorem tc_findOpenBacks (G : nv_G) (h : nv_Hp)  {r : nv_Hp} (hf : (fc_findOpenBacks h) = some r) : nv_Mt G 0 qX6_findOpenBacks [.ref 0] (nv_s h) (none, nv_s r) := by
  refine nv_of (by decide +kernel) (fun ad => Nat.le_of_ble_eq_true rfl) (Nat.le_refl _) (Nat.le_of_ble_eq_true rfl) ?_
  show nv_E G 0 qX6_findOpenBacks 0 [some (.ref 0), none] [] (nv_s h) (none, nv_s r)
  unfold fc_findOpenBacks at hf
  refine nv_aL dX6_findOpenBacks_0 rfl ?_
  refine nv_k dX6_findOpenBacks_1 ?_
  refine nv_tP lp_X6_337 dX6_findOpenBacks_2 ko_0 rfl ?_
  obtain ⟨h1, eh1, hf⟩ := nv_ltX hf
  rw [eh1]
  clear eh1
  refine nv_k dX6_findOpenBacks_5 ?_
  refine nv_iS dX6_findOpenBacks_6 (by decide) rfl rfl ?_
  exact tc_findOpenBacks_7 G _ _ _ _ hf
/-! WhoseName.wayOf -/
theorem dX6_wayOf_0 : nv_dk qX6_wayOf 0 0 1 := Or.inl ⟨0, ⟨by decide +kernel, rfl⟩, by decide⟩
theorem dX6_wayOf_1 : nv_distore qX6_wayOf 1 2 2 := Or.inr ⟨2, rfl, by decide +kernel, rfl⟩
theorem dX6_wayOf_2 : nv_dk qX6_wayOf 2 0 3 := Or.inl ⟨0, ⟨by decide +kernel, rfl⟩, by decide⟩
theorem dX6_wayOf_3 : nv_distore qX6_wayOf 3 3 4 := Or.inr ⟨3, rfl, by decide +kernel, rfl⟩
theorem dX6_wayOf_4 : nv_diload qX6_wayOf 4 3 5 := Or.inr ⟨3, rfl, by decide +kernel, rfl⟩
theorem dX6_wayOf_5 : nv_daload qX6_wayOf 5 0 6 := Or.inr ⟨0, rfl, by decide +kernel, rfl⟩
theorem dX6_wayOf_6 : nv_dc qX6_wayOf 6 (.getfield 337) 3 9 := ⟨by decide +kernel, rfl⟩
theorem dX6_wayOf_9 : nv_dic qX6_wayOf 9 .ge 37 12 := ⟨28, by decide +kernel, by decide, rfl⟩
theorem dX6_wayOf_12 : nv_diload qX6_wayOf 12 1 13 := Or.inr ⟨1, rfl, by decide +kernel, rfl⟩
theorem dX6_wayOf_13 : nv_diload qX6_wayOf 13 3 14 := Or.inr ⟨3, rfl, by decide +kernel, rfl⟩
theorem dX6_wayOf_14 : nv_dc qX6_wayOf 14 (.invokestatic 265) 3 17 := ⟨by decide +kernel, rfl⟩
theorem dX6_wayOf_17 : nv_dif qX6_wayOf 17 .eq 31 20 := ⟨14, by decide +kernel, by decide, rfl⟩
theorem dX6_wayOf_20 : nv_diload qX6_wayOf 20 2 21 := Or.inr ⟨2, rfl, by decide +kernel, rfl⟩
theorem dX6_wayOf_21 : nv_dk qX6_wayOf 21 1 22 := Or.inl ⟨1, ⟨by decide +kernel, rfl⟩, by decide⟩
theorem dX6_wayOf_22 : nv_daload qX6_wayOf 22 0 23 := Or.inr ⟨0, rfl, by decide +kernel, rfl⟩
theorem dX6_wayOf_23 : nv_dc qX6_wayOf 23 (.getfield 58) 3 26 := ⟨by decide +kernel, rfl⟩
theorem dX6_wayOf_26 : nv_diload qX6_wayOf 26 3 27 := Or.inr ⟨3, rfl, by decide +kernel, rfl⟩
theorem dX6_wayOf_27 : nv_dc qX6_wayOf 27 (.iaload) 1 28 := ⟨by decide +kernel, rfl⟩
theorem dX6_wayOf_28 : nv_dc qX6_wayOf 28 (.ishl) 1 29 := ⟨by decide +kernel, rfl⟩
theorem dX6_wayOf_29 : nv_dc qX6_wayOf 29 (.ior) 1 30 := ⟨by decide +kernel, rfl⟩
theorem dX6_wayOf_30 : nv_distore qX6_wayOf 30 2 31 := Or.inr ⟨2, rfl, by decide +kernel, rfl⟩
theorem dX6_wayOf_31 : nv_dc qX6_wayOf 31 (.iinc 3 1) 3 34 := ⟨by decide +kernel, rfl⟩
theorem dX6_wayOf_34 : nv_dgo qX6_wayOf 34 4 := ⟨(-30), by decide +kernel, by decide⟩
theorem dX6_wayOf_37 : nv_diload qX6_wayOf 37 2 38 := Or.inr ⟨2, rfl, by decide +kernel, rfl⟩
theorem dX6_wayOf_38 : decode qX6_wayOf.2.1 38 = .ok (.ireturn, 1) := by decide +kernel
def fc_wayOf_4 (h : nv_Hp) (x1 : Int32)  : Nat → Int32 → Int32 → Option (Int32)
  | 0, _, _ => none
  | n + 1, x2, x3 => (if (h 0 17) ≤ x3 then some x2 else (Option.bind ((if (fc_hasBit x1 x3) = true then (if nv_inb x3 6 = true then some ((x2 ||| (1 <<< ((h 11 x3.toNatClampNeg) &&& 31)))) else none) else some (x2)) : Option (Int32)) fun u3 => (fc_wayOf_4 h x1 n) u3 (x3 + 1)))
set_option maxHeartbeats 2000000 in
theorem tc_wayOf_4 (G : nv_G) (h : nv_Hp) (x1 : Int32)  : ∀ (n : Nat) (x2 : Int32) (x3 : Int32) (r : Int32), fc_wayOf_4 h x1 n x2 x3 = some r → nv_E G 1 qX6_wayOf 4 [some (.ref 0), some (.int x1), some (.int x2), some (.int x3)] [] (nv_s h) (some (.int r), nv_s h) := by
  intro n
  induction n with
  | zero =>
    intro x2 x3 r hf
    rw [fc_wayOf_4] at hf
    cases hf
  | succ n ih =>
    intro x2 x3 r hf
    rw [fc_wayOf_4] at hf
    refine nv_iL dX6_wayOf_4 rfl ?_
    refine nv_aL dX6_wayOf_5 rfl ?_
    refine nv_tI lf_X6_337 dX6_wayOf_6 ko_0 rfl ?_
    refine nv_icge dX6_wayOf_9 (fun c1 => ?_) (fun c1 => ?_)
    · replace hf := nv_ip c1 hf
      refine nv_iL dX6_wayOf_37 rfl ?_
      obtain rfl := Option.some.inj hf
      exact nv_ireturnI dX6_wayOf_38 rfl
    · replace hf := nv_in c1 hf
      refine nv_iL dX6_wayOf_12 rfl ?_
      refine nv_iL dX6_wayOf_13 rfl ?_
      refine nv_cSi (tc_hasBit G h x1 x3) dX6_wayOf_14 lm_X6_265 y_qX6_hasBit rfl (by decide) rfl (Nat.le_of_ble_eq_true rfl) ?_
      refine nv_ifeqB dX6_wayOf_17 (fun c4 => ?_) (fun c4 => ?_)
      · try simp only [if_pos c4, Option.bind_some] at hf
        refine nv_iL dX6_wayOf_20 rfl ?_
        refine nv_k dX6_wayOf_21 ?_
        refine nv_aL dX6_wayOf_22 rfl ?_
        refine nv_tR lf_X6_58 dX6_wayOf_23 ko_0 rfl ?_
        refine nv_iL dX6_wayOf_26 rfl ?_
        have g5 : nv_inb x3 6 = true := by
          by_cases g5 : nv_inb x3 6 = true
          · exact g5
          · exfalso; simp [if_neg g5] at hf
        simp only [if_pos g5, Option.bind_some] at hf
        refine nv_aI dX6_wayOf_27 ka_11 g5 rfl ?_
        refine nv_ishl dX6_wayOf_28 ?_
        refine nv_ior dX6_wayOf_29 ?_
        refine nv_iS dX6_wayOf_30 (by decide) rfl rfl ?_
        refine nv_inc dX6_wayOf_31 rfl (v := 1) (by decide) (by decide) rfl rfl ?_
        refine nv_goto dX6_wayOf_34 ?_
        exact ih _ _ _ hf
      · try simp only [if_neg c4, Option.bind_some] at hf
        refine nv_inc dX6_wayOf_31 rfl (v := 1) (by decide) (by decide) rfl rfl ?_
        refine nv_goto dX6_wayOf_34 ?_
        exact ih _ _ _ hf
def fc_wayOf (h : nv_Hp) (x1 : Int32) : Option (Int32) := (fc_wayOf_4 h x1 nv_fu 0 0)
set_option maxHeartbeats 2000000 in
theorem tc_wayOf (G : nv_G) (h : nv_Hp) (x1 : Int32) {r : Int32} (hf : (fc_wayOf h x1) = some r) : nv_Mt G 1 qX6_wayOf [.ref 0, .int x1] (nv_s h) (some (.int r), nv_s h) := by
  refine nv_of (by decide +kernel) (fun ad => Nat.le_of_ble_eq_true rfl) (Nat.le_refl _) (Nat.le_of_ble_eq_true rfl) ?_
  show nv_E G 1 qX6_wayOf 0 [some (.ref 0), some (.int x1), none, none] [] (nv_s h) (some (.int r), nv_s h)
  unfold fc_wayOf at hf
  refine nv_k dX6_wayOf_0 ?_
  refine nv_iS dX6_wayOf_1 (by decide) rfl rfl ?_
  refine nv_k dX6_wayOf_2 ?_
  refine nv_iS dX6_wayOf_3 (by decide) rfl rfl ?_
  exact tc_wayOf_4 G _ _ _ _ _ _ hf
