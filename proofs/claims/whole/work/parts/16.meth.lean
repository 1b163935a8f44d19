/-! WhoseNameModel.isPerson -/
theorem dX7_isPerson_0 : nv_diload qX7_isPerson 0 0 1 := Or.inr ⟨0, rfl, by decide +kernel, rfl⟩
theorem dX7_isPerson_1 : nv_dc qX7_isPerson 1 (.i2l) 1 2 := ⟨by decide +kernel, rfl⟩
theorem dX7_isPerson_2 : nv_dc qX7_isPerson 2 (.lconst 0) 1 3 := ⟨by decide +kernel, rfl⟩
theorem dX7_isPerson_3 : nv_dc qX7_isPerson 3 (.ldc2_w 156) 3 6 := ⟨by decide +kernel, rfl⟩
theorem dX7_isPerson_6 : nv_dc qX7_isPerson 6 (.invokestatic 127) 3 9 := ⟨by decide +kernel, rfl⟩
theorem dX7_isPerson_9 : decode qX7_isPerson.2.1 9 = .ok (.ireturn, 1) := by decide +kernel
def pm_isPerson (x0 : Int32) : Bool := (pm_in (Int32.toInt64 x0) 0 7)
set_option maxHeartbeats 2000000 in
theorem tm_isPerson (G : nv_G) (h : nv_Hp) (x0 : Int32) : nv_Mt G 1 qX7_isPerson [.int x0] (nv_s h) (some (.int (nv_bi (pm_isPerson x0))), nv_s h) := by
  refine nv_of (by decide +kernel) (fun ad => Nat.le_of_ble_eq_true rfl) (Nat.le_refl _) (Nat.le_of_ble_eq_true rfl) ?_
  show nv_E G 1 qX7_isPerson 0 [some (.int x0)] [] (nv_s h) (some (.int (nv_bi (pm_isPerson x0))), nv_s h)
  generalize hf : (pm_isPerson x0) = r
  unfold pm_isPerson at hf
  refine nv_iL dX7_isPerson_0 rfl ?_
  refine nv_i2l dX7_isPerson_1 ?_
  refine nv_lconst dX7_isPerson_2 (v := 0) (by decide) ?_
  refine nv_ldc2 dX7_isPerson_3 lc_X7_156 ?_
  refine nv_cSi (tm_in G h (Int32.toInt64 x0) 0 7) dX7_isPerson_6 lm_X7_127 y_qX7_in rfl (by decide) rfl (Nat.le_of_ble_eq_true rfl) ?_
  subst hf
  exact nv_ireturnB (b := (pm_in (Int32.toInt64 x0) 0 7)) dX7_isPerson_9 rfl
/-! WhoseNameModel.isDay -/
theorem dX7_isDay_0 : nv_diload qX7_isDay 0 0 1 := Or.inr ⟨0, rfl, by decide +kernel, rfl⟩
theorem dX7_isDay_1 : nv_dc qX7_isDay 1 (.i2l) 1 2 := ⟨by decide +kernel, rfl⟩
theorem dX7_isDay_2 : nv_dc qX7_isDay 2 (.lconst 0) 1 3 := ⟨by decide +kernel, rfl⟩
theorem dX7_isDay_3 : nv_dc qX7_isDay 3 (.ldc2_w 158) 3 6 := ⟨by decide +kernel, rfl⟩
theorem dX7_isDay_6 : nv_dc qX7_isDay 6 (.invokestatic 127) 3 9 := ⟨by decide +kernel, rfl⟩
theorem dX7_isDay_9 : decode qX7_isDay.2.1 9 = .ok (.ireturn, 1) := by decide +kernel
def pm_isDay (x0 : Int32) : Bool := (pm_in (Int32.toInt64 x0) 0 99)
set_option maxHeartbeats 2000000 in
theorem tm_isDay (G : nv_G) (h : nv_Hp) (x0 : Int32) : nv_Mt G 1 qX7_isDay [.int x0] (nv_s h) (some (.int (nv_bi (pm_isDay x0))), nv_s h) := by
  refine nv_of (by decide +kernel) (fun ad => Nat.le_of_ble_eq_true rfl) (Nat.le_refl _) (Nat.le_of_ble_eq_true rfl) ?_
  show nv_E G 1 qX7_isDay 0 [some (.int x0)] [] (nv_s h) (some (.int (nv_bi (pm_isDay x0))), nv_s h)
  generalize hf : (pm_isDay x0) = r
  unfold pm_isDay at hf
  refine nv_iL dX7_isDay_0 rfl ?_
  refine nv_i2l dX7_isDay_1 ?_
  refine nv_lconst dX7_isDay_2 (v := 0) (by decide) ?_
  refine nv_ldc2 dX7_isDay_3 lc_X7_158 ?_
  refine nv_cSi (tm_in G h (Int32.toInt64 x0) 0 99) dX7_isDay_6 lm_X7_127 y_qX7_in rfl (by decide) rfl (Nat.le_of_ble_eq_true rfl) ?_
  subst hf
  exact nv_ireturnB (b := (pm_in (Int32.toInt64 x0) 0 99)) dX7_isDay_9 rfl
/-! WhoseNameModel.purse -/
theorem dX7_purse_0 : nv_diload qX7_purse 0 1 1 := Or.inr ⟨1, rfl, by decide +kernel, rfl⟩
theorem dX7_purse_1 : nv_dc qX7_purse 1 (.invokestatic 160) 3 4 := ⟨by decide +kernel, rfl⟩
theorem dX7_purse_4 : nv_dif qX7_purse 4 .eq 19 7 := ⟨15, by decide +kernel, by decide, rfl⟩
theorem dX7_purse_7 : nv_diload qX7_purse 7 2 8 := Or.inr ⟨2, rfl, by decide +kernel, rfl⟩
theorem dX7_purse_8 : nv_dc qX7_purse 8 (.i2l) 1 9 := ⟨by decide +kernel, rfl⟩
theorem dX7_purse_9 : nv_dc qX7_purse 9 (.lconst 0) 1 10 := ⟨by decide +kernel, rfl⟩
theorem dX7_purse_10 : nv_dc qX7_purse 10 (.ldc2_w 163) 3 13 := ⟨by decide +kernel, rfl⟩
theorem dX7_purse_13 : nv_dc qX7_purse 13 (.invokestatic 127) 3 16 := ⟨by decide +kernel, rfl⟩
theorem dX7_purse_16 : nv_dif qX7_purse 16 .ne 22 19 := ⟨6, by decide +kernel, by decide, rfl⟩
theorem dX7_purse_19 : nv_dk qX7_purse 19 (-2) 21 := Or.inr (Or.inl ⟨(-2), ⟨by decide +kernel, rfl⟩, by decide⟩)
theorem dX7_purse_21 : decode qX7_purse.2.1 21 = .ok (.ireturn, 1) := by decide +kernel
theorem dX7_purse_22 : nv_daload qX7_purse 22 0 23 := Or.inr ⟨0, rfl, by decide +kernel, rfl⟩
theorem dX7_purse_23 : nv_dc qX7_purse 23 (.getfield 22) 3 26 := ⟨by decide +kernel, rfl⟩
theorem dX7_purse_26 : nv_diload qX7_purse 26 1 27 := Or.inr ⟨1, rfl, by decide +kernel, rfl⟩
theorem dX7_purse_27 : nv_dc qX7_purse 27 (.iaload) 1 28 := ⟨by decide +kernel, rfl⟩
theorem dX7_purse_28 : nv_distore qX7_purse 28 3 29 := Or.inr ⟨3, rfl, by decide +kernel, rfl⟩
theorem dX7_purse_29 : nv_daload qX7_purse 29 0 30 := Or.inr ⟨0, rfl, by decide +kernel, rfl⟩
theorem dX7_purse_30 : nv_dc qX7_purse 30 (.getfield 22) 3 33 := ⟨by decide +kernel, rfl⟩
theorem dX7_purse_33 : nv_diload qX7_purse 33 1 34 := Or.inr ⟨1, rfl, by decide +kernel, rfl⟩
theorem dX7_purse_34 : nv_diload qX7_purse 34 2 35 := Or.inr ⟨2, rfl, by decide +kernel, rfl⟩
theorem dX7_purse_35 : nv_dc qX7_purse 35 (.iastore) 1 36 := ⟨by decide +kernel, rfl⟩
theorem dX7_purse_36 : nv_diload qX7_purse 36 3 37 := Or.inr ⟨3, rfl, by decide +kernel, rfl⟩
theorem dX7_purse_37 : decode qX7_purse.2.1 37 = .ok (.ireturn, 1) := by decide +kernel
def pm_purse (h : nv_Hp) (x1 : Int32) (x2 : Int32) : Option (Int32 × nv_Hp) := (if (pm_isPerson x1) = true then (if (pm_in (Int32.toInt64 x2) 0 9999) = true then (if nv_inb x1 8 = true then (nv_lt ((h 78 x1.toNatClampNeg)) fun v4 => (nv_lt (nv_up h 78 x1.toNatClampNeg x2) fun h5 => some (v4, h5))) else none) else some ((-2), h)) else some ((-2), h))
set_option maxHeartbeats 2000000 in
theorem tm_purse (G : nv_G) (h : nv_Hp) (x1 : Int32) (x2 : Int32) {r : Int32 × nv_Hp} (hf : (pm_purse h x1 x2) = some r) : nv_Mt G 2 qX7_purse [.ref 73, .int x1, .int x2] (nv_s h) (some (.int r.1), nv_s r.2) := by
  refine nv_of (by decide +kernel) (fun ad => Nat.le_of_ble_eq_true rfl) (Nat.le_refl _) (Nat.le_of_ble_eq_true rfl) ?_
  show nv_E G 2 qX7_purse 0 [some (.ref 73), some (.int x1), some (.int x2), none] [] (nv_s h) (some (.int r.1), nv_s r.2)
  unfold pm_purse at hf
  refine nv_iL dX7_purse_0 rfl ?_
  refine nv_cSi (tm_isPerson G h x1) dX7_purse_1 lm_X7_160 y_qX7_isPerson rfl (by decide) rfl (Nat.le_of_ble_eq_true rfl) ?_
  refine nv_ifeqB dX7_purse_4 (fun c1 => ?_) (fun c1 => ?_)
  · replace hf := nv_ip c1 hf
    refine nv_iL dX7_purse_7 rfl ?_
    refine nv_i2l dX7_purse_8 ?_
    refine nv_lconst dX7_purse_9 (v := 0) (by decide) ?_
    refine nv_ldc2 dX7_purse_10 lc_X7_163 ?_
    refine nv_cSi (tm_in G h (Int32.toInt64 x2) 0 9999) dX7_purse_13 lm_X7_127 y_qX7_in rfl (by decide) rfl (Nat.le_of_ble_eq_true rfl) ?_
    refine nv_ifneB dX7_purse_16 (fun c2 => ?_) (fun c2 => ?_)
    · replace hf := nv_ip c2 hf
      refine nv_aL dX7_purse_22 rfl ?_
      refine nv_tR lf_X7_22 dX7_purse_23 ko_73 rfl ?_
      refine nv_iL dX7_purse_26 rfl ?_
      obtain ⟨g3, hf⟩ := nv_gd hf
      refine nv_aI dX7_purse_27 ka_78 g3 rfl ?_
      obtain ⟨v4, ev4, hf⟩ := nv_ltX hf
      rw [ev4]
      clear ev4
      refine nv_iS dX7_purse_28 (by decide) rfl rfl ?_
      refine nv_aL dX7_purse_29 rfl ?_
      refine nv_tR lf_X7_22 dX7_purse_30 ko_73 rfl ?_
      refine nv_iL dX7_purse_33 rfl ?_
      refine nv_iL dX7_purse_34 rfl ?_
      refine nv_aP dX7_purse_35 ka_78 g3 rfl ?_
      obtain ⟨h5, eh5, hf⟩ := nv_ltX hf
      rw [eh5]
      clear eh5
      refine nv_iL dX7_purse_36 rfl ?_
      obtain rfl := Option.some.inj hf
      exact nv_ireturnI dX7_purse_37 rfl
    · replace hf := nv_in c2 hf
      refine nv_k dX7_purse_19 ?_
      obtain rfl := Option.some.inj hf
      exact nv_ireturnI dX7_purse_21 rfl
  · replace hf := nv_in c1 hf
    refine nv_k dX7_purse_19 ?_
    obtain rfl := Option.some.inj hf
    exact nv_ireturnI dX7_purse_21 rfl
/-! WhoseNameModel.isLeave -/
theorem dX7_isLeave_0 : nv_diload qX7_isLeave 0 1 1 := Or.inr ⟨1, rfl, by decide +kernel, rfl⟩
theorem dX7_isLeave_1 : nv_dc qX7_isLeave 1 (.i2l) 1 2 := ⟨by decide +kernel, rfl⟩
theorem dX7_isLeave_2 : nv_dc qX7_isLeave 2 (.lconst 0) 1 3 := ⟨by decide +kernel, rfl⟩
theorem dX7_isLeave_3 : nv_daload qX7_isLeave 3 0 4 := Or.inr ⟨0, rfl, by decide +kernel, rfl⟩
theorem dX7_isLeave_4 : nv_dc qX7_isLeave 4 (.getfield 165) 3 7 := ⟨by decide +kernel, rfl⟩
theorem dX7_isLeave_7 : nv_dk qX7_isLeave 7 1 8 := Or.inl ⟨1, ⟨by decide +kernel, rfl⟩, by decide⟩
theorem dX7_isLeave_8 : nv_dc qX7_isLeave 8 (.isub) 1 9 := ⟨by decide +kernel, rfl⟩
theorem dX7_isLeave_9 : nv_dc qX7_isLeave 9 (.i2l) 1 10 := ⟨by decide +kernel, rfl⟩
theorem dX7_isLeave_10 : nv_dc qX7_isLeave 10 (.invokestatic 127) 3 13 := ⟨by decide +kernel, rfl⟩
theorem dX7_isLeave_13 : decode qX7_isLeave.2.1 13 = .ok (.ireturn, 1) := by decide +kernel
def pm_isLeave (h : nv_Hp) (x1 : Int32) : Bool := (pm_in (Int32.toInt64 x1) 0 (Int32.toInt64 ((h 73 6) - 1)))
set_option maxHeartbeats 2000000 in
theorem tm_isLeave (G : nv_G) (h : nv_Hp) (x1 : Int32) : nv_Mt G 1 qX7_isLeave [.ref 73, .int x1] (nv_s h) (some (.int (nv_bi (pm_isLeave h x1))), nv_s h) := by
  refine nv_of (by decide +kernel) (fun ad => Nat.le_of_ble_eq_true rfl) (Nat.le_refl _) (Nat.le_of_ble_eq_true rfl) ?_
  show nv_E G 1 qX7_isLeave 0 [some (.ref 73), some (.int x1)] [] (nv_s h) (some (.int (nv_bi (pm_isLeave h x1))), nv_s h)
  generalize hf : (pm_isLeave h x1) = r
  unfold pm_isLeave at hf
  refine nv_iL dX7_isLeave_0 rfl ?_
  refine nv_i2l dX7_isLeave_1 ?_
  refine nv_lconst dX7_isLeave_2 (v := 0) (by decide) ?_
  refine nv_aL dX7_isLeave_3 rfl ?_
  refine nv_tI lf_X7_165 dX7_isLeave_4 ko_73 rfl ?_
  refine nv_k dX7_isLeave_7 ?_
  refine nv_isub dX7_isLeave_8 ?_
  refine nv_i2l dX7_isLeave_9 ?_
  refine nv_cSi (tm_in G h (Int32.toInt64 x1) 0 (Int32.toInt64 ((h 73 6) - 1))) dX7_isLeave_10 lm_X7_127 y_qX7_in rfl (by decide) rfl (Nat.le_of_ble_eq_true rfl) ?_
  subst hf
  exact nv_ireturnB (b := (pm_in (Int32.toInt64 x1) 0 (Int32.toInt64 ((h 73 6) - 1)))) dX7_isLeave_13 rfl
/-! WhoseNameModel.isGiven -/
theorem dX7_isGiven_0 : nv_diload qX7_isGiven 0 1 1 := Or.inr ⟨1, rfl, by decide +kernel, rfl⟩
theorem dX7_isGiven_1 : nv_dc qX7_isGiven 1 (.i2l) 1 2 := ⟨by decide +kernel, rfl⟩
theorem dX7_isGiven_2 : nv_dc qX7_isGiven 2 (.lconst 0) 1 3 := ⟨by decide +kernel, rfl⟩
theorem dX7_isGiven_3 : nv_dc qX7_isGiven 3 (.ldc2_w 135) 3 6 := ⟨by decide +kernel, rfl⟩
theorem dX7_isGiven_6 : nv_dc qX7_isGiven 6 (.invokestatic 127) 3 9 := ⟨by decide +kernel, rfl⟩
theorem dX7_isGiven_9 : nv_dif qX7_isGiven 9 .eq 19 12 := ⟨10, by decide +kernel, by decide, rfl⟩
theorem dX7_isGiven_12 : nv_diload qX7_isGiven 12 3 13 := Or.inr ⟨3, rfl, by decide +kernel, rfl⟩
theorem dX7_isGiven_13 : nv_dc qX7_isGiven 13 (.invokestatic 160) 3 16 := ⟨by decide +kernel, rfl⟩
theorem dX7_isGiven_16 : nv_dif qX7_isGiven 16 .ne 21 19 := ⟨5, by decide +kernel, by decide, rfl⟩
theorem dX7_isGiven_19 : nv_dk qX7_isGiven 19 0 20 := Or.inl ⟨0, ⟨by decide +kernel, rfl⟩, by decide⟩
theorem dX7_isGiven_20 : decode qX7_isGiven.2.1 20 = .ok (.ireturn, 1) := by decide +kernel
theorem dX7_isGiven_21 : nv_diload qX7_isGiven 21 1 22 := Or.inr ⟨1, rfl, by decide +kernel, rfl⟩
theorem dX7_isGiven_22 : nv_dk qX7_isGiven 22 3 23 := Or.inl ⟨3, ⟨by decide +kernel, rfl⟩, by decide⟩
theorem dX7_isGiven_23 : nv_dic qX7_isGiven 23 .ne 99 26 := ⟨76, by decide +kernel, by decide, rfl⟩
theorem dX7_isGiven_26 : nv_daload qX7_isGiven 26 0 27 := Or.inr ⟨0, rfl, by decide +kernel, rfl⟩
theorem dX7_isGiven_27 : nv_diload qX7_isGiven 27 2 28 := Or.inr ⟨2, rfl, by decide +kernel, rfl⟩
theorem dX7_isGiven_28 : nv_dc qX7_isGiven 28 (.invokevirtual 168) 3 31 := ⟨by decide +kernel, rfl⟩
theorem dX7_isGiven_31 : nv_dif qX7_isGiven 31 .eq 75 34 := ⟨44, by decide +kernel, by decide, rfl⟩
theorem dX7_isGiven_34 : nv_diload qX7_isGiven 34 4 36 := Or.inl ⟨by decide +kernel, rfl⟩
theorem dX7_isGiven_36 : nv_dc qX7_isGiven 36 (.invokestatic 171) 3 39 := ⟨by decide +kernel, rfl⟩
theorem dX7_isGiven_39 : nv_dif qX7_isGiven 39 .eq 75 42 := ⟨36, by decide +kernel, by decide, rfl⟩
theorem dX7_isGiven_42 : nv_daload qX7_isGiven 42 0 43 := Or.inr ⟨0, rfl, by decide +kernel, rfl⟩
theorem dX7_isGiven_43 : nv_dc qX7_isGiven 43 (.getfield 25) 3 46 := ⟨by decide +kernel, rfl⟩
theorem dX7_isGiven_46 : nv_diload qX7_isGiven 46 2 47 := Or.inr ⟨2, rfl, by decide +kernel, rfl⟩
theorem dX7_isGiven_47 : nv_dc qX7_isGiven 47 (.iaload) 1 48 := ⟨by decide +kernel, rfl⟩
theorem dX7_isGiven_48 : nv_dif qX7_isGiven 48 .eq 61 51 := ⟨13, by decide +kernel, by decide, rfl⟩
theorem dX7_isGiven_51 : nv_daload qX7_isGiven 51 0 52 := Or.inr ⟨0, rfl, by decide +kernel, rfl⟩
theorem dX7_isGiven_52 : nv_dc qX7_isGiven 52 (.getfield 25) 3 55 := ⟨by decide +kernel, rfl⟩
theorem dX7_isGiven_55 : nv_diload qX7_isGiven 55 2 56 := Or.inr ⟨2, rfl, by decide +kernel, rfl⟩
theorem dX7_isGiven_56 : nv_dc qX7_isGiven 56 (.iaload) 1 57 := ⟨by decide +kernel, rfl⟩
theorem dX7_isGiven_57 : nv_dk qX7_isGiven 57 3 58 := Or.inl ⟨3, ⟨by decide +kernel, rfl⟩, by decide⟩
theorem dX7_isGiven_58 : nv_dic qX7_isGiven 58 .ne 75 61 := ⟨17, by decide +kernel, by decide, rfl⟩
theorem dX7_isGiven_61 : nv_daload qX7_isGiven 61 0 62 := Or.inr ⟨0, rfl, by decide +kernel, rfl⟩
theorem dX7_isGiven_62 : nv_dc qX7_isGiven 62 (.getfield 34) 3 65 := ⟨by decide +kernel, rfl⟩
theorem dX7_isGiven_65 : nv_diload qX7_isGiven 65 2 66 := Or.inr ⟨2, rfl, by decide +kernel, rfl⟩
theorem dX7_isGiven_66 : nv_dc qX7_isGiven 66 (.iaload) 1 67 := ⟨by decide +kernel, rfl⟩
theorem dX7_isGiven_67 : nv_dk qX7_isGiven 67 1 68 := Or.inl ⟨1, ⟨by decide +kernel, rfl⟩, by decide⟩
theorem dX7_isGiven_68 : nv_dic qX7_isGiven 68 .ne 75 71 := ⟨7, by decide +kernel, by decide, rfl⟩
theorem dX7_isGiven_71 : nv_dk qX7_isGiven 71 1 72 := Or.inl ⟨1, ⟨by decide +kernel, rfl⟩, by decide⟩
theorem dX7_isGiven_72 : nv_dgo qX7_isGiven 72 76 := ⟨4, by decide +kernel, by decide⟩
theorem dX7_isGiven_75 : nv_dk qX7_isGiven 75 0 76 := Or.inl ⟨0, ⟨by decide +kernel, rfl⟩, by decide⟩
theorem dX7_isGiven_76 : nv_distore qX7_isGiven 76 5 78 := Or.inl ⟨by decide +kernel, rfl⟩
theorem dX7_isGiven_78 : nv_diload qX7_isGiven 78 5 80 := Or.inl ⟨by decide +kernel, rfl⟩
theorem dX7_isGiven_80 : nv_dif qX7_isGiven 80 .eq 97 83 := ⟨17, by decide +kernel, by decide, rfl⟩
theorem dX7_isGiven_83 : nv_daload qX7_isGiven 83 0 84 := Or.inr ⟨0, rfl, by decide +kernel, rfl⟩
theorem dX7_isGiven_84 : nv_dc qX7_isGiven 84 (.getfield 31) 3 87 := ⟨by decide +kernel, rfl⟩
theorem dX7_isGiven_87 : nv_diload qX7_isGiven 87 2 88 := Or.inr ⟨2, rfl, by decide +kernel, rfl⟩
theorem dX7_isGiven_88 : nv_dc qX7_isGiven 88 (.iaload) 1 89 := ⟨by decide +kernel, rfl⟩
theorem dX7_isGiven_89 : nv_diload qX7_isGiven 89 3 90 := Or.inr ⟨3, rfl, by decide +kernel, rfl⟩
theorem dX7_isGiven_90 : nv_dic qX7_isGiven 90 .eq 97 93 := ⟨7, by decide +kernel, by decide, rfl⟩
theorem dX7_isGiven_93 : nv_dk qX7_isGiven 93 1 94 := Or.inl ⟨1, ⟨by decide +kernel, rfl⟩, by decide⟩
theorem dX7_isGiven_94 : nv_dgo qX7_isGiven 94 98 := ⟨4, by decide +kernel, by decide⟩
theorem dX7_isGiven_97 : nv_dk qX7_isGiven 97 0 98 := Or.inl ⟨0, ⟨by decide +kernel, rfl⟩, by decide⟩
theorem dX7_isGiven_98 : decode qX7_isGiven.2.1 98 = .ok (.ireturn, 1) := by decide +kernel
theorem dX7_isGiven_99 : nv_diload qX7_isGiven 99 2 100 := Or.inr ⟨2, rfl, by decide +kernel, rfl⟩
theorem dX7_isGiven_100 : nv_dc qX7_isGiven 100 (.invokestatic 160) 3 103 := ⟨by decide +kernel, rfl⟩
theorem dX7_isGiven_103 : nv_dif qX7_isGiven 103 .eq 111 106 := ⟨8, by decide +kernel, by decide, rfl⟩
theorem dX7_isGiven_106 : nv_diload qX7_isGiven 106 2 107 := Or.inr ⟨2, rfl, by decide +kernel, rfl⟩
theorem dX7_isGiven_107 : nv_diload qX7_isGiven 107 3 108 := Or.inr ⟨3, rfl, by decide +kernel, rfl⟩
theorem dX7_isGiven_108 : nv_dic qX7_isGiven 108 .ne 113 111 := ⟨5, by decide +kernel, by decide, rfl⟩
theorem dX7_isGiven_111 : nv_dk qX7_isGiven 111 0 112 := Or.inl ⟨0, ⟨by decide +kernel, rfl⟩, by decide⟩
theorem dX7_isGiven_112 : decode qX7_isGiven.2.1 112 = .ok (.ireturn, 1) := by decide +kernel
theorem dX7_isGiven_113 : nv_diload qX7_isGiven 113 1 114 := Or.inr ⟨1, rfl, by decide +kernel, rfl⟩
theorem dX7_isGiven_114 : nv_dif qX7_isGiven 114 .ne 125 117 := ⟨11, by decide +kernel, by decide, rfl⟩
theorem dX7_isGiven_117 : nv_diload qX7_isGiven 117 4 119 := Or.inl ⟨by decide +kernel, rfl⟩
theorem dX7_isGiven_119 : nv_dc qX7_isGiven 119 (.invokestatic 171) 3 122 := ⟨by decide +kernel, rfl⟩
theorem dX7_isGiven_122 : nv_dgo qX7_isGiven 122 168 := ⟨46, by decide +kernel, by decide⟩
theorem dX7_isGiven_125 : nv_diload qX7_isGiven 125 1 126 := Or.inr ⟨1, rfl, by decide +kernel, rfl⟩
theorem dX7_isGiven_126 : nv_dk qX7_isGiven 126 1 127 := Or.inl ⟨1, ⟨by decide +kernel, rfl⟩, by decide⟩
theorem dX7_isGiven_127 : nv_dic qX7_isGiven 127 .ne 143 130 := ⟨16, by decide +kernel, by decide, rfl⟩
theorem dX7_isGiven_130 : nv_diload qX7_isGiven 130 4 132 := Or.inl ⟨by decide +kernel, rfl⟩
theorem dX7_isGiven_132 : nv_dif qX7_isGiven 132 .ne 139 135 := ⟨7, by decide +kernel, by decide, rfl⟩
theorem dX7_isGiven_135 : nv_dk qX7_isGiven 135 1 136 := Or.inl ⟨1, ⟨by decide +kernel, rfl⟩, by decide⟩
theorem dX7_isGiven_136 : nv_dgo qX7_isGiven 136 168 := ⟨32, by decide +kernel, by decide⟩
theorem dX7_isGiven_139 : nv_dk qX7_isGiven 139 0 140 := Or.inl ⟨0, ⟨by decide +kernel, rfl⟩, by decide⟩
theorem dX7_isGiven_140 : nv_dgo qX7_isGiven 140 168 := ⟨28, by decide +kernel, by decide⟩
theorem dX7_isGiven_143 : nv_diload qX7_isGiven 143 4 145 := Or.inl ⟨by decide +kernel, rfl⟩
theorem dX7_isGiven_145 : nv_dc qX7_isGiven 145 (.invokestatic 160) 3 148 := ⟨by decide +kernel, rfl⟩
theorem dX7_isGiven_148 : nv_dif qX7_isGiven 148 .eq 167 151 := ⟨19, by decide +kernel, by decide, rfl⟩
theorem dX7_isGiven_151 : nv_diload qX7_isGiven 151 4 153 := Or.inl ⟨by decide +kernel, rfl⟩
theorem dX7_isGiven_153 : nv_diload qX7_isGiven 153 2 154 := Or.inr ⟨2, rfl, by decide +kernel, rfl⟩
theorem dX7_isGiven_154 : nv_dic qX7_isGiven 154 .eq 167 157 := ⟨13, by decide +kernel, by decide, rfl⟩
theorem dX7_isGiven_157 : nv_diload qX7_isGiven 157 4 159 := Or.inl ⟨by decide +kernel, rfl⟩
theorem dX7_isGiven_159 : nv_diload qX7_isGiven 159 3 160 := Or.inr ⟨3, rfl, by decide +kernel, rfl⟩
theorem dX7_isGiven_160 : nv_dic qX7_isGiven 160 .eq 167 163 := ⟨7, by decide +kernel, by decide, rfl⟩
theorem dX7_isGiven_163 : nv_dk qX7_isGiven 163 1 164 := Or.inl ⟨1, ⟨by decide +kernel, rfl⟩, by decide⟩
theorem dX7_isGiven_164 : nv_dgo qX7_isGiven 164 168 := ⟨4, by decide +kernel, by decide⟩
theorem dX7_isGiven_167 : nv_dk qX7_isGiven 167 0 168 := Or.inl ⟨0, ⟨by decide +kernel, rfl⟩, by decide⟩
theorem dX7_isGiven_168 : decode qX7_isGiven.2.1 168 = .ok (.ireturn, 1) := by decide +kernel
def pm_isGiven_76 (h : nv_Hp) (x2 : Int32) (x3 : Int32) (s0 : Bool)  : Option (Bool) := (if s0 = true then (if nv_inb x2 13 = true then (if (h 81 x2.toNatClampNeg) = x3 then some false else some true) else none) else some false)
set_option maxHeartbeats 2000000 in
theorem tm_isGiven_76 (G : nv_G) (h : nv_Hp) (x2 : Int32) (x3 : Int32) (s0 : Bool)  (o1 o4 o5 : Option Value) (r : Bool) (hf : pm_isGiven_76 h x2 x3 s0 = some r) : nv_E G 2 qX7_isGiven 76 [some (.ref 73), o1, some (.int x2), some (.int x3), o4, o5] [.int (nv_bi s0)] (nv_s h) (some (.int (nv_bi r)), nv_s h) := by
  unfold pm_isGiven_76 at hf
  refine nv_wk 4 rfl ?_
  refine nv_iS dX7_isGiven_76 (by decide) rfl rfl ?_
  refine nv_iL dX7_isGiven_78 rfl ?_
  refine nv_ifeqB dX7_isGiven_80 (fun c1 => ?_) (fun c1 => ?_)
  · replace hf := nv_ip c1 hf
    refine nv_aL dX7_isGiven_83 rfl ?_
    refine nv_tR lf_X7_31 dX7_isGiven_84 ko_73 rfl ?_
    refine nv_iL dX7_isGiven_87 rfl ?_
    obtain ⟨g2, hf⟩ := nv_gd hf
    refine nv_aI dX7_isGiven_88 ka_81 g2 rfl ?_
    refine nv_iL dX7_isGiven_89 rfl ?_
    refine nv_iceq dX7_isGiven_90 (fun c3 => ?_) (fun c3 => ?_)
    · replace hf := nv_ip c3 hf
      refine nv_k dX7_isGiven_97 ?_
      obtain rfl := Option.some.inj hf
      exact nv_ireturnB (b := false) dX7_isGiven_98 rfl
    · replace hf := nv_in c3 hf
      refine nv_k dX7_isGiven_93 ?_
      refine nv_goto dX7_isGiven_94 ?_
      obtain rfl := Option.some.inj hf
      exact nv_ireturnB (b := true) dX7_isGiven_98 rfl
  · replace hf := nv_in c1 hf
    refine nv_k dX7_isGiven_97 ?_
    obtain rfl := Option.some.inj hf
    exact nv_ireturnB (b := false) dX7_isGiven_98 rfl
def pm_isGiven_61 (h : nv_Hp) (x2 : Int32) (x3 : Int32)   : Option (Bool) := (if nv_inb x2 13 = true then (if (h 82 x2.toNatClampNeg) = 1 then (pm_isGiven_76 h x2 x3 true) else (pm_isGiven_76 h x2 x3 false)) else none)
set_option maxHeartbeats 2000000 in
theorem tm_isGiven_61 (G : nv_G) (h : nv_Hp) (x2 : Int32) (x3 : Int32)   (o1 o4 o5 : Option Value) (r : Bool) (hf : pm_isGiven_61 h x2 x3 = some r) : nv_E G 2 qX7_isGiven 61 [some (.ref 73), o1, some (.int x2), some (.int x3), o4, o5] [] (nv_s h) (some (.int (nv_bi r)), nv_s h) := by
  unfold pm_isGiven_61 at hf
  refine nv_aL dX7_isGiven_61 rfl ?_
  refine nv_tR lf_X7_34 dX7_isGiven_62 ko_73 rfl ?_
  refine nv_iL dX7_isGiven_65 rfl ?_
  obtain ⟨g1, hf⟩ := nv_gd hf
  refine nv_aI dX7_isGiven_66 ka_82 g1 rfl ?_
  refine nv_k dX7_isGiven_67 ?_
  refine nv_icne dX7_isGiven_68 (fun c2 => ?_) (fun c2 => ?_)
  · replace hf := nv_ip c2 hf
    refine nv_k dX7_isGiven_71 ?_
    refine nv_goto dX7_isGiven_72 ?_
    exact tm_isGiven_76 G _ _ _ _ _ _ _ _ hf
  · replace hf := nv_in c2 hf
    refine nv_k dX7_isGiven_75 ?_
    exact tm_isGiven_76 G _ _ _ _ _ _ _ _ hf
def pm_isGiven (h : nv_Hp) (x1 : Int32) (x2 : Int32) (x3 : Int32) (x4 : Int32) : Option (Bool) := (if (pm_in (Int32.toInt64 x1) 0 3) = true then (if (pm_isPerson x3) = true then (if x1 = 3 then (Option.bind ((if (pm_isLeave h x2) = true then (if (pm_isTwo x4) = true then (if nv_inb x2 13 = true then (if (h 79 x2.toNatClampNeg) = 0 then (if (h 82 x2.toNatClampNeg) = 1 then some (true) else some (false)) else (if (h 79 x2.toNatClampNeg) = 3 then (if (h 82 x2.toNatClampNeg) = 1 then some (true) else some (false)) else some (false))) else none) else some (false)) else some (false)) : Option (Bool)) fun u5 => pm_isGiven_76 h x2 x3 u5) else (if (pm_isPerson x2) = true then (if x2 = x3 then some false else (if x1 = 0 then some (pm_isTwo x4) else (if x1 = 1 then (if x4 = 0 then some true else some false) else (if (pm_isPerson x4) = true then (if x4 = x2 then some false else (if x4 = x3 then some false else some true)) else some false)))) else some false)) else some false) else some false)
set_option maxHeartbeats 2000000 in
theorem tm_isGiven (G : nv_G) (h : nv_Hp) (x1 : Int32) (x2 : Int32) (x3 : Int32) (x4 : Int32) {r : Bool} (hf : (pm_isGiven h x1 x2 x3 x4) = some r) : nv_Mt G 2 qX7_isGiven [.ref 73, .int x1, .int x2, .int x3, .int x4] (nv_s h) (some (.int (nv_bi r)), nv_s h) := by
  refine nv_of (by decide +kernel) (fun ad => Nat.le_of_ble_eq_true rfl) (Nat.le_refl _) (Nat.le_of_ble_eq_true rfl) ?_
  show nv_E G 2 qX7_isGiven 0 [some (.ref 73), some (.int x1), some (.int x2), some (.int x3), some (.int x4), none] [] (nv_s h) (some (.int (nv_bi r)), nv_s h)
  unfold pm_isGiven at hf
  refine nv_iL dX7_isGiven_0 rfl ?_
  refine nv_i2l dX7_isGiven_1 ?_
  refine nv_lconst dX7_isGiven_2 (v := 0) (by decide) ?_
  refine nv_ldc2 dX7_isGiven_3 lc_X7_135 ?_
  refine nv_cSi (tm_in G h (Int32.toInt64 x1) 0 3) dX7_isGiven_6 lm_X7_127 y_qX7_in rfl (by decide) rfl (Nat.le_of_ble_eq_true rfl) ?_
  refine nv_ifeqB dX7_isGiven_9 (fun c1 => ?_) (fun c1 => ?_)
  · replace hf := nv_ip c1 hf
    refine nv_iL dX7_isGiven_12 rfl ?_
    refine nv_cSi (tm_isPerson G h x3) dX7_isGiven_13 lm_X7_160 y_qX7_isPerson rfl (by decide) rfl (Nat.le_of_ble_eq_true rfl) ?_
    refine nv_ifneB dX7_isGiven_16 (fun c2 => ?_) (fun c2 => ?_)
    · replace hf := nv_ip c2 hf
      refine nv_iL dX7_isGiven_21 rfl ?_
      refine nv_k dX7_isGiven_22 ?_
      refine nv_icne dX7_isGiven_23 (fun c3 => ?_) (fun c3 => ?_)
      · replace hf := nv_ip c3 hf
        refine nv_aL dX7_isGiven_26 rfl ?_
        refine nv_iL dX7_isGiven_27 rfl ?_
        refine nv_cVi (tm_isLeave G h x2) dX7_isGiven_28 lm_X7_168 y_qX7_isLeave ko_73 rfl rfl (by decide) rfl (Nat.le_of_ble_eq_true rfl) ?_
        refine nv_ifeqB dX7_isGiven_31 (fun c6 => ?_) (fun c6 => ?_)
        · try simp only [if_pos c6, Option.bind_some] at hf
          refine nv_iL dX7_isGiven_34 rfl ?_
          refine nv_cSi (tm_isTwo G h x4) dX7_isGiven_36 lm_X7_171 y_qX7_isTwo rfl (by decide) rfl (Nat.le_of_ble_eq_true rfl) ?_
          refine nv_ifeqB dX7_isGiven_39 (fun c7 => ?_) (fun c7 => ?_)
          · try simp only [if_pos c7, Option.bind_some] at hf
            refine nv_aL dX7_isGiven_42 rfl ?_
            refine nv_tR lf_X7_25 dX7_isGiven_43 ko_73 rfl ?_
            refine nv_iL dX7_isGiven_46 rfl ?_
            have g8 : nv_inb x2 13 = true := by
              by_cases g8 : nv_inb x2 13 = true
              · exact g8
              · exfalso; simp [if_neg g8] at hf
            simp only [if_pos g8, Option.bind_some] at hf
            refine nv_aI dX7_isGiven_47 ka_79 g8 rfl ?_
            refine nv_ifeq dX7_isGiven_48 (fun c9 => ?_) (fun c9 => ?_)
            · try simp only [if_pos c9, Option.bind_some] at hf
              refine nv_aL dX7_isGiven_61 rfl ?_
              refine nv_tR lf_X7_34 dX7_isGiven_62 ko_73 rfl ?_
              refine nv_iL dX7_isGiven_65 rfl ?_
              refine nv_aI dX7_isGiven_66 ka_82 g8 rfl ?_
              refine nv_k dX7_isGiven_67 ?_
              refine nv_icne dX7_isGiven_68 (fun c10 => ?_) (fun c10 => ?_)
              · try simp only [if_pos c10, Option.bind_some] at hf
                refine nv_k dX7_isGiven_71 ?_
                refine nv_goto dX7_isGiven_72 ?_
                exact tm_isGiven_76 G _ _ _ _ _ _ _ _ hf
              · try simp only [if_neg c10, Option.bind_some] at hf
                refine nv_k dX7_isGiven_75 ?_
                exact tm_isGiven_76 G _ _ _ _ _ _ _ _ hf
            · try simp only [if_neg c9, Option.bind_some] at hf
              refine nv_aL dX7_isGiven_51 rfl ?_
              refine nv_tR lf_X7_25 dX7_isGiven_52 ko_73 rfl ?_
              refine nv_iL dX7_isGiven_55 rfl ?_
              refine nv_aI dX7_isGiven_56 ka_79 g8 rfl ?_
              refine nv_k dX7_isGiven_57 ?_
              refine nv_icne dX7_isGiven_58 (fun c11 => ?_) (fun c11 => ?_)
              · try simp only [if_pos c11, Option.bind_some] at hf
                refine nv_aL dX7_isGiven_61 rfl ?_
                refine nv_tR lf_X7_34 dX7_isGiven_62 ko_73 rfl ?_
                refine nv_iL dX7_isGiven_65 rfl ?_
                refine nv_aI dX7_isGiven_66 ka_82 g8 rfl ?_
                refine nv_k dX7_isGiven_67 ?_
                refine nv_icne dX7_isGiven_68 (fun c12 => ?_) (fun c12 => ?_)
                · try simp only [if_pos c12, Option.bind_some] at hf
                  refine nv_k dX7_isGiven_71 ?_
                  refine nv_goto dX7_isGiven_72 ?_
                  exact tm_isGiven_76 G _ _ _ _ _ _ _ _ hf
                · try simp only [if_neg c12, Option.bind_some] at hf
                  refine nv_k dX7_isGiven_75 ?_
                  exact tm_isGiven_76 G _ _ _ _ _ _ _ _ hf
              · try simp only [if_neg c11, Option.bind_some] at hf
                refine nv_k dX7_isGiven_75 ?_
                exact tm_isGiven_76 G _ _ _ _ _ _ _ _ hf
          · try simp only [if_neg c7, Option.bind_some] at hf
            refine nv_k dX7_isGiven_75 ?_
            exact tm_isGiven_76 G _ _ _ _ _ _ _ _ hf
        · try simp only [if_neg c6, Option.bind_some] at hf
          refine nv_k dX7_isGiven_75 ?_
          exact tm_isGiven_76 G _ _ _ _ _ _ _ _ hf
      · replace hf := nv_in c3 hf
        refine nv_iL dX7_isGiven_99 rfl ?_
        refine nv_cSi (tm_isPerson G h x2) dX7_isGiven_100 lm_X7_160 y_qX7_isPerson rfl (by decide) rfl (Nat.le_of_ble_eq_true rfl) ?_
        refine nv_ifeqB dX7_isGiven_103 (fun c13 => ?_) (fun c13 => ?_)
        · replace hf := nv_ip c13 hf
          refine nv_iL dX7_isGiven_106 rfl ?_
          refine nv_iL dX7_isGiven_107 rfl ?_
          refine nv_icne dX7_isGiven_108 (fun c14 => ?_) (fun c14 => ?_)
          · replace hf := nv_ip c14 hf
            refine nv_k dX7_isGiven_111 ?_
            obtain rfl := Option.some.inj hf
            exact nv_ireturnB (b := false) dX7_isGiven_112 rfl
          · replace hf := nv_in c14 hf
            refine nv_iL dX7_isGiven_113 rfl ?_
            refine nv_ifne dX7_isGiven_114 (fun c15 => ?_) (fun c15 => ?_)
            · replace hf := nv_ip c15 hf
              refine nv_iL dX7_isGiven_117 rfl ?_
              refine nv_cSi (tm_isTwo G h x4) dX7_isGiven_119 lm_X7_171 y_qX7_isTwo rfl (by decide) rfl (Nat.le_of_ble_eq_true rfl) ?_
              refine nv_goto dX7_isGiven_122 ?_
              obtain rfl := Option.some.inj hf
              exact nv_ireturnB (b := (pm_isTwo x4)) dX7_isGiven_168 rfl
            · replace hf := nv_in c15 hf
              refine nv_iL dX7_isGiven_125 rfl ?_
              refine nv_k dX7_isGiven_126 ?_
              refine nv_icne dX7_isGiven_127 (fun c16 => ?_) (fun c16 => ?_)
              · replace hf := nv_ip c16 hf
                refine nv_iL dX7_isGiven_130 rfl ?_
                refine nv_ifne dX7_isGiven_132 (fun c17 => ?_) (fun c17 => ?_)
                · replace hf := nv_ip c17 hf
                  refine nv_k dX7_isGiven_135 ?_
                  refine nv_goto dX7_isGiven_136 ?_
                  obtain rfl := Option.some.inj hf
                  exact nv_ireturnB (b := true) dX7_isGiven_168 rfl
                · replace hf := nv_in c17 hf
                  refine nv_k dX7_isGiven_139 ?_
                  refine nv_goto dX7_isGiven_140 ?_
                  obtain rfl := Option.some.inj hf
                  exact nv_ireturnB (b := false) dX7_isGiven_168 rfl
              · replace hf := nv_in c16 hf
                refine nv_iL dX7_isGiven_143 rfl ?_
                refine nv_cSi (tm_isPerson G h x4) dX7_isGiven_145 lm_X7_160 y_qX7_isPerson rfl (by decide) rfl (Nat.le_of_ble_eq_true rfl) ?_
                refine nv_ifeqB dX7_isGiven_148 (fun c18 => ?_) (fun c18 => ?_)
                · replace hf := nv_ip c18 hf
                  refine nv_iL dX7_isGiven_151 rfl ?_
                  refine nv_iL dX7_isGiven_153 rfl ?_
                  refine nv_iceq dX7_isGiven_154 (fun c19 => ?_) (fun c19 => ?_)
                  · replace hf := nv_ip c19 hf
                    refine nv_k dX7_isGiven_167 ?_
                    obtain rfl := Option.some.inj hf
                    exact nv_ireturnB (b := false) dX7_isGiven_168 rfl
                  · replace hf := nv_in c19 hf
                    refine nv_iL dX7_isGiven_157 rfl ?_
                    refine nv_iL dX7_isGiven_159 rfl ?_
                    refine nv_iceq dX7_isGiven_160 (fun c20 => ?_) (fun c20 => ?_)
                    · replace hf := nv_ip c20 hf
                      refine nv_k dX7_isGiven_167 ?_
                      obtain rfl := Option.some.inj hf
                      exact nv_ireturnB (b := false) dX7_isGiven_168 rfl
                    · replace hf := nv_in c20 hf
                      refine nv_k dX7_isGiven_163 ?_
                      refine nv_goto dX7_isGiven_164 ?_
                      obtain rfl := Option.some.inj hf
                      exact nv_ireturnB (b := true) dX7_isGiven_168 rfl
                · replace hf := nv_in c18 hf
                  refine nv_k dX7_isGiven_167 ?_
                  obtain rfl := Option.some.inj hf
                  exact nv_ireturnB (b := false) dX7_isGiven_168 rfl
        · replace hf := nv_in c13 hf
          refine nv_k dX7_isGiven_111 ?_
          obtain rfl := Option.some.inj hf
          exact nv_ireturnB (b := false) dX7_isGiven_112 rfl
    · replace hf := nv_in c2 hf
      refine nv_k dX7_isGiven_19 ?_
      obtain rfl := Option.some.inj hf
      exact nv_ireturnB (b := false) dX7_isGiven_20 rfl
  · replace hf := nv_in c1 hf
    refine nv_k dX7_isGiven_19 ?_
    obtain rfl := Option.some.inj hf
    exact nv_ireturnB (b := false) dX7_isGiven_20 rfl
/-! WhoseNameModel.lays -/
theorem dX7_lays_0 : nv_daload qX7_lays 0 0 1 := Or.inr ⟨0, rfl, by decide +kernel, rfl⟩
theorem dX7_lays_1 : nv_dc qX7_lays 1 (.getfield 25) 3 4 := ⟨by decide +kernel, rfl⟩
theorem dX7_lays_4 : nv_daload qX7_lays 4 0 5 := Or.inr ⟨0, rfl, by decide +kernel, rfl⟩
theorem dX7_lays_5 : nv_dc qX7_lays 5 (.getfield 165) 3 8 := ⟨by decide +kernel, rfl⟩
theorem dX7_lays_8 : nv_diload qX7_lays 8 1 9 := Or.inr ⟨1, rfl, by decide +kernel, rfl⟩
theorem dX7_lays_9 : nv_dc qX7_lays 9 (.iastore) 1 10 := ⟨by decide +kernel, rfl⟩
theorem dX7_lays_10 : nv_daload qX7_lays 10 0 11 := Or.inr ⟨0, rfl, by decide +kernel, rfl⟩
theorem dX7_lays_11 : nv_dc qX7_lays 11 (.getfield 49) 3 14 := ⟨by decide +kernel, rfl⟩
theorem dX7_lays_14 : nv_daload qX7_lays 14 0 15 := Or.inr ⟨0, rfl, by decide +kernel, rfl⟩
theorem dX7_lays_15 : nv_dc qX7_lays 15 (.getfield 165) 3 18 := ⟨by decide +kernel, rfl⟩
theorem dX7_lays_18 : nv_diload qX7_lays 18 1 19 := Or.inr ⟨1, rfl, by decide +kernel, rfl⟩
theorem dX7_lays_19 : nv_dk qX7_lays 19 3 20 := Or.inl ⟨3, ⟨by decide +kernel, rfl⟩, by decide⟩
theorem dX7_lays_20 : nv_dic qX7_lays 20 .ne 27 23 := ⟨7, by decide +kernel, by decide, rfl⟩
theorem dX7_lays_23 : nv_diload qX7_lays 23 2 24 := Or.inr ⟨2, rfl, by decide +kernel, rfl⟩
theorem dX7_lays_24 : nv_dgo qX7_lays 24 28 := ⟨4, by decide +kernel, by decide⟩
theorem dX7_lays_27 : nv_dk qX7_lays 27 (-1) 28 := Or.inl ⟨(-1), ⟨by decide +kernel, rfl⟩, by decide⟩
theorem dX7_lays_28 : nv_dc qX7_lays 28 (.iastore) 1 29 := ⟨by decide +kernel, rfl⟩
theorem dX7_lays_29 : nv_daload qX7_lays 29 0 30 := Or.inr ⟨0, rfl, by decide +kernel, rfl⟩
theorem dX7_lays_30 : nv_dc qX7_lays 30 (.getfield 28) 3 33 := ⟨by decide +kernel, rfl⟩
theorem dX7_lays_33 : nv_daload qX7_lays 33 0 34 := Or.inr ⟨0, rfl, by decide +kernel, rfl⟩
theorem dX7_lays_34 : nv_dc qX7_lays 34 (.getfield 165) 3 37 := ⟨by decide +kernel, rfl⟩
theorem dX7_lays_37 : nv_diload qX7_lays 37 1 38 := Or.inr ⟨1, rfl, by decide +kernel, rfl⟩
theorem dX7_lays_38 : nv_dk qX7_lays 38 3 39 := Or.inl ⟨3, ⟨by decide +kernel, rfl⟩, by decide⟩
theorem dX7_lays_39 : nv_dic qX7_lays 39 .ne 51 42 := ⟨12, by decide +kernel, by decide, rfl⟩
theorem dX7_lays_42 : nv_daload qX7_lays 42 0 43 := Or.inr ⟨0, rfl, by decide +kernel, rfl⟩
theorem dX7_lays_43 : nv_dc qX7_lays 43 (.getfield 28) 3 46 := ⟨by decide +kernel, rfl⟩
theorem dX7_lays_46 : nv_diload qX7_lays 46 2 47 := Or.inr ⟨2, rfl, by decide +kernel, rfl⟩
theorem dX7_lays_47 : nv_dc qX7_lays 47 (.iaload) 1 48 := ⟨by decide +kernel, rfl⟩
theorem dX7_lays_48 : nv_dgo qX7_lays 48 52 := ⟨4, by decide +kernel, by decide⟩
theorem dX7_lays_51 : nv_diload qX7_lays 51 2 52 := Or.inr ⟨2, rfl, by decide +kernel, rfl⟩
theorem dX7_lays_52 : nv_dc qX7_lays 52 (.iastore) 1 53 := ⟨by decide +kernel, rfl⟩
theorem dX7_lays_53 : nv_daload qX7_lays 53 0 54 := Or.inr ⟨0, rfl, by decide +kernel, rfl⟩
theorem dX7_lays_54 : nv_dc qX7_lays 54 (.getfield 52) 3 57 := ⟨by decide +kernel, rfl⟩
theorem dX7_lays_57 : nv_daload qX7_lays 57 0 58 := Or.inr ⟨0, rfl, by decide +kernel, rfl⟩
theorem dX7_lays_58 : nv_dc qX7_lays 58 (.getfield 165) 3 61 := ⟨by decide +kernel, rfl⟩
theorem dX7_lays_61 : nv_diload qX7_lays 61 1 62 := Or.inr ⟨1, rfl, by decide +kernel, rfl⟩
theorem dX7_lays_62 : nv_dk qX7_lays 62 3 63 := Or.inl ⟨3, ⟨by decide +kernel, rfl⟩, by decide⟩
theorem dX7_lays_63 : nv_dic qX7_lays 63 .ne 77 66 := ⟨14, by decide +kernel, by decide, rfl⟩
theorem dX7_lays_66 : nv_daload qX7_lays 66 0 67 := Or.inr ⟨0, rfl, by decide +kernel, rfl⟩
theorem dX7_lays_67 : nv_dc qX7_lays 67 (.getfield 52) 3 70 := ⟨by decide +kernel, rfl⟩
theorem dX7_lays_70 : nv_diload qX7_lays 70 2 71 := Or.inr ⟨2, rfl, by decide +kernel, rfl⟩
theorem dX7_lays_71 : nv_dc qX7_lays 71 (.iaload) 1 72 := ⟨by decide +kernel, rfl⟩
theorem dX7_lays_72 : nv_dk qX7_lays 72 1 73 := Or.inl ⟨1, ⟨by decide +kernel, rfl⟩, by decide⟩
theorem dX7_lays_73 : nv_dc qX7_lays 73 (.iadd) 1 74 := ⟨by decide +kernel, rfl⟩
theorem dX7_lays_74 : nv_dgo qX7_lays 74 78 := ⟨4, by decide +kernel, by decide⟩
theorem dX7_lays_77 : nv_dk qX7_lays 77 0 78 := Or.inl ⟨0, ⟨by decide +kernel, rfl⟩, by decide⟩
theorem dX7_lays_78 : nv_dc qX7_lays 78 (.iastore) 1 79 := ⟨by decide +kernel, rfl⟩
theorem dX7_lays_79 : nv_daload qX7_lays 79 0 80 := Or.inr ⟨0, rfl, by decide +kernel, rfl⟩
theorem dX7_lays_80 : nv_dc qX7_lays 80 (.getfield 31) 3 83 := ⟨by decide +kernel, rfl⟩
theorem dX7_lays_83 : nv_daload qX7_lays 83 0 84 := Or.inr ⟨0, rfl, by decide +kernel, rfl⟩
theorem dX7_lays_84 : nv_dc qX7_lays 84 (.getfield 165) 3 87 := ⟨by decide +kernel, rfl⟩
theorem dX7_lays_87 : nv_diload qX7_lays 87 3 88 := Or.inr ⟨3, rfl, by decide +kernel, rfl⟩
theorem dX7_lays_88 : nv_dc qX7_lays 88 (.iastore) 1 89 := ⟨by decide +kernel, rfl⟩
theorem dX7_lays_89 : nv_daload qX7_lays 89 0 90 := Or.inr ⟨0, rfl, by decide +kernel, rfl⟩
theorem dX7_lays_90 : nv_dc qX7_lays 90 (.getfield 34) 3 93 := ⟨by decide +kernel, rfl⟩
theorem dX7_lays_93 : nv_daload qX7_lays 93 0 94 := Or.inr ⟨0, rfl, by decide +kernel, rfl⟩
theorem dX7_lays_94 : nv_dc qX7_lays 94 (.getfield 165) 3 97 := ⟨by decide +kernel, rfl⟩
theorem dX7_lays_97 : nv_diload qX7_lays 97 4 99 := Or.inl ⟨by decide +kernel, rfl⟩
theorem dX7_lays_99 : nv_dc qX7_lays 99 (.iastore) 1 100 := ⟨by decide +kernel, rfl⟩
theorem dX7_lays_100 : nv_daload qX7_lays 100 0 101 := Or.inr ⟨0, rfl, by decide +kernel, rfl⟩
theorem dX7_lays_101 : nv_dc qX7_lays 101 (.getfield 37) 3 104 := ⟨by decide +kernel, rfl⟩
theorem dX7_lays_104 : nv_daload qX7_lays 104 0 105 := Or.inr ⟨0, rfl, by decide +kernel, rfl⟩
theorem dX7_lays_105 : nv_dc qX7_lays 105 (.getfield 165) 3 108 := ⟨by decide +kernel, rfl⟩
theorem dX7_lays_108 : nv_diload qX7_lays 108 5 110 := Or.inl ⟨by decide +kernel, rfl⟩
theorem dX7_lays_110 : nv_dc qX7_lays 110 (.iastore) 1 111 := ⟨by decide +kernel, rfl⟩
theorem dX7_lays_111 : nv_daload qX7_lays 111 0 112 := Or.inr ⟨0, rfl, by decide +kernel, rfl⟩
theorem dX7_lays_112 : nv_dc qX7_lays 112 (.getfield 40) 3 115 := ⟨by decide +kernel, rfl⟩
theorem dX7_lays_115 : nv_daload qX7_lays 115 0 116 := Or.inr ⟨0, rfl, by decide +kernel, rfl⟩
theorem dX7_lays_116 : nv_dc qX7_lays 116 (.getfield 165) 3 119 := ⟨by decide +kernel, rfl⟩
theorem dX7_lays_119 : nv_diload qX7_lays 119 6 121 := Or.inl ⟨by decide +kernel, rfl⟩
theorem dX7_lays_121 : nv_dc qX7_lays 121 (.iastore) 1 122 := ⟨by decide +kernel, rfl⟩
theorem dX7_lays_122 : nv_daload qX7_lays 122 0 123 := Or.inr ⟨0, rfl, by decide +kernel, rfl⟩
theorem dX7_lays_123 : nv_dc qX7_lays 123 (.getfield 43) 3 126 := ⟨by decide +kernel, rfl⟩
theorem dX7_lays_126 : nv_daload qX7_lays 126 0 127 := Or.inr ⟨0, rfl, by decide +kernel, rfl⟩
theorem dX7_lays_127 : nv_dc qX7_lays 127 (.getfield 165) 3 130 := ⟨by decide +kernel, rfl⟩
theorem dX7_lays_130 : nv_diload qX7_lays 130 7 132 := Or.inl ⟨by decide +kernel, rfl⟩
theorem dX7_lays_132 : nv_dc qX7_lays 132 (.iastore) 1 133 := ⟨by decide +kernel, rfl⟩
theorem dX7_lays_133 : nv_daload qX7_lays 133 0 134 := Or.inr ⟨0, rfl, by decide +kernel, rfl⟩
theorem dX7_lays_134 : nv_dc qX7_lays 134 (.getfield 46) 3 137 := ⟨by decide +kernel, rfl⟩
theorem dX7_lays_137 : nv_daload qX7_lays 137 0 138 := Or.inr ⟨0, rfl, by decide +kernel, rfl⟩
theorem dX7_lays_138 : nv_dc qX7_lays 138 (.getfield 165) 3 141 := ⟨by decide +kernel, rfl⟩
theorem dX7_lays_141 : nv_diload qX7_lays 141 8 143 := Or.inl ⟨by decide +kernel, rfl⟩
theorem dX7_lays_143 : nv_dc qX7_lays 143 (.iastore) 1 144 := ⟨by decide +kernel, rfl⟩
theorem dX7_lays_144 : nv_daload qX7_lays 144 0 145 := Or.inr ⟨0, rfl, by decide +kernel, rfl⟩
theorem dX7_lays_145 : nv_dc qX7_lays 145 (.dup) 1 146 := ⟨by decide +kernel, rfl⟩
theorem dX7_lays_146 : nv_dc qX7_lays 146 (.getfield 165) 3 149 := ⟨by decide +kernel, rfl⟩
theorem dX7_lays_149 : nv_dk qX7_lays 149 1 150 := Or.inl ⟨1, ⟨by decide +kernel, rfl⟩, by decide⟩
theorem dX7_lays_150 : nv_dc qX7_lays 150 (.iadd) 1 151 := ⟨by decide +kernel, rfl⟩
theorem dX7_lays_151 : nv_dc qX7_lays 151 (.putfield 165) 3 154 := ⟨by decide +kernel, rfl⟩
theorem dX7_lays_154 : decode qX7_lays.2.1 154 = .ok (.return_, 1) := by decide +kernel
def pm_lays_78 (h : nv_Hp) (x3 : Int32) (x4 : Int32) (x5 : Int32) (x6 : Int32) (x7 : Int32) (x8 : Int32) (s1 : Int32) (s2 : Int32)  : Option (nv_Hp) := (if nv_inb s1 13 = true then (nv_lt (nv_up h 88 s1.toNatClampNeg s2) fun h2 => (if nv_inb (h2 73 6) 13 = true then (nv_lt (nv_up h2 81 (h2 73 6).toNatClampNeg x3) fun h4 => (if nv_inb (h4 73 6) 13 = true then (nv_lt (nv_up h4 82 (h4 73 6).toNatClampNeg x4) fun h6 => (if nv_inb (h6 73 6) 13 = true then (nv_lt (nv_up h6 83 (h6 73 6).toNatClampNeg x5) fun h8 => (if nv_inb (h8 73 6) 13 = true then (nv_lt (nv_up h8 84 (h8 73 6).toNatClampNeg x6) fun h10 => (if nv_inb (h10 73 6) 13 = true then (nv_lt (nv_up h10 85 (h10 73 6).toNatClampNeg x7) fun h12 => (if nv_inb (h12 73 6) 13 = true then (nv_lt (nv_up h12 86 (h12 73 6).toNatClampNeg x8) fun h14 => (nv_lt (nv_up h14 73 6 ((h14 73 6) + 1)) fun h15 => some h15)) else none)) else none)) else none)) else none)) else none)) else none)) else none)
set_option maxHeartbeats 2000000 in
theorem tm_lays_78 (G : nv_G) (h : nv_Hp) (x3 : Int32) (x4 : Int32) (x5 : Int32) (x6 : Int32) (x7 : Int32) (x8 : Int32) (s1 : Int32) (s2 : Int32)  (o1 o2 : Option Value) (r : nv_Hp) (hf : pm_lays_78 h x3 x4 x5 x6 x7 x8 s1 s2 = some r) : nv_E G 0 qX7_lays 78 [some (.ref 73), o1, o2, some (.int x3), some (.int x4), some (.int x5), some (.int x6), some (.int x7), some (.int x8)] [.int s2, .int s1, .ref 88] (nv_s h) (none, nv_s r) := by
  unfold pm_lays_78 at hf
  obtain ⟨g1, hf⟩ := nv_gd hf
  refine nv_aP dX7_lays_78 ka_88 g1 rfl ?_
  obtain ⟨h2, eh2, hf⟩ := nv_ltX hf
  rw [eh2]
  clear eh2
  refine nv_aL dX7_lays_79 rfl ?_
  refine nv_tR lf_X7_31 dX7_lays_80 ko_73 rfl ?_
  refine nv_aL dX7_lays_83 rfl ?_
  refine nv_tI lf_X7_165 dX7_lays_84 ko_73 rfl ?_
  refine nv_iL dX7_lays_87 rfl ?_
  obtain ⟨g3, hf⟩ := nv_gd hf
  refine nv_aP dX7_lays_88 ka_81 g3 rfl ?_
  obtain ⟨h4, eh4, hf⟩ := nv_ltX hf
  rw [eh4]
  clear eh4
  refine nv_aL dX7_lays_89 rfl ?_
  refine nv_tR lf_X7_34 dX7_lays_90 ko_73 rfl ?_
  refine nv_aL dX7_lays_93 rfl ?_
  refine nv_tI lf_X7_165 dX7_lays_94 ko_73 rfl ?_
  refine nv_iL dX7_lays_97 rfl ?_
  obtain ⟨g5, hf⟩ := nv_gd hf
  refine nv_aP dX7_lays_99 ka_82 g5 rfl ?_
  obtain ⟨h6, eh6, hf⟩ := nv_ltX hf
  rw [eh6]
  clear eh6
  refine nv_aL dX7_lays_100 rfl ?_
  refine nv_tR lf_X7_37 dX7_lays_101 ko_73 rfl ?_
  refine nv_aL dX7_lays_104 rfl ?_
  refine nv_tI lf_X7_165 dX7_lays_105 ko_73 rfl ?_
  refine nv_iL dX7_lays_108 rfl ?_
  obtain ⟨g7, hf⟩ := nv_gd hf
  refine nv_aP dX7_lays_110 ka_83 g7 rfl ?_
  obtain ⟨h8, eh8, hf⟩ := nv_ltX hf
  rw [eh8]
  clear eh8
  refine nv_aL dX7_lays_111 rfl ?_
  refine nv_tR lf_X7_40 dX7_lays_112 ko_73 rfl ?_
  refine nv_aL dX7_lays_115 rfl ?_
  refine nv_tI lf_X7_165 dX7_lays_116 ko_73 rfl ?_
  refine nv_iL dX7_lays_119 rfl ?_
  obtain ⟨g9, hf⟩ := nv_gd hf
  refine nv_aP dX7_lays_121 ka_84 g9 rfl ?_
  obtain ⟨h10, eh10, hf⟩ := nv_ltX hf
  rw [eh10]
  clear eh10
  refine nv_aL dX7_lays_122 rfl ?_
  refine nv_tR lf_X7_43 dX7_lays_123 ko_73 rfl ?_
  refine nv_aL dX7_lays_126 rfl ?_
  refine nv_tI lf_X7_165 dX7_lays_127 ko_73 rfl ?_
  refine nv_iL dX7_lays_130 rfl ?_
  obtain ⟨g11, hf⟩ := nv_gd hf
  refine nv_aP dX7_lays_132 ka_85 g11 rfl ?_
  obtain ⟨h12, eh12, hf⟩ := nv_ltX hf
  rw [eh12]
  clear eh12
  refine nv_aL dX7_lays_133 rfl ?_
  refine nv_tR lf_X7_46 dX7_lays_134 ko_73 rfl ?_
  refine nv_aL dX7_lays_137 rfl ?_
  refine nv_tI lf_X7_165 dX7_lays_138 ko_73 rfl ?_
  refine nv_iL dX7_lays_141 rfl ?_
  obtain ⟨g13, hf⟩ := nv_gd hf
  refine nv_aP dX7_lays_143 ka_86 g13 rfl ?_
  obtain ⟨h14, eh14, hf⟩ := nv_ltX hf
  rw [eh14]
  clear eh14
  refine nv_aL dX7_lays_144 rfl ?_
  refine nv_dup dX7_lays_145 rfl ?_
  refine nv_tI lf_X7_165 dX7_lays_146 ko_73 rfl ?_
  refine nv_k dX7_lays_149 ?_
  refine nv_iadd dX7_lays_150 ?_
  refine nv_tP lp_X7_165 dX7_lays_151 ko_73 rfl ?_
  obtain ⟨h15, eh15, hf⟩ := nv_ltX hf
  rw [eh15]
  clear eh15
  obtain rfl := Option.some.inj hf
  exact nv_return dX7_lays_154 rfl
def pm_lays_52 (h : nv_Hp) (x1 : Int32) (x2 : Int32) (x3 : Int32) (x4 : Int32) (x5 : Int32) (x6 : Int32) (x7 : Int32) (x8 : Int32) (s1 : Int32) (s2 : Int32)  : Option (nv_Hp) := (if nv_inb s1 13 = true then (nv_lt (nv_up h 80 s1.toNatClampNeg s2) fun h2 => (Option.bind ((if x1 = 3 then (if nv_inb x2 13 = true then some (((h2 88 x2.toNatClampNeg) + 1)) else none) else some (0)) : Option (Int32)) fun u4 => pm_lays_78 h2 x3 x4 x5 x6 x7 x8 (h2 73 6) u4)) else none)
set_option maxHeartbeats 2000000 in
theorem tm_lays_52 (G : nv_G) (h : nv_Hp) (x1 : Int32) (x2 : Int32) (x3 : Int32) (x4 : Int32) (x5 : Int32) (x6 : Int32) (x7 : Int32) (x8 : Int32) (s1 : Int32) (s2 : Int32)  (r : nv_Hp) (hf : pm_lays_52 h x1 x2 x3 x4 x5 x6 x7 x8 s1 s2 = some r) : nv_E G 0 qX7_lays 52 [some (.ref 73), some (.int x1), some (.int x2), some (.int x3), some (.int x4), some (.int x5), some (.int x6), some (.int x7), some (.int x8)] [.int s2, .int s1, .ref 80] (nv_s h) (none, nv_s r) := by
  unfold pm_lays_52 at hf
  obtain ⟨g1, hf⟩ := nv_gd hf
  refine nv_aP dX7_lays_52 ka_80 g1 rfl ?_
  obtain ⟨h2, eh2, hf⟩ := nv_ltX hf
  rw [eh2]
  clear eh2
  refine nv_aL dX7_lays_53 rfl ?_
  refine nv_tR lf_X7_52 dX7_lays_54 ko_73 rfl ?_
  refine nv_aL dX7_lays_57 rfl ?_
  refine nv_tI lf_X7_165 dX7_lays_58 ko_73 rfl ?_
  refine nv_iL dX7_lays_61 rfl ?_
  refine nv_k dX7_lays_62 ?_
  refine nv_icne dX7_lays_63 (fun c5 => ?_) (fun c5 => ?_)
  · try simp only [if_pos c5, Option.bind_some] at hf
    refine nv_aL dX7_lays_66 rfl ?_
    refine nv_tR lf_X7_52 dX7_lays_67 ko_73 rfl ?_
    refine nv_iL dX7_lays_70 rfl ?_
    have g6 : nv_inb x2 13 = true := by
      by_cases g6 : nv_inb x2 13 = true
      · exact g6
      · exfalso; simp [if_neg g6] at hf
    simp only [if_pos g6, Option.bind_some] at hf
    refine nv_aI dX7_lays_71 ka_88 g6 rfl ?_
    refine nv_k dX7_lays_72 ?_
    refine nv_iadd dX7_lays_73 ?_
    refine nv_goto dX7_lays_74 ?_
    exact tm_lays_78 G _ _ _ _ _ _ _ _ _ _ _ _ hf
  · try simp only [if_neg c5, Option.bind_some] at hf
    refine nv_k dX7_lays_77 ?_
    exact tm_lays_78 G _ _ _ _ _ _ _ _ _ _ _ _ hf
def pm_lays_28 (h : nv_Hp) (x1 : Int32) (x2 : Int32) (x3 : Int32) (x4 : Int32) (x5 : Int32) (x6 : Int32) (x7 : Int32) (x8 : Int32) (s1 : Int32) (s2 : Int32)  : Option (nv_Hp) := (if nv_inb s1 13 = true then (nv_lt (nv_up h 87 s1.toNatClampNeg s2) fun h2 => (Option.bind ((if x1 = 3 then (if nv_inb x2 13 = true then some ((h2 80 x2.toNatClampNeg)) else none) else some (x2)) : Option (Int32)) fun u4 => pm_lays_52 h2 x1 x2 x3 x4 x5 x6 x7 x8 (h2 73 6) u4)) else none)
set_option maxHeartbeats 2000000 in
theorem tm_lays_28 (G : nv_G) (h : nv_Hp) (x1 : Int32) (x2 : Int32) (x3 : Int32) (x4 : Int32) (x5 : Int32) (x6 : Int32) (x7 : Int32) (x8 : Int32) (s1 : Int32) (s2 : Int32)  (r : nv_Hp) (hf : pm_lays_28 h x1 x2 x3 x4 x5 x6 x7 x8 s1 s2 = some r) : nv_E G 0 qX7_lays 28 [some (.ref 73), some (.int x1), some (.int x2), some (.int x3), some (.int x4), some (.int x5), some (.int x6), some (.int x7), some (.int x8)] [.int s2, .int s1, .ref 87] (nv_s h) (none, nv_s r) := by
  unfold pm_lays_28 at hf
  obtain ⟨g1, hf⟩ := nv_gd hf
  refine nv_aP dX7_lays_28 ka_87 g1 rfl ?_
  obtain ⟨h2, eh2, hf⟩ := nv_ltX hf
  rw [eh2]
  clear eh2
  refine nv_aL dX7_lays_29 rfl ?_
  refine nv_tR lf_X7_28 dX7_lays_30 ko_73 rfl ?_
  refine nv_aL dX7_lays_33 rfl ?_
  refine nv_tI lf_X7_165 dX7_lays_34 ko_73 rfl ?_
  refine nv_iL dX7_lays_37 rfl ?_
  refine nv_k dX7_lays_38 ?_
  refine nv_icne dX7_lays_39 (fun c5 => ?_) (fun c5 => ?_)
  · try simp only [if_pos c5, Option.bind_some] at hf
    refine nv_aL dX7_lays_42 rfl ?_
    refine nv_tR lf_X7_28 dX7_lays_43 ko_73 rfl ?_
    refine nv_iL dX7_lays_46 rfl ?_
    have g6 : nv_inb x2 13 = true := by
      by_cases g6 : nv_inb x2 13 = true
      · exact g6
      · exfalso; simp [if_neg g6] at hf
    simp only [if_pos g6, Option.bind_some] at hf
    refine nv_aI dX7_lays_47 ka_80 g6 rfl ?_
    refine nv_goto dX7_lays_48 ?_
    exact tm_lays_52 G _ _ _ _ _ _ _ _ _ _ _ _ hf
  · try simp only [if_neg c5, Option.bind_some] at hf
    refine nv_iL dX7_lays_51 rfl ?_
    exact tm_lays_52 G _ _ _ _ _ _ _ _ _ _ _ _ hf
def pm_lays (h : nv_Hp) (x1 : Int32) (x2 : Int32) (x3 : Int32) (x4 : Int32) (x5 : Int32) (x6 : Int32) (x7 : Int32) (x8 : Int32) : Option (nv_Hp) := (if nv_inb (h 73 6) 13 = true then (nv_lt (nv_up h 79 (h 73 6).toNatClampNeg x1) fun h2 => (pm_lays_28 h2 x1 x2 x3 x4 x5 x6 x7 x8 (h2 73 6) (if x1 = 3 then x2 else (-1)))) else none)
set_option maxHeartbeats 2000000 in
theorem tm_lays (G : nv_G) (h : nv_Hp) (x1 : Int32) (x2 : Int32) (x3 : Int32) (x4 : Int32) (x5 : Int32) (x6 : Int32) (x7 : Int32) (x8 : Int32) {r : nv_Hp} (hf : (pm_lays h x1 x2 x3 x4 x5 x6 x7 x8) = some r) : nv_Mt G 0 qX7_lays [.ref 73, .int x1, .int x2, .int x3, .int x4, .int x5, .int x6, .int x7, .int x8] (nv_s h) (none, nv_s r) := by
  refine nv_of (by decide +kernel) (fun ad => Nat.le_of_ble_eq_true rfl) (Nat.le_refl _) (Nat.le_of_ble_eq_true rfl) ?_
  show nv_E G 0 qX7_lays 0 [some (.ref 73), some (.int x1), some (.int x2), some (.int x3), some (.int x4), some (.int x5), some (.int x6), some (.int x7), some (.int x8)] [] (nv_s h) (none, nv_s r)
  unfold pm_lays at hf
  refine nv_aL dX7_lays_0 rfl ?_
  refine nv_tR lf_X7_25 dX7_lays_1 ko_73 rfl ?_
  refine nv_aL dX7_lays_4 rfl ?_
  refine nv_tI lf_X7_165 dX7_lays_5 ko_73 rfl ?_
  refine nv_iL dX7_lays_8 rfl ?_
  obtain ⟨g1, hf⟩ := nv_gd hf
  refine nv_aP dX7_lays_9 ka_79 g1 rfl ?_
  obtain ⟨h2, eh2, hf⟩ := nv_ltX hf
  rw [eh2]
  clear eh2
  refine nv_aL dX7_lays_10 rfl ?_
  refine nv_tR lf_X7_49 dX7_lays_11 ko_73 rfl ?_
  refine nv_aL dX7_lays_14 rfl ?_
  refine nv_tI lf_X7_165 dX7_lays_15 ko_73 rfl ?_
  refine nv_iL dX7_lays_18 rfl ?_
  refine nv_k dX7_lays_19 ?_
  refine nv_icne dX7_lays_20 (fun c3 => ?_) (fun c3 => ?_)
  · try simp only [if_pos c3] at hf
    refine nv_iL dX7_lays_23 rfl ?_
    refine nv_goto dX7_lays_24 ?_
    exact tm_lays_28 G _ _ _ _ _ _ _ _ _ _ _ _ hf
  · try simp only [if_neg c3] at hf
    refine nv_k dX7_lays_27 ?_
    exact tm_lays_28 G _ _ _ _ _ _ _ _ _ _ _ _ hf
/-! WhoseNameModel.leave -/
theorem dX7_leave_0 : nv_daload qX7_leave 0 0 1 := Or.inr ⟨0, rfl, by decide +kernel, rfl⟩
theorem dX7_leave_1 : nv_diload qX7_leave 1 1 2 := Or.inr ⟨1, rfl, by decide +kernel, rfl⟩
theorem dX7_leave_2 : nv_diload qX7_leave 2 2 3 := Or.inr ⟨2, rfl, by decide +kernel, rfl⟩
theorem dX7_leave_3 : nv_diload qX7_leave 3 3 4 := Or.inr ⟨3, rfl, by decide +kernel, rfl⟩
theorem dX7_leave_4 : nv_diload qX7_leave 4 4 6 := Or.inl ⟨by decide +kernel, rfl⟩
theorem dX7_leave_6 : nv_dc qX7_leave 6 (.invokevirtual 174) 3 9 := ⟨by decide +kernel, rfl⟩
theorem dX7_leave_9 : nv_dif qX7_leave 9 .eq 59 12 := ⟨50, by decide +kernel, by decide, rfl⟩
theorem dX7_leave_12 : nv_diload qX7_leave 12 5 14 := Or.inl ⟨by decide +kernel, rfl⟩
theorem dX7_leave_14 : nv_dc qX7_leave 14 (.i2l) 1 15 := ⟨by decide +kernel, rfl⟩
theorem dX7_leave_15 : nv_dc qX7_leave 15 (.lconst 1) 1 16 := ⟨by decide +kernel, rfl⟩
theorem dX7_leave_16 : nv_dc qX7_leave 16 (.ldc2_w 178) 3 19 := ⟨by decide +kernel, rfl⟩
theorem dX7_leave_19 : nv_dc qX7_leave 19 (.invokestatic 127) 3 22 := ⟨by decide +kernel, rfl⟩
theorem dX7_leave_22 : nv_dif qX7_leave 22 .eq 59 25 := ⟨37, by decide +kernel, by decide, rfl⟩
theorem dX7_leave_25 : nv_diload qX7_leave 25 6 27 := Or.inl ⟨by decide +kernel, rfl⟩
theorem dX7_leave_27 : nv_dc qX7_leave 27 (.i2l) 1 28 := ⟨by decide +kernel, rfl⟩
theorem dX7_leave_28 : nv_dc qX7_leave 28 (.lconst 0) 1 29 := ⟨by decide +kernel, rfl⟩
theorem dX7_leave_29 : nv_dc qX7_leave 29 (.ldc2_w 180) 3 32 := ⟨by decide +kernel, rfl⟩
theorem dX7_leave_32 : nv_dc qX7_leave 32 (.invokestatic 127) 3 35 := ⟨by decide +kernel, rfl⟩
theorem dX7_leave_35 : nv_dif qX7_leave 35 .eq 59 38 := ⟨24, by decide +kernel, by decide, rfl⟩
theorem dX7_leave_38 : nv_diload qX7_leave 38 8 40 := Or.inl ⟨by decide +kernel, rfl⟩
theorem dX7_leave_40 : nv_dc qX7_leave 40 (.invokestatic 182) 3 43 := ⟨by decide +kernel, rfl⟩
theorem dX7_leave_43 : nv_dif qX7_leave 43 .eq 59 46 := ⟨16, by decide +kernel, by decide, rfl⟩
theorem dX7_leave_46 : nv_diload qX7_leave 46 7 48 := Or.inl ⟨by decide +kernel, rfl⟩
theorem dX7_leave_48 : nv_dc qX7_leave 48 (.i2l) 1 49 := ⟨by decide +kernel, rfl⟩
theorem dX7_leave_49 : nv_dc qX7_leave 49 (.lconst 0) 1 50 := ⟨by decide +kernel, rfl⟩
theorem dX7_leave_50 : nv_diload qX7_leave 50 8 52 := Or.inl ⟨by decide +kernel, rfl⟩
theorem dX7_leave_52 : nv_dc qX7_leave 52 (.i2l) 1 53 := ⟨by decide +kernel, rfl⟩
theorem dX7_leave_53 : nv_dc qX7_leave 53 (.invokestatic 127) 3 56 := ⟨by decide +kernel, rfl⟩
theorem dX7_leave_56 : nv_dif qX7_leave 56 .ne 62 59 := ⟨6, by decide +kernel, by decide, rfl⟩
theorem dX7_leave_59 : nv_dk qX7_leave 59 (-2) 61 := Or.inr (Or.inl ⟨(-2), ⟨by decide +kernel, rfl⟩, by decide⟩)
theorem dX7_leave_61 : decode qX7_leave.2.1 61 = .ok (.ireturn, 1) := by decide +kernel
theorem dX7_leave_62 : nv_daload qX7_leave 62 0 63 := Or.inr ⟨0, rfl, by decide +kernel, rfl⟩
theorem dX7_leave_63 : nv_dc qX7_leave 63 (.getfield 165) 3 66 := ⟨by decide +kernel, rfl⟩
theorem dX7_leave_66 : nv_dk qX7_leave 66 12 68 := Or.inr (Or.inl ⟨12, ⟨by decide +kernel, rfl⟩, by decide⟩)
theorem dX7_leave_68 : nv_dic qX7_leave 68 .ne 74 71 := ⟨6, by decide +kernel, by decide, rfl⟩
theorem dX7_leave_71 : nv_dk qX7_leave 71 (-4) 73 := Or.inr (Or.inl ⟨(-4), ⟨by decide +kernel, rfl⟩, by decide⟩)
theorem dX7_leave_73 : decode qX7_leave.2.1 73 = .ok (.ireturn, 1) := by decide +kernel
theorem dX7_leave_74 : nv_daload qX7_leave 74 0 75 := Or.inr ⟨0, rfl, by decide +kernel, rfl⟩
theorem dX7_leave_75 : nv_diload qX7_leave 75 1 76 := Or.inr ⟨1, rfl, by decide +kernel, rfl⟩
theorem dX7_leave_76 : nv_diload qX7_leave 76 2 77 := Or.inr ⟨2, rfl, by decide +kernel, rfl⟩
theorem dX7_leave_77 : nv_diload qX7_leave 77 3 78 := Or.inr ⟨3, rfl, by decide +kernel, rfl⟩
theorem dX7_leave_78 : nv_diload qX7_leave 78 4 80 := Or.inl ⟨by decide +kernel, rfl⟩
theorem dX7_leave_80 : nv_diload qX7_leave 80 5 82 := Or.inl ⟨by decide +kernel, rfl⟩
theorem dX7_leave_82 : nv_diload qX7_leave 82 6 84 := Or.inl ⟨by decide +kernel, rfl⟩
theorem dX7_leave_84 : nv_diload qX7_leave 84 7 86 := Or.inl ⟨by decide +kernel, rfl⟩
theorem dX7_leave_86 : nv_diload qX7_leave 86 8 88 := Or.inl ⟨by decide +kernel, rfl⟩
theorem dX7_leave_88 : nv_dc qX7_leave 88 (.invokevirtual 185) 3 91 := ⟨by decide +kernel, rfl⟩
theorem dX7_leave_91 : nv_daload qX7_leave 91 0 92 := Or.inr ⟨0, rfl, by decide +kernel, rfl⟩
theorem dX7_leave_92 : nv_dc qX7_leave 92 (.getfield 165) 3 95 := ⟨by decide +kernel, rfl⟩
theorem dX7_leave_95 : nv_dk qX7_leave 95 1 96 := Or.inl ⟨1, ⟨by decide +kernel, rfl⟩, by decide⟩
theorem dX7_leave_96 : nv_dc qX7_leave 96 (.isub) 1 97 := ⟨by decide +kernel, rfl⟩
theorem dX7_leave_97 : decode qX7_leave.2.1 97 = .ok (.ireturn, 1) := by decide +kernel
def pm_leave (h : nv_Hp) (x1 : Int32) (x2 : Int32) (x3 : Int32) (x4 : Int32) (x5 : Int32) (x6 : Int32) (x7 : Int32) (x8 : Int32) : Option (Int32 × nv_Hp) := (Option.bind (pm_isGiven h x1 x2 x3 x4) fun q1 => (if q1 = true then (if (pm_in (Int32.toInt64 x5) 1 15) = true then (if (pm_in (Int32.toInt64 x6) 0 999) = true then (if (pm_isDay x8) = true then (if (pm_in (Int32.toInt64 x7) 0 (Int32.toInt64 x8)) = true then (if (h 73 6) = 12 then some ((-4), h) else (Option.bind (pm_lays h x1 x2 x3 x4 x5 x6 x7 x8) fun q8 => some (((q8 73 6) - 1), q8))) else some ((-2), h)) else some ((-2), h)) else some ((-2), h)) else some ((-2), h)) else some ((-2), h)))
set_option maxHeartbeats 2000000 in
theorem tm_leave (G : nv_G) (h : nv_Hp) (x1 : Int32) (x2 : Int32) (x3 : Int32) (x4 : Int32) (x5 : Int32) (x6 : Int32) (x7 : Int32) (x8 : Int32) {r : Int32 × nv_Hp} (hf : (pm_leave h x1 x2 x3 x4 x5 x6 x7 x8) = some r) : nv_Mt G 3 qX7_leave [.ref 73, .int x1, .int x2, .int x3, .int x4, .int x5, .int x6, .int x7, .int x8] (nv_s h) (some (.int r.1), nv_s r.2) := by
  refine nv_of (by decide +kernel) (fun ad => Nat.le_of_ble_eq_true rfl) (Nat.le_refl _) (Nat.le_of_ble_eq_true rfl) ?_
  show nv_E G 3 qX7_leave 0 [some (.ref 73), some (.int x1), some (.int x2), some (.int x3), some (.int x4), some (.int x5), some (.int x6), some (.int x7), some (.int x8)] [] (nv_s h) (some (.int r.1), nv_s r.2)
  unfold pm_leave at hf
  refine nv_aL dX7_leave_0 rfl ?_
  refine nv_iL dX7_leave_1 rfl ?_
  refine nv_iL dX7_leave_2 rfl ?_
  refine nv_iL dX7_leave_3 rfl ?_
  refine nv_iL dX7_leave_4 rfl ?_
  obtain ⟨q1, hq1, hf⟩ := nv_bd hf
  refine nv_cVi (tm_isGiven G h x1 x2 x3 x4 hq1) dX7_leave_6 lm_X7_174 y_qX7_isGiven ko_73 rfl rfl (by decide) rfl (Nat.le_of_ble_eq_true rfl) ?_
  refine nv_ifeqB dX7_leave_9 (fun c2 => ?_) (fun c2 => ?_)
  · replace hf := nv_ip c2 hf
    refine nv_iL dX7_leave_12 rfl ?_
    refine nv_i2l dX7_leave_14 ?_
    refine nv_lconst dX7_leave_15 (v := 1) (by decide) ?_
    refine nv_ldc2 dX7_leave_16 lc_X7_178 ?_
    refine nv_cSi (tm_in G h (Int32.toInt64 x5) 1 15) dX7_leave_19 lm_X7_127 y_qX7_in rfl (by decide) rfl (Nat.le_of_ble_eq_true rfl) ?_
    refine nv_ifeqB dX7_leave_22 (fun c3 => ?_) (fun c3 => ?_)
    · replace hf := nv_ip c3 hf
      refine nv_iL dX7_leave_25 rfl ?_
      refine nv_i2l dX7_leave_27 ?_
      refine nv_lconst dX7_leave_28 (v := 0) (by decide) ?_
      refine nv_ldc2 dX7_leave_29 lc_X7_180 ?_
      refine nv_cSi (tm_in G h (Int32.toInt64 x6) 0 999) dX7_leave_32 lm_X7_127 y_qX7_in rfl (by decide) rfl (Nat.le_of_ble_eq_true rfl) ?_
      refine nv_ifeqB dX7_leave_35 (fun c4 => ?_) (fun c4 => ?_)
      · replace hf := nv_ip c4 hf
        refine nv_iL dX7_leave_38 rfl ?_
        refine nv_cSi (tm_isDay G h x8) dX7_leave_40 lm_X7_182 y_qX7_isDay rfl (by decide) rfl (Nat.le_of_ble_eq_true rfl) ?_
        refine nv_ifeqB dX7_leave_43 (fun c5 => ?_) (fun c5 => ?_)
        · replace hf := nv_ip c5 hf
          refine nv_iL dX7_leave_46 rfl ?_
          refine nv_i2l dX7_leave_48 ?_
          refine nv_lconst dX7_leave_49 (v := 0) (by decide) ?_
          refine nv_iL dX7_leave_50 rfl ?_
          refine nv_i2l dX7_leave_52 ?_
          refine nv_cSi (tm_in G h (Int32.toInt64 x7) 0 (Int32.toInt64 x8)) dX7_leave_53 lm_X7_127 y_qX7_in rfl (by decide) rfl (Nat.le_of_ble_eq_true rfl) ?_
          refine nv_ifneB dX7_leave_56 (fun c6 => ?_) (fun c6 => ?_)
          · replace hf := nv_ip c6 hf
            refine nv_aL dX7_leave_62 rfl ?_
            refine nv_tI lf_X7_165 dX7_leave_63 ko_73 rfl ?_
            refine nv_k dX7_leave_66 ?_
            refine nv_icne dX7_leave_68 (fun c7 => ?_) (fun c7 => ?_)
            · replace hf := nv_ip c7 hf
              refine nv_k dX7_leave_71 ?_
              obtain rfl := Option.some.inj hf
              exact nv_ireturnI dX7_leave_73 rfl
            · replace hf := nv_in c7 hf
              refine nv_aL dX7_leave_74 rfl ?_
              refine nv_iL dX7_leave_75 rfl ?_
              refine nv_iL dX7_leave_76 rfl ?_
              refine nv_iL dX7_leave_77 rfl ?_
              refine nv_iL dX7_leave_78 rfl ?_
              refine nv_iL dX7_leave_80 rfl ?_
              refine nv_iL dX7_leave_82 rfl ?_
              refine nv_iL dX7_leave_84 rfl ?_
              refine nv_iL dX7_leave_86 rfl ?_
              obtain ⟨q8, hq8, hf⟩ := nv_bd hf
              refine nv_cVv (tm_lays G h x1 x2 x3 x4 x5 x6 x7 x8 hq8) dX7_leave_88 lm_X7_185 y_qX7_lays ko_73 rfl rfl (by decide) rfl (Nat.le_of_ble_eq_true rfl) ?_
              refine nv_aL dX7_leave_91 rfl ?_
              refine nv_tI lf_X7_165 dX7_leave_92 ko_73 rfl ?_
              refine nv_k dX7_leave_95 ?_
              refine nv_isub dX7_leave_96 ?_
              obtain rfl := Option.some.inj hf
              exact nv_ireturnI dX7_leave_97 rfl
          · replace hf := nv_in c6 hf
            refine nv_k dX7_leave_59 ?_
            obtain rfl := Option.some.inj hf
            exact nv_ireturnI dX7_leave_61 rfl
        · replace hf := nv_in c5 hf
          refine nv_k dX7_leave_59 ?_
          obtain rfl := Option.some.inj hf
          exact nv_ireturnI dX7_leave_61 rfl
      · replace hf := nv_in c4 hf
        refine nv_k dX7_leave_59 ?_
        obtain rfl := Option.some.inj hf
        exact nv_ireturnI dX7_leave_61 rfl
    · replace hf := nv_in c3 hf
      refine nv_k dX7_leave_59 ?_
      obtain rfl := Option.some.inj hf
      exact nv_ireturnI dX7_leave_61 rfl
  · replace hf := nv_in c2 hf
    refine nv_k dX7_leave_59 ?_
    obtain rfl := Option.some.inj hf
    exact nv_ireturnI dX7_leave_61 rfl
/-! WhoseNameModel.leaveIs -/
theorem dX7_leaveIs_0 : nv_daload qX7_leaveIs 0 0 1 := Or.inr ⟨0, rfl, by decide +kernel, rfl⟩
theorem dX7_leaveIs_1 : nv_diload qX7_leaveIs 1 1 2 := Or.inr ⟨1, rfl, by decide +kernel, rfl⟩
theorem dX7_leaveIs_2 : nv_dc qX7_leaveIs 2 (.invokevirtual 168) 3 5 := ⟨by decide +kernel, rfl⟩
theorem dX7_leaveIs_5 : nv_dif qX7_leaveIs 5 .ne 11 8 := ⟨6, by decide +kernel, by decide, rfl⟩
theorem dX7_leaveIs_8 : nv_dk qX7_leaveIs 8 (-2) 10 := Or.inr (Or.inl ⟨(-2), ⟨by decide +kernel, rfl⟩, by decide⟩)
theorem dX7_leaveIs_10 : decode qX7_leaveIs.2.1 10 = .ok (.ireturn, 1) := by decide +kernel
theorem dX7_leaveIs_11 : nv_diload qX7_leaveIs 11 2 12 := Or.inr ⟨2, rfl, by decide +kernel, rfl⟩
theorem dX7_leaveIs_12 : decode qX7_leaveIs.2.1 12 = .ok (.tableswitch 126 0 9 #[56, 63, 70, 77, 84, 91, 98, 105, 112, 119], 56) := by decide +kernel
theorem swX7_leaveIs_12_0 (x : Int32) (hx : x = 0) : nv_dsw qX7_leaveIs 12 x 68 := by subst hx; exact Or.inl ⟨_, _, _, _, _, dX7_leaveIs_12, Or.inl ⟨56, by decide, by decide, rfl, by decide⟩⟩
theorem swX7_leaveIs_12_1 (x : Int32) (hx : x = 1) : nv_dsw qX7_leaveIs 12 x 75 := by subst hx; exact Or.inl ⟨_, _, _, _, _, dX7_leaveIs_12, Or.inl ⟨63, by decide, by decide, rfl, by decide⟩⟩
theorem swX7_leaveIs_12_2 (x : Int32) (hx : x = 2) : nv_dsw qX7_leaveIs 12 x 82 := by subst hx; exact Or.inl ⟨_, _, _, _, _, dX7_leaveIs_12, Or.inl ⟨70, by decide, by decide, rfl, by decide⟩⟩
theorem swX7_leaveIs_12_3 (x : Int32) (hx : x = 3) : nv_dsw qX7_leaveIs 12 x 89 := by subst hx; exact Or.inl ⟨_, _, _, _, _, dX7_leaveIs_12, Or.inl ⟨77, by decide, by decide, rfl, by decide⟩⟩
theorem swX7_leaveIs_12_4 (x : Int32) (hx : x = 4) : nv_dsw qX7_leaveIs 12 x 96 := by subst hx; exact Or.inl ⟨_, _, _, _, _, dX7_leaveIs_12, Or.inl ⟨84, by decide, by decide, rfl, by decide⟩⟩
theorem swX7_leaveIs_12_5 (x : Int32) (hx : x = 5) : nv_dsw qX7_leaveIs 12 x 103 := by subst hx; exact Or.inl ⟨_, _, _, _, _, dX7_leaveIs_12, Or.inl ⟨91, by decide, by decide, rfl, by decide⟩⟩
theorem swX7_leaveIs_12_6 (x : Int32) (hx : x = 6) : nv_dsw qX7_leaveIs 12 x 110 := by subst hx; exact Or.inl ⟨_, _, _, _, _, dX7_leaveIs_12, Or.inl ⟨98, by decide, by decide, rfl, by decide⟩⟩
theorem swX7_leaveIs_12_7 (x : Int32) (hx : x = 7) : nv_dsw qX7_leaveIs 12 x 117 := by subst hx; exact Or.inl ⟨_, _, _, _, _, dX7_leaveIs_12, Or.inl ⟨105, by decide, by decide, rfl, by decide⟩⟩
theorem swX7_leaveIs_12_8 (x : Int32) (hx : x = 8) : nv_dsw qX7_leaveIs 12 x 124 := by subst hx; exact Or.inl ⟨_, _, _, _, _, dX7_leaveIs_12, Or.inl ⟨112, by decide, by decide, rfl, by decide⟩⟩
theorem swX7_leaveIs_12_9 (x : Int32) (hx : x = 9) : nv_dsw qX7_leaveIs 12 x 131 := by subst hx; exact Or.inl ⟨_, _, _, _, _, dX7_leaveIs_12, Or.inl ⟨119, by decide, by decide, rfl, by decide⟩⟩
theorem swX7_leaveIs_12_d (x : Int32) (c0 : ¬ x = 0) (c1 : ¬ x = 1) (c2 : ¬ x = 2) (c3 : ¬ x = 3) (c4 : ¬ x = 4) (c5 : ¬ x = 5) (c6 : ¬ x = 6) (c7 : ¬ x = 7) (c8 : ¬ x = 8) (c9 : ¬ x = 9) : nv_dsw qX7_leaveIs 12 x 138 := by
  have g0 : x.toInt ≠ 0 := fun e => c0 (Int32.toInt_inj.mp (e.trans (by decide)))
  have g1 : x.toInt ≠ 1 := fun e => c1 (Int32.toInt_inj.mp (e.trans (by decide)))
  have g2 : x.toInt ≠ 2 := fun e => c2 (Int32.toInt_inj.mp (e.trans (by decide)))
  have g3 : x.toInt ≠ 3 := fun e => c3 (Int32.toInt_inj.mp (e.trans (by decide)))
  have g4 : x.toInt ≠ 4 := fun e => c4 (Int32.toInt_inj.mp (e.trans (by decide)))
  have g5 : x.toInt ≠ 5 := fun e => c5 (Int32.toInt_inj.mp (e.trans (by decide)))
  have g6 : x.toInt ≠ 6 := fun e => c6 (Int32.toInt_inj.mp (e.trans (by decide)))
  have g7 : x.toInt ≠ 7 := fun e => c7 (Int32.toInt_inj.mp (e.trans (by decide)))
  have g8 : x.toInt ≠ 8 := fun e => c8 (Int32.toInt_inj.mp (e.trans (by decide)))
  have g9 : x.toInt ≠ 9 := fun e => c9 (Int32.toInt_inj.mp (e.trans (by decide)))
  exact Or.inl ⟨_, _, _, _, _, dX7_leaveIs_12, Or.inr ⟨by omega, by decide⟩⟩
theorem dX7_leaveIs_68 : nv_daload qX7_leaveIs 68 0 69 := Or.inr ⟨0, rfl, by decide +kernel, rfl⟩
theorem dX7_leaveIs_69 : nv_dc qX7_leaveIs 69 (.getfield 25) 3 72 := ⟨by decide +kernel, rfl⟩
theorem dX7_leaveIs_72 : nv_diload qX7_leaveIs 72 1 73 := Or.inr ⟨1, rfl, by decide +kernel, rfl⟩
theorem dX7_leaveIs_73 : nv_dc qX7_leaveIs 73 (.iaload) 1 74 := ⟨by decide +kernel, rfl⟩
theorem dX7_leaveIs_74 : decode qX7_leaveIs.2.1 74 = .ok (.ireturn, 1) := by decide +kernel
theorem dX7_leaveIs_75 : nv_daload qX7_leaveIs 75 0 76 := Or.inr ⟨0, rfl, by decide +kernel, rfl⟩
theorem dX7_leaveIs_76 : nv_dc qX7_leaveIs 76 (.getfield 28) 3 79 := ⟨by decide +kernel, rfl⟩
theorem dX7_leaveIs_79 : nv_diload qX7_leaveIs 79 1 80 := Or.inr ⟨1, rfl, by decide +kernel, rfl⟩
theorem dX7_leaveIs_80 : nv_dc qX7_leaveIs 80 (.iaload) 1 81 := ⟨by decide +kernel, rfl⟩
theorem dX7_leaveIs_81 : decode qX7_leaveIs.2.1 81 = .ok (.ireturn, 1) := by decide +kernel
theorem dX7_leaveIs_82 : nv_daload qX7_leaveIs 82 0 83 := Or.inr ⟨0, rfl, by decide +kernel, rfl⟩
theorem dX7_leaveIs_83 : nv_dc qX7_leaveIs 83 (.getfield 31) 3 86 := ⟨by decide +kernel, rfl⟩
theorem dX7_leaveIs_86 : nv_diload qX7_leaveIs 86 1 87 := Or.inr ⟨1, rfl, by decide +kernel, rfl⟩
theorem dX7_leaveIs_87 : nv_dc qX7_leaveIs 87 (.iaload) 1 88 := ⟨by decide +kernel, rfl⟩
theorem dX7_leaveIs_88 : decode qX7_leaveIs.2.1 88 = .ok (.ireturn, 1) := by decide +kernel
theorem dX7_leaveIs_89 : nv_daload qX7_leaveIs 89 0 90 := Or.inr ⟨0, rfl, by decide +kernel, rfl⟩
theorem dX7_leaveIs_90 : nv_dc qX7_leaveIs 90 (.getfield 34) 3 93 := ⟨by decide +kernel, rfl⟩
theorem dX7_leaveIs_93 : nv_diload qX7_leaveIs 93 1 94 := Or.inr ⟨1, rfl, by decide +kernel, rfl⟩
theorem dX7_leaveIs_94 : nv_dc qX7_leaveIs 94 (.iaload) 1 95 := ⟨by decide +kernel, rfl⟩
theorem dX7_leaveIs_95 : decode qX7_leaveIs.2.1 95 = .ok (.ireturn, 1) := by decide +kernel
theorem dX7_leaveIs_96 : nv_daload qX7_leaveIs 96 0 97 := Or.inr ⟨0, rfl, by decide +kernel, rfl⟩
theorem dX7_leaveIs_97 : nv_dc qX7_leaveIs 97 (.getfield 37) 3 100 := ⟨by decide +kernel, rfl⟩
theorem dX7_leaveIs_100 : nv_diload qX7_leaveIs 100 1 101 := Or.inr ⟨1, rfl, by decide +kernel, rfl⟩
theorem dX7_leaveIs_101 : nv_dc qX7_leaveIs 101 (.iaload) 1 102 := ⟨by decide +kernel, rfl⟩
theorem dX7_leaveIs_102 : decode qX7_leaveIs.2.1 102 = .ok (.ireturn, 1) := by decide +kernel
theorem dX7_leaveIs_103 : nv_daload qX7_leaveIs 103 0 104 := Or.inr ⟨0, rfl, by decide +kernel, rfl⟩
theorem dX7_leaveIs_104 : nv_dc qX7_leaveIs 104 (.getfield 40) 3 107 := ⟨by decide +kernel, rfl⟩
theorem dX7_leaveIs_107 : nv_diload qX7_leaveIs 107 1 108 := Or.inr ⟨1, rfl, by decide +kernel, rfl⟩
theorem dX7_leaveIs_108 : nv_dc qX7_leaveIs 108 (.iaload) 1 109 := ⟨by decide +kernel, rfl⟩
theorem dX7_leaveIs_109 : decode qX7_leaveIs.2.1 109 = .ok (.ireturn, 1) := by decide +kernel
theorem dX7_leaveIs_110 : nv_daload qX7_leaveIs 110 0 111 := Or.inr ⟨0, rfl, by decide +kernel, rfl⟩
theorem dX7_leaveIs_111 : nv_dc qX7_leaveIs 111 (.getfield 43) 3 114 := ⟨by decide +kernel, rfl⟩
theorem dX7_leaveIs_114 : nv_diload qX7_leaveIs 114 1 115 := Or.inr ⟨1, rfl, by decide +kernel, rfl⟩
theorem dX7_leaveIs_115 : nv_dc qX7_leaveIs 115 (.iaload) 1 116 := ⟨by decide +kernel, rfl⟩
theorem dX7_leaveIs_116 : decode qX7_leaveIs.2.1 116 = .ok (.ireturn, 1) := by decide +kernel
theorem dX7_leaveIs_117 : nv_daload qX7_leaveIs 117 0 118 := Or.inr ⟨0, rfl, by decide +kernel, rfl⟩
theorem dX7_leaveIs_118 : nv_dc qX7_leaveIs 118 (.getfield 46) 3 121 := ⟨by decide +kernel, rfl⟩
theorem dX7_leaveIs_121 : nv_diload qX7_leaveIs 121 1 122 := Or.inr ⟨1, rfl, by decide +kernel, rfl⟩
theorem dX7_leaveIs_122 : nv_dc qX7_leaveIs 122 (.iaload) 1 123 := ⟨by decide +kernel, rfl⟩
theorem dX7_leaveIs_123 : decode qX7_leaveIs.2.1 123 = .ok (.ireturn, 1) := by decide +kernel
theorem dX7_leaveIs_124 : nv_daload qX7_leaveIs 124 0 125 := Or.inr ⟨0, rfl, by decide +kernel, rfl⟩
theorem dX7_leaveIs_125 : nv_dc qX7_leaveIs 125 (.getfield 49) 3 128 := ⟨by decide +kernel, rfl⟩
theorem dX7_leaveIs_128 : nv_diload qX7_leaveIs 128 1 129 := Or.inr ⟨1, rfl, by decide +kernel, rfl⟩
theorem dX7_leaveIs_129 : nv_dc qX7_leaveIs 129 (.iaload) 1 130 := ⟨by decide +kernel, rfl⟩
theorem dX7_leaveIs_130 : decode qX7_leaveIs.2.1 130 = .ok (.ireturn, 1) := by decide +kernel
theorem dX7_leaveIs_131 : nv_daload qX7_leaveIs 131 0 132 := Or.inr ⟨0, rfl, by decide +kernel, rfl⟩
theorem dX7_leaveIs_132 : nv_dc qX7_leaveIs 132 (.getfield 52) 3 135 := ⟨by decide +kernel, rfl⟩
theorem dX7_leaveIs_135 : nv_diload qX7_leaveIs 135 1 136 := Or.inr ⟨1, rfl, by decide +kernel, rfl⟩
theorem dX7_leaveIs_136 : nv_dc qX7_leaveIs 136 (.iaload) 1 137 := ⟨by decide +kernel, rfl⟩
theorem dX7_leaveIs_137 : decode qX7_leaveIs.2.1 137 = .ok (.ireturn, 1) := by decide +kernel
theorem dX7_leaveIs_138 : nv_dk qX7_leaveIs 138 (-2) 140 := Or.inr (Or.inl ⟨(-2), ⟨by decide +kernel, rfl⟩, by decide⟩)
theorem dX7_leaveIs_140 : decode qX7_leaveIs.2.1 140 = .ok (.ireturn, 1) := by decide +kernel
def pm_leaveIs (h : nv_Hp) (x1 : Int32) (x2 : Int32) : Option (Int32) := (if (pm_isLeave h x1) = true then (if x2 = 0 then (if nv_inb x1 13 = true then some (h 79 x1.toNatClampNeg) else none) else (if x2 = 1 then (if nv_inb x1 13 = true then some (h 80 x1.toNatClampNeg) else none) else (if x2 = 2 then (if nv_inb x1 13 = true then some (h 81 x1.toNatClampNeg) else none) else (if x2 = 3 then (if nv_inb x1 13 = true then some (h 82 x1.toNatClampNeg) else none) else (if x2 = 4 then (if nv_inb x1 13 = true then some (h 83 x1.toNatClampNeg) else none) else (if x2 = 5 then (if nv_inb x1 13 = true then some (h 84 x1.toNatClampNeg) else none) else (if x2 = 6 then (if nv_inb x1 13 = true then some (h 85 x1.toNatClampNeg) else none) else (if x2 = 7 then (if nv_inb x1 13 = true then some (h 86 x1.toNatClampNeg) else none) else (if x2 = 8 then (if nv_inb x1 13 = true then some (h 87 x1.toNatClampNeg) else none) else (if x2 = 9 then (if nv_inb x1 13 = true then some (h 88 x1.toNatClampNeg) else none) else some (-2))))))))))) else some (-2))
set_option maxHeartbeats 2000000 in
theorem tm_leaveIs (G : nv_G) (h : nv_Hp) (x1 : Int32) (x2 : Int32) {r : Int32} (hf : (pm_leaveIs h x1 x2) = some r) : nv_Mt G 2 qX7_leaveIs [.ref 73, .int x1, .int x2] (nv_s h) (some (.int r), nv_s h) := by
  refine nv_of (by decide +kernel) (fun ad => Nat.le_of_ble_eq_true rfl) (Nat.le_refl _) (Nat.le_of_ble_eq_true rfl) ?_
  show nv_E G 2 qX7_leaveIs 0 [some (.ref 73), some (.int x1), some (.int x2)] [] (nv_s h) (some (.int r), nv_s h)
  unfold pm_leaveIs at hf
  refine nv_aL dX7_leaveIs_0 rfl ?_
  refine nv_iL dX7_leaveIs_1 rfl ?_
  refine nv_cVi (tm_isLeave G h x1) dX7_leaveIs_2 lm_X7_168 y_qX7_isLeave ko_73 rfl rfl (by decide) rfl (Nat.le_of_ble_eq_true rfl) ?_
  refine nv_ifneB dX7_leaveIs_5 (fun c1 => ?_) (fun c1 => ?_)
  · replace hf := nv_ip c1 hf
    refine nv_iL dX7_leaveIs_11 rfl ?_
    by_cases c2 : x2 = 0
    · replace hf := nv_ip c2 hf
      refine nv_switch (tgt := 68) (swX7_leaveIs_12_0 _ c2) ?_
      refine nv_aL dX7_leaveIs_68 rfl ?_
      refine nv_tR lf_X7_25 dX7_leaveIs_69 ko_73 rfl ?_
      refine nv_iL dX7_leaveIs_72 rfl ?_
      obtain ⟨g3, hf⟩ := nv_gd hf
      refine nv_aI dX7_leaveIs_73 ka_79 g3 rfl ?_
      obtain rfl := Option.some.inj hf
      exact nv_ireturnI dX7_leaveIs_74 rfl
    · replace hf := nv_in c2 hf
      by_cases c4 : x2 = 1
      · replace hf := nv_ip c4 hf
        refine nv_switch (tgt := 75) (swX7_leaveIs_12_1 _ c4) ?_
        refine nv_aL dX7_leaveIs_75 rfl ?_
        refine nv_tR lf_X7_28 dX7_leaveIs_76 ko_73 rfl ?_
        refine nv_iL dX7_leaveIs_79 rfl ?_
        obtain ⟨g5, hf⟩ := nv_gd hf
        refine nv_aI dX7_leaveIs_80 ka_80 g5 rfl ?_
        obtain rfl := Option.some.inj hf
        exact nv_ireturnI dX7_leaveIs_81 rfl
      · replace hf := nv_in c4 hf
        by_cases c6 : x2 = 2
        · replace hf := nv_ip c6 hf
          refine nv_switch (tgt := 82) (swX7_leaveIs_12_2 _ c6) ?_
          refine nv_aL dX7_leaveIs_82 rfl ?_
          refine nv_tR lf_X7_31 dX7_leaveIs_83 ko_73 rfl ?_
          refine nv_iL dX7_leaveIs_86 rfl ?_
          obtain ⟨g7, hf⟩ := nv_gd hf
          refine nv_aI dX7_leaveIs_87 ka_81 g7 rfl ?_
          obtain rfl := Option.some.inj hf
          exact nv_ireturnI dX7_leaveIs_88 rfl
        · replace hf := nv_in c6 hf
          by_cases c8 : x2 = 3
          · replace hf := nv_ip c8 hf
            refine nv_switch (tgt := 89) (swX7_leaveIs_12_3 _ c8) ?_
            refine nv_aL dX7_leaveIs_89 rfl ?_
            refine nv_tR lf_X7_34 dX7_leaveIs_90 ko_73 rfl ?_
            refine nv_iL dX7_leaveIs_93 rfl ?_
            obtain ⟨g9, hf⟩ := nv_gd hf
            refine nv_aI dX7_leaveIs_94 ka_82 g9 rfl ?_
            obtain rfl := Option.some.inj hf
            exact nv_ireturnI dX7_leaveIs_95 rfl
          · replace hf := nv_in c8 hf
            by_cases c10 : x2 = 4
            · replace hf := nv_ip c10 hf
              refine nv_switch (tgt := 96) (swX7_leaveIs_12_4 _ c10) ?_
              refine nv_aL dX7_leaveIs_96 rfl ?_
              refine nv_tR lf_X7_37 dX7_leaveIs_97 ko_73 rfl ?_
              refine nv_iL dX7_leaveIs_100 rfl ?_
              obtain ⟨g11, hf⟩ := nv_gd hf
              refine nv_aI dX7_leaveIs_101 ka_83 g11 rfl ?_
              obtain rfl := Option.some.inj hf
              exact nv_ireturnI dX7_leaveIs_102 rfl
            · replace hf := nv_in c10 hf
              by_cases c12 : x2 = 5
              · replace hf := nv_ip c12 hf
                refine nv_switch (tgt := 103) (swX7_leaveIs_12_5 _ c12) ?_
                refine nv_aL dX7_leaveIs_103 rfl ?_
                refine nv_tR lf_X7_40 dX7_leaveIs_104 ko_73 rfl ?_
                refine nv_iL dX7_leaveIs_107 rfl ?_
                obtain ⟨g13, hf⟩ := nv_gd hf
                refine nv_aI dX7_leaveIs_108 ka_84 g13 rfl ?_
                obtain rfl := Option.some.inj hf
                exact nv_ireturnI dX7_leaveIs_109 rfl
              · replace hf := nv_in c12 hf
                by_cases c14 : x2 = 6
                · replace hf := nv_ip c14 hf
                  refine nv_switch (tgt := 110) (swX7_leaveIs_12_6 _ c14) ?_
                  refine nv_aL dX7_leaveIs_110 rfl ?_
                  refine nv_tR lf_X7_43 dX7_leaveIs_111 ko_73 rfl ?_
                  refine nv_iL dX7_leaveIs_114 rfl ?_
                  obtain ⟨g15, hf⟩ := nv_gd hf
                  refine nv_aI dX7_leaveIs_115 ka_85 g15 rfl ?_
                  obtain rfl := Option.some.inj hf
                  exact nv_ireturnI dX7_leaveIs_116 rfl
                · replace hf := nv_in c14 hf
                  by_cases c16 : x2 = 7
                  · replace hf := nv_ip c16 hf
                    refine nv_switch (tgt := 117) (swX7_leaveIs_12_7 _ c16) ?_
                    refine nv_aL dX7_leaveIs_117 rfl ?_
                    refine nv_tR lf_X7_46 dX7_leaveIs_118 ko_73 rfl ?_
                    refine nv_iL dX7_leaveIs_121 rfl ?_
                    obtain ⟨g17, hf⟩ := nv_gd hf
                    refine nv_aI dX7_leaveIs_122 ka_86 g17 rfl ?_
                    obtain rfl := Option.some.inj hf
                    exact nv_ireturnI dX7_leaveIs_123 rfl
                  · replace hf := nv_in c16 hf
                    by_cases c18 : x2 = 8
                    · replace hf := nv_ip c18 hf
                      refine nv_switch (tgt := 124) (swX7_leaveIs_12_8 _ c18) ?_
                      refine nv_aL dX7_leaveIs_124 rfl ?_
                      refine nv_tR lf_X7_49 dX7_leaveIs_125 ko_73 rfl ?_
                      refine nv_iL dX7_leaveIs_128 rfl ?_
                      obtain ⟨g19, hf⟩ := nv_gd hf
                      refine nv_aI dX7_leaveIs_129 ka_87 g19 rfl ?_
                      obtain rfl := Option.some.inj hf
                      exact nv_ireturnI dX7_leaveIs_130 rfl
                    · replace hf := nv_in c18 hf
                      by_cases c20 : x2 = 9
                      · replace hf := nv_ip c20 hf
                        refine nv_switch (tgt := 131) (swX7_leaveIs_12_9 _ c20) ?_
                        refine nv_aL dX7_leaveIs_131 rfl ?_
                        refine nv_tR lf_X7_52 dX7_leaveIs_132 ko_73 rfl ?_
                        refine nv_iL dX7_leaveIs_135 rfl ?_
                        obtain ⟨g21, hf⟩ := nv_gd hf
                        refine nv_aI dX7_leaveIs_136 ka_88 g21 rfl ?_
                        obtain rfl := Option.some.inj hf
                        exact nv_ireturnI dX7_leaveIs_137 rfl
                      · replace hf := nv_in c20 hf
                        refine nv_switch (tgt := 138) (swX7_leaveIs_12_d _ c2 c4 c6 c8 c10 c12 c14 c16 c18 c20) ?_
                        refine nv_k dX7_leaveIs_138 ?_
                        obtain rfl := Option.some.inj hf
                        exact nv_ireturnI dX7_leaveIs_140 rfl
  · replace hf := nv_in c1 hf
    refine nv_k dX7_leaveIs_8 ?_
    obtain rfl := Option.some.inj hf
    exact nv_ireturnI dX7_leaveIs_10 rfl
/-! WhoseNameModel.isBack -/
theorem dX7_isBack_0 : nv_diload qX7_isBack 0 1 1 := Or.inr ⟨1, rfl, by decide +kernel, rfl⟩
theorem dX7_isBack_1 : nv_dc qX7_isBack 1 (.i2l) 1 2 := ⟨by decide +kernel, rfl⟩
theorem dX7_isBack_2 : nv_dc qX7_isBack 2 (.lconst 0) 1 3 := ⟨by decide +kernel, rfl⟩
theorem dX7_isBack_3 : nv_daload qX7_isBack 3 0 4 := Or.inr ⟨0, rfl, by decide +kernel, rfl⟩
theorem dX7_isBack_4 : nv_dc qX7_isBack 4 (.getfield 189) 3 7 := ⟨by decide +kernel, rfl⟩
theorem dX7_isBack_7 : nv_dk qX7_isBack 7 1 8 := Or.inl ⟨1, ⟨by decide +kernel, rfl⟩, by decide⟩
theorem dX7_isBack_8 : nv_dc qX7_isBack 8 (.isub) 1 9 := ⟨by decide +kernel, rfl⟩
theorem dX7_isBack_9 : nv_dc qX7_isBack 9 (.i2l) 1 10 := ⟨by decide +kernel, rfl⟩
theorem dX7_isBack_10 : nv_dc qX7_isBack 10 (.invokestatic 127) 3 13 := ⟨by decide +kernel, rfl⟩
theorem dX7_isBack_13 : decode qX7_isBack.2.1 13 = .ok (.ireturn, 1) := by decide +kernel
def pm_isBack (h : nv_Hp) (x1 : Int32) : Bool := (pm_in (Int32.toInt64 x1) 0 (Int32.toInt64 ((h 73 17) - 1)))
set_option maxHeartbeats 2000000 in
theorem tm_isBack (G : nv_G) (h : nv_Hp) (x1 : Int32) : nv_Mt G 1 qX7_isBack [.ref 73, .int x1] (nv_s h) (some (.int (nv_bi (pm_isBack h x1))), nv_s h) := by
  refine nv_of (by decide +kernel) (fun ad => Nat.le_of_ble_eq_true rfl) (Nat.le_refl _) (Nat.le_of_ble_eq_true rfl) ?_
  show nv_E G 1 qX7_isBack 0 [some (.ref 73), some (.int x1)] [] (nv_s h) (some (.int (nv_bi (pm_isBack h x1))), nv_s h)
  generalize hf : (pm_isBack h x1) = r
  unfold pm_isBack at hf
  refine nv_iL dX7_isBack_0 rfl ?_
  refine nv_i2l dX7_isBack_1 ?_
  refine nv_lconst dX7_isBack_2 (v := 0) (by decide) ?_
  refine nv_aL dX7_isBack_3 rfl ?_
  refine nv_tI lf_X7_189 dX7_isBack_4 ko_73 rfl ?_
  refine nv_k dX7_isBack_7 ?_
  refine nv_isub dX7_isBack_8 ?_
  refine nv_i2l dX7_isBack_9 ?_
  refine nv_cSi (tm_in G h (Int32.toInt64 x1) 0 (Int32.toInt64 ((h 73 17) - 1))) dX7_isBack_10 lm_X7_127 y_qX7_in rfl (by decide) rfl (Nat.le_of_ble_eq_true rfl) ?_
  subst hf
  exact nv_ireturnB (b := (pm_in (Int32.toInt64 x1) 0 (Int32.toInt64 ((h 73 17) - 1)))) dX7_isBack_13 rfl
/-! WhoseNameModel.back -/
theorem dX7_back_0 : nv_daload qX7_back 0 0 1 := Or.inr ⟨0, rfl, by decide +kernel, rfl⟩
theorem dX7_back_1 : nv_diload qX7_back 1 1 2 := Or.inr ⟨1, rfl, by decide +kernel, rfl⟩
theorem dX7_back_2 : nv_dc qX7_back 2 (.invokevirtual 168) 3 5 := ⟨by decide +kernel, rfl⟩
theorem dX7_back_5 : nv_dif qX7_back 5 .eq 42 8 := ⟨37, by decide +kernel, by decide, rfl⟩
theorem dX7_back_8 : nv_diload qX7_back 8 2 9 := Or.inr ⟨2, rfl, by decide +kernel, rfl⟩
theorem dX7_back_9 : nv_dc qX7_back 9 (.invokestatic 182) 3 12 := ⟨by decide +kernel, rfl⟩
theorem dX7_back_12 : nv_dif qX7_back 12 .eq 42 15 := ⟨30, by decide +kernel, by decide, rfl⟩
theorem dX7_back_15 : nv_diload qX7_back 15 3 16 := Or.inr ⟨3, rfl, by decide +kernel, rfl⟩
theorem dX7_back_16 : nv_dc qX7_back 16 (.invokestatic 160) 3 19 := ⟨by decide +kernel, rfl⟩
theorem dX7_back_19 : nv_dif qX7_back 19 .eq 42 22 := ⟨23, by decide +kernel, by decide, rfl⟩
theorem dX7_back_22 : nv_diload qX7_back 22 4 24 := Or.inl ⟨by decide +kernel, rfl⟩
theorem dX7_back_24 : nv_dk qX7_back 24 (-1) 25 := Or.inl ⟨(-1), ⟨by decide +kernel, rfl⟩, by decide⟩
theorem dX7_back_25 : nv_dic qX7_back 25 .eq 45 28 := ⟨20, by decide +kernel, by decide, rfl⟩
theorem dX7_back_28 : nv_diload qX7_back 28 4 30 := Or.inl ⟨by decide +kernel, rfl⟩
theorem dX7_back_30 : nv_dc qX7_back 30 (.i2l) 1 31 := ⟨by decide +kernel, rfl⟩
theorem dX7_back_31 : nv_diload qX7_back 31 2 32 := Or.inr ⟨2, rfl, by decide +kernel, rfl⟩
theorem dX7_back_32 : nv_dc qX7_back 32 (.i2l) 1 33 := ⟨by decide +kernel, rfl⟩
theorem dX7_back_33 : nv_dc qX7_back 33 (.ldc2_w 192) 3 36 := ⟨by decide +kernel, rfl⟩
theorem dX7_back_36 : nv_dc qX7_back 36 (.invokestatic 127) 3 39 := ⟨by decide +kernel, rfl⟩
theorem dX7_back_39 : nv_dif qX7_back 39 .ne 45 42 := ⟨6, by decide +kernel, by decide, rfl⟩
theorem dX7_back_42 : nv_dk qX7_back 42 (-2) 44 := Or.inr (Or.inl ⟨(-2), ⟨by decide +kernel, rfl⟩, by decide⟩)
theorem dX7_back_44 : decode qX7_back.2.1 44 = .ok (.ireturn, 1) := by decide +kernel
theorem dX7_back_45 : nv_daload qX7_back 45 0 46 := Or.inr ⟨0, rfl, by decide +kernel, rfl⟩
theorem dX7_back_46 : nv_dc qX7_back 46 (.getfield 189) 3 49 := ⟨by decide +kernel, rfl⟩
theorem dX7_back_49 : nv_dk qX7_back 49 12 51 := Or.inr (Or.inl ⟨12, ⟨by decide +kernel, rfl⟩, by decide⟩)
theorem dX7_back_51 : nv_dic qX7_back 51 .ne 57 54 := ⟨6, by decide +kernel, by decide, rfl⟩
theorem dX7_back_54 : nv_dk qX7_back 54 (-4) 56 := Or.inr (Or.inl ⟨(-4), ⟨by decide +kernel, rfl⟩, by decide⟩)
theorem dX7_back_56 : decode qX7_back.2.1 56 = .ok (.ireturn, 1) := by decide +kernel
theorem dX7_back_57 : nv_daload qX7_back 57 0 58 := Or.inr ⟨0, rfl, by decide +kernel, rfl⟩
theorem dX7_back_58 : nv_dc qX7_back 58 (.getfield 55) 3 61 := ⟨by decide +kernel, rfl⟩
theorem dX7_back_61 : nv_daload qX7_back 61 0 62 := Or.inr ⟨0, rfl, by decide +kernel, rfl⟩
theorem dX7_back_62 : nv_dc qX7_back 62 (.getfield 189) 3 65 := ⟨by decide +kernel, rfl⟩
theorem dX7_back_65 : nv_diload qX7_back 65 1 66 := Or.inr ⟨1, rfl, by decide +kernel, rfl⟩
theorem dX7_back_66 : nv_dc qX7_back 66 (.iastore) 1 67 := ⟨by decide +kernel, rfl⟩
theorem dX7_back_67 : nv_daload qX7_back 67 0 68 := Or.inr ⟨0, rfl, by decide +kernel, rfl⟩
theorem dX7_back_68 : nv_dc qX7_back 68 (.getfield 58) 3 71 := ⟨by decide +kernel, rfl⟩
theorem dX7_back_71 : nv_daload qX7_back 71 0 72 := Or.inr ⟨0, rfl, by decide +kernel, rfl⟩
theorem dX7_back_72 : nv_dc qX7_back 72 (.getfield 189) 3 75 := ⟨by decide +kernel, rfl⟩
theorem dX7_back_75 : nv_diload qX7_back 75 2 76 := Or.inr ⟨2, rfl, by decide +kernel, rfl⟩
theorem dX7_back_76 : nv_dc qX7_back 76 (.iastore) 1 77 := ⟨by decide +kernel, rfl⟩
theorem dX7_back_77 : nv_daload qX7_back 77 0 78 := Or.inr ⟨0, rfl, by decide +kernel, rfl⟩
theorem dX7_back_78 : nv_dc qX7_back 78 (.getfield 61) 3 81 := ⟨by decide +kernel, rfl⟩
theorem dX7_back_81 : nv_daload qX7_back 81 0 82 := Or.inr ⟨0, rfl, by decide +kernel, rfl⟩
theorem dX7_back_82 : nv_dc qX7_back 82 (.getfield 189) 3 85 := ⟨by decide +kernel, rfl⟩
theorem dX7_back_85 : nv_diload qX7_back 85 3 86 := Or.inr ⟨3, rfl, by decide +kernel, rfl⟩
theorem dX7_back_86 : nv_dc qX7_back 86 (.iastore) 1 87 := ⟨by decide +kernel, rfl⟩
theorem dX7_back_87 : nv_daload qX7_back 87 0 88 := Or.inr ⟨0, rfl, by decide +kernel, rfl⟩
theorem dX7_back_88 : nv_dc qX7_back 88 (.getfield 64) 3 91 := ⟨by decide +kernel, rfl⟩
theorem dX7_back_91 : nv_daload qX7_back 91 0 92 := Or.inr ⟨0, rfl, by decide +kernel, rfl⟩
theorem dX7_back_92 : nv_dc qX7_back 92 (.getfield 189) 3 95 := ⟨by decide +kernel, rfl⟩
theorem dX7_back_95 : nv_diload qX7_back 95 4 97 := Or.inl ⟨by decide +kernel, rfl⟩
theorem dX7_back_97 : nv_dc qX7_back 97 (.iastore) 1 98 := ⟨by decide +kernel, rfl⟩
theorem dX7_back_98 : nv_daload qX7_back 98 0 99 := Or.inr ⟨0, rfl, by decide +kernel, rfl⟩
theorem dX7_back_99 : nv_dc qX7_back 99 (.dup) 1 100 := ⟨by decide +kernel, rfl⟩
theorem dX7_back_100 : nv_dc qX7_back 100 (.getfield 189) 3 103 := ⟨by decide +kernel, rfl⟩
theorem dX7_back_103 : nv_dk qX7_back 103 1 104 := Or.inl ⟨1, ⟨by decide +kernel, rfl⟩, by decide⟩
theorem dX7_back_104 : nv_dc qX7_back 104 (.iadd) 1 105 := ⟨by decide +kernel, rfl⟩
theorem dX7_back_105 : nv_dc qX7_back 105 (.putfield 189) 3 108 := ⟨by decide +kernel, rfl⟩
theorem dX7_back_108 : nv_daload qX7_back 108 0 109 := Or.inr ⟨0, rfl, by decide +kernel, rfl⟩
theorem dX7_back_109 : nv_dc qX7_back 109 (.getfield 189) 3 112 := ⟨by decide +kernel, rfl⟩
theorem dX7_back_112 : nv_dk qX7_back 112 1 113 := Or.inl ⟨1, ⟨by decide +kernel, rfl⟩, by decide⟩
theorem dX7_back_113 : nv_dc qX7_back 113 (.isub) 1 114 := ⟨by decide +kernel, rfl⟩
theorem dX7_back_114 : decode qX7_back.2.1 114 = .ok (.ireturn, 1) := by decide +kernel
def pm_back_45 (h : nv_Hp) (x1 : Int32) (x2 : Int32) (x3 : Int32) (x4 : Int32)   : Option (Int32 × nv_Hp) := (if (h 73 17) = 12 then some ((-4), h) else (if nv_inb (h 73 17) 12 = true then (nv_lt (nv_up h 89 (h 73 17).toNatClampNeg x1) fun h3 => (if nv_inb (h3 73 17) 12 = true then (nv_lt (nv_up h3 90 (h3 73 17).toNatClampNeg x2) fun h5 => (if nv_inb (h5 73 17) 12 = true then (nv_lt (nv_up h5 91 (h5 73 17).toNatClampNeg x3) fun h7 => (if nv_inb (h7 73 17) 12 = true then (nv_lt (nv_up h7 92 (h7 73 17).toNatClampNeg x4) fun h9 => (nv_lt (nv_up h9 73 17 ((h9 73 17) + 1)) fun h10 => some (((h10 73 17) - 1), h10))) else none)) else none)) else none)) else none))
set_option maxHeartbeats 2000000 in
theorem tm_back_45 (G : nv_G) (h : nv_Hp) (x1 : Int32) (x2 : Int32) (x3 : Int32) (x4 : Int32)   (r : Int32 × nv_Hp) (hf : pm_back_45 h x1 x2 x3 x4 = some r) : nv_E G 2 qX7_back 45 [some (.ref 73), some (.int x1), some (.int x2), some (.int x3), some (.int x4)] [] (nv_s h) (some (.int r.1), nv_s r.2) := by
  unfold pm_back_45 at hf
  refine nv_aL dX7_back_45 rfl ?_
  refine nv_tI lf_X7_189 dX7_back_46 ko_73 rfl ?_
  refine nv_k dX7_back_49 ?_
  refine nv_icne dX7_back_51 (fun c1 => ?_) (fun c1 => ?_)
  · replace hf := nv_ip c1 hf
    refine nv_k dX7_back_54 ?_
    obtain rfl := Option.some.inj hf
    exact nv_ireturnI dX7_back_56 rfl
  · replace hf := nv_in c1 hf
    refine nv_aL dX7_back_57 rfl ?_
    refine nv_tR lf_X7_55 dX7_back_58 ko_73 rfl ?_
    refine nv_aL dX7_back_61 rfl ?_
    refine nv_tI lf_X7_189 dX7_back_62 ko_73 rfl ?_
    refine nv_iL dX7_back_65 rfl ?_
    obtain ⟨g2, hf⟩ := nv_gd hf
    refine nv_aP dX7_back_66 ka_89 g2 rfl ?_
    obtain ⟨h3, eh3, hf⟩ := nv_ltX hf
    rw [eh3]
    clear eh3
    refine nv_aL dX7_back_67 rfl ?_
    refine nv_tR lf_X7_58 dX7_back_68 ko_73 rfl ?_
    refine nv_aL dX7_back_71 rfl ?_
    refine nv_tI lf_X7_189 dX7_back_72 ko_73 rfl ?_
    refine nv_iL dX7_back_75 rfl ?_
    obtain ⟨g4, hf⟩ := nv_gd hf
    refine nv_aP dX7_back_76 ka_90 g4 rfl ?_
    obtain ⟨h5, eh5, hf⟩ := nv_ltX hf
    rw [eh5]
    clear eh5
    refine nv_aL dX7_back_77 rfl ?_
    refine nv_tR lf_X7_61 dX7_back_78 ko_73 rfl ?_
    refine nv_aL dX7_back_81 rfl ?_
    refine nv_tI lf_X7_189 dX7_back_82 ko_73 rfl ?_
    refine nv_iL dX7_back_85 rfl ?_
    obtain ⟨g6, hf⟩ := nv_gd hf
    refine nv_aP dX7_back_86 ka_91 g6 rfl ?_
    obtain ⟨h7, eh7, hf⟩ := nv_ltX hf
    rw [eh7]
    clear eh7
    refine nv_aL dX7_back_87 rfl ?_
    refine nv_tR lf_X7_64 dX7_back_88 ko_73 rfl ?_
    refine nv_aL dX7_back_91 rfl ?_
    refine nv_tI lf_X7_189 dX7_back_92 ko_73 rfl ?_
    refine nv_iL dX7_back_95 rfl ?_
    obtain ⟨g8, hf⟩ := nv_gd hf
    refine nv_aP dX7_back_97 ka_92 g8 rfl ?_
    obtain ⟨h9, eh9, hf⟩ := nv_ltX hf
    rw [eh9]
    clear eh9
    refine nv_aL dX7_back_98 rfl ?_
    refine nv_dup dX7_back_99 rfl ?_
    refine nv_tI lf_X7_189 dX7_back_100 ko_73 rfl ?_
    refine nv_k dX7_back_103 ?_
    refine nv_iadd dX7_back_104 ?_
    refine nv_tP lp_X7_189 dX7_back_105 ko_73 rfl ?_
    obtain ⟨h10, eh10, hf⟩ := nv_ltX hf
    rw [eh10]
    clear eh10
    refine nv_aL dX7_back_108 rfl ?_
    refine nv_tI lf_X7_189 dX7_back_109 ko_73 rfl ?_
    refine nv_k dX7_back_112 ?_
    refine nv_isub dX7_back_113 ?_
    obtain rfl := Option.some.inj hf
    exact nv_ireturnI dX7_back_114 rfl
def pm_back (h : nv_Hp) (x1 : Int32) (x2 : Int32) (x3 : Int32) (x4 : Int32) : Option (Int32 × nv_Hp) := (if (pm_isLeave h x1) = true then (if (pm_isDay x2) = true then (if (pm_isPerson x3) = true then (if x4 = (-1) then (pm_back_45 h x1 x2 x3 x4) else (if (pm_in (Int32.toInt64 x4) (Int32.toInt64 x2) 100) = true then (pm_back_45 h x1 x2 x3 x4) else some ((-2), h))) else some ((-2), h)) else some ((-2), h)) else some ((-2), h))
set_option maxHeartbeats 2000000 in
theorem tm_back (G : nv_G) (h : nv_Hp) (x1 : Int32) (x2 : Int32) (x3 : Int32) (x4 : Int32) {r : Int32 × nv_Hp} (hf : (pm_back h x1 x2 x3 x4) = some r) : nv_Mt G 2 qX7_back [.ref 73, .int x1, .int x2, .int x3, .int x4] (nv_s h) (some (.int r.1), nv_s r.2) := by
  refine nv_of (by decide +kernel) (fun ad => Nat.le_of_ble_eq_true rfl) (Nat.le_refl _) (Nat.le_of_ble_eq_true rfl) ?_
  show nv_E G 2 qX7_back 0 [some (.ref 73), some (.int x1), some (.int x2), some (.int x3), some (.int x4)] [] (nv_s h) (some (.int r.1), nv_s r.2)
  unfold pm_back at hf
  refine nv_aL dX7_back_0 rfl ?_
  refine nv_iL dX7_back_1 rfl ?_
  refine nv_cVi (tm_isLeave G h x1) dX7_back_2 lm_X7_168 y_qX7_isLeave ko_73 rfl rfl (by decide) rfl (Nat.le_of_ble_eq_true rfl) ?_
  refine nv_ifeqB dX7_back_5 (fun c1 => ?_) (fun c1 => ?_)
  · replace hf := nv_ip c1 hf
    refine nv_iL dX7_back_8 rfl ?_
    refine nv_cSi (tm_isDay G h x2) dX7_back_9 lm_X7_182 y_qX7_isDay rfl (by decide) rfl (Nat.le_of_ble_eq_true rfl) ?_
    refine nv_ifeqB dX7_back_12 (fun c2 => ?_) (fun c2 => ?_)
    · replace hf := nv_ip c2 hf
      refine nv_iL dX7_back_15 rfl ?_
      refine nv_cSi (tm_isPerson G h x3) dX7_back_16 lm_X7_160 y_qX7_isPerson rfl (by decide) rfl (Nat.le_of_ble_eq_true rfl) ?_
      refine nv_ifeqB dX7_back_19 (fun c3 => ?_) (fun c3 => ?_)
      · replace hf := nv_ip c3 hf
        refine nv_iL dX7_back_22 rfl ?_
        refine nv_k dX7_back_24 ?_
        refine nv_iceq dX7_back_25 (fun c4 => ?_) (fun c4 => ?_)
        · replace hf := nv_ip c4 hf
          exact tm_back_45 G _ _ _ _ _ _ hf
        · replace hf := nv_in c4 hf
          refine nv_iL dX7_back_28 rfl ?_
          refine nv_i2l dX7_back_30 ?_
          refine nv_iL dX7_back_31 rfl ?_
          refine nv_i2l dX7_back_32 ?_
          refine nv_ldc2 dX7_back_33 lc_X7_192 ?_
          refine nv_cSi (tm_in G h (Int32.toInt64 x4) (Int32.toInt64 x2) 100) dX7_back_36 lm_X7_127 y_qX7_in rfl (by decide) rfl (Nat.le_of_ble_eq_true rfl) ?_
          refine nv_ifneB dX7_back_39 (fun c5 => ?_) (fun c5 => ?_)
          · replace hf := nv_ip c5 hf
            exact tm_back_45 G _ _ _ _ _ _ hf
          · replace hf := nv_in c5 hf
            refine nv_k dX7_back_42 ?_
            obtain rfl := Option.some.inj hf
            exact nv_ireturnI dX7_back_44 rfl
      · replace hf := nv_in c3 hf
        refine nv_k dX7_back_42 ?_
        obtain rfl := Option.some.inj hf
        exact nv_ireturnI dX7_back_44 rfl
    · replace hf := nv_in c2 hf
      refine nv_k dX7_back_42 ?_
      obtain rfl := Option.some.inj hf
      exact nv_ireturnI dX7_back_44 rfl
  · replace hf := nv_in c1 hf
    refine nv_k dX7_back_42 ?_
    obtain rfl := Option.some.inj hf
    exact nv_ireturnI dX7_back_44 rfl
/-! WhoseNameModel.heard -/
theorem dX7_heard_0 : nv_daload qX7_heard 0 0 1 := Or.inr ⟨0, rfl, by decide +kernel, rfl⟩
theorem dX7_heard_1 : nv_diload qX7_heard 1 1 2 := Or.inr ⟨1, rfl, by decide +kernel, rfl⟩
theorem dX7_heard_2 : nv_dc qX7_heard 2 (.invokevirtual 194) 3 5 := ⟨by decide +kernel, rfl⟩
theorem dX7_heard_5 : nv_dif qX7_heard 5 .eq 26 8 := ⟨21, by decide +kernel, by decide, rfl⟩
theorem dX7_heard_8 : nv_diload qX7_heard 8 2 9 := Or.inr ⟨2, rfl, by decide +kernel, rfl⟩
theorem dX7_heard_9 : nv_dc qX7_heard 9 (.i2l) 1 10 := ⟨by decide +kernel, rfl⟩
theorem dX7_heard_10 : nv_daload qX7_heard 10 0 11 := Or.inr ⟨0, rfl, by decide +kernel, rfl⟩
theorem dX7_heard_11 : nv_dc qX7_heard 11 (.getfield 58) 3 14 := ⟨by decide +kernel, rfl⟩
theorem dX7_heard_14 : nv_diload qX7_heard 14 1 15 := Or.inr ⟨1, rfl, by decide +kernel, rfl⟩
theorem dX7_heard_15 : nv_dc qX7_heard 15 (.iaload) 1 16 := ⟨by decide +kernel, rfl⟩
theorem dX7_heard_16 : nv_dc qX7_heard 16 (.i2l) 1 17 := ⟨by decide +kernel, rfl⟩
theorem dX7_heard_17 : nv_dc qX7_heard 17 (.ldc2_w 192) 3 20 := ⟨by decide +kernel, rfl⟩
theorem dX7_heard_20 : nv_dc qX7_heard 20 (.invokestatic 127) 3 23 := ⟨by decide +kernel, rfl⟩
theorem dX7_heard_23 : nv_dif qX7_heard 23 .ne 29 26 := ⟨6, by decide +kernel, by decide, rfl⟩
theorem dX7_heard_26 : nv_dk qX7_heard 26 (-2) 28 := Or.inr (Or.inl ⟨(-2), ⟨by decide +kernel, rfl⟩, by decide⟩)
theorem dX7_heard_28 : decode qX7_heard.2.1 28 = .ok (.ireturn, 1) := by decide +kernel
theorem dX7_heard_29 : nv_daload qX7_heard 29 0 30 := Or.inr ⟨0, rfl, by decide +kernel, rfl⟩
theorem dX7_heard_30 : nv_dc qX7_heard 30 (.getfield 64) 3 33 := ⟨by decide +kernel, rfl⟩
theorem dX7_heard_33 : nv_diload qX7_heard 33 1 34 := Or.inr ⟨1, rfl, by decide +kernel, rfl⟩
theorem dX7_heard_34 : nv_dc qX7_heard 34 (.iaload) 1 35 := ⟨by decide +kernel, rfl⟩
theorem dX7_heard_35 : nv_dk qX7_heard 35 (-1) 36 := Or.inl ⟨(-1), ⟨by decide +kernel, rfl⟩, by decide⟩
theorem dX7_heard_36 : nv_dic qX7_heard 36 .eq 42 39 := ⟨6, by decide +kernel, by decide, rfl⟩
theorem dX7_heard_39 : nv_dk qX7_heard 39 (-3) 41 := Or.inr (Or.inl ⟨(-3), ⟨by decide +kernel, rfl⟩, by decide⟩)
theorem dX7_heard_41 : decode qX7_heard.2.1 41 = .ok (.ireturn, 1) := by decide +kernel
theorem dX7_heard_42 : nv_daload qX7_heard 42 0 43 := Or.inr ⟨0, rfl, by decide +kernel, rfl⟩
theorem dX7_heard_43 : nv_dc qX7_heard 43 (.getfield 64) 3 46 := ⟨by decide +kernel, rfl⟩
theorem dX7_heard_46 : nv_diload qX7_heard 46 1 47 := Or.inr ⟨1, rfl, by decide +kernel, rfl⟩
theorem dX7_heard_47 : nv_diload qX7_heard 47 2 48 := Or.inr ⟨2, rfl, by decide +kernel, rfl⟩
theorem dX7_heard_48 : nv_dc qX7_heard 48 (.iastore) 1 49 := ⟨by decide +kernel, rfl⟩
theorem dX7_heard_49 : nv_dk qX7_heard 49 1 50 := Or.inl ⟨1, ⟨by decide +kernel, rfl⟩, by decide⟩
theorem dX7_heard_50 : decode qX7_heard.2.1 50 = .ok (.ireturn, 1) := by decide +kernel
def pm_heard (h : nv_Hp) (x1 : Int32) (x2 : Int32) : Option (Int32 × nv_Hp) := (if (pm_isBack h x1) = true then (if nv_inb x1 12 = true then (if (pm_in (Int32.toInt64 x2) (Int32.toInt64 (h 90 x1.toNatClampNeg)) 100) = true then (if (h 92 x1.toNatClampNeg) = (-1) then (nv_lt (nv_up h 92 x1.toNatClampNeg x2) fun h5 => some (1, h5)) else some ((-3), h)) else some ((-2), h)) else none) else some ((-2), h))
set_option maxHeartbeats 2000000 in
theorem tm_heard (G : nv_G) (h : nv_Hp) (x1 : Int32) (x2 : Int32) {r : Int32 × nv_Hp} (hf : (pm_heard h x1 x2) = some r) : nv_Mt G 2 qX7_heard [.ref 73, .int x1, .int x2] (nv_s h) (some (.int r.1), nv_s r.2) := by
  refine nv_of (by decide +kernel) (fun ad => Nat.le_of_ble_eq_true rfl) (Nat.le_refl _) (Nat.le_of_ble_eq_true rfl) ?_
  show nv_E G 2 qX7_heard 0 [some (.ref 73), some (.int x1), some (.int x2)] [] (nv_s h) (some (.int r.1), nv_s r.2)
  unfold pm_heard at hf
  refine nv_aL dX7_heard_0 rfl ?_
  refine nv_iL dX7_heard_1 rfl ?_
  refine nv_cVi (tm_isBack G h x1) dX7_heard_2 lm_X7_194 y_qX7_isBack ko_73 rfl rfl (by decide) rfl (Nat.le_of_ble_eq_true rfl) ?_
  refine nv_ifeqB dX7_heard_5 (fun c1 => ?_) (fun c1 => ?_)
  · replace hf := nv_ip c1 hf
    refine nv_iL dX7_heard_8 rfl ?_
    refine nv_i2l dX7_heard_9 ?_
    refine nv_aL dX7_heard_10 rfl ?_
    refine nv_tR lf_X7_58 dX7_heard_11 ko_73 rfl ?_
    refine nv_iL dX7_heard_14 rfl ?_
    obtain ⟨g2, hf⟩ := nv_gd hf
    refine nv_aI dX7_heard_15 ka_90 g2 rfl ?_
    refine nv_i2l dX7_heard_16 ?_
    refine nv_ldc2 dX7_heard_17 lc_X7_192 ?_
    refine nv_cSi (tm_in G h (Int32.toInt64 x2) (Int32.toInt64 (h 90 x1.toNatClampNeg)) 100) dX7_heard_20 lm_X7_127 y_qX7_in rfl (by decide) rfl (Nat.le_of_ble_eq_true rfl) ?_
    refine nv_ifneB dX7_heard_23 (fun c3 => ?_) (fun c3 => ?_)
    · replace hf := nv_ip c3 hf
      refine nv_aL dX7_heard_29 rfl ?_
      refine nv_tR lf_X7_64 dX7_heard_30 ko_73 rfl ?_
      refine nv_iL dX7_heard_33 rfl ?_
      refine nv_aI dX7_heard_34 ka_92 g2 rfl ?_
      refine nv_k dX7_heard_35 ?_
      refine nv_iceq dX7_heard_36 (fun c4 => ?_) (fun c4 => ?_)
      · replace hf := nv_ip c4 hf
        refine nv_aL dX7_heard_42 rfl ?_
        refine nv_tR lf_X7_64 dX7_heard_43 ko_73 rfl ?_
        refine nv_iL dX7_heard_46 rfl ?_
        refine nv_iL dX7_heard_47 rfl ?_
        refine nv_aP dX7_heard_48 ka_92 g2 rfl ?_
        obtain ⟨h5, eh5, hf⟩ := nv_ltX hf
        rw [eh5]
        clear eh5
        refine nv_k dX7_heard_49 ?_
        obtain rfl := Option.some.inj hf
        exact nv_ireturnI dX7_heard_50 rfl
      · replace hf := nv_in c4 hf
        refine nv_k dX7_heard_39 ?_
        obtain rfl := Option.some.inj hf
        exact nv_ireturnI dX7_heard_41 rfl
    · replace hf := nv_in c3 hf
      refine nv_k dX7_heard_26 ?_
      obtain rfl := Option.some.inj hf
      exact nv_ireturnI dX7_heard_28 rfl
  · replace hf := nv_in c1 hf
    refine nv_k dX7_heard_26 ?_
    obtain rfl := Option.some.inj hf
    exact nv_ireturnI dX7_heard_28 rfl
/-! WhoseNameModel.isBargain -/
theorem dX7_isBargain_0 : nv_diload qX7_isBargain 0 1 1 := Or.inr ⟨1, rfl, by decide +kernel, rfl⟩
theorem dX7_isBargain_1 : nv_dc qX7_isBargain 1 (.i2l) 1 2 := ⟨by decide +kernel, rfl⟩
theorem dX7_isBargain_2 : nv_dc qX7_isBargain 2 (.lconst 0) 1 3 := ⟨by decide +kernel, rfl⟩
theorem dX7_isBargain_3 : nv_daload qX7_isBargain 3 0 4 := Or.inr ⟨0, rfl, by decide +kernel, rfl⟩
theorem dX7_isBargain_4 : nv_dc qX7_isBargain 4 (.getfield 197) 3 7 := ⟨by decide +kernel, rfl⟩
theorem dX7_isBargain_7 : nv_dk qX7_isBargain 7 1 8 := Or.inl ⟨1, ⟨by decide +kernel, rfl⟩, by decide⟩
theorem dX7_isBargain_8 : nv_dc qX7_isBargain 8 (.isub) 1 9 := ⟨by decide +kernel, rfl⟩
theorem dX7_isBargain_9 : nv_dc qX7_isBargain 9 (.i2l) 1 10 := ⟨by decide +kernel, rfl⟩
theorem dX7_isBargain_10 : nv_dc qX7_isBargain 10 (.invokestatic 127) 3 13 := ⟨by decide +kernel, rfl⟩
theorem dX7_isBargain_13 : decode qX7_isBargain.2.1 13 = .ok (.ireturn, 1) := by decide +kernel
def pm_isBargain (h : nv_Hp) (x1 : Int32) : Bool := (pm_in (Int32.toInt64 x1) 0 (Int32.toInt64 ((h 73 23) - 1)))
set_option maxHeartbeats 2000000 in
theorem tm_isBargain (G : nv_G) (h : nv_Hp) (x1 : Int32) : nv_Mt G 1 qX7_isBargain [.ref 73, .int x1] (nv_s h) (some (.int (nv_bi (pm_isBargain h x1))), nv_s h) := by
  refine nv_of (by decide +kernel) (fun ad => Nat.le_of_ble_eq_true rfl) (Nat.le_refl _) (Nat.le_of_ble_eq_true rfl) ?_
  show nv_E G 1 qX7_isBargain 0 [some (.ref 73), some (.int x1)] [] (nv_s h) (some (.int (nv_bi (pm_isBargain h x1))), nv_s h)
  generalize hf : (pm_isBargain h x1) = r
  unfold pm_isBargain at hf
  refine nv_iL dX7_isBargain_0 rfl ?_
  refine nv_i2l dX7_isBargain_1 ?_
  refine nv_lconst dX7_isBargain_2 (v := 0) (by decide) ?_
  refine nv_aL dX7_isBargain_3 rfl ?_
  refine nv_tI lf_X7_197 dX7_isBargain_4 ko_73 rfl ?_
  refine nv_k dX7_isBargain_7 ?_
  refine nv_isub dX7_isBargain_8 ?_
  refine nv_i2l dX7_isBargain_9 ?_
  refine nv_cSi (tm_in G h (Int32.toInt64 x1) 0 (Int32.toInt64 ((h 73 23) - 1))) dX7_isBargain_10 lm_X7_127 y_qX7_in rfl (by decide) rfl (Nat.le_of_ble_eq_true rfl) ?_
  subst hf
  exact nv_ireturnB (b := (pm_in (Int32.toInt64 x1) 0 (Int32.toInt64 ((h 73 23) - 1)))) dX7_isBargain_13 rfl
/-! WhoseNameModel.bargain -/
theorem dX7_bargain_0 : nv_diload qX7_bargain 0 1 1 := Or.inr ⟨1, rfl, by decide +kernel, rfl⟩
theorem dX7_bargain_1 : nv_dc qX7_bargain 1 (.invokestatic 160) 3 4 := ⟨by decide +kernel, rfl⟩
theorem dX7_bargain_4 : nv_dif qX7_bargain 4 .eq 40 7 := ⟨36, by decide +kernel, by decide, rfl⟩
theorem dX7_bargain_7 : nv_diload qX7_bargain 7 2 8 := Or.inr ⟨2, rfl, by decide +kernel, rfl⟩
theorem dX7_bargain_8 : nv_dk qX7_bargain 8 (-1) 9 := Or.inl ⟨(-1), ⟨by decide +kernel, rfl⟩, by decide⟩
theorem dX7_bargain_9 : nv_dic qX7_bargain 9 .eq 19 12 := ⟨10, by decide +kernel, by decide, rfl⟩
theorem dX7_bargain_12 : nv_diload qX7_bargain 12 2 13 := Or.inr ⟨2, rfl, by decide +kernel, rfl⟩
theorem dX7_bargain_13 : nv_dc qX7_bargain 13 (.invokestatic 160) 3 16 := ⟨by decide +kernel, rfl⟩
theorem dX7_bargain_16 : nv_dif qX7_bargain 16 .eq 40 19 := ⟨24, by decide +kernel, by decide, rfl⟩
theorem dX7_bargain_19 : nv_diload qX7_bargain 19 3 20 := Or.inr ⟨3, rfl, by decide +kernel, rfl⟩
theorem dX7_bargain_20 : nv_dc qX7_bargain 20 (.invokestatic 160) 3 23 := ⟨by decide +kernel, rfl⟩
theorem dX7_bargain_23 : nv_dif qX7_bargain 23 .eq 40 26 := ⟨17, by decide +kernel, by decide, rfl⟩
theorem dX7_bargain_26 : nv_diload qX7_bargain 26 3 27 := Or.inr ⟨3, rfl, by decide +kernel, rfl⟩
theorem dX7_bargain_27 : nv_diload qX7_bargain 27 1 28 := Or.inr ⟨1, rfl, by decide +kernel, rfl⟩
theorem dX7_bargain_28 : nv_dic qX7_bargain 28 .eq 40 31 := ⟨12, by decide +kernel, by decide, rfl⟩
theorem dX7_bargain_31 : nv_diload qX7_bargain 31 3 32 := Or.inr ⟨3, rfl, by decide +kernel, rfl⟩
theorem dX7_bargain_32 : nv_diload qX7_bargain 32 2 33 := Or.inr ⟨2, rfl, by decide +kernel, rfl⟩
theorem dX7_bargain_33 : nv_dic qX7_bargain 33 .eq 40 36 := ⟨7, by decide +kernel, by decide, rfl⟩
theorem dX7_bargain_36 : nv_dk qX7_bargain 36 1 37 := Or.inl ⟨1, ⟨by decide +kernel, rfl⟩, by decide⟩
theorem dX7_bargain_37 : nv_dgo qX7_bargain 37 41 := ⟨4, by decide +kernel, by decide⟩
theorem dX7_bargain_40 : nv_dk qX7_bargain 40 0 41 := Or.inl ⟨0, ⟨by decide +kernel, rfl⟩, by decide⟩
theorem dX7_bargain_41 : nv_distore qX7_bargain 41 7 43 := Or.inl ⟨by decide +kernel, rfl⟩
theorem dX7_bargain_43 : nv_diload qX7_bargain 43 7 45 := Or.inl ⟨by decide +kernel, rfl⟩
theorem dX7_bargain_45 : nv_dif qX7_bargain 45 .eq 82 48 := ⟨37, by decide +kernel, by decide, rfl⟩
theorem dX7_bargain_48 : nv_diload qX7_bargain 48 4 50 := Or.inl ⟨by decide +kernel, rfl⟩
theorem dX7_bargain_50 : nv_dc qX7_bargain 50 (.i2l) 1 51 := ⟨by decide +kernel, rfl⟩
theorem dX7_bargain_51 : nv_dc qX7_bargain 51 (.lconst 0) 1 52 := ⟨by decide +kernel, rfl⟩
theorem dX7_bargain_52 : nv_dc qX7_bargain 52 (.ldc2_w 135) 3 55 := ⟨by decide +kernel, rfl⟩
theorem dX7_bargain_55 : nv_dc qX7_bargain 55 (.invokestatic 127) 3 58 := ⟨by decide +kernel, rfl⟩
theorem dX7_bargain_58 : nv_dif qX7_bargain 58 .eq 82 61 := ⟨24, by decide +kernel, by decide, rfl⟩
theorem dX7_bargain_61 : nv_diload qX7_bargain 61 5 63 := Or.inl ⟨by decide +kernel, rfl⟩
theorem dX7_bargain_63 : nv_dc qX7_bargain 63 (.i2l) 1 64 := ⟨by decide +kernel, rfl⟩
theorem dX7_bargain_64 : nv_dc qX7_bargain 64 (.lconst 0) 1 65 := ⟨by decide +kernel, rfl⟩
theorem dX7_bargain_65 : nv_dc qX7_bargain 65 (.ldc2_w 180) 3 68 := ⟨by decide +kernel, rfl⟩
theorem dX7_bargain_68 : nv_dc qX7_bargain 68 (.invokestatic 127) 3 71 := ⟨by decide +kernel, rfl⟩
theorem dX7_bargain_71 : nv_dif qX7_bargain 71 .eq 82 74 := ⟨11, by decide +kernel, by decide, rfl⟩
theorem dX7_bargain_74 : nv_diload qX7_bargain 74 6 76 := Or.inl ⟨by decide +kernel, rfl⟩
theorem dX7_bargain_76 : nv_dc qX7_bargain 76 (.invokestatic 182) 3 79 := ⟨by decide +kernel, rfl⟩
theorem dX7_bargain_79 : nv_dif qX7_bargain 79 .ne 85 82 := ⟨6, by decide +kernel, by decide, rfl⟩
theorem dX7_bargain_82 : nv_dk qX7_bargain 82 (-2) 84 := Or.inr (Or.inl ⟨(-2), ⟨by decide +kernel, rfl⟩, by decide⟩)
theorem dX7_bargain_84 : decode qX7_bargain.2.1 84 = .ok (.ireturn, 1) := by decide +kernel
theorem dX7_bargain_85 : nv_daload qX7_bargain 85 0 86 := Or.inr ⟨0, rfl, by decide +kernel, rfl⟩
theorem dX7_bargain_86 : nv_dc qX7_bargain 86 (.getfield 197) 3 89 := ⟨by decide +kernel, rfl⟩
theorem dX7_bargain_89 : nv_dk qX7_bargain 89 10 91 := Or.inr (Or.inl ⟨10, ⟨by decide +kernel, rfl⟩, by decide⟩)
theorem dX7_bargain_91 : nv_dic qX7_bargain 91 .ne 97 94 := ⟨6, by decide +kernel, by decide, rfl⟩
theorem dX7_bargain_94 : nv_dk qX7_bargain 94 (-4) 96 := Or.inr (Or.inl ⟨(-4), ⟨by decide +kernel, rfl⟩, by decide⟩)
theorem dX7_bargain_96 : decode qX7_bargain.2.1 96 = .ok (.ireturn, 1) := by decide +kernel
theorem dX7_bargain_97 : nv_daload qX7_bargain 97 0 98 := Or.inr ⟨0, rfl, by decide +kernel, rfl⟩
theorem dX7_bargain_98 : nv_dc qX7_bargain 98 (.getfield 70) 3 101 := ⟨by decide +kernel, rfl⟩
theorem dX7_bargain_101 : nv_daload qX7_bargain 101 0 102 := Or.inr ⟨0, rfl, by decide +kernel, rfl⟩
theorem dX7_bargain_102 : nv_dc qX7_bargain 102 (.getfield 197) 3 105 := ⟨by decide +kernel, rfl⟩
theorem dX7_bargain_105 : nv_diload qX7_bargain 105 1 106 := Or.inr ⟨1, rfl, by decide +kernel, rfl⟩
theorem dX7_bargain_106 : nv_dc qX7_bargain 106 (.iastore) 1 107 := ⟨by decide +kernel, rfl⟩
theorem dX7_bargain_107 : nv_daload qX7_bargain 107 0 108 := Or.inr ⟨0, rfl, by decide +kernel, rfl⟩
theorem dX7_bargain_108 : nv_dc qX7_bargain 108 (.getfield 73) 3 111 := ⟨by decide +kernel, rfl⟩
theorem dX7_bargain_111 : nv_daload qX7_bargain 111 0 112 := Or.inr ⟨0, rfl, by decide +kernel, rfl⟩
theorem dX7_bargain_112 : nv_dc qX7_bargain 112 (.getfield 197) 3 115 := ⟨by decide +kernel, rfl⟩
theorem dX7_bargain_115 : nv_diload qX7_bargain 115 2 116 := Or.inr ⟨2, rfl, by decide +kernel, rfl⟩
theorem dX7_bargain_116 : nv_dc qX7_bargain 116 (.iastore) 1 117 := ⟨by decide +kernel, rfl⟩
theorem dX7_bargain_117 : nv_daload qX7_bargain 117 0 118 := Or.inr ⟨0, rfl, by decide +kernel, rfl⟩
theorem dX7_bargain_118 : nv_dc qX7_bargain 118 (.getfield 76) 3 121 := ⟨by decide +kernel, rfl⟩
theorem dX7_bargain_121 : nv_daload qX7_bargain 121 0 122 := Or.inr ⟨0, rfl, by decide +kernel, rfl⟩
theorem dX7_bargain_122 : nv_dc qX7_bargain 122 (.getfield 197) 3 125 := ⟨by decide +kernel, rfl⟩
theorem dX7_bargain_125 : nv_diload qX7_bargain 125 3 126 := Or.inr ⟨3, rfl, by decide +kernel, rfl⟩
theorem dX7_bargain_126 : nv_dc qX7_bargain 126 (.iastore) 1 127 := ⟨by decide +kernel, rfl⟩
theorem dX7_bargain_127 : nv_daload qX7_bargain 127 0 128 := Or.inr ⟨0, rfl, by decide +kernel, rfl⟩
theorem dX7_bargain_128 : nv_dc qX7_bargain 128 (.getfield 79) 3 131 := ⟨by decide +kernel, rfl⟩
theorem dX7_bargain_131 : nv_daload qX7_bargain 131 0 132 := Or.inr ⟨0, rfl, by decide +kernel, rfl⟩
theorem dX7_bargain_132 : nv_dc qX7_bargain 132 (.getfield 197) 3 135 := ⟨by decide +kernel, rfl⟩
theorem dX7_bargain_135 : nv_diload qX7_bargain 135 4 137 := Or.inl ⟨by decide +kernel, rfl⟩
theorem dX7_bargain_137 : nv_dc qX7_bargain 137 (.iastore) 1 138 := ⟨by decide +kernel, rfl⟩
theorem dX7_bargain_138 : nv_daload qX7_bargain 138 0 139 := Or.inr ⟨0, rfl, by decide +kernel, rfl⟩
theorem dX7_bargain_139 : nv_dc qX7_bargain 139 (.getfield 82) 3 142 := ⟨by decide +kernel, rfl⟩
theorem dX7_bargain_142 : nv_daload qX7_bargain 142 0 143 := Or.inr ⟨0, rfl, by decide +kernel, rfl⟩
theorem dX7_bargain_143 : nv_dc qX7_bargain 143 (.getfield 197) 3 146 := ⟨by decide +kernel, rfl⟩
theorem dX7_bargain_146 : nv_diload qX7_bargain 146 5 148 := Or.inl ⟨by decide +kernel, rfl⟩
theorem dX7_bargain_148 : nv_dc qX7_bargain 148 (.iastore) 1 149 := ⟨by decide +kernel, rfl⟩
theorem dX7_bargain_149 : nv_daload qX7_bargain 149 0 150 := Or.inr ⟨0, rfl, by decide +kernel, rfl⟩
theorem dX7_bargain_150 : nv_dc qX7_bargain 150 (.getfield 85) 3 153 := ⟨by decide +kernel, rfl⟩
theorem dX7_bargain_153 : nv_daload qX7_bargain 153 0 154 := Or.inr ⟨0, rfl, by decide +kernel, rfl⟩
theorem dX7_bargain_154 : nv_dc qX7_bargain 154 (.getfield 197) 3 157 := ⟨by decide +kernel, rfl⟩
theorem dX7_bargain_157 : nv_diload qX7_bargain 157 6 159 := Or.inl ⟨by decide +kernel, rfl⟩
theorem dX7_bargain_159 : nv_dc qX7_bargain 159 (.iastore) 1 160 := ⟨by decide +kernel, rfl⟩
theorem dX7_bargain_160 : nv_daload qX7_bargain 160 0 161 := Or.inr ⟨0, rfl, by decide +kernel, rfl⟩
theorem dX7_bargain_161 : nv_dc qX7_bargain 161 (.dup) 1 162 := ⟨by decide +kernel, rfl⟩
theorem dX7_bargain_162 : nv_dc qX7_bargain 162 (.getfield 197) 3 165 := ⟨by decide +kernel, rfl⟩
theorem dX7_bargain_165 : nv_dk qX7_bargain 165 1 166 := Or.inl ⟨1, ⟨by decide +kernel, rfl⟩, by decide⟩
theorem dX7_bargain_166 : nv_dc qX7_bargain 166 (.iadd) 1 167 := ⟨by decide +kernel, rfl⟩
theorem dX7_bargain_167 : nv_dc qX7_bargain 167 (.putfield 197) 3 170 := ⟨by decide +kernel, rfl⟩
theorem dX7_bargain_170 : nv_daload qX7_bargain 170 0 171 := Or.inr ⟨0, rfl, by decide +kernel, rfl⟩
theorem dX7_bargain_171 : nv_dc qX7_bargain 171 (.getfield 197) 3 174 := ⟨by decide +kernel, rfl⟩
theorem dX7_bargain_174 : nv_dk qX7_bargain 174 1 175 := Or.inl ⟨1, ⟨by decide +kernel, rfl⟩, by decide⟩
theorem dX7_bargain_175 : nv_dc qX7_bargain 175 (.isub) 1 176 := ⟨by decide +kernel, rfl⟩
theorem dX7_bargain_176 : decode qX7_bargain.2.1 176 = .ok (.ireturn, 1) := by decide +kernel
def pm_bargain_41 (h : nv_Hp) (x1 : Int32) (x2 : Int32) (x3 : Int32) (x4 : Int32) (x5 : Int32) (x6 : Int32) (s0 : Bool)  : Option (Int32 × nv_Hp) := (if s0 = true then (if (pm_in (Int32.toInt64 x4) 0 3) = true then (if (pm_in (Int32.toInt64 x5) 0 999) = true then (if (pm_isDay x6) = true then (if (h 73 23) = 10 then some ((-4), h) else (if nv_inb (h 73 23) 10 = true then (nv_lt (nv_up h 94 (h 73 23).toNatClampNeg x1) fun h7 => (if nv_inb (h7 73 23) 10 = true then (nv_lt (nv_up h7 95 (h7 73 23).toNatClampNeg x2) fun h9 => (if nv_inb (h9 73 23) 10 = true then (nv_lt (nv_up h9 96 (h9 73 23).toNatClampNeg x3) fun h11 => (if nv_inb (h11 73 23) 10 = true then (nv_lt (nv_up h11 97 (h11 73 23).toNatClampNeg x4) fun h13 => (if nv_inb (h13 73 23) 10 = true then (nv_lt (nv_up h13 98 (h13 73 23).toNatClampNeg x5) fun h15 => (if nv_inb (h15 73 23) 10 = true then (nv_lt (nv_up h15 99 (h15 73 23).toNatClampNeg x6) fun h17 => (nv_lt (nv_up h17 73 23 ((h17 73 23) + 1)) fun h18 => some (((h18 73 23) - 1), h18))) else none)) else none)) else none)) else none)) else none)) else none)) else some ((-2), h)) else some ((-2), h)) else some ((-2), h)) else some ((-2), h))
set_option maxHeartbeats 2000000 in
theorem tm_bargain_41 (G : nv_G) (h : nv_Hp) (x1 : Int32) (x2 : Int32) (x3 : Int32) (x4 : Int32) (x5 : Int32) (x6 : Int32) (s0 : Bool)  (o7 : Option Value) (r : Int32 × nv_Hp) (hf : pm_bargain_41 h x1 x2 x3 x4 x5 x6 s0 = some r) : nv_E G 2 qX7_bargain 41 [some (.ref 73), some (.int x1), some (.int x2), some (.int x3), some (.int x4), some (.int x5), some (.int x6), o7] [.int (nv_bi s0)] (nv_s h) (some (.int r.1), nv_s r.2) := by
  unfold pm_bargain_41 at hf
  refine nv_iS dX7_bargain_41 (by decide) rfl rfl ?_
  refine nv_iL dX7_bargain_43 rfl ?_
  refine nv_ifeqB dX7_bargain_45 (fun c1 => ?_) (fun c1 => ?_)
  · replace hf := nv_ip c1 hf
    refine nv_iL dX7_bargain_48 rfl ?_
    refine nv_i2l dX7_bargain_50 ?_
    refine nv_lconst dX7_bargain_51 (v := 0) (by decide) ?_
    refine nv_ldc2 dX7_bargain_52 lc_X7_135 ?_
    refine nv_cSi (tm_in G h (Int32.toInt64 x4) 0 3) dX7_bargain_55 lm_X7_127 y_qX7_in rfl (by decide) rfl (Nat.le_of_ble_eq_true rfl) ?_
    refine nv_ifeqB dX7_bargain_58 (fun c2 => ?_) (fun c2 => ?_)
    · replace hf := nv_ip c2 hf
      refine nv_iL dX7_bargain_61 rfl ?_
      refine nv_i2l dX7_bargain_63 ?_
      refine nv_lconst dX7_bargain_64 (v := 0) (by decide) ?_
      refine nv_ldc2 dX7_bargain_65 lc_X7_180 ?_
      refine nv_cSi (tm_in G h (Int32.toInt64 x5) 0 999) dX7_bargain_68 lm_X7_127 y_qX7_in rfl (by decide) rfl (Nat.le_of_ble_eq_true rfl) ?_
      refine nv_ifeqB dX7_bargain_71 (fun c3 => ?_) (fun c3 => ?_)
      · replace hf := nv_ip c3 hf
        refine nv_iL dX7_bargain_74 rfl ?_
        refine nv_cSi (tm_isDay G h x6) dX7_bargain_76 lm_X7_182 y_qX7_isDay rfl (by decide) rfl (Nat.le_of_ble_eq_true rfl) ?_
        refine nv_ifneB dX7_bargain_79 (fun c4 => ?_) (fun c4 => ?_)
        · replace hf := nv_ip c4 hf
          refine nv_aL dX7_bargain_85 rfl ?_
          refine nv_tI lf_X7_197 dX7_bargain_86 ko_73 rfl ?_
          refine nv_k dX7_bargain_89 ?_
          refine nv_icne dX7_bargain_91 (fun c5 => ?_) (fun c5 => ?_)
          · replace hf := nv_ip c5 hf
            refine nv_k dX7_bargain_94 ?_
            obtain rfl := Option.some.inj hf
            exact nv_ireturnI dX7_bargain_96 rfl
          · replace hf := nv_in c5 hf
            refine nv_aL dX7_bargain_97 rfl ?_
            refine nv_tR lf_X7_70 dX7_bargain_98 ko_73 rfl ?_
            refine nv_aL dX7_bargain_101 rfl ?_
            refine nv_tI lf_X7_197 dX7_bargain_102 ko_73 rfl ?_
            refine nv_iL dX7_bargain_105 rfl ?_
            obtain ⟨g6, hf⟩ := nv_gd hf
            refine nv_aP dX7_bargain_106 ka_94 g6 rfl ?_
            obtain ⟨h7, eh7, hf⟩ := nv_ltX hf
            rw [eh7]
            clear eh7
            refine nv_aL dX7_bargain_107 rfl ?_
            refine nv_tR lf_X7_73 dX7_bargain_108 ko_73 rfl ?_
            refine nv_aL dX7_bargain_111 rfl ?_
            refine nv_tI lf_X7_197 dX7_bargain_112 ko_73 rfl ?_
            refine nv_iL dX7_bargain_115 rfl ?_
            obtain ⟨g8, hf⟩ := nv_gd hf
            refine nv_aP dX7_bargain_116 ka_95 g8 rfl ?_
            obtain ⟨h9, eh9, hf⟩ := nv_ltX hf
            rw [eh9]
            clear eh9
            refine nv_aL dX7_bargain_117 rfl ?_
            refine nv_tR lf_X7_76 dX7_bargain_118 ko_73 rfl ?_
            refine nv_aL dX7_bargain_121 rfl ?_
            refine nv_tI lf_X7_197 dX7_bargain_122 ko_73 rfl ?_
            refine nv_iL dX7_bargain_125 rfl ?_
            obtain ⟨g10, hf⟩ := nv_gd hf
            refine nv_aP dX7_bargain_126 ka_96 g10 rfl ?_
            obtain ⟨h11, eh11, hf⟩ := nv_ltX hf
            rw [eh11]
            clear eh11
            refine nv_aL dX7_bargain_127 rfl ?_
            refine nv_tR lf_X7_79 dX7_bargain_128 ko_73 rfl ?_
            refine nv_aL dX7_bargain_131 rfl ?_
            refine nv_tI lf_X7_197 dX7_bargain_132 ko_73 rfl ?_
            refine nv_iL dX7_bargain_135 rfl ?_
            obtain ⟨g12, hf⟩ := nv_gd hf
            refine nv_aP dX7_bargain_137 ka_97 g12 rfl ?_
            obtain ⟨h13, eh13, hf⟩ := nv_ltX hf
            rw [eh13]
            clear eh13
            refine nv_aL dX7_bargain_138 rfl ?_
            refine nv_tR lf_X7_82 dX7_bargain_139 ko_73 rfl ?_
            refine nv_aL dX7_bargain_142 rfl ?_
            refine nv_tI lf_X7_197 dX7_bargain_143 ko_73 rfl ?_
            refine nv_iL dX7_bargain_146 rfl ?_
            obtain ⟨g14, hf⟩ := nv_gd hf
            refine nv_aP dX7_bargain_148 ka_98 g14 rfl ?_
            obtain ⟨h15, eh15, hf⟩ := nv_ltX hf
            rw [eh15]
            clear eh15
            refine nv_aL dX7_bargain_149 rfl ?_
            refine nv_tR lf_X7_85 dX7_bargain_150 ko_73 rfl ?_
            refine nv_aL dX7_bargain_153 rfl ?_
            refine nv_tI lf_X7_197 dX7_bargain_154 ko_73 rfl ?_
            refine nv_iL dX7_bargain_157 rfl ?_
            obtain ⟨g16, hf⟩ := nv_gd hf
            refine nv_aP dX7_bargain_159 ka_99 g16 rfl ?_
            obtain ⟨h17, eh17, hf⟩ := nv_ltX hf
            rw [eh17]
            clear eh17
            refine nv_aL dX7_bargain_160 rfl ?_
            refine nv_dup dX7_bargain_161 rfl ?_
            refine nv_tI lf_X7_197 dX7_bargain_162 ko_73 rfl ?_
            refine nv_k dX7_bargain_165 ?_
            refine nv_iadd dX7_bargain_166 ?_
            refine nv_tP lp_X7_197 dX7_bargain_167 ko_73 rfl ?_
            obtain ⟨h18, eh18, hf⟩ := nv_ltX hf
            rw [eh18]
            clear eh18
            refine nv_aL dX7_bargain_170 rfl ?_
            refine nv_tI lf_X7_197 dX7_bargain_171 ko_73 rfl ?_
            refine nv_k dX7_bargain_174 ?_
            refine nv_isub dX7_bargain_175 ?_
            obtain rfl := Option.some.inj hf
            exact nv_ireturnI dX7_bargain_176 rfl
        · replace hf := nv_in c4 hf
          refine nv_k dX7_bargain_82 ?_
          obtain rfl := Option.some.inj hf
          exact nv_ireturnI dX7_bargain_84 rfl
      · replace hf := nv_in c3 hf
        refine nv_k dX7_bargain_82 ?_
        obtain rfl := Option.some.inj hf
        exact nv_ireturnI dX7_bargain_84 rfl
    · replace hf := nv_in c2 hf
      refine nv_k dX7_bargain_82 ?_
      obtain rfl := Option.some.inj hf
      exact nv_ireturnI dX7_bargain_84 rfl
  · replace hf := nv_in c1 hf
    refine nv_k dX7_bargain_82 ?_
    obtain rfl := Option.some.inj hf
    exact nv_ireturnI dX7_bargain_84 rfl
def pm_bargain_19 (h : nv_Hp) (x1 : Int32) (x2 : Int32) (x3 : Int32) (x4 : Int32) (x5 : Int32) (x6 : Int32)   : Option (Int32 × nv_Hp) := (if (pm_isPerson x3) = true then (if x3 = x1 then (pm_bargain_41 h x1 x2 x3 x4 x5 x6 false) else (if x3 = x2 then (pm_bargain_41 h x1 x2 x3 x4 x5 x6 false) else (pm_bargain_41 h x1 x2 x3 x4 x5 x6 true))) else (pm_bargain_41 h x1 x2 x3 x4 x5 x6 false))
set_option maxHeartbeats 2000000 in
theorem tm_bargain_19 (G : nv_G) (h : nv_Hp) (x1 : Int32) (x2 : Int32) (x3 : Int32) (x4 : Int32) (x5 : Int32) (x6 : Int32)   (o7 : Option Value) (r : Int32 × nv_Hp) (hf : pm_bargain_19 h x1 x2 x3 x4 x5 x6 = some r) : nv_E G 2 qX7_bargain 19 [some (.ref 73), some (.int x1), some (.int x2), some (.int x3), some (.int x4), some (.int x5), some (.int x6), o7] [] (nv_s h) (some (.int r.1), nv_s r.2) := by
  unfold pm_bargain_19 at hf
  refine nv_iL dX7_bargain_19 rfl ?_
  refine nv_cSi (tm_isPerson G h x3) dX7_bargain_20 lm_X7_160 y_qX7_isPerson rfl (by decide) rfl (Nat.le_of_ble_eq_true rfl) ?_
  refine nv_ifeqB dX7_bargain_23 (fun c1 => ?_) (fun c1 => ?_)
  · replace hf := nv_ip c1 hf
    refine nv_iL dX7_bargain_26 rfl ?_
    refine nv_iL dX7_bargain_27 rfl ?_
    refine nv_iceq dX7_bargain_28 (fun c2 => ?_) (fun c2 => ?_)
    · replace hf := nv_ip c2 hf
      refine nv_k dX7_bargain_40 ?_
      exact tm_bargain_41 G _ _ _ _ _ _ _ _ _ _ hf
    · replace hf := nv_in c2 hf
      refine nv_iL dX7_bargain_31 rfl ?_
      refine nv_iL dX7_bargain_32 rfl ?_
      refine nv_iceq dX7_bargain_33 (fun c3 => ?_) (fun c3 => ?_)
      · replace hf := nv_ip c3 hf
        refine nv_k dX7_bargain_40 ?_
        exact tm_bargain_41 G _ _ _ _ _ _ _ _ _ _ hf
      · replace hf := nv_in c3 hf
        refine nv_k dX7_bargain_36 ?_
        refine nv_goto dX7_bargain_37 ?_
        exact tm_bargain_41 G _ _ _ _ _ _ _ _ _ _ hf
  · replace hf := nv_in c1 hf
    refine nv_k dX7_bargain_40 ?_
    exact tm_bargain_41 G _ _ _ _ _ _ _ _ _ _ hf
def pm_bargain (h : nv_Hp) (x1 : Int32) (x2 : Int32) (x3 : Int32) (x4 : Int32) (x5 : Int32) (x6 : Int32) : Option (Int32 × nv_Hp) := (pm_bargain_41 h x1 x2 x3 x4 x5 x6 (if (pm_isPerson x1) = true then (if x2 = (-1) then (if (pm_isPerson x3) = true then (if x3 = x1 then false else (if x3 = x2 then false else true)) else false) else (if (pm_isPerson x2) = true then (if (pm_isPerson x3) = true then (if x3 = x1 then false else (if x3 = x2 then false else true)) else false) else false)) else false))
set_option maxHeartbeats 2000000 in
theorem tm_bargain (G : nv_G) (h : nv_Hp) (x1 : Int32) (x2 : Int32) (x3 : Int32) (x4 : Int32) (x5 : Int32) (x6 : Int32) {r : Int32 × nv_Hp} (hf : (pm_bargain h x1 x2 x3 x4 x5 x6) = some r) : nv_Mt G 2 qX7_bargain [.ref 73, .int x1, .int x2, .int x3, .int x4, .int x5, .int x6] (nv_s h) (some (.int r.1), nv_s r.2) := by
  refine nv_of (by decide +kernel) (fun ad => Nat.le_of_ble_eq_true rfl) (Nat.le_refl _) (Nat.le_of_ble_eq_true rfl) ?_
  show nv_E G 2 qX7_bargain 0 [some (.ref 73), some (.int x1), some (.int x2), some (.int x3), some (.int x4), some (.int x5), some (.int x6), none] [] (nv_s h) (some (.int r.1), nv_s r.2)
  unfold pm_bargain at hf
  refine nv_iL dX7_bargain_0 rfl ?_
  refine nv_cSi (tm_isPerson G h x1) dX7_bargain_1 lm_X7_160 y_qX7_isPerson rfl (by decide) rfl (Nat.le_of_ble_eq_true rfl) ?_
  refine nv_ifeqB dX7_bargain_4 (fun c1 => ?_) (fun c1 => ?_)
  · try simp only [if_pos c1] at hf
    refine nv_iL dX7_bargain_7 rfl ?_
    refine nv_k dX7_bargain_8 ?_
    refine nv_iceq dX7_bargain_9 (fun c2 => ?_) (fun c2 => ?_)
    · try simp only [if_pos c2] at hf
      refine nv_iL dX7_bargain_19 rfl ?_
      refine nv_cSi (tm_isPerson G h x3) dX7_bargain_20 lm_X7_160 y_qX7_isPerson rfl (by decide) rfl (Nat.le_of_ble_eq_true rfl) ?_
      refine nv_ifeqB dX7_bargain_23 (fun c3 => ?_) (fun c3 => ?_)
      · try simp only [if_pos c3] at hf
        refine nv_iL dX7_bargain_26 rfl ?_
        refine nv_iL dX7_bargain_27 rfl ?_
        refine nv_iceq dX7_bargain_28 (fun c4 => ?_) (fun c4 => ?_)
        · try simp only [if_pos c4] at hf
          refine nv_k dX7_bargain_40 ?_
          exact tm_bargain_41 G _ _ _ _ _ _ _ _ _ _ hf
        · try simp only [if_neg c4] at hf
          refine nv_iL dX7_bargain_31 rfl ?_
          refine nv_iL dX7_bargain_32 rfl ?_
          refine nv_iceq dX7_bargain_33 (fun c5 => ?_) (fun c5 => ?_)
          · try simp only [if_pos c5] at hf
            refine nv_k dX7_bargain_40 ?_
            exact tm_bargain_41 G _ _ _ _ _ _ _ _ _ _ hf
          · try simp only [if_neg c5] at hf
            refine nv_k dX7_bargain_36 ?_
            refine nv_goto dX7_bargain_37 ?_
            exact tm_bargain_41 G _ _ _ _ _ _ _ _ _ _ hf
      · try simp only [if_neg c3] at hf
        refine nv_k dX7_bargain_40 ?_
        exact tm_bargain_41 G _ _ _ _ _ _ _ _ _ _ hf
    · try simp only [if_neg c2] at hf
      refine nv_iL dX7_bargain_12 rfl ?_
      refine nv_cSi (tm_isPerson G h x2) dX7_bargain_13 lm_X7_160 y_qX7_isPerson rfl (by decide) rfl (Nat.le_of_ble_eq_true rfl) ?_
      refine nv_ifeqB dX7_bargain_16 (fun c6 => ?_) (fun c6 => ?_)
      · try simp only [if_pos c6] at hf
        refine nv_iL dX7_bargain_19 rfl ?_
        refine nv_cSi (tm_isPerson G h x3) dX7_bargain_20 lm_X7_160 y_qX7_isPerson rfl (by decide) rfl (Nat.le_of_ble_eq_true rfl) ?_
        refine nv_ifeqB dX7_bargain_23 (fun c7 => ?_) (fun c7 => ?_)
        · try simp only [if_pos c7] at hf
          refine nv_iL dX7_bargain_26 rfl ?_
          refine nv_iL dX7_bargain_27 rfl ?_
          refine nv_iceq dX7_bargain_28 (fun c8 => ?_) (fun c8 => ?_)
          · try simp only [if_pos c8] at hf
            refine nv_k dX7_bargain_40 ?_
            exact tm_bargain_41 G _ _ _ _ _ _ _ _ _ _ hf
          · try simp only [if_neg c8] at hf
            refine nv_iL dX7_bargain_31 rfl ?_
            refine nv_iL dX7_bargain_32 rfl ?_
            refine nv_iceq dX7_bargain_33 (fun c9 => ?_) (fun c9 => ?_)
            · try simp only [if_pos c9] at hf
              refine nv_k dX7_bargain_40 ?_
              exact tm_bargain_41 G _ _ _ _ _ _ _ _ _ _ hf
            · try simp only [if_neg c9] at hf
              refine nv_k dX7_bargain_36 ?_
              refine nv_goto dX7_bargain_37 ?_
              exact tm_bargain_41 G _ _ _ _ _ _ _ _ _ _ hf
        · try simp only [if_neg c7] at hf
          refine nv_k dX7_bargain_40 ?_
          exact tm_bargain_41 G _ _ _ _ _ _ _ _ _ _ hf
      · try simp only [if_neg c6] at hf
        refine nv_k dX7_bargain_40 ?_
        exact tm_bargain_41 G _ _ _ _ _ _ _ _ _ _ hf
  · try simp only [if_neg c1] at hf
    refine nv_k dX7_bargain_40 ?_
    exact tm_bargain_41 G _ _ _ _ _ _ _ _ _ _ hf
/-! WhoseNameModel.read -/
theorem dX7_read_0 : nv_diload qX7_read 0 1 1 := Or.inr ⟨1, rfl, by decide +kernel, rfl⟩
theorem dX7_read_1 : nv_dc qX7_read 1 (.invokestatic 137) 3 4 := ⟨by decide +kernel, rfl⟩
theorem dX7_read_4 : nv_dif qX7_read 4 .ne 10 7 := ⟨6, by decide +kernel, by decide, rfl⟩
theorem dX7_read_7 : nv_dk qX7_read 7 (-2) 9 := Or.inr (Or.inl ⟨(-2), ⟨by decide +kernel, rfl⟩, by decide⟩)
theorem dX7_read_9 : decode qX7_read.2.1 9 = .ok (.ireturn, 1) := by decide +kernel
theorem dX7_read_10 : nv_daload qX7_read 10 0 11 := Or.inr ⟨0, rfl, by decide +kernel, rfl⟩
theorem dX7_read_11 : nv_dc qX7_read 11 (.getfield 7) 3 14 := ⟨by decide +kernel, rfl⟩
theorem dX7_read_14 : nv_diload qX7_read 14 1 15 := Or.inr ⟨1, rfl, by decide +kernel, rfl⟩
theorem dX7_read_15 : nv_dc qX7_read 15 (.iaload) 1 16 := ⟨by decide +kernel, rfl⟩
theorem dX7_read_16 : nv_dif qX7_read 16 .ge 25 19 := ⟨9, by decide +kernel, by decide, rfl⟩
theorem dX7_read_19 : nv_daload qX7_read 19 0 20 := Or.inr ⟨0, rfl, by decide +kernel, rfl⟩
theorem dX7_read_20 : nv_dk qX7_read 20 1 21 := Or.inl ⟨1, ⟨by decide +kernel, rfl⟩, by decide⟩
theorem dX7_read_21 : nv_dc qX7_read 21 (.invokevirtual 143) 3 24 := ⟨by decide +kernel, rfl⟩
theorem dX7_read_24 : decode qX7_read.2.1 24 = .ok (.ireturn, 1) := by decide +kernel
theorem dX7_read_25 : nv_dk qX7_read 25 0 26 := Or.inl ⟨0, ⟨by decide +kernel, rfl⟩, by decide⟩
theorem dX7_read_26 : nv_distore qX7_read 26 2 27 := Or.inr ⟨2, rfl, by decide +kernel, rfl⟩
theorem dX7_read_27 : nv_dk qX7_read 27 1 28 := Or.inl ⟨1, ⟨by decide +kernel, rfl⟩, by decide⟩
theorem dX7_read_28 : nv_distore qX7_read 28 3 29 := Or.inr ⟨3, rfl, by decide +kernel, rfl⟩
theorem dX7_read_29 : nv_diload qX7_read 29 3 30 := Or.inr ⟨3, rfl, by decide +kernel, rfl⟩
theorem dX7_read_30 : nv_dif qX7_read 30 .eq 140 33 := ⟨110, by decide +kernel, by decide, rfl⟩
theorem dX7_read_33 : nv_dk qX7_read 33 6 35 := Or.inr (Or.inl ⟨6, ⟨by decide +kernel, rfl⟩, by decide⟩)
theorem dX7_read_35 : nv_diload qX7_read 35 2 36 := Or.inr ⟨2, rfl, by decide +kernel, rfl⟩
theorem dX7_read_36 : nv_dc qX7_read 36 (.imul) 1 37 := ⟨by decide +kernel, rfl⟩
theorem dX7_read_37 : nv_dk qX7_read 37 6 39 := Or.inr (Or.inl ⟨6, ⟨by decide +kernel, rfl⟩, by decide⟩)
theorem dX7_read_39 : nv_dc qX7_read 39 (.iadd) 1 40 := ⟨by decide +kernel, rfl⟩
theorem dX7_read_40 : nv_daload qX7_read 40 0 41 := Or.inr ⟨0, rfl, by decide +kernel, rfl⟩
theorem dX7_read_41 : nv_dc qX7_read 41 (.getfield 13) 3 44 := ⟨by decide +kernel, rfl⟩
theorem dX7_read_44 : nv_diload qX7_read 44 1 45 := Or.inr ⟨1, rfl, by decide +kernel, rfl⟩
theorem dX7_read_45 : nv_dc qX7_read 45 (.iaload) 1 46 := ⟨by decide +kernel, rfl⟩
theorem dX7_read_46 : nv_dic qX7_read 46 .gt 140 49 := ⟨94, by decide +kernel, by decide, rfl⟩
theorem dX7_read_49 : nv_dk qX7_read 49 60 51 := Or.inr (Or.inl ⟨60, ⟨by decide +kernel, rfl⟩, by decide⟩)
theorem dX7_read_51 : nv_diload qX7_read 51 1 52 := Or.inr ⟨1, rfl, by decide +kernel, rfl⟩
theorem dX7_read_52 : nv_dc qX7_read 52 (.imul) 1 53 := ⟨by decide +kernel, rfl⟩
theorem dX7_read_53 : nv_dk qX7_read 53 6 55 := Or.inr (Or.inl ⟨6, ⟨by decide +kernel, rfl⟩, by decide⟩)
theorem dX7_read_55 : nv_diload qX7_read 55 2 56 := Or.inr ⟨2, rfl, by decide +kernel, rfl⟩
theorem dX7_read_56 : nv_dc qX7_read 56 (.imul) 1 57 := ⟨by decide +kernel, rfl⟩
theorem dX7_read_57 : nv_dc qX7_read 57 (.iadd) 1 58 := ⟨by decide +kernel, rfl⟩
theorem dX7_read_58 : nv_distore qX7_read 58 4 60 := Or.inl ⟨by decide +kernel, rfl⟩
theorem dX7_read_60 : nv_daload qX7_read 60 0 61 := Or.inr ⟨0, rfl, by decide +kernel, rfl⟩
theorem dX7_read_61 : nv_daload qX7_read 61 0 62 := Or.inr ⟨0, rfl, by decide +kernel, rfl⟩
theorem dX7_read_62 : nv_dc qX7_read 62 (.getfield 16) 3 65 := ⟨by decide +kernel, rfl⟩
theorem dX7_read_65 : nv_diload qX7_read 65 4 67 := Or.inl ⟨by decide +kernel, rfl⟩
theorem dX7_read_67 : nv_dc qX7_read 67 (.iaload) 1 68 := ⟨by decide +kernel, rfl⟩
theorem dX7_read_68 : nv_daload qX7_read 68 0 69 := Or.inr ⟨0, rfl, by decide +kernel, rfl⟩
theorem dX7_read_69 : nv_dc qX7_read 69 (.getfield 16) 3 72 := ⟨by decide +kernel, rfl⟩
theorem dX7_read_72 : nv_diload qX7_read 72 4 74 := Or.inl ⟨by decide +kernel, rfl⟩
theorem dX7_read_74 : nv_dk qX7_read 74 1 75 := Or.inl ⟨1, ⟨by decide +kernel, rfl⟩, by decide⟩
theorem dX7_read_75 : nv_dc qX7_read 75 (.iadd) 1 76 := ⟨by decide +kernel, rfl⟩
theorem dX7_read_76 : nv_dc qX7_read 76 (.iaload) 1 77 := ⟨by decide +kernel, rfl⟩
theorem dX7_read_77 : nv_daload qX7_read 77 0 78 := Or.inr ⟨0, rfl, by decide +kernel, rfl⟩
theorem dX7_read_78 : nv_dc qX7_read 78 (.getfield 16) 3 81 := ⟨by decide +kernel, rfl⟩
theorem dX7_read_81 : nv_diload qX7_read 81 4 83 := Or.inl ⟨by decide +kernel, rfl⟩
theorem dX7_read_83 : nv_dk qX7_read 83 2 84 := Or.inl ⟨2, ⟨by decide +kernel, rfl⟩, by decide⟩
theorem dX7_read_84 : nv_dc qX7_read 84 (.iadd) 1 85 := ⟨by decide +kernel, rfl⟩
theorem dX7_read_85 : nv_dc qX7_read 85 (.iaload) 1 86 := ⟨by decide +kernel, rfl⟩
theorem dX7_read_86 : nv_daload qX7_read 86 0 87 := Or.inr ⟨0, rfl, by decide +kernel, rfl⟩
theorem dX7_read_87 : nv_dc qX7_read 87 (.getfield 16) 3 90 := ⟨by decide +kernel, rfl⟩
theorem dX7_read_90 : nv_diload qX7_read 90 4 92 := Or.inl ⟨by decide +kernel, rfl⟩
theorem dX7_read_92 : nv_dk qX7_read 92 3 93 := Or.inl ⟨3, ⟨by decide +kernel, rfl⟩, by decide⟩
theorem dX7_read_93 : nv_dc qX7_read 93 (.iadd) 1 94 := ⟨by decide +kernel, rfl⟩
theorem dX7_read_94 : nv_dc qX7_read 94 (.iaload) 1 95 := ⟨by decide +kernel, rfl⟩
theorem dX7_read_95 : nv_daload qX7_read 95 0 96 := Or.inr ⟨0, rfl, by decide +kernel, rfl⟩
theorem dX7_read_96 : nv_dc qX7_read 96 (.getfield 16) 3 99 := ⟨by decide +kernel, rfl⟩
theorem dX7_read_99 : nv_diload qX7_read 99 4 101 := Or.inl ⟨by decide +kernel, rfl⟩
theorem dX7_read_101 : nv_dk qX7_read 101 4 102 := Or.inl ⟨4, ⟨by decide +kernel, rfl⟩, by decide⟩
theorem dX7_read_102 : nv_dc qX7_read 102 (.iadd) 1 103 := ⟨by decide +kernel, rfl⟩
theorem dX7_read_103 : nv_dc qX7_read 103 (.iaload) 1 104 := ⟨by decide +kernel, rfl⟩
theorem dX7_read_104 : nv_daload qX7_read 104 0 105 := Or.inr ⟨0, rfl, by decide +kernel, rfl⟩
theorem dX7_read_105 : nv_dc qX7_read 105 (.getfield 16) 3 108 := ⟨by decide +kernel, rfl⟩
theorem dX7_read_108 : nv_diload qX7_read 108 4 110 := Or.inl ⟨by decide +kernel, rfl⟩
theorem dX7_read_110 : nv_dk qX7_read 110 5 111 := Or.inl ⟨5, ⟨by decide +kernel, rfl⟩, by decide⟩
theorem dX7_read_111 : nv_dc qX7_read 111 (.iadd) 1 112 := ⟨by decide +kernel, rfl⟩
theorem dX7_read_112 : nv_dc qX7_read 112 (.iaload) 1 113 := ⟨by decide +kernel, rfl⟩
theorem dX7_read_113 : nv_dc qX7_read 113 (.invokevirtual 200) 3 116 := ⟨by decide +kernel, rfl⟩
theorem dX7_read_116 : nv_dif qX7_read 116 .lt 123 119 := ⟨7, by decide +kernel, by decide, rfl⟩
theorem dX7_read_119 : nv_dk qX7_read 119 1 120 := Or.inl ⟨1, ⟨by decide +kernel, rfl⟩, by decide⟩
theorem dX7_read_120 : nv_dgo qX7_read 120 124 := ⟨4, by decide +kernel, by decide⟩
theorem dX7_read_123 : nv_dk qX7_read 123 0 124 := Or.inl ⟨0, ⟨by decide +kernel, rfl⟩, by decide⟩
theorem dX7_read_124 : nv_distore qX7_read 124 3 125 := Or.inr ⟨3, rfl, by decide +kernel, rfl⟩
theorem dX7_read_125 : nv_diload qX7_read 125 2 126 := Or.inr ⟨2, rfl, by decide +kernel, rfl⟩
theorem dX7_read_126 : nv_diload qX7_read 126 3 127 := Or.inr ⟨3, rfl, by decide +kernel, rfl⟩
theorem dX7_read_127 : nv_dif qX7_read 127 .eq 134 130 := ⟨7, by decide +kernel, by decide, rfl⟩
theorem dX7_read_130 : nv_dk qX7_read 130 1 131 := Or.inl ⟨1, ⟨by decide +kernel, rfl⟩, by decide⟩
theorem dX7_read_131 : nv_dgo qX7_read 131 135 := ⟨4, by decide +kernel, by decide⟩
theorem dX7_read_134 : nv_dk qX7_read 134 0 135 := Or.inl ⟨0, ⟨by decide +kernel, rfl⟩, by decide⟩
theorem dX7_read_135 : nv_dc qX7_read 135 (.iadd) 1 136 := ⟨by decide +kernel, rfl⟩
theorem dX7_read_136 : nv_distore qX7_read 136 2 137 := Or.inr ⟨2, rfl, by decide +kernel, rfl⟩
theorem dX7_read_137 : nv_dgo qX7_read 137 29 := ⟨(-108), by decide +kernel, by decide⟩
theorem dX7_read_140 : nv_diload qX7_read 140 2 141 := Or.inr ⟨2, rfl, by decide +kernel, rfl⟩
theorem dX7_read_141 : decode qX7_read.2.1 141 = .ok (.ireturn, 1) := by decide +kernel
def pm_read_124 (h : nv_Hp) (x1 : Int32) (x2 : Int32) (s0 : Bool) (rec29 : Int32 → Bool → nv_Hp → Option (Int32 × nv_Hp)) : Option (Int32 × nv_Hp) := (rec29 (x2 + (nv_bi (if s0 = true then true else false))) s0 h)
set_option maxHeartbeats 2000000 in
theorem tm_read_124 (G : nv_G) (h : nv_Hp) (x1 : Int32) (x2 : Int32) (s0 : Bool) (rec29 : Int32 → Bool → nv_Hp → Option (Int32 × nv_Hp)) (hrec29 : ∀ (x2 : Int32) (x3 : Bool) (h : nv_Hp) (o4 : Option Value) (r : Int32 × nv_Hp), rec29 x2 x3 h = some r → nv_E G 3 qX7_read 29 [some (.ref 73), some (.int x1), some (.int x2), some (.int (nv_bi x3)), o4] [] (nv_s h) (some (.int r.1), nv_s r.2)) (o3 o4 : Option Value) (r : Int32 × nv_Hp) (hf : pm_read_124 h x1 x2 s0 rec29 = some r) : nv_E G 3 qX7_read 124 [some (.ref 73), some (.int x1), some (.int x2), o3, o4] [.int (nv_bi s0)] (nv_s h) (some (.int r.1), nv_s r.2) := by
  unfold pm_read_124 at hf
  refine nv_iS dX7_read_124 (by decide) rfl rfl ?_
  refine nv_iL dX7_read_125 rfl ?_
  refine nv_iL dX7_read_126 rfl ?_
  refine nv_ifeqB dX7_read_127 (fun c1 => ?_) (fun c1 => ?_)
  · try simp only [if_pos c1] at hf
    refine nv_k dX7_read_130 ?_
    refine nv_goto dX7_read_131 ?_
    refine nv_iadd dX7_read_135 ?_
    refine nv_iS dX7_read_136 (by decide) rfl rfl ?_
    refine nv_goto dX7_read_137 ?_
    exact hrec29 _ _ _ _ _ hf
  · try simp only [if_neg c1] at hf
    refine nv_k dX7_read_134 ?_
    refine nv_iadd dX7_read_135 ?_
    refine nv_iS dX7_read_136 (by decide) rfl rfl ?_
    refine nv_goto dX7_read_137 ?_
    exact hrec29 _ _ _ _ _ hf
def pm_read_29  (x1 : Int32)  : Nat → Int32 → Bool → nv_Hp → Option (Int32 × nv_Hp)
  | 0, _, _, _ => none
  | n + 1, x2, x3, h => (if x3 = true then (if nv_inb x1 4 = true then (if (h 75 x1.toNatClampNeg) < ((6 * x2) + 6) then some (x2, h) else (nv_lt (((60 * x1) + (6 * x2))) fun v4 => (if nv_inb v4 240 = true then (if nv_inb (v4 + 1) 240 = true then (if nv_inb (v4 + 2) 240 = true then (if nv_inb (v4 + 3) 240 = true then (if nv_inb (v4 + 4) 240 = true then (if nv_inb (v4 + 5) 240 = true then (Option.bind (pm_bargain h (h 76 v4.toNatClampNeg) (h 76 (v4 + 1).toNatClampNeg) (h 76 (v4 + 2).toNatClampNeg) (h 76 (v4 + 3).toNatClampNeg) (h 76 (v4 + 4).toNatClampNeg) (h 76 (v4 + 5).toNatClampNeg)) fun q11 => (pm_read_124 q11.2 x1 x2 (if q11.1 < 0 then false else true) (pm_read_29 x1 n))) else none) else none) else none) else none) else none) else none))) else none) else some (x2, h))
set_option maxHeartbeats 2000000 in
theorem tm_read_29 (G : nv_G)  (x1 : Int32)  : ∀ (n : Nat) (x2 : Int32) (x3 : Bool) (h : nv_Hp) (o4 : Option Value) (r : Int32 × nv_Hp), pm_read_29 x1 n x2 x3 h = some r → nv_E G 3 qX7_read 29 [some (.ref 73), some (.int x1), some (.int x2), some (.int (nv_bi x3)), o4] [] (nv_s h) (some (.int r.1), nv_s r.2) := by
  intro n
  induction n with
  | zero =>
    intro x2 x3 h o4 r hf
    rw [pm_read_29] at hf
    cases hf
  | succ n ih =>
    intro x2 x3 h o4 r hf
    rw [pm_read_29] at hf
    refine nv_iL dX7_read_29 rfl ?_
    refine nv_ifeqB dX7_read_30 (fun c1 => ?_) (fun c1 => ?_)
    · replace hf := nv_ip c1 hf
      refine nv_k dX7_read_33 ?_
      refine nv_iL dX7_read_35 rfl ?_
      refine nv_imul dX7_read_36 ?_
      refine nv_k dX7_read_37 ?_
      refine nv_iadd dX7_read_39 ?_
      refine nv_aL dX7_read_40 rfl ?_
      refine nv_tR lf_X7_13 dX7_read_41 ko_73 rfl ?_
      refine nv_iL dX7_read_44 rfl ?_
      obtain ⟨g2, hf⟩ := nv_gd hf
      refine nv_aI dX7_read_45 ka_75 g2 rfl ?_
      refine nv_icgt dX7_read_46 (fun c3 => ?_) (fun c3 => ?_)
      · replace hf := nv_ip c3 hf
        refine nv_iL dX7_read_140 rfl ?_
        obtain rfl := Option.some.inj hf
        exact nv_ireturnI dX7_read_141 rfl
      · replace hf := nv_in c3 hf
        refine nv_k dX7_read_49 ?_
        refine nv_iL dX7_read_51 rfl ?_
        refine nv_imul dX7_read_52 ?_
        refine nv_k dX7_read_53 ?_
        refine nv_iL dX7_read_55 rfl ?_
        refine nv_imul dX7_read_56 ?_
        refine nv_iadd dX7_read_57 ?_
        obtain ⟨v4, ev4, hf⟩ := nv_ltX hf
        rw [ev4]
        clear ev4
        refine nv_iS dX7_read_58 (by decide) rfl rfl ?_
        refine nv_aL dX7_read_60 rfl ?_
        refine nv_aL dX7_read_61 rfl ?_
        refine nv_tR lf_X7_16 dX7_read_62 ko_73 rfl ?_
        refine nv_iL dX7_read_65 rfl ?_
        obtain ⟨g5, hf⟩ := nv_gd hf
        refine nv_aI dX7_read_67 ka_76 g5 rfl ?_
        refine nv_aL dX7_read_68 rfl ?_
        refine nv_tR lf_X7_16 dX7_read_69 ko_73 rfl ?_
        refine nv_iL dX7_read_72 rfl ?_
        refine nv_k dX7_read_74 ?_
        refine nv_iadd dX7_read_75 ?_
        obtain ⟨g6, hf⟩ := nv_gd hf
        refine nv_aI dX7_read_76 ka_76 g6 rfl ?_
        refine nv_aL dX7_read_77 rfl ?_
        refine nv_tR lf_X7_16 dX7_read_78 ko_73 rfl ?_
        refine nv_iL dX7_read_81 rfl ?_
        refine nv_k dX7_read_83 ?_
        refine nv_iadd dX7_read_84 ?_
        obtain ⟨g7, hf⟩ := nv_gd hf
        refine nv_aI dX7_read_85 ka_76 g7 rfl ?_
        refine nv_aL dX7_read_86 rfl ?_
        refine nv_tR lf_X7_16 dX7_read_87 ko_73 rfl ?_
        refine nv_iL dX7_read_90 rfl ?_
        refine nv_k dX7_read_92 ?_
        refine nv_iadd dX7_read_93 ?_
        obtain ⟨g8, hf⟩ := nv_gd hf
        refine nv_aI dX7_read_94 ka_76 g8 rfl ?_
        refine nv_aL dX7_read_95 rfl ?_
        refine nv_tR lf_X7_16 dX7_read_96 ko_73 rfl ?_
        refine nv_iL dX7_read_99 rfl ?_
        refine nv_k dX7_read_101 ?_
        refine nv_iadd dX7_read_102 ?_
        obtain ⟨g9, hf⟩ := nv_gd hf
        refine nv_aI dX7_read_103 ka_76 g9 rfl ?_
        refine nv_aL dX7_read_104 rfl ?_
        refine nv_tR lf_X7_16 dX7_read_105 ko_73 rfl ?_
        refine nv_iL dX7_read_108 rfl ?_
        refine nv_k dX7_read_110 ?_
        refine nv_iadd dX7_read_111 ?_
        obtain ⟨g10, hf⟩ := nv_gd hf
        refine nv_aI dX7_read_112 ka_76 g10 rfl ?_
        obtain ⟨q11, hq11, hf⟩ := nv_bd hf
        refine nv_cVi (tm_bargain G h (h 76 v4.toNatClampNeg) (h 76 (v4 + 1).toNatClampNeg) (h 76 (v4 + 2).toNatClampNeg) (h 76 (v4 + 3).toNatClampNeg) (h 76 (v4 + 4).toNatClampNeg) (h 76 (v4 + 5).toNatClampNeg) hq11) dX7_read_113 lm_X7_200 y_qX7_bargain ko_73 rfl rfl (by decide) rfl (Nat.le_of_ble_eq_true rfl) ?_
        refine nv_iflt dX7_read_116 (fun c12 => ?_) (fun c12 => ?_)
        · try simp only [if_pos c12] at hf
          refine nv_k dX7_read_123 ?_
          exact tm_read_124 G _ _ _ _ _ ih _ _ _ hf
        · try simp only [if_neg c12] at hf
          refine nv_k dX7_read_119 ?_
          refine nv_goto dX7_read_120 ?_
          exact tm_read_124 G _ _ _ _ _ ih _ _ _ hf
    · replace hf := nv_in c1 hf
      refine nv_iL dX7_read_140 rfl ?_
      obtain rfl := Option.some.inj hf
      exact nv_ireturnI dX7_read_141 rfl
def pm_read (h : nv_Hp) (x1 : Int32) : Option (Int32 × nv_Hp) := (if (pm_isSheet x1) = true then (if nv_inb x1 4 = true then (if 0 ≤ (h 74 x1.toNatClampNeg) then (pm_read_29 x1 nv_fu 0 true h) else (nv_lt (pm_met h 1) fun q4 => some (q4.1, q4.2))) else none) else some ((-2), h))
set_option maxHeartbeats 2000000 in
theorem tm_read (G : nv_G) (h : nv_Hp) (x1 : Int32) {r : Int32 × nv_Hp} (hf : (pm_read h x1) = some r) : nv_Mt G 3 qX7_read [.ref 73, .int x1] (nv_s h) (some (.int r.1), nv_s r.2) := by
  refine nv_of (by decide +kernel) (fun ad => Nat.le_of_ble_eq_true rfl) (Nat.le_refl _) (Nat.le_of_ble_eq_true rfl) ?_
  show nv_E G 3 qX7_read 0 [some (.ref 73), some (.int x1), none, none, none] [] (nv_s h) (some (.int r.1), nv_s r.2)
  unfold pm_read at hf
  refine nv_iL dX7_read_0 rfl ?_
  refine nv_cSi (tm_isSheet G h x1) dX7_read_1 lm_X7_137 y_qX7_isSheet rfl (by decide) rfl (Nat.le_of_ble_eq_true rfl) ?_
  refine nv_ifneB dX7_read_4 (fun c1 => ?_) (fun c1 => ?_)
  · replace hf := nv_ip c1 hf
    refine nv_aL dX7_read_10 rfl ?_
    refine nv_tR lf_X7_7 dX7_read_11 ko_73 rfl ?_
    refine nv_iL dX7_read_14 rfl ?_
    obtain ⟨g2, hf⟩ := nv_gd hf
    refine nv_aI dX7_read_15 ka_74 g2 rfl ?_
    refine nv_ifge dX7_read_16 (fun c3 => ?_) (fun c3 => ?_)
    · replace hf := nv_ip c3 hf
      refine nv_k dX7_read_25 ?_
      refine nv_iS dX7_read_26 (by decide) rfl rfl ?_
      refine nv_k dX7_read_27 ?_
      refine nv_iS dX7_read_28 (by decide) rfl rfl ?_
      exact tm_read_29 G _ _ _ _ _ _ _ hf
    · replace hf := nv_in c3 hf
      refine nv_aL dX7_read_19 rfl ?_
      refine nv_k dX7_read_20 ?_
      refine nv_cVi (tm_met G h 1) dX7_read_21 lm_X7_143 y_qX7_met ko_73 rfl rfl (by decide) rfl (Nat.le_of_ble_eq_true rfl) ?_
      obtain ⟨q4, eq4, hf⟩ := nv_ltX hf
      rw [eq4]
      clear eq4
      obtain rfl := Option.some.inj hf
      exact nv_ireturnI dX7_read_24 rfl
  · replace hf := nv_in c1 hf
    refine nv_k dX7_read_7 ?_
    obtain rfl := Option.some.inj hf
    exact nv_ireturnI dX7_read_9 rfl
/-! WhoseNameModel.after -/
theorem dX7_after_0 : nv_daload qX7_after 0 0 1 := Or.inr ⟨0, rfl, by decide +kernel, rfl⟩
theorem dX7_after_1 : nv_diload qX7_after 1 1 2 := Or.inr ⟨1, rfl, by decide +kernel, rfl⟩
theorem dX7_after_2 : nv_dc qX7_after 2 (.invokevirtual 204) 3 5 := ⟨by decide +kernel, rfl⟩
theorem dX7_after_5 : nv_dif qX7_after 5 .eq 54 8 := ⟨49, by decide +kernel, by decide, rfl⟩
theorem dX7_after_8 : nv_diload qX7_after 8 2 9 := Or.inr ⟨2, rfl, by decide +kernel, rfl⟩
theorem dX7_after_9 : nv_dc qX7_after 9 (.invokestatic 160) 3 12 := ⟨by decide +kernel, rfl⟩
theorem dX7_after_12 : nv_dif qX7_after 12 .eq 54 15 := ⟨42, by decide +kernel, by decide, rfl⟩
theorem dX7_after_15 : nv_diload qX7_after 15 3 16 := Or.inr ⟨3, rfl, by decide +kernel, rfl⟩
theorem dX7_after_16 : nv_dc qX7_after 16 (.i2l) 1 17 := ⟨by decide +kernel, rfl⟩
theorem dX7_after_17 : nv_daload qX7_after 17 0 18 := Or.inr ⟨0, rfl, by decide +kernel, rfl⟩
theorem dX7_after_18 : nv_dc qX7_after 18 (.getfield 85) 3 21 := ⟨by decide +kernel, rfl⟩
theorem dX7_after_21 : nv_diload qX7_after 21 1 22 := Or.inr ⟨1, rfl, by decide +kernel, rfl⟩
theorem dX7_after_22 : nv_dc qX7_after 22 (.iaload) 1 23 := ⟨by decide +kernel, rfl⟩
theorem dX7_after_23 : nv_dc qX7_after 23 (.i2l) 1 24 := ⟨by decide +kernel, rfl⟩
theorem dX7_after_24 : nv_dc qX7_after 24 (.ldc2_w 158) 3 27 := ⟨by decide +kernel, rfl⟩
theorem dX7_after_27 : nv_dc qX7_after 27 (.invokestatic 127) 3 30 := ⟨by decide +kernel, rfl⟩
theorem dX7_after_30 : nv_dif qX7_after 30 .eq 54 33 := ⟨24, by decide +kernel, by decide, rfl⟩
theorem dX7_after_33 : nv_diload qX7_after 33 4 35 := Or.inl ⟨by decide +kernel, rfl⟩
theorem dX7_after_35 : nv_dc qX7_after 35 (.invokestatic 171) 3 38 := ⟨by decide +kernel, rfl⟩
theorem dX7_after_38 : nv_dif qX7_after 38 .eq 54 41 := ⟨16, by decide +kernel, by decide, rfl⟩
theorem dX7_after_41 : nv_diload qX7_after 41 5 43 := Or.inl ⟨by decide +kernel, rfl⟩
theorem dX7_after_43 : nv_dc qX7_after 43 (.i2l) 1 44 := ⟨by decide +kernel, rfl⟩
theorem dX7_after_44 : nv_dc qX7_after 44 (.lconst 0) 1 45 := ⟨by decide +kernel, rfl⟩
theorem dX7_after_45 : nv_dc qX7_after 45 (.ldc2_w 180) 3 48 := ⟨by decide +kernel, rfl⟩
theorem dX7_after_48 : nv_dc qX7_after 48 (.invokestatic 127) 3 51 := ⟨by decide +kernel, rfl⟩
theorem dX7_after_51 : nv_dif qX7_after 51 .ne 57 54 := ⟨6, by decide +kernel, by decide, rfl⟩
theorem dX7_after_54 : nv_dk qX7_after 54 (-2) 56 := Or.inr (Or.inl ⟨(-2), ⟨by decide +kernel, rfl⟩, by decide⟩)
theorem dX7_after_56 : decode qX7_after.2.1 56 = .ok (.ireturn, 1) := by decide +kernel
theorem dX7_after_57 : nv_daload qX7_after 57 0 58 := Or.inr ⟨0, rfl, by decide +kernel, rfl⟩
theorem dX7_after_58 : nv_dc qX7_after 58 (.getfield 207) 3 61 := ⟨by decide +kernel, rfl⟩
theorem dX7_after_61 : nv_dk qX7_after 61 12 63 := Or.inr (Or.inl ⟨12, ⟨by decide +kernel, rfl⟩, by decide⟩)
theorem dX7_after_63 : nv_dic qX7_after 63 .ne 69 66 := ⟨6, by decide +kernel, by decide, rfl⟩
theorem dX7_after_66 : nv_dk qX7_after 66 (-4) 68 := Or.inr (Or.inl ⟨(-4), ⟨by decide +kernel, rfl⟩, by decide⟩)
theorem dX7_after_68 : decode qX7_after.2.1 68 = .ok (.ireturn, 1) := by decide +kernel
theorem dX7_after_69 : nv_daload qX7_after 69 0 70 := Or.inr ⟨0, rfl, by decide +kernel, rfl⟩
theorem dX7_after_70 : nv_dc qX7_after 70 (.getfield 88) 3 73 := ⟨by decide +kernel, rfl⟩
theorem dX7_after_73 : nv_daload qX7_after 73 0 74 := Or.inr ⟨0, rfl, by decide +kernel, rfl⟩
theorem dX7_after_74 : nv_dc qX7_after 74 (.getfield 207) 3 77 := ⟨by decide +kernel, rfl⟩
theorem dX7_after_77 : nv_diload qX7_after 77 1 78 := Or.inr ⟨1, rfl, by decide +kernel, rfl⟩
theorem dX7_after_78 : nv_dc qX7_after 78 (.iastore) 1 79 := ⟨by decide +kernel, rfl⟩
theorem dX7_after_79 : nv_daload qX7_after 79 0 80 := Or.inr ⟨0, rfl, by decide +kernel, rfl⟩
theorem dX7_after_80 : nv_dc qX7_after 80 (.getfield 91) 3 83 := ⟨by decide +kernel, rfl⟩
theorem dX7_after_83 : nv_daload qX7_after 83 0 84 := Or.inr ⟨0, rfl, by decide +kernel, rfl⟩
theorem dX7_after_84 : nv_dc qX7_after 84 (.getfield 207) 3 87 := ⟨by decide +kernel, rfl⟩
theorem dX7_after_87 : nv_diload qX7_after 87 2 88 := Or.inr ⟨2, rfl, by decide +kernel, rfl⟩
theorem dX7_after_88 : nv_dc qX7_after 88 (.iastore) 1 89 := ⟨by decide +kernel, rfl⟩
theorem dX7_after_89 : nv_daload qX7_after 89 0 90 := Or.inr ⟨0, rfl, by decide +kernel, rfl⟩
theorem dX7_after_90 : nv_dc qX7_after 90 (.getfield 94) 3 93 := ⟨by decide +kernel, rfl⟩
theorem dX7_after_93 : nv_daload qX7_after 93 0 94 := Or.inr ⟨0, rfl, by decide +kernel, rfl⟩
theorem dX7_after_94 : nv_dc qX7_after 94 (.getfield 207) 3 97 := ⟨by decide +kernel, rfl⟩
theorem dX7_after_97 : nv_diload qX7_after 97 3 98 := Or.inr ⟨3, rfl, by decide +kernel, rfl⟩
theorem dX7_after_98 : nv_dc qX7_after 98 (.iastore) 1 99 := ⟨by decide +kernel, rfl⟩
theorem dX7_after_99 : nv_daload qX7_after 99 0 100 := Or.inr ⟨0, rfl, by decide +kernel, rfl⟩
theorem dX7_after_100 : nv_dc qX7_after 100 (.getfield 97) 3 103 := ⟨by decide +kernel, rfl⟩
theorem dX7_after_103 : nv_daload qX7_after 103 0 104 := Or.inr ⟨0, rfl, by decide +kernel, rfl⟩
theorem dX7_after_104 : nv_dc qX7_after 104 (.getfield 207) 3 107 := ⟨by decide +kernel, rfl⟩
theorem dX7_after_107 : nv_diload qX7_after 107 4 109 := Or.inl ⟨by decide +kernel, rfl⟩
theorem dX7_after_109 : nv_dc qX7_after 109 (.iastore) 1 110 := ⟨by decide +kernel, rfl⟩
theorem dX7_after_110 : nv_daload qX7_after 110 0 111 := Or.inr ⟨0, rfl, by decide +kernel, rfl⟩
theorem dX7_after_111 : nv_dc qX7_after 111 (.getfield 100) 3 114 := ⟨by decide +kernel, rfl⟩
theorem dX7_after_114 : nv_daload qX7_after 114 0 115 := Or.inr ⟨0, rfl, by decide +kernel, rfl⟩
theorem dX7_after_115 : nv_dc qX7_after 115 (.getfield 207) 3 118 := ⟨by decide +kernel, rfl⟩
theorem dX7_after_118 : nv_diload qX7_after 118 5 120 := Or.inl ⟨by decide +kernel, rfl⟩
theorem dX7_after_120 : nv_dc qX7_after 120 (.iastore) 1 121 := ⟨by decide +kernel, rfl⟩
theorem dX7_after_121 : nv_daload qX7_after 121 0 122 := Or.inr ⟨0, rfl, by decide +kernel, rfl⟩
theorem dX7_after_122 : nv_dc qX7_after 122 (.dup) 1 123 := ⟨by decide +kernel, rfl⟩
theorem dX7_after_123 : nv_dc qX7_after 123 (.getfield 207) 3 126 := ⟨by decide +kernel, rfl⟩
theorem dX7_after_126 : nv_dk qX7_after 126 1 127 := Or.inl ⟨1, ⟨by decide +kernel, rfl⟩, by decide⟩
theorem dX7_after_127 : nv_dc qX7_after 127 (.iadd) 1 128 := ⟨by decide +kernel, rfl⟩
theorem dX7_after_128 : nv_dc qX7_after 128 (.putfield 207) 3 131 := ⟨by decide +kernel, rfl⟩
theorem dX7_after_131 : nv_daload qX7_after 131 0 132 := Or.inr ⟨0, rfl, by decide +kernel, rfl⟩
theorem dX7_after_132 : nv_dc qX7_after 132 (.getfield 207) 3 135 := ⟨by decide +kernel, rfl⟩
theorem dX7_after_135 : nv_dk qX7_after 135 1 136 := Or.inl ⟨1, ⟨by decide +kernel, rfl⟩, by decide⟩
theorem dX7_after_136 : nv_dc qX7_after 136 (.isub) 1 137 := ⟨by decide +kernel, rfl⟩
theorem dX7_after_137 : decode qX7_after.2.1 137 = .ok (.ireturn, 1) := by decide +kernel
def pm_after (h : nv_Hp) (x1 : Int32) (x2 : Int32) (x3 : Int32) (x4 : Int32) (x5 : Int32) : Option (Int32 × nv_Hp) := (if (pm_isBargain h x1) = true then (if (pm_isPerson x2) = true then (if nv_inb x1 10 = true then (if (pm_in (Int32.toInt64 x3) (Int32.toInt64 (h 99 x1.toNatClampNeg)) 99) = true then (if (pm_isTwo x4) = true then (if (pm_in (Int32.toInt64 x5) 0 999) = true then (if (h 73 30) = 12 then some ((-4), h) else (if nv_inb (h 73 30) 12 = true then (nv_lt (nv_up h 100 (h 73 30).toNatClampNeg x1) fun h9 => (if nv_inb (h9 73 30) 12 = true then (nv_lt (nv_up h9 101 (h9 73 30).toNatClampNeg x2) fun h11 => (if nv_inb (h11 73 30) 12 = true then (nv_lt (nv_up h11 102 (h11 73 30).toNatClampNeg x3) fun h13 => (if nv_inb (h13 73 30) 12 = true then (nv_lt (nv_up h13 103 (h13 73 30).toNatClampNeg x4) fun h15 => (if nv_inb (h15 73 30) 12 = true then (nv_lt (nv_up h15 104 (h15 73 30).toNatClampNeg x5) fun h17 => (nv_lt (nv_up h17 73 30 ((h17 73 30) + 1)) fun h18 => some (((h18 73 30) - 1), h18))) else none)) else none)) else none)) else none)) else none)) else some ((-2), h)) else some ((-2), h)) else some ((-2), h)) else none) else some ((-2), h)) else some ((-2), h))
set_option maxHeartbeats 2000000 in
theorem tm_after (G : nv_G) (h : nv_Hp) (x1 : Int32) (x2 : Int32) (x3 : Int32) (x4 : Int32) (x5 : Int32) {r : Int32 × nv_Hp} (hf : (pm_after h x1 x2 x3 x4 x5) = some r) : nv_Mt G 2 qX7_after [.ref 73, .int x1, .int x2, .int x3, .int x4, .int x5] (nv_s h) (some (.int r.1), nv_s r.2) := by
  refine nv_of (by decide +kernel) (fun ad => Nat.le_of_ble_eq_true rfl) (Nat.le_refl _) (Nat.le_of_ble_eq_true rfl) ?_
  show nv_E G 2 qX7_after 0 [some (.ref 73), some (.int x1), some (.int x2), some (.int x3), some (.int x4), some (.int x5)] [] (nv_s h) (some (.int r.1), nv_s r.2)
  unfold pm_after at hf
  refine nv_aL dX7_after_0 rfl ?_
  refine nv_iL dX7_after_1 rfl ?_
  refine nv_cVi (tm_isBargain G h x1) dX7_after_2 lm_X7_204 y_qX7_isBargain ko_73 rfl rfl (by decide) rfl (Nat.le_of_ble_eq_true rfl) ?_
  refine nv_ifeqB dX7_after_5 (fun c1 => ?_) (fun c1 => ?_)
  · replace hf := nv_ip c1 hf
    refine nv_iL dX7_after_8 rfl ?_
    refine nv_cSi (tm_isPerson G h x2) dX7_after_9 lm_X7_160 y_qX7_isPerson rfl (by decide) rfl (Nat.le_of_ble_eq_true rfl) ?_
    refine nv_ifeqB dX7_after_12 (fun c2 => ?_) (fun c2 => ?_)
    · replace hf := nv_ip c2 hf
      refine nv_iL dX7_after_15 rfl ?_
      refine nv_i2l dX7_after_16 ?_
      refine nv_aL dX7_after_17 rfl ?_
      refine nv_tR lf_X7_85 dX7_after_18 ko_73 rfl ?_
      refine nv_iL dX7_after_21 rfl ?_
      obtain ⟨g3, hf⟩ := nv_gd hf
      refine nv_aI dX7_after_22 ka_99 g3 rfl ?_
      refine nv_i2l dX7_after_23 ?_
      refine nv_ldc2 dX7_after_24 lc_X7_158 ?_
      refine nv_cSi (tm_in G h (Int32.toInt64 x3) (Int32.toInt64 (h 99 x1.toNatClampNeg)) 99) dX7_after_27 lm_X7_127 y_qX7_in rfl (by decide) rfl (Nat.le_of_ble_eq_true rfl) ?_
      refine nv_ifeqB dX7_after_30 (fun c4 => ?_) (fun c4 => ?_)
      · replace hf := nv_ip c4 hf
        refine nv_iL dX7_after_33 rfl ?_
        refine nv_cSi (tm_isTwo G h x4) dX7_after_35 lm_X7_171 y_qX7_isTwo rfl (by decide) rfl (Nat.le_of_ble_eq_true rfl) ?_
        refine nv_ifeqB dX7_after_38 (fun c5 => ?_) (fun c5 => ?_)
        · replace hf := nv_ip c5 hf
          refine nv_iL dX7_after_41 rfl ?_
          refine nv_i2l dX7_after_43 ?_
          refine nv_lconst dX7_after_44 (v := 0) (by decide) ?_
          refine nv_ldc2 dX7_after_45 lc_X7_180 ?_
          refine nv_cSi (tm_in G h (Int32.toInt64 x5) 0 999) dX7_after_48 lm_X7_127 y_qX7_in rfl (by decide) rfl (Nat.le_of_ble_eq_true rfl) ?_
          refine nv_ifneB dX7_after_51 (fun c6 => ?_) (fun c6 => ?_)
          · replace hf := nv_ip c6 hf
            refine nv_aL dX7_after_57 rfl ?_
            refine nv_tI lf_X7_207 dX7_after_58 ko_73 rfl ?_
            refine nv_k dX7_after_61 ?_
            refine nv_icne dX7_after_63 (fun c7 => ?_) (fun c7 => ?_)
            · replace hf := nv_ip c7 hf
              refine nv_k dX7_after_66 ?_
              obtain rfl := Option.some.inj hf
              exact nv_ireturnI dX7_after_68 rfl
            · replace hf := nv_in c7 hf
              refine nv_aL dX7_after_69 rfl ?_
              refine nv_tR lf_X7_88 dX7_after_70 ko_73 rfl ?_
              refine nv_aL dX7_after_73 rfl ?_
              refine nv_tI lf_X7_207 dX7_after_74 ko_73 rfl ?_
              refine nv_iL dX7_after_77 rfl ?_
              obtain ⟨g8, hf⟩ := nv_gd hf
              refine nv_aP dX7_after_78 ka_100 g8 rfl ?_
              obtain ⟨h9, eh9, hf⟩ := nv_ltX hf
              rw [eh9]
              clear eh9
              refine nv_aL dX7_after_79 rfl ?_
              refine nv_tR lf_X7_91 dX7_after_80 ko_73 rfl ?_
              refine nv_aL dX7_after_83 rfl ?_
              refine nv_tI lf_X7_207 dX7_after_84 ko_73 rfl ?_
              refine nv_iL dX7_after_87 rfl ?_
              obtain ⟨g10, hf⟩ := nv_gd hf
              refine nv_aP dX7_after_88 ka_101 g10 rfl ?_
              obtain ⟨h11, eh11, hf⟩ := nv_ltX hf
              rw [eh11]
              clear eh11
              refine nv_aL dX7_after_89 rfl ?_
              refine nv_tR lf_X7_94 dX7_after_90 ko_73 rfl ?_
              refine nv_aL dX7_after_93 rfl ?_
              refine nv_tI lf_X7_207 dX7_after_94 ko_73 rfl ?_
              refine nv_iL dX7_after_97 rfl ?_
              obtain ⟨g12, hf⟩ := nv_gd hf
              refine nv_aP dX7_after_98 ka_102 g12 rfl ?_
              obtain ⟨h13, eh13, hf⟩ := nv_ltX hf
              rw [eh13]
              clear eh13
              refine nv_aL dX7_after_99 rfl ?_
              refine nv_tR lf_X7_97 dX7_after_100 ko_73 rfl ?_
              refine nv_aL dX7_after_103 rfl ?_
              refine nv_tI lf_X7_207 dX7_after_104 ko_73 rfl ?_
              refine nv_iL dX7_after_107 rfl ?_
              obtain ⟨g14, hf⟩ := nv_gd hf
              refine nv_aP dX7_after_109 ka_103 g14 rfl ?_
              obtain ⟨h15, eh15, hf⟩ := nv_ltX hf
              rw [eh15]
              clear eh15
              refine nv_aL dX7_after_110 rfl ?_
              refine nv_tR lf_X7_100 dX7_after_111 ko_73 rfl ?_
              refine nv_aL dX7_after_114 rfl ?_
              refine nv_tI lf_X7_207 dX7_after_115 ko_73 rfl ?_
              refine nv_iL dX7_after_118 rfl ?_
              obtain ⟨g16, hf⟩ := nv_gd hf
              refine nv_aP dX7_after_120 ka_104 g16 rfl ?_
              obtain ⟨h17, eh17, hf⟩ := nv_ltX hf
              rw [eh17]
              clear eh17
              refine nv_aL dX7_after_121 rfl ?_
              refine nv_dup dX7_after_122 rfl ?_
              refine nv_tI lf_X7_207 dX7_after_123 ko_73 rfl ?_
              refine nv_k dX7_after_126 ?_
              refine nv_iadd dX7_after_127 ?_
              refine nv_tP lp_X7_207 dX7_after_128 ko_73 rfl ?_
              obtain ⟨h18, eh18, hf⟩ := nv_ltX hf
              rw [eh18]
              clear eh18
              refine nv_aL dX7_after_131 rfl ?_
              refine nv_tI lf_X7_207 dX7_after_132 ko_73 rfl ?_
              refine nv_k dX7_after_135 ?_
              refine nv_isub dX7_after_136 ?_
              obtain rfl := Option.some.inj hf
              exact nv_ireturnI dX7_after_137 rfl
          · replace hf := nv_in c6 hf
            refine nv_k dX7_after_54 ?_
            obtain rfl := Option.some.inj hf
            exact nv_ireturnI dX7_after_56 rfl
        · replace hf := nv_in c5 hf
          refine nv_k dX7_after_54 ?_
          obtain rfl := Option.some.inj hf
          exact nv_ireturnI dX7_after_56 rfl
      · replace hf := nv_in c4 hf
        refine nv_k dX7_after_54 ?_
        obtain rfl := Option.some.inj hf
        exact nv_ireturnI dX7_after_56 rfl
    · replace hf := nv_in c2 hf
      refine nv_k dX7_after_54 ?_
      obtain rfl := Option.some.inj hf
      exact nv_ireturnI dX7_after_56 rfl
  · replace hf := nv_in c1 hf
    refine nv_k dX7_after_54 ?_
    obtain rfl := Option.some.inj hf
    exact nv_ireturnI dX7_after_56 rfl
