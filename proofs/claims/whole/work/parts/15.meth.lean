/-! WhoseName.copy -/
theorem dX6_copy_0 : nv_diload qX6_copy 0 1 1 := Or.inr ⟨1, rfl, by decide +kernel, rfl⟩
theorem dX6_copy_1 : nv_dc qX6_copy 1 (.invokestatic 180) 3 4 := ⟨by decide +kernel, rfl⟩
theorem dX6_copy_4 : nv_dif qX6_copy 4 .eq 14 7 := ⟨10, by decide +kernel, by decide, rfl⟩
theorem dX6_copy_7 : nv_diload qX6_copy 7 3 8 := Or.inr ⟨3, rfl, by decide +kernel, rfl⟩
theorem dX6_copy_8 : nv_dc qX6_copy 8 (.invokestatic 180) 3 11 := ⟨by decide +kernel, rfl⟩
theorem dX6_copy_11 : nv_dif qX6_copy 11 .ne 17 14 := ⟨6, by decide +kernel, by decide, rfl⟩
theorem dX6_copy_14 : nv_dk qX6_copy 14 (-2) 16 := Or.inr (Or.inl ⟨(-2), ⟨by decide +kernel, rfl⟩, by decide⟩)
theorem dX6_copy_16 : decode qX6_copy.2.1 16 = .ok (.ireturn, 1) := by decide +kernel
theorem dX6_copy_17 : nv_daload qX6_copy 17 0 18 := Or.inr ⟨0, rfl, by decide +kernel, rfl⟩
theorem dX6_copy_18 : nv_dc qX6_copy 18 (.getfield 45) 3 21 := ⟨by decide +kernel, rfl⟩
theorem dX6_copy_21 : nv_diload qX6_copy 21 1 22 := Or.inr ⟨1, rfl, by decide +kernel, rfl⟩
theorem dX6_copy_22 : nv_dc qX6_copy 22 (.aaload) 1 23 := ⟨by decide +kernel, rfl⟩
theorem dX6_copy_23 : nv_dastore qX6_copy 23 6 25 := Or.inl ⟨by decide +kernel, rfl⟩
theorem dX6_copy_25 : nv_daload qX6_copy 25 0 26 := Or.inr ⟨0, rfl, by decide +kernel, rfl⟩
theorem dX6_copy_26 : nv_dc qX6_copy 26 (.getfield 45) 3 29 := ⟨by decide +kernel, rfl⟩
theorem dX6_copy_29 : nv_diload qX6_copy 29 3 30 := Or.inr ⟨3, rfl, by decide +kernel, rfl⟩
theorem dX6_copy_30 : nv_dc qX6_copy 30 (.aaload) 1 31 := ⟨by decide +kernel, rfl⟩
theorem dX6_copy_31 : nv_dastore qX6_copy 31 7 33 := Or.inl ⟨by decide +kernel, rfl⟩
theorem dX6_copy_33 : nv_daload qX6_copy 33 6 35 := Or.inl ⟨by decide +kernel, rfl⟩
theorem dX6_copy_35 : nv_dc qX6_copy 35 (.getfield 183) 3 38 := ⟨by decide +kernel, rfl⟩
theorem dX6_copy_38 : nv_dif qX6_copy 38 .ne 49 41 := ⟨11, by decide +kernel, by decide, rfl⟩
theorem dX6_copy_41 : nv_daload qX6_copy 41 7 43 := Or.inl ⟨by decide +kernel, rfl⟩
theorem dX6_copy_43 : nv_dc qX6_copy 43 (.getfield 183) 3 46 := ⟨by decide +kernel, rfl⟩
theorem dX6_copy_46 : nv_dif qX6_copy 46 .eq 55 49 := ⟨9, by decide +kernel, by decide, rfl⟩
theorem dX6_copy_49 : nv_daload qX6_copy 49 0 50 := Or.inr ⟨0, rfl, by decide +kernel, rfl⟩
theorem dX6_copy_50 : nv_dk qX6_copy 50 1 51 := Or.inl ⟨1, ⟨by decide +kernel, rfl⟩, by decide⟩
theorem dX6_copy_51 : nv_dc qX6_copy 51 (.invokevirtual 187) 3 54 := ⟨by decide +kernel, rfl⟩
theorem dX6_copy_54 : decode qX6_copy.2.1 54 = .ok (.ireturn, 1) := by decide +kernel
theorem dX6_copy_55 : nv_daload qX6_copy 55 6 57 := Or.inl ⟨by decide +kernel, rfl⟩
theorem dX6_copy_57 : nv_dc qX6_copy 57 (.getfield 390) 3 60 := ⟨by decide +kernel, rfl⟩
theorem dX6_copy_60 : nv_daload qX6_copy 60 7 62 := Or.inl ⟨by decide +kernel, rfl⟩
theorem dX6_copy_62 : nv_dc qX6_copy 62 (.getfield 390) 3 65 := ⟨by decide +kernel, rfl⟩
theorem dX6_copy_65 : nv_dic qX6_copy 65 .eq 74 68 := ⟨9, by decide +kernel, by decide, rfl⟩
theorem dX6_copy_68 : nv_daload qX6_copy 68 0 69 := Or.inr ⟨0, rfl, by decide +kernel, rfl⟩
theorem dX6_copy_69 : nv_dk qX6_copy 69 4 70 := Or.inl ⟨4, ⟨by decide +kernel, rfl⟩, by decide⟩
theorem dX6_copy_70 : nv_dc qX6_copy 70 (.invokevirtual 187) 3 73 := ⟨by decide +kernel, rfl⟩
theorem dX6_copy_73 : decode qX6_copy.2.1 73 = .ok (.ireturn, 1) := by decide +kernel
theorem dX6_copy_74 : nv_daload qX6_copy 74 6 76 := Or.inl ⟨by decide +kernel, rfl⟩
theorem dX6_copy_76 : nv_diload qX6_copy 76 2 77 := Or.inr ⟨2, rfl, by decide +kernel, rfl⟩
theorem dX6_copy_77 : nv_diload qX6_copy 77 5 79 := Or.inl ⟨by decide +kernel, rfl⟩
theorem dX6_copy_79 : nv_dc qX6_copy 79 (.invokevirtual 393) 3 82 := ⟨by decide +kernel, rfl⟩
theorem dX6_copy_82 : nv_dif qX6_copy 82 .eq 97 85 := ⟨15, by decide +kernel, by decide, rfl⟩
theorem dX6_copy_85 : nv_daload qX6_copy 85 7 87 := Or.inl ⟨by decide +kernel, rfl⟩
theorem dX6_copy_87 : nv_diload qX6_copy 87 4 89 := Or.inl ⟨by decide +kernel, rfl⟩
theorem dX6_copy_89 : nv_diload qX6_copy 89 5 91 := Or.inl ⟨by decide +kernel, rfl⟩
theorem dX6_copy_91 : nv_dc qX6_copy 91 (.invokevirtual 393) 3 94 := ⟨by decide +kernel, rfl⟩
theorem dX6_copy_94 : nv_dif qX6_copy 94 .ne 103 97 := ⟨9, by decide +kernel, by decide, rfl⟩
theorem dX6_copy_97 : nv_daload qX6_copy 97 0 98 := Or.inr ⟨0, rfl, by decide +kernel, rfl⟩
theorem dX6_copy_98 : nv_dk qX6_copy 98 2 99 := Or.inl ⟨2, ⟨by decide +kernel, rfl⟩, by decide⟩
theorem dX6_copy_99 : nv_dc qX6_copy 99 (.invokevirtual 187) 3 102 := ⟨by decide +kernel, rfl⟩
theorem dX6_copy_102 : decode qX6_copy.2.1 102 = .ok (.ireturn, 1) := by decide +kernel
theorem dX6_copy_103 : nv_daload qX6_copy 103 6 105 := Or.inl ⟨by decide +kernel, rfl⟩
theorem dX6_copy_105 : nv_dc qX6_copy 105 (.getfield 396) 3 108 := ⟨by decide +kernel, rfl⟩
theorem dX6_copy_108 : nv_diload qX6_copy 108 2 109 := Or.inr ⟨2, rfl, by decide +kernel, rfl⟩
theorem dX6_copy_109 : nv_daload qX6_copy 109 7 111 := Or.inl ⟨by decide +kernel, rfl⟩
theorem dX6_copy_111 : nv_dc qX6_copy 111 (.getfield 396) 3 114 := ⟨by decide +kernel, rfl⟩
theorem dX6_copy_114 : nv_diload qX6_copy 114 4 116 := Or.inl ⟨by decide +kernel, rfl⟩
theorem dX6_copy_116 : nv_diload qX6_copy 116 5 118 := Or.inl ⟨by decide +kernel, rfl⟩
theorem dX6_copy_118 : nv_dc qX6_copy 118 (.invokestatic 313) 3 121 := ⟨by decide +kernel, rfl⟩
theorem dX6_copy_121 : nv_dk qX6_copy 121 1 122 := Or.inl ⟨1, ⟨by decide +kernel, rfl⟩, by decide⟩
theorem dX6_copy_122 : decode qX6_copy.2.1 122 = .ok (.ireturn, 1) := by decide +kernel
def fc_copy_97 (h : nv_Hp)    : Option (Int32 × nv_Hp) := (nv_lt (fc_find h 2) fun q1 => some (q1.1, q1.2))
set_option maxHeartbeats 2000000 in
theorem tc_copy_97 (G : nv_G) (h : nv_Hp)    (o1 o2 o3 o4 o5 o6 o7 : Option Value) (r : Int32 × nv_Hp) (hf : fc_copy_97 h = some r) : nv_E G 2 qX6_copy 97 [some (.ref 0), o1, o2, o3, o4, o5, o6, o7] [] (nv_s h) (some (.int r.1), nv_s r.2) := by
  unfold fc_copy_97 at hf
  refine nv_aL dX6_copy_97 rfl ?_
  refine nv_k dX6_copy_98 ?_
  refine nv_cVi (tc_find G h 2) dX6_copy_99 lm_X6_187 y_qX6_find ko_0 rfl rfl (by decide) rfl (Nat.le_of_ble_eq_true rfl) ?_
  obtain ⟨q1, eq1, hf⟩ := nv_ltX hf
  rw [eq1]
  clear eq1
  obtain rfl := Option.some.inj hf
  exact nv_ireturnI dX6_copy_102 rfl
def fc_copy_49 (h : nv_Hp)    : Option (Int32 × nv_Hp) := (nv_lt (fc_find h 1) fun q1 => some (q1.1, q1.2))
set_option maxHeartbeats 2000000 in
theorem tc_copy_49 (G : nv_G) (h : nv_Hp)    (o1 o2 o3 o4 o5 o6 o7 : Option Value) (r : Int32 × nv_Hp) (hf : fc_copy_49 h = some r) : nv_E G 2 qX6_copy 49 [some (.ref 0), o1, o2, o3, o4, o5, o6, o7] [] (nv_s h) (some (.int r.1), nv_s r.2) := by
  unfold fc_copy_49 at hf
  refine nv_aL dX6_copy_49 rfl ?_
  refine nv_k dX6_copy_50 ?_
  refine nv_cVi (tc_find G h 1) dX6_copy_51 lm_X6_187 y_qX6_find ko_0 rfl rfl (by decide) rfl (Nat.le_of_ble_eq_true rfl) ?_
  obtain ⟨q1, eq1, hf⟩ := nv_ltX hf
  rw [eq1]
  clear eq1
  obtain rfl := Option.some.inj hf
  exact nv_ireturnI dX6_copy_54 rfl
def fc_copy (h : nv_Hp) (x1 : Int32) (x2 : Int32) (x3 : Int32) (x4 : Int32) (x5 : Int32) : Option (Int32 × nv_Hp) := (if (fc_isSheet x1) = true then (if (fc_isSheet x3) = true then (if nv_inb x1 4 = true then (if nv_inb x3 4 = true then (if (h (65 + 2 * x1.toNatClampNeg) 1) = 0 then (if (h (65 + 2 * x3.toNatClampNeg) 1) = 0 then (if (h (65 + 2 * x1.toNatClampNeg) 2) = (h (65 + 2 * x3.toNatClampNeg) 2) then (if (fs_hasRow h (65 + 2 * x1.toNatClampNeg) x2 x5) = true then (if (fs_hasRow h (65 + 2 * x3.toNatClampNeg) x4 x5) = true then (if ¬ x2 < 0 then (if ¬ x4 < 0 then (if ¬ x5 < 0 then (if x2.toNatClampNeg + x5.toNatClampNeg ≤ 60 then (if x4.toNatClampNeg + x5.toNatClampNeg ≤ 60 then (nv_lt (nv_cp (h ((65 + 2 * x1.toNatClampNeg) + 1)) h ((65 + 2 * x3.toNatClampNeg) + 1) (Int32.toNatClampNeg x2) (Int32.toNatClampNeg x4) (Int32.toNatClampNeg x5)) fun h15 => some (1, h15)) else none) else none) else none) else none) else none) else (fc_copy_97 h)) else (fc_copy_97 h)) else (nv_lt (fc_find h 4) fun q16 => some (q16.1, q16.2))) else (fc_copy_49 h)) else (fc_copy_49 h)) else none) else none) else some ((-2), h)) else some ((-2), h))
set_option maxHeartbeats 2000000 in
theorem tc_copy (G : nv_G) (h : nv_Hp) (x1 : Int32) (x2 : Int32) (x3 : Int32) (x4 : Int32) (x5 : Int32) {r : Int32 × nv_Hp} (hf : (fc_copy h x1 x2 x3 x4 x5) = some r) : nv_Mt G 2 qX6_copy [.ref 0, .int x1, .int x2, .int x3, .int x4, .int x5] (nv_s h) (some (.int r.1), nv_s r.2) := by
  refine nv_of (by decide +kernel) (fun ad => Nat.le_of_ble_eq_true rfl) (Nat.le_refl _) (Nat.le_of_ble_eq_true rfl) ?_
  show nv_E G 2 qX6_copy 0 [some (.ref 0), some (.int x1), some (.int x2), some (.int x3), some (.int x4), some (.int x5), none, none] [] (nv_s h) (some (.int r.1), nv_s r.2)
  unfold fc_copy at hf
  refine nv_iL dX6_copy_0 rfl ?_
  refine nv_cSi (tc_isSheet G h x1) dX6_copy_1 lm_X6_180 y_qX6_isSheet rfl (by decide) rfl (Nat.le_of_ble_eq_true rfl) ?_
  refine nv_ifeqB dX6_copy_4 (fun c1 => ?_) (fun c1 => ?_)
  · replace hf := nv_ip c1 hf
    refine nv_iL dX6_copy_7 rfl ?_
    refine nv_cSi (tc_isSheet G h x3) dX6_copy_8 lm_X6_180 y_qX6_isSheet rfl (by decide) rfl (Nat.le_of_ble_eq_true rfl) ?_
    refine nv_ifneB dX6_copy_11 (fun c2 => ?_) (fun c2 => ?_)
    · replace hf := nv_ip c2 hf
      refine nv_aL dX6_copy_17 rfl ?_
      refine nv_tR lf_X6_45 dX6_copy_18 ko_0 rfl ?_
      refine nv_iL dX6_copy_21 rfl ?_
      obtain ⟨g3, hf⟩ := nv_gd hf
      refine nv_aR dX6_copy_22 kr_7 ⟨_, rfl⟩ g3 rfl ?_
      refine nv_aS dX6_copy_23 (by decide) rfl rfl ?_
      refine nv_aL dX6_copy_25 rfl ?_
      refine nv_tR lf_X6_45 dX6_copy_26 ko_0 rfl ?_
      refine nv_iL dX6_copy_29 rfl ?_
      obtain ⟨g4, hf⟩ := nv_gd hf
      refine nv_aR dX6_copy_30 kr_7 ⟨_, rfl⟩ g4 rfl ?_
      refine nv_aS dX6_copy_31 (by decide) rfl rfl ?_
      refine nv_aL dX6_copy_33 rfl ?_
      refine nv_gI lf_X6_183 dX6_copy_35 (nv_o5 g3) rfl ?_
      refine nv_ifne dX6_copy_38 (fun c5 => ?_) (fun c5 => ?_)
      · replace hf := nv_ip c5 hf
        refine nv_aL dX6_copy_41 rfl ?_
        refine nv_gI lf_X6_183 dX6_copy_43 (nv_o5 g4) rfl ?_
        refine nv_ifeq dX6_copy_46 (fun c6 => ?_) (fun c6 => ?_)
        · replace hf := nv_ip c6 hf
          refine nv_aL dX6_copy_55 rfl ?_
          refine nv_gI lf_X6_390 dX6_copy_57 (nv_o5 g3) rfl ?_
          refine nv_aL dX6_copy_60 rfl ?_
          refine nv_gI lf_X6_390 dX6_copy_62 (nv_o5 g4) rfl ?_
          refine nv_iceq dX6_copy_65 (fun c7 => ?_) (fun c7 => ?_)
          · replace hf := nv_ip c7 hf
            refine nv_aL dX6_copy_74 rfl ?_
            refine nv_iL dX6_copy_76 rfl ?_
            refine nv_iL dX6_copy_77 rfl ?_
            refine nv_cVi (ts_hasRow G h (65 + 2 * x1.toNatClampNeg) (nv_o5 g3) x2 x5) dX6_copy_79 lm_X6_393 y_qX5_hasRow (nv_o5 g3) rfl rfl (by decide) rfl (Nat.le_of_ble_eq_true rfl) ?_
            refine nv_ifeqB dX6_copy_82 (fun c8 => ?_) (fun c8 => ?_)
            · replace hf := nv_ip c8 hf
              refine nv_aL dX6_copy_85 rfl ?_
              refine nv_iL dX6_copy_87 rfl ?_
              refine nv_iL dX6_copy_89 rfl ?_
              refine nv_cVi (ts_hasRow G h (65 + 2 * x3.toNatClampNeg) (nv_o5 g4) x4 x5) dX6_copy_91 lm_X6_393 y_qX5_hasRow (nv_o5 g4) rfl rfl (by decide) rfl (Nat.le_of_ble_eq_true rfl) ?_
              refine nv_ifneB dX6_copy_94 (fun c9 => ?_) (fun c9 => ?_)
              · replace hf := nv_ip c9 hf
                refine nv_aL dX6_copy_103 rfl ?_
                refine nv_gR (t := ((65 + 2 * x1.toNatClampNeg) + 1)) lf_X6_396 dX6_copy_105 (nv_o5 g3) rfl ?_
                refine nv_iL dX6_copy_108 rfl ?_
                refine nv_aL dX6_copy_109 rfl ?_
                refine nv_gR (t := ((65 + 2 * x3.toNatClampNeg) + 1)) lf_X6_396 dX6_copy_111 (nv_o5 g4) rfl ?_
                refine nv_iL dX6_copy_114 rfl ?_
                refine nv_iL dX6_copy_116 rfl ?_
                obtain ⟨g10, hf⟩ := nv_gd hf
                obtain ⟨g11, hf⟩ := nv_gd hf
                obtain ⟨g12, hf⟩ := nv_gd hf
                obtain ⟨g13, hf⟩ := nv_gd hf
                obtain ⟨g14, hf⟩ := nv_gd hf
                refine nv_copy dX6_copy_118 lcp_X6 (by decide) (nv_o5i (nv_o5 g3)) (nv_o5i (nv_o5 g4)) g10 g11 g12 g13 g14 (Nat.le_of_ble_eq_true rfl) ?_
                obtain ⟨h15, eh15, hf⟩ := nv_ltX hf
                rw [eh15]
                clear eh15
                refine nv_k dX6_copy_121 ?_
                obtain rfl := Option.some.inj hf
                exact nv_ireturnI dX6_copy_122 rfl
              · replace hf := nv_in c9 hf
                exact tc_copy_97 G _ _ _ _ _ _ _ _ _ hf
            · replace hf := nv_in c8 hf
              exact tc_copy_97 G _ _ _ _ _ _ _ _ _ hf
          · replace hf := nv_in c7 hf
            refine nv_aL dX6_copy_68 rfl ?_
            refine nv_k dX6_copy_69 ?_
            refine nv_cVi (tc_find G h 4) dX6_copy_70 lm_X6_187 y_qX6_find ko_0 rfl rfl (by decide) rfl (Nat.le_of_ble_eq_true rfl) ?_
            obtain ⟨q16, eq16, hf⟩ := nv_ltX hf
            rw [eq16]
            clear eq16
            obtain rfl := Option.some.inj hf
            exact nv_ireturnI dX6_copy_73 rfl
        · replace hf := nv_in c6 hf
          exact tc_copy_49 G _ _ _ _ _ _ _ _ _ hf
      · replace hf := nv_in c5 hf
        exact tc_copy_49 G _ _ _ _ _ _ _ _ _ hf
    · replace hf := nv_in c2 hf
      refine nv_k dX6_copy_14 ?_
      obtain rfl := Option.some.inj hf
      exact nv_ireturnI dX6_copy_16 rfl
  · replace hf := nv_in c1 hf
    refine nv_k dX6_copy_14 ?_
    obtain rfl := Option.some.inj hf
    exact nv_ireturnI dX6_copy_16 rfl
/-! WhoseName.write -/
theorem dX6_write_0 : nv_diload qX6_write 0 1 1 := Or.inr ⟨1, rfl, by decide +kernel, rfl⟩
theorem dX6_write_1 : nv_dc qX6_write 1 (.invokestatic 217) 3 4 := ⟨by decide +kernel, rfl⟩
theorem dX6_write_4 : nv_dif qX6_write 4 .eq 14 7 := ⟨10, by decide +kernel, by decide, rfl⟩
theorem dX6_write_7 : nv_diload qX6_write 7 2 8 := Or.inr ⟨2, rfl, by decide +kernel, rfl⟩
theorem dX6_write_8 : nv_dc qX6_write 8 (.invokestatic 180) 3 11 := ⟨by decide +kernel, rfl⟩
theorem dX6_write_11 : nv_dif qX6_write 11 .ne 17 14 := ⟨6, by decide +kernel, by decide, rfl⟩
theorem dX6_write_14 : nv_dk qX6_write 14 (-2) 16 := Or.inr (Or.inl ⟨(-2), ⟨by decide +kernel, rfl⟩, by decide⟩)
theorem dX6_write_16 : decode qX6_write.2.1 16 = .ok (.ireturn, 1) := by decide +kernel
theorem dX6_write_17 : nv_daload qX6_write 17 0 18 := Or.inr ⟨0, rfl, by decide +kernel, rfl⟩
theorem dX6_write_18 : nv_dc qX6_write 18 (.getfield 45) 3 21 := ⟨by decide +kernel, rfl⟩
theorem dX6_write_21 : nv_diload qX6_write 21 2 22 := Or.inr ⟨2, rfl, by decide +kernel, rfl⟩
theorem dX6_write_22 : nv_dc qX6_write 22 (.aaload) 1 23 := ⟨by decide +kernel, rfl⟩
theorem dX6_write_23 : nv_dastore qX6_write 23 3 24 := Or.inr ⟨3, rfl, by decide +kernel, rfl⟩
theorem dX6_write_24 : nv_daload qX6_write 24 3 25 := Or.inr ⟨3, rfl, by decide +kernel, rfl⟩
theorem dX6_write_25 : nv_dc qX6_write 25 (.getfield 183) 3 28 := ⟨by decide +kernel, rfl⟩
theorem dX6_write_28 : nv_dif qX6_write 28 .eq 37 31 := ⟨9, by decide +kernel, by decide, rfl⟩
theorem dX6_write_31 : nv_daload qX6_write 31 0 32 := Or.inr ⟨0, rfl, by decide +kernel, rfl⟩
theorem dX6_write_32 : nv_dk qX6_write 32 1 33 := Or.inl ⟨1, ⟨by decide +kernel, rfl⟩, by decide⟩
theorem dX6_write_33 : nv_dc qX6_write 33 (.invokevirtual 187) 3 36 := ⟨by decide +kernel, rfl⟩
theorem dX6_write_36 : decode qX6_write.2.1 36 = .ok (.ireturn, 1) := by decide +kernel
theorem dX6_write_37 : nv_daload qX6_write 37 0 38 := Or.inr ⟨0, rfl, by decide +kernel, rfl⟩
theorem dX6_write_38 : nv_daload qX6_write 38 0 39 := Or.inr ⟨0, rfl, by decide +kernel, rfl⟩
theorem dX6_write_39 : nv_dc qX6_write 39 (.getfield 39) 3 42 := ⟨by decide +kernel, rfl⟩
theorem dX6_write_42 : nv_diload qX6_write 42 1 43 := Or.inr ⟨1, rfl, by decide +kernel, rfl⟩
theorem dX6_write_43 : nv_dc qX6_write 43 (.aaload) 1 44 := ⟨by decide +kernel, rfl⟩
theorem dX6_write_44 : nv_dc qX6_write 44 (.getfield 231) 3 47 := ⟨by decide +kernel, rfl⟩
theorem dX6_write_47 : nv_dc qX6_write 47 (.invokevirtual 306) 3 50 := ⟨by decide +kernel, rfl⟩
theorem dX6_write_50 : nv_daload qX6_write 50 3 51 := Or.inr ⟨3, rfl, by decide +kernel, rfl⟩
theorem dX6_write_51 : nv_dc qX6_write 51 (.getfield 191) 3 54 := ⟨by decide +kernel, rfl⟩
theorem dX6_write_54 : nv_dk qX6_write 54 8 56 := Or.inr (Or.inl ⟨8, ⟨by decide +kernel, rfl⟩, by decide⟩)
theorem dX6_write_56 : nv_dc qX6_write 56 (.invokestatic 252) 3 59 := ⟨by decide +kernel, rfl⟩
theorem dX6_write_59 : nv_distore qX6_write 59 4 61 := Or.inl ⟨by decide +kernel, rfl⟩
theorem dX6_write_61 : nv_dk qX6_write 61 0 62 := Or.inl ⟨0, ⟨by decide +kernel, rfl⟩, by decide⟩
theorem dX6_write_62 : nv_distore qX6_write 62 5 64 := Or.inl ⟨by decide +kernel, rfl⟩
theorem dX6_write_64 : nv_diload qX6_write 64 5 66 := Or.inl ⟨by decide +kernel, rfl⟩
theorem dX6_write_66 : nv_diload qX6_write 66 4 68 := Or.inl ⟨by decide +kernel, rfl⟩
theorem dX6_write_68 : nv_dic qX6_write 68 .ge 90 71 := ⟨22, by decide +kernel, by decide, rfl⟩
theorem dX6_write_71 : nv_daload qX6_write 71 3 72 := Or.inr ⟨3, rfl, by decide +kernel, rfl⟩
theorem dX6_write_72 : nv_diload qX6_write 72 5 74 := Or.inl ⟨by decide +kernel, rfl⟩
theorem dX6_write_74 : nv_daload qX6_write 74 0 75 := Or.inr ⟨0, rfl, by decide +kernel, rfl⟩
theorem dX6_write_75 : nv_dc qX6_write 75 (.getfield 49) 3 78 := ⟨by decide +kernel, rfl⟩
theorem dX6_write_78 : nv_diload qX6_write 78 5 80 := Or.inl ⟨by decide +kernel, rfl⟩
theorem dX6_write_80 : nv_dc qX6_write 80 (.iaload) 1 81 := ⟨by decide +kernel, rfl⟩
theorem dX6_write_81 : nv_dc qX6_write 81 (.invokevirtual 386) 3 84 := ⟨by decide +kernel, rfl⟩
theorem dX6_write_84 : nv_dc qX6_write 84 (.iinc 5 1) 3 87 := ⟨by decide +kernel, rfl⟩
theorem dX6_write_87 : nv_dgo qX6_write 87 64 := ⟨(-23), by decide +kernel, by decide⟩
theorem dX6_write_90 : nv_diload qX6_write 90 4 92 := Or.inl ⟨by decide +kernel, rfl⟩
theorem dX6_write_92 : decode qX6_write.2.1 92 = .ok (.ireturn, 1) := by decide +kernel
def fc_write_64  (k3 : Nat) (x4 : Int32)  : Nat → Int32 → nv_Hp → Option (Int32 × nv_Hp)
  | 0, _, _ => none
  | n + 1, x5, h => (if x4 ≤ x5 then some (x4, h) else (if nv_inb x5 8 = true then (Option.bind (fs_put h k3 x5 (h 8 x5.toNatClampNeg)) fun q3 => ((fc_write_64 k3 x4 n) (x5 + 1) q3)) else none))
set_option maxHeartbeats 2000000 in
theorem tc_write_64 (G : nv_G)  (k3 : Nat) (hk3 : nv_O 5 k3) (x4 : Int32)  : ∀ (n : Nat) (x5 : Int32) (h : nv_Hp) (o1 o2 : Option Value) (r : Int32 × nv_Hp), fc_write_64 k3 x4 n x5 h = some r → nv_E G 6 qX6_write 64 [some (.ref 0), o1, o2, some (.ref k3), some (.int x4), some (.int x5)] [] (nv_s h) (some (.int r.1), nv_s r.2) := by
  intro n
  induction n with
  | zero =>
    intro x5 h o1 o2 r hf
    rw [fc_write_64] at hf
    cases hf
  | succ n ih =>
    intro x5 h o1 o2 r hf
    rw [fc_write_64] at hf
    refine nv_iL dX6_write_64 rfl ?_
    refine nv_iL dX6_write_66 rfl ?_
    refine nv_icge dX6_write_68 (fun c1 => ?_) (fun c1 => ?_)
    · replace hf := nv_ip c1 hf
      refine nv_iL dX6_write_90 rfl ?_
      obtain rfl := Option.some.inj hf
      exact nv_ireturnI dX6_write_92 rfl
    · replace hf := nv_in c1 hf
      refine nv_aL dX6_write_71 rfl ?_
      refine nv_iL dX6_write_72 rfl ?_
      refine nv_aL dX6_write_74 rfl ?_
      refine nv_tR lf_X6_49 dX6_write_75 ko_0 rfl ?_
      refine nv_iL dX6_write_78 rfl ?_
      obtain ⟨g2, hf⟩ := nv_gd hf
      refine nv_aI dX6_write_80 ka_8 g2 rfl ?_
      obtain ⟨q3, hq3, hf⟩ := nv_bd hf
      refine nv_cVv (ts_put G h k3 hk3 x5 (h 8 x5.toNatClampNeg) hq3) dX6_write_81 lm_X6_386 y_qX5_put hk3 rfl rfl (by decide) rfl (Nat.le_of_ble_eq_true rfl) ?_
      refine nv_inc dX6_write_84 rfl (v := 1) (by decide) (by decide) rfl rfl ?_
      refine nv_goto dX6_write_87 ?_
      exact ih _ _ _ _ _ hf
def fc_write (h : nv_Hp) (x1 : Int32) (x2 : Int32) : Option (Int32 × nv_Hp) := (if (fc_isLaw x1) = true then (if (fc_isSheet x2) = true then (if nv_inb x2 4 = true then (if (h (65 + 2 * x2.toNatClampNeg) 1) = 0 then (if nv_inb x1 2 = true then (Option.bind (fc_settle h ((59 + 3 * x1.toNatClampNeg) + 2)) fun q6 => (nv_lt ((fj_min (q6 (65 + 2 * x2.toNatClampNeg) 3) 8)) fun v7 => (fc_write_64 (65 + 2 * x2.toNatClampNeg) v7 nv_fu 0 q6))) else none) else (nv_lt (fc_find h 1) fun q8 => some (q8.1, q8.2))) else none) else some ((-2), h)) else some ((-2), h))
set_option maxHeartbeats 2000000 in
theorem tc_write (G : nv_G) (h : nv_Hp) (x1 : Int32) (x2 : Int32) {r : Int32 × nv_Hp} (hf : (fc_write h x1 x2) = some r) : nv_Mt G 6 qX6_write [.ref 0, .int x1, .int x2] (nv_s h) (some (.int r.1), nv_s r.2) := by
  refine nv_of (by decide +kernel) (fun ad => Nat.le_of_ble_eq_true rfl) (Nat.le_refl _) (Nat.le_of_ble_eq_true rfl) ?_
  show nv_E G 6 qX6_write 0 [some (.ref 0), some (.int x1), some (.int x2), none, none, none] [] (nv_s h) (some (.int r.1), nv_s r.2)
  unfold fc_write at hf
  refine nv_iL dX6_write_0 rfl ?_
  refine nv_cSi (tc_isLaw G h x1) dX6_write_1 lm_X6_217 y_qX6_isLaw rfl (by decide) rfl (Nat.le_of_ble_eq_true rfl) ?_
  refine nv_ifeqB dX6_write_4 (fun c1 => ?_) (fun c1 => ?_)
  · replace hf := nv_ip c1 hf
    refine nv_iL dX6_write_7 rfl ?_
    refine nv_cSi (tc_isSheet G h x2) dX6_write_8 lm_X6_180 y_qX6_isSheet rfl (by decide) rfl (Nat.le_of_ble_eq_true rfl) ?_
    refine nv_ifneB dX6_write_11 (fun c2 => ?_) (fun c2 => ?_)
    · replace hf := nv_ip c2 hf
      refine nv_aL dX6_write_17 rfl ?_
      refine nv_tR lf_X6_45 dX6_write_18 ko_0 rfl ?_
      refine nv_iL dX6_write_21 rfl ?_
      obtain ⟨g3, hf⟩ := nv_gd hf
      refine nv_aR dX6_write_22 kr_7 ⟨_, rfl⟩ g3 rfl ?_
      refine nv_aS dX6_write_23 (by decide) rfl rfl ?_
      refine nv_aL dX6_write_24 rfl ?_
      refine nv_gI lf_X6_183 dX6_write_25 (nv_o5 g3) rfl ?_
      refine nv_ifeq dX6_write_28 (fun c4 => ?_) (fun c4 => ?_)
      · replace hf := nv_ip c4 hf
        refine nv_aL dX6_write_37 rfl ?_
        refine nv_aL dX6_write_38 rfl ?_
        refine nv_tR lf_X6_39 dX6_write_39 ko_0 rfl ?_
        refine nv_iL dX6_write_42 rfl ?_
        obtain ⟨g5, hf⟩ := nv_gd hf
        refine nv_aR dX6_write_43 kr_6 ⟨_, rfl⟩ g5 rfl ?_
        refine nv_gR (t := ((59 + 3 * x1.toNatClampNeg) + 2)) lf_X6_231 dX6_write_44 (nv_o3 g5) rfl ?_
        obtain ⟨q6, hq6, hf⟩ := nv_bd hf
        refine nv_cVv (tc_settle G h ((59 + 3 * x1.toNatClampNeg) + 2) (nv_o3w (nv_o3 g5)) hq6) dX6_write_47 lm_X6_306 y_qX6_settle ko_0 rfl rfl (by decide) rfl (Nat.le_of_ble_eq_true rfl) ?_
        refine nv_aL dX6_write_50 rfl ?_
        refine nv_gI lf_X6_191 dX6_write_51 (nv_o5 g3) rfl ?_
        refine nv_k dX6_write_54 ?_
        refine nv_mmin dX6_write_56 lmin_X6 (by decide) (Nat.le_of_ble_eq_true rfl) ?_
        obtain ⟨v7, ev7, hf⟩ := nv_ltX hf
        rw [ev7]
        clear ev7
        refine nv_iS dX6_write_59 (by decide) rfl rfl ?_
        refine nv_k dX6_write_61 ?_
        refine nv_iS dX6_write_62 (by decide) rfl rfl ?_
        exact tc_write_64 G _ (nv_o5 g3) _ _ _ _ _ _ _ hf
      · replace hf := nv_in c4 hf
        refine nv_aL dX6_write_31 rfl ?_
        refine nv_k dX6_write_32 ?_
        refine nv_cVi (tc_find G h 1) dX6_write_33 lm_X6_187 y_qX6_find ko_0 rfl rfl (by decide) rfl (Nat.le_of_ble_eq_true rfl) ?_
        obtain ⟨q8, eq8, hf⟩ := nv_ltX hf
        rw [eq8]
        clear eq8
        obtain rfl := Option.some.inj hf
        exact nv_ireturnI dX6_write_36 rfl
    · replace hf := nv_in c2 hf
      refine nv_k dX6_write_14 ?_
      obtain rfl := Option.some.inj hf
      exact nv_ireturnI dX6_write_16 rfl
  · replace hf := nv_in c1 hf
    refine nv_k dX6_write_14 ?_
    obtain rfl := Option.some.inj hf
    exact nv_ireturnI dX6_write_16 rfl
/-! WhoseName.allOpen -/
theorem dX6_allOpen_0 : nv_dk qX6_allOpen 0 0 1 := Or.inl ⟨0, ⟨by decide +kernel, rfl⟩, by decide⟩
theorem dX6_allOpen_1 : nv_distore qX6_allOpen 1 1 2 := Or.inr ⟨1, rfl, by decide +kernel, rfl⟩
theorem dX6_allOpen_2 : nv_dk qX6_allOpen 2 0 3 := Or.inl ⟨0, ⟨by decide +kernel, rfl⟩, by decide⟩
theorem dX6_allOpen_3 : nv_distore qX6_allOpen 3 2 4 := Or.inr ⟨2, rfl, by decide +kernel, rfl⟩
theorem dX6_allOpen_4 : nv_diload qX6_allOpen 4 2 5 := Or.inr ⟨2, rfl, by decide +kernel, rfl⟩
theorem dX6_allOpen_5 : nv_daload qX6_allOpen 5 0 6 := Or.inr ⟨0, rfl, by decide +kernel, rfl⟩
theorem dX6_allOpen_6 : nv_dc qX6_allOpen 6 (.getfield 138) 3 9 := ⟨by decide +kernel, rfl⟩
theorem dX6_allOpen_9 : nv_dic qX6_allOpen 9 .ge 34 12 := ⟨25, by decide +kernel, by decide, rfl⟩
theorem dX6_allOpen_12 : nv_daload qX6_allOpen 12 0 13 := Or.inr ⟨0, rfl, by decide +kernel, rfl⟩
theorem dX6_allOpen_13 : nv_dc qX6_allOpen 13 (.getfield 21) 3 16 := ⟨by decide +kernel, rfl⟩
theorem dX6_allOpen_16 : nv_diload qX6_allOpen 16 2 17 := Or.inr ⟨2, rfl, by decide +kernel, rfl⟩
theorem dX6_allOpen_17 : nv_dc qX6_allOpen 17 (.aaload) 1 18 := ⟨by decide +kernel, rfl⟩
theorem dX6_allOpen_18 : nv_dc qX6_allOpen 18 (.getfield 150) 3 21 := ⟨by decide +kernel, rfl⟩
theorem dX6_allOpen_21 : nv_dk qX6_allOpen 21 (-1) 22 := Or.inl ⟨(-1), ⟨by decide +kernel, rfl⟩, by decide⟩
theorem dX6_allOpen_22 : nv_dic qX6_allOpen 22 .ne 28 25 := ⟨6, by decide +kernel, by decide, rfl⟩
theorem dX6_allOpen_25 : nv_dc qX6_allOpen 25 (.iinc 1 1) 3 28 := ⟨by decide +kernel, rfl⟩
theorem dX6_allOpen_28 : nv_dc qX6_allOpen 28 (.iinc 2 1) 3 31 := ⟨by decide +kernel, rfl⟩
theorem dX6_allOpen_31 : nv_dgo qX6_allOpen 31 4 := ⟨(-27), by decide +kernel, by decide⟩
theorem dX6_allOpen_34 : nv_diload qX6_allOpen 34 1 35 := Or.inr ⟨1, rfl, by decide +kernel, rfl⟩
theorem dX6_allOpen_35 : decode qX6_allOpen.2.1 35 = .ok (.ireturn, 1) := by decide +kernel
def fc_allOpen_4 (h : nv_Hp)   : Nat → Int32 → Int32 → Option (Int32)
  | 0, _, _ => none
  | n + 1, x1, x2 => (if (h 0 8) ≤ x2 then some x1 else (if nv_inb x2 12 = true then ((fc_allOpen_4 h n) (if (h (25 + x2.toNatClampNeg) 3) = (-1) then (x1 + 1) else x1) (x2 + 1)) else none))
set_option maxHeartbeats 2000000 in
theorem tc_allOpen_4 (G : nv_G) (h : nv_Hp)   : ∀ (n : Nat) (x1 : Int32) (x2 : Int32) (r : Int32), fc_allOpen_4 h n x1 x2 = some r → nv_E G 0 qX6_allOpen 4 [some (.ref 0), some (.int x1), some (.int x2)] [] (nv_s h) (some (.int r), nv_s h) := by
  intro n
  induction n with
  | zero =>
    intro x1 x2 r hf
    rw [fc_allOpen_4] at hf
    cases hf
  | succ n ih =>
    intro x1 x2 r hf
    rw [fc_allOpen_4] at hf
    refine nv_iL dX6_allOpen_4 rfl ?_
    refine nv_aL dX6_allOpen_5 rfl ?_
    refine nv_tI lf_X6_138 dX6_allOpen_6 ko_0 rfl ?_
    refine nv_icge dX6_allOpen_9 (fun c1 => ?_) (fun c1 => ?_)
    · replace hf := nv_ip c1 hf
      refine nv_iL dX6_allOpen_34 rfl ?_
      obtain rfl := Option.some.inj hf
      exact nv_ireturnI dX6_allOpen_35 rfl
    · replace hf := nv_in c1 hf
      refine nv_aL dX6_allOpen_12 rfl ?_
      refine nv_tR lf_X6_21 dX6_allOpen_13 ko_0 rfl ?_
      refine nv_iL dX6_allOpen_16 rfl ?_
      obtain ⟨g2, hf⟩ := nv_gd hf
      refine nv_aR dX6_allOpen_17 kr_3 ⟨_, rfl⟩ g2 (nv_q1 _ _) ?_
      refine nv_gI lf_X6_150 dX6_allOpen_18 (nv_o1 g2) rfl ?_
      refine nv_k dX6_allOpen_21 ?_
      refine nv_icne dX6_allOpen_22 (fun c3 => ?_) (fun c3 => ?_)
      · try simp only [if_pos c3] at hf
        refine nv_inc dX6_allOpen_25 rfl (v := 1) (by decide) (by decide) rfl rfl ?_
        refine nv_inc dX6_allOpen_28 rfl (v := 1) (by decide) (by decide) rfl rfl ?_
        refine nv_goto dX6_allOpen_31 ?_
        exact ih _ _ _ hf
      · try simp only [if_neg c3] at hf
        refine nv_inc dX6_allOpen_28 rfl (v := 1) (by decide) (by decide) rfl rfl ?_
        refine nv_goto dX6_allOpen_31 ?_
        exact ih _ _ _ hf
def fc_allOpen (h : nv_Hp)  : Option (Int32) := (fc_allOpen_4 h nv_fu 0 0)
set_option maxHeartbeats 2000000 in
theorem tc_allOpen (G : nv_G) (h : nv_Hp)  {r : Int32} (hf : (fc_allOpen h) = some r) : nv_Mt G 0 qX6_allOpen [.ref 0] (nv_s h) (some (.int r), nv_s h) := by
  refine nv_of (by decide +kernel) (fun ad => Nat.le_of_ble_eq_true rfl) (Nat.le_refl _) (Nat.le_of_ble_eq_true rfl) ?_
  show nv_E G 0 qX6_allOpen 0 [some (.ref 0), none, none] [] (nv_s h) (some (.int r), nv_s h)
  unfold fc_allOpen at hf
  refine nv_k dX6_allOpen_0 ?_
  refine nv_iS dX6_allOpen_1 (by decide) rfl rfl ?_
  refine nv_k dX6_allOpen_2 ?_
  refine nv_iS dX6_allOpen_3 (by decide) rfl rfl ?_
  exact tc_allOpen_4 G _ _ _ _ _ hf
/-! WhoseName.allPurses -/
theorem dX6_allPurses_0 : nv_dk qX6_allPurses 0 0 1 := Or.inl ⟨0, ⟨by decide +kernel, rfl⟩, by decide⟩
theorem dX6_allPurses_1 : nv_distore qX6_allPurses 1 1 2 := Or.inr ⟨1, rfl, by decide +kernel, rfl⟩
theorem dX6_allPurses_2 : nv_dk qX6_allPurses 2 0 3 := Or.inl ⟨0, ⟨by decide +kernel, rfl⟩, by decide⟩
theorem dX6_allPurses_3 : nv_distore qX6_allPurses 3 2 4 := Or.inr ⟨2, rfl, by decide +kernel, rfl⟩
theorem dX6_allPurses_4 : nv_diload qX6_allPurses 4 2 5 := Or.inr ⟨2, rfl, by decide +kernel, rfl⟩
theorem dX6_allPurses_5 : nv_dk qX6_allPurses 5 8 7 := Or.inr (Or.inl ⟨8, ⟨by decide +kernel, rfl⟩, by decide⟩)
theorem dX6_allPurses_7 : nv_dic qX6_allPurses 7 .ge 25 10 := ⟨18, by decide +kernel, by decide, rfl⟩
theorem dX6_allPurses_10 : nv_diload qX6_allPurses 10 1 11 := Or.inr ⟨1, rfl, by decide +kernel, rfl⟩
theorem dX6_allPurses_11 : nv_daload qX6_allPurses 11 0 12 := Or.inr ⟨0, rfl, by decide +kernel, rfl⟩
theorem dX6_allPurses_12 : nv_dc qX6_allPurses 12 (.getfield 9) 3 15 := ⟨by decide +kernel, rfl⟩
theorem dX6_allPurses_15 : nv_diload qX6_allPurses 15 2 16 := Or.inr ⟨2, rfl, by decide +kernel, rfl⟩
theorem dX6_allPurses_16 : nv_dc qX6_allPurses 16 (.iaload) 1 17 := ⟨by decide +kernel, rfl⟩
theorem dX6_allPurses_17 : nv_dc qX6_allPurses 17 (.iadd) 1 18 := ⟨by decide +kernel, rfl⟩
theorem dX6_allPurses_18 : nv_distore qX6_allPurses 18 1 19 := Or.inr ⟨1, rfl, by decide +kernel, rfl⟩
theorem dX6_allPurses_19 : nv_dc qX6_allPurses 19 (.iinc 2 1) 3 22 := ⟨by decide +kernel, rfl⟩
theorem dX6_allPurses_22 : nv_dgo qX6_allPurses 22 4 := ⟨(-18), by decide +kernel, by decide⟩
theorem dX6_allPurses_25 : nv_diload qX6_allPurses 25 1 26 := Or.inr ⟨1, rfl, by decide +kernel, rfl⟩
theorem dX6_allPurses_26 : decode qX6_allPurses.2.1 26 = .ok (.ireturn, 1) := by decide +kernel
def fc_allPurses_4 (h : nv_Hp)   : Nat → Int32 → Int32 → Option (Int32)
  | 0, _, _ => none
  | n + 1, x1, x2 => (if 8 ≤ x2 then some x1 else (if nv_inb x2 8 = true then (nv_lt ((x1 + (h 1 x2.toNatClampNeg))) fun v3 => ((fc_allPurses_4 h n) v3 (x2 + 1))) else none))
set_option maxHeartbeats 2000000 in
theorem tc_allPurses_4 (G : nv_G) (h : nv_Hp)   : ∀ (n : Nat) (x1 : Int32) (x2 : Int32) (r : Int32), fc_allPurses_4 h n x1 x2 = some r → nv_E G 0 qX6_allPurses 4 [some (.ref 0), some (.int x1), some (.int x2)] [] (nv_s h) (some (.int r), nv_s h) := by
  intro n
  induction n with
  | zero =>
    intro x1 x2 r hf
    rw [fc_allPurses_4] at hf
    cases hf
  | succ n ih =>
    intro x1 x2 r hf
    rw [fc_allPurses_4] at hf
    refine nv_iL dX6_allPurses_4 rfl ?_
    refine nv_k dX6_allPurses_5 ?_
    refine nv_icge dX6_allPurses_7 (fun c1 => ?_) (fun c1 => ?_)
    · replace hf := nv_ip c1 hf
      refine nv_iL dX6_allPurses_25 rfl ?_
      obtain rfl := Option.some.inj hf
      exact nv_ireturnI dX6_allPurses_26 rfl
    · replace hf := nv_in c1 hf
      refine nv_iL dX6_allPurses_10 rfl ?_
      refine nv_aL dX6_allPurses_11 rfl ?_
      refine nv_tR lf_X6_9 dX6_allPurses_12 ko_0 rfl ?_
      refine nv_iL dX6_allPurses_15 rfl ?_
      obtain ⟨g2, hf⟩ := nv_gd hf
      refine nv_aI dX6_allPurses_16 ka_1 g2 rfl ?_
      refine nv_iadd dX6_allPurses_17 ?_
      obtain ⟨v3, ev3, hf⟩ := nv_ltX hf
      rw [ev3]
      clear ev3
      refine nv_iS dX6_allPurses_18 (by decide) rfl rfl ?_
      refine nv_inc dX6_allPurses_19 rfl (v := 1) (by decide) (by decide) rfl rfl ?_
      refine nv_goto dX6_allPurses_22 ?_
      exact ih _ _ _ hf
def fc_allPurses (h : nv_Hp)  : Option (Int32) := (fc_allPurses_4 h nv_fu 0 0)
set_option maxHeartbeats 2000000 in
theorem tc_allPurses (G : nv_G) (h : nv_Hp)  {r : Int32} (hf : (fc_allPurses h) = some r) : nv_Mt G 0 qX6_allPurses [.ref 0] (nv_s h) (some (.int r), nv_s h) := by
  refine nv_of (by decide +kernel) (fun ad => Nat.le_of_ble_eq_true rfl) (Nat.le_refl _) (Nat.le_of_ble_eq_true rfl) ?_
  show nv_E G 0 qX6_allPurses 0 [some (.ref 0), none, none] [] (nv_s h) (some (.int r), nv_s h)
  unfold fc_allPurses at hf
  refine nv_k dX6_allPurses_0 ?_
  refine nv_iS dX6_allPurses_1 (by decide) rfl rfl ?_
  refine nv_k dX6_allPurses_2 ?_
  refine nv_iS dX6_allPurses_3 (by decide) rfl rfl ?_
  exact tc_allPurses_4 G _ _ _ _ _ hf
/-! WhoseName.count -/
theorem dX6_count_0 : nv_diload qX6_count 0 1 1 := Or.inr ⟨1, rfl, by decide +kernel, rfl⟩
theorem dX6_count_1 : decode qX6_count.2.1 1 = .ok (.tableswitch 106 0 8 #[51, 56, 61, 66, 71, 76, 86, 96, 101], 51) := by decide +kernel
theorem swX6_count_1_0 (x : Int32) (hx : x = 0) : nv_dsw qX6_count 1 x 52 := by subst hx; exact Or.inl ⟨_, _, _, _, _, dX6_count_1, Or.inl ⟨51, by decide, by decide, rfl, by decide⟩⟩
theorem swX6_count_1_1 (x : Int32) (hx : x = 1) : nv_dsw qX6_count 1 x 57 := by subst hx; exact Or.inl ⟨_, _, _, _, _, dX6_count_1, Or.inl ⟨56, by decide, by decide, rfl, by decide⟩⟩
theorem swX6_count_1_2 (x : Int32) (hx : x = 2) : nv_dsw qX6_count 1 x 62 := by subst hx; exact Or.inl ⟨_, _, _, _, _, dX6_count_1, Or.inl ⟨61, by decide, by decide, rfl, by decide⟩⟩
theorem swX6_count_1_3 (x : Int32) (hx : x = 3) : nv_dsw qX6_count 1 x 67 := by subst hx; exact Or.inl ⟨_, _, _, _, _, dX6_count_1, Or.inl ⟨66, by decide, by decide, rfl, by decide⟩⟩
theorem swX6_count_1_4 (x : Int32) (hx : x = 4) : nv_dsw qX6_count 1 x 72 := by subst hx; exact Or.inl ⟨_, _, _, _, _, dX6_count_1, Or.inl ⟨71, by decide, by decide, rfl, by decide⟩⟩
theorem swX6_count_1_5 (x : Int32) (hx : x = 5) : nv_dsw qX6_count 1 x 77 := by subst hx; exact Or.inl ⟨_, _, _, _, _, dX6_count_1, Or.inl ⟨76, by decide, by decide, rfl, by decide⟩⟩
theorem swX6_count_1_6 (x : Int32) (hx : x = 6) : nv_dsw qX6_count 1 x 87 := by subst hx; exact Or.inl ⟨_, _, _, _, _, dX6_count_1, Or.inl ⟨86, by decide, by decide, rfl, by decide⟩⟩
theorem swX6_count_1_7 (x : Int32) (hx : x = 7) : nv_dsw qX6_count 1 x 97 := by subst hx; exact Or.inl ⟨_, _, _, _, _, dX6_count_1, Or.inl ⟨96, by decide, by decide, rfl, by decide⟩⟩
theorem swX6_count_1_8 (x : Int32) (hx : x = 8) : nv_dsw qX6_count 1 x 102 := by subst hx; exact Or.inl ⟨_, _, _, _, _, dX6_count_1, Or.inl ⟨101, by decide, by decide, rfl, by decide⟩⟩
theorem swX6_count_1_d (x : Int32) (c0 : ¬ x = 0) (c1 : ¬ x = 1) (c2 : ¬ x = 2) (c3 : ¬ x = 3) (c4 : ¬ x = 4) (c5 : ¬ x = 5) (c6 : ¬ x = 6) (c7 : ¬ x = 7) (c8 : ¬ x = 8) : nv_dsw qX6_count 1 x 107 := by
  have g0 : x.toInt ≠ 0 := fun e => c0 (Int32.toInt_inj.mp (e.trans (by decide)))
  have g1 : x.toInt ≠ 1 := fun e => c1 (Int32.toInt_inj.mp (e.trans (by decide)))
  have g2 : x.toInt ≠ 2 := fun e => c2 (Int32.toInt_inj.mp (e.trans (by decide)))
  have g3 : x.toInt ≠ 3 := fun e => c3 (Int32.toInt_inj.mp (e.trans (by decide)))
  have g4 : x.toInt ≠ 4 := fun e => c4 (Int32.toInt_inj.mp (e.trans (by decide)))
  have g5 : x.toInt ≠ 5 := fun e => c5 (Int32.toInt_inj.mp (e.trans (by decide)))
  have g6 : x.toInt ≠ 6 := fun e => c6 (Int32.toInt_inj.mp (e.trans (by decide)))
  have g7 : x.toInt ≠ 7 := fun e => c7 (Int32.toInt_inj.mp (e.trans (by decide)))
  have g8 : x.toInt ≠ 8 := fun e => c8 (Int32.toInt_inj.mp (e.trans (by decide)))
  exact Or.inl ⟨_, _, _, _, _, dX6_count_1, Or.inr ⟨by omega, by decide⟩⟩
theorem dX6_count_52 : nv_daload qX6_count 52 0 53 := Or.inr ⟨0, rfl, by decide +kernel, rfl⟩
theorem dX6_count_53 : nv_dc qX6_count 53 (.getfield 85) 3 56 := ⟨by decide +kernel, rfl⟩
theorem dX6_count_56 : decode qX6_count.2.1 56 = .ok (.ireturn, 1) := by decide +kernel
theorem dX6_count_57 : nv_daload qX6_count 57 0 58 := Or.inr ⟨0, rfl, by decide +kernel, rfl⟩
theorem dX6_count_58 : nv_dc qX6_count 58 (.getfield 138) 3 61 := ⟨by decide +kernel, rfl⟩
theorem dX6_count_61 : decode qX6_count.2.1 61 = .ok (.ireturn, 1) := by decide +kernel
theorem dX6_count_62 : nv_daload qX6_count 62 0 63 := Or.inr ⟨0, rfl, by decide +kernel, rfl⟩
theorem dX6_count_63 : nv_dc qX6_count 63 (.invokevirtual 399) 3 66 := ⟨by decide +kernel, rfl⟩
theorem dX6_count_66 : decode qX6_count.2.1 66 = .ok (.ireturn, 1) := by decide +kernel
theorem dX6_count_67 : nv_daload qX6_count 67 0 68 := Or.inr ⟨0, rfl, by decide +kernel, rfl⟩
theorem dX6_count_68 : nv_dc qX6_count 68 (.getfield 156) 3 71 := ⟨by decide +kernel, rfl⟩
theorem dX6_count_71 : decode qX6_count.2.1 71 = .ok (.ireturn, 1) := by decide +kernel
theorem dX6_count_72 : nv_daload qX6_count 72 0 73 := Or.inr ⟨0, rfl, by decide +kernel, rfl⟩
theorem dX6_count_73 : nv_dc qX6_count 73 (.getfield 204) 3 76 := ⟨by decide +kernel, rfl⟩
theorem dX6_count_76 : decode qX6_count.2.1 76 = .ok (.ireturn, 1) := by decide +kernel
theorem dX6_count_77 : nv_daload qX6_count 77 0 78 := Or.inr ⟨0, rfl, by decide +kernel, rfl⟩
theorem dX6_count_78 : nv_dc qX6_count 78 (.getfield 39) 3 81 := ⟨by decide +kernel, rfl⟩
theorem dX6_count_81 : nv_dk qX6_count 81 0 82 := Or.inl ⟨0, ⟨by decide +kernel, rfl⟩, by decide⟩
theorem dX6_count_82 : nv_dc qX6_count 82 (.aaload) 1 83 := ⟨by decide +kernel, rfl⟩
theorem dX6_count_83 : nv_dc qX6_count 83 (.getfield 220) 3 86 := ⟨by decide +kernel, rfl⟩
theorem dX6_count_86 : decode qX6_count.2.1 86 = .ok (.ireturn, 1) := by decide +kernel
theorem dX6_count_87 : nv_daload qX6_count 87 0 88 := Or.inr ⟨0, rfl, by decide +kernel, rfl⟩
theorem dX6_count_88 : nv_dc qX6_count 88 (.getfield 39) 3 91 := ⟨by decide +kernel, rfl⟩
theorem dX6_count_91 : nv_dk qX6_count 91 1 92 := Or.inl ⟨1, ⟨by decide +kernel, rfl⟩, by decide⟩
theorem dX6_count_92 : nv_dc qX6_count 92 (.aaload) 1 93 := ⟨by decide +kernel, rfl⟩
theorem dX6_count_93 : nv_dc qX6_count 93 (.getfield 220) 3 96 := ⟨by decide +kernel, rfl⟩
theorem dX6_count_96 : decode qX6_count.2.1 96 = .ok (.ireturn, 1) := by decide +kernel
theorem dX6_count_97 : nv_daload qX6_count 97 0 98 := Or.inr ⟨0, rfl, by decide +kernel, rfl⟩
theorem dX6_count_98 : nv_dc qX6_count 98 (.invokevirtual 402) 3 101 := ⟨by decide +kernel, rfl⟩
theorem dX6_count_101 : decode qX6_count.2.1 101 = .ok (.ireturn, 1) := by decide +kernel
theorem dX6_count_102 : nv_daload qX6_count 102 0 103 := Or.inr ⟨0, rfl, by decide +kernel, rfl⟩
theorem dX6_count_103 : nv_dc qX6_count 103 (.getfield 405) 3 106 := ⟨by decide +kernel, rfl⟩
theorem dX6_count_106 : decode qX6_count.2.1 106 = .ok (.ireturn, 1) := by decide +kernel
theorem dX6_count_107 : nv_dk qX6_count 107 (-2) 109 := Or.inr (Or.inl ⟨(-2), ⟨by decide +kernel, rfl⟩, by decide⟩)
theorem dX6_count_109 : decode qX6_count.2.1 109 = .ok (.ireturn, 1) := by decide +kernel
def fc_count (h : nv_Hp) (x1 : Int32) : Option (Int32) := (if x1 = 0 then some (h 0 7) else (if x1 = 1 then some (h 0 8) else (if x1 = 2 then (Option.bind (fc_allOpen h) fun q4 => some q4) else (if x1 = 3 then some (h 0 9) else (if x1 = 4 then some (h 0 10) else (if x1 = 5 then some (h 59 2) else (if x1 = 6 then some (h 62 2) else (if x1 = 7 then (Option.bind (fc_allPurses h) fun q10 => some q10) else (if x1 = 8 then some (h 0 11) else some (-2))))))))))
set_option maxHeartbeats 2000000 in
theorem tc_count (G : nv_G) (h : nv_Hp) (x1 : Int32) {r : Int32} (hf : (fc_count h x1) = some r) : nv_Mt G 1 qX6_count [.ref 0, .int x1] (nv_s h) (some (.int r), nv_s h) := by
  refine nv_of (by decide +kernel) (fun ad => Nat.le_of_ble_eq_true rfl) (Nat.le_refl _) (Nat.le_of_ble_eq_true rfl) ?_
  show nv_E G 1 qX6_count 0 [some (.ref 0), some (.int x1)] [] (nv_s h) (some (.int r), nv_s h)
  unfold fc_count at hf
  refine nv_iL dX6_count_0 rfl ?_
  by_cases c1 : x1 = 0
  · replace hf := nv_ip c1 hf
    refine nv_switch (tgt := 52) (swX6_count_1_0 _ c1) ?_
    refine nv_aL dX6_count_52 rfl ?_
    refine nv_tI lf_X6_85 dX6_count_53 ko_0 rfl ?_
    obtain rfl := Option.some.inj hf
    exact nv_ireturnI dX6_count_56 rfl
  · replace hf := nv_in c1 hf
    by_cases c2 : x1 = 1
    · replace hf := nv_ip c2 hf
      refine nv_switch (tgt := 57) (swX6_count_1_1 _ c2) ?_
      refine nv_aL dX6_count_57 rfl ?_
      refine nv_tI lf_X6_138 dX6_count_58 ko_0 rfl ?_
      obtain rfl := Option.some.inj hf
      exact nv_ireturnI dX6_count_61 rfl
    · replace hf := nv_in c2 hf
      by_cases c3 : x1 = 2
      · replace hf := nv_ip c3 hf
        refine nv_switch (tgt := 62) (swX6_count_1_2 _ c3) ?_
        refine nv_aL dX6_count_62 rfl ?_
        obtain ⟨q4, hq4, hf⟩ := nv_bd hf
        refine nv_cVi (tc_allOpen G h hq4) dX6_count_63 lm_X6_399 y_qX6_allOpen ko_0 rfl rfl (by decide) rfl (Nat.le_of_ble_eq_true rfl) ?_
        obtain rfl := Option.some.inj hf
        exact nv_ireturnI dX6_count_66 rfl
      · replace hf := nv_in c3 hf
        by_cases c5 : x1 = 3
        · replace hf := nv_ip c5 hf
          refine nv_switch (tgt := 67) (swX6_count_1_3 _ c5) ?_
          refine nv_aL dX6_count_67 rfl ?_
          refine nv_tI lf_X6_156 dX6_count_68 ko_0 rfl ?_
          obtain rfl := Option.some.inj hf
          exact nv_ireturnI dX6_count_71 rfl
        · replace hf := nv_in c5 hf
          by_cases c6 : x1 = 4
          · replace hf := nv_ip c6 hf
            refine nv_switch (tgt := 72) (swX6_count_1_4 _ c6) ?_
            refine nv_aL dX6_count_72 rfl ?_
            refine nv_tI lf_X6_204 dX6_count_73 ko_0 rfl ?_
            obtain rfl := Option.some.inj hf
            exact nv_ireturnI dX6_count_76 rfl
          · replace hf := nv_in c6 hf
            by_cases c7 : x1 = 5
            · replace hf := nv_ip c7 hf
              refine nv_switch (tgt := 77) (swX6_count_1_5 _ c7) ?_
              refine nv_aL dX6_count_77 rfl ?_
              refine nv_tR lf_X6_39 dX6_count_78 ko_0 rfl ?_
              refine nv_k dX6_count_81 ?_
              refine nv_aR (q := 59) dX6_count_82 kr_6 ⟨_, rfl⟩ (by decide) (by decide) ?_
              refine nv_gI lf_X6_220 dX6_count_83 (nv_o3j 0 (by decide)) rfl ?_
              obtain rfl := Option.some.inj hf
              exact nv_ireturnI dX6_count_86 rfl
            · replace hf := nv_in c7 hf
              by_cases c8 : x1 = 6
              · replace hf := nv_ip c8 hf
                refine nv_switch (tgt := 87) (swX6_count_1_6 _ c8) ?_
                refine nv_aL dX6_count_87 rfl ?_
                refine nv_tR lf_X6_39 dX6_count_88 ko_0 rfl ?_
                refine nv_k dX6_count_91 ?_
                refine nv_aR (q := 62) dX6_count_92 kr_6 ⟨_, rfl⟩ (by decide) (by decide) ?_
                refine nv_gI lf_X6_220 dX6_count_93 (nv_o3j 1 (by decide)) rfl ?_
                obtain rfl := Option.some.inj hf
                exact nv_ireturnI dX6_count_96 rfl
              · replace hf := nv_in c8 hf
                by_cases c9 : x1 = 7
                · replace hf := nv_ip c9 hf
                  refine nv_switch (tgt := 97) (swX6_count_1_7 _ c9) ?_
                  refine nv_aL dX6_count_97 rfl ?_
                  obtain ⟨q10, hq10, hf⟩ := nv_bd hf
                  refine nv_cVi (tc_allPurses G h hq10) dX6_count_98 lm_X6_402 y_qX6_allPurses ko_0 rfl rfl (by decide) rfl (Nat.le_of_ble_eq_true rfl) ?_
                  obtain rfl := Option.some.inj hf
                  exact nv_ireturnI dX6_count_101 rfl
                · replace hf := nv_in c9 hf
                  by_cases c11 : x1 = 8
                  · replace hf := nv_ip c11 hf
                    refine nv_switch (tgt := 102) (swX6_count_1_8 _ c11) ?_
                    refine nv_aL dX6_count_102 rfl ?_
                    refine nv_tI lf_X6_405 dX6_count_103 ko_0 rfl ?_
                    obtain rfl := Option.some.inj hf
                    exact nv_ireturnI dX6_count_106 rfl
                  · replace hf := nv_in c11 hf
                    refine nv_switch (tgt := 107) (swX6_count_1_d _ c1 c2 c3 c5 c6 c7 c8 c9 c11) ?_
                    refine nv_k dX6_count_107 ?_
                    obtain rfl := Option.some.inj hf
                    exact nv_ireturnI dX6_count_109 rfl
/-! WhoseName.digestLaw -/
theorem dX6_digestLaw_0 : nv_dc qX6_digestLaw 0 (.ldc2_w 410) 3 3 := ⟨by decide +kernel, rfl⟩
theorem dX6_digestLaw_3 : nv_dlload qX6_digestLaw 3 1 4 := Or.inr ⟨1, rfl, by decide +kernel, rfl⟩
theorem dX6_digestLaw_4 : nv_dc qX6_digestLaw 4 (.lmul) 1 5 := ⟨by decide +kernel, rfl⟩
theorem dX6_digestLaw_5 : nv_daload qX6_digestLaw 5 3 6 := Or.inr ⟨3, rfl, by decide +kernel, rfl⟩
theorem dX6_digestLaw_6 : nv_dc qX6_digestLaw 6 (.getfield 228) 3 9 := ⟨by decide +kernel, rfl⟩
theorem dX6_digestLaw_9 : nv_dc qX6_digestLaw 9 (.i2l) 1 10 := ⟨by decide +kernel, rfl⟩
theorem dX6_digestLaw_10 : nv_dc qX6_digestLaw 10 (.ladd) 1 11 := ⟨by decide +kernel, rfl⟩
theorem dX6_digestLaw_11 : nv_dlstore qX6_digestLaw 11 4 13 := Or.inl ⟨by decide +kernel, rfl⟩
theorem dX6_digestLaw_13 : nv_dk qX6_digestLaw 13 0 14 := Or.inl ⟨0, ⟨by decide +kernel, rfl⟩, by decide⟩
theorem dX6_digestLaw_14 : nv_distore qX6_digestLaw 14 6 16 := Or.inl ⟨by decide +kernel, rfl⟩
theorem dX6_digestLaw_16 : nv_diload qX6_digestLaw 16 6 18 := Or.inl ⟨by decide +kernel, rfl⟩
theorem dX6_digestLaw_18 : nv_dk qX6_digestLaw 18 9 20 := Or.inr (Or.inl ⟨9, ⟨by decide +kernel, rfl⟩, by decide⟩)
theorem dX6_digestLaw_20 : nv_dic qX6_digestLaw 20 .ge 46 23 := ⟨26, by decide +kernel, by decide, rfl⟩
theorem dX6_digestLaw_23 : nv_dc qX6_digestLaw 23 (.ldc2_w 410) 3 26 := ⟨by decide +kernel, rfl⟩
theorem dX6_digestLaw_26 : nv_dlload qX6_digestLaw 26 4 28 := Or.inl ⟨by decide +kernel, rfl⟩
theorem dX6_digestLaw_28 : nv_dc qX6_digestLaw 28 (.lmul) 1 29 := ⟨by decide +kernel, rfl⟩
theorem dX6_digestLaw_29 : nv_daload qX6_digestLaw 29 3 30 := Or.inr ⟨3, rfl, by decide +kernel, rfl⟩
theorem dX6_digestLaw_30 : nv_dc qX6_digestLaw 30 (.getfield 231) 3 33 := ⟨by decide +kernel, rfl⟩
theorem dX6_digestLaw_33 : nv_diload qX6_digestLaw 33 6 35 := Or.inl ⟨by decide +kernel, rfl⟩
theorem dX6_digestLaw_35 : nv_dc qX6_digestLaw 35 (.iaload) 1 36 := ⟨by decide +kernel, rfl⟩
theorem dX6_digestLaw_36 : nv_dc qX6_digestLaw 36 (.i2l) 1 37 := ⟨by decide +kernel, rfl⟩
theorem dX6_digestLaw_37 : nv_dc qX6_digestLaw 37 (.ladd) 1 38 := ⟨by decide +kernel, rfl⟩
theorem dX6_digestLaw_38 : nv_dlstore qX6_digestLaw 38 4 40 := Or.inl ⟨by decide +kernel, rfl⟩
theorem dX6_digestLaw_40 : nv_dc qX6_digestLaw 40 (.iinc 6 1) 3 43 := ⟨by decide +kernel, rfl⟩
theorem dX6_digestLaw_43 : nv_dgo qX6_digestLaw 43 16 := ⟨(-27), by decide +kernel, by decide⟩
theorem dX6_digestLaw_46 : nv_dk qX6_digestLaw 46 0 47 := Or.inl ⟨0, ⟨by decide +kernel, rfl⟩, by decide⟩
theorem dX6_digestLaw_47 : nv_distore qX6_digestLaw 47 6 49 := Or.inl ⟨by decide +kernel, rfl⟩
theorem dX6_digestLaw_49 : nv_diload qX6_digestLaw 49 6 51 := Or.inl ⟨by decide +kernel, rfl⟩
theorem dX6_digestLaw_51 : nv_daload qX6_digestLaw 51 0 52 := Or.inr ⟨0, rfl, by decide +kernel, rfl⟩
theorem dX6_digestLaw_52 : nv_dc qX6_digestLaw 52 (.getfield 156) 3 55 := ⟨by decide +kernel, rfl⟩
theorem dX6_digestLaw_55 : nv_dic qX6_digestLaw 55 .ge 148 58 := ⟨93, by decide +kernel, by decide, rfl⟩
theorem dX6_digestLaw_58 : nv_daload qX6_digestLaw 58 0 59 := Or.inr ⟨0, rfl, by decide +kernel, rfl⟩
theorem dX6_digestLaw_59 : nv_daload qX6_digestLaw 59 3 60 := Or.inr ⟨3, rfl, by decide +kernel, rfl⟩
theorem dX6_digestLaw_60 : nv_dc qX6_digestLaw 60 (.getfield 231) 3 63 := ⟨by decide +kernel, rfl⟩
theorem dX6_digestLaw_63 : nv_daload qX6_digestLaw 63 0 64 := Or.inr ⟨0, rfl, by decide +kernel, rfl⟩
theorem dX6_digestLaw_64 : nv_dc qX6_digestLaw 64 (.getfield 27) 3 67 := ⟨by decide +kernel, rfl⟩
theorem dX6_digestLaw_67 : nv_diload qX6_digestLaw 67 6 69 := Or.inl ⟨by decide +kernel, rfl⟩
theorem dX6_digestLaw_69 : nv_dc qX6_digestLaw 69 (.aaload) 1 70 := ⟨by decide +kernel, rfl⟩
theorem dX6_digestLaw_70 : nv_dk qX6_digestLaw 70 0 71 := Or.inl ⟨0, ⟨by decide +kernel, rfl⟩, by decide⟩
theorem dX6_digestLaw_71 : nv_dc qX6_digestLaw 71 (.invokevirtual 245) 3 74 := ⟨by decide +kernel, rfl⟩
theorem dX6_digestLaw_74 : nv_distore qX6_digestLaw 74 7 76 := Or.inl ⟨by decide +kernel, rfl⟩
theorem dX6_digestLaw_76 : nv_dc qX6_digestLaw 76 (.ldc2_w 410) 3 79 := ⟨by decide +kernel, rfl⟩
theorem dX6_digestLaw_79 : nv_dlload qX6_digestLaw 79 4 81 := Or.inl ⟨by decide +kernel, rfl⟩
theorem dX6_digestLaw_81 : nv_dc qX6_digestLaw 81 (.lmul) 1 82 := ⟨by decide +kernel, rfl⟩
theorem dX6_digestLaw_82 : nv_daload qX6_digestLaw 82 0 83 := Or.inr ⟨0, rfl, by decide +kernel, rfl⟩
theorem dX6_digestLaw_83 : nv_daload qX6_digestLaw 83 3 84 := Or.inr ⟨3, rfl, by decide +kernel, rfl⟩
theorem dX6_digestLaw_84 : nv_dc qX6_digestLaw 84 (.getfield 231) 3 87 := ⟨by decide +kernel, rfl⟩
theorem dX6_digestLaw_87 : nv_daload qX6_digestLaw 87 0 88 := Or.inr ⟨0, rfl, by decide +kernel, rfl⟩
theorem dX6_digestLaw_88 : nv_dc qX6_digestLaw 88 (.getfield 27) 3 91 := ⟨by decide +kernel, rfl⟩
theorem dX6_digestLaw_91 : nv_diload qX6_digestLaw 91 6 93 := Or.inl ⟨by decide +kernel, rfl⟩
theorem dX6_digestLaw_93 : nv_dc qX6_digestLaw 93 (.aaload) 1 94 := ⟨by decide +kernel, rfl⟩
theorem dX6_digestLaw_94 : nv_diload qX6_digestLaw 94 7 96 := Or.inl ⟨by decide +kernel, rfl⟩
theorem dX6_digestLaw_96 : nv_dc qX6_digestLaw 96 (.invokevirtual 296) 3 99 := ⟨by decide +kernel, rfl⟩
theorem dX6_digestLaw_99 : nv_dc qX6_digestLaw 99 (.i2l) 1 100 := ⟨by decide +kernel, rfl⟩
theorem dX6_digestLaw_100 : nv_dc qX6_digestLaw 100 (.ladd) 1 101 := ⟨by decide +kernel, rfl⟩
theorem dX6_digestLaw_101 : nv_dlstore qX6_digestLaw 101 4 103 := Or.inl ⟨by decide +kernel, rfl⟩
theorem dX6_digestLaw_103 : nv_dc qX6_digestLaw 103 (.ldc2_w 410) 3 106 := ⟨by decide +kernel, rfl⟩
theorem dX6_digestLaw_106 : nv_dlload qX6_digestLaw 106 4 108 := Or.inl ⟨by decide +kernel, rfl⟩
theorem dX6_digestLaw_108 : nv_dc qX6_digestLaw 108 (.lmul) 1 109 := ⟨by decide +kernel, rfl⟩
theorem dX6_digestLaw_109 : nv_diload qX6_digestLaw 109 7 111 := Or.inl ⟨by decide +kernel, rfl⟩
theorem dX6_digestLaw_111 : nv_dc qX6_digestLaw 111 (.i2l) 1 112 := ⟨by decide +kernel, rfl⟩
theorem dX6_digestLaw_112 : nv_dc qX6_digestLaw 112 (.ladd) 1 113 := ⟨by decide +kernel, rfl⟩
theorem dX6_digestLaw_113 : nv_dlstore qX6_digestLaw 113 4 115 := Or.inl ⟨by decide +kernel, rfl⟩
theorem dX6_digestLaw_115 : nv_dc qX6_digestLaw 115 (.ldc2_w 410) 3 118 := ⟨by decide +kernel, rfl⟩
theorem dX6_digestLaw_118 : nv_dlload qX6_digestLaw 118 4 120 := Or.inl ⟨by decide +kernel, rfl⟩
theorem dX6_digestLaw_120 : nv_dc qX6_digestLaw 120 (.lmul) 1 121 := ⟨by decide +kernel, rfl⟩
theorem dX6_digestLaw_121 : nv_daload qX6_digestLaw 121 0 122 := Or.inr ⟨0, rfl, by decide +kernel, rfl⟩
theorem dX6_digestLaw_122 : nv_daload qX6_digestLaw 122 3 123 := Or.inr ⟨3, rfl, by decide +kernel, rfl⟩
theorem dX6_digestLaw_123 : nv_dc qX6_digestLaw 123 (.getfield 231) 3 126 := ⟨by decide +kernel, rfl⟩
theorem dX6_digestLaw_126 : nv_daload qX6_digestLaw 126 0 127 := Or.inr ⟨0, rfl, by decide +kernel, rfl⟩
theorem dX6_digestLaw_127 : nv_dc qX6_digestLaw 127 (.getfield 27) 3 130 := ⟨by decide +kernel, rfl⟩
theorem dX6_digestLaw_130 : nv_diload qX6_digestLaw 130 6 132 := Or.inl ⟨by decide +kernel, rfl⟩
theorem dX6_digestLaw_132 : nv_dc qX6_digestLaw 132 (.aaload) 1 133 := ⟨by decide +kernel, rfl⟩
theorem dX6_digestLaw_133 : nv_diload qX6_digestLaw 133 7 135 := Or.inl ⟨by decide +kernel, rfl⟩
theorem dX6_digestLaw_135 : nv_dc qX6_digestLaw 135 (.invokevirtual 303) 3 138 := ⟨by decide +kernel, rfl⟩
theorem dX6_digestLaw_138 : nv_dc qX6_digestLaw 138 (.i2l) 1 139 := ⟨by decide +kernel, rfl⟩
theorem dX6_digestLaw_139 : nv_dc qX6_digestLaw 139 (.ladd) 1 140 := ⟨by decide +kernel, rfl⟩
theorem dX6_digestLaw_140 : nv_dlstore qX6_digestLaw 140 4 142 := Or.inl ⟨by decide +kernel, rfl⟩
theorem dX6_digestLaw_142 : nv_dc qX6_digestLaw 142 (.iinc 6 1) 3 145 := ⟨by decide +kernel, rfl⟩
theorem dX6_digestLaw_145 : nv_dgo qX6_digestLaw 145 49 := ⟨(-96), by decide +kernel, by decide⟩
theorem dX6_digestLaw_148 : nv_dlload qX6_digestLaw 148 4 150 := Or.inl ⟨by decide +kernel, rfl⟩
theorem dX6_digestLaw_150 : decode qX6_digestLaw.2.1 150 = .ok (.lreturn, 1) := by decide +kernel
def fc_digestLaw_49 (h : nv_Hp) (k3 : Nat)  : Nat → Int64 → Int32 → Option (Int64)
  | 0, _, _ => none
  | n + 1, x4, x6 => (if (h 0 9) ≤ x6 then some x4 else (if nv_inb x6 10 = true then (Option.bind (fc_reasonIn h (k3 + 2) (37 + x6.toNatClampNeg) 0) fun q3 => (Option.bind (fc_bitsOfReason h (k3 + 2) (37 + x6.toNatClampNeg) q3) fun q4 => (nv_lt (((31 * x4) + (Int32.toInt64 q4))) fun v5 => (nv_lt (((31 * v5) + (Int32.toInt64 q3))) fun v6 => (Option.bind (fc_owedBy h (k3 + 2) (37 + x6.toNatClampNeg) q3) fun q7 => (nv_lt (((31 * v6) + (Int32.toInt64 q7))) fun v8 => ((fc_digestLaw_49 h k3 n) v8 (x6 + 1)))))))) else none))
set_option maxHeartbeats 2000000 in
theorem tc_digestLaw_49 (G : nv_G) (h : nv_Hp) (k3 : Nat) (hk3 : nv_O 3 k3)  : ∀ (n : Nat) (x4 : Int64) (x6 : Int32) (o1 o2 o7 : Option Value) (r : Int64), fc_digestLaw_49 h k3 n x4 x6 = some r → nv_E G 4 qX6_digestLaw 49 [some (.ref 0), o1, o2, some (.ref k3), some (.long x4), none, some (.int x6), o7] [] (nv_s h) (some (.long r), nv_s h) := by
  intro n
  induction n with
  | zero =>
    intro x4 x6 o1 o2 o7 r hf
    rw [fc_digestLaw_49] at hf
    cases hf
  | succ n ih =>
    intro x4 x6 o1 o2 o7 r hf
    rw [fc_digestLaw_49] at hf
    refine nv_iL dX6_digestLaw_49 rfl ?_
    refine nv_aL dX6_digestLaw_51 rfl ?_
    refine nv_tI lf_X6_156 dX6_digestLaw_52 ko_0 rfl ?_
    refine nv_icge dX6_digestLaw_55 (fun c1 => ?_) (fun c1 => ?_)
    · replace hf := nv_ip c1 hf
      refine nv_lL dX6_digestLaw_148 rfl ?_
      obtain rfl := Option.some.inj hf
      exact nv_lreturn dX6_digestLaw_150 rfl
    · replace hf := nv_in c1 hf
      refine nv_aL dX6_digestLaw_58 rfl ?_
      refine nv_aL dX6_digestLaw_59 rfl ?_
      refine nv_gR (t := (k3 + 2)) lf_X6_231 dX6_digestLaw_60 hk3 rfl ?_
      refine nv_aL dX6_digestLaw_63 rfl ?_
      refine nv_tR lf_X6_27 dX6_digestLaw_64 ko_0 rfl ?_
      refine nv_iL dX6_digestLaw_67 rfl ?_
      obtain ⟨g2, hf⟩ := nv_gd hf
      refine nv_aR dX6_digestLaw_69 kr_4 ⟨_, rfl⟩ g2 (nv_q1 _ _) ?_
      refine nv_k dX6_digestLaw_70 ?_
      obtain ⟨q3, hq3, hf⟩ := nv_bd hf
      refine nv_cVi (tc_reasonIn G h (k3 + 2) (nv_o3w hk3) (37 + x6.toNatClampNeg) (nv_o2 g2) 0 hq3) dX6_digestLaw_71 lm_X6_245 y_qX6_reasonIn ko_0 rfl rfl (by decide) rfl (Nat.le_of_ble_eq_true rfl) ?_
      refine nv_iS dX6_digestLaw_74 (by decide) rfl rfl ?_
      refine nv_ldc2 dX6_digestLaw_76 lc_X6_410 ?_
      refine nv_lL dX6_digestLaw_79 rfl ?_
      refine nv_lmul dX6_digestLaw_81 ?_
      refine nv_aL dX6_digestLaw_82 rfl ?_
      refine nv_aL dX6_digestLaw_83 rfl ?_
      refine nv_gR (t := (k3 + 2)) lf_X6_231 dX6_digestLaw_84 hk3 rfl ?_
      refine nv_aL dX6_digestLaw_87 rfl ?_
      refine nv_tR lf_X6_27 dX6_digestLaw_88 ko_0 rfl ?_
      refine nv_iL dX6_digestLaw_91 rfl ?_
      refine nv_aR dX6_digestLaw_93 kr_4 ⟨_, rfl⟩ g2 (nv_q1 _ _) ?_
      refine nv_iL dX6_digestLaw_94 rfl ?_
      obtain ⟨q4, hq4, hf⟩ := nv_bd hf
      refine nv_cVi (tc_bitsOfReason G h (k3 + 2) (nv_o3w hk3) (37 + x6.toNatClampNeg) (nv_o2 g2) q3 hq4) dX6_digestLaw_96 lm_X6_296 y_qX6_bitsOfReason ko_0 rfl rfl (by decide) rfl (Nat.le_of_ble_eq_true rfl) ?_
      refine nv_i2l dX6_digestLaw_99 ?_
      refine nv_ladd dX6_digestLaw_100 ?_
      obtain ⟨v5, ev5, hf⟩ := nv_ltX hf
      rw [ev5]
      clear ev5
      refine nv_lS dX6_digestLaw_101 (by decide) rfl rfl ?_
      refine nv_ldc2 dX6_digestLaw_103 lc_X6_410 ?_
      refine nv_lL dX6_digestLaw_106 rfl ?_
      refine nv_lmul dX6_digestLaw_108 ?_
      refine nv_iL dX6_digestLaw_109 rfl ?_
      refine nv_i2l dX6_digestLaw_111 ?_
      refine nv_ladd dX6_digestLaw_112 ?_
      obtain ⟨v6, ev6, hf⟩ := nv_ltX hf
      rw [ev6]
      clear ev6
      refine nv_lS dX6_digestLaw_113 (by decide) rfl rfl ?_
      refine nv_ldc2 dX6_digestLaw_115 lc_X6_410 ?_
      refine nv_lL dX6_digestLaw_118 rfl ?_
      refine nv_lmul dX6_digestLaw_120 ?_
      refine nv_aL dX6_digestLaw_121 rfl ?_
      refine nv_aL dX6_digestLaw_122 rfl ?_
      refine nv_gR (t := (k3 + 2)) lf_X6_231 dX6_digestLaw_123 hk3 rfl ?_
      refine nv_aL dX6_digestLaw_126 rfl ?_
      refine nv_tR lf_X6_27 dX6_digestLaw_127 ko_0 rfl ?_
      refine nv_iL dX6_digestLaw_130 rfl ?_
      refine nv_aR dX6_digestLaw_132 kr_4 ⟨_, rfl⟩ g2 (nv_q1 _ _) ?_
      refine nv_iL dX6_digestLaw_133 rfl ?_
      obtain ⟨q7, hq7, hf⟩ := nv_bd hf
      refine nv_cVi (tc_owedBy G h (k3 + 2) (nv_o3w hk3) (37 + x6.toNatClampNeg) (nv_o2 g2) q3 hq7) dX6_digestLaw_135 lm_X6_303 y_qX6_owedBy ko_0 rfl rfl (by decide) rfl (Nat.le_of_ble_eq_true rfl) ?_
      refine nv_i2l dX6_digestLaw_138 ?_
      refine nv_ladd dX6_digestLaw_139 ?_
      obtain ⟨v8, ev8, hf⟩ := nv_ltX hf
      rw [ev8]
      clear ev8
      refine nv_lS dX6_digestLaw_140 (by decide) rfl rfl ?_
      refine nv_inc dX6_digestLaw_142 rfl (v := 1) (by decide) (by decide) rfl rfl ?_
      refine nv_goto dX6_digestLaw_145 ?_
      exact ih _ _ _ _ _ _ hf
def fc_digestLaw_16 (h : nv_Hp) (k3 : Nat)  : Nat → Int64 → Int32 → Option (Int64)
  | 0, _, _ => none
  | n + 1, x4, x6 => (if 9 ≤ x6 then (fc_digestLaw_49 h k3 nv_fu x4 0) else (if nv_inb x6 9 = true then (nv_lt (((31 * x4) + (Int32.toInt64 (h (k3 + 2) x6.toNatClampNeg)))) fun v3 => ((fc_digestLaw_16 h k3 n) v3 (x6 + 1))) else none))
set_option maxHeartbeats 2000000 in
theorem tc_digestLaw_16 (G : nv_G) (h : nv_Hp) (k3 : Nat) (hk3 : nv_O 3 k3)  : ∀ (n : Nat) (x4 : Int64) (x6 : Int32) (o1 o2 o7 : Option Value) (r : Int64), fc_digestLaw_16 h k3 n x4 x6 = some r → nv_E G 4 qX6_digestLaw 16 [some (.ref 0), o1, o2, some (.ref k3), some (.long x4), none, some (.int x6), o7] [] (nv_s h) (some (.long r), nv_s h) := by
  intro n
  induction n with
  | zero =>
    intro x4 x6 o1 o2 o7 r hf
    rw [fc_digestLaw_16] at hf
    cases hf
  | succ n ih =>
    intro x4 x6 o1 o2 o7 r hf
    rw [fc_digestLaw_16] at hf
    refine nv_iL dX6_digestLaw_16 rfl ?_
    refine nv_k dX6_digestLaw_18 ?_
    refine nv_icge dX6_digestLaw_20 (fun c1 => ?_) (fun c1 => ?_)
    · replace hf := nv_ip c1 hf
      refine nv_k dX6_digestLaw_46 ?_
      refine nv_iS dX6_digestLaw_47 (by decide) rfl rfl ?_
      exact tc_digestLaw_49 G _ _ hk3 _ _ _ _ _ _ _ hf
    · replace hf := nv_in c1 hf
      refine nv_ldc2 dX6_digestLaw_23 lc_X6_410 ?_
      refine nv_lL dX6_digestLaw_26 rfl ?_
      refine nv_lmul dX6_digestLaw_28 ?_
      refine nv_aL dX6_digestLaw_29 rfl ?_
      refine nv_gR (t := (k3 + 2)) lf_X6_231 dX6_digestLaw_30 hk3 rfl ?_
      refine nv_iL dX6_digestLaw_33 rfl ?_
      obtain ⟨g2, hf⟩ := nv_gd hf
      refine nv_aI dX6_digestLaw_35 (nv_o3w hk3) g2 rfl ?_
      refine nv_i2l dX6_digestLaw_36 ?_
      refine nv_ladd dX6_digestLaw_37 ?_
      obtain ⟨v3, ev3, hf⟩ := nv_ltX hf
      rw [ev3]
      clear ev3
      refine nv_lS dX6_digestLaw_38 (by decide) rfl rfl ?_
      refine nv_inc dX6_digestLaw_40 rfl (v := 1) (by decide) (by decide) rfl rfl ?_
      refine nv_goto dX6_digestLaw_43 ?_
      exact ih _ _ _ _ _ _ hf
def fc_digestLaw (h : nv_Hp) (x1 : Int64) (k3 : Nat) : Option (Int64) := (nv_lt (((31 * x1) + (Int32.toInt64 (h k3 3)))) fun v1 => (fc_digestLaw_16 h k3 nv_fu v1 0))
set_option maxHeartbeats 2000000 in
theorem tc_digestLaw (G : nv_G) (h : nv_Hp) (x1 : Int64) (k3 : Nat) (hk3 : nv_O 3 k3) {r : Int64} (hf : (fc_digestLaw h x1 k3) = some r) : nv_Mt G 4 qX6_digestLaw [.ref 0, .long x1, .ref k3] (nv_s h) (some (.long r), nv_s h) := by
  refine nv_of (by decide +kernel) (fun ad => Nat.le_of_ble_eq_true rfl) (Nat.le_refl _) (Nat.le_of_ble_eq_true rfl) ?_
  show nv_E G 4 qX6_digestLaw 0 [some (.ref 0), some (.long x1), none, some (.ref k3), none, none, none, none] [] (nv_s h) (some (.long r), nv_s h)
  unfold fc_digestLaw at hf
  refine nv_ldc2 dX6_digestLaw_0 lc_X6_410 ?_
  refine nv_lL dX6_digestLaw_3 rfl ?_
  refine nv_lmul dX6_digestLaw_4 ?_
  refine nv_aL dX6_digestLaw_5 rfl ?_
  refine nv_gI lf_X6_228 dX6_digestLaw_6 hk3 rfl ?_
  refine nv_i2l dX6_digestLaw_9 ?_
  refine nv_ladd dX6_digestLaw_10 ?_
  obtain ⟨v1, ev1, hf⟩ := nv_ltX hf
  rw [ev1]
  clear ev1
  refine nv_lS dX6_digestLaw_11 (by decide) rfl rfl ?_
  refine nv_k dX6_digestLaw_13 ?_
  refine nv_iS dX6_digestLaw_14 (by decide) rfl rfl ?_
  exact tc_digestLaw_16 G _ _ hk3 _ _ _ _ _ _ _ hf
/-! WhoseName.digest -/
theorem dX6_digest_0 : nv_dc qX6_digest 0 (.ldc2_w 408) 3 3 := ⟨by decide +kernel, rfl⟩
theorem dX6_digest_3 : nv_dlstore qX6_digest 3 1 4 := Or.inr ⟨1, rfl, by decide +kernel, rfl⟩
theorem dX6_digest_4 : nv_dk qX6_digest 4 0 5 := Or.inl ⟨0, ⟨by decide +kernel, rfl⟩, by decide⟩
theorem dX6_digest_5 : nv_distore qX6_digest 5 3 6 := Or.inr ⟨3, rfl, by decide +kernel, rfl⟩
theorem dX6_digest_6 : nv_diload qX6_digest 6 3 7 := Or.inr ⟨3, rfl, by decide +kernel, rfl⟩
theorem dX6_digest_7 : nv_dk qX6_digest 7 7 9 := Or.inr (Or.inl ⟨7, ⟨by decide +kernel, rfl⟩, by decide⟩)
theorem dX6_digest_9 : nv_dic qX6_digest 9 .gt 31 12 := ⟨22, by decide +kernel, by decide, rfl⟩
theorem dX6_digest_12 : nv_dc qX6_digest 12 (.ldc2_w 410) 3 15 := ⟨by decide +kernel, rfl⟩
theorem dX6_digest_15 : nv_dlload qX6_digest 15 1 16 := Or.inr ⟨1, rfl, by decide +kernel, rfl⟩
theorem dX6_digest_16 : nv_dc qX6_digest 16 (.lmul) 1 17 := ⟨by decide +kernel, rfl⟩
theorem dX6_digest_17 : nv_daload qX6_digest 17 0 18 := Or.inr ⟨0, rfl, by decide +kernel, rfl⟩
theorem dX6_digest_18 : nv_diload qX6_digest 18 3 19 := Or.inr ⟨3, rfl, by decide +kernel, rfl⟩
theorem dX6_digest_19 : nv_dc qX6_digest 19 (.invokevirtual 412) 3 22 := ⟨by decide +kernel, rfl⟩
theorem dX6_digest_22 : nv_dc qX6_digest 22 (.i2l) 1 23 := ⟨by decide +kernel, rfl⟩
theorem dX6_digest_23 : nv_dc qX6_digest 23 (.ladd) 1 24 := ⟨by decide +kernel, rfl⟩
theorem dX6_digest_24 : nv_dlstore qX6_digest 24 1 25 := Or.inr ⟨1, rfl, by decide +kernel, rfl⟩
theorem dX6_digest_25 : nv_dc qX6_digest 25 (.iinc 3 1) 3 28 := ⟨by decide +kernel, rfl⟩
theorem dX6_digest_28 : nv_dgo qX6_digest 28 6 := ⟨(-22), by decide +kernel, by decide⟩
theorem dX6_digest_31 : nv_dk qX6_digest 31 0 32 := Or.inl ⟨0, ⟨by decide +kernel, rfl⟩, by decide⟩
theorem dX6_digest_32 : nv_distore qX6_digest 32 3 33 := Or.inr ⟨3, rfl, by decide +kernel, rfl⟩
theorem dX6_digest_33 : nv_diload qX6_digest 33 3 34 := Or.inr ⟨3, rfl, by decide +kernel, rfl⟩
theorem dX6_digest_34 : nv_dk qX6_digest 34 2 35 := Or.inl ⟨2, ⟨by decide +kernel, rfl⟩, by decide⟩
theorem dX6_digest_35 : nv_dic qX6_digest 35 .ge 56 38 := ⟨21, by decide +kernel, by decide, rfl⟩
theorem dX6_digest_38 : nv_daload qX6_digest 38 0 39 := Or.inr ⟨0, rfl, by decide +kernel, rfl⟩
theorem dX6_digest_39 : nv_dlload qX6_digest 39 1 40 := Or.inr ⟨1, rfl, by decide +kernel, rfl⟩
theorem dX6_digest_40 : nv_daload qX6_digest 40 0 41 := Or.inr ⟨0, rfl, by decide +kernel, rfl⟩
theorem dX6_digest_41 : nv_dc qX6_digest 41 (.getfield 39) 3 44 := ⟨by decide +kernel, rfl⟩
theorem dX6_digest_44 : nv_diload qX6_digest 44 3 45 := Or.inr ⟨3, rfl, by decide +kernel, rfl⟩
theorem dX6_digest_45 : nv_dc qX6_digest 45 (.aaload) 1 46 := ⟨by decide +kernel, rfl⟩
theorem dX6_digest_46 : nv_dc qX6_digest 46 (.invokevirtual 415) 3 49 := ⟨by decide +kernel, rfl⟩
theorem dX6_digest_49 : nv_dlstore qX6_digest 49 1 50 := Or.inr ⟨1, rfl, by decide +kernel, rfl⟩
theorem dX6_digest_50 : nv_dc qX6_digest 50 (.iinc 3 1) 3 53 := ⟨by decide +kernel, rfl⟩
theorem dX6_digest_53 : nv_dgo qX6_digest 53 33 := ⟨(-20), by decide +kernel, by decide⟩
theorem dX6_digest_56 : nv_daload qX6_digest 56 0 57 := Or.inr ⟨0, rfl, by decide +kernel, rfl⟩
theorem dX6_digest_57 : nv_daload qX6_digest 57 0 58 := Or.inr ⟨0, rfl, by decide +kernel, rfl⟩
theorem dX6_digest_58 : nv_dc qX6_digest 58 (.getfield 39) 3 61 := ⟨by decide +kernel, rfl⟩
theorem dX6_digest_61 : nv_dk qX6_digest 61 0 62 := Or.inl ⟨0, ⟨by decide +kernel, rfl⟩, by decide⟩
theorem dX6_digest_62 : nv_dc qX6_digest 62 (.aaload) 1 63 := ⟨by decide +kernel, rfl⟩
theorem dX6_digest_63 : nv_dc qX6_digest 63 (.getfield 231) 3 66 := ⟨by decide +kernel, rfl⟩
theorem dX6_digest_66 : nv_dc qX6_digest 66 (.invokevirtual 306) 3 69 := ⟨by decide +kernel, rfl⟩
theorem dX6_digest_69 : nv_dk qX6_digest 69 0 70 := Or.inl ⟨0, ⟨by decide +kernel, rfl⟩, by decide⟩
theorem dX6_digest_70 : nv_distore qX6_digest 70 3 71 := Or.inr ⟨3, rfl, by decide +kernel, rfl⟩
theorem dX6_digest_71 : nv_diload qX6_digest 71 3 72 := Or.inr ⟨3, rfl, by decide +kernel, rfl⟩
theorem dX6_digest_72 : nv_dk qX6_digest 72 8 74 := Or.inr (Or.inl ⟨8, ⟨by decide +kernel, rfl⟩, by decide⟩)
theorem dX6_digest_74 : nv_dic qX6_digest 74 .ge 97 77 := ⟨23, by decide +kernel, by decide, rfl⟩
theorem dX6_digest_77 : nv_dc qX6_digest 77 (.ldc2_w 410) 3 80 := ⟨by decide +kernel, rfl⟩
theorem dX6_digest_80 : nv_dlload qX6_digest 80 1 81 := Or.inr ⟨1, rfl, by decide +kernel, rfl⟩
theorem dX6_digest_81 : nv_dc qX6_digest 81 (.lmul) 1 82 := ⟨by decide +kernel, rfl⟩
theorem dX6_digest_82 : nv_daload qX6_digest 82 0 83 := Or.inr ⟨0, rfl, by decide +kernel, rfl⟩
theorem dX6_digest_83 : nv_dc qX6_digest 83 (.getfield 49) 3 86 := ⟨by decide +kernel, rfl⟩
theorem dX6_digest_86 : nv_diload qX6_digest 86 3 87 := Or.inr ⟨3, rfl, by decide +kernel, rfl⟩
theorem dX6_digest_87 : nv_dc qX6_digest 87 (.iaload) 1 88 := ⟨by decide +kernel, rfl⟩
theorem dX6_digest_88 : nv_dc qX6_digest 88 (.i2l) 1 89 := ⟨by decide +kernel, rfl⟩
theorem dX6_digest_89 : nv_dc qX6_digest 89 (.ladd) 1 90 := ⟨by decide +kernel, rfl⟩
theorem dX6_digest_90 : nv_dlstore qX6_digest 90 1 91 := Or.inr ⟨1, rfl, by decide +kernel, rfl⟩
theorem dX6_digest_91 : nv_dc qX6_digest 91 (.iinc 3 1) 3 94 := ⟨by decide +kernel, rfl⟩
theorem dX6_digest_94 : nv_dgo qX6_digest 94 71 := ⟨(-23), by decide +kernel, by decide⟩
theorem dX6_digest_97 : nv_dk qX6_digest 97 0 98 := Or.inl ⟨0, ⟨by decide +kernel, rfl⟩, by decide⟩
theorem dX6_digest_98 : nv_distore qX6_digest 98 3 99 := Or.inr ⟨3, rfl, by decide +kernel, rfl⟩
theorem dX6_digest_99 : nv_diload qX6_digest 99 3 100 := Or.inr ⟨3, rfl, by decide +kernel, rfl⟩
theorem dX6_digest_100 : nv_daload qX6_digest 100 0 101 := Or.inr ⟨0, rfl, by decide +kernel, rfl⟩
theorem dX6_digest_101 : nv_dc qX6_digest 101 (.getfield 156) 3 104 := ⟨by decide +kernel, rfl⟩
theorem dX6_digest_104 : nv_dic qX6_digest 104 .ge 145 107 := ⟨41, by decide +kernel, by decide, rfl⟩
theorem dX6_digest_107 : nv_dc qX6_digest 107 (.ldc2_w 410) 3 110 := ⟨by decide +kernel, rfl⟩
theorem dX6_digest_110 : nv_dlload qX6_digest 110 1 111 := Or.inr ⟨1, rfl, by decide +kernel, rfl⟩
theorem dX6_digest_111 : nv_dc qX6_digest 111 (.lmul) 1 112 := ⟨by decide +kernel, rfl⟩
theorem dX6_digest_112 : nv_daload qX6_digest 112 0 113 := Or.inr ⟨0, rfl, by decide +kernel, rfl⟩
theorem dX6_digest_113 : nv_dc qX6_digest 113 (.getfield 52) 3 116 := ⟨by decide +kernel, rfl⟩
theorem dX6_digest_116 : nv_diload qX6_digest 116 3 117 := Or.inr ⟨3, rfl, by decide +kernel, rfl⟩
theorem dX6_digest_117 : nv_dc qX6_digest 117 (.iaload) 1 118 := ⟨by decide +kernel, rfl⟩
theorem dX6_digest_118 : nv_dc qX6_digest 118 (.i2l) 1 119 := ⟨by decide +kernel, rfl⟩
theorem dX6_digest_119 : nv_dc qX6_digest 119 (.ladd) 1 120 := ⟨by decide +kernel, rfl⟩
theorem dX6_digest_120 : nv_dlstore qX6_digest 120 1 121 := Or.inr ⟨1, rfl, by decide +kernel, rfl⟩
theorem dX6_digest_121 : nv_dc qX6_digest 121 (.ldc2_w 410) 3 124 := ⟨by decide +kernel, rfl⟩
theorem dX6_digest_124 : nv_dlload qX6_digest 124 1 125 := Or.inr ⟨1, rfl, by decide +kernel, rfl⟩
theorem dX6_digest_125 : nv_dc qX6_digest 125 (.lmul) 1 126 := ⟨by decide +kernel, rfl⟩
theorem dX6_digest_126 : nv_daload qX6_digest 126 0 127 := Or.inr ⟨0, rfl, by decide +kernel, rfl⟩
theorem dX6_digest_127 : nv_daload qX6_digest 127 0 128 := Or.inr ⟨0, rfl, by decide +kernel, rfl⟩
theorem dX6_digest_128 : nv_dc qX6_digest 128 (.getfield 27) 3 131 := ⟨by decide +kernel, rfl⟩
theorem dX6_digest_131 : nv_diload qX6_digest 131 3 132 := Or.inr ⟨3, rfl, by decide +kernel, rfl⟩
theorem dX6_digest_132 : nv_dc qX6_digest 132 (.aaload) 1 133 := ⟨by decide +kernel, rfl⟩
theorem dX6_digest_133 : nv_dc qX6_digest 133 (.invokevirtual 343) 3 136 := ⟨by decide +kernel, rfl⟩
theorem dX6_digest_136 : nv_dc qX6_digest 136 (.i2l) 1 137 := ⟨by decide +kernel, rfl⟩
theorem dX6_digest_137 : nv_dc qX6_digest 137 (.ladd) 1 138 := ⟨by decide +kernel, rfl⟩
theorem dX6_digest_138 : nv_dlstore qX6_digest 138 1 139 := Or.inr ⟨1, rfl, by decide +kernel, rfl⟩
theorem dX6_digest_139 : nv_dc qX6_digest 139 (.iinc 3 1) 3 142 := ⟨by decide +kernel, rfl⟩
theorem dX6_digest_142 : nv_dgo qX6_digest 142 99 := ⟨(-43), by decide +kernel, by decide⟩
theorem dX6_digest_145 : nv_dlload qX6_digest 145 1 146 := Or.inr ⟨1, rfl, by decide +kernel, rfl⟩
theorem dX6_digest_146 : decode qX6_digest.2.1 146 = .ok (.lreturn, 1) := by decide +kernel
def fc_digest_99    : Nat → Int64 → Int32 → nv_Hp → Option (Int64 × nv_Hp)
  | 0, _, _, _ => none
  | n + 1, x1, x3, h => (if (h 0 9) ≤ x3 then some (x1, h) else (if nv_inb x3 10 = true then (nv_lt (((31 * x1) + (Int32.toInt64 (h 9 x3.toNatClampNeg)))) fun v3 => (Option.bind (fc_fewestLetters h (37 + x3.toNatClampNeg)) fun q4 => (nv_lt (((31 * v3) + (Int32.toInt64 q4.1))) fun v5 => ((fc_digest_99 n) v5 (x3 + 1) q4.2)))) else none))
set_option maxHeartbeats 2000000 in
theorem tc_digest_99 (G : nv_G)    : ∀ (n : Nat) (x1 : Int64) (x3 : Int32) (h : nv_Hp) (r : Int64 × nv_Hp), fc_digest_99 n x1 x3 h = some r → nv_E G 6 qX6_digest 99 [some (.ref 0), some (.long x1), none, some (.int x3)] [] (nv_s h) (some (.long r.1), nv_s r.2) := by
  intro n
  induction n with
  | zero =>
    intro x1 x3 h r hf
    rw [fc_digest_99] at hf
    cases hf
  | succ n ih =>
    intro x1 x3 h r hf
    rw [fc_digest_99] at hf
    refine nv_iL dX6_digest_99 rfl ?_
    refine nv_aL dX6_digest_100 rfl ?_
    refine nv_tI lf_X6_156 dX6_digest_101 ko_0 rfl ?_
    refine nv_icge dX6_digest_104 (fun c1 => ?_) (fun c1 => ?_)
    · replace hf := nv_ip c1 hf
      refine nv_lL dX6_digest_145 rfl ?_
      obtain rfl := Option.some.inj hf
      exact nv_lreturn dX6_digest_146 rfl
    · replace hf := nv_in c1 hf
      refine nv_ldc2 dX6_digest_107 lc_X6_410 ?_
      refine nv_lL dX6_digest_110 rfl ?_
      refine nv_lmul dX6_digest_111 ?_
      refine nv_aL dX6_digest_112 rfl ?_
      refine nv_tR lf_X6_52 dX6_digest_113 ko_0 rfl ?_
      refine nv_iL dX6_digest_116 rfl ?_
      obtain ⟨g2, hf⟩ := nv_gd hf
      refine nv_aI dX6_digest_117 ka_9 g2 rfl ?_
      refine nv_i2l dX6_digest_118 ?_
      refine nv_ladd dX6_digest_119 ?_
      obtain ⟨v3, ev3, hf⟩ := nv_ltX hf
      rw [ev3]
      clear ev3
      refine nv_lS dX6_digest_120 (by decide) rfl rfl ?_
      refine nv_ldc2 dX6_digest_121 lc_X6_410 ?_
      refine nv_lL dX6_digest_124 rfl ?_
      refine nv_lmul dX6_digest_125 ?_
      refine nv_aL dX6_digest_126 rfl ?_
      refine nv_aL dX6_digest_127 rfl ?_
      refine nv_tR lf_X6_27 dX6_digest_128 ko_0 rfl ?_
      refine nv_iL dX6_digest_131 rfl ?_
      refine nv_aR dX6_digest_132 kr_4 ⟨_, rfl⟩ g2 (nv_q1 _ _) ?_
      obtain ⟨q4, hq4, hf⟩ := nv_bd hf
      refine nv_cVi (tc_fewestLetters G h (37 + x3.toNatClampNeg) (nv_o2 g2) hq4) dX6_digest_133 lm_X6_343 y_qX6_fewestLetters ko_0 rfl rfl (by decide) rfl (Nat.le_of_ble_eq_true rfl) ?_
      refine nv_i2l dX6_digest_136 ?_
      refine nv_ladd dX6_digest_137 ?_
      obtain ⟨v5, ev5, hf⟩ := nv_ltX hf
      rw [ev5]
      clear ev5
      refine nv_lS dX6_digest_138 (by decide) rfl rfl ?_
      refine nv_inc dX6_digest_139 rfl (v := 1) (by decide) (by decide) rfl rfl ?_
      refine nv_goto dX6_digest_142 ?_
      exact ih _ _ _ _ hf
def fc_digest_71 (h : nv_Hp)   : Nat → Int64 → Int32 → Option (Int64 × nv_Hp)
  | 0, _, _ => none
  | n + 1, x1, x3 => (if 8 ≤ x3 then (fc_digest_99 nv_fu x1 0 h) else (if nv_inb x3 8 = true then (nv_lt (((31 * x1) + (Int32.toInt64 (h 8 x3.toNatClampNeg)))) fun v3 => ((fc_digest_71 h n) v3 (x3 + 1))) else none))
set_option maxHeartbeats 2000000 in
theorem tc_digest_71 (G : nv_G) (h : nv_Hp)   : ∀ (n : Nat) (x1 : Int64) (x3 : Int32) (r : Int64 × nv_Hp), fc_digest_71 h n x1 x3 = some r → nv_E G 6 qX6_digest 71 [some (.ref 0), some (.long x1), none, some (.int x3)] [] (nv_s h) (some (.long r.1), nv_s r.2) := by
  intro n
  induction n with
  | zero =>
    intro x1 x3 r hf
    rw [fc_digest_71] at hf
    cases hf
  | succ n ih =>
    intro x1 x3 r hf
    rw [fc_digest_71] at hf
    refine nv_iL dX6_digest_71 rfl ?_
    refine nv_k dX6_digest_72 ?_
    refine nv_icge dX6_digest_74 (fun c1 => ?_) (fun c1 => ?_)
    · replace hf := nv_ip c1 hf
      refine nv_k dX6_digest_97 ?_
      refine nv_iS dX6_digest_98 (by decide) rfl rfl ?_
      exact tc_digest_99 G _ _ _ _ _ hf
    · replace hf := nv_in c1 hf
      refine nv_ldc2 dX6_digest_77 lc_X6_410 ?_
      refine nv_lL dX6_digest_80 rfl ?_
      refine nv_lmul dX6_digest_81 ?_
      refine nv_aL dX6_digest_82 rfl ?_
      refine nv_tR lf_X6_49 dX6_digest_83 ko_0 rfl ?_
      refine nv_iL dX6_digest_86 rfl ?_
      obtain ⟨g2, hf⟩ := nv_gd hf
      refine nv_aI dX6_digest_87 ka_8 g2 rfl ?_
      refine nv_i2l dX6_digest_88 ?_
      refine nv_ladd dX6_digest_89 ?_
      obtain ⟨v3, ev3, hf⟩ := nv_ltX hf
      rw [ev3]
      clear ev3
      refine nv_lS dX6_digest_90 (by decide) rfl rfl ?_
      refine nv_inc dX6_digest_91 rfl (v := 1) (by decide) (by decide) rfl rfl ?_
      refine nv_goto dX6_digest_94 ?_
      exact ih _ _ _ hf
def fc_digest_33 (h : nv_Hp)   : Nat → Int64 → Int32 → Option (Int64 × nv_Hp)
  | 0, _, _ => none
  | n + 1, x1, x3 => (if 2 ≤ x3 then (Option.bind (fc_settle h 61) fun q2 => (fc_digest_71 q2 nv_fu x1 0)) else (if nv_inb x3 2 = true then (Option.bind (fc_digestLaw h x1 (59 + 3 * x3.toNatClampNeg)) fun q4 => ((fc_digest_33 h n) q4 (x3 + 1))) else none))
set_option maxHeartbeats 2000000 in
theorem tc_digest_33 (G : nv_G) (h : nv_Hp)   : ∀ (n : Nat) (x1 : Int64) (x3 : Int32) (r : Int64 × nv_Hp), fc_digest_33 h n x1 x3 = some r → nv_E G 6 qX6_digest 33 [some (.ref 0), some (.long x1), none, some (.int x3)] [] (nv_s h) (some (.long r.1), nv_s r.2) := by
  intro n
  induction n with
  | zero =>
    intro x1 x3 r hf
    rw [fc_digest_33] at hf
    cases hf
  | succ n ih =>
    intro x1 x3 r hf
    rw [fc_digest_33] at hf
    refine nv_iL dX6_digest_33 rfl ?_
    refine nv_k dX6_digest_34 ?_
    refine nv_icge dX6_digest_35 (fun c1 => ?_) (fun c1 => ?_)
    · replace hf := nv_ip c1 hf
      refine nv_aL dX6_digest_56 rfl ?_
      refine nv_aL dX6_digest_57 rfl ?_
      refine nv_tR lf_X6_39 dX6_digest_58 ko_0 rfl ?_
      refine nv_k dX6_digest_61 ?_
      refine nv_aR (q := 59) dX6_digest_62 kr_6 ⟨_, rfl⟩ (by decide) (by decide) ?_
      refine nv_gR (t := 61) lf_X6_231 dX6_digest_63 (nv_o3j 0 (by decide)) rfl ?_
      obtain ⟨q2, hq2, hf⟩ := nv_bd hf
      refine nv_cVv (tc_settle G h 61 (nv_o3w (nv_o3j 0 (by decide))) hq2) dX6_digest_66 lm_X6_306 y_qX6_settle ko_0 rfl rfl (by decide) rfl (Nat.le_of_ble_eq_true rfl) ?_
      refine nv_k dX6_digest_69 ?_
      refine nv_iS dX6_digest_70 (by decide) rfl rfl ?_
      exact tc_digest_71 G _ _ _ _ _ hf
    · replace hf := nv_in c1 hf
      refine nv_aL dX6_digest_38 rfl ?_
      refine nv_lL dX6_digest_39 rfl ?_
      refine nv_aL dX6_digest_40 rfl ?_
      refine nv_tR lf_X6_39 dX6_digest_41 ko_0 rfl ?_
      refine nv_iL dX6_digest_44 rfl ?_
      obtain ⟨g3, hf⟩ := nv_gd hf
      refine nv_aR dX6_digest_45 kr_6 ⟨_, rfl⟩ g3 rfl ?_
      obtain ⟨q4, hq4, hf⟩ := nv_bd hf
      refine nv_cVl (tc_digestLaw G h x1 (59 + 3 * x3.toNatClampNeg) (nv_o3 g3) hq4) dX6_digest_46 lm_X6_415 y_qX6_digestLaw ko_0 rfl rfl (by decide) rfl (Nat.le_of_ble_eq_true rfl) ?_
      refine nv_lS dX6_digest_49 (by decide) rfl rfl ?_
      refine nv_inc dX6_digest_50 rfl (v := 1) (by decide) (by decide) rfl rfl ?_
      refine nv_goto dX6_digest_53 ?_
      exact ih _ _ _ hf
def fc_digest_6 (h : nv_Hp)   : Nat → Int64 → Int32 → Option (Int64 × nv_Hp)
  | 0, _, _ => none
  | n + 1, x1, x3 => (if 7 < x3 then (fc_digest_33 h nv_fu x1 0) else (Option.bind (fc_count h x3) fun q2 => (nv_lt (((31 * x1) + (Int32.toInt64 q2))) fun v3 => ((fc_digest_6 h n) v3 (x3 + 1)))))
set_option maxHeartbeats 2000000 in
theorem tc_digest_6 (G : nv_G) (h : nv_Hp)   : ∀ (n : Nat) (x1 : Int64) (x3 : Int32) (r : Int64 × nv_Hp), fc_digest_6 h n x1 x3 = some r → nv_E G 6 qX6_digest 6 [some (.ref 0), some (.long x1), none, some (.int x3)] [] (nv_s h) (some (.long r.1), nv_s r.2) := by
  intro n
  induction n with
  | zero =>
    intro x1 x3 r hf
    rw [fc_digest_6] at hf
    cases hf
  | succ n ih =>
    intro x1 x3 r hf
    rw [fc_digest_6] at hf
    refine nv_iL dX6_digest_6 rfl ?_
    refine nv_k dX6_digest_7 ?_
    refine nv_icgt dX6_digest_9 (fun c1 => ?_) (fun c1 => ?_)
    · replace hf := nv_ip c1 hf
      refine nv_k dX6_digest_31 ?_
      refine nv_iS dX6_digest_32 (by decide) rfl rfl ?_
      exact tc_digest_33 G _ _ _ _ _ hf
    · replace hf := nv_in c1 hf
      refine nv_ldc2 dX6_digest_12 lc_X6_410 ?_
      refine nv_lL dX6_digest_15 rfl ?_
      refine nv_lmul dX6_digest_16 ?_
      refine nv_aL dX6_digest_17 rfl ?_
      refine nv_iL dX6_digest_18 rfl ?_
      obtain ⟨q2, hq2, hf⟩ := nv_bd hf
      refine nv_cVi (tc_count G h x3 hq2) dX6_digest_19 lm_X6_412 y_qX6_count ko_0 rfl rfl (by decide) rfl (Nat.le_of_ble_eq_true rfl) ?_
      refine nv_i2l dX6_digest_22 ?_
      refine nv_ladd dX6_digest_23 ?_
      obtain ⟨v3, ev3, hf⟩ := nv_ltX hf
      rw [ev3]
      clear ev3
      refine nv_lS dX6_digest_24 (by decide) rfl rfl ?_
      refine nv_inc dX6_digest_25 rfl (v := 1) (by decide) (by decide) rfl rfl ?_
      refine nv_goto dX6_digest_28 ?_
      exact ih _ _ _ hf
def fc_digest (h : nv_Hp)  : Option (Int64 × nv_Hp) := (fc_digest_6 h nv_fu 17 0)
set_option maxHeartbeats 2000000 in
theorem tc_digest (G : nv_G) (h : nv_Hp)  {r : Int64 × nv_Hp} (hf : (fc_digest h) = some r) : nv_Mt G 6 qX6_digest [.ref 0] (nv_s h) (some (.long r.1), nv_s r.2) := by
  refine nv_of (by decide +kernel) (fun ad => Nat.le_of_ble_eq_true rfl) (Nat.le_refl _) (Nat.le_of_ble_eq_true rfl) ?_
  show nv_E G 6 qX6_digest 0 [some (.ref 0), none, none, none] [] (nv_s h) (some (.long r.1), nv_s r.2)
  unfold fc_digest at hf
  refine nv_ldc2 dX6_digest_0 lc_X6_408 ?_
  refine nv_lS dX6_digest_3 (by decide) rfl rfl ?_
  refine nv_k dX6_digest_4 ?_
  refine nv_iS dX6_digest_5 (by decide) rfl rfl ?_
  exact tc_digest_6 G _ _ _ _ _ hf
/-! WhoseNameModel.in -/
theorem dX7_in_0 : nv_dlload qX7_in 0 0 1 := Or.inr ⟨0, rfl, by decide +kernel, rfl⟩
theorem dX7_in_1 : nv_dlload qX7_in 1 2 2 := Or.inr ⟨2, rfl, by decide +kernel, rfl⟩
theorem dX7_in_2 : nv_dc qX7_in 2 (.lcmp) 1 3 := ⟨by decide +kernel, rfl⟩
theorem dX7_in_3 : nv_dif qX7_in 3 .lt 17 6 := ⟨14, by decide +kernel, by decide, rfl⟩
theorem dX7_in_6 : nv_dlload qX7_in 6 0 7 := Or.inr ⟨0, rfl, by decide +kernel, rfl⟩
theorem dX7_in_7 : nv_dlload qX7_in 7 4 9 := Or.inl ⟨by decide +kernel, rfl⟩
theorem dX7_in_9 : nv_dc qX7_in 9 (.lcmp) 1 10 := ⟨by decide +kernel, rfl⟩
theorem dX7_in_10 : nv_dif qX7_in 10 .gt 17 13 := ⟨7, by decide +kernel, by decide, rfl⟩
theorem dX7_in_13 : nv_dk qX7_in 13 1 14 := Or.inl ⟨1, ⟨by decide +kernel, rfl⟩, by decide⟩
theorem dX7_in_14 : nv_dgo qX7_in 14 18 := ⟨4, by decide +kernel, by decide⟩
theorem dX7_in_17 : nv_dk qX7_in 17 0 18 := Or.inl ⟨0, ⟨by decide +kernel, rfl⟩, by decide⟩
theorem dX7_in_18 : decode qX7_in.2.1 18 = .ok (.ireturn, 1) := by decide +kernel
def pm_in (x0 : Int64) (x2 : Int64) (x4 : Int64) : Bool := (if (lg_cmp x0 x2) < 0 then false else (if 0 < (lg_cmp x0 x4) then false else true))
set_option maxHeartbeats 2000000 in
theorem tm_in (G : nv_G) (h : nv_Hp) (x0 : Int64) (x2 : Int64) (x4 : Int64) : nv_Mt G 0 qX7_in [.long x0, .long x2, .long x4] (nv_s h) (some (.int (nv_bi (pm_in x0 x2 x4))), nv_s h) := by
  refine nv_of (by decide +kernel) (fun ad => Nat.le_of_ble_eq_true rfl) (Nat.le_refl _) (Nat.le_of_ble_eq_true rfl) ?_
  show nv_E G 0 qX7_in 0 [some (.long x0), none, some (.long x2), none, some (.long x4), none] [] (nv_s h) (some (.int (nv_bi (pm_in x0 x2 x4))), nv_s h)
  generalize hf : (pm_in x0 x2 x4) = r
  unfold pm_in at hf
  refine nv_lL dX7_in_0 rfl ?_
  refine nv_lL dX7_in_1 rfl ?_
  refine nv_lcmp dX7_in_2 ?_
  refine nv_iflt dX7_in_3 (fun c1 => ?_) (fun c1 => ?_)
  · replace hf := nv_ip c1 hf
    refine nv_k dX7_in_17 ?_
    subst hf
    exact nv_ireturnB (b := false) dX7_in_18 rfl
  · replace hf := nv_in c1 hf
    refine nv_lL dX7_in_6 rfl ?_
    refine nv_lL dX7_in_7 rfl ?_
    refine nv_lcmp dX7_in_9 ?_
    refine nv_ifgt dX7_in_10 (fun c2 => ?_) (fun c2 => ?_)
    · replace hf := nv_ip c2 hf
      refine nv_k dX7_in_17 ?_
      subst hf
      exact nv_ireturnB (b := false) dX7_in_18 rfl
    · replace hf := nv_in c2 hf
      refine nv_k dX7_in_13 ?_
      refine nv_goto dX7_in_14 ?_
      subst hf
      exact nv_ireturnB (b := true) dX7_in_18 rfl
/-! WhoseNameModel.isTwo -/
theorem dX7_isTwo_0 : nv_diload qX7_isTwo 0 0 1 := Or.inr ⟨0, rfl, by decide +kernel, rfl⟩
theorem dX7_isTwo_1 : nv_dc qX7_isTwo 1 (.i2l) 1 2 := ⟨by decide +kernel, rfl⟩
theorem dX7_isTwo_2 : nv_dc qX7_isTwo 2 (.lconst 0) 1 3 := ⟨by decide +kernel, rfl⟩
theorem dX7_isTwo_3 : nv_dc qX7_isTwo 3 (.lconst 1) 1 4 := ⟨by decide +kernel, rfl⟩
theorem dX7_isTwo_4 : nv_dc qX7_isTwo 4 (.invokestatic 127) 3 7 := ⟨by decide +kernel, rfl⟩
theorem dX7_isTwo_7 : decode qX7_isTwo.2.1 7 = .ok (.ireturn, 1) := by decide +kernel
def pm_isTwo (x0 : Int32) : Bool := (pm_in (Int32.toInt64 x0) 0 1)
set_option maxHeartbeats 2000000 in
theorem tm_isTwo (G : nv_G) (h : nv_Hp) (x0 : Int32) : nv_Mt G 1 qX7_isTwo [.int x0] (nv_s h) (some (.int (nv_bi (pm_isTwo x0))), nv_s h) := by
  refine nv_of (by decide +kernel) (fun ad => Nat.le_of_ble_eq_true rfl) (Nat.le_refl _) (Nat.le_of_ble_eq_true rfl) ?_
  show nv_E G 1 qX7_isTwo 0 [some (.int x0)] [] (nv_s h) (some (.int (nv_bi (pm_isTwo x0))), nv_s h)
  generalize hf : (pm_isTwo x0) = r
  unfold pm_isTwo at hf
  refine nv_iL dX7_isTwo_0 rfl ?_
  refine nv_i2l dX7_isTwo_1 ?_
  refine nv_lconst dX7_isTwo_2 (v := 0) (by decide) ?_
  refine nv_lconst dX7_isTwo_3 (v := 1) (by decide) ?_
  refine nv_cSi (tm_in G h (Int32.toInt64 x0) 0 1) dX7_isTwo_4 lm_X7_127 y_qX7_in rfl (by decide) rfl (Nat.le_of_ble_eq_true rfl) ?_
  subst hf
  exact nv_ireturnB (b := (pm_in (Int32.toInt64 x0) 0 1)) dX7_isTwo_7 rfl
/-! WhoseNameModel.met -/
theorem dX7_met_0 : nv_daload qX7_met 0 0 1 := Or.inr ⟨0, rfl, by decide +kernel, rfl⟩
theorem dX7_met_1 : nv_diload qX7_met 1 1 2 := Or.inr ⟨1, rfl, by decide +kernel, rfl⟩
theorem dX7_met_2 : nv_dc qX7_met 2 (.putfield 131) 3 5 := ⟨by decide +kernel, rfl⟩
theorem dX7_met_5 : nv_dk qX7_met 5 (-10) 7 := Or.inr (Or.inl ⟨(-10), ⟨by decide +kernel, rfl⟩, by decide⟩)
theorem dX7_met_7 : nv_diload qX7_met 7 1 8 := Or.inr ⟨1, rfl, by decide +kernel, rfl⟩
theorem dX7_met_8 : nv_dc qX7_met 8 (.isub) 1 9 := ⟨by decide +kernel, rfl⟩
theorem dX7_met_9 : decode qX7_met.2.1 9 = .ok (.ireturn, 1) := by decide +kernel
def pm_met (h : nv_Hp) (x1 : Int32) : Int32 × nv_Hp := (nv_lt (nv_up h 73 4 x1) fun h1 => (((-10) - x1), h1))
set_option maxHeartbeats 2000000 in
theorem tm_met (G : nv_G) (h : nv_Hp) (x1 : Int32) : nv_Mt G 0 qX7_met [.ref 73, .int x1] (nv_s h) (some (.int (pm_met h x1).1), nv_s (pm_met h x1).2) := by
  refine nv_of (by decide +kernel) (fun ad => Nat.le_of_ble_eq_true rfl) (Nat.le_refl _) (Nat.le_of_ble_eq_true rfl) ?_
  show nv_E G 0 qX7_met 0 [some (.ref 73), some (.int x1)] [] (nv_s h) (some (.int (pm_met h x1).1), nv_s (pm_met h x1).2)
  generalize hf : (pm_met h x1) = r
  unfold pm_met at hf
  refine nv_aL dX7_met_0 rfl ?_
  refine nv_iL dX7_met_1 rfl ?_
  refine nv_tP lp_X7_131 dX7_met_2 ko_73 rfl ?_
  obtain ⟨h1, eh1, hf⟩ := nv_ltX hf
  rw [eh1]
  clear eh1
  refine nv_k dX7_met_5 ?_
  refine nv_iL dX7_met_7 rfl ?_
  refine nv_isub dX7_met_8 ?_
  subst hf
  exact nv_ireturnI dX7_met_9 rfl
/-! WhoseNameModel.isSheet -/
theorem dX7_isSheet_0 : nv_diload qX7_isSheet 0 0 1 := Or.inr ⟨0, rfl, by decide +kernel, rfl⟩
theorem dX7_isSheet_1 : nv_dc qX7_isSheet 1 (.i2l) 1 2 := ⟨by decide +kernel, rfl⟩
theorem dX7_isSheet_2 : nv_dc qX7_isSheet 2 (.lconst 0) 1 3 := ⟨by decide +kernel, rfl⟩
theorem dX7_isSheet_3 : nv_dc qX7_isSheet 3 (.ldc2_w 135) 3 6 := ⟨by decide +kernel, rfl⟩
theorem dX7_isSheet_6 : nv_dc qX7_isSheet 6 (.invokestatic 127) 3 9 := ⟨by decide +kernel, rfl⟩
theorem dX7_isSheet_9 : decode qX7_isSheet.2.1 9 = .ok (.ireturn, 1) := by decide +kernel
def pm_isSheet (x0 : Int32) : Bool := (pm_in (Int32.toInt64 x0) 0 3)
set_option maxHeartbeats 2000000 in
theorem tm_isSheet (G : nv_G) (h : nv_Hp) (x0 : Int32) : nv_Mt G 1 qX7_isSheet [.int x0] (nv_s h) (some (.int (nv_bi (pm_isSheet x0))), nv_s h) := by
  refine nv_of (by decide +kernel) (fun ad => Nat.le_of_ble_eq_true rfl) (Nat.le_refl _) (Nat.le_of_ble_eq_true rfl) ?_
  show nv_E G 1 qX7_isSheet 0 [some (.int x0)] [] (nv_s h) (some (.int (nv_bi (pm_isSheet x0))), nv_s h)
  generalize hf : (pm_isSheet x0) = r
  unfold pm_isSheet at hf
  refine nv_iL dX7_isSheet_0 rfl ?_
  refine nv_i2l dX7_isSheet_1 ?_
  refine nv_lconst dX7_isSheet_2 (v := 0) (by decide) ?_
  refine nv_ldc2 dX7_isSheet_3 lc_X7_135 ?_
  refine nv_cSi (tm_in G h (Int32.toInt64 x0) 0 3) dX7_isSheet_6 lm_X7_127 y_qX7_in rfl (by decide) rfl (Nat.le_of_ble_eq_true rfl) ?_
  subst hf
  exact nv_ireturnB (b := (pm_in (Int32.toInt64 x0) 0 3)) dX7_isSheet_9 rfl
/-! WhoseNameModel.sheet -/
theorem dX7_sheet_0 : nv_diload qX7_sheet 0 1 1 := Or.inr ⟨1, rfl, by decide +kernel, rfl⟩
theorem dX7_sheet_1 : nv_dc qX7_sheet 1 (.invokestatic 137) 3 4 := ⟨by decide +kernel, rfl⟩
theorem dX7_sheet_4 : nv_dif qX7_sheet 4 .eq 25 7 := ⟨21, by decide +kernel, by decide, rfl⟩
theorem dX7_sheet_7 : nv_diload qX7_sheet 7 2 8 := Or.inr ⟨2, rfl, by decide +kernel, rfl⟩
theorem dX7_sheet_8 : nv_dc qX7_sheet 8 (.i2l) 1 9 := ⟨by decide +kernel, rfl⟩
theorem dX7_sheet_9 : nv_dc qX7_sheet 9 (.lconst 0) 1 10 := ⟨by decide +kernel, rfl⟩
theorem dX7_sheet_10 : nv_dc qX7_sheet 10 (.ldc2_w 141) 3 13 := ⟨by decide +kernel, rfl⟩
theorem dX7_sheet_13 : nv_dc qX7_sheet 13 (.invokestatic 127) 3 16 := ⟨by decide +kernel, rfl⟩
theorem dX7_sheet_16 : nv_dif qX7_sheet 16 .eq 25 19 := ⟨9, by decide +kernel, by decide, rfl⟩
theorem dX7_sheet_19 : nv_diload qX7_sheet 19 3 20 := Or.inr ⟨3, rfl, by decide +kernel, rfl⟩
theorem dX7_sheet_20 : nv_dk qX7_sheet 20 60 22 := Or.inr (Or.inl ⟨60, ⟨by decide +kernel, rfl⟩, by decide⟩)
theorem dX7_sheet_22 : nv_dic qX7_sheet 22 .le 28 25 := ⟨6, by decide +kernel, by decide, rfl⟩
theorem dX7_sheet_25 : nv_dk qX7_sheet 25 (-2) 27 := Or.inr (Or.inl ⟨(-2), ⟨by decide +kernel, rfl⟩, by decide⟩)
theorem dX7_sheet_27 : decode qX7_sheet.2.1 27 = .ok (.ireturn, 1) := by decide +kernel
theorem dX7_sheet_28 : nv_diload qX7_sheet 28 3 29 := Or.inr ⟨3, rfl, by decide +kernel, rfl⟩
theorem dX7_sheet_29 : nv_dif qX7_sheet 29 .ge 38 32 := ⟨9, by decide +kernel, by decide, rfl⟩
theorem dX7_sheet_32 : nv_daload qX7_sheet 32 0 33 := Or.inr ⟨0, rfl, by decide +kernel, rfl⟩
theorem dX7_sheet_33 : nv_dk qX7_sheet 33 5 34 := Or.inl ⟨5, ⟨by decide +kernel, rfl⟩, by decide⟩
theorem dX7_sheet_34 : nv_dc qX7_sheet 34 (.invokevirtual 143) 3 37 := ⟨by decide +kernel, rfl⟩
theorem dX7_sheet_37 : decode qX7_sheet.2.1 37 = .ok (.ireturn, 1) := by decide +kernel
theorem dX7_sheet_38 : nv_daload qX7_sheet 38 0 39 := Or.inr ⟨0, rfl, by decide +kernel, rfl⟩
theorem dX7_sheet_39 : nv_dc qX7_sheet 39 (.getfield 7) 3 42 := ⟨by decide +kernel, rfl⟩
theorem dX7_sheet_42 : nv_diload qX7_sheet 42 1 43 := Or.inr ⟨1, rfl, by decide +kernel, rfl⟩
theorem dX7_sheet_43 : nv_diload qX7_sheet 43 2 44 := Or.inr ⟨2, rfl, by decide +kernel, rfl⟩
theorem dX7_sheet_44 : nv_dc qX7_sheet 44 (.iastore) 1 45 := ⟨by decide +kernel, rfl⟩
theorem dX7_sheet_45 : nv_daload qX7_sheet 45 0 46 := Or.inr ⟨0, rfl, by decide +kernel, rfl⟩
theorem dX7_sheet_46 : nv_dc qX7_sheet 46 (.getfield 13) 3 49 := ⟨by decide +kernel, rfl⟩
theorem dX7_sheet_49 : nv_diload qX7_sheet 49 1 50 := Or.inr ⟨1, rfl, by decide +kernel, rfl⟩
theorem dX7_sheet_50 : nv_diload qX7_sheet 50 3 51 := Or.inr ⟨3, rfl, by decide +kernel, rfl⟩
theorem dX7_sheet_51 : nv_dc qX7_sheet 51 (.iastore) 1 52 := ⟨by decide +kernel, rfl⟩
theorem dX7_sheet_52 : nv_dk qX7_sheet 52 0 53 := Or.inl ⟨0, ⟨by decide +kernel, rfl⟩, by decide⟩
theorem dX7_sheet_53 : nv_distore qX7_sheet 53 4 55 := Or.inl ⟨by decide +kernel, rfl⟩
theorem dX7_sheet_55 : nv_diload qX7_sheet 55 4 57 := Or.inl ⟨by decide +kernel, rfl⟩
theorem dX7_sheet_57 : nv_diload qX7_sheet 57 3 58 := Or.inr ⟨3, rfl, by decide +kernel, rfl⟩
theorem dX7_sheet_58 : nv_dic qX7_sheet 58 .ge 80 61 := ⟨22, by decide +kernel, by decide, rfl⟩
theorem dX7_sheet_61 : nv_daload qX7_sheet 61 0 62 := Or.inr ⟨0, rfl, by decide +kernel, rfl⟩
theorem dX7_sheet_62 : nv_dc qX7_sheet 62 (.getfield 16) 3 65 := ⟨by decide +kernel, rfl⟩
theorem dX7_sheet_65 : nv_dk qX7_sheet 65 60 67 := Or.inr (Or.inl ⟨60, ⟨by decide +kernel, rfl⟩, by decide⟩)
theorem dX7_sheet_67 : nv_diload qX7_sheet 67 1 68 := Or.inr ⟨1, rfl, by decide +kernel, rfl⟩
theorem dX7_sheet_68 : nv_dc qX7_sheet 68 (.imul) 1 69 := ⟨by decide +kernel, rfl⟩
theorem dX7_sheet_69 : nv_diload qX7_sheet 69 4 71 := Or.inl ⟨by decide +kernel, rfl⟩
theorem dX7_sheet_71 : nv_dc qX7_sheet 71 (.iadd) 1 72 := ⟨by decide +kernel, rfl⟩
theorem dX7_sheet_72 : nv_dk qX7_sheet 72 0 73 := Or.inl ⟨0, ⟨by decide +kernel, rfl⟩, by decide⟩
theorem dX7_sheet_73 : nv_dc qX7_sheet 73 (.iastore) 1 74 := ⟨by decide +kernel, rfl⟩
theorem dX7_sheet_74 : nv_dc qX7_sheet 74 (.iinc 4 1) 3 77 := ⟨by decide +kernel, rfl⟩
theorem dX7_sheet_77 : nv_dgo qX7_sheet 77 55 := ⟨(-22), by decide +kernel, by decide⟩
theorem dX7_sheet_80 : nv_diload qX7_sheet 80 3 81 := Or.inr ⟨3, rfl, by decide +kernel, rfl⟩
theorem dX7_sheet_81 : decode qX7_sheet.2.1 81 = .ok (.ireturn, 1) := by decide +kernel
def pm_sheet_55  (x1 : Int32) (x3 : Int32)  : Nat → Int32 → nv_Hp → Option (Int32 × nv_Hp)
  | 0, _, _ => none
  | n + 1, x4, h => (if x3 ≤ x4 then some (x3, h) else (if nv_inb ((60 * x1) + x4) 240 = true then (nv_lt (nv_up h 76 ((60 * x1) + x4).toNatClampNeg 0) fun h3 => ((pm_sheet_55 x1 x3 n) (x4 + 1) h3)) else none))
set_option maxHeartbeats 2000000 in
theorem tm_sheet_55 (G : nv_G)  (x1 : Int32) (x3 : Int32)  : ∀ (n : Nat) (x4 : Int32) (h : nv_Hp) (o2 : Option Value) (r : Int32 × nv_Hp), pm_sheet_55 x1 x3 n x4 h = some r → nv_E G 2 qX7_sheet 55 [some (.ref 73), some (.int x1), o2, some (.int x3), some (.int x4)] [] (nv_s h) (some (.int r.1), nv_s r.2) := by
  intro n
  induction n with
  | zero =>
    intro x4 h o2 r hf
    rw [pm_sheet_55] at hf
    cases hf
  | succ n ih =>
    intro x4 h o2 r hf
    rw [pm_sheet_55] at hf
    refine nv_iL dX7_sheet_55 rfl ?_
    refine nv_iL dX7_sheet_57 rfl ?_
    refine nv_icge dX7_sheet_58 (fun c1 => ?_) (fun c1 => ?_)
    · replace hf := nv_ip c1 hf
      refine nv_iL dX7_sheet_80 rfl ?_
      obtain rfl := Option.some.inj hf
      exact nv_ireturnI dX7_sheet_81 rfl
    · replace hf := nv_in c1 hf
      refine nv_aL dX7_sheet_61 rfl ?_
      refine nv_tR lf_X7_16 dX7_sheet_62 ko_73 rfl ?_
      refine nv_k dX7_sheet_65 ?_
      refine nv_iL dX7_sheet_67 rfl ?_
      refine nv_imul dX7_sheet_68 ?_
      refine nv_iL dX7_sheet_69 rfl ?_
      refine nv_iadd dX7_sheet_71 ?_
      refine nv_k dX7_sheet_72 ?_
      obtain ⟨g2, hf⟩ := nv_gd hf
      refine nv_aP dX7_sheet_73 ka_76 g2 rfl ?_
      obtain ⟨h3, eh3, hf⟩ := nv_ltX hf
      rw [eh3]
      clear eh3
      refine nv_inc dX7_sheet_74 rfl (v := 1) (by decide) (by decide) rfl rfl ?_
      refine nv_goto dX7_sheet_77 ?_
      exact ih _ _ _ _ hf
def pm_sheet (h : nv_Hp) (x1 : Int32) (x2 : Int32) (x3 : Int32) : Option (Int32 × nv_Hp) := (if (pm_isSheet x1) = true then (if (pm_in (Int32.toInt64 x2) 0 2) = true then (if x3 ≤ 60 then (if 0 ≤ x3 then (if nv_inb x1 4 = true then (nv_lt (nv_up h 74 x1.toNatClampNeg x2) fun h6 => (nv_lt (nv_up h6 75 x1.toNatClampNeg x3) fun h7 => (pm_sheet_55 x1 x3 nv_fu 0 h7))) else none) else (nv_lt (pm_met h 5) fun q8 => some (q8.1, q8.2))) else some ((-2), h)) else some ((-2), h)) else some ((-2), h))
set_option maxHeartbeats 2000000 in
theorem tm_sheet (G : nv_G) (h : nv_Hp) (x1 : Int32) (x2 : Int32) (x3 : Int32) {r : Int32 × nv_Hp} (hf : (pm_sheet h x1 x2 x3) = some r) : nv_Mt G 2 qX7_sheet [.ref 73, .int x1, .int x2, .int x3] (nv_s h) (some (.int r.1), nv_s r.2) := by
  refine nv_of (by decide +kernel) (fun ad => Nat.le_of_ble_eq_true rfl) (Nat.le_refl _) (Nat.le_of_ble_eq_true rfl) ?_
  show nv_E G 2 qX7_sheet 0 [some (.ref 73), some (.int x1), some (.int x2), some (.int x3), none] [] (nv_s h) (some (.int r.1), nv_s r.2)
  unfold pm_sheet at hf
  refine nv_iL dX7_sheet_0 rfl ?_
  refine nv_cSi (tm_isSheet G h x1) dX7_sheet_1 lm_X7_137 y_qX7_isSheet rfl (by decide) rfl (Nat.le_of_ble_eq_true rfl) ?_
  refine nv_ifeqB dX7_sheet_4 (fun c1 => ?_) (fun c1 => ?_)
  · replace hf := nv_ip c1 hf
    refine nv_iL dX7_sheet_7 rfl ?_
    refine nv_i2l dX7_sheet_8 ?_
    refine nv_lconst dX7_sheet_9 (v := 0) (by decide) ?_
    refine nv_ldc2 dX7_sheet_10 lc_X7_141 ?_
    refine nv_cSi (tm_in G h (Int32.toInt64 x2) 0 2) dX7_sheet_13 lm_X7_127 y_qX7_in rfl (by decide) rfl (Nat.le_of_ble_eq_true rfl) ?_
    refine nv_ifeqB dX7_sheet_16 (fun c2 => ?_) (fun c2 => ?_)
    · replace hf := nv_ip c2 hf
      refine nv_iL dX7_sheet_19 rfl ?_
      refine nv_k dX7_sheet_20 ?_
      refine nv_icle dX7_sheet_22 (fun c3 => ?_) (fun c3 => ?_)
      · replace hf := nv_ip c3 hf
        refine nv_iL dX7_sheet_28 rfl ?_
        refine nv_ifge dX7_sheet_29 (fun c4 => ?_) (fun c4 => ?_)
        · replace hf := nv_ip c4 hf
          refine nv_aL dX7_sheet_38 rfl ?_
          refine nv_tR lf_X7_7 dX7_sheet_39 ko_73 rfl ?_
          refine nv_iL dX7_sheet_42 rfl ?_
          refine nv_iL dX7_sheet_43 rfl ?_
          obtain ⟨g5, hf⟩ := nv_gd hf
          refine nv_aP dX7_sheet_44 ka_74 g5 rfl ?_
          obtain ⟨h6, eh6, hf⟩ := nv_ltX hf
          rw [eh6]
          clear eh6
          refine nv_aL dX7_sheet_45 rfl ?_
          refine nv_tR lf_X7_13 dX7_sheet_46 ko_73 rfl ?_
          refine nv_iL dX7_sheet_49 rfl ?_
          refine nv_iL dX7_sheet_50 rfl ?_
          refine nv_aP dX7_sheet_51 ka_75 g5 rfl ?_
          obtain ⟨h7, eh7, hf⟩ := nv_ltX hf
          rw [eh7]
          clear eh7
          refine nv_k dX7_sheet_52 ?_
          refine nv_iS dX7_sheet_53 (by decide) rfl rfl ?_
          exact tm_sheet_55 G _ _ _ _ _ _ _ hf
        · replace hf := nv_in c4 hf
          refine nv_aL dX7_sheet_32 rfl ?_
          refine nv_k dX7_sheet_33 ?_
          refine nv_cVi (tm_met G h 5) dX7_sheet_34 lm_X7_143 y_qX7_met ko_73 rfl rfl (by decide) rfl (Nat.le_of_ble_eq_true rfl) ?_
          obtain ⟨q8, eq8, hf⟩ := nv_ltX hf
          rw [eq8]
          clear eq8
          obtain rfl := Option.some.inj hf
          exact nv_ireturnI dX7_sheet_37 rfl
      · replace hf := nv_in c3 hf
        refine nv_k dX7_sheet_25 ?_
        obtain rfl := Option.some.inj hf
        exact nv_ireturnI dX7_sheet_27 rfl
    · replace hf := nv_in c2 hf
      refine nv_k dX7_sheet_25 ?_
      obtain rfl := Option.some.inj hf
      exact nv_ireturnI dX7_sheet_27 rfl
  · replace hf := nv_in c1 hf
    refine nv_k dX7_sheet_25 ?_
    obtain rfl := Option.some.inj hf
    exact nv_ireturnI dX7_sheet_27 rfl
/-! WhoseNameModel.lose -/
theorem dX7_lose_0 : nv_diload qX7_lose 0 1 1 := Or.inr ⟨1, rfl, by decide +kernel, rfl⟩
theorem dX7_lose_1 : nv_dc qX7_lose 1 (.invokestatic 137) 3 4 := ⟨by decide +kernel, rfl⟩
theorem dX7_lose_4 : nv_dif qX7_lose 4 .ne 10 7 := ⟨6, by decide +kernel, by decide, rfl⟩
theorem dX7_lose_7 : nv_dk qX7_lose 7 (-2) 9 := Or.inr (Or.inl ⟨(-2), ⟨by decide +kernel, rfl⟩, by decide⟩)
theorem dX7_lose_9 : decode qX7_lose.2.1 9 = .ok (.ireturn, 1) := by decide +kernel
theorem dX7_lose_10 : nv_daload qX7_lose 10 0 11 := Or.inr ⟨0, rfl, by decide +kernel, rfl⟩
theorem dX7_lose_11 : nv_dc qX7_lose 11 (.getfield 7) 3 14 := ⟨by decide +kernel, rfl⟩
theorem dX7_lose_14 : nv_diload qX7_lose 14 1 15 := Or.inr ⟨1, rfl, by decide +kernel, rfl⟩
theorem dX7_lose_15 : nv_dc qX7_lose 15 (.iaload) 1 16 := ⟨by decide +kernel, rfl⟩
theorem dX7_lose_16 : nv_dif qX7_lose 16 .ge 25 19 := ⟨9, by decide +kernel, by decide, rfl⟩
theorem dX7_lose_19 : nv_daload qX7_lose 19 0 20 := Or.inr ⟨0, rfl, by decide +kernel, rfl⟩
theorem dX7_lose_20 : nv_dk qX7_lose 20 1 21 := Or.inl ⟨1, ⟨by decide +kernel, rfl⟩, by decide⟩
theorem dX7_lose_21 : nv_dc qX7_lose 21 (.invokevirtual 143) 3 24 := ⟨by decide +kernel, rfl⟩
theorem dX7_lose_24 : decode qX7_lose.2.1 24 = .ok (.ireturn, 1) := by decide +kernel
theorem dX7_lose_25 : nv_daload qX7_lose 25 0 26 := Or.inr ⟨0, rfl, by decide +kernel, rfl⟩
theorem dX7_lose_26 : nv_dc qX7_lose 26 (.getfield 7) 3 29 := ⟨by decide +kernel, rfl⟩
theorem dX7_lose_29 : nv_diload qX7_lose 29 1 30 := Or.inr ⟨1, rfl, by decide +kernel, rfl⟩
theorem dX7_lose_30 : nv_dk qX7_lose 30 (-1) 31 := Or.inl ⟨(-1), ⟨by decide +kernel, rfl⟩, by decide⟩
theorem dX7_lose_31 : nv_dc qX7_lose 31 (.iastore) 1 32 := ⟨by decide +kernel, rfl⟩
theorem dX7_lose_32 : nv_daload qX7_lose 32 0 33 := Or.inr ⟨0, rfl, by decide +kernel, rfl⟩
theorem dX7_lose_33 : nv_dc qX7_lose 33 (.getfield 13) 3 36 := ⟨by decide +kernel, rfl⟩
theorem dX7_lose_36 : nv_diload qX7_lose 36 1 37 := Or.inr ⟨1, rfl, by decide +kernel, rfl⟩
theorem dX7_lose_37 : nv_dc qX7_lose 37 (.iaload) 1 38 := ⟨by decide +kernel, rfl⟩
theorem dX7_lose_38 : decode qX7_lose.2.1 38 = .ok (.ireturn, 1) := by decide +kernel
def pm_lose (h : nv_Hp) (x1 : Int32) : Option (Int32 × nv_Hp) := (if (pm_isSheet x1) = true then (if nv_inb x1 4 = true then (if 0 ≤ (h 74 x1.toNatClampNeg) then (nv_lt (nv_up h 74 x1.toNatClampNeg (-1)) fun h4 => some ((h4 75 x1.toNatClampNeg), h4)) else (nv_lt (pm_met h 1) fun q5 => some (q5.1, q5.2))) else none) else some ((-2), h))
set_option maxHeartbeats 2000000 in
theorem tm_lose (G : nv_G) (h : nv_Hp) (x1 : Int32) {r : Int32 × nv_Hp} (hf : (pm_lose h x1) = some r) : nv_Mt G 2 qX7_lose [.ref 73, .int x1] (nv_s h) (some (.int r.1), nv_s r.2) := by
  refine nv_of (by decide +kernel) (fun ad => Nat.le_of_ble_eq_true rfl) (Nat.le_refl _) (Nat.le_of_ble_eq_true rfl) ?_
  show nv_E G 2 qX7_lose 0 [some (.ref 73), some (.int x1)] [] (nv_s h) (some (.int r.1), nv_s r.2)
  unfold pm_lose at hf
  refine nv_iL dX7_lose_0 rfl ?_
  refine nv_cSi (tm_isSheet G h x1) dX7_lose_1 lm_X7_137 y_qX7_isSheet rfl (by decide) rfl (Nat.le_of_ble_eq_true rfl) ?_
  refine nv_ifneB dX7_lose_4 (fun c1 => ?_) (fun c1 => ?_)
  · replace hf := nv_ip c1 hf
    refine nv_aL dX7_lose_10 rfl ?_
    refine nv_tR lf_X7_7 dX7_lose_11 ko_73 rfl ?_
    refine nv_iL dX7_lose_14 rfl ?_
    obtain ⟨g2, hf⟩ := nv_gd hf
    refine nv_aI dX7_lose_15 ka_74 g2 rfl ?_
    refine nv_ifge dX7_lose_16 (fun c3 => ?_) (fun c3 => ?_)
    · replace hf := nv_ip c3 hf
      refine nv_aL dX7_lose_25 rfl ?_
      refine nv_tR lf_X7_7 dX7_lose_26 ko_73 rfl ?_
      refine nv_iL dX7_lose_29 rfl ?_
      refine nv_k dX7_lose_30 ?_
      refine nv_aP dX7_lose_31 ka_74 g2 rfl ?_
      obtain ⟨h4, eh4, hf⟩ := nv_ltX hf
      rw [eh4]
      clear eh4
      refine nv_aL dX7_lose_32 rfl ?_
      refine nv_tR lf_X7_13 dX7_lose_33 ko_73 rfl ?_
      refine nv_iL dX7_lose_36 rfl ?_
      refine nv_aI dX7_lose_37 ka_75 g2 rfl ?_
      obtain rfl := Option.some.inj hf
      exact nv_ireturnI dX7_lose_38 rfl
    · replace hf := nv_in c3 hf
      refine nv_aL dX7_lose_19 rfl ?_
      refine nv_k dX7_lose_20 ?_
      refine nv_cVi (tm_met G h 1) dX7_lose_21 lm_X7_143 y_qX7_met ko_73 rfl rfl (by decide) rfl (Nat.le_of_ble_eq_true rfl) ?_
      obtain ⟨q5, eq5, hf⟩ := nv_ltX hf
      rw [eq5]
      clear eq5
      obtain rfl := Option.some.inj hf
      exact nv_ireturnI dX7_lose_24 rfl
  · replace hf := nv_in c1 hf
    refine nv_k dX7_lose_7 ?_
    obtain rfl := Option.some.inj hf
    exact nv_ireturnI dX7_lose_9 rfl
/-! WhoseNameModel.lacks -/
theorem dX7_lacks_0 : nv_daload qX7_lacks 0 0 1 := Or.inr ⟨0, rfl, by decide +kernel, rfl⟩
theorem dX7_lacks_1 : nv_dc qX7_lacks 1 (.getfield 7) 3 4 := ⟨by decide +kernel, rfl⟩
theorem dX7_lacks_4 : nv_diload qX7_lacks 4 1 5 := Or.inr ⟨1, rfl, by decide +kernel, rfl⟩
theorem dX7_lacks_5 : nv_dc qX7_lacks 5 (.iaload) 1 6 := ⟨by decide +kernel, rfl⟩
theorem dX7_lacks_6 : nv_dif qX7_lacks 6 .ge 15 9 := ⟨9, by decide +kernel, by decide, rfl⟩
theorem dX7_lacks_9 : nv_daload qX7_lacks 9 0 10 := Or.inr ⟨0, rfl, by decide +kernel, rfl⟩
theorem dX7_lacks_10 : nv_dk qX7_lacks 10 1 11 := Or.inl ⟨1, ⟨by decide +kernel, rfl⟩, by decide⟩
theorem dX7_lacks_11 : nv_dc qX7_lacks 11 (.invokevirtual 143) 3 14 := ⟨by decide +kernel, rfl⟩
theorem dX7_lacks_14 : decode qX7_lacks.2.1 14 = .ok (.ireturn, 1) := by decide +kernel
theorem dX7_lacks_15 : nv_daload qX7_lacks 15 0 16 := Or.inr ⟨0, rfl, by decide +kernel, rfl⟩
theorem dX7_lacks_16 : nv_dc qX7_lacks 16 (.getfield 7) 3 19 := ⟨by decide +kernel, rfl⟩
theorem dX7_lacks_19 : nv_diload qX7_lacks 19 1 20 := Or.inr ⟨1, rfl, by decide +kernel, rfl⟩
theorem dX7_lacks_20 : nv_dc qX7_lacks 20 (.iaload) 1 21 := ⟨by decide +kernel, rfl⟩
theorem dX7_lacks_21 : nv_diload qX7_lacks 21 2 22 := Or.inr ⟨2, rfl, by decide +kernel, rfl⟩
theorem dX7_lacks_22 : nv_dic qX7_lacks 22 .eq 31 25 := ⟨9, by decide +kernel, by decide, rfl⟩
theorem dX7_lacks_25 : nv_daload qX7_lacks 25 0 26 := Or.inr ⟨0, rfl, by decide +kernel, rfl⟩
theorem dX7_lacks_26 : nv_dk qX7_lacks 26 3 27 := Or.inl ⟨3, ⟨by decide +kernel, rfl⟩, by decide⟩
theorem dX7_lacks_27 : nv_dc qX7_lacks 27 (.invokevirtual 143) 3 30 := ⟨by decide +kernel, rfl⟩
theorem dX7_lacks_30 : decode qX7_lacks.2.1 30 = .ok (.ireturn, 1) := by decide +kernel
theorem dX7_lacks_31 : nv_diload qX7_lacks 31 3 32 := Or.inr ⟨3, rfl, by decide +kernel, rfl⟩
theorem dX7_lacks_32 : nv_dc qX7_lacks 32 (.i2l) 1 33 := ⟨by decide +kernel, rfl⟩
theorem dX7_lacks_33 : nv_dc qX7_lacks 33 (.lconst 0) 1 34 := ⟨by decide +kernel, rfl⟩
theorem dX7_lacks_34 : nv_daload qX7_lacks 34 0 35 := Or.inr ⟨0, rfl, by decide +kernel, rfl⟩
theorem dX7_lacks_35 : nv_dc qX7_lacks 35 (.getfield 13) 3 38 := ⟨by decide +kernel, rfl⟩
theorem dX7_lacks_38 : nv_diload qX7_lacks 38 1 39 := Or.inr ⟨1, rfl, by decide +kernel, rfl⟩
theorem dX7_lacks_39 : nv_dc qX7_lacks 39 (.iaload) 1 40 := ⟨by decide +kernel, rfl⟩
theorem dX7_lacks_40 : nv_dk qX7_lacks 40 1 41 := Or.inl ⟨1, ⟨by decide +kernel, rfl⟩, by decide⟩
theorem dX7_lacks_41 : nv_dc qX7_lacks 41 (.isub) 1 42 := ⟨by decide +kernel, rfl⟩
theorem dX7_lacks_42 : nv_dc qX7_lacks 42 (.i2l) 1 43 := ⟨by decide +kernel, rfl⟩
theorem dX7_lacks_43 : nv_dc qX7_lacks 43 (.invokestatic 127) 3 46 := ⟨by decide +kernel, rfl⟩
theorem dX7_lacks_46 : nv_dif qX7_lacks 46 .eq 53 49 := ⟨7, by decide +kernel, by decide, rfl⟩
theorem dX7_lacks_49 : nv_dk qX7_lacks 49 0 50 := Or.inl ⟨0, ⟨by decide +kernel, rfl⟩, by decide⟩
theorem dX7_lacks_50 : nv_dgo qX7_lacks 50 58 := ⟨8, by decide +kernel, by decide⟩
theorem dX7_lacks_53 : nv_daload qX7_lacks 53 0 54 := Or.inr ⟨0, rfl, by decide +kernel, rfl⟩
theorem dX7_lacks_54 : nv_dk qX7_lacks 54 2 55 := Or.inl ⟨2, ⟨by decide +kernel, rfl⟩, by decide⟩
theorem dX7_lacks_55 : nv_dc qX7_lacks 55 (.invokevirtual 143) 3 58 := ⟨by decide +kernel, rfl⟩
theorem dX7_lacks_58 : decode qX7_lacks.2.1 58 = .ok (.ireturn, 1) := by decide +kernel
def pm_lacks (h : nv_Hp) (x1 : Int32) (x2 : Int32) (x3 : Int32) : Int32 × nv_Hp := (if 0 ≤ (h 74 x1.toNatClampNeg) then (if (h 74 x1.toNatClampNeg) = x2 then (if (pm_in (Int32.toInt64 x3) 0 (Int32.toInt64 ((h 75 x1.toNatClampNeg) - 1))) = true then (0, h) else (nv_lt (pm_met h 2) fun q4 => (q4.1, q4.2))) else (nv_lt (pm_met h 3) fun q5 => (q5.1, q5.2))) else (nv_lt (pm_met h 1) fun q6 => (q6.1, q6.2)))
set_option maxHeartbeats 2000000 in
theorem tm_lacks (G : nv_G) (h : nv_Hp) (x1 : Int32) (hx1 : nv_inb x1 4 = true) (x2 : Int32) (x3 : Int32) : nv_Mt G 1 qX7_lacks [.ref 73, .int x1, .int x2, .int x3] (nv_s h) (some (.int (pm_lacks h x1 x2 x3).1), nv_s (pm_lacks h x1 x2 x3).2) := by
  refine nv_of (by decide +kernel) (fun ad => Nat.le_of_ble_eq_true rfl) (Nat.le_refl _) (Nat.le_of_ble_eq_true rfl) ?_
  show nv_E G 1 qX7_lacks 0 [some (.ref 73), some (.int x1), some (.int x2), some (.int x3)] [] (nv_s h) (some (.int (pm_lacks h x1 x2 x3).1), nv_s (pm_lacks h x1 x2 x3).2)
  generalize hf : (pm_lacks h x1 x2 x3) = r
  unfold pm_lacks at hf
  refine nv_aL dX7_lacks_0 rfl ?_
  refine nv_tR lf_X7_7 dX7_lacks_1 ko_73 rfl ?_
  refine nv_iL dX7_lacks_4 rfl ?_
  refine nv_aI dX7_lacks_5 ka_74 hx1 rfl ?_
  refine nv_ifge dX7_lacks_6 (fun c1 => ?_) (fun c1 => ?_)
  · replace hf := nv_ip c1 hf
    refine nv_aL dX7_lacks_15 rfl ?_
    refine nv_tR lf_X7_7 dX7_lacks_16 ko_73 rfl ?_
    refine nv_iL dX7_lacks_19 rfl ?_
    refine nv_aI dX7_lacks_20 ka_74 hx1 rfl ?_
    refine nv_iL dX7_lacks_21 rfl ?_
    refine nv_iceq dX7_lacks_22 (fun c2 => ?_) (fun c2 => ?_)
    · replace hf := nv_ip c2 hf
      refine nv_iL dX7_lacks_31 rfl ?_
      refine nv_i2l dX7_lacks_32 ?_
      refine nv_lconst dX7_lacks_33 (v := 0) (by decide) ?_
      refine nv_aL dX7_lacks_34 rfl ?_
      refine nv_tR lf_X7_13 dX7_lacks_35 ko_73 rfl ?_
      refine nv_iL dX7_lacks_38 rfl ?_
      refine nv_aI dX7_lacks_39 ka_75 hx1 rfl ?_
      refine nv_k dX7_lacks_40 ?_
      refine nv_isub dX7_lacks_41 ?_
      refine nv_i2l dX7_lacks_42 ?_
      refine nv_cSi (tm_in G h (Int32.toInt64 x3) 0 (Int32.toInt64 ((h 75 x1.toNatClampNeg) - 1))) dX7_lacks_43 lm_X7_127 y_qX7_in rfl (by decide) rfl (Nat.le_of_ble_eq_true rfl) ?_
      refine nv_ifeqB dX7_lacks_46 (fun c3 => ?_) (fun c3 => ?_)
      · replace hf := nv_ip c3 hf
        refine nv_k dX7_lacks_49 ?_
        refine nv_goto dX7_lacks_50 ?_
        subst hf
        exact nv_ireturnI dX7_lacks_58 rfl
      · replace hf := nv_in c3 hf
        refine nv_aL dX7_lacks_53 rfl ?_
        refine nv_k dX7_lacks_54 ?_
        refine nv_cVi (tm_met G h 2) dX7_lacks_55 lm_X7_143 y_qX7_met ko_73 rfl rfl (by decide) rfl (Nat.le_of_ble_eq_true rfl) ?_
        obtain ⟨q4, eq4, hf⟩ := nv_ltX hf
        rw [eq4]
        clear eq4
        subst hf
        exact nv_ireturnI dX7_lacks_58 rfl
    · replace hf := nv_in c2 hf
      refine nv_aL dX7_lacks_25 rfl ?_
      refine nv_k dX7_lacks_26 ?_
      refine nv_cVi (tm_met G h 3) dX7_lacks_27 lm_X7_143 y_qX7_met ko_73 rfl rfl (by decide) rfl (Nat.le_of_ble_eq_true rfl) ?_
      obtain ⟨q5, eq5, hf⟩ := nv_ltX hf
      rw [eq5]
      clear eq5
      subst hf
      exact nv_ireturnI dX7_lacks_30 rfl
  · replace hf := nv_in c1 hf
    refine nv_aL dX7_lacks_9 rfl ?_
    refine nv_k dX7_lacks_10 ?_
    refine nv_cVi (tm_met G h 1) dX7_lacks_11 lm_X7_143 y_qX7_met ko_73 rfl rfl (by decide) rfl (Nat.le_of_ble_eq_true rfl) ?_
    obtain ⟨q6, eq6, hf⟩ := nv_ltX hf
    rw [eq6]
    clear eq6
    subst hf
    exact nv_ireturnI dX7_lacks_14 rfl
/-! WhoseNameModel.cut -/
theorem dX7_cut_0 : nv_diload qX7_cut 0 0 1 := Or.inr ⟨0, rfl, by decide +kernel, rfl⟩
theorem dX7_cut_1 : nv_dif qX7_cut 1 .ne 9 4 := ⟨8, by decide +kernel, by decide, rfl⟩
theorem dX7_cut_4 : nv_diload qX7_cut 4 1 5 := Or.inr ⟨1, rfl, by decide +kernel, rfl⟩
theorem dX7_cut_5 : nv_dc qX7_cut 5 (.i2b) 1 6 := ⟨by decide +kernel, rfl⟩
theorem dX7_cut_6 : nv_dgo qX7_cut 6 20 := ⟨14, by decide +kernel, by decide⟩
theorem dX7_cut_9 : nv_diload qX7_cut 9 0 10 := Or.inr ⟨0, rfl, by decide +kernel, rfl⟩
theorem dX7_cut_10 : nv_dk qX7_cut 10 1 11 := Or.inl ⟨1, ⟨by decide +kernel, rfl⟩, by decide⟩
theorem dX7_cut_11 : nv_dic qX7_cut 11 .ne 19 14 := ⟨8, by decide +kernel, by decide, rfl⟩
theorem dX7_cut_14 : nv_diload qX7_cut 14 1 15 := Or.inr ⟨1, rfl, by decide +kernel, rfl⟩
theorem dX7_cut_15 : nv_dc qX7_cut 15 (.i2s) 1 16 := ⟨by decide +kernel, rfl⟩
theorem dX7_cut_16 : nv_dgo qX7_cut 16 20 := ⟨4, by decide +kernel, by decide⟩
theorem dX7_cut_19 : nv_diload qX7_cut 19 1 20 := Or.inr ⟨1, rfl, by decide +kernel, rfl⟩
theorem dX7_cut_20 : decode qX7_cut.2.1 20 = .ok (.ireturn, 1) := by decide +kernel
def pm_cut (x0 : Int32) (x1 : Int32) : Int32 := (if x0 = 0 then (Int8.toInt32 (Int32.toInt8 x1)) else (if x0 = 1 then (Int16.toInt32 (Int32.toInt16 x1)) else x1))
set_option maxHeartbeats 2000000 in
theorem tm_cut (G : nv_G) (h : nv_Hp) (x0 : Int32) (x1 : Int32) : nv_Mt G 0 qX7_cut [.int x0, .int x1] (nv_s h) (some (.int (pm_cut x0 x1)), nv_s h) := by
  refine nv_of (by decide +kernel) (fun ad => Nat.le_of_ble_eq_true rfl) (Nat.le_refl _) (Nat.le_of_ble_eq_true rfl) ?_
  show nv_E G 0 qX7_cut 0 [some (.int x0), some (.int x1)] [] (nv_s h) (some (.int (pm_cut x0 x1)), nv_s h)
  generalize hf : (pm_cut x0 x1) = r
  unfold pm_cut at hf
  refine nv_iL dX7_cut_0 rfl ?_
  refine nv_ifne dX7_cut_1 (fun c1 => ?_) (fun c1 => ?_)
  · replace hf := nv_ip c1 hf
    refine nv_iL dX7_cut_4 rfl ?_
    refine nv_i2b dX7_cut_5 ?_
    refine nv_goto dX7_cut_6 ?_
    subst hf
    exact nv_ireturnI dX7_cut_20 rfl
  · replace hf := nv_in c1 hf
    refine nv_iL dX7_cut_9 rfl ?_
    refine nv_k dX7_cut_10 ?_
    refine nv_icne dX7_cut_11 (fun c2 => ?_) (fun c2 => ?_)
    · replace hf := nv_ip c2 hf
      refine nv_iL dX7_cut_14 rfl ?_
      refine nv_i2s dX7_cut_15 ?_
      refine nv_goto dX7_cut_16 ?_
      subst hf
      exact nv_ireturnI dX7_cut_20 rfl
    · replace hf := nv_in c2 hf
      refine nv_iL dX7_cut_19 rfl ?_
      subst hf
      exact nv_ireturnI dX7_cut_20 rfl
/-! WhoseNameModel.lay -/
theorem dX7_lay_0 : nv_diload qX7_lay 0 1 1 := Or.inr ⟨1, rfl, by decide +kernel, rfl⟩
theorem dX7_lay_1 : nv_dc qX7_lay 1 (.invokestatic 137) 3 4 := ⟨by decide +kernel, rfl⟩
theorem dX7_lay_4 : nv_dif qX7_lay 4 .eq 19 7 := ⟨15, by decide +kernel, by decide, rfl⟩
theorem dX7_lay_7 : nv_diload qX7_lay 7 2 8 := Or.inr ⟨2, rfl, by decide +kernel, rfl⟩
theorem dX7_lay_8 : nv_dc qX7_lay 8 (.i2l) 1 9 := ⟨by decide +kernel, rfl⟩
theorem dX7_lay_9 : nv_dc qX7_lay 9 (.lconst 0) 1 10 := ⟨by decide +kernel, rfl⟩
theorem dX7_lay_10 : nv_dc qX7_lay 10 (.ldc2_w 141) 3 13 := ⟨by decide +kernel, rfl⟩
theorem dX7_lay_13 : nv_dc qX7_lay 13 (.invokestatic 127) 3 16 := ⟨by decide +kernel, rfl⟩
theorem dX7_lay_16 : nv_dif qX7_lay 16 .ne 22 19 := ⟨6, by decide +kernel, by decide, rfl⟩
theorem dX7_lay_19 : nv_dk qX7_lay 19 (-2) 21 := Or.inr (Or.inl ⟨(-2), ⟨by decide +kernel, rfl⟩, by decide⟩)
theorem dX7_lay_21 : decode qX7_lay.2.1 21 = .ok (.ireturn, 1) := by decide +kernel
theorem dX7_lay_22 : nv_daload qX7_lay 22 0 23 := Or.inr ⟨0, rfl, by decide +kernel, rfl⟩
theorem dX7_lay_23 : nv_diload qX7_lay 23 1 24 := Or.inr ⟨1, rfl, by decide +kernel, rfl⟩
theorem dX7_lay_24 : nv_diload qX7_lay 24 2 25 := Or.inr ⟨2, rfl, by decide +kernel, rfl⟩
theorem dX7_lay_25 : nv_diload qX7_lay 25 3 26 := Or.inr ⟨3, rfl, by decide +kernel, rfl⟩
theorem dX7_lay_26 : nv_dc qX7_lay 26 (.invokevirtual 147) 3 29 := ⟨by decide +kernel, rfl⟩
theorem dX7_lay_29 : nv_distore qX7_lay 29 5 31 := Or.inl ⟨by decide +kernel, rfl⟩
theorem dX7_lay_31 : nv_diload qX7_lay 31 5 33 := Or.inl ⟨by decide +kernel, rfl⟩
theorem dX7_lay_33 : nv_dif qX7_lay 33 .eq 39 36 := ⟨6, by decide +kernel, by decide, rfl⟩
theorem dX7_lay_36 : nv_diload qX7_lay 36 5 38 := Or.inl ⟨by decide +kernel, rfl⟩
theorem dX7_lay_38 : decode qX7_lay.2.1 38 = .ok (.ireturn, 1) := by decide +kernel
theorem dX7_lay_39 : nv_daload qX7_lay 39 0 40 := Or.inr ⟨0, rfl, by decide +kernel, rfl⟩
theorem dX7_lay_40 : nv_dc qX7_lay 40 (.getfield 16) 3 43 := ⟨by decide +kernel, rfl⟩
theorem dX7_lay_43 : nv_dk qX7_lay 43 60 45 := Or.inr (Or.inl ⟨60, ⟨by decide +kernel, rfl⟩, by decide⟩)
theorem dX7_lay_45 : nv_diload qX7_lay 45 1 46 := Or.inr ⟨1, rfl, by decide +kernel, rfl⟩
theorem dX7_lay_46 : nv_dc qX7_lay 46 (.imul) 1 47 := ⟨by decide +kernel, rfl⟩
theorem dX7_lay_47 : nv_diload qX7_lay 47 3 48 := Or.inr ⟨3, rfl, by decide +kernel, rfl⟩
theorem dX7_lay_48 : nv_dc qX7_lay 48 (.iadd) 1 49 := ⟨by decide +kernel, rfl⟩
theorem dX7_lay_49 : nv_diload qX7_lay 49 2 50 := Or.inr ⟨2, rfl, by decide +kernel, rfl⟩
theorem dX7_lay_50 : nv_diload qX7_lay 50 4 52 := Or.inl ⟨by decide +kernel, rfl⟩
theorem dX7_lay_52 : nv_dc qX7_lay 52 (.invokestatic 151) 3 55 := ⟨by decide +kernel, rfl⟩
theorem dX7_lay_55 : nv_dc qX7_lay 55 (.iastore) 1 56 := ⟨by decide +kernel, rfl⟩
theorem dX7_lay_56 : nv_dk qX7_lay 56 1 57 := Or.inl ⟨1, ⟨by decide +kernel, rfl⟩, by decide⟩
theorem dX7_lay_57 : decode qX7_lay.2.1 57 = .ok (.ireturn, 1) := by decide +kernel
def pm_lay (h : nv_Hp) (x1 : Int32) (x2 : Int32) (x3 : Int32) (x4 : Int32) : Option (Int32 × nv_Hp) := (if (pm_isSheet x1) = true then (if (pm_in (Int32.toInt64 x2) 0 2) = true then (if nv_inb x1 4 = true then (nv_lt (pm_lacks h x1 x2 x3) fun q4 => (if q4.1 = 0 then (if nv_inb ((60 * x1) + x3) 240 = true then (nv_lt (nv_up q4.2 76 ((60 * x1) + x3).toNatClampNeg (pm_cut x2 x4)) fun h7 => some (1, h7)) else none) else some (q4.1, q4.2))) else none) else some ((-2), h)) else some ((-2), h))
set_option maxHeartbeats 2000000 in
theorem tm_lay (G : nv_G) (h : nv_Hp) (x1 : Int32) (x2 : Int32) (x3 : Int32) (x4 : Int32) {r : Int32 × nv_Hp} (hf : (pm_lay h x1 x2 x3 x4) = some r) : nv_Mt G 2 qX7_lay [.ref 73, .int x1, .int x2, .int x3, .int x4] (nv_s h) (some (.int r.1), nv_s r.2) := by
  refine nv_of (by decide +kernel) (fun ad => Nat.le_of_ble_eq_true rfl) (Nat.le_refl _) (Nat.le_of_ble_eq_true rfl) ?_
  show nv_E G 2 qX7_lay 0 [some (.ref 73), some (.int x1), some (.int x2), some (.int x3), some (.int x4), none] [] (nv_s h) (some (.int r.1), nv_s r.2)
  unfold pm_lay at hf
  refine nv_iL dX7_lay_0 rfl ?_
  refine nv_cSi (tm_isSheet G h x1) dX7_lay_1 lm_X7_137 y_qX7_isSheet rfl (by decide) rfl (Nat.le_of_ble_eq_true rfl) ?_
  refine nv_ifeqB dX7_lay_4 (fun c1 => ?_) (fun c1 => ?_)
  · replace hf := nv_ip c1 hf
    refine nv_iL dX7_lay_7 rfl ?_
    refine nv_i2l dX7_lay_8 ?_
    refine nv_lconst dX7_lay_9 (v := 0) (by decide) ?_
    refine nv_ldc2 dX7_lay_10 lc_X7_141 ?_
    refine nv_cSi (tm_in G h (Int32.toInt64 x2) 0 2) dX7_lay_13 lm_X7_127 y_qX7_in rfl (by decide) rfl (Nat.le_of_ble_eq_true rfl) ?_
    refine nv_ifneB dX7_lay_16 (fun c2 => ?_) (fun c2 => ?_)
    · replace hf := nv_ip c2 hf
      refine nv_aL dX7_lay_22 rfl ?_
      refine nv_iL dX7_lay_23 rfl ?_
      refine nv_iL dX7_lay_24 rfl ?_
      refine nv_iL dX7_lay_25 rfl ?_
      obtain ⟨g3, hf⟩ := nv_gd hf
      refine nv_cVi (tm_lacks G h x1 g3 x2 x3) dX7_lay_26 lm_X7_147 y_qX7_lacks ko_73 rfl rfl (by decide) rfl (Nat.le_of_ble_eq_true rfl) ?_
      obtain ⟨q4, eq4, hf⟩ := nv_ltX hf
      rw [eq4]
      clear eq4
      refine nv_iS dX7_lay_29 (by decide) rfl rfl ?_
      refine nv_iL dX7_lay_31 rfl ?_
      refine nv_ifeq dX7_lay_33 (fun c5 => ?_) (fun c5 => ?_)
      · replace hf := nv_ip c5 hf
        refine nv_aL dX7_lay_39 rfl ?_
        refine nv_tR lf_X7_16 dX7_lay_40 ko_73 rfl ?_
        refine nv_k dX7_lay_43 ?_
        refine nv_iL dX7_lay_45 rfl ?_
        refine nv_imul dX7_lay_46 ?_
        refine nv_iL dX7_lay_47 rfl ?_
        refine nv_iadd dX7_lay_48 ?_
        refine nv_iL dX7_lay_49 rfl ?_
        refine nv_iL dX7_lay_50 rfl ?_
        refine nv_cSi (tm_cut G q4.2 x2 x4) dX7_lay_52 lm_X7_151 y_qX7_cut rfl (by decide) rfl (Nat.le_of_ble_eq_true rfl) ?_
        obtain ⟨g6, hf⟩ := nv_gd hf
        refine nv_aP dX7_lay_55 ka_76 g6 rfl ?_
        obtain ⟨h7, eh7, hf⟩ := nv_ltX hf
        rw [eh7]
        clear eh7
        refine nv_k dX7_lay_56 ?_
        obtain rfl := Option.some.inj hf
        exact nv_ireturnI dX7_lay_57 rfl
      · replace hf := nv_in c5 hf
        refine nv_iL dX7_lay_36 rfl ?_
        obtain rfl := Option.some.inj hf
        exact nv_ireturnI dX7_lay_38 rfl
    · replace hf := nv_in c2 hf
      refine nv_k dX7_lay_19 ?_
      obtain rfl := Option.some.inj hf
      exact nv_ireturnI dX7_lay_21 rfl
  · replace hf := nv_in c1 hf
    refine nv_k dX7_lay_19 ?_
    obtain rfl := Option.some.inj hf
    exact nv_ireturnI dX7_lay_21 rfl
/-! WhoseNameModel.get -/
theorem dX7_get_0 : nv_diload qX7_get 0 1 1 := Or.inr ⟨1, rfl, by decide +kernel, rfl⟩
theorem dX7_get_1 : nv_dc qX7_get 1 (.invokestatic 137) 3 4 := ⟨by decide +kernel, rfl⟩
theorem dX7_get_4 : nv_dif qX7_get 4 .eq 29 7 := ⟨25, by decide +kernel, by decide, rfl⟩
theorem dX7_get_7 : nv_diload qX7_get 7 2 8 := Or.inr ⟨2, rfl, by decide +kernel, rfl⟩
theorem dX7_get_8 : nv_dc qX7_get 8 (.i2l) 1 9 := ⟨by decide +kernel, rfl⟩
theorem dX7_get_9 : nv_dc qX7_get 9 (.lconst 0) 1 10 := ⟨by decide +kernel, rfl⟩
theorem dX7_get_10 : nv_dc qX7_get 10 (.ldc2_w 141) 3 13 := ⟨by decide +kernel, rfl⟩
theorem dX7_get_13 : nv_dc qX7_get 13 (.invokestatic 127) 3 16 := ⟨by decide +kernel, rfl⟩
theorem dX7_get_16 : nv_dif qX7_get 16 .eq 29 19 := ⟨13, by decide +kernel, by decide, rfl⟩
theorem dX7_get_19 : nv_daload qX7_get 19 0 20 := Or.inr ⟨0, rfl, by decide +kernel, rfl⟩
theorem dX7_get_20 : nv_diload qX7_get 20 1 21 := Or.inr ⟨1, rfl, by decide +kernel, rfl⟩
theorem dX7_get_21 : nv_diload qX7_get 21 2 22 := Or.inr ⟨2, rfl, by decide +kernel, rfl⟩
theorem dX7_get_22 : nv_diload qX7_get 22 3 23 := Or.inr ⟨3, rfl, by decide +kernel, rfl⟩
theorem dX7_get_23 : nv_dc qX7_get 23 (.invokevirtual 147) 3 26 := ⟨by decide +kernel, rfl⟩
theorem dX7_get_26 : nv_dif qX7_get 26 .eq 32 29 := ⟨6, by decide +kernel, by decide, rfl⟩
theorem dX7_get_29 : nv_dc qX7_get 29 (.ldc 155) 2 31 := ⟨by decide +kernel, rfl⟩
theorem dX7_get_31 : decode qX7_get.2.1 31 = .ok (.ireturn, 1) := by decide +kernel
theorem dX7_get_32 : nv_daload qX7_get 32 0 33 := Or.inr ⟨0, rfl, by decide +kernel, rfl⟩
theorem dX7_get_33 : nv_dc qX7_get 33 (.getfield 16) 3 36 := ⟨by decide +kernel, rfl⟩
theorem dX7_get_36 : nv_dk qX7_get 36 60 38 := Or.inr (Or.inl ⟨60, ⟨by decide +kernel, rfl⟩, by decide⟩)
theorem dX7_get_38 : nv_diload qX7_get 38 1 39 := Or.inr ⟨1, rfl, by decide +kernel, rfl⟩
theorem dX7_get_39 : nv_dc qX7_get 39 (.imul) 1 40 := ⟨by decide +kernel, rfl⟩
theorem dX7_get_40 : nv_diload qX7_get 40 3 41 := Or.inr ⟨3, rfl, by decide +kernel, rfl⟩
theorem dX7_get_41 : nv_dc qX7_get 41 (.iadd) 1 42 := ⟨by decide +kernel, rfl⟩
theorem dX7_get_42 : nv_dc qX7_get 42 (.iaload) 1 43 := ⟨by decide +kernel, rfl⟩
theorem dX7_get_43 : decode qX7_get.2.1 43 = .ok (.ireturn, 1) := by decide +kernel
def pm_get (h : nv_Hp) (x1 : Int32) (x2 : Int32) (x3 : Int32) : Option (Int32 × nv_Hp) := (if (pm_isSheet x1) = true then (if (pm_in (Int32.toInt64 x2) 0 2) = true then (if nv_inb x1 4 = true then (nv_lt (pm_lacks h x1 x2 x3) fun q4 => (if q4.1 = 0 then (if nv_inb ((60 * x1) + x3) 240 = true then some ((q4.2 76 ((60 * x1) + x3).toNatClampNeg), q4.2) else none) else some ((-2147483648), q4.2))) else none) else some ((-2147483648), h)) else some ((-2147483648), h))
set_option maxHeartbeats 2000000 in
theorem tm_get (G : nv_G) (h : nv_Hp) (x1 : Int32) (x2 : Int32) (x3 : Int32) {r : Int32 × nv_Hp} (hf : (pm_get h x1 x2 x3) = some r) : nv_Mt G 2 qX7_get [.ref 73, .int x1, .int x2, .int x3] (nv_s h) (some (.int r.1), nv_s r.2) := by
  refine nv_of (by decide +kernel) (fun ad => Nat.le_of_ble_eq_true rfl) (Nat.le_refl _) (Nat.le_of_ble_eq_true rfl) ?_
  show nv_E G 2 qX7_get 0 [some (.ref 73), some (.int x1), some (.int x2), some (.int x3)] [] (nv_s h) (some (.int r.1), nv_s r.2)
  unfold pm_get at hf
  refine nv_iL dX7_get_0 rfl ?_
  refine nv_cSi (tm_isSheet G h x1) dX7_get_1 lm_X7_137 y_qX7_isSheet rfl (by decide) rfl (Nat.le_of_ble_eq_true rfl) ?_
  refine nv_ifeqB dX7_get_4 (fun c1 => ?_) (fun c1 => ?_)
  · replace hf := nv_ip c1 hf
    refine nv_iL dX7_get_7 rfl ?_
    refine nv_i2l dX7_get_8 ?_
    refine nv_lconst dX7_get_9 (v := 0) (by decide) ?_
    refine nv_ldc2 dX7_get_10 lc_X7_141 ?_
    refine nv_cSi (tm_in G h (Int32.toInt64 x2) 0 2) dX7_get_13 lm_X7_127 y_qX7_in rfl (by decide) rfl (Nat.le_of_ble_eq_true rfl) ?_
    refine nv_ifeqB dX7_get_16 (fun c2 => ?_) (fun c2 => ?_)
    · replace hf := nv_ip c2 hf
      refine nv_aL dX7_get_19 rfl ?_
      refine nv_iL dX7_get_20 rfl ?_
      refine nv_iL dX7_get_21 rfl ?_
      refine nv_iL dX7_get_22 rfl ?_
      obtain ⟨g3, hf⟩ := nv_gd hf
      refine nv_cVi (tm_lacks G h x1 g3 x2 x3) dX7_get_23 lm_X7_147 y_qX7_lacks ko_73 rfl rfl (by decide) rfl (Nat.le_of_ble_eq_true rfl) ?_
      obtain ⟨q4, eq4, hf⟩ := nv_ltX hf
      rw [eq4]
      clear eq4
      refine nv_ifeq dX7_get_26 (fun c5 => ?_) (fun c5 => ?_)
      · replace hf := nv_ip c5 hf
        refine nv_aL dX7_get_32 rfl ?_
        refine nv_tR lf_X7_16 dX7_get_33 ko_73 rfl ?_
        refine nv_k dX7_get_36 ?_
        refine nv_iL dX7_get_38 rfl ?_
        refine nv_imul dX7_get_39 ?_
        refine nv_iL dX7_get_40 rfl ?_
        refine nv_iadd dX7_get_41 ?_
        obtain ⟨g6, hf⟩ := nv_gd hf
        refine nv_aI dX7_get_42 ka_76 g6 rfl ?_
        obtain rfl := Option.some.inj hf
        exact nv_ireturnI dX7_get_43 rfl
      · replace hf := nv_in c5 hf
        refine nv_ldc dX7_get_29 lc_X7_155 ?_
        obtain rfl := Option.some.inj hf
        exact nv_ireturnI dX7_get_31 rfl
    · replace hf := nv_in c2 hf
      refine nv_ldc dX7_get_29 lc_X7_155 ?_
      obtain rfl := Option.some.inj hf
      exact nv_ireturnI dX7_get_31 rfl
  · replace hf := nv_in c1 hf
    refine nv_ldc dX7_get_29 lc_X7_155 ?_
    obtain rfl := Option.some.inj hf
    exact nv_ireturnI dX7_get_31 rfl
/-! WhoseNameModel.copy -/
theorem dX7_copy_0 : nv_diload qX7_copy 0 1 1 := Or.inr ⟨1, rfl, by decide +kernel, rfl⟩
theorem dX7_copy_1 : nv_dc qX7_copy 1 (.invokestatic 137) 3 4 := ⟨by decide +kernel, rfl⟩
theorem dX7_copy_4 : nv_dif qX7_copy 4 .eq 14 7 := ⟨10, by decide +kernel, by decide, rfl⟩
theorem dX7_copy_7 : nv_diload qX7_copy 7 3 8 := Or.inr ⟨3, rfl, by decide +kernel, rfl⟩
theorem dX7_copy_8 : nv_dc qX7_copy 8 (.invokestatic 137) 3 11 := ⟨by decide +kernel, rfl⟩
theorem dX7_copy_11 : nv_dif qX7_copy 11 .ne 17 14 := ⟨6, by decide +kernel, by decide, rfl⟩
theorem dX7_copy_14 : nv_dk qX7_copy 14 (-2) 16 := Or.inr (Or.inl ⟨(-2), ⟨by decide +kernel, rfl⟩, by decide⟩)
theorem dX7_copy_16 : decode qX7_copy.2.1 16 = .ok (.ireturn, 1) := by decide +kernel
theorem dX7_copy_17 : nv_daload qX7_copy 17 0 18 := Or.inr ⟨0, rfl, by decide +kernel, rfl⟩
theorem dX7_copy_18 : nv_dc qX7_copy 18 (.getfield 7) 3 21 := ⟨by decide +kernel, rfl⟩
theorem dX7_copy_21 : nv_diload qX7_copy 21 1 22 := Or.inr ⟨1, rfl, by decide +kernel, rfl⟩
theorem dX7_copy_22 : nv_dc qX7_copy 22 (.iaload) 1 23 := ⟨by decide +kernel, rfl⟩
theorem dX7_copy_23 : nv_dif qX7_copy 23 .lt 35 26 := ⟨12, by decide +kernel, by decide, rfl⟩
theorem dX7_copy_26 : nv_daload qX7_copy 26 0 27 := Or.inr ⟨0, rfl, by decide +kernel, rfl⟩
theorem dX7_copy_27 : nv_dc qX7_copy 27 (.getfield 7) 3 30 := ⟨by decide +kernel, rfl⟩
theorem dX7_copy_30 : nv_diload qX7_copy 30 3 31 := Or.inr ⟨3, rfl, by decide +kernel, rfl⟩
theorem dX7_copy_31 : nv_dc qX7_copy 31 (.iaload) 1 32 := ⟨by decide +kernel, rfl⟩
theorem dX7_copy_32 : nv_dif qX7_copy 32 .ge 41 35 := ⟨9, by decide +kernel, by decide, rfl⟩
theorem dX7_copy_35 : nv_daload qX7_copy 35 0 36 := Or.inr ⟨0, rfl, by decide +kernel, rfl⟩
theorem dX7_copy_36 : nv_dk qX7_copy 36 1 37 := Or.inl ⟨1, ⟨by decide +kernel, rfl⟩, by decide⟩
theorem dX7_copy_37 : nv_dc qX7_copy 37 (.invokevirtual 143) 3 40 := ⟨by decide +kernel, rfl⟩
theorem dX7_copy_40 : decode qX7_copy.2.1 40 = .ok (.ireturn, 1) := by decide +kernel
theorem dX7_copy_41 : nv_daload qX7_copy 41 0 42 := Or.inr ⟨0, rfl, by decide +kernel, rfl⟩
theorem dX7_copy_42 : nv_dc qX7_copy 42 (.getfield 7) 3 45 := ⟨by decide +kernel, rfl⟩
theorem dX7_copy_45 : nv_diload qX7_copy 45 1 46 := Or.inr ⟨1, rfl, by decide +kernel, rfl⟩
theorem dX7_copy_46 : nv_dc qX7_copy 46 (.iaload) 1 47 := ⟨by decide +kernel, rfl⟩
theorem dX7_copy_47 : nv_daload qX7_copy 47 0 48 := Or.inr ⟨0, rfl, by decide +kernel, rfl⟩
theorem dX7_copy_48 : nv_dc qX7_copy 48 (.getfield 7) 3 51 := ⟨by decide +kernel, rfl⟩
theorem dX7_copy_51 : nv_diload qX7_copy 51 3 52 := Or.inr ⟨3, rfl, by decide +kernel, rfl⟩
theorem dX7_copy_52 : nv_dc qX7_copy 52 (.iaload) 1 53 := ⟨by decide +kernel, rfl⟩
theorem dX7_copy_53 : nv_dic qX7_copy 53 .eq 62 56 := ⟨9, by decide +kernel, by decide, rfl⟩
theorem dX7_copy_56 : nv_daload qX7_copy 56 0 57 := Or.inr ⟨0, rfl, by decide +kernel, rfl⟩
theorem dX7_copy_57 : nv_dk qX7_copy 57 4 58 := Or.inl ⟨4, ⟨by decide +kernel, rfl⟩, by decide⟩
theorem dX7_copy_58 : nv_dc qX7_copy 58 (.invokevirtual 143) 3 61 := ⟨by decide +kernel, rfl⟩
theorem dX7_copy_61 : decode qX7_copy.2.1 61 = .ok (.ireturn, 1) := by decide +kernel
theorem dX7_copy_62 : nv_diload qX7_copy 62 2 63 := Or.inr ⟨2, rfl, by decide +kernel, rfl⟩
theorem dX7_copy_63 : nv_dif qX7_copy 63 .lt 111 66 := ⟨48, by decide +kernel, by decide, rfl⟩
theorem dX7_copy_66 : nv_diload qX7_copy 66 4 68 := Or.inl ⟨by decide +kernel, rfl⟩
theorem dX7_copy_68 : nv_dif qX7_copy 68 .lt 111 71 := ⟨43, by decide +kernel, by decide, rfl⟩
theorem dX7_copy_71 : nv_diload qX7_copy 71 5 73 := Or.inl ⟨by decide +kernel, rfl⟩
theorem dX7_copy_73 : nv_dif qX7_copy 73 .lt 111 76 := ⟨38, by decide +kernel, by decide, rfl⟩
theorem dX7_copy_76 : nv_diload qX7_copy 76 2 77 := Or.inr ⟨2, rfl, by decide +kernel, rfl⟩
theorem dX7_copy_77 : nv_dc qX7_copy 77 (.i2l) 1 78 := ⟨by decide +kernel, rfl⟩
theorem dX7_copy_78 : nv_diload qX7_copy 78 5 80 := Or.inl ⟨by decide +kernel, rfl⟩
theorem dX7_copy_80 : nv_dc qX7_copy 80 (.i2l) 1 81 := ⟨by decide +kernel, rfl⟩
theorem dX7_copy_81 : nv_dc qX7_copy 81 (.ladd) 1 82 := ⟨by decide +kernel, rfl⟩
theorem dX7_copy_82 : nv_daload qX7_copy 82 0 83 := Or.inr ⟨0, rfl, by decide +kernel, rfl⟩
theorem dX7_copy_83 : nv_dc qX7_copy 83 (.getfield 13) 3 86 := ⟨by decide +kernel, rfl⟩
theorem dX7_copy_86 : nv_diload qX7_copy 86 1 87 := Or.inr ⟨1, rfl, by decide +kernel, rfl⟩
theorem dX7_copy_87 : nv_dc qX7_copy 87 (.iaload) 1 88 := ⟨by decide +kernel, rfl⟩
theorem dX7_copy_88 : nv_dc qX7_copy 88 (.i2l) 1 89 := ⟨by decide +kernel, rfl⟩
theorem dX7_copy_89 : nv_dc qX7_copy 89 (.lcmp) 1 90 := ⟨by decide +kernel, rfl⟩
theorem dX7_copy_90 : nv_dif qX7_copy 90 .gt 111 93 := ⟨21, by decide +kernel, by decide, rfl⟩
theorem dX7_copy_93 : nv_diload qX7_copy 93 4 95 := Or.inl ⟨by decide +kernel, rfl⟩
theorem dX7_copy_95 : nv_dc qX7_copy 95 (.i2l) 1 96 := ⟨by decide +kernel, rfl⟩
theorem dX7_copy_96 : nv_diload qX7_copy 96 5 98 := Or.inl ⟨by decide +kernel, rfl⟩
theorem dX7_copy_98 : nv_dc qX7_copy 98 (.i2l) 1 99 := ⟨by decide +kernel, rfl⟩
theorem dX7_copy_99 : nv_dc qX7_copy 99 (.ladd) 1 100 := ⟨by decide +kernel, rfl⟩
theorem dX7_copy_100 : nv_daload qX7_copy 100 0 101 := Or.inr ⟨0, rfl, by decide +kernel, rfl⟩
theorem dX7_copy_101 : nv_dc qX7_copy 101 (.getfield 13) 3 104 := ⟨by decide +kernel, rfl⟩
theorem dX7_copy_104 : nv_diload qX7_copy 104 3 105 := Or.inr ⟨3, rfl, by decide +kernel, rfl⟩
theorem dX7_copy_105 : nv_dc qX7_copy 105 (.iaload) 1 106 := ⟨by decide +kernel, rfl⟩
theorem dX7_copy_106 : nv_dc qX7_copy 106 (.i2l) 1 107 := ⟨by decide +kernel, rfl⟩
theorem dX7_copy_107 : nv_dc qX7_copy 107 (.lcmp) 1 108 := ⟨by decide +kernel, rfl⟩
theorem dX7_copy_108 : nv_dif qX7_copy 108 .le 117 111 := ⟨9, by decide +kernel, by decide, rfl⟩
theorem dX7_copy_111 : nv_daload qX7_copy 111 0 112 := Or.inr ⟨0, rfl, by decide +kernel, rfl⟩
theorem dX7_copy_112 : nv_dk qX7_copy 112 2 113 := Or.inl ⟨2, ⟨by decide +kernel, rfl⟩, by decide⟩
theorem dX7_copy_113 : nv_dc qX7_copy 113 (.invokevirtual 143) 3 116 := ⟨by decide +kernel, rfl⟩
theorem dX7_copy_116 : decode qX7_copy.2.1 116 = .ok (.ireturn, 1) := by decide +kernel
theorem dX7_copy_117 : nv_dk qX7_copy 117 0 118 := Or.inl ⟨0, ⟨by decide +kernel, rfl⟩, by decide⟩
theorem dX7_copy_118 : nv_distore qX7_copy 118 6 120 := Or.inl ⟨by decide +kernel, rfl⟩
theorem dX7_copy_120 : nv_diload qX7_copy 120 6 122 := Or.inl ⟨by decide +kernel, rfl⟩
theorem dX7_copy_122 : nv_diload qX7_copy 122 5 124 := Or.inl ⟨by decide +kernel, rfl⟩
theorem dX7_copy_124 : nv_dic qX7_copy 124 .ge 154 127 := ⟨30, by decide +kernel, by decide, rfl⟩
theorem dX7_copy_127 : nv_daload qX7_copy 127 0 128 := Or.inr ⟨0, rfl, by decide +kernel, rfl⟩
theorem dX7_copy_128 : nv_dc qX7_copy 128 (.getfield 19) 3 131 := ⟨by decide +kernel, rfl⟩
theorem dX7_copy_131 : nv_diload qX7_copy 131 6 133 := Or.inl ⟨by decide +kernel, rfl⟩
theorem dX7_copy_133 : nv_daload qX7_copy 133 0 134 := Or.inr ⟨0, rfl, by decide +kernel, rfl⟩
theorem dX7_copy_134 : nv_dc qX7_copy 134 (.getfield 16) 3 137 := ⟨by decide +kernel, rfl⟩
theorem dX7_copy_137 : nv_dk qX7_copy 137 60 139 := Or.inr (Or.inl ⟨60, ⟨by decide +kernel, rfl⟩, by decide⟩)
theorem dX7_copy_139 : nv_diload qX7_copy 139 1 140 := Or.inr ⟨1, rfl, by decide +kernel, rfl⟩
theorem dX7_copy_140 : nv_dc qX7_copy 140 (.imul) 1 141 := ⟨by decide +kernel, rfl⟩
theorem dX7_copy_141 : nv_diload qX7_copy 141 2 142 := Or.inr ⟨2, rfl, by decide +kernel, rfl⟩
theorem dX7_copy_142 : nv_dc qX7_copy 142 (.iadd) 1 143 := ⟨by decide +kernel, rfl⟩
theorem dX7_copy_143 : nv_diload qX7_copy 143 6 145 := Or.inl ⟨by decide +kernel, rfl⟩
theorem dX7_copy_145 : nv_dc qX7_copy 145 (.iadd) 1 146 := ⟨by decide +kernel, rfl⟩
theorem dX7_copy_146 : nv_dc qX7_copy 146 (.iaload) 1 147 := ⟨by decide +kernel, rfl⟩
theorem dX7_copy_147 : nv_dc qX7_copy 147 (.iastore) 1 148 := ⟨by decide +kernel, rfl⟩
theorem dX7_copy_148 : nv_dc qX7_copy 148 (.iinc 6 1) 3 151 := ⟨by decide +kernel, rfl⟩
theorem dX7_copy_151 : nv_dgo qX7_copy 151 120 := ⟨(-31), by decide +kernel, by decide⟩
theorem dX7_copy_154 : nv_dk qX7_copy 154 0 155 := Or.inl ⟨0, ⟨by decide +kernel, rfl⟩, by decide⟩
theorem dX7_copy_155 : nv_distore qX7_copy 155 6 157 := Or.inl ⟨by decide +kernel, rfl⟩
theorem dX7_copy_157 : nv_diload qX7_copy 157 6 159 := Or.inl ⟨by decide +kernel, rfl⟩
theorem dX7_copy_159 : nv_diload qX7_copy 159 5 161 := Or.inl ⟨by decide +kernel, rfl⟩
theorem dX7_copy_161 : nv_dic qX7_copy 161 .ge 192 164 := ⟨31, by decide +kernel, by decide, rfl⟩
theorem dX7_copy_164 : nv_daload qX7_copy 164 0 165 := Or.inr ⟨0, rfl, by decide +kernel, rfl⟩
theorem dX7_copy_165 : nv_dc qX7_copy 165 (.getfield 16) 3 168 := ⟨by decide +kernel, rfl⟩
theorem dX7_copy_168 : nv_dk qX7_copy 168 60 170 := Or.inr (Or.inl ⟨60, ⟨by decide +kernel, rfl⟩, by decide⟩)
theorem dX7_copy_170 : nv_diload qX7_copy 170 3 171 := Or.inr ⟨3, rfl, by decide +kernel, rfl⟩
theorem dX7_copy_171 : nv_dc qX7_copy 171 (.imul) 1 172 := ⟨by decide +kernel, rfl⟩
theorem dX7_copy_172 : nv_diload qX7_copy 172 4 174 := Or.inl ⟨by decide +kernel, rfl⟩
theorem dX7_copy_174 : nv_dc qX7_copy 174 (.iadd) 1 175 := ⟨by decide +kernel, rfl⟩
theorem dX7_copy_175 : nv_diload qX7_copy 175 6 177 := Or.inl ⟨by decide +kernel, rfl⟩
theorem dX7_copy_177 : nv_dc qX7_copy 177 (.iadd) 1 178 := ⟨by decide +kernel, rfl⟩
theorem dX7_copy_178 : nv_daload qX7_copy 178 0 179 := Or.inr ⟨0, rfl, by decide +kernel, rfl⟩
theorem dX7_copy_179 : nv_dc qX7_copy 179 (.getfield 19) 3 182 := ⟨by decide +kernel, rfl⟩
theorem dX7_copy_182 : nv_diload qX7_copy 182 6 184 := Or.inl ⟨by decide +kernel, rfl⟩
theorem dX7_copy_184 : nv_dc qX7_copy 184 (.iaload) 1 185 := ⟨by decide +kernel, rfl⟩
theorem dX7_copy_185 : nv_dc qX7_copy 185 (.iastore) 1 186 := ⟨by decide +kernel, rfl⟩
theorem dX7_copy_186 : nv_dc qX7_copy 186 (.iinc 6 1) 3 189 := ⟨by decide +kernel, rfl⟩
theorem dX7_copy_189 : nv_dgo qX7_copy 189 157 := ⟨(-32), by decide +kernel, by decide⟩
theorem dX7_copy_192 : nv_dk qX7_copy 192 1 193 := Or.inl ⟨1, ⟨by decide +kernel, rfl⟩, by decide⟩
theorem dX7_copy_193 : decode qX7_copy.2.1 193 = .ok (.ireturn, 1) := by decide +kernel
def pm_copy_157  (x3 : Int32) (x4 : Int32) (x5 : Int32)  : Nat → Int32 → nv_Hp → Option (Int32 × nv_Hp)
  | 0, _, _ => none
  | n + 1, x6, h => (if x5 ≤ x6 then some (1, h) else (if nv_inb x6 60 = true then (if nv_inb (((60 * x3) + x4) + x6) 240 = true then (nv_lt (nv_up h 76 (((60 * x3) + x4) + x6).toNatClampNeg (h 77 x6.toNatClampNeg)) fun h4 => ((pm_copy_157 x3 x4 x5 n) (x6 + 1) h4)) else none) else none))
set_option maxHeartbeats 2000000 in
theorem tm_copy_157 (G : nv_G)  (x3 : Int32) (x4 : Int32) (x5 : Int32)  : ∀ (n : Nat) (x6 : Int32) (h : nv_Hp) (o1 o2 : Option Value) (r : Int32 × nv_Hp), pm_copy_157 x3 x4 x5 n x6 h = some r → nv_E G 2 qX7_copy 157 [some (.ref 73), o1, o2, some (.int x3), some (.int x4), some (.int x5), some (.int x6)] [] (nv_s h) (some (.int r.1), nv_s r.2) := by
  intro n
  induction n with
  | zero =>
    intro x6 h o1 o2 r hf
    rw [pm_copy_157] at hf
    cases hf
  | succ n ih =>
    intro x6 h o1 o2 r hf
    rw [pm_copy_157] at hf
    refine nv_iL dX7_copy_157 rfl ?_
    refine nv_iL dX7_copy_159 rfl ?_
    refine nv_icge dX7_copy_161 (fun c1 => ?_) (fun c1 => ?_)
    · replace hf := nv_ip c1 hf
      refine nv_k dX7_copy_192 ?_
      obtain rfl := Option.some.inj hf
      exact nv_ireturnI dX7_copy_193 rfl
    · replace hf := nv_in c1 hf
      refine nv_aL dX7_copy_164 rfl ?_
      refine nv_tR lf_X7_16 dX7_copy_165 ko_73 rfl ?_
      refine nv_k dX7_copy_168 ?_
      refine nv_iL dX7_copy_170 rfl ?_
      refine nv_imul dX7_copy_171 ?_
      refine nv_iL dX7_copy_172 rfl ?_
      refine nv_iadd dX7_copy_174 ?_
      refine nv_iL dX7_copy_175 rfl ?_
      refine nv_iadd dX7_copy_177 ?_
      refine nv_aL dX7_copy_178 rfl ?_
      refine nv_tR lf_X7_19 dX7_copy_179 ko_73 rfl ?_
      refine nv_iL dX7_copy_182 rfl ?_
      obtain ⟨g2, hf⟩ := nv_gd hf
      refine nv_aI dX7_copy_184 ka_77 g2 rfl ?_
      obtain ⟨g3, hf⟩ := nv_gd hf
      refine nv_aP dX7_copy_185 ka_76 g3 rfl ?_
      obtain ⟨h4, eh4, hf⟩ := nv_ltX hf
      rw [eh4]
      clear eh4
      refine nv_inc dX7_copy_186 rfl (v := 1) (by decide) (by decide) rfl rfl ?_
      refine nv_goto dX7_copy_189 ?_
      exact ih _ _ _ _ _ hf
def pm_copy_120  (x1 : Int32) (x2 : Int32) (x3 : Int32) (x4 : Int32) (x5 : Int32)  : Nat → Int32 → nv_Hp → Option (Int32 × nv_Hp)
  | 0, _, _ => none
  | n + 1, x6, h => (if x5 ≤ x6 then (pm_copy_157 x3 x4 x5 nv_fu 0 h) else (if nv_inb (((60 * x1) + x2) + x6) 240 = true then (if nv_inb x6 60 = true then (nv_lt (nv_up h 77 x6.toNatClampNeg (h 76 (((60 * x1) + x2) + x6).toNatClampNeg)) fun h4 => ((pm_copy_120 x1 x2 x3 x4 x5 n) (x6 + 1) h4)) else none) else none))
set_option maxHeartbeats 2000000 in
theorem tm_copy_120 (G : nv_G)  (x1 : Int32) (x2 : Int32) (x3 : Int32) (x4 : Int32) (x5 : Int32)  : ∀ (n : Nat) (x6 : Int32) (h : nv_Hp) (r : Int32 × nv_Hp), pm_copy_120 x1 x2 x3 x4 x5 n x6 h = some r → nv_E G 2 qX7_copy 120 [some (.ref 73), some (.int x1), some (.int x2), some (.int x3), some (.int x4), some (.int x5), some (.int x6)] [] (nv_s h) (some (.int r.1), nv_s r.2) := by
  intro n
  induction n with
  | zero =>
    intro x6 h r hf
    rw [pm_copy_120] at hf
    cases hf
  | succ n ih =>
    intro x6 h r hf
    rw [pm_copy_120] at hf
    refine nv_iL dX7_copy_120 rfl ?_
    refine nv_iL dX7_copy_122 rfl ?_
    refine nv_icge dX7_copy_124 (fun c1 => ?_) (fun c1 => ?_)
    · replace hf := nv_ip c1 hf
      refine nv_k dX7_copy_154 ?_
      refine nv_iS dX7_copy_155 (by decide) rfl rfl ?_
      exact tm_copy_157 G _ _ _ _ _ _ _ _ _ hf
    · replace hf := nv_in c1 hf
      refine nv_aL dX7_copy_127 rfl ?_
      refine nv_tR lf_X7_19 dX7_copy_128 ko_73 rfl ?_
      refine nv_iL dX7_copy_131 rfl ?_
      refine nv_aL dX7_copy_133 rfl ?_
      refine nv_tR lf_X7_16 dX7_copy_134 ko_73 rfl ?_
      refine nv_k dX7_copy_137 ?_
      refine nv_iL dX7_copy_139 rfl ?_
      refine nv_imul dX7_copy_140 ?_
      refine nv_iL dX7_copy_141 rfl ?_
      refine nv_iadd dX7_copy_142 ?_
      refine nv_iL dX7_copy_143 rfl ?_
      refine nv_iadd dX7_copy_145 ?_
      obtain ⟨g2, hf⟩ := nv_gd hf
      refine nv_aI dX7_copy_146 ka_76 g2 rfl ?_
      obtain ⟨g3, hf⟩ := nv_gd hf
      refine nv_aP dX7_copy_147 ka_77 g3 rfl ?_
      obtain ⟨h4, eh4, hf⟩ := nv_ltX hf
      rw [eh4]
      clear eh4
      refine nv_inc dX7_copy_148 rfl (v := 1) (by decide) (by decide) rfl rfl ?_
      refine nv_goto dX7_copy_151 ?_
      exact ih _ _ _ hf
def pm_copy_111 (h : nv_Hp)    : Option (Int32 × nv_Hp) := (nv_lt (pm_met h 2) fun q1 => some (q1.1, q1.2))
set_option maxHeartbeats 2000000 in
theorem tm_copy_111 (G : nv_G) (h : nv_Hp)    (o1 o2 o3 o4 o5 o6 : Option Value) (r : Int32 × nv_Hp) (hf : pm_copy_111 h = some r) : nv_E G 2 qX7_copy 111 [some (.ref 73), o1, o2, o3, o4, o5, o6] [] (nv_s h) (some (.int r.1), nv_s r.2) := by
  unfold pm_copy_111 at hf
  refine nv_aL dX7_copy_111 rfl ?_
  refine nv_k dX7_copy_112 ?_
  refine nv_cVi (tm_met G h 2) dX7_copy_113 lm_X7_143 y_qX7_met ko_73 rfl rfl (by decide) rfl (Nat.le_of_ble_eq_true rfl) ?_
  obtain ⟨q1, eq1, hf⟩ := nv_ltX hf
  rw [eq1]
  clear eq1
  obtain rfl := Option.some.inj hf
  exact nv_ireturnI dX7_copy_116 rfl
def pm_copy_35 (h : nv_Hp)    : Option (Int32 × nv_Hp) := (nv_lt (pm_met h 1) fun q1 => some (q1.1, q1.2))
set_option maxHeartbeats 2000000 in
theorem tm_copy_35 (G : nv_G) (h : nv_Hp)    (o1 o2 o3 o4 o5 o6 : Option Value) (r : Int32 × nv_Hp) (hf : pm_copy_35 h = some r) : nv_E G 2 qX7_copy 35 [some (.ref 73), o1, o2, o3, o4, o5, o6] [] (nv_s h) (some (.int r.1), nv_s r.2) := by
  unfold pm_copy_35 at hf
  refine nv_aL dX7_copy_35 rfl ?_
  refine nv_k dX7_copy_36 ?_
  refine nv_cVi (tm_met G h 1) dX7_copy_37 lm_X7_143 y_qX7_met ko_73 rfl rfl (by decide) rfl (Nat.le_of_ble_eq_true rfl) ?_
  obtain ⟨q1, eq1, hf⟩ := nv_ltX hf
  rw [eq1]
  clear eq1
  obtain rfl := Option.some.inj hf
  exact nv_ireturnI dX7_copy_40 rfl
def pm_copy (h : nv_Hp) (x1 : Int32) (x2 : Int32) (x3 : Int32) (x4 : Int32) (x5 : Int32) : Option (Int32 × nv_Hp) := (if (pm_isSheet x1) = true then (if (pm_isSheet x3) = true then (if nv_inb x1 4 = true then (if (h 74 x1.toNatClampNeg) < 0 then (pm_copy_35 h) else (if nv_inb x3 4 = true then (if 0 ≤ (h 74 x3.toNatClampNeg) then (if (h 74 x1.toNatClampNeg) = (h 74 x3.toNatClampNeg) then (if x2 < 0 then (pm_copy_111 h) else (if x4 < 0 then (pm_copy_111 h) else (if x5 < 0 then (pm_copy_111 h) else (if 0 < (lg_cmp ((Int32.toInt64 x2) + (Int32.toInt64 x5)) (Int32.toInt64 (h 75 x1.toNatClampNeg))) then (pm_copy_111 h) else (if (lg_cmp ((Int32.toInt64 x4) + (Int32.toInt64 x5)) (Int32.toInt64 (h 75 x3.toNatClampNeg))) ≤ 0 then (pm_copy_120 x1 x2 x3 x4 x5 nv_fu 0 h) else (pm_copy_111 h)))))) else (nv_lt (pm_met h 4) fun q13 => some (q13.1, q13.2))) else (pm_copy_35 h)) else none)) else none) else some ((-2), h)) else some ((-2), h))
set_option maxHeartbeats 2000000 in
theorem tm_copy (G : nv_G) (h : nv_Hp) (x1 : Int32) (x2 : Int32) (x3 : Int32) (x4 : Int32) (x5 : Int32) {r : Int32 × nv_Hp} (hf : (pm_copy h x1 x2 x3 x4 x5) = some r) : nv_Mt G 2 qX7_copy [.ref 73, .int x1, .int x2, .int x3, .int x4, .int x5] (nv_s h) (some (.int r.1), nv_s r.2) := by
  refine nv_of (by decide +kernel) (fun ad => Nat.le_of_ble_eq_true rfl) (Nat.le_refl _) (Nat.le_of_ble_eq_true rfl) ?_
  show nv_E G 2 qX7_copy 0 [some (.ref 73), some (.int x1), some (.int x2), some (.int x3), some (.int x4), some (.int x5), none] [] (nv_s h) (some (.int r.1), nv_s r.2)
  unfold pm_copy at hf
  refine nv_iL dX7_copy_0 rfl ?_
  refine nv_cSi (tm_isSheet G h x1) dX7_copy_1 lm_X7_137 y_qX7_isSheet rfl (by decide) rfl (Nat.le_of_ble_eq_true rfl) ?_
  refine nv_ifeqB dX7_copy_4 (fun c1 => ?_) (fun c1 => ?_)
  · replace hf := nv_ip c1 hf
    refine nv_iL dX7_copy_7 rfl ?_
    refine nv_cSi (tm_isSheet G h x3) dX7_copy_8 lm_X7_137 y_qX7_isSheet rfl (by decide) rfl (Nat.le_of_ble_eq_true rfl) ?_
    refine nv_ifneB dX7_copy_11 (fun c2 => ?_) (fun c2 => ?_)
    · replace hf := nv_ip c2 hf
      refine nv_aL dX7_copy_17 rfl ?_
      refine nv_tR lf_X7_7 dX7_copy_18 ko_73 rfl ?_
      refine nv_iL dX7_copy_21 rfl ?_
      obtain ⟨g3, hf⟩ := nv_gd hf
      refine nv_aI dX7_copy_22 ka_74 g3 rfl ?_
      refine nv_iflt dX7_copy_23 (fun c4 => ?_) (fun c4 => ?_)
      · replace hf := nv_ip c4 hf
        exact tm_copy_35 G _ _ _ _ _ _ _ _ hf
      · replace hf := nv_in c4 hf
        refine nv_aL dX7_copy_26 rfl ?_
        refine nv_tR lf_X7_7 dX7_copy_27 ko_73 rfl ?_
        refine nv_iL dX7_copy_30 rfl ?_
        obtain ⟨g5, hf⟩ := nv_gd hf
        refine nv_aI dX7_copy_31 ka_74 g5 rfl ?_
        refine nv_ifge dX7_copy_32 (fun c6 => ?_) (fun c6 => ?_)
        · replace hf := nv_ip c6 hf
          refine nv_aL dX7_copy_41 rfl ?_
          refine nv_tR lf_X7_7 dX7_copy_42 ko_73 rfl ?_
          refine nv_iL dX7_copy_45 rfl ?_
          refine nv_aI dX7_copy_46 ka_74 g3 rfl ?_
          refine nv_aL dX7_copy_47 rfl ?_
          refine nv_tR lf_X7_7 dX7_copy_48 ko_73 rfl ?_
          refine nv_iL dX7_copy_51 rfl ?_
          refine nv_aI dX7_copy_52 ka_74 g5 rfl ?_
          refine nv_iceq dX7_copy_53 (fun c7 => ?_) (fun c7 => ?_)
          · replace hf := nv_ip c7 hf
            refine nv_iL dX7_copy_62 rfl ?_
            refine nv_iflt dX7_copy_63 (fun c8 => ?_) (fun c8 => ?_)
            · replace hf := nv_ip c8 hf
              exact tm_copy_111 G _ _ _ _ _ _ _ _ hf
            · replace hf := nv_in c8 hf
              refine nv_iL dX7_copy_66 rfl ?_
              refine nv_iflt dX7_copy_68 (fun c9 => ?_) (fun c9 => ?_)
              · replace hf := nv_ip c9 hf
                exact tm_copy_111 G _ _ _ _ _ _ _ _ hf
              · replace hf := nv_in c9 hf
                refine nv_iL dX7_copy_71 rfl ?_
                refine nv_iflt dX7_copy_73 (fun c10 => ?_) (fun c10 => ?_)
                · replace hf := nv_ip c10 hf
                  exact tm_copy_111 G _ _ _ _ _ _ _ _ hf
                · replace hf := nv_in c10 hf
                  refine nv_iL dX7_copy_76 rfl ?_
                  refine nv_i2l dX7_copy_77 ?_
                  refine nv_iL dX7_copy_78 rfl ?_
                  refine nv_i2l dX7_copy_80 ?_
                  refine nv_ladd dX7_copy_81 ?_
                  refine nv_aL dX7_copy_82 rfl ?_
                  refine nv_tR lf_X7_13 dX7_copy_83 ko_73 rfl ?_
                  refine nv_iL dX7_copy_86 rfl ?_
                  refine nv_aI dX7_copy_87 ka_75 g3 rfl ?_
                  refine nv_i2l dX7_copy_88 ?_
                  refine nv_lcmp dX7_copy_89 ?_
                  refine nv_ifgt dX7_copy_90 (fun c11 => ?_) (fun c11 => ?_)
                  · replace hf := nv_ip c11 hf
                    exact tm_copy_111 G _ _ _ _ _ _ _ _ hf
                  · replace hf := nv_in c11 hf
                    refine nv_iL dX7_copy_93 rfl ?_
                    refine nv_i2l dX7_copy_95 ?_
                    refine nv_iL dX7_copy_96 rfl ?_
                    refine nv_i2l dX7_copy_98 ?_
                    refine nv_ladd dX7_copy_99 ?_
                    refine nv_aL dX7_copy_100 rfl ?_
                    refine nv_tR lf_X7_13 dX7_copy_101 ko_73 rfl ?_
                    refine nv_iL dX7_copy_104 rfl ?_
                    refine nv_aI dX7_copy_105 ka_75 g5 rfl ?_
                    refine nv_i2l dX7_copy_106 ?_
                    refine nv_lcmp dX7_copy_107 ?_
                    refine nv_ifle dX7_copy_108 (fun c12 => ?_) (fun c12 => ?_)
                    · replace hf := nv_ip c12 hf
                      refine nv_k dX7_copy_117 ?_
                      refine nv_iS dX7_copy_118 (by decide) rfl rfl ?_
                      exact tm_copy_120 G _ _ _ _ _ _ _ _ _ hf
                    · replace hf := nv_in c12 hf
                      exact tm_copy_111 G _ _ _ _ _ _ _ _ hf
          · replace hf := nv_in c7 hf
            refine nv_aL dX7_copy_56 rfl ?_
            refine nv_k dX7_copy_57 ?_
            refine nv_cVi (tm_met G h 4) dX7_copy_58 lm_X7_143 y_qX7_met ko_73 rfl rfl (by decide) rfl (Nat.le_of_ble_eq_true rfl) ?_
            obtain ⟨q13, eq13, hf⟩ := nv_ltX hf
            rw [eq13]
            clear eq13
            obtain rfl := Option.some.inj hf
            exact nv_ireturnI dX7_copy_61 rfl
        · replace hf := nv_in c6 hf
          exact tm_copy_35 G _ _ _ _ _ _ _ _ hf
    · replace hf := nv_in c2 hf
      refine nv_k dX7_copy_14 ?_
      obtain rfl := Option.some.inj hf
      exact nv_ireturnI dX7_copy_16 rfl
  · replace hf := nv_in c1 hf
    refine nv_k dX7_copy_14 ?_
    obtain rfl := Option.some.inj hf
    exact nv_ireturnI dX7_copy_16 rfl
