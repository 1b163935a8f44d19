theorem wac : Cond.arrayClass .int ∈ nv_gt := nv_gt_of 141 (by decide +kernel) (by decide +kernel)
theorem wcl_L_7 : Cond.classLink "WhoseNameLaw" 7 "WhoseName" ∈ nv_gt := nv_gt_of 85 (by decide +kernel) (by decide +kernel)
set_option maxRecDepth 100000 in
theorem lo_X6 : nv_Lo "WhoseName" 1 := ⟨nv_gt_of 90 (by decide +kernel) (by decide +kernel), nv_gt_of 91 (by decide +kernel) (by decide +kernel), nv_gt_of 92 rfl rfl⟩
theorem wcl_X6_13 : Cond.classLink "WhoseName" 13 "WhoseName$Leave" ∈ nv_gt := nv_gt_of 93 (by decide +kernel) (by decide +kernel)
theorem wcl_X6_19 : Cond.classLink "WhoseName" 19 "WhoseName$Back" ∈ nv_gt := nv_gt_of 95 (by decide +kernel) (by decide +kernel)
theorem wcl_X6_25 : Cond.classLink "WhoseName" 25 "WhoseName$Bargain" ∈ nv_gt := nv_gt_of 97 (by decide +kernel) (by decide +kernel)
theorem wcl_X6_31 : Cond.classLink "WhoseName" 31 "WhoseName$After" ∈ nv_gt := nv_gt_of 99 (by decide +kernel) (by decide +kernel)
theorem wcl_X6_37 : Cond.classLink "WhoseName" 37 "WhoseName$Law" ∈ nv_gt := nv_gt_of 101 (by decide +kernel) (by decide +kernel)
theorem wcl_X6_43 : Cond.classLink "WhoseName" 43 "WhoseName$Sheet" ∈ nv_gt := nv_gt_of 103 (by decide +kernel) (by decide +kernel)
set_option maxRecDepth 100000 in
theorem lo_X4 : nv_Lo "WhoseName$Leave" 1 := ⟨nv_gt_of 109 (by decide +kernel) (by decide +kernel), nv_gt_of 91 (by decide +kernel) (by decide +kernel), nv_gt_of 92 rfl rfl⟩
set_option maxRecDepth 100000 in
theorem lo_X1 : nv_Lo "WhoseName$Back" 1 := ⟨nv_gt_of 146 (by decide +kernel) (by decide +kernel), nv_gt_of 91 (by decide +kernel) (by decide +kernel), nv_gt_of 92 rfl rfl⟩
set_option maxRecDepth 100000 in
theorem lo_X2 : nv_Lo "WhoseName$Bargain" 3 := ⟨nv_gt_of 164 (by decide +kernel) (by decide +kernel), nv_gt_of 91 (by decide +kernel) (by decide +kernel), nv_gt_of 92 rfl rfl⟩
set_option maxRecDepth 100000 in
theorem lo_X0 : nv_Lo "WhoseName$After" 1 := ⟨nv_gt_of 193 (by decide +kernel) (by decide +kernel), nv_gt_of 91 (by decide +kernel) (by decide +kernel), nv_gt_of 92 rfl rfl⟩
set_option maxRecDepth 100000 in
theorem lo_X3 : nv_Lo "WhoseName$Law" 3 := ⟨nv_gt_of 214 (by decide +kernel) (by decide +kernel), nv_gt_of 91 (by decide +kernel) (by decide +kernel), nv_gt_of 92 rfl rfl⟩
set_option maxRecDepth 100000 in
theorem lo_X5 : nv_Lo "WhoseName$Sheet" 3 := ⟨nv_gt_of 275 (by decide +kernel) (by decide +kernel), nv_gt_of 91 (by decide +kernel) (by decide +kernel), nv_gt_of 92 rfl rfl⟩
theorem wcl_L_10 : Cond.classLink "WhoseNameLaw" 10 "WhoseNameModel" ∈ nv_gt := nv_gt_of 718 (by decide +kernel) (by decide +kernel)
set_option maxRecDepth 100000 in
theorem lo_X7 : nv_Lo "WhoseNameModel" 1 := ⟨nv_gt_of 723 (by decide +kernel) (by decide +kernel), nv_gt_of 91 (by decide +kernel) (by decide +kernel), nv_gt_of 92 rfl rfl⟩
theorem dX0_init_0 : nv_daload qX0_init 0 0 1 := Or.inr ⟨0, rfl, by decide +kernel, rfl⟩
theorem dX0_init_1 : nv_dc qX0_init 1 (.invokespecial 1) 3 4 := ⟨by decide +kernel, rfl⟩
theorem dX0_init_4 : decode qX0_init.2.1 4 = .ok (.return_, 1) := by decide +kernel
theorem tk_X0 (G : nv_G) (σ : nv_Sg) (hσ : σ.2.2 ≤ 1000) (k : Nat) : nv_Mt G 1 qX0_init [.ref k] σ (none, σ) := by
  refine nv_of (by decide +kernel) (fun ad => Nat.le_of_ble_eq_true rfl) (Nat.le_refl _) hσ ?_
  show nv_E G 1 qX0_init 0 [some (.ref k)] [] σ (none, σ)
  refine nv_aL dX0_init_0 rfl ?_
  refine nv_objI dX0_init_1 lo_X0 (by decide) (Nat.le_of_ble_eq_true rfl) ?_
  exact nv_return dX0_init_4 rfl
theorem dX1_init_0 : nv_daload qX1_init 0 0 1 := Or.inr ⟨0, rfl, by decide +kernel, rfl⟩
theorem dX1_init_1 : nv_dc qX1_init 1 (.invokespecial 1) 3 4 := ⟨by decide +kernel, rfl⟩
theorem dX1_init_4 : decode qX1_init.2.1 4 = .ok (.return_, 1) := by decide +kernel
theorem tk_X1 (G : nv_G) (σ : nv_Sg) (hσ : σ.2.2 ≤ 1000) (k : Nat) : nv_Mt G 1 qX1_init [.ref k] σ (none, σ) := by
  refine nv_of (by decide +kernel) (fun ad => Nat.le_of_ble_eq_true rfl) (Nat.le_refl _) hσ ?_
  show nv_E G 1 qX1_init 0 [some (.ref k)] [] σ (none, σ)
  refine nv_aL dX1_init_0 rfl ?_
  refine nv_objI dX1_init_1 lo_X1 (by decide) (Nat.le_of_ble_eq_true rfl) ?_
  exact nv_return dX1_init_4 rfl
theorem dX2_init_0 : nv_daload qX2_init 0 0 1 := Or.inr ⟨0, rfl, by decide +kernel, rfl⟩
theorem dX2_init_1 : nv_dc qX2_init 1 (.invokespecial 3) 3 4 := ⟨by decide +kernel, rfl⟩
theorem dX2_init_4 : decode qX2_init.2.1 4 = .ok (.return_, 1) := by decide +kernel
theorem tk_X2 (G : nv_G) (σ : nv_Sg) (hσ : σ.2.2 ≤ 1000) (k : Nat) : nv_Mt G 1 qX2_init [.ref k] σ (none, σ) := by
  refine nv_of (by decide +kernel) (fun ad => Nat.le_of_ble_eq_true rfl) (Nat.le_refl _) hσ ?_
  show nv_E G 1 qX2_init 0 [some (.ref k)] [] σ (none, σ)
  refine nv_aL dX2_init_0 rfl ?_
  refine nv_objI dX2_init_1 lo_X2 (by decide) (Nat.le_of_ble_eq_true rfl) ?_
  exact nv_return dX2_init_4 rfl
theorem dX4_init_0 : nv_daload qX4_init 0 0 1 := Or.inr ⟨0, rfl, by decide +kernel, rfl⟩
theorem dX4_init_1 : nv_dc qX4_init 1 (.invokespecial 1) 3 4 := ⟨by decide +kernel, rfl⟩
theorem dX4_init_4 : decode qX4_init.2.1 4 = .ok (.return_, 1) := by decide +kernel
theorem tk_X4 (G : nv_G) (σ : nv_Sg) (hσ : σ.2.2 ≤ 1000) (k : Nat) : nv_Mt G 1 qX4_init [.ref k] σ (none, σ) := by
  refine nv_of (by decide +kernel) (fun ad => Nat.le_of_ble_eq_true rfl) (Nat.le_refl _) hσ ?_
  show nv_E G 1 qX4_init 0 [some (.ref k)] [] σ (none, σ)
  refine nv_aL dX4_init_0 rfl ?_
  refine nv_objI dX4_init_1 lo_X4 (by decide) (Nat.le_of_ble_eq_true rfl) ?_
  exact nv_return dX4_init_4 rfl
theorem dX3_init_0 : nv_daload qX3_init 0 0 1 := Or.inr ⟨0, rfl, by decide +kernel, rfl⟩
theorem dX3_init_1 : nv_dc qX3_init 1 (.invokespecial 3) 3 4 := ⟨by decide +kernel, rfl⟩
theorem dX3_init_4 : nv_daload qX3_init 4 0 5 := Or.inr ⟨0, rfl, by decide +kernel, rfl⟩
theorem dX3_init_5 : nv_dk qX3_init 5 60 7 := Or.inr (Or.inl ⟨60, ⟨by decide +kernel, rfl⟩, by decide⟩)
theorem dX3_init_7 : nv_dc qX3_init 7 (.newarray .int) 2 9 := ⟨by decide +kernel, rfl⟩
theorem dX3_init_9 : nv_dc qX3_init 9 (.putfield 9) 3 12 := ⟨by decide +kernel, rfl⟩
theorem dX3_init_12 : nv_daload qX3_init 12 0 13 := Or.inr ⟨0, rfl, by decide +kernel, rfl⟩
theorem dX3_init_13 : nv_dk qX3_init 13 9 15 := Or.inr (Or.inl ⟨9, ⟨by decide +kernel, rfl⟩, by decide⟩)
theorem dX3_init_15 : nv_dc qX3_init 15 (.newarray .int) 2 17 := ⟨by decide +kernel, rfl⟩
theorem dX3_init_17 : nv_dc qX3_init 17 (.putfield 15) 3 20 := ⟨by decide +kernel, rfl⟩
theorem dX3_init_20 : nv_daload qX3_init 20 0 21 := Or.inr ⟨0, rfl, by decide +kernel, rfl⟩
theorem dX3_init_21 : nv_dc qX3_init 21 (.invokevirtual 18) 3 24 := ⟨by decide +kernel, rfl⟩
theorem dX3_init_24 : decode qX3_init.2.1 24 = .ok (.return_, 1) := by decide +kernel
theorem dX5_init_0 : nv_daload qX5_init 0 0 1 := Or.inr ⟨0, rfl, by decide +kernel, rfl⟩
theorem dX5_init_1 : nv_dc qX5_init 1 (.invokespecial 3) 3 4 := ⟨by decide +kernel, rfl⟩
theorem dX5_init_4 : nv_daload qX5_init 4 0 5 := Or.inr ⟨0, rfl, by decide +kernel, rfl⟩
theorem dX5_init_5 : nv_dk qX5_init 5 60 7 := Or.inr (Or.inl ⟨60, ⟨by decide +kernel, rfl⟩, by decide⟩)
theorem dX5_init_7 : nv_dc qX5_init 7 (.newarray .int) 2 9 := ⟨by decide +kernel, rfl⟩
theorem dX5_init_9 : nv_dc qX5_init 9 (.putfield 9) 3 12 := ⟨by decide +kernel, rfl⟩
theorem dX5_init_12 : nv_daload qX5_init 12 0 13 := Or.inr ⟨0, rfl, by decide +kernel, rfl⟩
theorem dX5_init_13 : nv_dk qX5_init 13 1 14 := Or.inl ⟨1, ⟨by decide +kernel, rfl⟩, by decide⟩
theorem dX5_init_14 : nv_dc qX5_init 14 (.putfield 15) 3 17 := ⟨by decide +kernel, rfl⟩
theorem dX5_init_17 : decode qX5_init.2.1 17 = .ok (.return_, 1) := by decide +kernel
theorem dX6_init_0 : nv_daload qX6_init 0 0 1 := Or.inr ⟨0, rfl, by decide +kernel, rfl⟩
theorem dX6_init_1 : nv_dc qX6_init 1 (.invokespecial 1) 3 4 := ⟨by decide +kernel, rfl⟩
theorem dX6_init_4 : nv_daload qX6_init 4 0 5 := Or.inr ⟨0, rfl, by decide +kernel, rfl⟩
theorem dX6_init_5 : nv_dk qX6_init 5 8 7 := Or.inr (Or.inl ⟨8, ⟨by decide +kernel, rfl⟩, by decide⟩)
theorem dX6_init_7 : nv_dc qX6_init 7 (.newarray .int) 2 9 := ⟨by decide +kernel, rfl⟩
theorem dX6_init_9 : nv_dc qX6_init 9 (.putfield 9) 3 12 := ⟨by decide +kernel, rfl⟩
theorem dX6_init_12 : nv_daload qX6_init 12 0 13 := Or.inr ⟨0, rfl, by decide +kernel, rfl⟩
theorem dX6_init_13 : nv_dk qX6_init 13 12 15 := Or.inr (Or.inl ⟨12, ⟨by decide +kernel, rfl⟩, by decide⟩)
theorem dX6_init_15 : nv_dc qX6_init 15 (.anewarray 13) 3 18 := ⟨by decide +kernel, rfl⟩
theorem dX6_init_18 : nv_dc qX6_init 18 (.putfield 15) 3 21 := ⟨by decide +kernel, rfl⟩
theorem dX6_init_21 : nv_daload qX6_init 21 0 22 := Or.inr ⟨0, rfl, by decide +kernel, rfl⟩
theorem dX6_init_22 : nv_dk qX6_init 22 12 24 := Or.inr (Or.inl ⟨12, ⟨by decide +kernel, rfl⟩, by decide⟩)
theorem dX6_init_24 : nv_dc qX6_init 24 (.anewarray 19) 3 27 := ⟨by decide +kernel, rfl⟩
theorem dX6_init_27 : nv_dc qX6_init 27 (.putfield 21) 3 30 := ⟨by decide +kernel, rfl⟩
theorem dX6_init_30 : nv_daload qX6_init 30 0 31 := Or.inr ⟨0, rfl, by decide +kernel, rfl⟩
theorem dX6_init_31 : nv_dk qX6_init 31 10 33 := Or.inr (Or.inl ⟨10, ⟨by decide +kernel, rfl⟩, by decide⟩)
theorem dX6_init_33 : nv_dc qX6_init 33 (.anewarray 25) 3 36 := ⟨by decide +kernel, rfl⟩
theorem dX6_init_36 : nv_dc qX6_init 36 (.putfield 27) 3 39 := ⟨by decide +kernel, rfl⟩
theorem dX6_init_39 : nv_daload qX6_init 39 0 40 := Or.inr ⟨0, rfl, by decide +kernel, rfl⟩
theorem dX6_init_40 : nv_dk qX6_init 40 12 42 := Or.inr (Or.inl ⟨12, ⟨by decide +kernel, rfl⟩, by decide⟩)
theorem dX6_init_42 : nv_dc qX6_init 42 (.anewarray 31) 3 45 := ⟨by decide +kernel, rfl⟩
theorem dX6_init_45 : nv_dc qX6_init 45 (.putfield 33) 3 48 := ⟨by decide +kernel, rfl⟩
theorem dX6_init_48 : nv_daload qX6_init 48 0 49 := Or.inr ⟨0, rfl, by decide +kernel, rfl⟩
theorem dX6_init_49 : nv_dk qX6_init 49 2 50 := Or.inl ⟨2, ⟨by decide +kernel, rfl⟩, by decide⟩
theorem dX6_init_50 : nv_dc qX6_init 50 (.anewarray 37) 3 53 := ⟨by decide +kernel, rfl⟩
theorem dX6_init_53 : nv_dc qX6_init 53 (.putfield 39) 3 56 := ⟨by decide +kernel, rfl⟩
theorem dX6_init_56 : nv_daload qX6_init 56 0 57 := Or.inr ⟨0, rfl, by decide +kernel, rfl⟩
theorem dX6_init_57 : nv_dk qX6_init 57 4 58 := Or.inl ⟨4, ⟨by decide +kernel, rfl⟩, by decide⟩
theorem dX6_init_58 : nv_dc qX6_init 58 (.anewarray 43) 3 61 := ⟨by decide +kernel, rfl⟩
theorem dX6_init_61 : nv_dc qX6_init 61 (.putfield 45) 3 64 := ⟨by decide +kernel, rfl⟩
theorem dX6_init_64 : nv_daload qX6_init 64 0 65 := Or.inr ⟨0, rfl, by decide +kernel, rfl⟩
theorem dX6_init_65 : nv_dk qX6_init 65 8 67 := Or.inr (Or.inl ⟨8, ⟨by decide +kernel, rfl⟩, by decide⟩)
theorem dX6_init_67 : nv_dc qX6_init 67 (.newarray .int) 2 69 := ⟨by decide +kernel, rfl⟩
theorem dX6_init_69 : nv_dc qX6_init 69 (.putfield 49) 3 72 := ⟨by decide +kernel, rfl⟩
theorem dX6_init_72 : nv_daload qX6_init 72 0 73 := Or.inr ⟨0, rfl, by decide +kernel, rfl⟩
theorem dX6_init_73 : nv_dk qX6_init 73 10 75 := Or.inr (Or.inl ⟨10, ⟨by decide +kernel, rfl⟩, by decide⟩)
theorem dX6_init_75 : nv_dc qX6_init 75 (.newarray .int) 2 77 := ⟨by decide +kernel, rfl⟩
theorem dX6_init_77 : nv_dc qX6_init 77 (.putfield 52) 3 80 := ⟨by decide +kernel, rfl⟩
theorem dX6_init_80 : nv_daload qX6_init 80 0 81 := Or.inr ⟨0, rfl, by decide +kernel, rfl⟩
theorem dX6_init_81 : nv_dk qX6_init 81 9 83 := Or.inr (Or.inl ⟨9, ⟨by decide +kernel, rfl⟩, by decide⟩)
theorem dX6_init_83 : nv_dc qX6_init 83 (.newarray .int) 2 85 := ⟨by decide +kernel, rfl⟩
theorem dX6_init_85 : nv_dc qX6_init 85 (.putfield 55) 3 88 := ⟨by decide +kernel, rfl⟩
theorem dX6_init_88 : nv_daload qX6_init 88 0 89 := Or.inr ⟨0, rfl, by decide +kernel, rfl⟩
theorem dX6_init_89 : nv_dk qX6_init 89 6 91 := Or.inr (Or.inl ⟨6, ⟨by decide +kernel, rfl⟩, by decide⟩)
theorem dX6_init_91 : nv_dc qX6_init 91 (.newarray .int) 2 93 := ⟨by decide +kernel, rfl⟩
theorem dX6_init_93 : nv_dc qX6_init 93 (.putfield 58) 3 96 := ⟨by decide +kernel, rfl⟩
theorem dX6_init_96 : nv_daload qX6_init 96 0 97 := Or.inr ⟨0, rfl, by decide +kernel, rfl⟩
theorem dX6_init_97 : nv_dk qX6_init 97 64 99 := Or.inr (Or.inl ⟨64, ⟨by decide +kernel, rfl⟩, by decide⟩)
theorem dX6_init_99 : nv_dc qX6_init 99 (.newarray .int) 2 101 := ⟨by decide +kernel, rfl⟩
theorem dX6_init_101 : nv_dc qX6_init 101 (.putfield 61) 3 104 := ⟨by decide +kernel, rfl⟩
theorem dX6_init_104 : nv_dk qX6_init 104 0 105 := Or.inl ⟨0, ⟨by decide +kernel, rfl⟩, by decide⟩
theorem dX6_init_105 : nv_distore qX6_init 105 1 106 := Or.inr ⟨1, rfl, by decide +kernel, rfl⟩
theorem dX6_init_106 : nv_diload qX6_init 106 1 107 := Or.inr ⟨1, rfl, by decide +kernel, rfl⟩
theorem dX6_init_107 : nv_dk qX6_init 107 8 109 := Or.inr (Or.inl ⟨8, ⟨by decide +kernel, rfl⟩, by decide⟩)
theorem dX6_init_109 : nv_dic qX6_init 109 .ge 127 112 := ⟨18, by decide +kernel, by decide, rfl⟩
theorem dX6_init_112 : nv_daload qX6_init 112 0 113 := Or.inr ⟨0, rfl, by decide +kernel, rfl⟩
theorem dX6_init_113 : nv_dc qX6_init 113 (.getfield 9) 3 116 := ⟨by decide +kernel, rfl⟩
theorem dX6_init_116 : nv_diload qX6_init 116 1 117 := Or.inr ⟨1, rfl, by decide +kernel, rfl⟩
theorem dX6_init_117 : nv_dk qX6_init 117 1000 120 := Or.inr (Or.inr ⟨1000, ⟨by decide +kernel, rfl⟩, by decide⟩)
theorem dX6_init_120 : nv_dc qX6_init 120 (.iastore) 1 121 := ⟨by decide +kernel, rfl⟩
theorem dX6_init_121 : nv_dc qX6_init 121 (.iinc 1 1) 3 124 := ⟨by decide +kernel, rfl⟩
theorem dX6_init_124 : nv_dgo qX6_init 124 106 := ⟨(-18), by decide +kernel, by decide⟩
theorem dX6_init_127 : nv_dk qX6_init 127 0 128 := Or.inl ⟨0, ⟨by decide +kernel, rfl⟩, by decide⟩
theorem dX6_init_128 : nv_distore qX6_init 128 1 129 := Or.inr ⟨1, rfl, by decide +kernel, rfl⟩
theorem dX6_init_129 : nv_diload qX6_init 129 1 130 := Or.inr ⟨1, rfl, by decide +kernel, rfl⟩
theorem dX6_init_130 : nv_dk qX6_init 130 12 132 := Or.inr (Or.inl ⟨12, ⟨by decide +kernel, rfl⟩, by decide⟩)
theorem dX6_init_132 : nv_dic qX6_init 132 .ge 154 135 := ⟨22, by decide +kernel, by decide, rfl⟩
theorem dX6_init_135 : nv_daload qX6_init 135 0 136 := Or.inr ⟨0, rfl, by decide +kernel, rfl⟩
theorem dX6_init_136 : nv_dc qX6_init 136 (.getfield 15) 3 139 := ⟨by decide +kernel, rfl⟩
theorem dX6_init_139 : nv_diload qX6_init 139 1 140 := Or.inr ⟨1, rfl, by decide +kernel, rfl⟩
theorem dX6_init_140 : nv_dc qX6_init 140 (.new 13) 3 143 := ⟨by decide +kernel, rfl⟩
theorem dX6_init_143 : nv_dc qX6_init 143 (.dup) 1 144 := ⟨by decide +kernel, rfl⟩
theorem dX6_init_144 : nv_dc qX6_init 144 (.invokespecial 64) 3 147 := ⟨by decide +kernel, rfl⟩
theorem dX6_init_147 : nv_dc qX6_init 147 (.aastore) 1 148 := ⟨by decide +kernel, rfl⟩
theorem dX6_init_148 : nv_dc qX6_init 148 (.iinc 1 1) 3 151 := ⟨by decide +kernel, rfl⟩
theorem dX6_init_151 : nv_dgo qX6_init 151 129 := ⟨(-22), by decide +kernel, by decide⟩
theorem dX6_init_154 : nv_dk qX6_init 154 0 155 := Or.inl ⟨0, ⟨by decide +kernel, rfl⟩, by decide⟩
theorem dX6_init_155 : nv_distore qX6_init 155 1 156 := Or.inr ⟨1, rfl, by decide +kernel, rfl⟩
theorem dX6_init_156 : nv_diload qX6_init 156 1 157 := Or.inr ⟨1, rfl, by decide +kernel, rfl⟩
theorem dX6_init_157 : nv_dk qX6_init 157 12 159 := Or.inr (Or.inl ⟨12, ⟨by decide +kernel, rfl⟩, by decide⟩)
theorem dX6_init_159 : nv_dic qX6_init 159 .ge 181 162 := ⟨22, by decide +kernel, by decide, rfl⟩
theorem dX6_init_162 : nv_daload qX6_init 162 0 163 := Or.inr ⟨0, rfl, by decide +kernel, rfl⟩
theorem dX6_init_163 : nv_dc qX6_init 163 (.getfield 21) 3 166 := ⟨by decide +kernel, rfl⟩
theorem dX6_init_166 : nv_diload qX6_init 166 1 167 := Or.inr ⟨1, rfl, by decide +kernel, rfl⟩
theorem dX6_init_167 : nv_dc qX6_init 167 (.new 19) 3 170 := ⟨by decide +kernel, rfl⟩
theorem dX6_init_170 : nv_dc qX6_init 170 (.dup) 1 171 := ⟨by decide +kernel, rfl⟩
theorem dX6_init_171 : nv_dc qX6_init 171 (.invokespecial 65) 3 174 := ⟨by decide +kernel, rfl⟩
theorem dX6_init_174 : nv_dc qX6_init 174 (.aastore) 1 175 := ⟨by decide +kernel, rfl⟩
theorem dX6_init_175 : nv_dc qX6_init 175 (.iinc 1 1) 3 178 := ⟨by decide +kernel, rfl⟩
theorem dX6_init_178 : nv_dgo qX6_init 178 156 := ⟨(-22), by decide +kernel, by decide⟩
theorem dX6_init_181 : nv_dk qX6_init 181 0 182 := Or.inl ⟨0, ⟨by decide +kernel, rfl⟩, by decide⟩
theorem dX6_init_182 : nv_distore qX6_init 182 1 183 := Or.inr ⟨1, rfl, by decide +kernel, rfl⟩
theorem dX6_init_183 : nv_diload qX6_init 183 1 184 := Or.inr ⟨1, rfl, by decide +kernel, rfl⟩
theorem dX6_init_184 : nv_dk qX6_init 184 10 186 := Or.inr (Or.inl ⟨10, ⟨by decide +kernel, rfl⟩, by decide⟩)
theorem dX6_init_186 : nv_dic qX6_init 186 .ge 208 189 := ⟨22, by decide +kernel, by decide, rfl⟩
theorem dX6_init_189 : nv_daload qX6_init 189 0 190 := Or.inr ⟨0, rfl, by decide +kernel, rfl⟩
theorem dX6_init_190 : nv_dc qX6_init 190 (.getfield 27) 3 193 := ⟨by decide +kernel, rfl⟩
theorem dX6_init_193 : nv_diload qX6_init 193 1 194 := Or.inr ⟨1, rfl, by decide +kernel, rfl⟩
theorem dX6_init_194 : nv_dc qX6_init 194 (.new 25) 3 197 := ⟨by decide +kernel, rfl⟩
theorem dX6_init_197 : nv_dc qX6_init 197 (.dup) 1 198 := ⟨by decide +kernel, rfl⟩
theorem dX6_init_198 : nv_dc qX6_init 198 (.invokespecial 66) 3 201 := ⟨by decide +kernel, rfl⟩
theorem dX6_init_201 : nv_dc qX6_init 201 (.aastore) 1 202 := ⟨by decide +kernel, rfl⟩
theorem dX6_init_202 : nv_dc qX6_init 202 (.iinc 1 1) 3 205 := ⟨by decide +kernel, rfl⟩
theorem dX6_init_205 : nv_dgo qX6_init 205 183 := ⟨(-22), by decide +kernel, by decide⟩
theorem dX6_init_208 : nv_dk qX6_init 208 0 209 := Or.inl ⟨0, ⟨by decide +kernel, rfl⟩, by decide⟩
theorem dX6_init_209 : nv_distore qX6_init 209 1 210 := Or.inr ⟨1, rfl, by decide +kernel, rfl⟩
theorem dX6_init_210 : nv_diload qX6_init 210 1 211 := Or.inr ⟨1, rfl, by decide +kernel, rfl⟩
theorem dX6_init_211 : nv_dk qX6_init 211 12 213 := Or.inr (Or.inl ⟨12, ⟨by decide +kernel, rfl⟩, by decide⟩)
theorem dX6_init_213 : nv_dic qX6_init 213 .ge 235 216 := ⟨22, by decide +kernel, by decide, rfl⟩
theorem dX6_init_216 : nv_daload qX6_init 216 0 217 := Or.inr ⟨0, rfl, by decide +kernel, rfl⟩
theorem dX6_init_217 : nv_dc qX6_init 217 (.getfield 33) 3 220 := ⟨by decide +kernel, rfl⟩
theorem dX6_init_220 : nv_diload qX6_init 220 1 221 := Or.inr ⟨1, rfl, by decide +kernel, rfl⟩
theorem dX6_init_221 : nv_dc qX6_init 221 (.new 31) 3 224 := ⟨by decide +kernel, rfl⟩
theorem dX6_init_224 : nv_dc qX6_init 224 (.dup) 1 225 := ⟨by decide +kernel, rfl⟩
theorem dX6_init_225 : nv_dc qX6_init 225 (.invokespecial 67) 3 228 := ⟨by decide +kernel, rfl⟩
theorem dX6_init_228 : nv_dc qX6_init 228 (.aastore) 1 229 := ⟨by decide +kernel, rfl⟩
theorem dX6_init_229 : nv_dc qX6_init 229 (.iinc 1 1) 3 232 := ⟨by decide +kernel, rfl⟩
theorem dX6_init_232 : nv_dgo qX6_init 232 210 := ⟨(-22), by decide +kernel, by decide⟩
theorem dX6_init_235 : nv_dk qX6_init 235 0 236 := Or.inl ⟨0, ⟨by decide +kernel, rfl⟩, by decide⟩
theorem dX6_init_236 : nv_distore qX6_init 236 1 237 := Or.inr ⟨1, rfl, by decide +kernel, rfl⟩
theorem dX6_init_237 : nv_diload qX6_init 237 1 238 := Or.inr ⟨1, rfl, by decide +kernel, rfl⟩
theorem dX6_init_238 : nv_dk qX6_init 238 2 239 := Or.inl ⟨2, ⟨by decide +kernel, rfl⟩, by decide⟩
theorem dX6_init_239 : nv_dic qX6_init 239 .ge 261 242 := ⟨22, by decide +kernel, by decide, rfl⟩
theorem dX6_init_242 : nv_daload qX6_init 242 0 243 := Or.inr ⟨0, rfl, by decide +kernel, rfl⟩
theorem dX6_init_243 : nv_dc qX6_init 243 (.getfield 39) 3 246 := ⟨by decide +kernel, rfl⟩
theorem dX6_init_246 : nv_diload qX6_init 246 1 247 := Or.inr ⟨1, rfl, by decide +kernel, rfl⟩
theorem dX6_init_247 : nv_dc qX6_init 247 (.new 37) 3 250 := ⟨by decide +kernel, rfl⟩
theorem dX6_init_250 : nv_dc qX6_init 250 (.dup) 1 251 := ⟨by decide +kernel, rfl⟩
theorem dX6_init_251 : nv_dc qX6_init 251 (.invokespecial 68) 3 254 := ⟨by decide +kernel, rfl⟩
theorem dX6_init_254 : nv_dc qX6_init 254 (.aastore) 1 255 := ⟨by decide +kernel, rfl⟩
theorem dX6_init_255 : nv_dc qX6_init 255 (.iinc 1 1) 3 258 := ⟨by decide +kernel, rfl⟩
theorem dX6_init_258 : nv_dgo qX6_init 258 237 := ⟨(-21), by decide +kernel, by decide⟩
theorem dX6_init_261 : nv_dk qX6_init 261 0 262 := Or.inl ⟨0, ⟨by decide +kernel, rfl⟩, by decide⟩
theorem dX6_init_262 : nv_distore qX6_init 262 1 263 := Or.inr ⟨1, rfl, by decide +kernel, rfl⟩
theorem dX6_init_263 : nv_diload qX6_init 263 1 264 := Or.inr ⟨1, rfl, by decide +kernel, rfl⟩
theorem dX6_init_264 : nv_dk qX6_init 264 4 265 := Or.inl ⟨4, ⟨by decide +kernel, rfl⟩, by decide⟩
theorem dX6_init_265 : nv_dic qX6_init 265 .ge 287 268 := ⟨22, by decide +kernel, by decide, rfl⟩
theorem dX6_init_268 : nv_daload qX6_init 268 0 269 := Or.inr ⟨0, rfl, by decide +kernel, rfl⟩
theorem dX6_init_269 : nv_dc qX6_init 269 (.getfield 45) 3 272 := ⟨by decide +kernel, rfl⟩
theorem dX6_init_272 : nv_diload qX6_init 272 1 273 := Or.inr ⟨1, rfl, by decide +kernel, rfl⟩
theorem dX6_init_273 : nv_dc qX6_init 273 (.new 43) 3 276 := ⟨by decide +kernel, rfl⟩
theorem dX6_init_276 : nv_dc qX6_init 276 (.dup) 1 277 := ⟨by decide +kernel, rfl⟩
theorem dX6_init_277 : nv_dc qX6_init 277 (.invokespecial 69) 3 280 := ⟨by decide +kernel, rfl⟩
theorem dX6_init_280 : nv_dc qX6_init 280 (.aastore) 1 281 := ⟨by decide +kernel, rfl⟩
theorem dX6_init_281 : nv_dc qX6_init 281 (.iinc 1 1) 3 284 := ⟨by decide +kernel, rfl⟩
theorem dX6_init_284 : nv_dgo qX6_init 284 263 := ⟨(-21), by decide +kernel, by decide⟩
theorem dX6_init_287 : decode qX6_init.2.1 287 = .ok (.return_, 1) := by decide +kernel
theorem dX7_init_0 : nv_daload qX7_init 0 0 1 := Or.inr ⟨0, rfl, by decide +kernel, rfl⟩
theorem dX7_init_1 : nv_dc qX7_init 1 (.invokespecial 1) 3 4 := ⟨by decide +kernel, rfl⟩
theorem dX7_init_4 : nv_daload qX7_init 4 0 5 := Or.inr ⟨0, rfl, by decide +kernel, rfl⟩
theorem dX7_init_5 : nv_dk qX7_init 5 4 6 := Or.inl ⟨4, ⟨by decide +kernel, rfl⟩, by decide⟩
theorem dX7_init_6 : nv_dc qX7_init 6 (.newarray .int) 2 8 := ⟨by decide +kernel, rfl⟩
theorem dX7_init_8 : nv_dc qX7_init 8 (.putfield 7) 3 11 := ⟨by decide +kernel, rfl⟩
theorem dX7_init_11 : nv_daload qX7_init 11 0 12 := Or.inr ⟨0, rfl, by decide +kernel, rfl⟩
theorem dX7_init_12 : nv_dk qX7_init 12 4 13 := Or.inl ⟨4, ⟨by decide +kernel, rfl⟩, by decide⟩
theorem dX7_init_13 : nv_dc qX7_init 13 (.newarray .int) 2 15 := ⟨by decide +kernel, rfl⟩
theorem dX7_init_15 : nv_dc qX7_init 15 (.putfield 13) 3 18 := ⟨by decide +kernel, rfl⟩
theorem dX7_init_18 : nv_daload qX7_init 18 0 19 := Or.inr ⟨0, rfl, by decide +kernel, rfl⟩
theorem dX7_init_19 : nv_dk qX7_init 19 240 22 := Or.inr (Or.inr ⟨240, ⟨by decide +kernel, rfl⟩, by decide⟩)
theorem dX7_init_22 : nv_dc qX7_init 22 (.newarray .int) 2 24 := ⟨by decide +kernel, rfl⟩
theorem dX7_init_24 : nv_dc qX7_init 24 (.putfield 16) 3 27 := ⟨by decide +kernel, rfl⟩
theorem dX7_init_27 : nv_daload qX7_init 27 0 28 := Or.inr ⟨0, rfl, by decide +kernel, rfl⟩
theorem dX7_init_28 : nv_dk qX7_init 28 60 30 := Or.inr (Or.inl ⟨60, ⟨by decide +kernel, rfl⟩, by decide⟩)
theorem dX7_init_30 : nv_dc qX7_init 30 (.newarray .int) 2 32 := ⟨by decide +kernel, rfl⟩
theorem dX7_init_32 : nv_dc qX7_init 32 (.putfield 19) 3 35 := ⟨by decide +kernel, rfl⟩
theorem dX7_init_35 : nv_daload qX7_init 35 0 36 := Or.inr ⟨0, rfl, by decide +kernel, rfl⟩
theorem dX7_init_36 : nv_dk qX7_init 36 8 38 := Or.inr (Or.inl ⟨8, ⟨by decide +kernel, rfl⟩, by decide⟩)
theorem dX7_init_38 : nv_dc qX7_init 38 (.newarray .int) 2 40 := ⟨by decide +kernel, rfl⟩
theorem dX7_init_40 : nv_dc qX7_init 40 (.putfield 22) 3 43 := ⟨by decide +kernel, rfl⟩
theorem dX7_init_43 : nv_daload qX7_init 43 0 44 := Or.inr ⟨0, rfl, by decide +kernel, rfl⟩
theorem dX7_init_44 : nv_dk qX7_init 44 13 46 := Or.inr (Or.inl ⟨13, ⟨by decide +kernel, rfl⟩, by decide⟩)
theorem dX7_init_46 : nv_dc qX7_init 46 (.newarray .int) 2 48 := ⟨by decide +kernel, rfl⟩
theorem dX7_init_48 : nv_dc qX7_init 48 (.putfield 25) 3 51 := ⟨by decide +kernel, rfl⟩
theorem dX7_init_51 : nv_daload qX7_init 51 0 52 := Or.inr ⟨0, rfl, by decide +kernel, rfl⟩
theorem dX7_init_52 : nv_dk qX7_init 52 13 54 := Or.inr (Or.inl ⟨13, ⟨by decide +kernel, rfl⟩, by decide⟩)
theorem dX7_init_54 : nv_dc qX7_init 54 (.newarray .int) 2 56 := ⟨by decide +kernel, rfl⟩
theorem dX7_init_56 : nv_dc qX7_init 56 (.putfield 28) 3 59 := ⟨by decide +kernel, rfl⟩
theorem dX7_init_59 : nv_daload qX7_init 59 0 60 := Or.inr ⟨0, rfl, by decide +kernel, rfl⟩
theorem dX7_init_60 : nv_dk qX7_init 60 13 62 := Or.inr (Or.inl ⟨13, ⟨by decide +kernel, rfl⟩, by decide⟩)
theorem dX7_init_62 : nv_dc qX7_init 62 (.newarray .int) 2 64 := ⟨by decide +kernel, rfl⟩
theorem dX7_init_64 : nv_dc qX7_init 64 (.putfield 31) 3 67 := ⟨by decide +kernel, rfl⟩
theorem dX7_init_67 : nv_daload qX7_init 67 0 68 := Or.inr ⟨0, rfl, by decide +kernel, rfl⟩
theorem dX7_init_68 : nv_dk qX7_init 68 13 70 := Or.inr (Or.inl ⟨13, ⟨by decide +kernel, rfl⟩, by decide⟩)
theorem dX7_init_70 : nv_dc qX7_init 70 (.newarray .int) 2 72 := ⟨by decide +kernel, rfl⟩
theorem dX7_init_72 : nv_dc qX7_init 72 (.putfield 34) 3 75 := ⟨by decide +kernel, rfl⟩
theorem dX7_init_75 : nv_daload qX7_init 75 0 76 := Or.inr ⟨0, rfl, by decide +kernel, rfl⟩
theorem dX7_init_76 : nv_dk qX7_init 76 13 78 := Or.inr (Or.inl ⟨13, ⟨by decide +kernel, rfl⟩, by decide⟩)
theorem dX7_init_78 : nv_dc qX7_init 78 (.newarray .int) 2 80 := ⟨by decide +kernel, rfl⟩
theorem dX7_init_80 : nv_dc qX7_init 80 (.putfield 37) 3 83 := ⟨by decide +kernel, rfl⟩
theorem dX7_init_83 : nv_daload qX7_init 83 0 84 := Or.inr ⟨0, rfl, by decide +kernel, rfl⟩
theorem dX7_init_84 : nv_dk qX7_init 84 13 86 := Or.inr (Or.inl ⟨13, ⟨by decide +kernel, rfl⟩, by decide⟩)
theorem dX7_init_86 : nv_dc qX7_init 86 (.newarray .int) 2 88 := ⟨by decide +kernel, rfl⟩
theorem dX7_init_88 : nv_dc qX7_init 88 (.putfield 40) 3 91 := ⟨by decide +kernel, rfl⟩
theorem dX7_init_91 : nv_daload qX7_init 91 0 92 := Or.inr ⟨0, rfl, by decide +kernel, rfl⟩
theorem dX7_init_92 : nv_dk qX7_init 92 13 94 := Or.inr (Or.inl ⟨13, ⟨by decide +kernel, rfl⟩, by decide⟩)
theorem dX7_init_94 : nv_dc qX7_init 94 (.newarray .int) 2 96 := ⟨by decide +kernel, rfl⟩
theorem dX7_init_96 : nv_dc qX7_init 96 (.putfield 43) 3 99 := ⟨by decide +kernel, rfl⟩
theorem dX7_init_99 : nv_daload qX7_init 99 0 100 := Or.inr ⟨0, rfl, by decide +kernel, rfl⟩
theorem dX7_init_100 : nv_dk qX7_init 100 13 102 := Or.inr (Or.inl ⟨13, ⟨by decide +kernel, rfl⟩, by decide⟩)
theorem dX7_init_102 : nv_dc qX7_init 102 (.newarray .int) 2 104 := ⟨by decide +kernel, rfl⟩
theorem dX7_init_104 : nv_dc qX7_init 104 (.putfield 46) 3 107 := ⟨by decide +kernel, rfl⟩
theorem dX7_init_107 : nv_daload qX7_init 107 0 108 := Or.inr ⟨0, rfl, by decide +kernel, rfl⟩
theorem dX7_init_108 : nv_dk qX7_init 108 13 110 := Or.inr (Or.inl ⟨13, ⟨by decide +kernel, rfl⟩, by decide⟩)
theorem dX7_init_110 : nv_dc qX7_init 110 (.newarray .int) 2 112 := ⟨by decide +kernel, rfl⟩
theorem dX7_init_112 : nv_dc qX7_init 112 (.putfield 49) 3 115 := ⟨by decide +kernel, rfl⟩
theorem dX7_init_115 : nv_daload qX7_init 115 0 116 := Or.inr ⟨0, rfl, by decide +kernel, rfl⟩
theorem dX7_init_116 : nv_dk qX7_init 116 13 118 := Or.inr (Or.inl ⟨13, ⟨by decide +kernel, rfl⟩, by decide⟩)
theorem dX7_init_118 : nv_dc qX7_init 118 (.newarray .int) 2 120 := ⟨by decide +kernel, rfl⟩
theorem dX7_init_120 : nv_dc qX7_init 120 (.putfield 52) 3 123 := ⟨by decide +kernel, rfl⟩
theorem dX7_init_123 : nv_daload qX7_init 123 0 124 := Or.inr ⟨0, rfl, by decide +kernel, rfl⟩
theorem dX7_init_124 : nv_dk qX7_init 124 12 126 := Or.inr (Or.inl ⟨12, ⟨by decide +kernel, rfl⟩, by decide⟩)
theorem dX7_init_126 : nv_dc qX7_init 126 (.newarray .int) 2 128 := ⟨by decide +kernel, rfl⟩
theorem dX7_init_128 : nv_dc qX7_init 128 (.putfield 55) 3 131 := ⟨by decide +kernel, rfl⟩
theorem dX7_init_131 : nv_daload qX7_init 131 0 132 := Or.inr ⟨0, rfl, by decide +kernel, rfl⟩
theorem dX7_init_132 : nv_dk qX7_init 132 12 134 := Or.inr (Or.inl ⟨12, ⟨by decide +kernel, rfl⟩, by decide⟩)
theorem dX7_init_134 : nv_dc qX7_init 134 (.newarray .int) 2 136 := ⟨by decide +kernel, rfl⟩
theorem dX7_init_136 : nv_dc qX7_init 136 (.putfield 58) 3 139 := ⟨by decide +kernel, rfl⟩
theorem dX7_init_139 : nv_daload qX7_init 139 0 140 := Or.inr ⟨0, rfl, by decide +kernel, rfl⟩
theorem dX7_init_140 : nv_dk qX7_init 140 12 142 := Or.inr (Or.inl ⟨12, ⟨by decide +kernel, rfl⟩, by decide⟩)
theorem dX7_init_142 : nv_dc qX7_init 142 (.newarray .int) 2 144 := ⟨by decide +kernel, rfl⟩
theorem dX7_init_144 : nv_dc qX7_init 144 (.putfield 61) 3 147 := ⟨by decide +kernel, rfl⟩
theorem dX7_init_147 : nv_daload qX7_init 147 0 148 := Or.inr ⟨0, rfl, by decide +kernel, rfl⟩
theorem dX7_init_148 : nv_dk qX7_init 148 12 150 := Or.inr (Or.inl ⟨12, ⟨by decide +kernel, rfl⟩, by decide⟩)
theorem dX7_init_150 : nv_dc qX7_init 150 (.newarray .int) 2 152 := ⟨by decide +kernel, rfl⟩
theorem dX7_init_152 : nv_dc qX7_init 152 (.putfield 64) 3 155 := ⟨by decide +kernel, rfl⟩
theorem dX7_init_155 : nv_daload qX7_init 155 0 156 := Or.inr ⟨0, rfl, by decide +kernel, rfl⟩
theorem dX7_init_156 : nv_dk qX7_init 156 12 158 := Or.inr (Or.inl ⟨12, ⟨by decide +kernel, rfl⟩, by decide⟩)
theorem dX7_init_158 : nv_dc qX7_init 158 (.newarray .int) 2 160 := ⟨by decide +kernel, rfl⟩
theorem dX7_init_160 : nv_dc qX7_init 160 (.putfield 67) 3 163 := ⟨by decide +kernel, rfl⟩
theorem dX7_init_163 : nv_daload qX7_init 163 0 164 := Or.inr ⟨0, rfl, by decide +kernel, rfl⟩
theorem dX7_init_164 : nv_dk qX7_init 164 10 166 := Or.inr (Or.inl ⟨10, ⟨by decide +kernel, rfl⟩, by decide⟩)
theorem dX7_init_166 : nv_dc qX7_init 166 (.newarray .int) 2 168 := ⟨by decide +kernel, rfl⟩
theorem dX7_init_168 : nv_dc qX7_init 168 (.putfield 70) 3 171 := ⟨by decide +kernel, rfl⟩
theorem dX7_init_171 : nv_daload qX7_init 171 0 172 := Or.inr ⟨0, rfl, by decide +kernel, rfl⟩
theorem dX7_init_172 : nv_dk qX7_init 172 10 174 := Or.inr (Or.inl ⟨10, ⟨by decide +kernel, rfl⟩, by decide⟩)
theorem dX7_init_174 : nv_dc qX7_init 174 (.newarray .int) 2 176 := ⟨by decide +kernel, rfl⟩
theorem dX7_init_176 : nv_dc qX7_init 176 (.putfield 73) 3 179 := ⟨by decide +kernel, rfl⟩
theorem dX7_init_179 : nv_daload qX7_init 179 0 180 := Or.inr ⟨0, rfl, by decide +kernel, rfl⟩
theorem dX7_init_180 : nv_dk qX7_init 180 10 182 := Or.inr (Or.inl ⟨10, ⟨by decide +kernel, rfl⟩, by decide⟩)
theorem dX7_init_182 : nv_dc qX7_init 182 (.newarray .int) 2 184 := ⟨by decide +kernel, rfl⟩
theorem dX7_init_184 : nv_dc qX7_init 184 (.putfield 76) 3 187 := ⟨by decide +kernel, rfl⟩
theorem dX7_init_187 : nv_daload qX7_init 187 0 188 := Or.inr ⟨0, rfl, by decide +kernel, rfl⟩
theorem dX7_init_188 : nv_dk qX7_init 188 10 190 := Or.inr (Or.inl ⟨10, ⟨by decide +kernel, rfl⟩, by decide⟩)
theorem dX7_init_190 : nv_dc qX7_init 190 (.newarray .int) 2 192 := ⟨by decide +kernel, rfl⟩
theorem dX7_init_192 : nv_dc qX7_init 192 (.putfield 79) 3 195 := ⟨by decide +kernel, rfl⟩
theorem dX7_init_195 : nv_daload qX7_init 195 0 196 := Or.inr ⟨0, rfl, by decide +kernel, rfl⟩
theorem dX7_init_196 : nv_dk qX7_init 196 10 198 := Or.inr (Or.inl ⟨10, ⟨by decide +kernel, rfl⟩, by decide⟩)
theorem dX7_init_198 : nv_dc qX7_init 198 (.newarray .int) 2 200 := ⟨by decide +kernel, rfl⟩
theorem dX7_init_200 : nv_dc qX7_init 200 (.putfield 82) 3 203 := ⟨by decide +kernel, rfl⟩
theorem dX7_init_203 : nv_daload qX7_init 203 0 204 := Or.inr ⟨0, rfl, by decide +kernel, rfl⟩
theorem dX7_init_204 : nv_dk qX7_init 204 10 206 := Or.inr (Or.inl ⟨10, ⟨by decide +kernel, rfl⟩, by decide⟩)
theorem dX7_init_206 : nv_dc qX7_init 206 (.newarray .int) 2 208 := ⟨by decide +kernel, rfl⟩
theorem dX7_init_208 : nv_dc qX7_init 208 (.putfield 85) 3 211 := ⟨by decide +kernel, rfl⟩
theorem dX7_init_211 : nv_daload qX7_init 211 0 212 := Or.inr ⟨0, rfl, by decide +kernel, rfl⟩
theorem dX7_init_212 : nv_dk qX7_init 212 12 214 := Or.inr (Or.inl ⟨12, ⟨by decide +kernel, rfl⟩, by decide⟩)
theorem dX7_init_214 : nv_dc qX7_init 214 (.newarray .int) 2 216 := ⟨by decide +kernel, rfl⟩
theorem dX7_init_216 : nv_dc qX7_init 216 (.putfield 88) 3 219 := ⟨by decide +kernel, rfl⟩
theorem dX7_init_219 : nv_daload qX7_init 219 0 220 := Or.inr ⟨0, rfl, by decide +kernel, rfl⟩
theorem dX7_init_220 : nv_dk qX7_init 220 12 222 := Or.inr (Or.inl ⟨12, ⟨by decide +kernel, rfl⟩, by decide⟩)
theorem dX7_init_222 : nv_dc qX7_init 222 (.newarray .int) 2 224 := ⟨by decide +kernel, rfl⟩
theorem dX7_init_224 : nv_dc qX7_init 224 (.putfield 91) 3 227 := ⟨by decide +kernel, rfl⟩
theorem dX7_init_227 : nv_daload qX7_init 227 0 228 := Or.inr ⟨0, rfl, by decide +kernel, rfl⟩
theorem dX7_init_228 : nv_dk qX7_init 228 12 230 := Or.inr (Or.inl ⟨12, ⟨by decide +kernel, rfl⟩, by decide⟩)
theorem dX7_init_230 : nv_dc qX7_init 230 (.newarray .int) 2 232 := ⟨by decide +kernel, rfl⟩
theorem dX7_init_232 : nv_dc qX7_init 232 (.putfield 94) 3 235 := ⟨by decide +kernel, rfl⟩
theorem dX7_init_235 : nv_daload qX7_init 235 0 236 := Or.inr ⟨0, rfl, by decide +kernel, rfl⟩
theorem dX7_init_236 : nv_dk qX7_init 236 12 238 := Or.inr (Or.inl ⟨12, ⟨by decide +kernel, rfl⟩, by decide⟩)
theorem dX7_init_238 : nv_dc qX7_init 238 (.newarray .int) 2 240 := ⟨by decide +kernel, rfl⟩
theorem dX7_init_240 : nv_dc qX7_init 240 (.putfield 97) 3 243 := ⟨by decide +kernel, rfl⟩
theorem dX7_init_243 : nv_daload qX7_init 243 0 244 := Or.inr ⟨0, rfl, by decide +kernel, rfl⟩
theorem dX7_init_244 : nv_dk qX7_init 244 12 246 := Or.inr (Or.inl ⟨12, ⟨by decide +kernel, rfl⟩, by decide⟩)
theorem dX7_init_246 : nv_dc qX7_init 246 (.newarray .int) 2 248 := ⟨by decide +kernel, rfl⟩
theorem dX7_init_248 : nv_dc qX7_init 248 (.putfield 100) 3 251 := ⟨by decide +kernel, rfl⟩
theorem dX7_init_251 : nv_daload qX7_init 251 0 252 := Or.inr ⟨0, rfl, by decide +kernel, rfl⟩
theorem dX7_init_252 : nv_dk qX7_init 252 120 254 := Or.inr (Or.inl ⟨120, ⟨by decide +kernel, rfl⟩, by decide⟩)
theorem dX7_init_254 : nv_dc qX7_init 254 (.newarray .int) 2 256 := ⟨by decide +kernel, rfl⟩
theorem dX7_init_256 : nv_dc qX7_init 256 (.putfield 103) 3 259 := ⟨by decide +kernel, rfl⟩
theorem dX7_init_259 : nv_daload qX7_init 259 0 260 := Or.inr ⟨0, rfl, by decide +kernel, rfl⟩
theorem dX7_init_260 : nv_dk qX7_init 260 2 261 := Or.inl ⟨2, ⟨by decide +kernel, rfl⟩, by decide⟩
theorem dX7_init_261 : nv_dc qX7_init 261 (.newarray .int) 2 263 := ⟨by decide +kernel, rfl⟩
theorem dX7_init_263 : nv_dc qX7_init 263 (.putfield 106) 3 266 := ⟨by decide +kernel, rfl⟩
theorem dX7_init_266 : nv_daload qX7_init 266 0 267 := Or.inr ⟨0, rfl, by decide +kernel, rfl⟩
theorem dX7_init_267 : nv_dk qX7_init 267 18 269 := Or.inr (Or.inl ⟨18, ⟨by decide +kernel, rfl⟩, by decide⟩)
theorem dX7_init_269 : nv_dc qX7_init 269 (.newarray .int) 2 271 := ⟨by decide +kernel, rfl⟩
theorem dX7_init_271 : nv_dc qX7_init 271 (.putfield 109) 3 274 := ⟨by decide +kernel, rfl⟩
theorem dX7_init_274 : nv_daload qX7_init 274 0 275 := Or.inr ⟨0, rfl, by decide +kernel, rfl⟩
theorem dX7_init_275 : nv_dk qX7_init 275 9 277 := Or.inr (Or.inl ⟨9, ⟨by decide +kernel, rfl⟩, by decide⟩)
theorem dX7_init_277 : nv_dc qX7_init 277 (.newarray .int) 2 279 := ⟨by decide +kernel, rfl⟩
theorem dX7_init_279 : nv_dc qX7_init 279 (.putfield 112) 3 282 := ⟨by decide +kernel, rfl⟩
theorem dX7_init_282 : nv_daload qX7_init 282 0 283 := Or.inr ⟨0, rfl, by decide +kernel, rfl⟩
theorem dX7_init_283 : nv_dk qX7_init 283 8 285 := Or.inr (Or.inl ⟨8, ⟨by decide +kernel, rfl⟩, by decide⟩)
theorem dX7_init_285 : nv_dc qX7_init 285 (.newarray .int) 2 287 := ⟨by decide +kernel, rfl⟩
theorem dX7_init_287 : nv_dc qX7_init 287 (.putfield 115) 3 290 := ⟨by decide +kernel, rfl⟩
theorem dX7_init_290 : nv_daload qX7_init 290 0 291 := Or.inr ⟨0, rfl, by decide +kernel, rfl⟩
theorem dX7_init_291 : nv_dk qX7_init 291 10 293 := Or.inr (Or.inl ⟨10, ⟨by decide +kernel, rfl⟩, by decide⟩)
theorem dX7_init_293 : nv_dc qX7_init 293 (.newarray .int) 2 295 := ⟨by decide +kernel, rfl⟩
theorem dX7_init_295 : nv_dc qX7_init 295 (.putfield 118) 3 298 := ⟨by decide +kernel, rfl⟩
theorem dX7_init_298 : nv_daload qX7_init 298 0 299 := Or.inr ⟨0, rfl, by decide +kernel, rfl⟩
theorem dX7_init_299 : nv_dk qX7_init 299 6 301 := Or.inr (Or.inl ⟨6, ⟨by decide +kernel, rfl⟩, by decide⟩)
theorem dX7_init_301 : nv_dc qX7_init 301 (.newarray .int) 2 303 := ⟨by decide +kernel, rfl⟩
theorem dX7_init_303 : nv_dc qX7_init 303 (.putfield 121) 3 306 := ⟨by decide +kernel, rfl⟩
theorem dX7_init_306 : nv_daload qX7_init 306 0 307 := Or.inr ⟨0, rfl, by decide +kernel, rfl⟩
theorem dX7_init_307 : nv_dk qX7_init 307 64 309 := Or.inr (Or.inl ⟨64, ⟨by decide +kernel, rfl⟩, by decide⟩)
theorem dX7_init_309 : nv_dc qX7_init 309 (.newarray .int) 2 311 := ⟨by decide +kernel, rfl⟩
theorem dX7_init_311 : nv_dc qX7_init 311 (.putfield 124) 3 314 := ⟨by decide +kernel, rfl⟩
theorem dX7_init_314 : nv_dk qX7_init 314 0 315 := Or.inl ⟨0, ⟨by decide +kernel, rfl⟩, by decide⟩
theorem dX7_init_315 : nv_distore qX7_init 315 1 316 := Or.inr ⟨1, rfl, by decide +kernel, rfl⟩
theorem dX7_init_316 : nv_diload qX7_init 316 1 317 := Or.inr ⟨1, rfl, by decide +kernel, rfl⟩
theorem dX7_init_317 : nv_dk qX7_init 317 4 318 := Or.inl ⟨4, ⟨by decide +kernel, rfl⟩, by decide⟩
theorem dX7_init_318 : nv_dic qX7_init 318 .ge 334 321 := ⟨16, by decide +kernel, by decide, rfl⟩
theorem dX7_init_321 : nv_daload qX7_init 321 0 322 := Or.inr ⟨0, rfl, by decide +kernel, rfl⟩
theorem dX7_init_322 : nv_dc qX7_init 322 (.getfield 7) 3 325 := ⟨by decide +kernel, rfl⟩
theorem dX7_init_325 : nv_diload qX7_init 325 1 326 := Or.inr ⟨1, rfl, by decide +kernel, rfl⟩
theorem dX7_init_326 : nv_dk qX7_init 326 (-1) 327 := Or.inl ⟨(-1), ⟨by decide +kernel, rfl⟩, by decide⟩
theorem dX7_init_327 : nv_dc qX7_init 327 (.iastore) 1 328 := ⟨by decide +kernel, rfl⟩
theorem dX7_init_328 : nv_dc qX7_init 328 (.iinc 1 1) 3 331 := ⟨by decide +kernel, rfl⟩
theorem dX7_init_331 : nv_dgo qX7_init 331 316 := ⟨(-15), by decide +kernel, by decide⟩
theorem dX7_init_334 : nv_dk qX7_init 334 0 335 := Or.inl ⟨0, ⟨by decide +kernel, rfl⟩, by decide⟩
theorem dX7_init_335 : nv_distore qX7_init 335 1 336 := Or.inr ⟨1, rfl, by decide +kernel, rfl⟩
theorem dX7_init_336 : nv_diload qX7_init 336 1 337 := Or.inr ⟨1, rfl, by decide +kernel, rfl⟩
theorem dX7_init_337 : nv_dk qX7_init 337 8 339 := Or.inr (Or.inl ⟨8, ⟨by decide +kernel, rfl⟩, by decide⟩)
theorem dX7_init_339 : nv_dic qX7_init 339 .ge 357 342 := ⟨18, by decide +kernel, by decide, rfl⟩
theorem dX7_init_342 : nv_daload qX7_init 342 0 343 := Or.inr ⟨0, rfl, by decide +kernel, rfl⟩
theorem dX7_init_343 : nv_dc qX7_init 343 (.getfield 22) 3 346 := ⟨by decide +kernel, rfl⟩
theorem dX7_init_346 : nv_diload qX7_init 346 1 347 := Or.inr ⟨1, rfl, by decide +kernel, rfl⟩
theorem dX7_init_347 : nv_dk qX7_init 347 1000 350 := Or.inr (Or.inr ⟨1000, ⟨by decide +kernel, rfl⟩, by decide⟩)
theorem dX7_init_350 : nv_dc qX7_init 350 (.iastore) 1 351 := ⟨by decide +kernel, rfl⟩
theorem dX7_init_351 : nv_dc qX7_init 351 (.iinc 1 1) 3 354 := ⟨by decide +kernel, rfl⟩
theorem dX7_init_354 : nv_dgo qX7_init 354 336 := ⟨(-18), by decide +kernel, by decide⟩
theorem dX7_init_357 : decode qX7_init.2.1 357 = .ok (.return_, 1) := by decide +kernel
theorem wn_X6_13_13 : nv_Cl "WhoseName" 13 4 [none, none, none, none, none, none, none, none, none, none] := ⟨_, _, _, nvY4, rfl, rfl, wcl_X6_13, nv_gt_of 105 (by decide +kernel) (by decide +kernel), wi_X4, nvW4, nvYk4, by decide +kernel⟩
theorem wn_X6_13_14 : nv_Cl "WhoseName" 13 4 [none, none, none, none, none, none, none, none, none, none] := ⟨_, _, _, nvY4, rfl, rfl, wcl_X6_13, nv_gt_of 105 (by decide +kernel) (by decide +kernel), wi_X4, nvW4, nvYk4, by decide +kernel⟩
theorem wn_X6_13_15 : nv_Cl "WhoseName" 13 4 [none, none, none, none, none, none, none, none, none, none] := ⟨_, _, _, nvY4, rfl, rfl, wcl_X6_13, nv_gt_of 105 (by decide +kernel) (by decide +kernel), wi_X4, nvW4, nvYk4, by decide +kernel⟩
theorem wn_X6_13_16 : nv_Cl "WhoseName" 13 4 [none, none, none, none, none, none, none, none, none, none] := ⟨_, _, _, nvY4, rfl, rfl, wcl_X6_13, nv_gt_of 105 (by decide +kernel) (by decide +kernel), wi_X4, nvW4, nvYk4, by decide +kernel⟩
theorem wn_X6_13_17 : nv_Cl "WhoseName" 13 4 [none, none, none, none, none, none, none, none, none, none] := ⟨_, _, _, nvY4, rfl, rfl, wcl_X6_13, nv_gt_of 105 (by decide +kernel) (by decide +kernel), wi_X4, nvW4, nvYk4, by decide +kernel⟩
theorem wn_X6_13_18 : nv_Cl "WhoseName" 13 4 [none, none, none, none, none, none, none, none, none, none] := ⟨_, _, _, nvY4, rfl, rfl, wcl_X6_13, nv_gt_of 105 (by decide +kernel) (by decide +kernel), wi_X4, nvW4, nvYk4, by decide +kernel⟩
theorem wn_X6_13_19 : nv_Cl "WhoseName" 13 4 [none, none, none, none, none, none, none, none, none, none] := ⟨_, _, _, nvY4, rfl, rfl, wcl_X6_13, nv_gt_of 105 (by decide +kernel) (by decide +kernel), wi_X4, nvW4, nvYk4, by decide +kernel⟩
theorem wn_X6_13_20 : nv_Cl "WhoseName" 13 4 [none, none, none, none, none, none, none, none, none, none] := ⟨_, _, _, nvY4, rfl, rfl, wcl_X6_13, nv_gt_of 105 (by decide +kernel) (by decide +kernel), wi_X4, nvW4, nvYk4, by decide +kernel⟩
theorem wn_X6_13_21 : nv_Cl "WhoseName" 13 4 [none, none, none, none, none, none, none, none, none, none] := ⟨_, _, _, nvY4, rfl, rfl, wcl_X6_13, nv_gt_of 105 (by decide +kernel) (by decide +kernel), wi_X4, nvW4, nvYk4, by decide +kernel⟩
theorem wn_X6_13_22 : nv_Cl "WhoseName" 13 4 [none, none, none, none, none, none, none, none, none, none] := ⟨_, _, _, nvY4, rfl, rfl, wcl_X6_13, nv_gt_of 105 (by decide +kernel) (by decide +kernel), wi_X4, nvW4, nvYk4, by decide +kernel⟩
theorem wn_X6_13_23 : nv_Cl "WhoseName" 13 4 [none, none, none, none, none, none, none, none, none, none] := ⟨_, _, _, nvY4, rfl, rfl, wcl_X6_13, nv_gt_of 105 (by decide +kernel) (by decide +kernel), wi_X4, nvW4, nvYk4, by decide +kernel⟩
theorem wn_X6_13_24 : nv_Cl "WhoseName" 13 4 [none, none, none, none, none, none, none, none, none, none] := ⟨_, _, _, nvY4, rfl, rfl, wcl_X6_13, nv_gt_of 105 (by decide +kernel) (by decide +kernel), wi_X4, nvW4, nvYk4, by decide +kernel⟩
theorem wn_X6_19_25 : nv_Cl "WhoseName" 19 1 [none, none, none, none] := ⟨_, _, _, nvY1, rfl, rfl, wcl_X6_19, nv_gt_of 142 (by decide +kernel) (by decide +kernel), wi_X1, nvW1, nvYk1, by decide +kernel⟩
theorem wn_X6_19_26 : nv_Cl "WhoseName" 19 1 [none, none, none, none] := ⟨_, _, _, nvY1, rfl, rfl, wcl_X6_19, nv_gt_of 142 (by decide +kernel) (by decide +kernel), wi_X1, nvW1, nvYk1, by decide +kernel⟩
theorem wn_X6_19_27 : nv_Cl "WhoseName" 19 1 [none, none, none, none] := ⟨_, _, _, nvY1, rfl, rfl, wcl_X6_19, nv_gt_of 142 (by decide +kernel) (by decide +kernel), wi_X1, nvW1, nvYk1, by decide +kernel⟩
theorem wn_X6_19_28 : nv_Cl "WhoseName" 19 1 [none, none, none, none] := ⟨_, _, _, nvY1, rfl, rfl, wcl_X6_19, nv_gt_of 142 (by decide +kernel) (by decide +kernel), wi_X1, nvW1, nvYk1, by decide +kernel⟩
theorem wn_X6_19_29 : nv_Cl "WhoseName" 19 1 [none, none, none, none] := ⟨_, _, _, nvY1, rfl, rfl, wcl_X6_19, nv_gt_of 142 (by decide +kernel) (by decide +kernel), wi_X1, nvW1, nvYk1, by decide +kernel⟩
theorem wn_X6_19_30 : nv_Cl "WhoseName" 19 1 [none, none, none, none] := ⟨_, _, _, nvY1, rfl, rfl, wcl_X6_19, nv_gt_of 142 (by decide +kernel) (by decide +kernel), wi_X1, nvW1, nvYk1, by decide +kernel⟩
theorem wn_X6_19_31 : nv_Cl "WhoseName" 19 1 [none, none, none, none] := ⟨_, _, _, nvY1, rfl, rfl, wcl_X6_19, nv_gt_of 142 (by decide +kernel) (by decide +kernel), wi_X1, nvW1, nvYk1, by decide +kernel⟩
theorem wn_X6_19_32 : nv_Cl "WhoseName" 19 1 [none, none, none, none] := ⟨_, _, _, nvY1, rfl, rfl, wcl_X6_19, nv_gt_of 142 (by decide +kernel) (by decide +kernel), wi_X1, nvW1, nvYk1, by decide +kernel⟩
theorem wn_X6_19_33 : nv_Cl "WhoseName" 19 1 [none, none, none, none] := ⟨_, _, _, nvY1, rfl, rfl, wcl_X6_19, nv_gt_of 142 (by decide +kernel) (by decide +kernel), wi_X1, nvW1, nvYk1, by decide +kernel⟩
theorem wn_X6_19_34 : nv_Cl "WhoseName" 19 1 [none, none, none, none] := ⟨_, _, _, nvY1, rfl, rfl, wcl_X6_19, nv_gt_of 142 (by decide +kernel) (by decide +kernel), wi_X1, nvW1, nvYk1, by decide +kernel⟩
theorem wn_X6_19_35 : nv_Cl "WhoseName" 19 1 [none, none, none, none] := ⟨_, _, _, nvY1, rfl, rfl, wcl_X6_19, nv_gt_of 142 (by decide +kernel) (by decide +kernel), wi_X1, nvW1, nvYk1, by decide +kernel⟩
theorem wn_X6_19_36 : nv_Cl "WhoseName" 19 1 [none, none, none, none] := ⟨_, _, _, nvY1, rfl, rfl, wcl_X6_19, nv_gt_of 142 (by decide +kernel) (by decide +kernel), wi_X1, nvW1, nvYk1, by decide +kernel⟩
theorem wn_X6_25_37 : nv_Cl "WhoseName" 25 2 [none, none, none, none, none, none, none] := ⟨_, _, _, nvY2, rfl, rfl, wcl_X6_25, nv_gt_of 160 (by decide +kernel) (by decide +kernel), wi_X2, nvW2, nvYk2, by decide +kernel⟩
theorem wn_X6_25_38 : nv_Cl "WhoseName" 25 2 [none, none, none, none, none, none, none] := ⟨_, _, _, nvY2, rfl, rfl, wcl_X6_25, nv_gt_of 160 (by decide +kernel) (by decide +kernel), wi_X2, nvW2, nvYk2, by decide +kernel⟩
theorem wn_X6_25_39 : nv_Cl "WhoseName" 25 2 [none, none, none, none, none, none, none] := ⟨_, _, _, nvY2, rfl, rfl, wcl_X6_25, nv_gt_of 160 (by decide +kernel) (by decide +kernel), wi_X2, nvW2, nvYk2, by decide +kernel⟩
theorem wn_X6_25_40 : nv_Cl "WhoseName" 25 2 [none, none, none, none, none, none, none] := ⟨_, _, _, nvY2, rfl, rfl, wcl_X6_25, nv_gt_of 160 (by decide +kernel) (by decide +kernel), wi_X2, nvW2, nvYk2, by decide +kernel⟩
theorem wn_X6_25_41 : nv_Cl "WhoseName" 25 2 [none, none, none, none, none, none, none] := ⟨_, _, _, nvY2, rfl, rfl, wcl_X6_25, nv_gt_of 160 (by decide +kernel) (by decide +kernel), wi_X2, nvW2, nvYk2, by decide +kernel⟩
theorem wn_X6_25_42 : nv_Cl "WhoseName" 25 2 [none, none, none, none, none, none, none] := ⟨_, _, _, nvY2, rfl, rfl, wcl_X6_25, nv_gt_of 160 (by decide +kernel) (by decide +kernel), wi_X2, nvW2, nvYk2, by decide +kernel⟩
theorem wn_X6_25_43 : nv_Cl "WhoseName" 25 2 [none, none, none, none, none, none, none] := ⟨_, _, _, nvY2, rfl, rfl, wcl_X6_25, nv_gt_of 160 (by decide +kernel) (by decide +kernel), wi_X2, nvW2, nvYk2, by decide +kernel⟩
theorem wn_X6_25_44 : nv_Cl "WhoseName" 25 2 [none, none, none, none, none, none, none] := ⟨_, _, _, nvY2, rfl, rfl, wcl_X6_25, nv_gt_of 160 (by decide +kernel) (by decide +kernel), wi_X2, nvW2, nvYk2, by decide +kernel⟩
theorem wn_X6_25_45 : nv_Cl "WhoseName" 25 2 [none, none, none, none, none, none, none] := ⟨_, _, _, nvY2, rfl, rfl, wcl_X6_25, nv_gt_of 160 (by decide +kernel) (by decide +kernel), wi_X2, nvW2, nvYk2, by decide +kernel⟩
theorem wn_X6_25_46 : nv_Cl "WhoseName" 25 2 [none, none, none, none, none, none, none] := ⟨_, _, _, nvY2, rfl, rfl, wcl_X6_25, nv_gt_of 160 (by decide +kernel) (by decide +kernel), wi_X2, nvW2, nvYk2, by decide +kernel⟩
theorem wn_X6_31_47 : nv_Cl "WhoseName" 31 0 [none, none, none, none, none] := ⟨_, _, _, nvY0, rfl, rfl, wcl_X6_31, nv_gt_of 189 (by decide +kernel) (by decide +kernel), wi_X0, nvW0, nvYk0, by decide +kernel⟩
theorem wn_X6_31_48 : nv_Cl "WhoseName" 31 0 [none, none, none, none, none] := ⟨_, _, _, nvY0, rfl, rfl, wcl_X6_31, nv_gt_of 189 (by decide +kernel) (by decide +kernel), wi_X0, nvW0, nvYk0, by decide +kernel⟩
theorem wn_X6_31_49 : nv_Cl "WhoseName" 31 0 [none, none, none, none, none] := ⟨_, _, _, nvY0, rfl, rfl, wcl_X6_31, nv_gt_of 189 (by decide +kernel) (by decide +kernel), wi_X0, nvW0, nvYk0, by decide +kernel⟩
theorem wn_X6_31_50 : nv_Cl "WhoseName" 31 0 [none, none, none, none, none] := ⟨_, _, _, nvY0, rfl, rfl, wcl_X6_31, nv_gt_of 189 (by decide +kernel) (by decide +kernel), wi_X0, nvW0, nvYk0, by decide +kernel⟩
theorem wn_X6_31_51 : nv_Cl "WhoseName" 31 0 [none, none, none, none, none] := ⟨_, _, _, nvY0, rfl, rfl, wcl_X6_31, nv_gt_of 189 (by decide +kernel) (by decide +kernel), wi_X0, nvW0, nvYk0, by decide +kernel⟩
theorem wn_X6_31_52 : nv_Cl "WhoseName" 31 0 [none, none, none, none, none] := ⟨_, _, _, nvY0, rfl, rfl, wcl_X6_31, nv_gt_of 189 (by decide +kernel) (by decide +kernel), wi_X0, nvW0, nvYk0, by decide +kernel⟩
theorem wn_X6_31_53 : nv_Cl "WhoseName" 31 0 [none, none, none, none, none] := ⟨_, _, _, nvY0, rfl, rfl, wcl_X6_31, nv_gt_of 189 (by decide +kernel) (by decide +kernel), wi_X0, nvW0, nvYk0, by decide +kernel⟩
theorem wn_X6_31_54 : nv_Cl "WhoseName" 31 0 [none, none, none, none, none] := ⟨_, _, _, nvY0, rfl, rfl, wcl_X6_31, nv_gt_of 189 (by decide +kernel) (by decide +kernel), wi_X0, nvW0, nvYk0, by decide +kernel⟩
theorem wn_X6_31_55 : nv_Cl "WhoseName" 31 0 [none, none, none, none, none] := ⟨_, _, _, nvY0, rfl, rfl, wcl_X6_31, nv_gt_of 189 (by decide +kernel) (by decide +kernel), wi_X0, nvW0, nvYk0, by decide +kernel⟩
theorem wn_X6_31_56 : nv_Cl "WhoseName" 31 0 [none, none, none, none, none] := ⟨_, _, _, nvY0, rfl, rfl, wcl_X6_31, nv_gt_of 189 (by decide +kernel) (by decide +kernel), wi_X0, nvW0, nvYk0, by decide +kernel⟩
theorem wn_X6_31_57 : nv_Cl "WhoseName" 31 0 [none, none, none, none, none] := ⟨_, _, _, nvY0, rfl, rfl, wcl_X6_31, nv_gt_of 189 (by decide +kernel) (by decide +kernel), wi_X0, nvW0, nvYk0, by decide +kernel⟩
theorem wn_X6_31_58 : nv_Cl "WhoseName" 31 0 [none, none, none, none, none] := ⟨_, _, _, nvY0, rfl, rfl, wcl_X6_31, nv_gt_of 189 (by decide +kernel) (by decide +kernel), wi_X0, nvW0, nvYk0, by decide +kernel⟩
theorem wn_X6_37_59 : nv_Cl "WhoseName" 37 3 [some 60, some 61, none, none] := ⟨_, _, _, nvY3, rfl, rfl, wcl_X6_37, nv_gt_of 210 (by decide +kernel) (by decide +kernel), wi_X3, nvW3, nvYk3, by decide +kernel⟩
set_option maxRecDepth 20000 in
set_option maxHeartbeats 8000000 in
theorem tk_X3_forgetParts_59 (G : nv_G) : nv_Mt G 1 qX3_forgetParts [.ref 59] ((nv_hl [(1, 7, 1000), (1, 6, 1000), (1, 5, 1000), (1, 4, 1000), (1, 3, 1000), (1, 2, 1000), (1, 1, 1000), (1, 0, 1000)]), (nv_zl [(59, 1), (59, 0), (5, 11), (5, 10), (5, 9), (5, 8), (5, 7), (5, 6), (5, 5), (5, 4), (5, 3), (5, 2), (5, 1), (5, 0), (4, 9), (4, 8), (4, 7), (4, 6), (4, 5), (4, 4), (4, 3), (4, 2), (4, 1), (4, 0), (3, 11), (3, 10), (3, 9), (3, 8), (3, 7), (3, 6), (3, 5), (3, 4), (3, 3), (3, 2), (3, 1), (3, 0), (2, 11), (2, 10), (2, 9), (2, 8), (2, 7), (2, 6), (2, 5), (2, 4), (2, 3), (2, 2), (2, 1), (2, 0), (0, 16), (0, 15), (0, 14), (0, 13), (0, 12), (0, 6), (0, 5), (0, 4), (0, 3), (0, 2), (0, 1), (0, 0)]), 62) (none, ((nv_hl [(61, 0, 1), (61, 1, 1), (61, 2, 10), (61, 3, 0), (61, 4, 10), (61, 5, 1), (61, 6, 0), (61, 7, 1), (61, 8, 1), (1, 7, 1000), (1, 6, 1000), (1, 5, 1000), (1, 4, 1000), (1, 3, 1000), (1, 2, 1000), (1, 1, 1000), (1, 0, 1000)]), (nv_zl [(59, 1), (59, 0), (5, 11), (5, 10), (5, 9), (5, 8), (5, 7), (5, 6), (5, 5), (5, 4), (5, 3), (5, 2), (5, 1), (5, 0), (4, 9), (4, 8), (4, 7), (4, 6), (4, 5), (4, 4), (4, 3), (4, 2), (4, 1), (4, 0), (3, 11), (3, 10), (3, 9), (3, 8), (3, 7), (3, 6), (3, 5), (3, 4), (3, 3), (3, 2), (3, 1), (3, 0), (2, 11), (2, 10), (2, 9), (2, 8), (2, 7), (2, 6), (2, 5), (2, 4), (2, 3), (2, 2), (2, 1), (2, 0), (0, 16), (0, 15), (0, 14), (0, 13), (0, 12), (0, 6), (0, 5), (0, 4), (0, 3), (0, 2), (0, 1), (0, 0)]), 62)) := by
  refine nv_of (by decide +kernel) (fun ad => Nat.le_of_ble_eq_true rfl) (Nat.le_of_ble_eq_true rfl) (Nat.le_of_ble_eq_true rfl) ?_
  show nv_E G 1 qX3_forgetParts 0 [some (.ref 59)] [] ((nv_hl [(1, 7, 1000), (1, 6, 1000), (1, 5, 1000), (1, 4, 1000), (1, 3, 1000), (1, 2, 1000), (1, 1, 1000), (1, 0, 1000)]), (nv_zl [(59, 1), (59, 0), (5, 11), (5, 10), (5, 9), (5, 8), (5, 7), (5, 6), (5, 5), (5, 4), (5, 3), (5, 2), (5, 1), (5, 0), (4, 9), (4, 8), (4, 7), (4, 6), (4, 5), (4, 4), (4, 3), (4, 2), (4, 1), (4, 0), (3, 11), (3, 10), (3, 9), (3, 8), (3, 7), (3, 6), (3, 5), (3, 4), (3, 3), (3, 2), (3, 1), (3, 0), (2, 11), (2, 10), (2, 9), (2, 8), (2, 7), (2, 6), (2, 5), (2, 4), (2, 3), (2, 2), (2, 1), (2, 0), (0, 16), (0, 15), (0, 14), (0, 13), (0, 12), (0, 6), (0, 5), (0, 4), (0, 3), (0, 2), (0, 1), (0, 0)]), 62) _
  refine nv_getsN (i := 2) dX3_forgetParts_0 rfl ls_X3_35 ?_
  refine nv_k dX3_forgetParts_3 ?_
  refine nv_aL dX3_forgetParts_4 rfl ?_
  refine nv_getR lf_X3_15 dX3_forgetParts_5 ⟨by decide, rfl⟩ rfl (by decide +kernel) ?_
  refine nv_k dX3_forgetParts_8 ?_
  refine nv_k dX3_forgetParts_9 ?_
  refine nv_LcpS (i := 2) dX3_forgetParts_11 lcp_X3 (by decide) rfl ⟨by decide, rfl⟩ (by decide) (Nat.le_of_ble_eq_true rfl) ?_
  exact nv_return dX3_forgetParts_14 rfl
set_option maxRecDepth 20000 in
set_option maxHeartbeats 8000000 in
theorem tk_X3_understand_59 (G : nv_G) : nv_Mt G 2 qX3_understand [.ref 59] ((nv_hl [(1, 7, 1000), (1, 6, 1000), (1, 5, 1000), (1, 4, 1000), (1, 3, 1000), (1, 2, 1000), (1, 1, 1000), (1, 0, 1000)]), (nv_zl [(59, 1), (59, 0), (5, 11), (5, 10), (5, 9), (5, 8), (5, 7), (5, 6), (5, 5), (5, 4), (5, 3), (5, 2), (5, 1), (5, 0), (4, 9), (4, 8), (4, 7), (4, 6), (4, 5), (4, 4), (4, 3), (4, 2), (4, 1), (4, 0), (3, 11), (3, 10), (3, 9), (3, 8), (3, 7), (3, 6), (3, 5), (3, 4), (3, 3), (3, 2), (3, 1), (3, 0), (2, 11), (2, 10), (2, 9), (2, 8), (2, 7), (2, 6), (2, 5), (2, 4), (2, 3), (2, 2), (2, 1), (2, 0), (0, 16), (0, 15), (0, 14), (0, 13), (0, 12), (0, 6), (0, 5), (0, 4), (0, 3), (0, 2), (0, 1), (0, 0)]), 62) (none, ((nv_hl [(59, 3, (-1)), (61, 0, 1), (61, 1, 1), (61, 2, 10), (61, 3, 0), (61, 4, 10), (61, 5, 1), (61, 6, 0), (61, 7, 1), (61, 8, 1), (1, 7, 1000), (1, 6, 1000), (1, 5, 1000), (1, 4, 1000), (1, 3, 1000), (1, 2, 1000), (1, 1, 1000), (1, 0, 1000)]), (nv_zl [(59, 1), (59, 0), (5, 11), (5, 10), (5, 9), (5, 8), (5, 7), (5, 6), (5, 5), (5, 4), (5, 3), (5, 2), (5, 1), (5, 0), (4, 9), (4, 8), (4, 7), (4, 6), (4, 5), (4, 4), (4, 3), (4, 2), (4, 1), (4, 0), (3, 11), (3, 10), (3, 9), (3, 8), (3, 7), (3, 6), (3, 5), (3, 4), (3, 3), (3, 2), (3, 1), (3, 0), (2, 11), (2, 10), (2, 9), (2, 8), (2, 7), (2, 6), (2, 5), (2, 4), (2, 3), (2, 2), (2, 1), (2, 0), (0, 16), (0, 15), (0, 14), (0, 13), (0, 12), (0, 6), (0, 5), (0, 4), (0, 3), (0, 2), (0, 1), (0, 0)]), 62)) := by
  refine nv_of (by decide +kernel) (fun ad => Nat.le_of_ble_eq_true rfl) (Nat.le_of_ble_eq_true rfl) (Nat.le_of_ble_eq_true rfl) ?_
  show nv_E G 2 qX3_understand 0 [some (.ref 59)] [] ((nv_hl [(1, 7, 1000), (1, 6, 1000), (1, 5, 1000), (1, 4, 1000), (1, 3, 1000), (1, 2, 1000), (1, 1, 1000), (1, 0, 1000)]), (nv_zl [(59, 1), (59, 0), (5, 11), (5, 10), (5, 9), (5, 8), (5, 7), (5, 6), (5, 5), (5, 4), (5, 3), (5, 2), (5, 1), (5, 0), (4, 9), (4, 8), (4, 7), (4, 6), (4, 5), (4, 4), (4, 3), (4, 2), (4, 1), (4, 0), (3, 11), (3, 10), (3, 9), (3, 8), (3, 7), (3, 6), (3, 5), (3, 4), (3, 3), (3, 2), (3, 1), (3, 0), (2, 11), (2, 10), (2, 9), (2, 8), (2, 7), (2, 6), (2, 5), (2, 4), (2, 3), (2, 2), (2, 1), (2, 0), (0, 16), (0, 15), (0, 14), (0, 13), (0, 12), (0, 6), (0, 5), (0, 4), (0, 3), (0, 2), (0, 1), (0, 0)]), 62) _
  refine nv_aL dX3_understand_0 rfl ?_
  refine nv_LcV (tk_X3_forgetParts_59 G) dX3_understand_1 lm_X3_25 y_qX3_forgetParts ⟨by decide, rfl⟩ rfl rfl (by decide) rfl rfl (Nat.le_of_ble_eq_true rfl) ?_
  show nv_E G 2 qX3_understand 4 [some (.ref 59)] [] ((nv_hl [(61, 0, 1), (61, 1, 1), (61, 2, 10), (61, 3, 0), (61, 4, 10), (61, 5, 1), (61, 6, 0), (61, 7, 1), (61, 8, 1), (1, 7, 1000), (1, 6, 1000), (1, 5, 1000), (1, 4, 1000), (1, 3, 1000), (1, 2, 1000), (1, 1, 1000), (1, 0, 1000)]), (nv_zl [(59, 1), (59, 0), (5, 11), (5, 10), (5, 9), (5, 8), (5, 7), (5, 6), (5, 5), (5, 4), (5, 3), (5, 2), (5, 1), (5, 0), (4, 9), (4, 8), (4, 7), (4, 6), (4, 5), (4, 4), (4, 3), (4, 2), (4, 1), (4, 0), (3, 11), (3, 10), (3, 9), (3, 8), (3, 7), (3, 6), (3, 5), (3, 4), (3, 3), (3, 2), (3, 1), (3, 0), (2, 11), (2, 10), (2, 9), (2, 8), (2, 7), (2, 6), (2, 5), (2, 4), (2, 3), (2, 2), (2, 1), (2, 0), (0, 16), (0, 15), (0, 14), (0, 13), (0, 12), (0, 6), (0, 5), (0, 4), (0, 3), (0, 2), (0, 1), (0, 0)]), 62) _
  refine nv_aL dX3_understand_4 rfl ?_
  refine nv_aL dX3_understand_5 rfl ?_
  refine nv_LgetI (v := 0) lf_X3_21 dX3_understand_6 ⟨by decide, rfl⟩ rfl (by decide +kernel) ?_
  refine nv_ifne0 dX3_understand_9 rfl ?_
  refine nv_k dX3_understand_12 ?_
  refine nv_goto dX3_understand_13 ?_
  refine nv_LputI lp_X3_32 dX3_understand_20 ⟨by decide, rfl⟩ rfl rfl rfl ?_
  refine nv_aL dX3_understand_23 rfl ?_
  refine nv_LgetI (v := (-1)) lf_X3_32 dX3_understand_24 ⟨by decide, rfl⟩ rfl (by decide +kernel) ?_
  refine nv_k dX3_understand_27 ?_
  refine nv_iceq1 dX3_understand_28 rfl ?_
  exact nv_return dX3_understand_35 rfl
set_option maxRecDepth 20000 in
set_option maxHeartbeats 8000000 in
theorem tk_X3_init_59 (G : nv_G) : nv_Mt G 3 qX3_init [.ref 59] ((nv_hl [(1, 7, 1000), (1, 6, 1000), (1, 5, 1000), (1, 4, 1000), (1, 3, 1000), (1, 2, 1000), (1, 1, 1000), (1, 0, 1000)]), (nv_zl [(5, 11), (5, 10), (5, 9), (5, 8), (5, 7), (5, 6), (5, 5), (5, 4), (5, 3), (5, 2), (5, 1), (5, 0), (4, 9), (4, 8), (4, 7), (4, 6), (4, 5), (4, 4), (4, 3), (4, 2), (4, 1), (4, 0), (3, 11), (3, 10), (3, 9), (3, 8), (3, 7), (3, 6), (3, 5), (3, 4), (3, 3), (3, 2), (3, 1), (3, 0), (2, 11), (2, 10), (2, 9), (2, 8), (2, 7), (2, 6), (2, 5), (2, 4), (2, 3), (2, 2), (2, 1), (2, 0), (0, 16), (0, 15), (0, 14), (0, 13), (0, 12), (0, 6), (0, 5), (0, 4), (0, 3), (0, 2), (0, 1), (0, 0)]), 60) (none, ((nv_hl [(59, 3, (-1)), (61, 0, 1), (61, 1, 1), (61, 2, 10), (61, 3, 0), (61, 4, 10), (61, 5, 1), (61, 6, 0), (61, 7, 1), (61, 8, 1), (1, 7, 1000), (1, 6, 1000), (1, 5, 1000), (1, 4, 1000), (1, 3, 1000), (1, 2, 1000), (1, 1, 1000), (1, 0, 1000)]), (nv_zl [(59, 1), (59, 0), (5, 11), (5, 10), (5, 9), (5, 8), (5, 7), (5, 6), (5, 5), (5, 4), (5, 3), (5, 2), (5, 1), (5, 0), (4, 9), (4, 8), (4, 7), (4, 6), (4, 5), (4, 4), (4, 3), (4, 2), (4, 1), (4, 0), (3, 11), (3, 10), (3, 9), (3, 8), (3, 7), (3, 6), (3, 5), (3, 4), (3, 3), (3, 2), (3, 1), (3, 0), (2, 11), (2, 10), (2, 9), (2, 8), (2, 7), (2, 6), (2, 5), (2, 4), (2, 3), (2, 2), (2, 1), (2, 0), (0, 16), (0, 15), (0, 14), (0, 13), (0, 12), (0, 6), (0, 5), (0, 4), (0, 3), (0, 2), (0, 1), (0, 0)]), 62)) := by
  refine nv_of (by decide +kernel) (fun ad => Nat.le_of_ble_eq_true rfl) (Nat.le_of_ble_eq_true rfl) (Nat.le_of_ble_eq_true rfl) ?_
  show nv_E G 3 qX3_init 0 [some (.ref 59)] [] ((nv_hl [(1, 7, 1000), (1, 6, 1000), (1, 5, 1000), (1, 4, 1000), (1, 3, 1000), (1, 2, 1000), (1, 1, 1000), (1, 0, 1000)]), (nv_zl [(5, 11), (5, 10), (5, 9), (5, 8), (5, 7), (5, 6), (5, 5), (5, 4), (5, 3), (5, 2), (5, 1), (5, 0), (4, 9), (4, 8), (4, 7), (4, 6), (4, 5), (4, 4), (4, 3), (4, 2), (4, 1), (4, 0), (3, 11), (3, 10), (3, 9), (3, 8), (3, 7), (3, 6), (3, 5), (3, 4), (3, 3), (3, 2), (3, 1), (3, 0), (2, 11), (2, 10), (2, 9), (2, 8), (2, 7), (2, 6), (2, 5), (2, 4), (2, 3), (2, 2), (2, 1), (2, 0), (0, 16), (0, 15), (0, 14), (0, 13), (0, 12), (0, 6), (0, 5), (0, 4), (0, 3), (0, 2), (0, 1), (0, 0)]), 60) _
  refine nv_aL dX3_init_0 rfl ?_
  refine nv_objI dX3_init_1 lo_X3 (by decide) (Nat.le_of_ble_eq_true rfl) ?_
  refine nv_aL dX3_init_4 rfl ?_
  refine nv_k dX3_init_5 ?_
  refine nv_LnewA dX3_init_7 wac rfl (by decide) (by decide) (by decide) (by decide +kernel) (Nat.le_of_ble_eq_true rfl) rfl ?_
  refine nv_LputF lp_X3_9 dX3_init_9 ⟨by decide, rfl⟩ rfl rfl (fun _ => rfl) (fun _ => rfl) ?_
  refine nv_aL dX3_init_12 rfl ?_
  refine nv_k dX3_init_13 ?_
  refine nv_LnewA dX3_init_15 wac rfl (by decide) (by decide) (by decide) (by decide +kernel) (Nat.le_of_ble_eq_true rfl) rfl ?_
  refine nv_LputF lp_X3_15 dX3_init_17 ⟨by decide, rfl⟩ rfl rfl (fun _ => rfl) (fun _ => rfl) ?_
  refine nv_aL dX3_init_20 rfl ?_
  refine nv_LcV (tk_X3_understand_59 G) dX3_init_21 lm_X3_18 y_qX3_understand ⟨by decide, rfl⟩ rfl rfl (by decide) rfl rfl (Nat.le_of_ble_eq_true rfl) ?_
  show nv_E G 3 qX3_init 24 [some (.ref 59)] [] ((nv_hl [(59, 3, (-1)), (61, 0, 1), (61, 1, 1), (61, 2, 10), (61, 3, 0), (61, 4, 10), (61, 5, 1), (61, 6, 0), (61, 7, 1), (61, 8, 1), (1, 7, 1000), (1, 6, 1000), (1, 5, 1000), (1, 4, 1000), (1, 3, 1000), (1, 2, 1000), (1, 1, 1000), (1, 0, 1000)]), (nv_zl [(59, 1), (59, 0), (5, 11), (5, 10), (5, 9), (5, 8), (5, 7), (5, 6), (5, 5), (5, 4), (5, 3), (5, 2), (5, 1), (5, 0), (4, 9), (4, 8), (4, 7), (4, 6), (4, 5), (4, 4), (4, 3), (4, 2), (4, 1), (4, 0), (3, 11), (3, 10), (3, 9), (3, 8), (3, 7), (3, 6), (3, 5), (3, 4), (3, 3), (3, 2), (3, 1), (3, 0), (2, 11), (2, 10), (2, 9), (2, 8), (2, 7), (2, 6), (2, 5), (2, 4), (2, 3), (2, 2), (2, 1), (2, 0), (0, 16), (0, 15), (0, 14), (0, 13), (0, 12), (0, 6), (0, 5), (0, 4), (0, 3), (0, 2), (0, 1), (0, 0)]), 62) _
  exact nv_return dX3_init_24 rfl
theorem wn_X6_37_62 : nv_Cl "WhoseName" 37 3 [some 63, some 64, none, none] := ⟨_, _, _, nvY3, rfl, rfl, wcl_X6_37, nv_gt_of 210 (by decide +kernel) (by decide +kernel), wi_X3, nvW3, nvYk3, by decide +kernel⟩
set_option maxRecDepth 20000 in
set_option maxHeartbeats 8000000 in
theorem tk_X3_forgetParts_62 (G : nv_G) : nv_Mt G 1 qX3_forgetParts [.ref 62] ((nv_hl [(59, 3, (-1)), (61, 0, 1), (61, 1, 1), (61, 2, 10), (61, 3, 0), (61, 4, 10), (61, 5, 1), (61, 6, 0), (61, 7, 1), (61, 8, 1), (1, 7, 1000), (1, 6, 1000), (1, 5, 1000), (1, 4, 1000), (1, 3, 1000), (1, 2, 1000), (1, 1, 1000), (1, 0, 1000)]), (nv_zl [(62, 1), (62, 0), (6, 0), (59, 1), (59, 0), (5, 11), (5, 10), (5, 9), (5, 8), (5, 7), (5, 6), (5, 5), (5, 4), (5, 3), (5, 2), (5, 1), (5, 0), (4, 9), (4, 8), (4, 7), (4, 6), (4, 5), (4, 4), (4, 3), (4, 2), (4, 1), (4, 0), (3, 11), (3, 10), (3, 9), (3, 8), (3, 7), (3, 6), (3, 5), (3, 4), (3, 3), (3, 2), (3, 1), (3, 0), (2, 11), (2, 10), (2, 9), (2, 8), (2, 7), (2, 6), (2, 5), (2, 4), (2, 3), (2, 2), (2, 1), (2, 0), (0, 16), (0, 15), (0, 14), (0, 13), (0, 12), (0, 6), (0, 5), (0, 4), (0, 3), (0, 2), (0, 1), (0, 0)]), 65) (none, ((nv_hl [(64, 0, 1), (64, 1, 1), (64, 2, 10), (64, 3, 0), (64, 4, 10), (64, 5, 1), (64, 6, 0), (64, 7, 1), (64, 8, 1), (59, 3, (-1)), (61, 0, 1), (61, 1, 1), (61, 2, 10), (61, 3, 0), (61, 4, 10), (61, 5, 1), (61, 6, 0), (61, 7, 1), (61, 8, 1), (1, 7, 1000), (1, 6, 1000), (1, 5, 1000), (1, 4, 1000), (1, 3, 1000), (1, 2, 1000), (1, 1, 1000), (1, 0, 1000)]), (nv_zl [(62, 1), (62, 0), (6, 0), (59, 1), (59, 0), (5, 11), (5, 10), (5, 9), (5, 8), (5, 7), (5, 6), (5, 5), (5, 4), (5, 3), (5, 2), (5, 1), (5, 0), (4, 9), (4, 8), (4, 7), (4, 6), (4, 5), (4, 4), (4, 3), (4, 2), (4, 1), (4, 0), (3, 11), (3, 10), (3, 9), (3, 8), (3, 7), (3, 6), (3, 5), (3, 4), (3, 3), (3, 2), (3, 1), (3, 0), (2, 11), (2, 10), (2, 9), (2, 8), (2, 7), (2, 6), (2, 5), (2, 4), (2, 3), (2, 2), (2, 1), (2, 0), (0, 16), (0, 15), (0, 14), (0, 13), (0, 12), (0, 6), (0, 5), (0, 4), (0, 3), (0, 2), (0, 1), (0, 0)]), 65)) := by
  refine nv_of (by decide +kernel) (fun ad => Nat.le_of_ble_eq_true rfl) (Nat.le_of_ble_eq_true rfl) (Nat.le_of_ble_eq_true rfl) ?_
  show nv_E G 1 qX3_forgetParts 0 [some (.ref 62)] [] ((nv_hl [(59, 3, (-1)), (61, 0, 1), (61, 1, 1), (61, 2, 10), (61, 3, 0), (61, 4, 10), (61, 5, 1), (61, 6, 0), (61, 7, 1), (61, 8, 1), (1, 7, 1000), (1, 6, 1000), (1, 5, 1000), (1, 4, 1000), (1, 3, 1000), (1, 2, 1000), (1, 1, 1000), (1, 0, 1000)]), (nv_zl [(62, 1), (62, 0), (6, 0), (59, 1), (59, 0), (5, 11), (5, 10), (5, 9), (5, 8), (5, 7), (5, 6), (5, 5), (5, 4), (5, 3), (5, 2), (5, 1), (5, 0), (4, 9), (4, 8), (4, 7), (4, 6), (4, 5), (4, 4), (4, 3), (4, 2), (4, 1), (4, 0), (3, 11), (3, 10), (3, 9), (3, 8), (3, 7), (3, 6), (3, 5), (3, 4), (3, 3), (3, 2), (3, 1), (3, 0), (2, 11), (2, 10), (2, 9), (2, 8), (2, 7), (2, 6), (2, 5), (2, 4), (2, 3), (2, 2), (2, 1), (2, 0), (0, 16), (0, 15), (0, 14), (0, 13), (0, 12), (0, 6), (0, 5), (0, 4), (0, 3), (0, 2), (0, 1), (0, 0)]), 65) _
  refine nv_getsN (i := 2) dX3_forgetParts_0 rfl ls_X3_35 ?_
  refine nv_k dX3_forgetParts_3 ?_
  refine nv_aL dX3_forgetParts_4 rfl ?_
  refine nv_getR lf_X3_15 dX3_forgetParts_5 ⟨by decide, rfl⟩ rfl (by decide +kernel) ?_
  refine nv_k dX3_forgetParts_8 ?_
  refine nv_k dX3_forgetParts_9 ?_
  refine nv_LcpS (i := 2) dX3_forgetParts_11 lcp_X3 (by decide) rfl ⟨by decide, rfl⟩ (by decide) (Nat.le_of_ble_eq_true rfl) ?_
  exact nv_return dX3_forgetParts_14 rfl
set_option maxRecDepth 20000 in
set_option maxHeartbeats 8000000 in
theorem tk_X3_understand_62 (G : nv_G) : nv_Mt G 2 qX3_understand [.ref 62] ((nv_hl [(59, 3, (-1)), (61, 0, 1), (61, 1, 1), (61, 2, 10), (61, 3, 0), (61, 4, 10), (61, 5, 1), (61, 6, 0), (61, 7, 1), (61, 8, 1), (1, 7, 1000), (1, 6, 1000), (1, 5, 1000), (1, 4, 1000), (1, 3, 1000), (1, 2, 1000), (1, 1, 1000), (1, 0, 1000)]), (nv_zl [(62, 1), (62, 0), (6, 0), (59, 1), (59, 0), (5, 11), (5, 10), (5, 9), (5, 8), (5, 7), (5, 6), (5, 5), (5, 4), (5, 3), (5, 2), (5, 1), (5, 0), (4, 9), (4, 8), (4, 7), (4, 6), (4, 5), (4, 4), (4, 3), (4, 2), (4, 1), (4, 0), (3, 11), (3, 10), (3, 9), (3, 8), (3, 7), (3, 6), (3, 5), (3, 4), (3, 3), (3, 2), (3, 1), (3, 0), (2, 11), (2, 10), (2, 9), (2, 8), (2, 7), (2, 6), (2, 5), (2, 4), (2, 3), (2, 2), (2, 1), (2, 0), (0, 16), (0, 15), (0, 14), (0, 13), (0, 12), (0, 6), (0, 5), (0, 4), (0, 3), (0, 2), (0, 1), (0, 0)]), 65) (none, ((nv_hl [(62, 3, (-1)), (64, 0, 1), (64, 1, 1), (64, 2, 10), (64, 3, 0), (64, 4, 10), (64, 5, 1), (64, 6, 0), (64, 7, 1), (64, 8, 1), (59, 3, (-1)), (61, 0, 1), (61, 1, 1), (61, 2, 10), (61, 3, 0), (61, 4, 10), (61, 5, 1), (61, 6, 0), (61, 7, 1), (61, 8, 1), (1, 7, 1000), (1, 6, 1000), (1, 5, 1000), (1, 4, 1000), (1, 3, 1000), (1, 2, 1000), (1, 1, 1000), (1, 0, 1000)]), (nv_zl [(62, 1), (62, 0), (6, 0), (59, 1), (59, 0), (5, 11), (5, 10), (5, 9), (5, 8), (5, 7), (5, 6), (5, 5), (5, 4), (5, 3), (5, 2), (5, 1), (5, 0), (4, 9), (4, 8), (4, 7), (4, 6), (4, 5), (4, 4), (4, 3), (4, 2), (4, 1), (4, 0), (3, 11), (3, 10), (3, 9), (3, 8), (3, 7), (3, 6), (3, 5), (3, 4), (3, 3), (3, 2), (3, 1), (3, 0), (2, 11), (2, 10), (2, 9), (2, 8), (2, 7), (2, 6), (2, 5), (2, 4), (2, 3), (2, 2), (2, 1), (2, 0), (0, 16), (0, 15), (0, 14), (0, 13), (0, 12), (0, 6), (0, 5), (0, 4), (0, 3), (0, 2), (0, 1), (0, 0)]), 65)) := by
  refine nv_of (by decide +kernel) (fun ad => Nat.le_of_ble_eq_true rfl) (Nat.le_of_ble_eq_true rfl) (Nat.le_of_ble_eq_true rfl) ?_
  show nv_E G 2 qX3_understand 0 [some (.ref 62)] [] ((nv_hl [(59, 3, (-1)), (61, 0, 1), (61, 1, 1), (61, 2, 10), (61, 3, 0), (61, 4, 10), (61, 5, 1), (61, 6, 0), (61, 7, 1), (61, 8, 1), (1, 7, 1000), (1, 6, 1000), (1, 5, 1000), (1, 4, 1000), (1, 3, 1000), (1, 2, 1000), (1, 1, 1000), (1, 0, 1000)]), (nv_zl [(62, 1), (62, 0), (6, 0), (59, 1), (59, 0), (5, 11), (5, 10), (5, 9), (5, 8), (5, 7), (5, 6), (5, 5), (5, 4), (5, 3), (5, 2), (5, 1), (5, 0), (4, 9), (4, 8), (4, 7), (4, 6), (4, 5), (4, 4), (4, 3), (4, 2), (4, 1), (4, 0), (3, 11), (3, 10), (3, 9), (3, 8), (3, 7), (3, 6), (3, 5), (3, 4), (3, 3), (3, 2), (3, 1), (3, 0), (2, 11), (2, 10), (2, 9), (2, 8), (2, 7), (2, 6), (2, 5), (2, 4), (2, 3), (2, 2), (2, 1), (2, 0), (0, 16), (0, 15), (0, 14), (0, 13), (0, 12), (0, 6), (0, 5), (0, 4), (0, 3), (0, 2), (0, 1), (0, 0)]), 65) _
  refine nv_aL dX3_understand_0 rfl ?_
  refine nv_LcV (tk_X3_forgetParts_62 G) dX3_understand_1 lm_X3_25 y_qX3_forgetParts ⟨by decide, rfl⟩ rfl rfl (by decide) rfl rfl (Nat.le_of_ble_eq_true rfl) ?_
  show nv_E G 2 qX3_understand 4 [some (.ref 62)] [] ((nv_hl [(64, 0, 1), (64, 1, 1), (64, 2, 10), (64, 3, 0), (64, 4, 10), (64, 5, 1), (64, 6, 0), (64, 7, 1), (64, 8, 1), (59, 3, (-1)), (61, 0, 1), (61, 1, 1), (61, 2, 10), (61, 3, 0), (61, 4, 10), (61, 5, 1), (61, 6, 0), (61, 7, 1), (61, 8, 1), (1, 7, 1000), (1, 6, 1000), (1, 5, 1000), (1, 4, 1000), (1, 3, 1000), (1, 2, 1000), (1, 1, 1000), (1, 0, 1000)]), (nv_zl [(62, 1), (62, 0), (6, 0), (59, 1), (59, 0), (5, 11), (5, 10), (5, 9), (5, 8), (5, 7), (5, 6), (5, 5), (5, 4), (5, 3), (5, 2), (5, 1), (5, 0), (4, 9), (4, 8), (4, 7), (4, 6), (4, 5), (4, 4), (4, 3), (4, 2), (4, 1), (4, 0), (3, 11), (3, 10), (3, 9), (3, 8), (3, 7), (3, 6), (3, 5), (3, 4), (3, 3), (3, 2), (3, 1), (3, 0), (2, 11), (2, 10), (2, 9), (2, 8), (2, 7), (2, 6), (2, 5), (2, 4), (2, 3), (2, 2), (2, 1), (2, 0), (0, 16), (0, 15), (0, 14), (0, 13), (0, 12), (0, 6), (0, 5), (0, 4), (0, 3), (0, 2), (0, 1), (0, 0)]), 65) _
  refine nv_aL dX3_understand_4 rfl ?_
  refine nv_aL dX3_understand_5 rfl ?_
  refine nv_LgetI (v := 0) lf_X3_21 dX3_understand_6 ⟨by decide, rfl⟩ rfl (by decide +kernel) ?_
  refine nv_ifne0 dX3_understand_9 rfl ?_
  refine nv_k dX3_understand_12 ?_
  refine nv_goto dX3_understand_13 ?_
  refine nv_LputI lp_X3_32 dX3_understand_20 ⟨by decide, rfl⟩ rfl rfl rfl ?_
  refine nv_aL dX3_understand_23 rfl ?_
  refine nv_LgetI (v := (-1)) lf_X3_32 dX3_understand_24 ⟨by decide, rfl⟩ rfl (by decide +kernel) ?_
  refine nv_k dX3_understand_27 ?_
  refine nv_iceq1 dX3_understand_28 rfl ?_
  exact nv_return dX3_understand_35 rfl
set_option maxRecDepth 20000 in
set_option maxHeartbeats 8000000 in
theorem tk_X3_init_62 (G : nv_G) : nv_Mt G 3 qX3_init [.ref 62] ((nv_hl [(59, 3, (-1)), (61, 0, 1), (61, 1, 1), (61, 2, 10), (61, 3, 0), (61, 4, 10), (61, 5, 1), (61, 6, 0), (61, 7, 1), (61, 8, 1), (1, 7, 1000), (1, 6, 1000), (1, 5, 1000), (1, 4, 1000), (1, 3, 1000), (1, 2, 1000), (1, 1, 1000), (1, 0, 1000)]), (nv_zl [(6, 0), (59, 1), (59, 0), (5, 11), (5, 10), (5, 9), (5, 8), (5, 7), (5, 6), (5, 5), (5, 4), (5, 3), (5, 2), (5, 1), (5, 0), (4, 9), (4, 8), (4, 7), (4, 6), (4, 5), (4, 4), (4, 3), (4, 2), (4, 1), (4, 0), (3, 11), (3, 10), (3, 9), (3, 8), (3, 7), (3, 6), (3, 5), (3, 4), (3, 3), (3, 2), (3, 1), (3, 0), (2, 11), (2, 10), (2, 9), (2, 8), (2, 7), (2, 6), (2, 5), (2, 4), (2, 3), (2, 2), (2, 1), (2, 0), (0, 16), (0, 15), (0, 14), (0, 13), (0, 12), (0, 6), (0, 5), (0, 4), (0, 3), (0, 2), (0, 1), (0, 0)]), 63) (none, ((nv_hl [(62, 3, (-1)), (64, 0, 1), (64, 1, 1), (64, 2, 10), (64, 3, 0), (64, 4, 10), (64, 5, 1), (64, 6, 0), (64, 7, 1), (64, 8, 1), (59, 3, (-1)), (61, 0, 1), (61, 1, 1), (61, 2, 10), (61, 3, 0), (61, 4, 10), (61, 5, 1), (61, 6, 0), (61, 7, 1), (61, 8, 1), (1, 7, 1000), (1, 6, 1000), (1, 5, 1000), (1, 4, 1000), (1, 3, 1000), (1, 2, 1000), (1, 1, 1000), (1, 0, 1000)]), (nv_zl [(62, 1), (62, 0), (6, 0), (59, 1), (59, 0), (5, 11), (5, 10), (5, 9), (5, 8), (5, 7), (5, 6), (5, 5), (5, 4), (5, 3), (5, 2), (5, 1), (5, 0), (4, 9), (4, 8), (4, 7), (4, 6), (4, 5), (4, 4), (4, 3), (4, 2), (4, 1), (4, 0), (3, 11), (3, 10), (3, 9), (3, 8), (3, 7), (3, 6), (3, 5), (3, 4), (3, 3), (3, 2), (3, 1), (3, 0), (2, 11), (2, 10), (2, 9), (2, 8), (2, 7), (2, 6), (2, 5), (2, 4), (2, 3), (2, 2), (2, 1), (2, 0), (0, 16), (0, 15), (0, 14), (0, 13), (0, 12), (0, 6), (0, 5), (0, 4), (0, 3), (0, 2), (0, 1), (0, 0)]), 65)) := by
  refine nv_of (by decide +kernel) (fun ad => Nat.le_of_ble_eq_true rfl) (Nat.le_of_ble_eq_true rfl) (Nat.le_of_ble_eq_true rfl) ?_
  show nv_E G 3 qX3_init 0 [some (.ref 62)] [] ((nv_hl [(59, 3, (-1)), (61, 0, 1), (61, 1, 1), (61, 2, 10), (61, 3, 0), (61, 4, 10), (61, 5, 1), (61, 6, 0), (61, 7, 1), (61, 8, 1), (1, 7, 1000), (1, 6, 1000), (1, 5, 1000), (1, 4, 1000), (1, 3, 1000), (1, 2, 1000), (1, 1, 1000), (1, 0, 1000)]), (nv_zl [(6, 0), (59, 1), (59, 0), (5, 11), (5, 10), (5, 9), (5, 8), (5, 7), (5, 6), (5, 5), (5, 4), (5, 3), (5, 2), (5, 1), (5, 0), (4, 9), (4, 8), (4, 7), (4, 6), (4, 5), (4, 4), (4, 3), (4, 2), (4, 1), (4, 0), (3, 11), (3, 10), (3, 9), (3, 8), (3, 7), (3, 6), (3, 5), (3, 4), (3, 3), (3, 2), (3, 1), (3, 0), (2, 11), (2, 10), (2, 9), (2, 8), (2, 7), (2, 6), (2, 5), (2, 4), (2, 3), (2, 2), (2, 1), (2, 0), (0, 16), (0, 15), (0, 14), (0, 13), (0, 12), (0, 6), (0, 5), (0, 4), (0, 3), (0, 2), (0, 1), (0, 0)]), 63) _
  refine nv_aL dX3_init_0 rfl ?_
  refine nv_objI dX3_init_1 lo_X3 (by decide) (Nat.le_of_ble_eq_true rfl) ?_
  refine nv_aL dX3_init_4 rfl ?_
  refine nv_k dX3_init_5 ?_
  refine nv_LnewA dX3_init_7 wac rfl (by decide) (by decide) (by decide) (by decide +kernel) (Nat.le_of_ble_eq_true rfl) rfl ?_
  refine nv_LputF lp_X3_9 dX3_init_9 ⟨by decide, rfl⟩ rfl rfl (fun _ => rfl) (fun _ => rfl) ?_
  refine nv_aL dX3_init_12 rfl ?_
  refine nv_k dX3_init_13 ?_
  refine nv_LnewA dX3_init_15 wac rfl (by decide) (by decide) (by decide) (by decide +kernel) (Nat.le_of_ble_eq_true rfl) rfl ?_
  refine nv_LputF lp_X3_15 dX3_init_17 ⟨by decide, rfl⟩ rfl rfl (fun _ => rfl) (fun _ => rfl) ?_
  refine nv_aL dX3_init_20 rfl ?_
  refine nv_LcV (tk_X3_understand_62 G) dX3_init_21 lm_X3_18 y_qX3_understand ⟨by decide, rfl⟩ rfl rfl (by decide) rfl rfl (Nat.le_of_ble_eq_true rfl) ?_
  show nv_E G 3 qX3_init 24 [some (.ref 62)] [] ((nv_hl [(62, 3, (-1)), (64, 0, 1), (64, 1, 1), (64, 2, 10), (64, 3, 0), (64, 4, 10), (64, 5, 1), (64, 6, 0), (64, 7, 1), (64, 8, 1), (59, 3, (-1)), (61, 0, 1), (61, 1, 1), (61, 2, 10), (61, 3, 0), (61, 4, 10), (61, 5, 1), (61, 6, 0), (61, 7, 1), (61, 8, 1), (1, 7, 1000), (1, 6, 1000), (1, 5, 1000), (1, 4, 1000), (1, 3, 1000), (1, 2, 1000), (1, 1, 1000), (1, 0, 1000)]), (nv_zl [(62, 1), (62, 0), (6, 0), (59, 1), (59, 0), (5, 11), (5, 10), (5, 9), (5, 8), (5, 7), (5, 6), (5, 5), (5, 4), (5, 3), (5, 2), (5, 1), (5, 0), (4, 9), (4, 8), (4, 7), (4, 6), (4, 5), (4, 4), (4, 3), (4, 2), (4, 1), (4, 0), (3, 11), (3, 10), (3, 9), (3, 8), (3, 7), (3, 6), (3, 5), (3, 4), (3, 3), (3, 2), (3, 1), (3, 0), (2, 11), (2, 10), (2, 9), (2, 8), (2, 7), (2, 6), (2, 5), (2, 4), (2, 3), (2, 2), (2, 1), (2, 0), (0, 16), (0, 15), (0, 14), (0, 13), (0, 12), (0, 6), (0, 5), (0, 4), (0, 3), (0, 2), (0, 1), (0, 0)]), 65) _
  exact nv_return dX3_init_24 rfl
theorem wn_X6_43_65 : nv_Cl "WhoseName" 43 5 [some 66, none, none, none] := ⟨_, _, _, nvY5, rfl, rfl, wcl_X6_43, nv_gt_of 271 (by decide +kernel) (by decide +kernel), wi_X5, nvW5, nvYk5, by decide +kernel⟩
set_option maxRecDepth 20000 in
set_option maxHeartbeats 8000000 in
theorem tk_X5_init_65 (G : nv_G) : nv_Mt G 1 qX5_init [.ref 65] ((nv_hl [(62, 3, (-1)), (64, 0, 1), (64, 1, 1), (64, 2, 10), (64, 3, 0), (64, 4, 10), (64, 5, 1), (64, 6, 0), (64, 7, 1), (64, 8, 1), (59, 3, (-1)), (61, 0, 1), (61, 1, 1), (61, 2, 10), (61, 3, 0), (61, 4, 10), (61, 5, 1), (61, 6, 0), (61, 7, 1), (61, 8, 1), (1, 7, 1000), (1, 6, 1000), (1, 5, 1000), (1, 4, 1000), (1, 3, 1000), (1, 2, 1000), (1, 1, 1000), (1, 0, 1000)]), (nv_zl [(6, 1), (62, 1), (62, 0), (6, 0), (59, 1), (59, 0), (5, 11), (5, 10), (5, 9), (5, 8), (5, 7), (5, 6), (5, 5), (5, 4), (5, 3), (5, 2), (5, 1), (5, 0), (4, 9), (4, 8), (4, 7), (4, 6), (4, 5), (4, 4), (4, 3), (4, 2), (4, 1), (4, 0), (3, 11), (3, 10), (3, 9), (3, 8), (3, 7), (3, 6), (3, 5), (3, 4), (3, 3), (3, 2), (3, 1), (3, 0), (2, 11), (2, 10), (2, 9), (2, 8), (2, 7), (2, 6), (2, 5), (2, 4), (2, 3), (2, 2), (2, 1), (2, 0), (0, 16), (0, 15), (0, 14), (0, 13), (0, 12), (0, 6), (0, 5), (0, 4), (0, 3), (0, 2), (0, 1), (0, 0)]), 66) (none, ((nv_hl [(65, 1, 1), (62, 3, (-1)), (64, 0, 1), (64, 1, 1), (64, 2, 10), (64, 3, 0), (64, 4, 10), (64, 5, 1), (64, 6, 0), (64, 7, 1), (64, 8, 1), (59, 3, (-1)), (61, 0, 1), (61, 1, 1), (61, 2, 10), (61, 3, 0), (61, 4, 10), (61, 5, 1), (61, 6, 0), (61, 7, 1), (61, 8, 1), (1, 7, 1000), (1, 6, 1000), (1, 5, 1000), (1, 4, 1000), (1, 3, 1000), (1, 2, 1000), (1, 1, 1000), (1, 0, 1000)]), (nv_zl [(65, 0), (6, 1), (62, 1), (62, 0), (6, 0), (59, 1), (59, 0), (5, 11), (5, 10), (5, 9), (5, 8), (5, 7), (5, 6), (5, 5), (5, 4), (5, 3), (5, 2), (5, 1), (5, 0), (4, 9), (4, 8), (4, 7), (4, 6), (4, 5), (4, 4), (4, 3), (4, 2), (4, 1), (4, 0), (3, 11), (3, 10), (3, 9), (3, 8), (3, 7), (3, 6), (3, 5), (3, 4), (3, 3), (3, 2), (3, 1), (3, 0), (2, 11), (2, 10), (2, 9), (2, 8), (2, 7), (2, 6), (2, 5), (2, 4), (2, 3), (2, 2), (2, 1), (2, 0), (0, 16), (0, 15), (0, 14), (0, 13), (0, 12), (0, 6), (0, 5), (0, 4), (0, 3), (0, 2), (0, 1), (0, 0)]), 67)) := by
  refine nv_of (by decide +kernel) (fun ad => Nat.le_of_ble_eq_true rfl) (Nat.le_of_ble_eq_true rfl) (Nat.le_of_ble_eq_true rfl) ?_
  show nv_E G 1 qX5_init 0 [some (.ref 65)] [] ((nv_hl [(62, 3, (-1)), (64, 0, 1), (64, 1, 1), (64, 2, 10), (64, 3, 0), (64, 4, 10), (64, 5, 1), (64, 6, 0), (64, 7, 1), (64, 8, 1), (59, 3, (-1)), (61, 0, 1), (61, 1, 1), (61, 2, 10), (61, 3, 0), (61, 4, 10), (61, 5, 1), (61, 6, 0), (61, 7, 1), (61, 8, 1), (1, 7, 1000), (1, 6, 1000), (1, 5, 1000), (1, 4, 1000), (1, 3, 1000), (1, 2, 1000), (1, 1, 1000), (1, 0, 1000)]), (nv_zl [(6, 1), (62, 1), (62, 0), (6, 0), (59, 1), (59, 0), (5, 11), (5, 10), (5, 9), (5, 8), (5, 7), (5, 6), (5, 5), (5, 4), (5, 3), (5, 2), (5, 1), (5, 0), (4, 9), (4, 8), (4, 7), (4, 6), (4, 5), (4, 4), (4, 3), (4, 2), (4, 1), (4, 0), (3, 11), (3, 10), (3, 9), (3, 8), (3, 7), (3, 6), (3, 5), (3, 4), (3, 3), (3, 2), (3, 1), (3, 0), (2, 11), (2, 10), (2, 9), (2, 8), (2, 7), (2, 6), (2, 5), (2, 4), (2, 3), (2, 2), (2, 1), (2, 0), (0, 16), (0, 15), (0, 14), (0, 13), (0, 12), (0, 6), (0, 5), (0, 4), (0, 3), (0, 2), (0, 1), (0, 0)]), 66) _
  refine nv_aL dX5_init_0 rfl ?_
  refine nv_objI dX5_init_1 lo_X5 (by decide) (Nat.le_of_ble_eq_true rfl) ?_
  refine nv_aL dX5_init_4 rfl ?_
  refine nv_k dX5_init_5 ?_
  refine nv_LnewA dX5_init_7 wac rfl (by decide) (by decide) (by decide) (by decide +kernel) (Nat.le_of_ble_eq_true rfl) rfl ?_
  refine nv_LputF lp_X5_9 dX5_init_9 ⟨by decide, rfl⟩ rfl rfl (fun _ => rfl) (fun _ => rfl) ?_
  refine nv_aL dX5_init_12 rfl ?_
  refine nv_k dX5_init_13 ?_
  refine nv_LputI lp_X5_15 dX5_init_14 ⟨by decide, rfl⟩ rfl rfl rfl ?_
  exact nv_return dX5_init_17 rfl
theorem wn_X6_43_67 : nv_Cl "WhoseName" 43 5 [some 68, none, none, none] := ⟨_, _, _, nvY5, rfl, rfl, wcl_X6_43, nv_gt_of 271 (by decide +kernel) (by decide +kernel), wi_X5, nvW5, nvYk5, by decide +kernel⟩
set_option maxRecDepth 20000 in
set_option maxHeartbeats 8000000 in
theorem tk_X5_init_67 (G : nv_G) : nv_Mt G 1 qX5_init [.ref 67] ((nv_hl [(65, 1, 1), (62, 3, (-1)), (64, 0, 1), (64, 1, 1), (64, 2, 10), (64, 3, 0), (64, 4, 10), (64, 5, 1), (64, 6, 0), (64, 7, 1), (64, 8, 1), (59, 3, (-1)), (61, 0, 1), (61, 1, 1), (61, 2, 10), (61, 3, 0), (61, 4, 10), (61, 5, 1), (61, 6, 0), (61, 7, 1), (61, 8, 1), (1, 7, 1000), (1, 6, 1000), (1, 5, 1000), (1, 4, 1000), (1, 3, 1000), (1, 2, 1000), (1, 1, 1000), (1, 0, 1000)]), (nv_zl [(7, 0), (65, 0), (6, 1), (62, 1), (62, 0), (6, 0), (59, 1), (59, 0), (5, 11), (5, 10), (5, 9), (5, 8), (5, 7), (5, 6), (5, 5), (5, 4), (5, 3), (5, 2), (5, 1), (5, 0), (4, 9), (4, 8), (4, 7), (4, 6), (4, 5), (4, 4), (4, 3), (4, 2), (4, 1), (4, 0), (3, 11), (3, 10), (3, 9), (3, 8), (3, 7), (3, 6), (3, 5), (3, 4), (3, 3), (3, 2), (3, 1), (3, 0), (2, 11), (2, 10), (2, 9), (2, 8), (2, 7), (2, 6), (2, 5), (2, 4), (2, 3), (2, 2), (2, 1), (2, 0), (0, 16), (0, 15), (0, 14), (0, 13), (0, 12), (0, 6), (0, 5), (0, 4), (0, 3), (0, 2), (0, 1), (0, 0)]), 68) (none, ((nv_hl [(67, 1, 1), (65, 1, 1), (62, 3, (-1)), (64, 0, 1), (64, 1, 1), (64, 2, 10), (64, 3, 0), (64, 4, 10), (64, 5, 1), (64, 6, 0), (64, 7, 1), (64, 8, 1), (59, 3, (-1)), (61, 0, 1), (61, 1, 1), (61, 2, 10), (61, 3, 0), (61, 4, 10), (61, 5, 1), (61, 6, 0), (61, 7, 1), (61, 8, 1), (1, 7, 1000), (1, 6, 1000), (1, 5, 1000), (1, 4, 1000), (1, 3, 1000), (1, 2, 1000), (1, 1, 1000), (1, 0, 1000)]), (nv_zl [(67, 0), (7, 0), (65, 0), (6, 1), (62, 1), (62, 0), (6, 0), (59, 1), (59, 0), (5, 11), (5, 10), (5, 9), (5, 8), (5, 7), (5, 6), (5, 5), (5, 4), (5, 3), (5, 2), (5, 1), (5, 0), (4, 9), (4, 8), (4, 7), (4, 6), (4, 5), (4, 4), (4, 3), (4, 2), (4, 1), (4, 0), (3, 11), (3, 10), (3, 9), (3, 8), (3, 7), (3, 6), (3, 5), (3, 4), (3, 3), (3, 2), (3, 1), (3, 0), (2, 11), (2, 10), (2, 9), (2, 8), (2, 7), (2, 6), (2, 5), (2, 4), (2, 3), (2, 2), (2, 1), (2, 0), (0, 16), (0, 15), (0, 14), (0, 13), (0, 12), (0, 6), (0, 5), (0, 4), (0, 3), (0, 2), (0, 1), (0, 0)]), 69)) := by
  refine nv_of (by decide +kernel) (fun ad => Nat.le_of_ble_eq_true rfl) (Nat.le_of_ble_eq_true rfl) (Nat.le_of_ble_eq_true rfl) ?_
  show nv_E G 1 qX5_init 0 [some (.ref 67)] [] ((nv_hl [(65, 1, 1), (62, 3, (-1)), (64, 0, 1), (64, 1, 1), (64, 2, 10), (64, 3, 0), (64, 4, 10), (64, 5, 1), (64, 6, 0), (64, 7, 1), (64, 8, 1), (59, 3, (-1)), (61, 0, 1), (61, 1, 1), (61, 2, 10), (61, 3, 0), (61, 4, 10), (61, 5, 1), (61, 6, 0), (61, 7, 1), (61, 8, 1), (1, 7, 1000), (1, 6, 1000), (1, 5, 1000), (1, 4, 1000), (1, 3, 1000), (1, 2, 1000), (1, 1, 1000), (1, 0, 1000)]), (nv_zl [(7, 0), (65, 0), (6, 1), (62, 1), (62, 0), (6, 0), (59, 1), (59, 0), (5, 11), (5, 10), (5, 9), (5, 8), (5, 7), (5, 6), (5, 5), (5, 4), (5, 3), (5, 2), (5, 1), (5, 0), (4, 9), (4, 8), (4, 7), (4, 6), (4, 5), (4, 4), (4, 3), (4, 2), (4, 1), (4, 0), (3, 11), (3, 10), (3, 9), (3, 8), (3, 7), (3, 6), (3, 5), (3, 4), (3, 3), (3, 2), (3, 1), (3, 0), (2, 11), (2, 10), (2, 9), (2, 8), (2, 7), (2, 6), (2, 5), (2, 4), (2, 3), (2, 2), (2, 1), (2, 0), (0, 16), (0, 15), (0, 14), (0, 13), (0, 12), (0, 6), (0, 5), (0, 4), (0, 3), (0, 2), (0, 1), (0, 0)]), 68) _
  refine nv_aL dX5_init_0 rfl ?_
  refine nv_objI dX5_init_1 lo_X5 (by decide) (Nat.le_of_ble_eq_true rfl) ?_
  refine nv_aL dX5_init_4 rfl ?_
  refine nv_k dX5_init_5 ?_
  refine nv_LnewA dX5_init_7 wac rfl (by decide) (by decide) (by decide) (by decide +kernel) (Nat.le_of_ble_eq_true rfl) rfl ?_
  refine nv_LputF lp_X5_9 dX5_init_9 ⟨by decide, rfl⟩ rfl rfl (fun _ => rfl) (fun _ => rfl) ?_
  refine nv_aL dX5_init_12 rfl ?_
  refine nv_k dX5_init_13 ?_
  refine nv_LputI lp_X5_15 dX5_init_14 ⟨by decide, rfl⟩ rfl rfl rfl ?_
  exact nv_return dX5_init_17 rfl
theorem wn_X6_43_69 : nv_Cl "WhoseName" 43 5 [some 70, none, none, none] := ⟨_, _, _, nvY5, rfl, rfl, wcl_X6_43, nv_gt_of 271 (by decide +kernel) (by decide +kernel), wi_X5, nvW5, nvYk5, by decide +kernel⟩
set_option maxRecDepth 20000 in
set_option maxHeartbeats 8000000 in
theorem tk_X5_init_69 (G : nv_G) : nv_Mt G 1 qX5_init [.ref 69] ((nv_hl [(67, 1, 1), (65, 1, 1), (62, 3, (-1)), (64, 0, 1), (64, 1, 1), (64, 2, 10), (64, 3, 0), (64, 4, 10), (64, 5, 1), (64, 6, 0), (64, 7, 1), (64, 8, 1), (59, 3, (-1)), (61, 0, 1), (61, 1, 1), (61, 2, 10), (61, 3, 0), (61, 4, 10), (61, 5, 1), (61, 6, 0), (61, 7, 1), (61, 8, 1), (1, 7, 1000), (1, 6, 1000), (1, 5, 1000), (1, 4, 1000), (1, 3, 1000), (1, 2, 1000), (1, 1, 1000), (1, 0, 1000)]), (nv_zl [(7, 1), (67, 0), (7, 0), (65, 0), (6, 1), (62, 1), (62, 0), (6, 0), (59, 1), (59, 0), (5, 11), (5, 10), (5, 9), (5, 8), (5, 7), (5, 6), (5, 5), (5, 4), (5, 3), (5, 2), (5, 1), (5, 0), (4, 9), (4, 8), (4, 7), (4, 6), (4, 5), (4, 4), (4, 3), (4, 2), (4, 1), (4, 0), (3, 11), (3, 10), (3, 9), (3, 8), (3, 7), (3, 6), (3, 5), (3, 4), (3, 3), (3, 2), (3, 1), (3, 0), (2, 11), (2, 10), (2, 9), (2, 8), (2, 7), (2, 6), (2, 5), (2, 4), (2, 3), (2, 2), (2, 1), (2, 0), (0, 16), (0, 15), (0, 14), (0, 13), (0, 12), (0, 6), (0, 5), (0, 4), (0, 3), (0, 2), (0, 1), (0, 0)]), 70) (none, ((nv_hl [(69, 1, 1), (67, 1, 1), (65, 1, 1), (62, 3, (-1)), (64, 0, 1), (64, 1, 1), (64, 2, 10), (64, 3, 0), (64, 4, 10), (64, 5, 1), (64, 6, 0), (64, 7, 1), (64, 8, 1), (59, 3, (-1)), (61, 0, 1), (61, 1, 1), (61, 2, 10), (61, 3, 0), (61, 4, 10), (61, 5, 1), (61, 6, 0), (61, 7, 1), (61, 8, 1), (1, 7, 1000), (1, 6, 1000), (1, 5, 1000), (1, 4, 1000), (1, 3, 1000), (1, 2, 1000), (1, 1, 1000), (1, 0, 1000)]), (nv_zl [(69, 0), (7, 1), (67, 0), (7, 0), (65, 0), (6, 1), (62, 1), (62, 0), (6, 0), (59, 1), (59, 0), (5, 11), (5, 10), (5, 9), (5, 8), (5, 7), (5, 6), (5, 5), (5, 4), (5, 3), (5, 2), (5, 1), (5, 0), (4, 9), (4, 8), (4, 7), (4, 6), (4, 5), (4, 4), (4, 3), (4, 2), (4, 1), (4, 0), (3, 11), (3, 10), (3, 9), (3, 8), (3, 7), (3, 6), (3, 5), (3, 4), (3, 3), (3, 2), (3, 1), (3, 0), (2, 11), (2, 10), (2, 9), (2, 8), (2, 7), (2, 6), (2, 5), (2, 4), (2, 3), (2, 2), (2, 1), (2, 0), (0, 16), (0, 15), (0, 14), (0, 13), (0, 12), (0, 6), (0, 5), (0, 4), (0, 3), (0, 2), (0, 1), (0, 0)]), 71)) := by
  refine nv_of (by decide +kernel) (fun ad => Nat.le_of_ble_eq_true rfl) (Nat.le_of_ble_eq_true rfl) (Nat.le_of_ble_eq_true rfl) ?_
  show nv_E G 1 qX5_init 0 [some (.ref 69)] [] ((nv_hl [(67, 1, 1), (65, 1, 1), (62, 3, (-1)), (64, 0, 1), (64, 1, 1), (64, 2, 10), (64, 3, 0), (64, 4, 10), (64, 5, 1), (64, 6, 0), (64, 7, 1), (64, 8, 1), (59, 3, (-1)), (61, 0, 1), (61, 1, 1), (61, 2, 10), (61, 3, 0), (61, 4, 10), (61, 5, 1), (61, 6, 0), (61, 7, 1), (61, 8, 1), (1, 7, 1000), (1, 6, 1000), (1, 5, 1000), (1, 4, 1000), (1, 3, 1000), (1, 2, 1000), (1, 1, 1000), (1, 0, 1000)]), (nv_zl [(7, 1), (67, 0), (7, 0), (65, 0), (6, 1), (62, 1), (62, 0), (6, 0), (59, 1), (59, 0), (5, 11), (5, 10), (5, 9), (5, 8), (5, 7), (5, 6), (5, 5), (5, 4), (5, 3), (5, 2), (5, 1), (5, 0), (4, 9), (4, 8), (4, 7), (4, 6), (4, 5), (4, 4), (4, 3), (4, 2), (4, 1), (4, 0), (3, 11), (3, 10), (3, 9), (3, 8), (3, 7), (3, 6), (3, 5), (3, 4), (3, 3), (3, 2), (3, 1), (3, 0), (2, 11), (2, 10), (2, 9), (2, 8), (2, 7), (2, 6), (2, 5), (2, 4), (2, 3), (2, 2), (2, 1), (2, 0), (0, 16), (0, 15), (0, 14), (0, 13), (0, 12), (0, 6), (0, 5), (0, 4), (0, 3), (0, 2), (0, 1), (0, 0)]), 70) _
  refine nv_aL dX5_init_0 rfl ?_
  refine nv_objI dX5_init_1 lo_X5 (by decide) (Nat.le_of_ble_eq_true rfl) ?_
  refine nv_aL dX5_init_4 rfl ?_
  refine nv_k dX5_init_5 ?_
  refine nv_LnewA dX5_init_7 wac rfl (by decide) (by decide) (by decide) (by decide +kernel) (Nat.le_of_ble_eq_true rfl) rfl ?_
  refine nv_LputF lp_X5_9 dX5_init_9 ⟨by decide, rfl⟩ rfl rfl (fun _ => rfl) (fun _ => rfl) ?_
  refine nv_aL dX5_init_12 rfl ?_
  refine nv_k dX5_init_13 ?_
  refine nv_LputI lp_X5_15 dX5_init_14 ⟨by decide, rfl⟩ rfl rfl rfl ?_
  exact nv_return dX5_init_17 rfl
theorem wn_X6_43_71 : nv_Cl "WhoseName" 43 5 [some 72, none, none, none] := ⟨_, _, _, nvY5, rfl, rfl, wcl_X6_43, nv_gt_of 271 (by decide +kernel) (by decide +kernel), wi_X5, nvW5, nvYk5, by decide +kernel⟩
set_option maxRecDepth 20000 in
set_option maxHeartbeats 8000000 in
theorem tk_X5_init_71 (G : nv_G) : nv_Mt G 1 qX5_init [.ref 71] ((nv_hl [(69, 1, 1), (67, 1, 1), (65, 1, 1), (62, 3, (-1)), (64, 0, 1), (64, 1, 1), (64, 2, 10), (64, 3, 0), (64, 4, 10), (64, 5, 1), (64, 6, 0), (64, 7, 1), (64, 8, 1), (59, 3, (-1)), (61, 0, 1), (61, 1, 1), (61, 2, 10), (61, 3, 0), (61, 4, 10), (61, 5, 1), (61, 6, 0), (61, 7, 1), (61, 8, 1), (1, 7, 1000), (1, 6, 1000), (1, 5, 1000), (1, 4, 1000), (1, 3, 1000), (1, 2, 1000), (1, 1, 1000), (1, 0, 1000)]), (nv_zl [(7, 2), (69, 0), (7, 1), (67, 0), (7, 0), (65, 0), (6, 1), (62, 1), (62, 0), (6, 0), (59, 1), (59, 0), (5, 11), (5, 10), (5, 9), (5, 8), (5, 7), (5, 6), (5, 5), (5, 4), (5, 3), (5, 2), (5, 1), (5, 0), (4, 9), (4, 8), (4, 7), (4, 6), (4, 5), (4, 4), (4, 3), (4, 2), (4, 1), (4, 0), (3, 11), (3, 10), (3, 9), (3, 8), (3, 7), (3, 6), (3, 5), (3, 4), (3, 3), (3, 2), (3, 1), (3, 0), (2, 11), (2, 10), (2, 9), (2, 8), (2, 7), (2, 6), (2, 5), (2, 4), (2, 3), (2, 2), (2, 1), (2, 0), (0, 16), (0, 15), (0, 14), (0, 13), (0, 12), (0, 6), (0, 5), (0, 4), (0, 3), (0, 2), (0, 1), (0, 0)]), 72) (none, ((nv_hl [(71, 1, 1), (69, 1, 1), (67, 1, 1), (65, 1, 1), (62, 3, (-1)), (64, 0, 1), (64, 1, 1), (64, 2, 10), (64, 3, 0), (64, 4, 10), (64, 5, 1), (64, 6, 0), (64, 7, 1), (64, 8, 1), (59, 3, (-1)), (61, 0, 1), (61, 1, 1), (61, 2, 10), (61, 3, 0), (61, 4, 10), (61, 5, 1), (61, 6, 0), (61, 7, 1), (61, 8, 1), (1, 7, 1000), (1, 6, 1000), (1, 5, 1000), (1, 4, 1000), (1, 3, 1000), (1, 2, 1000), (1, 1, 1000), (1, 0, 1000)]), (nv_zl [(71, 0), (7, 2), (69, 0), (7, 1), (67, 0), (7, 0), (65, 0), (6, 1), (62, 1), (62, 0), (6, 0), (59, 1), (59, 0), (5, 11), (5, 10), (5, 9), (5, 8), (5, 7), (5, 6), (5, 5), (5, 4), (5, 3), (5, 2), (5, 1), (5, 0), (4, 9), (4, 8), (4, 7), (4, 6), (4, 5), (4, 4), (4, 3), (4, 2), (4, 1), (4, 0), (3, 11), (3, 10), (3, 9), (3, 8), (3, 7), (3, 6), (3, 5), (3, 4), (3, 3), (3, 2), (3, 1), (3, 0), (2, 11), (2, 10), (2, 9), (2, 8), (2, 7), (2, 6), (2, 5), (2, 4), (2, 3), (2, 2), (2, 1), (2, 0), (0, 16), (0, 15), (0, 14), (0, 13), (0, 12), (0, 6), (0, 5), (0, 4), (0, 3), (0, 2), (0, 1), (0, 0)]), 73)) := by
  refine nv_of (by decide +kernel) (fun ad => Nat.le_of_ble_eq_true rfl) (Nat.le_of_ble_eq_true rfl) (Nat.le_of_ble_eq_true rfl) ?_
  show nv_E G 1 qX5_init 0 [some (.ref 71)] [] ((nv_hl [(69, 1, 1), (67, 1, 1), (65, 1, 1), (62, 3, (-1)), (64, 0, 1), (64, 1, 1), (64, 2, 10), (64, 3, 0), (64, 4, 10), (64, 5, 1), (64, 6, 0), (64, 7, 1), (64, 8, 1), (59, 3, (-1)), (61, 0, 1), (61, 1, 1), (61, 2, 10), (61, 3, 0), (61, 4, 10), (61, 5, 1), (61, 6, 0), (61, 7, 1), (61, 8, 1), (1, 7, 1000), (1, 6, 1000), (1, 5, 1000), (1, 4, 1000), (1, 3, 1000), (1, 2, 1000), (1, 1, 1000), (1, 0, 1000)]), (nv_zl [(7, 2), (69, 0), (7, 1), (67, 0), (7, 0), (65, 0), (6, 1), (62, 1), (62, 0), (6, 0), (59, 1), (59, 0), (5, 11), (5, 10), (5, 9), (5, 8), (5, 7), (5, 6), (5, 5), (5, 4), (5, 3), (5, 2), (5, 1), (5, 0), (4, 9), (4, 8), (4, 7), (4, 6), (4, 5), (4, 4), (4, 3), (4, 2), (4, 1), (4, 0), (3, 11), (3, 10), (3, 9), (3, 8), (3, 7), (3, 6), (3, 5), (3, 4), (3, 3), (3, 2), (3, 1), (3, 0), (2, 11), (2, 10), (2, 9), (2, 8), (2, 7), (2, 6), (2, 5), (2, 4), (2, 3), (2, 2), (2, 1), (2, 0), (0, 16), (0, 15), (0, 14), (0, 13), (0, 12), (0, 6), (0, 5), (0, 4), (0, 3), (0, 2), (0, 1), (0, 0)]), 72) _
  refine nv_aL dX5_init_0 rfl ?_
  refine nv_objI dX5_init_1 lo_X5 (by decide) (Nat.le_of_ble_eq_true rfl) ?_
  refine nv_aL dX5_init_4 rfl ?_
  refine nv_k dX5_init_5 ?_
  refine nv_LnewA dX5_init_7 wac rfl (by decide) (by decide) (by decide) (by decide +kernel) (Nat.le_of_ble_eq_true rfl) rfl ?_
  refine nv_LputF lp_X5_9 dX5_init_9 ⟨by decide, rfl⟩ rfl rfl (fun _ => rfl) (fun _ => rfl) ?_
  refine nv_aL dX5_init_12 rfl ?_
  refine nv_k dX5_init_13 ?_
  refine nv_LputI lp_X5_15 dX5_init_14 ⟨by decide, rfl⟩ rfl rfl rfl ?_
  exact nv_return dX5_init_17 rfl
set_option maxRecDepth 20000 in
set_option maxHeartbeats 8000000 in
theorem tk_X6_init_0 (G : nv_G) : nv_Mt G 4 qX6_init [.ref 0] ((nv_hl []), (nv_zl []), 1) (none, ((nv_hl [(71, 1, 1), (69, 1, 1), (67, 1, 1), (65, 1, 1), (62, 3, (-1)), (64, 0, 1), (64, 1, 1), (64, 2, 10), (64, 3, 0), (64, 4, 10), (64, 5, 1), (64, 6, 0), (64, 7, 1), (64, 8, 1), (59, 3, (-1)), (61, 0, 1), (61, 1, 1), (61, 2, 10), (61, 3, 0), (61, 4, 10), (61, 5, 1), (61, 6, 0), (61, 7, 1), (61, 8, 1), (1, 7, 1000), (1, 6, 1000), (1, 5, 1000), (1, 4, 1000), (1, 3, 1000), (1, 2, 1000), (1, 1, 1000), (1, 0, 1000)]), (nv_zl [(7, 3), (71, 0), (7, 2), (69, 0), (7, 1), (67, 0), (7, 0), (65, 0), (6, 1), (62, 1), (62, 0), (6, 0), (59, 1), (59, 0), (5, 11), (5, 10), (5, 9), (5, 8), (5, 7), (5, 6), (5, 5), (5, 4), (5, 3), (5, 2), (5, 1), (5, 0), (4, 9), (4, 8), (4, 7), (4, 6), (4, 5), (4, 4), (4, 3), (4, 2), (4, 1), (4, 0), (3, 11), (3, 10), (3, 9), (3, 8), (3, 7), (3, 6), (3, 5), (3, 4), (3, 3), (3, 2), (3, 1), (3, 0), (2, 11), (2, 10), (2, 9), (2, 8), (2, 7), (2, 6), (2, 5), (2, 4), (2, 3), (2, 2), (2, 1), (2, 0), (0, 16), (0, 15), (0, 14), (0, 13), (0, 12), (0, 6), (0, 5), (0, 4), (0, 3), (0, 2), (0, 1), (0, 0)]), 73)) := by
  refine nv_of (by decide +kernel) (fun ad => Nat.le_of_ble_eq_true rfl) (Nat.le_of_ble_eq_true rfl) (Nat.le_of_ble_eq_true rfl) ?_
  show nv_E G 4 qX6_init 0 [some (.ref 0), none] [] ((nv_hl []), (nv_zl []), 1) _
  refine nv_aL dX6_init_0 rfl ?_
  refine nv_objI dX6_init_1 lo_X6 (by decide) (Nat.le_of_ble_eq_true rfl) ?_
  refine nv_aL dX6_init_4 rfl ?_
  refine nv_k dX6_init_5 ?_
  refine nv_LnewA dX6_init_7 wac rfl (by decide) (by decide) (by decide) (by decide +kernel) (Nat.le_of_ble_eq_true rfl) rfl ?_
  refine nv_LputF lp_X6_9 dX6_init_9 ⟨by decide, rfl⟩ rfl rfl (fun _ => rfl) (fun _ => rfl) ?_
  refine nv_aL dX6_init_12 rfl ?_
  refine nv_k dX6_init_13 ?_
  refine nv_LnewR dX6_init_15 wcl_X6_13 (by decide) (fun _ => rfl) rfl (by decide) (by decide) (by decide) (by decide +kernel) (Nat.le_of_ble_eq_true rfl) rfl ?_
  refine nv_LputF lp_X6_15 dX6_init_18 ⟨by decide, rfl⟩ rfl rfl (fun _ => rfl) (fun _ => rfl) ?_
  refine nv_aL dX6_init_21 rfl ?_
  refine nv_k dX6_init_22 ?_
  refine nv_LnewR dX6_init_24 wcl_X6_19 (by decide) (fun _ => rfl) rfl (by decide) (by decide) (by decide) (by decide +kernel) (Nat.le_of_ble_eq_true rfl) rfl ?_
  refine nv_LputF lp_X6_21 dX6_init_27 ⟨by decide, rfl⟩ rfl rfl (fun _ => rfl) (fun _ => rfl) ?_
  refine nv_aL dX6_init_30 rfl ?_
  refine nv_k dX6_init_31 ?_
  refine nv_LnewR dX6_init_33 wcl_X6_25 (by decide) (fun _ => rfl) rfl (by decide) (by decide) (by decide) (by decide +kernel) (Nat.le_of_ble_eq_true rfl) rfl ?_
  refine nv_LputF lp_X6_27 dX6_init_36 ⟨by decide, rfl⟩ rfl rfl (fun _ => rfl) (fun _ => rfl) ?_
  refine nv_aL dX6_init_39 rfl ?_
  refine nv_k dX6_init_40 ?_
  refine nv_LnewR dX6_init_42 wcl_X6_31 (by decide) (fun _ => rfl) rfl (by decide) (by decide) (by decide) (by decide +kernel) (Nat.le_of_ble_eq_true rfl) rfl ?_
  refine nv_LputF lp_X6_33 dX6_init_45 ⟨by decide, rfl⟩ rfl rfl (fun _ => rfl) (fun _ => rfl) ?_
  refine nv_aL dX6_init_48 rfl ?_
  refine nv_k dX6_init_49 ?_
  refine nv_LnewR dX6_init_50 wcl_X6_37 (by decide) (fun _ => rfl) rfl (by decide) (by decide) (by decide) (by decide +kernel) (Nat.le_of_ble_eq_true rfl) rfl ?_
  refine nv_LputF lp_X6_39 dX6_init_53 ⟨by decide, rfl⟩ rfl rfl (fun _ => rfl) (fun _ => rfl) ?_
  refine nv_aL dX6_init_56 rfl ?_
  refine nv_k dX6_init_57 ?_
  refine nv_LnewR dX6_init_58 wcl_X6_43 (by decide) (fun _ => rfl) rfl (by decide) (by decide) (by decide) (by decide +kernel) (Nat.le_of_ble_eq_true rfl) rfl ?_
  refine nv_LputF lp_X6_45 dX6_init_61 ⟨by decide, rfl⟩ rfl rfl (fun _ => rfl) (fun _ => rfl) ?_
  refine nv_aL dX6_init_64 rfl ?_
  refine nv_k dX6_init_65 ?_
  refine nv_LnewA dX6_init_67 wac rfl (by decide) (by decide) (by decide) (by decide +kernel) (Nat.le_of_ble_eq_true rfl) rfl ?_
  refine nv_LputF lp_X6_49 dX6_init_69 ⟨by decide, rfl⟩ rfl rfl (fun _ => rfl) (fun _ => rfl) ?_
  refine nv_aL dX6_init_72 rfl ?_
  refine nv_k dX6_init_73 ?_
  refine nv_LnewA dX6_init_75 wac rfl (by decide) (by decide) (by decide) (by decide +kernel) (Nat.le_of_ble_eq_true rfl) rfl ?_
  refine nv_LputF lp_X6_52 dX6_init_77 ⟨by decide, rfl⟩ rfl rfl (fun _ => rfl) (fun _ => rfl) ?_
  refine nv_aL dX6_init_80 rfl ?_
  refine nv_k dX6_init_81 ?_
  refine nv_LnewA dX6_init_83 wac rfl (by decide) (by decide) (by decide) (by decide +kernel) (Nat.le_of_ble_eq_true rfl) rfl ?_
  refine nv_LputF lp_X6_55 dX6_init_85 ⟨by decide, rfl⟩ rfl rfl (fun _ => rfl) (fun _ => rfl) ?_
  refine nv_aL dX6_init_88 rfl ?_
  refine nv_k dX6_init_89 ?_
  refine nv_LnewA dX6_init_91 wac rfl (by decide) (by decide) (by decide) (by decide +kernel) (Nat.le_of_ble_eq_true rfl) rfl ?_
  refine nv_LputF lp_X6_58 dX6_init_93 ⟨by decide, rfl⟩ rfl rfl (fun _ => rfl) (fun _ => rfl) ?_
  refine nv_aL dX6_init_96 rfl ?_
  refine nv_k dX6_init_97 ?_
  refine nv_LnewA dX6_init_99 wac rfl (by decide) (by decide) (by decide) (by decide +kernel) (Nat.le_of_ble_eq_true rfl) rfl ?_
  refine nv_LputF lp_X6_61 dX6_init_101 ⟨by decide, rfl⟩ rfl rfl (fun _ => rfl) (fun _ => rfl) ?_
  refine nv_k dX6_init_104 ?_
  refine nv_iS dX6_init_105 (by decide) rfl rfl ?_
  refine nv_iL dX6_init_106 rfl ?_
  refine nv_k dX6_init_107 ?_
  refine nv_icge0 dX6_init_109 (by decide) ?_
  refine nv_aL dX6_init_112 rfl ?_
  refine nv_getR lf_X6_9 dX6_init_113 ⟨by decide, rfl⟩ rfl (by decide +kernel) ?_
  refine nv_iL dX6_init_116 rfl ?_
  refine nv_k dX6_init_117 ?_
  refine nv_Liast (j := 0) dX6_init_120 ⟨by decide, rfl⟩ (by decide) (by decide) ?_
  refine nv_incL (v := 1) dX6_init_121 rfl (by decide) (by decide) rfl rfl ?_
  refine nv_goto dX6_init_124 ?_
  refine nv_iL dX6_init_106 rfl ?_
  refine nv_k dX6_init_107 ?_
  refine nv_icge0 dX6_init_109 (by decide) ?_
  refine nv_aL dX6_init_112 rfl ?_
  refine nv_getR lf_X6_9 dX6_init_113 ⟨by decide, rfl⟩ rfl (by decide +kernel) ?_
  refine nv_iL dX6_init_116 rfl ?_
  refine nv_k dX6_init_117 ?_
  refine nv_Liast (j := 1) dX6_init_120 ⟨by decide, rfl⟩ (by decide) (by decide) ?_
  refine nv_incL (v := 2) dX6_init_121 rfl (by decide) (by decide) rfl rfl ?_
  refine nv_goto dX6_init_124 ?_
  refine nv_iL dX6_init_106 rfl ?_
  refine nv_k dX6_init_107 ?_
  refine nv_icge0 dX6_init_109 (by decide) ?_
  refine nv_aL dX6_init_112 rfl ?_
  refine nv_getR lf_X6_9 dX6_init_113 ⟨by decide, rfl⟩ rfl (by decide +kernel) ?_
  refine nv_iL dX6_init_116 rfl ?_
  refine nv_k dX6_init_117 ?_
  refine nv_Liast (j := 2) dX6_init_120 ⟨by decide, rfl⟩ (by decide) (by decide) ?_
  refine nv_incL (v := 3) dX6_init_121 rfl (by decide) (by decide) rfl rfl ?_
  refine nv_goto dX6_init_124 ?_
  refine nv_iL dX6_init_106 rfl ?_
  refine nv_k dX6_init_107 ?_
  refine nv_icge0 dX6_init_109 (by decide) ?_
  refine nv_aL dX6_init_112 rfl ?_
  refine nv_getR lf_X6_9 dX6_init_113 ⟨by decide, rfl⟩ rfl (by decide +kernel) ?_
  refine nv_iL dX6_init_116 rfl ?_
  refine nv_k dX6_init_117 ?_
  refine nv_Liast (j := 3) dX6_init_120 ⟨by decide, rfl⟩ (by decide) (by decide) ?_
  refine nv_incL (v := 4) dX6_init_121 rfl (by decide) (by decide) rfl rfl ?_
  refine nv_goto dX6_init_124 ?_
  refine nv_iL dX6_init_106 rfl ?_
  refine nv_k dX6_init_107 ?_
  refine nv_icge0 dX6_init_109 (by decide) ?_
  refine nv_aL dX6_init_112 rfl ?_
  refine nv_getR lf_X6_9 dX6_init_113 ⟨by decide, rfl⟩ rfl (by decide +kernel) ?_
  refine nv_iL dX6_init_116 rfl ?_
  refine nv_k dX6_init_117 ?_
  refine nv_Liast (j := 4) dX6_init_120 ⟨by decide, rfl⟩ (by decide) (by decide) ?_
  refine nv_incL (v := 5) dX6_init_121 rfl (by decide) (by decide) rfl rfl ?_
  refine nv_goto dX6_init_124 ?_
  refine nv_iL dX6_init_106 rfl ?_
  refine nv_k dX6_init_107 ?_
  refine nv_icge0 dX6_init_109 (by decide) ?_
  refine nv_aL dX6_init_112 rfl ?_
  refine nv_getR lf_X6_9 dX6_init_113 ⟨by decide, rfl⟩ rfl (by decide +kernel) ?_
  refine nv_iL dX6_init_116 rfl ?_
  refine nv_k dX6_init_117 ?_
  refine nv_Liast (j := 5) dX6_init_120 ⟨by decide, rfl⟩ (by decide) (by decide) ?_
  refine nv_incL (v := 6) dX6_init_121 rfl (by decide) (by decide) rfl rfl ?_
  refine nv_goto dX6_init_124 ?_
  refine nv_iL dX6_init_106 rfl ?_
  refine nv_k dX6_init_107 ?_
  refine nv_icge0 dX6_init_109 (by decide) ?_
  refine nv_aL dX6_init_112 rfl ?_
  refine nv_getR lf_X6_9 dX6_init_113 ⟨by decide, rfl⟩ rfl (by decide +kernel) ?_
  refine nv_iL dX6_init_116 rfl ?_
  refine nv_k dX6_init_117 ?_
  refine nv_Liast (j := 6) dX6_init_120 ⟨by decide, rfl⟩ (by decide) (by decide) ?_
  refine nv_incL (v := 7) dX6_init_121 rfl (by decide) (by decide) rfl rfl ?_
  refine nv_goto dX6_init_124 ?_
  refine nv_iL dX6_init_106 rfl ?_
  refine nv_k dX6_init_107 ?_
  refine nv_icge0 dX6_init_109 (by decide) ?_
  refine nv_aL dX6_init_112 rfl ?_
  refine nv_getR lf_X6_9 dX6_init_113 ⟨by decide, rfl⟩ rfl (by decide +kernel) ?_
  refine nv_iL dX6_init_116 rfl ?_
  refine nv_k dX6_init_117 ?_
  refine nv_Liast (j := 7) dX6_init_120 ⟨by decide, rfl⟩ (by decide) (by decide) ?_
  refine nv_incL (v := 8) dX6_init_121 rfl (by decide) (by decide) rfl rfl ?_
  refine nv_goto dX6_init_124 ?_
  refine nv_iL dX6_init_106 rfl ?_
  refine nv_k dX6_init_107 ?_
  refine nv_icge1 dX6_init_109 (by decide) ?_
  refine nv_k dX6_init_127 ?_
  refine nv_iS dX6_init_128 (by decide) rfl rfl ?_
  refine nv_iL dX6_init_129 rfl ?_
  refine nv_k dX6_init_130 ?_
  refine nv_icge0 dX6_init_132 (by decide) ?_
  refine nv_aL dX6_init_135 rfl ?_
  refine nv_getR lf_X6_15 dX6_init_136 ⟨by decide, rfl⟩ rfl (by decide +kernel) ?_
  refine nv_iL dX6_init_139 rfl ?_
  refine nv_LnewO dX6_init_140 wn_X6_13_13 rfl (by decide +kernel) (Nat.le_of_ble_eq_true rfl) rfl ?_
  refine nv_dup dX6_init_143 rfl ?_
  refine nv_callC (tk_X4 G _ (Nat.le_of_ble_eq_true rfl) 13) rfl dX6_init_144 (Or.inr ⟨"WhoseName", by simp [nv_nst]⟩) y_qX4_init rfl (by decide) (Nat.le_of_ble_eq_true rfl) (nv_lo_of rfl) rfl (Nat.le_of_ble_eq_true rfl) ?_
  show nv_E G 4 qX6_init 147 [some (.ref 0), some (.int 0)] [.ref 13, .int 0, .ref 2] ((nv_hl [(1, 7, 1000), (1, 6, 1000), (1, 5, 1000), (1, 4, 1000), (1, 3, 1000), (1, 2, 1000), (1, 1, 1000), (1, 0, 1000)]), (nv_zl [(0, 16), (0, 15), (0, 14), (0, 13), (0, 12), (0, 6), (0, 5), (0, 4), (0, 3), (0, 2), (0, 1), (0, 0)]), 14) _
  refine nv_LastR (j := 0) dX6_init_147 ⟨by decide, rfl⟩ (fun _ => rfl) (by decide) (by decide) (by decide) ⟨by decide, rfl⟩ rfl ?_
  refine nv_incL (v := 1) dX6_init_148 rfl (by decide) (by decide) rfl rfl ?_
  refine nv_goto dX6_init_151 ?_
  refine nv_iL dX6_init_129 rfl ?_
  refine nv_k dX6_init_130 ?_
  refine nv_icge0 dX6_init_132 (by decide) ?_
  refine nv_aL dX6_init_135 rfl ?_
  refine nv_getR lf_X6_15 dX6_init_136 ⟨by decide, rfl⟩ rfl (by decide +kernel) ?_
  refine nv_iL dX6_init_139 rfl ?_
  refine nv_LnewO dX6_init_140 wn_X6_13_14 rfl (by decide +kernel) (Nat.le_of_ble_eq_true rfl) rfl ?_
  refine nv_dup dX6_init_143 rfl ?_
  refine nv_callC (tk_X4 G _ (Nat.le_of_ble_eq_true rfl) 14) rfl dX6_init_144 (Or.inr ⟨"WhoseName", by simp [nv_nst]⟩) y_qX4_init rfl (by decide) (Nat.le_of_ble_eq_true rfl) (nv_lo_of rfl) rfl (Nat.le_of_ble_eq_true rfl) ?_
  show nv_E G 4 qX6_init 147 [some (.ref 0), some (.int 1)] [.ref 14, .int 1, .ref 2] ((nv_hl [(1, 7, 1000), (1, 6, 1000), (1, 5, 1000), (1, 4, 1000), (1, 3, 1000), (1, 2, 1000), (1, 1, 1000), (1, 0, 1000)]), (nv_zl [(2, 0), (0, 16), (0, 15), (0, 14), (0, 13), (0, 12), (0, 6), (0, 5), (0, 4), (0, 3), (0, 2), (0, 1), (0, 0)]), 15) _
  refine nv_LastR (j := 1) dX6_init_147 ⟨by decide, rfl⟩ (fun _ => rfl) (by decide) (by decide) (by decide) ⟨by decide, rfl⟩ rfl ?_
  refine nv_incL (v := 2) dX6_init_148 rfl (by decide) (by decide) rfl rfl ?_
  refine nv_goto dX6_init_151 ?_
  refine nv_iL dX6_init_129 rfl ?_
  refine nv_k dX6_init_130 ?_
  refine nv_icge0 dX6_init_132 (by decide) ?_
  refine nv_aL dX6_init_135 rfl ?_
  refine nv_getR lf_X6_15 dX6_init_136 ⟨by decide, rfl⟩ rfl (by decide +kernel) ?_
  refine nv_iL dX6_init_139 rfl ?_
  refine nv_LnewO dX6_init_140 wn_X6_13_15 rfl (by decide +kernel) (Nat.le_of_ble_eq_true rfl) rfl ?_
  refine nv_dup dX6_init_143 rfl ?_
  refine nv_callC (tk_X4 G _ (Nat.le_of_ble_eq_true rfl) 15) rfl dX6_init_144 (Or.inr ⟨"WhoseName", by simp [nv_nst]⟩) y_qX4_init rfl (by decide) (Nat.le_of_ble_eq_true rfl) (nv_lo_of rfl) rfl (Nat.le_of_ble_eq_true rfl) ?_
  show nv_E G 4 qX6_init 147 [some (.ref 0), some (.int 2)] [.ref 15, .int 2, .ref 2] ((nv_hl [(1, 7, 1000), (1, 6, 1000), (1, 5, 1000), (1, 4, 1000), (1, 3, 1000), (1, 2, 1000), (1, 1, 1000), (1, 0, 1000)]), (nv_zl [(2, 1), (2, 0), (0, 16), (0, 15), (0, 14), (0, 13), (0, 12), (0, 6), (0, 5), (0, 4), (0, 3), (0, 2), (0, 1), (0, 0)]), 16) _
  refine nv_LastR (j := 2) dX6_init_147 ⟨by decide, rfl⟩ (fun _ => rfl) (by decide) (by decide) (by decide) ⟨by decide, rfl⟩ rfl ?_
  refine nv_incL (v := 3) dX6_init_148 rfl (by decide) (by decide) rfl rfl ?_
  refine nv_goto dX6_init_151 ?_
  refine nv_iL dX6_init_129 rfl ?_
  refine nv_k dX6_init_130 ?_
  refine nv_icge0 dX6_init_132 (by decide) ?_
  refine nv_aL dX6_init_135 rfl ?_
  refine nv_getR lf_X6_15 dX6_init_136 ⟨by decide, rfl⟩ rfl (by decide +kernel) ?_
  refine nv_iL dX6_init_139 rfl ?_
  refine nv_LnewO dX6_init_140 wn_X6_13_16 rfl (by decide +kernel) (Nat.le_of_ble_eq_true rfl) rfl ?_
  refine nv_dup dX6_init_143 rfl ?_
  refine nv_callC (tk_X4 G _ (Nat.le_of_ble_eq_true rfl) 16) rfl dX6_init_144 (Or.inr ⟨"WhoseName", by simp [nv_nst]⟩) y_qX4_init rfl (by decide) (Nat.le_of_ble_eq_true rfl) (nv_lo_of rfl) rfl (Nat.le_of_ble_eq_true rfl) ?_
  show nv_E G 4 qX6_init 147 [some (.ref 0), some (.int 3)] [.ref 16, .int 3, .ref 2] ((nv_hl [(1, 7, 1000), (1, 6, 1000), (1, 5, 1000), (1, 4, 1000), (1, 3, 1000), (1, 2, 1000), (1, 1, 1000), (1, 0, 1000)]), (nv_zl [(2, 2), (2, 1), (2, 0), (0, 16), (0, 15), (0, 14), (0, 13), (0, 12), (0, 6), (0, 5), (0, 4), (0, 3), (0, 2), (0, 1), (0, 0)]), 17) _
  refine nv_LastR (j := 3) dX6_init_147 ⟨by decide, rfl⟩ (fun _ => rfl) (by decide) (by decide) (by decide) ⟨by decide, rfl⟩ rfl ?_
  refine nv_incL (v := 4) dX6_init_148 rfl (by decide) (by decide) rfl rfl ?_
  refine nv_goto dX6_init_151 ?_
  refine nv_iL dX6_init_129 rfl ?_
  refine nv_k dX6_init_130 ?_
  refine nv_icge0 dX6_init_132 (by decide) ?_
  refine nv_aL dX6_init_135 rfl ?_
  refine nv_getR lf_X6_15 dX6_init_136 ⟨by decide, rfl⟩ rfl (by decide +kernel) ?_
  refine nv_iL dX6_init_139 rfl ?_
  refine nv_LnewO dX6_init_140 wn_X6_13_17 rfl (by decide +kernel) (Nat.le_of_ble_eq_true rfl) rfl ?_
  refine nv_dup dX6_init_143 rfl ?_
  refine nv_callC (tk_X4 G _ (Nat.le_of_ble_eq_true rfl) 17) rfl dX6_init_144 (Or.inr ⟨"WhoseName", by simp [nv_nst]⟩) y_qX4_init rfl (by decide) (Nat.le_of_ble_eq_true rfl) (nv_lo_of rfl) rfl (Nat.le_of_ble_eq_true rfl) ?_
  show nv_E G 4 qX6_init 147 [some (.ref 0), some (.int 4)] [.ref 17, .int 4, .ref 2] ((nv_hl [(1, 7, 1000), (1, 6, 1000), (1, 5, 1000), (1, 4, 1000), (1, 3, 1000), (1, 2, 1000), (1, 1, 1000), (1, 0, 1000)]), (nv_zl [(2, 3), (2, 2), (2, 1), (2, 0), (0, 16), (0, 15), (0, 14), (0, 13), (0, 12), (0, 6), (0, 5), (0, 4), (0, 3), (0, 2), (0, 1), (0, 0)]), 18) _
  refine nv_LastR (j := 4) dX6_init_147 ⟨by decide, rfl⟩ (fun _ => rfl) (by decide) (by decide) (by decide) ⟨by decide, rfl⟩ rfl ?_
  refine nv_incL (v := 5) dX6_init_148 rfl (by decide) (by decide) rfl rfl ?_
  refine nv_goto dX6_init_151 ?_
  refine nv_iL dX6_init_129 rfl ?_
  refine nv_k dX6_init_130 ?_
  refine nv_icge0 dX6_init_132 (by decide) ?_
  refine nv_aL dX6_init_135 rfl ?_
  refine nv_getR lf_X6_15 dX6_init_136 ⟨by decide, rfl⟩ rfl (by decide +kernel) ?_
  refine nv_iL dX6_init_139 rfl ?_
  refine nv_LnewO dX6_init_140 wn_X6_13_18 rfl (by decide +kernel) (Nat.le_of_ble_eq_true rfl) rfl ?_
  refine nv_dup dX6_init_143 rfl ?_
  refine nv_callC (tk_X4 G _ (Nat.le_of_ble_eq_true rfl) 18) rfl dX6_init_144 (Or.inr ⟨"WhoseName", by simp [nv_nst]⟩) y_qX4_init rfl (by decide) (Nat.le_of_ble_eq_true rfl) (nv_lo_of rfl) rfl (Nat.le_of_ble_eq_true rfl) ?_
  show nv_E G 4 qX6_init 147 [some (.ref 0), some (.int 5)] [.ref 18, .int 5, .ref 2] ((nv_hl [(1, 7, 1000), (1, 6, 1000), (1, 5, 1000), (1, 4, 1000), (1, 3, 1000), (1, 2, 1000), (1, 1, 1000), (1, 0, 1000)]), (nv_zl [(2, 4), (2, 3), (2, 2), (2, 1), (2, 0), (0, 16), (0, 15), (0, 14), (0, 13), (0, 12), (0, 6), (0, 5), (0, 4), (0, 3), (0, 2), (0, 1), (0, 0)]), 19) _
  refine nv_LastR (j := 5) dX6_init_147 ⟨by decide, rfl⟩ (fun _ => rfl) (by decide) (by decide) (by decide) ⟨by decide, rfl⟩ rfl ?_
  refine nv_incL (v := 6) dX6_init_148 rfl (by decide) (by decide) rfl rfl ?_
  refine nv_goto dX6_init_151 ?_
  refine nv_iL dX6_init_129 rfl ?_
  refine nv_k dX6_init_130 ?_
  refine nv_icge0 dX6_init_132 (by decide) ?_
  refine nv_aL dX6_init_135 rfl ?_
  refine nv_getR lf_X6_15 dX6_init_136 ⟨by decide, rfl⟩ rfl (by decide +kernel) ?_
  refine nv_iL dX6_init_139 rfl ?_
  refine nv_LnewO dX6_init_140 wn_X6_13_19 rfl (by decide +kernel) (Nat.le_of_ble_eq_true rfl) rfl ?_
  refine nv_dup dX6_init_143 rfl ?_
  refine nv_callC (tk_X4 G _ (Nat.le_of_ble_eq_true rfl) 19) rfl dX6_init_144 (Or.inr ⟨"WhoseName", by simp [nv_nst]⟩) y_qX4_init rfl (by decide) (Nat.le_of_ble_eq_true rfl) (nv_lo_of rfl) rfl (Nat.le_of_ble_eq_true rfl) ?_
  show nv_E G 4 qX6_init 147 [some (.ref 0), some (.int 6)] [.ref 19, .int 6, .ref 2] ((nv_hl [(1, 7, 1000), (1, 6, 1000), (1, 5, 1000), (1, 4, 1000), (1, 3, 1000), (1, 2, 1000), (1, 1, 1000), (1, 0, 1000)]), (nv_zl [(2, 5), (2, 4), (2, 3), (2, 2), (2, 1), (2, 0), (0, 16), (0, 15), (0, 14), (0, 13), (0, 12), (0, 6), (0, 5), (0, 4), (0, 3), (0, 2), (0, 1), (0, 0)]), 20) _
  refine nv_LastR (j := 6) dX6_init_147 ⟨by decide, rfl⟩ (fun _ => rfl) (by decide) (by decide) (by decide) ⟨by decide, rfl⟩ rfl ?_
  refine nv_incL (v := 7) dX6_init_148 rfl (by decide) (by decide) rfl rfl ?_
  refine nv_goto dX6_init_151 ?_
  refine nv_iL dX6_init_129 rfl ?_
  refine nv_k dX6_init_130 ?_
  refine nv_icge0 dX6_init_132 (by decide) ?_
  refine nv_aL dX6_init_135 rfl ?_
  refine nv_getR lf_X6_15 dX6_init_136 ⟨by decide, rfl⟩ rfl (by decide +kernel) ?_
  refine nv_iL dX6_init_139 rfl ?_
  refine nv_LnewO dX6_init_140 wn_X6_13_20 rfl (by decide +kernel) (Nat.le_of_ble_eq_true rfl) rfl ?_
  refine nv_dup dX6_init_143 rfl ?_
  refine nv_callC (tk_X4 G _ (Nat.le_of_ble_eq_true rfl) 20) rfl dX6_init_144 (Or.inr ⟨"WhoseName", by simp [nv_nst]⟩) y_qX4_init rfl (by decide) (Nat.le_of_ble_eq_true rfl) (nv_lo_of rfl) rfl (Nat.le_of_ble_eq_true rfl) ?_
  show nv_E G 4 qX6_init 147 [some (.ref 0), some (.int 7)] [.ref 20, .int 7, .ref 2] ((nv_hl [(1, 7, 1000), (1, 6, 1000), (1, 5, 1000), (1, 4, 1000), (1, 3, 1000), (1, 2, 1000), (1, 1, 1000), (1, 0, 1000)]), (nv_zl [(2, 6), (2, 5), (2, 4), (2, 3), (2, 2), (2, 1), (2, 0), (0, 16), (0, 15), (0, 14), (0, 13), (0, 12), (0, 6), (0, 5), (0, 4), (0, 3), (0, 2), (0, 1), (0, 0)]), 21) _
  refine nv_LastR (j := 7) dX6_init_147 ⟨by decide, rfl⟩ (fun _ => rfl) (by decide) (by decide) (by decide) ⟨by decide, rfl⟩ rfl ?_
  refine nv_incL (v := 8) dX6_init_148 rfl (by decide) (by decide) rfl rfl ?_
  refine nv_goto dX6_init_151 ?_
  refine nv_iL dX6_init_129 rfl ?_
  refine nv_k dX6_init_130 ?_
  refine nv_icge0 dX6_init_132 (by decide) ?_
  refine nv_aL dX6_init_135 rfl ?_
  refine nv_getR lf_X6_15 dX6_init_136 ⟨by decide, rfl⟩ rfl (by decide +kernel) ?_
  refine nv_iL dX6_init_139 rfl ?_
  refine nv_LnewO dX6_init_140 wn_X6_13_21 rfl (by decide +kernel) (Nat.le_of_ble_eq_true rfl) rfl ?_
  refine nv_dup dX6_init_143 rfl ?_
  refine nv_callC (tk_X4 G _ (Nat.le_of_ble_eq_true rfl) 21) rfl dX6_init_144 (Or.inr ⟨"WhoseName", by simp [nv_nst]⟩) y_qX4_init rfl (by decide) (Nat.le_of_ble_eq_true rfl) (nv_lo_of rfl) rfl (Nat.le_of_ble_eq_true rfl) ?_
  show nv_E G 4 qX6_init 147 [some (.ref 0), some (.int 8)] [.ref 21, .int 8, .ref 2] ((nv_hl [(1, 7, 1000), (1, 6, 1000), (1, 5, 1000), (1, 4, 1000), (1, 3, 1000), (1, 2, 1000), (1, 1, 1000), (1, 0, 1000)]), (nv_zl [(2, 7), (2, 6), (2, 5), (2, 4), (2, 3), (2, 2), (2, 1), (2, 0), (0, 16), (0, 15), (0, 14), (0, 13), (0, 12), (0, 6), (0, 5), (0, 4), (0, 3), (0, 2), (0, 1), (0, 0)]), 22) _
  refine nv_LastR (j := 8) dX6_init_147 ⟨by decide, rfl⟩ (fun _ => rfl) (by decide) (by decide) (by decide) ⟨by decide, rfl⟩ rfl ?_
  refine nv_incL (v := 9) dX6_init_148 rfl (by decide) (by decide) rfl rfl ?_
  refine nv_goto dX6_init_151 ?_
  refine nv_iL dX6_init_129 rfl ?_
  refine nv_k dX6_init_130 ?_
  refine nv_icge0 dX6_init_132 (by decide) ?_
  refine nv_aL dX6_init_135 rfl ?_
  refine nv_getR lf_X6_15 dX6_init_136 ⟨by decide, rfl⟩ rfl (by decide +kernel) ?_
  refine nv_iL dX6_init_139 rfl ?_
  refine nv_LnewO dX6_init_140 wn_X6_13_22 rfl (by decide +kernel) (Nat.le_of_ble_eq_true rfl) rfl ?_
  refine nv_dup dX6_init_143 rfl ?_
  refine nv_callC (tk_X4 G _ (Nat.le_of_ble_eq_true rfl) 22) rfl dX6_init_144 (Or.inr ⟨"WhoseName", by simp [nv_nst]⟩) y_qX4_init rfl (by decide) (Nat.le_of_ble_eq_true rfl) (nv_lo_of rfl) rfl (Nat.le_of_ble_eq_true rfl) ?_
  show nv_E G 4 qX6_init 147 [some (.ref 0), some (.int 9)] [.ref 22, .int 9, .ref 2] ((nv_hl [(1, 7, 1000), (1, 6, 1000), (1, 5, 1000), (1, 4, 1000), (1, 3, 1000), (1, 2, 1000), (1, 1, 1000), (1, 0, 1000)]), (nv_zl [(2, 8), (2, 7), (2, 6), (2, 5), (2, 4), (2, 3), (2, 2), (2, 1), (2, 0), (0, 16), (0, 15), (0, 14), (0, 13), (0, 12), (0, 6), (0, 5), (0, 4), (0, 3), (0, 2), (0, 1), (0, 0)]), 23) _
  refine nv_LastR (j := 9) dX6_init_147 ⟨by decide, rfl⟩ (fun _ => rfl) (by decide) (by decide) (by decide) ⟨by decide, rfl⟩ rfl ?_
  refine nv_incL (v := 10) dX6_init_148 rfl (by decide) (by decide) rfl rfl ?_
  refine nv_goto dX6_init_151 ?_
  refine nv_iL dX6_init_129 rfl ?_
  refine nv_k dX6_init_130 ?_
  refine nv_icge0 dX6_init_132 (by decide) ?_
  refine nv_aL dX6_init_135 rfl ?_
  refine nv_getR lf_X6_15 dX6_init_136 ⟨by decide, rfl⟩ rfl (by decide +kernel) ?_
  refine nv_iL dX6_init_139 rfl ?_
  refine nv_LnewO dX6_init_140 wn_X6_13_23 rfl (by decide +kernel) (Nat.le_of_ble_eq_true rfl) rfl ?_
  refine nv_dup dX6_init_143 rfl ?_
  refine nv_callC (tk_X4 G _ (Nat.le_of_ble_eq_true rfl) 23) rfl dX6_init_144 (Or.inr ⟨"WhoseName", by simp [nv_nst]⟩) y_qX4_init rfl (by decide) (Nat.le_of_ble_eq_true rfl) (nv_lo_of rfl) rfl (Nat.le_of_ble_eq_true rfl) ?_
  show nv_E G 4 qX6_init 147 [some (.ref 0), some (.int 10)] [.ref 23, .int 10, .ref 2] ((nv_hl [(1, 7, 1000), (1, 6, 1000), (1, 5, 1000), (1, 4, 1000), (1, 3, 1000), (1, 2, 1000), (1, 1, 1000), (1, 0, 1000)]), (nv_zl [(2, 9), (2, 8), (2, 7), (2, 6), (2, 5), (2, 4), (2, 3), (2, 2), (2, 1), (2, 0), (0, 16), (0, 15), (0, 14), (0, 13), (0, 12), (0, 6), (0, 5), (0, 4), (0, 3), (0, 2), (0, 1), (0, 0)]), 24) _
  refine nv_LastR (j := 10) dX6_init_147 ⟨by decide, rfl⟩ (fun _ => rfl) (by decide) (by decide) (by decide) ⟨by decide, rfl⟩ rfl ?_
  refine nv_incL (v := 11) dX6_init_148 rfl (by decide) (by decide) rfl rfl ?_
  refine nv_goto dX6_init_151 ?_
  refine nv_iL dX6_init_129 rfl ?_
  refine nv_k dX6_init_130 ?_
  refine nv_icge0 dX6_init_132 (by decide) ?_
  refine nv_aL dX6_init_135 rfl ?_
  refine nv_getR lf_X6_15 dX6_init_136 ⟨by decide, rfl⟩ rfl (by decide +kernel) ?_
  refine nv_iL dX6_init_139 rfl ?_
  refine nv_LnewO dX6_init_140 wn_X6_13_24 rfl (by decide +kernel) (Nat.le_of_ble_eq_true rfl) rfl ?_
  refine nv_dup dX6_init_143 rfl ?_
  refine nv_callC (tk_X4 G _ (Nat.le_of_ble_eq_true rfl) 24) rfl dX6_init_144 (Or.inr ⟨"WhoseName", by simp [nv_nst]⟩) y_qX4_init rfl (by decide) (Nat.le_of_ble_eq_true rfl) (nv_lo_of rfl) rfl (Nat.le_of_ble_eq_true rfl) ?_
  show nv_E G 4 qX6_init 147 [some (.ref 0), some (.int 11)] [.ref 24, .int 11, .ref 2] ((nv_hl [(1, 7, 1000), (1, 6, 1000), (1, 5, 1000), (1, 4, 1000), (1, 3, 1000), (1, 2, 1000), (1, 1, 1000), (1, 0, 1000)]), (nv_zl [(2, 10), (2, 9), (2, 8), (2, 7), (2, 6), (2, 5), (2, 4), (2, 3), (2, 2), (2, 1), (2, 0), (0, 16), (0, 15), (0, 14), (0, 13), (0, 12), (0, 6), (0, 5), (0, 4), (0, 3), (0, 2), (0, 1), (0, 0)]), 25) _
  refine nv_LastR (j := 11) dX6_init_147 ⟨by decide, rfl⟩ (fun _ => rfl) (by decide) (by decide) (by decide) ⟨by decide, rfl⟩ rfl ?_
  refine nv_incL (v := 12) dX6_init_148 rfl (by decide) (by decide) rfl rfl ?_
  refine nv_goto dX6_init_151 ?_
  refine nv_iL dX6_init_129 rfl ?_
  refine nv_k dX6_init_130 ?_
  refine nv_icge1 dX6_init_132 (by decide) ?_
  refine nv_k dX6_init_154 ?_
  refine nv_iS dX6_init_155 (by decide) rfl rfl ?_
  refine nv_iL dX6_init_156 rfl ?_
  refine nv_k dX6_init_157 ?_
  refine nv_icge0 dX6_init_159 (by decide) ?_
  refine nv_aL dX6_init_162 rfl ?_
  refine nv_getR lf_X6_21 dX6_init_163 ⟨by decide, rfl⟩ rfl (by decide +kernel) ?_
  refine nv_iL dX6_init_166 rfl ?_
  refine nv_LnewO dX6_init_167 wn_X6_19_25 rfl (by decide +kernel) (Nat.le_of_ble_eq_true rfl) rfl ?_
  refine nv_dup dX6_init_170 rfl ?_
  refine nv_callC (tk_X1 G _ (Nat.le_of_ble_eq_true rfl) 25) rfl dX6_init_171 (Or.inr ⟨"WhoseName", by simp [nv_nst]⟩) y_qX1_init rfl (by decide) (Nat.le_of_ble_eq_true rfl) (nv_lo_of rfl) rfl (Nat.le_of_ble_eq_true rfl) ?_
  show nv_E G 4 qX6_init 174 [some (.ref 0), some (.int 0)] [.ref 25, .int 0, .ref 3] ((nv_hl [(1, 7, 1000), (1, 6, 1000), (1, 5, 1000), (1, 4, 1000), (1, 3, 1000), (1, 2, 1000), (1, 1, 1000), (1, 0, 1000)]), (nv_zl [(2, 11), (2, 10), (2, 9), (2, 8), (2, 7), (2, 6), (2, 5), (2, 4), (2, 3), (2, 2), (2, 1), (2, 0), (0, 16), (0, 15), (0, 14), (0, 13), (0, 12), (0, 6), (0, 5), (0, 4), (0, 3), (0, 2), (0, 1), (0, 0)]), 26) _
  refine nv_LastR (j := 0) dX6_init_174 ⟨by decide, rfl⟩ (fun _ => rfl) (by decide) (by decide) (by decide) ⟨by decide, rfl⟩ rfl ?_
  refine nv_incL (v := 1) dX6_init_175 rfl (by decide) (by decide) rfl rfl ?_
  refine nv_goto dX6_init_178 ?_
  refine nv_iL dX6_init_156 rfl ?_
  refine nv_k dX6_init_157 ?_
  refine nv_icge0 dX6_init_159 (by decide) ?_
  refine nv_aL dX6_init_162 rfl ?_
  refine nv_getR lf_X6_21 dX6_init_163 ⟨by decide, rfl⟩ rfl (by decide +kernel) ?_
  refine nv_iL dX6_init_166 rfl ?_
  refine nv_LnewO dX6_init_167 wn_X6_19_26 rfl (by decide +kernel) (Nat.le_of_ble_eq_true rfl) rfl ?_
  refine nv_dup dX6_init_170 rfl ?_
  refine nv_callC (tk_X1 G _ (Nat.le_of_ble_eq_true rfl) 26) rfl dX6_init_171 (Or.inr ⟨"WhoseName", by simp [nv_nst]⟩) y_qX1_init rfl (by decide) (Nat.le_of_ble_eq_true rfl) (nv_lo_of rfl) rfl (Nat.le_of_ble_eq_true rfl) ?_
  show nv_E G 4 qX6_init 174 [some (.ref 0), some (.int 1)] [.ref 26, .int 1, .ref 3] ((nv_hl [(1, 7, 1000), (1, 6, 1000), (1, 5, 1000), (1, 4, 1000), (1, 3, 1000), (1, 2, 1000), (1, 1, 1000), (1, 0, 1000)]), (nv_zl [(3, 0), (2, 11), (2, 10), (2, 9), (2, 8), (2, 7), (2, 6), (2, 5), (2, 4), (2, 3), (2, 2), (2, 1), (2, 0), (0, 16), (0, 15), (0, 14), (0, 13), (0, 12), (0, 6), (0, 5), (0, 4), (0, 3), (0, 2), (0, 1), (0, 0)]), 27) _
  refine nv_LastR (j := 1) dX6_init_174 ⟨by decide, rfl⟩ (fun _ => rfl) (by decide) (by decide) (by decide) ⟨by decide, rfl⟩ rfl ?_
  refine nv_incL (v := 2) dX6_init_175 rfl (by decide) (by decide) rfl rfl ?_
  refine nv_goto dX6_init_178 ?_
  refine nv_iL dX6_init_156 rfl ?_
  refine nv_k dX6_init_157 ?_
  refine nv_icge0 dX6_init_159 (by decide) ?_
  refine nv_aL dX6_init_162 rfl ?_
  refine nv_getR lf_X6_21 dX6_init_163 ⟨by decide, rfl⟩ rfl (by decide +kernel) ?_
  refine nv_iL dX6_init_166 rfl ?_
  refine nv_LnewO dX6_init_167 wn_X6_19_27 rfl (by decide +kernel) (Nat.le_of_ble_eq_true rfl) rfl ?_
  refine nv_dup dX6_init_170 rfl ?_
  refine nv_callC (tk_X1 G _ (Nat.le_of_ble_eq_true rfl) 27) rfl dX6_init_171 (Or.inr ⟨"WhoseName", by simp [nv_nst]⟩) y_qX1_init rfl (by decide) (Nat.le_of_ble_eq_true rfl) (nv_lo_of rfl) rfl (Nat.le_of_ble_eq_true rfl) ?_
  show nv_E G 4 qX6_init 174 [some (.ref 0), some (.int 2)] [.ref 27, .int 2, .ref 3] ((nv_hl [(1, 7, 1000), (1, 6, 1000), (1, 5, 1000), (1, 4, 1000), (1, 3, 1000), (1, 2, 1000), (1, 1, 1000), (1, 0, 1000)]), (nv_zl [(3, 1), (3, 0), (2, 11), (2, 10), (2, 9), (2, 8), (2, 7), (2, 6), (2, 5), (2, 4), (2, 3), (2, 2), (2, 1), (2, 0), (0, 16), (0, 15), (0, 14), (0, 13), (0, 12), (0, 6), (0, 5), (0, 4), (0, 3), (0, 2), (0, 1), (0, 0)]), 28) _
  refine nv_LastR (j := 2) dX6_init_174 ⟨by decide, rfl⟩ (fun _ => rfl) (by decide) (by decide) (by decide) ⟨by decide, rfl⟩ rfl ?_
  refine nv_incL (v := 3) dX6_init_175 rfl (by decide) (by decide) rfl rfl ?_
  refine nv_goto dX6_init_178 ?_
  refine nv_iL dX6_init_156 rfl ?_
  refine nv_k dX6_init_157 ?_
  refine nv_icge0 dX6_init_159 (by decide) ?_
  refine nv_aL dX6_init_162 rfl ?_
  refine nv_getR lf_X6_21 dX6_init_163 ⟨by decide, rfl⟩ rfl (by decide +kernel) ?_
  refine nv_iL dX6_init_166 rfl ?_
  refine nv_LnewO dX6_init_167 wn_X6_19_28 rfl (by decide +kernel) (Nat.le_of_ble_eq_true rfl) rfl ?_
  refine nv_dup dX6_init_170 rfl ?_
  refine nv_callC (tk_X1 G _ (Nat.le_of_ble_eq_true rfl) 28) rfl dX6_init_171 (Or.inr ⟨"WhoseName", by simp [nv_nst]⟩) y_qX1_init rfl (by decide) (Nat.le_of_ble_eq_true rfl) (nv_lo_of rfl) rfl (Nat.le_of_ble_eq_true rfl) ?_
  show nv_E G 4 qX6_init 174 [some (.ref 0), some (.int 3)] [.ref 28, .int 3, .ref 3] ((nv_hl [(1, 7, 1000), (1, 6, 1000), (1, 5, 1000), (1, 4, 1000), (1, 3, 1000), (1, 2, 1000), (1, 1, 1000), (1, 0, 1000)]), (nv_zl [(3, 2), (3, 1), (3, 0), (2, 11), (2, 10), (2, 9), (2, 8), (2, 7), (2, 6), (2, 5), (2, 4), (2, 3), (2, 2), (2, 1), (2, 0), (0, 16), (0, 15), (0, 14), (0, 13), (0, 12), (0, 6), (0, 5), (0, 4), (0, 3), (0, 2), (0, 1), (0, 0)]), 29) _
  refine nv_LastR (j := 3) dX6_init_174 ⟨by decide, rfl⟩ (fun _ => rfl) (by decide) (by decide) (by decide) ⟨by decide, rfl⟩ rfl ?_
  refine nv_incL (v := 4) dX6_init_175 rfl (by decide) (by decide) rfl rfl ?_
  refine nv_goto dX6_init_178 ?_
  refine nv_iL dX6_init_156 rfl ?_
  refine nv_k dX6_init_157 ?_
  refine nv_icge0 dX6_init_159 (by decide) ?_
  refine nv_aL dX6_init_162 rfl ?_
  refine nv_getR lf_X6_21 dX6_init_163 ⟨by decide, rfl⟩ rfl (by decide +kernel) ?_
  refine nv_iL dX6_init_166 rfl ?_
  refine nv_LnewO dX6_init_167 wn_X6_19_29 rfl (by decide +kernel) (Nat.le_of_ble_eq_true rfl) rfl ?_
  refine nv_dup dX6_init_170 rfl ?_
  refine nv_callC (tk_X1 G _ (Nat.le_of_ble_eq_true rfl) 29) rfl dX6_init_171 (Or.inr ⟨"WhoseName", by simp [nv_nst]⟩) y_qX1_init rfl (by decide) (Nat.le_of_ble_eq_true rfl) (nv_lo_of rfl) rfl (Nat.le_of_ble_eq_true rfl) ?_
  show nv_E G 4 qX6_init 174 [some (.ref 0), some (.int 4)] [.ref 29, .int 4, .ref 3] ((nv_hl [(1, 7, 1000), (1, 6, 1000), (1, 5, 1000), (1, 4, 1000), (1, 3, 1000), (1, 2, 1000), (1, 1, 1000), (1, 0, 1000)]), (nv_zl [(3, 3), (3, 2), (3, 1), (3, 0), (2, 11), (2, 10), (2, 9), (2, 8), (2, 7), (2, 6), (2, 5), (2, 4), (2, 3), (2, 2), (2, 1), (2, 0), (0, 16), (0, 15), (0, 14), (0, 13), (0, 12), (0, 6), (0, 5), (0, 4), (0, 3), (0, 2), (0, 1), (0, 0)]), 30) _
  refine nv_LastR (j := 4) dX6_init_174 ⟨by decide, rfl⟩ (fun _ => rfl) (by decide) (by decide) (by decide) ⟨by decide, rfl⟩ rfl ?_
  refine nv_incL (v := 5) dX6_init_175 rfl (by decide) (by decide) rfl rfl ?_
  refine nv_goto dX6_init_178 ?_
  refine nv_iL dX6_init_156 rfl ?_
  refine nv_k dX6_init_157 ?_
  refine nv_icge0 dX6_init_159 (by decide) ?_
  refine nv_aL dX6_init_162 rfl ?_
  refine nv_getR lf_X6_21 dX6_init_163 ⟨by decide, rfl⟩ rfl (by decide +kernel) ?_
  refine nv_iL dX6_init_166 rfl ?_
  refine nv_LnewO dX6_init_167 wn_X6_19_30 rfl (by decide +kernel) (Nat.le_of_ble_eq_true rfl) rfl ?_
  refine nv_dup dX6_init_170 rfl ?_
  refine nv_callC (tk_X1 G _ (Nat.le_of_ble_eq_true rfl) 30) rfl dX6_init_171 (Or.inr ⟨"WhoseName", by simp [nv_nst]⟩) y_qX1_init rfl (by decide) (Nat.le_of_ble_eq_true rfl) (nv_lo_of rfl) rfl (Nat.le_of_ble_eq_true rfl) ?_
  show nv_E G 4 qX6_init 174 [some (.ref 0), some (.int 5)] [.ref 30, .int 5, .ref 3] ((nv_hl [(1, 7, 1000), (1, 6, 1000), (1, 5, 1000), (1, 4, 1000), (1, 3, 1000), (1, 2, 1000), (1, 1, 1000), (1, 0, 1000)]), (nv_zl [(3, 4), (3, 3), (3, 2), (3, 1), (3, 0), (2, 11), (2, 10), (2, 9), (2, 8), (2, 7), (2, 6), (2, 5), (2, 4), (2, 3), (2, 2), (2, 1), (2, 0), (0, 16), (0, 15), (0, 14), (0, 13), (0, 12), (0, 6), (0, 5), (0, 4), (0, 3), (0, 2), (0, 1), (0, 0)]), 31) _
  refine nv_LastR (j := 5) dX6_init_174 ⟨by decide, rfl⟩ (fun _ => rfl) (by decide) (by decide) (by decide) ⟨by decide, rfl⟩ rfl ?_
  refine nv_incL (v := 6) dX6_init_175 rfl (by decide) (by decide) rfl rfl ?_
  refine nv_goto dX6_init_178 ?_
  refine nv_iL dX6_init_156 rfl ?_
  refine nv_k dX6_init_157 ?_
  refine nv_icge0 dX6_init_159 (by decide) ?_
  refine nv_aL dX6_init_162 rfl ?_
  refine nv_getR lf_X6_21 dX6_init_163 ⟨by decide, rfl⟩ rfl (by decide +kernel) ?_
  refine nv_iL dX6_init_166 rfl ?_
  refine nv_LnewO dX6_init_167 wn_X6_19_31 rfl (by decide +kernel) (Nat.le_of_ble_eq_true rfl) rfl ?_
  refine nv_dup dX6_init_170 rfl ?_
  refine nv_callC (tk_X1 G _ (Nat.le_of_ble_eq_true rfl) 31) rfl dX6_init_171 (Or.inr ⟨"WhoseName", by simp [nv_nst]⟩) y_qX1_init rfl (by decide) (Nat.le_of_ble_eq_true rfl) (nv_lo_of rfl) rfl (Nat.le_of_ble_eq_true rfl) ?_
  show nv_E G 4 qX6_init 174 [some (.ref 0), some (.int 6)] [.ref 31, .int 6, .ref 3] ((nv_hl [(1, 7, 1000), (1, 6, 1000), (1, 5, 1000), (1, 4, 1000), (1, 3, 1000), (1, 2, 1000), (1, 1, 1000), (1, 0, 1000)]), (nv_zl [(3, 5), (3, 4), (3, 3), (3, 2), (3, 1), (3, 0), (2, 11), (2, 10), (2, 9), (2, 8), (2, 7), (2, 6), (2, 5), (2, 4), (2, 3), (2, 2), (2, 1), (2, 0), (0, 16), (0, 15), (0, 14), (0, 13), (0, 12), (0, 6), (0, 5), (0, 4), (0, 3), (0, 2), (0, 1), (0, 0)]), 32) _
  refine nv_LastR (j := 6) dX6_init_174 ⟨by decide, rfl⟩ (fun _ => rfl) (by decide) (by decide) (by decide) ⟨by decide, rfl⟩ rfl ?_
  refine nv_incL (v := 7) dX6_init_175 rfl (by decide) (by decide) rfl rfl ?_
  refine nv_goto dX6_init_178 ?_
  refine nv_iL dX6_init_156 rfl ?_
  refine nv_k dX6_init_157 ?_
  refine nv_icge0 dX6_init_159 (by decide) ?_
  refine nv_aL dX6_init_162 rfl ?_
  refine nv_getR lf_X6_21 dX6_init_163 ⟨by decide, rfl⟩ rfl (by decide +kernel) ?_
  refine nv_iL dX6_init_166 rfl ?_
  refine nv_LnewO dX6_init_167 wn_X6_19_32 rfl (by decide +kernel) (Nat.le_of_ble_eq_true rfl) rfl ?_
  refine nv_dup dX6_init_170 rfl ?_
  refine nv_callC (tk_X1 G _ (Nat.le_of_ble_eq_true rfl) 32) rfl dX6_init_171 (Or.inr ⟨"WhoseName", by simp [nv_nst]⟩) y_qX1_init rfl (by decide) (Nat.le_of_ble_eq_true rfl) (nv_lo_of rfl) rfl (Nat.le_of_ble_eq_true rfl) ?_
  show nv_E G 4 qX6_init 174 [some (.ref 0), some (.int 7)] [.ref 32, .int 7, .ref 3] ((nv_hl [(1, 7, 1000), (1, 6, 1000), (1, 5, 1000), (1, 4, 1000), (1, 3, 1000), (1, 2, 1000), (1, 1, 1000), (1, 0, 1000)]), (nv_zl [(3, 6), (3, 5), (3, 4), (3, 3), (3, 2), (3, 1), (3, 0), (2, 11), (2, 10), (2, 9), (2, 8), (2, 7), (2, 6), (2, 5), (2, 4), (2, 3), (2, 2), (2, 1), (2, 0), (0, 16), (0, 15), (0, 14), (0, 13), (0, 12), (0, 6), (0, 5), (0, 4), (0, 3), (0, 2), (0, 1), (0, 0)]), 33) _
  refine nv_LastR (j := 7) dX6_init_174 ⟨by decide, rfl⟩ (fun _ => rfl) (by decide) (by decide) (by decide) ⟨by decide, rfl⟩ rfl ?_
  refine nv_incL (v := 8) dX6_init_175 rfl (by decide) (by decide) rfl rfl ?_
  refine nv_goto dX6_init_178 ?_
  refine nv_iL dX6_init_156 rfl ?_
  refine nv_k dX6_init_157 ?_
  refine nv_icge0 dX6_init_159 (by decide) ?_
  refine nv_aL dX6_init_162 rfl ?_
  refine nv_getR lf_X6_21 dX6_init_163 ⟨by decide, rfl⟩ rfl (by decide +kernel) ?_
  refine nv_iL dX6_init_166 rfl ?_
  refine nv_LnewO dX6_init_167 wn_X6_19_33 rfl (by decide +kernel) (Nat.le_of_ble_eq_true rfl) rfl ?_
  refine nv_dup dX6_init_170 rfl ?_
  refine nv_callC (tk_X1 G _ (Nat.le_of_ble_eq_true rfl) 33) rfl dX6_init_171 (Or.inr ⟨"WhoseName", by simp [nv_nst]⟩) y_qX1_init rfl (by decide) (Nat.le_of_ble_eq_true rfl) (nv_lo_of rfl) rfl (Nat.le_of_ble_eq_true rfl) ?_
  show nv_E G 4 qX6_init 174 [some (.ref 0), some (.int 8)] [.ref 33, .int 8, .ref 3] ((nv_hl [(1, 7, 1000), (1, 6, 1000), (1, 5, 1000), (1, 4, 1000), (1, 3, 1000), (1, 2, 1000), (1, 1, 1000), (1, 0, 1000)]), (nv_zl [(3, 7), (3, 6), (3, 5), (3, 4), (3, 3), (3, 2), (3, 1), (3, 0), (2, 11), (2, 10), (2, 9), (2, 8), (2, 7), (2, 6), (2, 5), (2, 4), (2, 3), (2, 2), (2, 1), (2, 0), (0, 16), (0, 15), (0, 14), (0, 13), (0, 12), (0, 6), (0, 5), (0, 4), (0, 3), (0, 2), (0, 1), (0, 0)]), 34) _
  refine nv_LastR (j := 8) dX6_init_174 ⟨by decide, rfl⟩ (fun _ => rfl) (by decide) (by decide) (by decide) ⟨by decide, rfl⟩ rfl ?_
  refine nv_incL (v := 9) dX6_init_175 rfl (by decide) (by decide) rfl rfl ?_
  refine nv_goto dX6_init_178 ?_
  refine nv_iL dX6_init_156 rfl ?_
  refine nv_k dX6_init_157 ?_
  refine nv_icge0 dX6_init_159 (by decide) ?_
  refine nv_aL dX6_init_162 rfl ?_
  refine nv_getR lf_X6_21 dX6_init_163 ⟨by decide, rfl⟩ rfl (by decide +kernel) ?_
  refine nv_iL dX6_init_166 rfl ?_
  refine nv_LnewO dX6_init_167 wn_X6_19_34 rfl (by decide +kernel) (Nat.le_of_ble_eq_true rfl) rfl ?_
  refine nv_dup dX6_init_170 rfl ?_
  refine nv_callC (tk_X1 G _ (Nat.le_of_ble_eq_true rfl) 34) rfl dX6_init_171 (Or.inr ⟨"WhoseName", by simp [nv_nst]⟩) y_qX1_init rfl (by decide) (Nat.le_of_ble_eq_true rfl) (nv_lo_of rfl) rfl (Nat.le_of_ble_eq_true rfl) ?_
  show nv_E G 4 qX6_init 174 [some (.ref 0), some (.int 9)] [.ref 34, .int 9, .ref 3] ((nv_hl [(1, 7, 1000), (1, 6, 1000), (1, 5, 1000), (1, 4, 1000), (1, 3, 1000), (1, 2, 1000), (1, 1, 1000), (1, 0, 1000)]), (nv_zl [(3, 8), (3, 7), (3, 6), (3, 5), (3, 4), (3, 3), (3, 2), (3, 1), (3, 0), (2, 11), (2, 10), (2, 9), (2, 8), (2, 7), (2, 6), (2, 5), (2, 4), (2, 3), (2, 2), (2, 1), (2, 0), (0, 16), (0, 15), (0, 14), (0, 13), (0, 12), (0, 6), (0, 5), (0, 4), (0, 3), (0, 2), (0, 1), (0, 0)]), 35) _
  refine nv_LastR (j := 9) dX6_init_174 ⟨by decide, rfl⟩ (fun _ => rfl) (by decide) (by decide) (by decide) ⟨by decide, rfl⟩ rfl ?_
  refine nv_incL (v := 10) dX6_init_175 rfl (by decide) (by decide) rfl rfl ?_
  refine nv_goto dX6_init_178 ?_
  refine nv_iL dX6_init_156 rfl ?_
  refine nv_k dX6_init_157 ?_
  refine nv_icge0 dX6_init_159 (by decide) ?_
  refine nv_aL dX6_init_162 rfl ?_
  refine nv_getR lf_X6_21 dX6_init_163 ⟨by decide, rfl⟩ rfl (by decide +kernel) ?_
  refine nv_iL dX6_init_166 rfl ?_
  refine nv_LnewO dX6_init_167 wn_X6_19_35 rfl (by decide +kernel) (Nat.le_of_ble_eq_true rfl) rfl ?_
  refine nv_dup dX6_init_170 rfl ?_
  refine nv_callC (tk_X1 G _ (Nat.le_of_ble_eq_true rfl) 35) rfl dX6_init_171 (Or.inr ⟨"WhoseName", by simp [nv_nst]⟩) y_qX1_init rfl (by decide) (Nat.le_of_ble_eq_true rfl) (nv_lo_of rfl) rfl (Nat.le_of_ble_eq_true rfl) ?_
  show nv_E G 4 qX6_init 174 [some (.ref 0), some (.int 10)] [.ref 35, .int 10, .ref 3] ((nv_hl [(1, 7, 1000), (1, 6, 1000), (1, 5, 1000), (1, 4, 1000), (1, 3, 1000), (1, 2, 1000), (1, 1, 1000), (1, 0, 1000)]), (nv_zl [(3, 9), (3, 8), (3, 7), (3, 6), (3, 5), (3, 4), (3, 3), (3, 2), (3, 1), (3, 0), (2, 11), (2, 10), (2, 9), (2, 8), (2, 7), (2, 6), (2, 5), (2, 4), (2, 3), (2, 2), (2, 1), (2, 0), (0, 16), (0, 15), (0, 14), (0, 13), (0, 12), (0, 6), (0, 5), (0, 4), (0, 3), (0, 2), (0, 1), (0, 0)]), 36) _
  refine nv_LastR (j := 10) dX6_init_174 ⟨by decide, rfl⟩ (fun _ => rfl) (by decide) (by decide) (by decide) ⟨by decide, rfl⟩ rfl ?_
  refine nv_incL (v := 11) dX6_init_175 rfl (by decide) (by decide) rfl rfl ?_
  refine nv_goto dX6_init_178 ?_
  refine nv_iL dX6_init_156 rfl ?_
  refine nv_k dX6_init_157 ?_
  refine nv_icge0 dX6_init_159 (by decide) ?_
  refine nv_aL dX6_init_162 rfl ?_
  refine nv_getR lf_X6_21 dX6_init_163 ⟨by decide, rfl⟩ rfl (by decide +kernel) ?_
  refine nv_iL dX6_init_166 rfl ?_
  refine nv_LnewO dX6_init_167 wn_X6_19_36 rfl (by decide +kernel) (Nat.le_of_ble_eq_true rfl) rfl ?_
  refine nv_dup dX6_init_170 rfl ?_
  refine nv_callC (tk_X1 G _ (Nat.le_of_ble_eq_true rfl) 36) rfl dX6_init_171 (Or.inr ⟨"WhoseName", by simp [nv_nst]⟩) y_qX1_init rfl (by decide) (Nat.le_of_ble_eq_true rfl) (nv_lo_of rfl) rfl (Nat.le_of_ble_eq_true rfl) ?_
  show nv_E G 4 qX6_init 174 [some (.ref 0), some (.int 11)] [.ref 36, .int 11, .ref 3] ((nv_hl [(1, 7, 1000), (1, 6, 1000), (1, 5, 1000), (1, 4, 1000), (1, 3, 1000), (1, 2, 1000), (1, 1, 1000), (1, 0, 1000)]), (nv_zl [(3, 10), (3, 9), (3, 8), (3, 7), (3, 6), (3, 5), (3, 4), (3, 3), (3, 2), (3, 1), (3, 0), (2, 11), (2, 10), (2, 9), (2, 8), (2, 7), (2, 6), (2, 5), (2, 4), (2, 3), (2, 2), (2, 1), (2, 0), (0, 16), (0, 15), (0, 14), (0, 13), (0, 12), (0, 6), (0, 5), (0, 4), (0, 3), (0, 2), (0, 1), (0, 0)]), 37) _
  refine nv_LastR (j := 11) dX6_init_174 ⟨by decide, rfl⟩ (fun _ => rfl) (by decide) (by decide) (by decide) ⟨by decide, rfl⟩ rfl ?_
  refine nv_incL (v := 12) dX6_init_175 rfl (by decide) (by decide) rfl rfl ?_
  refine nv_goto dX6_init_178 ?_
  refine nv_iL dX6_init_156 rfl ?_
  refine nv_k dX6_init_157 ?_
  refine nv_icge1 dX6_init_159 (by decide) ?_
  refine nv_k dX6_init_181 ?_
  refine nv_iS dX6_init_182 (by decide) rfl rfl ?_
  refine nv_iL dX6_init_183 rfl ?_
  refine nv_k dX6_init_184 ?_
  refine nv_icge0 dX6_init_186 (by decide) ?_
  refine nv_aL dX6_init_189 rfl ?_
  refine nv_getR lf_X6_27 dX6_init_190 ⟨by decide, rfl⟩ rfl (by decide +kernel) ?_
  refine nv_iL dX6_init_193 rfl ?_
  refine nv_LnewO dX6_init_194 wn_X6_25_37 rfl (by decide +kernel) (Nat.le_of_ble_eq_true rfl) rfl ?_
  refine nv_dup dX6_init_197 rfl ?_
  refine nv_callC (tk_X2 G _ (Nat.le_of_ble_eq_true rfl) 37) rfl dX6_init_198 (Or.inr ⟨"WhoseName", by simp [nv_nst]⟩) y_qX2_init rfl (by decide) (Nat.le_of_ble_eq_true rfl) (nv_lo_of rfl) rfl (Nat.le_of_ble_eq_true rfl) ?_
  show nv_E G 4 qX6_init 201 [some (.ref 0), some (.int 0)] [.ref 37, .int 0, .ref 4] ((nv_hl [(1, 7, 1000), (1, 6, 1000), (1, 5, 1000), (1, 4, 1000), (1, 3, 1000), (1, 2, 1000), (1, 1, 1000), (1, 0, 1000)]), (nv_zl [(3, 11), (3, 10), (3, 9), (3, 8), (3, 7), (3, 6), (3, 5), (3, 4), (3, 3), (3, 2), (3, 1), (3, 0), (2, 11), (2, 10), (2, 9), (2, 8), (2, 7), (2, 6), (2, 5), (2, 4), (2, 3), (2, 2), (2, 1), (2, 0), (0, 16), (0, 15), (0, 14), (0, 13), (0, 12), (0, 6), (0, 5), (0, 4), (0, 3), (0, 2), (0, 1), (0, 0)]), 38) _
  refine nv_LastR (j := 0) dX6_init_201 ⟨by decide, rfl⟩ (fun _ => rfl) (by decide) (by decide) (by decide) ⟨by decide, rfl⟩ rfl ?_
  refine nv_incL (v := 1) dX6_init_202 rfl (by decide) (by decide) rfl rfl ?_
  refine nv_goto dX6_init_205 ?_
  refine nv_iL dX6_init_183 rfl ?_
  refine nv_k dX6_init_184 ?_
  refine nv_icge0 dX6_init_186 (by decide) ?_
  refine nv_aL dX6_init_189 rfl ?_
  refine nv_getR lf_X6_27 dX6_init_190 ⟨by decide, rfl⟩ rfl (by decide +kernel) ?_
  refine nv_iL dX6_init_193 rfl ?_
  refine nv_LnewO dX6_init_194 wn_X6_25_38 rfl (by decide +kernel) (Nat.le_of_ble_eq_true rfl) rfl ?_
  refine nv_dup dX6_init_197 rfl ?_
  refine nv_callC (tk_X2 G _ (Nat.le_of_ble_eq_true rfl) 38) rfl dX6_init_198 (Or.inr ⟨"WhoseName", by simp [nv_nst]⟩) y_qX2_init rfl (by decide) (Nat.le_of_ble_eq_true rfl) (nv_lo_of rfl) rfl (Nat.le_of_ble_eq_true rfl) ?_
  show nv_E G 4 qX6_init 201 [some (.ref 0), some (.int 1)] [.ref 38, .int 1, .ref 4] ((nv_hl [(1, 7, 1000), (1, 6, 1000), (1, 5, 1000), (1, 4, 1000), (1, 3, 1000), (1, 2, 1000), (1, 1, 1000), (1, 0, 1000)]), (nv_zl [(4, 0), (3, 11), (3, 10), (3, 9), (3, 8), (3, 7), (3, 6), (3, 5), (3, 4), (3, 3), (3, 2), (3, 1), (3, 0), (2, 11), (2, 10), (2, 9), (2, 8), (2, 7), (2, 6), (2, 5), (2, 4), (2, 3), (2, 2), (2, 1), (2, 0), (0, 16), (0, 15), (0, 14), (0, 13), (0, 12), (0, 6), (0, 5), (0, 4), (0, 3), (0, 2), (0, 1), (0, 0)]), 39) _
  refine nv_LastR (j := 1) dX6_init_201 ⟨by decide, rfl⟩ (fun _ => rfl) (by decide) (by decide) (by decide) ⟨by decide, rfl⟩ rfl ?_
  refine nv_incL (v := 2) dX6_init_202 rfl (by decide) (by decide) rfl rfl ?_
  refine nv_goto dX6_init_205 ?_
  refine nv_iL dX6_init_183 rfl ?_
  refine nv_k dX6_init_184 ?_
  refine nv_icge0 dX6_init_186 (by decide) ?_
  refine nv_aL dX6_init_189 rfl ?_
  refine nv_getR lf_X6_27 dX6_init_190 ⟨by decide, rfl⟩ rfl (by decide +kernel) ?_
  refine nv_iL dX6_init_193 rfl ?_
  refine nv_LnewO dX6_init_194 wn_X6_25_39 rfl (by decide +kernel) (Nat.le_of_ble_eq_true rfl) rfl ?_
  refine nv_dup dX6_init_197 rfl ?_
  refine nv_callC (tk_X2 G _ (Nat.le_of_ble_eq_true rfl) 39) rfl dX6_init_198 (Or.inr ⟨"WhoseName", by simp [nv_nst]⟩) y_qX2_init rfl (by decide) (Nat.le_of_ble_eq_true rfl) (nv_lo_of rfl) rfl (Nat.le_of_ble_eq_true rfl) ?_
  show nv_E G 4 qX6_init 201 [some (.ref 0), some (.int 2)] [.ref 39, .int 2, .ref 4] ((nv_hl [(1, 7, 1000), (1, 6, 1000), (1, 5, 1000), (1, 4, 1000), (1, 3, 1000), (1, 2, 1000), (1, 1, 1000), (1, 0, 1000)]), (nv_zl [(4, 1), (4, 0), (3, 11), (3, 10), (3, 9), (3, 8), (3, 7), (3, 6), (3, 5), (3, 4), (3, 3), (3, 2), (3, 1), (3, 0), (2, 11), (2, 10), (2, 9), (2, 8), (2, 7), (2, 6), (2, 5), (2, 4), (2, 3), (2, 2), (2, 1), (2, 0), (0, 16), (0, 15), (0, 14), (0, 13), (0, 12), (0, 6), (0, 5), (0, 4), (0, 3), (0, 2), (0, 1), (0, 0)]), 40) _
  refine nv_LastR (j := 2) dX6_init_201 ⟨by decide, rfl⟩ (fun _ => rfl) (by decide) (by decide) (by decide) ⟨by decide, rfl⟩ rfl ?_
  refine nv_incL (v := 3) dX6_init_202 rfl (by decide) (by decide) rfl rfl ?_
  refine nv_goto dX6_init_205 ?_
  refine nv_iL dX6_init_183 rfl ?_
  refine nv_k dX6_init_184 ?_
  refine nv_icge0 dX6_init_186 (by decide) ?_
  refine nv_aL dX6_init_189 rfl ?_
  refine nv_getR lf_X6_27 dX6_init_190 ⟨by decide, rfl⟩ rfl (by decide +kernel) ?_
  refine nv_iL dX6_init_193 rfl ?_
  refine nv_LnewO dX6_init_194 wn_X6_25_40 rfl (by decide +kernel) (Nat.le_of_ble_eq_true rfl) rfl ?_
  refine nv_dup dX6_init_197 rfl ?_
  refine nv_callC (tk_X2 G _ (Nat.le_of_ble_eq_true rfl) 40) rfl dX6_init_198 (Or.inr ⟨"WhoseName", by simp [nv_nst]⟩) y_qX2_init rfl (by decide) (Nat.le_of_ble_eq_true rfl) (nv_lo_of rfl) rfl (Nat.le_of_ble_eq_true rfl) ?_
  show nv_E G 4 qX6_init 201 [some (.ref 0), some (.int 3)] [.ref 40, .int 3, .ref 4] ((nv_hl [(1, 7, 1000), (1, 6, 1000), (1, 5, 1000), (1, 4, 1000), (1, 3, 1000), (1, 2, 1000), (1, 1, 1000), (1, 0, 1000)]), (nv_zl [(4, 2), (4, 1), (4, 0), (3, 11), (3, 10), (3, 9), (3, 8), (3, 7), (3, 6), (3, 5), (3, 4), (3, 3), (3, 2), (3, 1), (3, 0), (2, 11), (2, 10), (2, 9), (2, 8), (2, 7), (2, 6), (2, 5), (2, 4), (2, 3), (2, 2), (2, 1), (2, 0), (0, 16), (0, 15), (0, 14), (0, 13), (0, 12), (0, 6), (0, 5), (0, 4), (0, 3), (0, 2), (0, 1), (0, 0)]), 41) _
  refine nv_LastR (j := 3) dX6_init_201 ⟨by decide, rfl⟩ (fun _ => rfl) (by decide) (by decide) (by decide) ⟨by decide, rfl⟩ rfl ?_
  refine nv_incL (v := 4) dX6_init_202 rfl (by decide) (by decide) rfl rfl ?_
  refine nv_goto dX6_init_205 ?_
  refine nv_iL dX6_init_183 rfl ?_
  refine nv_k dX6_init_184 ?_
  refine nv_icge0 dX6_init_186 (by decide) ?_
  refine nv_aL dX6_init_189 rfl ?_
  refine nv_getR lf_X6_27 dX6_init_190 ⟨by decide, rfl⟩ rfl (by decide +kernel) ?_
  refine nv_iL dX6_init_193 rfl ?_
  refine nv_LnewO dX6_init_194 wn_X6_25_41 rfl (by decide +kernel) (Nat.le_of_ble_eq_true rfl) rfl ?_
  refine nv_dup dX6_init_197 rfl ?_
  refine nv_callC (tk_X2 G _ (Nat.le_of_ble_eq_true rfl) 41) rfl dX6_init_198 (Or.inr ⟨"WhoseName", by simp [nv_nst]⟩) y_qX2_init rfl (by decide) (Nat.le_of_ble_eq_true rfl) (nv_lo_of rfl) rfl (Nat.le_of_ble_eq_true rfl) ?_
  show nv_E G 4 qX6_init 201 [some (.ref 0), some (.int 4)] [.ref 41, .int 4, .ref 4] ((nv_hl [(1, 7, 1000), (1, 6, 1000), (1, 5, 1000), (1, 4, 1000), (1, 3, 1000), (1, 2, 1000), (1, 1, 1000), (1, 0, 1000)]), (nv_zl [(4, 3), (4, 2), (4, 1), (4, 0), (3, 11), (3, 10), (3, 9), (3, 8), (3, 7), (3, 6), (3, 5), (3, 4), (3, 3), (3, 2), (3, 1), (3, 0), (2, 11), (2, 10), (2, 9), (2, 8), (2, 7), (2, 6), (2, 5), (2, 4), (2, 3), (2, 2), (2, 1), (2, 0), (0, 16), (0, 15), (0, 14), (0, 13), (0, 12), (0, 6), (0, 5), (0, 4), (0, 3), (0, 2), (0, 1), (0, 0)]), 42) _
  refine nv_LastR (j := 4) dX6_init_201 ⟨by decide, rfl⟩ (fun _ => rfl) (by decide) (by decide) (by decide) ⟨by decide, rfl⟩ rfl ?_
  refine nv_incL (v := 5) dX6_init_202 rfl (by decide) (by decide) rfl rfl ?_
  refine nv_goto dX6_init_205 ?_
  refine nv_iL dX6_init_183 rfl ?_
  refine nv_k dX6_init_184 ?_
  refine nv_icge0 dX6_init_186 (by decide) ?_
  refine nv_aL dX6_init_189 rfl ?_
  refine nv_getR lf_X6_27 dX6_init_190 ⟨by decide, rfl⟩ rfl (by decide +kernel) ?_
  refine nv_iL dX6_init_193 rfl ?_
  refine nv_LnewO dX6_init_194 wn_X6_25_42 rfl (by decide +kernel) (Nat.le_of_ble_eq_true rfl) rfl ?_
  refine nv_dup dX6_init_197 rfl ?_
  refine nv_callC (tk_X2 G _ (Nat.le_of_ble_eq_true rfl) 42) rfl dX6_init_198 (Or.inr ⟨"WhoseName", by simp [nv_nst]⟩) y_qX2_init rfl (by decide) (Nat.le_of_ble_eq_true rfl) (nv_lo_of rfl) rfl (Nat.le_of_ble_eq_true rfl) ?_
  show nv_E G 4 qX6_init 201 [some (.ref 0), some (.int 5)] [.ref 42, .int 5, .ref 4] ((nv_hl [(1, 7, 1000), (1, 6, 1000), (1, 5, 1000), (1, 4, 1000), (1, 3, 1000), (1, 2, 1000), (1, 1, 1000), (1, 0, 1000)]), (nv_zl [(4, 4), (4, 3), (4, 2), (4, 1), (4, 0), (3, 11), (3, 10), (3, 9), (3, 8), (3, 7), (3, 6), (3, 5), (3, 4), (3, 3), (3, 2), (3, 1), (3, 0), (2, 11), (2, 10), (2, 9), (2, 8), (2, 7), (2, 6), (2, 5), (2, 4), (2, 3), (2, 2), (2, 1), (2, 0), (0, 16), (0, 15), (0, 14), (0, 13), (0, 12), (0, 6), (0, 5), (0, 4), (0, 3), (0, 2), (0, 1), (0, 0)]), 43) _
  refine nv_LastR (j := 5) dX6_init_201 ⟨by decide, rfl⟩ (fun _ => rfl) (by decide) (by decide) (by decide) ⟨by decide, rfl⟩ rfl ?_
  refine nv_incL (v := 6) dX6_init_202 rfl (by decide) (by decide) rfl rfl ?_
  refine nv_goto dX6_init_205 ?_
  refine nv_iL dX6_init_183 rfl ?_
  refine nv_k dX6_init_184 ?_
  refine nv_icge0 dX6_init_186 (by decide) ?_
  refine nv_aL dX6_init_189 rfl ?_
  refine nv_getR lf_X6_27 dX6_init_190 ⟨by decide, rfl⟩ rfl (by decide +kernel) ?_
  refine nv_iL dX6_init_193 rfl ?_
  refine nv_LnewO dX6_init_194 wn_X6_25_43 rfl (by decide +kernel) (Nat.le_of_ble_eq_true rfl) rfl ?_
  refine nv_dup dX6_init_197 rfl ?_
  refine nv_callC (tk_X2 G _ (Nat.le_of_ble_eq_true rfl) 43) rfl dX6_init_198 (Or.inr ⟨"WhoseName", by simp [nv_nst]⟩) y_qX2_init rfl (by decide) (Nat.le_of_ble_eq_true rfl) (nv_lo_of rfl) rfl (Nat.le_of_ble_eq_true rfl) ?_
  show nv_E G 4 qX6_init 201 [some (.ref 0), some (.int 6)] [.ref 43, .int 6, .ref 4] ((nv_hl [(1, 7, 1000), (1, 6, 1000), (1, 5, 1000), (1, 4, 1000), (1, 3, 1000), (1, 2, 1000), (1, 1, 1000), (1, 0, 1000)]), (nv_zl [(4, 5), (4, 4), (4, 3), (4, 2), (4, 1), (4, 0), (3, 11), (3, 10), (3, 9), (3, 8), (3, 7), (3, 6), (3, 5), (3, 4), (3, 3), (3, 2), (3, 1), (3, 0), (2, 11), (2, 10), (2, 9), (2, 8), (2, 7), (2, 6), (2, 5), (2, 4), (2, 3), (2, 2), (2, 1), (2, 0), (0, 16), (0, 15), (0, 14), (0, 13), (0, 12), (0, 6), (0, 5), (0, 4), (0, 3), (0, 2), (0, 1), (0, 0)]), 44) _
  refine nv_LastR (j := 6) dX6_init_201 ⟨by decide, rfl⟩ (fun _ => rfl) (by decide) (by decide) (by decide) ⟨by decide, rfl⟩ rfl ?_
  refine nv_incL (v := 7) dX6_init_202 rfl (by decide) (by decide) rfl rfl ?_
  refine nv_goto dX6_init_205 ?_
  refine nv_iL dX6_init_183 rfl ?_
  refine nv_k dX6_init_184 ?_
  refine nv_icge0 dX6_init_186 (by decide) ?_
  refine nv_aL dX6_init_189 rfl ?_
  refine nv_getR lf_X6_27 dX6_init_190 ⟨by decide, rfl⟩ rfl (by decide +kernel) ?_
  refine nv_iL dX6_init_193 rfl ?_
  refine nv_LnewO dX6_init_194 wn_X6_25_44 rfl (by decide +kernel) (Nat.le_of_ble_eq_true rfl) rfl ?_
  refine nv_dup dX6_init_197 rfl ?_
  refine nv_callC (tk_X2 G _ (Nat.le_of_ble_eq_true rfl) 44) rfl dX6_init_198 (Or.inr ⟨"WhoseName", by simp [nv_nst]⟩) y_qX2_init rfl (by decide) (Nat.le_of_ble_eq_true rfl) (nv_lo_of rfl) rfl (Nat.le_of_ble_eq_true rfl) ?_
  show nv_E G 4 qX6_init 201 [some (.ref 0), some (.int 7)] [.ref 44, .int 7, .ref 4] ((nv_hl [(1, 7, 1000), (1, 6, 1000), (1, 5, 1000), (1, 4, 1000), (1, 3, 1000), (1, 2, 1000), (1, 1, 1000), (1, 0, 1000)]), (nv_zl [(4, 6), (4, 5), (4, 4), (4, 3), (4, 2), (4, 1), (4, 0), (3, 11), (3, 10), (3, 9), (3, 8), (3, 7), (3, 6), (3, 5), (3, 4), (3, 3), (3, 2), (3, 1), (3, 0), (2, 11), (2, 10), (2, 9), (2, 8), (2, 7), (2, 6), (2, 5), (2, 4), (2, 3), (2, 2), (2, 1), (2, 0), (0, 16), (0, 15), (0, 14), (0, 13), (0, 12), (0, 6), (0, 5), (0, 4), (0, 3), (0, 2), (0, 1), (0, 0)]), 45) _
  refine nv_LastR (j := 7) dX6_init_201 ⟨by decide, rfl⟩ (fun _ => rfl) (by decide) (by decide) (by decide) ⟨by decide, rfl⟩ rfl ?_
  refine nv_incL (v := 8) dX6_init_202 rfl (by decide) (by decide) rfl rfl ?_
  refine nv_goto dX6_init_205 ?_
  refine nv_iL dX6_init_183 rfl ?_
  refine nv_k dX6_init_184 ?_
  refine nv_icge0 dX6_init_186 (by decide) ?_
  refine nv_aL dX6_init_189 rfl ?_
  refine nv_getR lf_X6_27 dX6_init_190 ⟨by decide, rfl⟩ rfl (by decide +kernel) ?_
  refine nv_iL dX6_init_193 rfl ?_
  refine nv_LnewO dX6_init_194 wn_X6_25_45 rfl (by decide +kernel) (Nat.le_of_ble_eq_true rfl) rfl ?_
  refine nv_dup dX6_init_197 rfl ?_
  refine nv_callC (tk_X2 G _ (Nat.le_of_ble_eq_true rfl) 45) rfl dX6_init_198 (Or.inr ⟨"WhoseName", by simp [nv_nst]⟩) y_qX2_init rfl (by decide) (Nat.le_of_ble_eq_true rfl) (nv_lo_of rfl) rfl (Nat.le_of_ble_eq_true rfl) ?_
  show nv_E G 4 qX6_init 201 [some (.ref 0), some (.int 8)] [.ref 45, .int 8, .ref 4] ((nv_hl [(1, 7, 1000), (1, 6, 1000), (1, 5, 1000), (1, 4, 1000), (1, 3, 1000), (1, 2, 1000), (1, 1, 1000), (1, 0, 1000)]), (nv_zl [(4, 7), (4, 6), (4, 5), (4, 4), (4, 3), (4, 2), (4, 1), (4, 0), (3, 11), (3, 10), (3, 9), (3, 8), (3, 7), (3, 6), (3, 5), (3, 4), (3, 3), (3, 2), (3, 1), (3, 0), (2, 11), (2, 10), (2, 9), (2, 8), (2, 7), (2, 6), (2, 5), (2, 4), (2, 3), (2, 2), (2, 1), (2, 0), (0, 16), (0, 15), (0, 14), (0, 13), (0, 12), (0, 6), (0, 5), (0, 4), (0, 3), (0, 2), (0, 1), (0, 0)]), 46) _
  refine nv_LastR (j := 8) dX6_init_201 ⟨by decide, rfl⟩ (fun _ => rfl) (by decide) (by decide) (by decide) ⟨by decide, rfl⟩ rfl ?_
  refine nv_incL (v := 9) dX6_init_202 rfl (by decide) (by decide) rfl rfl ?_
  refine nv_goto dX6_init_205 ?_
  refine nv_iL dX6_init_183 rfl ?_
  refine nv_k dX6_init_184 ?_
  refine nv_icge0 dX6_init_186 (by decide) ?_
  refine nv_aL dX6_init_189 rfl ?_
  refine nv_getR lf_X6_27 dX6_init_190 ⟨by decide, rfl⟩ rfl (by decide +kernel) ?_
  refine nv_iL dX6_init_193 rfl ?_
  refine nv_LnewO dX6_init_194 wn_X6_25_46 rfl (by decide +kernel) (Nat.le_of_ble_eq_true rfl) rfl ?_
  refine nv_dup dX6_init_197 rfl ?_
  refine nv_callC (tk_X2 G _ (Nat.le_of_ble_eq_true rfl) 46) rfl dX6_init_198 (Or.inr ⟨"WhoseName", by simp [nv_nst]⟩) y_qX2_init rfl (by decide) (Nat.le_of_ble_eq_true rfl) (nv_lo_of rfl) rfl (Nat.le_of_ble_eq_true rfl) ?_
  show nv_E G 4 qX6_init 201 [some (.ref 0), some (.int 9)] [.ref 46, .int 9, .ref 4] ((nv_hl [(1, 7, 1000), (1, 6, 1000), (1, 5, 1000), (1, 4, 1000), (1, 3, 1000), (1, 2, 1000), (1, 1, 1000), (1, 0, 1000)]), (nv_zl [(4, 8), (4, 7), (4, 6), (4, 5), (4, 4), (4, 3), (4, 2), (4, 1), (4, 0), (3, 11), (3, 10), (3, 9), (3, 8), (3, 7), (3, 6), (3, 5), (3, 4), (3, 3), (3, 2), (3, 1), (3, 0), (2, 11), (2, 10), (2, 9), (2, 8), (2, 7), (2, 6), (2, 5), (2, 4), (2, 3), (2, 2), (2, 1), (2, 0), (0, 16), (0, 15), (0, 14), (0, 13), (0, 12), (0, 6), (0, 5), (0, 4), (0, 3), (0, 2), (0, 1), (0, 0)]), 47) _
  refine nv_LastR (j := 9) dX6_init_201 ⟨by decide, rfl⟩ (fun _ => rfl) (by decide) (by decide) (by decide) ⟨by decide, rfl⟩ rfl ?_
  refine nv_incL (v := 10) dX6_init_202 rfl (by decide) (by decide) rfl rfl ?_
  refine nv_goto dX6_init_205 ?_
  refine nv_iL dX6_init_183 rfl ?_
  refine nv_k dX6_init_184 ?_
  refine nv_icge1 dX6_init_186 (by decide) ?_
  refine nv_k dX6_init_208 ?_
  refine nv_iS dX6_init_209 (by decide) rfl rfl ?_
  refine nv_iL dX6_init_210 rfl ?_
  refine nv_k dX6_init_211 ?_
  refine nv_icge0 dX6_init_213 (by decide) ?_
  refine nv_aL dX6_init_216 rfl ?_
  refine nv_getR lf_X6_33 dX6_init_217 ⟨by decide, rfl⟩ rfl (by decide +kernel) ?_
  refine nv_iL dX6_init_220 rfl ?_
  refine nv_LnewO dX6_init_221 wn_X6_31_47 rfl (by decide +kernel) (Nat.le_of_ble_eq_true rfl) rfl ?_
  refine nv_dup dX6_init_224 rfl ?_
  refine nv_callC (tk_X0 G _ (Nat.le_of_ble_eq_true rfl) 47) rfl dX6_init_225 (Or.inr ⟨"WhoseName", by simp [nv_nst]⟩) y_qX0_init rfl (by decide) (Nat.le_of_ble_eq_true rfl) (nv_lo_of rfl) rfl (Nat.le_of_ble_eq_true rfl) ?_
  show nv_E G 4 qX6_init 228 [some (.ref 0), some (.int 0)] [.ref 47, .int 0, .ref 5] ((nv_hl [(1, 7, 1000), (1, 6, 1000), (1, 5, 1000), (1, 4, 1000), (1, 3, 1000), (1, 2, 1000), (1, 1, 1000), (1, 0, 1000)]), (nv_zl [(4, 9), (4, 8), (4, 7), (4, 6), (4, 5), (4, 4), (4, 3), (4, 2), (4, 1), (4, 0), (3, 11), (3, 10), (3, 9), (3, 8), (3, 7), (3, 6), (3, 5), (3, 4), (3, 3), (3, 2), (3, 1), (3, 0), (2, 11), (2, 10), (2, 9), (2, 8), (2, 7), (2, 6), (2, 5), (2, 4), (2, 3), (2, 2), (2, 1), (2, 0), (0, 16), (0, 15), (0, 14), (0, 13), (0, 12), (0, 6), (0, 5), (0, 4), (0, 3), (0, 2), (0, 1), (0, 0)]), 48) _
  refine nv_LastR (j := 0) dX6_init_228 ⟨by decide, rfl⟩ (fun _ => rfl) (by decide) (by decide) (by decide) ⟨by decide, rfl⟩ rfl ?_
  refine nv_incL (v := 1) dX6_init_229 rfl (by decide) (by decide) rfl rfl ?_
  refine nv_goto dX6_init_232 ?_
  refine nv_iL dX6_init_210 rfl ?_
  refine nv_k dX6_init_211 ?_
  refine nv_icge0 dX6_init_213 (by decide) ?_
  refine nv_aL dX6_init_216 rfl ?_
  refine nv_getR lf_X6_33 dX6_init_217 ⟨by decide, rfl⟩ rfl (by decide +kernel) ?_
  refine nv_iL dX6_init_220 rfl ?_
  refine nv_LnewO dX6_init_221 wn_X6_31_48 rfl (by decide +kernel) (Nat.le_of_ble_eq_true rfl) rfl ?_
  refine nv_dup dX6_init_224 rfl ?_
  refine nv_callC (tk_X0 G _ (Nat.le_of_ble_eq_true rfl) 48) rfl dX6_init_225 (Or.inr ⟨"WhoseName", by simp [nv_nst]⟩) y_qX0_init rfl (by decide) (Nat.le_of_ble_eq_true rfl) (nv_lo_of rfl) rfl (Nat.le_of_ble_eq_true rfl) ?_
  show nv_E G 4 qX6_init 228 [some (.ref 0), some (.int 1)] [.ref 48, .int 1, .ref 5] ((nv_hl [(1, 7, 1000), (1, 6, 1000), (1, 5, 1000), (1, 4, 1000), (1, 3, 1000), (1, 2, 1000), (1, 1, 1000), (1, 0, 1000)]), (nv_zl [(5, 0), (4, 9), (4, 8), (4, 7), (4, 6), (4, 5), (4, 4), (4, 3), (4, 2), (4, 1), (4, 0), (3, 11), (3, 10), (3, 9), (3, 8), (3, 7), (3, 6), (3, 5), (3, 4), (3, 3), (3, 2), (3, 1), (3, 0), (2, 11), (2, 10), (2, 9), (2, 8), (2, 7), (2, 6), (2, 5), (2, 4), (2, 3), (2, 2), (2, 1), (2, 0), (0, 16), (0, 15), (0, 14), (0, 13), (0, 12), (0, 6), (0, 5), (0, 4), (0, 3), (0, 2), (0, 1), (0, 0)]), 49) _
  refine nv_LastR (j := 1) dX6_init_228 ⟨by decide, rfl⟩ (fun _ => rfl) (by decide) (by decide) (by decide) ⟨by decide, rfl⟩ rfl ?_
  refine nv_incL (v := 2) dX6_init_229 rfl (by decide) (by decide) rfl rfl ?_
  refine nv_goto dX6_init_232 ?_
  refine nv_iL dX6_init_210 rfl ?_
  refine nv_k dX6_init_211 ?_
  refine nv_icge0 dX6_init_213 (by decide) ?_
  refine nv_aL dX6_init_216 rfl ?_
  refine nv_getR lf_X6_33 dX6_init_217 ⟨by decide, rfl⟩ rfl (by decide +kernel) ?_
  refine nv_iL dX6_init_220 rfl ?_
  refine nv_LnewO dX6_init_221 wn_X6_31_49 rfl (by decide +kernel) (Nat.le_of_ble_eq_true rfl) rfl ?_
  refine nv_dup dX6_init_224 rfl ?_
  refine nv_callC (tk_X0 G _ (Nat.le_of_ble_eq_true rfl) 49) rfl dX6_init_225 (Or.inr ⟨"WhoseName", by simp [nv_nst]⟩) y_qX0_init rfl (by decide) (Nat.le_of_ble_eq_true rfl) (nv_lo_of rfl) rfl (Nat.le_of_ble_eq_true rfl) ?_
  show nv_E G 4 qX6_init 228 [some (.ref 0), some (.int 2)] [.ref 49, .int 2, .ref 5] ((nv_hl [(1, 7, 1000), (1, 6, 1000), (1, 5, 1000), (1, 4, 1000), (1, 3, 1000), (1, 2, 1000), (1, 1, 1000), (1, 0, 1000)]), (nv_zl [(5, 1), (5, 0), (4, 9), (4, 8), (4, 7), (4, 6), (4, 5), (4, 4), (4, 3), (4, 2), (4, 1), (4, 0), (3, 11), (3, 10), (3, 9), (3, 8), (3, 7), (3, 6), (3, 5), (3, 4), (3, 3), (3, 2), (3, 1), (3, 0), (2, 11), (2, 10), (2, 9), (2, 8), (2, 7), (2, 6), (2, 5), (2, 4), (2, 3), (2, 2), (2, 1), (2, 0), (0, 16), (0, 15), (0, 14), (0, 13), (0, 12), (0, 6), (0, 5), (0, 4), (0, 3), (0, 2), (0, 1), (0, 0)]), 50) _
  refine nv_LastR (j := 2) dX6_init_228 ⟨by decide, rfl⟩ (fun _ => rfl) (by decide) (by decide) (by decide) ⟨by decide, rfl⟩ rfl ?_
  refine nv_incL (v := 3) dX6_init_229 rfl (by decide) (by decide) rfl rfl ?_
  refine nv_goto dX6_init_232 ?_
  refine nv_iL dX6_init_210 rfl ?_
  refine nv_k dX6_init_211 ?_
  refine nv_icge0 dX6_init_213 (by decide) ?_
  refine nv_aL dX6_init_216 rfl ?_
  refine nv_getR lf_X6_33 dX6_init_217 ⟨by decide, rfl⟩ rfl (by decide +kernel) ?_
  refine nv_iL dX6_init_220 rfl ?_
  refine nv_LnewO dX6_init_221 wn_X6_31_50 rfl (by decide +kernel) (Nat.le_of_ble_eq_true rfl) rfl ?_
  refine nv_dup dX6_init_224 rfl ?_
  refine nv_callC (tk_X0 G _ (Nat.le_of_ble_eq_true rfl) 50) rfl dX6_init_225 (Or.inr ⟨"WhoseName", by simp [nv_nst]⟩) y_qX0_init rfl (by decide) (Nat.le_of_ble_eq_true rfl) (nv_lo_of rfl) rfl (Nat.le_of_ble_eq_true rfl) ?_
  show nv_E G 4 qX6_init 228 [some (.ref 0), some (.int 3)] [.ref 50, .int 3, .ref 5] ((nv_hl [(1, 7, 1000), (1, 6, 1000), (1, 5, 1000), (1, 4, 1000), (1, 3, 1000), (1, 2, 1000), (1, 1, 1000), (1, 0, 1000)]), (nv_zl [(5, 2), (5, 1), (5, 0), (4, 9), (4, 8), (4, 7), (4, 6), (4, 5), (4, 4), (4, 3), (4, 2), (4, 1), (4, 0), (3, 11), (3, 10), (3, 9), (3, 8), (3, 7), (3, 6), (3, 5), (3, 4), (3, 3), (3, 2), (3, 1), (3, 0), (2, 11), (2, 10), (2, 9), (2, 8), (2, 7), (2, 6), (2, 5), (2, 4), (2, 3), (2, 2), (2, 1), (2, 0), (0, 16), (0, 15), (0, 14), (0, 13), (0, 12), (0, 6), (0, 5), (0, 4), (0, 3), (0, 2), (0, 1), (0, 0)]), 51) _
  refine nv_LastR (j := 3) dX6_init_228 ⟨by decide, rfl⟩ (fun _ => rfl) (by decide) (by decide) (by decide) ⟨by decide, rfl⟩ rfl ?_
  refine nv_incL (v := 4) dX6_init_229 rfl (by decide) (by decide) rfl rfl ?_
  refine nv_goto dX6_init_232 ?_
  refine nv_iL dX6_init_210 rfl ?_
  refine nv_k dX6_init_211 ?_
  refine nv_icge0 dX6_init_213 (by decide) ?_
  refine nv_aL dX6_init_216 rfl ?_
  refine nv_getR lf_X6_33 dX6_init_217 ⟨by decide, rfl⟩ rfl (by decide +kernel) ?_
  refine nv_iL dX6_init_220 rfl ?_
  refine nv_LnewO dX6_init_221 wn_X6_31_51 rfl (by decide +kernel) (Nat.le_of_ble_eq_true rfl) rfl ?_
  refine nv_dup dX6_init_224 rfl ?_
  refine nv_callC (tk_X0 G _ (Nat.le_of_ble_eq_true rfl) 51) rfl dX6_init_225 (Or.inr ⟨"WhoseName", by simp [nv_nst]⟩) y_qX0_init rfl (by decide) (Nat.le_of_ble_eq_true rfl) (nv_lo_of rfl) rfl (Nat.le_of_ble_eq_true rfl) ?_
  show nv_E G 4 qX6_init 228 [some (.ref 0), some (.int 4)] [.ref 51, .int 4, .ref 5] ((nv_hl [(1, 7, 1000), (1, 6, 1000), (1, 5, 1000), (1, 4, 1000), (1, 3, 1000), (1, 2, 1000), (1, 1, 1000), (1, 0, 1000)]), (nv_zl [(5, 3), (5, 2), (5, 1), (5, 0), (4, 9), (4, 8), (4, 7), (4, 6), (4, 5), (4, 4), (4, 3), (4, 2), (4, 1), (4, 0), (3, 11), (3, 10), (3, 9), (3, 8), (3, 7), (3, 6), (3, 5), (3, 4), (3, 3), (3, 2), (3, 1), (3, 0), (2, 11), (2, 10), (2, 9), (2, 8), (2, 7), (2, 6), (2, 5), (2, 4), (2, 3), (2, 2), (2, 1), (2, 0), (0, 16), (0, 15), (0, 14), (0, 13), (0, 12), (0, 6), (0, 5), (0, 4), (0, 3), (0, 2), (0, 1), (0, 0)]), 52) _
  refine nv_LastR (j := 4) dX6_init_228 ⟨by decide, rfl⟩ (fun _ => rfl) (by decide) (by decide) (by decide) ⟨by decide, rfl⟩ rfl ?_
  refine nv_incL (v := 5) dX6_init_229 rfl (by decide) (by decide) rfl rfl ?_
  refine nv_goto dX6_init_232 ?_
  refine nv_iL dX6_init_210 rfl ?_
  refine nv_k dX6_init_211 ?_
  refine nv_icge0 dX6_init_213 (by decide) ?_
  refine nv_aL dX6_init_216 rfl ?_
  refine nv_getR lf_X6_33 dX6_init_217 ⟨by decide, rfl⟩ rfl (by decide +kernel) ?_
  refine nv_iL dX6_init_220 rfl ?_
  refine nv_LnewO dX6_init_221 wn_X6_31_52 rfl (by decide +kernel) (Nat.le_of_ble_eq_true rfl) rfl ?_
  refine nv_dup dX6_init_224 rfl ?_
  refine nv_callC (tk_X0 G _ (Nat.le_of_ble_eq_true rfl) 52) rfl dX6_init_225 (Or.inr ⟨"WhoseName", by simp [nv_nst]⟩) y_qX0_init rfl (by decide) (Nat.le_of_ble_eq_true rfl) (nv_lo_of rfl) rfl (Nat.le_of_ble_eq_true rfl) ?_
  show nv_E G 4 qX6_init 228 [some (.ref 0), some (.int 5)] [.ref 52, .int 5, .ref 5] ((nv_hl [(1, 7, 1000), (1, 6, 1000), (1, 5, 1000), (1, 4, 1000), (1, 3, 1000), (1, 2, 1000), (1, 1, 1000), (1, 0, 1000)]), (nv_zl [(5, 4), (5, 3), (5, 2), (5, 1), (5, 0), (4, 9), (4, 8), (4, 7), (4, 6), (4, 5), (4, 4), (4, 3), (4, 2), (4, 1), (4, 0), (3, 11), (3, 10), (3, 9), (3, 8), (3, 7), (3, 6), (3, 5), (3, 4), (3, 3), (3, 2), (3, 1), (3, 0), (2, 11), (2, 10), (2, 9), (2, 8), (2, 7), (2, 6), (2, 5), (2, 4), (2, 3), (2, 2), (2, 1), (2, 0), (0, 16), (0, 15), (0, 14), (0, 13), (0, 12), (0, 6), (0, 5), (0, 4), (0, 3), (0, 2), (0, 1), (0, 0)]), 53) _
  refine nv_LastR (j := 5) dX6_init_228 ⟨by decide, rfl⟩ (fun _ => rfl) (by decide) (by decide) (by decide) ⟨by decide, rfl⟩ rfl ?_
  refine nv_incL (v := 6) dX6_init_229 rfl (by decide) (by decide) rfl rfl ?_
  refine nv_goto dX6_init_232 ?_
  refine nv_iL dX6_init_210 rfl ?_
  refine nv_k dX6_init_211 ?_
  refine nv_icge0 dX6_init_213 (by decide) ?_
  refine nv_aL dX6_init_216 rfl ?_
  refine nv_getR lf_X6_33 dX6_init_217 ⟨by decide, rfl⟩ rfl (by decide +kernel) ?_
  refine nv_iL dX6_init_220 rfl ?_
  refine nv_LnewO dX6_init_221 wn_X6_31_53 rfl (by decide +kernel) (Nat.le_of_ble_eq_true rfl) rfl ?_
  refine nv_dup dX6_init_224 rfl ?_
  refine nv_callC (tk_X0 G _ (Nat.le_of_ble_eq_true rfl) 53) rfl dX6_init_225 (Or.inr ⟨"WhoseName", by simp [nv_nst]⟩) y_qX0_init rfl (by decide) (Nat.le_of_ble_eq_true rfl) (nv_lo_of rfl) rfl (Nat.le_of_ble_eq_true rfl) ?_
  show nv_E G 4 qX6_init 228 [some (.ref 0), some (.int 6)] [.ref 53, .int 6, .ref 5] ((nv_hl [(1, 7, 1000), (1, 6, 1000), (1, 5, 1000), (1, 4, 1000), (1, 3, 1000), (1, 2, 1000), (1, 1, 1000), (1, 0, 1000)]), (nv_zl [(5, 5), (5, 4), (5, 3), (5, 2), (5, 1), (5, 0), (4, 9), (4, 8), (4, 7), (4, 6), (4, 5), (4, 4), (4, 3), (4, 2), (4, 1), (4, 0), (3, 11), (3, 10), (3, 9), (3, 8), (3, 7), (3, 6), (3, 5), (3, 4), (3, 3), (3, 2), (3, 1), (3, 0), (2, 11), (2, 10), (2, 9), (2, 8), (2, 7), (2, 6), (2, 5), (2, 4), (2, 3), (2, 2), (2, 1), (2, 0), (0, 16), (0, 15), (0, 14), (0, 13), (0, 12), (0, 6), (0, 5), (0, 4), (0, 3), (0, 2), (0, 1), (0, 0)]), 54) _
  refine nv_LastR (j := 6) dX6_init_228 ⟨by decide, rfl⟩ (fun _ => rfl) (by decide) (by decide) (by decide) ⟨by decide, rfl⟩ rfl ?_
  refine nv_incL (v := 7) dX6_init_229 rfl (by decide) (by decide) rfl rfl ?_
  refine nv_goto dX6_init_232 ?_
  refine nv_iL dX6_init_210 rfl ?_
  refine nv_k dX6_init_211 ?_
  refine nv_icge0 dX6_init_213 (by decide) ?_
  refine nv_aL dX6_init_216 rfl ?_
  refine nv_getR lf_X6_33 dX6_init_217 ⟨by decide, rfl⟩ rfl (by decide +kernel) ?_
  refine nv_iL dX6_init_220 rfl ?_
  refine nv_LnewO dX6_init_221 wn_X6_31_54 rfl (by decide +kernel) (Nat.le_of_ble_eq_true rfl) rfl ?_
  refine nv_dup dX6_init_224 rfl ?_
  refine nv_callC (tk_X0 G _ (Nat.le_of_ble_eq_true rfl) 54) rfl dX6_init_225 (Or.inr ⟨"WhoseName", by simp [nv_nst]⟩) y_qX0_init rfl (by decide) (Nat.le_of_ble_eq_true rfl) (nv_lo_of rfl) rfl (Nat.le_of_ble_eq_true rfl) ?_
  show nv_E G 4 qX6_init 228 [some (.ref 0), some (.int 7)] [.ref 54, .int 7, .ref 5] ((nv_hl [(1, 7, 1000), (1, 6, 1000), (1, 5, 1000), (1, 4, 1000), (1, 3, 1000), (1, 2, 1000), (1, 1, 1000), (1, 0, 1000)]), (nv_zl [(5, 6), (5, 5), (5, 4), (5, 3), (5, 2), (5, 1), (5, 0), (4, 9), (4, 8), (4, 7), (4, 6), (4, 5), (4, 4), (4, 3), (4, 2), (4, 1), (4, 0), (3, 11), (3, 10), (3, 9), (3, 8), (3, 7), (3, 6), (3, 5), (3, 4), (3, 3), (3, 2), (3, 1), (3, 0), (2, 11), (2, 10), (2, 9), (2, 8), (2, 7), (2, 6), (2, 5), (2, 4), (2, 3), (2, 2), (2, 1), (2, 0), (0, 16), (0, 15), (0, 14), (0, 13), (0, 12), (0, 6), (0, 5), (0, 4), (0, 3), (0, 2), (0, 1), (0, 0)]), 55) _
  refine nv_LastR (j := 7) dX6_init_228 ⟨by decide, rfl⟩ (fun _ => rfl) (by decide) (by decide) (by decide) ⟨by decide, rfl⟩ rfl ?_
  refine nv_incL (v := 8) dX6_init_229 rfl (by decide) (by decide) rfl rfl ?_
  refine nv_goto dX6_init_232 ?_
  refine nv_iL dX6_init_210 rfl ?_
  refine nv_k dX6_init_211 ?_
  refine nv_icge0 dX6_init_213 (by decide) ?_
  refine nv_aL dX6_init_216 rfl ?_
  refine nv_getR lf_X6_33 dX6_init_217 ⟨by decide, rfl⟩ rfl (by decide +kernel) ?_
  refine nv_iL dX6_init_220 rfl ?_
  refine nv_LnewO dX6_init_221 wn_X6_31_55 rfl (by decide +kernel) (Nat.le_of_ble_eq_true rfl) rfl ?_
  refine nv_dup dX6_init_224 rfl ?_
  refine nv_callC (tk_X0 G _ (Nat.le_of_ble_eq_true rfl) 55) rfl dX6_init_225 (Or.inr ⟨"WhoseName", by simp [nv_nst]⟩) y_qX0_init rfl (by decide) (Nat.le_of_ble_eq_true rfl) (nv_lo_of rfl) rfl (Nat.le_of_ble_eq_true rfl) ?_
  show nv_E G 4 qX6_init 228 [some (.ref 0), some (.int 8)] [.ref 55, .int 8, .ref 5] ((nv_hl [(1, 7, 1000), (1, 6, 1000), (1, 5, 1000), (1, 4, 1000), (1, 3, 1000), (1, 2, 1000), (1, 1, 1000), (1, 0, 1000)]), (nv_zl [(5, 7), (5, 6), (5, 5), (5, 4), (5, 3), (5, 2), (5, 1), (5, 0), (4, 9), (4, 8), (4, 7), (4, 6), (4, 5), (4, 4), (4, 3), (4, 2), (4, 1), (4, 0), (3, 11), (3, 10), (3, 9), (3, 8), (3, 7), (3, 6), (3, 5), (3, 4), (3, 3), (3, 2), (3, 1), (3, 0), (2, 11), (2, 10), (2, 9), (2, 8), (2, 7), (2, 6), (2, 5), (2, 4), (2, 3), (2, 2), (2, 1), (2, 0), (0, 16), (0, 15), (0, 14), (0, 13), (0, 12), (0, 6), (0, 5), (0, 4), (0, 3), (0, 2), (0, 1), (0, 0)]), 56) _
  refine nv_LastR (j := 8) dX6_init_228 ⟨by decide, rfl⟩ (fun _ => rfl) (by decide) (by decide) (by decide) ⟨by decide, rfl⟩ rfl ?_
  refine nv_incL (v := 9) dX6_init_229 rfl (by decide) (by decide) rfl rfl ?_
  refine nv_goto dX6_init_232 ?_
  refine nv_iL dX6_init_210 rfl ?_
  refine nv_k dX6_init_211 ?_
  refine nv_icge0 dX6_init_213 (by decide) ?_
  refine nv_aL dX6_init_216 rfl ?_
  refine nv_getR lf_X6_33 dX6_init_217 ⟨by decide, rfl⟩ rfl (by decide +kernel) ?_
  refine nv_iL dX6_init_220 rfl ?_
  refine nv_LnewO dX6_init_221 wn_X6_31_56 rfl (by decide +kernel) (Nat.le_of_ble_eq_true rfl) rfl ?_
  refine nv_dup dX6_init_224 rfl ?_
  refine nv_callC (tk_X0 G _ (Nat.le_of_ble_eq_true rfl) 56) rfl dX6_init_225 (Or.inr ⟨"WhoseName", by simp [nv_nst]⟩) y_qX0_init rfl (by decide) (Nat.le_of_ble_eq_true rfl) (nv_lo_of rfl) rfl (Nat.le_of_ble_eq_true rfl) ?_
  show nv_E G 4 qX6_init 228 [some (.ref 0), some (.int 9)] [.ref 56, .int 9, .ref 5] ((nv_hl [(1, 7, 1000), (1, 6, 1000), (1, 5, 1000), (1, 4, 1000), (1, 3, 1000), (1, 2, 1000), (1, 1, 1000), (1, 0, 1000)]), (nv_zl [(5, 8), (5, 7), (5, 6), (5, 5), (5, 4), (5, 3), (5, 2), (5, 1), (5, 0), (4, 9), (4, 8), (4, 7), (4, 6), (4, 5), (4, 4), (4, 3), (4, 2), (4, 1), (4, 0), (3, 11), (3, 10), (3, 9), (3, 8), (3, 7), (3, 6), (3, 5), (3, 4), (3, 3), (3, 2), (3, 1), (3, 0), (2, 11), (2, 10), (2, 9), (2, 8), (2, 7), (2, 6), (2, 5), (2, 4), (2, 3), (2, 2), (2, 1), (2, 0), (0, 16), (0, 15), (0, 14), (0, 13), (0, 12), (0, 6), (0, 5), (0, 4), (0, 3), (0, 2), (0, 1), (0, 0)]), 57) _
  refine nv_LastR (j := 9) dX6_init_228 ⟨by decide, rfl⟩ (fun _ => rfl) (by decide) (by decide) (by decide) ⟨by decide, rfl⟩ rfl ?_
  refine nv_incL (v := 10) dX6_init_229 rfl (by decide) (by decide) rfl rfl ?_
  refine nv_goto dX6_init_232 ?_
  refine nv_iL dX6_init_210 rfl ?_
  refine nv_k dX6_init_211 ?_
  refine nv_icge0 dX6_init_213 (by decide) ?_
  refine nv_aL dX6_init_216 rfl ?_
  refine nv_getR lf_X6_33 dX6_init_217 ⟨by decide, rfl⟩ rfl (by decide +kernel) ?_
  refine nv_iL dX6_init_220 rfl ?_
  refine nv_LnewO dX6_init_221 wn_X6_31_57 rfl (by decide +kernel) (Nat.le_of_ble_eq_true rfl) rfl ?_
  refine nv_dup dX6_init_224 rfl ?_
  refine nv_callC (tk_X0 G _ (Nat.le_of_ble_eq_true rfl) 57) rfl dX6_init_225 (Or.inr ⟨"WhoseName", by simp [nv_nst]⟩) y_qX0_init rfl (by decide) (Nat.le_of_ble_eq_true rfl) (nv_lo_of rfl) rfl (Nat.le_of_ble_eq_true rfl) ?_
  show nv_E G 4 qX6_init 228 [some (.ref 0), some (.int 10)] [.ref 57, .int 10, .ref 5] ((nv_hl [(1, 7, 1000), (1, 6, 1000), (1, 5, 1000), (1, 4, 1000), (1, 3, 1000), (1, 2, 1000), (1, 1, 1000), (1, 0, 1000)]), (nv_zl [(5, 9), (5, 8), (5, 7), (5, 6), (5, 5), (5, 4), (5, 3), (5, 2), (5, 1), (5, 0), (4, 9), (4, 8), (4, 7), (4, 6), (4, 5), (4, 4), (4, 3), (4, 2), (4, 1), (4, 0), (3, 11), (3, 10), (3, 9), (3, 8), (3, 7), (3, 6), (3, 5), (3, 4), (3, 3), (3, 2), (3, 1), (3, 0), (2, 11), (2, 10), (2, 9), (2, 8), (2, 7), (2, 6), (2, 5), (2, 4), (2, 3), (2, 2), (2, 1), (2, 0), (0, 16), (0, 15), (0, 14), (0, 13), (0, 12), (0, 6), (0, 5), (0, 4), (0, 3), (0, 2), (0, 1), (0, 0)]), 58) _
  refine nv_LastR (j := 10) dX6_init_228 ⟨by decide, rfl⟩ (fun _ => rfl) (by decide) (by decide) (by decide) ⟨by decide, rfl⟩ rfl ?_
  refine nv_incL (v := 11) dX6_init_229 rfl (by decide) (by decide) rfl rfl ?_
  refine nv_goto dX6_init_232 ?_
  refine nv_iL dX6_init_210 rfl ?_
  refine nv_k dX6_init_211 ?_
  refine nv_icge0 dX6_init_213 (by decide) ?_
  refine nv_aL dX6_init_216 rfl ?_
  refine nv_getR lf_X6_33 dX6_init_217 ⟨by decide, rfl⟩ rfl (by decide +kernel) ?_
  refine nv_iL dX6_init_220 rfl ?_
  refine nv_LnewO dX6_init_221 wn_X6_31_58 rfl (by decide +kernel) (Nat.le_of_ble_eq_true rfl) rfl ?_
  refine nv_dup dX6_init_224 rfl ?_
  refine nv_callC (tk_X0 G _ (Nat.le_of_ble_eq_true rfl) 58) rfl dX6_init_225 (Or.inr ⟨"WhoseName", by simp [nv_nst]⟩) y_qX0_init rfl (by decide) (Nat.le_of_ble_eq_true rfl) (nv_lo_of rfl) rfl (Nat.le_of_ble_eq_true rfl) ?_
  show nv_E G 4 qX6_init 228 [some (.ref 0), some (.int 11)] [.ref 58, .int 11, .ref 5] ((nv_hl [(1, 7, 1000), (1, 6, 1000), (1, 5, 1000), (1, 4, 1000), (1, 3, 1000), (1, 2, 1000), (1, 1, 1000), (1, 0, 1000)]), (nv_zl [(5, 10), (5, 9), (5, 8), (5, 7), (5, 6), (5, 5), (5, 4), (5, 3), (5, 2), (5, 1), (5, 0), (4, 9), (4, 8), (4, 7), (4, 6), (4, 5), (4, 4), (4, 3), (4, 2), (4, 1), (4, 0), (3, 11), (3, 10), (3, 9), (3, 8), (3, 7), (3, 6), (3, 5), (3, 4), (3, 3), (3, 2), (3, 1), (3, 0), (2, 11), (2, 10), (2, 9), (2, 8), (2, 7), (2, 6), (2, 5), (2, 4), (2, 3), (2, 2), (2, 1), (2, 0), (0, 16), (0, 15), (0, 14), (0, 13), (0, 12), (0, 6), (0, 5), (0, 4), (0, 3), (0, 2), (0, 1), (0, 0)]), 59) _
  refine nv_LastR (j := 11) dX6_init_228 ⟨by decide, rfl⟩ (fun _ => rfl) (by decide) (by decide) (by decide) ⟨by decide, rfl⟩ rfl ?_
  refine nv_incL (v := 12) dX6_init_229 rfl (by decide) (by decide) rfl rfl ?_
  refine nv_goto dX6_init_232 ?_
  refine nv_iL dX6_init_210 rfl ?_
  refine nv_k dX6_init_211 ?_
  refine nv_icge1 dX6_init_213 (by decide) ?_
  refine nv_k dX6_init_235 ?_
  refine nv_iS dX6_init_236 (by decide) rfl rfl ?_
  refine nv_iL dX6_init_237 rfl ?_
  refine nv_k dX6_init_238 ?_
  refine nv_icge0 dX6_init_239 (by decide) ?_
  refine nv_aL dX6_init_242 rfl ?_
  refine nv_getR lf_X6_39 dX6_init_243 ⟨by decide, rfl⟩ rfl (by decide +kernel) ?_
  refine nv_iL dX6_init_246 rfl ?_
  refine nv_LnewO dX6_init_247 wn_X6_37_59 rfl (by decide +kernel) (Nat.le_of_ble_eq_true rfl) rfl ?_
  refine nv_dup dX6_init_250 rfl ?_
  refine nv_callC (tk_X3_init_59 G) rfl dX6_init_251 (Or.inl lm_X6_68) y_qX3_init rfl (by decide) (Nat.le_of_ble_eq_true rfl) (nv_lo_of rfl) rfl (Nat.le_of_ble_eq_true rfl) ?_
  show nv_E G 4 qX6_init 254 [some (.ref 0), some (.int 0)] [.ref 59, .int 0, .ref 6] ((nv_hl [(59, 3, (-1)), (61, 0, 1), (61, 1, 1), (61, 2, 10), (61, 3, 0), (61, 4, 10), (61, 5, 1), (61, 6, 0), (61, 7, 1), (61, 8, 1), (1, 7, 1000), (1, 6, 1000), (1, 5, 1000), (1, 4, 1000), (1, 3, 1000), (1, 2, 1000), (1, 1, 1000), (1, 0, 1000)]), (nv_zl [(59, 1), (59, 0), (5, 11), (5, 10), (5, 9), (5, 8), (5, 7), (5, 6), (5, 5), (5, 4), (5, 3), (5, 2), (5, 1), (5, 0), (4, 9), (4, 8), (4, 7), (4, 6), (4, 5), (4, 4), (4, 3), (4, 2), (4, 1), (4, 0), (3, 11), (3, 10), (3, 9), (3, 8), (3, 7), (3, 6), (3, 5), (3, 4), (3, 3), (3, 2), (3, 1), (3, 0), (2, 11), (2, 10), (2, 9), (2, 8), (2, 7), (2, 6), (2, 5), (2, 4), (2, 3), (2, 2), (2, 1), (2, 0), (0, 16), (0, 15), (0, 14), (0, 13), (0, 12), (0, 6), (0, 5), (0, 4), (0, 3), (0, 2), (0, 1), (0, 0)]), 62) _
  refine nv_LastR (j := 0) dX6_init_254 ⟨by decide, rfl⟩ (fun _ => rfl) (by decide) (by decide) (by decide) ⟨by decide, rfl⟩ rfl ?_
  refine nv_incL (v := 1) dX6_init_255 rfl (by decide) (by decide) rfl rfl ?_
  refine nv_goto dX6_init_258 ?_
  refine nv_iL dX6_init_237 rfl ?_
  refine nv_k dX6_init_238 ?_
  refine nv_icge0 dX6_init_239 (by decide) ?_
  refine nv_aL dX6_init_242 rfl ?_
  refine nv_getR lf_X6_39 dX6_init_243 ⟨by decide, rfl⟩ rfl (by decide +kernel) ?_
  refine nv_iL dX6_init_246 rfl ?_
  refine nv_LnewO dX6_init_247 wn_X6_37_62 rfl (by decide +kernel) (Nat.le_of_ble_eq_true rfl) rfl ?_
  refine nv_dup dX6_init_250 rfl ?_
  refine nv_callC (tk_X3_init_62 G) rfl dX6_init_251 (Or.inl lm_X6_68) y_qX3_init rfl (by decide) (Nat.le_of_ble_eq_true rfl) (nv_lo_of rfl) rfl (Nat.le_of_ble_eq_true rfl) ?_
  show nv_E G 4 qX6_init 254 [some (.ref 0), some (.int 1)] [.ref 62, .int 1, .ref 6] ((nv_hl [(62, 3, (-1)), (64, 0, 1), (64, 1, 1), (64, 2, 10), (64, 3, 0), (64, 4, 10), (64, 5, 1), (64, 6, 0), (64, 7, 1), (64, 8, 1), (59, 3, (-1)), (61, 0, 1), (61, 1, 1), (61, 2, 10), (61, 3, 0), (61, 4, 10), (61, 5, 1), (61, 6, 0), (61, 7, 1), (61, 8, 1), (1, 7, 1000), (1, 6, 1000), (1, 5, 1000), (1, 4, 1000), (1, 3, 1000), (1, 2, 1000), (1, 1, 1000), (1, 0, 1000)]), (nv_zl [(62, 1), (62, 0), (6, 0), (59, 1), (59, 0), (5, 11), (5, 10), (5, 9), (5, 8), (5, 7), (5, 6), (5, 5), (5, 4), (5, 3), (5, 2), (5, 1), (5, 0), (4, 9), (4, 8), (4, 7), (4, 6), (4, 5), (4, 4), (4, 3), (4, 2), (4, 1), (4, 0), (3, 11), (3, 10), (3, 9), (3, 8), (3, 7), (3, 6), (3, 5), (3, 4), (3, 3), (3, 2), (3, 1), (3, 0), (2, 11), (2, 10), (2, 9), (2, 8), (2, 7), (2, 6), (2, 5), (2, 4), (2, 3), (2, 2), (2, 1), (2, 0), (0, 16), (0, 15), (0, 14), (0, 13), (0, 12), (0, 6), (0, 5), (0, 4), (0, 3), (0, 2), (0, 1), (0, 0)]), 65) _
  refine nv_LastR (j := 1) dX6_init_254 ⟨by decide, rfl⟩ (fun _ => rfl) (by decide) (by decide) (by decide) ⟨by decide, rfl⟩ rfl ?_
  refine nv_incL (v := 2) dX6_init_255 rfl (by decide) (by decide) rfl rfl ?_
  refine nv_goto dX6_init_258 ?_
  refine nv_iL dX6_init_237 rfl ?_
  refine nv_k dX6_init_238 ?_
  refine nv_icge1 dX6_init_239 (by decide) ?_
  refine nv_k dX6_init_261 ?_
  refine nv_iS dX6_init_262 (by decide) rfl rfl ?_
  refine nv_iL dX6_init_263 rfl ?_
  refine nv_k dX6_init_264 ?_
  refine nv_icge0 dX6_init_265 (by decide) ?_
  refine nv_aL dX6_init_268 rfl ?_
  refine nv_getR lf_X6_45 dX6_init_269 ⟨by decide, rfl⟩ rfl (by decide +kernel) ?_
  refine nv_iL dX6_init_272 rfl ?_
  refine nv_LnewO dX6_init_273 wn_X6_43_65 rfl (by decide +kernel) (Nat.le_of_ble_eq_true rfl) rfl ?_
  refine nv_dup dX6_init_276 rfl ?_
  refine nv_callC (tk_X5_init_65 G) rfl dX6_init_277 (Or.inr ⟨"WhoseName", by simp [nv_nst]⟩) y_qX5_init rfl (by decide) (Nat.le_of_ble_eq_true rfl) (nv_lo_of rfl) rfl (Nat.le_of_ble_eq_true rfl) ?_
  show nv_E G 4 qX6_init 280 [some (.ref 0), some (.int 0)] [.ref 65, .int 0, .ref 7] ((nv_hl [(65, 1, 1), (62, 3, (-1)), (64, 0, 1), (64, 1, 1), (64, 2, 10), (64, 3, 0), (64, 4, 10), (64, 5, 1), (64, 6, 0), (64, 7, 1), (64, 8, 1), (59, 3, (-1)), (61, 0, 1), (61, 1, 1), (61, 2, 10), (61, 3, 0), (61, 4, 10), (61, 5, 1), (61, 6, 0), (61, 7, 1), (61, 8, 1), (1, 7, 1000), (1, 6, 1000), (1, 5, 1000), (1, 4, 1000), (1, 3, 1000), (1, 2, 1000), (1, 1, 1000), (1, 0, 1000)]), (nv_zl [(65, 0), (6, 1), (62, 1), (62, 0), (6, 0), (59, 1), (59, 0), (5, 11), (5, 10), (5, 9), (5, 8), (5, 7), (5, 6), (5, 5), (5, 4), (5, 3), (5, 2), (5, 1), (5, 0), (4, 9), (4, 8), (4, 7), (4, 6), (4, 5), (4, 4), (4, 3), (4, 2), (4, 1), (4, 0), (3, 11), (3, 10), (3, 9), (3, 8), (3, 7), (3, 6), (3, 5), (3, 4), (3, 3), (3, 2), (3, 1), (3, 0), (2, 11), (2, 10), (2, 9), (2, 8), (2, 7), (2, 6), (2, 5), (2, 4), (2, 3), (2, 2), (2, 1), (2, 0), (0, 16), (0, 15), (0, 14), (0, 13), (0, 12), (0, 6), (0, 5), (0, 4), (0, 3), (0, 2), (0, 1), (0, 0)]), 67) _
  refine nv_LastR (j := 0) dX6_init_280 ⟨by decide, rfl⟩ (fun _ => rfl) (by decide) (by decide) (by decide) ⟨by decide, rfl⟩ rfl ?_
  refine nv_incL (v := 1) dX6_init_281 rfl (by decide) (by decide) rfl rfl ?_
  refine nv_goto dX6_init_284 ?_
  refine nv_iL dX6_init_263 rfl ?_
  refine nv_k dX6_init_264 ?_
  refine nv_icge0 dX6_init_265 (by decide) ?_
  refine nv_aL dX6_init_268 rfl ?_
  refine nv_getR lf_X6_45 dX6_init_269 ⟨by decide, rfl⟩ rfl (by decide +kernel) ?_
  refine nv_iL dX6_init_272 rfl ?_
  refine nv_LnewO dX6_init_273 wn_X6_43_67 rfl (by decide +kernel) (Nat.le_of_ble_eq_true rfl) rfl ?_
  refine nv_dup dX6_init_276 rfl ?_
  refine nv_callC (tk_X5_init_67 G) rfl dX6_init_277 (Or.inr ⟨"WhoseName", by simp [nv_nst]⟩) y_qX5_init rfl (by decide) (Nat.le_of_ble_eq_true rfl) (nv_lo_of rfl) rfl (Nat.le_of_ble_eq_true rfl) ?_
  show nv_E G 4 qX6_init 280 [some (.ref 0), some (.int 1)] [.ref 67, .int 1, .ref 7] ((nv_hl [(67, 1, 1), (65, 1, 1), (62, 3, (-1)), (64, 0, 1), (64, 1, 1), (64, 2, 10), (64, 3, 0), (64, 4, 10), (64, 5, 1), (64, 6, 0), (64, 7, 1), (64, 8, 1), (59, 3, (-1)), (61, 0, 1), (61, 1, 1), (61, 2, 10), (61, 3, 0), (61, 4, 10), (61, 5, 1), (61, 6, 0), (61, 7, 1), (61, 8, 1), (1, 7, 1000), (1, 6, 1000), (1, 5, 1000), (1, 4, 1000), (1, 3, 1000), (1, 2, 1000), (1, 1, 1000), (1, 0, 1000)]), (nv_zl [(67, 0), (7, 0), (65, 0), (6, 1), (62, 1), (62, 0), (6, 0), (59, 1), (59, 0), (5, 11), (5, 10), (5, 9), (5, 8), (5, 7), (5, 6), (5, 5), (5, 4), (5, 3), (5, 2), (5, 1), (5, 0), (4, 9), (4, 8), (4, 7), (4, 6), (4, 5), (4, 4), (4, 3), (4, 2), (4, 1), (4, 0), (3, 11), (3, 10), (3, 9), (3, 8), (3, 7), (3, 6), (3, 5), (3, 4), (3, 3), (3, 2), (3, 1), (3, 0), (2, 11), (2, 10), (2, 9), (2, 8), (2, 7), (2, 6), (2, 5), (2, 4), (2, 3), (2, 2), (2, 1), (2, 0), (0, 16), (0, 15), (0, 14), (0, 13), (0, 12), (0, 6), (0, 5), (0, 4), (0, 3), (0, 2), (0, 1), (0, 0)]), 69) _
  refine nv_LastR (j := 1) dX6_init_280 ⟨by decide, rfl⟩ (fun _ => rfl) (by decide) (by decide) (by decide) ⟨by decide, rfl⟩ rfl ?_
  refine nv_incL (v := 2) dX6_init_281 rfl (by decide) (by decide) rfl rfl ?_
  refine nv_goto dX6_init_284 ?_
  refine nv_iL dX6_init_263 rfl ?_
  refine nv_k dX6_init_264 ?_
  refine nv_icge0 dX6_init_265 (by decide) ?_
  refine nv_aL dX6_init_268 rfl ?_
  refine nv_getR lf_X6_45 dX6_init_269 ⟨by decide, rfl⟩ rfl (by decide +kernel) ?_
  refine nv_iL dX6_init_272 rfl ?_
  refine nv_LnewO dX6_init_273 wn_X6_43_69 rfl (by decide +kernel) (Nat.le_of_ble_eq_true rfl) rfl ?_
  refine nv_dup dX6_init_276 rfl ?_
  refine nv_callC (tk_X5_init_69 G) rfl dX6_init_277 (Or.inr ⟨"WhoseName", by simp [nv_nst]⟩) y_qX5_init rfl (by decide) (Nat.le_of_ble_eq_true rfl) (nv_lo_of rfl) rfl (Nat.le_of_ble_eq_true rfl) ?_
  show nv_E G 4 qX6_init 280 [some (.ref 0), some (.int 2)] [.ref 69, .int 2, .ref 7] ((nv_hl [(69, 1, 1), (67, 1, 1), (65, 1, 1), (62, 3, (-1)), (64, 0, 1), (64, 1, 1), (64, 2, 10), (64, 3, 0), (64, 4, 10), (64, 5, 1), (64, 6, 0), (64, 7, 1), (64, 8, 1), (59, 3, (-1)), (61, 0, 1), (61, 1, 1), (61, 2, 10), (61, 3, 0), (61, 4, 10), (61, 5, 1), (61, 6, 0), (61, 7, 1), (61, 8, 1), (1, 7, 1000), (1, 6, 1000), (1, 5, 1000), (1, 4, 1000), (1, 3, 1000), (1, 2, 1000), (1, 1, 1000), (1, 0, 1000)]), (nv_zl [(69, 0), (7, 1), (67, 0), (7, 0), (65, 0), (6, 1), (62, 1), (62, 0), (6, 0), (59, 1), (59, 0), (5, 11), (5, 10), (5, 9), (5, 8), (5, 7), (5, 6), (5, 5), (5, 4), (5, 3), (5, 2), (5, 1), (5, 0), (4, 9), (4, 8), (4, 7), (4, 6), (4, 5), (4, 4), (4, 3), (4, 2), (4, 1), (4, 0), (3, 11), (3, 10), (3, 9), (3, 8), (3, 7), (3, 6), (3, 5), (3, 4), (3, 3), (3, 2), (3, 1), (3, 0), (2, 11), (2, 10), (2, 9), (2, 8), (2, 7), (2, 6), (2, 5), (2, 4), (2, 3), (2, 2), (2, 1), (2, 0), (0, 16), (0, 15), (0, 14), (0, 13), (0, 12), (0, 6), (0, 5), (0, 4), (0, 3), (0, 2), (0, 1), (0, 0)]), 71) _
  refine nv_LastR (j := 2) dX6_init_280 ⟨by decide, rfl⟩ (fun _ => rfl) (by decide) (by decide) (by decide) ⟨by decide, rfl⟩ rfl ?_
  refine nv_incL (v := 3) dX6_init_281 rfl (by decide) (by decide) rfl rfl ?_
  refine nv_goto dX6_init_284 ?_
  refine nv_iL dX6_init_263 rfl ?_
  refine nv_k dX6_init_264 ?_
  refine nv_icge0 dX6_init_265 (by decide) ?_
  refine nv_aL dX6_init_268 rfl ?_
  refine nv_getR lf_X6_45 dX6_init_269 ⟨by decide, rfl⟩ rfl (by decide +kernel) ?_
  refine nv_iL dX6_init_272 rfl ?_
  refine nv_LnewO dX6_init_273 wn_X6_43_71 rfl (by decide +kernel) (Nat.le_of_ble_eq_true rfl) rfl ?_
  refine nv_dup dX6_init_276 rfl ?_
  refine nv_callC (tk_X5_init_71 G) rfl dX6_init_277 (Or.inr ⟨"WhoseName", by simp [nv_nst]⟩) y_qX5_init rfl (by decide) (Nat.le_of_ble_eq_true rfl) (nv_lo_of rfl) rfl (Nat.le_of_ble_eq_true rfl) ?_
  show nv_E G 4 qX6_init 280 [some (.ref 0), some (.int 3)] [.ref 71, .int 3, .ref 7] ((nv_hl [(71, 1, 1), (69, 1, 1), (67, 1, 1), (65, 1, 1), (62, 3, (-1)), (64, 0, 1), (64, 1, 1), (64, 2, 10), (64, 3, 0), (64, 4, 10), (64, 5, 1), (64, 6, 0), (64, 7, 1), (64, 8, 1), (59, 3, (-1)), (61, 0, 1), (61, 1, 1), (61, 2, 10), (61, 3, 0), (61, 4, 10), (61, 5, 1), (61, 6, 0), (61, 7, 1), (61, 8, 1), (1, 7, 1000), (1, 6, 1000), (1, 5, 1000), (1, 4, 1000), (1, 3, 1000), (1, 2, 1000), (1, 1, 1000), (1, 0, 1000)]), (nv_zl [(71, 0), (7, 2), (69, 0), (7, 1), (67, 0), (7, 0), (65, 0), (6, 1), (62, 1), (62, 0), (6, 0), (59, 1), (59, 0), (5, 11), (5, 10), (5, 9), (5, 8), (5, 7), (5, 6), (5, 5), (5, 4), (5, 3), (5, 2), (5, 1), (5, 0), (4, 9), (4, 8), (4, 7), (4, 6), (4, 5), (4, 4), (4, 3), (4, 2), (4, 1), (4, 0), (3, 11), (3, 10), (3, 9), (3, 8), (3, 7), (3, 6), (3, 5), (3, 4), (3, 3), (3, 2), (3, 1), (3, 0), (2, 11), (2, 10), (2, 9), (2, 8), (2, 7), (2, 6), (2, 5), (2, 4), (2, 3), (2, 2), (2, 1), (2, 0), (0, 16), (0, 15), (0, 14), (0, 13), (0, 12), (0, 6), (0, 5), (0, 4), (0, 3), (0, 2), (0, 1), (0, 0)]), 73) _
  refine nv_LastR (j := 3) dX6_init_280 ⟨by decide, rfl⟩ (fun _ => rfl) (by decide) (by decide) (by decide) ⟨by decide, rfl⟩ rfl ?_
  refine nv_incL (v := 4) dX6_init_281 rfl (by decide) (by decide) rfl rfl ?_
  refine nv_goto dX6_init_284 ?_
  refine nv_iL dX6_init_263 rfl ?_
  refine nv_k dX6_init_264 ?_
  refine nv_icge1 dX6_init_265 (by decide) ?_
  exact nv_return dX6_init_287 rfl
set_option maxRecDepth 20000 in
set_option maxHeartbeats 8000000 in
theorem tk_X7_init_73 (G : nv_G) : nv_Mt G 1 qX7_init [.ref 73] ((nv_hl [(71, 1, 1), (69, 1, 1), (67, 1, 1), (65, 1, 1), (62, 3, (-1)), (64, 0, 1), (64, 1, 1), (64, 2, 10), (64, 3, 0), (64, 4, 10), (64, 5, 1), (64, 6, 0), (64, 7, 1), (64, 8, 1), (59, 3, (-1)), (61, 0, 1), (61, 1, 1), (61, 2, 10), (61, 3, 0), (61, 4, 10), (61, 5, 1), (61, 6, 0), (61, 7, 1), (61, 8, 1), (1, 7, 1000), (1, 6, 1000), (1, 5, 1000), (1, 4, 1000), (1, 3, 1000), (1, 2, 1000), (1, 1, 1000), (1, 0, 1000)]), (nv_zl [(7, 3), (71, 0), (7, 2), (69, 0), (7, 1), (67, 0), (7, 0), (65, 0), (6, 1), (62, 1), (62, 0), (6, 0), (59, 1), (59, 0), (5, 11), (5, 10), (5, 9), (5, 8), (5, 7), (5, 6), (5, 5), (5, 4), (5, 3), (5, 2), (5, 1), (5, 0), (4, 9), (4, 8), (4, 7), (4, 6), (4, 5), (4, 4), (4, 3), (4, 2), (4, 1), (4, 0), (3, 11), (3, 10), (3, 9), (3, 8), (3, 7), (3, 6), (3, 5), (3, 4), (3, 3), (3, 2), (3, 1), (3, 0), (2, 11), (2, 10), (2, 9), (2, 8), (2, 7), (2, 6), (2, 5), (2, 4), (2, 3), (2, 2), (2, 1), (2, 0), (0, 16), (0, 15), (0, 14), (0, 13), (0, 12), (0, 6), (0, 5), (0, 4), (0, 3), (0, 2), (0, 1), (0, 0)]), 74) (none, ((nv_hl [(78, 7, 1000), (78, 6, 1000), (78, 5, 1000), (78, 4, 1000), (78, 3, 1000), (78, 2, 1000), (78, 1, 1000), (78, 0, 1000), (74, 3, (-1)), (74, 2, (-1)), (74, 1, (-1)), (74, 0, (-1)), (71, 1, 1), (69, 1, 1), (67, 1, 1), (65, 1, 1), (62, 3, (-1)), (64, 0, 1), (64, 1, 1), (64, 2, 10), (64, 3, 0), (64, 4, 10), (64, 5, 1), (64, 6, 0), (64, 7, 1), (64, 8, 1), (59, 3, (-1)), (61, 0, 1), (61, 1, 1), (61, 2, 10), (61, 3, 0), (61, 4, 10), (61, 5, 1), (61, 6, 0), (61, 7, 1), (61, 8, 1), (1, 7, 1000), (1, 6, 1000), (1, 5, 1000), (1, 4, 1000), (1, 3, 1000), (1, 2, 1000), (1, 1, 1000), (1, 0, 1000)]), (nv_zl [(73, 46), (73, 44), (73, 43), (73, 42), (73, 40), (73, 39), (73, 37), (73, 36), (73, 35), (73, 34), (73, 33), (73, 32), (73, 31), (73, 29), (73, 28), (73, 27), (73, 26), (73, 25), (73, 24), (73, 22), (73, 21), (73, 20), (73, 19), (73, 18), (73, 16), (73, 15), (73, 14), (73, 13), (73, 12), (73, 11), (73, 10), (73, 9), (73, 8), (73, 7), (73, 5), (73, 3), (73, 2), (73, 1), (73, 0), (7, 3), (71, 0), (7, 2), (69, 0), (7, 1), (67, 0), (7, 0), (65, 0), (6, 1), (62, 1), (62, 0), (6, 0), (59, 1), (59, 0), (5, 11), (5, 10), (5, 9), (5, 8), (5, 7), (5, 6), (5, 5), (5, 4), (5, 3), (5, 2), (5, 1), (5, 0), (4, 9), (4, 8), (4, 7), (4, 6), (4, 5), (4, 4), (4, 3), (4, 2), (4, 1), (4, 0), (3, 11), (3, 10), (3, 9), (3, 8), (3, 7), (3, 6), (3, 5), (3, 4), (3, 3), (3, 2), (3, 1), (3, 0), (2, 11), (2, 10), (2, 9), (2, 8), (2, 7), (2, 6), (2, 5), (2, 4), (2, 3), (2, 2), (2, 1), (2, 0), (0, 16), (0, 15), (0, 14), (0, 13), (0, 12), (0, 6), (0, 5), (0, 4), (0, 3), (0, 2), (0, 1), (0, 0)]), 113)) := by
  refine nv_of (by decide +kernel) (fun ad => Nat.le_of_ble_eq_true rfl) (Nat.le_of_ble_eq_true rfl) (Nat.le_of_ble_eq_true rfl) ?_
  show nv_E G 1 qX7_init 0 [some (.ref 73), none] [] ((nv_hl [(71, 1, 1), (69, 1, 1), (67, 1, 1), (65, 1, 1), (62, 3, (-1)), (64, 0, 1), (64, 1, 1), (64, 2, 10), (64, 3, 0), (64, 4, 10), (64, 5, 1), (64, 6, 0), (64, 7, 1), (64, 8, 1), (59, 3, (-1)), (61, 0, 1), (61, 1, 1), (61, 2, 10), (61, 3, 0), (61, 4, 10), (61, 5, 1), (61, 6, 0), (61, 7, 1), (61, 8, 1), (1, 7, 1000), (1, 6, 1000), (1, 5, 1000), (1, 4, 1000), (1, 3, 1000), (1, 2, 1000), (1, 1, 1000), (1, 0, 1000)]), (nv_zl [(7, 3), (71, 0), (7, 2), (69, 0), (7, 1), (67, 0), (7, 0), (65, 0), (6, 1), (62, 1), (62, 0), (6, 0), (59, 1), (59, 0), (5, 11), (5, 10), (5, 9), (5, 8), (5, 7), (5, 6), (5, 5), (5, 4), (5, 3), (5, 2), (5, 1), (5, 0), (4, 9), (4, 8), (4, 7), (4, 6), (4, 5), (4, 4), (4, 3), (4, 2), (4, 1), (4, 0), (3, 11), (3, 10), (3, 9), (3, 8), (3, 7), (3, 6), (3, 5), (3, 4), (3, 3), (3, 2), (3, 1), (3, 0), (2, 11), (2, 10), (2, 9), (2, 8), (2, 7), (2, 6), (2, 5), (2, 4), (2, 3), (2, 2), (2, 1), (2, 0), (0, 16), (0, 15), (0, 14), (0, 13), (0, 12), (0, 6), (0, 5), (0, 4), (0, 3), (0, 2), (0, 1), (0, 0)]), 74) _
  refine nv_aL dX7_init_0 rfl ?_
  refine nv_objI dX7_init_1 lo_X7 (by decide) (Nat.le_of_ble_eq_true rfl) ?_
  refine nv_aL dX7_init_4 rfl ?_
  refine nv_k dX7_init_5 ?_
  refine nv_LnewA dX7_init_6 wac rfl (by decide) (by decide) (by decide) (by decide +kernel) (Nat.le_of_ble_eq_true rfl) rfl ?_
  refine nv_LputF lp_X7_7 dX7_init_8 ⟨by decide, rfl⟩ rfl rfl (fun _ => rfl) (fun _ => rfl) ?_
  refine nv_aL dX7_init_11 rfl ?_
  refine nv_k dX7_init_12 ?_
  refine nv_LnewA dX7_init_13 wac rfl (by decide) (by decide) (by decide) (by decide +kernel) (Nat.le_of_ble_eq_true rfl) rfl ?_
  refine nv_LputF lp_X7_13 dX7_init_15 ⟨by decide, rfl⟩ rfl rfl (fun _ => rfl) (fun _ => rfl) ?_
  refine nv_aL dX7_init_18 rfl ?_
  refine nv_k dX7_init_19 ?_
  refine nv_LnewA dX7_init_22 wac rfl (by decide) (by decide) (by decide) (by decide +kernel) (Nat.le_of_ble_eq_true rfl) rfl ?_
  refine nv_LputF lp_X7_16 dX7_init_24 ⟨by decide, rfl⟩ rfl rfl (fun _ => rfl) (fun _ => rfl) ?_
  refine nv_aL dX7_init_27 rfl ?_
  refine nv_k dX7_init_28 ?_
  refine nv_LnewA dX7_init_30 wac rfl (by decide) (by decide) (by decide) (by decide +kernel) (Nat.le_of_ble_eq_true rfl) rfl ?_
  refine nv_LputF lp_X7_19 dX7_init_32 ⟨by decide, rfl⟩ rfl rfl (fun _ => rfl) (fun _ => rfl) ?_
  refine nv_aL dX7_init_35 rfl ?_
  refine nv_k dX7_init_36 ?_
  refine nv_LnewA dX7_init_38 wac rfl (by decide) (by decide) (by decide) (by decide +kernel) (Nat.le_of_ble_eq_true rfl) rfl ?_
  refine nv_LputF lp_X7_22 dX7_init_40 ⟨by decide, rfl⟩ rfl rfl (fun _ => rfl) (fun _ => rfl) ?_
  refine nv_aL dX7_init_43 rfl ?_
  refine nv_k dX7_init_44 ?_
  refine nv_LnewA dX7_init_46 wac rfl (by decide) (by decide) (by decide) (by decide +kernel) (Nat.le_of_ble_eq_true rfl) rfl ?_
  refine nv_LputF lp_X7_25 dX7_init_48 ⟨by decide, rfl⟩ rfl rfl (fun _ => rfl) (fun _ => rfl) ?_
  refine nv_aL dX7_init_51 rfl ?_
  refine nv_k dX7_init_52 ?_
  refine nv_LnewA dX7_init_54 wac rfl (by decide) (by decide) (by decide) (by decide +kernel) (Nat.le_of_ble_eq_true rfl) rfl ?_
  refine nv_LputF lp_X7_28 dX7_init_56 ⟨by decide, rfl⟩ rfl rfl (fun _ => rfl) (fun _ => rfl) ?_
  refine nv_aL dX7_init_59 rfl ?_
  refine nv_k dX7_init_60 ?_
  refine nv_LnewA dX7_init_62 wac rfl (by decide) (by decide) (by decide) (by decide +kernel) (Nat.le_of_ble_eq_true rfl) rfl ?_
  refine nv_LputF lp_X7_31 dX7_init_64 ⟨by decide, rfl⟩ rfl rfl (fun _ => rfl) (fun _ => rfl) ?_
  refine nv_aL dX7_init_67 rfl ?_
  refine nv_k dX7_init_68 ?_
  refine nv_LnewA dX7_init_70 wac rfl (by decide) (by decide) (by decide) (by decide +kernel) (Nat.le_of_ble_eq_true rfl) rfl ?_
  refine nv_LputF lp_X7_34 dX7_init_72 ⟨by decide, rfl⟩ rfl rfl (fun _ => rfl) (fun _ => rfl) ?_
  refine nv_aL dX7_init_75 rfl ?_
  refine nv_k dX7_init_76 ?_
  refine nv_LnewA dX7_init_78 wac rfl (by decide) (by decide) (by decide) (by decide +kernel) (Nat.le_of_ble_eq_true rfl) rfl ?_
  refine nv_LputF lp_X7_37 dX7_init_80 ⟨by decide, rfl⟩ rfl rfl (fun _ => rfl) (fun _ => rfl) ?_
  refine nv_aL dX7_init_83 rfl ?_
  refine nv_k dX7_init_84 ?_
  refine nv_LnewA dX7_init_86 wac rfl (by decide) (by decide) (by decide) (by decide +kernel) (Nat.le_of_ble_eq_true rfl) rfl ?_
  refine nv_LputF lp_X7_40 dX7_init_88 ⟨by decide, rfl⟩ rfl rfl (fun _ => rfl) (fun _ => rfl) ?_
  refine nv_aL dX7_init_91 rfl ?_
  refine nv_k dX7_init_92 ?_
  refine nv_LnewA dX7_init_94 wac rfl (by decide) (by decide) (by decide) (by decide +kernel) (Nat.le_of_ble_eq_true rfl) rfl ?_
  refine nv_LputF lp_X7_43 dX7_init_96 ⟨by decide, rfl⟩ rfl rfl (fun _ => rfl) (fun _ => rfl) ?_
  refine nv_aL dX7_init_99 rfl ?_
  refine nv_k dX7_init_100 ?_
  refine nv_LnewA dX7_init_102 wac rfl (by decide) (by decide) (by decide) (by decide +kernel) (Nat.le_of_ble_eq_true rfl) rfl ?_
  refine nv_LputF lp_X7_46 dX7_init_104 ⟨by decide, rfl⟩ rfl rfl (fun _ => rfl) (fun _ => rfl) ?_
  refine nv_aL dX7_init_107 rfl ?_
  refine nv_k dX7_init_108 ?_
  refine nv_LnewA dX7_init_110 wac rfl (by decide) (by decide) (by decide) (by decide +kernel) (Nat.le_of_ble_eq_true rfl) rfl ?_
  refine nv_LputF lp_X7_49 dX7_init_112 ⟨by decide, rfl⟩ rfl rfl (fun _ => rfl) (fun _ => rfl) ?_
  refine nv_aL dX7_init_115 rfl ?_
  refine nv_k dX7_init_116 ?_
  refine nv_LnewA dX7_init_118 wac rfl (by decide) (by decide) (by decide) (by decide +kernel) (Nat.le_of_ble_eq_true rfl) rfl ?_
  refine nv_LputF lp_X7_52 dX7_init_120 ⟨by decide, rfl⟩ rfl rfl (fun _ => rfl) (fun _ => rfl) ?_
  refine nv_aL dX7_init_123 rfl ?_
  refine nv_k dX7_init_124 ?_
  refine nv_LnewA dX7_init_126 wac rfl (by decide) (by decide) (by decide) (by decide +kernel) (Nat.le_of_ble_eq_true rfl) rfl ?_
  refine nv_LputF lp_X7_55 dX7_init_128 ⟨by decide, rfl⟩ rfl rfl (fun _ => rfl) (fun _ => rfl) ?_
  refine nv_aL dX7_init_131 rfl ?_
  refine nv_k dX7_init_132 ?_
  refine nv_LnewA dX7_init_134 wac rfl (by decide) (by decide) (by decide) (by decide +kernel) (Nat.le_of_ble_eq_true rfl) rfl ?_
  refine nv_LputF lp_X7_58 dX7_init_136 ⟨by decide, rfl⟩ rfl rfl (fun _ => rfl) (fun _ => rfl) ?_
  refine nv_aL dX7_init_139 rfl ?_
  refine nv_k dX7_init_140 ?_
  refine nv_LnewA dX7_init_142 wac rfl (by decide) (by decide) (by decide) (by decide +kernel) (Nat.le_of_ble_eq_true rfl) rfl ?_
  refine nv_LputF lp_X7_61 dX7_init_144 ⟨by decide, rfl⟩ rfl rfl (fun _ => rfl) (fun _ => rfl) ?_
  refine nv_aL dX7_init_147 rfl ?_
  refine nv_k dX7_init_148 ?_
  refine nv_LnewA dX7_init_150 wac rfl (by decide) (by decide) (by decide) (by decide +kernel) (Nat.le_of_ble_eq_true rfl) rfl ?_
  refine nv_LputF lp_X7_64 dX7_init_152 ⟨by decide, rfl⟩ rfl rfl (fun _ => rfl) (fun _ => rfl) ?_
  refine nv_aL dX7_init_155 rfl ?_
  refine nv_k dX7_init_156 ?_
  refine nv_LnewA dX7_init_158 wac rfl (by decide) (by decide) (by decide) (by decide +kernel) (Nat.le_of_ble_eq_true rfl) rfl ?_
  refine nv_LputF lp_X7_67 dX7_init_160 ⟨by decide, rfl⟩ rfl rfl (fun _ => rfl) (fun _ => rfl) ?_
  refine nv_aL dX7_init_163 rfl ?_
  refine nv_k dX7_init_164 ?_
  refine nv_LnewA dX7_init_166 wac rfl (by decide) (by decide) (by decide) (by decide +kernel) (Nat.le_of_ble_eq_true rfl) rfl ?_
  refine nv_LputF lp_X7_70 dX7_init_168 ⟨by decide, rfl⟩ rfl rfl (fun _ => rfl) (fun _ => rfl) ?_
  refine nv_aL dX7_init_171 rfl ?_
  refine nv_k dX7_init_172 ?_
  refine nv_LnewA dX7_init_174 wac rfl (by decide) (by decide) (by decide) (by decide +kernel) (Nat.le_of_ble_eq_true rfl) rfl ?_
  refine nv_LputF lp_X7_73 dX7_init_176 ⟨by decide, rfl⟩ rfl rfl (fun _ => rfl) (fun _ => rfl) ?_
  refine nv_aL dX7_init_179 rfl ?_
  refine nv_k dX7_init_180 ?_
  refine nv_LnewA dX7_init_182 wac rfl (by decide) (by decide) (by decide) (by decide +kernel) (Nat.le_of_ble_eq_true rfl) rfl ?_
  refine nv_LputF lp_X7_76 dX7_init_184 ⟨by decide, rfl⟩ rfl rfl (fun _ => rfl) (fun _ => rfl) ?_
  refine nv_aL dX7_init_187 rfl ?_
  refine nv_k dX7_init_188 ?_
  refine nv_LnewA dX7_init_190 wac rfl (by decide) (by decide) (by decide) (by decide +kernel) (Nat.le_of_ble_eq_true rfl) rfl ?_
  refine nv_LputF lp_X7_79 dX7_init_192 ⟨by decide, rfl⟩ rfl rfl (fun _ => rfl) (fun _ => rfl) ?_
  refine nv_aL dX7_init_195 rfl ?_
  refine nv_k dX7_init_196 ?_
  refine nv_LnewA dX7_init_198 wac rfl (by decide) (by decide) (by decide) (by decide +kernel) (Nat.le_of_ble_eq_true rfl) rfl ?_
  refine nv_LputF lp_X7_82 dX7_init_200 ⟨by decide, rfl⟩ rfl rfl (fun _ => rfl) (fun _ => rfl) ?_
  refine nv_aL dX7_init_203 rfl ?_
  refine nv_k dX7_init_204 ?_
  refine nv_LnewA dX7_init_206 wac rfl (by decide) (by decide) (by decide) (by decide +kernel) (Nat.le_of_ble_eq_true rfl) rfl ?_
  refine nv_LputF lp_X7_85 dX7_init_208 ⟨by decide, rfl⟩ rfl rfl (fun _ => rfl) (fun _ => rfl) ?_
  refine nv_aL dX7_init_211 rfl ?_
  refine nv_k dX7_init_212 ?_
  refine nv_LnewA dX7_init_214 wac rfl (by decide) (by decide) (by decide) (by decide +kernel) (Nat.le_of_ble_eq_true rfl) rfl ?_
  refine nv_LputF lp_X7_88 dX7_init_216 ⟨by decide, rfl⟩ rfl rfl (fun _ => rfl) (fun _ => rfl) ?_
  refine nv_aL dX7_init_219 rfl ?_
  refine nv_k dX7_init_220 ?_
  refine nv_LnewA dX7_init_222 wac rfl (by decide) (by decide) (by decide) (by decide +kernel) (Nat.le_of_ble_eq_true rfl) rfl ?_
  refine nv_LputF lp_X7_91 dX7_init_224 ⟨by decide, rfl⟩ rfl rfl (fun _ => rfl) (fun _ => rfl) ?_
  refine nv_aL dX7_init_227 rfl ?_
  refine nv_k dX7_init_228 ?_
  refine nv_LnewA dX7_init_230 wac rfl (by decide) (by decide) (by decide) (by decide +kernel) (Nat.le_of_ble_eq_true rfl) rfl ?_
  refine nv_LputF lp_X7_94 dX7_init_232 ⟨by decide, rfl⟩ rfl rfl (fun _ => rfl) (fun _ => rfl) ?_
  refine nv_aL dX7_init_235 rfl ?_
  refine nv_k dX7_init_236 ?_
  refine nv_LnewA dX7_init_238 wac rfl (by decide) (by decide) (by decide) (by decide +kernel) (Nat.le_of_ble_eq_true rfl) rfl ?_
  refine nv_LputF lp_X7_97 dX7_init_240 ⟨by decide, rfl⟩ rfl rfl (fun _ => rfl) (fun _ => rfl) ?_
  refine nv_aL dX7_init_243 rfl ?_
  refine nv_k dX7_init_244 ?_
  refine nv_LnewA dX7_init_246 wac rfl (by decide) (by decide) (by decide) (by decide +kernel) (Nat.le_of_ble_eq_true rfl) rfl ?_
  refine nv_LputF lp_X7_100 dX7_init_248 ⟨by decide, rfl⟩ rfl rfl (fun _ => rfl) (fun _ => rfl) ?_
  refine nv_aL dX7_init_251 rfl ?_
  refine nv_k dX7_init_252 ?_
  refine nv_LnewA dX7_init_254 wac rfl (by decide) (by decide) (by decide) (by decide +kernel) (Nat.le_of_ble_eq_true rfl) rfl ?_
  refine nv_LputF lp_X7_103 dX7_init_256 ⟨by decide, rfl⟩ rfl rfl (fun _ => rfl) (fun _ => rfl) ?_
  refine nv_aL dX7_init_259 rfl ?_
  refine nv_k dX7_init_260 ?_
  refine nv_LnewA dX7_init_261 wac rfl (by decide) (by decide) (by decide) (by decide +kernel) (Nat.le_of_ble_eq_true rfl) rfl ?_
  refine nv_LputF lp_X7_106 dX7_init_263 ⟨by decide, rfl⟩ rfl rfl (fun _ => rfl) (fun _ => rfl) ?_
  refine nv_aL dX7_init_266 rfl ?_
  refine nv_k dX7_init_267 ?_
  refine nv_LnewA dX7_init_269 wac rfl (by decide) (by decide) (by decide) (by decide +kernel) (Nat.le_of_ble_eq_true rfl) rfl ?_
  refine nv_LputF lp_X7_109 dX7_init_271 ⟨by decide, rfl⟩ rfl rfl (fun _ => rfl) (fun _ => rfl) ?_
  refine nv_aL dX7_init_274 rfl ?_
  refine nv_k dX7_init_275 ?_
  refine nv_LnewA dX7_init_277 wac rfl (by decide) (by decide) (by decide) (by decide +kernel) (Nat.le_of_ble_eq_true rfl) rfl ?_
  refine nv_LputF lp_X7_112 dX7_init_279 ⟨by decide, rfl⟩ rfl rfl (fun _ => rfl) (fun _ => rfl) ?_
  refine nv_aL dX7_init_282 rfl ?_
  refine nv_k dX7_init_283 ?_
  refine nv_LnewA dX7_init_285 wac rfl (by decide) (by decide) (by decide) (by decide +kernel) (Nat.le_of_ble_eq_true rfl) rfl ?_
  refine nv_LputF lp_X7_115 dX7_init_287 ⟨by decide, rfl⟩ rfl rfl (fun _ => rfl) (fun _ => rfl) ?_
  refine nv_aL dX7_init_290 rfl ?_
  refine nv_k dX7_init_291 ?_
  refine nv_LnewA dX7_init_293 wac rfl (by decide) (by decide) (by decide) (by decide +kernel) (Nat.le_of_ble_eq_true rfl) rfl ?_
  refine nv_LputF lp_X7_118 dX7_init_295 ⟨by decide, rfl⟩ rfl rfl (fun _ => rfl) (fun _ => rfl) ?_
  refine nv_aL dX7_init_298 rfl ?_
  refine nv_k dX7_init_299 ?_
  refine nv_LnewA dX7_init_301 wac rfl (by decide) (by decide) (by decide) (by decide +kernel) (Nat.le_of_ble_eq_true rfl) rfl ?_
  refine nv_LputF lp_X7_121 dX7_init_303 ⟨by decide, rfl⟩ rfl rfl (fun _ => rfl) (fun _ => rfl) ?_
  refine nv_aL dX7_init_306 rfl ?_
  refine nv_k dX7_init_307 ?_
  refine nv_LnewA dX7_init_309 wac rfl (by decide) (by decide) (by decide) (by decide +kernel) (Nat.le_of_ble_eq_true rfl) rfl ?_
  refine nv_LputF lp_X7_124 dX7_init_311 ⟨by decide, rfl⟩ rfl rfl (fun _ => rfl) (fun _ => rfl) ?_
  refine nv_k dX7_init_314 ?_
  refine nv_iS dX7_init_315 (by decide) rfl rfl ?_
  refine nv_iL dX7_init_316 rfl ?_
  refine nv_k dX7_init_317 ?_
  refine nv_icge0 dX7_init_318 (by decide) ?_
  refine nv_aL dX7_init_321 rfl ?_
  refine nv_getR lf_X7_7 dX7_init_322 ⟨by decide, rfl⟩ rfl (by decide +kernel) ?_
  refine nv_iL dX7_init_325 rfl ?_
  refine nv_k dX7_init_326 ?_
  refine nv_Liast (j := 0) dX7_init_327 ⟨by decide, rfl⟩ (by decide) (by decide) ?_
  refine nv_incL (v := 1) dX7_init_328 rfl (by decide) (by decide) rfl rfl ?_
  refine nv_goto dX7_init_331 ?_
  refine nv_iL dX7_init_316 rfl ?_
  refine nv_k dX7_init_317 ?_
  refine nv_icge0 dX7_init_318 (by decide) ?_
  refine nv_aL dX7_init_321 rfl ?_
  refine nv_getR lf_X7_7 dX7_init_322 ⟨by decide, rfl⟩ rfl (by decide +kernel) ?_
  refine nv_iL dX7_init_325 rfl ?_
  refine nv_k dX7_init_326 ?_
  refine nv_Liast (j := 1) dX7_init_327 ⟨by decide, rfl⟩ (by decide) (by decide) ?_
  refine nv_incL (v := 2) dX7_init_328 rfl (by decide) (by decide) rfl rfl ?_
  refine nv_goto dX7_init_331 ?_
  refine nv_iL dX7_init_316 rfl ?_
  refine nv_k dX7_init_317 ?_
  refine nv_icge0 dX7_init_318 (by decide) ?_
  refine nv_aL dX7_init_321 rfl ?_
  refine nv_getR lf_X7_7 dX7_init_322 ⟨by decide, rfl⟩ rfl (by decide +kernel) ?_
  refine nv_iL dX7_init_325 rfl ?_
  refine nv_k dX7_init_326 ?_
  refine nv_Liast (j := 2) dX7_init_327 ⟨by decide, rfl⟩ (by decide) (by decide) ?_
  refine nv_incL (v := 3) dX7_init_328 rfl (by decide) (by decide) rfl rfl ?_
  refine nv_goto dX7_init_331 ?_
  refine nv_iL dX7_init_316 rfl ?_
  refine nv_k dX7_init_317 ?_
  refine nv_icge0 dX7_init_318 (by decide) ?_
  refine nv_aL dX7_init_321 rfl ?_
  refine nv_getR lf_X7_7 dX7_init_322 ⟨by decide, rfl⟩ rfl (by decide +kernel) ?_
  refine nv_iL dX7_init_325 rfl ?_
  refine nv_k dX7_init_326 ?_
  refine nv_Liast (j := 3) dX7_init_327 ⟨by decide, rfl⟩ (by decide) (by decide) ?_
  refine nv_incL (v := 4) dX7_init_328 rfl (by decide) (by decide) rfl rfl ?_
  refine nv_goto dX7_init_331 ?_
  refine nv_iL dX7_init_316 rfl ?_
  refine nv_k dX7_init_317 ?_
  refine nv_icge1 dX7_init_318 (by decide) ?_
  refine nv_k dX7_init_334 ?_
  refine nv_iS dX7_init_335 (by decide) rfl rfl ?_
  refine nv_iL dX7_init_336 rfl ?_
  refine nv_k dX7_init_337 ?_
  refine nv_icge0 dX7_init_339 (by decide) ?_
  refine nv_aL dX7_init_342 rfl ?_
  refine nv_getR lf_X7_22 dX7_init_343 ⟨by decide, rfl⟩ rfl (by decide +kernel) ?_
  refine nv_iL dX7_init_346 rfl ?_
  refine nv_k dX7_init_347 ?_
  refine nv_Liast (j := 0) dX7_init_350 ⟨by decide, rfl⟩ (by decide) (by decide) ?_
  refine nv_incL (v := 1) dX7_init_351 rfl (by decide) (by decide) rfl rfl ?_
  refine nv_goto dX7_init_354 ?_
  refine nv_iL dX7_init_336 rfl ?_
  refine nv_k dX7_init_337 ?_
  refine nv_icge0 dX7_init_339 (by decide) ?_
  refine nv_aL dX7_init_342 rfl ?_
  refine nv_getR lf_X7_22 dX7_init_343 ⟨by decide, rfl⟩ rfl (by decide +kernel) ?_
  refine nv_iL dX7_init_346 rfl ?_
  refine nv_k dX7_init_347 ?_
  refine nv_Liast (j := 1) dX7_init_350 ⟨by decide, rfl⟩ (by decide) (by decide) ?_
  refine nv_incL (v := 2) dX7_init_351 rfl (by decide) (by decide) rfl rfl ?_
  refine nv_goto dX7_init_354 ?_
  refine nv_iL dX7_init_336 rfl ?_
  refine nv_k dX7_init_337 ?_
  refine nv_icge0 dX7_init_339 (by decide) ?_
  refine nv_aL dX7_init_342 rfl ?_
  refine nv_getR lf_X7_22 dX7_init_343 ⟨by decide, rfl⟩ rfl (by decide +kernel) ?_
  refine nv_iL dX7_init_346 rfl ?_
  refine nv_k dX7_init_347 ?_
  refine nv_Liast (j := 2) dX7_init_350 ⟨by decide, rfl⟩ (by decide) (by decide) ?_
  refine nv_incL (v := 3) dX7_init_351 rfl (by decide) (by decide) rfl rfl ?_
  refine nv_goto dX7_init_354 ?_
  refine nv_iL dX7_init_336 rfl ?_
  refine nv_k dX7_init_337 ?_
  refine nv_icge0 dX7_init_339 (by decide) ?_
  refine nv_aL dX7_init_342 rfl ?_
  refine nv_getR lf_X7_22 dX7_init_343 ⟨by decide, rfl⟩ rfl (by decide +kernel) ?_
  refine nv_iL dX7_init_346 rfl ?_
  refine nv_k dX7_init_347 ?_
  refine nv_Liast (j := 3) dX7_init_350 ⟨by decide, rfl⟩ (by decide) (by decide) ?_
  refine nv_incL (v := 4) dX7_init_351 rfl (by decide) (by decide) rfl rfl ?_
  refine nv_goto dX7_init_354 ?_
  refine nv_iL dX7_init_336 rfl ?_
  refine nv_k dX7_init_337 ?_
  refine nv_icge0 dX7_init_339 (by decide) ?_
  refine nv_aL dX7_init_342 rfl ?_
  refine nv_getR lf_X7_22 dX7_init_343 ⟨by decide, rfl⟩ rfl (by decide +kernel) ?_
  refine nv_iL dX7_init_346 rfl ?_
  refine nv_k dX7_init_347 ?_
  refine nv_Liast (j := 4) dX7_init_350 ⟨by decide, rfl⟩ (by decide) (by decide) ?_
  refine nv_incL (v := 5) dX7_init_351 rfl (by decide) (by decide) rfl rfl ?_
  refine nv_goto dX7_init_354 ?_
  refine nv_iL dX7_init_336 rfl ?_
  refine nv_k dX7_init_337 ?_
  refine nv_icge0 dX7_init_339 (by decide) ?_
  refine nv_aL dX7_init_342 rfl ?_
  refine nv_getR lf_X7_22 dX7_init_343 ⟨by decide, rfl⟩ rfl (by decide +kernel) ?_
  refine nv_iL dX7_init_346 rfl ?_
  refine nv_k dX7_init_347 ?_
  refine nv_Liast (j := 5) dX7_init_350 ⟨by decide, rfl⟩ (by decide) (by decide) ?_
  refine nv_incL (v := 6) dX7_init_351 rfl (by decide) (by decide) rfl rfl ?_
  refine nv_goto dX7_init_354 ?_
  refine nv_iL dX7_init_336 rfl ?_
  refine nv_k dX7_init_337 ?_
  refine nv_icge0 dX7_init_339 (by decide) ?_
  refine nv_aL dX7_init_342 rfl ?_
  refine nv_getR lf_X7_22 dX7_init_343 ⟨by decide, rfl⟩ rfl (by decide +kernel) ?_
  refine nv_iL dX7_init_346 rfl ?_
  refine nv_k dX7_init_347 ?_
  refine nv_Liast (j := 6) dX7_init_350 ⟨by decide, rfl⟩ (by decide) (by decide) ?_
  refine nv_incL (v := 7) dX7_init_351 rfl (by decide) (by decide) rfl rfl ?_
  refine nv_goto dX7_init_354 ?_
  refine nv_iL dX7_init_336 rfl ?_
  refine nv_k dX7_init_337 ?_
  refine nv_icge0 dX7_init_339 (by decide) ?_
  refine nv_aL dX7_init_342 rfl ?_
  refine nv_getR lf_X7_22 dX7_init_343 ⟨by decide, rfl⟩ rfl (by decide +kernel) ?_
  refine nv_iL dX7_init_346 rfl ?_
  refine nv_k dX7_init_347 ?_
  refine nv_Liast (j := 7) dX7_init_350 ⟨by decide, rfl⟩ (by decide) (by decide) ?_
  refine nv_incL (v := 8) dX7_init_351 rfl (by decide) (by decide) rfl rfl ?_
  refine nv_goto dX7_init_354 ?_
  refine nv_iL dX7_init_336 rfl ?_
  refine nv_k dX7_init_337 ?_
  refine nv_icge1 dX7_init_339 (by decide) ?_
  exact nv_return dX7_init_357 rfl
def nv_h0 : nv_Hp := nv_hl [(78, 7, 1000), (78, 6, 1000), (78, 5, 1000), (78, 4, 1000), (78, 3, 1000), (78, 2, 1000), (78, 1, 1000), (78, 0, 1000), (74, 3, (-1)), (74, 2, (-1)), (74, 1, (-1)), (74, 0, (-1)), (71, 1, 1), (69, 1, 1), (67, 1, 1), (65, 1, 1), (62, 3, (-1)), (64, 0, 1), (64, 1, 1), (64, 2, 10), (64, 3, 0), (64, 4, 10), (64, 5, 1), (64, 6, 0), (64, 7, 1), (64, 8, 1), (59, 3, (-1)), (61, 0, 1), (61, 1, 1), (61, 2, 10), (61, 3, 0), (61, 4, 10), (61, 5, 1), (61, 6, 0), (61, 7, 1), (61, 8, 1), (1, 7, 1000), (1, 6, 1000), (1, 5, 1000), (1, 4, 1000), (1, 3, 1000), (1, 2, 1000), (1, 1, 1000), (1, 0, 1000)]
def nv_z0 : List (Nat × Nat) := [(73, 46), (73, 44), (73, 43), (73, 42), (73, 40), (73, 39), (73, 37), (73, 36), (73, 35), (73, 34), (73, 33), (73, 32), (73, 31), (73, 29), (73, 28), (73, 27), (73, 26), (73, 25), (73, 24), (73, 22), (73, 21), (73, 20), (73, 19), (73, 18), (73, 16), (73, 15), (73, 14), (73, 13), (73, 12), (73, 11), (73, 10), (73, 9), (73, 8), (73, 7), (73, 5), (73, 3), (73, 2), (73, 1), (73, 0), (7, 3), (71, 0), (7, 2), (69, 0), (7, 1), (67, 0), (7, 0), (65, 0), (6, 1), (62, 1), (62, 0), (6, 0), (59, 1), (59, 0), (5, 11), (5, 10), (5, 9), (5, 8), (5, 7), (5, 6), (5, 5), (5, 4), (5, 3), (5, 2), (5, 1), (5, 0), (4, 9), (4, 8), (4, 7), (4, 6), (4, 5), (4, 4), (4, 3), (4, 2), (4, 1), (4, 0), (3, 11), (3, 10), (3, 9), (3, 8), (3, 7), (3, 6), (3, 5), (3, 4), (3, 3), (3, 2), (3, 1), (3, 0), (2, 11), (2, 10), (2, 9), (2, 8), (2, 7), (2, 6), (2, 5), (2, 4), (2, 3), (2, 2), (2, 1), (2, 0), (0, 16), (0, 15), (0, 14), (0, 13), (0, 12), (0, 6), (0, 5), (0, 4), (0, 3), (0, 2), (0, 1), (0, 0)]
theorem nv_z0_ok : ((List.range 113).all fun k => (List.range (nv_sz1 (nv_shp k))).all fun j => !(nv_rs (nv_shp k) j) || nv_zl nv_z0 k j) = true := by decide +kernel
theorem wn_L_7_0 : nv_Cl "WhoseNameLaw" 7 6 [some 1, some 2, some 3, some 4, some 5, some 6, some 7, none, none, none, none, none, some 8, some 9, some 10, some 11, some 12, none] := ⟨_, _, _, nvY6, rfl, rfl, wcl_L_7, nv_gt_of 86 (by decide +kernel) (by decide +kernel), wi_X6, nvW6, nvYk6, by decide +kernel⟩
theorem wn_L_10_73 : nv_Cl "WhoseNameLaw" 10 7 [some 74, some 75, some 76, some 77, none, some 78, none, some 79, some 80, some 81, some 82, some 83, some 84, some 85, some 86, some 87, some 88, none, some 89, some 90, some 91, some 92, some 93, none, some 94, some 95, some 96, some 97, some 98, some 99, none, some 100, some 101, some 102, some 103, some 104, some 105, some 106, none, some 107, some 108, none, some 109, some 110, some 111, none, some 112] := ⟨_, _, _, nvY7, rfl, rfl, wcl_L_10, nv_gt_of 719 (by decide +kernel) (by decide +kernel), wi_X7, nvW7, nvYk7, by decide +kernel⟩
set_option maxRecDepth 20000 in
theorem nv_law0 (G : nv_G) {v : Option Value} {h : nv_Hp} (K : nv_E G 10 qL_law 18 [some (.ref 1009), some (.ref 0), some (.ref 73), some (.int 0)] [] (nv_s nv_h0) (v, nv_s h)) : nv_E G 10 qL_law 0 [some (.ref 1009), none, none, none] [] (nv_hl [], nv_zl [], 0) (v, nv_s h) := by
  refine nv_LnewO dL_law_0 wn_L_7_0 rfl (by decide +kernel) (Nat.le_of_ble_eq_true rfl) rfl ?_
  refine nv_dup dL_law_3 rfl ?_
  refine nv_callC (tk_X6_init_0 G) rfl dL_law_4 (Or.inl lm_L_9) y_qX6_init rfl (by decide) (Nat.le_of_ble_eq_true rfl) (nv_lo_of rfl) rfl (Nat.le_of_ble_eq_true rfl) ?_
  refine nv_aS dL_law_7 (by decide) rfl rfl ?_
  refine nv_LnewO dL_law_8 wn_L_10_73 rfl (by decide +kernel) (Nat.le_of_ble_eq_true rfl) rfl ?_
  refine nv_dup dL_law_11 rfl ?_
  refine nv_callC (tk_X7_init_73 G) rfl dL_law_12 (Or.inl lm_L_12) y_qX7_init rfl (by decide) (Nat.le_of_ble_eq_true rfl) (nv_lo_of rfl) rfl (Nat.le_of_ble_eq_true rfl) ?_
  refine nv_aS dL_law_15 (by decide) rfl rfl ?_
  refine nv_k dL_law_16 ?_
  refine nv_iS dL_law_17 (by decide) rfl rfl ?_
  refine nv_zconv (z' := nv_zt) (fun k hk j hj hr => ?_) K
  have h1 := List.all_eq_true.mp (List.all_eq_true.mp nv_z0_ok k (List.mem_range.mpr hk)) j (List.mem_range.mpr hj)
  rw [hr] at h1
  show nv_zl nv_z0 k j = true
  simpa using h1
