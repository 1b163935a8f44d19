/-! WhoseNameModel.bargainIs -/
theorem dX7_bargainIs_0 : nv_daload qX7_bargainIs 0 0 1 := Or.inr ⟨0, rfl, by decide +kernel, rfl⟩
theorem dX7_bargainIs_1 : nv_diload qX7_bargainIs 1 1 2 := Or.inr ⟨1, rfl, by decide +kernel, rfl⟩
theorem dX7_bargainIs_2 : nv_dc qX7_bargainIs 2 (.invokevirtual 204) 3 5 := ⟨by decide +kernel, rfl⟩
theorem dX7_bargainIs_5 : nv_dif qX7_bargainIs 5 .ne 11 8 := ⟨6, by decide +kernel, by decide, rfl⟩
theorem dX7_bargainIs_8 : nv_dk qX7_bargainIs 8 (-2) 10 := Or.inr (Or.inl ⟨(-2), ⟨by decide +kernel, rfl⟩, by decide⟩)
theorem dX7_bargainIs_10 : decode qX7_bargainIs.2.1 10 = .ok (.ireturn, 1) := by decide +kernel
theorem dX7_bargainIs_11 : nv_diload qX7_bargainIs 11 2 12 := Or.inr ⟨2, rfl, by decide +kernel, rfl⟩
theorem dX7_bargainIs_12 : decode qX7_bargainIs.2.1 12 = .ok (.tableswitch 82 0 5 #[40, 47, 54, 61, 68, 75], 40) := by decide +kernel
theorem swX7_bargainIs_12_0 (x : Int32) (hx : x = 0) : nv_dsw qX7_bargainIs 12 x 52 := by subst hx; exact Or.inl ⟨_, _, _, _, _, dX7_bargainIs_12, Or.inl ⟨40, by decide, by decide, rfl, by decide⟩⟩
theorem swX7_bargainIs_12_1 (x : Int32) (hx : x = 1) : nv_dsw qX7_bargainIs 12 x 59 := by subst hx; exact Or.inl ⟨_, _, _, _, _, dX7_bargainIs_12, Or.inl ⟨47, by decide, by decide, rfl, by decide⟩⟩
theorem swX7_bargainIs_12_2 (x : Int32) (hx : x = 2) : nv_dsw qX7_bargainIs 12 x 66 := by subst hx; exact Or.inl ⟨_, _, _, _, _, dX7_bargainIs_12, Or.inl ⟨54, by decide, by decide, rfl, by decide⟩⟩
theorem swX7_bargainIs_12_3 (x : Int32) (hx : x = 3) : nv_dsw qX7_bargainIs 12 x 73 := by subst hx; exact Or.inl ⟨_, _, _, _, _, dX7_bargainIs_12, Or.inl ⟨61, by decide, by decide, rfl, by decide⟩⟩
theorem swX7_bargainIs_12_4 (x : Int32) (hx : x = 4) : nv_dsw qX7_bargainIs 12 x 80 := by subst hx; exact Or.inl ⟨_, _, _, _, _, dX7_bargainIs_12, Or.inl ⟨68, by decide, by decide, rfl, by decide⟩⟩
theorem swX7_bargainIs_12_5 (x : Int32) (hx : x = 5) : nv_dsw qX7_bargainIs 12 x 87 := by subst hx; exact Or.inl ⟨_, _, _, _, _, dX7_bargainIs_12, Or.inl ⟨75, by decide, by decide, rfl, by decide⟩⟩
theorem swX7_bargainIs_12_d (x : Int32) (c0 : ¬ x = 0) (c1 : ¬ x = 1) (c2 : ¬ x = 2) (c3 : ¬ x = 3) (c4 : ¬ x = 4) (c5 : ¬ x = 5) : nv_dsw qX7_bargainIs 12 x 94 := by
  have g0 : x.toInt ≠ 0 := fun e => c0 (Int32.toInt_inj.mp (e.trans (by decide)))
  have g1 : x.toInt ≠ 1 := fun e => c1 (Int32.toInt_inj.mp (e.trans (by decide)))
  have g2 : x.toInt ≠ 2 := fun e => c2 (Int32.toInt_inj.mp (e.trans (by decide)))
  have g3 : x.toInt ≠ 3 := fun e => c3 (Int32.toInt_inj.mp (e.trans (by decide)))
  have g4 : x.toInt ≠ 4 := fun e => c4 (Int32.toInt_inj.mp (e.trans (by decide)))
  have g5 : x.toInt ≠ 5 := fun e => c5 (Int32.toInt_inj.mp (e.trans (by decide)))
  exact Or.inl ⟨_, _, _, _, _, dX7_bargainIs_12, Or.inr ⟨by omega, by decide⟩⟩
theorem dX7_bargainIs_52 : nv_daload qX7_bargainIs 52 0 53 := Or.inr ⟨0, rfl, by decide +kernel, rfl⟩
theorem dX7_bargainIs_53 : nv_dc qX7_bargainIs 53 (.getfield 70) 3 56 := ⟨by decide +kernel, rfl⟩
theorem dX7_bargainIs_56 : nv_diload qX7_bargainIs 56 1 57 := Or.inr ⟨1, rfl, by decide +kernel, rfl⟩
theorem dX7_bargainIs_57 : nv_dc qX7_bargainIs 57 (.iaload) 1 58 := ⟨by decide +kernel, rfl⟩
theorem dX7_bargainIs_58 : decode qX7_bargainIs.2.1 58 = .ok (.ireturn, 1) := by decide +kernel
theorem dX7_bargainIs_59 : nv_daload qX7_bargainIs 59 0 60 := Or.inr ⟨0, rfl, by decide +kernel, rfl⟩
theorem dX7_bargainIs_60 : nv_dc qX7_bargainIs 60 (.getfield 73) 3 63 := ⟨by decide +kernel, rfl⟩
theorem dX7_bargainIs_63 : nv_diload qX7_bargainIs 63 1 64 := Or.inr ⟨1, rfl, by decide +kernel, rfl⟩
theorem dX7_bargainIs_64 : nv_dc qX7_bargainIs 64 (.iaload) 1 65 := ⟨by decide +kernel, rfl⟩
theorem dX7_bargainIs_65 : decode qX7_bargainIs.2.1 65 = .ok (.ireturn, 1) := by decide +kernel
theorem dX7_bargainIs_66 : nv_daload qX7_bargainIs 66 0 67 := Or.inr ⟨0, rfl, by decide +kernel, rfl⟩
theorem dX7_bargainIs_67 : nv_dc qX7_bargainIs 67 (.getfield 76) 3 70 := ⟨by decide +kernel, rfl⟩
theorem dX7_bargainIs_70 : nv_diload qX7_bargainIs 70 1 71 := Or.inr ⟨1, rfl, by decide +kernel, rfl⟩
theorem dX7_bargainIs_71 : nv_dc qX7_bargainIs 71 (.iaload) 1 72 := ⟨by decide +kernel, rfl⟩
theorem dX7_bargainIs_72 : decode qX7_bargainIs.2.1 72 = .ok (.ireturn, 1) := by decide +kernel
theorem dX7_bargainIs_73 : nv_daload qX7_bargainIs 73 0 74 := Or.inr ⟨0, rfl, by decide +kernel, rfl⟩
theorem dX7_bargainIs_74 : nv_dc qX7_bargainIs 74 (.getfield 79) 3 77 := ⟨by decide +kernel, rfl⟩
theorem dX7_bargainIs_77 : nv_diload qX7_bargainIs 77 1 78 := Or.inr ⟨1, rfl, by decide +kernel, rfl⟩
theorem dX7_bargainIs_78 : nv_dc qX7_bargainIs 78 (.iaload) 1 79 := ⟨by decide +kernel, rfl⟩
theorem dX7_bargainIs_79 : decode qX7_bargainIs.2.1 79 = .ok (.ireturn, 1) := by decide +kernel
theorem dX7_bargainIs_80 : nv_daload qX7_bargainIs 80 0 81 := Or.inr ⟨0, rfl, by decide +kernel, rfl⟩
theorem dX7_bargainIs_81 : nv_dc qX7_bargainIs 81 (.getfield 82) 3 84 := ⟨by decide +kernel, rfl⟩
theorem dX7_bargainIs_84 : nv_diload qX7_bargainIs 84 1 85 := Or.inr ⟨1, rfl, by decide +kernel, rfl⟩
theorem dX7_bargainIs_85 : nv_dc qX7_bargainIs 85 (.iaload) 1 86 := ⟨by decide +kernel, rfl⟩
theorem dX7_bargainIs_86 : decode qX7_bargainIs.2.1 86 = .ok (.ireturn, 1) := by decide +kernel
theorem dX7_bargainIs_87 : nv_daload qX7_bargainIs 87 0 88 := Or.inr ⟨0, rfl, by decide +kernel, rfl⟩
theorem dX7_bargainIs_88 : nv_dc qX7_bargainIs 88 (.getfield 85) 3 91 := ⟨by decide +kernel, rfl⟩
theorem dX7_bargainIs_91 : nv_diload qX7_bargainIs 91 1 92 := Or.inr ⟨1, rfl, by decide +kernel, rfl⟩
theorem dX7_bargainIs_92 : nv_dc qX7_bargainIs 92 (.iaload) 1 93 := ⟨by decide +kernel, rfl⟩
theorem dX7_bargainIs_93 : decode qX7_bargainIs.2.1 93 = .ok (.ireturn, 1) := by decide +kernel
theorem dX7_bargainIs_94 : nv_dk qX7_bargainIs 94 (-2) 96 := Or.inr (Or.inl ⟨(-2), ⟨by decide +kernel, rfl⟩, by decide⟩)
theorem dX7_bargainIs_96 : decode qX7_bargainIs.2.1 96 = .ok (.ireturn, 1) := by decide +kernel
def pm_bargainIs (h : nv_Hp) (x1 : Int32) (x2 : Int32) : Option (Int32) := (if (pm_isBargain h x1) = true then (if x2 = 0 then (if nv_inb x1 10 = true then some (h 94 x1.toNatClampNeg) else none) else (if x2 = 1 then (if nv_inb x1 10 = true then some (h 95 x1.toNatClampNeg) else none) else (if x2 = 2 then (if nv_inb x1 10 = true then some (h 96 x1.toNatClampNeg) else none) else (if x2 = 3 then (if nv_inb x1 10 = true then some (h 97 x1.toNatClampNeg) else none) else (if x2 = 4 then (if nv_inb x1 10 = true then some (h 98 x1.toNatClampNeg) else none) else (if x2 = 5 then (if nv_inb x1 10 = true then some (h 99 x1.toNatClampNeg) else none) else some (-2))))))) else some (-2))
set_option maxHeartbeats 2000000 in
theorem tm_bargainIs (G : nv_G) (h : nv_Hp) (x1 : Int32) (x2 : Int32) {r : Int32} (hf : (pm_bargainIs h x1 x2) = some r) : nv_Mt G 2 qX7_bargainIs [.ref 73, .int x1, .int x2] (nv_s h) (some (.int r), nv_s h) := by
  refine nv_of (by decide +kernel) (fun ad => Nat.le_of_ble_eq_true rfl) (Nat.le_refl _) (Nat.le_of_ble_eq_true rfl) ?_
  show nv_E G 2 qX7_bargainIs 0 [some (.ref 73), some (.int x1), some (.int x2)] [] (nv_s h) (some (.int r), nv_s h)
  unfold pm_bargainIs at hf
  refine nv_aL dX7_bargainIs_0 rfl ?_
  refine nv_iL dX7_bargainIs_1 rfl ?_
  refine nv_cVi (tm_isBargain G h x1) dX7_bargainIs_2 lm_X7_204 y_qX7_isBargain ko_73 rfl rfl (by decide) rfl (Nat.le_of_ble_eq_true rfl) ?_
  refine nv_ifneB dX7_bargainIs_5 (fun c1 => ?_) (fun c1 => ?_)
  · replace hf := nv_ip c1 hf
    refine nv_iL dX7_bargainIs_11 rfl ?_
    by_cases c2 : x2 = 0
    · replace hf := nv_ip c2 hf
      refine nv_switch (tgt := 52) (swX7_bargainIs_12_0 _ c2) ?_
      refine nv_aL dX7_bargainIs_52 rfl ?_
      refine nv_tR lf_X7_70 dX7_bargainIs_53 ko_73 rfl ?_
      refine nv_iL dX7_bargainIs_56 rfl ?_
      obtain ⟨g3, hf⟩ := nv_gd hf
      refine nv_aI dX7_bargainIs_57 ka_94 g3 rfl ?_
      obtain rfl := Option.some.inj hf
      exact nv_ireturnI dX7_bargainIs_58 rfl
    · replace hf := nv_in c2 hf
      by_cases c4 : x2 = 1
      · replace hf := nv_ip c4 hf
        refine nv_switch (tgt := 59) (swX7_bargainIs_12_1 _ c4) ?_
        refine nv_aL dX7_bargainIs_59 rfl ?_
        refine nv_tR lf_X7_73 dX7_bargainIs_60 ko_73 rfl ?_
        refine nv_iL dX7_bargainIs_63 rfl ?_
        obtain ⟨g5, hf⟩ := nv_gd hf
        refine nv_aI dX7_bargainIs_64 ka_95 g5 rfl ?_
        obtain rfl := Option.some.inj hf
        exact nv_ireturnI dX7_bargainIs_65 rfl
      · replace hf := nv_in c4 hf
        by_cases c6 : x2 = 2
        · replace hf := nv_ip c6 hf
          refine nv_switch (tgt := 66) (swX7_bargainIs_12_2 _ c6) ?_
          refine nv_aL dX7_bargainIs_66 rfl ?_
          refine nv_tR lf_X7_76 dX7_bargainIs_67 ko_73 rfl ?_
          refine nv_iL dX7_bargainIs_70 rfl ?_
          obtain ⟨g7, hf⟩ := nv_gd hf
          refine nv_aI dX7_bargainIs_71 ka_96 g7 rfl ?_
          obtain rfl := Option.some.inj hf
          exact nv_ireturnI dX7_bargainIs_72 rfl
        · replace hf := nv_in c6 hf
          by_cases c8 : x2 = 3
          · replace hf := nv_ip c8 hf
            refine nv_switch (tgt := 73) (swX7_bargainIs_12_3 _ c8) ?_
            refine nv_aL dX7_bargainIs_73 rfl ?_
            refine nv_tR lf_X7_79 dX7_bargainIs_74 ko_73 rfl ?_
            refine nv_iL dX7_bargainIs_77 rfl ?_
            obtain ⟨g9, hf⟩ := nv_gd hf
            refine nv_aI dX7_bargainIs_78 ka_97 g9 rfl ?_
            obtain rfl := Option.some.inj hf
            exact nv_ireturnI dX7_bargainIs_79 rfl
          · replace hf := nv_in c8 hf
            by_cases c10 : x2 = 4
            · replace hf := nv_ip c10 hf
              refine nv_switch (tgt := 80) (swX7_bargainIs_12_4 _ c10) ?_
              refine nv_aL dX7_bargainIs_80 rfl ?_
              refine nv_tR lf_X7_82 dX7_bargainIs_81 ko_73 rfl ?_
              refine nv_iL dX7_bargainIs_84 rfl ?_
              obtain ⟨g11, hf⟩ := nv_gd hf
              refine nv_aI dX7_bargainIs_85 ka_98 g11 rfl ?_
              obtain rfl := Option.some.inj hf
              exact nv_ireturnI dX7_bargainIs_86 rfl
            · replace hf := nv_in c10 hf
              by_cases c12 : x2 = 5
              · replace hf := nv_ip c12 hf
                refine nv_switch (tgt := 87) (swX7_bargainIs_12_5 _ c12) ?_
                refine nv_aL dX7_bargainIs_87 rfl ?_
                refine nv_tR lf_X7_85 dX7_bargainIs_88 ko_73 rfl ?_
                refine nv_iL dX7_bargainIs_91 rfl ?_
                obtain ⟨g13, hf⟩ := nv_gd hf
                refine nv_aI dX7_bargainIs_92 ka_99 g13 rfl ?_
                obtain rfl := Option.some.inj hf
                exact nv_ireturnI dX7_bargainIs_93 rfl
              · replace hf := nv_in c12 hf
                refine nv_switch (tgt := 94) (swX7_bargainIs_12_d _ c2 c4 c6 c8 c10 c12) ?_
                refine nv_k dX7_bargainIs_94 ?_
                obtain rfl := Option.some.inj hf
                exact nv_ireturnI dX7_bargainIs_96 rfl
  · replace hf := nv_in c1 hf
    refine nv_k dX7_bargainIs_8 ?_
    obtain rfl := Option.some.inj hf
    exact nv_ireturnI dX7_bargainIs_10 rfl
/-! WhoseNameModel.type -/
theorem dX7_type_0 : nv_diload qX7_type 0 1 1 := Or.inr ⟨1, rfl, by decide +kernel, rfl⟩
theorem dX7_type_1 : nv_dc qX7_type 1 (.invokestatic 171) 3 4 := ⟨by decide +kernel, rfl⟩
theorem dX7_type_4 : nv_dif qX7_type 4 .eq 19 7 := ⟨15, by decide +kernel, by decide, rfl⟩
theorem dX7_type_7 : nv_diload qX7_type 7 2 8 := Or.inr ⟨2, rfl, by decide +kernel, rfl⟩
theorem dX7_type_8 : nv_dc qX7_type 8 (.i2l) 1 9 := ⟨by decide +kernel, rfl⟩
theorem dX7_type_9 : nv_dc qX7_type 9 (.lconst 0) 1 10 := ⟨by decide +kernel, rfl⟩
theorem dX7_type_10 : nv_dc qX7_type 10 (.ldc2_w 210) 3 13 := ⟨by decide +kernel, rfl⟩
theorem dX7_type_13 : nv_dc qX7_type 13 (.invokestatic 127) 3 16 := ⟨by decide +kernel, rfl⟩
theorem dX7_type_16 : nv_dif qX7_type 16 .ne 22 19 := ⟨6, by decide +kernel, by decide, rfl⟩
theorem dX7_type_19 : nv_dk qX7_type 19 (-2) 21 := Or.inr (Or.inl ⟨(-2), ⟨by decide +kernel, rfl⟩, by decide⟩)
theorem dX7_type_21 : decode qX7_type.2.1 21 = .ok (.ireturn, 1) := by decide +kernel
theorem dX7_type_22 : nv_daload qX7_type 22 0 23 := Or.inr ⟨0, rfl, by decide +kernel, rfl⟩
theorem dX7_type_23 : nv_dc qX7_type 23 (.getfield 106) 3 26 := ⟨by decide +kernel, rfl⟩
theorem dX7_type_26 : nv_diload qX7_type 26 1 27 := Or.inr ⟨1, rfl, by decide +kernel, rfl⟩
theorem dX7_type_27 : nv_dc qX7_type 27 (.iaload) 1 28 := ⟨by decide +kernel, rfl⟩
theorem dX7_type_28 : nv_dk qX7_type 28 60 30 := Or.inr (Or.inl ⟨60, ⟨by decide +kernel, rfl⟩, by decide⟩)
theorem dX7_type_30 : nv_dic qX7_type 30 .ne 36 33 := ⟨6, by decide +kernel, by decide, rfl⟩
theorem dX7_type_33 : nv_dk qX7_type 33 (-4) 35 := Or.inr (Or.inl ⟨(-4), ⟨by decide +kernel, rfl⟩, by decide⟩)
theorem dX7_type_35 : decode qX7_type.2.1 35 = .ok (.ireturn, 1) := by decide +kernel
theorem dX7_type_36 : nv_daload qX7_type 36 0 37 := Or.inr ⟨0, rfl, by decide +kernel, rfl⟩
theorem dX7_type_37 : nv_dc qX7_type 37 (.getfield 103) 3 40 := ⟨by decide +kernel, rfl⟩
theorem dX7_type_40 : nv_dk qX7_type 40 60 42 := Or.inr (Or.inl ⟨60, ⟨by decide +kernel, rfl⟩, by decide⟩)
theorem dX7_type_42 : nv_diload qX7_type 42 1 43 := Or.inr ⟨1, rfl, by decide +kernel, rfl⟩
theorem dX7_type_43 : nv_dc qX7_type 43 (.imul) 1 44 := ⟨by decide +kernel, rfl⟩
theorem dX7_type_44 : nv_daload qX7_type 44 0 45 := Or.inr ⟨0, rfl, by decide +kernel, rfl⟩
theorem dX7_type_45 : nv_dc qX7_type 45 (.getfield 106) 3 48 := ⟨by decide +kernel, rfl⟩
theorem dX7_type_48 : nv_diload qX7_type 48 1 49 := Or.inr ⟨1, rfl, by decide +kernel, rfl⟩
theorem dX7_type_49 : nv_dc qX7_type 49 (.iaload) 1 50 := ⟨by decide +kernel, rfl⟩
theorem dX7_type_50 : nv_dc qX7_type 50 (.iadd) 1 51 := ⟨by decide +kernel, rfl⟩
theorem dX7_type_51 : nv_diload qX7_type 51 2 52 := Or.inr ⟨2, rfl, by decide +kernel, rfl⟩
theorem dX7_type_52 : nv_dc qX7_type 52 (.iastore) 1 53 := ⟨by decide +kernel, rfl⟩
theorem dX7_type_53 : nv_daload qX7_type 53 0 54 := Or.inr ⟨0, rfl, by decide +kernel, rfl⟩
theorem dX7_type_54 : nv_dc qX7_type 54 (.getfield 106) 3 57 := ⟨by decide +kernel, rfl⟩
theorem dX7_type_57 : nv_diload qX7_type 57 1 58 := Or.inr ⟨1, rfl, by decide +kernel, rfl⟩
theorem dX7_type_58 : nv_dc qX7_type 58 (.dup2) 1 59 := ⟨by decide +kernel, rfl⟩
theorem dX7_type_59 : nv_dc qX7_type 59 (.iaload) 1 60 := ⟨by decide +kernel, rfl⟩
theorem dX7_type_60 : nv_dk qX7_type 60 1 61 := Or.inl ⟨1, ⟨by decide +kernel, rfl⟩, by decide⟩
theorem dX7_type_61 : nv_dc qX7_type 61 (.iadd) 1 62 := ⟨by decide +kernel, rfl⟩
theorem dX7_type_62 : nv_dc qX7_type 62 (.iastore) 1 63 := ⟨by decide +kernel, rfl⟩
theorem dX7_type_63 : nv_daload qX7_type 63 0 64 := Or.inr ⟨0, rfl, by decide +kernel, rfl⟩
theorem dX7_type_64 : nv_dc qX7_type 64 (.getfield 106) 3 67 := ⟨by decide +kernel, rfl⟩
theorem dX7_type_67 : nv_diload qX7_type 67 1 68 := Or.inr ⟨1, rfl, by decide +kernel, rfl⟩
theorem dX7_type_68 : nv_dc qX7_type 68 (.iaload) 1 69 := ⟨by decide +kernel, rfl⟩
theorem dX7_type_69 : decode qX7_type.2.1 69 = .ok (.ireturn, 1) := by decide +kernel
def pm_type (h : nv_Hp) (x1 : Int32) (x2 : Int32) : Option (Int32 × nv_Hp) := (if (pm_isTwo x1) = true then (if (pm_in (Int32.toInt64 x2) 0 255) = true then (if nv_inb x1 2 = true then (if (h 106 x1.toNatClampNeg) = 60 then some ((-4), h) else (if nv_inb ((60 * x1) + (h 106 x1.toNatClampNeg)) 120 = true then (nv_lt (nv_up h 105 ((60 * x1) + (h 106 x1.toNatClampNeg)).toNatClampNeg x2) fun h6 => (nv_lt (nv_up h6 106 x1.toNatClampNeg ((h6 106 x1.toNatClampNeg) + 1)) fun h7 => some ((h7 106 x1.toNatClampNeg), h7))) else none)) else none) else some ((-2), h)) else some ((-2), h))
set_option maxHeartbeats 2000000 in
theorem tm_type (G : nv_G) (h : nv_Hp) (x1 : Int32) (x2 : Int32) {r : Int32 × nv_Hp} (hf : (pm_type h x1 x2) = some r) : nv_Mt G 2 qX7_type [.ref 73, .int x1, .int x2] (nv_s h) (some (.int r.1), nv_s r.2) := by
  refine nv_of (by decide +kernel) (fun ad => Nat.le_of_ble_eq_true rfl) (Nat.le_refl _) (Nat.le_of_ble_eq_true rfl) ?_
  show nv_E G 2 qX7_type 0 [some (.ref 73), some (.int x1), some (.int x2)] [] (nv_s h) (some (.int r.1), nv_s r.2)
  unfold pm_type at hf
  refine nv_iL dX7_type_0 rfl ?_
  refine nv_cSi (tm_isTwo G h x1) dX7_type_1 lm_X7_171 y_qX7_isTwo rfl (by decide) rfl (Nat.le_of_ble_eq_true rfl) ?_
  refine nv_ifeqB dX7_type_4 (fun c1 => ?_) (fun c1 => ?_)
  · replace hf := nv_ip c1 hf
    refine nv_iL dX7_type_7 rfl ?_
    refine nv_i2l dX7_type_8 ?_
    refine nv_lconst dX7_type_9 (v := 0) (by decide) ?_
    refine nv_ldc2 dX7_type_10 lc_X7_210 ?_
    refine nv_cSi (tm_in G h (Int32.toInt64 x2) 0 255) dX7_type_13 lm_X7_127 y_qX7_in rfl (by decide) rfl (Nat.le_of_ble_eq_true rfl) ?_
    refine nv_ifneB dX7_type_16 (fun c2 => ?_) (fun c2 => ?_)
    · replace hf := nv_ip c2 hf
      refine nv_aL dX7_type_22 rfl ?_
      refine nv_tR lf_X7_106 dX7_type_23 ko_73 rfl ?_
      refine nv_iL dX7_type_26 rfl ?_
      obtain ⟨g3, hf⟩ := nv_gd hf
      refine nv_aI dX7_type_27 ka_106 g3 rfl ?_
      refine nv_k dX7_type_28 ?_
      refine nv_icne dX7_type_30 (fun c4 => ?_) (fun c4 => ?_)
      · replace hf := nv_ip c4 hf
        refine nv_k dX7_type_33 ?_
        obtain rfl := Option.some.inj hf
        exact nv_ireturnI dX7_type_35 rfl
      · replace hf := nv_in c4 hf
        refine nv_aL dX7_type_36 rfl ?_
        refine nv_tR lf_X7_103 dX7_type_37 ko_73 rfl ?_
        refine nv_k dX7_type_40 ?_
        refine nv_iL dX7_type_42 rfl ?_
        refine nv_imul dX7_type_43 ?_
        refine nv_aL dX7_type_44 rfl ?_
        refine nv_tR lf_X7_106 dX7_type_45 ko_73 rfl ?_
        refine nv_iL dX7_type_48 rfl ?_
        refine nv_aI dX7_type_49 ka_106 g3 rfl ?_
        refine nv_iadd dX7_type_50 ?_
        refine nv_iL dX7_type_51 rfl ?_
        obtain ⟨g5, hf⟩ := nv_gd hf
        refine nv_aP dX7_type_52 ka_105 g5 rfl ?_
        obtain ⟨h6, eh6, hf⟩ := nv_ltX hf
        rw [eh6]
        clear eh6
        refine nv_aL dX7_type_53 rfl ?_
        refine nv_tR lf_X7_106 dX7_type_54 ko_73 rfl ?_
        refine nv_iL dX7_type_57 rfl ?_
        refine nv_dup2 dX7_type_58 rfl rfl ?_
        refine nv_aI dX7_type_59 ka_106 g3 rfl ?_
        refine nv_k dX7_type_60 ?_
        refine nv_iadd dX7_type_61 ?_
        refine nv_aP dX7_type_62 ka_106 g3 rfl ?_
        obtain ⟨h7, eh7, hf⟩ := nv_ltX hf
        rw [eh7]
        clear eh7
        refine nv_aL dX7_type_63 rfl ?_
        refine nv_tR lf_X7_106 dX7_type_64 ko_73 rfl ?_
        refine nv_iL dX7_type_67 rfl ?_
        refine nv_aI dX7_type_68 ka_106 g3 rfl ?_
        obtain rfl := Option.some.inj hf
        exact nv_ireturnI dX7_type_69 rfl
    · replace hf := nv_in c2 hf
      refine nv_k dX7_type_19 ?_
      obtain rfl := Option.some.inj hf
      exact nv_ireturnI dX7_type_21 rfl
  · replace hf := nv_in c1 hf
    refine nv_k dX7_type_19 ?_
    obtain rfl := Option.some.inj hf
    exact nv_ireturnI dX7_type_21 rfl
/-! WhoseNameModel.wipe -/
theorem dX7_wipe_0 : nv_diload qX7_wipe 0 1 1 := Or.inr ⟨1, rfl, by decide +kernel, rfl⟩
theorem dX7_wipe_1 : nv_dc qX7_wipe 1 (.invokestatic 171) 3 4 := ⟨by decide +kernel, rfl⟩
theorem dX7_wipe_4 : nv_dif qX7_wipe 4 .ne 10 7 := ⟨6, by decide +kernel, by decide, rfl⟩
theorem dX7_wipe_7 : nv_dk qX7_wipe 7 (-2) 9 := Or.inr (Or.inl ⟨(-2), ⟨by decide +kernel, rfl⟩, by decide⟩)
theorem dX7_wipe_9 : decode qX7_wipe.2.1 9 = .ok (.ireturn, 1) := by decide +kernel
theorem dX7_wipe_10 : nv_daload qX7_wipe 10 0 11 := Or.inr ⟨0, rfl, by decide +kernel, rfl⟩
theorem dX7_wipe_11 : nv_dc qX7_wipe 11 (.getfield 106) 3 14 := ⟨by decide +kernel, rfl⟩
theorem dX7_wipe_14 : nv_diload qX7_wipe 14 1 15 := Or.inr ⟨1, rfl, by decide +kernel, rfl⟩
theorem dX7_wipe_15 : nv_dc qX7_wipe 15 (.iaload) 1 16 := ⟨by decide +kernel, rfl⟩
theorem dX7_wipe_16 : nv_distore qX7_wipe 16 2 17 := Or.inr ⟨2, rfl, by decide +kernel, rfl⟩
theorem dX7_wipe_17 : nv_daload qX7_wipe 17 0 18 := Or.inr ⟨0, rfl, by decide +kernel, rfl⟩
theorem dX7_wipe_18 : nv_dc qX7_wipe 18 (.getfield 106) 3 21 := ⟨by decide +kernel, rfl⟩
theorem dX7_wipe_21 : nv_diload qX7_wipe 21 1 22 := Or.inr ⟨1, rfl, by decide +kernel, rfl⟩
theorem dX7_wipe_22 : nv_dk qX7_wipe 22 0 23 := Or.inl ⟨0, ⟨by decide +kernel, rfl⟩, by decide⟩
theorem dX7_wipe_23 : nv_dc qX7_wipe 23 (.iastore) 1 24 := ⟨by decide +kernel, rfl⟩
theorem dX7_wipe_24 : nv_diload qX7_wipe 24 2 25 := Or.inr ⟨2, rfl, by decide +kernel, rfl⟩
theorem dX7_wipe_25 : decode qX7_wipe.2.1 25 = .ok (.ireturn, 1) := by decide +kernel
def pm_wipe (h : nv_Hp) (x1 : Int32) : Option (Int32 × nv_Hp) := (if (pm_isTwo x1) = true then (if nv_inb x1 2 = true then (nv_lt ((h 106 x1.toNatClampNeg)) fun v3 => (nv_lt (nv_up h 106 x1.toNatClampNeg 0) fun h4 => some (v3, h4))) else none) else some ((-2), h))
set_option maxHeartbeats 2000000 in
theorem tm_wipe (G : nv_G) (h : nv_Hp) (x1 : Int32) {r : Int32 × nv_Hp} (hf : (pm_wipe h x1) = some r) : nv_Mt G 2 qX7_wipe [.ref 73, .int x1] (nv_s h) (some (.int r.1), nv_s r.2) := by
  refine nv_of (by decide +kernel) (fun ad => Nat.le_of_ble_eq_true rfl) (Nat.le_refl _) (Nat.le_of_ble_eq_true rfl) ?_
  show nv_E G 2 qX7_wipe 0 [some (.ref 73), some (.int x1), none] [] (nv_s h) (some (.int r.1), nv_s r.2)
  unfold pm_wipe at hf
  refine nv_iL dX7_wipe_0 rfl ?_
  refine nv_cSi (tm_isTwo G h x1) dX7_wipe_1 lm_X7_171 y_qX7_isTwo rfl (by decide) rfl (Nat.le_of_ble_eq_true rfl) ?_
  refine nv_ifneB dX7_wipe_4 (fun c1 => ?_) (fun c1 => ?_)
  · replace hf := nv_ip c1 hf
    refine nv_aL dX7_wipe_10 rfl ?_
    refine nv_tR lf_X7_106 dX7_wipe_11 ko_73 rfl ?_
    refine nv_iL dX7_wipe_14 rfl ?_
    obtain ⟨g2, hf⟩ := nv_gd hf
    refine nv_aI dX7_wipe_15 ka_106 g2 rfl ?_
    obtain ⟨v3, ev3, hf⟩ := nv_ltX hf
    rw [ev3]
    clear ev3
    refine nv_iS dX7_wipe_16 (by decide) rfl rfl ?_
    refine nv_aL dX7_wipe_17 rfl ?_
    refine nv_tR lf_X7_106 dX7_wipe_18 ko_73 rfl ?_
    refine nv_iL dX7_wipe_21 rfl ?_
    refine nv_k dX7_wipe_22 ?_
    refine nv_aP dX7_wipe_23 ka_106 g2 rfl ?_
    obtain ⟨h4, eh4, hf⟩ := nv_ltX hf
    rw [eh4]
    clear eh4
    refine nv_iL dX7_wipe_24 rfl ?_
    obtain rfl := Option.some.inj hf
    exact nv_ireturnI dX7_wipe_25 rfl
  · replace hf := nv_in c1 hf
    refine nv_k dX7_wipe_7 ?_
    obtain rfl := Option.some.inj hf
    exact nv_ireturnI dX7_wipe_9 rfl
/-! WhoseNameModel.here -/
theorem dX7_here_0 : nv_daload qX7_here 0 0 1 := Or.inr ⟨0, rfl, by decide +kernel, rfl⟩
theorem dX7_here_1 : nv_dc qX7_here 1 (.getfield 212) 3 4 := ⟨by decide +kernel, rfl⟩
theorem dX7_here_4 : nv_daload qX7_here 4 0 5 := Or.inr ⟨0, rfl, by decide +kernel, rfl⟩
theorem dX7_here_5 : nv_dc qX7_here 5 (.getfield 106) 3 8 := ⟨by decide +kernel, rfl⟩
theorem dX7_here_8 : nv_diload qX7_here 8 1 9 := Or.inr ⟨1, rfl, by decide +kernel, rfl⟩
theorem dX7_here_9 : nv_dc qX7_here 9 (.iaload) 1 10 := ⟨by decide +kernel, rfl⟩
theorem dX7_here_10 : nv_dic qX7_here 10 .ge 30 13 := ⟨20, by decide +kernel, by decide, rfl⟩
theorem dX7_here_13 : nv_daload qX7_here 13 0 14 := Or.inr ⟨0, rfl, by decide +kernel, rfl⟩
theorem dX7_here_14 : nv_dc qX7_here 14 (.getfield 103) 3 17 := ⟨by decide +kernel, rfl⟩
theorem dX7_here_17 : nv_dk qX7_here 17 60 19 := Or.inr (Or.inl ⟨60, ⟨by decide +kernel, rfl⟩, by decide⟩)
theorem dX7_here_19 : nv_diload qX7_here 19 1 20 := Or.inr ⟨1, rfl, by decide +kernel, rfl⟩
theorem dX7_here_20 : nv_dc qX7_here 20 (.imul) 1 21 := ⟨by decide +kernel, rfl⟩
theorem dX7_here_21 : nv_daload qX7_here 21 0 22 := Or.inr ⟨0, rfl, by decide +kernel, rfl⟩
theorem dX7_here_22 : nv_dc qX7_here 22 (.getfield 212) 3 25 := ⟨by decide +kernel, rfl⟩
theorem dX7_here_25 : nv_dc qX7_here 25 (.iadd) 1 26 := ⟨by decide +kernel, rfl⟩
theorem dX7_here_26 : nv_dc qX7_here 26 (.iaload) 1 27 := ⟨by decide +kernel, rfl⟩
theorem dX7_here_27 : nv_dgo qX7_here 27 31 := ⟨4, by decide +kernel, by decide⟩
theorem dX7_here_30 : nv_dk qX7_here 30 (-1) 31 := Or.inl ⟨(-1), ⟨by decide +kernel, rfl⟩, by decide⟩
theorem dX7_here_31 : decode qX7_here.2.1 31 = .ok (.ireturn, 1) := by decide +kernel
def pm_here (h : nv_Hp) (x1 : Int32) : Option (Int32) := (if (h 106 x1.toNatClampNeg) ≤ (h 73 38) then some (-1) else (if nv_inb ((60 * x1) + (h 73 38)) 120 = true then some (h 105 ((60 * x1) + (h 73 38)).toNatClampNeg) else none))
set_option maxHeartbeats 2000000 in
theorem tm_here (G : nv_G) (h : nv_Hp) (x1 : Int32) (hx1 : nv_inb x1 2 = true) {r : Int32} (hf : (pm_here h x1) = some r) : nv_Mt G 0 qX7_here [.ref 73, .int x1] (nv_s h) (some (.int r), nv_s h) := by
  refine nv_of (by decide +kernel) (fun ad => Nat.le_of_ble_eq_true rfl) (Nat.le_refl _) (Nat.le_of_ble_eq_true rfl) ?_
  show nv_E G 0 qX7_here 0 [some (.ref 73), some (.int x1)] [] (nv_s h) (some (.int r), nv_s h)
  unfold pm_here at hf
  refine nv_aL dX7_here_0 rfl ?_
  refine nv_tI lf_X7_212 dX7_here_1 ko_73 rfl ?_
  refine nv_aL dX7_here_4 rfl ?_
  refine nv_tR lf_X7_106 dX7_here_5 ko_73 rfl ?_
  refine nv_iL dX7_here_8 rfl ?_
  refine nv_aI dX7_here_9 ka_106 hx1 rfl ?_
  refine nv_icge dX7_here_10 (fun c1 => ?_) (fun c1 => ?_)
  · replace hf := nv_ip c1 hf
    refine nv_k dX7_here_30 ?_
    obtain rfl := Option.some.inj hf
    exact nv_ireturnI dX7_here_31 rfl
  · replace hf := nv_in c1 hf
    refine nv_aL dX7_here_13 rfl ?_
    refine nv_tR lf_X7_103 dX7_here_14 ko_73 rfl ?_
    refine nv_k dX7_here_17 ?_
    refine nv_iL dX7_here_19 rfl ?_
    refine nv_imul dX7_here_20 ?_
    refine nv_aL dX7_here_21 rfl ?_
    refine nv_tI lf_X7_212 dX7_here_22 ko_73 rfl ?_
    refine nv_iadd dX7_here_25 ?_
    obtain ⟨g2, hf⟩ := nv_gd hf
    refine nv_aI dX7_here_26 ka_105 g2 rfl ?_
    refine nv_goto dX7_here_27 ?_
    obtain rfl := Option.some.inj hf
    exact nv_ireturnI dX7_here_31 rfl
/-! WhoseNameModel.usual -/
theorem dX7_usual_0 : nv_diload qX7_usual 0 0 1 := Or.inr ⟨0, rfl, by decide +kernel, rfl⟩
theorem dX7_usual_1 : nv_dk qX7_usual 1 2 2 := Or.inl ⟨2, ⟨by decide +kernel, rfl⟩, by decide⟩
theorem dX7_usual_2 : nv_dic qX7_usual 2 .eq 10 5 := ⟨8, by decide +kernel, by decide, rfl⟩
theorem dX7_usual_5 : nv_diload qX7_usual 5 0 6 := Or.inr ⟨0, rfl, by decide +kernel, rfl⟩
theorem dX7_usual_6 : nv_dk qX7_usual 6 4 7 := Or.inl ⟨4, ⟨by decide +kernel, rfl⟩, by decide⟩
theorem dX7_usual_7 : nv_dic qX7_usual 7 .ne 15 10 := ⟨8, by decide +kernel, by decide, rfl⟩
theorem dX7_usual_10 : nv_dk qX7_usual 10 10 12 := Or.inr (Or.inl ⟨10, ⟨by decide +kernel, rfl⟩, by decide⟩)
theorem dX7_usual_12 : nv_dgo qX7_usual 12 31 := ⟨19, by decide +kernel, by decide⟩
theorem dX7_usual_15 : nv_diload qX7_usual 15 0 16 := Or.inr ⟨0, rfl, by decide +kernel, rfl⟩
theorem dX7_usual_16 : nv_dk qX7_usual 16 3 17 := Or.inl ⟨3, ⟨by decide +kernel, rfl⟩, by decide⟩
theorem dX7_usual_17 : nv_dic qX7_usual 17 .eq 26 20 := ⟨9, by decide +kernel, by decide, rfl⟩
theorem dX7_usual_20 : nv_diload qX7_usual 20 0 21 := Or.inr ⟨0, rfl, by decide +kernel, rfl⟩
theorem dX7_usual_21 : nv_dk qX7_usual 21 6 23 := Or.inr (Or.inl ⟨6, ⟨by decide +kernel, rfl⟩, by decide⟩)
theorem dX7_usual_23 : nv_dic qX7_usual 23 .ne 30 26 := ⟨7, by decide +kernel, by decide, rfl⟩
theorem dX7_usual_26 : nv_dk qX7_usual 26 0 27 := Or.inl ⟨0, ⟨by decide +kernel, rfl⟩, by decide⟩
theorem dX7_usual_27 : nv_dgo qX7_usual 27 31 := ⟨4, by decide +kernel, by decide⟩
theorem dX7_usual_30 : nv_dk qX7_usual 30 1 31 := Or.inl ⟨1, ⟨by decide +kernel, rfl⟩, by decide⟩
theorem dX7_usual_31 : decode qX7_usual.2.1 31 = .ok (.ireturn, 1) := by decide +kernel
def pm_usual (x0 : Int32) : Int32 := (if x0 = 2 then 10 else (if x0 = 4 then 10 else (if x0 = 3 then 0 else (if x0 = 6 then 0 else 1))))
set_option maxHeartbeats 2000000 in
theorem tm_usual (G : nv_G) (h : nv_Hp) (x0 : Int32) : nv_Mt G 0 qX7_usual [.int x0] (nv_s h) (some (.int (pm_usual x0)), nv_s h) := by
  refine nv_of (by decide +kernel) (fun ad => Nat.le_of_ble_eq_true rfl) (Nat.le_refl _) (Nat.le_of_ble_eq_true rfl) ?_
  show nv_E G 0 qX7_usual 0 [some (.int x0)] [] (nv_s h) (some (.int (pm_usual x0)), nv_s h)
  generalize hf : (pm_usual x0) = r
  unfold pm_usual at hf
  refine nv_iL dX7_usual_0 rfl ?_
  refine nv_k dX7_usual_1 ?_
  refine nv_iceq dX7_usual_2 (fun c1 => ?_) (fun c1 => ?_)
  · replace hf := nv_ip c1 hf
    refine nv_k dX7_usual_10 ?_
    refine nv_goto dX7_usual_12 ?_
    subst hf
    exact nv_ireturnI dX7_usual_31 rfl
  · replace hf := nv_in c1 hf
    refine nv_iL dX7_usual_5 rfl ?_
    refine nv_k dX7_usual_6 ?_
    refine nv_icne dX7_usual_7 (fun c2 => ?_) (fun c2 => ?_)
    · replace hf := nv_ip c2 hf
      refine nv_k dX7_usual_10 ?_
      refine nv_goto dX7_usual_12 ?_
      subst hf
      exact nv_ireturnI dX7_usual_31 rfl
    · replace hf := nv_in c2 hf
      refine nv_iL dX7_usual_15 rfl ?_
      refine nv_k dX7_usual_16 ?_
      refine nv_iceq dX7_usual_17 (fun c3 => ?_) (fun c3 => ?_)
      · replace hf := nv_ip c3 hf
        refine nv_k dX7_usual_26 ?_
        refine nv_goto dX7_usual_27 ?_
        subst hf
        exact nv_ireturnI dX7_usual_31 rfl
      · replace hf := nv_in c3 hf
        refine nv_iL dX7_usual_20 rfl ?_
        refine nv_k dX7_usual_21 ?_
        refine nv_icne dX7_usual_23 (fun c4 => ?_) (fun c4 => ?_)
        · replace hf := nv_ip c4 hf
          refine nv_k dX7_usual_26 ?_
          refine nv_goto dX7_usual_27 ?_
          subst hf
          exact nv_ireturnI dX7_usual_31 rfl
        · replace hf := nv_in c4 hf
          refine nv_k dX7_usual_30 ?_
          subst hf
          exact nv_ireturnI dX7_usual_31 rfl
/-! WhoseNameModel.greatest -/
theorem dX7_greatest_0 : nv_diload qX7_greatest 0 0 1 := Or.inr ⟨0, rfl, by decide +kernel, rfl⟩
theorem dX7_greatest_1 : nv_dk qX7_greatest 1 2 2 := Or.inl ⟨2, ⟨by decide +kernel, rfl⟩, by decide⟩
theorem dX7_greatest_2 : nv_dic qX7_greatest 2 .eq 15 5 := ⟨13, by decide +kernel, by decide, rfl⟩
theorem dX7_greatest_5 : nv_diload qX7_greatest 5 0 6 := Or.inr ⟨0, rfl, by decide +kernel, rfl⟩
theorem dX7_greatest_6 : nv_dk qX7_greatest 6 3 7 := Or.inl ⟨3, ⟨by decide +kernel, rfl⟩, by decide⟩
theorem dX7_greatest_7 : nv_dic qX7_greatest 7 .eq 15 10 := ⟨8, by decide +kernel, by decide, rfl⟩
theorem dX7_greatest_10 : nv_diload qX7_greatest 10 0 11 := Or.inr ⟨0, rfl, by decide +kernel, rfl⟩
theorem dX7_greatest_11 : nv_dk qX7_greatest 11 4 12 := Or.inl ⟨4, ⟨by decide +kernel, rfl⟩, by decide⟩
theorem dX7_greatest_12 : nv_dic qX7_greatest 12 .ne 20 15 := ⟨8, by decide +kernel, by decide, rfl⟩
theorem dX7_greatest_15 : nv_dk qX7_greatest 15 99 17 := Or.inr (Or.inl ⟨99, ⟨by decide +kernel, rfl⟩, by decide⟩)
theorem dX7_greatest_17 : nv_dgo qX7_greatest 17 46 := ⟨29, by decide +kernel, by decide⟩
theorem dX7_greatest_20 : nv_diload qX7_greatest 20 0 21 := Or.inr ⟨0, rfl, by decide +kernel, rfl⟩
theorem dX7_greatest_21 : nv_dk qX7_greatest 21 8 23 := Or.inr (Or.inl ⟨8, ⟨by decide +kernel, rfl⟩, by decide⟩)
theorem dX7_greatest_23 : nv_dic qX7_greatest 23 .ne 31 26 := ⟨8, by decide +kernel, by decide, rfl⟩
theorem dX7_greatest_26 : nv_dk qX7_greatest 26 9 28 := Or.inr (Or.inl ⟨9, ⟨by decide +kernel, rfl⟩, by decide⟩)
theorem dX7_greatest_28 : nv_dgo qX7_greatest 28 46 := ⟨18, by decide +kernel, by decide⟩
theorem dX7_greatest_31 : nv_diload qX7_greatest 31 0 32 := Or.inr ⟨0, rfl, by decide +kernel, rfl⟩
theorem dX7_greatest_32 : nv_dk qX7_greatest 32 1 33 := Or.inl ⟨1, ⟨by decide +kernel, rfl⟩, by decide⟩
theorem dX7_greatest_33 : nv_dic qX7_greatest 33 .eq 41 36 := ⟨8, by decide +kernel, by decide, rfl⟩
theorem dX7_greatest_36 : nv_diload qX7_greatest 36 0 37 := Or.inr ⟨0, rfl, by decide +kernel, rfl⟩
theorem dX7_greatest_37 : nv_dk qX7_greatest 37 5 38 := Or.inl ⟨5, ⟨by decide +kernel, rfl⟩, by decide⟩
theorem dX7_greatest_38 : nv_dic qX7_greatest 38 .ne 45 41 := ⟨7, by decide +kernel, by decide, rfl⟩
theorem dX7_greatest_41 : nv_dk qX7_greatest 41 1 42 := Or.inl ⟨1, ⟨by decide +kernel, rfl⟩, by decide⟩
theorem dX7_greatest_42 : nv_dgo qX7_greatest 42 46 := ⟨4, by decide +kernel, by decide⟩
theorem dX7_greatest_45 : nv_dk qX7_greatest 45 2 46 := Or.inl ⟨2, ⟨by decide +kernel, rfl⟩, by decide⟩
theorem dX7_greatest_46 : decode qX7_greatest.2.1 46 = .ok (.ireturn, 1) := by decide +kernel
def pm_greatest (x0 : Int32) : Int32 := (if x0 = 2 then 99 else (if x0 = 3 then 99 else (if x0 = 4 then 99 else (if x0 = 8 then 9 else (if x0 = 1 then 1 else (if x0 = 5 then 1 else 2))))))
set_option maxHeartbeats 2000000 in
theorem tm_greatest (G : nv_G) (h : nv_Hp) (x0 : Int32) : nv_Mt G 0 qX7_greatest [.int x0] (nv_s h) (some (.int (pm_greatest x0)), nv_s h) := by
  refine nv_of (by decide +kernel) (fun ad => Nat.le_of_ble_eq_true rfl) (Nat.le_refl _) (Nat.le_of_ble_eq_true rfl) ?_
  show nv_E G 0 qX7_greatest 0 [some (.int x0)] [] (nv_s h) (some (.int (pm_greatest x0)), nv_s h)
  generalize hf : (pm_greatest x0) = r
  unfold pm_greatest at hf
  refine nv_iL dX7_greatest_0 rfl ?_
  refine nv_k dX7_greatest_1 ?_
  refine nv_iceq dX7_greatest_2 (fun c1 => ?_) (fun c1 => ?_)
  · replace hf := nv_ip c1 hf
    refine nv_k dX7_greatest_15 ?_
    refine nv_goto dX7_greatest_17 ?_
    subst hf
    exact nv_ireturnI dX7_greatest_46 rfl
  · replace hf := nv_in c1 hf
    refine nv_iL dX7_greatest_5 rfl ?_
    refine nv_k dX7_greatest_6 ?_
    refine nv_iceq dX7_greatest_7 (fun c2 => ?_) (fun c2 => ?_)
    · replace hf := nv_ip c2 hf
      refine nv_k dX7_greatest_15 ?_
      refine nv_goto dX7_greatest_17 ?_
      subst hf
      exact nv_ireturnI dX7_greatest_46 rfl
    · replace hf := nv_in c2 hf
      refine nv_iL dX7_greatest_10 rfl ?_
      refine nv_k dX7_greatest_11 ?_
      refine nv_icne dX7_greatest_12 (fun c3 => ?_) (fun c3 => ?_)
      · replace hf := nv_ip c3 hf
        refine nv_k dX7_greatest_15 ?_
        refine nv_goto dX7_greatest_17 ?_
        subst hf
        exact nv_ireturnI dX7_greatest_46 rfl
      · replace hf := nv_in c3 hf
        refine nv_iL dX7_greatest_20 rfl ?_
        refine nv_k dX7_greatest_21 ?_
        refine nv_icne dX7_greatest_23 (fun c4 => ?_) (fun c4 => ?_)
        · replace hf := nv_ip c4 hf
          refine nv_k dX7_greatest_26 ?_
          refine nv_goto dX7_greatest_28 ?_
          subst hf
          exact nv_ireturnI dX7_greatest_46 rfl
        · replace hf := nv_in c4 hf
          refine nv_iL dX7_greatest_31 rfl ?_
          refine nv_k dX7_greatest_32 ?_
          refine nv_iceq dX7_greatest_33 (fun c5 => ?_) (fun c5 => ?_)
          · replace hf := nv_ip c5 hf
            refine nv_k dX7_greatest_41 ?_
            refine nv_goto dX7_greatest_42 ?_
            subst hf
            exact nv_ireturnI dX7_greatest_46 rfl
          · replace hf := nv_in c5 hf
            refine nv_iL dX7_greatest_36 rfl ?_
            refine nv_k dX7_greatest_37 ?_
            refine nv_icne dX7_greatest_38 (fun c6 => ?_) (fun c6 => ?_)
            · replace hf := nv_ip c6 hf
              refine nv_k dX7_greatest_41 ?_
              refine nv_goto dX7_greatest_42 ?_
              subst hf
              exact nv_ireturnI dX7_greatest_46 rfl
            · replace hf := nv_in c6 hf
              refine nv_k dX7_greatest_45 ?_
              subst hf
              exact nv_ireturnI dX7_greatest_46 rfl
/-! WhoseNameModel.letterOf -/
theorem dX7_letterOf_0 : nv_diload qX7_letterOf 0 0 1 := Or.inr ⟨0, rfl, by decide +kernel, rfl⟩
theorem dX7_letterOf_1 : decode qX7_letterOf.2.1 1 = .ok (.tableswitch 71 0 7 #[47, 50, 53, 56, 59, 62, 65, 68], 47) := by decide +kernel
theorem swX7_letterOf_1_0 (x : Int32) (hx : x = 0) : nv_dsw qX7_letterOf 1 x 48 := by subst hx; exact Or.inl ⟨_, _, _, _, _, dX7_letterOf_1, Or.inl ⟨47, by decide, by decide, rfl, by decide⟩⟩
theorem swX7_letterOf_1_1 (x : Int32) (hx : x = 1) : nv_dsw qX7_letterOf 1 x 51 := by subst hx; exact Or.inl ⟨_, _, _, _, _, dX7_letterOf_1, Or.inl ⟨50, by decide, by decide, rfl, by decide⟩⟩
theorem swX7_letterOf_1_2 (x : Int32) (hx : x = 2) : nv_dsw qX7_letterOf 1 x 54 := by subst hx; exact Or.inl ⟨_, _, _, _, _, dX7_letterOf_1, Or.inl ⟨53, by decide, by decide, rfl, by decide⟩⟩
theorem swX7_letterOf_1_3 (x : Int32) (hx : x = 3) : nv_dsw qX7_letterOf 1 x 57 := by subst hx; exact Or.inl ⟨_, _, _, _, _, dX7_letterOf_1, Or.inl ⟨56, by decide, by decide, rfl, by decide⟩⟩
theorem swX7_letterOf_1_4 (x : Int32) (hx : x = 4) : nv_dsw qX7_letterOf 1 x 60 := by subst hx; exact Or.inl ⟨_, _, _, _, _, dX7_letterOf_1, Or.inl ⟨59, by decide, by decide, rfl, by decide⟩⟩
theorem swX7_letterOf_1_5 (x : Int32) (hx : x = 5) : nv_dsw qX7_letterOf 1 x 63 := by subst hx; exact Or.inl ⟨_, _, _, _, _, dX7_letterOf_1, Or.inl ⟨62, by decide, by decide, rfl, by decide⟩⟩
theorem swX7_letterOf_1_6 (x : Int32) (hx : x = 6) : nv_dsw qX7_letterOf 1 x 66 := by subst hx; exact Or.inl ⟨_, _, _, _, _, dX7_letterOf_1, Or.inl ⟨65, by decide, by decide, rfl, by decide⟩⟩
theorem swX7_letterOf_1_7 (x : Int32) (hx : x = 7) : nv_dsw qX7_letterOf 1 x 69 := by subst hx; exact Or.inl ⟨_, _, _, _, _, dX7_letterOf_1, Or.inl ⟨68, by decide, by decide, rfl, by decide⟩⟩
theorem swX7_letterOf_1_d (x : Int32) (c0 : ¬ x = 0) (c1 : ¬ x = 1) (c2 : ¬ x = 2) (c3 : ¬ x = 3) (c4 : ¬ x = 4) (c5 : ¬ x = 5) (c6 : ¬ x = 6) (c7 : ¬ x = 7) : nv_dsw qX7_letterOf 1 x 72 := by
  have g0 : x.toInt ≠ 0 := fun e => c0 (Int32.toInt_inj.mp (e.trans (by decide)))
  have g1 : x.toInt ≠ 1 := fun e => c1 (Int32.toInt_inj.mp (e.trans (by decide)))
  have g2 : x.toInt ≠ 2 := fun e => c2 (Int32.toInt_inj.mp (e.trans (by decide)))
  have g3 : x.toInt ≠ 3 := fun e => c3 (Int32.toInt_inj.mp (e.trans (by decide)))
  have g4 : x.toInt ≠ 4 := fun e => c4 (Int32.toInt_inj.mp (e.trans (by decide)))
  have g5 : x.toInt ≠ 5 := fun e => c5 (Int32.toInt_inj.mp (e.trans (by decide)))
  have g6 : x.toInt ≠ 6 := fun e => c6 (Int32.toInt_inj.mp (e.trans (by decide)))
  have g7 : x.toInt ≠ 7 := fun e => c7 (Int32.toInt_inj.mp (e.trans (by decide)))
  exact Or.inl ⟨_, _, _, _, _, dX7_letterOf_1, Or.inr ⟨by omega, by decide⟩⟩
theorem dX7_letterOf_48 : nv_dk qX7_letterOf 48 98 50 := Or.inr (Or.inl ⟨98, ⟨by decide +kernel, rfl⟩, by decide⟩)
theorem dX7_letterOf_50 : decode qX7_letterOf.2.1 50 = .ok (.ireturn, 1) := by decide +kernel
theorem dX7_letterOf_51 : nv_dk qX7_letterOf 51 115 53 := Or.inr (Or.inl ⟨115, ⟨by decide +kernel, rfl⟩, by decide⟩)
theorem dX7_letterOf_53 : decode qX7_letterOf.2.1 53 = .ok (.ireturn, 1) := by decide +kernel
theorem dX7_letterOf_54 : nv_dk qX7_letterOf 54 112 56 := Or.inr (Or.inl ⟨112, ⟨by decide +kernel, rfl⟩, by decide⟩)
theorem dX7_letterOf_56 : decode qX7_letterOf.2.1 56 = .ok (.ireturn, 1) := by decide +kernel
theorem dX7_letterOf_57 : nv_dk qX7_letterOf 57 116 59 := Or.inr (Or.inl ⟨116, ⟨by decide +kernel, rfl⟩, by decide⟩)
theorem dX7_letterOf_59 : decode qX7_letterOf.2.1 59 = .ok (.ireturn, 1) := by decide +kernel
theorem dX7_letterOf_60 : nv_dk qX7_letterOf 60 97 62 := Or.inr (Or.inl ⟨97, ⟨by decide +kernel, rfl⟩, by decide⟩)
theorem dX7_letterOf_62 : decode qX7_letterOf.2.1 62 = .ok (.ireturn, 1) := by decide +kernel
theorem dX7_letterOf_63 : nv_dk qX7_letterOf 63 119 65 := Or.inr (Or.inl ⟨119, ⟨by decide +kernel, rfl⟩, by decide⟩)
theorem dX7_letterOf_65 : decode qX7_letterOf.2.1 65 = .ok (.ireturn, 1) := by decide +kernel
theorem dX7_letterOf_66 : nv_dk qX7_letterOf 66 110 68 := Or.inr (Or.inl ⟨110, ⟨by decide +kernel, rfl⟩, by decide⟩)
theorem dX7_letterOf_68 : decode qX7_letterOf.2.1 68 = .ok (.ireturn, 1) := by decide +kernel
theorem dX7_letterOf_69 : nv_dk qX7_letterOf 69 111 71 := Or.inr (Or.inl ⟨111, ⟨by decide +kernel, rfl⟩, by decide⟩)
theorem dX7_letterOf_71 : decode qX7_letterOf.2.1 71 = .ok (.ireturn, 1) := by decide +kernel
theorem dX7_letterOf_72 : nv_dk qX7_letterOf 72 99 74 := Or.inr (Or.inl ⟨99, ⟨by decide +kernel, rfl⟩, by decide⟩)
theorem dX7_letterOf_74 : decode qX7_letterOf.2.1 74 = .ok (.ireturn, 1) := by decide +kernel
def pm_letterOf (x0 : Int32) : Int32 := (if x0 = 0 then 98 else (if x0 = 1 then 115 else (if x0 = 2 then 112 else (if x0 = 3 then 116 else (if x0 = 4 then 97 else (if x0 = 5 then 119 else (if x0 = 6 then 110 else (if x0 = 7 then 111 else 99))))))))
set_option maxHeartbeats 2000000 in
theorem tm_letterOf (G : nv_G) (h : nv_Hp) (x0 : Int32) : nv_Mt G 0 qX7_letterOf [.int x0] (nv_s h) (some (.int (pm_letterOf x0)), nv_s h) := by
  refine nv_of (by decide +kernel) (fun ad => Nat.le_of_ble_eq_true rfl) (Nat.le_refl _) (Nat.le_of_ble_eq_true rfl) ?_
  show nv_E G 0 qX7_letterOf 0 [some (.int x0)] [] (nv_s h) (some (.int (pm_letterOf x0)), nv_s h)
  generalize hf : (pm_letterOf x0) = r
  unfold pm_letterOf at hf
  refine nv_iL dX7_letterOf_0 rfl ?_
  by_cases c1 : x0 = 0
  · replace hf := nv_ip c1 hf
    refine nv_switch (tgt := 48) (swX7_letterOf_1_0 _ c1) ?_
    refine nv_k dX7_letterOf_48 ?_
    subst hf
    exact nv_ireturnI dX7_letterOf_50 rfl
  · replace hf := nv_in c1 hf
    by_cases c2 : x0 = 1
    · replace hf := nv_ip c2 hf
      refine nv_switch (tgt := 51) (swX7_letterOf_1_1 _ c2) ?_
      refine nv_k dX7_letterOf_51 ?_
      subst hf
      exact nv_ireturnI dX7_letterOf_53 rfl
    · replace hf := nv_in c2 hf
      by_cases c3 : x0 = 2
      · replace hf := nv_ip c3 hf
        refine nv_switch (tgt := 54) (swX7_letterOf_1_2 _ c3) ?_
        refine nv_k dX7_letterOf_54 ?_
        subst hf
        exact nv_ireturnI dX7_letterOf_56 rfl
      · replace hf := nv_in c3 hf
        by_cases c4 : x0 = 3
        · replace hf := nv_ip c4 hf
          refine nv_switch (tgt := 57) (swX7_letterOf_1_3 _ c4) ?_
          refine nv_k dX7_letterOf_57 ?_
          subst hf
          exact nv_ireturnI dX7_letterOf_59 rfl
        · replace hf := nv_in c4 hf
          by_cases c5 : x0 = 4
          · replace hf := nv_ip c5 hf
            refine nv_switch (tgt := 60) (swX7_letterOf_1_4 _ c5) ?_
            refine nv_k dX7_letterOf_60 ?_
            subst hf
            exact nv_ireturnI dX7_letterOf_62 rfl
          · replace hf := nv_in c5 hf
            by_cases c6 : x0 = 5
            · replace hf := nv_ip c6 hf
              refine nv_switch (tgt := 63) (swX7_letterOf_1_5 _ c6) ?_
              refine nv_k dX7_letterOf_63 ?_
              subst hf
              exact nv_ireturnI dX7_letterOf_65 rfl
            · replace hf := nv_in c6 hf
              by_cases c7 : x0 = 6
              · replace hf := nv_ip c7 hf
                refine nv_switch (tgt := 66) (swX7_letterOf_1_6 _ c7) ?_
                refine nv_k dX7_letterOf_66 ?_
                subst hf
                exact nv_ireturnI dX7_letterOf_68 rfl
              · replace hf := nv_in c7 hf
                by_cases c8 : x0 = 7
                · replace hf := nv_ip c8 hf
                  refine nv_switch (tgt := 69) (swX7_letterOf_1_7 _ c8) ?_
                  refine nv_k dX7_letterOf_69 ?_
                  subst hf
                  exact nv_ireturnI dX7_letterOf_71 rfl
                · replace hf := nv_in c8 hf
                  refine nv_switch (tgt := 72) (swX7_letterOf_1_d _ c1 c2 c3 c4 c5 c6 c7 c8) ?_
                  refine nv_k dX7_letterOf_72 ?_
                  subst hf
                  exact nv_ireturnI dX7_letterOf_74 rfl
/-! WhoseNameModel.clears -/
theorem dX7_clears_0 : nv_dk qX7_clears 0 0 1 := Or.inl ⟨0, ⟨by decide +kernel, rfl⟩, by decide⟩
theorem dX7_clears_1 : nv_distore qX7_clears 1 2 2 := Or.inr ⟨2, rfl, by decide +kernel, rfl⟩
theorem dX7_clears_2 : nv_diload qX7_clears 2 2 3 := Or.inr ⟨2, rfl, by decide +kernel, rfl⟩
theorem dX7_clears_3 : nv_dk qX7_clears 3 9 5 := Or.inr (Or.inl ⟨9, ⟨by decide +kernel, rfl⟩, by decide⟩)
theorem dX7_clears_5 : nv_dic qX7_clears 5 .ge 29 8 := ⟨24, by decide +kernel, by decide, rfl⟩
theorem dX7_clears_8 : nv_daload qX7_clears 8 0 9 := Or.inr ⟨0, rfl, by decide +kernel, rfl⟩
theorem dX7_clears_9 : nv_dc qX7_clears 9 (.getfield 109) 3 12 := ⟨by decide +kernel, rfl⟩
theorem dX7_clears_12 : nv_dk qX7_clears 12 9 14 := Or.inr (Or.inl ⟨9, ⟨by decide +kernel, rfl⟩, by decide⟩)
theorem dX7_clears_14 : nv_diload qX7_clears 14 1 15 := Or.inr ⟨1, rfl, by decide +kernel, rfl⟩
theorem dX7_clears_15 : nv_dc qX7_clears 15 (.imul) 1 16 := ⟨by decide +kernel, rfl⟩
theorem dX7_clears_16 : nv_diload qX7_clears 16 2 17 := Or.inr ⟨2, rfl, by decide +kernel, rfl⟩
theorem dX7_clears_17 : nv_dc qX7_clears 17 (.iadd) 1 18 := ⟨by decide +kernel, rfl⟩
theorem dX7_clears_18 : nv_diload qX7_clears 18 2 19 := Or.inr ⟨2, rfl, by decide +kernel, rfl⟩
theorem dX7_clears_19 : nv_dc qX7_clears 19 (.invokestatic 215) 3 22 := ⟨by decide +kernel, rfl⟩
theorem dX7_clears_22 : nv_dc qX7_clears 22 (.iastore) 1 23 := ⟨by decide +kernel, rfl⟩
theorem dX7_clears_23 : nv_dc qX7_clears 23 (.iinc 2 1) 3 26 := ⟨by decide +kernel, rfl⟩
theorem dX7_clears_26 : nv_dgo qX7_clears 26 2 := ⟨(-24), by decide +kernel, by decide⟩
theorem dX7_clears_29 : decode qX7_clears.2.1 29 = .ok (.return_, 1) := by decide +kernel
def pm_clears_2  (x1 : Int32)  : Nat → Int32 → nv_Hp → Option (nv_Hp)
  | 0, _, _ => none
  | n + 1, x2, h => (if 9 ≤ x2 then some h else (if nv_inb ((9 * x1) + x2) 18 = true then (nv_lt (nv_up h 107 ((9 * x1) + x2).toNatClampNeg (pm_usual x2)) fun h3 => ((pm_clears_2 x1 n) (x2 + 1) h3)) else none))
set_option maxHeartbeats 2000000 in
theorem tm_clears_2 (G : nv_G)  (x1 : Int32) (hx1 : nv_inb x1 2 = true)  : ∀ (n : Nat) (x2 : Int32) (h : nv_Hp) (r : nv_Hp), pm_clears_2 x1 n x2 h = some r → nv_E G 1 qX7_clears 2 [some (.ref 73), some (.int x1), some (.int x2)] [] (nv_s h) (none, nv_s r) := by
  intro n
  induction n with
  | zero =>
    intro x2 h r hf
    rw [pm_clears_2] at hf
    cases hf
  | succ n ih =>
    intro x2 h r hf
    rw [pm_clears_2] at hf
    refine nv_iL dX7_clears_2 rfl ?_
    refine nv_k dX7_clears_3 ?_
    refine nv_icge dX7_clears_5 (fun c1 => ?_) (fun c1 => ?_)
    · replace hf := nv_ip c1 hf
      obtain rfl := Option.some.inj hf
      exact nv_return dX7_clears_29 rfl
    · replace hf := nv_in c1 hf
      refine nv_aL dX7_clears_8 rfl ?_
      refine nv_tR lf_X7_109 dX7_clears_9 ko_73 rfl ?_
      refine nv_k dX7_clears_12 ?_
      refine nv_iL dX7_clears_14 rfl ?_
      refine nv_imul dX7_clears_15 ?_
      refine nv_iL dX7_clears_16 rfl ?_
      refine nv_iadd dX7_clears_17 ?_
      refine nv_iL dX7_clears_18 rfl ?_
      refine nv_cSi (tm_usual G h x2) dX7_clears_19 lm_X7_215 y_qX7_usual rfl (by decide) rfl (Nat.le_of_ble_eq_true rfl) ?_
      obtain ⟨g2, hf⟩ := nv_gd hf
      refine nv_aP dX7_clears_22 ka_107 g2 rfl ?_
      obtain ⟨h3, eh3, hf⟩ := nv_ltX hf
      rw [eh3]
      clear eh3
      refine nv_inc dX7_clears_23 rfl (v := 1) (by decide) (by decide) rfl rfl ?_
      refine nv_goto dX7_clears_26 ?_
      exact ih _ _ _ hf
def pm_clears (h : nv_Hp) (x1 : Int32) : Option (nv_Hp) := (pm_clears_2 x1 nv_fu 0 h)
set_option maxHeartbeats 2000000 in
theorem tm_clears (G : nv_G) (h : nv_Hp) (x1 : Int32) (hx1 : nv_inb x1 2 = true) {r : nv_Hp} (hf : (pm_clears h x1) = some r) : nv_Mt G 1 qX7_clears [.ref 73, .int x1] (nv_s h) (none, nv_s r) := by
  refine nv_of (by decide +kernel) (fun ad => Nat.le_of_ble_eq_true rfl) (Nat.le_refl _) (Nat.le_of_ble_eq_true rfl) ?_
  show nv_E G 1 qX7_clears 0 [some (.ref 73), some (.int x1), none] [] (nv_s h) (none, nv_s r)
  unfold pm_clears at hf
  refine nv_k dX7_clears_0 ?_
  refine nv_iS dX7_clears_1 (by decide) rfl rfl ?_
  exact tm_clears_2 G _ hx1 _ _ _ _ hf
/-! WhoseNameModel.readsPart -/
theorem dX7_readsPart_0 : nv_dk qX7_readsPart 0 (-1) 1 := Or.inl ⟨(-1), ⟨by decide +kernel, rfl⟩, by decide⟩
theorem dX7_readsPart_1 : nv_distore qX7_readsPart 1 2 2 := Or.inr ⟨2, rfl, by decide +kernel, rfl⟩
theorem dX7_readsPart_2 : nv_dk qX7_readsPart 2 0 3 := Or.inl ⟨0, ⟨by decide +kernel, rfl⟩, by decide⟩
theorem dX7_readsPart_3 : nv_distore qX7_readsPart 3 3 4 := Or.inr ⟨3, rfl, by decide +kernel, rfl⟩
theorem dX7_readsPart_4 : nv_diload qX7_readsPart 4 3 5 := Or.inr ⟨3, rfl, by decide +kernel, rfl⟩
theorem dX7_readsPart_5 : nv_dk qX7_readsPart 5 9 7 := Or.inr (Or.inl ⟨9, ⟨by decide +kernel, rfl⟩, by decide⟩)
theorem dX7_readsPart_7 : nv_dic qX7_readsPart 7 .ge 34 10 := ⟨27, by decide +kernel, by decide, rfl⟩
theorem dX7_readsPart_10 : nv_daload qX7_readsPart 10 0 11 := Or.inr ⟨0, rfl, by decide +kernel, rfl⟩
theorem dX7_readsPart_11 : nv_diload qX7_readsPart 11 1 12 := Or.inr ⟨1, rfl, by decide +kernel, rfl⟩
theorem dX7_readsPart_12 : nv_dc qX7_readsPart 12 (.invokevirtual 218) 3 15 := ⟨by decide +kernel, rfl⟩
theorem dX7_readsPart_15 : nv_diload qX7_readsPart 15 3 16 := Or.inr ⟨3, rfl, by decide +kernel, rfl⟩
theorem dX7_readsPart_16 : nv_dc qX7_readsPart 16 (.invokestatic 221) 3 19 := ⟨by decide +kernel, rfl⟩
theorem dX7_readsPart_19 : nv_dic qX7_readsPart 19 .ne 26 22 := ⟨7, by decide +kernel, by decide, rfl⟩
theorem dX7_readsPart_22 : nv_diload qX7_readsPart 22 3 23 := Or.inr ⟨3, rfl, by decide +kernel, rfl⟩
theorem dX7_readsPart_23 : nv_dgo qX7_readsPart 23 27 := ⟨4, by decide +kernel, by decide⟩
theorem dX7_readsPart_26 : nv_diload qX7_readsPart 26 2 27 := Or.inr ⟨2, rfl, by decide +kernel, rfl⟩
theorem dX7_readsPart_27 : nv_distore qX7_readsPart 27 2 28 := Or.inr ⟨2, rfl, by decide +kernel, rfl⟩
theorem dX7_readsPart_28 : nv_dc qX7_readsPart 28 (.iinc 3 1) 3 31 := ⟨by decide +kernel, rfl⟩
theorem dX7_readsPart_31 : nv_dgo qX7_readsPart 31 4 := ⟨(-27), by decide +kernel, by decide⟩
theorem dX7_readsPart_34 : nv_diload qX7_readsPart 34 2 35 := Or.inr ⟨2, rfl, by decide +kernel, rfl⟩
theorem dX7_readsPart_35 : nv_dk qX7_readsPart 35 (-1) 36 := Or.inl ⟨(-1), ⟨by decide +kernel, rfl⟩, by decide⟩
theorem dX7_readsPart_36 : nv_dic qX7_readsPart 36 .ne 41 39 := ⟨5, by decide +kernel, by decide, rfl⟩
theorem dX7_readsPart_39 : nv_dk qX7_readsPart 39 0 40 := Or.inl ⟨0, ⟨by decide +kernel, rfl⟩, by decide⟩
theorem dX7_readsPart_40 : decode qX7_readsPart.2.1 40 = .ok (.ireturn, 1) := by decide +kernel
theorem dX7_readsPart_41 : nv_daload qX7_readsPart 41 0 42 := Or.inr ⟨0, rfl, by decide +kernel, rfl⟩
theorem dX7_readsPart_42 : nv_dc qX7_readsPart 42 (.dup) 1 43 := ⟨by decide +kernel, rfl⟩
theorem dX7_readsPart_43 : nv_dc qX7_readsPart 43 (.getfield 212) 3 46 := ⟨by decide +kernel, rfl⟩
theorem dX7_readsPart_46 : nv_dk qX7_readsPart 46 1 47 := Or.inl ⟨1, ⟨by decide +kernel, rfl⟩, by decide⟩
theorem dX7_readsPart_47 : nv_dc qX7_readsPart 47 (.iadd) 1 48 := ⟨by decide +kernel, rfl⟩
theorem dX7_readsPart_48 : nv_dc qX7_readsPart 48 (.putfield 212) 3 51 := ⟨by decide +kernel, rfl⟩
theorem dX7_readsPart_51 : nv_daload qX7_readsPart 51 0 52 := Or.inr ⟨0, rfl, by decide +kernel, rfl⟩
theorem dX7_readsPart_52 : nv_diload qX7_readsPart 52 1 53 := Or.inr ⟨1, rfl, by decide +kernel, rfl⟩
theorem dX7_readsPart_53 : nv_dc qX7_readsPart 53 (.invokevirtual 218) 3 56 := ⟨by decide +kernel, rfl⟩
theorem dX7_readsPart_56 : nv_dk qX7_readsPart 56 61 58 := Or.inr (Or.inl ⟨61, ⟨by decide +kernel, rfl⟩, by decide⟩)
theorem dX7_readsPart_58 : nv_dic qX7_readsPart 58 .eq 63 61 := ⟨5, by decide +kernel, by decide, rfl⟩
theorem dX7_readsPart_61 : nv_dk qX7_readsPart 61 0 62 := Or.inl ⟨0, ⟨by decide +kernel, rfl⟩, by decide⟩
theorem dX7_readsPart_62 : decode qX7_readsPart.2.1 62 = .ok (.ireturn, 1) := by decide +kernel
theorem dX7_readsPart_63 : nv_daload qX7_readsPart 63 0 64 := Or.inr ⟨0, rfl, by decide +kernel, rfl⟩
theorem dX7_readsPart_64 : nv_dc qX7_readsPart 64 (.dup) 1 65 := ⟨by decide +kernel, rfl⟩
theorem dX7_readsPart_65 : nv_dc qX7_readsPart 65 (.getfield 212) 3 68 := ⟨by decide +kernel, rfl⟩
theorem dX7_readsPart_68 : nv_dk qX7_readsPart 68 1 69 := Or.inl ⟨1, ⟨by decide +kernel, rfl⟩, by decide⟩
theorem dX7_readsPart_69 : nv_dc qX7_readsPart 69 (.iadd) 1 70 := ⟨by decide +kernel, rfl⟩
theorem dX7_readsPart_70 : nv_dc qX7_readsPart 70 (.putfield 212) 3 73 := ⟨by decide +kernel, rfl⟩
theorem dX7_readsPart_73 : nv_daload qX7_readsPart 73 0 74 := Or.inr ⟨0, rfl, by decide +kernel, rfl⟩
theorem dX7_readsPart_74 : nv_dc qX7_readsPart 74 (.getfield 212) 3 77 := ⟨by decide +kernel, rfl⟩
theorem dX7_readsPart_77 : nv_distore qX7_readsPart 77 3 78 := Or.inr ⟨3, rfl, by decide +kernel, rfl⟩
theorem dX7_readsPart_78 : nv_dk qX7_readsPart 78 0 79 := Or.inl ⟨0, ⟨by decide +kernel, rfl⟩, by decide⟩
theorem dX7_readsPart_79 : nv_distore qX7_readsPart 79 4 81 := Or.inl ⟨by decide +kernel, rfl⟩
theorem dX7_readsPart_81 : nv_daload qX7_readsPart 81 0 82 := Or.inr ⟨0, rfl, by decide +kernel, rfl⟩
theorem dX7_readsPart_82 : nv_dc qX7_readsPart 82 (.getfield 212) 3 85 := ⟨by decide +kernel, rfl⟩
theorem dX7_readsPart_85 : nv_diload qX7_readsPart 85 3 86 := Or.inr ⟨3, rfl, by decide +kernel, rfl⟩
theorem dX7_readsPart_86 : nv_dk qX7_readsPart 86 2 87 := Or.inl ⟨2, ⟨by decide +kernel, rfl⟩, by decide⟩
theorem dX7_readsPart_87 : nv_dc qX7_readsPart 87 (.iadd) 1 88 := ⟨by decide +kernel, rfl⟩
theorem dX7_readsPart_88 : nv_dic qX7_readsPart 88 .ge 138 91 := ⟨50, by decide +kernel, by decide, rfl⟩
theorem dX7_readsPart_91 : nv_daload qX7_readsPart 91 0 92 := Or.inr ⟨0, rfl, by decide +kernel, rfl⟩
theorem dX7_readsPart_92 : nv_diload qX7_readsPart 92 1 93 := Or.inr ⟨1, rfl, by decide +kernel, rfl⟩
theorem dX7_readsPart_93 : nv_dc qX7_readsPart 93 (.invokevirtual 218) 3 96 := ⟨by decide +kernel, rfl⟩
theorem dX7_readsPart_96 : nv_dc qX7_readsPart 96 (.i2l) 1 97 := ⟨by decide +kernel, rfl⟩
theorem dX7_readsPart_97 : nv_dc qX7_readsPart 97 (.ldc2_w 224) 3 100 := ⟨by decide +kernel, rfl⟩
theorem dX7_readsPart_100 : nv_dc qX7_readsPart 100 (.ldc2_w 226) 3 103 := ⟨by decide +kernel, rfl⟩
theorem dX7_readsPart_103 : nv_dc qX7_readsPart 103 (.invokestatic 127) 3 106 := ⟨by decide +kernel, rfl⟩
theorem dX7_readsPart_106 : nv_dif qX7_readsPart 106 .eq 138 109 := ⟨32, by decide +kernel, by decide, rfl⟩
theorem dX7_readsPart_109 : nv_dk qX7_readsPart 109 10 111 := Or.inr (Or.inl ⟨10, ⟨by decide +kernel, rfl⟩, by decide⟩)
theorem dX7_readsPart_111 : nv_diload qX7_readsPart 111 4 113 := Or.inl ⟨by decide +kernel, rfl⟩
theorem dX7_readsPart_113 : nv_dc qX7_readsPart 113 (.imul) 1 114 := ⟨by decide +kernel, rfl⟩
theorem dX7_readsPart_114 : nv_daload qX7_readsPart 114 0 115 := Or.inr ⟨0, rfl, by decide +kernel, rfl⟩
theorem dX7_readsPart_115 : nv_diload qX7_readsPart 115 1 116 := Or.inr ⟨1, rfl, by decide +kernel, rfl⟩
theorem dX7_readsPart_116 : nv_dc qX7_readsPart 116 (.invokevirtual 218) 3 119 := ⟨by decide +kernel, rfl⟩
theorem dX7_readsPart_119 : nv_dc qX7_readsPart 119 (.iadd) 1 120 := ⟨by decide +kernel, rfl⟩
theorem dX7_readsPart_120 : nv_dk qX7_readsPart 120 48 122 := Or.inr (Or.inl ⟨48, ⟨by decide +kernel, rfl⟩, by decide⟩)
theorem dX7_readsPart_122 : nv_dc qX7_readsPart 122 (.isub) 1 123 := ⟨by decide +kernel, rfl⟩
theorem dX7_readsPart_123 : nv_distore qX7_readsPart 123 4 125 := Or.inl ⟨by decide +kernel, rfl⟩
theorem dX7_readsPart_125 : nv_daload qX7_readsPart 125 0 126 := Or.inr ⟨0, rfl, by decide +kernel, rfl⟩
theorem dX7_readsPart_126 : nv_dc qX7_readsPart 126 (.dup) 1 127 := ⟨by decide +kernel, rfl⟩
theorem dX7_readsPart_127 : nv_dc qX7_readsPart 127 (.getfield 212) 3 130 := ⟨by decide +kernel, rfl⟩
theorem dX7_readsPart_130 : nv_dk qX7_readsPart 130 1 131 := Or.inl ⟨1, ⟨by decide +kernel, rfl⟩, by decide⟩
theorem dX7_readsPart_131 : nv_dc qX7_readsPart 131 (.iadd) 1 132 := ⟨by decide +kernel, rfl⟩
theorem dX7_readsPart_132 : nv_dc qX7_readsPart 132 (.putfield 212) 3 135 := ⟨by decide +kernel, rfl⟩
theorem dX7_readsPart_135 : nv_dgo qX7_readsPart 135 81 := ⟨(-54), by decide +kernel, by decide⟩
theorem dX7_readsPart_138 : nv_daload qX7_readsPart 138 0 139 := Or.inr ⟨0, rfl, by decide +kernel, rfl⟩
theorem dX7_readsPart_139 : nv_dc qX7_readsPart 139 (.getfield 212) 3 142 := ⟨by decide +kernel, rfl⟩
theorem dX7_readsPart_142 : nv_diload qX7_readsPart 142 3 143 := Or.inr ⟨3, rfl, by decide +kernel, rfl⟩
theorem dX7_readsPart_143 : nv_dic qX7_readsPart 143 .eq 155 146 := ⟨12, by decide +kernel, by decide, rfl⟩
theorem dX7_readsPart_146 : nv_diload qX7_readsPart 146 4 148 := Or.inl ⟨by decide +kernel, rfl⟩
theorem dX7_readsPart_148 : nv_diload qX7_readsPart 148 2 149 := Or.inr ⟨2, rfl, by decide +kernel, rfl⟩
theorem dX7_readsPart_149 : nv_dc qX7_readsPart 149 (.invokestatic 228) 3 152 := ⟨by decide +kernel, rfl⟩
theorem dX7_readsPart_152 : nv_dic qX7_readsPart 152 .le 162 155 := ⟨10, by decide +kernel, by decide, rfl⟩
theorem dX7_readsPart_155 : nv_daload qX7_readsPart 155 0 156 := Or.inr ⟨0, rfl, by decide +kernel, rfl⟩
theorem dX7_readsPart_156 : nv_diload qX7_readsPart 156 3 157 := Or.inr ⟨3, rfl, by decide +kernel, rfl⟩
theorem dX7_readsPart_157 : nv_dc qX7_readsPart 157 (.putfield 212) 3 160 := ⟨by decide +kernel, rfl⟩
theorem dX7_readsPart_160 : nv_dk qX7_readsPart 160 0 161 := Or.inl ⟨0, ⟨by decide +kernel, rfl⟩, by decide⟩
theorem dX7_readsPart_161 : decode qX7_readsPart.2.1 161 = .ok (.ireturn, 1) := by decide +kernel
theorem dX7_readsPart_162 : nv_daload qX7_readsPart 162 0 163 := Or.inr ⟨0, rfl, by decide +kernel, rfl⟩
theorem dX7_readsPart_163 : nv_dc qX7_readsPart 163 (.getfield 109) 3 166 := ⟨by decide +kernel, rfl⟩
theorem dX7_readsPart_166 : nv_dk qX7_readsPart 166 9 168 := Or.inr (Or.inl ⟨9, ⟨by decide +kernel, rfl⟩, by decide⟩)
theorem dX7_readsPart_168 : nv_diload qX7_readsPart 168 1 169 := Or.inr ⟨1, rfl, by decide +kernel, rfl⟩
theorem dX7_readsPart_169 : nv_dc qX7_readsPart 169 (.imul) 1 170 := ⟨by decide +kernel, rfl⟩
theorem dX7_readsPart_170 : nv_diload qX7_readsPart 170 2 171 := Or.inr ⟨2, rfl, by decide +kernel, rfl⟩
theorem dX7_readsPart_171 : nv_dc qX7_readsPart 171 (.iadd) 1 172 := ⟨by decide +kernel, rfl⟩
theorem dX7_readsPart_172 : nv_diload qX7_readsPart 172 4 174 := Or.inl ⟨by decide +kernel, rfl⟩
theorem dX7_readsPart_174 : nv_dc qX7_readsPart 174 (.iastore) 1 175 := ⟨by decide +kernel, rfl⟩
theorem dX7_readsPart_175 : nv_dk qX7_readsPart 175 1 176 := Or.inl ⟨1, ⟨by decide +kernel, rfl⟩, by decide⟩
theorem dX7_readsPart_176 : decode qX7_readsPart.2.1 176 = .ok (.ireturn, 1) := by decide +kernel
def pm_readsPart_138 (h : nv_Hp) (x1 : Int32) (x2 : Int32) (x3 : Int32) (x4 : Int32)   : Option (Bool × nv_Hp) := (if (h 73 38) = x3 then (nv_lt (nv_up h 73 38 x3) fun h2 => some (false, h2)) else (if x4 ≤ (pm_greatest x2) then (if nv_inb ((9 * x1) + x2) 18 = true then (nv_lt (nv_up h 107 ((9 * x1) + x2).toNatClampNeg x4) fun h5 => some (true, h5)) else none) else (nv_lt (nv_up h 73 38 x3) fun h6 => some (false, h6))))
set_option maxHeartbeats 2000000 in
theorem tm_readsPart_138 (G : nv_G) (h : nv_Hp) (x1 : Int32) (hx1 : nv_inb x1 2 = true) (x2 : Int32) (x3 : Int32) (x4 : Int32)   (r : Bool × nv_Hp) (hf : pm_readsPart_138 h x1 x2 x3 x4 = some r) : nv_E G 1 qX7_readsPart 138 [some (.ref 73), some (.int x1), some (.int x2), some (.int x3), some (.int x4)] [] (nv_s h) (some (.int (nv_bi r.1)), nv_s r.2) := by
  unfold pm_readsPart_138 at hf
  refine nv_aL dX7_readsPart_138 rfl ?_
  refine nv_tI lf_X7_212 dX7_readsPart_139 ko_73 rfl ?_
  refine nv_iL dX7_readsPart_142 rfl ?_
  refine nv_iceq dX7_readsPart_143 (fun c1 => ?_) (fun c1 => ?_)
  · replace hf := nv_ip c1 hf
    refine nv_aL dX7_readsPart_155 rfl ?_
    refine nv_iL dX7_readsPart_156 rfl ?_
    refine nv_tP lp_X7_212 dX7_readsPart_157 ko_73 rfl ?_
    obtain ⟨h2, eh2, hf⟩ := nv_ltX hf
    rw [eh2]
    clear eh2
    refine nv_k dX7_readsPart_160 ?_
    obtain rfl := Option.some.inj hf
    exact nv_ireturnB (b := false) dX7_readsPart_161 rfl
  · replace hf := nv_in c1 hf
    refine nv_iL dX7_readsPart_146 rfl ?_
    refine nv_iL dX7_readsPart_148 rfl ?_
    refine nv_cSi (tm_greatest G h x2) dX7_readsPart_149 lm_X7_228 y_qX7_greatest rfl (by decide) rfl (Nat.le_of_ble_eq_true rfl) ?_
    refine nv_icle dX7_readsPart_152 (fun c3 => ?_) (fun c3 => ?_)
    · replace hf := nv_ip c3 hf
      refine nv_aL dX7_readsPart_162 rfl ?_
      refine nv_tR lf_X7_109 dX7_readsPart_163 ko_73 rfl ?_
      refine nv_k dX7_readsPart_166 ?_
      refine nv_iL dX7_readsPart_168 rfl ?_
      refine nv_imul dX7_readsPart_169 ?_
      refine nv_iL dX7_readsPart_170 rfl ?_
      refine nv_iadd dX7_readsPart_171 ?_
      refine nv_iL dX7_readsPart_172 rfl ?_
      obtain ⟨g4, hf⟩ := nv_gd hf
      refine nv_aP dX7_readsPart_174 ka_107 g4 rfl ?_
      obtain ⟨h5, eh5, hf⟩ := nv_ltX hf
      rw [eh5]
      clear eh5
      refine nv_k dX7_readsPart_175 ?_
      obtain rfl := Option.some.inj hf
      exact nv_ireturnB (b := true) dX7_readsPart_176 rfl
    · replace hf := nv_in c3 hf
      refine nv_aL dX7_readsPart_155 rfl ?_
      refine nv_iL dX7_readsPart_156 rfl ?_
      refine nv_tP lp_X7_212 dX7_readsPart_157 ko_73 rfl ?_
      obtain ⟨h6, eh6, hf⟩ := nv_ltX hf
      rw [eh6]
      clear eh6
      refine nv_k dX7_readsPart_160 ?_
      obtain rfl := Option.some.inj hf
      exact nv_ireturnB (b := false) dX7_readsPart_161 rfl
def pm_readsPart_81  (x1 : Int32) (x2 : Int32) (x3 : Int32)  : Nat → Int32 → nv_Hp → Option (Bool × nv_Hp)
  | 0, _, _ => none
  | n + 1, x4, h => (if (x3 + 2) ≤ (h 73 38) then (pm_readsPart_138 h x1 x2 x3 x4) else (Option.bind (pm_here h x1) fun q2 => (if (pm_in (Int32.toInt64 q2) 48 57) = true then (Option.bind (pm_here h x1) fun q4 => (nv_lt ((((10 * x4) + q4) - 48)) fun v5 => (nv_lt (nv_up h 73 38 ((h 73 38) + 1)) fun h6 => ((pm_readsPart_81 x1 x2 x3 n) v5 h6)))) else (pm_readsPart_138 h x1 x2 x3 x4))))
set_option maxHeartbeats 2000000 in
theorem tm_readsPart_81 (G : nv_G)  (x1 : Int32) (hx1 : nv_inb x1 2 = true) (x2 : Int32) (x3 : Int32)  : ∀ (n : Nat) (x4 : Int32) (h : nv_Hp) (r : Bool × nv_Hp), pm_readsPart_81 x1 x2 x3 n x4 h = some r → nv_E G 1 qX7_readsPart 81 [some (.ref 73), some (.int x1), some (.int x2), some (.int x3), some (.int x4)] [] (nv_s h) (some (.int (nv_bi r.1)), nv_s r.2) := by
  intro n
  induction n with
  | zero =>
    intro x4 h r hf
    rw [pm_readsPart_81] at hf
    cases hf
  | succ n ih =>
    intro x4 h r hf
    rw [pm_readsPart_81] at hf
    refine nv_aL dX7_readsPart_81 rfl ?_
    refine nv_tI lf_X7_212 dX7_readsPart_82 ko_73 rfl ?_
    refine nv_iL dX7_readsPart_85 rfl ?_
    refine nv_k dX7_readsPart_86 ?_
    refine nv_iadd dX7_readsPart_87 ?_
    refine nv_icge dX7_readsPart_88 (fun c1 => ?_) (fun c1 => ?_)
    · replace hf := nv_ip c1 hf
      exact tm_readsPart_138 G _ _ hx1 _ _ _ _ hf
    · replace hf := nv_in c1 hf
      refine nv_aL dX7_readsPart_91 rfl ?_
      refine nv_iL dX7_readsPart_92 rfl ?_
      obtain ⟨q2, hq2, hf⟩ := nv_bd hf
      refine nv_cVi (tm_here G h x1 hx1 hq2) dX7_readsPart_93 lm_X7_218 y_qX7_here ko_73 rfl rfl (by decide) rfl (Nat.le_of_ble_eq_true rfl) ?_
      refine nv_i2l dX7_readsPart_96 ?_
      refine nv_ldc2 dX7_readsPart_97 lc_X7_224 ?_
      refine nv_ldc2 dX7_readsPart_100 lc_X7_226 ?_
      refine nv_cSi (tm_in G h (Int32.toInt64 q2) 48 57) dX7_readsPart_103 lm_X7_127 y_qX7_in rfl (by decide) rfl (Nat.le_of_ble_eq_true rfl) ?_
      refine nv_ifeqB dX7_readsPart_106 (fun c3 => ?_) (fun c3 => ?_)
      · replace hf := nv_ip c3 hf
        refine nv_k dX7_readsPart_109 ?_
        refine nv_iL dX7_readsPart_111 rfl ?_
        refine nv_imul dX7_readsPart_113 ?_
        refine nv_aL dX7_readsPart_114 rfl ?_
        refine nv_iL dX7_readsPart_115 rfl ?_
        obtain ⟨q4, hq4, hf⟩ := nv_bd hf
        refine nv_cVi (tm_here G h x1 hx1 hq4) dX7_readsPart_116 lm_X7_218 y_qX7_here ko_73 rfl rfl (by decide) rfl (Nat.le_of_ble_eq_true rfl) ?_
        refine nv_iadd dX7_readsPart_119 ?_
        refine nv_k dX7_readsPart_120 ?_
        refine nv_isub dX7_readsPart_122 ?_
        obtain ⟨v5, ev5, hf⟩ := nv_ltX hf
        rw [ev5]
        clear ev5
        refine nv_iS dX7_readsPart_123 (by decide) rfl rfl ?_
        refine nv_aL dX7_readsPart_125 rfl ?_
        refine nv_dup dX7_readsPart_126 rfl ?_
        refine nv_tI lf_X7_212 dX7_readsPart_127 ko_73 rfl ?_
        refine nv_k dX7_readsPart_130 ?_
        refine nv_iadd dX7_readsPart_131 ?_
        refine nv_tP lp_X7_212 dX7_readsPart_132 ko_73 rfl ?_
        obtain ⟨h6, eh6, hf⟩ := nv_ltX hf
        rw [eh6]
        clear eh6
        refine nv_goto dX7_readsPart_135 ?_
        exact ih _ _ _ hf
      · replace hf := nv_in c3 hf
        exact tm_readsPart_138 G _ _ hx1 _ _ _ _ hf
def pm_readsPart_4 (h : nv_Hp) (x1 : Int32)  : Nat → Int32 → Int32 → Option (Bool × nv_Hp)
  | 0, _, _ => none
  | n + 1, x2, x3 => (if 9 ≤ x3 then (if x2 = (-1) then some (false, h) else (nv_lt (nv_up h 73 38 ((h 73 38) + 1)) fun h3 => (Option.bind (pm_here h3 x1) fun q4 => (if q4 = 61 then (nv_lt (nv_up h3 73 38 ((h3 73 38) + 1)) fun h6 => (nv_lt ((h6 73 38)) fun v7 => (pm_readsPart_81 x1 x2 v7 nv_fu 0 h6))) else some (false, h3))))) else (Option.bind (pm_here h x1) fun q8 => ((pm_readsPart_4 h x1 n) (if q8 = (pm_letterOf x3) then x3 else x2) (x3 + 1))))
set_option maxHeartbeats 2000000 in
theorem tm_readsPart_4 (G : nv_G) (h : nv_Hp) (x1 : Int32) (hx1 : nv_inb x1 2 = true)  : ∀ (n : Nat) (x2 : Int32) (x3 : Int32) (o4 : Option Value) (r : Bool × nv_Hp), pm_readsPart_4 h x1 n x2 x3 = some r → nv_E G 1 qX7_readsPart 4 [some (.ref 73), some (.int x1), some (.int x2), some (.int x3), o4] [] (nv_s h) (some (.int (nv_bi r.1)), nv_s r.2) := by
  intro n
  induction n with
  | zero =>
    intro x2 x3 o4 r hf
    rw [pm_readsPart_4] at hf
    cases hf
  | succ n ih =>
    intro x2 x3 o4 r hf
    rw [pm_readsPart_4] at hf
    refine nv_iL dX7_readsPart_4 rfl ?_
    refine nv_k dX7_readsPart_5 ?_
    refine nv_icge dX7_readsPart_7 (fun c1 => ?_) (fun c1 => ?_)
    · replace hf := nv_ip c1 hf
      refine nv_iL dX7_readsPart_34 rfl ?_
      refine nv_k dX7_readsPart_35 ?_
      refine nv_icne dX7_readsPart_36 (fun c2 => ?_) (fun c2 => ?_)
      · replace hf := nv_ip c2 hf
        refine nv_k dX7_readsPart_39 ?_
        obtain rfl := Option.some.inj hf
        exact nv_ireturnB (b := false) dX7_readsPart_40 rfl
      · replace hf := nv_in c2 hf
        refine nv_aL dX7_readsPart_41 rfl ?_
        refine nv_dup dX7_readsPart_42 rfl ?_
        refine nv_tI lf_X7_212 dX7_readsPart_43 ko_73 rfl ?_
        refine nv_k dX7_readsPart_46 ?_
        refine nv_iadd dX7_readsPart_47 ?_
        refine nv_tP lp_X7_212 dX7_readsPart_48 ko_73 rfl ?_
        obtain ⟨h3, eh3, hf⟩ := nv_ltX hf
        rw [eh3]
        clear eh3
        refine nv_aL dX7_readsPart_51 rfl ?_
        refine nv_iL dX7_readsPart_52 rfl ?_
        obtain ⟨q4, hq4, hf⟩ := nv_bd hf
        refine nv_cVi (tm_here G h3 x1 hx1 hq4) dX7_readsPart_53 lm_X7_218 y_qX7_here ko_73 rfl rfl (by decide) rfl (Nat.le_of_ble_eq_true rfl) ?_
        refine nv_k dX7_readsPart_56 ?_
        refine nv_iceq dX7_readsPart_58 (fun c5 => ?_) (fun c5 => ?_)
        · replace hf := nv_ip c5 hf
          refine nv_aL dX7_readsPart_63 rfl ?_
          refine nv_dup dX7_readsPart_64 rfl ?_
          refine nv_tI lf_X7_212 dX7_readsPart_65 ko_73 rfl ?_
          refine nv_k dX7_readsPart_68 ?_
          refine nv_iadd dX7_readsPart_69 ?_
          refine nv_tP lp_X7_212 dX7_readsPart_70 ko_73 rfl ?_
          obtain ⟨h6, eh6, hf⟩ := nv_ltX hf
          rw [eh6]
          clear eh6
          refine nv_aL dX7_readsPart_73 rfl ?_
          refine nv_tI lf_X7_212 dX7_readsPart_74 ko_73 rfl ?_
          obtain ⟨v7, ev7, hf⟩ := nv_ltX hf
          rw [ev7]
          clear ev7
          refine nv_iS dX7_readsPart_77 (by decide) rfl rfl ?_
          refine nv_k dX7_readsPart_78 ?_
          refine nv_iS dX7_readsPart_79 (by decide) rfl rfl ?_
          exact tm_readsPart_81 G _ hx1 _ _ _ _ _ _ hf
        · replace hf := nv_in c5 hf
          refine nv_k dX7_readsPart_61 ?_
          obtain rfl := Option.some.inj hf
          exact nv_ireturnB (b := false) dX7_readsPart_62 rfl
    · replace hf := nv_in c1 hf
      refine nv_aL dX7_readsPart_10 rfl ?_
      refine nv_iL dX7_readsPart_11 rfl ?_
      obtain ⟨q8, hq8, hf⟩ := nv_bd hf
      refine nv_cVi (tm_here G h x1 hx1 hq8) dX7_readsPart_12 lm_X7_218 y_qX7_here ko_73 rfl rfl (by decide) rfl (Nat.le_of_ble_eq_true rfl) ?_
      refine nv_iL dX7_readsPart_15 rfl ?_
      refine nv_cSi (tm_letterOf G h x3) dX7_readsPart_16 lm_X7_221 y_qX7_letterOf rfl (by decide) rfl (Nat.le_of_ble_eq_true rfl) ?_
      refine nv_icne dX7_readsPart_19 (fun c9 => ?_) (fun c9 => ?_)
      · try simp only [if_pos c9] at hf
        refine nv_iL dX7_readsPart_22 rfl ?_
        refine nv_goto dX7_readsPart_23 ?_
        refine nv_iS dX7_readsPart_27 (by decide) rfl rfl ?_
        refine nv_inc dX7_readsPart_28 rfl (v := 1) (by decide) (by decide) rfl rfl ?_
        refine nv_goto dX7_readsPart_31 ?_
        exact ih _ _ _ _ hf
      · try simp only [if_neg c9] at hf
        refine nv_iL dX7_readsPart_26 rfl ?_
        refine nv_iS dX7_readsPart_27 (by decide) rfl rfl ?_
        refine nv_inc dX7_readsPart_28 rfl (v := 1) (by decide) (by decide) rfl rfl ?_
        refine nv_goto dX7_readsPart_31 ?_
        exact ih _ _ _ _ hf
def pm_readsPart (h : nv_Hp) (x1 : Int32) : Option (Bool × nv_Hp) := (pm_readsPart_4 h x1 nv_fu (-1) 0)
set_option maxHeartbeats 2000000 in
theorem tm_readsPart (G : nv_G) (h : nv_Hp) (x1 : Int32) (hx1 : nv_inb x1 2 = true) {r : Bool × nv_Hp} (hf : (pm_readsPart h x1) = some r) : nv_Mt G 1 qX7_readsPart [.ref 73, .int x1] (nv_s h) (some (.int (nv_bi r.1)), nv_s r.2) := by
  refine nv_of (by decide +kernel) (fun ad => Nat.le_of_ble_eq_true rfl) (Nat.le_refl _) (Nat.le_of_ble_eq_true rfl) ?_
  show nv_E G 1 qX7_readsPart 0 [some (.ref 73), some (.int x1), none, none, none] [] (nv_s h) (some (.int (nv_bi r.1)), nv_s r.2)
  unfold pm_readsPart at hf
  refine nv_k dX7_readsPart_0 ?_
  refine nv_iS dX7_readsPart_1 (by decide) rfl rfl ?_
  refine nv_k dX7_readsPart_2 ?_
  refine nv_iS dX7_readsPart_3 (by decide) rfl rfl ?_
  exact tm_readsPart_4 G _ _ hx1 _ _ _ _ _ hf
/-! WhoseNameModel.reads -/
theorem dX7_reads_0 : nv_daload qX7_reads 0 0 1 := Or.inr ⟨0, rfl, by decide +kernel, rfl⟩
theorem dX7_reads_1 : nv_diload qX7_reads 1 1 2 := Or.inr ⟨1, rfl, by decide +kernel, rfl⟩
theorem dX7_reads_2 : nv_dc qX7_reads 2 (.invokevirtual 231) 3 5 := ⟨by decide +kernel, rfl⟩
theorem dX7_reads_5 : nv_daload qX7_reads 5 0 6 := Or.inr ⟨0, rfl, by decide +kernel, rfl⟩
theorem dX7_reads_6 : nv_dk qX7_reads 6 0 7 := Or.inl ⟨0, ⟨by decide +kernel, rfl⟩, by decide⟩
theorem dX7_reads_7 : nv_dc qX7_reads 7 (.putfield 212) 3 10 := ⟨by decide +kernel, rfl⟩
theorem dX7_reads_10 : nv_daload qX7_reads 10 0 11 := Or.inr ⟨0, rfl, by decide +kernel, rfl⟩
theorem dX7_reads_11 : nv_dc qX7_reads 11 (.getfield 106) 3 14 := ⟨by decide +kernel, rfl⟩
theorem dX7_reads_14 : nv_diload qX7_reads 14 1 15 := Or.inr ⟨1, rfl, by decide +kernel, rfl⟩
theorem dX7_reads_15 : nv_dc qX7_reads 15 (.iaload) 1 16 := ⟨by decide +kernel, rfl⟩
theorem dX7_reads_16 : nv_dif qX7_reads 16 .le 23 19 := ⟨7, by decide +kernel, by decide, rfl⟩
theorem dX7_reads_19 : nv_dk qX7_reads 19 1 20 := Or.inl ⟨1, ⟨by decide +kernel, rfl⟩, by decide⟩
theorem dX7_reads_20 : nv_dgo qX7_reads 20 24 := ⟨4, by decide +kernel, by decide⟩
theorem dX7_reads_23 : nv_dk qX7_reads 23 0 24 := Or.inl ⟨0, ⟨by decide +kernel, rfl⟩, by decide⟩
theorem dX7_reads_24 : nv_distore qX7_reads 24 2 25 := Or.inr ⟨2, rfl, by decide +kernel, rfl⟩
theorem dX7_reads_25 : nv_diload qX7_reads 25 2 26 := Or.inr ⟨2, rfl, by decide +kernel, rfl⟩
theorem dX7_reads_26 : nv_dif qX7_reads 26 .eq 111 29 := ⟨85, by decide +kernel, by decide, rfl⟩
theorem dX7_reads_29 : nv_daload qX7_reads 29 0 30 := Or.inr ⟨0, rfl, by decide +kernel, rfl⟩
theorem dX7_reads_30 : nv_diload qX7_reads 30 1 31 := Or.inr ⟨1, rfl, by decide +kernel, rfl⟩
theorem dX7_reads_31 : nv_dc qX7_reads 31 (.invokevirtual 235) 3 34 := ⟨by decide +kernel, rfl⟩
theorem dX7_reads_34 : nv_dif qX7_reads 34 .ne 47 37 := ⟨13, by decide +kernel, by decide, rfl⟩
theorem dX7_reads_37 : nv_daload qX7_reads 37 0 38 := Or.inr ⟨0, rfl, by decide +kernel, rfl⟩
theorem dX7_reads_38 : nv_diload qX7_reads 38 1 39 := Or.inr ⟨1, rfl, by decide +kernel, rfl⟩
theorem dX7_reads_39 : nv_dc qX7_reads 39 (.invokevirtual 231) 3 42 := ⟨by decide +kernel, rfl⟩
theorem dX7_reads_42 : nv_daload qX7_reads 42 0 43 := Or.inr ⟨0, rfl, by decide +kernel, rfl⟩
theorem dX7_reads_43 : nv_dc qX7_reads 43 (.getfield 212) 3 46 := ⟨by decide +kernel, rfl⟩
theorem dX7_reads_46 : decode qX7_reads.2.1 46 = .ok (.ireturn, 1) := by decide +kernel
theorem dX7_reads_47 : nv_daload qX7_reads 47 0 48 := Or.inr ⟨0, rfl, by decide +kernel, rfl⟩
theorem dX7_reads_48 : nv_dc qX7_reads 48 (.getfield 212) 3 51 := ⟨by decide +kernel, rfl⟩
theorem dX7_reads_51 : nv_daload qX7_reads 51 0 52 := Or.inr ⟨0, rfl, by decide +kernel, rfl⟩
theorem dX7_reads_52 : nv_dc qX7_reads 52 (.getfield 106) 3 55 := ⟨by decide +kernel, rfl⟩
theorem dX7_reads_55 : nv_diload qX7_reads 55 1 56 := Or.inr ⟨1, rfl, by decide +kernel, rfl⟩
theorem dX7_reads_56 : nv_dc qX7_reads 56 (.iaload) 1 57 := ⟨by decide +kernel, rfl⟩
theorem dX7_reads_57 : nv_dic qX7_reads 57 .ge 64 60 := ⟨7, by decide +kernel, by decide, rfl⟩
theorem dX7_reads_60 : nv_dk qX7_reads 60 1 61 := Or.inl ⟨1, ⟨by decide +kernel, rfl⟩, by decide⟩
theorem dX7_reads_61 : nv_dgo qX7_reads 61 65 := ⟨4, by decide +kernel, by decide⟩
theorem dX7_reads_64 : nv_dk qX7_reads 64 0 65 := Or.inl ⟨0, ⟨by decide +kernel, rfl⟩, by decide⟩
theorem dX7_reads_65 : nv_distore qX7_reads 65 2 66 := Or.inr ⟨2, rfl, by decide +kernel, rfl⟩
theorem dX7_reads_66 : nv_diload qX7_reads 66 2 67 := Or.inr ⟨2, rfl, by decide +kernel, rfl⟩
theorem dX7_reads_67 : nv_dif qX7_reads 67 .eq 90 70 := ⟨23, by decide +kernel, by decide, rfl⟩
theorem dX7_reads_70 : nv_daload qX7_reads 70 0 71 := Or.inr ⟨0, rfl, by decide +kernel, rfl⟩
theorem dX7_reads_71 : nv_diload qX7_reads 71 1 72 := Or.inr ⟨1, rfl, by decide +kernel, rfl⟩
theorem dX7_reads_72 : nv_dc qX7_reads 72 (.invokevirtual 218) 3 75 := ⟨by decide +kernel, rfl⟩
theorem dX7_reads_75 : nv_dk qX7_reads 75 59 77 := Or.inr (Or.inl ⟨59, ⟨by decide +kernel, rfl⟩, by decide⟩)
theorem dX7_reads_77 : nv_dic qX7_reads 77 .eq 90 80 := ⟨13, by decide +kernel, by decide, rfl⟩
theorem dX7_reads_80 : nv_daload qX7_reads 80 0 81 := Or.inr ⟨0, rfl, by decide +kernel, rfl⟩
theorem dX7_reads_81 : nv_diload qX7_reads 81 1 82 := Or.inr ⟨1, rfl, by decide +kernel, rfl⟩
theorem dX7_reads_82 : nv_dc qX7_reads 82 (.invokevirtual 231) 3 85 := ⟨by decide +kernel, rfl⟩
theorem dX7_reads_85 : nv_daload qX7_reads 85 0 86 := Or.inr ⟨0, rfl, by decide +kernel, rfl⟩
theorem dX7_reads_86 : nv_dc qX7_reads 86 (.getfield 212) 3 89 := ⟨by decide +kernel, rfl⟩
theorem dX7_reads_89 : decode qX7_reads.2.1 89 = .ok (.ireturn, 1) := by decide +kernel
theorem dX7_reads_90 : nv_daload qX7_reads 90 0 91 := Or.inr ⟨0, rfl, by decide +kernel, rfl⟩
theorem dX7_reads_91 : nv_dc qX7_reads 91 (.dup) 1 92 := ⟨by decide +kernel, rfl⟩
theorem dX7_reads_92 : nv_dc qX7_reads 92 (.getfield 212) 3 95 := ⟨by decide +kernel, rfl⟩
theorem dX7_reads_95 : nv_diload qX7_reads 95 2 96 := Or.inr ⟨2, rfl, by decide +kernel, rfl⟩
theorem dX7_reads_96 : nv_dif qX7_reads 96 .eq 103 99 := ⟨7, by decide +kernel, by decide, rfl⟩
theorem dX7_reads_99 : nv_dk qX7_reads 99 1 100 := Or.inl ⟨1, ⟨by decide +kernel, rfl⟩, by decide⟩
theorem dX7_reads_100 : nv_dgo qX7_reads 100 104 := ⟨4, by decide +kernel, by decide⟩
theorem dX7_reads_103 : nv_dk qX7_reads 103 0 104 := Or.inl ⟨0, ⟨by decide +kernel, rfl⟩, by decide⟩
theorem dX7_reads_104 : nv_dc qX7_reads 104 (.iadd) 1 105 := ⟨by decide +kernel, rfl⟩
theorem dX7_reads_105 : nv_dc qX7_reads 105 (.putfield 212) 3 108 := ⟨by decide +kernel, rfl⟩
theorem dX7_reads_108 : nv_dgo qX7_reads 108 25 := ⟨(-83), by decide +kernel, by decide⟩
theorem dX7_reads_111 : nv_dk qX7_reads 111 (-1) 112 := Or.inl ⟨(-1), ⟨by decide +kernel, rfl⟩, by decide⟩
theorem dX7_reads_112 : decode qX7_reads.2.1 112 = .ok (.ireturn, 1) := by decide +kernel
def pm_reads_104 (h : nv_Hp) (x1 : Int32) (x2 : Bool) (s1 : Int32) (s2 : Bool) (rec25 : Bool → nv_Hp → Option (Int32 × nv_Hp)) : Option (Int32 × nv_Hp) := (nv_lt (nv_up h 73 38 (s1 + (nv_bi s2))) fun h1 => (rec25 x2 h1))
set_option maxHeartbeats 2000000 in
theorem tm_reads_104 (G : nv_G) (h : nv_Hp) (x1 : Int32) (hx1 : nv_inb x1 2 = true) (x2 : Bool) (s1 : Int32) (s2 : Bool) (rec25 : Bool → nv_Hp → Option (Int32 × nv_Hp)) (hrec25 : ∀ (x2 : Bool) (h : nv_Hp) (r : Int32 × nv_Hp), rec25 x2 h = some r → nv_E G 2 qX7_reads 25 [some (.ref 73), some (.int x1), some (.int (nv_bi x2))] [] (nv_s h) (some (.int r.1), nv_s r.2)) (r : Int32 × nv_Hp) (hf : pm_reads_104 h x1 x2 s1 s2 rec25 = some r) : nv_E G 2 qX7_reads 104 [some (.ref 73), some (.int x1), some (.int (nv_bi x2))] [.int (nv_bi s2), .int s1, .ref 73] (nv_s h) (some (.int r.1), nv_s r.2) := by
  unfold pm_reads_104 at hf
  refine nv_iadd dX7_reads_104 ?_
  refine nv_tP lp_X7_212 dX7_reads_105 ko_73 rfl ?_
  obtain ⟨h1, eh1, hf⟩ := nv_ltX hf
  rw [eh1]
  clear eh1
  refine nv_goto dX7_reads_108 ?_
  exact hrec25 _ _ _ hf
def pm_reads_90 (h : nv_Hp) (x1 : Int32) (x2 : Bool)  (rec25 : Bool → nv_Hp → Option (Int32 × nv_Hp)) : Option (Int32 × nv_Hp) := (pm_reads_104 h x1 x2 (h 73 38) (if x2 = true then true else false) rec25)
set_option maxHeartbeats 2000000 in
theorem tm_reads_90 (G : nv_G) (h : nv_Hp) (x1 : Int32) (hx1 : nv_inb x1 2 = true) (x2 : Bool)  (rec25 : Bool → nv_Hp → Option (Int32 × nv_Hp)) (hrec25 : ∀ (x2 : Bool) (h : nv_Hp) (r : Int32 × nv_Hp), rec25 x2 h = some r → nv_E G 2 qX7_reads 25 [some (.ref 73), some (.int x1), some (.int (nv_bi x2))] [] (nv_s h) (some (.int r.1), nv_s r.2)) (r : Int32 × nv_Hp) (hf : pm_reads_90 h x1 x2 rec25 = some r) : nv_E G 2 qX7_reads 90 [some (.ref 73), some (.int x1), some (.int (nv_bi x2))] [] (nv_s h) (some (.int r.1), nv_s r.2) := by
  unfold pm_reads_90 at hf
  refine nv_aL dX7_reads_90 rfl ?_
  refine nv_dup dX7_reads_91 rfl ?_
  refine nv_tI lf_X7_212 dX7_reads_92 ko_73 rfl ?_
  refine nv_iL dX7_reads_95 rfl ?_
  refine nv_ifeqB dX7_reads_96 (fun c1 => ?_) (fun c1 => ?_)
  · try simp only [if_pos c1] at hf
    refine nv_k dX7_reads_99 ?_
    refine nv_goto dX7_reads_100 ?_
    exact tm_reads_104 G _ _ hx1 _ _ _ _ hrec25 _ hf
  · try simp only [if_neg c1] at hf
    refine nv_k dX7_reads_103 ?_
    exact tm_reads_104 G _ _ hx1 _ _ _ _ hrec25 _ hf
def pm_reads_65 (h : nv_Hp) (x1 : Int32) (s0 : Bool) (rec25 : Bool → nv_Hp → Option (Int32 × nv_Hp)) : Option (Int32 × nv_Hp) := (if s0 = true then (Option.bind (pm_here h x1) fun q2 => (if q2 = 59 then (pm_reads_90 h x1 s0 rec25) else (Option.bind (pm_clears h x1) fun q4 => some ((q4 73 38), q4)))) else (pm_reads_90 h x1 s0 rec25))
set_option maxHeartbeats 2000000 in
theorem tm_reads_65 (G : nv_G) (h : nv_Hp) (x1 : Int32) (hx1 : nv_inb x1 2 = true) (s0 : Bool) (rec25 : Bool → nv_Hp → Option (Int32 × nv_Hp)) (hrec25 : ∀ (x2 : Bool) (h : nv_Hp) (r : Int32 × nv_Hp), rec25 x2 h = some r → nv_E G 2 qX7_reads 25 [some (.ref 73), some (.int x1), some (.int (nv_bi x2))] [] (nv_s h) (some (.int r.1), nv_s r.2)) (o2 : Option Value) (r : Int32 × nv_Hp) (hf : pm_reads_65 h x1 s0 rec25 = some r) : nv_E G 2 qX7_reads 65 [some (.ref 73), some (.int x1), o2] [.int (nv_bi s0)] (nv_s h) (some (.int r.1), nv_s r.2) := by
  unfold pm_reads_65 at hf
  refine nv_iS dX7_reads_65 (by decide) rfl rfl ?_
  refine nv_iL dX7_reads_66 rfl ?_
  refine nv_ifeqB dX7_reads_67 (fun c1 => ?_) (fun c1 => ?_)
  · replace hf := nv_ip c1 hf
    refine nv_aL dX7_reads_70 rfl ?_
    refine nv_iL dX7_reads_71 rfl ?_
    obtain ⟨q2, hq2, hf⟩ := nv_bd hf
    refine nv_cVi (tm_here G h x1 hx1 hq2) dX7_reads_72 lm_X7_218 y_qX7_here ko_73 rfl rfl (by decide) rfl (Nat.le_of_ble_eq_true rfl) ?_
    refine nv_k dX7_reads_75 ?_
    refine nv_iceq dX7_reads_77 (fun c3 => ?_) (fun c3 => ?_)
    · replace hf := nv_ip c3 hf
      exact tm_reads_90 G _ _ hx1 _ _ hrec25 _ hf
    · replace hf := nv_in c3 hf
      refine nv_aL dX7_reads_80 rfl ?_
      refine nv_iL dX7_reads_81 rfl ?_
      obtain ⟨q4, hq4, hf⟩ := nv_bd hf
      refine nv_cVv (tm_clears G h x1 hx1 hq4) dX7_reads_82 lm_X7_231 y_qX7_clears ko_73 rfl rfl (by decide) rfl (Nat.le_of_ble_eq_true rfl) ?_
      refine nv_aL dX7_reads_85 rfl ?_
      refine nv_tI lf_X7_212 dX7_reads_86 ko_73 rfl ?_
      obtain rfl := Option.some.inj hf
      exact nv_ireturnI dX7_reads_89 rfl
  · replace hf := nv_in c1 hf
    exact tm_reads_90 G _ _ hx1 _ _ hrec25 _ hf
def pm_reads_25  (x1 : Int32)  : Nat → Bool → nv_Hp → Option (Int32 × nv_Hp)
  | 0, _, _ => none
  | n + 1, x2, h => (if x2 = true then (Option.bind (pm_readsPart h x1) fun q2 => (if q2.1 = true then (pm_reads_65 q2.2 x1 (if (q2.2 106 x1.toNatClampNeg) ≤ (q2.2 73 38) then false else true) (pm_reads_25 x1 n)) else (Option.bind (pm_clears q2.2 x1) fun q5 => some ((q5 73 38), q5)))) else some ((-1), h))
set_option maxHeartbeats 2000000 in
theorem tm_reads_25 (G : nv_G)  (x1 : Int32) (hx1 : nv_inb x1 2 = true)  : ∀ (n : Nat) (x2 : Bool) (h : nv_Hp) (r : Int32 × nv_Hp), pm_reads_25 x1 n x2 h = some r → nv_E G 2 qX7_reads 25 [some (.ref 73), some (.int x1), some (.int (nv_bi x2))] [] (nv_s h) (some (.int r.1), nv_s r.2) := by
  intro n
  induction n with
  | zero =>
    intro x2 h r hf
    rw [pm_reads_25] at hf
    cases hf
  | succ n ih =>
    intro x2 h r hf
    rw [pm_reads_25] at hf
    refine nv_iL dX7_reads_25 rfl ?_
    refine nv_ifeqB dX7_reads_26 (fun c1 => ?_) (fun c1 => ?_)
    · replace hf := nv_ip c1 hf
      refine nv_aL dX7_reads_29 rfl ?_
      refine nv_iL dX7_reads_30 rfl ?_
      obtain ⟨q2, hq2, hf⟩ := nv_bd hf
      refine nv_cVi (tm_readsPart G h x1 hx1 hq2) dX7_reads_31 lm_X7_235 y_qX7_readsPart ko_73 rfl rfl (by decide) rfl (Nat.le_of_ble_eq_true rfl) ?_
      refine nv_ifneB dX7_reads_34 (fun c3 => ?_) (fun c3 => ?_)
      · replace hf := nv_ip c3 hf
        refine nv_aL dX7_reads_47 rfl ?_
        refine nv_tI lf_X7_212 dX7_reads_48 ko_73 rfl ?_
        refine nv_aL dX7_reads_51 rfl ?_
        refine nv_tR lf_X7_106 dX7_reads_52 ko_73 rfl ?_
        refine nv_iL dX7_reads_55 rfl ?_
        refine nv_aI dX7_reads_56 ka_106 hx1 rfl ?_
        refine nv_icge dX7_reads_57 (fun c4 => ?_) (fun c4 => ?_)
        · try simp only [if_pos c4] at hf
          refine nv_k dX7_reads_64 ?_
          exact tm_reads_65 G _ _ hx1 _ _ ih _ _ hf
        · try simp only [if_neg c4] at hf
          refine nv_k dX7_reads_60 ?_
          refine nv_goto dX7_reads_61 ?_
          exact tm_reads_65 G _ _ hx1 _ _ ih _ _ hf
      · replace hf := nv_in c3 hf
        refine nv_aL dX7_reads_37 rfl ?_
        refine nv_iL dX7_reads_38 rfl ?_
        obtain ⟨q5, hq5, hf⟩ := nv_bd hf
        refine nv_cVv (tm_clears G q2.2 x1 hx1 hq5) dX7_reads_39 lm_X7_231 y_qX7_clears ko_73 rfl rfl (by decide) rfl (Nat.le_of_ble_eq_true rfl) ?_
        refine nv_aL dX7_reads_42 rfl ?_
        refine nv_tI lf_X7_212 dX7_reads_43 ko_73 rfl ?_
        obtain rfl := Option.some.inj hf
        exact nv_ireturnI dX7_reads_46 rfl
    · replace hf := nv_in c1 hf
      refine nv_k dX7_reads_111 ?_
      obtain rfl := Option.some.inj hf
      exact nv_ireturnI dX7_reads_112 rfl
def pm_reads (h : nv_Hp) (x1 : Int32) : Option (Int32 × nv_Hp) := (Option.bind (pm_clears h x1) fun q1 => (nv_lt (nv_up q1 73 38 0) fun h2 => (pm_reads_25 x1 nv_fu (if (h2 106 x1.toNatClampNeg) ≤ 0 then false else true) h2)))
set_option maxHeartbeats 2000000 in
theorem tm_reads (G : nv_G) (h : nv_Hp) (x1 : Int32) (hx1 : nv_inb x1 2 = true) {r : Int32 × nv_Hp} (hf : (pm_reads h x1) = some r) : nv_Mt G 2 qX7_reads [.ref 73, .int x1] (nv_s h) (some (.int r.1), nv_s r.2) := by
  refine nv_of (by decide +kernel) (fun ad => Nat.le_of_ble_eq_true rfl) (Nat.le_refl _) (Nat.le_of_ble_eq_true rfl) ?_
  show nv_E G 2 qX7_reads 0 [some (.ref 73), some (.int x1), none] [] (nv_s h) (some (.int r.1), nv_s r.2)
  unfold pm_reads at hf
  refine nv_aL dX7_reads_0 rfl ?_
  refine nv_iL dX7_reads_1 rfl ?_
  obtain ⟨q1, hq1, hf⟩ := nv_bd hf
  refine nv_cVv (tm_clears G h x1 hx1 hq1) dX7_reads_2 lm_X7_231 y_qX7_clears ko_73 rfl rfl (by decide) rfl (Nat.le_of_ble_eq_true rfl) ?_
  refine nv_aL dX7_reads_5 rfl ?_
  refine nv_k dX7_reads_6 ?_
  refine nv_tP lp_X7_212 dX7_reads_7 ko_73 rfl ?_
  obtain ⟨h2, eh2, hf⟩ := nv_ltX hf
  rw [eh2]
  clear eh2
  refine nv_aL dX7_reads_10 rfl ?_
  refine nv_tR lf_X7_106 dX7_reads_11 ko_73 rfl ?_
  refine nv_iL dX7_reads_14 rfl ?_
  refine nv_aI dX7_reads_15 ka_106 hx1 rfl ?_
  refine nv_ifle dX7_reads_16 (fun c3 => ?_) (fun c3 => ?_)
  · try simp only [if_pos c3] at hf
    refine nv_k dX7_reads_23 ?_
    refine nv_iS dX7_reads_24 (by decide) rfl rfl ?_
    exact tm_reads_25 G _ hx1 _ _ _ _ hf
  · try simp only [if_neg c3] at hf
    refine nv_k dX7_reads_19 ?_
    refine nv_goto dX7_reads_20 ?_
    refine nv_iS dX7_reads_24 (by decide) rfl rfl ?_
    exact tm_reads_25 G _ hx1 _ _ _ _ hf
/-! WhoseNameModel.fault -/
theorem dX7_fault_0 : nv_diload qX7_fault 0 1 1 := Or.inr ⟨1, rfl, by decide +kernel, rfl⟩
theorem dX7_fault_1 : nv_dc qX7_fault 1 (.invokestatic 171) 3 4 := ⟨by decide +kernel, rfl⟩
theorem dX7_fault_4 : nv_dif qX7_fault 4 .eq 15 7 := ⟨11, by decide +kernel, by decide, rfl⟩
theorem dX7_fault_7 : nv_daload qX7_fault 7 0 8 := Or.inr ⟨0, rfl, by decide +kernel, rfl⟩
theorem dX7_fault_8 : nv_diload qX7_fault 8 1 9 := Or.inr ⟨1, rfl, by decide +kernel, rfl⟩
theorem dX7_fault_9 : nv_dc qX7_fault 9 (.invokevirtual 238) 3 12 := ⟨by decide +kernel, rfl⟩
theorem dX7_fault_12 : nv_dgo qX7_fault 12 17 := ⟨5, by decide +kernel, by decide⟩
theorem dX7_fault_15 : nv_dk qX7_fault 15 (-2) 17 := Or.inr (Or.inl ⟨(-2), ⟨by decide +kernel, rfl⟩, by decide⟩)
theorem dX7_fault_17 : decode qX7_fault.2.1 17 = .ok (.ireturn, 1) := by decide +kernel
def pm_fault (h : nv_Hp) (x1 : Int32) : Option (Int32 × nv_Hp) := (if (pm_isTwo x1) = true then (if nv_inb x1 2 = true then (Option.bind (pm_reads h x1) fun q3 => some (q3.1, q3.2)) else none) else some ((-2), h))
set_option maxHeartbeats 2000000 in
theorem tm_fault (G : nv_G) (h : nv_Hp) (x1 : Int32) {r : Int32 × nv_Hp} (hf : (pm_fault h x1) = some r) : nv_Mt G 3 qX7_fault [.ref 73, .int x1] (nv_s h) (some (.int r.1), nv_s r.2) := by
  refine nv_of (by decide +kernel) (fun ad => Nat.le_of_ble_eq_true rfl) (Nat.le_refl _) (Nat.le_of_ble_eq_true rfl) ?_
  show nv_E G 3 qX7_fault 0 [some (.ref 73), some (.int x1)] [] (nv_s h) (some (.int r.1), nv_s r.2)
  unfold pm_fault at hf
  refine nv_iL dX7_fault_0 rfl ?_
  refine nv_cSi (tm_isTwo G h x1) dX7_fault_1 lm_X7_171 y_qX7_isTwo rfl (by decide) rfl (Nat.le_of_ble_eq_true rfl) ?_
  refine nv_ifeqB dX7_fault_4 (fun c1 => ?_) (fun c1 => ?_)
  · replace hf := nv_ip c1 hf
    refine nv_aL dX7_fault_7 rfl ?_
    refine nv_iL dX7_fault_8 rfl ?_
    obtain ⟨g2, hf⟩ := nv_gd hf
    obtain ⟨q3, hq3, hf⟩ := nv_bd hf
    refine nv_cVi (tm_reads G h x1 g2 hq3) dX7_fault_9 lm_X7_238 y_qX7_reads ko_73 rfl rfl (by decide) rfl (Nat.le_of_ble_eq_true rfl) ?_
    refine nv_goto dX7_fault_12 ?_
    obtain rfl := Option.some.inj hf
    exact nv_ireturnI dX7_fault_17 rfl
  · replace hf := nv_in c1 hf
    refine nv_k dX7_fault_15 ?_
    obtain rfl := Option.some.inj hf
    exact nv_ireturnI dX7_fault_17 rfl
/-! WhoseNameModel.lawOf -/
theorem dX7_lawOf_0 : nv_daload qX7_lawOf 0 0 1 := Or.inr ⟨0, rfl, by decide +kernel, rfl⟩
theorem dX7_lawOf_1 : nv_diload qX7_lawOf 1 1 2 := Or.inr ⟨1, rfl, by decide +kernel, rfl⟩
theorem dX7_lawOf_2 : nv_dc qX7_lawOf 2 (.invokevirtual 238) 3 5 := ⟨by decide +kernel, rfl⟩
theorem dX7_lawOf_5 : nv_dc qX7_lawOf 5 (.pop) 1 6 := ⟨by decide +kernel, rfl⟩
theorem dX7_lawOf_6 : nv_daload qX7_lawOf 6 0 7 := Or.inr ⟨0, rfl, by decide +kernel, rfl⟩
theorem dX7_lawOf_7 : nv_dc qX7_lawOf 7 (.getfield 109) 3 10 := ⟨by decide +kernel, rfl⟩
theorem dX7_lawOf_10 : nv_dk qX7_lawOf 10 9 12 := Or.inr (Or.inl ⟨9, ⟨by decide +kernel, rfl⟩, by decide⟩)
theorem dX7_lawOf_12 : nv_diload qX7_lawOf 12 1 13 := Or.inr ⟨1, rfl, by decide +kernel, rfl⟩
theorem dX7_lawOf_13 : nv_dc qX7_lawOf 13 (.imul) 1 14 := ⟨by decide +kernel, rfl⟩
theorem dX7_lawOf_14 : nv_diload qX7_lawOf 14 2 15 := Or.inr ⟨2, rfl, by decide +kernel, rfl⟩
theorem dX7_lawOf_15 : nv_dc qX7_lawOf 15 (.iadd) 1 16 := ⟨by decide +kernel, rfl⟩
theorem dX7_lawOf_16 : nv_dc qX7_lawOf 16 (.iaload) 1 17 := ⟨by decide +kernel, rfl⟩
theorem dX7_lawOf_17 : decode qX7_lawOf.2.1 17 = .ok (.ireturn, 1) := by decide +kernel
def pm_lawOf (h : nv_Hp) (x1 : Int32) (x2 : Int32) : Option (Int32 × nv_Hp) := (Option.bind (pm_reads h x1) fun q1 => (if nv_inb ((9 * x1) + x2) 18 = true then some ((q1.2 107 ((9 * x1) + x2).toNatClampNeg), q1.2) else none))
set_option maxHeartbeats 2000000 in
theorem tm_lawOf (G : nv_G) (h : nv_Hp) (x1 : Int32) (hx1 : nv_inb x1 2 = true) (x2 : Int32) {r : Int32 × nv_Hp} (hf : (pm_lawOf h x1 x2) = some r) : nv_Mt G 3 qX7_lawOf [.ref 73, .int x1, .int x2] (nv_s h) (some (.int r.1), nv_s r.2) := by
  refine nv_of (by decide +kernel) (fun ad => Nat.le_of_ble_eq_true rfl) (Nat.le_refl _) (Nat.le_of_ble_eq_true rfl) ?_
  show nv_E G 3 qX7_lawOf 0 [some (.ref 73), some (.int x1), some (.int x2)] [] (nv_s h) (some (.int r.1), nv_s r.2)
  unfold pm_lawOf at hf
  refine nv_aL dX7_lawOf_0 rfl ?_
  refine nv_iL dX7_lawOf_1 rfl ?_
  obtain ⟨q1, hq1, hf⟩ := nv_bd hf
  refine nv_cVi (tm_reads G h x1 hx1 hq1) dX7_lawOf_2 lm_X7_238 y_qX7_reads ko_73 rfl rfl (by decide) rfl (Nat.le_of_ble_eq_true rfl) ?_
  refine nv_pop dX7_lawOf_5 rfl ?_
  refine nv_aL dX7_lawOf_6 rfl ?_
  refine nv_tR lf_X7_109 dX7_lawOf_7 ko_73 rfl ?_
  refine nv_k dX7_lawOf_10 ?_
  refine nv_iL dX7_lawOf_12 rfl ?_
  refine nv_imul dX7_lawOf_13 ?_
  refine nv_iL dX7_lawOf_14 rfl ?_
  refine nv_iadd dX7_lawOf_15 ?_
  obtain ⟨g2, hf⟩ := nv_gd hf
  refine nv_aI dX7_lawOf_16 ka_107 g2 rfl ?_
  obtain rfl := Option.some.inj hf
  exact nv_ireturnI dX7_lawOf_17 rfl
/-! WhoseNameModel.law -/
theorem dX7_law_0 : nv_diload qX7_law 0 1 1 := Or.inr ⟨1, rfl, by decide +kernel, rfl⟩
theorem dX7_law_1 : nv_dc qX7_law 1 (.invokestatic 171) 3 4 := ⟨by decide +kernel, rfl⟩
theorem dX7_law_4 : nv_dif qX7_law 4 .eq 28 7 := ⟨24, by decide +kernel, by decide, rfl⟩
theorem dX7_law_7 : nv_diload qX7_law 7 2 8 := Or.inr ⟨2, rfl, by decide +kernel, rfl⟩
theorem dX7_law_8 : nv_dc qX7_law 8 (.i2l) 1 9 := ⟨by decide +kernel, rfl⟩
theorem dX7_law_9 : nv_dc qX7_law 9 (.lconst 0) 1 10 := ⟨by decide +kernel, rfl⟩
theorem dX7_law_10 : nv_dc qX7_law 10 (.ldc2_w 241) 3 13 := ⟨by decide +kernel, rfl⟩
theorem dX7_law_13 : nv_dc qX7_law 13 (.invokestatic 127) 3 16 := ⟨by decide +kernel, rfl⟩
theorem dX7_law_16 : nv_dif qX7_law 16 .eq 28 19 := ⟨12, by decide +kernel, by decide, rfl⟩
theorem dX7_law_19 : nv_daload qX7_law 19 0 20 := Or.inr ⟨0, rfl, by decide +kernel, rfl⟩
theorem dX7_law_20 : nv_diload qX7_law 20 1 21 := Or.inr ⟨1, rfl, by decide +kernel, rfl⟩
theorem dX7_law_21 : nv_diload qX7_law 21 2 22 := Or.inr ⟨2, rfl, by decide +kernel, rfl⟩
theorem dX7_law_22 : nv_dc qX7_law 22 (.invokevirtual 243) 3 25 := ⟨by decide +kernel, rfl⟩
theorem dX7_law_25 : nv_dgo qX7_law 25 30 := ⟨5, by decide +kernel, by decide⟩
theorem dX7_law_28 : nv_dk qX7_law 28 (-2) 30 := Or.inr (Or.inl ⟨(-2), ⟨by decide +kernel, rfl⟩, by decide⟩)
theorem dX7_law_30 : decode qX7_law.2.1 30 = .ok (.ireturn, 1) := by decide +kernel
def pm_law (h : nv_Hp) (x1 : Int32) (x2 : Int32) : Option (Int32 × nv_Hp) := (if (pm_isTwo x1) = true then (if (pm_in (Int32.toInt64 x2) 0 8) = true then (if nv_inb x1 2 = true then (Option.bind (pm_lawOf h x1 x2) fun q4 => some (q4.1, q4.2)) else none) else some ((-2), h)) else some ((-2), h))
set_option maxHeartbeats 2000000 in
theorem tm_law (G : nv_G) (h : nv_Hp) (x1 : Int32) (x2 : Int32) {r : Int32 × nv_Hp} (hf : (pm_law h x1 x2) = some r) : nv_Mt G 4 qX7_law [.ref 73, .int x1, .int x2] (nv_s h) (some (.int r.1), nv_s r.2) := by
  refine nv_of (by decide +kernel) (fun ad => Nat.le_of_ble_eq_true rfl) (Nat.le_refl _) (Nat.le_of_ble_eq_true rfl) ?_
  show nv_E G 4 qX7_law 0 [some (.ref 73), some (.int x1), some (.int x2)] [] (nv_s h) (some (.int r.1), nv_s r.2)
  unfold pm_law at hf
  refine nv_iL dX7_law_0 rfl ?_
  refine nv_cSi (tm_isTwo G h x1) dX7_law_1 lm_X7_171 y_qX7_isTwo rfl (by decide) rfl (Nat.le_of_ble_eq_true rfl) ?_
  refine nv_ifeqB dX7_law_4 (fun c1 => ?_) (fun c1 => ?_)
  · replace hf := nv_ip c1 hf
    refine nv_iL dX7_law_7 rfl ?_
    refine nv_i2l dX7_law_8 ?_
    refine nv_lconst dX7_law_9 (v := 0) (by decide) ?_
    refine nv_ldc2 dX7_law_10 lc_X7_241 ?_
    refine nv_cSi (tm_in G h (Int32.toInt64 x2) 0 8) dX7_law_13 lm_X7_127 y_qX7_in rfl (by decide) rfl (Nat.le_of_ble_eq_true rfl) ?_
    refine nv_ifeqB dX7_law_16 (fun c2 => ?_) (fun c2 => ?_)
    · replace hf := nv_ip c2 hf
      refine nv_aL dX7_law_19 rfl ?_
      refine nv_iL dX7_law_20 rfl ?_
      refine nv_iL dX7_law_21 rfl ?_
      obtain ⟨g3, hf⟩ := nv_gd hf
      obtain ⟨q4, hq4, hf⟩ := nv_bd hf
      refine nv_cVi (tm_lawOf G h x1 g3 x2 hq4) dX7_law_22 lm_X7_243 y_qX7_lawOf ko_73 rfl rfl (by decide) rfl (Nat.le_of_ble_eq_true rfl) ?_
      refine nv_goto dX7_law_25 ?_
      obtain rfl := Option.some.inj hf
      exact nv_ireturnI dX7_law_30 rfl
    · replace hf := nv_in c2 hf
      refine nv_k dX7_law_28 ?_
      obtain rfl := Option.some.inj hf
      exact nv_ireturnI dX7_law_30 rfl
  · replace hf := nv_in c1 hf
    refine nv_k dX7_law_28 ?_
    obtain rfl := Option.some.inj hf
    exact nv_ireturnI dX7_law_30 rfl
/-! WhoseNameModel.goes -/
theorem dX7_goes_0 : nv_daload qX7_goes 0 0 1 := Or.inr ⟨0, rfl, by decide +kernel, rfl⟩
theorem dX7_goes_1 : nv_diload qX7_goes 1 1 2 := Or.inr ⟨1, rfl, by decide +kernel, rfl⟩
theorem dX7_goes_2 : nv_dc qX7_goes 2 (.invokevirtual 238) 3 5 := ⟨by decide +kernel, rfl⟩
theorem dX7_goes_5 : nv_dc qX7_goes 5 (.pop) 1 6 := ⟨by decide +kernel, rfl⟩
theorem dX7_goes_6 : nv_dk qX7_goes 6 0 7 := Or.inl ⟨0, ⟨by decide +kernel, rfl⟩, by decide⟩
theorem dX7_goes_7 : nv_distore qX7_goes 7 2 8 := Or.inr ⟨2, rfl, by decide +kernel, rfl⟩
theorem dX7_goes_8 : nv_diload qX7_goes 8 2 9 := Or.inr ⟨2, rfl, by decide +kernel, rfl⟩
theorem dX7_goes_9 : nv_dk qX7_goes 9 9 11 := Or.inr (Or.inl ⟨9, ⟨by decide +kernel, rfl⟩, by decide⟩)
theorem dX7_goes_11 : nv_dic qX7_goes 11 .ge 37 14 := ⟨26, by decide +kernel, by decide, rfl⟩
theorem dX7_goes_14 : nv_daload qX7_goes 14 0 15 := Or.inr ⟨0, rfl, by decide +kernel, rfl⟩
theorem dX7_goes_15 : nv_dc qX7_goes 15 (.getfield 112) 3 18 := ⟨by decide +kernel, rfl⟩
theorem dX7_goes_18 : nv_diload qX7_goes 18 2 19 := Or.inr ⟨2, rfl, by decide +kernel, rfl⟩
theorem dX7_goes_19 : nv_daload qX7_goes 19 0 20 := Or.inr ⟨0, rfl, by decide +kernel, rfl⟩
theorem dX7_goes_20 : nv_dc qX7_goes 20 (.getfield 109) 3 23 := ⟨by decide +kernel, rfl⟩
theorem dX7_goes_23 : nv_dk qX7_goes 23 9 25 := Or.inr (Or.inl ⟨9, ⟨by decide +kernel, rfl⟩, by decide⟩)
theorem dX7_goes_25 : nv_diload qX7_goes 25 1 26 := Or.inr ⟨1, rfl, by decide +kernel, rfl⟩
theorem dX7_goes_26 : nv_dc qX7_goes 26 (.imul) 1 27 := ⟨by decide +kernel, rfl⟩
theorem dX7_goes_27 : nv_diload qX7_goes 27 2 28 := Or.inr ⟨2, rfl, by decide +kernel, rfl⟩
theorem dX7_goes_28 : nv_dc qX7_goes 28 (.iadd) 1 29 := ⟨by decide +kernel, rfl⟩
theorem dX7_goes_29 : nv_dc qX7_goes 29 (.iaload) 1 30 := ⟨by decide +kernel, rfl⟩
theorem dX7_goes_30 : nv_dc qX7_goes 30 (.iastore) 1 31 := ⟨by decide +kernel, rfl⟩
theorem dX7_goes_31 : nv_dc qX7_goes 31 (.iinc 2 1) 3 34 := ⟨by decide +kernel, rfl⟩
theorem dX7_goes_34 : nv_dgo qX7_goes 34 8 := ⟨(-26), by decide +kernel, by decide⟩
theorem dX7_goes_37 : nv_dk qX7_goes 37 0 38 := Or.inl ⟨0, ⟨by decide +kernel, rfl⟩, by decide⟩
theorem dX7_goes_38 : nv_distore qX7_goes 38 2 39 := Or.inr ⟨2, rfl, by decide +kernel, rfl⟩
theorem dX7_goes_39 : nv_diload qX7_goes 39 2 40 := Or.inr ⟨2, rfl, by decide +kernel, rfl⟩
theorem dX7_goes_40 : nv_daload qX7_goes 40 0 41 := Or.inr ⟨0, rfl, by decide +kernel, rfl⟩
theorem dX7_goes_41 : nv_dc qX7_goes 41 (.getfield 189) 3 44 := ⟨by decide +kernel, rfl⟩
theorem dX7_goes_44 : nv_dic qX7_goes 44 .ge 80 47 := ⟨36, by decide +kernel, by decide, rfl⟩
theorem dX7_goes_47 : nv_daload qX7_goes 47 0 48 := Or.inr ⟨0, rfl, by decide +kernel, rfl⟩
theorem dX7_goes_48 : nv_dc qX7_goes 48 (.getfield 67) 3 51 := ⟨by decide +kernel, rfl⟩
theorem dX7_goes_51 : nv_diload qX7_goes 51 2 52 := Or.inr ⟨2, rfl, by decide +kernel, rfl⟩
theorem dX7_goes_52 : nv_daload qX7_goes 52 0 53 := Or.inr ⟨0, rfl, by decide +kernel, rfl⟩
theorem dX7_goes_53 : nv_dc qX7_goes 53 (.getfield 64) 3 56 := ⟨by decide +kernel, rfl⟩
theorem dX7_goes_56 : nv_diload qX7_goes 56 2 57 := Or.inr ⟨2, rfl, by decide +kernel, rfl⟩
theorem dX7_goes_57 : nv_dc qX7_goes 57 (.iaload) 1 58 := ⟨by decide +kernel, rfl⟩
theorem dX7_goes_58 : nv_dk qX7_goes 58 (-1) 59 := Or.inl ⟨(-1), ⟨by decide +kernel, rfl⟩, by decide⟩
theorem dX7_goes_59 : nv_dic qX7_goes 59 .ne 67 62 := ⟨8, by decide +kernel, by decide, rfl⟩
theorem dX7_goes_62 : nv_dk qX7_goes 62 100 64 := Or.inr (Or.inl ⟨100, ⟨by decide +kernel, rfl⟩, by decide⟩)
theorem dX7_goes_64 : nv_dgo qX7_goes 64 73 := ⟨9, by decide +kernel, by decide⟩
theorem dX7_goes_67 : nv_daload qX7_goes 67 0 68 := Or.inr ⟨0, rfl, by decide +kernel, rfl⟩
theorem dX7_goes_68 : nv_dc qX7_goes 68 (.getfield 64) 3 71 := ⟨by decide +kernel, rfl⟩
theorem dX7_goes_71 : nv_diload qX7_goes 71 2 72 := Or.inr ⟨2, rfl, by decide +kernel, rfl⟩
theorem dX7_goes_72 : nv_dc qX7_goes 72 (.iaload) 1 73 := ⟨by decide +kernel, rfl⟩
theorem dX7_goes_73 : nv_dc qX7_goes 73 (.iastore) 1 74 := ⟨by decide +kernel, rfl⟩
theorem dX7_goes_74 : nv_dc qX7_goes 74 (.iinc 2 1) 3 77 := ⟨by decide +kernel, rfl⟩
theorem dX7_goes_77 : nv_dgo qX7_goes 77 39 := ⟨(-38), by decide +kernel, by decide⟩
theorem dX7_goes_80 : decode qX7_goes.2.1 80 = .ok (.return_, 1) := by decide +kernel
def pm_goes_73 (h : nv_Hp) (x2 : Int32) (s1 : Int32) (s2 : Int32) (rec39 : Int32 → nv_Hp → Option (nv_Hp)) : Option (nv_Hp) := (if nv_inb s1 12 = true then (nv_lt (nv_up h 93 s1.toNatClampNeg s2) fun h2 => (rec39 (x2 + 1) h2)) else none)
set_option maxHeartbeats 2000000 in
theorem tm_goes_73 (G : nv_G) (h : nv_Hp) (x2 : Int32) (s1 : Int32) (s2 : Int32) (rec39 : Int32 → nv_Hp → Option (nv_Hp)) (hrec39 : ∀ (x2 : Int32) (h : nv_Hp) (o1 : Option Value) (r : nv_Hp), rec39 x2 h = some r → nv_E G 3 qX7_goes 39 [some (.ref 73), o1, some (.int x2)] [] (nv_s h) (none, nv_s r)) (o1 : Option Value) (r : nv_Hp) (hf : pm_goes_73 h x2 s1 s2 rec39 = some r) : nv_E G 3 qX7_goes 73 [some (.ref 73), o1, some (.int x2)] [.int s2, .int s1, .ref 93] (nv_s h) (none, nv_s r) := by
  unfold pm_goes_73 at hf
  obtain ⟨g1, hf⟩ := nv_gd hf
  refine nv_aP dX7_goes_73 ka_93 g1 rfl ?_
  obtain ⟨h2, eh2, hf⟩ := nv_ltX hf
  rw [eh2]
  clear eh2
  refine nv_wk 1 rfl ?_
  refine nv_inc dX7_goes_74 rfl (v := 1) (by decide) (by decide) rfl rfl ?_
  refine nv_goto dX7_goes_77 ?_
  exact hrec39 _ _ _ _ hf
def pm_goes_39    : Nat → Int32 → nv_Hp → Option (nv_Hp)
  | 0, _, _ => none
  | n + 1, x2, h => (if (h 73 17) ≤ x2 then some h else (if nv_inb x2 12 = true then (pm_goes_73 h x2 x2 (if (h 92 x2.toNatClampNeg) = (-1) then 100 else (h 92 x2.toNatClampNeg)) (pm_goes_39 n)) else none))
set_option maxHeartbeats 2000000 in
theorem tm_goes_39 (G : nv_G)    : ∀ (n : Nat) (x2 : Int32) (h : nv_Hp) (o1 : Option Value) (r : nv_Hp), pm_goes_39 n x2 h = some r → nv_E G 3 qX7_goes 39 [some (.ref 73), o1, some (.int x2)] [] (nv_s h) (none, nv_s r) := by
  intro n
  induction n with
  | zero =>
    intro x2 h o1 r hf
    rw [pm_goes_39] at hf
    cases hf
  | succ n ih =>
    intro x2 h o1 r hf
    rw [pm_goes_39] at hf
    refine nv_iL dX7_goes_39 rfl ?_
    refine nv_aL dX7_goes_40 rfl ?_
    refine nv_tI lf_X7_189 dX7_goes_41 ko_73 rfl ?_
    refine nv_icge dX7_goes_44 (fun c1 => ?_) (fun c1 => ?_)
    · replace hf := nv_ip c1 hf
      obtain rfl := Option.some.inj hf
      exact nv_return dX7_goes_80 rfl
    · replace hf := nv_in c1 hf
      refine nv_aL dX7_goes_47 rfl ?_
      refine nv_tR lf_X7_67 dX7_goes_48 ko_73 rfl ?_
      refine nv_iL dX7_goes_51 rfl ?_
      refine nv_aL dX7_goes_52 rfl ?_
      refine nv_tR lf_X7_64 dX7_goes_53 ko_73 rfl ?_
      refine nv_iL dX7_goes_56 rfl ?_
      obtain ⟨g2, hf⟩ := nv_gd hf
      refine nv_aI dX7_goes_57 ka_92 g2 rfl ?_
      refine nv_k dX7_goes_58 ?_
      refine nv_icne dX7_goes_59 (fun c3 => ?_) (fun c3 => ?_)
      · try simp only [if_pos c3] at hf
        refine nv_k dX7_goes_62 ?_
        refine nv_goto dX7_goes_64 ?_
        exact tm_goes_73 G _ _ _ _ _ ih _ _ hf
      · try simp only [if_neg c3] at hf
        refine nv_aL dX7_goes_67 rfl ?_
        refine nv_tR lf_X7_64 dX7_goes_68 ko_73 rfl ?_
        refine nv_iL dX7_goes_71 rfl ?_
        refine nv_aI dX7_goes_72 ka_92 g2 rfl ?_
        exact tm_goes_73 G _ _ _ _ _ ih _ _ hf
def pm_goes_8  (x1 : Int32)  : Nat → Int32 → nv_Hp → Option (nv_Hp)
  | 0, _, _ => none
  | n + 1, x2, h => (if 9 ≤ x2 then (pm_goes_39 nv_fu 0 h) else (if nv_inb ((9 * x1) + x2) 18 = true then (if nv_inb x2 9 = true then (nv_lt (nv_up h 108 x2.toNatClampNeg (h 107 ((9 * x1) + x2).toNatClampNeg)) fun h4 => ((pm_goes_8 x1 n) (x2 + 1) h4)) else none) else none))
set_option maxHeartbeats 2000000 in
theorem tm_goes_8 (G : nv_G)  (x1 : Int32) (hx1 : nv_inb x1 2 = true)  : ∀ (n : Nat) (x2 : Int32) (h : nv_Hp) (r : nv_Hp), pm_goes_8 x1 n x2 h = some r → nv_E G 3 qX7_goes 8 [some (.ref 73), some (.int x1), some (.int x2)] [] (nv_s h) (none, nv_s r) := by
  intro n
  induction n with
  | zero =>
    intro x2 h r hf
    rw [pm_goes_8] at hf
    cases hf
  | succ n ih =>
    intro x2 h r hf
    rw [pm_goes_8] at hf
    refine nv_iL dX7_goes_8 rfl ?_
    refine nv_k dX7_goes_9 ?_
    refine nv_icge dX7_goes_11 (fun c1 => ?_) (fun c1 => ?_)
    · replace hf := nv_ip c1 hf
      refine nv_k dX7_goes_37 ?_
      refine nv_iS dX7_goes_38 (by decide) rfl rfl ?_
      exact tm_goes_39 G _ _ _ _ _ hf
    · replace hf := nv_in c1 hf
      refine nv_aL dX7_goes_14 rfl ?_
      refine nv_tR lf_X7_112 dX7_goes_15 ko_73 rfl ?_
      refine nv_iL dX7_goes_18 rfl ?_
      refine nv_aL dX7_goes_19 rfl ?_
      refine nv_tR lf_X7_109 dX7_goes_20 ko_73 rfl ?_
      refine nv_k dX7_goes_23 ?_
      refine nv_iL dX7_goes_25 rfl ?_
      refine nv_imul dX7_goes_26 ?_
      refine nv_iL dX7_goes_27 rfl ?_
      refine nv_iadd dX7_goes_28 ?_
      obtain ⟨g2, hf⟩ := nv_gd hf
      refine nv_aI dX7_goes_29 ka_107 g2 rfl ?_
      obtain ⟨g3, hf⟩ := nv_gd hf
      refine nv_aP dX7_goes_30 ka_108 g3 rfl ?_
      obtain ⟨h4, eh4, hf⟩ := nv_ltX hf
      rw [eh4]
      clear eh4
      refine nv_inc dX7_goes_31 rfl (v := 1) (by decide) (by decide) rfl rfl ?_
      refine nv_goto dX7_goes_34 ?_
      exact ih _ _ _ hf
def pm_goes (h : nv_Hp) (x1 : Int32) : Option (nv_Hp) := (Option.bind (pm_reads h x1) fun q1 => (pm_goes_8 x1 nv_fu 0 q1.2))
set_option maxHeartbeats 2000000 in
theorem tm_goes (G : nv_G) (h : nv_Hp) (x1 : Int32) (hx1 : nv_inb x1 2 = true) {r : nv_Hp} (hf : (pm_goes h x1) = some r) : nv_Mt G 3 qX7_goes [.ref 73, .int x1] (nv_s h) (none, nv_s r) := by
  refine nv_of (by decide +kernel) (fun ad => Nat.le_of_ble_eq_true rfl) (Nat.le_refl _) (Nat.le_of_ble_eq_true rfl) ?_
  show nv_E G 3 qX7_goes 0 [some (.ref 73), some (.int x1), none] [] (nv_s h) (none, nv_s r)
  unfold pm_goes at hf
  refine nv_aL dX7_goes_0 rfl ?_
  refine nv_iL dX7_goes_1 rfl ?_
  obtain ⟨q1, hq1, hf⟩ := nv_bd hf
  refine nv_cVi (tm_reads G h x1 hx1 hq1) dX7_goes_2 lm_X7_238 y_qX7_reads ko_73 rfl rfl (by decide) rfl (Nat.le_of_ble_eq_true rfl) ?_
  refine nv_pop dX7_goes_5 rfl ?_
  refine nv_k dX7_goes_6 ?_
  refine nv_iS dX7_goes_7 (by decide) rfl rfl ?_
  exact tm_goes_8 G _ hx1 _ _ _ _ hf
/-! WhoseNameModel.isEnded -/
theorem dX7_isEnded_0 : nv_dk qX7_isEnded 0 0 1 := Or.inl ⟨0, ⟨by decide +kernel, rfl⟩, by decide⟩
theorem dX7_isEnded_1 : nv_distore qX7_isEnded 1 3 2 := Or.inr ⟨3, rfl, by decide +kernel, rfl⟩
theorem dX7_isEnded_2 : nv_dk qX7_isEnded 2 0 3 := Or.inl ⟨0, ⟨by decide +kernel, rfl⟩, by decide⟩
theorem dX7_isEnded_3 : nv_distore qX7_isEnded 3 4 5 := Or.inl ⟨by decide +kernel, rfl⟩
theorem dX7_isEnded_5 : nv_diload qX7_isEnded 5 4 7 := Or.inl ⟨by decide +kernel, rfl⟩
theorem dX7_isEnded_7 : nv_daload qX7_isEnded 7 0 8 := Or.inr ⟨0, rfl, by decide +kernel, rfl⟩
theorem dX7_isEnded_8 : nv_dc qX7_isEnded 8 (.getfield 189) 3 11 := ⟨by decide +kernel, rfl⟩
theorem dX7_isEnded_11 : nv_dic qX7_isEnded 11 .ge 187 14 := ⟨176, by decide +kernel, by decide, rfl⟩
theorem dX7_isEnded_14 : nv_daload qX7_isEnded 14 0 15 := Or.inr ⟨0, rfl, by decide +kernel, rfl⟩
theorem dX7_isEnded_15 : nv_dc qX7_isEnded 15 (.getfield 67) 3 18 := ⟨by decide +kernel, rfl⟩
theorem dX7_isEnded_18 : nv_diload qX7_isEnded 18 4 20 := Or.inl ⟨by decide +kernel, rfl⟩
theorem dX7_isEnded_20 : nv_dc qX7_isEnded 20 (.iaload) 1 21 := ⟨by decide +kernel, rfl⟩
theorem dX7_isEnded_21 : nv_daload qX7_isEnded 21 0 22 := Or.inr ⟨0, rfl, by decide +kernel, rfl⟩
theorem dX7_isEnded_22 : nv_dc qX7_isEnded 22 (.getfield 85) 3 25 := ⟨by decide +kernel, rfl⟩
theorem dX7_isEnded_25 : nv_diload qX7_isEnded 25 2 26 := Or.inr ⟨2, rfl, by decide +kernel, rfl⟩
theorem dX7_isEnded_26 : nv_dc qX7_isEnded 26 (.iaload) 1 27 := ⟨by decide +kernel, rfl⟩
theorem dX7_isEnded_27 : nv_dic qX7_isEnded 27 .gt 34 30 := ⟨7, by decide +kernel, by decide, rfl⟩
theorem dX7_isEnded_30 : nv_dk qX7_isEnded 30 1 31 := Or.inl ⟨1, ⟨by decide +kernel, rfl⟩, by decide⟩
theorem dX7_isEnded_31 : nv_dgo qX7_isEnded 31 35 := ⟨4, by decide +kernel, by decide⟩
theorem dX7_isEnded_34 : nv_dk qX7_isEnded 34 0 35 := Or.inl ⟨0, ⟨by decide +kernel, rfl⟩, by decide⟩
theorem dX7_isEnded_35 : nv_distore qX7_isEnded 35 5 37 := Or.inl ⟨by decide +kernel, rfl⟩
theorem dX7_isEnded_37 : nv_daload qX7_isEnded 37 0 38 := Or.inr ⟨0, rfl, by decide +kernel, rfl⟩
theorem dX7_isEnded_38 : nv_dc qX7_isEnded 38 (.getfield 61) 3 41 := ⟨by decide +kernel, rfl⟩
theorem dX7_isEnded_41 : nv_diload qX7_isEnded 41 4 43 := Or.inl ⟨by decide +kernel, rfl⟩
theorem dX7_isEnded_43 : nv_dc qX7_isEnded 43 (.iaload) 1 44 := ⟨by decide +kernel, rfl⟩
theorem dX7_isEnded_44 : nv_distore qX7_isEnded 44 6 46 := Or.inl ⟨by decide +kernel, rfl⟩
theorem dX7_isEnded_46 : nv_daload qX7_isEnded 46 0 47 := Or.inr ⟨0, rfl, by decide +kernel, rfl⟩
theorem dX7_isEnded_47 : nv_dc qX7_isEnded 47 (.getfield 25) 3 50 := ⟨by decide +kernel, rfl⟩
theorem dX7_isEnded_50 : nv_diload qX7_isEnded 50 1 51 := Or.inr ⟨1, rfl, by decide +kernel, rfl⟩
theorem dX7_isEnded_51 : nv_dc qX7_isEnded 51 (.iaload) 1 52 := ⟨by decide +kernel, rfl⟩
theorem dX7_isEnded_52 : nv_dk qX7_isEnded 52 2 53 := Or.inl ⟨2, ⟨by decide +kernel, rfl⟩, by decide⟩
theorem dX7_isEnded_53 : nv_dic qX7_isEnded 53 .ne 80 56 := ⟨27, by decide +kernel, by decide, rfl⟩
theorem dX7_isEnded_56 : nv_diload qX7_isEnded 56 5 58 := Or.inl ⟨by decide +kernel, rfl⟩
theorem dX7_isEnded_58 : nv_dif qX7_isEnded 58 .eq 76 61 := ⟨18, by decide +kernel, by decide, rfl⟩
theorem dX7_isEnded_61 : nv_diload qX7_isEnded 61 6 63 := Or.inl ⟨by decide +kernel, rfl⟩
theorem dX7_isEnded_63 : nv_daload qX7_isEnded 63 0 64 := Or.inr ⟨0, rfl, by decide +kernel, rfl⟩
theorem dX7_isEnded_64 : nv_dc qX7_isEnded 64 (.getfield 34) 3 67 := ⟨by decide +kernel, rfl⟩
theorem dX7_isEnded_67 : nv_diload qX7_isEnded 67 1 68 := Or.inr ⟨1, rfl, by decide +kernel, rfl⟩
theorem dX7_isEnded_68 : nv_dc qX7_isEnded 68 (.iaload) 1 69 := ⟨by decide +kernel, rfl⟩
theorem dX7_isEnded_69 : nv_dic qX7_isEnded 69 .ne 76 72 := ⟨7, by decide +kernel, by decide, rfl⟩
theorem dX7_isEnded_72 : nv_dk qX7_isEnded 72 1 73 := Or.inl ⟨1, ⟨by decide +kernel, rfl⟩, by decide⟩
theorem dX7_isEnded_73 : nv_dgo qX7_isEnded 73 153 := ⟨80, by decide +kernel, by decide⟩
theorem dX7_isEnded_76 : nv_dk qX7_isEnded 76 0 77 := Or.inl ⟨0, ⟨by decide +kernel, rfl⟩, by decide⟩
theorem dX7_isEnded_77 : nv_dgo qX7_isEnded 77 153 := ⟨76, by decide +kernel, by decide⟩
theorem dX7_isEnded_80 : nv_daload qX7_isEnded 80 0 81 := Or.inr ⟨0, rfl, by decide +kernel, rfl⟩
theorem dX7_isEnded_81 : nv_dc qX7_isEnded 81 (.getfield 112) 3 84 := ⟨by decide +kernel, rfl⟩
theorem dX7_isEnded_84 : nv_dk qX7_isEnded 84 0 85 := Or.inl ⟨0, ⟨by decide +kernel, rfl⟩, by decide⟩
theorem dX7_isEnded_85 : nv_dc qX7_isEnded 85 (.iaload) 1 86 := ⟨by decide +kernel, rfl⟩
theorem dX7_isEnded_86 : nv_dif qX7_isEnded 86 .ne 113 89 := ⟨27, by decide +kernel, by decide, rfl⟩
theorem dX7_isEnded_89 : nv_daload qX7_isEnded 89 0 90 := Or.inr ⟨0, rfl, by decide +kernel, rfl⟩
theorem dX7_isEnded_90 : nv_dc qX7_isEnded 90 (.getfield 58) 3 93 := ⟨by decide +kernel, rfl⟩
theorem dX7_isEnded_93 : nv_diload qX7_isEnded 93 4 95 := Or.inl ⟨by decide +kernel, rfl⟩
theorem dX7_isEnded_95 : nv_dc qX7_isEnded 95 (.iaload) 1 96 := ⟨by decide +kernel, rfl⟩
theorem dX7_isEnded_96 : nv_daload qX7_isEnded 96 0 97 := Or.inr ⟨0, rfl, by decide +kernel, rfl⟩
theorem dX7_isEnded_97 : nv_dc qX7_isEnded 97 (.getfield 85) 3 100 := ⟨by decide +kernel, rfl⟩
theorem dX7_isEnded_100 : nv_diload qX7_isEnded 100 2 101 := Or.inr ⟨2, rfl, by decide +kernel, rfl⟩
theorem dX7_isEnded_101 : nv_dc qX7_isEnded 101 (.iaload) 1 102 := ⟨by decide +kernel, rfl⟩
theorem dX7_isEnded_102 : nv_dic qX7_isEnded 102 .gt 109 105 := ⟨7, by decide +kernel, by decide, rfl⟩
theorem dX7_isEnded_105 : nv_dk qX7_isEnded 105 1 106 := Or.inl ⟨1, ⟨by decide +kernel, rfl⟩, by decide⟩
theorem dX7_isEnded_106 : nv_dgo qX7_isEnded 106 153 := ⟨47, by decide +kernel, by decide⟩
theorem dX7_isEnded_109 : nv_dk qX7_isEnded 109 0 110 := Or.inl ⟨0, ⟨by decide +kernel, rfl⟩, by decide⟩
theorem dX7_isEnded_110 : nv_dgo qX7_isEnded 110 153 := ⟨43, by decide +kernel, by decide⟩
theorem dX7_isEnded_113 : nv_diload qX7_isEnded 113 5 115 := Or.inl ⟨by decide +kernel, rfl⟩
theorem dX7_isEnded_115 : nv_dif qX7_isEnded 115 .eq 152 118 := ⟨37, by decide +kernel, by decide, rfl⟩
theorem dX7_isEnded_118 : nv_diload qX7_isEnded 118 6 120 := Or.inl ⟨by decide +kernel, rfl⟩
theorem dX7_isEnded_120 : nv_daload qX7_isEnded 120 0 121 := Or.inr ⟨0, rfl, by decide +kernel, rfl⟩
theorem dX7_isEnded_121 : nv_dc qX7_isEnded 121 (.getfield 112) 3 124 := ⟨by decide +kernel, rfl⟩
theorem dX7_isEnded_124 : nv_dk qX7_isEnded 124 0 125 := Or.inl ⟨0, ⟨by decide +kernel, rfl⟩, by decide⟩
theorem dX7_isEnded_125 : nv_dc qX7_isEnded 125 (.iaload) 1 126 := ⟨by decide +kernel, rfl⟩
theorem dX7_isEnded_126 : nv_dk qX7_isEnded 126 1 127 := Or.inl ⟨1, ⟨by decide +kernel, rfl⟩, by decide⟩
theorem dX7_isEnded_127 : nv_dic qX7_isEnded 127 .ne 139 130 := ⟨12, by decide +kernel, by decide, rfl⟩
theorem dX7_isEnded_130 : nv_daload qX7_isEnded 130 0 131 := Or.inr ⟨0, rfl, by decide +kernel, rfl⟩
theorem dX7_isEnded_131 : nv_dc qX7_isEnded 131 (.getfield 31) 3 134 := ⟨by decide +kernel, rfl⟩
theorem dX7_isEnded_134 : nv_diload qX7_isEnded 134 1 135 := Or.inr ⟨1, rfl, by decide +kernel, rfl⟩
theorem dX7_isEnded_135 : nv_dc qX7_isEnded 135 (.iaload) 1 136 := ⟨by decide +kernel, rfl⟩
theorem dX7_isEnded_136 : nv_dgo qX7_isEnded 136 145 := ⟨9, by decide +kernel, by decide⟩
theorem dX7_isEnded_139 : nv_daload qX7_isEnded 139 0 140 := Or.inr ⟨0, rfl, by decide +kernel, rfl⟩
theorem dX7_isEnded_140 : nv_dc qX7_isEnded 140 (.getfield 76) 3 143 := ⟨by decide +kernel, rfl⟩
theorem dX7_isEnded_143 : nv_diload qX7_isEnded 143 2 144 := Or.inr ⟨2, rfl, by decide +kernel, rfl⟩
theorem dX7_isEnded_144 : nv_dc qX7_isEnded 144 (.iaload) 1 145 := ⟨by decide +kernel, rfl⟩
theorem dX7_isEnded_145 : nv_dic qX7_isEnded 145 .ne 152 148 := ⟨7, by decide +kernel, by decide, rfl⟩
theorem dX7_isEnded_148 : nv_dk qX7_isEnded 148 1 149 := Or.inl ⟨1, ⟨by decide +kernel, rfl⟩, by decide⟩
theorem dX7_isEnded_149 : nv_dgo qX7_isEnded 149 153 := ⟨4, by decide +kernel, by decide⟩
theorem dX7_isEnded_152 : nv_dk qX7_isEnded 152 0 153 := Or.inl ⟨0, ⟨by decide +kernel, rfl⟩, by decide⟩
theorem dX7_isEnded_153 : nv_distore qX7_isEnded 153 7 155 := Or.inl ⟨by decide +kernel, rfl⟩
theorem dX7_isEnded_155 : nv_diload qX7_isEnded 155 3 156 := Or.inr ⟨3, rfl, by decide +kernel, rfl⟩
theorem dX7_isEnded_156 : nv_dif qX7_isEnded 156 .ne 175 159 := ⟨19, by decide +kernel, by decide, rfl⟩
theorem dX7_isEnded_159 : nv_daload qX7_isEnded 159 0 160 := Or.inr ⟨0, rfl, by decide +kernel, rfl⟩
theorem dX7_isEnded_160 : nv_dc qX7_isEnded 160 (.getfield 55) 3 163 := ⟨by decide +kernel, rfl⟩
theorem dX7_isEnded_163 : nv_diload qX7_isEnded 163 4 165 := Or.inl ⟨by decide +kernel, rfl⟩
theorem dX7_isEnded_165 : nv_dc qX7_isEnded 165 (.iaload) 1 166 := ⟨by decide +kernel, rfl⟩
theorem dX7_isEnded_166 : nv_diload qX7_isEnded 166 1 167 := Or.inr ⟨1, rfl, by decide +kernel, rfl⟩
theorem dX7_isEnded_167 : nv_dic qX7_isEnded 167 .ne 179 170 := ⟨12, by decide +kernel, by decide, rfl⟩
theorem dX7_isEnded_170 : nv_diload qX7_isEnded 170 7 172 := Or.inl ⟨by decide +kernel, rfl⟩
theorem dX7_isEnded_172 : nv_dif qX7_isEnded 172 .eq 179 175 := ⟨7, by decide +kernel, by decide, rfl⟩
theorem dX7_isEnded_175 : nv_dk qX7_isEnded 175 1 176 := Or.inl ⟨1, ⟨by decide +kernel, rfl⟩, by decide⟩
theorem dX7_isEnded_176 : nv_dgo qX7_isEnded 176 180 := ⟨4, by decide +kernel, by decide⟩
theorem dX7_isEnded_179 : nv_dk qX7_isEnded 179 0 180 := Or.inl ⟨0, ⟨by decide +kernel, rfl⟩, by decide⟩
theorem dX7_isEnded_180 : nv_distore qX7_isEnded 180 3 181 := Or.inr ⟨3, rfl, by decide +kernel, rfl⟩
theorem dX7_isEnded_181 : nv_dc qX7_isEnded 181 (.iinc 4 1) 3 184 := ⟨by decide +kernel, rfl⟩
theorem dX7_isEnded_184 : nv_dgo qX7_isEnded 184 5 := ⟨(-179), by decide +kernel, by decide⟩
theorem dX7_isEnded_187 : nv_diload qX7_isEnded 187 3 188 := Or.inr ⟨3, rfl, by decide +kernel, rfl⟩
theorem dX7_isEnded_188 : decode qX7_isEnded.2.1 188 = .ok (.ireturn, 1) := by decide +kernel
def pm_isEnded_153 (h : nv_Hp) (x1 : Int32) (x2 : Int32) (x3 : Bool) (x4 : Int32) (s0 : Bool) (rec5 : Bool → Int32 → Option (Bool)) : Option (Bool) := (Option.bind ((if x3 = true then some (true) else (if nv_inb x4 12 = true then (if (h 89 x4.toNatClampNeg) = x1 then (if s0 = true then some (true) else some (false)) else some (false)) else none)) : Option (Bool)) fun u2 => rec5 u2 (x4 + 1))
set_option maxHeartbeats 2000000 in
theorem tm_isEnded_153 (G : nv_G) (h : nv_Hp) (x1 : Int32) (hx1 : nv_inb x1 13 = true) (x2 : Int32) (hx2 : nv_inb x2 10 = true) (x3 : Bool) (x4 : Int32) (s0 : Bool) (rec5 : Bool → Int32 → Option (Bool)) (hrec5 : ∀ (x3 : Bool) (x4 : Int32) (o5 o6 o7 : Option Value) (r : Bool), rec5 x3 x4 = some r → nv_E G 0 qX7_isEnded 5 [some (.ref 73), some (.int x1), some (.int x2), some (.int (nv_bi x3)), some (.int x4), o5, o6, o7] [] (nv_s h) (some (.int (nv_bi r)), nv_s h)) (o5 o6 o7 : Option Value) (r : Bool) (hf : pm_isEnded_153 h x1 x2 x3 x4 s0 rec5 = some r) : nv_E G 0 qX7_isEnded 153 [some (.ref 73), some (.int x1), some (.int x2), some (.int (nv_bi x3)), some (.int x4), o5, o6, o7] [.int (nv_bi s0)] (nv_s h) (some (.int (nv_bi r)), nv_s h) := by
  unfold pm_isEnded_153 at hf
  refine nv_wk 6 rfl ?_
  refine nv_iS dX7_isEnded_153 (by decide) rfl rfl ?_
  refine nv_iL dX7_isEnded_155 rfl ?_
  refine nv_ifneB dX7_isEnded_156 (fun c3 => ?_) (fun c3 => ?_)
  · try simp only [if_pos c3, Option.bind_some] at hf
    refine nv_k dX7_isEnded_175 ?_
    refine nv_goto dX7_isEnded_176 ?_
    refine nv_iS dX7_isEnded_180 (by decide) rfl rfl ?_
    refine nv_inc dX7_isEnded_181 rfl (v := 1) (by decide) (by decide) rfl rfl ?_
    refine nv_goto dX7_isEnded_184 ?_
    exact hrec5 _ _ _ _ _ _ hf
  · try simp only [if_neg c3, Option.bind_some] at hf
    refine nv_aL dX7_isEnded_159 rfl ?_
    refine nv_tR lf_X7_55 dX7_isEnded_160 ko_73 rfl ?_
    refine nv_iL dX7_isEnded_163 rfl ?_
    have g4 : nv_inb x4 12 = true := by
      by_cases g4 : nv_inb x4 12 = true
      · exact g4
      · exfalso; simp [if_neg g4] at hf
    simp only [if_pos g4, Option.bind_some] at hf
    refine nv_aI dX7_isEnded_165 ka_89 g4 rfl ?_
    refine nv_iL dX7_isEnded_166 rfl ?_
    refine nv_icne dX7_isEnded_167 (fun c5 => ?_) (fun c5 => ?_)
    · try simp only [if_pos c5, Option.bind_some] at hf
      refine nv_iL dX7_isEnded_170 rfl ?_
      refine nv_ifeqB dX7_isEnded_172 (fun c6 => ?_) (fun c6 => ?_)
      · try simp only [if_pos c6, Option.bind_some] at hf
        refine nv_k dX7_isEnded_175 ?_
        refine nv_goto dX7_isEnded_176 ?_
        refine nv_iS dX7_isEnded_180 (by decide) rfl rfl ?_
        refine nv_inc dX7_isEnded_181 rfl (v := 1) (by decide) (by decide) rfl rfl ?_
        refine nv_goto dX7_isEnded_184 ?_
        exact hrec5 _ _ _ _ _ _ hf
      · try simp only [if_neg c6, Option.bind_some] at hf
        refine nv_k dX7_isEnded_179 ?_
        refine nv_iS dX7_isEnded_180 (by decide) rfl rfl ?_
        refine nv_inc dX7_isEnded_181 rfl (v := 1) (by decide) (by decide) rfl rfl ?_
        refine nv_goto dX7_isEnded_184 ?_
        exact hrec5 _ _ _ _ _ _ hf
    · try simp only [if_neg c5, Option.bind_some] at hf
      refine nv_k dX7_isEnded_179 ?_
      refine nv_iS dX7_isEnded_180 (by decide) rfl rfl ?_
      refine nv_inc dX7_isEnded_181 rfl (v := 1) (by decide) (by decide) rfl rfl ?_
      refine nv_goto dX7_isEnded_184 ?_
      exact hrec5 _ _ _ _ _ _ hf
def pm_isEnded_145 (h : nv_Hp) (x1 : Int32) (x2 : Int32) (x3 : Bool) (x4 : Int32) (s0 : Int32) (s1 : Int32) (rec5 : Bool → Int32 → Option (Bool)) : Option (Bool) := (if s0 = s1 then (pm_isEnded_153 h x1 x2 x3 x4 true rec5) else (pm_isEnded_153 h x1 x2 x3 x4 false rec5))
set_option maxHeartbeats 2000000 in
theorem tm_isEnded_145 (G : nv_G) (h : nv_Hp) (x1 : Int32) (hx1 : nv_inb x1 13 = true) (x2 : Int32) (hx2 : nv_inb x2 10 = true) (x3 : Bool) (x4 : Int32) (s0 : Int32) (s1 : Int32) (rec5 : Bool → Int32 → Option (Bool)) (hrec5 : ∀ (x3 : Bool) (x4 : Int32) (o5 o6 o7 : Option Value) (r : Bool), rec5 x3 x4 = some r → nv_E G 0 qX7_isEnded 5 [some (.ref 73), some (.int x1), some (.int x2), some (.int (nv_bi x3)), some (.int x4), o5, o6, o7] [] (nv_s h) (some (.int (nv_bi r)), nv_s h)) (o5 o6 o7 : Option Value) (r : Bool) (hf : pm_isEnded_145 h x1 x2 x3 x4 s0 s1 rec5 = some r) : nv_E G 0 qX7_isEnded 145 [some (.ref 73), some (.int x1), some (.int x2), some (.int (nv_bi x3)), some (.int x4), o5, o6, o7] [.int s1, .int s0] (nv_s h) (some (.int (nv_bi r)), nv_s h) := by
  unfold pm_isEnded_145 at hf
  refine nv_icne dX7_isEnded_145 (fun c1 => ?_) (fun c1 => ?_)
  · replace hf := nv_ip c1 hf
    refine nv_k dX7_isEnded_148 ?_
    refine nv_goto dX7_isEnded_149 ?_
    exact tm_isEnded_153 G _ _ hx1 _ hx2 _ _ _ _ hrec5 _ _ _ _ hf
  · replace hf := nv_in c1 hf
    refine nv_k dX7_isEnded_152 ?_
    exact tm_isEnded_153 G _ _ hx1 _ hx2 _ _ _ _ hrec5 _ _ _ _ hf
def pm_isEnded_35 (h : nv_Hp) (x1 : Int32) (x2 : Int32) (x3 : Bool) (x4 : Int32) (s0 : Bool) (rec5 : Bool → Int32 → Option (Bool)) : Option (Bool) := (if nv_inb x4 12 = true then (nv_lt ((h 91 x4.toNatClampNeg)) fun v2 => (pm_isEnded_153 h x1 x2 x3 x4 (if (h 79 x1.toNatClampNeg) = 2 then (if s0 = true then (if v2 = (h 82 x1.toNatClampNeg) then true else false) else false) else (if (h 108 0) = 0 then (if (h 99 x2.toNatClampNeg) < (h 90 x4.toNatClampNeg) then false else true) else (if s0 = true then (if (h 108 0) = 1 then (if v2 = (h 81 x1.toNatClampNeg) then true else false) else (if v2 = (h 96 x2.toNatClampNeg) then true else false)) else false))) rec5)) else none)
set_option maxHeartbeats 2000000 in
theorem tm_isEnded_35 (G : nv_G) (h : nv_Hp) (x1 : Int32) (hx1 : nv_inb x1 13 = true) (x2 : Int32) (hx2 : nv_inb x2 10 = true) (x3 : Bool) (x4 : Int32) (s0 : Bool) (rec5 : Bool → Int32 → Option (Bool)) (hrec5 : ∀ (x3 : Bool) (x4 : Int32) (o5 o6 o7 : Option Value) (r : Bool), rec5 x3 x4 = some r → nv_E G 0 qX7_isEnded 5 [some (.ref 73), some (.int x1), some (.int x2), some (.int (nv_bi x3)), some (.int x4), o5, o6, o7] [] (nv_s h) (some (.int (nv_bi r)), nv_s h)) (o5 o6 o7 : Option Value) (r : Bool) (hf : pm_isEnded_35 h x1 x2 x3 x4 s0 rec5 = some r) : nv_E G 0 qX7_isEnded 35 [some (.ref 73), some (.int x1), some (.int x2), some (.int (nv_bi x3)), some (.int x4), o5, o6, o7] [.int (nv_bi s0)] (nv_s h) (some (.int (nv_bi r)), nv_s h) := by
  unfold pm_isEnded_35 at hf
  refine nv_iS dX7_isEnded_35 (by decide) rfl rfl ?_
  refine nv_aL dX7_isEnded_37 rfl ?_
  refine nv_tR lf_X7_61 dX7_isEnded_38 ko_73 rfl ?_
  refine nv_iL dX7_isEnded_41 rfl ?_
  obtain ⟨g1, hf⟩ := nv_gd hf
  refine nv_aI dX7_isEnded_43 ka_91 g1 rfl ?_
  obtain ⟨v2, ev2, hf⟩ := nv_ltX hf
  rw [ev2]
  clear ev2
  refine nv_iS dX7_isEnded_44 (by decide) rfl rfl ?_
  refine nv_aL dX7_isEnded_46 rfl ?_
  refine nv_tR lf_X7_25 dX7_isEnded_47 ko_73 rfl ?_
  refine nv_iL dX7_isEnded_50 rfl ?_
  refine nv_aI dX7_isEnded_51 ka_79 hx1 rfl ?_
  refine nv_k dX7_isEnded_52 ?_
  refine nv_icne dX7_isEnded_53 (fun c3 => ?_) (fun c3 => ?_)
  · try simp only [if_pos c3] at hf
    refine nv_iL dX7_isEnded_56 rfl ?_
    refine nv_ifeqB dX7_isEnded_58 (fun c4 => ?_) (fun c4 => ?_)
    · try simp only [if_pos c4] at hf
      refine nv_iL dX7_isEnded_61 rfl ?_
      refine nv_aL dX7_isEnded_63 rfl ?_
      refine nv_tR lf_X7_34 dX7_isEnded_64 ko_73 rfl ?_
      refine nv_iL dX7_isEnded_67 rfl ?_
      refine nv_aI dX7_isEnded_68 ka_82 hx1 rfl ?_
      refine nv_icne dX7_isEnded_69 (fun c5 => ?_) (fun c5 => ?_)
      · try simp only [if_pos c5] at hf
        refine nv_k dX7_isEnded_72 ?_
        refine nv_goto dX7_isEnded_73 ?_
        exact tm_isEnded_153 G _ _ hx1 _ hx2 _ _ _ _ hrec5 _ _ _ _ hf
      · try simp only [if_neg c5] at hf
        refine nv_k dX7_isEnded_76 ?_
        refine nv_goto dX7_isEnded_77 ?_
        exact tm_isEnded_153 G _ _ hx1 _ hx2 _ _ _ _ hrec5 _ _ _ _ hf
    · try simp only [if_neg c4] at hf
      refine nv_k dX7_isEnded_76 ?_
      refine nv_goto dX7_isEnded_77 ?_
      exact tm_isEnded_153 G _ _ hx1 _ hx2 _ _ _ _ hrec5 _ _ _ _ hf
  · try simp only [if_neg c3] at hf
    refine nv_aL dX7_isEnded_80 rfl ?_
    refine nv_tR lf_X7_112 dX7_isEnded_81 ko_73 rfl ?_
    refine nv_k dX7_isEnded_84 ?_
    refine nv_aI dX7_isEnded_85 ka_108 (by decide) (j := 0) (by decide) ?_
    refine nv_ifne dX7_isEnded_86 (fun c6 => ?_) (fun c6 => ?_)
    · try simp only [if_pos c6] at hf
      refine nv_aL dX7_isEnded_89 rfl ?_
      refine nv_tR lf_X7_58 dX7_isEnded_90 ko_73 rfl ?_
      refine nv_iL dX7_isEnded_93 rfl ?_
      refine nv_aI dX7_isEnded_95 ka_90 g1 rfl ?_
      refine nv_aL dX7_isEnded_96 rfl ?_
      refine nv_tR lf_X7_85 dX7_isEnded_97 ko_73 rfl ?_
      refine nv_iL dX7_isEnded_100 rfl ?_
      refine nv_aI dX7_isEnded_101 ka_99 hx2 rfl ?_
      refine nv_icgt dX7_isEnded_102 (fun c7 => ?_) (fun c7 => ?_)
      · try simp only [if_pos c7] at hf
        refine nv_k dX7_isEnded_109 ?_
        refine nv_goto dX7_isEnded_110 ?_
        exact tm_isEnded_153 G _ _ hx1 _ hx2 _ _ _ _ hrec5 _ _ _ _ hf
      · try simp only [if_neg c7] at hf
        refine nv_k dX7_isEnded_105 ?_
        refine nv_goto dX7_isEnded_106 ?_
        exact tm_isEnded_153 G _ _ hx1 _ hx2 _ _ _ _ hrec5 _ _ _ _ hf
    · try simp only [if_neg c6] at hf
      refine nv_iL dX7_isEnded_113 rfl ?_
      refine nv_ifeqB dX7_isEnded_115 (fun c8 => ?_) (fun c8 => ?_)
      · try simp only [if_pos c8] at hf
        refine nv_iL dX7_isEnded_118 rfl ?_
        refine nv_aL dX7_isEnded_120 rfl ?_
        refine nv_tR lf_X7_112 dX7_isEnded_121 ko_73 rfl ?_
        refine nv_k dX7_isEnded_124 ?_
        refine nv_aI dX7_isEnded_125 ka_108 (by decide) (j := 0) (by decide) ?_
        refine nv_k dX7_isEnded_126 ?_
        refine nv_icne dX7_isEnded_127 (fun c9 => ?_) (fun c9 => ?_)
        · try simp only [if_pos c9] at hf
          refine nv_aL dX7_isEnded_130 rfl ?_
          refine nv_tR lf_X7_31 dX7_isEnded_131 ko_73 rfl ?_
          refine nv_iL dX7_isEnded_134 rfl ?_
          refine nv_aI dX7_isEnded_135 ka_81 hx1 rfl ?_
          refine nv_goto dX7_isEnded_136 ?_
          refine nv_icne dX7_isEnded_145 (fun c10 => ?_) (fun c10 => ?_)
          · try simp only [if_pos c10] at hf
            refine nv_k dX7_isEnded_148 ?_
            refine nv_goto dX7_isEnded_149 ?_
            exact tm_isEnded_153 G _ _ hx1 _ hx2 _ _ _ _ hrec5 _ _ _ _ hf
          · try simp only [if_neg c10] at hf
            refine nv_k dX7_isEnded_152 ?_
            exact tm_isEnded_153 G _ _ hx1 _ hx2 _ _ _ _ hrec5 _ _ _ _ hf
        · try simp only [if_neg c9] at hf
          refine nv_aL dX7_isEnded_139 rfl ?_
          refine nv_tR lf_X7_76 dX7_isEnded_140 ko_73 rfl ?_
          refine nv_iL dX7_isEnded_143 rfl ?_
          refine nv_aI dX7_isEnded_144 ka_96 hx2 rfl ?_
          refine nv_icne dX7_isEnded_145 (fun c11 => ?_) (fun c11 => ?_)
          · try simp only [if_pos c11] at hf
            refine nv_k dX7_isEnded_148 ?_
            refine nv_goto dX7_isEnded_149 ?_
            exact tm_isEnded_153 G _ _ hx1 _ hx2 _ _ _ _ hrec5 _ _ _ _ hf
          · try simp only [if_neg c11] at hf
            refine nv_k dX7_isEnded_152 ?_
            exact tm_isEnded_153 G _ _ hx1 _ hx2 _ _ _ _ hrec5 _ _ _ _ hf
      · try simp only [if_neg c8] at hf
        refine nv_k dX7_isEnded_152 ?_
        exact tm_isEnded_153 G _ _ hx1 _ hx2 _ _ _ _ hrec5 _ _ _ _ hf
def pm_isEnded_5 (h : nv_Hp) (x1 : Int32) (x2 : Int32)  : Nat → Bool → Int32 → Option (Bool)
  | 0, _, _ => none
  | n + 1, x3, x4 => (if (h 73 17) ≤ x4 then some x3 else (if nv_inb x4 12 = true then (pm_isEnded_35 h x1 x2 x3 x4 (if (h 99 x2.toNatClampNeg) < (h 93 x4.toNatClampNeg) then false else true) (pm_isEnded_5 h x1 x2 n)) else none))
set_option maxHeartbeats 2000000 in
theorem tm_isEnded_5 (G : nv_G) (h : nv_Hp) (x1 : Int32) (hx1 : nv_inb x1 13 = true) (x2 : Int32) (hx2 : nv_inb x2 10 = true)  : ∀ (n : Nat) (x3 : Bool) (x4 : Int32) (o5 o6 o7 : Option Value) (r : Bool), pm_isEnded_5 h x1 x2 n x3 x4 = some r → nv_E G 0 qX7_isEnded 5 [some (.ref 73), some (.int x1), some (.int x2), some (.int (nv_bi x3)), some (.int x4), o5, o6, o7] [] (nv_s h) (some (.int (nv_bi r)), nv_s h) := by
  intro n
  induction n with
  | zero =>
    intro x3 x4 o5 o6 o7 r hf
    rw [pm_isEnded_5] at hf
    cases hf
  | succ n ih =>
    intro x3 x4 o5 o6 o7 r hf
    rw [pm_isEnded_5] at hf
    refine nv_iL dX7_isEnded_5 rfl ?_
    refine nv_aL dX7_isEnded_7 rfl ?_
    refine nv_tI lf_X7_189 dX7_isEnded_8 ko_73 rfl ?_
    refine nv_icge dX7_isEnded_11 (fun c1 => ?_) (fun c1 => ?_)
    · replace hf := nv_ip c1 hf
      refine nv_iL dX7_isEnded_187 rfl ?_
      obtain rfl := Option.some.inj hf
      exact nv_ireturnB (b := x3) dX7_isEnded_188 rfl
    · replace hf := nv_in c1 hf
      refine nv_aL dX7_isEnded_14 rfl ?_
      refine nv_tR lf_X7_67 dX7_isEnded_15 ko_73 rfl ?_
      refine nv_iL dX7_isEnded_18 rfl ?_
      obtain ⟨g2, hf⟩ := nv_gd hf
      refine nv_aI dX7_isEnded_20 ka_93 g2 rfl ?_
      refine nv_aL dX7_isEnded_21 rfl ?_
      refine nv_tR lf_X7_85 dX7_isEnded_22 ko_73 rfl ?_
      refine nv_iL dX7_isEnded_25 rfl ?_
      refine nv_aI dX7_isEnded_26 ka_99 hx2 rfl ?_
      refine nv_icgt dX7_isEnded_27 (fun c3 => ?_) (fun c3 => ?_)
      · try simp only [if_pos c3] at hf
        refine nv_k dX7_isEnded_34 ?_
        exact tm_isEnded_35 G _ _ hx1 _ hx2 _ _ _ _ ih _ _ _ _ hf
      · try simp only [if_neg c3] at hf
        refine nv_k dX7_isEnded_30 ?_
        refine nv_goto dX7_isEnded_31 ?_
        exact tm_isEnded_35 G _ _ hx1 _ hx2 _ _ _ _ ih _ _ _ _ hf
def pm_isEnded (h : nv_Hp) (x1 : Int32) (x2 : Int32) : Option (Bool) := (pm_isEnded_5 h x1 x2 nv_fu false 0)
set_option maxHeartbeats 2000000 in
theorem tm_isEnded (G : nv_G) (h : nv_Hp) (x1 : Int32) (hx1 : nv_inb x1 13 = true) (x2 : Int32) (hx2 : nv_inb x2 10 = true) {r : Bool} (hf : (pm_isEnded h x1 x2) = some r) : nv_Mt G 0 qX7_isEnded [.ref 73, .int x1, .int x2] (nv_s h) (some (.int (nv_bi r)), nv_s h) := by
  refine nv_of (by decide +kernel) (fun ad => Nat.le_of_ble_eq_true rfl) (Nat.le_refl _) (Nat.le_of_ble_eq_true rfl) ?_
  show nv_E G 0 qX7_isEnded 0 [some (.ref 73), some (.int x1), some (.int x2), none, none, none, none, none] [] (nv_s h) (some (.int (nv_bi r)), nv_s h)
  unfold pm_isEnded at hf
  refine nv_k dX7_isEnded_0 ?_
  refine nv_iS dX7_isEnded_1 (by decide) rfl rfl ?_
  refine nv_k dX7_isEnded_2 ?_
  refine nv_iS dX7_isEnded_3 (by decide) rfl rfl ?_
  exact tm_isEnded_5 G _ _ hx1 _ hx2 _ _ _ _ _ _ _ hf
/-! WhoseNameModel.limitOf -/
theorem dX7_limitOf_0 : nv_daload qX7_limitOf 0 0 1 := Or.inr ⟨0, rfl, by decide +kernel, rfl⟩
theorem dX7_limitOf_1 : nv_dc qX7_limitOf 1 (.getfield 25) 3 4 := ⟨by decide +kernel, rfl⟩
theorem dX7_limitOf_4 : nv_diload qX7_limitOf 4 1 5 := Or.inr ⟨1, rfl, by decide +kernel, rfl⟩
theorem dX7_limitOf_5 : nv_dc qX7_limitOf 5 (.iaload) 1 6 := ⟨by decide +kernel, rfl⟩
theorem dX7_limitOf_6 : nv_dk qX7_limitOf 6 1 7 := Or.inl ⟨1, ⟨by decide +kernel, rfl⟩, by decide⟩
theorem dX7_limitOf_7 : nv_dic qX7_limitOf 7 .ne 22 10 := ⟨15, by decide +kernel, by decide, rfl⟩
theorem dX7_limitOf_10 : nv_dk qX7_limitOf 10 10 12 := Or.inr (Or.inl ⟨10, ⟨by decide +kernel, rfl⟩, by decide⟩)
theorem dX7_limitOf_12 : nv_daload qX7_limitOf 12 0 13 := Or.inr ⟨0, rfl, by decide +kernel, rfl⟩
theorem dX7_limitOf_13 : nv_dc qX7_limitOf 13 (.getfield 112) 3 16 := ⟨by decide +kernel, rfl⟩
theorem dX7_limitOf_16 : nv_dk qX7_limitOf 16 2 17 := Or.inl ⟨2, ⟨by decide +kernel, rfl⟩, by decide⟩
theorem dX7_limitOf_17 : nv_dc qX7_limitOf 17 (.iaload) 1 18 := ⟨by decide +kernel, rfl⟩
theorem dX7_limitOf_18 : nv_dc qX7_limitOf 18 (.imul) 1 19 := ⟨by decide +kernel, rfl⟩
theorem dX7_limitOf_19 : nv_dgo qX7_limitOf 19 28 := ⟨9, by decide +kernel, by decide⟩
theorem dX7_limitOf_22 : nv_daload qX7_limitOf 22 0 23 := Or.inr ⟨0, rfl, by decide +kernel, rfl⟩
theorem dX7_limitOf_23 : nv_dc qX7_limitOf 23 (.getfield 40) 3 26 := ⟨by decide +kernel, rfl⟩
theorem dX7_limitOf_26 : nv_diload qX7_limitOf 26 1 27 := Or.inr ⟨1, rfl, by decide +kernel, rfl⟩
theorem dX7_limitOf_27 : nv_dc qX7_limitOf 27 (.iaload) 1 28 := ⟨by decide +kernel, rfl⟩
theorem dX7_limitOf_28 : decode qX7_limitOf.2.1 28 = .ok (.ireturn, 1) := by decide +kernel
def pm_limitOf (h : nv_Hp) (x1 : Int32) : Int32 := (if (h 79 x1.toNatClampNeg) = 1 then (10 * (h 108 2)) else (h 84 x1.toNatClampNeg))
set_option maxHeartbeats 2000000 in
theorem tm_limitOf (G : nv_G) (h : nv_Hp) (x1 : Int32) (hx1 : nv_inb x1 13 = true) : nv_Mt G 0 qX7_limitOf [.ref 73, .int x1] (nv_s h) (some (.int (pm_limitOf h x1)), nv_s h) := by
  refine nv_of (by decide +kernel) (fun ad => Nat.le_of_ble_eq_true rfl) (Nat.le_refl _) (Nat.le_of_ble_eq_true rfl) ?_
  show nv_E G 0 qX7_limitOf 0 [some (.ref 73), some (.int x1)] [] (nv_s h) (some (.int (pm_limitOf h x1)), nv_s h)
  generalize hf : (pm_limitOf h x1) = r
  unfold pm_limitOf at hf
  refine nv_aL dX7_limitOf_0 rfl ?_
  refine nv_tR lf_X7_25 dX7_limitOf_1 ko_73 rfl ?_
  refine nv_iL dX7_limitOf_4 rfl ?_
  refine nv_aI dX7_limitOf_5 ka_79 hx1 rfl ?_
  refine nv_k dX7_limitOf_6 ?_
  refine nv_icne dX7_limitOf_7 (fun c1 => ?_) (fun c1 => ?_)
  · replace hf := nv_ip c1 hf
    refine nv_k dX7_limitOf_10 ?_
    refine nv_aL dX7_limitOf_12 rfl ?_
    refine nv_tR lf_X7_112 dX7_limitOf_13 ko_73 rfl ?_
    refine nv_k dX7_limitOf_16 ?_
    refine nv_aI dX7_limitOf_17 ka_108 (by decide) (j := 2) (by decide) ?_
    refine nv_imul dX7_limitOf_18 ?_
    refine nv_goto dX7_limitOf_19 ?_
    subst hf
    exact nv_ireturnI dX7_limitOf_28 rfl
  · replace hf := nv_in c1 hf
    refine nv_aL dX7_limitOf_22 rfl ?_
    refine nv_tR lf_X7_40 dX7_limitOf_23 ko_73 rfl ?_
    refine nv_iL dX7_limitOf_26 rfl ?_
    refine nv_aI dX7_limitOf_27 ka_84 hx1 rfl ?_
    subst hf
    exact nv_ireturnI dX7_limitOf_28 rfl
/-! WhoseNameModel.has -/
theorem dX7_has_0 : nv_daload qX7_has 0 0 1 := Or.inr ⟨0, rfl, by decide +kernel, rfl⟩
theorem dX7_has_1 : nv_diload qX7_has 1 1 2 := Or.inr ⟨1, rfl, by decide +kernel, rfl⟩
theorem dX7_has_2 : nv_dc qX7_has 2 (.invokevirtual 246) 3 5 := ⟨by decide +kernel, rfl⟩
theorem dX7_has_5 : nv_distore qX7_has 5 3 6 := Or.inr ⟨3, rfl, by decide +kernel, rfl⟩
theorem dX7_has_6 : nv_daload qX7_has 6 0 7 := Or.inr ⟨0, rfl, by decide +kernel, rfl⟩
theorem dX7_has_7 : nv_dc qX7_has 7 (.getfield 25) 3 10 := ⟨by decide +kernel, rfl⟩
theorem dX7_has_10 : nv_diload qX7_has 10 1 11 := Or.inr ⟨1, rfl, by decide +kernel, rfl⟩
theorem dX7_has_11 : nv_dc qX7_has 11 (.iaload) 1 12 := ⟨by decide +kernel, rfl⟩
theorem dX7_has_12 : nv_dk qX7_has 12 1 13 := Or.inl ⟨1, ⟨by decide +kernel, rfl⟩, by decide⟩
theorem dX7_has_13 : nv_dic qX7_has 13 .eq 35 16 := ⟨22, by decide +kernel, by decide, rfl⟩
theorem dX7_has_16 : nv_daload qX7_has 16 0 17 := Or.inr ⟨0, rfl, by decide +kernel, rfl⟩
theorem dX7_has_17 : nv_dc qX7_has 17 (.getfield 37) 3 20 := ⟨by decide +kernel, rfl⟩
theorem dX7_has_20 : nv_diload qX7_has 20 1 21 := Or.inr ⟨1, rfl, by decide +kernel, rfl⟩
theorem dX7_has_21 : nv_dc qX7_has 21 (.iaload) 1 22 := ⟨by decide +kernel, rfl⟩
theorem dX7_has_22 : nv_daload qX7_has 22 0 23 := Or.inr ⟨0, rfl, by decide +kernel, rfl⟩
theorem dX7_has_23 : nv_dc qX7_has 23 (.getfield 79) 3 26 := ⟨by decide +kernel, rfl⟩
theorem dX7_has_26 : nv_diload qX7_has 26 2 27 := Or.inr ⟨2, rfl, by decide +kernel, rfl⟩
theorem dX7_has_27 : nv_dc qX7_has 27 (.iaload) 1 28 := ⟨by decide +kernel, rfl⟩
theorem dX7_has_28 : nv_dc qX7_has 28 (.ishr) 1 29 := ⟨by decide +kernel, rfl⟩
theorem dX7_has_29 : nv_dk qX7_has 29 1 30 := Or.inl ⟨1, ⟨by decide +kernel, rfl⟩, by decide⟩
theorem dX7_has_30 : nv_dc qX7_has 30 (.iand) 1 31 := ⟨by decide +kernel, rfl⟩
theorem dX7_has_31 : nv_dk qX7_has 31 1 32 := Or.inl ⟨1, ⟨by decide +kernel, rfl⟩, by decide⟩
theorem dX7_has_32 : nv_dic qX7_has 32 .ne 39 35 := ⟨7, by decide +kernel, by decide, rfl⟩
theorem dX7_has_35 : nv_dk qX7_has 35 1 36 := Or.inl ⟨1, ⟨by decide +kernel, rfl⟩, by decide⟩
theorem dX7_has_36 : nv_dgo qX7_has 36 40 := ⟨4, by decide +kernel, by decide⟩
theorem dX7_has_39 : nv_dk qX7_has 39 0 40 := Or.inl ⟨0, ⟨by decide +kernel, rfl⟩, by decide⟩
theorem dX7_has_40 : nv_distore qX7_has 40 4 42 := Or.inl ⟨by decide +kernel, rfl⟩
theorem dX7_has_42 : nv_diload qX7_has 42 4 44 := Or.inl ⟨by decide +kernel, rfl⟩
theorem dX7_has_44 : nv_dif qX7_has 44 .eq 109 47 := ⟨65, by decide +kernel, by decide, rfl⟩
theorem dX7_has_47 : nv_daload qX7_has 47 0 48 := Or.inr ⟨0, rfl, by decide +kernel, rfl⟩
theorem dX7_has_48 : nv_dc qX7_has 48 (.getfield 85) 3 51 := ⟨by decide +kernel, rfl⟩
theorem dX7_has_51 : nv_diload qX7_has 51 2 52 := Or.inr ⟨2, rfl, by decide +kernel, rfl⟩
theorem dX7_has_52 : nv_dc qX7_has 52 (.iaload) 1 53 := ⟨by decide +kernel, rfl⟩
theorem dX7_has_53 : nv_dc qX7_has 53 (.i2l) 1 54 := ⟨by decide +kernel, rfl⟩
theorem dX7_has_54 : nv_daload qX7_has 54 0 55 := Or.inr ⟨0, rfl, by decide +kernel, rfl⟩
theorem dX7_has_55 : nv_dc qX7_has 55 (.getfield 43) 3 58 := ⟨by decide +kernel, rfl⟩
theorem dX7_has_58 : nv_diload qX7_has 58 1 59 := Or.inr ⟨1, rfl, by decide +kernel, rfl⟩
theorem dX7_has_59 : nv_dc qX7_has 59 (.iaload) 1 60 := ⟨by decide +kernel, rfl⟩
theorem dX7_has_60 : nv_dc qX7_has 60 (.i2l) 1 61 := ⟨by decide +kernel, rfl⟩
theorem dX7_has_61 : nv_daload qX7_has 61 0 62 := Or.inr ⟨0, rfl, by decide +kernel, rfl⟩
theorem dX7_has_62 : nv_dc qX7_has 62 (.getfield 46) 3 65 := ⟨by decide +kernel, rfl⟩
theorem dX7_has_65 : nv_diload qX7_has 65 1 66 := Or.inr ⟨1, rfl, by decide +kernel, rfl⟩
theorem dX7_has_66 : nv_dc qX7_has 66 (.iaload) 1 67 := ⟨by decide +kernel, rfl⟩
theorem dX7_has_67 : nv_dc qX7_has 67 (.i2l) 1 68 := ⟨by decide +kernel, rfl⟩
theorem dX7_has_68 : nv_dc qX7_has 68 (.invokestatic 127) 3 71 := ⟨by decide +kernel, rfl⟩
theorem dX7_has_71 : nv_dif qX7_has 71 .eq 109 74 := ⟨38, by decide +kernel, by decide, rfl⟩
theorem dX7_has_74 : nv_daload qX7_has 74 0 75 := Or.inr ⟨0, rfl, by decide +kernel, rfl⟩
theorem dX7_has_75 : nv_dc qX7_has 75 (.getfield 82) 3 78 := ⟨by decide +kernel, rfl⟩
theorem dX7_has_78 : nv_diload qX7_has 78 2 79 := Or.inr ⟨2, rfl, by decide +kernel, rfl⟩
theorem dX7_has_79 : nv_dc qX7_has 79 (.iaload) 1 80 := ⟨by decide +kernel, rfl⟩
theorem dX7_has_80 : nv_diload qX7_has 80 3 81 := Or.inr ⟨3, rfl, by decide +kernel, rfl⟩
theorem dX7_has_81 : nv_diload qX7_has 81 3 82 := Or.inr ⟨3, rfl, by decide +kernel, rfl⟩
theorem dX7_has_82 : nv_daload qX7_has 82 0 83 := Or.inr ⟨0, rfl, by decide +kernel, rfl⟩
theorem dX7_has_83 : nv_dc qX7_has 83 (.getfield 112) 3 86 := ⟨by decide +kernel, rfl⟩
theorem dX7_has_86 : nv_dk qX7_has 86 3 87 := Or.inl ⟨3, ⟨by decide +kernel, rfl⟩, by decide⟩
theorem dX7_has_87 : nv_dc qX7_has 87 (.iaload) 1 88 := ⟨by decide +kernel, rfl⟩
theorem dX7_has_88 : nv_dc qX7_has 88 (.imul) 1 89 := ⟨by decide +kernel, rfl⟩
theorem dX7_has_89 : nv_dk qX7_has 89 100 91 := Or.inr (Or.inl ⟨100, ⟨by decide +kernel, rfl⟩, by decide⟩)
theorem dX7_has_91 : nv_dc qX7_has 91 (.idiv) 1 92 := ⟨by decide +kernel, rfl⟩
theorem dX7_has_92 : nv_dc qX7_has 92 (.iadd) 1 93 := ⟨by decide +kernel, rfl⟩
theorem dX7_has_93 : nv_dic qX7_has 93 .gt 109 96 := ⟨16, by decide +kernel, by decide, rfl⟩
theorem dX7_has_96 : nv_daload qX7_has 96 0 97 := Or.inr ⟨0, rfl, by decide +kernel, rfl⟩
theorem dX7_has_97 : nv_diload qX7_has 97 1 98 := Or.inr ⟨1, rfl, by decide +kernel, rfl⟩
theorem dX7_has_98 : nv_diload qX7_has 98 2 99 := Or.inr ⟨2, rfl, by decide +kernel, rfl⟩
theorem dX7_has_99 : nv_dc qX7_has 99 (.invokevirtual 249) 3 102 := ⟨by decide +kernel, rfl⟩
theorem dX7_has_102 : nv_dif qX7_has 102 .ne 109 105 := ⟨7, by decide +kernel, by decide, rfl⟩
theorem dX7_has_105 : nv_dk qX7_has 105 1 106 := Or.inl ⟨1, ⟨by decide +kernel, rfl⟩, by decide⟩
theorem dX7_has_106 : nv_dgo qX7_has 106 110 := ⟨4, by decide +kernel, by decide⟩
theorem dX7_has_109 : nv_dk qX7_has 109 0 110 := Or.inl ⟨0, ⟨by decide +kernel, rfl⟩, by decide⟩
theorem dX7_has_110 : decode qX7_has.2.1 110 = .ok (.ireturn, 1) := by decide +kernel
def pm_has_40 (h : nv_Hp) (x1 : Int32) (x2 : Int32) (x3 : Int32) (s0 : Bool)  : Option (Bool) := (if s0 = true then (if (pm_in (Int32.toInt64 (h 99 x2.toNatClampNeg)) (Int32.toInt64 (h 85 x1.toNatClampNeg)) (Int32.toInt64 (h 86 x1.toNatClampNeg))) = true then (if (x3 + ((x3 * (h 108 3)) / 100)) < (h 98 x2.toNatClampNeg) then some false else (Option.bind (pm_isEnded h x1 x2) fun q4 => (if q4 = true then some false else some true))) else some false) else some false)
set_option maxHeartbeats 2000000 in
theorem tm_has_40 (G : nv_G) (h : nv_Hp) (x1 : Int32) (hx1 : nv_inb x1 13 = true) (x2 : Int32) (hx2 : nv_inb x2 10 = true) (x3 : Int32) (s0 : Bool)  (o4 : Option Value) (r : Bool) (hf : pm_has_40 h x1 x2 x3 s0 = some r) : nv_E G 1 qX7_has 40 [some (.ref 73), some (.int x1), some (.int x2), some (.int x3), o4] [.int (nv_bi s0)] (nv_s h) (some (.int (nv_bi r)), nv_s h) := by
  unfold pm_has_40 at hf
  refine nv_iS dX7_has_40 (by decide) rfl rfl ?_
  refine nv_iL dX7_has_42 rfl ?_
  refine nv_ifeqB dX7_has_44 (fun c1 => ?_) (fun c1 => ?_)
  · replace hf := nv_ip c1 hf
    refine nv_aL dX7_has_47 rfl ?_
    refine nv_tR lf_X7_85 dX7_has_48 ko_73 rfl ?_
    refine nv_iL dX7_has_51 rfl ?_
    refine nv_aI dX7_has_52 ka_99 hx2 rfl ?_
    refine nv_i2l dX7_has_53 ?_
    refine nv_aL dX7_has_54 rfl ?_
    refine nv_tR lf_X7_43 dX7_has_55 ko_73 rfl ?_
    refine nv_iL dX7_has_58 rfl ?_
    refine nv_aI dX7_has_59 ka_85 hx1 rfl ?_
    refine nv_i2l dX7_has_60 ?_
    refine nv_aL dX7_has_61 rfl ?_
    refine nv_tR lf_X7_46 dX7_has_62 ko_73 rfl ?_
    refine nv_iL dX7_has_65 rfl ?_
    refine nv_aI dX7_has_66 ka_86 hx1 rfl ?_
    refine nv_i2l dX7_has_67 ?_
    refine nv_cSi (tm_in G h (Int32.toInt64 (h 99 x2.toNatClampNeg)) (Int32.toInt64 (h 85 x1.toNatClampNeg)) (Int32.toInt64 (h 86 x1.toNatClampNeg))) dX7_has_68 lm_X7_127 y_qX7_in rfl (by decide) rfl (Nat.le_of_ble_eq_true rfl) ?_
    refine nv_ifeqB dX7_has_71 (fun c2 => ?_) (fun c2 => ?_)
    · replace hf := nv_ip c2 hf
      refine nv_aL dX7_has_74 rfl ?_
      refine nv_tR lf_X7_82 dX7_has_75 ko_73 rfl ?_
      refine nv_iL dX7_has_78 rfl ?_
      refine nv_aI dX7_has_79 ka_98 hx2 rfl ?_
      refine nv_iL dX7_has_80 rfl ?_
      refine nv_iL dX7_has_81 rfl ?_
      refine nv_aL dX7_has_82 rfl ?_
      refine nv_tR lf_X7_112 dX7_has_83 ko_73 rfl ?_
      refine nv_k dX7_has_86 ?_
      refine nv_aI dX7_has_87 ka_108 (by decide) (j := 3) (by decide) ?_
      refine nv_imul dX7_has_88 ?_
      refine nv_k dX7_has_89 ?_
      refine nv_idiv dX7_has_91 (by decide) ?_
      refine nv_iadd dX7_has_92 ?_
      refine nv_icgt dX7_has_93 (fun c3 => ?_) (fun c3 => ?_)
      · replace hf := nv_ip c3 hf
        refine nv_k dX7_has_109 ?_
        obtain rfl := Option.some.inj hf
        exact nv_ireturnB (b := false) dX7_has_110 rfl
      · replace hf := nv_in c3 hf
        refine nv_aL dX7_has_96 rfl ?_
        refine nv_iL dX7_has_97 rfl ?_
        refine nv_iL dX7_has_98 rfl ?_
        obtain ⟨q4, hq4, hf⟩ := nv_bd hf
        refine nv_cVi (tm_isEnded G h x1 hx1 x2 hx2 hq4) dX7_has_99 lm_X7_249 y_qX7_isEnded ko_73 rfl rfl (by decide) rfl (Nat.le_of_ble_eq_true rfl) ?_
        refine nv_ifneB dX7_has_102 (fun c5 => ?_) (fun c5 => ?_)
        · replace hf := nv_ip c5 hf
          refine nv_k dX7_has_109 ?_
          obtain rfl := Option.some.inj hf
          exact nv_ireturnB (b := false) dX7_has_110 rfl
        · replace hf := nv_in c5 hf
          refine nv_k dX7_has_105 ?_
          refine nv_goto dX7_has_106 ?_
          obtain rfl := Option.some.inj hf
          exact nv_ireturnB (b := true) dX7_has_110 rfl
    · replace hf := nv_in c2 hf
      refine nv_k dX7_has_109 ?_
      obtain rfl := Option.some.inj hf
      exact nv_ireturnB (b := false) dX7_has_110 rfl
  · replace hf := nv_in c1 hf
    refine nv_k dX7_has_109 ?_
    obtain rfl := Option.some.inj hf
    exact nv_ireturnB (b := false) dX7_has_110 rfl
def pm_has (h : nv_Hp) (x1 : Int32) (x2 : Int32) : Option (Bool) := (nv_lt ((pm_limitOf h x1)) fun v1 => (pm_has_40 h x1 x2 v1 (if (h 79 x1.toNatClampNeg) = 1 then true else (if (((h 83 x1.toNatClampNeg) >>> ((h 97 x2.toNatClampNeg) &&& 31)) &&& 1) = 1 then true else false))))
set_option maxHeartbeats 2000000 in
theorem tm_has (G : nv_G) (h : nv_Hp) (x1 : Int32) (hx1 : nv_inb x1 13 = true) (x2 : Int32) (hx2 : nv_inb x2 10 = true) {r : Bool} (hf : (pm_has h x1 x2) = some r) : nv_Mt G 1 qX7_has [.ref 73, .int x1, .int x2] (nv_s h) (some (.int (nv_bi r)), nv_s h) := by
  refine nv_of (by decide +kernel) (fun ad => Nat.le_of_ble_eq_true rfl) (Nat.le_refl _) (Nat.le_of_ble_eq_true rfl) ?_
  show nv_E G 1 qX7_has 0 [some (.ref 73), some (.int x1), some (.int x2), none, none] [] (nv_s h) (some (.int (nv_bi r)), nv_s h)
  unfold pm_has at hf
  refine nv_aL dX7_has_0 rfl ?_
  refine nv_iL dX7_has_1 rfl ?_
  refine nv_cVi (tm_limitOf G h x1 hx1) dX7_has_2 lm_X7_246 y_qX7_limitOf ko_73 rfl rfl (by decide) rfl (Nat.le_of_ble_eq_true rfl) ?_
  obtain ⟨v1, ev1, hf⟩ := nv_ltX hf
  rw [ev1]
  clear ev1
  refine nv_iS dX7_has_5 (by decide) rfl rfl ?_
  refine nv_aL dX7_has_6 rfl ?_
  refine nv_tR lf_X7_25 dX7_has_7 ko_73 rfl ?_
  refine nv_iL dX7_has_10 rfl ?_
  refine nv_aI dX7_has_11 ka_79 hx1 rfl ?_
  refine nv_k dX7_has_12 ?_
  refine nv_iceq dX7_has_13 (fun c2 => ?_) (fun c2 => ?_)
  · try simp only [if_pos c2] at hf
    refine nv_k dX7_has_35 ?_
    refine nv_goto dX7_has_36 ?_
    exact tm_has_40 G _ _ hx1 _ hx2 _ _ _ _ hf
  · try simp only [if_neg c2] at hf
    refine nv_aL dX7_has_16 rfl ?_
    refine nv_tR lf_X7_37 dX7_has_17 ko_73 rfl ?_
    refine nv_iL dX7_has_20 rfl ?_
    refine nv_aI dX7_has_21 ka_83 hx1 rfl ?_
    refine nv_aL dX7_has_22 rfl ?_
    refine nv_tR lf_X7_79 dX7_has_23 ko_73 rfl ?_
    refine nv_iL dX7_has_26 rfl ?_
    refine nv_aI dX7_has_27 ka_97 hx2 rfl ?_
    refine nv_ishr dX7_has_28 ?_
    refine nv_k dX7_has_29 ?_
    refine nv_iand dX7_has_30 ?_
    refine nv_k dX7_has_31 ?_
    refine nv_icne dX7_has_32 (fun c3 => ?_) (fun c3 => ?_)
    · try simp only [if_pos c3] at hf
      refine nv_k dX7_has_35 ?_
      refine nv_goto dX7_has_36 ?_
      exact tm_has_40 G _ _ hx1 _ hx2 _ _ _ _ hf
    · try simp only [if_neg c3] at hf
      refine nv_k dX7_has_39 ?_
      exact tm_has_40 G _ _ hx1 _ hx2 _ _ _ _ hf
/-! WhoseNameModel.reachesNow -/
theorem dX7_reachesNow_0 : nv_daload qX7_reachesNow 0 0 1 := Or.inr ⟨0, rfl, by decide +kernel, rfl⟩
theorem dX7_reachesNow_1 : nv_dc qX7_reachesNow 1 (.getfield 25) 3 4 := ⟨by decide +kernel, rfl⟩
theorem dX7_reachesNow_4 : nv_diload qX7_reachesNow 4 1 5 := Or.inr ⟨1, rfl, by decide +kernel, rfl⟩
theorem dX7_reachesNow_5 : nv_dc qX7_reachesNow 5 (.iaload) 1 6 := ⟨by decide +kernel, rfl⟩
theorem dX7_reachesNow_6 : nv_dk qX7_reachesNow 6 2 7 := Or.inl ⟨2, ⟨by decide +kernel, rfl⟩, by decide⟩
theorem dX7_reachesNow_7 : nv_dic qX7_reachesNow 7 .ne 14 10 := ⟨7, by decide +kernel, by decide, rfl⟩
theorem dX7_reachesNow_10 : nv_dk qX7_reachesNow 10 1 11 := Or.inl ⟨1, ⟨by decide +kernel, rfl⟩, by decide⟩
theorem dX7_reachesNow_11 : nv_dgo qX7_reachesNow 11 15 := ⟨4, by decide +kernel, by decide⟩
theorem dX7_reachesNow_14 : nv_dk qX7_reachesNow 14 0 15 := Or.inl ⟨0, ⟨by decide +kernel, rfl⟩, by decide⟩
theorem dX7_reachesNow_15 : nv_distore qX7_reachesNow 15 3 16 := Or.inr ⟨3, rfl, by decide +kernel, rfl⟩
theorem dX7_reachesNow_16 : nv_daload qX7_reachesNow 16 0 17 := Or.inr ⟨0, rfl, by decide +kernel, rfl⟩
theorem dX7_reachesNow_17 : nv_dc qX7_reachesNow 17 (.getfield 73) 3 20 := ⟨by decide +kernel, rfl⟩
theorem dX7_reachesNow_20 : nv_diload qX7_reachesNow 20 2 21 := Or.inr ⟨2, rfl, by decide +kernel, rfl⟩
theorem dX7_reachesNow_21 : nv_dc qX7_reachesNow 21 (.iaload) 1 22 := ⟨by decide +kernel, rfl⟩
theorem dX7_reachesNow_22 : nv_daload qX7_reachesNow 22 0 23 := Or.inr ⟨0, rfl, by decide +kernel, rfl⟩
theorem dX7_reachesNow_23 : nv_dc qX7_reachesNow 23 (.getfield 28) 3 26 := ⟨by decide +kernel, rfl⟩
theorem dX7_reachesNow_26 : nv_diload qX7_reachesNow 26 1 27 := Or.inr ⟨1, rfl, by decide +kernel, rfl⟩
theorem dX7_reachesNow_27 : nv_dc qX7_reachesNow 27 (.iaload) 1 28 := ⟨by decide +kernel, rfl⟩
theorem dX7_reachesNow_28 : nv_dic qX7_reachesNow 28 .eq 45 31 := ⟨17, by decide +kernel, by decide, rfl⟩
theorem dX7_reachesNow_31 : nv_daload qX7_reachesNow 31 0 32 := Or.inr ⟨0, rfl, by decide +kernel, rfl⟩
theorem dX7_reachesNow_32 : nv_dc qX7_reachesNow 32 (.getfield 73) 3 35 := ⟨by decide +kernel, rfl⟩
theorem dX7_reachesNow_35 : nv_diload qX7_reachesNow 35 2 36 := Or.inr ⟨2, rfl, by decide +kernel, rfl⟩
theorem dX7_reachesNow_36 : nv_dc qX7_reachesNow 36 (.iaload) 1 37 := ⟨by decide +kernel, rfl⟩
theorem dX7_reachesNow_37 : nv_dk qX7_reachesNow 37 (-1) 38 := Or.inl ⟨(-1), ⟨by decide +kernel, rfl⟩, by decide⟩
theorem dX7_reachesNow_38 : nv_dic qX7_reachesNow 38 .ne 49 41 := ⟨11, by decide +kernel, by decide, rfl⟩
theorem dX7_reachesNow_41 : nv_diload qX7_reachesNow 41 3 42 := Or.inr ⟨3, rfl, by decide +kernel, rfl⟩
theorem dX7_reachesNow_42 : nv_dif qX7_reachesNow 42 .ne 49 45 := ⟨7, by decide +kernel, by decide, rfl⟩
theorem dX7_reachesNow_45 : nv_dk qX7_reachesNow 45 1 46 := Or.inl ⟨1, ⟨by decide +kernel, rfl⟩, by decide⟩
theorem dX7_reachesNow_46 : nv_dgo qX7_reachesNow 46 50 := ⟨4, by decide +kernel, by decide⟩
theorem dX7_reachesNow_49 : nv_dk qX7_reachesNow 49 0 50 := Or.inl ⟨0, ⟨by decide +kernel, rfl⟩, by decide⟩
theorem dX7_reachesNow_50 : nv_distore qX7_reachesNow 50 4 52 := Or.inl ⟨by decide +kernel, rfl⟩
theorem dX7_reachesNow_52 : nv_daload qX7_reachesNow 52 0 53 := Or.inr ⟨0, rfl, by decide +kernel, rfl⟩
theorem dX7_reachesNow_53 : nv_dc qX7_reachesNow 53 (.getfield 31) 3 56 := ⟨by decide +kernel, rfl⟩
theorem dX7_reachesNow_56 : nv_diload qX7_reachesNow 56 1 57 := Or.inr ⟨1, rfl, by decide +kernel, rfl⟩
theorem dX7_reachesNow_57 : nv_dc qX7_reachesNow 57 (.iaload) 1 58 := ⟨by decide +kernel, rfl⟩
theorem dX7_reachesNow_58 : nv_daload qX7_reachesNow 58 0 59 := Or.inr ⟨0, rfl, by decide +kernel, rfl⟩
theorem dX7_reachesNow_59 : nv_dc qX7_reachesNow 59 (.getfield 70) 3 62 := ⟨by decide +kernel, rfl⟩
theorem dX7_reachesNow_62 : nv_diload qX7_reachesNow 62 2 63 := Or.inr ⟨2, rfl, by decide +kernel, rfl⟩
theorem dX7_reachesNow_63 : nv_dc qX7_reachesNow 63 (.iaload) 1 64 := ⟨by decide +kernel, rfl⟩
theorem dX7_reachesNow_64 : nv_dic qX7_reachesNow 64 .ne 121 67 := ⟨57, by decide +kernel, by decide, rfl⟩
theorem dX7_reachesNow_67 : nv_diload qX7_reachesNow 67 4 69 := Or.inl ⟨by decide +kernel, rfl⟩
theorem dX7_reachesNow_69 : nv_dif qX7_reachesNow 69 .eq 121 72 := ⟨52, by decide +kernel, by decide, rfl⟩
theorem dX7_reachesNow_72 : nv_daload qX7_reachesNow 72 0 73 := Or.inr ⟨0, rfl, by decide +kernel, rfl⟩
theorem dX7_reachesNow_73 : nv_dc qX7_reachesNow 73 (.getfield 52) 3 76 := ⟨by decide +kernel, rfl⟩
theorem dX7_reachesNow_76 : nv_diload qX7_reachesNow 76 1 77 := Or.inr ⟨1, rfl, by decide +kernel, rfl⟩
theorem dX7_reachesNow_77 : nv_dc qX7_reachesNow 77 (.iaload) 1 78 := ⟨by decide +kernel, rfl⟩
theorem dX7_reachesNow_78 : nv_daload qX7_reachesNow 78 0 79 := Or.inr ⟨0, rfl, by decide +kernel, rfl⟩
theorem dX7_reachesNow_79 : nv_dc qX7_reachesNow 79 (.getfield 112) 3 82 := ⟨by decide +kernel, rfl⟩
theorem dX7_reachesNow_82 : nv_dk qX7_reachesNow 82 8 84 := Or.inr (Or.inl ⟨8, ⟨by decide +kernel, rfl⟩, by decide⟩)
theorem dX7_reachesNow_84 : nv_dc qX7_reachesNow 84 (.iaload) 1 85 := ⟨by decide +kernel, rfl⟩
theorem dX7_reachesNow_85 : nv_dic qX7_reachesNow 85 .gt 121 88 := ⟨36, by decide +kernel, by decide, rfl⟩
theorem dX7_reachesNow_88 : nv_diload qX7_reachesNow 88 3 89 := Or.inr ⟨3, rfl, by decide +kernel, rfl⟩
theorem dX7_reachesNow_89 : nv_dif qX7_reachesNow 89 .eq 117 92 := ⟨28, by decide +kernel, by decide, rfl⟩
theorem dX7_reachesNow_92 : nv_daload qX7_reachesNow 92 0 93 := Or.inr ⟨0, rfl, by decide +kernel, rfl⟩
theorem dX7_reachesNow_93 : nv_dc qX7_reachesNow 93 (.getfield 112) 3 96 := ⟨by decide +kernel, rfl⟩
theorem dX7_reachesNow_96 : nv_dk qX7_reachesNow 96 1 97 := Or.inl ⟨1, ⟨by decide +kernel, rfl⟩, by decide⟩
theorem dX7_reachesNow_97 : nv_dc qX7_reachesNow 97 (.iaload) 1 98 := ⟨by decide +kernel, rfl⟩
theorem dX7_reachesNow_98 : nv_dk qX7_reachesNow 98 1 99 := Or.inl ⟨1, ⟨by decide +kernel, rfl⟩, by decide⟩
theorem dX7_reachesNow_99 : nv_dic qX7_reachesNow 99 .ne 121 102 := ⟨22, by decide +kernel, by decide, rfl⟩
theorem dX7_reachesNow_102 : nv_daload qX7_reachesNow 102 0 103 := Or.inr ⟨0, rfl, by decide +kernel, rfl⟩
theorem dX7_reachesNow_103 : nv_dc qX7_reachesNow 103 (.getfield 76) 3 106 := ⟨by decide +kernel, rfl⟩
theorem dX7_reachesNow_106 : nv_diload qX7_reachesNow 106 2 107 := Or.inr ⟨2, rfl, by decide +kernel, rfl⟩
theorem dX7_reachesNow_107 : nv_dc qX7_reachesNow 107 (.iaload) 1 108 := ⟨by decide +kernel, rfl⟩
theorem dX7_reachesNow_108 : nv_daload qX7_reachesNow 108 0 109 := Or.inr ⟨0, rfl, by decide +kernel, rfl⟩
theorem dX7_reachesNow_109 : nv_dc qX7_reachesNow 109 (.getfield 34) 3 112 := ⟨by decide +kernel, rfl⟩
theorem dX7_reachesNow_112 : nv_diload qX7_reachesNow 112 1 113 := Or.inr ⟨1, rfl, by decide +kernel, rfl⟩
theorem dX7_reachesNow_113 : nv_dc qX7_reachesNow 113 (.iaload) 1 114 := ⟨by decide +kernel, rfl⟩
theorem dX7_reachesNow_114 : nv_dic qX7_reachesNow 114 .ne 121 117 := ⟨7, by decide +kernel, by decide, rfl⟩
theorem dX7_reachesNow_117 : nv_dk qX7_reachesNow 117 1 118 := Or.inl ⟨1, ⟨by decide +kernel, rfl⟩, by decide⟩
theorem dX7_reachesNow_118 : nv_dgo qX7_reachesNow 118 122 := ⟨4, by decide +kernel, by decide⟩
theorem dX7_reachesNow_121 : nv_dk qX7_reachesNow 121 0 122 := Or.inl ⟨0, ⟨by decide +kernel, rfl⟩, by decide⟩
theorem dX7_reachesNow_122 : nv_distore qX7_reachesNow 122 5 124 := Or.inl ⟨by decide +kernel, rfl⟩
theorem dX7_reachesNow_124 : nv_diload qX7_reachesNow 124 1 125 := Or.inr ⟨1, rfl, by decide +kernel, rfl⟩
theorem dX7_reachesNow_125 : nv_distore qX7_reachesNow 125 6 127 := Or.inl ⟨by decide +kernel, rfl⟩
theorem dX7_reachesNow_127 : nv_diload qX7_reachesNow 127 6 129 := Or.inl ⟨by decide +kernel, rfl⟩
theorem dX7_reachesNow_129 : nv_dk qX7_reachesNow 129 (-1) 130 := Or.inl ⟨(-1), ⟨by decide +kernel, rfl⟩, by decide⟩
theorem dX7_reachesNow_130 : nv_dic qX7_reachesNow 130 .eq 159 133 := ⟨29, by decide +kernel, by decide, rfl⟩
theorem dX7_reachesNow_133 : nv_diload qX7_reachesNow 133 5 135 := Or.inl ⟨by decide +kernel, rfl⟩
theorem dX7_reachesNow_135 : nv_dif qX7_reachesNow 135 .eq 159 138 := ⟨24, by decide +kernel, by decide, rfl⟩
theorem dX7_reachesNow_138 : nv_daload qX7_reachesNow 138 0 139 := Or.inr ⟨0, rfl, by decide +kernel, rfl⟩
theorem dX7_reachesNow_139 : nv_diload qX7_reachesNow 139 6 141 := Or.inl ⟨by decide +kernel, rfl⟩
theorem dX7_reachesNow_141 : nv_diload qX7_reachesNow 141 2 142 := Or.inr ⟨2, rfl, by decide +kernel, rfl⟩
theorem dX7_reachesNow_142 : nv_dc qX7_reachesNow 142 (.invokevirtual 253) 3 145 := ⟨by decide +kernel, rfl⟩
theorem dX7_reachesNow_145 : nv_distore qX7_reachesNow 145 5 147 := Or.inl ⟨by decide +kernel, rfl⟩
theorem dX7_reachesNow_147 : nv_daload qX7_reachesNow 147 0 148 := Or.inr ⟨0, rfl, by decide +kernel, rfl⟩
theorem dX7_reachesNow_148 : nv_dc qX7_reachesNow 148 (.getfield 49) 3 151 := ⟨by decide +kernel, rfl⟩
theorem dX7_reachesNow_151 : nv_diload qX7_reachesNow 151 6 153 := Or.inl ⟨by decide +kernel, rfl⟩
theorem dX7_reachesNow_153 : nv_dc qX7_reachesNow 153 (.iaload) 1 154 := ⟨by decide +kernel, rfl⟩
theorem dX7_reachesNow_154 : nv_distore qX7_reachesNow 154 6 156 := Or.inl ⟨by decide +kernel, rfl⟩
theorem dX7_reachesNow_156 : nv_dgo qX7_reachesNow 156 127 := ⟨(-29), by decide +kernel, by decide⟩
theorem dX7_reachesNow_159 : nv_diload qX7_reachesNow 159 5 161 := Or.inl ⟨by decide +kernel, rfl⟩
theorem dX7_reachesNow_161 : decode qX7_reachesNow.2.1 161 = .ok (.ireturn, 1) := by decide +kernel
def pm_reachesNow_127 (h : nv_Hp) (x2 : Int32)  : Nat → Bool → Int32 → Option (Bool)
  | 0, _, _ => none
  | n + 1, x5, x6 => (if x6 = (-1) then some x5 else (if x5 = true then (if nv_inb x6 13 = true then (Option.bind (pm_has h x6 x2) fun q4 => (nv_lt ((h 87 x6.toNatClampNeg)) fun v5 => ((pm_reachesNow_127 h x2 n) q4 v5))) else none) else some x5))
set_option maxHeartbeats 2000000 in
theorem tm_reachesNow_127 (G : nv_G) (h : nv_Hp) (x2 : Int32) (hx2 : nv_inb x2 10 = true)  : ∀ (n : Nat) (x5 : Bool) (x6 : Int32) (o1 o3 o4 : Option Value) (r : Bool), pm_reachesNow_127 h x2 n x5 x6 = some r → nv_E G 2 qX7_reachesNow 127 [some (.ref 73), o1, some (.int x2), o3, o4, some (.int (nv_bi x5)), some (.int x6)] [] (nv_s h) (some (.int (nv_bi r)), nv_s h) := by
  intro n
  induction n with
  | zero =>
    intro x5 x6 o1 o3 o4 r hf
    rw [pm_reachesNow_127] at hf
    cases hf
  | succ n ih =>
    intro x5 x6 o1 o3 o4 r hf
    rw [pm_reachesNow_127] at hf
    refine nv_iL dX7_reachesNow_127 rfl ?_
    refine nv_k dX7_reachesNow_129 ?_
    refine nv_iceq dX7_reachesNow_130 (fun c1 => ?_) (fun c1 => ?_)
    · replace hf := nv_ip c1 hf
      refine nv_iL dX7_reachesNow_159 rfl ?_
      obtain rfl := Option.some.inj hf
      exact nv_ireturnB (b := x5) dX7_reachesNow_161 rfl
    · replace hf := nv_in c1 hf
      refine nv_iL dX7_reachesNow_133 rfl ?_
      refine nv_ifeqB dX7_reachesNow_135 (fun c2 => ?_) (fun c2 => ?_)
      · replace hf := nv_ip c2 hf
        refine nv_aL dX7_reachesNow_138 rfl ?_
        refine nv_iL dX7_reachesNow_139 rfl ?_
        refine nv_iL dX7_reachesNow_141 rfl ?_
        obtain ⟨g3, hf⟩ := nv_gd hf
        obtain ⟨q4, hq4, hf⟩ := nv_bd hf
        refine nv_cVi (tm_has G h x6 g3 x2 hx2 hq4) dX7_reachesNow_142 lm_X7_253 y_qX7_has ko_73 rfl rfl (by decide) rfl (Nat.le_of_ble_eq_true rfl) ?_
        refine nv_wk 4 rfl ?_
        refine nv_iS dX7_reachesNow_145 (by decide) rfl rfl ?_
        refine nv_aL dX7_reachesNow_147 rfl ?_
        refine nv_tR lf_X7_49 dX7_reachesNow_148 ko_73 rfl ?_
        refine nv_iL dX7_reachesNow_151 rfl ?_
        refine nv_aI dX7_reachesNow_153 ka_87 g3 rfl ?_
        obtain ⟨v5, ev5, hf⟩ := nv_ltX hf
        rw [ev5]
        clear ev5
        refine nv_iS dX7_reachesNow_154 (by decide) rfl rfl ?_
        refine nv_goto dX7_reachesNow_156 ?_
        exact ih _ _ _ _ _ _ hf
      · replace hf := nv_in c2 hf
        refine nv_iL dX7_reachesNow_159 rfl ?_
        obtain rfl := Option.some.inj hf
        exact nv_ireturnB (b := x5) dX7_reachesNow_161 rfl
def pm_reachesNow_50 (h : nv_Hp) (x1 : Int32) (x2 : Int32) (x3 : Bool) (s0 : Bool)  : Option (Bool) := (pm_reachesNow_127 h x2 nv_fu (if (h 81 x1.toNatClampNeg) = (h 94 x2.toNatClampNeg) then (if s0 = true then (if (h 108 8) < (h 88 x1.toNatClampNeg) then false else (if x3 = true then (if (h 108 1) = 1 then (if (h 96 x2.toNatClampNeg) = (h 82 x1.toNatClampNeg) then true else false) else false) else true)) else false) else false) x1)
set_option maxHeartbeats 2000000 in
theorem tm_reachesNow_50 (G : nv_G) (h : nv_Hp) (x1 : Int32) (hx1 : nv_inb x1 13 = true) (x2 : Int32) (hx2 : nv_inb x2 10 = true) (x3 : Bool) (s0 : Bool)  (o4 o5 o6 : Option Value) (r : Bool) (hf : pm_reachesNow_50 h x1 x2 x3 s0 = some r) : nv_E G 2 qX7_reachesNow 50 [some (.ref 73), some (.int x1), some (.int x2), some (.int (nv_bi x3)), o4, o5, o6] [.int (nv_bi s0)] (nv_s h) (some (.int (nv_bi r)), nv_s h) := by
  unfold pm_reachesNow_50 at hf
  refine nv_iS dX7_reachesNow_50 (by decide) rfl rfl ?_
  refine nv_aL dX7_reachesNow_52 rfl ?_
  refine nv_tR lf_X7_31 dX7_reachesNow_53 ko_73 rfl ?_
  refine nv_iL dX7_reachesNow_56 rfl ?_
  refine nv_aI dX7_reachesNow_57 ka_81 hx1 rfl ?_
  refine nv_aL dX7_reachesNow_58 rfl ?_
  refine nv_tR lf_X7_70 dX7_reachesNow_59 ko_73 rfl ?_
  refine nv_iL dX7_reachesNow_62 rfl ?_
  refine nv_aI dX7_reachesNow_63 ka_94 hx2 rfl ?_
  refine nv_icne dX7_reachesNow_64 (fun c1 => ?_) (fun c1 => ?_)
  · try simp only [if_pos c1] at hf
    refine nv_iL dX7_reachesNow_67 rfl ?_
    refine nv_ifeqB dX7_reachesNow_69 (fun c2 => ?_) (fun c2 => ?_)
    · try simp only [if_pos c2] at hf
      refine nv_aL dX7_reachesNow_72 rfl ?_
      refine nv_tR lf_X7_52 dX7_reachesNow_73 ko_73 rfl ?_
      refine nv_iL dX7_reachesNow_76 rfl ?_
      refine nv_aI dX7_reachesNow_77 ka_88 hx1 rfl ?_
      refine nv_aL dX7_reachesNow_78 rfl ?_
      refine nv_tR lf_X7_112 dX7_reachesNow_79 ko_73 rfl ?_
      refine nv_k dX7_reachesNow_82 ?_
      refine nv_aI dX7_reachesNow_84 ka_108 (by decide) (j := 8) (by decide) ?_
      refine nv_icgt dX7_reachesNow_85 (fun c3 => ?_) (fun c3 => ?_)
      · try simp only [if_pos c3] at hf
        refine nv_k dX7_reachesNow_121 ?_
        refine nv_iS dX7_reachesNow_122 (by decide) rfl rfl ?_
        refine nv_iL dX7_reachesNow_124 rfl ?_
        refine nv_iS dX7_reachesNow_125 (by decide) rfl rfl ?_
        exact tm_reachesNow_127 G _ _ hx2 _ _ _ _ _ _ _ hf
      · try simp only [if_neg c3] at hf
        refine nv_iL dX7_reachesNow_88 rfl ?_
        refine nv_ifeqB dX7_reachesNow_89 (fun c4 => ?_) (fun c4 => ?_)
        · try simp only [if_pos c4] at hf
          refine nv_aL dX7_reachesNow_92 rfl ?_
          refine nv_tR lf_X7_112 dX7_reachesNow_93 ko_73 rfl ?_
          refine nv_k dX7_reachesNow_96 ?_
          refine nv_aI dX7_reachesNow_97 ka_108 (by decide) (j := 1) (by decide) ?_
          refine nv_k dX7_reachesNow_98 ?_
          refine nv_icne dX7_reachesNow_99 (fun c5 => ?_) (fun c5 => ?_)
          · try simp only [if_pos c5] at hf
            refine nv_aL dX7_reachesNow_102 rfl ?_
            refine nv_tR lf_X7_76 dX7_reachesNow_103 ko_73 rfl ?_
            refine nv_iL dX7_reachesNow_106 rfl ?_
            refine nv_aI dX7_reachesNow_107 ka_96 hx2 rfl ?_
            refine nv_aL dX7_reachesNow_108 rfl ?_
            refine nv_tR lf_X7_34 dX7_reachesNow_109 ko_73 rfl ?_
            refine nv_iL dX7_reachesNow_112 rfl ?_
            refine nv_aI dX7_reachesNow_113 ka_82 hx1 rfl ?_
            refine nv_icne dX7_reachesNow_114 (fun c6 => ?_) (fun c6 => ?_)
            · try simp only [if_pos c6] at hf
              refine nv_k dX7_reachesNow_117 ?_
              refine nv_goto dX7_reachesNow_118 ?_
              refine nv_iS dX7_reachesNow_122 (by decide) rfl rfl ?_
              refine nv_iL dX7_reachesNow_124 rfl ?_
              refine nv_iS dX7_reachesNow_125 (by decide) rfl rfl ?_
              exact tm_reachesNow_127 G _ _ hx2 _ _ _ _ _ _ _ hf
            · try simp only [if_neg c6] at hf
              refine nv_k dX7_reachesNow_121 ?_
              refine nv_iS dX7_reachesNow_122 (by decide) rfl rfl ?_
              refine nv_iL dX7_reachesNow_124 rfl ?_
              refine nv_iS dX7_reachesNow_125 (by decide) rfl rfl ?_
              exact tm_reachesNow_127 G _ _ hx2 _ _ _ _ _ _ _ hf
          · try simp only [if_neg c5] at hf
            refine nv_k dX7_reachesNow_121 ?_
            refine nv_iS dX7_reachesNow_122 (by decide) rfl rfl ?_
            refine nv_iL dX7_reachesNow_124 rfl ?_
            refine nv_iS dX7_reachesNow_125 (by decide) rfl rfl ?_
            exact tm_reachesNow_127 G _ _ hx2 _ _ _ _ _ _ _ hf
        · try simp only [if_neg c4] at hf
          refine nv_k dX7_reachesNow_117 ?_
          refine nv_goto dX7_reachesNow_118 ?_
          refine nv_iS dX7_reachesNow_122 (by decide) rfl rfl ?_
          refine nv_iL dX7_reachesNow_124 rfl ?_
          refine nv_iS dX7_reachesNow_125 (by decide) rfl rfl ?_
          exact tm_reachesNow_127 G _ _ hx2 _ _ _ _ _ _ _ hf
    · try simp only [if_neg c2] at hf
      refine nv_k dX7_reachesNow_121 ?_
      refine nv_iS dX7_reachesNow_122 (by decide) rfl rfl ?_
      refine nv_iL dX7_reachesNow_124 rfl ?_
      refine nv_iS dX7_reachesNow_125 (by decide) rfl rfl ?_
      exact tm_reachesNow_127 G _ _ hx2 _ _ _ _ _ _ _ hf
  · try simp only [if_neg c1] at hf
    refine nv_k dX7_reachesNow_121 ?_
    refine nv_iS dX7_reachesNow_122 (by decide) rfl rfl ?_
    refine nv_iL dX7_reachesNow_124 rfl ?_
    refine nv_iS dX7_reachesNow_125 (by decide) rfl rfl ?_
    exact tm_reachesNow_127 G _ _ hx2 _ _ _ _ _ _ _ hf
def pm_reachesNow_15 (h : nv_Hp) (x1 : Int32) (x2 : Int32) (s0 : Bool)  : Option (Bool) := (pm_reachesNow_50 h x1 x2 s0 (if (h 95 x2.toNatClampNeg) = (h 80 x1.toNatClampNeg) then true else (if (h 95 x2.toNatClampNeg) = (-1) then (if s0 = true then false else true) else false)))
set_option maxHeartbeats 2000000 in
theorem tm_reachesNow_15 (G : nv_G) (h : nv_Hp) (x1 : Int32) (hx1 : nv_inb x1 13 = true) (x2 : Int32) (hx2 : nv_inb x2 10 = true) (s0 : Bool)  (o3 o4 o5 o6 : Option Value) (r : Bool) (hf : pm_reachesNow_15 h x1 x2 s0 = some r) : nv_E G 2 qX7_reachesNow 15 [some (.ref 73), some (.int x1), some (.int x2), o3, o4, o5, o6] [.int (nv_bi s0)] (nv_s h) (some (.int (nv_bi r)), nv_s h) := by
  unfold pm_reachesNow_15 at hf
  refine nv_iS dX7_reachesNow_15 (by decide) rfl rfl ?_
  refine nv_aL dX7_reachesNow_16 rfl ?_
  refine nv_tR lf_X7_73 dX7_reachesNow_17 ko_73 rfl ?_
  refine nv_iL dX7_reachesNow_20 rfl ?_
  refine nv_aI dX7_reachesNow_21 ka_95 hx2 rfl ?_
  refine nv_aL dX7_reachesNow_22 rfl ?_
  refine nv_tR lf_X7_28 dX7_reachesNow_23 ko_73 rfl ?_
  refine nv_iL dX7_reachesNow_26 rfl ?_
  refine nv_aI dX7_reachesNow_27 ka_80 hx1 rfl ?_
  refine nv_iceq dX7_reachesNow_28 (fun c1 => ?_) (fun c1 => ?_)
  · try simp only [if_pos c1] at hf
    refine nv_k dX7_reachesNow_45 ?_
    refine nv_goto dX7_reachesNow_46 ?_
    exact tm_reachesNow_50 G _ _ hx1 _ hx2 _ _ _ _ _ _ hf
  · try simp only [if_neg c1] at hf
    refine nv_aL dX7_reachesNow_31 rfl ?_
    refine nv_tR lf_X7_73 dX7_reachesNow_32 ko_73 rfl ?_
    refine nv_iL dX7_reachesNow_35 rfl ?_
    refine nv_aI dX7_reachesNow_36 ka_95 hx2 rfl ?_
    refine nv_k dX7_reachesNow_37 ?_
    refine nv_icne dX7_reachesNow_38 (fun c2 => ?_) (fun c2 => ?_)
    · try simp only [if_pos c2] at hf
      refine nv_iL dX7_reachesNow_41 rfl ?_
      refine nv_ifneB dX7_reachesNow_42 (fun c3 => ?_) (fun c3 => ?_)
      · try simp only [if_pos c3] at hf
        refine nv_k dX7_reachesNow_49 ?_
        exact tm_reachesNow_50 G _ _ hx1 _ hx2 _ _ _ _ _ _ hf
      · try simp only [if_neg c3] at hf
        refine nv_k dX7_reachesNow_45 ?_
        refine nv_goto dX7_reachesNow_46 ?_
        exact tm_reachesNow_50 G _ _ hx1 _ hx2 _ _ _ _ _ _ hf
    · try simp only [if_neg c2] at hf
      refine nv_k dX7_reachesNow_49 ?_
      exact tm_reachesNow_50 G _ _ hx1 _ hx2 _ _ _ _ _ _ hf
def pm_reachesNow (h : nv_Hp) (x1 : Int32) (x2 : Int32) : Option (Bool) := (pm_reachesNow_15 h x1 x2 (if (h 79 x1.toNatClampNeg) = 2 then true else false))
set_option maxHeartbeats 2000000 in
theorem tm_reachesNow (G : nv_G) (h : nv_Hp) (x1 : Int32) (hx1 : nv_inb x1 13 = true) (x2 : Int32) (hx2 : nv_inb x2 10 = true) {r : Bool} (hf : (pm_reachesNow h x1 x2) = some r) : nv_Mt G 2 qX7_reachesNow [.ref 73, .int x1, .int x2] (nv_s h) (some (.int (nv_bi r)), nv_s h) := by
  refine nv_of (by decide +kernel) (fun ad => Nat.le_of_ble_eq_true rfl) (Nat.le_refl _) (Nat.le_of_ble_eq_true rfl) ?_
  show nv_E G 2 qX7_reachesNow 0 [some (.ref 73), some (.int x1), some (.int x2), none, none, none, none] [] (nv_s h) (some (.int (nv_bi r)), nv_s h)
  unfold pm_reachesNow at hf
  refine nv_aL dX7_reachesNow_0 rfl ?_
  refine nv_tR lf_X7_25 dX7_reachesNow_1 ko_73 rfl ?_
  refine nv_iL dX7_reachesNow_4 rfl ?_
  refine nv_aI dX7_reachesNow_5 ka_79 hx1 rfl ?_
  refine nv_k dX7_reachesNow_6 ?_
  refine nv_icne dX7_reachesNow_7 (fun c1 => ?_) (fun c1 => ?_)
  · try simp only [if_pos c1] at hf
    refine nv_k dX7_reachesNow_10 ?_
    refine nv_goto dX7_reachesNow_11 ?_
    exact tm_reachesNow_15 G _ _ hx1 _ hx2 _ _ _ _ _ _ hf
  · try simp only [if_neg c1] at hf
    refine nv_k dX7_reachesNow_14 ?_
    exact tm_reachesNow_15 G _ _ hx1 _ hx2 _ _ _ _ _ _ hf
